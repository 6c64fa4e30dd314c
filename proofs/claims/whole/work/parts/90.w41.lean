/-! PURE PART, 41: the table's order is the first of the best -/
section ORV
variable {σ M : zMem} {k x : Int}
theorem zpm_bit (h : St σ) {g s : Int → Int} (ho : zOrd σ g s) {b : Int} (hb : zpd σ b) : ∀ {p : Nat}, (p : Int) ≤ σ 40 1 → (zpm σ g p).testBit (zct σ b).toNat = decide (s b < p)
  | 0, _ => by
    have := (ho.2 b hb).1
    show (0 : Nat).testBit _ = _
    rw [Nat.zero_testBit, decide_eq_false (by omega)]
  | p + 1, hp => by
    have gp := ho.1 p (by omega) (by omega)
    have sb := ho.2 b hb
    show (zpm σ g p ||| 2 ^ (zct σ (g p)).toNat).testBit _ = _
    rw [Nat.testBit_or, zpm_bit h ho hb (p := p) (by omega), Nat.testBit_two_pow]
    by_cases c : g p = b
    · rw [c] at gp
      rw [c, decide_eq_true (rfl : (zct σ b).toNat = (zct σ b).toNat), decide_eq_true (show s b < ((p + 1 : Nat) : Int) by omega)]
      simp
    · have n1 := zct_0 (σ := σ) (a := g p)
      have n2 := zct_0 (σ := σ) (a := b)
      rw [decide_eq_false (fun e : (zct σ (g p)).toNat = (zct σ b).toNat => c (zct_inj h gp.1 hb (by omega)))]
      have ne : s b ≠ p := fun e => c (by rw [← e]; exact sb.2.2)
      by_cases d : s b < p
      · rw [decide_eq_true d, decide_eq_true (show s b < ((p + 1 : Nat) : Int) by omega)]; rfl
      · rw [decide_eq_false d, decide_eq_false (show ¬ s b < ((p + 1 : Nat) : Int) by omega)]; rfl
theorem zcnt {a b : Int} (ha : 0 ≤ a) (hb : 0 ≤ b) : ∀ n : Nat, zsum (fun p => if decide (a < p) = decide (b < p) then 0 else 1) n = zabs (min (a + 1) n - min (b + 1) n)
  | 0 => by
    show 0 = _
    unfold zabs; split <;> omega
  | n + 1 => by
    show zsum (fun p => if decide (a < p) = decide (b < p) then 0 else 1) n + (if decide (a < (n : Int)) = decide (b < (n : Int)) then 0 else 1) = _
    rw [zcnt ha hb n]
    by_cases c1 : a < n <;> by_cases c2 : b < n <;> simp only [c1, c2, decide_true, decide_false] <;> unfold zabs <;> simp <;> (repeat' split) <;> omega
theorem zcO_pm (h : St σ) {g s : Int → Int} (ho : zOrd σ g s) {N : Nat} (hn : (N : Int) = σ 40 1) : zcst σ s = zsum (fun p => zpa σ (zpm σ g p.toNat)) N := by
  have hnn := r_nn h
  have e1 : zcst σ s = zsum (fun n => zsum (fun p => if decide (s (σ 82 (n + 1)) < p) = decide (s (σ 82 n) < p) then 0 else 1) N) ((σ 80 0).toNat - 1) := zsum_eq fun q hq => by
    have n1 := ho.2 _ (r_nb h (k := (q : Int) + 1) (by omega) (by omega))
    have n2 := ho.2 _ (r_nb h (k := q) (by omega) (by omega))
    rw [zcnt n1.1 n2.1 N]
    show zabs _ = zabs _
    congr 1
    omega
  rw [e1, zsum_swap]
  refine zsum_eq fun p hp => zsum_eq fun q hq => ?_
  have n1 := r_nb h (k := (q : Int) + 1) (by omega) (by omega)
  have n2 := r_nb h (k := q) (by omega) (by omega)
  rw [show ((p : Int)).toNat = p by omega, zpm_bit h ho n1 (by omega), zpm_bit h ho n2 (by omega)]
theorem zpm_b (h : St σ) {g s : Int → Int} (ho : zOrd σ g s) {N : Nat} (hn : (N : Int) = σ 40 1) : ∀ {p : Nat}, p ≤ N → zpm σ g p < 2 ^ N
  | 0, _ => Nat.two_pow_pos N
  | p + 1, hp => by
    have gp := ho.1 p (by omega) (by omega)
    have := zct_lt h gp.1
    exact zor_b (zpm_b h ho hn (p := p) (by omega)) (by omega)
theorem zpm_nf (h : St σ) {g s : Int → Int} (ho : zOrd σ g s) {N : Nat} (hn : (N : Int) = σ 40 1) {p : Nat} (hp : p < N) : zpm σ g p < 2 ^ N - 1 ∧ (zpm σ g p).testBit (zct σ (g p)).toNat = false ∧ (zct σ (g p)).toNat < N := by
  have gp := ho.1 p (by omega) (by omega)
  have lt := zct_lt h gp.1
  have b := zpm_b h ho hn (p := p) (by omega)
  have t := zpm_bit h ho gp.1 (p := p) (by omega)
  rw [gp.2, decide_eq_false (by omega)] at t
  refine ⟨?_, t, by omega⟩
  have ne : zpm σ g p ≠ 2 ^ N - 1 := fun e => by
    rw [e, Nat.testBit_two_pow_sub_one, decide_eq_true (by omega)] at t
    cases t
  omega
theorem zpm_full (h : St σ) {g s : Int → Int} (ho : zOrd σ g s) {N : Nat} (hn : (N : Int) = σ 40 1) (hs : ∀ i : Nat, i < N → ∃ b : Int, zpd σ b ∧ zct σ b = i) : zpm σ g N = 2 ^ N - 1 := by
  have b := zpm_b h ho hn (p := N) (Nat.le_refl _)
  by_cases c : zpm σ g N = 2 ^ N - 1
  · exact c
  · exfalso
    obtain ⟨i, i1, i2⟩ := zuns (N := N) (S := zpm σ g N) (by omega)
    obtain ⟨a, a1, a2⟩ := hs i i1
    have t := zpm_bit h ho a1 (p := N) (by omega)
    have := (ho.2 a a1).2.1
    rw [a2, show ((i : Int)).toNat = i by omega, i2, decide_eq_true (by omega)] at t
    cases t
def zLo (σ : zMem) (T g : Int → Int) (p : Nat) : Int := zsum (fun q => zpa σ (zpm σ g q.toNat)) p + T (zpm σ g p : Nat)
theorem zLo_s (T g : Int → Int) (p : Nat) : zLo σ T g (p + 1) = zsum (fun q => zpa σ (zpm σ g q.toNat)) p + zpa σ (zpm σ g p) + T ((zpm σ g p ||| 2 ^ (zct σ (g p)).toNat : Nat) : Int) := by
  show zsum (fun q => zpa σ (zpm σ g q.toNat)) p + zpa σ (zpm σ g ((p : Int)).toNat) + _ = _
  rw [show ((p : Int)).toNat = p by omega]; rfl
theorem zLo_m (h : St σ) {g s T : Int → Int} (ho : zOrd σ g s) {N : Nat} (hn : (N : Int) = σ 40 1) (hT : zTy σ N T 0) {p : Nat} (hp : p < N) : zLo σ T g p ≤ zLo σ T g (p + 1) := by
  have nf := zpm_nf h ho hn hp
  obtain ⟨j, j1, j2⟩ := hT.2.1 _ (Nat.zero_le _) nf.1
  have := j1.2.2.1 _ nf.2.2 nf.2.1
  rw [zLo_s]
  unfold zLo
  omega
theorem zLo_mm (h : St σ) {g s T : Int → Int} (ho : zOrd σ g s) {N : Nat} (hn : (N : Int) = σ 40 1) (hT : zTy σ N T 0) {p : Nat} : ∀ d : Nat, p + d ≤ N → zLo σ T g p ≤ zLo σ T g (p + d)
  | 0, _ => Int.le_refl _
  | d + 1, hd => Int.le_trans (zLo_mm h ho hn hT d (by omega)) (zLo_m h ho hn hT (p := p + d) (by omega))
theorem zLo_N (h : St σ) {g s T : Int → Int} (ho : zOrd σ g s) {N : Nat} (hn : (N : Int) = σ 40 1) (hT : zTy σ N T 0) (hs : ∀ i : Nat, i < N → ∃ b : Int, zpd σ b ∧ zct σ b = i) : zLo σ T g N = zcst σ s := by
  unfold zLo
  rw [zpm_full h ho hn hs, hT.1, zcO_pm h ho hn]; omega
theorem zLo_0 (T g : Int → Int) : zLo σ T g 0 = T 0 := by
  show 0 + T ((0 : Nat) : Int) = _
  rw [Int.zero_add]; rfl
theorem zpm_set {g : Int → Int} {q : Nat} : ∀ {p : Nat}, q < p → (zpm σ g p).testBit (zct σ (g q)).toNat = true
  | 0, h => by omega
  | p + 1, h => by
    show (zpm σ g p ||| 2 ^ (zct σ (g p)).toNat).testBit _ = _
    rw [Nat.testBit_or]
    by_cases c : q = p
    · subst c; rw [Nat.testBit_two_pow_self]; simp
    · rw [zpm_set (p := p) (by omega)]; rfl
theorem zpm_get {g : Int → Int} {i : Nat} : ∀ {p : Nat}, (zpm σ g p).testBit i = true → ∃ q : Nat, q < p ∧ (zct σ (g q)).toNat = i
  | 0, h => by
    have h : (0 : Nat).testBit i = true := h
    rw [Nat.zero_testBit] at h; cases h
  | p + 1, h => by
    have h : (zpm σ g p ||| 2 ^ (zct σ (g p)).toNat).testBit i = true := h
    rw [Nat.testBit_or, Nat.testBit_two_pow] at h
    by_cases c : (zct σ (g p)).toNat = i
    · exact ⟨p, by omega, c⟩
    · rw [decide_eq_false c, Bool.or_false] at h
      obtain ⟨q, q1, q2⟩ := zpm_get (p := p) h
      exact ⟨q, by omega, q2⟩
theorem zFl_o (h : St σ) {T f : Int → Int} {N : Nat} (hn : (N : Int) = σ 40 1) (hF : zFl σ N T f N) : zOrd σ f (zps σ f) := by
  obtain ⟨h1, h2, h3⟩ := hF
  have hN : (σ 40 1).toNat = N := by omega
  have inj : ∀ p q : Nat, p < q → q < N → f p ≠ f q := fun p q a b e => by
    have t := (h3 q b).2.2.1
    rw [← e, zpm_set (σ := σ) (g := f) a] at t
    cases t
  have val : ∀ p : Nat, p < N → zps σ f (f p) = p := fun p hp => by
    unfold zps
    rw [hN]
    have ge := zprv_e (g := f) (b := f p) (n := N) hp rfl
    have gi := zprv_i ge
    generalize hz : zprv f (f p) N = z at ge gi
    have ez : ((z.toNat : Nat) : Int) = z := by omega
    by_cases c1 : z.toNat < p
    · exact absurd (by rw [ez]; exact gi.1) (inj _ _ c1 hp)
    · by_cases c2 : p < z.toNat
      · exact absurd (by rw [ez]; exact gi.1.symm) (inj _ _ c2 (by omega))
      · omega
  refine ⟨fun p p0 p1 => ?_, fun b hb => ?_⟩
  · have e : ((p.toNat : Nat) : Int) = p := by omega
    have a := (h3 p.toNat (by omega)).1
    have v := val p.toNat (by omega)
    rw [e] at a v
    exact ⟨a, v⟩
  · have lt := zct_lt h hb
    have n0 := zct_0 (σ := σ) (a := b)
    have set : (zpm σ f N).testBit (zct σ b).toNat = true := by
      cases ht : (zpm σ f N).testBit (zct σ b).toNat with
      | true => rfl
      | false =>
        have u := zbsu_up (N := N) (by omega) ht
        have : zbsu (zpm σ f N ||| 2 ^ (zct σ b).toNat) N ≤ 1 * (N : Int) := zsum_le fun q _ => by split <;> omega
        omega
    obtain ⟨q, q1, q2⟩ := zpm_get set
    have m0 := zct_0 (σ := σ) (a := f q)
    have e : f q = b := zct_inj h (h3 q q1).1 hb (by omega)
    have v := val q q1
    rw [e] at v
    rw [v]
    exact ⟨by omega, by omega, e⟩
theorem zfd {f g : Int → Int} : ∀ n : Nat, (∀ k : Nat, k < n → f k = g k) ∨ ∃ k : Nat, k < n ∧ (∀ j : Nat, j < k → f j = g j) ∧ f k ≠ g k
  | 0 => Or.inl fun k hk => by omega
  | n + 1 => by
    rcases zfd (f := f) (g := g) n with e | ⟨k, a, b, c⟩
    · by_cases d : f n = g n
      · left
        intro k hk
        by_cases q : k = n
        · subst q; exact d
        · exact e k (by omega)
      · exact Or.inr ⟨n, by omega, e, d⟩
    · exact Or.inr ⟨k, by omega, b, c⟩
theorem zFl_OP (h : St σ) {T f : Int → Int} {N : Nat} (hn : (N : Int) = σ 40 1) (hT : zTy σ N T 0) (hs : ∀ i : Nat, i < N → ∃ b : Int, zpd σ b ∧ zct σ b = i) (hF : zFl σ N T f N) : zOP σ (T 0) f := by
  have hN : (σ 40 1).toNat = N := by omega
  have ho := zFl_o h hn hF
  have eq : ∀ p : Nat, p ≤ N → zLo σ T f p = T 0 := by
    intro p
    induction p with
    | zero => intro _; exact zLo_0 T f
    | succ p ih =>
      intro hp
      have i1 := ih (by omega)
      have nf := zpm_nf h ho hn (p := p) (by omega)
      obtain ⟨j, j1, j2⟩ := hT.2.1 _ (Nat.zero_le _) nf.1
      have a1 := j1.2.2.1 _ nf.2.2 nf.2.1
      have fx := (hF.2.2 p (by omega)).2
      have a2 := fx.2.2.1 j j1.1 j1.2.1
      rw [zLo_s]
      unfold zLo at i1
      omega
  refine ⟨zps σ f, ho, by rw [← zLo_N h ho hn hT hs, eq N (Nat.le_refl _)], fun g t hg => ?_⟩
  have e0 := zLo_0 (σ := σ) T g
  have eN := zLo_N h hg hn hT hs
  have le := zLo_mm h hg hn hT (p := 0) N (by omega)
  rw [Nat.zero_add] at le
  by_cases c : T 0 = zcst σ t
  · right
    refine ⟨c, ?_⟩
    rw [hN]
    rcases zfd (f := f) (g := g) N with e | ⟨k, k1, k2, k3⟩
    · exact Or.inl e
    · refine Or.inr ⟨k, k1, k2, ?_⟩
      have pm : zpm σ f k = zpm σ g k := zpm_p k2
      have l1 := zLo_mm h hg hn hT (p := 0) k (by omega)
      have l2 := zLo_m h hg hn hT (p := k) k1
      have l3 := zLo_mm h hg hn hT (p := k + 1) (N - (k + 1)) (by omega)
      rw [Nat.zero_add] at l1
      rw [show k + 1 + (N - (k + 1)) = N by omega] at l3
      have s1 := zLo_s (σ := σ) T g k
      have fx := hF.2.2 k k1
      rw [pm] at fx
      have nf := zpm_nf h hg hn (p := k) k1
      obtain ⟨j, j1, j2⟩ := hT.2.1 _ (Nat.zero_le _) nf.1
      have a2 := fx.2.2.2.1 j j1.1 j1.2.1
      have a3 := j1.2.2.1 _ fx.2.1 fx.2.2.1
      have gk := ho.1 k (by omega) (by omega)
      have gk' := hg.1 k (by omega) (by omega)
      by_cases c2 : f k < g k
      · exact c2
      · exfalso
        have := zct_l h gk'.1 (show g k < f k by omega)
        have n0 := zct_0 (σ := σ) (a := g k)
        have a4 := fx.2.2.2.2 (zct σ (g k)).toNat (by omega) nf.2.1
        unfold zLo at l1 l2 l3 s1 e0 eN
        omega
  · left; omega
end ORV
