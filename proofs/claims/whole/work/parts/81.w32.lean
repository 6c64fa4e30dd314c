/-! PURE PART, 32: lifts that are sure to come -/
section SUR
variable {σ M : zMem} {k x : Int} {t : Int → Int}
abbrev zfo (σ : zMem) (o n : Int) : Prop := σ 82 o = σ 82 n ∧ σ 83 o + σ 84 o = σ 83 n
/-- v is the first NOTE that n may follow, or there is none -/
def zFo (σ : zMem) (n : Nat) (v : Int) : Prop := (v = -1 ∧ ∀ o : Nat, o < n → ¬ zfo σ o n) ∨ ∃ b : Nat, v = b ∧ b < n ∧ zfo σ b n
theorem e_followed (h : St σ) (hA : zAx σ M) {n : Nat} (hn : (n : Int) < σ 80 0) : zSat (fX0_followed n M) (fun v => zFo σ n v) := by
  have hnn := r_nn h
  unfold fX0_followed
  have st : ∀ i : Nat, i < n → fX0_followed_l2 n i M = some (if zfo σ i n then .inr (.inr (i : Int)) else .inl ((i : Int) + 1)) := by
    intro i hi
    unfold fX0_followed_l2
    rw [if_neg (by omega), e_follows h hA (n := n) (k := i) (by omega) hn (by omega) (by omega), zbd_s, zw_i (by omega) (by omega)]
    by_cases c : zfo σ i n
    · rw [if_pos c, if_pos c]; rfl
    · rw [if_neg c, if_neg c]; rfl
  have t1 := zit_first (f := fun s5 : Int => fX0_followed_l2 n s5 M) (fun i => (i : Int)) (fun i => zfo σ i n) n (fun i hi hp => by
    show fX0_followed_l2 n i M = _
    rw [st i hi, if_neg hp]; rfl)
  rcases t1 with ⟨i, i1, i2, i3, i4⟩ | ⟨i1, i2⟩
  · rw [show zit (fun s5 : Int => fX0_followed_l2 n s5 M) 0 = some (.inr (i : Int)) from i4.trans (zit_r (f := fun s5 : Int => fX0_followed_l2 n s5 M) (s := (i : Int)) (by show fX0_followed_l2 n i M = _; rw [st i i1, if_pos i2]))]
    exact Or.inr ⟨i, rfl, i1, i2⟩
  · rw [show zit (fun s5 : Int => fX0_followed_l2 n s5 M) 0 = some (.inl (n : Int)) from i2.trans (zit_r (f := fun s5 : Int => fX0_followed_l2 n s5 M) (s := (n : Int)) (by show fX0_followed_l2 n n M = _; unfold fX0_followed_l2; rw [if_pos (Int.le_refl _)]))]
    exact Or.inl ⟨rfl, i1⟩
theorem zwo_q {f : Int} : ∀ j : Nat, (zwo σ t f j).2 = zprv t f j
  | 0 => rfl
  | j + 1 => by
    unfold zwo zprv
    by_cases c : t j = f
    · rw [if_pos c, if_pos c]
      split
      · rfl
      · split <;> rfl
    · rw [if_neg c, if_neg c]; exact zwo_q j
theorem zwo_k {f : Int} : ∀ (j k : Nat), zprv t f j = k → zwo σ t f j = zwo σ t f (k + 1) ∧ t k = f ∧ k < j
  | 0, k, h => by simp [zprv] at h
  | j + 1, k, h => by
    unfold zprv at h
    by_cases c : t j = f
    · rw [if_pos c] at h
      have : j = k := by omega
      subst this; exact ⟨rfl, c, by omega⟩
    · rw [if_neg c] at h
      have ih := zwo_k j k h
      refine ⟨?_, ih.2.1, by omega⟩
      rw [← ih.1]
      show (if t j = f then _ else zwo σ t f j) = _
      rw [if_neg c]
/-- worn, with the NOTE itself -/
def zact (σ : zMem) (t : Int → Int) (n : Int) : Int := zwor σ t n + σ 84 n
theorem zact_s (h : St σ) {n : Nat} (hn : (n : Int) < σ 80 0) (hs : zsty σ t n) : ∃ b : Nat, b < n ∧ zfo σ b n ∧ zact σ t n = zact σ t b + σ 84 n := by
  have hti := r_ti h
  obtain ⟨s1, s2, s3, s4⟩ := hs
  rw [show ((n : Int).toNat) = n by omega] at s2 s3 s4
  obtain ⟨b, hb⟩ : ∃ b : Nat, zprv t (t n) n = b := ⟨(zprv t (t n) n).toNat, by omega⟩
  rw [hb] at s3 s4
  obtain ⟨e1, e2, e3⟩ := zwo_k (σ := σ) n b hb
  refine ⟨b, e3, ⟨s3, s4⟩, ?_⟩
  unfold zact zwor
  rw [show ((n : Int).toNat) = n by omega, show ((b : Int).toNat) = b by omega, e2, ← e1]
  have e4 := zwo_q (σ := σ) (t := t) (f := t n) n
  rw [hb] at e4
  have : zwo σ t (t n) (n + 1) = ((zwo σ t (t n) n).1 + σ 84 b, (n : Int)) := by
    show (if t n = t n then _ else _) = _
    rw [if_pos rfl, e4, if_neg (by omega), if_pos (by omega)]
  rw [this]
/-- two at one PLACE that last together: never -/
theorem zval_no (h : St σ) {N : Nat} (hv : zvalid σ t N) {o p : Nat} (hop : o < p) (hp : p < N) (hm : zmee σ o p) (ha : zat σ o = zat σ p) : False := by
  have v0 := (hv o (by omega)).1
  have z := (zwro_0 (hv p hp).2.2).2.1 o hop
  unfold zcla at z
  rw [if_neg (by omega), if_neg (show ¬¬ zmee σ o p from fun q => q hm)] at z
  by_cases c1 : t o = t p
  · rw [if_pos c1] at z; omega
  rw [if_neg c1, if_pos (by omega)] at z
  omega
theorem zfo_u (h : St σ) {N : Nat} (hN : (N : Int) ≤ σ 80 0) (hv : zvalid σ t N) {o p n : Nat} (ho : o < N) (hp : p < N) (h1 : zfo σ o n) (h2 : zfo σ p n) : o = p := by
  have a : ∀ o p : Nat, o < p → p < N → zfo σ o n → zfo σ p n → False := fun o p hop hp h1 h2 => by
    have l1 := r_nl h (k := o) (by omega) (by omega)
    have l2 := r_nl h (k := p) (by omega) (by omega)
    exact zval_no h hv hop hp ⟨by have := h1.2; have := h2.2; omega, by have := h1.2; have := h2.2; omega⟩ (by unfold zat; rw [h1.1, h2.1])
  rcases Nat.lt_trichotomy o p with c | c | c
  · exact (a o p c hp h1 h2).elim
  · exact c
  · exact (a p o c ho h2 h1).elim
theorem zfo_v (h : St σ) {N : Nat} (hN : (N : Int) ≤ σ 80 0) (hv : zvalid σ t N) {o p b : Nat} (ho : o < N) (hp : p < N) (h1 : zfo σ b o) (h2 : zfo σ b p) : o = p := by
  have a : ∀ o p : Nat, o < p → p < N → zfo σ b o → zfo σ b p → False := fun o p hop hp h1 h2 => by
    have l1 := r_nl h (k := o) (by omega) (by omega)
    have l2 := r_nl h (k := p) (by omega) (by omega)
    exact zval_no h hv hop hp ⟨by have := h1.2; have := h2.2; omega, by have := h1.2; have := h2.2; omega⟩ (by unfold zat; rw [← h1.1, ← h2.1])
  rcases Nat.lt_trichotomy o p with c | c | c
  · exact (a o p c hp h1 h2).elim
  · exact c
  · exact (a p o c ho h2 h1).elim
/-- lifts of the NOTES from f on -/
def zla1 (σ : zMem) (t : Int → Int) (f : Int) (n : Int) : Int := if n < f then 0 else if zsty σ t n then 0 else 1
theorem zla1_s (f : Nat) : ∀ m : Nat, f ≤ m → zsum (zla1 σ t f) m = zlfs σ t m - zlfs σ t f := by
  intro m hm
  induction hm with
  | refl =>
    have : zsum (zla1 σ t f) f = zsum (fun _ => 0) f := zsum_eq fun q hq => by unfold zla1; rw [if_pos (by omega)]
    rw [this]
    have z : ∀ m : Nat, zsum (fun _ => (0 : Int)) m = 0 := by
      intro m
      induction m with
      | zero => rfl
      | succ m ih => show zsum (fun _ => 0) m + 0 = 0; rw [ih]; rfl
    rw [z]; omega
  | step hm ih =>
    rename_i m
    have hm' : f ≤ m := hm
    show zsum (zla1 σ t f) m + zla1 σ t f m = zlfs σ t m + (if zsty σ t m then 0 else 1) - zlfs σ t f
    rw [ih]; unfold zla1; rw [if_neg (by omega)]; omega
/-- what is owed: the fingering has lifted more, or its fingers are not less worn -/
def zOwe (σ : zMem) (V : zMem) (f j : Nat) (sum : Int) : Prop := ∀ t : Int → Int, zvalid σ t (σ 80 0).toNat → ∃ K : Int → Int, zsum (zla1 σ t f) j - sum = zsum K j ∧ ∀ n : Nat, n < j → 0 ≤ K n ∧ ((∀ m : Nat, f ≤ m → m < j → ¬ zfo σ n m) → K n = 0 → V 137 n ≤ zact σ t n)
theorem zact_d (h : St σ) {n : Nat} (hn : (n : Int) < σ 80 0) (hv : zvalid σ t (σ 80 0).toNat) : σ 84 n ≤ zact σ t n ∧ zact σ t n ≤ σ 59 4 := by
  have v := zwro_0 (hv n (by omega)).2.2
  have w := zwor_r (fg := t) h (n := (n : Int)) (by omega) hn
  refine ⟨by unfold zact; omega, ?_⟩
  by_cases c : zact σ t n ≤ σ 59 4
  · exact c
  · unfold zact at c
    exact absurd ⟨v.1, by omega⟩ v.2.2
set_option maxRecDepth 20000 in
theorem e_sureFrom (h : St σ) (hA : zAx σ M) (h8 : σ 80 0 ≤ 8) {f : Nat} (hf : (f : Int) ≤ σ 80 0) : zSat (fX0_sureFrom f M) (fun e => (∀ c : Nat, c ≠ 137 → e.2 c = M c) ∧ (0 ≤ e.1 ∧ e.1 ≤ 8) ∧ ∀ t : Int → Int, zvalid σ t (σ 80 0).toNat → e.1 ≤ zlfs σ t (σ 80 0).toNat - zlfs σ t f) := by
  have hnn := r_nn h
  have hti := r_ti h
  unfold fX0_sureFrom
  rw [zS_bd]
  refine zit_i3 (fun a y V => fX0_sureFrom_l4 f a y V) (fun m a y V => ∃ j : Nat, y = (j : Int) ∧ (j : Int) ≤ σ 80 0 ∧ m = (σ 80 0 - j).toNat ∧ (0 ≤ a ∧ a ≤ j) ∧ (∀ c : Nat, c ≠ 137 → V c = M c) ∧ (∀ n : Nat, n < j → 0 ≤ V 137 n ∧ V 137 n ≤ 99) ∧ zOwe σ V f j a) ?_ _ ⟨0, rfl, by omega, rfl, by omega, fun _ _ => rfl, fun n hn => by omega, fun t _ => ⟨fun _ => 0, rfl, fun n hn => by omega⟩⟩
  rintro m a y V ⟨j, rfl, j1, hm, ha, g1, g2, ow⟩
  have hAV : zAx σ V := fun c q hc hs => by
    by_cases e : c = 137
    · subst e; cases hs
    · rw [g1 c e]; exact hA c q hc hs
  show zSat (fX0_sureFrom_l4 f a j V) _
  unfold fX0_sureFrom_l4
  rw [hAV.fl 80 rfl (by decide)]
  by_cases c : σ 80 0 ≤ j
  · rw [if_pos c]
    have ej : (σ 80 0).toNat = j := by omega
    refine ⟨g1, by show 0 ≤ a ∧ a ≤ 8; omega, fun t hv => ?_⟩
    obtain ⟨K, k1, k2⟩ := ow t hv
    have k3 : 0 ≤ zsum K j := zsum_0 fun q hq => (k2 q hq).1
    have k4 := zla1_s (σ := σ) (t := t) f j (by omega)
    show a ≤ _
    rw [ej]; omega
  · rw [if_neg c]
    have jn : (j : Int) < σ 80 0 := by omega
    have nl := r_nl h (k := j) (by omega) jn
    have up : ∀ (T A : Int), 0 ≤ T → T ≤ 99 → 0 ≤ A → A ≤ (j : Int) + 1 → zOwe σ (zup V 137 j T) f (j + 1) A → zel (.inl (A, (j : Int) + 1, zup V 137 j T) : (Int × Int × zMem) ⊕ (Int × Int × zMem)) (fun s' => ∃ m', m' < m ∧ ∃ j : Nat, s'.2.1 = (j : Int) ∧ (j : Int) ≤ σ 80 0 ∧ m' = (σ 80 0 - j).toNat ∧ (0 ≤ s'.1 ∧ s'.1 ≤ j) ∧ (∀ c : Nat, c ≠ 137 → s'.2.2 c = M c) ∧ (∀ n : Nat, n < j → 0 ≤ s'.2.2 137 n ∧ s'.2.2 137 n ≤ 99) ∧ zOwe σ s'.2.2 f j s'.1) (fun s17 => zSat (some (s17.1, s17.2.2)) fun e => (∀ c : Nat, c ≠ 137 → e.2 c = M c) ∧ (0 ≤ e.1 ∧ e.1 ≤ 8) ∧ ∀ t : Int → Int, zvalid σ t (σ 80 0).toNat → e.1 ≤ zlfs σ t (σ 80 0).toNat - zlfs σ t f) := by
      intro T A T0 T1 A0 A1 o
      refine ⟨(σ 80 0 - (j + 1 : Nat)).toNat, by omega, j + 1, by show (j : Int) + 1 = _; omega, by omega, rfl, by show 0 ≤ A ∧ A ≤ ((j + 1 : Nat) : Int); omega, fun c hc => by funext q; show zup V 137 j T c q = _; rw [zup_ne hc, g1 c hc], fun n hn => ?_, o⟩
      show 0 ≤ zup V 137 j T 137 n ∧ zup V 137 j T 137 n ≤ 99
      by_cases e : n = j
      · subst e; rw [zup_eq]; omega
      · rw [zup_nk (by omega)]; exact g2 n (by omega)
    have vn : ∀ (T : Int) (n : Nat), n < j → zup V 137 j T 137 n = V 137 n := fun T n hn => zup_nk (by omega)
    -- a note whose forerunner isn't looked at
    have own : ∀ A : Int, (∀ t : Int → Int, zvalid σ t (σ 80 0).toNat → zla1 σ t f j = A - a) → zOwe σ (zup V 137 j (σ 84 j)) f (j + 1) A := by
      intro A hl t hv
      obtain ⟨K, k1, k2⟩ := ow t hv
      refine ⟨fun q => if q = j then 0 else K q, ?_, fun n hn => ?_⟩
      · show zsum (zla1 σ t f) j + zla1 σ t f j - A = zsum (fun q => if q = j then 0 else K q) j + (if (j : Int) = j then 0 else K j)
        have : zsum (fun q => if q = (j : Int) then 0 else K q) j = zsum K j := zsum_eq fun q hq => by rw [if_neg (by omega)]
        rw [this, if_pos rfl, hl t hv]; omega
      · dsimp only
        by_cases e : n = j
        · subst e
          rw [if_pos rfl]
          exact ⟨Int.le_refl _, fun _ _ => by rw [zup_eq]; exact (zact_d h jn hv).1⟩
        · rw [if_neg (by omega), vn _ n (by omega)]
          exact ⟨(k2 n (by omega)).1, fun q => (k2 n (by omega)).2 (fun m m0 m1 => q m m0 (by omega))⟩
    by_cases c1 : (f : Int) ≤ j
    · rw [if_pos c1, zS_bd]
      refine zs_m (e_followed h hAV jn) ?_
      intro v hv'
      unfold fX0_sureFrom_j29 fX0_sureFrom_j58 fX0_sureFrom_j84 fX0_sureFrom_j85 fX0_sureFrom_j111 fX0_sureFrom_j123 fX0_sureFrom_j128
      rw [hAV.fl 84 rfl (by decide), hAV.fl 59 rfl (by decide)]
      rcases hv' with ⟨e1, e2⟩ | ⟨b, rfl, b1, b2⟩
      · simp only [if_pos e1, if_pos rfl, zgd_t (show (0 : Int) ≤ j ∧ (j : Int) < 24 by omega), zgd_t (show (0 : Int) ≤ j ∧ (j : Int) < 8 by omega), if_neg (show ¬ (j : Int) < f by omega)]
        rw [zw_i (x := a + 1) (by omega) (by omega), zw_i (x := (j : Int) + 1) (by omega) (by omega)]
        refine up (σ 84 j) (a + 1) (by omega) (by omega) (by omega) (by omega) (own (a + 1) fun t hv => ?_)
        have : ¬ zsty σ t j := fun q => by
          obtain ⟨b, b1, b2, -⟩ := zact_s h jn q
          exact e2 b b1 b2
        unfold zla1; rw [if_neg (by omega), if_neg this]; omega
      · have Tb := g2 b b1
        simp only [if_neg (show ¬ (b : Int) = -1 by omega), zgd_t (show (0 : Int) ≤ b ∧ (b : Int) < 8 by omega), zgd_t (show (0 : Int) ≤ j ∧ (j : Int) < 24 by omega), zgd_t (show (0 : Int) ≤ j ∧ (j : Int) < 8 by omega), zgd_t (show (0 : Int) ≤ 4 ∧ (4 : Int) < 11 by decide), if_neg (show ¬ (j : Int) < f by omega)]
        rw [zw_i (x := V 137 b + σ 84 j) (by omega) (by omega), zw_i (x := (j : Int) + 1) (by omega) (by omega)]
        -- what follows b
        have fol : ∀ (T A : Int) , (T = V 137 b + σ 84 j ∧ A = a ∧ V 137 b + σ 84 j ≤ σ 59 4) ∨ (T = σ 84 j ∧ A = a + 1 ∧ σ 59 4 < V 137 b + σ 84 j) → zOwe σ (zup V 137 j T) f (j + 1) A := by
          intro T A hT t hv
          obtain ⟨K, k1, k2⟩ := ow t hv
          have ac := zact_d h jn hv
          have op : ∀ m : Nat, f ≤ m → m < j → ¬ zfo σ b m := fun m m0 m1 q => by
            have := zfo_v h (N := (σ 80 0).toNat) (by omega) hv (o := m) (p := j) (by omega) (by omega) q b2
            omega
          have kb := k2 b b1
          have kb2 := kb.2 op
          have sty : zsty σ t j → zact σ t j = zact σ t b + σ 84 j := fun q => by
            obtain ⟨b', b1', b2', b3'⟩ := zact_s h jn q
            have := zfo_u h (N := (σ 80 0).toNat) (by omega) hv (o := b') (p := b) (by omega) (by omega) b2' b2
            subst this; exact b3'
          let la : Int := if zsty σ t j then 0 else 1
          have hla : zla1 σ t f j = la := by unfold zla1; rw [if_neg (by omega)]
          refine ⟨fun q => if q = j then K b + la - (A - a) else if q = b then 0 else K q, ?_, fun n hn => ?_⟩
          · show zsum (zla1 σ t f) j + zla1 σ t f j - A = zsum (fun q => if q = j then K b + la - (A - a) else if q = b then 0 else K q) j + (if (j : Int) = j then K b + la - (A - a) else if (j : Int) = b then 0 else K j)
            have e1 : zsum (fun q => if q = (j : Int) then K b + la - (A - a) else if q = b then 0 else K q) j = zsum (fun q => if q = b then 0 else K q) j := zsum_eq fun q hq => by rw [if_neg (by omega)]
            rw [e1, zsum_up (by omega) (by omega), if_pos rfl, hla]; omega
          · dsimp only
            by_cases e : n = j
            · subst e
              rw [if_pos rfl]
              by_cases cs : zsty σ t n
              · have la0 : la = 0 := if_pos cs
                have := sty cs
                rw [la0, zup_eq]
                rcases hT with ⟨q1, q2, q3⟩ | ⟨q1, q2, q3⟩
                · exact ⟨by omega, fun _ q => by have := kb2 (by omega); omega⟩
                · have : K b ≠ 0 := fun q => by have := kb2 q; omega
                  exact ⟨by omega, fun _ _ => by omega⟩
              · have la1 : la = 1 := if_neg cs
                rw [la1, zup_eq]
                rcases hT with ⟨q1, q2, q3⟩ | ⟨q1, q2, q3⟩
                · exact ⟨by omega, fun _ q => by omega⟩
                · exact ⟨by omega, fun _ _ => by omega⟩
            · rw [if_neg (by omega)]
              by_cases e' : n = b
              · subst e'
                rw [if_pos rfl]
                exact ⟨Int.le_refl _, fun q => absurd b2 (q j (by omega) (by omega))⟩
              · rw [if_neg (by omega), vn _ n (by omega)]
                exact ⟨(k2 n (by omega)).1, fun q => (k2 n (by omega)).2 (fun m m0 m1 => q m m0 (by omega))⟩
        by_cases c2 : σ 59 4 < V 137 b + σ 84 j
        · simp only [if_pos c2, if_pos rfl]
          rw [zw_i (x := a + 1) (by omega) (by omega)]
          exact up _ _ (by omega) (by omega) (by omega) (by omega) (fol _ _ (Or.inr ⟨rfl, rfl, c2⟩))
        · simp only [if_neg c2, if_neg (show ¬ (1 : Int) = 0 by decide)]
          rw [zw_i (x := a + 0) (by omega) (by omega), show a + 0 = a by omega]
          exact up _ _ (by omega) (by omega) (by omega) (by omega) (fol _ _ (Or.inl ⟨rfl, rfl, by omega⟩))
    · rw [if_neg c1]
      unfold fX0_sureFrom_j29 fX0_sureFrom_j58 fX0_sureFrom_j84 fX0_sureFrom_j85 fX0_sureFrom_j111 fX0_sureFrom_j123 fX0_sureFrom_j128
      rw [hAV.fl 84 rfl (by decide)]
      simp only [if_pos rfl, zgd_t (show (0 : Int) ≤ j ∧ (j : Int) < 24 by omega), zgd_t (show (0 : Int) ≤ j ∧ (j : Int) < 8 by omega), if_pos (show (j : Int) < f by omega)]
      rw [zw_i (x := a + 0) (by omega) (by omega), zw_i (x := (j : Int) + 1) (by omega) (by omega), show a + 0 = a by omega]
      exact up (σ 84 j) a (by omega) (by omega) (by omega) (by omega) (own a fun t hv => by unfold zla1; rw [if_pos (by omega)]; omega)
theorem e_countSure (h : St σ) (hA : zAx σ M) (h8 : σ 80 0 ≤ 8) : zSat (fX0_countSure M) (fun V => (∀ c : Nat, c ≠ 136 → c ≠ 137 → V c = M c) ∧ V 136 (σ 80 0) = 0 ∧ ∀ f : Nat, (f : Int) ≤ σ 80 0 → (0 ≤ V 136 f ∧ V 136 f ≤ 8) ∧ ∀ t : Int → Int, zvalid σ t (σ 80 0).toNat → V 136 f ≤ zlfs σ t (σ 80 0).toNat - zlfs σ t f) := by
  have hnn := r_nn h
  unfold fX0_countSure
  rw [hA.fl 80 rfl (by decide), zgd_t ⟨by omega, by omega⟩, zup_ne (show (80 : Nat) ≠ 136 by decide), hA.fl 80 rfl (by decide), zS_bd, zw_i (by omega) (by omega)]
  refine zit_i2 (fun y V => fX0_countSure_l23 y V) (fun m y V => m = (y + 1).toNat ∧ -1 ≤ y ∧ y < σ 80 0 ∧ (∀ c : Nat, c ≠ 136 → c ≠ 137 → V c = M c) ∧ V 136 (σ 80 0) = 0 ∧ ∀ f : Nat, y < f → (f : Int) ≤ σ 80 0 → (0 ≤ V 136 f ∧ V 136 f ≤ 8) ∧ ∀ t : Int → Int, zvalid σ t (σ 80 0).toNat → V 136 f ≤ zlfs σ t (σ 80 0).toNat - zlfs σ t f) ?_ _ ⟨rfl, by omega, by omega, fun c c1 _ => by funext q; exact zup_ne c1, zup_eq, fun f f0 f1 => ?_⟩
  · rintro m y V ⟨hm, y0, y1, g1, g2, g3⟩
    have hAV : zAx σ V := fun c q hc hs => by
      by_cases e : c = 136
      · subst e; cases hs
      · by_cases e' : c = 137
        · subst e'; cases hs
        · rw [g1 c e e']; exact hA c q hc hs
    show zSat (fX0_countSure_l23 y V) _
    unfold fX0_countSure_l23
    by_cases c : y < 0
    · rw [if_pos c]
      exact ⟨g1, g2, fun f f1 => g3 f (by omega) f1⟩
    · rw [if_neg c, zS_bd2]
      obtain ⟨f, rfl⟩ : ∃ f : Nat, y = f := ⟨y.toNat, by omega⟩
      refine zs_m (e_sureFrom h hAV h8 (f := f) (by omega)) ?_
      rintro ⟨r, W⟩ ⟨w1, w2, w3⟩
      dsimp only at w1 w2 w3 ⊢
      rw [zgd_t ⟨by omega, by omega⟩, zw_i (by omega) (by omega)]
      refine ⟨f, by omega, by show f = ((f : Int) + -1 + 1).toNat; omega, by show -1 ≤ (f : Int) + -1; omega, by show (f : Int) + -1 < _; omega, fun c c1 c2 => ?_, ?_, fun f' f0 f1 => ?_⟩
      · funext q; show zup W 136 f r c q = _; rw [zup_ne c1, w1 c c2, g1 c c1 c2]
      · show zup W 136 f r 136 (σ 80 0) = 0
        rw [zup_nk (by omega), w1 136 (by decide)]; exact g2
      · have f0 : (f : Int) + -1 < f' := f0
        show (0 ≤ zup W 136 f r 136 f' ∧ zup W 136 f r 136 f' ≤ 8) ∧ ∀ t : Int → Int, zvalid σ t (σ 80 0).toNat → zup W 136 f r 136 f' ≤ zlfs σ t (σ 80 0).toNat - zlfs σ t f'
        by_cases e : f' = f
        · subst e; rw [zup_eq]; exact ⟨w2, w3⟩
        · rw [zup_nk (by omega), w1 136 (by decide)]; exact g3 f' (by omega) f1
  · have : (f : Int) = σ 80 0 := by omega
    rw [this, zup_eq]
    refine ⟨by omega, fun t _ => ?_⟩
    rw [show (σ 80 0).toNat = f by omega]; omega
end SUR
