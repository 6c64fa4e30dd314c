/-! PURE PART, 35: orders; the model's search for one -/
section ORD
variable {σ M : zMem} {k x : Int}
theorem zprv_i {g : Int → Int} {b : Int} : ∀ {n : Nat}, 0 ≤ zprv g b n → g (zprv g b n) = b ∧ zprv g b n < n
  | 0, h => by simp [zprv] at h
  | n + 1, h => by
    unfold zprv at h ⊢
    by_cases c : g n = b
    · rw [if_pos c]; exact ⟨c, by omega⟩
    · rw [if_neg c] at h ⊢
      have := zprv_i (n := n) h
      exact ⟨this.1, by omega⟩
theorem zprv_e {g : Int → Int} {b : Int} : ∀ {n : Nat} {p : Nat}, p < n → g p = b → 0 ≤ zprv g b n
  | 0, _, h, _ => by omega
  | n + 1, p, h, e => by
    unfold zprv
    by_cases c : g n = b
    · rw [if_pos c]; omega
    · rw [if_neg c]
      have : p ≠ n := fun q => by subst q; exact c e
      exact zprv_e (p := p) (by omega) e
/-- where BOWL b is in order g -/
def zps (σ : zMem) (g : Int → Int) (b : Int) : Int := zprv g b (σ 40 1).toNat
def zcO (σ : zMem) (g : Int → Int) : Int := zcst σ (zps σ g)
def zCo (σ : zMem) (g : Int → Int) : Prop := ∃ s : Int → Int, zOrd σ g s
theorem zO_s {g s : Int → Int} (h : zOrd σ g s) {b : Int} (hb : zpd σ b) : zps σ g b = s b := by
  obtain ⟨h1, h2⟩ := h
  have sb := h2 b hb
  have ge : 0 ≤ zprv g b (σ 40 1).toNat := zprv_e (p := (s b).toNat) (by omega) (by rw [show (((s b).toNat : Nat) : Int) = s b by omega]; exact sb.2.2)
  have gi := zprv_i ge
  have := (h1 (zprv g b (σ 40 1).toNat) ge (by omega)).2
  rw [gi.1] at this
  unfold zps; omega
theorem zcO_s (h : St σ) {g s : Int → Int} (ho : zOrd σ g s) : zcO σ g = zcst σ s := by
  have hnn := r_nn h
  unfold zcO zcst
  refine zsum_eq fun q hq => ?_
  have n1 := r_nb h (k := (q : Int) + 1) (by omega) (by omega)
  have n2 := r_nb h (k := q) (by omega) (by omega)
  rw [zO_s ho (b := σ 82 ((q : Int) + 1)) n1, zO_s ho (b := σ 82 q) n2]
theorem zCo_p {g g' : Int → Int} (e : ∀ q : Nat, q < (σ 40 1).toNat → g q = g' q) (hc : zCo σ g) : zCo σ g' := by
  obtain ⟨s, h1, h2⟩ := hc
  have e' : ∀ p : Int, 0 ≤ p → p < σ 40 1 → g' p = g p := fun p p0 p1 => by
    have := e p.toNat (by omega)
    rw [show ((p.toNat : Nat) : Int) = p by omega] at this
    exact this.symm
  exact ⟨s, fun p p0 p1 => by rw [e' p p0 p1]; exact h1 p p0 p1, fun b hb => ⟨(h2 b hb).1, (h2 b hb).2.1, by rw [e' _ (h2 b hb).1 (h2 b hb).2.1]; exact (h2 b hb).2.2⟩⟩
theorem zcO_p {g g' : Int → Int} (e : ∀ q : Nat, q < (σ 40 1).toNat → g q = g' q) : zcO σ g = zcO σ g' := by
  have : zps σ g = zps σ g' := by funext b; unfold zps; exact zprv_p e
  unfold zcO; rw [this]
/-- orders that begin as G does -/
def zCq (σ : zMem) (G : Int → Int) (p : Nat) (g : Int → Int) : Prop := zCo σ g ∧ ∀ q : Nat, q < p → g q = G q
/-- the model's row of spots: p BOWLS have theirs, as G says -/
def zPx (σ M : zMem) (p : Nat) (G : Int → Int) : Prop := (∀ q : Nat, q < p → zpd σ (G q) ∧ M 259 (G q) = q) ∧ (∀ b : Int, 0 ≤ b → b < 12 → M 259 b = -1 ∨ (0 ≤ M 259 b ∧ M 259 b < p ∧ G (M 259 b) = b)) ∧ zsum (fun b => if 0 ≤ M 259 b then 1 else 0) (σ 40 0).toNat = p
def zRp (σ M : zMem) (B : Int → Int) : Prop := M 200 60 < 100000000 → ∀ b : Int, 0 ≤ b → b < 12 → M 260 b = if zpd σ b then zps σ B b else -1
/-- the sum over those that have their spots -/
def zpsm (σ M : zMem) (i : Nat) : Int := zsum (fun n => if 0 ≤ M 259 (σ 82 (n + 1)) ∧ 0 ≤ M 259 (σ 82 n) then zabs (M 259 (σ 82 (n + 1)) - M 259 (σ 82 n)) else 0) i
theorem zPx_s {p : Nat} {G g s : Int → Int} (hP : zPx σ M p G) (hp : (p : Int) ≤ σ 40 1) (ho : zOrd σ g s) (hg : ∀ q : Nat, q < p → g q = G q) {b : Int} (b0 : 0 ≤ b) (b1 : b < 12) (hb : 0 ≤ M 259 b) : zpd σ b ∧ s b = M 259 b := by
  rcases hP.2.1 b b0 b1 with q | ⟨q1, q2, q3⟩
  · omega
  · have e := hg (M 259 b).toNat (by omega)
    rw [show (((M 259 b).toNat : Nat) : Int) = M 259 b by omega, q3] at e
    have := ho.1 (M 259 b) q1 (by omega)
    rw [e] at this
    exact this
theorem m_lsum (h : St σ) (hA : zAx σ M) (F : Int → Int → zMem → Option zMem) {p0 p1 : Int} (hs : ∀ b : Int, 0 ≤ b → b < 12 → -1 ≤ M 259 b ∧ M 259 b < 12) : zSat (zit (fun s14 : Int × Int => fX12_lines_l5 F p0 p1 (s14.1) (s14.2) M) (0, 1)) (fun e => e.1 = zpsm σ M ((σ 80 0).toNat - 1)) := by
  have hnn := r_nn h
  have hbw := r_bw h
  have tb : ∀ i : Nat, (i : Int) + 1 < σ 80 0 → 0 ≤ (if 0 ≤ M 259 (σ 82 ((i : Int) + 1)) ∧ 0 ≤ M 259 (σ 82 i) then zabs (M 259 (σ 82 ((i : Int) + 1)) - M 259 (σ 82 i)) else 0) ∧ (if 0 ≤ M 259 (σ 82 ((i : Int) + 1)) ∧ 0 ≤ M 259 (σ 82 i) then zabs (M 259 (σ 82 ((i : Int) + 1)) - M 259 (σ 82 i)) else 0) ≤ 12 := fun i hi => by
    have n1 := r_nb h (k := (i : Int) + 1) (by omega) (by omega)
    have n2 := r_nb h (k := i) (by omega) (by omega)
    have s1 := hs (σ 82 ((i : Int) + 1)) n1.1 (by omega)
    have s2 := hs (σ 82 i) n2.1 (by omega)
    split
    · exact ⟨zabs_n, zabs_le (by omega)⟩
    · omega
  have sb : ∀ i : Nat, (i : Int) < σ 80 0 → 0 ≤ zpsm σ M i ∧ zpsm σ M i ≤ 12 * i := fun i hi => ⟨zsum_0 fun q hq => (tb q (by omega)).1, zsum_le fun q hq => (tb q (by omega)).2⟩
  by_cases c0 : σ 80 0 = 0
  · rw [zit_r (f := fun s14 : Int × Int => fX12_lines_l5 F p0 p1 (s14.1) (s14.2) M) (s := (0, 1)) (e := (0, 1)) (by show fX12_lines_l5 F p0 p1 0 1 M = _; unfold fX12_lines_l5; rw [a_nn h hA, if_pos (by omega)])]
    show 0 = _
    rw [c0]; rfl
  · have key := zit_for (f := fun s14 : Int × Int => fX12_lines_l5 F p0 p1 (s14.1) (s14.2) M) ((σ 80 0).toNat - 1) (fun i => (zpsm σ M i, (i : Int) + 1)) (e := (zpsm σ M ((σ 80 0).toNat - 1), (((σ 80 0).toNat - 1 : Nat) : Int) + 1)) ?_ ?_
    · rw [show zit (fun s14 : Int × Int => fX12_lines_l5 F p0 p1 (s14.1) (s14.2) M) (0, 1) = _ from key]; rfl
    · intro i hi
      have n1 := r_nb h (k := (i : Int) + 1) (by omega) (by omega)
      have n2 := r_nb h (k := i) (by omega) (by omega)
      have s1 := hs (σ 82 ((i : Int) + 1)) n1.1 (by omega)
      have s2 := hs (σ 82 i) n2.1 (by omega)
      have t1 := tb i (by omega)
      have t2 := sb i (by omega)
      show fX12_lines_l5 F p0 p1 (zpsm σ M i) ((i : Int) + 1) M = some (.inl (zpsm σ M i + (if 0 ≤ M 259 (σ 82 ((i : Int) + 1)) ∧ 0 ≤ M 259 (σ 82 i) then zabs (M 259 (σ 82 ((i : Int) + 1)) - M 259 (σ 82 i)) else 0), ((i + 1 : Nat) : Int) + 1))
      generalize zpsm σ M i = z at t2 ⊢
      unfold fX12_lines_l5 fX12_lines_j79 fX12_lines_j80
      rw [a_nn h hA, if_neg (by omega), show (i : Int) + 1 - 1 = i by omega, a_nb h hA (k := (i : Int) + 1) (by omega) (by omega), a_nb h hA (k := i) (by omega) (by omega), zw_i (x := (i : Int) + 1 + 1) (by omega) (by omega), m_away (by omega) (by omega), zbd_s]
      simp only [zgd_t (show (0 : Int) ≤ (i : Int) + 1 ∧ (i : Int) + 1 < 120 by omega), zgd_t (show (0 : Int) ≤ (i : Int) ∧ (i : Int) < 120 by omega), zgd_t (show (0 : Int) ≤ σ 82 ((i : Int) + 1) ∧ σ 82 ((i : Int) + 1) < 12 by omega), zgd_t (show (0 : Int) ≤ σ 82 i ∧ σ 82 i < 12 by omega)]
      by_cases d1 : M 259 (σ 82 ((i : Int) + 1)) < 0
      · rw [if_pos d1, if_neg (by omega), zw_i (by omega) (by omega)]; rfl
      · rw [if_neg d1]
        by_cases d2 : M 259 (σ 82 i) < 0
        · rw [if_pos d2, if_neg (by omega), zw_i (by omega) (by omega)]; rfl
        · rw [if_pos (show 0 ≤ M 259 (σ 82 ((i : Int) + 1)) ∧ 0 ≤ M 259 (σ 82 i) by omega)] at t1
          rw [if_neg d2, if_pos (show 0 ≤ M 259 (σ 82 ((i : Int) + 1)) ∧ 0 ≤ M 259 (σ 82 i) by omega), zw_i (by omega) (by omega)]; rfl
    · show fX12_lines_l5 F p0 p1 _ ((((σ 80 0).toNat - 1 : Nat) : Int) + 1) M = _
      unfold fX12_lines_l5
      rw [a_nn h hA, if_pos (by omega)]
/-- the sum of some is not more than that of all -/
theorem zpsm_le (h : St σ) {p : Nat} {G g s : Int → Int} (hP : zPx σ M p G) (hp : (p : Int) ≤ σ 40 1) (ho : zOrd σ g s) (hg : ∀ q : Nat, q < p → g q = G q) : zpsm σ M ((σ 80 0).toNat - 1) ≤ zcO σ g := by
  have hnn := r_nn h
  have hbw := r_bw h
  rw [zcO_s h ho]
  have : ∀ i : Nat, (i : Int) < σ 80 0 ∨ i = 0 → zpsm σ M i ≤ zsum (fun n => zabs (s (σ 82 (n + 1)) - s (σ 82 n))) i := by
    intro i
    induction i with
    | zero => intro _; exact Int.le_refl _
    | succ i ih =>
      intro hi
      have := ih (by omega)
      have n1 := r_nb h (k := (i : Int) + 1) (by omega) (by omega)
      have n2 := r_nb h (k := i) (by omega) (by omega)
      show zpsm σ M i + (if 0 ≤ M 259 (σ 82 ((i : Int) + 1)) ∧ 0 ≤ M 259 (σ 82 i) then zabs (M 259 (σ 82 ((i : Int) + 1)) - M 259 (σ 82 i)) else 0) ≤ zsum (fun n => zabs (s (σ 82 (n + 1)) - s (σ 82 n))) i + zabs (s (σ 82 ((i : Int) + 1)) - s (σ 82 i))
      by_cases c : 0 ≤ M 259 (σ 82 ((i : Int) + 1)) ∧ 0 ≤ M 259 (σ 82 i)
      · rw [if_pos c, (zPx_s hP hp ho hg n1.1 (by omega) c.1).2, (zPx_s hP hp ho hg n2.1 (by omega) c.2).2]; omega
      · rw [if_neg c]
        have := zabs_n (a := s (σ 82 ((i : Int) + 1)) - s (σ 82 i))
        omega
  exact this _ (by omega)
theorem zsum_pt {f g : Int → Int} : ∀ {n : Nat}, (∀ q : Nat, q < n → f q ≤ g q) → zsum f n = zsum g n → ∀ q : Nat, q < n → f q = g q
  | 0, _, _, q, hq => by omega
  | n + 1, hle, he, q, hq => by
    have he : zsum f n + f n = zsum g n + g n := he
    have h1 : zsum f n ≤ zsum g n := by
      have a : 0 * (n : Int) ≤ zsum (fun q => g q - f q) n := zsum_ge fun q hq => by have := hle q (by omega); omega
      have b : zsum (fun q => g q - f q) n + zsum f n = zsum g n := by rw [← zsum_add]; exact zsum_eq fun q _ => by omega
      omega
    have h2 := hle n (by omega)
    by_cases c : q = n
    · subst c; omega
    · exact zsum_pt (n := n) (fun q hq => hle q (by omega)) (by omega) q (by omega)
/-- all have their spots -/
theorem zPx_N (h : St σ) {p : Nat} {G : Int → Int} (hP : zPx σ M p G) (hp : (p : Int) = σ 40 1) : zOrd σ G (M 259) := by
  have hbw := r_bw h
  have hpl : σ 40 1 = zsum (fun b => if σ 47 b < 0 then 0 else 1) (σ 40 0).toNat := h.1.2.2.2.2.1
  obtain ⟨h1, h2, h3⟩ := hP
  have le : ∀ q : Nat, q < (σ 40 0).toNat → (if 0 ≤ M 259 q then (1 : Int) else 0) ≤ (if σ 47 q < 0 then 0 else 1) := fun q hq => by
    have pl := r_pl h (k := q) (by omega) (by omega)
    by_cases c : 0 ≤ M 259 q
    · rw [if_pos c]
      rcases h2 q (by omega) (by omega) with e | ⟨e1, e2, e3⟩
      · omega
      · have := (h1 (M 259 q).toNat (by omega)).1
        rw [show (((M 259 q).toNat : Nat) : Int) = M 259 q by omega, e3] at this
        rw [if_neg (by have := this.2.2; omega)]; omega
    · rw [if_neg c]; split <;> omega
  have pt := zsum_pt (f := fun b => if 0 ≤ M 259 b then 1 else 0) (g := fun b => if σ 47 b < 0 then 0 else 1) le (h3.trans (hp.trans hpl))
  refine ⟨fun q q0 q1 => ?_, fun b hb => ?_⟩
  · have := h1 q.toNat (by omega)
    rwa [show ((q.toNat : Nat) : Int) = q by omega] at this
  · have pl := r_pl h hb.1 hb.2.1
    have e := pt b.toNat (by omega)
    rw [show ((b.toNat : Nat) : Int) = b by omega] at e
    have nn : 0 ≤ M 259 b := by
      by_cases c : 0 ≤ M 259 b
      · exact c
      · rw [if_neg c, if_neg (by have := hb.2.2; omega)] at e; omega
    rcases h2 b hb.1 (by omega) with e | ⟨e1, e2, e3⟩
    · omega
    · exact ⟨e1, by omega, e3⟩
theorem m_lcopy (F : Int → Int → zMem → Option zMem) : zSat (zit (fun s43 : Int × zMem => fX12_lines_l110 F (s43.1) (s43.2)) (0, M)) (fun e => (∀ c : Nat, c ≠ 260 → e.2 c = M c) ∧ ∀ q : Int, 0 ≤ q → q < 12 → e.2 260 q = M 259 q) := by
  refine zit_i2 (fun y N => fX12_lines_l110 F y N) (fun m y N => m = (12 - y).toNat ∧ 0 ≤ y ∧ y ≤ 12 ∧ (∀ c : Nat, c ≠ 260 → N c = M c) ∧ ∀ q : Int, 0 ≤ q → q < y → N 260 q = M 259 q) ?_ _ ⟨rfl, by omega, by omega, fun _ _ => rfl, fun q q0 q1 => by omega⟩
  rintro m y N ⟨hm, y0, y1, g1, g2⟩
  show zSat (fX12_lines_l110 F y N) _
  unfold fX12_lines_l110
  by_cases c : 12 ≤ y
  · rw [if_pos c]
    exact ⟨g1, fun q q0 q1 => g2 q q0 (by omega)⟩
  · rw [if_neg c, zgd_t ⟨y0, by omega⟩, zgd_t ⟨y0, by omega⟩, zw_i (by omega) (by omega)]
    refine ⟨(12 - (y + 1)).toNat, by omega, rfl, by show 0 ≤ y + 1; omega, by show y + 1 ≤ 12; omega, fun c hc => by funext q; show zup N 260 y _ c q = _; rw [zup_ne hc, g1 c hc], fun q q0 q1 => ?_⟩
    show zup N 260 y _ 260 q = _
    by_cases e : q = y
    · subst e; rw [zup_eq, g1 259 (by decide)]
    · rw [zup_nk e]; exact g2 q q0 (by have q1 : q < y + 1 := q1; omega)
end ORD
