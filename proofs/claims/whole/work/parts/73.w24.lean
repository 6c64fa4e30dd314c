/-! PURE PART, 24: rows of the model laid over -/
section LAY
variable {σ M : zMem} {k s x w : Int} {j1 j2 : Int}
/-- the model's row j2 is its row j1; all else is as it was -/
def zLd (j1 j2 : Int) (M N : zMem) : Prop := (∀ (c : Nat) (q : Int), ¬ zrow j2 c q → N c q = M c q) ∧ (∀ c : Nat, 211 ≤ c → c < 214 → N c j2 = M c j1) ∧ (∀ (c : Nat) (q : Int), 215 ≤ c → c < 220 → 0 ≤ q → q < 12 → N c (12 * j2 + q) = M c (12 * j1 + q)) ∧ (∀ (c : Nat) (q : Int), 220 ≤ c → c < 225 → 0 ≤ q → q < 8 → N c (8 * j2 + q) = M c (8 * j1 + q)) ∧ (∀ q : Int, 0 ≤ q → q < 11 → N 225 (11 * j2 + q) = M 225 (11 * j1 + q)) ∧ (∀ (c : Nat) (q : Int), 227 ≤ c → c < 229 → 0 ≤ q → q < 4 → N c (4 * j2 + q) = zw (M c (4 * j1 + q) + 1000 * (j2 - j1))) ∧ ∀ q : Int, 0 ≤ q → q < 1000 → N 229 (1000 * j2 + q) = M 229 (1000 * j1 + q)
/-- five rows at c, i places from a to b -/
def zL5 (c : Nat) (a b : Int) (i : Int) (M N : zMem) : Prop := (∀ (d : Nat) (q : Int), ¬ (c ≤ d ∧ d < c + 5 ∧ b ≤ q ∧ q < b + i) → N d q = M d q) ∧ ∀ (d : Nat) (q : Int), c ≤ d → d < c + 5 → 0 ≤ q → q < i → N d (b + q) = M d (a + q)
theorem zL5.step {c : Nat} {a b i n : Int} {M N : zMem} (h : zL5 c a b i M N) (hi : 0 ≤ i ∧ i < n) (hab : a + n ≤ b ∨ b + n ≤ a) : zL5 c a b (i + 1) M (zup5 N c (b + i) (N c (a + i)) (N (c + 1) (a + i)) (N (c + 2) (a + i)) (N (c + 3) (a + i)) (N (c + 4) (a + i))) := by
  obtain ⟨h1, h2⟩ := h
  have rd : ∀ d : Nat, N d (a + i) = M d (a + i) := fun d => h1 d _ (by omega)
  refine ⟨fun d q hq => ?_, fun d q d0 d1 q0 q1 => ?_⟩
  · by_cases e : q = b + i
    · rw [zup5_n (by omega)]; exact h1 d q (by omega)
    · rw [zup5_k e]; exact h1 d q (by omega)
  · by_cases e : q = i
    · subst e
      have z := zup5_e (M := N) (c := c) (n := b + q) (b := N c (a + q)) (f := N (c + 1) (a + q)) (l := N (c + 2) (a + q)) (p := N (c + 3) (a + q)) (g := N (c + 4) (a + q))
      have : d = c ∨ d = c + 1 ∨ d = c + 2 ∨ d = c + 3 ∨ d = c + 4 := by omega
      rcases this with rfl | rfl | rfl | rfl | rfl
      · rw [z.1, rd]
      · rw [z.2.1, rd]
      · rw [z.2.2.1, rd]
      · rw [z.2.2.2.1, rd]
      · rw [z.2.2.2.2, rd]
    · rw [zup5_k (by omega)]; exact h2 d q d0 d1 q0 (by omega)
theorem m_lays1 (h1 : 0 ≤ j1 ∧ j1 < 6) (h2 : 0 ≤ j2 ∧ j2 < 6) (hj : j1 ≠ j2) : zSat (zit (fun s9 : Int × zMem => fX12_lays_l38 j1 j2 (s9.1) (s9.2)) (0, M)) (fun e => zL5 215 (12 * j1) (12 * j2) 12 M e.2) := by
  refine zit_i2 (fun y N => fX12_lays_l38 j1 j2 y N) (fun m y N => m = (12 - y).toNat ∧ 0 ≤ y ∧ y ≤ 12 ∧ zL5 215 (12 * j1) (12 * j2) y M N) ?_ _ ⟨rfl, by omega, by omega, fun d q _ => rfl, fun d q _ _ q0 q1 => by omega⟩
  rintro m y N ⟨hm, y0, y1, g⟩
  show zSat (fX12_lays_l38 j1 j2 y N) _
  unfold fX12_lays_l38
  by_cases c : 12 ≤ y
  · rw [if_pos c]
    have : y = 12 := by omega
    subst this; exact g
  · have := g.step (n := 12) ⟨y0, by omega⟩ (by omega)
    simp (disch := omega) only [if_neg, zgd_t, zup_ne, zw_i]
    exact ⟨(12 - (y + 1)).toNat, by omega, rfl, by show 0 ≤ y + 1; omega, by show y + 1 ≤ 12; omega, this⟩
theorem m_lays2 (h1 : 0 ≤ j1 ∧ j1 < 6) (h2 : 0 ≤ j2 ∧ j2 < 6) (hj : j1 ≠ j2) : zSat (zit (fun s9 : Int × zMem => fX12_lays_l162 j1 j2 (s9.1) (s9.2)) (0, M)) (fun e => zL5 220 (8 * j1) (8 * j2) 8 M e.2) := by
  refine zit_i2 (fun y N => fX12_lays_l162 j1 j2 y N) (fun m y N => m = (8 - y).toNat ∧ 0 ≤ y ∧ y ≤ 8 ∧ zL5 220 (8 * j1) (8 * j2) y M N) ?_ _ ⟨rfl, by omega, by omega, fun d q _ => rfl, fun d q _ _ q0 q1 => by omega⟩
  rintro m y N ⟨hm, y0, y1, g⟩
  show zSat (fX12_lays_l162 j1 j2 y N) _
  unfold fX12_lays_l162
  by_cases c : 8 ≤ y
  · rw [if_pos c]
    have : y = 8 := by omega
    subst this; exact g
  · have := g.step (n := 8) ⟨y0, by omega⟩ (by omega)
    simp (disch := omega) only [if_neg, zgd_t, zup_ne, zw_i]
    exact ⟨(8 - (y + 1)).toNat, by omega, rfl, by show 0 ≤ y + 1; omega, by show y + 1 ≤ 8; omega, this⟩
/-- one row at c -/
def zL1 (c : Nat) (a b : Int) (i : Int) (M N : zMem) : Prop := (∀ (d : Nat) (q : Int), ¬ (d = c ∧ b ≤ q ∧ q < b + i) → N d q = M d q) ∧ ∀ q : Int, 0 ≤ q → q < i → N c (b + q) = M c (a + q)
theorem zL1.step {c : Nat} {a b i n : Int} {M N : zMem} (h : zL1 c a b i M N) (hi : 0 ≤ i ∧ i < n) (hab : a + n ≤ b ∨ b + n ≤ a) : zL1 c a b (i + 1) M (zup N c (b + i) (N c (a + i))) := by
  obtain ⟨h1, h2⟩ := h
  refine ⟨fun d q hq => ?_, fun q q0 q1 => ?_⟩
  · by_cases e : d = c
    · rw [zup_nk (by omega)]; exact h1 d q (by omega)
    · rw [zup_ne e]; exact h1 d q (by omega)
  · by_cases e : q = i
    · subst e; rw [zup_eq]; exact h1 c _ (by omega)
    · rw [zup_nk (by omega)]; exact h2 q q0 (by omega)
theorem m_lays3 (h1 : 0 ≤ j1 ∧ j1 < 6) (h2 : 0 ≤ j2 ∧ j2 < 6) (hj : j1 ≠ j2) : zSat (zit (fun s9 : Int × zMem => fX12_lays_l286 j1 j2 (s9.1) (s9.2)) (0, M)) (fun e => zL1 225 (11 * j1) (11 * j2) 11 M e.2) := by
  refine zit_i2 (fun y N => fX12_lays_l286 j1 j2 y N) (fun m y N => m = (11 - y).toNat ∧ 0 ≤ y ∧ y ≤ 11 ∧ zL1 225 (11 * j1) (11 * j2) y M N) ?_ _ ⟨rfl, by omega, by omega, fun d q _ => rfl, fun q q0 q1 => by omega⟩
  rintro m y N ⟨hm, y0, y1, g⟩
  show zSat (fX12_lays_l286 j1 j2 y N) _
  unfold fX12_lays_l286
  by_cases c : 11 ≤ y
  · rw [if_pos c]
    have : y = 11 := by omega
    subst this; exact g
  · have := g.step (n := 11) ⟨y0, by omega⟩ (by omega)
    simp (disch := omega) only [if_neg, zgd_t, zw_i]
    exact ⟨(11 - (y + 1)).toNat, by omega, rfl, by show 0 ≤ y + 1; omega, by show y + 1 ≤ 11; omega, this⟩
theorem m_lays5 (h1 : 0 ≤ j1 ∧ j1 < 6) (h2 : 0 ≤ j2 ∧ j2 < 6) (hj : j1 ≠ j2) : zSat (zit (fun s9 : Int × zMem => fX12_lays_l391 j1 j2 (s9.1) (s9.2)) (0, M)) (fun e => zL1 229 (1000 * j1) (1000 * j2) 1000 M e.2) := by
  refine zit_i2 (fun y N => fX12_lays_l391 j1 j2 y N) (fun m y N => m = (1000 - y).toNat ∧ 0 ≤ y ∧ y ≤ 1000 ∧ zL1 229 (1000 * j1) (1000 * j2) y M N) ?_ _ ⟨rfl, by omega, by omega, fun d q _ => rfl, fun q q0 q1 => by omega⟩
  rintro m y N ⟨hm, y0, y1, g⟩
  show zSat (fX12_lays_l391 j1 j2 y N) _
  unfold fX12_lays_l391
  by_cases c : 1000 ≤ y
  · rw [if_pos c]
    have : y = 1000 := by omega
    subst this; exact g
  · have := g.step (n := 1000) ⟨y0, by omega⟩ (by omega)
    simp (disch := omega) only [if_neg, zgd_t, zw_i]
    exact ⟨(1000 - (y + 1)).toNat, by omega, rfl, by show 0 ≤ y + 1; omega, by show y + 1 ≤ 1000; omega, this⟩
theorem m_lays4 (h1 : 0 ≤ j1 ∧ j1 < 6) (h2 : 0 ≤ j2 ∧ j2 < 6) (hj : j1 ≠ j2) : zSat (zit (fun s9 : Int × zMem => fX12_lays_l322 j1 j2 (s9.1) (s9.2)) (0, M)) (fun e => (∀ (d : Nat) (q : Int), ¬ (227 ≤ d ∧ d < 229 ∧ 4 * j2 ≤ q ∧ q < 4 * j2 + 4) → e.2 d q = M d q) ∧ ∀ (d : Nat) (q : Int), 227 ≤ d → d < 229 → 0 ≤ q → q < 4 → e.2 d (4 * j2 + q) = zw (M d (4 * j1 + q) + 1000 * (j2 - j1))) := by
  refine zit_i2 (fun y N => fX12_lays_l322 j1 j2 y N) (fun m y N => m = (4 - y).toNat ∧ 0 ≤ y ∧ y ≤ 4 ∧ (∀ (d : Nat) (q : Int), ¬ (227 ≤ d ∧ d < 229 ∧ 4 * j2 ≤ q ∧ q < 4 * j2 + y) → N d q = M d q) ∧ ∀ (d : Nat) (q : Int), 227 ≤ d → d < 229 → 0 ≤ q → q < y → N d (4 * j2 + q) = zw (M d (4 * j1 + q) + 1000 * (j2 - j1))) ?_ _ ⟨rfl, by omega, by omega, fun d q _ => rfl, fun d q _ _ q0 q1 => by omega⟩
  rintro m y N ⟨hm, y0, y1, g1, g2⟩
  show zSat (fX12_lays_l322 j1 j2 y N) _
  unfold fX12_lays_l322
  by_cases c : 4 ≤ y
  · rw [if_pos c]
    have : y = 4 := by omega
    subst this; exact ⟨g1, g2⟩
  · have rd : ∀ d : Nat, N d (4 * j1 + y) = M d (4 * j1 + y) := fun d => g1 d _ (by omega)
    rw [if_neg c, zgd_t ⟨by omega, by omega⟩, zgd_t ⟨by omega, by omega⟩, zgd_t ⟨by omega, by omega⟩, zgd_t ⟨by omega, by omega⟩, zup_ne (show (228 : Nat) ≠ 227 by decide), rd, rd, zw_i (x := y + 1) (by omega) (by omega)]
    refine ⟨(4 - (y + 1)).toNat, by omega, rfl, by show 0 ≤ y + 1; omega, by show y + 1 ≤ 4; omega, fun d q hq => ?_, fun d q d0 d1 q0 q1 => ?_⟩
    · have hq : ¬ (227 ≤ d ∧ d < 229 ∧ 4 * j2 ≤ q ∧ q < 4 * j2 + (y + 1)) := hq
      show zup (zup N 227 _ _) 228 _ _ d q = _
      by_cases e : q = 4 * j2 + y
      · rw [zup_ne (by omega), zup_ne (by omega)]; exact g1 d q (by omega)
      · rw [zup_nk e, zup_nk e]; exact g1 d q (by omega)
    · have q1 : q < y + 1 := q1
      show zup (zup N 227 _ _) 228 _ _ d (4 * j2 + q) = _
      by_cases e : q = y
      · subst e
        have : d = 227 ∨ d = 228 := by omega
        rcases this with rfl | rfl
        · rw [zup_ne (by decide), zup_eq]
        · rw [zup_eq]
      · rw [zup_nk (by omega), zup_nk (by omega)]; exact g2 d q d0 d1 q0 (by omega)
theorem m_lays (h1 : 0 ≤ j1 ∧ j1 < 6) (h2 : 0 ≤ j2 ∧ j2 < 6) (hj : j1 ≠ j2) : zSat (fX12_lays j1 j2 M) (fun N => zLd j1 j2 M N) := by
  unfold fX12_lays
  rw [zgd_t h1, zgd_t h2, zgd_t h1, zgd_t h2, zgd_t h1, zgd_t h2, zup_ne (show (212 : Nat) ≠ 211 by decide), zup_ne (show (213 : Nat) ≠ 212 by decide), zup_ne (show (213 : Nat) ≠ 211 by decide), zS_bd]
  generalize hM1 : zup (zup (zup M 211 j2 (M 211 j1)) 212 j2 (M 212 j1)) 213 j2 (M 213 j1) = M1
  have a0 : ∀ (d : Nat) (q : Int), ¬ (211 ≤ d ∧ d < 214 ∧ q = j2) → M1 d q = M d q := fun d q hq => by
    rw [← hM1]
    by_cases e : q = j2
    · rw [zup_ne (by omega), zup_ne (by omega), zup_ne (by omega)]
    · rw [zup_nk e, zup_nk e, zup_nk e]
  have a1 : ∀ d : Nat, 211 ≤ d → d < 214 → M1 d j2 = M d j1 := fun d d0 d1 => by
    rw [← hM1]
    have : d = 211 ∨ d = 212 ∨ d = 213 := by omega
    rcases this with rfl | rfl | rfl
    · rw [zup_ne (by decide), zup_ne (by decide), zup_eq]
    · rw [zup_ne (by decide), zup_eq]
    · rw [zup_eq]
  refine zs_m (m_lays1 h1 h2 hj) ?_
  rintro ⟨y2, M2⟩ ⟨b1, b2⟩
  dsimp only at b1 b2 ⊢
  rw [zS_bd]
  refine zs_m (m_lays2 h1 h2 hj) ?_
  rintro ⟨y3, M3⟩ ⟨c1, c2⟩
  dsimp only at c1 c2 ⊢
  rw [zS_bd]
  refine zs_m (m_lays3 h1 h2 hj) ?_
  rintro ⟨y4, M4⟩ ⟨d1, d2⟩
  dsimp only at d1 d2 ⊢
  rw [zS_bd]
  refine zs_m (m_lays4 h1 h2 hj) ?_
  rintro ⟨y5, M5⟩ ⟨e1, e2⟩
  dsimp only at e1 e2 ⊢
  rw [zS_bd]
  refine zs_m (m_lays5 h1 h2 hj) ?_
  rintro ⟨y6, M6⟩ ⟨f1, f2⟩
  dsimp only at f1 f2 ⊢
  refine ⟨fun c q hq => ?_, fun c c0 c1' => ?_, fun c q c0 c1' q0 q1 => ?_, fun c q c0 c1' q0 q1 => ?_, fun q q0 q1 => ?_, fun c q c0 c1' q0 q1 => ?_, fun q q0 q1 => ?_⟩
  · unfold zrow at hq
    rw [f1 c q (by omega), e1 c q (by omega), d1 c q (by omega), c1 c q (by omega), b1 c q (by omega), a0 c q (by omega)]
  · rw [f1 c _ (by omega), e1 c _ (by omega), d1 c _ (by omega), c1 c _ (by omega), b1 c _ (by omega), a1 c c0 c1']
  · rw [f1 c _ (by omega), e1 c _ (by omega), d1 c _ (by omega), c1 c _ (by omega), b2 c q c0 (by omega) q0 q1, a0 c _ (by omega)]
  · rw [f1 c _ (by omega), e1 c _ (by omega), d1 c _ (by omega), c2 c q c0 (by omega) q0 q1, b1 c _ (by omega), a0 c _ (by omega)]
  · rw [f1 225 _ (by omega), e1 225 _ (by omega), d2 q q0 q1, c1 225 _ (by omega), b1 225 _ (by omega), a0 225 _ (by omega)]
  · rw [f1 c _ (by omega), e2 c q c0 c1' q0 q1, d1 c _ (by omega), c1 c _ (by omega), b1 c _ (by omega), a0 c _ (by omega)]
  · rw [f2 q q0 q1, e1 229 _ (by omega), d1 229 _ (by omega), c1 229 _ (by omega), b1 229 _ (by omega), a0 229 _ (by omega)]
/-- the model's notes: five rows -/
theorem m_keeps {o : Nat} {m : Int} (hm : 0 ≤ m ∧ m < 4) {x : Int} : zSat (fX12_keeps o 120 m x M) (fun N => zL1 o (if x = 0 then 0 else 24 + 24 * m) (if x = 0 then 24 + 24 * m else 0) 24 M N) := by
  unfold fX12_keeps
  rw [zS_bd]
  refine zit_i2 (fun y N => fX12_keeps_l3 o 120 m x y N) (fun r y N => r = (24 - y).toNat ∧ 0 ≤ y ∧ y ≤ 24 ∧ zL1 o (if x = 0 then 0 else 24 + 24 * m) (if x = 0 then 24 + 24 * m else 0) y M N) ?_ _ ⟨rfl, by omega, by omega, fun d q _ => rfl, fun q q0 q1 => by omega⟩
  rintro r y N ⟨hr, y0, y1, g⟩
  show zSat (fX12_keeps_l3 o 120 m x y N) _
  unfold fX12_keeps_l3
  by_cases c : 24 ≤ y
  · rw [if_pos c]
    have : y = 24 := by omega
    subst this; exact g
  · rw [if_neg c, zw_i (x := y + 1) (by omega) (by omega)]
    by_cases cx : x = 0
    · rw [if_pos cx] at *
      rw [if_pos cx] at g ⊢
      have := g.step (n := 24) ⟨y0, by omega⟩ (by omega)
      rw [show (0 : Int) + y = y by omega] at this
      rw [if_pos cx, zgd_t ⟨by omega, by omega⟩, zgd_t ⟨by omega, by omega⟩]
      exact ⟨(24 - (y + 1)).toNat, by omega, rfl, by show 0 ≤ y + 1; omega, by show y + 1 ≤ 24; omega, this⟩
    · rw [if_neg cx] at *
      rw [if_neg cx] at g ⊢
      have := g.step (n := 24) ⟨y0, by omega⟩ (by omega)
      rw [show (0 : Int) + y = y by omega] at this
      rw [if_neg cx, zgd_t ⟨by omega, by omega⟩, zgd_t ⟨by omega, by omega⟩]
      exact ⟨(24 - (y + 1)).toNat, by omega, rfl, by show 0 ≤ y + 1; omega, by show y + 1 ≤ 24; omega, this⟩
end LAY
