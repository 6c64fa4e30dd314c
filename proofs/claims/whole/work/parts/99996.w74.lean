/-! PURE PART, 74: the model's steps while it reads a law -/
section SP3
variable {M V M' V' M0 V0 : zMem} {T : Int → Int} {n : Int} {D d : Nat}
abbrev xop (c : Int) : Prop := 1000 ≤ c ∨ c = 103 ∨ (125 ≤ c ∧ c ≤ 128)
/-- an operand's code: the model's, the class's -/
def xmc (c : Int) : Int := if 1000 ≤ c then 100 + (c - 1000) else if c = 103 then 5 else c - 124
def xcc (c : Int) : Int := if 1000 ≤ c then c - 1000 else -c
theorem s_opsem {c : Int} (h : xop c) (hc : c ≤ 10999) : ∃ v : (Int → Int) → Int, xVal 1 [xcc c] v ∧ xV3 v ∧ ∀ d : Nat, xMp d [xmc c] v := by
  by_cases c1 : 1000 ≤ c
  · refine ⟨fun _ => c - 1000, ?_, fun F _ => ⟨by show -2147483648 ≤ c - 1000; omega, by show c - 1000 ≤ 2147483647; omega⟩, fun d => ?_⟩
    · have := xVal_op (c := c - 1000) (by omega) (by unfold zop; rw [decide_eq_true (by omega)]; rfl)
      unfold xcc
      rw [if_pos c1]
      have e : (fun F => zro F (c - 1000)) = fun _ => c - 1000 := funext fun F => by unfold zro; rw [if_pos (by omega)]
      rw [e] at this; exact this
    · unfold xmc
      rw [if_pos c1]
      exact xMp_num (by omega) (by omega)
  · have f : ∃ f : Int, 1 ≤ f ∧ f ≤ 5 ∧ xmc c = f ∧ zop (-c) = true ∧ ∀ F : Int → Int, zro F (-c) = F f := by
      have : c = 103 ∨ c = 125 ∨ c = 126 ∨ c = 127 ∨ c = 128 := by omega
      rcases this with rfl | rfl | rfl | rfl | rfl
      · exact ⟨5, by decide, by decide, by decide, by decide, fun F => by unfold zro; rw [if_neg (by decide), if_pos (by decide)]⟩
      · exact ⟨1, by decide, by decide, by decide, by decide, fun F => by unfold zro; rw [if_neg (by decide), if_neg (by decide), if_pos (by decide)]⟩
      · exact ⟨2, by decide, by decide, by decide, by decide, fun F => by unfold zro; rw [if_neg (by decide), if_neg (by decide), if_neg (by decide), if_pos (by decide)]⟩
      · exact ⟨3, by decide, by decide, by decide, by decide, fun F => by unfold zro; rw [if_neg (by decide), if_neg (by decide), if_neg (by decide), if_neg (by decide), if_pos (by decide)]⟩
      · exact ⟨4, by decide, by decide, by decide, by decide, fun F => by unfold zro; rw [if_neg (by decide), if_neg (by decide), if_neg (by decide), if_neg (by decide), if_neg (by decide)]⟩
    obtain ⟨f, f0, f1, f2, f3, f4⟩ := f
    refine ⟨fun F => F f, ?_, fun F hF => hF f f0 f1, fun d => by rw [f2]; exact xMp_fact f0 f1⟩
    have := xVal_op (c := -c) (by omega) f3
    unfold xcc
    rw [if_neg c1]
    have e : (fun F => zro F (-c)) = fun F => F f := funext fun F => f4 F
    rw [e] at this; exact this
theorem xpu_c {c : Int} {k : Nat} (h1 : k ≠ 200) (h2 : k ≠ 229) : xpu V c k = V k := by unfold xpu; rw [zup_c h1, zup_c h2]
/-- at a PART -/
theorem m_want (h : xP T n M0 V0 M V) : xfR ((d : Int), 1, V) = if xop (M 23 (M 30 3) / 1024) then fX12_reads_j65 d 1 (if 1000 ≤ (M 23 (M 30 3) / 1024) then 0 else xmc (M 23 (M 30 3) / 1024)) 0 0 V else if (M 23 (M 30 3) / 1024) = 111 then fX12_reads_j65 d 1 0 1 0 V else if (M 23 (M 30 3) / 1024) = 40 then fX12_reads_j65 d 1 0 0 1 V else some (.inr (.inr (0, zup V 200 9 (1 + 16 * V 200 5)))) := by
  have hJ := h.1.1
  have rg := xSe_r hJ.2.2.2.2.1
  have s2 := xSe_2 hJ.2.2.2.2.1
  obtain ⟨-, f2, -⟩ := s_fail h.1 (k := 1) (by decide) (by decide)
  unfold xfR
  show fX12_reads_l11 d 1 V = _
  unfold fX12_reads_l11
  rw [if_neg (show ¬ (1 : Int) = 0 by decide), m_fact hJ, zbd_s, m_isWord hJ (k := 11) (by omega) xwk_11.symm, zbd_s, m_isSign hJ (s := 40) (by decide), zbd_s, f2]
  generalize (M 23 (M 30 3) / 1024) = c at rg s2 ⊢
  by_cases c1 : 1000 ≤ c
  · rw [if_neg (show ¬ c = 125 by omega), if_neg (show ¬ c = 126 by omega), if_neg (show ¬ c = 127 by omega), if_neg (show ¬ c = 128 by omega), if_neg (show ¬ c = 103 by omega), if_neg (show ¬ c = 100 + ((11 : Nat) : Int) by omega), if_neg (show ¬ c = 40 by omega), if_pos rfl, if_pos rfl, if_pos rfl, if_pos (s2.1.2 c1), if_pos (Or.inl c1), if_pos c1]
  · have t2 : ¬ V 200 6 = 2 := fun q => c1 (s2.1.1 q)
    rw [if_neg t2]
    by_cases c2 : c = 103
    · subst c2
      rw [if_pos (show xop 103 by decide)]
      rfl
    by_cases c3 : c = 125
    · subst c3
      rw [if_pos (show xop 125 by decide)]
      rfl
    by_cases c4 : c = 126
    · subst c4
      rw [if_pos (show xop 126 by decide)]
      rfl
    by_cases c5 : c = 127
    · subst c5
      rw [if_pos (show xop 127 by decide)]
      rfl
    by_cases c6 : c = 128
    · subst c6
      rw [if_pos (show xop 128 by decide)]
      rfl
    rw [if_neg c3, if_neg c4, if_neg c5, if_neg c6, if_neg c2, if_pos (show (0 : Int) = 0 from rfl), if_neg (show ¬ xop c by omega)]
    by_cases c7 : c = 111
    · subst c7
      rfl
    rw [if_neg (show ¬ c = 100 + ((11 : Nat) : Int) by omega), if_pos (show (0 : Int) = 0 from rfl), if_neg c7]
    by_cases c8 : c = 40
    · subst c8
      rfl
    rw [if_neg c8, if_pos (show (0 : Int) = 0 from rfl), if_neg c8]
    rfl
theorem m_w5 (h : xP T n M0 V0 M V) {a b c : Int} : fX12_reads_j65 5 1 a b c V = some (.inr (.inr (0, zup V 200 9 (5 + 16 * V 200 5)))) := by
  obtain ⟨-, f2, -⟩ := s_fail h.1 (k := 5) (by decide) (by decide)
  unfold fX12_reads_j65
  rw [if_pos rfl, f2]
  rfl
theorem m_wOp (h : xP T n M0 V0 M V) (hc : xop (M 23 (M 30 3) / 1024)) (hd : d < 5) (hDd : D ≤ d) (ho : ∀ j : Nat, D < j → j ≤ d → V 231 j = 1) (hD : D = 0 ∨ V 231 D ≠ 1) : ∃ W : zMem, xfR ((d : Int), 1, V) = some (.inl ((D : Int), 0, W)) ∧ xE M V (zup M 30 3 (M 30 3 + 1)) W [] [xmc (M 23 (M 30 3) / 1024)] ∧ xP T n M0 V0 (zup M 30 3 (M 30 3 + 1)) W ∧ W 231 = V 231 ∧ W 232 = V 232 := by
  have rg := xSe_r h.1.1.2.2.2.2.1
  have s2 := xSe_2 h.1.1.2.2.2.2.1
  have e : fX12_reads_j65 d 1 (if 1000 ≤ (M 23 (M 30 3) / 1024) then 0 else xmc (M 23 (M 30 3) / 1024)) 0 0 V = fX12_reads_j147 d 1 (xmc (M 23 (M 30 3) / 1024)) V := by
    unfold fX12_reads_j65
    rw [if_neg (by omega), if_pos rfl, if_pos rfl]
    by_cases c1 : 1000 ≤ (M 23 (M 30 3) / 1024)
    · rw [if_pos c1, if_pos (by decide), s2.2 (s2.1.2 c1), zw_i (by omega) (by omega)]
      unfold xmc
      rw [if_pos c1]
    · rw [if_neg c1, if_neg]
      unfold xmc
      rw [if_neg c1]
      split <;> omega
  rw [m_want h, if_pos hc, e]
  unfold fX12_reads_j147 fX12_reads_j172
  rw [m_puts h, zbd_s]
  obtain ⟨W, w1, w2, w3, w4, w5⟩ := s_step h (by omega) (by omega) (c := xmc (M 23 (M 30 3) / 1024)) (V2 := xpu V (xmc (M 23 (M 30 3) / 1024))) (fun _ _ _ => rfl)
  rw [xpu_c (by decide) (by decide)] at w4 w5
  have pop := m_pop (V := xpu V (xmc (M 23 (M 30 3) / 1024))) (D := D) (y := 0) d hDd (by omega) (by rw [xpu_c (by decide) (by decide)]; exact ho) (by rw [xpu_c (by decide) (by decide)]; exact hD)
  rw [pop, zbd_s, w1, zbd_s]
  exact ⟨W, rfl, w2, w3, w4, w5⟩
theorem m_wNot (h : xP T n M0 V0 M V) {b : Int} (hb : ((M 23 (M 30 3) / 1024) = 111 ∧ b = 1) ∨ ((M 23 (M 30 3) / 1024) = 40 ∧ b = 2)) (hd : d < 5) : ∃ W : zMem, xfR ((d : Int), 1, V) = some (.inl (((d + 1 : Nat) : Int), 1, W)) ∧ xE M V (zup M 30 3 (M 30 3 + 1)) W [] [if b = 1 then 30 else 28] ∧ xP T n M0 V0 (zup M 30 3 (M 30 3 + 1)) W ∧ (∀ j : Nat, j ≤ d → W 231 j = V 231 j ∧ W 232 j = V 232 j) ∧ W 231 ((d + 1 : Nat) : Int) = b ∧ W 232 ((d + 1 : Nat) : Int) = 0 := by
  have hJ := h.1.1
  obtain ⟨W, w1, w2, w3, w4, w5⟩ := s_step h (by omega) (by omega) (c := if b = 1 then 30 else 28) (V2 := zup (zup (xpu V (if b = 1 then 30 else 28)) 231 ((d : Int) + 1) b) 232 ((d : Int) + 1) 0) (fun c c1 c2 => by rw [zup_c c2, zup_c c1])
  refine ⟨W, ?_, w2, w3, fun j hj => ⟨?_, ?_⟩, ?_, ?_⟩
  · rw [m_want h]
    rcases hb with ⟨b1, b2⟩ | ⟨b1, b2⟩
    · subst b2
      rw [b1, if_neg (by decide), if_pos rfl]
      unfold fX12_reads_j65 fX12_reads_j86 fX12_reads_j99 fX12_reads_j120 fX12_reads_j172
      rw [if_neg (by omega), if_neg (by decide), if_neg (by decide), m_puts h, zbd_s, if_neg (by decide), zw_i (x := (d : Int) + 1) (by omega) (by omega), zgd_t ⟨by omega, by omega⟩, zgd_t ⟨by omega, by omega⟩]
      rw [if_pos rfl] at w1
      rw [w1, zbd_s]; rfl
    · subst b2
      rw [b1, if_neg (by decide), if_neg (by decide), if_pos rfl]
      unfold fX12_reads_j65 fX12_reads_j86 fX12_reads_j99 fX12_reads_j120 fX12_reads_j172
      rw [if_neg (by omega), if_pos rfl, if_neg (by decide), if_pos rfl, m_puts h, zbd_s, if_pos rfl, zw_i (x := (d : Int) + 1) (by omega) (by omega), zgd_t ⟨by omega, by omega⟩, zgd_t ⟨by omega, by omega⟩]
      rw [if_neg (by decide)] at w1
      rw [w1, zbd_s]; rfl
  · rw [w4, zup_ne (by decide), zup_nk (by omega), xpu_c (by decide) (by decide)]
  · rw [w5, zup_nk (by omega), zup_ne (by decide), xpu_c (by decide) (by decide)]
  · rw [w4, zup_ne (by decide)]; exact zup_eq
  · rw [w5]; exact zup_eq
/-- levels of the signs -/
def xlv (c : Int) : Int := if c = 42 then 3 else if c = 43 then 2 else if c = 45 then 2 else if c = 60 then 1 else if c = 61 then 1 else if c = 112 then 0 else if c = 113 then 0 else -1
theorem e_levelOf {c : Int} : fX6_levelOf c M = some (xlv c) := by
  unfold fX6_levelOf xlv
  simp only [apply_ite (some : Int → Option Int)]
def xoc (c : Int) : Int := if c = 42 then 22 else if c = 43 then 20 else if c = 45 then 21 else if c = 60 then 24 else if c = 61 then 25 else if c = 112 then 26 else 27
theorem xlv_c {c : Int} {L : Nat} (h : xlv c = L) : (L = 3 ∧ c = 42) ∨ (L = 2 ∧ (c = 43 ∨ c = 45)) ∨ (L = 1 ∧ (c = 60 ∨ c = 61)) ∨ (L = 0 ∧ (c = 112 ∨ c = 113)) := by
  unfold xlv at h
  by_cases c1 : c = 42
  · rw [if_pos c1] at h; omega
  rw [if_neg c1] at h
  by_cases c2 : c = 43
  · rw [if_pos c2] at h; omega
  rw [if_neg c2] at h
  by_cases c3 : c = 45
  · rw [if_pos c3] at h; omega
  rw [if_neg c3] at h
  by_cases c4 : c = 60
  · rw [if_pos c4] at h; omega
  rw [if_neg c4] at h
  by_cases c5 : c = 61
  · rw [if_pos c5] at h; omega
  rw [if_neg c5] at h
  by_cases c6 : c = 112
  · rw [if_pos c6] at h; omega
  rw [if_neg c6] at h
  by_cases c7 : c = 113
  · rw [if_pos c7] at h; omega
  rw [if_neg c7] at h; omega
/-- the model between operands: all its questions -/
theorem m_op (h : xP T n M0 V0 M V) {L : Nat} (hc : xlv (M 23 (M 30 3) / 1024) = L) (hD : D < 7) (h1 : L = 1 → V 232 D = 0) : ∃ W : zMem, xfR ((D : Int), 0, V) = some (.inl ((D : Int), 1, W)) ∧ xE M V (zup M 30 3 (M 30 3 + 1)) W [] [xoc (M 23 (M 30 3) / 1024)] ∧ xP T n M0 V0 (zup M 30 3 (M 30 3 + 1)) W ∧ W 231 = V 231 ∧ (∀ j : Nat, j ≠ D → W 232 j = V 232 j) ∧ (L = 0 → W 232 D = 0) ∧ (L = 1 → W 232 D = 1) ∧ (2 ≤ L → W 232 D = V 232 D) := by
  have hJ := h.1.1
  have cc := xlv_c hc
  have q43 := m_isSign hJ (s := 43) (by decide)
  have q45 := m_isSign hJ (s := 45) (by decide)
  have q42 := m_isSign hJ (s := 42) (by decide)
  have q60 := m_isSign hJ (s := 60) (by decide)
  have q61 := m_isSign hJ (s := 61) (by decide)
  have w12 := m_isWord hJ (k := 12) (by omega) xwk_12.symm
  have w13 := m_isWord hJ (k := 13) (by omega) xwk_13.symm
  have c0 : (M 23 (M 30 3) / 1024) ≠ 0 := by omega
  have c1 : (M 23 (M 30 3) / 1024) ≠ 1 := by omega
  generalize hcc : (M 23 (M 30 3) / 1024) = c at *
  unfold xfR
  show ∃ W : zMem, fX12_reads_l11 D 0 V = some (.inl ((D : Int), 1, W)) ∧ _
  unfold fX12_reads_l11
  rw [if_pos rfl, q43, zbd_s]
  -- + - *
  have sums : ∀ k : Int, xoc c = k → 2 ≤ L → ∃ W : zMem, fX12_reads_j237 D 0 k V = some (.inl ((D : Int), 1, W)) ∧ xE M V (zup M 30 3 (M 30 3 + 1)) W [] [xoc c] ∧ xP T n M0 V0 (zup M 30 3 (M 30 3 + 1)) W ∧ W 231 = V 231 ∧ (∀ j : Nat, j ≠ D → W 232 j = V 232 j) ∧ (L = 0 → W 232 D = 0) ∧ (L = 1 → W 232 D = 1) ∧ (2 ≤ L → W 232 D = V 232 D) := fun k hk hL => by
    obtain ⟨W, w1, w2, w3, w4, w5⟩ := s_step h (by rw [hcc]; exact c0) (by rw [hcc]; exact c1) (c := k) (V2 := xpu V k) (fun _ _ _ => rfl)
    rw [xpu_c (by decide) (by decide)] at w4 w5
    unfold fX12_reads_j237 fX12_reads_j424
    rw [m_puts h, zbd_s, w1, zbd_s, hk]
    exact ⟨W, rfl, w2, w3, w4, fun j _ => by rw [w5], fun q => by omega, fun q => by omega, fun _ => by rw [w5]⟩
  rcases cc with ⟨l1, rfl⟩ | ⟨l1, rfl | rfl⟩ | ⟨l1, l2⟩ | ⟨l1, l2⟩
  · rw [if_neg (show ¬ (42 : Int) = 43 by decide), if_pos rfl, q45, zbd_s, if_neg (show ¬ (42 : Int) = 45 by decide), if_pos rfl, q42, zbd_s, if_pos rfl, if_neg (show ¬ (1 : Int) = 0 by decide)]
    unfold fX12_reads_j206
    rw [q43, zbd_s, if_neg (show ¬ (42 : Int) = 43 by decide), if_pos rfl, q45, zbd_s, if_neg (show ¬ (42 : Int) = 45 by decide), if_pos rfl]
    exact sums 22 (by decide) (by omega)
  · rw [if_pos rfl, if_neg (show ¬ (1 : Int) = 0 by decide)]
    unfold fX12_reads_j206
    rw [q43, zbd_s, if_pos rfl, if_neg (show ¬ (1 : Int) = 0 by decide)]
    exact sums 20 (by decide) (by omega)
  · rw [if_neg (show ¬ (45 : Int) = 43 by decide), if_pos rfl, q45, zbd_s, if_pos rfl, if_neg (show ¬ (1 : Int) = 0 by decide)]
    unfold fX12_reads_j206
    rw [q43, zbd_s, if_neg (show ¬ (45 : Int) = 43 by decide), if_pos rfl, q45, zbd_s, if_pos rfl, if_neg (show ¬ (1 : Int) = 0 by decide)]
    exact sums 21 (by decide) (by omega)
  · have z := h1 l1
    have fin : ∀ k : Int, xoc c = k → ∃ W : zMem, fX12_reads_j289 D 0 k V = some (.inl ((D : Int), 1, W)) ∧ xE M V (zup M 30 3 (M 30 3 + 1)) W [] [xoc c] ∧ xP T n M0 V0 (zup M 30 3 (M 30 3 + 1)) W ∧ W 231 = V 231 ∧ (∀ j : Nat, j ≠ D → W 232 j = V 232 j) ∧ (L = 0 → W 232 D = 0) ∧ (L = 1 → W 232 D = 1) ∧ (2 ≤ L → W 232 D = V 232 D) := fun k hk => by
      obtain ⟨W, w1, w2, w3, w4, w5⟩ := s_step h (by rw [hcc]; exact c0) (by rw [hcc]; exact c1) (c := k) (V2 := zup (xpu V k) 232 D 1) (fun d d1 d2 => zup_c d2)
      unfold fX12_reads_j289 fX12_reads_j424
      rw [m_puts h, zbd_s, zgd_t ⟨by omega, by omega⟩, w1, zbd_s, hk]
      exact ⟨W, rfl, w2, w3, by rw [w4, zup_c (by decide), xpu_c (by decide) (by decide)], fun j hj => by rw [w5, zup_nk (by omega), xpu_c (by decide) (by decide)], fun q => by omega, fun q => by rw [w5, zup_eq], fun q => by omega⟩
    have gate : ∃ W : zMem, fX12_reads_j263 D 0 V = some (.inl ((D : Int), 1, W)) ∧ xE M V (zup M 30 3 (M 30 3 + 1)) W [] [xoc c] ∧ xP T n M0 V0 (zup M 30 3 (M 30 3 + 1)) W ∧ W 231 = V 231 ∧ (∀ j : Nat, j ≠ D → W 232 j = V 232 j) ∧ (L = 0 → W 232 D = 0) ∧ (L = 1 → W 232 D = 1) ∧ (2 ≤ L → W 232 D = V 232 D) := by
      unfold fX12_reads_j263
      rw [zgd_t ⟨by omega, by omega⟩, if_pos z, q60, zbd_s]
      rcases l2 with rfl | rfl
      · rw [if_pos rfl, if_neg (show ¬ (1 : Int) = 0 by decide)]; exact fin 24 (by decide)
      · rw [if_neg (show ¬ (61 : Int) = 60 by decide), if_pos rfl]; exact fin 25 (by decide)
    rw [if_neg (show ¬ c = 43 by omega), if_pos rfl, q45, zbd_s, if_neg (show ¬ c = 45 by omega), if_pos rfl, q42, zbd_s, if_neg (show ¬ c = 42 by omega), if_pos rfl, q60, zbd_s]
    rcases l2 with l2 | l2
    · rw [if_pos l2, if_neg (show ¬ (1 : Int) = 0 by decide)]; exact gate
    · rw [if_neg (show ¬ c = 60 by omega), if_pos rfl, q61, zbd_s, if_pos l2, if_neg (show ¬ (1 : Int) = 0 by decide)]; exact gate
  · have fin : ∀ k : Int, xoc c = k → ∃ W : zMem, fX12_reads_j342 D 0 k V = some (.inl ((D : Int), 1, W)) ∧ xE M V (zup M 30 3 (M 30 3 + 1)) W [] [xoc c] ∧ xP T n M0 V0 (zup M 30 3 (M 30 3 + 1)) W ∧ W 231 = V 231 ∧ (∀ j : Nat, j ≠ D → W 232 j = V 232 j) ∧ (L = 0 → W 232 D = 0) ∧ (L = 1 → W 232 D = 1) ∧ (2 ≤ L → W 232 D = V 232 D) := fun k hk => by
      obtain ⟨W, w1, w2, w3, w4, w5⟩ := s_step h (by rw [hcc]; exact c0) (by rw [hcc]; exact c1) (c := k) (V2 := zup (xpu V k) 232 D 0) (fun d d1 d2 => zup_c d2)
      unfold fX12_reads_j342 fX12_reads_j424
      rw [m_puts h, zbd_s, zgd_t ⟨by omega, by omega⟩, w1, zbd_s, hk]
      exact ⟨W, rfl, w2, w3, by rw [w4, zup_c (by decide), xpu_c (by decide) (by decide)], fun j hj => by rw [w5, zup_nk (by omega), xpu_c (by decide) (by decide)], fun q => by rw [w5, zup_eq], fun q => by omega, fun q => by omega⟩
    rw [if_neg (show ¬ c = 43 by omega), if_pos rfl, q45, zbd_s, if_neg (show ¬ c = 45 by omega), if_pos rfl, q42, zbd_s, if_neg (show ¬ c = 42 by omega), if_pos rfl, q60, zbd_s, if_neg (show ¬ c = 60 by omega), if_pos rfl, q61, zbd_s, if_neg (show ¬ c = 61 by omega), if_pos rfl]
    unfold fX12_reads_j304 fX12_reads_j324
    rw [w12, zbd_s]
    rcases l2 with rfl | rfl
    · rw [if_pos (show (112 : Int) = 100 + ((12 : Nat) : Int) by decide), if_neg (show ¬ (1 : Int) = 0 by decide), zbd_s, if_neg (show ¬ (1 : Int) = 0 by decide)]; exact fin 26 (by decide)
    · rw [if_neg (show ¬ (113 : Int) = 100 + ((12 : Nat) : Int) by decide), if_pos rfl, w13, zbd_s, if_pos (show (113 : Int) = 100 + ((13 : Nat) : Int) by decide), if_neg (show ¬ (1 : Int) = 0 by decide), zbd_s, if_pos rfl]; exact fin 27 (by decide)
/-- what may stand behind a chain -/
def xNx (L D : Nat) (M V : zMem) : Prop := (L ≤ 3 → (M 23 (M 30 3) / 1024) ≠ 42) ∧ (L ≤ 2 → (M 23 (M 30 3) / 1024) ≠ 43 ∧ (M 23 (M 30 3) / 1024) ≠ 45) ∧ (L ≤ 1 → ((M 23 (M 30 3) / 1024) = 60 ∨ (M 23 (M 30 3) / 1024) = 61) → V 232 D ≠ 0) ∧ (L = 0 → (M 23 (M 30 3) / 1024) ≠ 112 ∧ (M 23 (M 30 3) / 1024) ≠ 113)
theorem m_stop (h : xP T n M0 V0 M V) (hD : D < 7) (hx : xNx 0 D M V) : xfR ((D : Int), 0, V) = if (M 23 (M 30 3) / 1024) = 41 ∧ 0 < D then (zbd (fX12_puts 29 V) fun M69 => (zbd (zit (fun s71 => fX12_reads_l379 0 s71 M69) (zw ((D : Int) + (-1)))) fun s77 => fX12_reads_j424 s77 0 M69)) else fX12_reads_j399 D 0 V := by
  have hJ := h.1.1
  have q43 := m_isSign hJ (s := 43) (by decide)
  have q45 := m_isSign hJ (s := 45) (by decide)
  have q42 := m_isSign hJ (s := 42) (by decide)
  have q60 := m_isSign hJ (s := 60) (by decide)
  have q61 := m_isSign hJ (s := 61) (by decide)
  have q41 := m_isSign hJ (s := 41) (by decide)
  have w12 := m_isWord hJ (k := 12) (by omega) xwk_12.symm
  have w13 := m_isWord hJ (k := 13) (by omega) xwk_13.symm
  obtain ⟨x1, x2, x3, x4⟩ := hx
  have x1 := x1 (by omega)
  have x2 := x2 (by omega)
  have x3 := x3 (by omega)
  have x4 := x4 rfl
  generalize (M 23 (M 30 3) / 1024) = c at *
  unfold xfR
  show fX12_reads_l11 D 0 V = _
  have j304 : fX12_reads_j304 D 0 V = if c = 41 ∧ 0 < D then (zbd (fX12_puts 29 V) fun M69 => (zbd (zit (fun s71 => fX12_reads_l379 0 s71 M69) (zw ((D : Int) + (-1)))) fun s77 => fX12_reads_j424 s77 0 M69)) else fX12_reads_j399 D 0 V := by
    unfold fX12_reads_j304
    rw [w12, zbd_s, if_neg (show ¬ c = 100 + ((12 : Nat) : Int) by omega), if_pos rfl, w13, zbd_s, if_neg (show ¬ c = 100 + ((13 : Nat) : Int) by omega), if_pos rfl, q41, zbd_s]
    by_cases d : c = 41
    · rw [if_pos d, if_neg (show ¬ (1 : Int) = 0 by decide)]
      by_cases f : 0 < D
      · rw [if_neg (by omega), if_pos ⟨d, f⟩]
      · rw [if_pos (by omega), if_neg (fun q => f q.2)]
    · rw [if_neg d, if_pos rfl, if_neg (fun q => d q.1)]
  have gate : (c = 60 ∨ c = 61) → fX12_reads_j263 D 0 V = fX12_reads_j304 D 0 V := fun hc => by
    unfold fX12_reads_j263
    rw [zgd_t ⟨by omega, by omega⟩, if_neg (x3 hc)]
  unfold fX12_reads_l11
  rw [if_pos rfl, q43, zbd_s, if_neg x2.1, if_pos rfl, q45, zbd_s, if_neg x2.2, if_pos rfl, q42, zbd_s, if_neg x1, if_pos rfl, q60, zbd_s]
  by_cases d : c = 60
  · rw [if_pos d, if_neg (show ¬ (1 : Int) = 0 by decide), gate (Or.inl d)]; exact j304
  rw [if_neg d, if_pos rfl, q61, zbd_s]
  by_cases f : c = 61
  · rw [if_pos f, if_neg (show ¬ (1 : Int) = 0 by decide), gate (Or.inr f)]; exact j304
  rw [if_neg f, if_pos rfl]
  exact j304
end SP3
