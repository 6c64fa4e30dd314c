/-! PURE PART, 75: PARTS and chains, read by both -/
section SP4
variable {M V M' V' M0 V0 : zMem} {T : Int → Int} {n : Int} {D d fu : Nat}
theorem e_part (h : xJ T n M V) : fX6_part (fu + 1) d M = if xop (M 23 (M 30 3) / 1024) then (if (d : Int) < 5 then zbd (fX7_putCode 60 (xcc (M 23 (M 30 3) / 1024)) (zup M 30 3 (M 30 3 + 1))) (fun M9 => some (1, M9)) else some (0, zup M 30 5 5)) else if (M 23 (M 30 3) / 1024) = 111 then (if (d : Int) < 5 then zbd2 (fX6_part fu ((d : Int) + 1) (zup M 30 3 (M 30 3 + 1))) (fun r10 M13 => if r10 = 0 then some (0, M13) else zbd (fX7_putCode 60 (-111) M13) (fun M9 => some (1, M9))) else some (0, zup M 30 5 5)) else if (M 23 (M 30 3) / 1024) = 40 then (if (d : Int) < 5 then zbd2 (fX6_chain fu 0 ((d : Int) + 1) (zup M 30 3 (M 30 3 + 1))) (fun r14 M17 => if r14 = 0 then some (0, M17) else zbd2 (fX6_take 41 M17) (fun r18 M21 => if r18 = 0 then some (0, M21) else some (1, M21))) else some (0, zup M 30 5 5)) else some (0, zup M 30 5 1) := by
  have rg := xSe_r h.2.2.2.2.1
  have ab := h.2.2.1
  have bb := h.1.2.2
  show fX6_part_s (fX6_chain fu) (fX6_part fu) d M = _
  unfold fX6_part_s
  rw [(e_seen h).1, zbd_s]
  have j71 : ∀ c x3 : Int, fX6_part_j71 (fX6_chain fu) (fX6_part fu) d c x3 M = if (d : Int) < 5 then (if c = 40 then (zbd2 (fX6_chain fu 0 ((d : Int) + 1) (zup M 30 3 (M 30 3 + 1))) fun r14 M17 => (if r14 = 0 then some (0, M17) else (zbd2 (fX6_take 41 M17) fun r18 M21 => (if r18 = 0 then some (0, M21) else some (1, M21))))) else (if c = 111 then (zbd2 (fX6_part fu ((d : Int) + 1) (zup M 30 3 (M 30 3 + 1))) fun r10 M13 => (if r10 = 0 then some (0, M13) else fX6_part_j142 (fX6_chain fu) (fX6_part fu) c x3 M13)) else fX6_part_j142 (fX6_chain fu) (fX6_part fu) c x3 (zup M 30 3 (M 30 3 + 1)))) else some (0, zup M 30 5 5) := fun c x3 => by
    unfold fX6_part_j71
    rw [zw_i (x := M 30 3 + 1) (by omega) (by omega)]
    by_cases e : (d : Int) < 5
    · rw [if_pos e, if_pos e, zw_i (x := (d : Int) + 1) (by omega) (by omega)]
    · rw [if_neg e, if_neg e]; rfl
  generalize (M 23 (M 30 3) / 1024) = c at rg ⊢
  by_cases c1 : 1000 ≤ c
  · rw [if_neg (by omega), if_pos (Or.inl c1)]
    unfold fX6_part_j17 fX6_part_j41 fX6_part_j42
    rw [if_neg (show ¬ c = 103 by omega), if_neg (show ¬ c < 125 by omega), if_pos (show 128 < c by omega), if_neg (show ¬ (1 : Int) = 0 by decide), j71, if_neg (show ¬ c = 40 by omega), if_neg (show ¬ c = 111 by omega)]
    unfold fX6_part_j142 fX6_part_j160 xcc
    rw [if_neg (show ¬ (1 : Int) = 0 by decide), if_pos c1, zw_i (x := c - 1000) (by omega) (by omega)]
  rw [if_pos (by omega)]
  have fact : xop c → fX6_part_j42 (fX6_chain fu) (fX6_part fu) d c 0 1 M = if (d : Int) < 5 then zbd (fX7_putCode 60 (xcc c) (zup M 30 3 (M 30 3 + 1))) (fun M9 => some (1, M9)) else some (0, zup M 30 5 5) := fun hc => by
    unfold fX6_part_j42
    rw [if_pos rfl, if_neg (show ¬ (1 : Int) = 0 by decide), j71, if_neg (show ¬ c = 40 by omega), if_neg (show ¬ c = 111 by omega)]
    unfold fX6_part_j142 fX6_part_j160 xcc
    rw [if_pos rfl, if_neg c1, zw_i (x := -c) (by omega) (by omega)]
  unfold fX6_part_j17 fX6_part_j41 fX6_part_j37
  by_cases c2 : c = 103
  · rw [if_pos c2, if_pos (show xop c by omega)]
    exact fact (by omega)
  rw [if_neg c2]
  have rest : ¬ xop c → fX6_part_j42 (fX6_chain fu) (fX6_part fu) d c 0 0 M = if c = 111 then (if (d : Int) < 5 then zbd2 (fX6_part fu ((d : Int) + 1) (zup M 30 3 (M 30 3 + 1))) (fun r10 M13 => if r10 = 0 then some (0, M13) else zbd (fX7_putCode 60 (-111) M13) (fun M9 => some (1, M9))) else some (0, zup M 30 5 5)) else if c = 40 then (if (d : Int) < 5 then zbd2 (fX6_chain fu 0 ((d : Int) + 1) (zup M 30 3 (M 30 3 + 1))) (fun r14 M17 => if r14 = 0 then some (0, M17) else zbd2 (fX6_take 41 M17) (fun r18 M21 => if r18 = 0 then some (0, M21) else some (1, M21))) else some (0, zup M 30 5 5)) else some (0, zup M 30 5 1) := fun hc => by
    unfold fX6_part_j42
    rw [if_pos rfl, if_pos rfl, j71]
    by_cases c3 : c = 111
    · subst c3
      rw [if_pos rfl, if_neg (show ¬ (111 : Int) = 40 by decide), if_pos rfl, if_pos rfl]
      unfold fX6_part_j142 fX6_part_j160
      rw [zw_i (x := -111) (by decide) (by decide)]
      rfl
    · by_cases c4 : c = 40
      · simp only [if_neg c3, if_pos c4]
      · simp only [if_neg c3, if_neg c4]; rfl
  by_cases c5 : c < 125
  · rw [if_pos c5, if_neg (show ¬ xop c by omega)]
    exact rest (by omega)
  rw [if_neg c5]
  by_cases c6 : 128 < c
  · rw [if_pos c6, if_neg (show ¬ xop c by omega)]
    exact rest (by omega)
  rw [if_neg c6, if_pos (show xop c by omega)]
  exact fact (by omega)
def xRes (T : Int → Int) (n : Int) (M0 V0 M V : zMem) (D : Nat) (f : Option (Int × zMem)) (z : Option ((Int × Int × zMem) ⊕ (Int × zMem))) (P : List Int → List Int → ((Int → Int) → Int) → zMem → zMem → Prop) : Prop := (∃ Mf Vf : zMem, f = some (0, Mf) ∧ z = some (.inr (0, Vf)) ∧ xFt M0 V0 Mf Vf) ∨ ∃ (M' V' : zMem) (lc lm : List Int) (v : (Int → Int) → Int), f = some (1, M') ∧ z = zit xfR ((D : Int), 0, V') ∧ xE M V M' V' lc lm ∧ xP T n M0 V0 M' V' ∧ ((lc.length : Int) + M 30 3 ≤ M' 30 3 ∧ M 30 3 < M' 30 3) ∧ xV3 v ∧ P lc lm v M' V'
def xPp (T : Int → Int) (n : Int) (M0 V0 : zMem) (fu d : Nat) : Prop := ∀ (D : Nat) (M V : zMem), D ≤ d → xP T n M0 V0 M V → (∀ j : Nat, D < j → j ≤ d → V 231 j = 1) → (D = 0 ∨ V 231 D ≠ 1) → xRes T n M0 V0 M V D (fX6_part fu d M) (zit xfR ((d : Int), 1, V)) (fun lc lm v _ V' => xVal (1 + 4 * (5 - d)) lc v ∧ xMp d lm v ∧ ∀ j : Nat, j ≤ D → V' 231 j = V 231 j ∧ V' 232 j = V 232 j)
def xPc (T : Int → Int) (n : Int) (M0 V0 : zMem) (fu L D : Nat) (S : List Int → ((Int → Int) → Int) → Prop) : Prop := ∀ M V : zMem, xP T n M0 V0 M V → (D = 0 ∨ V 231 D ≠ 1) → (L ≤ 1 → V 232 D = 0) → xRes T n M0 V0 M V D (fX6_chain fu L D M) (zit xfR ((D : Int), 1, V)) (fun lc lm v M' V' => xVal (5 - L + 4 * (5 - D)) lc v ∧ S lm v ∧ (∀ j : Nat, j ≤ D → V' 231 j = V 231 j) ∧ (∀ j : Nat, j < D → V' 232 j = V 232 j) ∧ (2 ≤ L → V' 232 D = V 232 D) ∧ xNx L D M' V')
theorem s_part5 : xPp T n M0 V0 (fu + 1) 5 := fun D M V hDd h ho hD => by
  have e := e_part (fu := fu) (d := 5) h.1.1
  have w := m_want (d := 5) h
  have w5 : ∀ a b c : Int, fX12_reads_j65 ((5 : Nat) : Int) 1 a b c V = some (.inr (.inr (0, zup V 200 9 (5 + 16 * V 200 5)))) := fun a b c => m_w5 h
  rw [w5, w5, w5] at w
  obtain ⟨-, -, f3⟩ := s_fail h.1 (k := 5) (by decide) (by decide)
  obtain ⟨-, -, g3⟩ := s_fail h.1 (k := 1) (by decide) (by decide)
  rw [if_neg (show ¬ ((5 : Nat) : Int) < 5 by decide), if_neg (show ¬ ((5 : Nat) : Int) < 5 by decide), if_neg (show ¬ ((5 : Nat) : Int) < 5 by decide)] at e
  by_cases c1 : xop (M 23 (M 30 3) / 1024)
  · rw [if_pos c1] at e w
    exact Or.inl ⟨_, _, e, zit_r w, f3⟩
  rw [if_neg c1] at e w
  by_cases c2 : (M 23 (M 30 3) / 1024) = 111
  · rw [if_pos c2] at e w
    exact Or.inl ⟨_, _, e, zit_r w, f3⟩
  rw [if_neg c2] at e w
  by_cases c3 : (M 23 (M 30 3) / 1024) = 40
  · rw [if_pos c3] at e w
    exact Or.inl ⟨_, _, e, zit_r w, f3⟩
  rw [if_neg c3] at e w
  exact Or.inl ⟨_, _, e, zit_r w, g3⟩
theorem s_part (hd : d < 5) (hc : xPc T n M0 V0 fu 0 (d + 1) (xMc 0 (d + 1))) (hp : xPp T n M0 V0 fu (d + 1)) : xPp T n M0 V0 (fu + 1) d := fun D M V hDd h ho hD => by
  have e := e_part (fu := fu) (d := d) h.1.1
  have rg := xSe_r h.1.1.2.2.2.2.1
  have m13 : zup M 30 3 (M 30 3 + 1) 30 3 = M 30 3 + 1 := zup_eq
  have m160 : zup M 30 3 (M 30 3 + 1) 60 16 = M 60 16 := zup_ne (by decide)
  have hl := h.2.1
  rw [if_pos (show (d : Int) < 5 by omega), if_pos (show (d : Int) < 5 by omega), if_pos (show (d : Int) < 5 by omega)] at e
  by_cases c1 : xop (M 23 (M 30 3) / 1024)
  · rw [if_pos c1] at e
    obtain ⟨W, w1, w2, w3, w4, w5⟩ := m_wOp h c1 hd hDd ho hD
    obtain ⟨R, r1, r2, r3, r4⟩ := s_code w3 (x := xcc (M 23 (M 30 3) / 1024)) (by omega)
    rw [r1, zbd_s] at e
    obtain ⟨v, v1, v2, v3⟩ := s_opsem c1 (by omega)
    refine Or.inr ⟨R, W, _, _, v, e, zit_l w1, w2.trans r2, r3, ⟨by rw [r4, m13]; show ((1 : Nat) : Int) + M 30 3 ≤ _; omega, by rw [r4, m13]; omega⟩, v2, fun F st hs => v1 F st (by omega), v3 d, fun j hj => ⟨by rw [w4], by rw [w5]⟩⟩
  rw [if_neg c1] at e
  by_cases c2 : (M 23 (M 30 3) / 1024) = 111
  · rw [if_pos c2] at e
    obtain ⟨W, w1, w2, w3, w4, w5, w6⟩ := m_wNot (b := 1) h (Or.inl ⟨c2, rfl⟩) hd
    rw [if_pos rfl] at w2
    have go := hp D _ W (by omega) w3 (fun j j0 j1 => by
      by_cases u : j = d + 1
      · rw [u]; exact w5
      · rw [(w4 j (by omega)).1]; exact ho j j0 (by omega)) (by rw [(w4 D hDd).1]; exact hD)
    have ed : (d : Int) + 1 = ((d + 1 : Nat) : Int) := rfl
    rw [ed] at e
    rcases go with ⟨Mf, Vf, a1, a2, a3⟩ | ⟨M2, V2, lc, lm, v, a1, a2, a3, a4, a5, a6, a7, a8, a9⟩
    · rw [a1, zbd2_s] at e
      exact Or.inl ⟨Mf, Vf, e, (zit_l w1).trans a2, a3⟩
    · rw [a1, zbd2_s] at e
      dsimp only at e
      rw [if_neg (show ¬ (1 : Int) = 0 by decide)] at e
      have l16 : M2 60 16 = M 60 16 + lc.length := by rw [a3.1.2.2.2.2.1, m160]
      obtain ⟨R, r1, r2, r3, r4⟩ := s_code a4 (x := -111) (by omega)
      rw [r1, zbd_s] at e
      refine Or.inr ⟨R, V2, ([] ++ lc) ++ [-111], ([30] ++ lm) ++ [], fun F => if v F = 0 then 1 else 0, e, (zit_l w1).trans a2, (w2.trans a3).trans r2, r3, ⟨?_, by omega⟩, ?_, ?_, ?_, fun j hj => ⟨?_, ?_⟩⟩
      · rw [List.length_append, List.nil_append, List.length_singleton, r4]
        omega
      · intro F _
        show z32 (if v F = 0 then 1 else 0)
        split
        · exact ⟨by decide, by decide⟩
        · exact ⟨by decide, by decide⟩
      · intro F st hs
        rw [List.nil_append]
        exact xVal_not a7 F st (by omega)
      · rw [List.append_nil]
        exact xMp_not (by omega) a8
      · rw [(a9 j hj).1, (w4 j (by omega)).1]
      · rw [(a9 j hj).2, (w4 j (by omega)).2]
  rw [if_neg c2] at e
  by_cases c3 : (M 23 (M 30 3) / 1024) = 40
  · rw [if_pos c3] at e
    obtain ⟨W, w1, w2, w3, w4, w5, w6⟩ := m_wNot (b := 2) h (Or.inr ⟨c3, rfl⟩) hd
    rw [if_neg (by decide)] at w2
    have go := hc _ W w3 (Or.inr (by rw [w5]; decide)) (fun _ => w6)
    have ed : (d : Int) + 1 = ((d + 1 : Nat) : Int) := rfl
    rw [ed] at e
    rcases go with ⟨Mf, Vf, a1, a2, a3⟩ | ⟨M2, V2, lc, lm, v, a1, a2, a3, a4, a5, a6, a7, a8, a9, b1, -, b3⟩
    · have a1 : fX6_chain fu 0 ((d + 1 : Nat) : Int) (zup M 30 3 (M 30 3 + 1)) = some (0, Mf) := a1
      rw [a1, zbd2_s] at e
      exact Or.inl ⟨Mf, Vf, e, (zit_l w1).trans a2, a3⟩
    · have a1 : fX6_chain fu 0 ((d + 1 : Nat) : Int) (zup M 30 3 (M 30 3 + 1)) = some (1, M2) := a1
      rw [a1, zbd2_s] at e
      dsimp only at e
      rw [if_neg (show ¬ (1 : Int) = 0 by decide), e_take a4.1.1] at e
      have st := m_stop (D := d + 1) a4 (by omega) b3
      by_cases c4 : (M2 23 (M2 30 3) / 1024) = 41
      · rw [if_pos c4, zbd2_s] at e
        dsimp only at e
        rw [if_neg (show ¬ (1 : Int) = 0 by decide)] at e
        obtain ⟨W2, x1, x2, x3, x4, x5⟩ := s_step a4 (by omega) (by omega) (c := 29) (V2 := xpu V2 29) (fun _ _ _ => rfl)
        rw [xpu_c (by decide) (by decide)] at x4 x5
        have op : ∀ j : Nat, j ≤ d → V2 231 j = V 231 j := fun j hj => by rw [a9 j (by omega), (w4 j hj).1]
        have pop := m_pop2 (V := xpu V2 29) (D := D) (y := 0) (d := d) hDd (by omega) (by rw [xpu_c (by decide) (by decide)]; exact fun j j0 j1 => by rw [op j j1]; exact ho j j0 j1) (by rw [xpu_c (by decide) (by decide), op D hDd]; exact hD)
        rw [if_pos ⟨c4, by omega⟩, m_puts a4, zbd_s, zw_i (by omega) (by omega), show ((d + 1 : Nat) : Int) + -1 = d by omega, pop, zbd_s] at st
        unfold fX12_reads_j424 at st
        rw [x1, zbd_s] at st
        have n13 : zup M2 30 3 (M2 30 3 + 1) 30 3 = M2 30 3 + 1 := zup_eq
        refine Or.inr ⟨_, W2, _, _, v, e, ((zit_l w1).trans a2).trans (zit_l st), (w2.trans a3).trans x2, x3, ⟨?_, by rw [n13]; omega⟩, a6, ?_, ?_, fun j hj => ⟨?_, ?_⟩⟩
        · rw [n13]
          show ((([] ++ lc) ++ [] : List Int).length : Int) + M 30 3 ≤ _
          rw [List.append_nil, List.nil_append]
          omega
        · intro F st hs
          rw [List.append_nil, List.nil_append]
          exact a7 F st (by omega)
        · show xMp d ([28] ++ lm ++ [29]) v
          have := xMp_par (d := d) (by omega) a8
          exact this
        · rw [x4, op j (by omega)]
        · rw [x5, b1 j (by omega), (w4 j (by omega)).2]
      · rw [if_neg c4, zbd2_s] at e
        obtain ⟨-, f2, f3⟩ := s_fail a4.1 (k := 1) (by decide) (by decide)
        rw [if_neg (fun q => c4 q.1)] at st
        unfold fX12_reads_j399 fX12_reads_j418 at st
        rw [if_neg (by omega), f2] at st
        exact Or.inl ⟨_, _, e, ((zit_l w1).trans a2).trans (zit_r st), f3⟩
  rw [if_neg c3] at e
  have w := m_want (d := d) h
  rw [if_neg c1, if_neg c2, if_neg c3] at w
  obtain ⟨-, -, g3⟩ := s_fail h.1 (k := 1) (by decide) (by decide)
  exact Or.inl ⟨_, _, e, zit_r w, g3⟩
end SP4
