/-! PURE PART, 76: chains of every level -/
section SP5
variable {M V M' V' M0 V0 : zMem} {T : Int → Int} {n : Int} {D d fu L : Nat}
theorem s_chain4 (h : xPp T n M0 V0 fu D) : xPc T n M0 V0 (fu + 1) 4 D (xMp D) := fun M V hP hD _ => by
  have e : fX6_chain (fu + 1) ((4 : Nat) : Int) D M = fX6_part fu D M := by
    show fX6_chain_s (fX6_chain fu) (fX6_part fu) 4 D M = _
    unfold fX6_chain_s
    rw [if_neg (by decide)]
    cases fX6_part fu D M with
    | none => rfl
    | some x => rfl
  rw [e]
  rcases h D M V (Nat.le_refl _) hP (fun j j0 j1 => by omega) hD with q | ⟨M', V', lc, lm, v, a1, a2, a3, a4, a5, a6, a7, a8, a9⟩
  · exact Or.inl q
  · exact Or.inr ⟨M', V', lc, lm, v, a1, a2, a3, a4, a5, a6, a7, a8, fun j hj => (a9 j hj).1, fun j hj => (a9 j (by omega)).2, fun _ => (a9 D (Nat.le_refl _)).2, fun q => by omega, fun q => by omega, fun q => by omega, fun q => by omega⟩
theorem xNx_c (h : xNx L D M V) (h1 : M' 23 = M 23) (h2 : M' 30 3 = M 30 3) (h3 : V' 232 D = V 232 D) : xNx L D M' V' := by
  unfold xNx at h ⊢
  rw [h1, h2, h3]; exact h
/-- one sign and its operand behind a chain -/
theorem s_more (hL : L ≤ 3) (hD5 : D ≤ 5) {S : List Int → ((Int → Int) → Int) → Prop} (hop : xPc T n M0 V0 fu (L + 1) D S) {M1 V1 : zMem} (hP : xP T n M0 V0 M1 V1) (hc : xlv ((M1 23 (M1 30 3) / 1024)) = L) (hD : D = 0 ∨ V1 231 D ≠ 1) (h1 : L = 1 → V1 232 D = 0) : (∃ Mf Vf : zMem, fX6_chain fu ((L : Int) + 1) D (zup M1 30 3 (M1 30 3 + 1)) = some (0, Mf) ∧ zit xfR ((D : Int), 0, V1) = some (.inr (0, Vf)) ∧ xFt M0 V0 Mf Vf) ∨ ∃ (M2 R V2 : zMem) (l2 m2 : List Int) (v2 : (Int → Int) → Int), fX6_chain fu ((L : Int) + 1) D (zup M1 30 3 (M1 30 3 + 1)) = some (1, M2) ∧ fX7_putCode 60 (-((M1 23 (M1 30 3) / 1024))) M2 = some R ∧ zit xfR ((D : Int), 0, V1) = zit xfR ((D : Int), 0, V2) ∧ xE M1 V1 R V2 (l2 ++ [-((M1 23 (M1 30 3) / 1024))]) (xoc ((M1 23 (M1 30 3) / 1024)) :: m2) ∧ xP T n M0 V0 R V2 ∧ ((l2.length : Int) + 1 + M1 30 3 ≤ R 30 3 ∧ M1 30 3 < R 30 3) ∧ xV3 v2 ∧ xVal (4 - L + 4 * (5 - D)) l2 v2 ∧ S m2 v2 ∧ (∀ j : Nat, j ≤ D → V2 231 j = V1 231 j) ∧ (∀ j : Nat, j < D → V2 232 j = V1 232 j) ∧ (2 ≤ L → V2 232 D = V1 232 D) ∧ (L = 1 → V2 232 D = 1) ∧ xNx (L + 1) D R V2 := by
  obtain ⟨W, w1, w2, w3, w4, w5, w6, w7, w8⟩ := m_op hP hc (D := D) (by omega) h1
  have m13 : zup M1 30 3 (M1 30 3 + 1) 30 3 = M1 30 3 + 1 := zup_eq
  have m160 : zup M1 30 3 (M1 30 3 + 1) 60 16 = M1 60 16 := zup_ne (by decide)
  have go := hop _ W w3 (by rw [w4]; exact hD) (fun q => w6 (by omega))
  have el : ((L + 1 : Nat) : Int) = (L : Int) + 1 := rfl
  rcases go with ⟨Mf, Vf, a1, a2, a3⟩ | ⟨M2, V2, l2, m2, v2, a1, a2, a3, a4, a5, a6, a7, a8, a9, b1, b2, b3⟩
  · exact Or.inl ⟨Mf, Vf, a1, (zit_l w1).trans a2, a3⟩
  · have hl := hP.2.1
    have l16 : M2 60 16 = M1 60 16 + l2.length := by rw [a3.1.2.2.2.2.1, m160]
    rw [m13] at a5
    obtain ⟨R, r1, r2, r3, r4⟩ := s_code a4 (x := -((M1 23 (M1 30 3) / 1024))) (by omega)
    have E := (w2.trans a3).trans r2
    rw [List.nil_append, List.append_nil] at E
    refine Or.inr ⟨M2, R, V2, l2, m2, v2, a1, r1, (zit_l w1).trans a2, E, r3, ⟨by rw [r4]; omega, by rw [r4]; omega⟩, a6, fun F st hs => a7 F st (by omega), a8, fun j hj => by rw [a9 j hj, w4], fun j hj => by rw [b1 j hj, w5 j (by omega)], fun q => by rw [b2 (by omega), w8 q], fun q => by rw [b2 (by omega), w7 q], xNx_c b3 ?_ r4 rfl⟩
    exact r2.1.1 23 (by decide) (by decide) (by decide)
theorem xlv_s {c : Int} {L : Nat} (h : xlv c = L) : c = 42 ∨ c = 43 ∨ c = 45 ∨ c = 60 ∨ c = 61 ∨ c = 112 ∨ c = 113 := by
  have := xlv_c h
  omega
theorem s_loop (hL : L = 0 ∨ L = 2 ∨ L = 3) (hD5 : D ≤ 5) {S : List Int → ((Int → Int) → Int) → Prop} (hop : xPc T n M0 V0 fu (L + 1) D S) (bin : ∀ (l1 l2 : List Int) (v1 v2 : (Int → Int) → Int) (c : Int), xlv c = L → xMc L D l1 v1 → S l2 v2 → xMc L D (l1 ++ xoc c :: l2) (fun F => zrj c (v1 F) (v2 F))) : ∀ (m : Nat) (x4 : Int) (M V M1 V1 : zMem) (lc lm : List Int) (v : (Int → Int) → Int), m = (M1 20 3 - M1 30 3).toNat → xP T n M0 V0 M1 V1 → xE M V M1 V1 lc lm → ((lc.length : Int) + M 30 3 ≤ M1 30 3 ∧ M 30 3 < M1 30 3) → xV3 v → xVal (5 - L + 4 * (5 - D)) lc v → xMc L D lm v → (∀ j : Nat, j ≤ D → V1 231 j = V 231 j) → (∀ j : Nat, j < D → V1 232 j = V 232 j) → (2 ≤ L → V1 232 D = V 232 D) → xNx (L + 1) D M1 V1 → (D = 0 ∨ V1 231 D ≠ 1) → 0 ≤ x4 → x4 ≤ M1 30 3 → xRes T n M0 V0 M V D (zbd (zit (fun s26 : Int × zMem => fX6_chain_l40 (fX6_chain fu) (fX6_part fu) L D 1000 (s26.1) (s26.2)) (x4, M1)) fun e => zel e (fun s32 => some (1, s32.2)) (fun r => some r)) (zit xfR ((D : Int), 0, V1)) (fun lc lm v M' V' => xVal (5 - L + 4 * (5 - D)) lc v ∧ xMc L D lm v ∧ (∀ j : Nat, j ≤ D → V' 231 j = V 231 j) ∧ (∀ j : Nat, j < D → V' 232 j = V 232 j) ∧ (2 ≤ L → V' 232 D = V 232 D) ∧ xNx L D M' V') := by
  intro m
  induction m using Nat.strongRecOn with
  | ind m ih =>
  intro x4 M V M1 V1 lc lm v hm hP hE hlen hv hval hsem h231 h232 h2D hx hD x0 x1
  have hJ := hP.1.1
  have ab := hJ.2.2.1
  have bb := hJ.1.2.2
  by_cases hc : xlv ((M1 23 (M1 30 3) / 1024)) = L
  · have cs := xlv_s hc
    have hlt := (s_next hP.1 (by omega) (by omega)).1
    have st : fX6_chain_l40 (fX6_chain fu) (fX6_part fu) L D 1000 x4 M1 = (zbd2 (fX6_chain fu ((L : Int) + 1) D (zup M1 30 3 (M1 30 3 + 1))) fun r18 M21 => (if r18 = 0 then some (.inr (.inr (0, M21))) else (zbd (fX7_putCode 60 (-((M1 23 (M1 30 3) / 1024))) M21) fun M25 => some (.inl (x4 + 1, M25))))) := by
      unfold fX6_chain_l40
      rw [if_neg (by omega), (e_seen hJ).1, zbd_s, e_levelOf, zbd_s, if_pos hc, zbd_s, zw_i (x := (L : Int) + 1) (by omega) (by omega), zw_i (x := M1 30 3 + 1) (by omega) (by omega), zw_i (x := -((M1 23 (M1 30 3) / 1024))) (by omega) (by omega), zw_i (x := x4 + 1) (by omega) (by omega)]
    rcases s_more (by omega) hD5 hop hP hc hD (fun q => by omega) with ⟨Mf, Vf, a1, a2, a3⟩ | ⟨M2, R, V2, l2, m2, v2, a1, r1, a2, a3, a4, a5, a6, a7, a8, a9, b1, b2, -, b3⟩
    · rw [a1, zbd2_s] at st
      refine Or.inl ⟨Mf, Vf, ?_, a2, a3⟩
      rw [zit_r (f := fun s26 : Int × zMem => fX6_chain_l40 (fX6_chain fu) (fX6_part fu) L D 1000 (s26.1) (s26.2)) (s := (x4, M1)) st, zbd_s]
      rfl
    · rw [a1, zbd2_s] at st
      dsimp only at st
      rw [if_neg (show ¬ (1 : Int) = 0 by decide), r1, zbd_s] at st
      rw [zit_l (f := fun s26 : Int × zMem => fX6_chain_l40 (fX6_chain fu) (fX6_part fu) L D 1000 (s26.1) (s26.2)) (s := (x4, M1)) st, a2]
      have e204 : R 20 3 = M1 20 3 := by rw [a3.1.1 20 (by decide) (by decide) (by decide)]
      have E := hE.trans a3
      refine ih (R 20 3 - R 30 3).toNat (by omega) (x4 + 1) M V R V2 (lc ++ (l2 ++ [-((M1 23 (M1 30 3) / 1024))])) (lm ++ xoc ((M1 23 (M1 30 3) / 1024)) :: m2) (fun F => zrj ((M1 23 (M1 30 3) / 1024)) (v F) (v2 F)) rfl a4 E ⟨?_, by omega⟩ (fun F _ => zrj_32 cs) ?_ (bin _ _ _ _ _ hc hsem a8) (fun j hj => by rw [a9 j hj, h231 j hj]) (fun j hj => by rw [b1 j hj, h232 j hj]) (fun q => by rw [b2 q, h2D q]) b3 (by rw [a9 D (Nat.le_refl _)]; exact hD) (by omega) (by omega)
      · rw [List.length_append, List.length_append, List.length_singleton]
        omega
      · rw [← List.append_assoc]
        exact xVal_bin hval a7 (Nat.le_refl _) (by omega) cs
  · have st : fX6_chain_l40 (fX6_chain fu) (fX6_part fu) L D 1000 x4 M1 = some (.inr (.inl (x4, M1))) := by
      unfold fX6_chain_l40
      by_cases u : (1000 : Int) ≤ x4
      · rw [if_pos u]
      · rw [if_neg u, (e_seen hJ).1, zbd_s, e_levelOf, zbd_s, if_neg hc]
    rw [zit_r (f := fun s26 : Int × zMem => fX6_chain_l40 (fX6_chain fu) (fX6_part fu) L D 1000 (s26.1) (s26.2)) (s := (x4, M1)) st, zbd_s]
    refine Or.inr ⟨M1, V1, lc, lm, v, rfl, rfl, hE, hP, hlen, hv, hval, hsem, h231, h232, h2D, ?_⟩
    obtain ⟨x1', x2', x3', x4'⟩ := hx
    refine ⟨fun q => ?_, fun q => ?_, fun q => ?_, fun q => ?_⟩
    · by_cases z : L = 3
      · intro e; rw [e, z] at hc; exact hc (by decide)
      · exact x1' (by omega)
    · by_cases z : L = 2
      · exact ⟨fun e => by rw [e, z] at hc; exact hc (by decide), fun e => by rw [e, z] at hc; exact hc (by decide)⟩
      · exact x2' (by omega)
    · exact x3' (by omega)
    · exact ⟨fun e => by rw [e, q] at hc; exact hc (by decide), fun e => by rw [e, q] at hc; exact hc (by decide)⟩
theorem e_chain (hL : L ≤ 3) : fX6_chain (fu + 1) L D M = zbd2 (fX6_chain fu ((L : Int) + 1) D M) (fun r1 M4 => if r1 = 0 then some (0, M4) else if (L : Int) = 1 then fX6_chain_j36 (fX6_chain fu) (fX6_part fu) L D 1 M4 else fX6_chain_j36 (fX6_chain fu) (fX6_part fu) L D 1000 M4) := by
  show fX6_chain_s (fX6_chain fu) (fX6_part fu) L D M = _
  unfold fX6_chain_s
  rw [if_pos (by omega), zw_i (by omega) (by omega)]
theorem s_chain (hL : L = 0 ∨ L = 2 ∨ L = 3) (hD5 : D ≤ 5) {S : List Int → ((Int → Int) → Int) → Prop} (hop : xPc T n M0 V0 fu (L + 1) D S) (base : ∀ (l : List Int) (v : (Int → Int) → Int), xV3 v → S l v → xMc L D l v) (bin : ∀ (l1 l2 : List Int) (v1 v2 : (Int → Int) → Int) (c : Int), xlv c = L → xMc L D l1 v1 → S l2 v2 → xMc L D (l1 ++ xoc c :: l2) (fun F => zrj c (v1 F) (v2 F))) : xPc T n M0 V0 (fu + 1) L D (xMc L D) := fun M V hP hD h1 => by
  rw [e_chain (by omega)]
  have go := hop M V hP hD (fun q => h1 (by omega))
  rcases go with ⟨Mf, Vf, a1, a2, a3⟩ | ⟨M2, V2, l2, m2, v2, a1, a2, a3, a4, a5, a6, a7, a8, a9, b1, b2, b3⟩
  · have a1 : fX6_chain fu ((L : Int) + 1) D M = some (0, Mf) := a1
    rw [a1, zbd2_s]
    exact Or.inl ⟨Mf, Vf, rfl, a2, a3⟩
  · have a1 : fX6_chain fu ((L : Int) + 1) D M = some (1, M2) := a1
    rw [a1, zbd2_s]
    dsimp only
    rw [if_neg (show ¬ (1 : Int) = 0 by decide), if_neg (show ¬ (L : Int) = 1 by omega), a2]
    unfold fX6_chain_j36
    have p0 := a4.1.1.2.2.1.1
    exact s_loop hL hD5 hop bin _ 0 M V M2 V2 l2 m2 v2 rfl a4 a3 a5 a6 (fun F st hs => a7 F st (by omega)) (base _ _ a6 a8) a9 b1 (fun q => b2 (by omega)) b3 (by rw [a9 D (Nat.le_refl _)]; exact hD) (Int.le_refl _) p0
theorem s_chain1 (hD5 : D ≤ 5) (hop : xPc T n M0 V0 fu 2 D (xMc 2 D)) : xPc T n M0 V0 (fu + 1) 1 D (xMc 1 D) := fun M V hP hD h1 => by
  rw [e_chain (by omega)]
  have z0 := h1 (by omega)
  have go := hop M V hP hD (fun q => by omega)
  rcases go with ⟨Mf, Vf, a1, a2, a3⟩ | ⟨M1, V1, l1, m1, v1, a1, a2, a3, a4, a5, a6, a7, a8, a9, b1, b2, b3⟩
  · have a1 : fX6_chain fu (((1 : Nat) : Int) + 1) D M = some (0, Mf) := a1
    rw [a1, zbd2_s]
    exact Or.inl ⟨Mf, Vf, rfl, a2, a3⟩
  · have a1 : fX6_chain fu (((1 : Nat) : Int) + 1) D M = some (1, M1) := a1
    rw [a1, zbd2_s]
    dsimp only
    rw [if_neg (show ¬ (1 : Int) = 0 by decide), if_pos (show ((1 : Nat) : Int) = 1 from rfl), a2]
    unfold fX6_chain_j36
    have hJ := a4.1.1
    have ab := hJ.2.2.1
    have bb := hJ.1.2.2
    have z1 : V1 232 D = 0 := by rw [b2 (by omega)]; exact z0
    have D1 : D = 0 ∨ V1 231 D ≠ 1 := by rw [a9 D (Nat.le_refl _)]; exact hD
    by_cases hc : xlv ((M1 23 (M1 30 3) / 1024)) = ((1 : Nat) : Int)
    · have cs := xlv_s hc
      have st : fX6_chain_l40 (fX6_chain fu) (fX6_part fu) ((1 : Nat) : Int) D 1 0 M1 = (zbd2 (fX6_chain fu (((1 : Nat) : Int) + 1) D (zup M1 30 3 (M1 30 3 + 1))) fun r18 M21 => (if r18 = 0 then some (.inr (.inr (0, M21))) else (zbd (fX7_putCode 60 (-((M1 23 (M1 30 3) / 1024))) M21) fun M25 => some (.inl (0 + 1, M25))))) := by
        unfold fX6_chain_l40
        rw [if_neg (by decide), (e_seen hJ).1, zbd_s, e_levelOf, zbd_s, if_pos hc, zbd_s, zw_i (x := ((1 : Nat) : Int) + 1) (by omega) (by omega), zw_i (x := M1 30 3 + 1) (by omega) (by omega), zw_i (x := -((M1 23 (M1 30 3) / 1024))) (by omega) (by omega), zw_i (x := 0 + 1) (by omega) (by omega)]
      rcases s_more (L := 1) (by omega) hD5 hop a4 hc D1 (fun _ => z1) with ⟨Mf, Vf, d1, d2, d3⟩ | ⟨M2, R, V2, l2, m2, v2, d1, r1, d2, d3, d4, d5, d6, d7, d8, d9, e1, -, e3, e4⟩
      · rw [d1, zbd2_s] at st
        refine Or.inl ⟨Mf, Vf, ?_, d2, d3⟩
        rw [zit_r (f := fun s26 : Int × zMem => fX6_chain_l40 (fX6_chain fu) (fX6_part fu) ((1 : Nat) : Int) D 1 (s26.1) (s26.2)) (s := (0, M1)) st, zbd_s]
        rfl
      · rw [d1, zbd2_s] at st
        dsimp only at st
        rw [if_neg (show ¬ (1 : Int) = 0 by decide), r1, zbd_s] at st
        have st2 : fX6_chain_l40 (fX6_chain fu) (fX6_part fu) ((1 : Nat) : Int) D 1 (0 + 1) R = some (.inr (.inl (0 + 1, R))) := by
          unfold fX6_chain_l40
          rw [if_pos (by decide)]
        rw [zit_l (f := fun s26 : Int × zMem => fX6_chain_l40 (fX6_chain fu) (fX6_part fu) ((1 : Nat) : Int) D 1 (s26.1) (s26.2)) (s := (0, M1)) st, zit_r (f := fun s26 : Int × zMem => fX6_chain_l40 (fX6_chain fu) (fX6_part fu) ((1 : Nat) : Int) D 1 (s26.1) (s26.2)) (s := (0 + 1, R)) st2, zbd_s, d2]
        have cc := xlv_c hc
        refine Or.inr ⟨R, V2, l1 ++ (l2 ++ [-((M1 23 (M1 30 3) / 1024))]), m1 ++ xoc ((M1 23 (M1 30 3) / 1024)) :: m2, fun F => zrj ((M1 23 (M1 30 3) / 1024)) (v1 F) (v2 F), rfl, rfl, a3.trans d3, d4, ⟨?_, by omega⟩, fun F _ => zrj_32 cs, ?_, xMc_cmp ?_ a8 d8, fun j hj => by rw [d9 j hj, a9 j hj], fun j hj => by rw [e1 j hj, b1 j hj], fun q => by omega, fun _ => e4.1 (by omega), fun _ => e4.2.1 (by omega), ?_, fun q => by omega⟩
        · rw [List.length_append, List.length_append, List.length_singleton]
          omega
        · rw [← List.append_assoc]
          exact xVal_bin (h1 := 5 - 2 + 4 * (5 - D)) a7 d7 (by omega) (by omega) cs
        · have : (M1 23 (M1 30 3) / 1024) = 60 ∨ (M1 23 (M1 30 3) / 1024) = 61 := by omega
          rcases this with q | q
          · rw [q]; exact Or.inl ⟨by decide, rfl⟩
          · rw [q]; exact Or.inr ⟨by decide, rfl⟩
        · intro _ _
          rw [e3 rfl]; decide
    · have st : fX6_chain_l40 (fX6_chain fu) (fX6_part fu) ((1 : Nat) : Int) D 1 0 M1 = some (.inr (.inl (0, M1))) := by
        unfold fX6_chain_l40
        rw [if_neg (by decide), (e_seen hJ).1, zbd_s, e_levelOf, zbd_s, if_neg hc]
      rw [zit_r (f := fun s26 : Int × zMem => fX6_chain_l40 (fX6_chain fu) (fX6_part fu) ((1 : Nat) : Int) D 1 (s26.1) (s26.2)) (s := (0, M1)) st, zbd_s]
      refine Or.inr ⟨M1, V1, l1, m1, v1, rfl, rfl, a3, a4, a5, a6, fun F st hs => a7 F st (by omega), xMc_21 a8, a9, b1, fun q => by omega, fun _ => b3.1 (by omega), fun _ => b3.2.1 (by omega), fun _ q => ?_, fun q => by omega⟩
      rcases q with q | q
      · rw [q] at hc; exact absurd (by decide) hc
      · rw [q] at hc; exact absurd (by decide) hc
/-- a whole law at depth d, from its PARTS -/
theorem s_chain0 (hD5 : D ≤ 5) (h : xPp T n M0 V0 fu D) : xPc T n M0 V0 (fu + 5) 0 D (xMc 0 D) := by
  have c4 := s_chain4 h
  have c3 : xPc T n M0 V0 (fu + 2) 3 D (xMc 3 D) := s_chain (L := 3) (by omega) hD5 c4 (fun l v _ q => xMc_43 q) (fun l1 l2 v1 v2 c hc q1 q2 => by
    have : c = 42 := by have := xlv_c hc; omega
    subst this
    exact xMc_mul q1 q2)
  have c2 : xPc T n M0 V0 (fu + 3) 2 D (xMc 2 D) := s_chain (L := 2) (by omega) hD5 c3 (fun l v hv q => xMc_32 hv q) (fun l1 l2 v1 v2 c hc q1 q2 => by
    have : c = 43 ∨ c = 45 := by have := xlv_c hc; omega
    rcases this with rfl | rfl
    · exact xMc_add (Or.inl ⟨by decide, rfl⟩) q1 q2
    · exact xMc_add (Or.inr ⟨by decide, rfl⟩) q1 q2)
  have c1 : xPc T n M0 V0 (fu + 4) 1 D (xMc 1 D) := s_chain1 hD5 c2
  exact s_chain (L := 0) (by omega) hD5 c1 (fun l v _ q => xMc_10 q) (fun l1 l2 v1 v2 c hc q1 q2 => by
    have : c = 112 ∨ c = 113 := by have := xlv_c hc; omega
    rcases this with rfl | rfl
    · exact xMc_jn (Or.inl ⟨by decide, rfl⟩) q1 q2
    · exact xMc_jn (Or.inr ⟨by decide, rfl⟩) q1 q2)
theorem s_parts : ∀ (k d : Nat), d + k = 5 → ∀ fu : Nat, 6 * k + 1 ≤ fu → xPp T n M0 V0 fu d
  | 0, d, hd, fu, hf => by
    have : d = 5 := by omega
    subst this
    obtain ⟨f, rfl⟩ : ∃ f : Nat, fu = f + 1 := ⟨fu - 1, by omega⟩
    exact s_part5
  | k + 1, d, hd, fu, hf => by
    obtain ⟨f, rfl⟩ : ∃ f : Nat, fu = f + 5 + 1 := ⟨fu - 6, by omega⟩
    exact s_part (by omega) (s_chain0 (by omega) (s_parts k (d + 1) (by omega) f (by omega))) (s_parts k (d + 1) (by omega) (f + 5) (by omega))
theorem s_law : xPc T n M0 V0 80 0 0 (xMc 0 0) := s_chain0 (fu := 75) (by omega) (s_parts 5 0 rfl 75 (by omega))
end SP5
