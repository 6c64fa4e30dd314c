/-! PURE PART, 70: the line of a BOWL -/
section TK8
variable {M V M0 V0 : zMem} {T T' : Int → Int} {n p e s c w t v : Int}
theorem s_need (h : xK T n M0 V0 M V) {k : Nat} (hk : k < 29) {w tk : Int} (htk : tk = 100 + (k : Int)) (hw : w = xwk k) {o no : Nat} {i lo hi : Int} (ho : 60 ≤ o ∧ o < 80) (i0 : 0 ≤ i) (i1 : i < no) (hno : no ≤ 100) : (∃ Mf Vf : zMem, (fX6_take tk M = some (0, Mf) ∨ ∃ M1 : zMem, fX6_take tk M = some (1, M1) ∧ fX6_number o no i lo hi M1 = some (0, Mf)) ∧ fX12_needs w lo hi V = some (0, Vf) ∧ xFt M0 V0 Mf Vf) ∨ (∃ (M1 M' W : zMem) (x : Int), (lo ≤ x ∧ x ≤ hi) ∧ fX6_take tk M = some (1, M1) ∧ fX6_number o no i lo hi M1 = some (1, M') ∧ xGo M M' 2 o i x ∧ fX12_needs w lo hi V = some (1, W) ∧ W 200 42 = x ∧ xFm V W ∧ xK T n M0 V0 M' W) := by
  subst htk
  exact s_needs h hk hw ho i0 i1 hno
theorem xK_v {V2 : zMem} (h : xK T n M0 V0 M V) (v1 : V2 203 = V 203) (v2 : ∀ q : Int, 3 ≤ q → q ≤ 8 → V2 200 q = V 200 q) (v3 : xFv V0 V2) : xK T n M0 V0 M V2 := ⟨xJ_c h.1 rfl rfl rfl rfl rfl v1 v2, h.2.1, v3⟩
set_option maxHeartbeats 1000000 in
theorem s_bowl (h : xL T n M0 V0 M V) (hc : (M 23 (M 30 3) / 1024) = 100) (hb : M 60 0 < 12) : xS (xL1 T n M0 V0 M) (xFt M0 V0) (fX6_bowlLine M) (fX12_readsBowl V) := by
  obtain ⟨hK, hN, hD, hZ⟩ := h
  have b0 := hN.1
  have ab := hK.1.2.2.1
  have bb := hK.1.1.2.2
  obtain ⟨bx, hbx⟩ : ∃ b : Int, b = M 60 0 := ⟨_, rfl⟩
  have bx0 : 0 ≤ bx := by omega
  have bx1 : bx < 12 := by omega
  -- from the kind on
  have tail : ∀ (M6 V6 : zMem) (kd : Int), xK T n M0 V0 M6 V6 → (0 ≤ kd ∧ kd ≤ 3) → (∀ c : Nat, c ≠ 30 → c ≠ 32 → c ≠ 63 → c ≠ 64 → c ≠ 65 → M6 c = M c) → (∀ q : Int, q ≠ 3 → M6 30 q = M 30 q) → M 30 3 ≤ M6 30 3 → (∀ q : Int, q ≠ bx → M6 32 q = M 32 q ∧ M6 63 q = M 63 q ∧ M6 64 q = M 64 q ∧ M6 65 q = M 65 q) → xW T n (M6 32 bx) (V6 214 bx) → ((V6 215 (12 + bx) = M6 63 bx ∧ 1 ≤ M6 63 bx ∧ M6 63 bx ≤ 9999) ∧ (V6 216 (12 + bx) = M6 64 bx ∧ 1 ≤ M6 64 bx ∧ M6 64 bx ≤ 99) ∧ (V6 217 (12 + bx) = M6 65 bx ∧ 1 ≤ M6 65 bx ∧ M6 65 bx ≤ 20) ∧ V6 218 (12 + bx) = kd) → (∀ c : Nat, c ≠ 200 → c ≠ 214 → c ≠ 215 → c ≠ 216 → c ≠ 217 → c ≠ 218 → V6 c = V c) → (∀ q : Int, q < 4 ∨ 8 < q → q ≠ 42 → V6 200 q = V 200 q) → (∀ q : Int, q ≠ bx → V6 214 q = V 214 q) → (∀ q : Int, q ≠ 12 + bx → V6 215 q = V 215 q ∧ V6 216 q = V 216 q ∧ V6 217 q = V 217 q ∧ V6 218 q = V 218 q) → xS (xL1 T n M0 V0 M) (xFt M0 V0) (fX6_bowlLine_j160 kd M6) (fX12_readsBowl_j214 V6) := by
    intro M6 V6 kd k6 hkd c6 q6 p6 r6 w6 x6 v6 vq6 vn6 vr6
    have e60 : M6 60 = M 60 := c6 60 (by decide) (by decide) (by decide) (by decide) (by decide)
    have ev : V6 211 1 = bx := by rw [v6 211 (by decide) (by decide) (by decide) (by decide) (by decide) (by decide), b0.1, hbx]
    unfold fX6_bowlLine_j160 fX12_readsBowl_j214
    rw [zgd_t (by decide), zgd_t (by decide), ev, zw_i (x := bx + 1) (by omega) (by omega)]
    have k7 : xK T n M0 V0 M6 (zup V6 211 1 (bx + 1)) := xK_v k6 (zup_c (by decide)) (fun q _ _ => zup_ne (by decide)) (k6.2.2.up (by omega) rfl)
    have pl := hD.2.2.2.2
    have pb := zsum_p01 (p := fun b => M 66 b = 3) (n := (M 60 0).toNat)
    rcases s_ends k7 with ⟨Mf, Vf, a1, a2, a3⟩ | ⟨W, a1, a2, fW, k8⟩
    · rw [a1, zbd2_s, a2, zbd2_s]
      exact ⟨Mf, Vf, Or.inr ⟨rfl, rfl, a3⟩⟩
    · have m60 : ∀ q : Int, zup M6 30 3 (M6 30 3 + 1) 60 q = M 60 q := fun q => by rw [zup_ne (by decide), e60]
      rw [a1, zbd2_s, a2, zbd2_s]
      dsimp only
      rw [if_neg (show ¬ (1 : Int) = 0 by decide), e_putBowl (by rw [m60]; omega) (by rw [m60]; omega) (by rw [m60]; omega) (by rw [m60]; omega), zbd_s, m60, m60, ← hbx]
      generalize hR : zup (zup (zup (zup (zup M6 30 3 (M6 30 3 + 1)) 66 bx kd) 67 bx (if kd = 3 then -1 else M 60 1)) 60 1 (M 60 1 + (if kd = 3 then 0 else 1))) 60 0 (bx + 1) = R
      have r600 : R 60 0 = bx + 1 := by rw [← hR, zup_eq]
      have r601 : R 60 1 = M 60 1 + (if kd = 3 then 0 else 1) := by rw [← hR, zup_nk (by decide), zup_eq]
      have r60 : ∀ q : Int, q ≠ 0 → q ≠ 1 → R 60 q = M 60 q := fun q q1 q2 => by rw [← hR, zup_nk q1, zup_nk q2, zup_ne (by decide), zup_ne (by decide), m60]
      have rc : ∀ c : Nat, c ≠ 30 → c ≠ 60 → c ≠ 66 → c ≠ 67 → R c = M6 c := fun c c1 c2 c3 c4 => by rw [← hR, zup_c c2, zup_c c2, zup_c c4, zup_c c3, zup_c c1]
      have r30 : ∀ q : Int, q ≠ 3 → R 30 q = M 30 q := fun q hq => by rw [← hR, zup_ne (by decide), zup_ne (by decide), zup_ne (by decide), zup_ne (by decide), zup_nk hq, q6 q hq]
      have r303 : R 30 3 = M6 30 3 + 1 := by rw [← hR, zup_ne (by decide), zup_ne (by decide), zup_ne (by decide), zup_ne (by decide), zup_eq]
      have r66 : ∀ q : Int, R 66 q = if q = bx then kd else M 66 q := fun q => by
        rw [← hR, zup_ne (by decide), zup_ne (by decide), zup_ne (by decide)]
        by_cases u : q = bx
        · rw [if_pos u, u, zup_eq]
        · rw [if_neg u, zup_nk u, zup_ne (by decide), c6 66 (by decide) (by decide) (by decide) (by decide) (by decide)]
      have r67 : ∀ q : Int, R 67 q = if q = bx then (if kd = 3 then -1 else M 60 1) else M 67 q := fun q => by
        rw [← hR, zup_ne (by decide), zup_ne (by decide)]
        by_cases u : q = bx
        · rw [if_pos u, u, zup_eq]
        · rw [if_neg u, zup_nk u, zup_ne (by decide), zup_ne (by decide), c6 67 (by decide) (by decide) (by decide) (by decide) (by decide)]
      have rM : ∀ c : Nat, c ≠ 30 → c ≠ 32 → c ≠ 60 → c ≠ 63 → c ≠ 64 → c ≠ 65 → c ≠ 66 → c ≠ 67 → R c = M c := fun c c1 c2 c3 c4 c5 c6' c7 c8 => by rw [rc c c1 c3 c7 c8, c6 c c1 c2 c4 c5 c6']
      have wc : ∀ c : Nat, c ≠ 200 → c ≠ 211 → W c = V6 c := fun c c1 c2 => by rw [fW.1 c c1, zup_c c2]
      have w211 : W 211 1 = bx + 1 := by rw [fW.1 211 (by decide), zup_eq]
      have w212 : ∀ c : Nat, c ≠ 200 → c ≠ 211 → c ≠ 214 → c ≠ 215 → c ≠ 216 → c ≠ 217 → c ≠ 218 → W c = V c := fun c c1 c2 c3 c4 c5 c6' c7 => by rw [wc c c1 c2, v6 c c1 c3 c4 c5 c6' c7]
      have wq : ∀ q : Int, q < 4 ∨ 8 < q → q ≠ 42 → W 200 q = V 200 q := fun q q1 q2 => by rw [fW.2 q q1, zup_ne (by decide), vq6 q q1 q2]
      have pre : ∀ q : Nat, (q : Int) < bx → R 66 q = M 66 q := fun q hq => by rw [r66, if_neg (by omega)]
      have sumR : ∀ m : Nat, (m : Int) ≤ bx → zsum (fun b => if R 66 b = 3 then 0 else 1) m = zsum (fun b => if M 66 b = 3 then 0 else 1) m := fun m hm => zsum_eq fun q hq => by rw [pre q (by omega)]
      refine ⟨R, W, Or.inl ⟨rfl, rfl, ⟨⟨?_, ?_, ?_⟩, ⟨⟨?_, ?_, ?_⟩, fun k k0 k1 => ?_⟩, ⟨⟨?_, ?_⟩, fun k k0 k1 => ?_, fun k k0 k1 => ?_, ?_, ?_⟩, ?_⟩, by rw [r303]; omega, r30 5 (by decide)⟩⟩
      · exact xJ_c k8.1 (by rw [rc 20 (by decide) (by decide) (by decide) (by decide), zup_c (by decide)]) (by rw [rc 21 (by decide) (by decide) (by decide) (by decide), zup_c (by decide)]) (by rw [rc 23 (by decide) (by decide) (by decide) (by decide), zup_c (by decide)]) (by rw [rc 24 (by decide) (by decide) (by decide) (by decide), zup_c (by decide)]) (by rw [r303, zup_eq]) rfl (fun _ _ _ => rfl)
      · intro c hc
        rw [rc c (by omega) (by omega) (by omega) (by omega)]
        exact k6.2.1 c hc
      · exact k8.2.2
      · rw [w211, r600]
      · rw [r600]; omega
      · rw [r600]; omega
      · rw [rc 32 (by decide) (by decide) (by decide) (by decide), wc 214 (by decide) (by decide)]
        by_cases u : k = bx
        · rw [u]; exact w6
        · rw [(r6 k u).1, vn6 k u]
          exact hN.2 k k0 (by rw [r600] at k1; omega)
      · rw [w212 212 (by decide) (by decide) (by decide) (by decide) (by decide) (by decide) (by decide), r60 7 (by decide) (by decide)]; exact hD.1.1
      · rw [r60 7 (by decide) (by decide)]; exact hD.1.2
      · rw [r600] at k1
        by_cases u : k = bx
        · subst u
          unfold xBo
          rw [rc 63 (by decide) (by decide) (by decide) (by decide), rc 64 (by decide) (by decide) (by decide) (by decide), rc 65 (by decide) (by decide) (by decide) (by decide), wc 215 (by decide) (by decide), wc 216 (by decide) (by decide), wc 217 (by decide) (by decide), wc 218 (by decide) (by decide), r66, if_pos rfl, r67, if_pos rfl, sumR k.toNat (by omega)]
          refine ⟨x6.1, x6.2.1, x6.2.2.1, ⟨x6.2.2.2, hkd⟩, ?_⟩
          rw [pl, hbx]
        · refine xBo_c k0 (hD.2.1 k k0 (by omega)) (fun d d0 d1 q q0 q1 => ?_) (fun d d0 d1 => ?_)
          · have dd : d = 63 ∨ d = 64 ∨ d = 65 ∨ d = 66 ∨ d = 67 := by omega
            rcases dd with rfl | rfl | rfl | rfl | rfl
            · rw [rc 63 (by decide) (by decide) (by decide) (by decide), (r6 q (by omega)).2.1]
            · rw [rc 64 (by decide) (by decide) (by decide) (by decide), (r6 q (by omega)).2.2.1]
            · rw [rc 65 (by decide) (by decide) (by decide) (by decide), (r6 q (by omega)).2.2.2]
            · rw [r66, if_neg (by omega)]
            · rw [r67, if_neg (by omega)]
          · have dd : d = 215 ∨ d = 216 ∨ d = 217 ∨ d = 218 := by omega
            have vv := vr6 (12 + k) (by omega)
            rcases dd with rfl | rfl | rfl | rfl
            · rw [wc 215 (by decide) (by decide), vv.1]
            · rw [wc 216 (by decide) (by decide), vv.2.1]
            · rw [wc 217 (by decide) (by decide), vv.2.2.1]
            · rw [wc 218 (by decide) (by decide), vv.2.2.2]
      · rw [r60 7 (by decide) (by decide)] at k1
        exact xPa_c (hD.2.2.1 k k0 k1) (fun d d0 d1 => by rw [rM d (by omega) (by omega) (by omega) (by omega) (by omega) (by omega) (by omega) (by omega)]) (by rw [r600]; omega) (fun d d0 d1 => by rw [w212 d (by omega) (by omega) (by omega) (by omega) (by omega) (by omega) (by omega)])
      · exact xTd_c hD.2.2.2.1 (rM 79 (by decide) (by decide) (by decide) (by decide) (by decide) (by decide) (by decide) (by decide)) (r30 4 (by decide)) (w212 225 (by decide) (by decide) (by decide) (by decide) (by decide) (by decide) (by decide)) (w212 226 (by decide) (by decide) (by decide) (by decide) (by decide) (by decide) (by decide))
      · rw [r600, r601, show (bx + 1).toNat = bx.toNat + 1 by omega]
        show _ = zsum (fun b => if R 66 b = 3 then 0 else 1) bx.toNat + (if R 66 (bx.toNat : Int) = 3 then 0 else 1)
        rw [sumR bx.toNat (by omega), show ((bx.toNat : Nat) : Int) = bx by omega, r66, if_pos rfl, pl, ← hbx]
      · exact xZ_c hZ (r60 13 (by decide) (by decide)) (r60 14 (by decide) (by decide)) (r60 16 (by decide) (by decide)) (rM 76 (by decide) (by decide) (by decide) (by decide) (by decide) (by decide) (by decide) (by decide)) (rM 78 (by decide) (by decide) (by decide) (by decide) (by decide) (by decide) (by decide) (by decide)) (by omega) (by rw [w212 213 (by decide) (by decide) (by decide) (by decide) (by decide) (by decide) (by decide)]) (w212 227 (by decide) (by decide) (by decide) (by decide) (by decide) (by decide) (by decide)) (w212 228 (by decide) (by decide) (by decide) (by decide) (by decide) (by decide) (by decide)) (w212 229 (by decide) (by decide) (by decide) (by decide) (by decide) (by decide) (by decide)) (wq 29 (by omega) (by decide))
  -- the word bowl
  have g1 : xGo M (zup M 30 3 (M 30 3 + 1)) 1 60 0 (M 60 0) := ⟨fun d d1 d2 => zup_c d1, fun q hq => zup_nk hq, zup_eq, fun q hq => zup_ne (by decide), zup_ne (by decide)⟩
  obtain ⟨V1, n1, fV1, k1⟩ := s_go hK (by omega) (by omega) (o := 60) (by omega) g1 rfl (fun _ _ _ => rfl) hK.2.2
  unfold fX6_bowlLine fX12_readsBowl
  rw [zw_i (x := M 30 3 + 1) (by omega) (by omega), zgd_t (show (0 : Int) ≤ 1 ∧ (1 : Int) < 6 by decide), b0.1, if_neg (show ¬ M 60 0 = 12 by omega), n1, zbd_s]
  have m1c : ∀ c : Nat, c ≠ 30 → zup M 30 3 (M 30 3 + 1) c = M c := fun c hc => zup_c hc
  have m1q : ∀ q : Int, q ≠ 3 → zup M 30 3 (M 30 3 + 1) 30 q = M 30 q := fun q hq => zup_nk hq
  have m13 : zup M 30 3 (M 30 3 + 1) 30 3 = M 30 3 + 1 := zup_eq
  clear g1 n1
  generalize zup M 30 3 (M 30 3 + 1) = M1 at *
  have e60 : M1 60 0 = bx := by rw [m1c 60 (by decide), hbx]
  have v11 : V1 211 1 = bx := by rw [fV1.1 211 (by decide), b0.1, hbx]
  have N1 : xNm T n M1 V1 := by
    unfold xNm
    rw [m1c 60 (by decide), m1c 32 (by decide), fV1.1 211 (by decide), fV1.1 214 (by decide)]; exact hN
  have nn := s_newName k1 N1 (by omega)
  rw [e60] at nn
  rw [← hbx, v11]
  rcases nn with ⟨Mf, Vf, a1, a2, a3⟩ | ⟨M2, V2, a1, a2, a3, a4, ⟨q1, q2, q3, q4, q5⟩, f2, k2⟩
  · rw [a1, zbd2_s]
    rcases a2 with ⟨a4, a5⟩ | ⟨a4, r, a5, a6, a7⟩
    · rw [a4, zbd_s, if_neg (show ¬ (1 : Int) = 0 by decide), a5]
      exact ⟨Mf, Vf, Or.inr ⟨rfl, rfl, a3⟩⟩
    · rw [a4, zbd_s, if_pos (show (0 : Int) = 0 from rfl), a5, zbd_s, if_neg a6, a7]
      exact ⟨Mf, Vf, Or.inr ⟨rfl, rfl, a3⟩⟩
  rw [a1, zbd2_s, a2, zbd_s, if_pos (show (0 : Int) = 0 from rfl), a3, zbd_s, if_pos (show (-1 : Int) < 0 by decide), zgd_t (show (0 : Int) ≤ 1 ∧ (1 : Int) < 6 by decide), zgd_t (show (0 : Int) ≤ 1 ∧ (1 : Int) < 6 by decide), zgd_t ⟨bx0, bx1⟩, a4, zbd_s, zw_i (x := 12 + bx) (by omega) (by omega)]
  dsimp only
  rw [if_neg (show ¬ (1 : Int) = 0 by decide)]
  -- tone
  rcases s_need k2 (k := 1) (by omega) (tk := 101) rfl xwk_1.symm (o := 63) (no := 12) (i := bx) (lo := 1) (hi := 9999) (by omega) bx0 (by omega) (by omega) with ⟨Mf, Vf, a5, a6, a7⟩ | ⟨M2', M3, V3, x3, hx3, t1, t2, g3, t3, t4, f3, k3⟩
  · rw [a6, zbd2_s]
    rcases a5 with a5 | ⟨Ma, a5, a8⟩
    · rw [a5, zbd2_s]
      exact ⟨Mf, Vf, Or.inr ⟨rfl, rfl, a7⟩⟩
    · rw [a5, zbd2_s]
      dsimp only
      rw [if_neg (show ¬ (1 : Int) = 0 by decide), a8, zbd2_s]
      exact ⟨Mf, Vf, Or.inr ⟨rfl, rfl, a7⟩⟩
  rw [t1, zbd2_s]
  dsimp only
  rw [if_neg (show ¬ (1 : Int) = 0 by decide), t2, zbd2_s, t3, zbd2_s]
  dsimp only
  rw [if_neg (show ¬ (1 : Int) = 0 by decide), if_neg (show ¬ (1 : Int) = 0 by decide), zgd_t ⟨by omega, by omega⟩]
  have k3' : xK T n M0 V0 M3 (zup V3 215 (12 + bx) (V3 200 42)) := xK_v k3 (zup_c (by decide)) (fun q _ _ => zup_ne (by decide)) (k3.2.2.up (by omega) (zSc_12 (by omega) (by omega) (by omega)))
  -- size
  rcases s_need k3' (k := 2) (by omega) (tk := 102) rfl xwk_2.symm (o := 64) (no := 12) (i := bx) (lo := 1) (hi := 99) (by omega) bx0 (by omega) (by omega) with ⟨Mf, Vf, a5, a6, a7⟩ | ⟨M3', M4, V4, x4, hx4, t5, t6, g4, t7, t8, f4, k4⟩
  · rw [a6, zbd2_s]
    rcases a5 with a5 | ⟨Ma, a5, a8⟩
    · rw [a5, zbd2_s]
      exact ⟨Mf, Vf, Or.inr ⟨rfl, rfl, a7⟩⟩
    · rw [a5, zbd2_s]
      dsimp only
      rw [if_neg (show ¬ (1 : Int) = 0 by decide), a8, zbd2_s]
      exact ⟨Mf, Vf, Or.inr ⟨rfl, rfl, a7⟩⟩
  rw [t5, zbd2_s]
  dsimp only
  rw [if_neg (show ¬ (1 : Int) = 0 by decide), t6, zbd2_s, t7, zbd2_s]
  dsimp only
  rw [if_neg (show ¬ (1 : Int) = 0 by decide), if_neg (show ¬ (1 : Int) = 0 by decide), zgd_t ⟨by omega, by omega⟩]
  have k4' : xK T n M0 V0 M4 (zup V4 216 (12 + bx) (V4 200 42)) := xK_v k4 (zup_c (by decide)) (fun q _ _ => zup_ne (by decide)) (k4.2.2.up (by omega) (zSc_12 (by omega) (by omega) (by omega)))
  -- wall
  rcases s_need k4' (k := 3) (by omega) (tk := 103) rfl xwk_3.symm (o := 65) (no := 12) (i := bx) (lo := 1) (hi := 20) (by omega) bx0 (by omega) (by omega) with ⟨Mf, Vf, a5, a6, a7⟩ | ⟨M4', M5, V5, x5, hx5, t9, u1, g5, u2, u3, f5, k5⟩
  · rw [a6, zbd2_s]
    rcases a5 with a5 | ⟨Ma, a5, a8⟩
    · rw [a5, zbd2_s]
      exact ⟨Mf, Vf, Or.inr ⟨rfl, rfl, a7⟩⟩
    · rw [a5, zbd2_s]
      dsimp only
      rw [if_neg (show ¬ (1 : Int) = 0 by decide), a8, zbd2_s]
      exact ⟨Mf, Vf, Or.inr ⟨rfl, rfl, a7⟩⟩
  rw [t9, zbd2_s]
  dsimp only
  rw [if_neg (show ¬ (1 : Int) = 0 by decide), u1, zbd2_s, u2, zbd2_s]
  dsimp only
  rw [if_neg (show ¬ (1 : Int) = 0 by decide), if_neg (show ¬ (1 : Int) = 0 by decide), zgd_t ⟨by omega, by omega⟩]
  have k5' : xK T n M0 V0 M5 (zup V5 217 (12 + bx) (V5 200 42)) := xK_v k5 (zup_c (by decide)) (fun q _ _ => zup_ne (by decide)) (k5.2.2.up (by omega) (zSc_12 (by omega) (by omega) (by omega)))
  -- what stands so far
  have hc5 : ∀ c : Nat, c ≠ 30 → c ≠ 32 → c ≠ 63 → c ≠ 64 → c ≠ 65 → M5 c = M c := fun c c1 c2 c3 c4 c5 => by rw [g5.1 c c1 c5, g4.1 c c1 c4, g3.1 c c1 c3, q1 c c1 c2, m1c c c1]
  have hq5 : ∀ q : Int, q ≠ 3 → M5 30 q = M 30 q := fun q hq => by rw [g5.2.1 q hq, g4.2.1 q hq, g3.2.1 q hq, q2 q hq, m1q q hq]
  have hp5 : M 30 3 ≤ M5 30 3 := by
    have := g5.2.2.1
    have := g4.2.2.1
    have := g3.2.2.1
    omega
  have hr5 : ∀ q : Int, q ≠ bx → M5 32 q = M 32 q ∧ M5 63 q = M 63 q ∧ M5 64 q = M 64 q ∧ M5 65 q = M 65 q := fun q hq => by
    refine ⟨?_, ?_, ?_, ?_⟩
    · rw [g5.1 32 (by decide) (by decide), g4.1 32 (by decide) (by decide), g3.1 32 (by decide) (by decide), q4 q hq, m1c 32 (by decide)]
    · rw [g5.1 63 (by decide) (by decide), g4.1 63 (by decide) (by decide), g3.2.2.2.1 q hq, q1 63 (by decide) (by decide), m1c 63 (by decide)]
    · rw [g5.1 64 (by decide) (by decide), g4.2.2.2.1 q hq, g3.1 64 (by decide) (by decide), q1 64 (by decide) (by decide), m1c 64 (by decide)]
    · rw [g5.2.2.2.1 q hq, g4.1 65 (by decide) (by decide), g3.1 65 (by decide) (by decide), q1 65 (by decide) (by decide), m1c 65 (by decide)]
  have d32 : M5 32 bx = M2 32 bx := by rw [g5.1 32 (by decide) (by decide), g4.1 32 (by decide) (by decide), g3.1 32 (by decide) (by decide)]
  have d63 : M5 63 bx = x3 := by rw [g5.1 63 (by decide) (by decide), g4.1 63 (by decide) (by decide), g3.2.2.2.2]
  have d64 : M5 64 bx = x4 := by rw [g5.1 64 (by decide) (by decide), g4.2.2.2.2]
  have d65 : M5 65 bx = x5 := g5.2.2.2.2
  generalize hX : zup V5 217 (12 + bx) (V5 200 42) = X at k5' ⊢
  have xc : ∀ c : Nat, c ≠ 217 → X c = V5 c := fun c hc => by rw [← hX, zup_c hc]
  have x217 : X 217 (12 + bx) = x5 := by rw [← hX, zup_eq, u3]
  have x217n : ∀ q : Int, q ≠ 12 + bx → X 217 q = V5 217 q := fun q hq => by rw [← hX, zup_nk hq]
  have hv : ∀ c : Nat, c ≠ 200 → c ≠ 214 → c ≠ 215 → c ≠ 216 → c ≠ 217 → X c = V c := fun c c1 c2 c3 c4 c5 => by rw [xc c c5, f5.1 c c1, zup_c c4, f4.1 c c1, zup_c c3, f3.1 c c1, f2.1 c c1, zup_c c2, fV1.1 c c1]
  have hvq : ∀ q : Int, q < 4 ∨ 8 < q → q ≠ 42 → X 200 q = V 200 q := fun q h1 h2 => by rw [xc 200 (by decide), f5.2 q h1 h2, zup_ne (by decide), f4.2 q h1 h2, zup_ne (by decide), f3.2 q h1 h2, f2.2 q h1, zup_ne (by decide), fV1.2 q h1]
  have y214 : X 214 = zup V1 214 bx (V1 200 7) 214 := by rw [xc 214 (by decide), f5.1 214 (by decide), zup_c (by decide), f4.1 214 (by decide), zup_c (by decide), f3.1 214 (by decide), f2.1 214 (by decide)]
  have hvn : ∀ q : Int, q ≠ bx → X 214 q = V 214 q := fun q hq => by rw [y214, zup_nk hq, fV1.1 214 (by decide)]
  have y214b : X 214 bx = V1 200 7 := by rw [y214, zup_eq]
  have y215 : X 215 = zup V3 215 (12 + bx) (V3 200 42) 215 := by rw [xc 215 (by decide), f5.1 215 (by decide), zup_c (by decide), f4.1 215 (by decide)]
  have y216 : X 216 = zup V4 216 (12 + bx) (V4 200 42) 216 := by rw [xc 216 (by decide), f5.1 216 (by decide)]
  have o215 : V3 215 = V 215 := by rw [f3.1 215 (by decide), f2.1 215 (by decide), zup_c (by decide), fV1.1 215 (by decide)]
  have o216 : V4 216 = V 216 := by rw [f4.1 216 (by decide), zup_c (by decide), f3.1 216 (by decide), f2.1 216 (by decide), zup_c (by decide), fV1.1 216 (by decide)]
  have o217 : V5 217 = V 217 := by rw [f5.1 217 (by decide), zup_c (by decide), f4.1 217 (by decide), zup_c (by decide), f3.1 217 (by decide), f2.1 217 (by decide), zup_c (by decide), fV1.1 217 (by decide)]
  have a215 : X 215 (12 + bx) = x3 := by rw [y215, zup_eq, t4]
  have a216 : X 216 (12 + bx) = x4 := by rw [y216, zup_eq, t8]
  have hvr : ∀ q : Int, q ≠ 12 + bx → X 215 q = V 215 q ∧ X 216 q = V 216 q ∧ X 217 q = V 217 q ∧ X 218 q = V 218 q := fun q hq => ⟨by rw [y215, zup_nk hq, o215], by rw [y216, zup_nk hq, o216], by rw [x217n q hq, o217], by rw [hv 218 (by decide) (by decide) (by decide) (by decide) (by decide)]⟩
  -- the kind
  unfold fX6_bowlLine_j113
  have ab5 := k5'.1.2.2.1
  have bb5 := k5'.1.1.2.2
  rw [if_neg (show ¬ (1 : Int) = 0 by decide), (e_seen k5'.1).1, zbd_s, zbd_s, zbd_s, m_isWord k5'.1 (k := 4) (by omega) xwk_4.symm, zbd_s, m_isWord k5'.1 (k := 5) (by omega) xwk_5.symm, zbd_s, m_isWord k5'.1 (k := 6) (by omega) xwk_6.symm, zbd_s]
  -- after the kind
  have j200 : ∀ (kd : Int) (M6 : zMem), (0 ≤ kd ∧ kd ≤ 3) → (kd = 0 → M6 = M5) → (kd ≠ 0 → (M5 23 (M5 30 3) / 1024) ≠ 0 ∧ (M5 23 (M5 30 3) / 1024) ≠ 1 ∧ M6 = zup M5 30 3 (M5 30 3 + 1)) → xS (xL1 T n M0 V0 M) (xFt M0 V0) (fX6_bowlLine_j160 kd M6) (fX12_readsBowl_j200 (12 + bx) kd (12 + bx) X) := by
    intro kd M6 hkd h0 h1
    unfold fX12_readsBowl_j200
    rw [zgd_t ⟨by omega, by omega⟩, zgd_t ⟨by omega, by omega⟩, zup_eq]
    have k6 : xK T n M0 V0 M5 (zup X 218 (12 + bx) kd) := xK_v k5' (zup_c (by decide)) (fun q _ _ => zup_ne (by decide)) (k5'.2.2.up (by omega) (zSc_12 (by omega) (by omega) (by omega)))
    by_cases z : kd = 0
    · rw [if_pos (by omega), h0 z]
      refine tail M5 _ kd k6 hkd hc5 hq5 hp5 hr5 (by rw [d32, zup_ne (by decide), y214b]; exact q5) ⟨⟨by rw [zup_ne (by decide), a215, d63], by omega, by omega⟩, ⟨by rw [zup_ne (by decide), a216, d64], by omega, by omega⟩, ⟨by rw [zup_ne (by decide), x217, d65], by omega, by omega⟩, zup_eq⟩ (fun c c1 c2 c3 c4 c5 c6 => by rw [zup_c c6, hv c c1 c2 c3 c4 c5]) (fun q p1 p2 => by rw [zup_ne (by decide), hvq q p1 p2]) (fun q hq => by rw [zup_ne (by decide), hvn q hq]) (fun q hq => ?_)
      rw [zup_ne (show (215 : Nat) ≠ 218 by decide), zup_ne (show (216 : Nat) ≠ 218 by decide), zup_ne (show (217 : Nat) ≠ 218 by decide), zup_nk hq]
      exact hvr q hq
    · obtain ⟨z1, z2, z3⟩ := h1 z
      rw [if_neg (by omega)]
      obtain ⟨-, W, e, fW, vW, gW⟩ := s_next k6 z1 z2
      rw [e, zbd_s]
      have k7 : xK T n M0 V0 M6 W := by
        rw [z3]
        exact ⟨gW _ (zup_c (by decide)) (zup_c (by decide)) (zup_c (by decide)) (zup_c (by decide)) zup_eq, k5'.2.1.up (by omega), vW⟩
      have z6 : ∀ c : Nat, c ≠ 30 → M6 c = M5 c := fun c hc => by rw [z3, zup_c hc]
      refine tail M6 W kd k7 hkd (fun c c1 c2 c3 c4 c5 => by rw [z6 c c1, hc5 c c1 c2 c3 c4 c5]) (fun q hq => by rw [z3, zup_nk hq, hq5 q hq]) (by rw [z3, zup_eq]; omega) (fun q hq => by rw [z6 32 (by decide), z6 63 (by decide), z6 64 (by decide), z6 65 (by decide)]; exact hr5 q hq) (by rw [z6 32 (by decide), d32, fW.1 214 (by decide), zup_ne (by decide), y214b]; exact q5) ?_ (fun c c1 c2 c3 c4 c5 c6 => by rw [fW.1 c c1, zup_c c6, hv c c1 c2 c3 c4 c5]) (fun q p1 p2 => by rw [fW.2 q p1, zup_ne (by decide), hvq q p1 p2]) (fun q hq => by rw [fW.1 214 (by decide), zup_ne (by decide), hvn q hq]) (fun q hq => ?_)
      · rw [z6 63 (by decide), z6 64 (by decide), z6 65 (by decide), fW.1 215 (by decide), fW.1 216 (by decide), fW.1 217 (by decide), fW.1 218 (by decide), zup_ne (show (215 : Nat) ≠ 218 by decide), zup_ne (show (216 : Nat) ≠ 218 by decide), zup_ne (show (217 : Nat) ≠ 218 by decide), zup_eq, a215, a216, x217, d63, d64, d65]
        exact ⟨⟨rfl, by omega, by omega⟩, ⟨rfl, by omega, by omega⟩, ⟨rfl, by omega, by omega⟩, rfl⟩
      · rw [fW.1 215 (by decide), fW.1 216 (by decide), fW.1 217 (by decide), fW.1 218 (by decide), zup_ne (show (215 : Nat) ≠ 218 by decide), zup_ne (show (216 : Nat) ≠ 218 by decide), zup_ne (show (217 : Nat) ≠ 218 by decide), zup_nk hq]
        exact hvr q hq
  rw [zw_i (x := M5 30 3 + 1) (by omega) (by omega)]
  generalize hcc : (M5 23 (M5 30 3) / 1024) = cc at j200 ⊢
  by_cases y1 : cc = 104
  · subst y1
    rw [if_neg (show ¬ (104 : Int) < 104 by decide), if_neg (show ¬ (106 : Int) < 104 by decide), zw_i (x := 104 - 104 + 1) (by decide) (by decide), show (104 : Int) - 104 + 1 = 1 by decide, if_neg (show ¬ (if (104 : Int) = 100 + ((4 : Nat) : Int) then (1 : Int) else 0) = 0 by decide)]
    exact j200 1 _ (by omega) (fun z => by omega) (fun _ => ⟨by decide, by decide, rfl⟩)
  by_cases y2 : cc = 105
  · subst y2
    rw [if_neg (show ¬ (105 : Int) < 104 by decide), if_neg (show ¬ (106 : Int) < 105 by decide), zw_i (x := 105 - 104 + 1) (by decide) (by decide), show (105 : Int) - 104 + 1 = 2 by decide, if_pos (show (if (105 : Int) = 100 + ((4 : Nat) : Int) then (1 : Int) else 0) = 0 by decide), if_neg (show ¬ (if (105 : Int) = 100 + ((5 : Nat) : Int) then (1 : Int) else 0) = 0 by decide)]
    exact j200 2 _ (by omega) (fun z => by omega) (fun _ => ⟨by decide, by decide, rfl⟩)
  by_cases y3 : cc = 106
  · subst y3
    rw [if_neg (show ¬ (106 : Int) < 104 by decide), if_neg (show ¬ (106 : Int) < 106 by decide), zw_i (x := 106 - 104 + 1) (by decide) (by decide), show (106 : Int) - 104 + 1 = 3 by decide, if_pos (show (if (106 : Int) = 100 + ((4 : Nat) : Int) then (1 : Int) else 0) = 0 by decide), if_pos (show (if (106 : Int) = 100 + ((5 : Nat) : Int) then (1 : Int) else 0) = 0 by decide), if_neg (show ¬ (if (106 : Int) = 100 + ((6 : Nat) : Int) then (1 : Int) else 0) = 0 by decide)]
    exact j200 3 _ (by omega) (fun z => by omega) (fun _ => ⟨by decide, by decide, rfl⟩)
  have z0 := j200 0 M5 (by omega) (fun _ => rfl) (fun z => by omega)
  rw [if_neg (show ¬ cc = 100 + ((4 : Nat) : Int) by omega), if_pos (show (0 : Int) = 0 from rfl), if_neg (show ¬ cc = 100 + ((5 : Nat) : Int) by omega), if_pos (show (0 : Int) = 0 from rfl), if_neg (show ¬ cc = 100 + ((6 : Nat) : Int) by omega), if_pos (show (0 : Int) = 0 from rfl)]
  by_cases y4 : cc < 104
  · rw [if_pos y4]; exact z0
  · rw [if_neg y4, if_pos (by omega)]; exact z0
end TK8
