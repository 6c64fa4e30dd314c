/-! PURE PART, 71: the lines of a pair and of a setting -/
section TK9
variable {M V M0 V0 : zMem} {T T' : Int → Int} {n p e s c w t v : Int}
theorem xFt_c {M' : zMem} {Vf : zMem} (h : xFt M0 V0 M Vf) {k x : Int} (e : M' = zup M 60 k x) : xFt M0 V0 M' Vf := by
  subst e
  obtain ⟨a1, a2, a3, a4, a5⟩ := h
  unfold xFt
  rw [zup_c (show 30 ≠ 60 by decide), zup_c (show 20 ≠ 60 by decide), zup_c (show 23 ≠ 60 by decide)]
  exact ⟨a1, a2, a3, a4.up (by omega), a5⟩
theorem p_f {Q : zMem → zMem → Prop} {Mf Vf : zMem} (h : xFt M0 V0 Mf Vf) : xS Q (xFt M0 V0) (fX6_pairLine_j135 Mf) (some (0, Vf)) := by
  unfold fX6_pairLine_j135 fX6_pairLine_j136 fX6_pairLine_j154
  rw [if_pos rfl]
  exact ⟨_, _, Or.inr ⟨rfl, rfl, xFt_c h rfl⟩⟩
theorem s_told (h : xK T n M0 V0 M V) (hN : xNm T n M V) {o : Nat} (ho : 60 ≤ o ∧ o < 80) {i other : Int} (i0 : 0 ≤ i) (i1 : i < 8) : (∃ Mf Vf : zMem, fX6_toldName o 8 i other M = some (0, Mf) ∧ fX12_isKept V = some 1 ∧ fX12_fails 1 V = some (0, Vf) ∧ xFt M0 V0 Mf Vf) ∨ (fX12_isKept V = some 0 ∧ ∃ b : Int, fX12_bowlOf V = some b ∧ ((M 23 (M 30 3) / 1024) ≠ 0 ∧ (M 23 (M 30 3) / 1024) ≠ 1) ∧ ((b = -1 ∧ fX6_toldName o 8 i other M = fX6_refuse 2 M) ∨ ((0 ≤ b ∧ b < M 60 0) ∧ b = other ∧ fX6_toldName o 8 i other M = fX6_refuse 3 M) ∨ ((0 ≤ b ∧ b < M 60 0) ∧ b ≠ other ∧ ∃ M' : zMem, fX6_toldName o 8 i other M = some (1, M') ∧ xGo M M' 1 o i b))) := by
  have nm := e_isName h.1
  have kp := m_isKept h.1
  have s1 := xSe_1 h.1.2.2.2.2.1
  have ab := h.1.2.2.1
  have bb := h.1.1.2.2
  unfold fX6_toldName
  rw [nm, zbd_s]
  by_cases c : (M 23 (M 30 3) / 1024) = 2 ∨ (125 ≤ (M 23 (M 30 3) / 1024) ∧ (M 23 (M 30 3) / 1024) ≤ 128)
  · have ht : V 200 6 = 1 := s1.2 (by omega)
    obtain ⟨b, b1, b2, b3, b4⟩ := s_bowlSeen h.1 hN ht
    rw [if_pos c] at kp
    rw [if_pos c, if_neg (show ¬ (1 : Int) = 0 by decide), b1, zbd_s]
    refine Or.inr ⟨kp, b, b2, by omega, ?_⟩
    by_cases d : b = -1
    · rw [if_pos d]
      exact Or.inl ⟨d, rfl⟩
    · rw [if_neg d]
      by_cases f : b = other
      · rw [if_pos f]
        exact Or.inr (Or.inl ⟨⟨by omega, b4⟩, f, rfl⟩)
      · rw [if_neg f, zgd_t ⟨i0, i1⟩, zup_ne (show (30 : Nat) ≠ o by omega), zw_i (x := M 30 3 + 1) (by omega) (by omega)]
        exact Or.inr (Or.inr ⟨⟨by omega, b4⟩, f, _, rfl, fun d d1 d2 => by rw [zup_c d1, zup_c d2], fun q hq => by rw [zup_nk hq, zup_ne (by omega)], zup_eq, fun q hq => by rw [zup_ne (by omega), zup_nk hq], by rw [zup_ne (by omega), zup_eq]⟩)
  · rw [if_neg c] at kp
    obtain ⟨f1, f2, f3⟩ := s_fail h (k := 1) (by decide) (by decide)
    rw [if_neg c, if_pos rfl, f1]
    exact Or.inl ⟨_, _, rfl, kp, f2, f3⟩
theorem xNm_c {M' V' : zMem} (h : xNm T n M V) (h1 : M' 60 0 = M 60 0) (h2 : M' 32 = M 32) (v1 : V' 211 1 = V 211 1) (v2 : V' 214 = V 214) : xNm T n M' V' := by
  unfold xNm at h ⊢
  rw [h1, h2, v1, v2]; exact h
set_option maxHeartbeats 1000000 in
theorem s_pair (h : xL T n M0 V0 M V) (hc : (M 23 (M 30 3) / 1024) = 107) (hb : M 60 7 < 8) : xS (xL1 T n M0 V0 M) (xFt M0 V0) (fX6_pairLine M) (fX12_readsPair V) := by
  obtain ⟨hK, hN, hD, hZ⟩ := h
  have b0 := hN.1
  have p0 := hD.1
  have ab := hK.1.2.2.1
  have bb := hK.1.1.2.2
  obtain ⟨px, hpx⟩ : ∃ b : Int, b = M 60 7 := ⟨_, rfl⟩
  have px0 : 0 ≤ px := by omega
  have px1 : px < 8 := by omega
  have g1 : xGo M (zup M 30 3 (M 30 3 + 1)) 1 60 0 (M 60 0) := ⟨fun d d1 d2 => zup_c d1, fun q hq => zup_nk hq, zup_eq, fun q hq => zup_ne (by decide), zup_ne (by decide)⟩
  obtain ⟨V1, n1, fV1, k1⟩ := s_go hK (by omega) (by omega) (o := 60) (by omega) g1 rfl (fun _ _ _ => rfl) hK.2.2
  unfold fX6_pairLine fX12_readsPair
  rw [zw_i (x := M 30 3 + 1) (by omega) (by omega), zgd_t (show (0 : Int) ≤ 1 ∧ (1 : Int) < 6 by decide), p0.1, if_neg (show ¬ M 60 7 = 8 by omega)]
  rw [← hpx, zw_i (x := 8 + px) (by omega) (by omega)]
  simp only [zgd_t (show (0 : Int) ≤ 1 ∧ (1 : Int) < 6 by decide), zgd_t (show (0 : Int) ≤ 8 + px ∧ 8 + px < 48 by omega), zgd_t (show (0 : Int) ≤ px ∧ px < 8 by omega), zup_eq]
  rw [n1, zbd_s]
  have m1c : ∀ c : Nat, c ≠ 30 → zup M 30 3 (M 30 3 + 1) c = M c := fun c hc => zup_c hc
  have m1q : ∀ q : Int, q ≠ 3 → zup M 30 3 (M 30 3 + 1) 30 q = M 30 q := fun q hq => zup_nk hq
  have m13 : zup M 30 3 (M 30 3 + 1) 30 3 = M 30 3 + 1 := zup_eq
  clear g1 n1
  generalize zup M 30 3 (M 30 3 + 1) = M1 at *
  have N1 : xNm T n M1 V1 := xNm_c hN (by rw [m1c 60 (by decide)]) (m1c 32 (by decide)) (by rw [fV1.1 211 (by decide)]) (fV1.1 214 (by decide))
  -- the first name
  rcases s_told k1 N1 (o := 69) (by omega) (i := px) (other := -1) px0 px1 with ⟨Mf, Vf, a1, a2, a3, a4⟩ | ⟨a2, b, a3, a4, hor⟩
  · rw [a1, zbd2_s, a2, zbd_s, if_neg (show ¬ (1 : Int) = 0 by decide), a3]
    exact p_f a4
  rw [a2, zbd_s, if_pos (show (0 : Int) = 0 from rfl), a3, zbd_s]
  have k1' : xK T n M0 V0 M1 (zup V1 220 (8 + px) b) := xK_v k1 (zup_c (by decide)) (fun q _ _ => zup_ne (by decide)) (k1.2.2.up (by omega) (zSc_8 (by omega) (by omega) (by omega)))
  rcases hor with ⟨c1, c2⟩ | ⟨⟨c1, -⟩, c2, -⟩ | ⟨⟨b1, b2⟩, -, M2, c2, g2⟩
  · obtain ⟨f1, f2, f3⟩ := s_fail k1' (k := 2) (by decide) (by decide)
    rw [c2, f1, zbd2_s, if_neg (show ¬ 0 ≤ b by omega), f2]
    exact p_f f3
  · omega
  rw [c2, zbd2_s, if_pos b1]
  dsimp only
  rw [if_neg (show ¬ (1 : Int) = 0 by decide)]
  obtain ⟨V2, n2, fV2, k2⟩ := s_go k1 a4.1 a4.2 (by omega) g2 (V2 := zup V1 220 (8 + px) b) (zup_c (by decide)) (fun q _ _ => zup_ne (by decide)) k1'.2.2
  rw [n2, zbd_s]
  -- its number
  rcases s_number k2 (o := 70) (no := 8) (i := px) (lo := 1) (hi := 20) (by omega) px0 (by omega) (by omega) with ⟨Mf, Vf, a5, a6, a7⟩ | ⟨M3, x3, hx3, a5, g3, a6, a7, a8, a9⟩
  · rw [a5, zbd2_s, a6, zbd2_s]
    exact p_f a7
  rw [a5, zbd2_s, a6, zbd2_s]
  dsimp only
  rw [if_neg (show ¬ (1 : Int) = 0 by decide), if_neg (show ¬ (1 : Int) = 0 by decide)]
  have k2' : xFv V0 (zup V2 221 (8 + px) (V2 200 8)) := k2.2.2.up (by omega) (zSc_8 (by omega) (by omega) (by omega))
  obtain ⟨V3, n3, fV3, k3⟩ := s_go k2 a8 a9 (by omega) g3 (V2 := zup V2 221 (8 + px) (V2 200 8)) (zup_c (by decide)) (fun q _ _ => zup_ne (by decide)) k2'
  rw [n3, zbd_s]
  have e69 : M3 69 px = b := by rw [g3.1 69 (by decide) (by decide), g2.2.2.2.2]
  have v220 : V3 220 (8 + px) = b := by rw [fV3.1 220 (by decide), zup_ne (by decide), fV2.1 220 (by decide), zup_eq]
  have N3 : xNm T n M3 V3 := xNm_c N1 (by rw [g3.1 60 (by decide) (by decide), g2.1 60 (by decide) (by decide)]) (by rw [g3.1 32 (by decide) (by decide), g2.1 32 (by decide) (by decide)]) (by rw [fV3.1 211 (by decide), zup_ne (by decide), fV2.1 211 (by decide), zup_ne (by decide)]) (by rw [fV3.1 214 (by decide), zup_c (by decide), fV2.1 214 (by decide), zup_c (by decide)])
  -- the second name
  rw [e69]
  rcases s_told k3 N3 (o := 71) (by omega) (i := px) (other := b) px0 px1 with ⟨Mf, Vf, d1, d2, d3, d4⟩ | ⟨d2, b', d3, d4, hor⟩
  · rw [d1, zbd2_s, d2, zbd_s, if_neg (show ¬ (1 : Int) = 0 by decide), d3]
    exact p_f d4
  rw [d2, zbd_s, if_pos (show (0 : Int) = 0 from rfl), d3, zbd_s]
  have k3' : xK T n M0 V0 M3 (zup V3 222 (8 + px) b') := xK_v k3 (zup_c (by decide)) (fun q _ _ => zup_ne (by decide)) (k3.2.2.up (by omega) (zSc_8 (by omega) (by omega) (by omega)))
  rw [zup_ne (show (220 : Nat) ≠ 222 by decide), v220]
  rcases hor with ⟨c1, c3⟩ | ⟨⟨c1, -⟩, c4, c3⟩ | ⟨⟨b3, b4⟩, b5, M4, c3, g4⟩
  · obtain ⟨f1, f2, f3⟩ := s_fail k3' (k := 2) (by decide) (by decide)
    rw [c3, f1, zbd2_s, if_neg (show ¬ 0 ≤ b' by omega), f2]
    exact p_f f3
  · obtain ⟨f1, f2, f3⟩ := s_fail k3' (k := 3) (by decide) (by decide)
    rw [c3, f1, zbd2_s, if_pos c1, if_pos c4, f2]
    exact p_f f3
  rw [c3, zbd2_s, if_pos b3, if_neg b5]
  dsimp only
  rw [if_neg (show ¬ (1 : Int) = 0 by decide)]
  obtain ⟨V4, n4, fV4, k4⟩ := s_go k3 d4.1 d4.2 (by omega) g4 (V2 := zup V3 222 (8 + px) b') (zup_c (by decide)) (fun q _ _ => zup_ne (by decide)) k3'.2.2
  rw [n4, zbd_s]
  -- its number
  rcases s_number k4 (o := 72) (no := 8) (i := px) (lo := 1) (hi := 20) (by omega) px0 (by omega) (by omega) with ⟨Mf, Vf, e5, e6, e7⟩ | ⟨M5, x5, hx5, e5, g5, e6, e7, e8, e9⟩
  · rw [e5, zbd2_s, e6, zbd2_s]
    exact p_f e7
  rw [e5, zbd2_s, e6, zbd2_s]
  dsimp only
  rw [if_neg (show ¬ (1 : Int) = 0 by decide), if_neg (show ¬ (1 : Int) = 0 by decide)]
  have k4' : xFv V0 (zup V4 223 (8 + px) (V4 200 8)) := k4.2.2.up (by omega) (zSc_8 (by omega) (by omega) (by omega))
  obtain ⟨V5, n5, fV5, k5⟩ := s_go k4 e8 e9 (by omega) g5 (V2 := zup V4 223 (8 + px) (V4 200 8)) (zup_c (by decide)) (fun q _ _ => zup_ne (by decide)) k4'
  rw [n5, zbd_s]
  -- within
  rcases s_need k5 (k := 8) (by omega) (tk := 108) rfl xwk_8.symm (o := 73) (no := 8) (i := px) (lo := 0) (hi := 9999) (by omega) px0 (by omega) (by omega) with ⟨Mf, Vf, h5, h6, h7⟩ | ⟨M5', M6, V6, x6, hx6, t9, u1, g6, u2, u3, f6, k6⟩
  · rw [h6, zbd2_s]
    rcases h5 with h5 | ⟨Ma, h5, h8⟩
    · rw [h5, zbd2_s]
      exact p_f h7
    · rw [h5, zbd2_s]
      dsimp only
      rw [if_neg (show ¬ (1 : Int) = 0 by decide), h8, zbd2_s]
      exact p_f h7
  rw [t9, zbd2_s]
  dsimp only
  rw [if_neg (show ¬ (1 : Int) = 0 by decide), u1, zbd2_s, u2, zbd2_s]
  dsimp only
  rw [if_neg (show ¬ (1 : Int) = 0 by decide), if_neg (show ¬ (1 : Int) = 0 by decide)]
  -- back to the first memories
  have z212 : V6 212 = V 212 := by rw [f6.1 212 (by decide), fV5.1 212 (by decide), zup_c (by decide), fV4.1 212 (by decide), zup_c (by decide), fV3.1 212 (by decide), zup_c (by decide), fV2.1 212 (by decide), zup_c (by decide), fV1.1 212 (by decide)]
  rw [zup_ne (show (212 : Nat) ≠ 224 by decide), z212, p0.1, ← hpx, zw_i (x := px + 1) (by omega) (by omega)]
  have k6' : xK T n M0 V0 M6 (zup (zup V6 224 (8 + px) (V6 200 42)) 212 1 (px + 1)) := xK_v k6 (by rw [zup_c (by decide), zup_c (by decide)]) (fun q _ _ => by rw [zup_ne (by decide), zup_ne (by decide)]) ((k6.2.2.up (by omega) (zSc_8 (by omega) (by omega) (by omega))).up (by omega) rfl)
  generalize hX : zup (zup V6 224 (8 + px) (V6 200 42)) 212 1 (px + 1) = X at k6' ⊢
  rcases s_ends k6' with ⟨Mf, Vf, h1, h2, h3⟩ | ⟨W, h1, h2, fW, k7⟩
  · rw [h1, zbd2_s, h2, zbd2_s]
    exact p_f h3
  rw [h1, zbd2_s, h2, zbd2_s]
  dsimp only
  rw [if_neg (show ¬ (1 : Int) = 0 by decide)]
  unfold fX6_pairLine_j136 fX6_pairLine_j154
  rw [if_neg (show ¬ (1 : Int) = 0 by decide)]
  have hM6 : ∀ c : Nat, c ≠ 30 → c ≠ 69 → c ≠ 70 → c ≠ 71 → c ≠ 72 → c ≠ 73 → M6 c = M c := fun c c1 c2 c3 c4 c5 c6 => by rw [g6.1 c c1 c6, g5.1 c c1 c5, g4.1 c c1 c4, g3.1 c c1 c3, g2.1 c c1 c2, m1c c c1]
  have m607 : zup M6 30 3 (M6 30 3 + 1) 60 7 = px := by rw [zup_ne (by decide), hM6 60 (by decide) (by decide) (by decide) (by decide) (by decide) (by decide), hpx]
  rw [m607, zw_i (x := px + 1) (by omega) (by omega)]
  generalize hR : zup (zup M6 30 3 (M6 30 3 + 1)) 60 7 (px + 1) = R
  have r607 : R 60 7 = px + 1 := by rw [← hR, zup_eq]
  have r60 : ∀ q : Int, q ≠ 7 → R 60 q = M 60 q := fun q hq => by rw [← hR, zup_nk hq, zup_ne (by decide), hM6 60 (by decide) (by decide) (by decide) (by decide) (by decide) (by decide)]
  have rc6 : ∀ c : Nat, c ≠ 30 → c ≠ 60 → R c = M6 c := fun c c1 c2 => by rw [← hR, zup_c c2, zup_c c1]
  have rM : ∀ c : Nat, c ≠ 30 → c ≠ 60 → c ≠ 69 → c ≠ 70 → c ≠ 71 → c ≠ 72 → c ≠ 73 → R c = M c := fun c c1 c2 c3 c4 c5 c6 c7 => by rw [rc6 c c1 c2, hM6 c c1 c3 c4 c5 c6 c7]
  have r30 : ∀ q : Int, q ≠ 3 → R 30 q = M 30 q := fun q hq => by rw [← hR, zup_ne (by decide), zup_nk hq, g6.2.1 q hq, g5.2.1 q hq, g4.2.1 q hq, g3.2.1 q hq, g2.2.1 q hq, m1q q hq]
  have r303 : R 30 3 = M6 30 3 + 1 := by rw [← hR, zup_ne (by decide), zup_eq]
  have i6 : M 30 3 ≤ M6 30 3 := by
    have := g6.2.2.1
    have := g5.2.2.1
    have := g4.2.2.1
    have := g3.2.2.1
    have := g2.2.2.1
    omega
  have q69 : ∀ q : Int, R 69 q = if q = px then b else M 69 q := fun q => by
    rw [rc6 69 (by decide) (by decide), g6.1 69 (by decide) (by decide), g5.1 69 (by decide) (by decide), g4.1 69 (by decide) (by decide), g3.1 69 (by decide) (by decide)]
    by_cases u : q = px
    · rw [if_pos u, u, g2.2.2.2.2]
    · rw [if_neg u, g2.2.2.2.1 q u, m1c 69 (by decide)]
  have q70 : ∀ q : Int, R 70 q = if q = px then x3 else M 70 q := fun q => by
    rw [rc6 70 (by decide) (by decide), g6.1 70 (by decide) (by decide), g5.1 70 (by decide) (by decide), g4.1 70 (by decide) (by decide)]
    by_cases u : q = px
    · rw [if_pos u, u, g3.2.2.2.2]
    · rw [if_neg u, g3.2.2.2.1 q u, g2.1 70 (by decide) (by decide), m1c 70 (by decide)]
  have q71 : ∀ q : Int, R 71 q = if q = px then b' else M 71 q := fun q => by
    rw [rc6 71 (by decide) (by decide), g6.1 71 (by decide) (by decide), g5.1 71 (by decide) (by decide)]
    by_cases u : q = px
    · rw [if_pos u, u, g4.2.2.2.2]
    · rw [if_neg u, g4.2.2.2.1 q u, g3.1 71 (by decide) (by decide), g2.1 71 (by decide) (by decide), m1c 71 (by decide)]
  have q72 : ∀ q : Int, R 72 q = if q = px then x5 else M 72 q := fun q => by
    rw [rc6 72 (by decide) (by decide), g6.1 72 (by decide) (by decide)]
    by_cases u : q = px
    · rw [if_pos u, u, g5.2.2.2.2]
    · rw [if_neg u, g5.2.2.2.1 q u, g4.1 72 (by decide) (by decide), g3.1 72 (by decide) (by decide), g2.1 72 (by decide) (by decide), m1c 72 (by decide)]
  have q73 : ∀ q : Int, R 73 q = if q = px then x6 else M 73 q := fun q => by
    rw [rc6 73 (by decide) (by decide)]
    by_cases u : q = px
    · rw [if_pos u, u, g6.2.2.2.2]
    · rw [if_neg u, g6.2.2.2.1 q u, g5.1 73 (by decide) (by decide), g4.1 73 (by decide) (by decide), g3.1 73 (by decide) (by decide), g2.1 73 (by decide) (by decide), m1c 73 (by decide)]
  have wX : ∀ c : Nat, c ≠ 200 → W c = X c := fun c hc => fW.1 c hc
  have w212 : W 212 1 = px + 1 := by rw [wX 212 (by decide), ← hX, zup_eq]
  have wV6 : ∀ c : Nat, c ≠ 200 → c ≠ 212 → c ≠ 224 → W c = V6 c := fun c c1 c2 c3 => by rw [wX c c1, ← hX, zup_c c2, zup_c c3]
  have wV : ∀ c : Nat, c ≠ 200 → c ≠ 212 → c ≠ 220 → c ≠ 221 → c ≠ 222 → c ≠ 223 → c ≠ 224 → W c = V c := fun c c1 c2 c3 c4 c5 c6 c7 => by rw [wV6 c c1 c2 c7, f6.1 c c1, fV5.1 c c1, zup_c c6, fV4.1 c c1, zup_c c5, fV3.1 c c1, zup_c c4, fV2.1 c c1, zup_c c3, fV1.1 c c1]
  have wq : W 200 29 = V 200 29 := by rw [fW.2 29 (by omega), ← hX, zup_ne (by decide), zup_ne (by decide), f6.2 29 (by omega) (by decide), fV5.2 29 (by omega), zup_ne (by decide), fV4.2 29 (by omega), zup_ne (by decide), fV3.2 29 (by omega), zup_ne (by decide), fV2.2 29 (by omega), zup_ne (by decide), fV1.2 29 (by omega)]
  have w220 : ∀ q : Int, W 220 q = if q = 8 + px then b else V 220 q := fun q => by
    rw [wV6 220 (by decide) (by decide) (by decide), f6.1 220 (by decide), fV5.1 220 (by decide), zup_ne (by decide), fV4.1 220 (by decide), zup_ne (by decide), fV3.1 220 (by decide), zup_ne (by decide), fV2.1 220 (by decide)]
    by_cases u : q = 8 + px
    · rw [if_pos u, u, zup_eq]
    · rw [if_neg u, zup_nk u, fV1.1 220 (by decide)]
  have w221 : ∀ q : Int, W 221 q = if q = 8 + px then x3 else V 221 q := fun q => by
    rw [wV6 221 (by decide) (by decide) (by decide), f6.1 221 (by decide), fV5.1 221 (by decide), zup_ne (by decide), fV4.1 221 (by decide), zup_ne (by decide), fV3.1 221 (by decide)]
    by_cases u : q = 8 + px
    · rw [if_pos u, u, zup_eq, a7]
    · rw [if_neg u, zup_nk u, fV2.1 221 (by decide), zup_ne (by decide), fV1.1 221 (by decide)]
  have w222 : ∀ q : Int, W 222 q = if q = 8 + px then b' else V 222 q := fun q => by
    rw [wV6 222 (by decide) (by decide) (by decide), f6.1 222 (by decide), fV5.1 222 (by decide), zup_ne (by decide), fV4.1 222 (by decide)]
    by_cases u : q = 8 + px
    · rw [if_pos u, u, zup_eq]
    · rw [if_neg u, zup_nk u, fV3.1 222 (by decide), zup_ne (by decide), fV2.1 222 (by decide), zup_ne (by decide), fV1.1 222 (by decide)]
  have w223 : ∀ q : Int, W 223 q = if q = 8 + px then x5 else V 223 q := fun q => by
    rw [wV6 223 (by decide) (by decide) (by decide), f6.1 223 (by decide), fV5.1 223 (by decide)]
    by_cases u : q = 8 + px
    · rw [if_pos u, u, zup_eq, e7]
    · rw [if_neg u, zup_nk u, fV4.1 223 (by decide), zup_ne (by decide), fV3.1 223 (by decide), zup_ne (by decide), fV2.1 223 (by decide), zup_ne (by decide), fV1.1 223 (by decide)]
  have w224 : ∀ q : Int, W 224 q = if q = 8 + px then x6 else V 224 q := fun q => by
    rw [wX 224 (by decide), ← hX, zup_ne (by decide)]
    by_cases u : q = 8 + px
    · rw [if_pos u, u, zup_eq, u3]
    · rw [if_neg u, zup_nk u, f6.1 224 (by decide), fV5.1 224 (by decide), zup_ne (by decide), fV4.1 224 (by decide), zup_ne (by decide), fV3.1 224 (by decide), zup_ne (by decide), fV2.1 224 (by decide), zup_ne (by decide), fV1.1 224 (by decide)]
  have b60 : M1 60 0 = M 60 0 := by rw [m1c 60 (by decide)]
  have b603 : M3 60 0 = M 60 0 := by rw [g3.1 60 (by decide) (by decide), g2.1 60 (by decide) (by decide), b60]
  refine ⟨R, W, Or.inl ⟨rfl, rfl, ⟨⟨?_, ?_, ?_⟩, ?_, ⟨⟨?_, ?_, ?_⟩, fun k k0 k1 => ?_, fun k k0 k1 => ?_, ?_, ?_⟩, ?_⟩, by rw [r303]; omega, r30 5 (by decide)⟩⟩
  · exact xJ_c k7.1 (by rw [rc6 20 (by decide) (by decide), zup_c (by decide)]) (by rw [rc6 21 (by decide) (by decide), zup_c (by decide)]) (by rw [rc6 23 (by decide) (by decide), zup_c (by decide)]) (by rw [rc6 24 (by decide) (by decide), zup_c (by decide)]) (by rw [r303, zup_eq]) rfl (fun _ _ _ => rfl)
  · intro c hc
    rw [rc6 c (by omega) (by omega)]
    exact k6.2.1 c hc
  · exact k7.2.2
  · exact xNm_c hN (r60 0 (by decide)) (rM 32 (by decide) (by decide) (by decide) (by decide) (by decide) (by decide) (by decide)) (by rw [wV 211 (by decide) (by decide) (by decide) (by decide) (by decide) (by decide) (by decide)]) (wV 214 (by decide) (by decide) (by decide) (by decide) (by decide) (by decide) (by decide))
  · rw [w212, r607]
  · rw [r607]; omega
  · rw [r607]; omega
  · rw [r60 0 (by decide)] at k1
    exact xBo_c k0 (hD.2.1 k k0 k1) (fun d d0 d1 q q0 q1 => by rw [rM d (by omega) (by omega) (by omega) (by omega) (by omega) (by omega) (by omega)]) (fun d d0 d1 => by rw [wV d (by omega) (by omega) (by omega) (by omega) (by omega) (by omega) (by omega)])
  · rw [r607] at k1
    by_cases u : k = px
    · subst u
      unfold xPa
      rw [q69, q70, q71, q72, q73, w220, w221, w222, w223, w224, r60 0 (by decide), if_pos rfl, if_pos rfl, if_pos rfl, if_pos rfl, if_pos rfl, if_pos rfl, if_pos rfl, if_pos rfl, if_pos rfl, if_pos rfl]
      exact ⟨⟨rfl, b1, by omega⟩, ⟨rfl, hx3⟩, ⟨rfl, b3, by omega, b5⟩, ⟨rfl, hx5⟩, ⟨rfl, hx6⟩⟩
    · refine xPa_c (hD.2.2.1 k k0 (by omega)) (fun d d0 d1 => ?_) (by rw [r60 0 (by decide)]; exact Int.le_refl _) (fun d d0 d1 => ?_)
      · have dd : d = 69 ∨ d = 70 ∨ d = 71 ∨ d = 72 ∨ d = 73 := by omega
        rcases dd with rfl | rfl | rfl | rfl | rfl
        · rw [q69, if_neg u]
        · rw [q70, if_neg u]
        · rw [q71, if_neg u]
        · rw [q72, if_neg u]
        · rw [q73, if_neg u]
      · have dd : d = 220 ∨ d = 221 ∨ d = 222 ∨ d = 223 ∨ d = 224 := by omega
        have u' : ¬ 8 + k = 8 + px := by omega
        rcases dd with rfl | rfl | rfl | rfl | rfl
        · rw [w220, if_neg u']
        · rw [w221, if_neg u']
        · rw [w222, if_neg u']
        · rw [w223, if_neg u']
        · rw [w224, if_neg u']
  · exact xTd_c hD.2.2.2.1 (rM 79 (by decide) (by decide) (by decide) (by decide) (by decide) (by decide) (by decide)) (r30 4 (by decide)) (wV 225 (by decide) (by decide) (by decide) (by decide) (by decide) (by decide) (by decide)) (wV 226 (by decide) (by decide) (by decide) (by decide) (by decide) (by decide) (by decide))
  · rw [r60 1 (by decide), r60 0 (by decide), rM 66 (by decide) (by decide) (by decide) (by decide) (by decide) (by decide) (by decide)]
    exact hD.2.2.2.2
  · exact xZ_c hZ (r60 13 (by decide)) (r60 14 (by decide)) (r60 16 (by decide)) (rM 76 (by decide) (by decide) (by decide) (by decide) (by decide) (by decide) (by decide)) (rM 78 (by decide) (by decide) (by decide) (by decide) (by decide) (by decide) (by decide)) (by omega) (by rw [wV 213 (by decide) (by decide) (by decide) (by decide) (by decide) (by decide) (by decide)]) (wV 227 (by decide) (by decide) (by decide) (by decide) (by decide) (by decide) (by decide)) (wV 228 (by decide) (by decide) (by decide) (by decide) (by decide) (by decide) (by decide)) (wV 229 (by decide) (by decide) (by decide) (by decide) (by decide) (by decide) (by decide)) wq
theorem zSc_11 {k : Int} (h0 : 11 ≤ k) (h1 : k < 22) : zSc 225 k = false := by
  simp only [zSc, zfull, zprt, decide_eq_true h0, decide_eq_true h1]; rfl
theorem m_least {k : Int} : fX12_least k V = some (zlea k) := by
  unfold fX12_least zlea
  simp only [apply_ite (some : Int → Option Int)]
theorem m_most {k : Int} : fX12_most k V = some (zmos k) := by
  unfold fX12_most zmos
  simp only [apply_ite (some : Int → Option Int)]
set_option maxHeartbeats 1000000 in
theorem s_set (hS : ∀ k : Int, 0 ≤ k → k < 11 → M0 1001 k = zlea k ∧ M0 1002 k = zmos k) (h : xL T n M0 V0 M V) (hc : (M 23 (M 30 3) / 1024) = 110) : xS (xL1 T n M0 V0 M) (xFt M0 V0) (fX6_setLine M) (fX12_readsSet V) := by
  obtain ⟨hK, hN, hD, hZ⟩ := h
  have ab := hK.1.2.2.1
  have bb := hK.1.1.2.2
  have g1 : xGo M (zup M 30 3 (M 30 3 + 1)) 1 60 0 (M 60 0) := ⟨fun d d1 d2 => zup_c d1, fun q hq => zup_nk hq, zup_eq, fun q hq => zup_ne (by decide), zup_ne (by decide)⟩
  obtain ⟨V1, n1, fV1, k1⟩ := s_go hK (by omega) (by omega) (o := 60) (by omega) g1 rfl (fun _ _ _ => rfl) hK.2.2
  unfold fX6_setLine fX12_readsSet fX6_setLine_j28
  rw [zw_i (x := M 30 3 + 1) (by omega) (by omega), n1, zbd_s]
  have m1c : ∀ c : Nat, c ≠ 30 → zup M 30 3 (M 30 3 + 1) c = M c := fun c hc => zup_c hc
  have m1q : ∀ q : Int, q ≠ 3 → zup M 30 3 (M 30 3 + 1) 30 q = M 30 q := fun q hq => zup_nk hq
  have m13 : zup M 30 3 (M 30 3 + 1) 30 3 = M 30 3 + 1 := zup_eq
  clear g1 n1
  generalize zup M 30 3 (M 30 3 + 1) = M1 at *
  have rg := xSe_r k1.1.2.2.2.2.1
  have ab1 := k1.1.2.2.1
  have bb1 := k1.1.1.2.2
  rw [(e_seen k1.1).1, zbd_s, m_what k1.1, zbd_s]
  obtain ⟨td, m, hm, m2, hbit⟩ := hD.2.2.2.1
  have hm1 : M1 30 4 = m := by rw [m1q 4 (by decide)]; exact hm
  generalize hcc : (M1 23 (M1 30 3) / 1024) = cc at rg ⊢
  rw [zw_i (x := cc - 114) (by omega) (by omega), hm1]
  obtain ⟨f1, f2, f3⟩ := s_fail k1 (k := 1) (by decide) (by decide)
  by_cases c1 : cc - 114 < 0
  · rw [if_pos c1, if_neg (show ¬ (114 ≤ cc ∧ cc ≤ 124) by omega), if_neg (show ¬ (0 : Int) ≤ -1 by decide), f1, f2]
    exact ⟨_, _, Or.inr ⟨rfl, rfl, f3⟩⟩
  rw [if_neg c1]
  by_cases c2 : cc - 114 < 11
  · obtain ⟨k, hk⟩ : ∃ k : Nat, cc - 114 = k := ⟨(cc - 114).toNat, by omega⟩
    have k11 : k < 11 := by omega
    rw [if_pos c2, if_pos (show 114 ≤ cc ∧ cc ≤ 124 by omega), hk, if_pos (show (0 : Int) ≤ k by omega), zbit_n (by omega) (by omega), zgd_t ⟨by omega, by omega⟩, zgd_t ⟨by omega, by omega⟩, zgd_t ⟨by omega, by omega⟩, zgd_t ⟨by omega, by omega⟩]
    have v226 : V1 226 k = if m.testBit k then 1 else 0 := by rw [fV1.1 226 (by decide)]; exact hbit k k11
    rw [v226]
    cases ht : m.testBit k with
    | true =>
      obtain ⟨f1, f2, f3⟩ := s_fail k1 (k := 3) (by decide) (by decide)
      rw [if_neg (show ¬ (if true = true then (1 : Int) else 0) = 0 by decide), if_neg (show ¬ (if true = true then (1 : Int) else 0) = 0 by decide), f1, f2]
      exact ⟨_, _, Or.inr ⟨rfl, rfl, f3⟩⟩
    | false =>
      rw [if_pos (show (if false = true then (1 : Int) else 0) = 0 by decide), if_pos (show (if false = true then (1 : Int) else 0) = 0 by decide)]
      have p11 : 2 ^ k < 2 ^ 11 := Nat.pow_lt_pow_right (by omega) k11
      have ob : m ||| 2 ^ k < 2 ^ 11 := Nat.or_lt_two_pow (by omega) p11
      rw [zshl_1 k (by omega), zor_n (by omega) (by omega), zup_nk (show (3 : Int) ≠ 4 by decide), zw_i (x := M1 30 3 + 1) (by omega) (by omega)]
      have k1' : xFv V0 (zup V1 226 k 1) := k1.2.2.up (by omega) rfl
      have k1k : xK T n M0 V0 M1 (zup V1 226 k 1) := xK_v k1 (zup_c (by decide)) (fun q _ _ => zup_ne (by decide)) k1'
      obtain ⟨-, V2, n2, fV2, vV2, gV2⟩ := s_next k1k (by omega) (by omega)
      rw [n2, zbd_s]
      generalize hM2 : zup (zup M1 30 4 ((m ||| 2 ^ k : Nat) : Int)) 30 3 (M1 30 3 + 1) = M2
      have m2c : ∀ c : Nat, c ≠ 30 → M2 c = M1 c := fun c hc => by rw [← hM2, zup_c hc, zup_c hc]
      have m24 : M2 30 4 = ((m ||| 2 ^ k : Nat) : Int) := by rw [← hM2, zup_nk (by decide), zup_eq]
      have m23 : M2 30 3 = M1 30 3 + 1 := by rw [← hM2, zup_eq]
      have k2 : xK T n M0 V0 M2 V2 := ⟨gV2 M2 (m2c 20 (by decide)) (m2c 21 (by decide)) (m2c 23 (by decide)) (m2c 24 (by decide)) m23, fun c hc => by rw [m2c c (by omega)]; exact k1.2.1 c hc, vV2⟩
      have l1 : M2 1001 k = zlea k := by rw [k2.2.1 1001 (by omega)]; exact (hS k (by omega) (by omega)).1
      have l2 : M2 1002 k = zmos k := by rw [k2.2.1 1002 (by omega)]; exact (hS k (by omega) (by omega)).2
      rw [l1, l2, m_least, zbd_s, m_most, zbd_s]
      rcases s_number k2 (o := 79) (no := 11) (i := k) (lo := zlea k) (hi := zmos k) (by omega) (by omega) (by omega) (by omega) with ⟨Mf, Vf, a5, a6, a7⟩ | ⟨M3, x3, hx3, a5, g3, a6, a7, a8, a9⟩
      · rw [a5, zbd2_s, a6, zbd2_s]
        exact ⟨_, _, Or.inr ⟨rfl, rfl, a7⟩⟩
      rw [a5, zbd2_s, a6, zbd2_s]
      dsimp only
      rw [if_neg (show ¬ (1 : Int) = 0 by decide), if_neg (show ¬ (1 : Int) = 0 by decide), zgd_t ⟨by omega, by omega⟩]
      have k2' : xFv V0 (zup V2 225 (11 + k) (V2 200 8)) := k2.2.2.up (by omega) (zSc_11 (by omega) (by omega))
      obtain ⟨V3, n3, fV3, k3⟩ := s_go k2 a8 a9 (by omega) g3 (V2 := zup V2 225 (11 + k) (V2 200 8)) (zup_c (by decide)) (fun q _ _ => zup_ne (by decide)) k2'
      rw [n3, zbd_s]
      rcases s_ends k3 with ⟨Mf, Vf, h1, h2, h3⟩ | ⟨W, h1, h2, fW, k4⟩
      · rw [h1, zbd2_s, h2, zbd2_s]
        exact ⟨_, _, Or.inr ⟨rfl, rfl, h3⟩⟩
      rw [h1, zbd2_s, h2, zbd2_s]
      dsimp only
      rw [if_neg (show ¬ (1 : Int) = 0 by decide)]
      generalize hR : zup M3 30 3 (M3 30 3 + 1) = R at k4 ⊢
      have rc : ∀ c : Nat, c ≠ 30 → c ≠ 79 → R c = M c := fun c c1 c2 => by rw [← hR, zup_c c1, g3.1 c c1 c2, m2c c c1, m1c c c1]
      have r79 : ∀ q : Int, R 79 q = if q = k then x3 else M 79 q := fun q => by
        rw [← hR, zup_ne (by decide)]
        by_cases u : q = k
        · rw [if_pos u, u, g3.2.2.2.2]
        · rw [if_neg u, g3.2.2.2.1 q u, m2c 79 (by decide), m1c 79 (by decide)]
      have r304 : R 30 4 = ((m ||| 2 ^ k : Nat) : Int) := by rw [← hR, zup_nk (by decide), g3.2.1 4 (by decide), m24]
      have r303 : M 30 3 < R 30 3 := by
        rw [← hR, zup_eq]
        have := g3.2.2.1
        omega
      have wV : ∀ c : Nat, c ≠ 200 → c ≠ 225 → c ≠ 226 → W c = V c := fun c c1 c2 c3 => by rw [fW.1 c c1, fV3.1 c c1, zup_c c2, fV2.1 c c1, zup_c c3, fV1.1 c c1]
      have wq : W 200 29 = V 200 29 := by rw [fW.2 29 (by omega), fV3.2 29 (by omega), zup_ne (by decide), fV2.2 29 (by omega), zup_ne (by decide), fV1.2 29 (by omega)]
      have w225 : ∀ q : Int, W 225 q = if q = 11 + k then x3 else V 225 q := fun q => by
        rw [fW.1 225 (by decide), fV3.1 225 (by decide)]
        by_cases u : q = 11 + k
        · rw [if_pos u, u, zup_eq, a7]
        · rw [if_neg u, zup_nk u, fV2.1 225 (by decide), zup_ne (by decide), fV1.1 225 (by decide)]
      have w226 : ∀ q : Int, W 226 q = if q = k then 1 else V 226 q := fun q => by
        rw [fW.1 226 (by decide), fV3.1 226 (by decide), zup_ne (by decide), fV2.1 226 (by decide)]
        by_cases u : q = k
        · rw [if_pos u, u, zup_eq]
        · rw [if_neg u, zup_nk u, fV1.1 226 (by decide)]
      refine ⟨R, W, Or.inl ⟨rfl, rfl, ⟨k4, ?_, ⟨?_, fun j j0 j1 => ?_, fun j j0 j1 => ?_, ⟨fun j j0 j1 => ?_, m ||| 2 ^ k, r304, ob, fun j j1 => ?_⟩, ?_⟩, ?_⟩, r303, by rw [← hR, zup_nk (by decide), g3.2.1 5 (by decide), ← hM2, zup_nk (by decide), zup_nk (by decide), m1q 5 (by decide)]⟩⟩
      · exact xNm_c hN (by rw [rc 60 (by decide) (by decide)]) (rc 32 (by decide) (by decide)) (by rw [wV 211 (by decide) (by decide) (by decide)]) (wV 214 (by decide) (by decide) (by decide))
      · rw [wV 212 (by decide) (by decide) (by decide), rc 60 (by decide) (by decide)]; exact hD.1
      · rw [rc 60 (by decide) (by decide)] at j1
        exact xBo_c j0 (hD.2.1 j j0 j1) (fun d d0 d1 q q0 q1 => by rw [rc d (by omega) (by omega)]) (fun d d0 d1 => by rw [wV d (by omega) (by omega) (by omega)])
      · rw [rc 60 (by decide) (by decide)] at j1
        exact xPa_c (hD.2.2.1 j j0 j1) (fun d d0 d1 => by rw [rc d (by omega) (by omega)]) (by rw [rc 60 (by decide) (by decide)]; exact Int.le_refl _) (fun d d0 d1 => by rw [wV d (by omega) (by omega) (by omega)])
      · rw [r79, w225]
        by_cases u : j = k
        · rw [if_pos u, if_pos (by omega), u]; exact ⟨rfl, hx3⟩
        · rw [if_neg u, if_neg (by omega)]; exact td j j0 j1
      · rw [w226, Nat.testBit_or, Nat.testBit_two_pow]
        by_cases u : j = k
        · subst u
          rw [if_pos rfl, decide_eq_true rfl, Bool.or_true, if_pos rfl]
        · rw [if_neg (by omega), decide_eq_false (fun e => u e.symm), Bool.or_false]; exact hbit j j1
      · rw [rc 60 (by decide) (by decide), rc 66 (by decide) (by decide)]; exact hD.2.2.2.2
      · exact xZ_c hZ (by rw [rc 60 (by decide) (by decide)]) (by rw [rc 60 (by decide) (by decide)]) (by rw [rc 60 (by decide) (by decide)]) (rc 76 (by decide) (by decide)) (rc 78 (by decide) (by decide)) (by omega) (by rw [wV 213 (by decide) (by decide) (by decide)]) (wV 227 (by decide) (by decide) (by decide)) (wV 228 (by decide) (by decide) (by decide)) (wV 229 (by decide) (by decide) (by decide)) wq
  · rw [if_neg c2, if_neg (show ¬ (114 ≤ cc ∧ cc ≤ 124) by omega), if_neg (show ¬ (0 : Int) ≤ -1 by decide), f1, f2]
    exact ⟨_, _, Or.inr ⟨rfl, rfl, f3⟩⟩
end TK9
