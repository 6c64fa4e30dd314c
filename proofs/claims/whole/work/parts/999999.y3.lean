/-! MACHINE ROWS, 85: why and groundOf: the class's, and the law's own -/
theorem zkc_X1_stepOf : Cond.code yX1_stepOf cX1_stepOf 3 (some .int) ∈ zT := zT_inc (i := 203) zL_6 rfl rfl
theorem zkm_X11_261 : Cond.methodLink RX11 261 yX1_stepOf ∈ zT := zT_inc (i := 200) zL_6 rfl rfl
theorem zkn_X1_stepOf : Cond.instanceMethod yX1_stepOf ∈ zT := zT_inc (i := 201) zL_6 rfl rfl
theorem zks_X1_stepOf : Cond.selects RX1 yX1_stepOf yX1_stepOf ∈ zT := zT_inc (i := 202) zL_6 rfl rfl
theorem zkc_X11_why : Cond.code yX11_why cX11_why 3 (some .int) ∈ zT := zT_inc (i := 125) zL_6 rfl rfl
theorem zkm_L_7 : Cond.methodLink RL 7 yX11_why ∈ zT := zT_inc (i := 122) zL_6 rfl rfl
theorem zkn_X11_why : Cond.instanceMethod yX11_why ∈ zT := zT_inc (i := 123) zL_6 rfl rfl
theorem zks_X11_why : Cond.selects RX11 yX11_why yX11_why ∈ zT := zT_inc (i := 124) zL_6 rfl rfl
theorem zkc_X11_groundOf : Cond.code yX11_groundOf cX11_groundOf 2 (some .int) ∈ zT := zT_inc (i := 198) zL_6 rfl rfl
theorem zkm_L_15 : Cond.methodLink RL 15 yX11_groundOf ∈ zT := zT_inc (i := 195) zL_6 rfl rfl
theorem zkn_X11_groundOf : Cond.instanceMethod yX11_groundOf ∈ zT := zT_inc (i := 196) zL_6 rfl rfl
theorem zks_X11_groundOf : Cond.selects RX11 yX11_groundOf yX11_groundOf ∈ zT := zT_inc (i := 197) zL_6 rfl rfl
theorem zmw_X1_stepOf : zMW zmX1_stepOf 1 := ⟨zkc_X1_stepOf, zki_X1, by decide +kernel, by decide +kernel, by decide⟩
theorem zmw_X11_why : zMW zmX11_why 2 := ⟨zkc_X11_why, zki_X11, by decide +kernel, by decide +kernel, by decide⟩
theorem zmw_X11_groundOf : zMW zmX11_groundOf 1 := ⟨zkc_X11_groundOf, zki_X11, by decide +kernel, by decide +kernel, by decide⟩
theorem zc_X11_261 : zCV RX11 261 zmX1_stepOf 1 := ⟨zkm_X11_261, zkn_X1_stepOf, zks_X1_stepOf, zmw_X1_stepOf⟩
theorem zc_L_7 : zCV RL 7 zmX11_why 2 := ⟨zkm_L_7, zkn_X11_why, zks_X11_why, zmw_X11_why⟩
theorem zc_L_15 : zCV RL 15 zmX11_groundOf 1 := ⟨zkm_L_15, zkn_X11_groundOf, zks_X11_groundOf, zmw_X11_groundOf⟩
theorem zkm_L_70 : Cond.methodLink RL 70 yL_why ∈ zT := zT_inc (i := 118) zL_6 rfl rfl
theorem zkt_L_why : Cond.static yL_why ∈ zT := zT_inc (i := 119) zL_6 rfl rfl
theorem zkm_L_139 : Cond.methodLink RL 139 yL_groundOf ∈ zT := zT_inc (i := 192) zL_6 rfl rfl
theorem zkt_L_groundOf : Cond.static yL_groundOf ∈ zT := zT_inc (i := 193) zL_6 rfl rfl
theorem zki_L : Cond.initialized RL ∈ zT := zT_inc (i := 0) zL_1 rfl rfl
theorem zkw_L_why : Cond.codeWith yL_why cL_why 5 (some .int) [(0, 10, 13, 13)] ∈ zT := zT_inc (i := 120) zL_6 rfl rfl
theorem zkw_L_groundOf : Cond.codeWith yL_groundOf cL_groundOf 4 (some .int) [(0, 9, 12, 13)] ∈ zT := zT_inc (i := 194) zL_6 rfl rfl
theorem zkx_L_13 : Cond.classLink RL 13 zNE ∈ zT := List.mem_filter.mpr ⟨by decide +kernel, by decide +kernel⟩
abbrev zmL_why : zMI := (yL_why, cL_why, 5, some .int)
abbrev zmL_groundOf : zMI := (yL_groundOf, cL_groundOf, 4, some .int)
section YW
variable {Pk M : zMem} {n t b : Int}
theorem Cs.o3 {σ : zMem} (h : Cs σ M) (v : Int) : Cs σ (zup M 300 0 v) := h.fr fun c _ hc => funext fun q => by
  unfold zup
  rw [if_neg (by omega)]
theorem zOk1 {α : Type} {x : α} {P : α → Prop} (h : P x) : zSat (some x) P := h
theorem c_whyO (hI : Inv Pk M) : zSat (fX5_lasts 80 n t M) (fun r => (r = 0 ∨ r = 1) ∧ (r = 0 → zSat (fX12_why n t M) (fun e' => e'.2 200 0 = 1 ∧ Inv Pk e'.2)) ∧ (r = 1 → zSat (fX9_reasonOf n t M) (fun e => ∀ v : Int, zSat (fX12_why n t (zup e.2 300 0 v)) (fun e' => e'.1 = e.1 ∧ e'.2 200 0 = 0 ∧ e'.2 300 0 = v ∧ Inv Pk e'.2)))) := by
  obtain ⟨σ, hA, h, hC, -, no⟩ := c_why (n := n) (t := t) hI
  have hPk : zPk Pk σ := fun q => ⟨(hA 6 q rfl).symm.trans (r_pk hI q).1, (hA 7 q rfl).symm.trans (r_pk hI q).2⟩
  have hti := r_ti h
  rw [e_lasts h hA.x]
  by_cases c : 0 ≤ n ∧ n < σ 80 0 ∧ σ 83 n ≤ t ∧ t < σ 83 n + σ 84 n
  · rw [if_pos c]
    refine zOk1 ⟨Or.inr rfl, fun q => absurd q (by decide), fun _ => ?_⟩
    have nl := r_nl h c.1 c.2.1
    refine zs_m (e_reasonOf h hA.x hC.1 hC.2.1 c.1 c.2.1 c.2.2) ?_
    rintro ⟨r, N0⟩ ⟨hr, g⟩
    intro v
    have hN := (g.ag hA).up (c := 300) (k := 0) (v := v) rfl
    have hCN := (g.cs hC).o3 v
    have hv : zup N0 300 0 v 300 0 = v := zup_eq
    show zSat (fX12_why n t (zup N0 300 0 v)) (fun e' => e'.1 = r ∧ e'.2 200 0 = 0 ∧ e'.2 300 0 = v ∧ Inv Pk e'.2)
    dsimp only at hN hCN hr
    generalize zup N0 300 0 v = N at hN hCN hv
    unfold fX12_why fX12_why_j29 fX12_why_j30
    rw [m_isNote h hN.x, zbd_s, if_pos (show 0 ≤ n ∧ n < σ 80 0 from ⟨c.1, c.2.1⟩), if_neg (show ¬ (1 : Int) = 0 by decide), m_isBeat, zbd_s, if_pos (show 0 ≤ t ∧ t < 200 by omega), if_neg (show ¬ (1 : Int) = 0 by decide), m_lasts h hN.x c.1 c.2.1, zbd_s, if_pos c.2.2, if_neg (show ¬ (1 : Int) = 0 by decide), zup_eq, if_neg (show ¬ (0 : Int) = 1 by decide), zS_bd]
    refine zs_m (m_mo h (zA0 hN)) ?_
    rintro V ⟨gV, fV⟩
    rw [a_st h gV.1.x (k := 0) (by decide) (by decide), zgd_t (by decide), zS_bd2]
    refine zs_m (m_why1 h gV c.1 c.2.1 c.2.2 hti.1) ?_
    rintro ⟨r', W⟩ ⟨hr', fW⟩
    dsimp only at hr' fW
    exact ⟨hr'.trans hr.symm, by show W 200 0 = 0; rw [fW 200 (by omega), fV 200 (by omega), zup_eq], by show W 300 0 = v; rw [fW 300 (by omega), fV 300 (by omega), zup_ne (by decide)]; exact hv, zIm hPk hCN h gV fV fW⟩
  · rw [if_neg c]
    exact zOk1 ⟨Or.inl rfl, fun _ => no c, fun q => absurd q (by decide)⟩
theorem m_grYesO {σ : zMem} (hPk : zPk Pk σ) (h : St σ) (hA : zAg σ M) (hC : Cs σ M) (hb : 0 ≤ b ∧ b < σ 40 0) {gl : Int} {st : Int → Int} (g : zGP σ gl st) : zSat (fX12_groundOf b M) (fun e' => Inv Pk e'.2 ∧ e'.2 300 0 = M 300 0 ∧ ((gl = -1 ∧ e'.2 200 0 = 1) ∨ (gl ≠ -1 ∧ e'.2 200 0 = 0 ∧ e'.1 = st b))) := by
  have hbw := r_bw h
  unfold fX12_groundOf fX12_groundOf_j20 fX12_groundOf_j21
  rw [m_isBowl h hA.x, zbd_s, if_pos hb, if_neg (show ¬ (1 : Int) = 0 by decide), zS_bd2]
  refine zs_m (m_isGround h hA) ?_
  rintro ⟨r', W⟩ ⟨w1, w2, -, w3⟩
  dsimp only at w1 w2 w3 ⊢
  have iW : ∀ v : Int, Inv Pk (zup W 200 0 v) := fun v => Inv.m hPk hC h (w1.up rfl) (w2.up (by omega) (by omega))
  have oW : ∀ v : Int, zup W 200 0 v 300 0 = M 300 0 := fun v => by rw [zup_ne (by decide), w2 300 (by omega)]
  rcases w3 with ⟨q1, q2⟩ | ⟨q1, q2, q3⟩
  · have e := zGP_eq h g q2
    rw [if_pos q1, zup_eq, if_pos rfl]
    exact ⟨iW 1, oW 1, Or.inl ⟨e.1, zup_eq (M := W) (c := 200) (k := 0) (v := 1)⟩⟩
  · have e := zGP_eq h g q3
    rw [if_neg (by omega), zup_eq, if_neg (show ¬ (0 : Int) = 1 by decide), zgd_t ⟨hb.1, by omega⟩]
    refine ⟨iW 0, oW 0, Or.inr ⟨by omega, zup_eq (M := W) (c := 200) (k := 0) (v := 0), ?_⟩⟩
    show zup W 200 0 0 257 b = st b
    rw [zup_ne (by decide)]
    have := e.2 (by omega) b.toNat (by omega)
    rw [show ((b.toNat : Nat) : Int) = b by omega] at this
    exact this.symm
theorem c_groundOfO (hI : Inv Pk M) : zSat (fX7_hasBowl 40 b M) (fun r => (r = 0 ∨ r = 1) ∧ (r = 0 → zSat (fX12_groundOf b M) (fun e' => e'.2 200 0 = 1 ∧ Inv Pk e'.2)) ∧ (r = 1 → zSat (fX1_leastGlass M) (fun e => (e.1 = -1 → zSat (fX12_groundOf b e.2) (fun e' => e'.2 200 0 = 1 ∧ Inv Pk e'.2)) ∧ (e.1 ≠ -1 → zSat (fX1_stepOf b e.2) (fun f => ∀ v : Int, zSat (fX12_groundOf b (zup f.2 300 0 v)) (fun e' => e'.1 = f.1 ∧ e'.2 200 0 = 0 ∧ e'.2 300 0 = v ∧ Inv Pk e'.2)))))) := by
  obtain ⟨σ, hA, h, hC, hPk⟩ := hI
  rw [e_hasBowl hA.x]
  by_cases hb : 0 ≤ b ∧ b < σ 40 0
  · rw [if_pos hb]
    refine zOk1 ⟨Or.inr rfl, fun q => absurd q (by decide), fun _ => ?_⟩
    refine zs_m (e_leastGlass zGL_ok h hA hC) ?_
    rintro ⟨r, N⟩ ⟨hN, hCN, k, hr⟩
    dsimp only at hN hCN k hr ⊢
    have g := (hCN.2.2.2.1 k).2.2
    rw [← hr] at g
    refine ⟨fun e => zs_m (m_grYesO hPk h hN hCN hb g) ?_, fun e => ?_⟩
    · rintro e' ⟨i, -, q | q⟩
      · exact ⟨q.2, i⟩
      · exact absurd e q.1
    · rw [e_stepOf h k hCN.2.2.2.1 hb.1 hb.2]
      refine zOk1 fun v => ?_
      refine zs_m (m_grYesO hPk h (hN.up (c := 300) (k := 0) (v := v) rfl) (hCN.o3 v) hb g) ?_
      rintro e' ⟨i, o, q | q⟩
      · exact absurd q.1 e
      · exact ⟨q.2.2, q.2.1, o.trans zup_eq, i⟩
  · rw [if_neg hb]
    exact zOk1 ⟨Or.inl rfl, fun _ => m_grNo hPk h hA hC hb, fun q => absurd q (by decide)⟩
/-- what the class's why leaves behind: it returned, or it threw -/
def zQw (Pk : zMem) (g : zMem → Option (Int × zMem)) (Z : zZ) (r : Option zAV) (M' : zMem) (Z' : zZ) : Prop := Z = Z' ∧ ((∃ b : Int, r = some (zI b) ∧ ∀ v : Int, zSat (g (zup M' 300 0 v)) (fun e' => e'.1 = b ∧ e'.2 200 0 = 0 ∧ e'.2 300 0 = v ∧ Inv Pk e'.2)) ∨ (r = none ∧ zSat (g M') (fun e' => e'.2 200 0 = 1 ∧ Inv Pk e'.2)))
theorem v_why {Xx : zCx} {Z : zZ} (hZ : zB Z) (hI : Inv Pk M) (hx1 : z32 n) (hx2 : z32 t) : zY Xx (fun pc r la => pc = 12 ∧ r = none ∧ la.size = zmX11_why.2.2.1) zmX11_why 6 0 0 Z 0 [(0, zR 0), (1, zI n), (2, zI t)] [] M (zQw Pk (fX12_why n t) Z) := by
  have H := c_whyO (n := n) (t := t) hI
  refine zY_aload_n 0 dX11_why_0 rfl rfl ?_
  refine zY_getR (j := 80) (zq_0 hZ) zf_X11_4 zkf_X11_38 rfl dX11_why_1 ?_
  refine zY_iload_n 1 dX11_why_4 rfl rfl ?_
  refine zY_iload_n 2 dX11_why_5 rfl rfl ?_
  refine zY_callV (kc := 0) (ks := 0) (mc := 0) (ms := 0) (n' := 1) (As := [zI n, zI t]) (Q' := fun r M' Z' => M = M' ∧ Z = Z' ∧ ∃ b : Int, r = some (zI b) ∧ (b = 0 ∨ b = 1) ∧ (b = 0 → zSat (fX12_why n t M) (fun e' => e'.2 200 0 = 1 ∧ Inv Pk e'.2)) ∧ (b = 1 → zSat (fX9_reasonOf n t M) (fun e => ∀ v : Int, zSat (fX12_why n t (zup e.2 300 0 v)) (fun e' => e'.1 = e.1 ∧ e'.2 200 0 = 0 ∧ e'.2 300 0 = v ∧ Inv Pk e'.2)))) zc_X11_196 (zq_80 hZ) rfl dX11_why_6 (by decide) rfl (Nat.le_of_ble_eq_true rfl) (Nat.le_of_ble_eq_true rfl) rfl (fX5_lasts_ok hZ (Nat.le_refl _) (zqpi_80 hZ) (by decide) hx1 hx2 (zs_m H fun b hb => ⟨rfl, rfl, b, rfl, hb⟩)) ?_
  rintro r M' Z' _ ⟨rfl, rfl, b, rfl, hb, h0, h1⟩
  refine zY_if_ne 22 dX11_why_9 (by decide) (z32_01 hb) (fun c => ?_) (fun c => ?_)
  · refine zY_aload_n 0 dX11_why_22 rfl rfl ?_
    refine zY_getR (j := 110) (zq_0 hZ) zf_X11_9 zkf_X11_71 rfl dX11_why_23 ?_
    refine zY_iload_n 1 dX11_why_26 rfl rfl ?_
    refine zY_iload_n 2 dX11_why_27 rfl rfl ?_
    refine zY_callV (kc := 0) (ks := 0) (mc := 0) (ms := 0) (n' := 5) (As := [zI n, zI t]) (Q' := fun r M' Z' => Z = Z' ∧ ∃ b : Int, r = some (zI b) ∧ ∀ v : Int, zSat (fX12_why n t (zup M' 300 0 v)) (fun e' => e'.1 = b ∧ e'.2 200 0 = 0 ∧ e'.2 300 0 = v ∧ Inv Pk e'.2)) zc_X11_206 (zq_110 hZ) rfl dX11_why_28 (by decide) rfl (Nat.le_of_ble_eq_true rfl) (Nat.le_of_ble_eq_true rfl) rfl (fX9_reasonOf_ok hZ (Nat.le_refl _) hx1 hx2 (zs_m (h1 (hb.resolve_left c)) fun e he => ⟨rfl, e.1, rfl, he⟩)) ?_
    rintro r M' Z' hc ⟨rfl, b', rfl, q⟩
    exact zY_ireti dX11_why_31 rfl hc.1 ⟨rfl, Or.inl ⟨b', rfl, q⟩⟩
  · exact zY_exit none rfl (fun la hla => ⟨rfl, rfl, hla⟩) ⟨rfl, Or.inr ⟨rfl, h0 c⟩⟩
theorem v_groundOf {Xx : zCx} {Z : zZ} (hZ : zB Z) (hI : Inv Pk M) (hx1 : z32 b) : zY Xx (fun pc r la => pc = 22 ∧ r = none ∧ la.size = zmX11_groundOf.2.2.1) zmX11_groundOf 7 0 0 Z 0 [(0, zR 0), (1, zI b)] [] M (zQw Pk (fX12_groundOf b) Z) := by
  have H := c_groundOfO (b := b) hI
  refine zY_aload_n 0 dX11_groundOf_0 rfl rfl ?_
  refine zY_getR (j := 40) (zq_0 hZ) zf_X11_2 zkf_X11_19 rfl dX11_groundOf_1 ?_
  refine zY_iload_n 1 dX11_groundOf_4 rfl rfl ?_
  refine zY_callV (kc := 0) (ks := 0) (mc := 0) (ms := 0) (n' := 0) (As := [zI b]) (Q' := fun r M' Z' => M = M' ∧ Z = Z' ∧ ∃ a : Int, r = some (zI a) ∧ (a = 0 ∨ a = 1) ∧ (a = 0 → zSat (fX12_groundOf b M) (fun e' => e'.2 200 0 = 1 ∧ Inv Pk e'.2)) ∧ (a = 1 → zSat (fX1_leastGlass M) (fun e => (e.1 = -1 → zSat (fX12_groundOf b e.2) (fun e' => e'.2 200 0 = 1 ∧ Inv Pk e'.2)) ∧ (e.1 ≠ -1 → zSat (fX1_stepOf b e.2) (fun f => ∀ v : Int, zSat (fX12_groundOf b (zup f.2 300 0 v)) (fun e' => e'.1 = f.1 ∧ e'.2 200 0 = 0 ∧ e'.2 300 0 = v ∧ Inv Pk e'.2)))))) zc_X11_121 (zq_40 hZ) rfl dX11_groundOf_5 (by decide) rfl (Nat.le_of_ble_eq_true rfl) (Nat.le_of_ble_eq_true rfl) rfl (fX7_hasBowl_ok hZ (Nat.le_refl _) (zqsu_40 hZ) (by decide) hx1 (zs_m H fun a ha => ⟨rfl, rfl, a, rfl, ha⟩)) ?_
  rintro r M' Z' _ ⟨rfl, rfl, a, rfl, ha, h0, h1⟩
  refine zY_if_eq 22 dX11_groundOf_8 (by decide) (z32_01 ha) (fun c => ?_) (fun c => ?_)
  · exact zY_exit none rfl (fun la hla => ⟨rfl, rfl, hla⟩) ⟨rfl, Or.inr ⟨rfl, h0 c⟩⟩
  · refine zY_aload_n 0 dX11_groundOf_11 rfl rfl ?_
    refine zY_getR (j := 150) (zq_0 hZ) zf_X11_11 zkf_X11_89 rfl dX11_groundOf_12 ?_
    refine zY_callV (kc := 0) (ks := 0) (mc := 0) (ms := 0) (n' := 6) (As := []) (Q' := fun r M' Z' => Z = Z' ∧ ∃ a : Int, r = some (zI a) ∧ (a = -1 → zSat (fX12_groundOf b M') (fun e' => e'.2 200 0 = 1 ∧ Inv Pk e'.2)) ∧ (a ≠ -1 → zSat (fX1_stepOf b M') (fun f => ∀ v : Int, zSat (fX12_groundOf b (zup f.2 300 0 v)) (fun e' => e'.1 = f.1 ∧ e'.2 200 0 = 0 ∧ e'.2 300 0 = v ∧ Inv Pk e'.2)))) zc_X11_256 (zq_150 hZ) rfl dX11_groundOf_15 (by decide) rfl (Nat.le_of_ble_eq_true rfl) (Nat.le_of_ble_eq_true rfl) rfl (fX1_leastGlass_ok hZ (Nat.le_refl _) (zs_m (h1 (ha.resolve_left c)) fun e he => ⟨rfl, e.1, rfl, he⟩)) ?_
    rintro r M' Z' hc ⟨rfl, a', rfl, g0, g1⟩
    refine zY_iconst (v := -1) dX11_groundOf_18 rfl ?_
    refine zY_icmp_ne 33 dX11_groundOf_19 (by decide) hc.1 ⟨by decide, by decide⟩ (fun d => ?_) (fun d => ?_)
    · refine zY_aload_n 0 dX11_groundOf_33 rfl rfl ?_
      refine zY_getR (j := 150) (zq_0 hZ) zf_X11_11 zkf_X11_89 rfl dX11_groundOf_34 ?_
      refine zY_iload_n 1 dX11_groundOf_37 rfl rfl ?_
      refine zY_callV (kc := 0) (ks := 0) (mc := 0) (ms := 0) (n' := 6) (As := [zI b]) (Q' := fun r M' Z' => Z = Z' ∧ ∃ a : Int, r = some (zI a) ∧ ∀ v : Int, zSat (fX12_groundOf b (zup M' 300 0 v)) (fun e' => e'.1 = a ∧ e'.2 200 0 = 0 ∧ e'.2 300 0 = v ∧ Inv Pk e'.2)) zc_X11_261 (zq_150 hZ) rfl dX11_groundOf_38 (by decide) rfl (Nat.le_of_ble_eq_true rfl) (Nat.le_of_ble_eq_true rfl) rfl (fX1_stepOf_ok hZ (Nat.le_refl _) hx1 (zs_m (g1 d) fun e he => ⟨rfl, e.1, rfl, he⟩)) ?_
      rintro r M'' Z' hc ⟨rfl, a', rfl, q⟩
      exact zY_ireti dX11_groundOf_41 rfl hc.1 ⟨rfl, Or.inl ⟨a', rfl, q⟩⟩
    · exact zY_exit none rfl (fun la hla => ⟨rfl, rfl, hla⟩) ⟨rfl, Or.inr ⟨rfl, g0 d⟩⟩
/-- what the law's own why, groundOf leave behind -/
def zQk (Pk : zMem) (g : zMem → Option (Int × zMem)) (Z : zZ) (r : Option zAV) (M' : zMem) (Z' : zZ) : Prop := Z = Z' ∧ ∃ k : Int, r = some (zI k) ∧ ((k = 0 ∧ zSat (g M') (fun e' => e'.2 200 0 = 0 ∧ e'.2 300 0 = e'.1 ∧ Inv Pk e'.2)) ∨ (k = 1 ∧ zSat (g M') (fun e' => e'.2 200 0 = 1 ∧ Inv Pk e'.2)))
theorem v_Lwhy {Z : zZ} (hZ : zB Z) (hI : Inv Pk M) (hx1 : z32 n) (hx2 : z32 t) : zY (zXw [(0, 10, 13, 13)]) (fun _ _ _ => False) zmL_why 7 1 6 Z 0 [(0, zR 0), (1, zI n), (2, zI t), (3, zR 300)] [] M (zQk Pk (fX12_why n t) Z) := by
  refine zY_aload_n 3 dL_why_0 rfl rfl ?_
  refine zY_iconst (v := 0) dL_why_1 rfl ?_
  refine zY_aload_n 0 dL_why_2 rfl rfl ?_
  refine zY_iload_n 1 dL_why_3 rfl rfl ?_
  refine zY_iload_n 2 dL_why_4 rfl rfl ?_
  refine zY_callVX (kc := 0) (ks := 0) (mc := 0 + 1) (ms := 0 + 6) (n' := 6) (hpc := 13) (hp' := 15) (As := [zI n, zI t]) (Q' := zQw Pk (fX12_why n t) Z) (xe := { startPc := 0, endPc := 10, handlerPc := 13, catchType := 13 }) rfl rfl (by decide) zkx_L_13 rfl ?_ zc_L_7 (zq_0 hZ) rfl dL_why_5 (by decide) rfl (Nat.le_of_ble_eq_true rfl) rfl ?_ ?_ ?_
  · intro p l e R s m args below meth c H locs cells slots ad la Qf q x1 x2 hl k
    exact lv_astore x1 x2 dL_why_13 hl (by decide) rfl (fun la' hl' => k la' (lv_sub hl' [1, 2, 3, 4] rfl))
  · intro hlv l D ad A
    exact zX_met rfl (by decide) (by decide) (v_why hZ hI hx1 hx2) (zTh_S rfl dX11_why_12 dX11_why_15 dX11_why_16 dX11_why_18 dX11_why_21) hlv (Nat.le_of_ble_eq_true rfl) D ad A
  · rintro r M' Z' hc ⟨hr0, rfl, q⟩
    rcases q with ⟨a, rfl, q⟩ | ⟨rfl, q⟩
    · refine zY_of ?_
      refine zV_i2l dL_why_8 hc.1 ?_
      refine zV_last (zq_300 hZ) (by decide) ⟨by decide, by decide⟩ (z64_32 hc.1) dL_why_9 ?_
      refine zV_goto 17 dL_why_10 (by decide) ?_
      refine zV_iconst (v := 0) dL_why_17 rfl ?_
      refine zV_ireti dL_why_18 rfl z32_0 ⟨rfl, 0, rfl, Or.inl ⟨rfl, zs_m (q a) ?_⟩⟩
      rintro e' ⟨e1, e2, e3, e4⟩
      exact ⟨e2, e3.trans e1.symm, e4⟩
    · exact absurd rfl hr0
  · rintro M' Z' ⟨rfl, q⟩
    rcases q with ⟨a, h, q⟩ | ⟨-, q⟩
    · cases h
    · refine zY_iconst (v := 1) dL_why_15 rfl ?_
      exact zY_ireti dL_why_16 rfl ⟨by decide, by decide⟩ ⟨rfl, 1, rfl, Or.inr ⟨rfl, q⟩⟩
theorem v_LgroundOf {Z : zZ} (hZ : zB Z) (hI : Inv Pk M) (hx1 : z32 b) : zY (zXw [(0, 9, 12, 13)]) (fun _ _ _ => False) zmL_groundOf 8 1 6 Z 0 [(0, zR 0), (1, zI b), (2, zR 300)] [] M (zQk Pk (fX12_groundOf b) Z) := by
  refine zY_aload_n 2 dL_groundOf_0 rfl rfl ?_
  refine zY_iconst (v := 0) dL_groundOf_1 rfl ?_
  refine zY_aload_n 0 dL_groundOf_2 rfl rfl ?_
  refine zY_iload_n 1 dL_groundOf_3 rfl rfl ?_
  refine zY_callVX (kc := 0) (ks := 0) (mc := 0 + 1) (ms := 0 + 6) (n' := 7) (hpc := 12) (hp' := 13) (As := [zI b]) (Q' := zQw Pk (fX12_groundOf b) Z) (xe := { startPc := 0, endPc := 9, handlerPc := 12, catchType := 13 }) rfl rfl (by decide) zkx_L_13 rfl ?_ zc_L_15 (zq_0 hZ) rfl dL_groundOf_4 (by decide) rfl (Nat.le_of_ble_eq_true rfl) rfl ?_ ?_ ?_
  · intro p l e R s m args below meth c H locs cells slots ad la Qf q x1 x2 hl k
    exact lv_astore_n x1 x2 dL_groundOf_12 rfl hl (by decide) rfl (fun la' hl' => k la' (lv_sub hl' [1, 2, 3] rfl))
  · intro hlv l D ad A
    exact zX_met rfl (by decide) (by decide) (v_groundOf hZ hI hx1) (zTh_W rfl dX11_groundOf_22 dX11_groundOf_25 dX11_groundOf_26 dX11_groundOf_29 dX11_groundOf_32) hlv (Nat.le_of_ble_eq_true rfl) D ad A
  · rintro r M' Z' hc ⟨hr0, rfl, q⟩
    rcases q with ⟨a, rfl, q⟩ | ⟨rfl, q⟩
    · refine zY_of ?_
      refine zV_i2l dL_groundOf_7 hc.1 ?_
      refine zV_last (zq_300 hZ) (by decide) ⟨by decide, by decide⟩ (z64_32 hc.1) dL_groundOf_8 ?_
      refine zV_goto 15 dL_groundOf_9 (by decide) ?_
      refine zV_iconst (v := 0) dL_groundOf_15 rfl ?_
      refine zV_ireti dL_groundOf_16 rfl z32_0 ⟨rfl, 0, rfl, Or.inl ⟨rfl, zs_m (q a) ?_⟩⟩
      rintro e' ⟨e1, e2, e3, e4⟩
      exact ⟨e2, e3.trans e1.symm, e4⟩
    · exact absurd rfl hr0
  · rintro M' Z' ⟨rfl, q⟩
    rcases q with ⟨a, h, q⟩ | ⟨-, q⟩
    · cases h
    · refine zY_iconst (v := 1) dL_groundOf_13 rfl ?_
      exact zY_ireti dL_groundOf_14 rfl ⟨by decide, by decide⟩ ⟨rfl, 1, rfl, Or.inr ⟨rfl, q⟩⟩
end YW
