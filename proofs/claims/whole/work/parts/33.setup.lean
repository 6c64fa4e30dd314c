noncomputable def fX8_addBytes_j43 (x1 x3 x4 s0 : Int) (M : zMem) : Option ((Int × zMem) ⊕ (Int × zMem)) :=
  (if s0 = 0 then some (.inl ((zw (x3 + (-8))), M)) else (if 1000 ≤ (M 20 1) then some (.inl ((zw (x3 + (-8))), M)) else (zgd ((0 : Int) ≤ (M 20 1) ∧ (M 20 1) < 1000) (some (.inl ((zw (x3 + (-8))), (zup (zup M 21 (M 20 1) (zchr x4)) 20 1 (zw (((zup M 21 (M 20 1) (zchr x4)) 20 1) + 1)))))))))
set_option maxRecDepth 100000 in
set_option maxHeartbeats 4000000 in
theorem fX8_addBytes_j43_ok {Z : zZ} (hZ : zB Z) {nn : Nat} (hn : 0 ≤ nn)  {x1 x3 x4 s0 : Int} (hx1 : z64 x1) (hx3 : z32 x3) (hx4 : z32 x4) (hs0 : z32 s0) (hbs0 : s0 = 0 ∨ s0 = 1) {M : zMem} {Q : Option zAV → zMem → zZ → Prop} {P : (Int × zMem) ⊕ (Int × zMem) → Prop} (h : zSat (fX8_addBytes_j43 x1 x3 x4 s0 M) P)  (hc : ∀ s : Int × zMem, P (.inl s) → z32 (s.1) → zV zmX8_addBytes nn 0 0 Z 3 [(0, zR 20), (1, zL x1), (3, zI (s.1))] [] (s.2) Q) (he : ∀ s : Int × zMem, P (.inr s) → z32 (s.1) → zV zmX8_addBytes nn 0 0 Z 88 [(0, zR 20), (1, zL x1), (3, zI (s.1))] [] (s.2) Q)   : zV zmX8_addBytes nn 0 0 Z 43 [(0, zR 20), (1, zL x1), (3, zI x3), (4, zI x4)] [zI s0] M Q := by
  unfold fX8_addBytes_j43 at h
  refine zV_istore [(5, zI s0), (0, zR 20), (1, zL x1), (3, zI x3), (4, zI x4)] dX8_addBytes_43 (by decide) rfl ?_
  refine zV_iload 0 dX8_addBytes_45 rfl ?_
  refine zV_if_eq 82 dX8_addBytes_47 (by decide) hs0 (fun hc_ => ?_) (fun hc_ => ?_)
  · replace h := zs_t h hc_
    refine zV_iinc 3 [(3, zI (zw (x3 + (-8)))), (5, zI s0), (0, zR 20), (1, zL x1), (4, zI x4)] dX8_addBytes_82 rfl rfl (by decide) rfl ?_
    refine zV_goto 3 dX8_addBytes_85 (by decide) ?_
    refine zV_ls [2, 3, 0] rfl ?_
    exact hc _ h (z32_w _)
  · replace h := zs_f h hc_
    refine zV_aload_n 1 dX8_addBytes_50 rfl rfl ?_
    refine zV_getI (zq_20 hZ) zf_X8_1 zkf_X8_19 rfl dX8_addBytes_51 (fun m1 => ?_)
    refine zV_sipush (v := 1000) dX8_addBytes_54 rfl ?_
    refine zV_icmp_ge 82 dX8_addBytes_57 (by decide) m1 zi_1000 (fun hc_ => ?_) (fun hc_ => ?_)
    · replace h := zs_t h hc_
      refine zV_iinc 3 [(3, zI (zw (x3 + (-8)))), (5, zI s0), (0, zR 20), (1, zL x1), (4, zI x4)] dX8_addBytes_82 rfl rfl (by decide) rfl ?_
      refine zV_goto 3 dX8_addBytes_85 (by decide) ?_
      refine zV_ls [2, 3, 0] rfl ?_
      exact hc _ h (z32_w _)
    · replace h := zs_f h hc_
      refine zV_aload_n 1 dX8_addBytes_60 rfl rfl ?_
      refine zV_getR (j := 21) (zq_20 hZ) zf_X8_0 zkf_X8_9 rfl dX8_addBytes_61 ?_
      refine zV_aload_n 1 dX8_addBytes_64 rfl rfl ?_
      refine zV_getI (zq_20 hZ) zf_X8_1 zkf_X8_19 rfl dX8_addBytes_65 (fun m2 => ?_)
      refine zV_iload 4 dX8_addBytes_68 rfl ?_
      refine zV_i2c dX8_addBytes_70 ?_
      obtain ⟨hg, h⟩ := zs_gd h
      refine zV_cast (zq_21 hZ) (by decide) hg dX8_addBytes_71 ?_
      refine zV_aload_n 1 dX8_addBytes_72 rfl rfl ?_
      refine zV_dup dX8_addBytes_73 rfl ?_
      refine zV_getI (zq_20 hZ) zf_X8_1 zkf_X8_19 rfl dX8_addBytes_74 (fun m3 => ?_)
      refine zV_iconst (v := 1) dX8_addBytes_77 rfl ?_
      refine zV_iadd dX8_addBytes_78 ?_
      refine zV_w ?_
      refine zV_putI (zq_20 hZ) (by decide) zf_X8_1 zkf_X8_19 rfl dX8_addBytes_79 (z32_w _) ?_
      refine zV_iinc 3 [(3, zI (zw (x3 + (-8)))), (5, zI s0), (0, zR 20), (1, zL x1), (4, zI x4)] dX8_addBytes_82 rfl rfl (by decide) rfl ?_
      refine zV_goto 3 dX8_addBytes_85 (by decide) ?_
      refine zV_ls [2, 3, 0] rfl ?_
      exact hc _ h (z32_w _)
noncomputable def fX8_addBytes_j38 (x1 x3 x4 : Int) (M : zMem) : Option ((Int × zMem) ⊕ (Int × zMem)) :=
  fX8_addBytes_j43 x1 x3 x4 1 M
set_option maxRecDepth 100000 in
set_option maxHeartbeats 4000000 in
theorem fX8_addBytes_j38_ok {Z : zZ} (hZ : zB Z) {nn : Nat} (hn : 0 ≤ nn)  {x1 x3 x4 : Int} (hx1 : z64 x1) (hx3 : z32 x3) (hx4 : z32 x4) {M : zMem} {Q : Option zAV → zMem → zZ → Prop} {P : (Int × zMem) ⊕ (Int × zMem) → Prop} (h : zSat (fX8_addBytes_j38 x1 x3 x4 M) P)  (hc : ∀ s : Int × zMem, P (.inl s) → z32 (s.1) → zV zmX8_addBytes nn 0 0 Z 3 [(0, zR 20), (1, zL x1), (3, zI (s.1))] [] (s.2) Q) (he : ∀ s : Int × zMem, P (.inr s) → z32 (s.1) → zV zmX8_addBytes nn 0 0 Z 88 [(0, zR 20), (1, zL x1), (3, zI (s.1))] [] (s.2) Q)   : zV zmX8_addBytes nn 0 0 Z 38 [(0, zR 20), (1, zL x1), (3, zI x3), (4, zI x4)] [] M Q := by
  unfold fX8_addBytes_j38 at h
  refine zV_iconst (v := 1) dX8_addBytes_38 rfl ?_
  refine zV_goto 43 dX8_addBytes_39 (by decide) ?_
  exact fX8_addBytes_j43_ok hZ hn hx1 hx3 hx4 zi_1 (Or.inr rfl) h hc he
noncomputable def fX8_addBytes_j42 (x1 x3 x4 : Int) (M : zMem) : Option ((Int × zMem) ⊕ (Int × zMem)) :=
  fX8_addBytes_j43 x1 x3 x4 0 M
set_option maxRecDepth 100000 in
set_option maxHeartbeats 4000000 in
theorem fX8_addBytes_j42_ok {Z : zZ} (hZ : zB Z) {nn : Nat} (hn : 0 ≤ nn)  {x1 x3 x4 : Int} (hx1 : z64 x1) (hx3 : z32 x3) (hx4 : z32 x4) {M : zMem} {Q : Option zAV → zMem → zZ → Prop} {P : (Int × zMem) ⊕ (Int × zMem) → Prop} (h : zSat (fX8_addBytes_j42 x1 x3 x4 M) P)  (hc : ∀ s : Int × zMem, P (.inl s) → z32 (s.1) → zV zmX8_addBytes nn 0 0 Z 3 [(0, zR 20), (1, zL x1), (3, zI (s.1))] [] (s.2) Q) (he : ∀ s : Int × zMem, P (.inr s) → z32 (s.1) → zV zmX8_addBytes nn 0 0 Z 88 [(0, zR 20), (1, zL x1), (3, zI (s.1))] [] (s.2) Q)   : zV zmX8_addBytes nn 0 0 Z 42 [(0, zR 20), (1, zL x1), (3, zI x3), (4, zI x4)] [] M Q := by
  unfold fX8_addBytes_j42 at h
  refine zV_iconst (v := 0) dX8_addBytes_42 rfl ?_
  exact fX8_addBytes_j43_ok hZ hn hx1 hx3 hx4 zi_0 (Or.inl rfl) h hc he
noncomputable def fX8_addBytes_l3 (x1 x3 : Int) (M : zMem) : Option ((Int × zMem) ⊕ (Int × zMem)) :=
  (if x3 < 0 then some (.inr (x3, M)) else (if (zand (zlushr x1 x3) 255) = 10 then fX8_addBytes_j38 x1 x3 (zand (zlushr x1 x3) 255) M else (if (zand (zlushr x1 x3) 255) < 32 then fX8_addBytes_j42 x1 x3 (zand (zlushr x1 x3) 255) M else (if 126 < (zand (zlushr x1 x3) 255) then fX8_addBytes_j42 x1 x3 (zand (zlushr x1 x3) 255) M else fX8_addBytes_j38 x1 x3 (zand (zlushr x1 x3) 255) M))))
set_option maxRecDepth 100000 in
set_option maxHeartbeats 4000000 in
theorem fX8_addBytes_l3_ok {Z : zZ} (hZ : zB Z) {nn : Nat} (hn : 0 ≤ nn)  {x1 x3 : Int} (hx1 : z64 x1) (hx3 : z32 x3) {M : zMem} {Q : Option zAV → zMem → zZ → Prop} {P : (Int × zMem) ⊕ (Int × zMem) → Prop} (h : zSat (fX8_addBytes_l3 x1 x3 M) P)  (hc : ∀ s : Int × zMem, P (.inl s) → z32 (s.1) → zV zmX8_addBytes nn 0 0 Z 3 [(0, zR 20), (1, zL x1), (3, zI (s.1))] [] (s.2) Q) (he : ∀ s : Int × zMem, P (.inr s) → z32 (s.1) → zV zmX8_addBytes nn 0 0 Z 88 [(0, zR 20), (1, zL x1), (3, zI (s.1))] [] (s.2) Q)   : zV zmX8_addBytes nn 0 0 Z 3 [(0, zR 20), (1, zL x1), (3, zI x3)] [] M Q := by
  unfold fX8_addBytes_l3 at h
  refine zV_iload_n 2 dX8_addBytes_3 rfl rfl ?_
  refine zV_if_lt 88 dX8_addBytes_4 (by decide) hx3 (fun hc_ => ?_) (fun hc_ => ?_)
  · replace h := zs_t h hc_
    exact he _ h hx3
  · replace h := zs_f h hc_
    refine zV_lload_n 1 dX8_addBytes_7 rfl rfl ?_
    refine zV_iload_n 2 dX8_addBytes_8 rfl rfl ?_
    refine zV_lushr dX8_addBytes_9 ?_
    refine zV_l2i dX8_addBytes_10 ?_
    refine zV_sipush (v := 255) dX8_addBytes_11 rfl ?_
    refine zV_iand dX8_addBytes_14 ?_
    refine zV_istore [(4, zI (zand (zlushr x1 x3) 255)), (0, zR 20), (1, zL x1), (3, zI x3)] dX8_addBytes_15 (by decide) rfl ?_
    refine zV_iload 0 dX8_addBytes_17 rfl ?_
    refine zV_bipush (v := 10) dX8_addBytes_19 rfl ?_
    refine zV_icmp_eq 38 dX8_addBytes_21 (by decide) (z32_i _) zi_10 (fun hc_ => ?_) (fun hc_ => ?_)
    · replace h := zs_t h hc_
      refine zV_ls [1, 2, 3, 0] rfl ?_
      exact fX8_addBytes_j38_ok hZ hn hx1 hx3 (z32_i _) h hc he
    · replace h := zs_f h hc_
      refine zV_iload 0 dX8_addBytes_24 rfl ?_
      refine zV_bipush (v := 32) dX8_addBytes_26 rfl ?_
      refine zV_icmp_lt 42 dX8_addBytes_28 (by decide) (z32_i _) zi_32 (fun hc_ => ?_) (fun hc_ => ?_)
      · replace h := zs_t h hc_
        refine zV_ls [1, 2, 3, 0] rfl ?_
        exact fX8_addBytes_j42_ok hZ hn hx1 hx3 (z32_i _) h hc he
      · replace h := zs_f h hc_
        refine zV_iload 0 dX8_addBytes_31 rfl ?_
        refine zV_bipush (v := 126) dX8_addBytes_33 rfl ?_
        refine zV_icmp_gt 42 dX8_addBytes_35 (by decide) (z32_i _) zi_126 (fun hc_ => ?_) (fun hc_ => ?_)
        · replace h := zs_t h hc_
          refine zV_ls [1, 2, 3, 0] rfl ?_
          exact fX8_addBytes_j42_ok hZ hn hx1 hx3 (z32_i _) h hc he
        · replace h := zs_f h hc_
          refine zV_ls [1, 2, 3, 0] rfl ?_
          exact fX8_addBytes_j38_ok hZ hn hx1 hx3 (z32_i _) h hc he
noncomputable def fX8_addBytes (x1 : Int) (M : zMem) : Option (zMem) :=
  (zbd (zit (fun s4 => fX8_addBytes_l3 x1 (s4.1) (s4.2)) (56, M)) fun s10 => some (s10.2))
set_option maxRecDepth 100000 in
set_option maxHeartbeats 4000000 in
theorem fX8_addBytes_ok {Z : zZ} (hZ : zB Z) {nn : Nat} (hn : 0 ≤ nn)  {x1 : Int} (hx1 : z64 x1) {M : zMem} {Q : Option zAV → zMem → zZ → Prop} (h : zSat (fX8_addBytes x1 M) (fun r => Q none r Z))  : zV zmX8_addBytes nn 0 0 Z 0 [(0, zR 20), (1, zL x1)] [] M Q := by
  unfold fX8_addBytes at h
  refine zV_bipush (v := 56) dX8_addBytes_0 rfl ?_
  refine zV_istore_n [(3, zI 56), (0, zR 20), (1, zL x1)] dX8_addBytes_2 rfl (by decide) rfl ?_
  refine zV_ls [1, 2, 0] rfl ?_
  refine (zV_loop (Vh := fun s4 : Int × zMem => z32 (s4.1) → zV zmX8_addBytes nn 0 0 Z 3 [(0, zR 20), (1, zL x1), (3, zI (s4.1))] [] (s4.2) Q) h (fun s4 P5 hP6 hc7 he8 => ?_)) zi_56
  intro c9
  refine fX8_addBytes_l3_ok hZ hn hx1 c9 hP6 hc7 (fun s10 h11 d12 => ?_)
  have h := he8 _ h11
  exact zV_vret dX8_addBytes_88 rfl h
noncomputable def fX7_clear (o : Nat) (M : zMem) : Option (zMem) :=
  (zgd (((0 : Int) ≤ (0 : Int) ∧ (0 : Int) + 11 ≤ 11) ∧ ((0 : Int) ≤ (0 : Int) ∧ (0 : Int) + 11 ≤ 11) ∧ (0 : Int) ≤ (11 : Int)) (some (zcpy (zup (zup (zup (zup (zup (zup M o 0 0) o 1 0) o 7 0) o 13 0) o 14 0) o 16 0) 1000 0 (o + 19) 0 11)))
set_option maxRecDepth 100000 in
set_option maxHeartbeats 4000000 in
theorem fX7_clear_ok {Z : zZ} (hZ : zB Z) {nn : Nat} (hn : 1 ≤ nn) {o : Nat} (hS_o : zSU Z o) (hw_o : o < 900)   {M : zMem} {Q : Option zAV → zMem → zZ → Prop} (h : zSat (fX7_clear o M) (fun r => Q none r Z))  : zV zmX7_clear nn 0 0 Z 0 [(0, zR o)] [] M Q := by
  unfold fX7_clear at h
  refine zV_aload_n 0 dX7_clear_0 rfl rfl ?_
  refine zV_iconst (v := 0) dX7_clear_1 rfl ?_
  refine zV_putI (zsu_c hS_o) (zlt_b hw_o) zf_X7_0 zkf_X7_59 rfl dX7_clear_2 zi_0 ?_
  refine zV_aload_n 0 dX7_clear_5 rfl rfl ?_
  refine zV_iconst (v := 0) dX7_clear_6 rfl ?_
  refine zV_putI (zsu_c hS_o) (zlt_b hw_o) zf_X7_1 zkf_X7_63 rfl dX7_clear_7 zi_0 ?_
  refine zV_aload_n 0 dX7_clear_10 rfl rfl ?_
  refine zV_iconst (v := 0) dX7_clear_11 rfl ?_
  refine zV_putI (zsu_c hS_o) (zlt_b hw_o) zf_X7_7 zkf_X7_66 rfl dX7_clear_12 zi_0 ?_
  refine zV_aload_n 0 dX7_clear_15 rfl rfl ?_
  refine zV_iconst (v := 0) dX7_clear_16 rfl ?_
  refine zV_putI (zsu_c hS_o) (zlt_b hw_o) zf_X7_13 zkf_X7_69 rfl dX7_clear_17 zi_0 ?_
  refine zV_aload_n 0 dX7_clear_20 rfl rfl ?_
  refine zV_iconst (v := 0) dX7_clear_21 rfl ?_
  refine zV_putI (zsu_c hS_o) (zlt_b hw_o) zf_X7_14 zkf_X7_72 rfl dX7_clear_22 zi_0 ?_
  refine zV_aload_n 0 dX7_clear_25 rfl rfl ?_
  refine zV_iconst (v := 0) dX7_clear_26 rfl ?_
  refine zV_putI (zsu_c hS_o) (zlt_b hw_o) zf_X7_16 zkf_X7_75 rfl dX7_clear_27 zi_0 ?_
  refine zV_gets (i := 1000) zgs_X7_48 (by decide) (by rw [zq_1000 hZ]; rfl) dX7_clear_30 ?_
  refine zV_iconst (v := 0) dX7_clear_33 rfl ?_
  refine zV_aload_n 0 dX7_clear_34 rfl rfl ?_
  refine zV_getR (j := (o + 19)) (zsu_c hS_o) zf_X7_18 zkf_X7_56 rfl dX7_clear_35 ?_
  refine zV_iconst (v := 0) dX7_clear_38 rfl ?_
  refine zV_bipush (v := 11) dX7_clear_39 rfl ?_
  obtain ⟨hg, h⟩ := zs_gd h
  refine zV_acopy zac_X7_78 (zq_1000 hZ) (zsu_18 hS_o) (zlt_o hw_o (by decide)) hg dX7_clear_41 (Nat.le_trans (by decide) hn) (Nat.le_of_ble_eq_true rfl) ?_
  exact zV_vret dX7_clear_44 rfl h
noncomputable def fX8_isLetter (x1 : Int) (M : zMem) : Option (Int) :=
  (zgd ((0 : Int) ≤ x1 ∧ x1 < 1000) (if (M 21 x1) < 97 then some 0 else (zgd ((0 : Int) ≤ x1 ∧ x1 < 1000) (if 122 < (M 21 x1) then some 0 else some 1))))
set_option maxRecDepth 100000 in
set_option maxHeartbeats 4000000 in
theorem fX8_isLetter_ok {Z : zZ} (hZ : zB Z) {nn : Nat} (hn : 0 ≤ nn)  {x1 : Int} (hx1 : z32 x1) {M : zMem} {Q : Option zAV → zMem → zZ → Prop} (h : zSat (fX8_isLetter x1 M) (fun r => Q (some (zI r)) M Z))  : zV zmX8_isLetter nn 0 0 Z 0 [(0, zR 20), (1, zI x1)] [] M Q := by
  unfold fX8_isLetter at h
  refine zV_aload_n 0 dX8_isLetter_0 rfl rfl ?_
  refine zV_getR (j := 21) (zq_20 hZ) zf_X8_0 zkf_X8_9 rfl dX8_isLetter_1 ?_
  refine zV_iload_n 1 dX8_isLetter_4 rfl rfl ?_
  obtain ⟨hg, h⟩ := zs_gd h
  refine zV_cald (zq_21 hZ) hg dX8_isLetter_5 (fun m1 => ?_)
  refine zV_bipush (v := 97) dX8_isLetter_6 rfl ?_
  refine zV_icmp_lt 26 dX8_isLetter_8 (by decide) (z32_ch m1) zi_97 (fun hc_ => ?_) (fun hc_ => ?_)
  · replace h := zs_t h hc_
    refine zV_iconst (v := 0) dX8_isLetter_26 rfl ?_
    exact zV_iretb dX8_isLetter_27 rfl (Or.inl rfl) h
  · replace h := zs_f h hc_
    refine zV_aload_n 0 dX8_isLetter_11 rfl rfl ?_
    refine zV_getR (j := 21) (zq_20 hZ) zf_X8_0 zkf_X8_9 rfl dX8_isLetter_12 ?_
    refine zV_iload_n 1 dX8_isLetter_15 rfl rfl ?_
    obtain ⟨hg, h⟩ := zs_gd h
    refine zV_cald (zq_21 hZ) hg dX8_isLetter_16 (fun m2 => ?_)
    refine zV_bipush (v := 122) dX8_isLetter_17 rfl ?_
    refine zV_icmp_gt 26 dX8_isLetter_19 (by decide) (z32_ch m2) zi_122 (fun hc_ => ?_) (fun hc_ => ?_)
    · replace h := zs_t h hc_
      refine zV_iconst (v := 0) dX8_isLetter_26 rfl ?_
      exact zV_iretb dX8_isLetter_27 rfl (Or.inl rfl) h
    · replace h := zs_f h hc_
      refine zV_iconst (v := 1) dX8_isLetter_22 rfl ?_
      refine zV_goto 27 dX8_isLetter_23 (by decide) ?_
      exact zV_iretb dX8_isLetter_27 rfl (Or.inr rfl) h
noncomputable def fX8_isDigit (x1 : Int) (M : zMem) : Option (Int) :=
  (zgd ((0 : Int) ≤ x1 ∧ x1 < 1000) (if (M 21 x1) < 48 then some 0 else (zgd ((0 : Int) ≤ x1 ∧ x1 < 1000) (if 57 < (M 21 x1) then some 0 else some 1))))
set_option maxRecDepth 100000 in
set_option maxHeartbeats 4000000 in
theorem fX8_isDigit_ok {Z : zZ} (hZ : zB Z) {nn : Nat} (hn : 0 ≤ nn)  {x1 : Int} (hx1 : z32 x1) {M : zMem} {Q : Option zAV → zMem → zZ → Prop} (h : zSat (fX8_isDigit x1 M) (fun r => Q (some (zI r)) M Z))  : zV zmX8_isDigit nn 0 0 Z 0 [(0, zR 20), (1, zI x1)] [] M Q := by
  unfold fX8_isDigit at h
  refine zV_aload_n 0 dX8_isDigit_0 rfl rfl ?_
  refine zV_getR (j := 21) (zq_20 hZ) zf_X8_0 zkf_X8_9 rfl dX8_isDigit_1 ?_
  refine zV_iload_n 1 dX8_isDigit_4 rfl rfl ?_
  obtain ⟨hg, h⟩ := zs_gd h
  refine zV_cald (zq_21 hZ) hg dX8_isDigit_5 (fun m1 => ?_)
  refine zV_bipush (v := 48) dX8_isDigit_6 rfl ?_
  refine zV_icmp_lt 26 dX8_isDigit_8 (by decide) (z32_ch m1) zi_48 (fun hc_ => ?_) (fun hc_ => ?_)
  · replace h := zs_t h hc_
    refine zV_iconst (v := 0) dX8_isDigit_26 rfl ?_
    exact zV_iretb dX8_isDigit_27 rfl (Or.inl rfl) h
  · replace h := zs_f h hc_
    refine zV_aload_n 0 dX8_isDigit_11 rfl rfl ?_
    refine zV_getR (j := 21) (zq_20 hZ) zf_X8_0 zkf_X8_9 rfl dX8_isDigit_12 ?_
    refine zV_iload_n 1 dX8_isDigit_15 rfl rfl ?_
    obtain ⟨hg, h⟩ := zs_gd h
    refine zV_cald (zq_21 hZ) hg dX8_isDigit_16 (fun m2 => ?_)
    refine zV_bipush (v := 57) dX8_isDigit_17 rfl ?_
    refine zV_icmp_gt 26 dX8_isDigit_19 (by decide) (z32_ch m2) zi_57 (fun hc_ => ?_) (fun hc_ => ?_)
    · replace h := zs_t h hc_
      refine zV_iconst (v := 0) dX8_isDigit_26 rfl ?_
      exact zV_iretb dX8_isDigit_27 rfl (Or.inl rfl) h
    · replace h := zs_f h hc_
      refine zV_iconst (v := 1) dX8_isDigit_22 rfl ?_
      refine zV_goto 27 dX8_isDigit_23 (by decide) ?_
      exact zV_iretb dX8_isDigit_27 rfl (Or.inr rfl) h
noncomputable def fX8_endOf_l42 (x2 : Int) (M : zMem) : Option ((Int) ⊕ (Int)) :=
  (if (M 20 1) ≤ x2 then some (.inr x2) else (zbd (fX8_isDigit x2 M) fun r10 => (if r10 = 0 then some (.inr x2) else some (.inl (zw (x2 + 1))))))
set_option maxRecDepth 100000 in
set_option maxHeartbeats 4000000 in
theorem fX8_endOf_l42_ok {Z : zZ} (hZ : zB Z) {nn : Nat} (hn : 1 ≤ nn)  {x2 : Int} (hx2 : z32 x2) {M : zMem} {Q : Option zAV → zMem → zZ → Prop} {P : (Int) ⊕ (Int) → Prop} (h : zSat (fX8_endOf_l42 x2 M) P)  (hc : ∀ s : Int, P (.inl s) → z32 s → zV zmX8_endOf nn 0 0 Z 42 [(0, zR 20), (2, zI s)] [] M Q) (he : ∀ s : Int, P (.inr s) → z32 s → zV zmX8_endOf nn 0 0 Z 64 [(0, zR 20), (2, zI s)] [] M Q)   : zV zmX8_endOf nn 0 0 Z 42 [(0, zR 20), (2, zI x2)] [] M Q := by
  unfold fX8_endOf_l42 at h
  refine zV_iload_n 1 dX8_endOf_42 rfl rfl ?_
  refine zV_aload_n 0 dX8_endOf_43 rfl rfl ?_
  refine zV_getI (zq_20 hZ) zf_X8_1 zkf_X8_19 rfl dX8_endOf_44 (fun m9 => ?_)
  refine zV_icmp_ge 64 dX8_endOf_47 (by decide) hx2 m9 (fun hc_ => ?_) (fun hc_ => ?_)
  · replace h := zs_t h hc_
    exact he _ h hx2
  · replace h := zs_f h hc_
    refine zV_aload_n 0 dX8_endOf_50 rfl rfl ?_
    refine zV_iload_n 1 dX8_endOf_51 rfl rfl ?_
    refine zV_cVI (y' := zmX8_isDigit) (n' := 0) (As := [zI x2]) zc_X8_47 (zq_20 hZ) rfl dX8_endOf_52 (Nat.le_trans (by decide) hn) rfl (Nat.le_of_ble_eq_true rfl) (Nat.le_of_ble_eq_true rfl) rfl h (fun Q' h' => fX8_isDigit_ok hZ (Nat.le_refl _) hx2 h') (fun r10 c11 b12 h => ?_)
    refine zV_if_eq 64 dX8_endOf_55 (by decide) c11 (fun hc_ => ?_) (fun hc_ => ?_)
    · replace h := zs_t h hc_
      exact he _ h hx2
    · replace h := zs_f h hc_
      refine zV_iinc 1 [(2, zI (zw (x2 + 1))), (0, zR 20)] dX8_endOf_58 rfl rfl (by decide) rfl ?_
      refine zV_goto 42 dX8_endOf_61 (by decide) ?_
      refine zV_ls [1, 0] rfl ?_
      exact hc _ h (z32_w _)
noncomputable def fX8_endOf_l12 (x2 : Int) (M : zMem) : Option ((Int) ⊕ (Int)) :=
  (if (M 20 1) ≤ x2 then some (.inr x2) else (zbd (fX8_isLetter x2 M) fun r24 => (if r24 = 0 then some (.inr x2) else some (.inl (zw (x2 + 1))))))
set_option maxRecDepth 100000 in
set_option maxHeartbeats 4000000 in
theorem fX8_endOf_l12_ok {Z : zZ} (hZ : zB Z) {nn : Nat} (hn : 1 ≤ nn)  {x2 : Int} (hx2 : z32 x2) {M : zMem} {Q : Option zAV → zMem → zZ → Prop} {P : (Int) ⊕ (Int) → Prop} (h : zSat (fX8_endOf_l12 x2 M) P)  (hc : ∀ s : Int, P (.inl s) → z32 s → zV zmX8_endOf nn 0 0 Z 12 [(0, zR 20), (2, zI s)] [] M Q) (he : ∀ s : Int, P (.inr s) → z32 s → zV zmX8_endOf nn 0 0 Z 64 [(0, zR 20), (2, zI s)] [] M Q)   : zV zmX8_endOf nn 0 0 Z 12 [(0, zR 20), (2, zI x2)] [] M Q := by
  unfold fX8_endOf_l12 at h
  refine zV_iload_n 1 dX8_endOf_12 rfl rfl ?_
  refine zV_aload_n 0 dX8_endOf_13 rfl rfl ?_
  refine zV_getI (zq_20 hZ) zf_X8_1 zkf_X8_19 rfl dX8_endOf_14 (fun m23 => ?_)
  refine zV_icmp_ge 64 dX8_endOf_17 (by decide) hx2 m23 (fun hc_ => ?_) (fun hc_ => ?_)
  · replace h := zs_t h hc_
    exact he _ h hx2
  · replace h := zs_f h hc_
    refine zV_aload_n 0 dX8_endOf_20 rfl rfl ?_
    refine zV_iload_n 1 dX8_endOf_21 rfl rfl ?_
    refine zV_cVI (y' := zmX8_isLetter) (n' := 0) (As := [zI x2]) zc_X8_43 (zq_20 hZ) rfl dX8_endOf_22 (Nat.le_trans (by decide) hn) rfl (Nat.le_of_ble_eq_true rfl) (Nat.le_of_ble_eq_true rfl) rfl h (fun Q' h' => fX8_isLetter_ok hZ (Nat.le_refl _) hx2 h') (fun r24 c25 b26 h => ?_)
    refine zV_if_eq 64 dX8_endOf_25 (by decide) c25 (fun hc_ => ?_) (fun hc_ => ?_)
    · replace h := zs_t h hc_
      exact he _ h hx2
    · replace h := zs_f h hc_
      refine zV_iinc 1 [(2, zI (zw (x2 + 1))), (0, zR 20)] dX8_endOf_28 rfl rfl (by decide) rfl ?_
      refine zV_goto 12 dX8_endOf_31 (by decide) ?_
      refine zV_ls [1, 0] rfl ?_
      exact hc _ h (z32_w _)
noncomputable def fX8_endOf (x1 : Int) (M : zMem) : Option (Int) :=
  (zbd (fX8_isLetter x1 M) fun r1 => (if r1 = 0 then (zbd (fX8_isDigit x1 M) fun r5 => (if r5 = 0 then some (zw (x1 + 1)) else (zbd (zit (fun s14 => fX8_endOf_l42 s14 M) (zw (x1 + 1))) fun s20 => some s20))) else (zbd (zit (fun s28 => fX8_endOf_l12 s28 M) (zw (x1 + 1))) fun s34 => some s34)))
set_option maxRecDepth 100000 in
set_option maxHeartbeats 4000000 in
theorem fX8_endOf_ok {Z : zZ} (hZ : zB Z) {nn : Nat} (hn : 1 ≤ nn)  {x1 : Int} (hx1 : z32 x1) {M : zMem} {Q : Option zAV → zMem → zZ → Prop} (h : zSat (fX8_endOf x1 M) (fun r => Q (some (zI r)) M Z))  : zV zmX8_endOf nn 0 0 Z 0 [(0, zR 20), (1, zI x1)] [] M Q := by
  unfold fX8_endOf at h
  refine zV_iload_n 1 dX8_endOf_0 rfl rfl ?_
  refine zV_iconst (v := 1) dX8_endOf_1 rfl ?_
  refine zV_iadd dX8_endOf_2 ?_
  refine zV_w ?_
  refine zV_istore_n [(2, zI (zw (x1 + 1))), (0, zR 20), (1, zI x1)] dX8_endOf_3 rfl (by decide) rfl ?_
  refine zV_aload_n 1 dX8_endOf_4 rfl rfl ?_
  refine zV_iload_n 2 dX8_endOf_5 rfl rfl ?_
  refine zV_cVI (y' := zmX8_isLetter) (n' := 0) (As := [zI x1]) zc_X8_43 (zq_20 hZ) rfl dX8_endOf_6 (Nat.le_trans (by decide) hn) rfl (Nat.le_of_ble_eq_true rfl) (Nat.le_of_ble_eq_true rfl) rfl h (fun Q' h' => fX8_isLetter_ok hZ (Nat.le_refl _) hx1 h') (fun r1 c2 b3 h => ?_)
  refine zV_if_eq 34 dX8_endOf_9 (by decide) c2 (fun hc_ => ?_) (fun hc_ => ?_)
  · replace h := zs_t h hc_
    refine zV_aload_n 1 dX8_endOf_34 rfl rfl ?_
    refine zV_iload_n 2 dX8_endOf_35 rfl rfl ?_
    refine zV_cVI (y' := zmX8_isDigit) (n' := 0) (As := [zI x1]) zc_X8_47 (zq_20 hZ) rfl dX8_endOf_36 (Nat.le_trans (by decide) hn) rfl (Nat.le_of_ble_eq_true rfl) (Nat.le_of_ble_eq_true rfl) rfl h (fun Q' h' => fX8_isDigit_ok hZ (Nat.le_refl _) hx1 h') (fun r5 c6 b7 h => ?_)
    refine zV_if_eq 64 dX8_endOf_39 (by decide) c6 (fun hc_ => ?_) (fun hc_ => ?_)
    · replace h := zs_t h hc_
      refine zV_iload_n 0 dX8_endOf_64 rfl rfl ?_
      exact zV_ireti dX8_endOf_65 rfl (z32_w _) h
    · replace h := zs_f h hc_
      refine zV_ls [1, 0] rfl ?_
      refine (zV_loop (Vh := fun s14 : Int => z32 s14 → zV zmX8_endOf nn 0 0 Z 42 [(0, zR 20), (2, zI s14)] [] M Q) h (fun s14 P15 hP16 hc17 he18 => ?_)) (z32_w _)
      intro c19
      refine fX8_endOf_l42_ok hZ hn c19 hP16 hc17 (fun s20 h21 d22 => ?_)
      have h := he18 _ h21
      refine zV_iload_n 1 dX8_endOf_64 rfl rfl ?_
      exact zV_ireti dX8_endOf_65 rfl d22 h
  · replace h := zs_f h hc_
    refine zV_ls [1, 0] rfl ?_
    refine (zV_loop (Vh := fun s28 : Int => z32 s28 → zV zmX8_endOf nn 0 0 Z 12 [(0, zR 20), (2, zI s28)] [] M Q) h (fun s28 P29 hP30 hc31 he32 => ?_)) (z32_w _)
    intro c33
    refine fX8_endOf_l12_ok hZ hn c33 hP30 hc31 (fun s34 h35 d36 => ?_)
    have h := he32 _ h35
    refine zV_iload_n 1 dX8_endOf_64 rfl rfl ?_
    exact zV_ireti dX8_endOf_65 rfl d36 h
noncomputable def fX8_fills_j44 (x1 x2 x3 x4 s0 : Int) (M : zMem) : Option ((Int) ⊕ ((Int) ⊕ (Int))) :=
  (zgd ((0 : Int) ≤ (zw (x1 + x4)) ∧ (zw (x1 + x4)) < 232) (if (zTx (zw (x1 + x4))) = s0 then some (.inl (zw (x4 + 1))) else some (.inr (.inr 0))))
set_option maxRecDepth 100000 in
set_option maxHeartbeats 4000000 in
theorem fX8_fills_j44_ok {Z : zZ} (hZ : zB Z) {nn : Nat} (hn : 7 ≤ nn)  {x1 x2 x3 x4 s0 : Int} (hx1 : z32 x1) (hx2 : z32 x2) (hx3 : z32 x3) (hx4 : z32 x4) (hs0 : z32 s0) {M : zMem} {Q : Option zAV → zMem → zZ → Prop} {P : (Int) ⊕ ((Int) ⊕ (Int)) → Prop} (h : zSat (fX8_fills_j44 x1 x2 x3 x4 s0 M) P)  (hc : ∀ s : Int, P (.inl s) → z32 s → zV zmX8_fills nn 0 0 Z 3 [(0, zR 20), (1, zI x1), (2, zI x2), (3, zI x3), (4, zI s)] [] M Q) (he : ∀ s : Int, P (.inr (.inl s)) → z32 s → zV zmX8_fills nn 0 0 Z 68 [(0, zR 20), (1, zI x1), (2, zI x2), (3, zI x3), (4, zI s)] [] M Q) (hr : ∀ r : Int, P (.inr (.inr r)) → (fun r => Q (some (zI r)) M Z) r)  : zV zmX8_fills nn 0 0 Z 44 [(0, zR 20), (1, zI x1), (2, zI x2), (3, zI x3), (4, zI x4)] [zI s0] M Q := by
  unfold fX8_fills_j44 at h
  refine zV_istore [(5, zI s0), (0, zR 20), (1, zI x1), (2, zI x2), (3, zI x3), (4, zI x4)] dX8_fills_44 (by decide) rfl ?_
  refine zV_ldS (i := 1010) (by decide) (by rw [zq_1010 hZ]; rfl) dX8_fills_46 ?_
  refine zV_iload_n 2 dX8_fills_48 rfl rfl ?_
  refine zV_iload 5 dX8_fills_49 rfl ?_
  refine zV_iadd dX8_fills_51 ?_
  refine zV_w ?_
  obtain ⟨hg, h⟩ := zs_gd h
  refine zV_schr zc_X8_72 (zBs_of hZ) (Nat.le_trans (by decide) hn) (Nat.le_of_ble_eq_true rfl) dX8_fills_52 (z32_w _) hg ?_
  refine zV_iload 0 dX8_fills_55 rfl ?_
  refine zV_icmp_eq 62 dX8_fills_57 (by decide) (z32_tx _) hs0 (fun hc_ => ?_) (fun hc_ => ?_)
  · replace h := zs_t h hc_
    refine zV_iinc 5 [(4, zI (zw (x4 + 1))), (5, zI s0), (0, zR 20), (1, zI x1), (2, zI x2), (3, zI x3)] dX8_fills_62 rfl rfl (by decide) rfl ?_
    refine zV_goto 3 dX8_fills_65 (by decide) ?_
    refine zV_ls [2, 3, 4, 5, 0] rfl ?_
    exact hc _ h (z32_w _)
  · replace h := zs_f h hc_
    refine zV_iconst (v := 0) dX8_fills_60 rfl ?_
    exact zV_iretb dX8_fills_61 rfl (Or.inl rfl) (hr _ h)
noncomputable def fX8_fills_l3 (x1 x2 x3 x4 : Int) (M : zMem) : Option ((Int) ⊕ ((Int) ⊕ (Int))) :=
  (if 8 ≤ x4 then some (.inr (.inl x4)) else (if 232 ≤ (zw (x1 + x4)) then some (.inr (.inl x4)) else (if x3 ≤ (zw (x2 + x4)) then fX8_fills_j44 x1 x2 x3 x4 46 M else (zgd ((0 : Int) ≤ (x2 + x4) ∧ (x2 + x4) < 1000) (fX8_fills_j44 x1 x2 x3 x4 (M 21 (x2 + x4)) M)))))
set_option maxRecDepth 100000 in
set_option maxHeartbeats 4000000 in
theorem fX8_fills_l3_ok {Z : zZ} (hZ : zB Z) {nn : Nat} (hn : 7 ≤ nn)  {x1 x2 x3 x4 : Int} (hx1 : z32 x1) (hx2 : z32 x2) (hx3 : z32 x3) (hx4 : z32 x4) {M : zMem} {Q : Option zAV → zMem → zZ → Prop} {P : (Int) ⊕ ((Int) ⊕ (Int)) → Prop} (h : zSat (fX8_fills_l3 x1 x2 x3 x4 M) P)  (hc : ∀ s : Int, P (.inl s) → z32 s → zV zmX8_fills nn 0 0 Z 3 [(0, zR 20), (1, zI x1), (2, zI x2), (3, zI x3), (4, zI s)] [] M Q) (he : ∀ s : Int, P (.inr (.inl s)) → z32 s → zV zmX8_fills nn 0 0 Z 68 [(0, zR 20), (1, zI x1), (2, zI x2), (3, zI x3), (4, zI s)] [] M Q) (hr : ∀ r : Int, P (.inr (.inr r)) → (fun r => Q (some (zI r)) M Z) r)  : zV zmX8_fills nn 0 0 Z 3 [(0, zR 20), (1, zI x1), (2, zI x2), (3, zI x3), (4, zI x4)] [] M Q := by
  unfold fX8_fills_l3 at h
  refine zV_iload 4 dX8_fills_3 rfl ?_
  refine zV_bipush (v := 8) dX8_fills_5 rfl ?_
  refine zV_icmp_ge 68 dX8_fills_7 (by decide) hx4 zi_8 (fun hc_ => ?_) (fun hc_ => ?_)
  · replace h := zs_t h hc_
    exact he _ h hx4
  · replace h := zs_f h hc_
    refine zV_iload_n 1 dX8_fills_10 rfl rfl ?_
    refine zV_iload 4 dX8_fills_11 rfl ?_
    refine zV_iadd dX8_fills_13 ?_
    refine zV_ldS (i := 1010) (by decide) (by rw [zq_1010 hZ]; rfl) dX8_fills_14 ?_
    refine zV_slen zc_X8_65 (zBs_of hZ) (Nat.le_trans (by decide) hn) (Nat.le_of_ble_eq_true rfl) dX8_fills_16 ?_
    refine zV_w2 ?_
    refine zV_icmp_ge 68 dX8_fills_19 (by decide) (z32_w _) zi_232 (fun hc_ => ?_) (fun hc_ => ?_)
    · replace h := zs_t h hc_
      exact he _ h hx4
    · replace h := zs_f h hc_
      refine zV_iload_n 2 dX8_fills_22 rfl rfl ?_
      refine zV_iload 4 dX8_fills_23 rfl ?_
      refine zV_iadd dX8_fills_25 ?_
      refine zV_iload_n 3 dX8_fills_26 rfl rfl ?_
      refine zV_w2 ?_
      refine zV_icmp_ge 42 dX8_fills_27 (by decide) (z32_w _) hx3 (fun hc_ => ?_) (fun hc_ => ?_)
      · replace h := zs_t h hc_
        refine zV_bipush (v := 46) dX8_fills_42 rfl ?_
        exact fX8_fills_j44_ok hZ hn hx1 hx2 hx3 hx4 zi_46 h hc he hr
      · replace h := zs_f h hc_
        refine zV_aload_n 0 dX8_fills_30 rfl rfl ?_
        refine zV_getR (j := 21) (zq_20 hZ) zf_X8_0 zkf_X8_9 rfl dX8_fills_31 ?_
        refine zV_iload_n 2 dX8_fills_34 rfl rfl ?_
        refine zV_iload 4 dX8_fills_35 rfl ?_
        refine zV_iadd dX8_fills_37 ?_
        obtain ⟨hg, h⟩ := zs_gd h
        refine zV_cald (zq_21 hZ) hg dX8_fills_38 (fun m1 => ?_)
        refine zV_goto 44 dX8_fills_39 (by decide) ?_
        exact fX8_fills_j44_ok hZ hn hx1 hx2 hx3 hx4 (z32_ch m1) h hc he hr
noncomputable def fX8_fills (x1 x2 x3 : Int) (M : zMem) : Option (Int) :=
  (zbd (zit (fun s2 => fX8_fills_l3 x1 x2 x3 s2 M) 0) fun e => zel e (fun s8 => some 1) (fun r => some r))
set_option maxRecDepth 100000 in
set_option maxHeartbeats 4000000 in
theorem fX8_fills_ok {Z : zZ} (hZ : zB Z) {nn : Nat} (hn : 7 ≤ nn)  {x1 x2 x3 : Int} (hx1 : z32 x1) (hx2 : z32 x2) (hx3 : z32 x3) {M : zMem} {Q : Option zAV → zMem → zZ → Prop} (h : zSat (fX8_fills x1 x2 x3 M) (fun r => Q (some (zI r)) M Z))  : zV zmX8_fills nn 0 0 Z 0 [(0, zR 20), (1, zI x1), (2, zI x2), (3, zI x3)] [] M Q := by
  unfold fX8_fills at h
  refine zV_iconst (v := 0) dX8_fills_0 rfl ?_
  refine zV_istore [(4, zI 0), (0, zR 20), (1, zI x1), (2, zI x2), (3, zI x3)] dX8_fills_1 (by decide) rfl ?_
  refine zV_ls [1, 2, 3, 4, 0] rfl ?_
  refine (zV_loop (Vh := fun s2 : Int => z32 s2 → zV zmX8_fills nn 0 0 Z 3 [(0, zR 20), (1, zI x1), (2, zI x2), (3, zI x3), (4, zI s2)] [] M Q) h (fun s2 P3 hP4 hc5 he6 => ?_)) zi_0
  intro c7
  refine fX8_fills_l3_ok hZ hn hx1 hx2 hx3 c7 hP4 hc5 (fun s8 h9 d10 => ?_) (fun r11 h12 => he6 _ h12)
  have h := he6 _ h9
  refine zV_iconst (v := 1) dX8_fills_68 rfl ?_
  exact zV_iretb dX8_fills_69 rfl (Or.inr rfl) h
noncomputable def fX8_wordFrom_l2 (x1 x2 x3 : Int) (M : zMem) : Option ((Int) ⊕ ((Int) ⊕ (Int))) :=
  (if 232 ≤ x3 then some (.inr (.inl x3)) else (zbd (fX8_fills x3 x1 x2 M) fun r1 => (if r1 = 0 then some (.inl (zw (x3 + 8))) else (zgd (¬ 8 = (0 : Int)) (some (.inr (.inr (zw (100 + (zdiv x3 8))))))))))
set_option maxRecDepth 100000 in
set_option maxHeartbeats 4000000 in
theorem fX8_wordFrom_l2_ok {Z : zZ} (hZ : zB Z) {nn : Nat} (hn : 8 ≤ nn)  {x1 x2 x3 : Int} (hx1 : z32 x1) (hx2 : z32 x2) (hx3 : z32 x3) {M : zMem} {Q : Option zAV → zMem → zZ → Prop} {P : (Int) ⊕ ((Int) ⊕ (Int)) → Prop} (h : zSat (fX8_wordFrom_l2 x1 x2 x3 M) P)  (hc : ∀ s : Int, P (.inl s) → z32 s → zV zmX8_wordFrom nn 0 0 Z 2 [(0, zR 20), (1, zI x1), (2, zI x2), (3, zI s)] [] M Q) (he : ∀ s : Int, P (.inr (.inl s)) → z32 s → zV zmX8_wordFrom nn 0 0 Z 35 [(0, zR 20), (1, zI x1), (2, zI x2), (3, zI s)] [] M Q) (hr : ∀ r : Int, P (.inr (.inr r)) → (fun r => Q (some (zI r)) M Z) r)  : zV zmX8_wordFrom nn 0 0 Z 2 [(0, zR 20), (1, zI x1), (2, zI x2), (3, zI x3)] [] M Q := by
  unfold fX8_wordFrom_l2 at h
  refine zV_iload_n 3 dX8_wordFrom_2 rfl rfl ?_
  refine zV_ldS (i := 1010) (by decide) (by rw [zq_1010 hZ]; rfl) dX8_wordFrom_3 ?_
  refine zV_slen zc_X8_65 (zBs_of hZ) (Nat.le_trans (by decide) hn) (Nat.le_of_ble_eq_true rfl) dX8_wordFrom_5 ?_
  refine zV_icmp_ge 35 dX8_wordFrom_8 (by decide) hx3 zi_232 (fun hc_ => ?_) (fun hc_ => ?_)
  · replace h := zs_t h hc_
    exact he _ h hx3
  · replace h := zs_f h hc_
    refine zV_aload_n 0 dX8_wordFrom_11 rfl rfl ?_
    refine zV_iload_n 3 dX8_wordFrom_12 rfl rfl ?_
    refine zV_iload_n 1 dX8_wordFrom_13 rfl rfl ?_
    refine zV_iload_n 2 dX8_wordFrom_14 rfl rfl ?_
    refine zV_cVI (y' := zmX8_fills) (n' := 7) (As := [zI x3, zI x1, zI x2]) zc_X8_68 (zq_20 hZ) rfl dX8_wordFrom_15 (Nat.le_trans (by decide) hn) rfl (Nat.le_of_ble_eq_true rfl) (Nat.le_of_ble_eq_true rfl) rfl h (fun Q' h' => fX8_fills_ok hZ (Nat.le_refl _) hx3 hx1 hx2 h') (fun r1 c2 b3 h => ?_)
    refine zV_if_eq 29 dX8_wordFrom_18 (by decide) c2 (fun hc_ => ?_) (fun hc_ => ?_)
    · replace h := zs_t h hc_
      refine zV_iinc 3 [(3, zI (zw (x3 + 8))), (0, zR 20), (1, zI x1), (2, zI x2)] dX8_wordFrom_29 rfl rfl (by decide) rfl ?_
      refine zV_goto 2 dX8_wordFrom_32 (by decide) ?_
      refine zV_ls [1, 2, 3, 0] rfl ?_
      exact hc _ h (z32_w _)
    · replace h := zs_f h hc_
      refine zV_bipush (v := 100) dX8_wordFrom_21 rfl ?_
      refine zV_iload_n 3 dX8_wordFrom_23 rfl rfl ?_
      refine zV_bipush (v := 8) dX8_wordFrom_24 rfl ?_
      obtain ⟨hg, h⟩ := zs_gd h
      refine zV_idiv dX8_wordFrom_26 zi_8 hg ?_
      refine zV_iadd dX8_wordFrom_27 ?_
      refine zV_w ?_
      exact zV_ireti dX8_wordFrom_28 rfl (z32_w _) (hr _ h)
noncomputable def fX8_wordFrom (x1 x2 : Int) (M : zMem) : Option (Int) :=
  (zbd (zit (fun s5 => fX8_wordFrom_l2 x1 x2 s5 M) 0) fun e => zel e (fun s11 => some 2) (fun r => some r))
set_option maxRecDepth 100000 in
set_option maxHeartbeats 4000000 in
theorem fX8_wordFrom_ok {Z : zZ} (hZ : zB Z) {nn : Nat} (hn : 8 ≤ nn)  {x1 x2 : Int} (hx1 : z32 x1) (hx2 : z32 x2) {M : zMem} {Q : Option zAV → zMem → zZ → Prop} (h : zSat (fX8_wordFrom x1 x2 M) (fun r => Q (some (zI r)) M Z))  : zV zmX8_wordFrom nn 0 0 Z 0 [(0, zR 20), (1, zI x1), (2, zI x2)] [] M Q := by
  unfold fX8_wordFrom at h
  refine zV_iconst (v := 0) dX8_wordFrom_0 rfl ?_
  refine zV_istore_n [(3, zI 0), (0, zR 20), (1, zI x1), (2, zI x2)] dX8_wordFrom_1 rfl (by decide) rfl ?_
  refine zV_ls [1, 2, 3, 0] rfl ?_
  refine (zV_loop (Vh := fun s5 : Int => z32 s5 → zV zmX8_wordFrom nn 0 0 Z 2 [(0, zR 20), (1, zI x1), (2, zI x2), (3, zI s5)] [] M Q) h (fun s5 P6 hP7 hc8 he9 => ?_)) zi_0
  intro c10
  refine fX8_wordFrom_l2_ok hZ hn hx1 hx2 c10 hP7 hc8 (fun s11 h12 d13 => ?_) (fun r14 h15 => he9 _ h15)
  have h := he9 _ h12
  refine zV_iconst (v := 2) dX8_wordFrom_35 rfl ?_
  exact zV_ireti dX8_wordFrom_36 rfl zi_2 h
noncomputable def fX8_valueFrom_l5 (x2 x3 x4 : Int) (M : zMem) : Option ((Int × Int) ⊕ (Int × Int)) :=
  (if x2 ≤ x4 then some (.inr (x3, x4)) else (zgd ((0 : Int) ≤ x4 ∧ x4 < 1000) (some (.inl ((zw (((x3 * 10) + (M 21 x4)) - 48)), (zw (x4 + 1)))))))
set_option maxRecDepth 100000 in
set_option maxHeartbeats 4000000 in
theorem fX8_valueFrom_l5_ok {Z : zZ} (hZ : zB Z) {nn : Nat} (hn : 0 ≤ nn)  {x2 x3 x4 : Int} (hx2 : z32 x2) (hx3 : z32 x3) (hx4 : z32 x4) {M : zMem} {Q : Option zAV → zMem → zZ → Prop} {P : (Int × Int) ⊕ (Int × Int) → Prop} (h : zSat (fX8_valueFrom_l5 x2 x3 x4 M) P)  (hc : ∀ s : Int × Int, P (.inl s) → z32 (s.1) → z32 (s.2) → zV zmX8_valueFrom nn 0 0 Z 5 [(0, zR 20), (2, zI x2), (3, zI (s.1)), (4, zI (s.2))] [] M Q) (he : ∀ s : Int × Int, P (.inr s) → z32 (s.1) → z32 (s.2) → zV zmX8_valueFrom nn 0 0 Z 33 [(0, zR 20), (2, zI x2), (3, zI (s.1)), (4, zI (s.2))] [] M Q)   : zV zmX8_valueFrom nn 0 0 Z 5 [(0, zR 20), (2, zI x2), (3, zI x3), (4, zI x4)] [] M Q := by
  unfold fX8_valueFrom_l5 at h
  refine zV_iload 3 dX8_valueFrom_5 rfl ?_
  refine zV_iload_n 1 dX8_valueFrom_7 rfl rfl ?_
  refine zV_icmp_ge 33 dX8_valueFrom_8 (by decide) hx4 hx2 (fun hc_ => ?_) (fun hc_ => ?_)
  · replace h := zs_t h hc_
    exact he _ h hx3 hx4
  · replace h := zs_f h hc_
    refine zV_iload_n 2 dX8_valueFrom_11 rfl rfl ?_
    refine zV_bipush (v := 10) dX8_valueFrom_12 rfl ?_
    refine zV_imul dX8_valueFrom_14 ?_
    refine zV_aload_n 0 dX8_valueFrom_15 rfl rfl ?_
    refine zV_getR (j := 21) (zq_20 hZ) zf_X8_0 zkf_X8_9 rfl dX8_valueFrom_16 ?_
    refine zV_iload 3 dX8_valueFrom_19 rfl ?_
    obtain ⟨hg, h⟩ := zs_gd h
    refine zV_cald (zq_21 hZ) hg dX8_valueFrom_21 (fun m1 => ?_)
    refine zV_iadd dX8_valueFrom_22 ?_
    refine zV_bipush (v := 48) dX8_valueFrom_23 rfl ?_
    refine zV_isub dX8_valueFrom_25 ?_
    refine zV_w ?_
    refine zV_istore_n [(3, zI (zw (((x3 * 10) + (M 21 x4)) - 48))), (0, zR 20), (2, zI x2), (4, zI x4)] dX8_valueFrom_26 rfl (by decide) rfl ?_
    refine zV_iinc 3 [(4, zI (zw (x4 + 1))), (3, zI (zw (((x3 * 10) + (M 21 x4)) - 48))), (0, zR 20), (2, zI x2)] dX8_valueFrom_27 rfl rfl (by decide) rfl ?_
    refine zV_goto 5 dX8_valueFrom_30 (by decide) ?_
    refine zV_ls [2, 3, 1, 0] rfl ?_
    exact hc _ h (z32_w _) (z32_w _)
noncomputable def fX8_valueFrom (x1 x2 : Int) (M : zMem) : Option (Int) :=
  (zbd (zit (fun s2 => fX8_valueFrom_l5 x2 (s2.1) (s2.2) M) (0, x1)) fun s9 => some (s9.1))
set_option maxRecDepth 100000 in
set_option maxHeartbeats 4000000 in
theorem fX8_valueFrom_ok {Z : zZ} (hZ : zB Z) {nn : Nat} (hn : 0 ≤ nn)  {x1 x2 : Int} (hx1 : z32 x1) (hx2 : z32 x2) {M : zMem} {Q : Option zAV → zMem → zZ → Prop} (h : zSat (fX8_valueFrom x1 x2 M) (fun r => Q (some (zI r)) M Z))  : zV zmX8_valueFrom nn 0 0 Z 0 [(0, zR 20), (1, zI x1), (2, zI x2)] [] M Q := by
  unfold fX8_valueFrom at h
  refine zV_iconst (v := 0) dX8_valueFrom_0 rfl ?_
  refine zV_istore_n [(3, zI 0), (0, zR 20), (1, zI x1), (2, zI x2)] dX8_valueFrom_1 rfl (by decide) rfl ?_
  refine zV_iload_n 2 dX8_valueFrom_2 rfl rfl ?_
  refine zV_istore [(4, zI x1), (3, zI 0), (0, zR 20), (1, zI x1), (2, zI x2)] dX8_valueFrom_3 (by decide) rfl ?_
  refine zV_ls [2, 4, 1, 0] rfl ?_
  refine (zV_loop (Vh := fun s2 : Int × Int => z32 (s2.1) → z32 (s2.2) → zV zmX8_valueFrom nn 0 0 Z 5 [(0, zR 20), (2, zI x2), (3, zI (s2.1)), (4, zI (s2.2))] [] M Q) h (fun s2 P3 hP4 hc5 he6 => ?_)) zi_0 hx1
  intro c7 c8
  refine fX8_valueFrom_l5_ok hZ hn hx2 c7 c8 hP4 hc5 (fun s9 h10 d11 d12 => ?_)
  have h := he6 _ h10
  refine zV_iload_n 2 dX8_valueFrom_33 rfl rfl ?_
  exact zV_ireti dX8_valueFrom_34 rfl d11 h
noncomputable def fX8_tokenFrom (x1 x2 : Int) (M : zMem) : Option (Int) :=
  (zbd (fX8_isLetter x1 M) fun r1 => (if r1 = 0 then (zbd (fX8_isDigit x1 M) fun r5 => (if r5 = 0 then (zgd ((0 : Int) ≤ x1 ∧ x1 < 1000) (if (zSx (M 21 x1)) < 0 then some 1 else (zgd ((0 : Int) ≤ x1 ∧ x1 < 1000) (some (M 21 x1))))) else (if (zw (x2 - x1)) ≤ 4 then (zbd (fX8_valueFrom x1 x2 M) fun r11 => some (zw (1000 + r11))) else some 1))) else (if (zw (x2 - x1)) ≤ 8 then (zbd (fX8_wordFrom x1 x2 M) fun r15 => some r15) else some 1)))
set_option maxRecDepth 100000 in
set_option maxHeartbeats 4000000 in
theorem fX8_tokenFrom_ok {Z : zZ} (hZ : zB Z) {nn : Nat} (hn : 9 ≤ nn)  {x1 x2 : Int} (hx1 : z32 x1) (hx2 : z32 x2) {M : zMem} {Q : Option zAV → zMem → zZ → Prop} (h : zSat (fX8_tokenFrom x1 x2 M) (fun r => Q (some (zI r)) M Z))  : zV zmX8_tokenFrom nn 0 0 Z 0 [(0, zR 20), (1, zI x1), (2, zI x2)] [] M Q := by
  unfold fX8_tokenFrom at h
  refine zV_aload_n 0 dX8_tokenFrom_0 rfl rfl ?_
  refine zV_iload_n 1 dX8_tokenFrom_1 rfl rfl ?_
  refine zV_cVI (y' := zmX8_isLetter) (n' := 0) (As := [zI x1]) zc_X8_43 (zq_20 hZ) rfl dX8_tokenFrom_2 (Nat.le_trans (by decide) hn) rfl (Nat.le_of_ble_eq_true rfl) (Nat.le_of_ble_eq_true rfl) rfl h (fun Q' h' => fX8_isLetter_ok hZ (Nat.le_refl _) hx1 h') (fun r1 c2 b3 h => ?_)
  refine zV_if_eq 27 dX8_tokenFrom_5 (by decide) c2 (fun hc_ => ?_) (fun hc_ => ?_)
  · replace h := zs_t h hc_
    refine zV_aload_n 0 dX8_tokenFrom_27 rfl rfl ?_
    refine zV_iload_n 1 dX8_tokenFrom_28 rfl rfl ?_
    refine zV_cVI (y' := zmX8_isDigit) (n' := 0) (As := [zI x1]) zc_X8_47 (zq_20 hZ) rfl dX8_tokenFrom_29 (Nat.le_trans (by decide) hn) rfl (Nat.le_of_ble_eq_true rfl) (Nat.le_of_ble_eq_true rfl) rfl h (fun Q' h' => fX8_isDigit_ok hZ (Nat.le_refl _) hx1 h') (fun r5 c6 b7 h => ?_)
    refine zV_if_eq 57 dX8_tokenFrom_32 (by decide) c6 (fun hc_ => ?_) (fun hc_ => ?_)
    · replace h := zs_t h hc_
      refine zV_ldS (i := 1011) (by decide) (by rw [zq_1011 hZ]; rfl) dX8_tokenFrom_57 ?_
      refine zV_aload_n 0 dX8_tokenFrom_59 rfl rfl ?_
      refine zV_getR (j := 21) (zq_20 hZ) zf_X8_0 zkf_X8_9 rfl dX8_tokenFrom_60 ?_
      refine zV_iload_n 1 dX8_tokenFrom_63 rfl rfl ?_
      obtain ⟨hg, h⟩ := zs_gd h
      refine zV_cald (zq_21 hZ) hg dX8_tokenFrom_64 (fun m9 => ?_)
      refine zV_sidx zc_X8_58 (zBs_of hZ) (Nat.le_trans (by decide) hn) (Nat.le_of_ble_eq_true rfl) dX8_tokenFrom_65 (z32_ch m9) ?_
      refine zV_if_lt 80 dX8_tokenFrom_68 (by decide) (z32_sx _) (fun hc_ => ?_) (fun hc_ => ?_)
      · replace h := zs_t h hc_
        refine zV_iconst (v := 1) dX8_tokenFrom_80 rfl ?_
        exact zV_ireti dX8_tokenFrom_81 rfl zi_1 h
      · replace h := zs_f h hc_
        refine zV_aload_n 0 dX8_tokenFrom_71 rfl rfl ?_
        refine zV_getR (j := 21) (zq_20 hZ) zf_X8_0 zkf_X8_9 rfl dX8_tokenFrom_72 ?_
        refine zV_iload_n 1 dX8_tokenFrom_75 rfl rfl ?_
        obtain ⟨hg, h⟩ := zs_gd h
        refine zV_cald (zq_21 hZ) hg dX8_tokenFrom_76 (fun m10 => ?_)
        refine zV_goto 81 dX8_tokenFrom_77 (by decide) ?_
        exact zV_ireti dX8_tokenFrom_81 rfl (z32_ch m10) h
    · replace h := zs_f h hc_
      refine zV_iload_n 2 dX8_tokenFrom_35 rfl rfl ?_
      refine zV_iload_n 1 dX8_tokenFrom_36 rfl rfl ?_
      refine zV_isub dX8_tokenFrom_37 ?_
      refine zV_iconst (v := 4) dX8_tokenFrom_38 rfl ?_
      refine zV_w2 ?_
      refine zV_icmp_le 46 dX8_tokenFrom_39 (by decide) (z32_w _) zi_4 (fun hc_ => ?_) (fun hc_ => ?_)
      · replace h := zs_t h hc_
        refine zV_sipush (v := 1000) dX8_tokenFrom_46 rfl ?_
        refine zV_aload_n 0 dX8_tokenFrom_49 rfl rfl ?_
        refine zV_iload_n 1 dX8_tokenFrom_50 rfl rfl ?_
        refine zV_iload_n 2 dX8_tokenFrom_51 rfl rfl ?_
        refine zV_cVI (y' := zmX8_valueFrom) (n' := 0) (As := [zI x1, zI x2]) zc_X8_53 (zq_20 hZ) rfl dX8_tokenFrom_52 (Nat.le_trans (by decide) hn) rfl (Nat.le_of_ble_eq_true rfl) (Nat.le_of_ble_eq_true rfl) rfl h (fun Q' h' => fX8_valueFrom_ok hZ (Nat.le_refl _) hx1 hx2 h') (fun r11 c12 b13 h => ?_)
        refine zV_iadd dX8_tokenFrom_55 ?_
        refine zV_w ?_
        exact zV_ireti dX8_tokenFrom_56 rfl (z32_w _) h
      · replace h := zs_f h hc_
        refine zV_iconst (v := 1) dX8_tokenFrom_42 rfl ?_
        refine zV_goto 56 dX8_tokenFrom_43 (by decide) ?_
        exact zV_ireti dX8_tokenFrom_56 rfl zi_1 h
  · replace h := zs_f h hc_
    refine zV_iload_n 2 dX8_tokenFrom_8 rfl rfl ?_
    refine zV_iload_n 1 dX8_tokenFrom_9 rfl rfl ?_
    refine zV_isub dX8_tokenFrom_10 ?_
    refine zV_bipush (v := 8) dX8_tokenFrom_11 rfl ?_
    refine zV_w2 ?_
    refine zV_icmp_le 20 dX8_tokenFrom_13 (by decide) (z32_w _) zi_8 (fun hc_ => ?_) (fun hc_ => ?_)
    · replace h := zs_t h hc_
      refine zV_aload_n 0 dX8_tokenFrom_20 rfl rfl ?_
      refine zV_iload_n 1 dX8_tokenFrom_21 rfl rfl ?_
      refine zV_iload_n 2 dX8_tokenFrom_22 rfl rfl ?_
      refine zV_cVI (y' := zmX8_wordFrom) (n' := 8) (As := [zI x1, zI x2]) zc_X8_50 (zq_20 hZ) rfl dX8_tokenFrom_23 (Nat.le_trans (by decide) hn) rfl (Nat.le_of_ble_eq_true rfl) (Nat.le_of_ble_eq_true rfl) rfl h (fun Q' h' => fX8_wordFrom_ok hZ (Nat.le_refl _) hx1 hx2 h') (fun r15 c16 b17 h => ?_)
      exact zV_ireti dX8_tokenFrom_26 rfl c16 h
    · replace h := zs_f h hc_
      refine zV_iconst (v := 1) dX8_tokenFrom_16 rfl ?_
      refine zV_goto 26 dX8_tokenFrom_17 (by decide) ?_
      exact zV_ireti dX8_tokenFrom_26 rfl zi_1 h
noncomputable def fX8_put (x1 x2 : Int) (M : zMem) : Option (zMem) :=
  (if 1000 < (M 20 3) then some M else (zgd ((0 : Int) ≤ (M 20 3) ∧ (M 20 3) < 1001) (some (zup (zup M 23 (M 20 3) (zw ((x1 * 1024) + x2))) 20 3 (zw (((zup M 23 (M 20 3) (zw ((x1 * 1024) + x2))) 20 3) + 1))))))
set_option maxRecDepth 100000 in
set_option maxHeartbeats 4000000 in
theorem fX8_put_ok {Z : zZ} (hZ : zB Z) {nn : Nat} (hn : 0 ≤ nn)  {x1 x2 : Int} (hx1 : z32 x1) (hx2 : z32 x2) {M : zMem} {Q : Option zAV → zMem → zZ → Prop} (h : zSat (fX8_put x1 x2 M) (fun r => Q none r Z))  : zV zmX8_put nn 0 0 Z 0 [(0, zR 20), (1, zI x1), (2, zI x2)] [] M Q := by
  unfold fX8_put at h
  refine zV_aload_n 0 dX8_put_0 rfl rfl ?_
  refine zV_getI (zq_20 hZ) zf_X8_3 zkf_X8_23 rfl dX8_put_1 (fun m1 => ?_)
  refine zV_sipush (v := 1000) dX8_put_4 rfl ?_
  refine zV_icmp_gt 36 dX8_put_7 (by decide) m1 zi_1000 (fun hc_ => ?_) (fun hc_ => ?_)
  · replace h := zs_t h hc_
    exact zV_vret dX8_put_36 rfl h
  · replace h := zs_f h hc_
    refine zV_aload_n 0 dX8_put_10 rfl rfl ?_
    refine zV_getR (j := 23) (zq_20 hZ) zf_X8_2 zkf_X8_15 rfl dX8_put_11 ?_
    refine zV_aload_n 0 dX8_put_14 rfl rfl ?_
    refine zV_getI (zq_20 hZ) zf_X8_3 zkf_X8_23 rfl dX8_put_15 (fun m2 => ?_)
    refine zV_iload_n 1 dX8_put_18 rfl rfl ?_
    refine zV_sipush (v := 1024) dX8_put_19 rfl ?_
    refine zV_imul dX8_put_22 ?_
    refine zV_iload_n 2 dX8_put_23 rfl rfl ?_
    refine zV_iadd dX8_put_24 ?_
    refine zV_w ?_
    obtain ⟨hg, h⟩ := zs_gd h
    refine zV_iast (zq_23 hZ) (by decide) hg (z32_w _) dX8_put_25 ?_
    refine zV_aload_n 0 dX8_put_26 rfl rfl ?_
    refine zV_dup dX8_put_27 rfl ?_
    refine zV_getI (zq_20 hZ) zf_X8_3 zkf_X8_23 rfl dX8_put_28 (fun m3 => ?_)
    refine zV_iconst (v := 1) dX8_put_31 rfl ?_
    refine zV_iadd dX8_put_32 ?_
    refine zV_w ?_
    refine zV_putI (zq_20 hZ) (by decide) zf_X8_3 zkf_X8_23 rfl dX8_put_33 (z32_w _) ?_
    exact zV_vret dX8_put_36 rfl h
noncomputable def fX8_split_l9 (x1 x2 : Int) (M : zMem) : Option ((Int × Int × zMem) ⊕ (Int × Int × zMem)) :=
  (if (M 20 1) ≤ x2 then some (.inr (x1, x2, M)) else (if x1 = 1 then some (.inr (x1, x2, M)) else (zgd ((0 : Int) ≤ x2 ∧ x2 < 1000) (if (M 21 x2) = 32 then some (.inl (x1, (zw (x2 + 1)), M)) else (zgd ((0 : Int) ≤ x2 ∧ x2 < 1000) (if (M 21 x2) = 10 then some (.inl (x1, (zw (x2 + 1)), M)) else (zbd (fX8_endOf x2 M) fun r4 => (zbd (fX8_tokenFrom x2 r4 M) fun r8 => (zbd (fX8_put r8 x2 M) fun M15 => some (.inl (r8, (zw ((max x2 (zw (r4 - 1))) + 1)), M15)))))))))))
set_option maxRecDepth 100000 in
set_option maxHeartbeats 4000000 in
theorem fX8_split_l9_ok {Z : zZ} (hZ : zB Z) {nn : Nat} (hn : 10 ≤ nn)  {x1 x2 : Int} (hx1 : z32 x1) (hx2 : z32 x2) {M : zMem} {Q : Option zAV → zMem → zZ → Prop} {P : (Int × Int × zMem) ⊕ (Int × Int × zMem) → Prop} (h : zSat (fX8_split_l9 x1 x2 M) P)  (hc : ∀ s : Int × Int × zMem, P (.inl s) → z32 (s.1) → z32 (s.2.1) → zV zmX8_split nn 0 0 Z 9 [(0, zR 20), (1, zI (s.1)), (2, zI (s.2.1))] [] (s.2.2) Q) (he : ∀ s : Int × Int × zMem, P (.inr s) → z32 (s.1) → z32 (s.2.1) → zV zmX8_split nn 0 0 Z 77 [(0, zR 20), (1, zI (s.1)), (2, zI (s.2.1))] [] (s.2.2) Q)   : zV zmX8_split nn 0 0 Z 9 [(0, zR 20), (1, zI x1), (2, zI x2)] [] M Q := by
  unfold fX8_split_l9 at h
  refine zV_iload_n 2 dX8_split_9 rfl rfl ?_
  refine zV_aload_n 0 dX8_split_10 rfl rfl ?_
  refine zV_getI (zq_20 hZ) zf_X8_1 zkf_X8_19 rfl dX8_split_11 (fun m1 => ?_)
  refine zV_icmp_ge 77 dX8_split_14 (by decide) hx2 m1 (fun hc_ => ?_) (fun hc_ => ?_)
  · replace h := zs_t h hc_
    exact he _ h hx1 hx2
  · replace h := zs_f h hc_
    refine zV_iload_n 1 dX8_split_17 rfl rfl ?_
    refine zV_iconst (v := 1) dX8_split_18 rfl ?_
    refine zV_icmp_eq 77 dX8_split_19 (by decide) hx1 zi_1 (fun hc_ => ?_) (fun hc_ => ?_)
    · replace h := zs_t h hc_
      exact he _ h hx1 hx2
    · replace h := zs_f h hc_
      refine zV_aload_n 0 dX8_split_22 rfl rfl ?_
      refine zV_getR (j := 21) (zq_20 hZ) zf_X8_0 zkf_X8_9 rfl dX8_split_23 ?_
      refine zV_iload_n 2 dX8_split_26 rfl rfl ?_
      obtain ⟨hg, h⟩ := zs_gd h
      refine zV_cald (zq_21 hZ) hg dX8_split_27 (fun m2 => ?_)
      refine zV_bipush (v := 32) dX8_split_28 rfl ?_
      refine zV_icmp_eq 71 dX8_split_30 (by decide) (z32_ch m2) zi_32 (fun hc_ => ?_) (fun hc_ => ?_)
      · replace h := zs_t h hc_
        refine zV_iinc 2 [(2, zI (zw (x2 + 1))), (0, zR 20), (1, zI x1)] dX8_split_71 rfl rfl (by decide) rfl ?_
        refine zV_goto 9 dX8_split_74 (by decide) ?_
        refine zV_ls [1, 2, 0] rfl ?_
        exact hc _ h hx1 (z32_w _)
      · replace h := zs_f h hc_
        refine zV_aload_n 0 dX8_split_33 rfl rfl ?_
        refine zV_getR (j := 21) (zq_20 hZ) zf_X8_0 zkf_X8_9 rfl dX8_split_34 ?_
        refine zV_iload_n 2 dX8_split_37 rfl rfl ?_
        obtain ⟨hg, h⟩ := zs_gd h
        refine zV_cald (zq_21 hZ) hg dX8_split_38 (fun m3 => ?_)
        refine zV_bipush (v := 10) dX8_split_39 rfl ?_
        refine zV_icmp_eq 71 dX8_split_41 (by decide) (z32_ch m3) zi_10 (fun hc_ => ?_) (fun hc_ => ?_)
        · replace h := zs_t h hc_
          refine zV_iinc 2 [(2, zI (zw (x2 + 1))), (0, zR 20), (1, zI x1)] dX8_split_71 rfl rfl (by decide) rfl ?_
          refine zV_goto 9 dX8_split_74 (by decide) ?_
          refine zV_ls [1, 2, 0] rfl ?_
          exact hc _ h hx1 (z32_w _)
        · replace h := zs_f h hc_
          refine zV_aload_n 0 dX8_split_44 rfl rfl ?_
          refine zV_iload_n 2 dX8_split_45 rfl rfl ?_
          refine zV_cVI (y' := zmX8_endOf) (n' := 1) (As := [zI x2]) zc_X8_26 (zq_20 hZ) rfl dX8_split_46 (Nat.le_trans (by decide) hn) rfl (Nat.le_of_ble_eq_true rfl) (Nat.le_of_ble_eq_true rfl) rfl h (fun Q' h' => fX8_endOf_ok hZ (Nat.le_refl _) hx2 h') (fun r4 c5 b6 h => ?_)
          refine zV_istore_n [(3, zI r4), (0, zR 20), (1, zI x1), (2, zI x2)] dX8_split_49 rfl (by decide) rfl ?_
          refine zV_aload_n 1 dX8_split_50 rfl rfl ?_
          refine zV_iload_n 3 dX8_split_51 rfl rfl ?_
          refine zV_iload_n 0 dX8_split_52 rfl rfl ?_
          refine zV_cVI (y' := zmX8_tokenFrom) (n' := 9) (As := [zI x2, zI r4]) zc_X8_30 (zq_20 hZ) rfl dX8_split_53 (Nat.le_trans (by decide) hn) rfl (Nat.le_of_ble_eq_true rfl) (Nat.le_of_ble_eq_true rfl) rfl h (fun Q' h' => fX8_tokenFrom_ok hZ (Nat.le_refl _) hx2 c5 h') (fun r8 c9 b10 h => ?_)
          refine zV_istore_n [(1, zI r8), (3, zI r4), (0, zR 20), (2, zI x2)] dX8_split_56 rfl (by decide) rfl ?_
          refine zV_aload_n 2 dX8_split_57 rfl rfl ?_
          refine zV_iload_n 0 dX8_split_58 rfl rfl ?_
          refine zV_iload_n 3 dX8_split_59 rfl rfl ?_
          refine zV_cVV (y' := zmX8_put) (n' := 0) (As := [zI r8, zI x2]) zc_X8_34 (zq_20 hZ) rfl dX8_split_60 (Nat.le_trans (by decide) hn) rfl (Nat.le_of_ble_eq_true rfl) (Nat.le_of_ble_eq_true rfl) rfl h (fun Q' h' => fX8_put_ok hZ (Nat.le_refl _) c9 hx2 h') (fun M15 h => ?_)
          refine zV_iload_n 3 dX8_split_63 rfl rfl ?_
          refine zV_iload_n 1 dX8_split_64 rfl rfl ?_
          refine zV_iconst (v := 1) dX8_split_65 rfl ?_
          refine zV_isub dX8_split_66 ?_
          refine zV_w ?_
          refine zV_mmax zml_X8_38 dX8_split_67 (Nat.le_trans (by decide) hn) (Nat.le_of_ble_eq_true rfl) hx2 (z32_w _) ?_
          refine zV_istore_n [(2, zI (max x2 (zw (r4 - 1)))), (1, zI r8), (3, zI r4), (0, zR 20)] dX8_split_70 rfl (by decide) rfl ?_
          refine zV_iinc 0 [(2, zI (zw ((max x2 (zw (r4 - 1))) + 1))), (1, zI r8), (3, zI r4), (0, zR 20)] dX8_split_71 rfl rfl (by decide) rfl ?_
          refine zV_goto 9 dX8_split_74 (by decide) ?_
          refine zV_ls [3, 1, 0] rfl ?_
          exact hc _ h c9 (z32_w _)
noncomputable def fX8_split_j77 (M : zMem) : Option (zMem) :=
  (zbd (fX8_put 0 (M 20 1) M) fun M31 => some M31)
set_option maxRecDepth 100000 in
set_option maxHeartbeats 4000000 in
theorem fX8_split_j77_ok {Z : zZ} (hZ : zB Z) {nn : Nat} (hn : 10 ≤ nn)   {M : zMem} {Q : Option zAV → zMem → zZ → Prop} (h : zSat (fX8_split_j77 M) (fun r => Q none r Z))  : zV zmX8_split nn 0 0 Z 77 [(0, zR 20)] [] M Q := by
  unfold fX8_split_j77 at h
  refine zV_aload_n 0 dX8_split_77 rfl rfl ?_
  refine zV_iconst (v := 0) dX8_split_78 rfl ?_
  refine zV_aload_n 0 dX8_split_79 rfl rfl ?_
  refine zV_getI (zq_20 hZ) zf_X8_1 zkf_X8_19 rfl dX8_split_80 (fun m27 => ?_)
  refine zV_cVV (y' := zmX8_put) (n' := 0) (As := [zI 0, zI (M 20 1)]) zc_X8_34 (zq_20 hZ) rfl dX8_split_83 (Nat.le_trans (by decide) hn) rfl (Nat.le_of_ble_eq_true rfl) (Nat.le_of_ble_eq_true rfl) rfl h (fun Q' h' => fX8_put_ok hZ (Nat.le_refl _) zi_0 m27 h') (fun M31 h => ?_)
  exact zV_vret dX8_split_86 rfl h
noncomputable def fX8_split (M : zMem) : Option (zMem) :=
  (zbd (zit (fun s16 => fX8_split_l9 (s16.1) (s16.2.1) (s16.2.2)) (2, 0, (zup M 20 3 0))) fun s23 => fX8_split_j77  (s23.2.2))
set_option maxRecDepth 100000 in
set_option maxHeartbeats 4000000 in
theorem fX8_split_ok {Z : zZ} (hZ : zB Z) {nn : Nat} (hn : 10 ≤ nn)   {M : zMem} {Q : Option zAV → zMem → zZ → Prop} (h : zSat (fX8_split M) (fun r => Q none r Z))  : zV zmX8_split nn 0 0 Z 0 [(0, zR 20)] [] M Q := by
  unfold fX8_split at h
  refine zV_aload_n 0 dX8_split_0 rfl rfl ?_
  refine zV_iconst (v := 0) dX8_split_1 rfl ?_
  refine zV_putI (zq_20 hZ) (by decide) zf_X8_3 zkf_X8_23 rfl dX8_split_2 zi_0 ?_
  refine zV_iconst (v := 2) dX8_split_5 rfl ?_
  refine zV_istore_n [(1, zI 2), (0, zR 20)] dX8_split_6 rfl (by decide) rfl ?_
  refine zV_iconst (v := 0) dX8_split_7 rfl ?_
  refine zV_istore_n [(2, zI 0), (1, zI 2), (0, zR 20)] dX8_split_8 rfl (by decide) rfl ?_
  refine zV_ls [2, 1, 0] rfl ?_
  refine (zV_loop (Vh := fun s16 : Int × Int × zMem => z32 (s16.1) → z32 (s16.2.1) → zV zmX8_split nn 0 0 Z 9 [(0, zR 20), (1, zI (s16.1)), (2, zI (s16.2.1))] [] (s16.2.2) Q) h (fun s16 P17 hP18 hc19 he20 => ?_)) zi_2 zi_0
  intro c21 c22
  refine fX8_split_l9_ok hZ hn c21 c22 hP18 hc19 (fun s23 h24 d25 d26 => ?_)
  have h := he20 _ h24
  refine zV_ls [0] rfl ?_
  exact fX8_split_j77_ok hZ hn  h
noncomputable def fX8_tokenAt (x1 : Int) (M : zMem) : Option (Int) :=
  (if x1 < 0 then some 0 else (if (M 20 3) ≤ x1 then some 0 else (zgd ((0 : Int) ≤ x1 ∧ x1 < 1001) (zgd (¬ 1024 = (0 : Int)) (some (zdiv (M 23 x1) 1024))))))
set_option maxRecDepth 100000 in
set_option maxHeartbeats 4000000 in
theorem fX8_tokenAt_ok {Z : zZ} (hZ : zB Z) {nn : Nat} (hn : 0 ≤ nn)  {x1 : Int} (hx1 : z32 x1) {M : zMem} {Q : Option zAV → zMem → zZ → Prop} (h : zSat (fX8_tokenAt x1 M) (fun r => Q (some (zI r)) M Z))  : zV zmX8_tokenAt nn 0 0 Z 0 [(0, zR 20), (1, zI x1)] [] M Q := by
  unfold fX8_tokenAt at h
  refine zV_iload_n 1 dX8_tokenAt_0 rfl rfl ?_
  refine zV_if_lt 25 dX8_tokenAt_1 (by decide) hx1 (fun hc_ => ?_) (fun hc_ => ?_)
  · replace h := zs_t h hc_
    refine zV_iconst (v := 0) dX8_tokenAt_25 rfl ?_
    exact zV_ireti dX8_tokenAt_26 rfl zi_0 h
  · replace h := zs_f h hc_
    refine zV_iload_n 1 dX8_tokenAt_4 rfl rfl ?_
    refine zV_aload_n 0 dX8_tokenAt_5 rfl rfl ?_
    refine zV_getI (zq_20 hZ) zf_X8_3 zkf_X8_23 rfl dX8_tokenAt_6 (fun m1 => ?_)
    refine zV_icmp_ge 25 dX8_tokenAt_9 (by decide) hx1 m1 (fun hc_ => ?_) (fun hc_ => ?_)
    · replace h := zs_t h hc_
      refine zV_iconst (v := 0) dX8_tokenAt_25 rfl ?_
      exact zV_ireti dX8_tokenAt_26 rfl zi_0 h
    · replace h := zs_f h hc_
      refine zV_aload_n 0 dX8_tokenAt_12 rfl rfl ?_
      refine zV_getR (j := 23) (zq_20 hZ) zf_X8_2 zkf_X8_15 rfl dX8_tokenAt_13 ?_
      refine zV_iload_n 1 dX8_tokenAt_16 rfl rfl ?_
      obtain ⟨hg, h⟩ := zs_gd h
      refine zV_iald (zq_23 hZ) hg dX8_tokenAt_17 (fun m2 => ?_)
      refine zV_sipush (v := 1024) dX8_tokenAt_18 rfl ?_
      obtain ⟨hg, h⟩ := zs_gd h
      refine zV_idiv dX8_tokenAt_21 zi_1024 hg ?_
      refine zV_goto 26 dX8_tokenAt_22 (by decide) ?_
      exact zV_ireti dX8_tokenAt_26 rfl (z32_i _) h
noncomputable def fX8_placeAt (x1 : Int) (M : zMem) : Option (Int) :=
  (if x1 < 0 then some (M 20 1) else (if (M 20 3) ≤ x1 then some (M 20 1) else (zgd ((0 : Int) ≤ x1 ∧ x1 < 1001) (zgd (¬ 1024 = (0 : Int)) (some (zrem (M 23 x1) 1024))))))
set_option maxRecDepth 100000 in
set_option maxHeartbeats 4000000 in
theorem fX8_placeAt_ok {Z : zZ} (hZ : zB Z) {nn : Nat} (hn : 0 ≤ nn)  {x1 : Int} (hx1 : z32 x1) {M : zMem} {Q : Option zAV → zMem → zZ → Prop} (h : zSat (fX8_placeAt x1 M) (fun r => Q (some (zI r)) M Z))  : zV zmX8_placeAt nn 0 0 Z 0 [(0, zR 20), (1, zI x1)] [] M Q := by
  unfold fX8_placeAt at h
  refine zV_iload_n 1 dX8_placeAt_0 rfl rfl ?_
  refine zV_if_lt 25 dX8_placeAt_1 (by decide) hx1 (fun hc_ => ?_) (fun hc_ => ?_)
  · replace h := zs_t h hc_
    refine zV_aload_n 0 dX8_placeAt_25 rfl rfl ?_
    refine zV_getI (zq_20 hZ) zf_X8_1 zkf_X8_19 rfl dX8_placeAt_26 (fun m1 => ?_)
    exact zV_ireti dX8_placeAt_29 rfl m1 h
  · replace h := zs_f h hc_
    refine zV_iload_n 1 dX8_placeAt_4 rfl rfl ?_
    refine zV_aload_n 0 dX8_placeAt_5 rfl rfl ?_
    refine zV_getI (zq_20 hZ) zf_X8_3 zkf_X8_23 rfl dX8_placeAt_6 (fun m2 => ?_)
    refine zV_icmp_ge 25 dX8_placeAt_9 (by decide) hx1 m2 (fun hc_ => ?_) (fun hc_ => ?_)
    · replace h := zs_t h hc_
      refine zV_aload_n 0 dX8_placeAt_25 rfl rfl ?_
      refine zV_getI (zq_20 hZ) zf_X8_1 zkf_X8_19 rfl dX8_placeAt_26 (fun m3 => ?_)
      exact zV_ireti dX8_placeAt_29 rfl m3 h
    · replace h := zs_f h hc_
      refine zV_aload_n 0 dX8_placeAt_12 rfl rfl ?_
      refine zV_getR (j := 23) (zq_20 hZ) zf_X8_2 zkf_X8_15 rfl dX8_placeAt_13 ?_
      refine zV_iload_n 1 dX8_placeAt_16 rfl rfl ?_
      obtain ⟨hg, h⟩ := zs_gd h
      refine zV_iald (zq_23 hZ) hg dX8_placeAt_17 (fun m4 => ?_)
      refine zV_sipush (v := 1024) dX8_placeAt_18 rfl ?_
      obtain ⟨hg, h⟩ := zs_gd h
      refine zV_irem dX8_placeAt_21 zi_1024 hg ?_
      refine zV_goto 29 dX8_placeAt_22 (by decide) ?_
      exact zV_ireti dX8_placeAt_29 rfl (z32_i _) h
noncomputable def fX8_letterAt_j39 (x1 s0 : Int) (M : zMem) : Option (Int) :=
  (if s0 = 0 then some 32 else (zgd ((0 : Int) ≤ x1 ∧ x1 < 1000) (some (M 21 x1))))
set_option maxRecDepth 100000 in
set_option maxHeartbeats 4000000 in
theorem fX8_letterAt_j39_ok {Z : zZ} (hZ : zB Z) {nn : Nat} (hn : 0 ≤ nn)  {x1 s0 : Int} (hx1 : z32 x1) (hs0 : z32 s0) (hbs0 : s0 = 0 ∨ s0 = 1) {M : zMem} {Q : Option zAV → zMem → zZ → Prop} (h : zSat (fX8_letterAt_j39 x1 s0 M) (fun r => Q (some (zI r)) M Z))  : zV zmX8_letterAt nn 0 0 Z 39 [(0, zR 20), (1, zI x1)] [zI s0] M Q := by
  unfold fX8_letterAt_j39 at h
  refine zV_istore_n [(2, zI s0), (0, zR 20), (1, zI x1)] dX8_letterAt_39 rfl (by decide) rfl ?_
  refine zV_iload_n 0 dX8_letterAt_40 rfl rfl ?_
  refine zV_if_eq 53 dX8_letterAt_41 (by decide) hs0 (fun hc_ => ?_) (fun hc_ => ?_)
  · replace h := zs_t h hc_
    refine zV_bipush (v := 32) dX8_letterAt_53 rfl ?_
    exact zV_iretc dX8_letterAt_55 rfl ⟨by decide, by decide⟩ h
  · replace h := zs_f h hc_
    refine zV_aload_n 1 dX8_letterAt_44 rfl rfl ?_
    refine zV_getR (j := 21) (zq_20 hZ) zf_X8_0 zkf_X8_9 rfl dX8_letterAt_45 ?_
    refine zV_iload_n 2 dX8_letterAt_48 rfl rfl ?_
    obtain ⟨hg, h⟩ := zs_gd h
    refine zV_cald (zq_21 hZ) hg dX8_letterAt_49 (fun m1 => ?_)
    refine zV_goto 55 dX8_letterAt_50 (by decide) ?_
    exact zV_iretc dX8_letterAt_55 rfl m1 h
noncomputable def fX8_letterAt_j38 (x1 : Int) (M : zMem) : Option (Int) :=
  fX8_letterAt_j39 x1 0 M
set_option maxRecDepth 100000 in
set_option maxHeartbeats 4000000 in
theorem fX8_letterAt_j38_ok {Z : zZ} (hZ : zB Z) {nn : Nat} (hn : 0 ≤ nn)  {x1 : Int} (hx1 : z32 x1) {M : zMem} {Q : Option zAV → zMem → zZ → Prop} (h : zSat (fX8_letterAt_j38 x1 M) (fun r => Q (some (zI r)) M Z))  : zV zmX8_letterAt nn 0 0 Z 38 [(0, zR 20), (1, zI x1)] [] M Q := by
  unfold fX8_letterAt_j38 at h
  refine zV_iconst (v := 0) dX8_letterAt_38 rfl ?_
  exact fX8_letterAt_j39_ok hZ hn hx1 zi_0 (Or.inl rfl) h
noncomputable def fX8_letterAt (x1 : Int) (M : zMem) : Option (Int) :=
  (if x1 < 0 then fX8_letterAt_j38 x1 M else (if (M 20 1) ≤ x1 then fX8_letterAt_j38 x1 M else (zgd ((0 : Int) ≤ x1 ∧ x1 < 1000) (if (M 21 x1) < 97 then fX8_letterAt_j38 x1 M else (zgd ((0 : Int) ≤ x1 ∧ x1 < 1000) (if 122 < (M 21 x1) then fX8_letterAt_j38 x1 M else fX8_letterAt_j39 x1 1 M))))))
set_option maxRecDepth 100000 in
set_option maxHeartbeats 4000000 in
theorem fX8_letterAt_ok {Z : zZ} (hZ : zB Z) {nn : Nat} (hn : 0 ≤ nn)  {x1 : Int} (hx1 : z32 x1) {M : zMem} {Q : Option zAV → zMem → zZ → Prop} (h : zSat (fX8_letterAt x1 M) (fun r => Q (some (zI r)) M Z))  : zV zmX8_letterAt nn 0 0 Z 0 [(0, zR 20), (1, zI x1)] [] M Q := by
  unfold fX8_letterAt at h
  refine zV_iload_n 1 dX8_letterAt_0 rfl rfl ?_
  refine zV_if_lt 38 dX8_letterAt_1 (by decide) hx1 (fun hc_ => ?_) (fun hc_ => ?_)
  · replace h := zs_t h hc_
    exact fX8_letterAt_j38_ok hZ hn hx1 h
  · replace h := zs_f h hc_
    refine zV_iload_n 1 dX8_letterAt_4 rfl rfl ?_
    refine zV_aload_n 0 dX8_letterAt_5 rfl rfl ?_
    refine zV_getI (zq_20 hZ) zf_X8_1 zkf_X8_19 rfl dX8_letterAt_6 (fun m2 => ?_)
    refine zV_icmp_ge 38 dX8_letterAt_9 (by decide) hx1 m2 (fun hc_ => ?_) (fun hc_ => ?_)
    · replace h := zs_t h hc_
      exact fX8_letterAt_j38_ok hZ hn hx1 h
    · replace h := zs_f h hc_
      refine zV_aload_n 0 dX8_letterAt_12 rfl rfl ?_
      refine zV_getR (j := 21) (zq_20 hZ) zf_X8_0 zkf_X8_9 rfl dX8_letterAt_13 ?_
      refine zV_iload_n 1 dX8_letterAt_16 rfl rfl ?_
      obtain ⟨hg, h⟩ := zs_gd h
      refine zV_cald (zq_21 hZ) hg dX8_letterAt_17 (fun m3 => ?_)
      refine zV_bipush (v := 97) dX8_letterAt_18 rfl ?_
      refine zV_icmp_lt 38 dX8_letterAt_20 (by decide) (z32_ch m3) zi_97 (fun hc_ => ?_) (fun hc_ => ?_)
      · replace h := zs_t h hc_
        exact fX8_letterAt_j38_ok hZ hn hx1 h
      · replace h := zs_f h hc_
        refine zV_aload_n 0 dX8_letterAt_23 rfl rfl ?_
        refine zV_getR (j := 21) (zq_20 hZ) zf_X8_0 zkf_X8_9 rfl dX8_letterAt_24 ?_
        refine zV_iload_n 1 dX8_letterAt_27 rfl rfl ?_
        obtain ⟨hg, h⟩ := zs_gd h
        refine zV_cald (zq_21 hZ) hg dX8_letterAt_28 (fun m4 => ?_)
        refine zV_bipush (v := 122) dX8_letterAt_29 rfl ?_
        refine zV_icmp_gt 38 dX8_letterAt_31 (by decide) (z32_ch m4) zi_122 (fun hc_ => ?_) (fun hc_ => ?_)
        · replace h := zs_t h hc_
          exact fX8_letterAt_j38_ok hZ hn hx1 h
        · replace h := zs_f h hc_
          refine zV_iconst (v := 1) dX8_letterAt_34 rfl ?_
          refine zV_goto 39 dX8_letterAt_35 (by decide) ?_
          exact fX8_letterAt_j39_ok hZ hn hx1 zi_1 (Or.inr rfl) h
noncomputable def fX8_sameWord_l2 (x1 x2 x3 : Int) (M : zMem) : Option ((Int) ⊕ ((Int) ⊕ (Int))) :=
  (if 8 < x3 then some (.inr (.inl x3)) else (zbd (fX8_letterAt (zw (x1 + x3)) M) fun r1 => (zbd (fX8_letterAt (zw (x2 + x3)) M) fun r5 => (if r1 = r5 then (if r1 = 32 then some (.inr (.inr 1)) else some (.inl (zw (x3 + 1)))) else some (.inr (.inr 0))))))
set_option maxRecDepth 100000 in
set_option maxHeartbeats 4000000 in
theorem fX8_sameWord_l2_ok {Z : zZ} (hZ : zB Z) {nn : Nat} (hn : 1 ≤ nn)  {x1 x2 x3 : Int} (hx1 : z32 x1) (hx2 : z32 x2) (hx3 : z32 x3) {M : zMem} {Q : Option zAV → zMem → zZ → Prop} {P : (Int) ⊕ ((Int) ⊕ (Int)) → Prop} (h : zSat (fX8_sameWord_l2 x1 x2 x3 M) P)  (hc : ∀ s : Int, P (.inl s) → z32 s → zV zmX8_sameWord nn 0 0 Z 2 [(0, zR 20), (1, zI x1), (2, zI x2), (3, zI s)] [] M Q) (he : ∀ s : Int, P (.inr (.inl s)) → z32 s → zV zmX8_sameWord nn 0 0 Z 50 [(0, zR 20), (1, zI x1), (2, zI x2), (3, zI s)] [] M Q) (hr : ∀ r : Int, P (.inr (.inr r)) → (fun r => Q (some (zI r)) M Z) r)  : zV zmX8_sameWord nn 0 0 Z 2 [(0, zR 20), (1, zI x1), (2, zI x2), (3, zI x3)] [] M Q := by
  unfold fX8_sameWord_l2 at h
  refine zV_iload_n 3 dX8_sameWord_2 rfl rfl ?_
  refine zV_bipush (v := 8) dX8_sameWord_3 rfl ?_
  refine zV_icmp_gt 50 dX8_sameWord_5 (by decide) hx3 zi_8 (fun hc_ => ?_) (fun hc_ => ?_)
  · replace h := zs_t h hc_
    exact he _ h hx3
  · replace h := zs_f h hc_
    refine zV_aload_n 0 dX8_sameWord_8 rfl rfl ?_
    refine zV_iload_n 1 dX8_sameWord_9 rfl rfl ?_
    refine zV_iload_n 3 dX8_sameWord_10 rfl rfl ?_
    refine zV_iadd dX8_sameWord_11 ?_
    refine zV_w ?_
    refine zV_cVI (y' := zmX8_letterAt) (n' := 0) (As := [zI (zw (x1 + x3))]) zc_X8_76 (zq_20 hZ) rfl dX8_sameWord_12 (Nat.le_trans (by decide) hn) rfl (Nat.le_of_ble_eq_true rfl) (Nat.le_of_ble_eq_true rfl) rfl h (fun Q' h' => fX8_letterAt_ok hZ (Nat.le_refl _) (z32_w _) h') (fun r1 c2 b3 h => ?_)
    refine zV_istore [(4, zI r1), (0, zR 20), (1, zI x1), (2, zI x2), (3, zI x3)] dX8_sameWord_15 (by decide) rfl ?_
    refine zV_aload_n 1 dX8_sameWord_17 rfl rfl ?_
    refine zV_iload_n 3 dX8_sameWord_18 rfl rfl ?_
    refine zV_iload_n 4 dX8_sameWord_19 rfl rfl ?_
    refine zV_iadd dX8_sameWord_20 ?_
    refine zV_w ?_
    refine zV_cVI (y' := zmX8_letterAt) (n' := 0) (As := [zI (zw (x2 + x3))]) zc_X8_76 (zq_20 hZ) rfl dX8_sameWord_21 (Nat.le_trans (by decide) hn) rfl (Nat.le_of_ble_eq_true rfl) (Nat.le_of_ble_eq_true rfl) rfl h (fun Q' h' => fX8_letterAt_ok hZ (Nat.le_refl _) (z32_w _) h') (fun r5 c6 b7 h => ?_)
    refine zV_istore [(5, zI r5), (4, zI r1), (0, zR 20), (1, zI x1), (2, zI x2), (3, zI x3)] dX8_sameWord_24 (by decide) rfl ?_
    refine zV_iload 1 dX8_sameWord_26 rfl ?_
    refine zV_iload 0 dX8_sameWord_28 rfl ?_
    refine zV_icmp_eq 35 dX8_sameWord_30 (by decide) c2 c6 (fun hc_ => ?_) (fun hc_ => ?_)
    · replace h := zs_t h hc_
      refine zV_iload 1 dX8_sameWord_35 rfl ?_
      refine zV_bipush (v := 32) dX8_sameWord_37 rfl ?_
      refine zV_icmp_ne 44 dX8_sameWord_39 (by decide) c2 zi_32 (fun hc_ => ?_) (fun hc_ => ?_)
      · replace h := zs_f h hc_
        refine zV_iinc 5 [(3, zI (zw (x3 + 1))), (5, zI r5), (4, zI r1), (0, zR 20), (1, zI x1), (2, zI x2)] dX8_sameWord_44 rfl rfl (by decide) rfl ?_
        refine zV_goto 2 dX8_sameWord_47 (by decide) ?_
        refine zV_ls [3, 4, 5, 0] rfl ?_
        exact hc _ h (z32_w _)
      · replace h := zs_t h hc_
        refine zV_iconst (v := 1) dX8_sameWord_42 rfl ?_
        exact zV_iretb dX8_sameWord_43 rfl (Or.inr rfl) (hr _ h)
    · replace h := zs_f h hc_
      refine zV_iconst (v := 0) dX8_sameWord_33 rfl ?_
      exact zV_iretb dX8_sameWord_34 rfl (Or.inl rfl) (hr _ h)
noncomputable def fX8_sameWord (x1 x2 : Int) (M : zMem) : Option (Int) :=
  (zbd (zit (fun s9 => fX8_sameWord_l2 x1 x2 s9 M) 0) fun e => zel e (fun s15 => some 1) (fun r => some r))
set_option maxRecDepth 100000 in
set_option maxHeartbeats 4000000 in
theorem fX8_sameWord_ok {Z : zZ} (hZ : zB Z) {nn : Nat} (hn : 1 ≤ nn)  {x1 x2 : Int} (hx1 : z32 x1) (hx2 : z32 x2) {M : zMem} {Q : Option zAV → zMem → zZ → Prop} (h : zSat (fX8_sameWord x1 x2 M) (fun r => Q (some (zI r)) M Z))  : zV zmX8_sameWord nn 0 0 Z 0 [(0, zR 20), (1, zI x1), (2, zI x2)] [] M Q := by
  unfold fX8_sameWord at h
  refine zV_iconst (v := 0) dX8_sameWord_0 rfl ?_
  refine zV_istore_n [(3, zI 0), (0, zR 20), (1, zI x1), (2, zI x2)] dX8_sameWord_1 rfl (by decide) rfl ?_
  refine zV_ls [1, 2, 3, 0] rfl ?_
  refine (zV_loop (Vh := fun s9 : Int => z32 s9 → zV zmX8_sameWord nn 0 0 Z 2 [(0, zR 20), (1, zI x1), (2, zI x2), (3, zI s9)] [] M Q) h (fun s9 P10 hP11 hc12 he13 => ?_)) zi_0
  intro c14
  refine fX8_sameWord_l2_ok hZ hn hx1 hx2 c14 hP11 hc12 (fun s15 h16 d17 => ?_) (fun r18 h19 => he13 _ h19)
  have h := he13 _ h16
  refine zV_iconst (v := 1) dX8_sameWord_50 rfl ?_
  exact zV_iretb dX8_sameWord_51 rfl (Or.inr rfl) h
noncomputable def fX7_putBowl_j47 (o : Nat) (s0 s1 : Int) (M : zMem) : Option (zMem) :=
  some (zup (zup M o 1 (zw (s1 + s0))) o 0 (zw (((zup M o 1 (zw (s1 + s0))) o 0) + 1)))
set_option maxRecDepth 100000 in
set_option maxHeartbeats 4000000 in
theorem fX7_putBowl_j47_ok {Z : zZ} (hZ : zB Z) {nn : Nat} (hn : 0 ≤ nn) {o : Nat} (hS_o : zSU Z o) (hw_o : o < 900)  {s0 s1 : Int} (hs0 : z32 s0) (hbs0 : s0 = 0 ∨ s0 = 1) (hs1 : z32 s1) {M : zMem} {Q : Option zAV → zMem → zZ → Prop} (h : zSat (fX7_putBowl_j47 o s0 s1 M) (fun r => Q none r Z))  : zV zmX7_putBowl nn 0 0 Z 47 [(0, zR o)] [zI s0, zI s1, zR o] M Q := by
  unfold fX7_putBowl_j47 at h
  refine zV_iadd dX7_putBowl_47 ?_
  refine zV_w ?_
  refine zV_putI (zsu_c hS_o) (zlt_b hw_o) zf_X7_1 zkf_X7_63 rfl dX7_putBowl_48 (z32_w _) ?_
  refine zV_aload_n 0 dX7_putBowl_51 rfl rfl ?_
  refine zV_dup dX7_putBowl_52 rfl ?_
  refine zV_getI (zsu_c hS_o) zf_X7_0 zkf_X7_59 rfl dX7_putBowl_53 (fun m5 => ?_)
  refine zV_iconst (v := 1) dX7_putBowl_56 rfl ?_
  refine zV_iadd dX7_putBowl_57 ?_
  refine zV_w ?_
  refine zV_putI (zsu_c hS_o) (zlt_b hw_o) zf_X7_0 zkf_X7_59 rfl dX7_putBowl_58 (z32_w _) ?_
  exact zV_vret dX7_putBowl_61 rfl h
noncomputable def fX7_putBowl_j31 (o : Nat) (x1 s0 s1 : Int) (M : zMem) : Option (zMem) :=
  (zgd ((0 : Int) ≤ s1 ∧ s1 < 12) (if x1 = 3 then fX7_putBowl_j47 o 0 ((zup M (o + 7) s1 s0) o 1) (zup M (o + 7) s1 s0) else fX7_putBowl_j47 o 1 ((zup M (o + 7) s1 s0) o 1) (zup M (o + 7) s1 s0)))
set_option maxRecDepth 100000 in
set_option maxHeartbeats 4000000 in
theorem fX7_putBowl_j31_ok {Z : zZ} (hZ : zB Z) {nn : Nat} (hn : 0 ≤ nn) {o : Nat} (hS_o : zSU Z o) (hw_o : o < 900)  {x1 s0 s1 : Int} (hx1 : z32 x1) (hs0 : z32 s0) (hs1 : z32 s1) {M : zMem} {Q : Option zAV → zMem → zZ → Prop} (h : zSat (fX7_putBowl_j31 o x1 s0 s1 M) (fun r => Q none r Z))  : zV zmX7_putBowl nn 0 0 Z 31 [(0, zR o), (1, zI x1)] [zI s0, zI s1, zR (o + 7)] M Q := by
  unfold fX7_putBowl_j31 at h
  obtain ⟨hg, h⟩ := zs_gd h
  refine zV_iast (zsu_6 hS_o) (zlt_o hw_o (by decide)) hg hs0 dX7_putBowl_31 ?_
  refine zV_aload_n 0 dX7_putBowl_32 rfl rfl ?_
  refine zV_dup dX7_putBowl_33 rfl ?_
  refine zV_getI (zsu_c hS_o) zf_X7_1 zkf_X7_63 rfl dX7_putBowl_34 (fun m4 => ?_)
  refine zV_iload_n 1 dX7_putBowl_37 rfl rfl ?_
  refine zV_iconst (v := 3) dX7_putBowl_38 rfl ?_
  refine zV_icmp_ne 46 dX7_putBowl_39 (by decide) hx1 zi_3 (fun hc_ => ?_) (fun hc_ => ?_)
  · replace h := zs_f h hc_
    refine zV_iconst (v := 1) dX7_putBowl_46 rfl ?_
    refine zV_ls [0] rfl ?_
    exact fX7_putBowl_j47_ok hZ hn hS_o hw_o zi_1 (Or.inr rfl) m4 h
  · replace h := zs_t h hc_
    refine zV_iconst (v := 0) dX7_putBowl_42 rfl ?_
    refine zV_goto 47 dX7_putBowl_43 (by decide) ?_
    refine zV_ls [0] rfl ?_
    exact fX7_putBowl_j47_ok hZ hn hS_o hw_o zi_0 (Or.inl rfl) m4 h
noncomputable def fX7_putBowl (o : Nat) (x1 : Int) (M : zMem) : Option (zMem) :=
  (zgd ((0 : Int) ≤ (M o 0) ∧ (M o 0) < 12) (if x1 = 3 then fX7_putBowl_j31 o x1 (-1) ((zup M (o + 6) (M o 0) x1) o 0) (zup M (o + 6) (M o 0) x1) else fX7_putBowl_j31 o x1 ((zup M (o + 6) (M o 0) x1) o 1) ((zup M (o + 6) (M o 0) x1) o 0) (zup M (o + 6) (M o 0) x1)))
set_option maxRecDepth 100000 in
set_option maxHeartbeats 4000000 in
theorem fX7_putBowl_ok {Z : zZ} (hZ : zB Z) {nn : Nat} (hn : 0 ≤ nn) {o : Nat} (hS_o : zSU Z o) (hw_o : o < 900)  {x1 : Int} (hx1 : z32 x1) {M : zMem} {Q : Option zAV → zMem → zZ → Prop} (h : zSat (fX7_putBowl o x1 M) (fun r => Q none r Z))  : zV zmX7_putBowl nn 0 0 Z 0 [(0, zR o), (1, zI x1)] [] M Q := by
  unfold fX7_putBowl at h
  refine zV_aload_n 0 dX7_putBowl_0 rfl rfl ?_
  refine zV_getR (j := (o + 6)) (zsu_c hS_o) zf_X7_5 zkf_X7_21 rfl dX7_putBowl_1 ?_
  refine zV_aload_n 0 dX7_putBowl_4 rfl rfl ?_
  refine zV_getI (zsu_c hS_o) zf_X7_0 zkf_X7_59 rfl dX7_putBowl_5 (fun m1 => ?_)
  refine zV_iload_n 1 dX7_putBowl_8 rfl rfl ?_
  obtain ⟨hg, h⟩ := zs_gd h
  refine zV_iast (zsu_5 hS_o) (zlt_o hw_o (by decide)) hg hx1 dX7_putBowl_9 ?_
  refine zV_aload_n 0 dX7_putBowl_10 rfl rfl ?_
  refine zV_getR (j := (o + 7)) (zsu_c hS_o) zf_X7_6 zkf_X7_24 rfl dX7_putBowl_11 ?_
  refine zV_aload_n 0 dX7_putBowl_14 rfl rfl ?_
  refine zV_getI (zsu_c hS_o) zf_X7_0 zkf_X7_59 rfl dX7_putBowl_15 (fun m2 => ?_)
  refine zV_iload_n 1 dX7_putBowl_18 rfl rfl ?_
  refine zV_iconst (v := 3) dX7_putBowl_19 rfl ?_
  refine zV_icmp_ne 27 dX7_putBowl_20 (by decide) hx1 zi_3 (fun hc_ => ?_) (fun hc_ => ?_)
  · replace h := zs_f h hc_
    refine zV_aload_n 0 dX7_putBowl_27 rfl rfl ?_
    refine zV_getI (zsu_c hS_o) zf_X7_1 zkf_X7_63 rfl dX7_putBowl_28 (fun m3 => ?_)
    exact fX7_putBowl_j31_ok hZ hn hS_o hw_o hx1 m3 m2 h
  · replace h := zs_t h hc_
    refine zV_iconst (v := (-1)) dX7_putBowl_23 rfl ?_
    refine zV_goto 31 dX7_putBowl_24 (by decide) ?_
    exact fX7_putBowl_j31_ok hZ hn hS_o hw_o hx1 zi_n1 m2 h
noncomputable def fX7_putCode_j30 (o : Nat) (x1 : Int) (M : zMem) : Option (zMem) :=
  (if x1 = (-125) then some (zup M o 14 (zor (M o 14) (zshl 1 (M o 13)))) else some M)
set_option maxRecDepth 100000 in
set_option maxHeartbeats 4000000 in
theorem fX7_putCode_j30_ok {Z : zZ} (hZ : zB Z) {nn : Nat} (hn : 0 ≤ nn) {o : Nat} (hS_o : zSU Z o) (hw_o : o < 900)  {x1 : Int} (hx1 : z32 x1) {M : zMem} {Q : Option zAV → zMem → zZ → Prop} (h : zSat (fX7_putCode_j30 o x1 M) (fun r => Q none r Z))  : zV zmX7_putCode nn 0 0 Z 30 [(0, zR o), (1, zI x1)] [] M Q := by
  unfold fX7_putCode_j30 at h
  refine zV_iload_n 1 dX7_putCode_30 rfl rfl ?_
  refine zV_bipush (v := (-125)) dX7_putCode_31 rfl ?_
  refine zV_icmp_ne 51 dX7_putCode_33 (by decide) hx1 zi_n125 (fun hc_ => ?_) (fun hc_ => ?_)
  · replace h := zs_f h hc_
    exact zV_vret dX7_putCode_51 rfl h
  · replace h := zs_t h hc_
    refine zV_aload_n 0 dX7_putCode_36 rfl rfl ?_
    refine zV_dup dX7_putCode_37 rfl ?_
    refine zV_getI (zsu_c hS_o) zf_X7_14 zkf_X7_72 rfl dX7_putCode_38 (fun m2 => ?_)
    refine zV_iconst (v := 1) dX7_putCode_41 rfl ?_
    refine zV_aload_n 0 dX7_putCode_42 rfl rfl ?_
    refine zV_getI (zsu_c hS_o) zf_X7_13 zkf_X7_69 rfl dX7_putCode_43 (fun m3 => ?_)
    refine zV_ishl dX7_putCode_46 ?_
    refine zV_ior dX7_putCode_47 ?_
    refine zV_putI (zsu_c hS_o) (zlt_b hw_o) zf_X7_14 zkf_X7_72 rfl dX7_putCode_48 (z32_i _) ?_
    exact zV_vret dX7_putCode_51 rfl h
noncomputable def fX7_putCode (o : Nat) (x1 : Int) (M : zMem) : Option (zMem) :=
  (if 1000 ≤ (M o 16) then fX7_putCode_j30 o x1 M else (zgd ((0 : Int) ≤ (M o 16) ∧ (M o 16) < 1000) (fX7_putCode_j30 o x1 (zup (zup M (o + 16) (M o 16) x1) o 16 (zw (((zup M (o + 16) (M o 16) x1) o 16) + 1))))))
set_option maxRecDepth 100000 in
set_option maxHeartbeats 4000000 in
theorem fX7_putCode_ok {Z : zZ} (hZ : zB Z) {nn : Nat} (hn : 0 ≤ nn) {o : Nat} (hS_o : zSU Z o) (hw_o : o < 900)  {x1 : Int} (hx1 : z32 x1) {M : zMem} {Q : Option zAV → zMem → zZ → Prop} (h : zSat (fX7_putCode o x1 M) (fun r => Q none r Z))  : zV zmX7_putCode nn 0 0 Z 0 [(0, zR o), (1, zI x1)] [] M Q := by
  unfold fX7_putCode at h
  refine zV_aload_n 0 dX7_putCode_0 rfl rfl ?_
  refine zV_getI (zsu_c hS_o) zf_X7_16 zkf_X7_75 rfl dX7_putCode_1 (fun m1 => ?_)
  refine zV_sipush (v := 1000) dX7_putCode_4 rfl ?_
  refine zV_icmp_ge 30 dX7_putCode_7 (by decide) m1 zi_1000 (fun hc_ => ?_) (fun hc_ => ?_)
  · replace h := zs_t h hc_
    exact fX7_putCode_j30_ok hZ hn hS_o hw_o hx1 h
  · replace h := zs_f h hc_
    refine zV_aload_n 0 dX7_putCode_10 rfl rfl ?_
    refine zV_getR (j := (o + 16)) (zsu_c hS_o) zf_X7_15 zkf_X7_42 rfl dX7_putCode_11 ?_
    refine zV_aload_n 0 dX7_putCode_14 rfl rfl ?_
    refine zV_getI (zsu_c hS_o) zf_X7_16 zkf_X7_75 rfl dX7_putCode_15 (fun m4 => ?_)
    refine zV_iload_n 1 dX7_putCode_18 rfl rfl ?_
    obtain ⟨hg, h⟩ := zs_gd h
    refine zV_iast (zsu_15 hS_o) (zlt_o hw_o (by decide)) hg hx1 dX7_putCode_19 ?_
    refine zV_aload_n 0 dX7_putCode_20 rfl rfl ?_
    refine zV_dup dX7_putCode_21 rfl ?_
    refine zV_getI (zsu_c hS_o) zf_X7_16 zkf_X7_75 rfl dX7_putCode_22 (fun m5 => ?_)
    refine zV_iconst (v := 1) dX7_putCode_25 rfl ?_
    refine zV_iadd dX7_putCode_26 ?_
    refine zV_w ?_
    refine zV_putI (zsu_c hS_o) (zlt_b hw_o) zf_X7_16 zkf_X7_75 rfl dX7_putCode_27 (z32_w _) ?_
    exact fX7_putCode_j30_ok hZ hn hS_o hw_o hx1 h
noncomputable def fX7_endSpeak (o : Nat) (M : zMem) : Option (zMem) :=
  (if 4 ≤ (M o 13) then some M else (zgd ((0 : Int) ≤ (M o 13) ∧ (M o 13) < 4) (some (zup (zup M (o + 18) (M o 13) (M o 16)) o 13 (zw (((zup M (o + 18) (M o 13) (M o 16)) o 13) + 1))))))
set_option maxRecDepth 100000 in
set_option maxHeartbeats 4000000 in
theorem fX7_endSpeak_ok {Z : zZ} (hZ : zB Z) {nn : Nat} (hn : 0 ≤ nn) {o : Nat} (hS_o : zSU Z o) (hw_o : o < 900)   {M : zMem} {Q : Option zAV → zMem → zZ → Prop} (h : zSat (fX7_endSpeak o M) (fun r => Q none r Z))  : zV zmX7_endSpeak nn 0 0 Z 0 [(0, zR o)] [] M Q := by
  unfold fX7_endSpeak at h
  refine zV_aload_n 0 dX7_endSpeak_0 rfl rfl ?_
  refine zV_getI (zsu_c hS_o) zf_X7_13 zkf_X7_69 rfl dX7_endSpeak_1 (fun m1 => ?_)
  refine zV_iconst (v := 4) dX7_endSpeak_4 rfl ?_
  refine zV_icmp_ge 31 dX7_endSpeak_5 (by decide) m1 zi_4 (fun hc_ => ?_) (fun hc_ => ?_)
  · replace h := zs_t h hc_
    exact zV_vret dX7_endSpeak_31 rfl h
  · replace h := zs_f h hc_
    refine zV_aload_n 0 dX7_endSpeak_8 rfl rfl ?_
    refine zV_getR (j := (o + 18)) (zsu_c hS_o) zf_X7_17 zkf_X7_45 rfl dX7_endSpeak_9 ?_
    refine zV_aload_n 0 dX7_endSpeak_12 rfl rfl ?_
    refine zV_getI (zsu_c hS_o) zf_X7_13 zkf_X7_69 rfl dX7_endSpeak_13 (fun m2 => ?_)
    refine zV_aload_n 0 dX7_endSpeak_16 rfl rfl ?_
    refine zV_getI (zsu_c hS_o) zf_X7_16 zkf_X7_75 rfl dX7_endSpeak_17 (fun m3 => ?_)
    obtain ⟨hg, h⟩ := zs_gd h
    refine zV_iast (zsu_17 hS_o) (zlt_o hw_o (by decide)) hg m3 dX7_endSpeak_20 ?_
    refine zV_aload_n 0 dX7_endSpeak_21 rfl rfl ?_
    refine zV_dup dX7_endSpeak_22 rfl ?_
    refine zV_getI (zsu_c hS_o) zf_X7_13 zkf_X7_69 rfl dX7_endSpeak_23 (fun m4 => ?_)
    refine zV_iconst (v := 1) dX7_endSpeak_26 rfl ?_
    refine zV_iadd dX7_endSpeak_27 ?_
    refine zV_w ?_
    refine zV_putI (zsu_c hS_o) (zlt_b hw_o) zf_X7_13 zkf_X7_69 rfl dX7_endSpeak_28 (z32_w _) ?_
    exact zV_vret dX7_endSpeak_31 rfl h
noncomputable def fX7_copy (o o1 : Nat) (M : zMem) : Option (zMem) :=
  (zgd (((0 : Int) ≤ (0 : Int) ∧ (0 : Int) + 12 ≤ 12) ∧ ((0 : Int) ≤ (0 : Int) ∧ (0 : Int) + 12 ≤ 12) ∧ (0 : Int) ≤ (12 : Int)) (zgd (((0 : Int) ≤ (0 : Int) ∧ (0 : Int) + 12 ≤ 12) ∧ ((0 : Int) ≤ (0 : Int) ∧ (0 : Int) + 12 ≤ 12) ∧ (0 : Int) ≤ (12 : Int)) (zgd (((0 : Int) ≤ (0 : Int) ∧ (0 : Int) + 12 ≤ 12) ∧ ((0 : Int) ≤ (0 : Int) ∧ (0 : Int) + 12 ≤ 12) ∧ (0 : Int) ≤ (12 : Int)) (zgd (((0 : Int) ≤ (0 : Int) ∧ (0 : Int) + 12 ≤ 12) ∧ ((0 : Int) ≤ (0 : Int) ∧ (0 : Int) + 12 ≤ 12) ∧ (0 : Int) ≤ (12 : Int)) (zgd (((0 : Int) ≤ (0 : Int) ∧ (0 : Int) + 12 ≤ 12) ∧ ((0 : Int) ≤ (0 : Int) ∧ (0 : Int) + 12 ≤ 12) ∧ (0 : Int) ≤ (12 : Int)) (zgd (((0 : Int) ≤ (0 : Int) ∧ (0 : Int) + 8 ≤ 8) ∧ ((0 : Int) ≤ (0 : Int) ∧ (0 : Int) + 8 ≤ 8) ∧ (0 : Int) ≤ (8 : Int)) (zgd (((0 : Int) ≤ (0 : Int) ∧ (0 : Int) + 8 ≤ 8) ∧ ((0 : Int) ≤ (0 : Int) ∧ (0 : Int) + 8 ≤ 8) ∧ (0 : Int) ≤ (8 : Int)) (zgd (((0 : Int) ≤ (0 : Int) ∧ (0 : Int) + 8 ≤ 8) ∧ ((0 : Int) ≤ (0 : Int) ∧ (0 : Int) + 8 ≤ 8) ∧ (0 : Int) ≤ (8 : Int)) (zgd (((0 : Int) ≤ (0 : Int) ∧ (0 : Int) + 8 ≤ 8) ∧ ((0 : Int) ≤ (0 : Int) ∧ (0 : Int) + 8 ≤ 8) ∧ (0 : Int) ≤ (8 : Int)) (zgd (((0 : Int) ≤ (0 : Int) ∧ (0 : Int) + 8 ≤ 8) ∧ ((0 : Int) ≤ (0 : Int) ∧ (0 : Int) + 8 ≤ 8) ∧ (0 : Int) ≤ (8 : Int)) (zgd (((0 : Int) ≤ (0 : Int) ∧ (0 : Int) + 1000 ≤ 1000) ∧ ((0 : Int) ≤ (0 : Int) ∧ (0 : Int) + 1000 ≤ 1000) ∧ (0 : Int) ≤ (1000 : Int)) (zgd (((0 : Int) ≤ (0 : Int) ∧ (0 : Int) + 4 ≤ 4) ∧ ((0 : Int) ≤ (0 : Int) ∧ (0 : Int) + 4 ≤ 4) ∧ (0 : Int) ≤ (4 : Int)) (zgd (((0 : Int) ≤ (0 : Int) ∧ (0 : Int) + 11 ≤ 11) ∧ ((0 : Int) ≤ (0 : Int) ∧ (0 : Int) + 11 ≤ 11) ∧ (0 : Int) ≤ (11 : Int)) (some (zcpy (zcpy (zcpy (zup (zup (zup (zcpy (zcpy (zcpy (zcpy (zcpy (zup (zcpy (zcpy (zcpy (zcpy (zcpy (zup (zup M o 0 (M o1 0)) o 1 ((zup M o 0 (M o1 0)) o1 1)) (o1 + 3) 0 (o + 3) 0 12) (o1 + 4) 0 (o + 4) 0 12) (o1 + 5) 0 (o + 5) 0 12) (o1 + 6) 0 (o + 6) 0 12) (o1 + 7) 0 (o + 7) 0 12) o 7 ((zcpy (zcpy (zcpy (zcpy (zcpy (zup (zup M o 0 (M o1 0)) o 1 ((zup M o 0 (M o1 0)) o1 1)) (o1 + 3) 0 (o + 3) 0 12) (o1 + 4) 0 (o + 4) 0 12) (o1 + 5) 0 (o + 5) 0 12) (o1 + 6) 0 (o + 6) 0 12) (o1 + 7) 0 (o + 7) 0 12) o1 7)) (o1 + 9) 0 (o + 9) 0 8) (o1 + 10) 0 (o + 10) 0 8) (o1 + 11) 0 (o + 11) 0 8) (o1 + 12) 0 (o + 12) 0 8) (o1 + 13) 0 (o + 13) 0 8) o 13 ((zcpy (zcpy (zcpy (zcpy (zcpy (zup (zcpy (zcpy (zcpy (zcpy (zcpy (zup (zup M o 0 (M o1 0)) o 1 ((zup M o 0 (M o1 0)) o1 1)) (o1 + 3) 0 (o + 3) 0 12) (o1 + 4) 0 (o + 4) 0 12) (o1 + 5) 0 (o + 5) 0 12) (o1 + 6) 0 (o + 6) 0 12) (o1 + 7) 0 (o + 7) 0 12) o 7 ((zcpy (zcpy (zcpy (zcpy (zcpy (zup (zup M o 0 (M o1 0)) o 1 ((zup M o 0 (M o1 0)) o1 1)) (o1 + 3) 0 (o + 3) 0 12) (o1 + 4) 0 (o + 4) 0 12) (o1 + 5) 0 (o + 5) 0 12) (o1 + 6) 0 (o + 6) 0 12) (o1 + 7) 0 (o + 7) 0 12) o1 7)) (o1 + 9) 0 (o + 9) 0 8) (o1 + 10) 0 (o + 10) 0 8) (o1 + 11) 0 (o + 11) 0 8) (o1 + 12) 0 (o + 12) 0 8) (o1 + 13) 0 (o + 13) 0 8) o1 13)) o 14 ((zup (zcpy (zcpy (zcpy (zcpy (zcpy (zup (zcpy (zcpy (zcpy (zcpy (zcpy (zup (zup M o 0 (M o1 0)) o 1 ((zup M o 0 (M o1 0)) o1 1)) (o1 + 3) 0 (o + 3) 0 12) (o1 + 4) 0 (o + 4) 0 12) (o1 + 5) 0 (o + 5) 0 12) (o1 + 6) 0 (o + 6) 0 12) (o1 + 7) 0 (o + 7) 0 12) o 7 ((zcpy (zcpy (zcpy (zcpy (zcpy (zup (zup M o 0 (M o1 0)) o 1 ((zup M o 0 (M o1 0)) o1 1)) (o1 + 3) 0 (o + 3) 0 12) (o1 + 4) 0 (o + 4) 0 12) (o1 + 5) 0 (o + 5) 0 12) (o1 + 6) 0 (o + 6) 0 12) (o1 + 7) 0 (o + 7) 0 12) o1 7)) (o1 + 9) 0 (o + 9) 0 8) (o1 + 10) 0 (o + 10) 0 8) (o1 + 11) 0 (o + 11) 0 8) (o1 + 12) 0 (o + 12) 0 8) (o1 + 13) 0 (o + 13) 0 8) o 13 ((zcpy (zcpy (zcpy (zcpy (zcpy (zup (zcpy (zcpy (zcpy (zcpy (zcpy (zup (zup M o 0 (M o1 0)) o 1 ((zup M o 0 (M o1 0)) o1 1)) (o1 + 3) 0 (o + 3) 0 12) (o1 + 4) 0 (o + 4) 0 12) (o1 + 5) 0 (o + 5) 0 12) (o1 + 6) 0 (o + 6) 0 12) (o1 + 7) 0 (o + 7) 0 12) o 7 ((zcpy (zcpy (zcpy (zcpy (zcpy (zup (zup M o 0 (M o1 0)) o 1 ((zup M o 0 (M o1 0)) o1 1)) (o1 + 3) 0 (o + 3) 0 12) (o1 + 4) 0 (o + 4) 0 12) (o1 + 5) 0 (o + 5) 0 12) (o1 + 6) 0 (o + 6) 0 12) (o1 + 7) 0 (o + 7) 0 12) o1 7)) (o1 + 9) 0 (o + 9) 0 8) (o1 + 10) 0 (o + 10) 0 8) (o1 + 11) 0 (o + 11) 0 8) (o1 + 12) 0 (o + 12) 0 8) (o1 + 13) 0 (o + 13) 0 8) o1 13)) o1 14)) o 16 ((zup (zup (zcpy (zcpy (zcpy (zcpy (zcpy (zup (zcpy (zcpy (zcpy (zcpy (zcpy (zup (zup M o 0 (M o1 0)) o 1 ((zup M o 0 (M o1 0)) o1 1)) (o1 + 3) 0 (o + 3) 0 12) (o1 + 4) 0 (o + 4) 0 12) (o1 + 5) 0 (o + 5) 0 12) (o1 + 6) 0 (o + 6) 0 12) (o1 + 7) 0 (o + 7) 0 12) o 7 ((zcpy (zcpy (zcpy (zcpy (zcpy (zup (zup M o 0 (M o1 0)) o 1 ((zup M o 0 (M o1 0)) o1 1)) (o1 + 3) 0 (o + 3) 0 12) (o1 + 4) 0 (o + 4) 0 12) (o1 + 5) 0 (o + 5) 0 12) (o1 + 6) 0 (o + 6) 0 12) (o1 + 7) 0 (o + 7) 0 12) o1 7)) (o1 + 9) 0 (o + 9) 0 8) (o1 + 10) 0 (o + 10) 0 8) (o1 + 11) 0 (o + 11) 0 8) (o1 + 12) 0 (o + 12) 0 8) (o1 + 13) 0 (o + 13) 0 8) o 13 ((zcpy (zcpy (zcpy (zcpy (zcpy (zup (zcpy (zcpy (zcpy (zcpy (zcpy (zup (zup M o 0 (M o1 0)) o 1 ((zup M o 0 (M o1 0)) o1 1)) (o1 + 3) 0 (o + 3) 0 12) (o1 + 4) 0 (o + 4) 0 12) (o1 + 5) 0 (o + 5) 0 12) (o1 + 6) 0 (o + 6) 0 12) (o1 + 7) 0 (o + 7) 0 12) o 7 ((zcpy (zcpy (zcpy (zcpy (zcpy (zup (zup M o 0 (M o1 0)) o 1 ((zup M o 0 (M o1 0)) o1 1)) (o1 + 3) 0 (o + 3) 0 12) (o1 + 4) 0 (o + 4) 0 12) (o1 + 5) 0 (o + 5) 0 12) (o1 + 6) 0 (o + 6) 0 12) (o1 + 7) 0 (o + 7) 0 12) o1 7)) (o1 + 9) 0 (o + 9) 0 8) (o1 + 10) 0 (o + 10) 0 8) (o1 + 11) 0 (o + 11) 0 8) (o1 + 12) 0 (o + 12) 0 8) (o1 + 13) 0 (o + 13) 0 8) o1 13)) o 14 ((zup (zcpy (zcpy (zcpy (zcpy (zcpy (zup (zcpy (zcpy (zcpy (zcpy (zcpy (zup (zup M o 0 (M o1 0)) o 1 ((zup M o 0 (M o1 0)) o1 1)) (o1 + 3) 0 (o + 3) 0 12) (o1 + 4) 0 (o + 4) 0 12) (o1 + 5) 0 (o + 5) 0 12) (o1 + 6) 0 (o + 6) 0 12) (o1 + 7) 0 (o + 7) 0 12) o 7 ((zcpy (zcpy (zcpy (zcpy (zcpy (zup (zup M o 0 (M o1 0)) o 1 ((zup M o 0 (M o1 0)) o1 1)) (o1 + 3) 0 (o + 3) 0 12) (o1 + 4) 0 (o + 4) 0 12) (o1 + 5) 0 (o + 5) 0 12) (o1 + 6) 0 (o + 6) 0 12) (o1 + 7) 0 (o + 7) 0 12) o1 7)) (o1 + 9) 0 (o + 9) 0 8) (o1 + 10) 0 (o + 10) 0 8) (o1 + 11) 0 (o + 11) 0 8) (o1 + 12) 0 (o + 12) 0 8) (o1 + 13) 0 (o + 13) 0 8) o 13 ((zcpy (zcpy (zcpy (zcpy (zcpy (zup (zcpy (zcpy (zcpy (zcpy (zcpy (zup (zup M o 0 (M o1 0)) o 1 ((zup M o 0 (M o1 0)) o1 1)) (o1 + 3) 0 (o + 3) 0 12) (o1 + 4) 0 (o + 4) 0 12) (o1 + 5) 0 (o + 5) 0 12) (o1 + 6) 0 (o + 6) 0 12) (o1 + 7) 0 (o + 7) 0 12) o 7 ((zcpy (zcpy (zcpy (zcpy (zcpy (zup (zup M o 0 (M o1 0)) o 1 ((zup M o 0 (M o1 0)) o1 1)) (o1 + 3) 0 (o + 3) 0 12) (o1 + 4) 0 (o + 4) 0 12) (o1 + 5) 0 (o + 5) 0 12) (o1 + 6) 0 (o + 6) 0 12) (o1 + 7) 0 (o + 7) 0 12) o1 7)) (o1 + 9) 0 (o + 9) 0 8) (o1 + 10) 0 (o + 10) 0 8) (o1 + 11) 0 (o + 11) 0 8) (o1 + 12) 0 (o + 12) 0 8) (o1 + 13) 0 (o + 13) 0 8) o1 13)) o1 14)) o1 16)) (o1 + 16) 0 (o + 16) 0 1000) (o1 + 18) 0 (o + 18) 0 4) (o1 + 19) 0 (o + 19) 0 11)))))))))))))))
set_option maxRecDepth 100000 in
set_option maxHeartbeats 4000000 in
theorem fX7_copy_ok {Z : zZ} (hZ : zB Z) {nn : Nat} (hn : 1 ≤ nn) {o o1 : Nat} (hS_o : zSU Z o) (hw_o : o < 900) (hS_o1 : zSU Z o1) (hw_o1 : o1 < 900)   {M : zMem} {Q : Option zAV → zMem → zZ → Prop} (h : zSat (fX7_copy o o1 M) (fun r => Q none r Z))  : zV zmX7_copy nn 0 0 Z 0 [(0, zR o), (1, zR o1)] [] M Q := by
  unfold fX7_copy at h
  refine zV_aload_n 0 dX7_copy_0 rfl rfl ?_
  refine zV_aload_n 1 dX7_copy_1 rfl rfl ?_
  refine zV_getI (zsu_c hS_o1) zf_X7_0 zkf_X7_59 rfl dX7_copy_2 (fun m1 => ?_)
  refine zV_putI (zsu_c hS_o) (zlt_b hw_o) zf_X7_0 zkf_X7_59 rfl dX7_copy_5 m1 ?_
  refine zV_aload_n 0 dX7_copy_8 rfl rfl ?_
  refine zV_aload_n 1 dX7_copy_9 rfl rfl ?_
  refine zV_getI (zsu_c hS_o1) zf_X7_1 zkf_X7_63 rfl dX7_copy_10 (fun m2 => ?_)
  refine zV_putI (zsu_c hS_o) (zlt_b hw_o) zf_X7_1 zkf_X7_63 rfl dX7_copy_13 m2 ?_
  refine zV_aload_n 1 dX7_copy_16 rfl rfl ?_
  refine zV_getR (j := (o1 + 3)) (zsu_c hS_o1) zf_X7_2 zkf_X7_9 rfl dX7_copy_17 ?_
  refine zV_iconst (v := 0) dX7_copy_20 rfl ?_
  refine zV_aload_n 0 dX7_copy_21 rfl rfl ?_
  refine zV_getR (j := (o + 3)) (zsu_c hS_o) zf_X7_2 zkf_X7_9 rfl dX7_copy_22 ?_
  refine zV_iconst (v := 0) dX7_copy_25 rfl ?_
  refine zV_bipush (v := 12) dX7_copy_26 rfl ?_
  obtain ⟨hg, h⟩ := zs_gd h
  refine zV_acopy zac_X7_78 (zsu_2 hS_o1) (zsu_2 hS_o) (zlt_o hw_o (by decide)) hg dX7_copy_28 (Nat.le_trans (by decide) hn) (Nat.le_of_ble_eq_true rfl) ?_
  refine zV_aload_n 1 dX7_copy_31 rfl rfl ?_
  refine zV_getR (j := (o1 + 4)) (zsu_c hS_o1) zf_X7_3 zkf_X7_15 rfl dX7_copy_32 ?_
  refine zV_iconst (v := 0) dX7_copy_35 rfl ?_
  refine zV_aload_n 0 dX7_copy_36 rfl rfl ?_
  refine zV_getR (j := (o + 4)) (zsu_c hS_o) zf_X7_3 zkf_X7_15 rfl dX7_copy_37 ?_
  refine zV_iconst (v := 0) dX7_copy_40 rfl ?_
  refine zV_bipush (v := 12) dX7_copy_41 rfl ?_
  obtain ⟨hg, h⟩ := zs_gd h
  refine zV_acopy zac_X7_78 (zsu_3 hS_o1) (zsu_3 hS_o) (zlt_o hw_o (by decide)) hg dX7_copy_43 (Nat.le_trans (by decide) hn) (Nat.le_of_ble_eq_true rfl) ?_
  refine zV_aload_n 1 dX7_copy_46 rfl rfl ?_
  refine zV_getR (j := (o1 + 5)) (zsu_c hS_o1) zf_X7_4 zkf_X7_18 rfl dX7_copy_47 ?_
  refine zV_iconst (v := 0) dX7_copy_50 rfl ?_
  refine zV_aload_n 0 dX7_copy_51 rfl rfl ?_
  refine zV_getR (j := (o + 5)) (zsu_c hS_o) zf_X7_4 zkf_X7_18 rfl dX7_copy_52 ?_
  refine zV_iconst (v := 0) dX7_copy_55 rfl ?_
  refine zV_bipush (v := 12) dX7_copy_56 rfl ?_
  obtain ⟨hg, h⟩ := zs_gd h
  refine zV_acopy zac_X7_78 (zsu_4 hS_o1) (zsu_4 hS_o) (zlt_o hw_o (by decide)) hg dX7_copy_58 (Nat.le_trans (by decide) hn) (Nat.le_of_ble_eq_true rfl) ?_
  refine zV_aload_n 1 dX7_copy_61 rfl rfl ?_
  refine zV_getR (j := (o1 + 6)) (zsu_c hS_o1) zf_X7_5 zkf_X7_21 rfl dX7_copy_62 ?_
  refine zV_iconst (v := 0) dX7_copy_65 rfl ?_
  refine zV_aload_n 0 dX7_copy_66 rfl rfl ?_
  refine zV_getR (j := (o + 6)) (zsu_c hS_o) zf_X7_5 zkf_X7_21 rfl dX7_copy_67 ?_
  refine zV_iconst (v := 0) dX7_copy_70 rfl ?_
  refine zV_bipush (v := 12) dX7_copy_71 rfl ?_
  obtain ⟨hg, h⟩ := zs_gd h
  refine zV_acopy zac_X7_78 (zsu_5 hS_o1) (zsu_5 hS_o) (zlt_o hw_o (by decide)) hg dX7_copy_73 (Nat.le_trans (by decide) hn) (Nat.le_of_ble_eq_true rfl) ?_
  refine zV_aload_n 1 dX7_copy_76 rfl rfl ?_
  refine zV_getR (j := (o1 + 7)) (zsu_c hS_o1) zf_X7_6 zkf_X7_24 rfl dX7_copy_77 ?_
  refine zV_iconst (v := 0) dX7_copy_80 rfl ?_
  refine zV_aload_n 0 dX7_copy_81 rfl rfl ?_
  refine zV_getR (j := (o + 7)) (zsu_c hS_o) zf_X7_6 zkf_X7_24 rfl dX7_copy_82 ?_
  refine zV_iconst (v := 0) dX7_copy_85 rfl ?_
  refine zV_bipush (v := 12) dX7_copy_86 rfl ?_
  obtain ⟨hg, h⟩ := zs_gd h
  refine zV_acopy zac_X7_78 (zsu_6 hS_o1) (zsu_6 hS_o) (zlt_o hw_o (by decide)) hg dX7_copy_88 (Nat.le_trans (by decide) hn) (Nat.le_of_ble_eq_true rfl) ?_
  refine zV_aload_n 0 dX7_copy_91 rfl rfl ?_
  refine zV_aload_n 1 dX7_copy_92 rfl rfl ?_
  refine zV_getI (zsu_c hS_o1) zf_X7_7 zkf_X7_66 rfl dX7_copy_93 (fun m3 => ?_)
  refine zV_putI (zsu_c hS_o) (zlt_b hw_o) zf_X7_7 zkf_X7_66 rfl dX7_copy_96 m3 ?_
  refine zV_aload_n 1 dX7_copy_99 rfl rfl ?_
  refine zV_getR (j := (o1 + 9)) (zsu_c hS_o1) zf_X7_8 zkf_X7_27 rfl dX7_copy_100 ?_
  refine zV_iconst (v := 0) dX7_copy_103 rfl ?_
  refine zV_aload_n 0 dX7_copy_104 rfl rfl ?_
  refine zV_getR (j := (o + 9)) (zsu_c hS_o) zf_X7_8 zkf_X7_27 rfl dX7_copy_105 ?_
  refine zV_iconst (v := 0) dX7_copy_108 rfl ?_
  refine zV_bipush (v := 8) dX7_copy_109 rfl ?_
  obtain ⟨hg, h⟩ := zs_gd h
  refine zV_acopy zac_X7_78 (zsu_8 hS_o1) (zsu_8 hS_o) (zlt_o hw_o (by decide)) hg dX7_copy_111 (Nat.le_trans (by decide) hn) (Nat.le_of_ble_eq_true rfl) ?_
  refine zV_aload_n 1 dX7_copy_114 rfl rfl ?_
  refine zV_getR (j := (o1 + 10)) (zsu_c hS_o1) zf_X7_9 zkf_X7_30 rfl dX7_copy_115 ?_
  refine zV_iconst (v := 0) dX7_copy_118 rfl ?_
  refine zV_aload_n 0 dX7_copy_119 rfl rfl ?_
  refine zV_getR (j := (o + 10)) (zsu_c hS_o) zf_X7_9 zkf_X7_30 rfl dX7_copy_120 ?_
  refine zV_iconst (v := 0) dX7_copy_123 rfl ?_
  refine zV_bipush (v := 8) dX7_copy_124 rfl ?_
  obtain ⟨hg, h⟩ := zs_gd h
  refine zV_acopy zac_X7_78 (zsu_9 hS_o1) (zsu_9 hS_o) (zlt_o hw_o (by decide)) hg dX7_copy_126 (Nat.le_trans (by decide) hn) (Nat.le_of_ble_eq_true rfl) ?_
  refine zV_aload_n 1 dX7_copy_129 rfl rfl ?_
  refine zV_getR (j := (o1 + 11)) (zsu_c hS_o1) zf_X7_10 zkf_X7_33 rfl dX7_copy_130 ?_
  refine zV_iconst (v := 0) dX7_copy_133 rfl ?_
  refine zV_aload_n 0 dX7_copy_134 rfl rfl ?_
  refine zV_getR (j := (o + 11)) (zsu_c hS_o) zf_X7_10 zkf_X7_33 rfl dX7_copy_135 ?_
  refine zV_iconst (v := 0) dX7_copy_138 rfl ?_
  refine zV_bipush (v := 8) dX7_copy_139 rfl ?_
  obtain ⟨hg, h⟩ := zs_gd h
  refine zV_acopy zac_X7_78 (zsu_10 hS_o1) (zsu_10 hS_o) (zlt_o hw_o (by decide)) hg dX7_copy_141 (Nat.le_trans (by decide) hn) (Nat.le_of_ble_eq_true rfl) ?_
  refine zV_aload_n 1 dX7_copy_144 rfl rfl ?_
  refine zV_getR (j := (o1 + 12)) (zsu_c hS_o1) zf_X7_11 zkf_X7_36 rfl dX7_copy_145 ?_
  refine zV_iconst (v := 0) dX7_copy_148 rfl ?_
  refine zV_aload_n 0 dX7_copy_149 rfl rfl ?_
  refine zV_getR (j := (o + 12)) (zsu_c hS_o) zf_X7_11 zkf_X7_36 rfl dX7_copy_150 ?_
  refine zV_iconst (v := 0) dX7_copy_153 rfl ?_
  refine zV_bipush (v := 8) dX7_copy_154 rfl ?_
  obtain ⟨hg, h⟩ := zs_gd h
  refine zV_acopy zac_X7_78 (zsu_11 hS_o1) (zsu_11 hS_o) (zlt_o hw_o (by decide)) hg dX7_copy_156 (Nat.le_trans (by decide) hn) (Nat.le_of_ble_eq_true rfl) ?_
  refine zV_aload_n 1 dX7_copy_159 rfl rfl ?_
  refine zV_getR (j := (o1 + 13)) (zsu_c hS_o1) zf_X7_12 zkf_X7_39 rfl dX7_copy_160 ?_
  refine zV_iconst (v := 0) dX7_copy_163 rfl ?_
  refine zV_aload_n 0 dX7_copy_164 rfl rfl ?_
  refine zV_getR (j := (o + 13)) (zsu_c hS_o) zf_X7_12 zkf_X7_39 rfl dX7_copy_165 ?_
  refine zV_iconst (v := 0) dX7_copy_168 rfl ?_
  refine zV_bipush (v := 8) dX7_copy_169 rfl ?_
  obtain ⟨hg, h⟩ := zs_gd h
  refine zV_acopy zac_X7_78 (zsu_12 hS_o1) (zsu_12 hS_o) (zlt_o hw_o (by decide)) hg dX7_copy_171 (Nat.le_trans (by decide) hn) (Nat.le_of_ble_eq_true rfl) ?_
  refine zV_aload_n 0 dX7_copy_174 rfl rfl ?_
  refine zV_aload_n 1 dX7_copy_175 rfl rfl ?_
  refine zV_getI (zsu_c hS_o1) zf_X7_13 zkf_X7_69 rfl dX7_copy_176 (fun m4 => ?_)
  refine zV_putI (zsu_c hS_o) (zlt_b hw_o) zf_X7_13 zkf_X7_69 rfl dX7_copy_179 m4 ?_
  refine zV_aload_n 0 dX7_copy_182 rfl rfl ?_
  refine zV_aload_n 1 dX7_copy_183 rfl rfl ?_
  refine zV_getI (zsu_c hS_o1) zf_X7_14 zkf_X7_72 rfl dX7_copy_184 (fun m5 => ?_)
  refine zV_putI (zsu_c hS_o) (zlt_b hw_o) zf_X7_14 zkf_X7_72 rfl dX7_copy_187 m5 ?_
  refine zV_aload_n 0 dX7_copy_190 rfl rfl ?_
  refine zV_aload_n 1 dX7_copy_191 rfl rfl ?_
  refine zV_getI (zsu_c hS_o1) zf_X7_16 zkf_X7_75 rfl dX7_copy_192 (fun m6 => ?_)
  refine zV_putI (zsu_c hS_o) (zlt_b hw_o) zf_X7_16 zkf_X7_75 rfl dX7_copy_195 m6 ?_
  refine zV_aload_n 1 dX7_copy_198 rfl rfl ?_
  refine zV_getR (j := (o1 + 16)) (zsu_c hS_o1) zf_X7_15 zkf_X7_42 rfl dX7_copy_199 ?_
  refine zV_iconst (v := 0) dX7_copy_202 rfl ?_
  refine zV_aload_n 0 dX7_copy_203 rfl rfl ?_
  refine zV_getR (j := (o + 16)) (zsu_c hS_o) zf_X7_15 zkf_X7_42 rfl dX7_copy_204 ?_
  refine zV_iconst (v := 0) dX7_copy_207 rfl ?_
  refine zV_sipush (v := 1000) dX7_copy_208 rfl ?_
  obtain ⟨hg, h⟩ := zs_gd h
  refine zV_acopy zac_X7_78 (zsu_15 hS_o1) (zsu_15 hS_o) (zlt_o hw_o (by decide)) hg dX7_copy_211 (Nat.le_trans (by decide) hn) (Nat.le_of_ble_eq_true rfl) ?_
  refine zV_aload_n 1 dX7_copy_214 rfl rfl ?_
  refine zV_getR (j := (o1 + 18)) (zsu_c hS_o1) zf_X7_17 zkf_X7_45 rfl dX7_copy_215 ?_
  refine zV_iconst (v := 0) dX7_copy_218 rfl ?_
  refine zV_aload_n 0 dX7_copy_219 rfl rfl ?_
  refine zV_getR (j := (o + 18)) (zsu_c hS_o) zf_X7_17 zkf_X7_45 rfl dX7_copy_220 ?_
  refine zV_iconst (v := 0) dX7_copy_223 rfl ?_
  refine zV_iconst (v := 4) dX7_copy_224 rfl ?_
  obtain ⟨hg, h⟩ := zs_gd h
  refine zV_acopy zac_X7_78 (zsu_17 hS_o1) (zsu_17 hS_o) (zlt_o hw_o (by decide)) hg dX7_copy_225 (Nat.le_trans (by decide) hn) (Nat.le_of_ble_eq_true rfl) ?_
  refine zV_aload_n 1 dX7_copy_228 rfl rfl ?_
  refine zV_getR (j := (o1 + 19)) (zsu_c hS_o1) zf_X7_18 zkf_X7_56 rfl dX7_copy_229 ?_
  refine zV_iconst (v := 0) dX7_copy_232 rfl ?_
  refine zV_aload_n 0 dX7_copy_233 rfl rfl ?_
  refine zV_getR (j := (o + 19)) (zsu_c hS_o) zf_X7_18 zkf_X7_56 rfl dX7_copy_234 ?_
  refine zV_iconst (v := 0) dX7_copy_237 rfl ?_
  refine zV_bipush (v := 11) dX7_copy_238 rfl ?_
  obtain ⟨hg, h⟩ := zs_gd h
  refine zV_acopy zac_X7_78 (zsu_18 hS_o1) (zsu_18 hS_o) (zlt_o hw_o (by decide)) hg dX7_copy_240 (Nat.le_trans (by decide) hn) (Nat.le_of_ble_eq_true rfl) ?_
  exact zV_vret dX7_copy_243 rfl h
noncomputable def fX7_hasBowl (o : Nat) (x1 : Int) (M : zMem) : Option (Int) :=
  (if x1 < 0 then some 0 else (if (M o 0) ≤ x1 then some 0 else some 1))
set_option maxRecDepth 100000 in
set_option maxHeartbeats 4000000 in
theorem fX7_hasBowl_ok {Z : zZ} (hZ : zB Z) {nn : Nat} (hn : 0 ≤ nn) {o : Nat} (hS_o : zSU Z o) (hw_o : o < 900)  {x1 : Int} (hx1 : z32 x1) {M : zMem} {Q : Option zAV → zMem → zZ → Prop} (h : zSat (fX7_hasBowl o x1 M) (fun r => Q (some (zI r)) M Z))  : zV zmX7_hasBowl nn 0 0 Z 0 [(0, zR o), (1, zI x1)] [] M Q := by
  unfold fX7_hasBowl at h
  refine zV_iload_n 1 dX7_hasBowl_0 rfl rfl ?_
  refine zV_if_lt 16 dX7_hasBowl_1 (by decide) hx1 (fun hc_ => ?_) (fun hc_ => ?_)
  · replace h := zs_t h hc_
    refine zV_iconst (v := 0) dX7_hasBowl_16 rfl ?_
    exact zV_iretb dX7_hasBowl_17 rfl (Or.inl rfl) h
  · replace h := zs_f h hc_
    refine zV_iload_n 1 dX7_hasBowl_4 rfl rfl ?_
    refine zV_aload_n 0 dX7_hasBowl_5 rfl rfl ?_
    refine zV_getI (zsu_c hS_o) zf_X7_0 zkf_X7_59 rfl dX7_hasBowl_6 (fun m1 => ?_)
    refine zV_icmp_ge 16 dX7_hasBowl_9 (by decide) hx1 m1 (fun hc_ => ?_) (fun hc_ => ?_)
    · replace h := zs_t h hc_
      refine zV_iconst (v := 0) dX7_hasBowl_16 rfl ?_
      exact zV_iretb dX7_hasBowl_17 rfl (Or.inl rfl) h
    · replace h := zs_f h hc_
      refine zV_iconst (v := 1) dX7_hasBowl_12 rfl ?_
      refine zV_goto 17 dX7_hasBowl_13 (by decide) ?_
      exact zV_iretb dX7_hasBowl_17 rfl (Or.inr rfl) h
noncomputable def fX7_hasPlace (o : Nat) (x1 : Int) (M : zMem) : Option (Int) :=
  (zbd (fX7_hasBowl o x1 M) fun r1 => (if r1 = 0 then some 0 else (zgd ((0 : Int) ≤ x1 ∧ x1 < 12) (if (M (o + 6) x1) = 3 then some 0 else some 1))))
set_option maxRecDepth 100000 in
set_option maxHeartbeats 4000000 in
theorem fX7_hasPlace_ok {Z : zZ} (hZ : zB Z) {nn : Nat} (hn : 1 ≤ nn) {o : Nat} (hS_o : zSU Z o) (hw_o : o < 900)  {x1 : Int} (hx1 : z32 x1) {M : zMem} {Q : Option zAV → zMem → zZ → Prop} (h : zSat (fX7_hasPlace o x1 M) (fun r => Q (some (zI r)) M Z))  : zV zmX7_hasPlace nn 0 0 Z 0 [(0, zR o), (1, zI x1)] [] M Q := by
  unfold fX7_hasPlace at h
  refine zV_aload_n 0 dX7_hasPlace_0 rfl rfl ?_
  refine zV_iload_n 1 dX7_hasPlace_1 rfl rfl ?_
  refine zV_cVI (y' := zmX7_hasBowl) (n' := 0) (As := [zI x1]) zc_X7_84 (zsu_c hS_o) rfl dX7_hasPlace_2 (Nat.le_trans (by decide) hn) rfl (Nat.le_of_ble_eq_true rfl) (Nat.le_of_ble_eq_true rfl) rfl h (fun Q' h' => fX7_hasBowl_ok hZ (Nat.le_refl _) hS_o hw_o hx1 h') (fun r1 c2 b3 h => ?_)
  refine zV_if_eq 22 dX7_hasPlace_5 (by decide) c2 (fun hc_ => ?_) (fun hc_ => ?_)
  · replace h := zs_t h hc_
    refine zV_iconst (v := 0) dX7_hasPlace_22 rfl ?_
    exact zV_iretb dX7_hasPlace_23 rfl (Or.inl rfl) h
  · replace h := zs_f h hc_
    refine zV_aload_n 0 dX7_hasPlace_8 rfl rfl ?_
    refine zV_getR (j := (o + 6)) (zsu_c hS_o) zf_X7_5 zkf_X7_21 rfl dX7_hasPlace_9 ?_
    refine zV_iload_n 1 dX7_hasPlace_12 rfl rfl ?_
    obtain ⟨hg, h⟩ := zs_gd h
    refine zV_iald (zsu_5 hS_o) hg dX7_hasPlace_13 (fun m5 => ?_)
    refine zV_iconst (v := 3) dX7_hasPlace_14 rfl ?_
    refine zV_icmp_eq 22 dX7_hasPlace_15 (by decide) m5 zi_3 (fun hc_ => ?_) (fun hc_ => ?_)
    · replace h := zs_t h hc_
      refine zV_iconst (v := 0) dX7_hasPlace_22 rfl ?_
      exact zV_iretb dX7_hasPlace_23 rfl (Or.inl rfl) h
    · replace h := zs_f h hc_
      refine zV_iconst (v := 1) dX7_hasPlace_18 rfl ?_
      refine zV_goto 23 dX7_hasPlace_19 (by decide) ?_
      exact zV_iretb dX7_hasPlace_23 rfl (Or.inr rfl) h
noncomputable def fX5_takes_j40 (o : Nat) (x1 x2 s0 : Int) (M : zMem) : Option (Int) :=
  (if s0 = 0 then some 0 else (if 200 ≤ x1 then some 0 else (if x2 < 1 then some 0 else (if 40 < x2 then some 0 else (if 200 < (zw (x1 + x2)) then some 0 else some 1)))))
set_option maxRecDepth 100000 in
set_option maxHeartbeats 4000000 in
theorem fX5_takes_j40_ok {Z : zZ} (hZ : zB Z) {nn : Nat} (hn : 0 ≤ nn) {o : Nat} (hS_o : zPI Z o) (hw_o : o < 900)  {x1 x2 s0 : Int} (hx1 : z32 x1) (hx2 : z32 x2) (hs0 : z32 s0) (hbs0 : s0 = 0 ∨ s0 = 1) {M : zMem} {Q : Option zAV → zMem → zZ → Prop} (h : zSat (fX5_takes_j40 o x1 x2 s0 M) (fun r => Q (some (zI r)) M Z))  : zV zmX5_takes nn 0 0 Z 40 [(1, zI x1), (2, zI x2)] [zI s0] M Q := by
  unfold fX5_takes_j40 at h
  refine zV_istore_n [(3, zI s0), (1, zI x1), (2, zI x2)] dX5_takes_40 rfl (by decide) rfl ?_
  refine zV_iload_n 0 dX5_takes_41 rfl rfl ?_
  refine zV_if_eq 76 dX5_takes_42 (by decide) hs0 (fun hc_ => ?_) (fun hc_ => ?_)
  · replace h := zs_t h hc_
    refine zV_iconst (v := 0) dX5_takes_76 rfl ?_
    exact zV_iretb dX5_takes_77 rfl (Or.inl rfl) h
  · replace h := zs_f h hc_
    refine zV_iload_n 1 dX5_takes_45 rfl rfl ?_
    refine zV_sipush (v := 200) dX5_takes_46 rfl ?_
    refine zV_icmp_ge 76 dX5_takes_49 (by decide) hx1 zi_200 (fun hc_ => ?_) (fun hc_ => ?_)
    · replace h := zs_t h hc_
      refine zV_iconst (v := 0) dX5_takes_76 rfl ?_
      exact zV_iretb dX5_takes_77 rfl (Or.inl rfl) h
    · replace h := zs_f h hc_
      refine zV_iload_n 2 dX5_takes_52 rfl rfl ?_
      refine zV_iconst (v := 1) dX5_takes_53 rfl ?_
      refine zV_icmp_lt 76 dX5_takes_54 (by decide) hx2 zi_1 (fun hc_ => ?_) (fun hc_ => ?_)
      · replace h := zs_t h hc_
        refine zV_iconst (v := 0) dX5_takes_76 rfl ?_
        exact zV_iretb dX5_takes_77 rfl (Or.inl rfl) h
      · replace h := zs_f h hc_
        refine zV_iload_n 2 dX5_takes_57 rfl rfl ?_
        refine zV_bipush (v := 40) dX5_takes_58 rfl ?_
        refine zV_icmp_gt 76 dX5_takes_60 (by decide) hx2 zi_40 (fun hc_ => ?_) (fun hc_ => ?_)
        · replace h := zs_t h hc_
          refine zV_iconst (v := 0) dX5_takes_76 rfl ?_
          exact zV_iretb dX5_takes_77 rfl (Or.inl rfl) h
        · replace h := zs_f h hc_
          refine zV_iload_n 1 dX5_takes_63 rfl rfl ?_
          refine zV_iload_n 2 dX5_takes_64 rfl rfl ?_
          refine zV_iadd dX5_takes_65 ?_
          refine zV_sipush (v := 200) dX5_takes_66 rfl ?_
          refine zV_w2 ?_
          refine zV_icmp_gt 76 dX5_takes_69 (by decide) (z32_w _) zi_200 (fun hc_ => ?_) (fun hc_ => ?_)
          · replace h := zs_t h hc_
            refine zV_iconst (v := 0) dX5_takes_76 rfl ?_
            exact zV_iretb dX5_takes_77 rfl (Or.inl rfl) h
          · replace h := zs_f h hc_
            refine zV_iconst (v := 1) dX5_takes_72 rfl ?_
            refine zV_goto 77 dX5_takes_73 (by decide) ?_
            exact zV_iretb dX5_takes_77 rfl (Or.inr rfl) h
noncomputable def fX5_takes_j39 (o : Nat) (x1 x2 : Int) (M : zMem) : Option (Int) :=
  fX5_takes_j40 o x1 x2 0 M
set_option maxRecDepth 100000 in
set_option maxHeartbeats 4000000 in
theorem fX5_takes_j39_ok {Z : zZ} (hZ : zB Z) {nn : Nat} (hn : 0 ≤ nn) {o : Nat} (hS_o : zPI Z o) (hw_o : o < 900)  {x1 x2 : Int} (hx1 : z32 x1) (hx2 : z32 x2) {M : zMem} {Q : Option zAV → zMem → zZ → Prop} (h : zSat (fX5_takes_j39 o x1 x2 M) (fun r => Q (some (zI r)) M Z))  : zV zmX5_takes nn 0 0 Z 39 [(1, zI x1), (2, zI x2)] [] M Q := by
  unfold fX5_takes_j39 at h
  refine zV_iconst (v := 0) dX5_takes_39 rfl ?_
  exact fX5_takes_j40_ok hZ hn hS_o hw_o hx1 hx2 zi_0 (Or.inl rfl) h
noncomputable def fX5_takes_j32 (o : Nat) (x1 x2 s0 s1 : Int) (M : zMem) : Option (Int) :=
  (if s1 < s0 then fX5_takes_j39 o x1 x2 M else fX5_takes_j40 o x1 x2 1 M)
set_option maxRecDepth 100000 in
set_option maxHeartbeats 4000000 in
theorem fX5_takes_j32_ok {Z : zZ} (hZ : zB Z) {nn : Nat} (hn : 0 ≤ nn) {o : Nat} (hS_o : zPI Z o) (hw_o : o < 900)  {x1 x2 s0 s1 : Int} (hx1 : z32 x1) (hx2 : z32 x2) (hs0 : z32 s0) (hs1 : z32 s1) {M : zMem} {Q : Option zAV → zMem → zZ → Prop} (h : zSat (fX5_takes_j32 o x1 x2 s0 s1 M) (fun r => Q (some (zI r)) M Z))  : zV zmX5_takes nn 0 0 Z 32 [(1, zI x1), (2, zI x2)] [zI s0, zI s1] M Q := by
  unfold fX5_takes_j32 at h
  refine zV_icmp_lt 39 dX5_takes_32 (by decide) hs1 hs0 (fun hc_ => ?_) (fun hc_ => ?_)
  · replace h := zs_t h hc_
    exact fX5_takes_j39_ok hZ hn hS_o hw_o hx1 hx2 h
  · replace h := zs_f h hc_
    refine zV_iconst (v := 1) dX5_takes_35 rfl ?_
    refine zV_goto 40 dX5_takes_36 (by decide) ?_
    exact fX5_takes_j40_ok hZ hn hS_o hw_o hx1 hx2 zi_1 (Or.inr rfl) h
noncomputable def fX5_takes (o : Nat) (x1 x2 : Int) (M : zMem) : Option (Int) :=
  (if 24 ≤ (M o 0) then fX5_takes_j39 o x1 x2 M else (if (M o 0) = 0 then fX5_takes_j32 o x1 x2 0 x1 M else (zgd ((0 : Int) ≤ ((M o 0) - 1) ∧ ((M o 0) - 1) < 24) (fX5_takes_j32 o x1 x2 (M (o + 3) ((M o 0) - 1)) x1 M))))
set_option maxRecDepth 100000 in
set_option maxHeartbeats 4000000 in
theorem fX5_takes_ok {Z : zZ} (hZ : zB Z) {nn : Nat} (hn : 0 ≤ nn) {o : Nat} (hS_o : zPI Z o) (hw_o : o < 900)  {x1 x2 : Int} (hx1 : z32 x1) (hx2 : z32 x2) {M : zMem} {Q : Option zAV → zMem → zZ → Prop} (h : zSat (fX5_takes o x1 x2 M) (fun r => Q (some (zI r)) M Z))  : zV zmX5_takes nn 0 0 Z 0 [(0, zR o), (1, zI x1), (2, zI x2)] [] M Q := by
  unfold fX5_takes at h
  refine zV_aload_n 0 dX5_takes_0 rfl rfl ?_
  refine zV_getI (zpi_c hS_o) zf_X5_0 zkf_X5_27 rfl dX5_takes_1 (fun m1 => ?_)
  refine zV_bipush (v := 24) dX5_takes_4 rfl ?_
  refine zV_icmp_ge 39 dX5_takes_6 (by decide) m1 zi_24 (fun hc_ => ?_) (fun hc_ => ?_)
  · replace h := zs_t h hc_
    refine zV_ls [1, 2] rfl ?_
    exact fX5_takes_j39_ok hZ hn hS_o hw_o hx1 hx2 h
  · replace h := zs_f h hc_
    refine zV_iload_n 1 dX5_takes_9 rfl rfl ?_
    refine zV_aload_n 0 dX5_takes_10 rfl rfl ?_
    refine zV_getI (zpi_c hS_o) zf_X5_0 zkf_X5_27 rfl dX5_takes_11 (fun m2 => ?_)
    refine zV_if_ne 21 dX5_takes_14 (by decide) m2 (fun hc_ => ?_) (fun hc_ => ?_)
    · replace h := zs_f h hc_
      refine zV_aload_n 0 dX5_takes_21 rfl rfl ?_
      refine zV_getR (j := (o + 3)) (zpi_c hS_o) zf_X5_2 zkf_X5_15 rfl dX5_takes_22 ?_
      refine zV_aload_n 0 dX5_takes_25 rfl rfl ?_
      refine zV_getI (zpi_c hS_o) zf_X5_0 zkf_X5_27 rfl dX5_takes_26 (fun m3 => ?_)
      refine zV_iconst (v := 1) dX5_takes_29 rfl ?_
      refine zV_isub dX5_takes_30 ?_
      obtain ⟨hg, h⟩ := zs_gd h
      refine zV_iald (zpi_2 hS_o) hg dX5_takes_31 (fun m4 => ?_)
      refine zV_ls [1, 2] rfl ?_
      exact fX5_takes_j32_ok hZ hn hS_o hw_o hx1 hx2 m4 hx1 h
    · replace h := zs_t h hc_
      refine zV_iconst (v := 0) dX5_takes_17 rfl ?_
      refine zV_goto 32 dX5_takes_18 (by decide) ?_
      refine zV_ls [1, 2] rfl ?_
      exact fX5_takes_j32_ok hZ hn hS_o hw_o hx1 hx2 zi_0 hx1 h
noncomputable def fX7_hasFinger (o : Nat) (x1 : Int) (M : zMem) : Option (Int) :=
  (if x1 < (-1) then some 0 else (zgd ((0 : Int) ≤ (1 : Int) ∧ (1 : Int) < 11) (if (zw (2 * (M (o + 19) 1))) ≤ x1 then some 0 else some 1)))
set_option maxRecDepth 100000 in
set_option maxHeartbeats 4000000 in
theorem fX7_hasFinger_ok {Z : zZ} (hZ : zB Z) {nn : Nat} (hn : 0 ≤ nn) {o : Nat} (hS_o : zSU Z o) (hw_o : o < 900)  {x1 : Int} (hx1 : z32 x1) {M : zMem} {Q : Option zAV → zMem → zZ → Prop} (h : zSat (fX7_hasFinger o x1 M) (fun r => Q (some (zI r)) M Z))  : zV zmX7_hasFinger nn 0 0 Z 0 [(0, zR o), (1, zI x1)] [] M Q := by
  unfold fX7_hasFinger at h
  refine zV_iload_n 1 dX7_hasFinger_0 rfl rfl ?_
  refine zV_iconst (v := (-1)) dX7_hasFinger_1 rfl ?_
  refine zV_icmp_lt 21 dX7_hasFinger_2 (by decide) hx1 zi_n1 (fun hc_ => ?_) (fun hc_ => ?_)
  · replace h := zs_t h hc_
    refine zV_iconst (v := 0) dX7_hasFinger_21 rfl ?_
    exact zV_iretb dX7_hasFinger_22 rfl (Or.inl rfl) h
  · replace h := zs_f h hc_
    refine zV_iload_n 1 dX7_hasFinger_5 rfl rfl ?_
    refine zV_iconst (v := 2) dX7_hasFinger_6 rfl ?_
    refine zV_aload_n 0 dX7_hasFinger_7 rfl rfl ?_
    refine zV_getR (j := (o + 19)) (zsu_c hS_o) zf_X7_18 zkf_X7_56 rfl dX7_hasFinger_8 ?_
    refine zV_iconst (v := 1) dX7_hasFinger_11 rfl ?_
    obtain ⟨hg, h⟩ := zs_gd h
    refine zV_iald (zsu_18 hS_o) hg dX7_hasFinger_12 (fun m1 => ?_)
    refine zV_imul dX7_hasFinger_13 ?_
    refine zV_w ?_
    refine zV_icmp_ge 21 dX7_hasFinger_14 (by decide) hx1 (z32_w _) (fun hc_ => ?_) (fun hc_ => ?_)
    · replace h := zs_t h hc_
      refine zV_iconst (v := 0) dX7_hasFinger_21 rfl ?_
      exact zV_iretb dX7_hasFinger_22 rfl (Or.inl rfl) h
    · replace h := zs_f h hc_
      refine zV_iconst (v := 1) dX7_hasFinger_17 rfl ?_
      refine zV_goto 22 dX7_hasFinger_18 (by decide) ?_
      exact zV_iretb dX7_hasFinger_22 rfl (Or.inr rfl) h
noncomputable def fX5_add (o : Nat) (x1 x2 x3 x4 x5 : Int) (M : zMem) : Option (zMem) :=
  (zgd ((0 : Int) ≤ (M o 0) ∧ (M o 0) < 24) (zgd ((0 : Int) ≤ ((zup M (o + 2) (M o 0) x1) o 0) ∧ ((zup M (o + 2) (M o 0) x1) o 0) < 24) (zgd ((0 : Int) ≤ ((zup (zup M (o + 2) (M o 0) x1) (o + 3) ((zup M (o + 2) (M o 0) x1) o 0) x2) o 0) ∧ ((zup (zup M (o + 2) (M o 0) x1) (o + 3) ((zup M (o + 2) (M o 0) x1) o 0) x2) o 0) < 24) (zgd ((0 : Int) ≤ ((zup (zup (zup M (o + 2) (M o 0) x1) (o + 3) ((zup M (o + 2) (M o 0) x1) o 0) x2) (o + 4) ((zup (zup M (o + 2) (M o 0) x1) (o + 3) ((zup M (o + 2) (M o 0) x1) o 0) x2) o 0) x3) o 0) ∧ ((zup (zup (zup M (o + 2) (M o 0) x1) (o + 3) ((zup M (o + 2) (M o 0) x1) o 0) x2) (o + 4) ((zup (zup M (o + 2) (M o 0) x1) (o + 3) ((zup M (o + 2) (M o 0) x1) o 0) x2) o 0) x3) o 0) < 24) (zgd ((0 : Int) ≤ ((zup (zup (zup (zup M (o + 2) (M o 0) x1) (o + 3) ((zup M (o + 2) (M o 0) x1) o 0) x2) (o + 4) ((zup (zup M (o + 2) (M o 0) x1) (o + 3) ((zup M (o + 2) (M o 0) x1) o 0) x2) o 0) x3) (o + 5) ((zup (zup (zup M (o + 2) (M o 0) x1) (o + 3) ((zup M (o + 2) (M o 0) x1) o 0) x2) (o + 4) ((zup (zup M (o + 2) (M o 0) x1) (o + 3) ((zup M (o + 2) (M o 0) x1) o 0) x2) o 0) x3) o 0) x4) o 0) ∧ ((zup (zup (zup (zup M (o + 2) (M o 0) x1) (o + 3) ((zup M (o + 2) (M o 0) x1) o 0) x2) (o + 4) ((zup (zup M (o + 2) (M o 0) x1) (o + 3) ((zup M (o + 2) (M o 0) x1) o 0) x2) o 0) x3) (o + 5) ((zup (zup (zup M (o + 2) (M o 0) x1) (o + 3) ((zup M (o + 2) (M o 0) x1) o 0) x2) (o + 4) ((zup (zup M (o + 2) (M o 0) x1) (o + 3) ((zup M (o + 2) (M o 0) x1) o 0) x2) o 0) x3) o 0) x4) o 0) < 24) (some (zup (zup (zup (zup (zup (zup M (o + 2) (M o 0) x1) (o + 3) ((zup M (o + 2) (M o 0) x1) o 0) x2) (o + 4) ((zup (zup M (o + 2) (M o 0) x1) (o + 3) ((zup M (o + 2) (M o 0) x1) o 0) x2) o 0) x3) (o + 5) ((zup (zup (zup M (o + 2) (M o 0) x1) (o + 3) ((zup M (o + 2) (M o 0) x1) o 0) x2) (o + 4) ((zup (zup M (o + 2) (M o 0) x1) (o + 3) ((zup M (o + 2) (M o 0) x1) o 0) x2) o 0) x3) o 0) x4) (o + 6) ((zup (zup (zup (zup M (o + 2) (M o 0) x1) (o + 3) ((zup M (o + 2) (M o 0) x1) o 0) x2) (o + 4) ((zup (zup M (o + 2) (M o 0) x1) (o + 3) ((zup M (o + 2) (M o 0) x1) o 0) x2) o 0) x3) (o + 5) ((zup (zup (zup M (o + 2) (M o 0) x1) (o + 3) ((zup M (o + 2) (M o 0) x1) o 0) x2) (o + 4) ((zup (zup M (o + 2) (M o 0) x1) (o + 3) ((zup M (o + 2) (M o 0) x1) o 0) x2) o 0) x3) o 0) x4) o 0) x5) o 0 (zw (((zup (zup (zup (zup (zup M (o + 2) (M o 0) x1) (o + 3) ((zup M (o + 2) (M o 0) x1) o 0) x2) (o + 4) ((zup (zup M (o + 2) (M o 0) x1) (o + 3) ((zup M (o + 2) (M o 0) x1) o 0) x2) o 0) x3) (o + 5) ((zup (zup (zup M (o + 2) (M o 0) x1) (o + 3) ((zup M (o + 2) (M o 0) x1) o 0) x2) (o + 4) ((zup (zup M (o + 2) (M o 0) x1) (o + 3) ((zup M (o + 2) (M o 0) x1) o 0) x2) o 0) x3) o 0) x4) (o + 6) ((zup (zup (zup (zup M (o + 2) (M o 0) x1) (o + 3) ((zup M (o + 2) (M o 0) x1) o 0) x2) (o + 4) ((zup (zup M (o + 2) (M o 0) x1) (o + 3) ((zup M (o + 2) (M o 0) x1) o 0) x2) o 0) x3) (o + 5) ((zup (zup (zup M (o + 2) (M o 0) x1) (o + 3) ((zup M (o + 2) (M o 0) x1) o 0) x2) (o + 4) ((zup (zup M (o + 2) (M o 0) x1) (o + 3) ((zup M (o + 2) (M o 0) x1) o 0) x2) o 0) x3) o 0) x4) o 0) x5) o 0) + 1)))))))))
set_option maxRecDepth 100000 in
set_option maxHeartbeats 4000000 in
theorem fX5_add_ok {Z : zZ} (hZ : zB Z) {nn : Nat} (hn : 0 ≤ nn) {o : Nat} (hS_o : zPI Z o) (hw_o : o < 900)  {x1 x2 x3 x4 x5 : Int} (hx1 : z32 x1) (hx2 : z32 x2) (hx3 : z32 x3) (hx4 : z32 x4) (hx5 : z32 x5) {M : zMem} {Q : Option zAV → zMem → zZ → Prop} (h : zSat (fX5_add o x1 x2 x3 x4 x5 M) (fun r => Q none r Z))  : zV zmX5_add nn 0 0 Z 0 [(0, zR o), (1, zI x1), (2, zI x2), (3, zI x3), (4, zI x4), (5, zI x5)] [] M Q := by
  unfold fX5_add at h
  refine zV_aload_n 0 dX5_add_0 rfl rfl ?_
  refine zV_getR (j := (o + 2)) (zpi_c hS_o) zf_X5_1 zkf_X5_9 rfl dX5_add_1 ?_
  refine zV_aload_n 0 dX5_add_4 rfl rfl ?_
  refine zV_getI (zpi_c hS_o) zf_X5_0 zkf_X5_27 rfl dX5_add_5 (fun m1 => ?_)
  refine zV_iload_n 1 dX5_add_8 rfl rfl ?_
  obtain ⟨hg, h⟩ := zs_gd h
  refine zV_iast (zpi_1 hS_o) (zlt_o hw_o (by decide)) hg hx1 dX5_add_9 ?_
  refine zV_aload_n 0 dX5_add_10 rfl rfl ?_
  refine zV_getR (j := (o + 3)) (zpi_c hS_o) zf_X5_2 zkf_X5_15 rfl dX5_add_11 ?_
  refine zV_aload_n 0 dX5_add_14 rfl rfl ?_
  refine zV_getI (zpi_c hS_o) zf_X5_0 zkf_X5_27 rfl dX5_add_15 (fun m2 => ?_)
  refine zV_iload_n 2 dX5_add_18 rfl rfl ?_
  obtain ⟨hg, h⟩ := zs_gd h
  refine zV_iast (zpi_2 hS_o) (zlt_o hw_o (by decide)) hg hx2 dX5_add_19 ?_
  refine zV_aload_n 0 dX5_add_20 rfl rfl ?_
  refine zV_getR (j := (o + 4)) (zpi_c hS_o) zf_X5_3 zkf_X5_18 rfl dX5_add_21 ?_
  refine zV_aload_n 0 dX5_add_24 rfl rfl ?_
  refine zV_getI (zpi_c hS_o) zf_X5_0 zkf_X5_27 rfl dX5_add_25 (fun m3 => ?_)
  refine zV_iload_n 3 dX5_add_28 rfl rfl ?_
  obtain ⟨hg, h⟩ := zs_gd h
  refine zV_iast (zpi_3 hS_o) (zlt_o hw_o (by decide)) hg hx3 dX5_add_29 ?_
  refine zV_aload_n 0 dX5_add_30 rfl rfl ?_
  refine zV_getR (j := (o + 5)) (zpi_c hS_o) zf_X5_4 zkf_X5_21 rfl dX5_add_31 ?_
  refine zV_aload_n 0 dX5_add_34 rfl rfl ?_
  refine zV_getI (zpi_c hS_o) zf_X5_0 zkf_X5_27 rfl dX5_add_35 (fun m4 => ?_)
  refine zV_iload 4 dX5_add_38 rfl ?_
  obtain ⟨hg, h⟩ := zs_gd h
  refine zV_iast (zpi_4 hS_o) (zlt_o hw_o (by decide)) hg hx4 dX5_add_40 ?_
  refine zV_aload_n 0 dX5_add_41 rfl rfl ?_
  refine zV_getR (j := (o + 6)) (zpi_c hS_o) zf_X5_5 zkf_X5_24 rfl dX5_add_42 ?_
  refine zV_aload_n 0 dX5_add_45 rfl rfl ?_
  refine zV_getI (zpi_c hS_o) zf_X5_0 zkf_X5_27 rfl dX5_add_46 (fun m5 => ?_)
  refine zV_iload 5 dX5_add_49 rfl ?_
  obtain ⟨hg, h⟩ := zs_gd h
  refine zV_iast (zpi_5 hS_o) (zlt_o hw_o (by decide)) hg hx5 dX5_add_51 ?_
  refine zV_aload_n 0 dX5_add_52 rfl rfl ?_
  refine zV_dup dX5_add_53 rfl ?_
  refine zV_getI (zpi_c hS_o) zf_X5_0 zkf_X5_27 rfl dX5_add_54 (fun m6 => ?_)
  refine zV_iconst (v := 1) dX5_add_57 rfl ?_
  refine zV_iadd dX5_add_58 ?_
  refine zV_w ?_
  refine zV_putI (zpi_c hS_o) (zlt_b hw_o) zf_X5_0 zkf_X5_27 rfl dX5_add_59 (z32_w _) ?_
  exact zV_vret dX5_add_62 rfl h
noncomputable def fX5_has (o : Nat) (x1 : Int) (M : zMem) : Option (Int) :=
  (if x1 < 0 then some 0 else (if (M o 0) ≤ x1 then some 0 else some 1))
set_option maxRecDepth 100000 in
set_option maxHeartbeats 4000000 in
theorem fX5_has_ok {Z : zZ} (hZ : zB Z) {nn : Nat} (hn : 0 ≤ nn) {o : Nat} (hS_o : zPI Z o) (hw_o : o < 900)  {x1 : Int} (hx1 : z32 x1) {M : zMem} {Q : Option zAV → zMem → zZ → Prop} (h : zSat (fX5_has o x1 M) (fun r => Q (some (zI r)) M Z))  : zV zmX5_has nn 0 0 Z 0 [(0, zR o), (1, zI x1)] [] M Q := by
  unfold fX5_has at h
  refine zV_iload_n 1 dX5_has_0 rfl rfl ?_
  refine zV_if_lt 16 dX5_has_1 (by decide) hx1 (fun hc_ => ?_) (fun hc_ => ?_)
  · replace h := zs_t h hc_
    refine zV_iconst (v := 0) dX5_has_16 rfl ?_
    exact zV_iretb dX5_has_17 rfl (Or.inl rfl) h
  · replace h := zs_f h hc_
    refine zV_iload_n 1 dX5_has_4 rfl rfl ?_
    refine zV_aload_n 0 dX5_has_5 rfl rfl ?_
    refine zV_getI (zpi_c hS_o) zf_X5_0 zkf_X5_27 rfl dX5_has_6 (fun m1 => ?_)
    refine zV_icmp_ge 16 dX5_has_9 (by decide) hx1 m1 (fun hc_ => ?_) (fun hc_ => ?_)
    · replace h := zs_t h hc_
      refine zV_iconst (v := 0) dX5_has_16 rfl ?_
      exact zV_iretb dX5_has_17 rfl (Or.inl rfl) h
    · replace h := zs_f h hc_
      refine zV_iconst (v := 1) dX5_has_12 rfl ?_
      refine zV_goto 17 dX5_has_13 (by decide) ?_
      exact zV_iretb dX5_has_17 rfl (Or.inr rfl) h
noncomputable def fX5_endOf (o : Nat) (x1 : Int) (M : zMem) : Option (Int) :=
  (zgd ((0 : Int) ≤ x1 ∧ x1 < 24) (zgd ((0 : Int) ≤ x1 ∧ x1 < 24) (some (zw ((M (o + 3) x1) + (M (o + 4) x1))))))
set_option maxRecDepth 100000 in
set_option maxHeartbeats 4000000 in
theorem fX5_endOf_ok {Z : zZ} (hZ : zB Z) {nn : Nat} (hn : 0 ≤ nn) {o : Nat} (hS_o : zPI Z o) (hw_o : o < 900)  {x1 : Int} (hx1 : z32 x1) {M : zMem} {Q : Option zAV → zMem → zZ → Prop} (h : zSat (fX5_endOf o x1 M) (fun r => Q (some (zI r)) M Z))  : zV zmX5_endOf nn 0 0 Z 0 [(0, zR o), (1, zI x1)] [] M Q := by
  unfold fX5_endOf at h
  refine zV_aload_n 0 dX5_endOf_0 rfl rfl ?_
  refine zV_getR (j := (o + 3)) (zpi_c hS_o) zf_X5_2 zkf_X5_15 rfl dX5_endOf_1 ?_
  refine zV_iload_n 1 dX5_endOf_4 rfl rfl ?_
  obtain ⟨hg, h⟩ := zs_gd h
  refine zV_iald (zpi_2 hS_o) hg dX5_endOf_5 (fun m1 => ?_)
  refine zV_aload_n 0 dX5_endOf_6 rfl rfl ?_
  refine zV_getR (j := (o + 4)) (zpi_c hS_o) zf_X5_3 zkf_X5_18 rfl dX5_endOf_7 ?_
  refine zV_iload_n 1 dX5_endOf_10 rfl rfl ?_
  obtain ⟨hg, h⟩ := zs_gd h
  refine zV_iald (zpi_3 hS_o) hg dX5_endOf_11 (fun m2 => ?_)
  refine zV_iadd dX5_endOf_12 ?_
  refine zV_w ?_
  exact zV_ireti dX5_endOf_13 rfl (z32_w _) h
noncomputable def fX5_lasts (o : Nat) (x1 x2 : Int) (M : zMem) : Option (Int) :=
  (zbd (fX5_has o x1 M) fun r1 => (if r1 = 0 then some 0 else (zgd ((0 : Int) ≤ x1 ∧ x1 < 24) (if x2 < (M (o + 3) x1) then some 0 else (zbd (fX5_endOf o x1 M) fun r6 => (if r6 ≤ x2 then some 0 else some 1))))))
set_option maxRecDepth 100000 in
set_option maxHeartbeats 4000000 in
theorem fX5_lasts_ok {Z : zZ} (hZ : zB Z) {nn : Nat} (hn : 1 ≤ nn) {o : Nat} (hS_o : zPI Z o) (hw_o : o < 900)  {x1 x2 : Int} (hx1 : z32 x1) (hx2 : z32 x2) {M : zMem} {Q : Option zAV → zMem → zZ → Prop} (h : zSat (fX5_lasts o x1 x2 M) (fun r => Q (some (zI r)) M Z))  : zV zmX5_lasts nn 0 0 Z 0 [(0, zR o), (1, zI x1), (2, zI x2)] [] M Q := by
  unfold fX5_lasts at h
  refine zV_aload_n 0 dX5_lasts_0 rfl rfl ?_
  refine zV_iload_n 1 dX5_lasts_1 rfl rfl ?_
  refine zV_cVI (y' := zmX5_has) (n' := 0) (As := [zI x1]) zc_X5_37 (zpi_c hS_o) rfl dX5_lasts_2 (Nat.le_trans (by decide) hn) rfl (Nat.le_of_ble_eq_true rfl) (Nat.le_of_ble_eq_true rfl) rfl h (fun Q' h' => fX5_has_ok hZ (Nat.le_refl _) hS_o hw_o hx1 h') (fun r1 c2 b3 h => ?_)
  refine zV_if_eq 31 dX5_lasts_5 (by decide) c2 (fun hc_ => ?_) (fun hc_ => ?_)
  · replace h := zs_t h hc_
    refine zV_iconst (v := 0) dX5_lasts_31 rfl ?_
    exact zV_iretb dX5_lasts_32 rfl (Or.inl rfl) h
  · replace h := zs_f h hc_
    refine zV_iload_n 2 dX5_lasts_8 rfl rfl ?_
    refine zV_aload_n 0 dX5_lasts_9 rfl rfl ?_
    refine zV_getR (j := (o + 3)) (zpi_c hS_o) zf_X5_2 zkf_X5_15 rfl dX5_lasts_10 ?_
    refine zV_iload_n 1 dX5_lasts_13 rfl rfl ?_
    obtain ⟨hg, h⟩ := zs_gd h
    refine zV_iald (zpi_2 hS_o) hg dX5_lasts_14 (fun m5 => ?_)
    refine zV_icmp_lt 31 dX5_lasts_15 (by decide) hx2 m5 (fun hc_ => ?_) (fun hc_ => ?_)
    · replace h := zs_t h hc_
      refine zV_iconst (v := 0) dX5_lasts_31 rfl ?_
      exact zV_iretb dX5_lasts_32 rfl (Or.inl rfl) h
    · replace h := zs_f h hc_
      refine zV_iload_n 2 dX5_lasts_18 rfl rfl ?_
      refine zV_aload_n 0 dX5_lasts_19 rfl rfl ?_
      refine zV_iload_n 1 dX5_lasts_20 rfl rfl ?_
      refine zV_cVI (y' := zmX5_endOf) (n' := 0) (As := [zI x1]) zc_X5_41 (zpi_c hS_o) rfl dX5_lasts_21 (Nat.le_trans (by decide) hn) rfl (Nat.le_of_ble_eq_true rfl) (Nat.le_of_ble_eq_true rfl) rfl h (fun Q' h' => fX5_endOf_ok hZ (Nat.le_refl _) hS_o hw_o hx1 h') (fun r6 c7 b8 h => ?_)
      refine zV_icmp_ge 31 dX5_lasts_24 (by decide) hx2 c7 (fun hc_ => ?_) (fun hc_ => ?_)
      · replace h := zs_t h hc_
        refine zV_iconst (v := 0) dX5_lasts_31 rfl ?_
        exact zV_iretb dX5_lasts_32 rfl (Or.inl rfl) h
      · replace h := zs_f h hc_
        refine zV_iconst (v := 1) dX5_lasts_27 rfl ?_
        refine zV_goto 32 dX5_lasts_28 (by decide) ?_
        exact zV_iretb dX5_lasts_32 rfl (Or.inr rfl) h
noncomputable def fX5_pressOn_l5 (o : Nat) (x1 x2 x3 x4 : Int) (M : zMem) : Option ((Int × Int) ⊕ (Int × Int)) :=
  (if (M o 0) ≤ x4 then some (.inr (x3, x4)) else (zgd ((0 : Int) ≤ x4 ∧ x4 < 24) (if (M (o + 2) x4) = x1 then (zbd (fX5_lasts o x4 x2 M) fun r3 => (if r3 = 0 then some (.inl (x3, (zw (x4 + 1)))) else (zgd ((0 : Int) ≤ x4 ∧ x4 < 24) (some (.inl ((zw (x3 + (M (o + 5) x4))), (zw (x4 + 1)))))))) else some (.inl (x3, (zw (x4 + 1)))))))
set_option maxRecDepth 100000 in
set_option maxHeartbeats 4000000 in
theorem fX5_pressOn_l5_ok {Z : zZ} (hZ : zB Z) {nn : Nat} (hn : 2 ≤ nn) {o : Nat} (hS_o : zPI Z o) (hw_o : o < 900)  {x1 x2 x3 x4 : Int} (hx1 : z32 x1) (hx2 : z32 x2) (hx3 : z32 x3) (hx4 : z32 x4) {M : zMem} {Q : Option zAV → zMem → zZ → Prop} {P : (Int × Int) ⊕ (Int × Int) → Prop} (h : zSat (fX5_pressOn_l5 o x1 x2 x3 x4 M) P)  (hc : ∀ s : Int × Int, P (.inl s) → z32 (s.1) → z32 (s.2) → zV zmX5_pressOn nn 0 0 Z 5 [(0, zR o), (1, zI x1), (2, zI x2), (3, zI (s.1)), (4, zI (s.2))] [] M Q) (he : ∀ s : Int × Int, P (.inr s) → z32 (s.1) → z32 (s.2) → zV zmX5_pressOn nn 0 0 Z 51 [(0, zR o), (1, zI x1), (2, zI x2), (3, zI (s.1)), (4, zI (s.2))] [] M Q)   : zV zmX5_pressOn nn 0 0 Z 5 [(0, zR o), (1, zI x1), (2, zI x2), (3, zI x3), (4, zI x4)] [] M Q := by
  unfold fX5_pressOn_l5 at h
  refine zV_iload 4 dX5_pressOn_5 rfl ?_
  refine zV_aload_n 0 dX5_pressOn_7 rfl rfl ?_
  refine zV_getI (zpi_c hS_o) zf_X5_0 zkf_X5_27 rfl dX5_pressOn_8 (fun m1 => ?_)
  refine zV_icmp_ge 51 dX5_pressOn_11 (by decide) hx4 m1 (fun hc_ => ?_) (fun hc_ => ?_)
  · replace h := zs_t h hc_
    exact he _ h hx3 hx4
  · replace h := zs_f h hc_
    refine zV_aload_n 0 dX5_pressOn_14 rfl rfl ?_
    refine zV_getR (j := (o + 2)) (zpi_c hS_o) zf_X5_1 zkf_X5_9 rfl dX5_pressOn_15 ?_
    refine zV_iload 4 dX5_pressOn_18 rfl ?_
    obtain ⟨hg, h⟩ := zs_gd h
    refine zV_iald (zpi_1 hS_o) hg dX5_pressOn_20 (fun m2 => ?_)
    refine zV_iload_n 1 dX5_pressOn_21 rfl rfl ?_
    refine zV_icmp_ne 45 dX5_pressOn_22 (by decide) m2 hx1 (fun hc_ => ?_) (fun hc_ => ?_)
    · replace h := zs_f h hc_
      refine zV_iinc 4 [(4, zI (zw (x4 + 1))), (0, zR o), (1, zI x1), (2, zI x2), (3, zI x3)] dX5_pressOn_45 rfl rfl (by decide) rfl ?_
      refine zV_goto 5 dX5_pressOn_48 (by decide) ?_
      refine zV_ls [1, 2, 3, 4, 0] rfl ?_
      exact hc _ h hx3 (z32_w _)
    · replace h := zs_t h hc_
      refine zV_aload_n 0 dX5_pressOn_25 rfl rfl ?_
      refine zV_iload 4 dX5_pressOn_26 rfl ?_
      refine zV_iload_n 2 dX5_pressOn_28 rfl rfl ?_
      refine zV_cVI (y' := zmX5_lasts) (n' := 1) (As := [zI x4, zI x2]) zc_X5_45 (zpi_c hS_o) rfl dX5_pressOn_29 (Nat.le_trans (by decide) hn) rfl (Nat.le_of_ble_eq_true rfl) (Nat.le_of_ble_eq_true rfl) rfl h (fun Q' h' => fX5_lasts_ok hZ (Nat.le_refl _) hS_o hw_o hx4 hx2 h') (fun r3 c4 b5 h => ?_)
      refine zV_if_eq 45 dX5_pressOn_32 (by decide) c4 (fun hc_ => ?_) (fun hc_ => ?_)
      · replace h := zs_t h hc_
        refine zV_iinc 4 [(4, zI (zw (x4 + 1))), (0, zR o), (1, zI x1), (2, zI x2), (3, zI x3)] dX5_pressOn_45 rfl rfl (by decide) rfl ?_
        refine zV_goto 5 dX5_pressOn_48 (by decide) ?_
        refine zV_ls [1, 2, 3, 4, 0] rfl ?_
        exact hc _ h hx3 (z32_w _)
      · replace h := zs_f h hc_
        refine zV_iload_n 3 dX5_pressOn_35 rfl rfl ?_
        refine zV_aload_n 0 dX5_pressOn_36 rfl rfl ?_
        refine zV_getR (j := (o + 5)) (zpi_c hS_o) zf_X5_4 zkf_X5_21 rfl dX5_pressOn_37 ?_
        refine zV_iload 4 dX5_pressOn_40 rfl ?_
        obtain ⟨hg, h⟩ := zs_gd h
        refine zV_iald (zpi_4 hS_o) hg dX5_pressOn_42 (fun m7 => ?_)
        refine zV_iadd dX5_pressOn_43 ?_
        refine zV_w ?_
        refine zV_istore_n [(3, zI (zw (x3 + (M (o + 5) x4)))), (0, zR o), (1, zI x1), (2, zI x2), (4, zI x4)] dX5_pressOn_44 rfl (by decide) rfl ?_
        refine zV_iinc 4 [(4, zI (zw (x4 + 1))), (3, zI (zw (x3 + (M (o + 5) x4)))), (0, zR o), (1, zI x1), (2, zI x2)] dX5_pressOn_45 rfl rfl (by decide) rfl ?_
        refine zV_goto 5 dX5_pressOn_48 (by decide) ?_
        refine zV_ls [2, 3, 4, 1, 0] rfl ?_
        exact hc _ h (z32_w _) (z32_w _)
noncomputable def fX5_pressOn (o : Nat) (x1 x2 : Int) (M : zMem) : Option (Int) :=
  (zbd (zit (fun s8 => fX5_pressOn_l5 o x1 x2 (s8.1) (s8.2) M) (0, 0)) fun s15 => some (s15.1))
set_option maxRecDepth 100000 in
set_option maxHeartbeats 4000000 in
theorem fX5_pressOn_ok {Z : zZ} (hZ : zB Z) {nn : Nat} (hn : 2 ≤ nn) {o : Nat} (hS_o : zPI Z o) (hw_o : o < 900)  {x1 x2 : Int} (hx1 : z32 x1) (hx2 : z32 x2) {M : zMem} {Q : Option zAV → zMem → zZ → Prop} (h : zSat (fX5_pressOn o x1 x2 M) (fun r => Q (some (zI r)) M Z))  : zV zmX5_pressOn nn 0 0 Z 0 [(0, zR o), (1, zI x1), (2, zI x2)] [] M Q := by
  unfold fX5_pressOn at h
  refine zV_iconst (v := 0) dX5_pressOn_0 rfl ?_
  refine zV_istore_n [(3, zI 0), (0, zR o), (1, zI x1), (2, zI x2)] dX5_pressOn_1 rfl (by decide) rfl ?_
  refine zV_iconst (v := 0) dX5_pressOn_2 rfl ?_
  refine zV_istore [(4, zI 0), (3, zI 0), (0, zR o), (1, zI x1), (2, zI x2)] dX5_pressOn_3 (by decide) rfl ?_
  refine zV_ls [2, 3, 4, 1, 0] rfl ?_
  refine (zV_loop (Vh := fun s8 : Int × Int => z32 (s8.1) → z32 (s8.2) → zV zmX5_pressOn nn 0 0 Z 5 [(0, zR o), (1, zI x1), (2, zI x2), (3, zI (s8.1)), (4, zI (s8.2))] [] M Q) h (fun s8 P9 hP10 hc11 he12 => ?_)) zi_0 zi_0
  intro c13 c14
  refine fX5_pressOn_l5_ok hZ hn hS_o hw_o hx1 hx2 c13 c14 hP10 hc11 (fun s15 h16 d17 d18 => ?_)
  have h := he12 _ h16
  refine zV_iload_n 3 dX5_pressOn_51 rfl rfl ?_
  exact zV_ireti dX5_pressOn_52 rfl d17 h
noncomputable def fX3_tell (x1 x2 x3 x4 : Int) (M : zMem) : Option (zMem) :=
  (zgd ((0 : Int) ≤ (26 : Int) ∧ (26 : Int) < 29) (zgd ((0 : Int) ≤ (27 : Int) ∧ (27 : Int) < 29) (zgd ((0 : Int) ≤ (28 : Int) ∧ (28 : Int) < 29) (zgd ((0 : Int) ≤ (3 : Int) ∧ (3 : Int) < 29) (some (zup (zup (zup (zup M 123 26 x1) 123 27 x2) 123 28 x3) 123 3 x4))))))
set_option maxRecDepth 100000 in
set_option maxHeartbeats 4000000 in
theorem fX3_tell_ok {Z : zZ} (hZ : zB Z) {nn : Nat} (hn : 0 ≤ nn)  {x1 x2 x3 x4 : Int} (hx1 : z32 x1) (hx2 : z32 x2) (hx3 : z32 x3) (hx4 : z32 x4) {M : zMem} {Q : Option zAV → zMem → zZ → Prop} (h : zSat (fX3_tell x1 x2 x3 x4 M) (fun r => Q none r Z))  : zV zmX3_tell nn 0 0 Z 0 [(0, zR 120), (1, zI x1), (2, zI x2), (3, zI x3), (4, zI x4)] [] M Q := by
  unfold fX3_tell at h
  refine zV_aload_n 0 dX3_tell_0 rfl rfl ?_
  refine zV_getR (j := 123) (zq_120 hZ) zf_X3_2 zkf_X3_23 rfl dX3_tell_1 ?_
  refine zV_bipush (v := 26) dX3_tell_4 rfl ?_
  refine zV_iload_n 1 dX3_tell_6 rfl rfl ?_
  obtain ⟨hg, h⟩ := zs_gd h
  refine zV_iast (zq_123 hZ) (by decide) hg hx1 dX3_tell_7 ?_
  refine zV_aload_n 0 dX3_tell_8 rfl rfl ?_
  refine zV_getR (j := 123) (zq_120 hZ) zf_X3_2 zkf_X3_23 rfl dX3_tell_9 ?_
  refine zV_bipush (v := 27) dX3_tell_12 rfl ?_
  refine zV_iload_n 2 dX3_tell_14 rfl rfl ?_
  obtain ⟨hg, h⟩ := zs_gd h
  refine zV_iast (zq_123 hZ) (by decide) hg hx2 dX3_tell_15 ?_
  refine zV_aload_n 0 dX3_tell_16 rfl rfl ?_
  refine zV_getR (j := 123) (zq_120 hZ) zf_X3_2 zkf_X3_23 rfl dX3_tell_17 ?_
  refine zV_bipush (v := 28) dX3_tell_20 rfl ?_
  refine zV_iload_n 3 dX3_tell_22 rfl rfl ?_
  obtain ⟨hg, h⟩ := zs_gd h
  refine zV_iast (zq_123 hZ) (by decide) hg hx3 dX3_tell_23 ?_
  refine zV_aload_n 0 dX3_tell_24 rfl rfl ?_
  refine zV_getR (j := 123) (zq_120 hZ) zf_X3_2 zkf_X3_23 rfl dX3_tell_25 ?_
  refine zV_iconst (v := 3) dX3_tell_28 rfl ?_
  refine zV_iload 4 dX3_tell_29 rfl ?_
  obtain ⟨hg, h⟩ := zs_gd h
  refine zV_iast (zq_123 hZ) (by decide) hg hx4 dX3_tell_31 ?_
  exact zV_vret dX3_tell_32 rfl h
noncomputable def fX3_isOperand (x0 : Int) (M : zMem) : Option (Int) :=
  (if 0 ≤ x0 then some 1 else (if x0 = (-103) then some 1 else (if (-125) < x0 then some 0 else (if x0 < (-128) then some 0 else some 1))))
set_option maxRecDepth 100000 in
set_option maxHeartbeats 4000000 in
theorem fX3_isOperand_ok {Z : zZ} (hZ : zB Z) {nn : Nat} (hn : 0 ≤ nn)  {x0 : Int} (hx0 : z32 x0) {M : zMem} {Q : Option zAV → zMem → zZ → Prop} (h : zSat (fX3_isOperand x0 M) (fun r => Q (some (zI r)) M Z))  : zV zmX3_isOperand nn 0 0 Z 0 [(0, zI x0)] [] M Q := by
  unfold fX3_isOperand at h
  refine zV_iload_n 0 dX3_isOperand_0 rfl rfl ?_
  refine zV_if_ge 22 dX3_isOperand_1 (by decide) hx0 (fun hc_ => ?_) (fun hc_ => ?_)
  · replace h := zs_t h hc_
    refine zV_iconst (v := 1) dX3_isOperand_22 rfl ?_
    refine zV_goto 27 dX3_isOperand_23 (by decide) ?_
    exact zV_iretb dX3_isOperand_27 rfl (Or.inr rfl) h
  · replace h := zs_f h hc_
    refine zV_iload_n 0 dX3_isOperand_4 rfl rfl ?_
    refine zV_bipush (v := (-103)) dX3_isOperand_5 rfl ?_
    refine zV_icmp_eq 22 dX3_isOperand_7 (by decide) hx0 zi_n103 (fun hc_ => ?_) (fun hc_ => ?_)
    · replace h := zs_t h hc_
      refine zV_iconst (v := 1) dX3_isOperand_22 rfl ?_
      refine zV_goto 27 dX3_isOperand_23 (by decide) ?_
      exact zV_iretb dX3_isOperand_27 rfl (Or.inr rfl) h
    · replace h := zs_f h hc_
      refine zV_iload_n 0 dX3_isOperand_10 rfl rfl ?_
      refine zV_bipush (v := (-125)) dX3_isOperand_11 rfl ?_
      refine zV_icmp_gt 26 dX3_isOperand_13 (by decide) hx0 zi_n125 (fun hc_ => ?_) (fun hc_ => ?_)
      · replace h := zs_t h hc_
        refine zV_iconst (v := 0) dX3_isOperand_26 rfl ?_
        exact zV_iretb dX3_isOperand_27 rfl (Or.inl rfl) h
      · replace h := zs_f h hc_
        refine zV_iload_n 0 dX3_isOperand_16 rfl rfl ?_
        refine zV_bipush (v := (-128)) dX3_isOperand_17 rfl ?_
        refine zV_icmp_lt 26 dX3_isOperand_19 (by decide) hx0 zi_n128 (fun hc_ => ?_) (fun hc_ => ?_)
        · replace h := zs_t h hc_
          refine zV_iconst (v := 0) dX3_isOperand_26 rfl ?_
          exact zV_iretb dX3_isOperand_27 rfl (Or.inl rfl) h
        · replace h := zs_f h hc_
          refine zV_iconst (v := 1) dX3_isOperand_22 rfl ?_
          refine zV_goto 27 dX3_isOperand_23 (by decide) ?_
          exact zV_iretb dX3_isOperand_27 rfl (Or.inr rfl) h
noncomputable def fX3_joined (x0 x1 x2 : Int) (M : zMem) : Option (Int) :=
  (if x0 = 42 then some (zw (x1 * x2)) else (if x0 = 43 then some (zw (x1 + x2)) else (if x0 = 45 then some (zw (x1 - x2)) else (if x0 = 60 then (if x2 ≤ x1 then some 0 else some 1) else (if x0 = 61 then (if x1 = x2 then some 1 else some 0) else (if x0 = 112 then (if x1 = 0 then some 0 else (if x2 = 0 then some 0 else some 1)) else (if x1 = 0 then (if x2 = 0 then some 0 else some 1) else some 1)))))))
set_option maxRecDepth 100000 in
set_option maxHeartbeats 4000000 in
theorem fX3_joined_ok {Z : zZ} (hZ : zB Z) {nn : Nat} (hn : 0 ≤ nn)  {x0 x1 x2 : Int} (hx0 : z32 x0) (hx1 : z32 x1) (hx2 : z32 x2) {M : zMem} {Q : Option zAV → zMem → zZ → Prop} (h : zSat (fX3_joined x0 x1 x2 M) (fun r => Q (some (zI r)) M Z))  : zV zmX3_joined nn 0 0 Z 0 [(0, zI x0), (1, zI x1), (2, zI x2)] [] M Q := by
  unfold fX3_joined at h
  refine zV_iload_n 0 dX3_joined_0 rfl rfl ?_
  refine zV_if (x0 = 42) (fun hc_ => ?_) (fun hc_0 => ?_)
  · replace h := zs_t h hc_
    refine zV_lsw 68 dX3_joined_1 (by decide) hx0 (by rw [hc_]; decide) ?_
    refine zV_iload_n 1 dX3_joined_68 rfl rfl ?_
    refine zV_iload_n 2 dX3_joined_69 rfl rfl ?_
    refine zV_imul dX3_joined_70 ?_
    refine zV_w ?_
    exact zV_ireti dX3_joined_71 rfl (z32_w _) h
  · replace h := zs_f h hc_0
    refine zV_if (x0 = 43) (fun hc_ => ?_) (fun hc_1 => ?_)
    · replace h := zs_t h hc_
      refine zV_lsw 60 dX3_joined_1 (by decide) hx0 (by rw [hc_]; decide) ?_
      refine zV_iload_n 1 dX3_joined_60 rfl rfl ?_
      refine zV_iload_n 2 dX3_joined_61 rfl rfl ?_
      refine zV_iadd dX3_joined_62 ?_
      refine zV_w ?_
      exact zV_ireti dX3_joined_63 rfl (z32_w _) h
    · replace h := zs_f h hc_1
      refine zV_if (x0 = 45) (fun hc_ => ?_) (fun hc_2 => ?_)
      · replace h := zs_t h hc_
        refine zV_lsw 64 dX3_joined_1 (by decide) hx0 (by rw [hc_]; decide) ?_
        refine zV_iload_n 1 dX3_joined_64 rfl rfl ?_
        refine zV_iload_n 2 dX3_joined_65 rfl rfl ?_
        refine zV_isub dX3_joined_66 ?_
        refine zV_w ?_
        exact zV_ireti dX3_joined_67 rfl (z32_w _) h
      · replace h := zs_f h hc_2
        refine zV_if (x0 = 60) (fun hc_ => ?_) (fun hc_3 => ?_)
        · replace h := zs_t h hc_
          refine zV_lsw 72 dX3_joined_1 (by decide) hx0 (by rw [hc_]; decide) ?_
          refine zV_iload_n 1 dX3_joined_72 rfl rfl ?_
          refine zV_iload_n 2 dX3_joined_73 rfl rfl ?_
          refine zV_icmp_ge 81 dX3_joined_74 (by decide) hx1 hx2 (fun hc_ => ?_) (fun hc_ => ?_)
          · replace h := zs_t h hc_
            refine zV_iconst (v := 0) dX3_joined_81 rfl ?_
            exact zV_ireti dX3_joined_82 rfl zi_0 h
          · replace h := zs_f h hc_
            refine zV_iconst (v := 1) dX3_joined_77 rfl ?_
            refine zV_goto 82 dX3_joined_78 (by decide) ?_
            exact zV_ireti dX3_joined_82 rfl zi_1 h
        · replace h := zs_f h hc_3
          refine zV_if (x0 = 61) (fun hc_ => ?_) (fun hc_4 => ?_)
          · replace h := zs_t h hc_
            refine zV_lsw 83 dX3_joined_1 (by decide) hx0 (by rw [hc_]; decide) ?_
            refine zV_iload_n 1 dX3_joined_83 rfl rfl ?_
            refine zV_iload_n 2 dX3_joined_84 rfl rfl ?_
            refine zV_icmp_ne 92 dX3_joined_85 (by decide) hx1 hx2 (fun hc_ => ?_) (fun hc_ => ?_)
            · replace h := zs_f h hc_
              refine zV_iconst (v := 0) dX3_joined_92 rfl ?_
              exact zV_ireti dX3_joined_93 rfl zi_0 h
            · replace h := zs_t h hc_
              refine zV_iconst (v := 1) dX3_joined_88 rfl ?_
              refine zV_goto 93 dX3_joined_89 (by decide) ?_
              exact zV_ireti dX3_joined_93 rfl zi_1 h
          · replace h := zs_f h hc_4
            refine zV_if (x0 = 112) (fun hc_ => ?_) (fun hc_5 => ?_)
            · replace h := zs_t h hc_
              refine zV_lsw 94 dX3_joined_1 (by decide) hx0 (by rw [hc_]; decide) ?_
              refine zV_iload_n 1 dX3_joined_94 rfl rfl ?_
              refine zV_if_eq 106 dX3_joined_95 (by decide) hx1 (fun hc_ => ?_) (fun hc_ => ?_)
              · replace h := zs_t h hc_
                refine zV_iconst (v := 0) dX3_joined_106 rfl ?_
                exact zV_ireti dX3_joined_107 rfl zi_0 h
              · replace h := zs_f h hc_
                refine zV_iload_n 2 dX3_joined_98 rfl rfl ?_
                refine zV_if_eq 106 dX3_joined_99 (by decide) hx2 (fun hc_ => ?_) (fun hc_ => ?_)
                · replace h := zs_t h hc_
                  refine zV_iconst (v := 0) dX3_joined_106 rfl ?_
                  exact zV_ireti dX3_joined_107 rfl zi_0 h
                · replace h := zs_f h hc_
                  refine zV_iconst (v := 1) dX3_joined_102 rfl ?_
                  refine zV_goto 107 dX3_joined_103 (by decide) ?_
                  exact zV_ireti dX3_joined_107 rfl zi_1 h
            · replace h := zs_f h hc_5
              refine zV_lsw 108 dX3_joined_1 (by decide) hx0 (by rw [zlo_n hc_0, zlo_n hc_1, zlo_n hc_2, zlo_n hc_3, zlo_n hc_4, zlo_n hc_5, zlo_e]; decide) ?_
              refine zV_iload_n 1 dX3_joined_108 rfl rfl ?_
              refine zV_if_ne 116 dX3_joined_109 (by decide) hx1 (fun hc_ => ?_) (fun hc_ => ?_)
              · replace h := zs_f h hc_
                refine zV_iconst (v := 1) dX3_joined_116 rfl ?_
                refine zV_goto 121 dX3_joined_117 (by decide) ?_
                exact zV_ireti dX3_joined_121 rfl zi_1 h
              · replace h := zs_t h hc_
                refine zV_iload_n 2 dX3_joined_112 rfl rfl ?_
                refine zV_if_eq 120 dX3_joined_113 (by decide) hx2 (fun hc_ => ?_) (fun hc_ => ?_)
                · replace h := zs_t h hc_
                  refine zV_iconst (v := 0) dX3_joined_120 rfl ?_
                  exact zV_ireti dX3_joined_121 rfl zi_0 h
                · replace h := zs_f h hc_
                  refine zV_iconst (v := 1) dX3_joined_116 rfl ?_
                  refine zV_goto 121 dX3_joined_117 (by decide) ?_
                  exact zV_ireti dX3_joined_121 rfl zi_1 h
noncomputable def fX3_valueOf_j136 (x2 x3 x4 s0 s1 : Int) (M : zMem) : Option ((Int × Int × zMem) ⊕ (Int × Int × zMem)) :=
  (zgd ((0 : Int) ≤ s1 ∧ s1 < 32) (some (.inl (x2, (zw (x4 + 1)), (zup M 122 s1 s0)))))
set_option maxRecDepth 100000 in
set_option maxHeartbeats 4000000 in
theorem fX3_valueOf_j136_ok {Z : zZ} (hZ : zB Z) {nn : Nat} (hn : 1 ≤ nn)  {x2 x3 x4 s0 s1 : Int} (hx2 : z32 x2) (hx3 : z32 x3) (hx4 : z32 x4) (hs0 : z32 s0) (hbs0 : s0 = 0 ∨ s0 = 1) (hs1 : z32 s1) {M : zMem} {Q : Option zAV → zMem → zZ → Prop} {P : (Int × Int × zMem) ⊕ (Int × Int × zMem) → Prop} (h : zSat (fX3_valueOf_j136 x2 x3 x4 s0 s1 M) P)  (hc : ∀ s : Int × Int × zMem, P (.inl s) → z32 (s.1) → z32 (s.2.1) → zV zmX3_valueOf nn 0 0 Z 33 [(0, zR 120), (2, zI (s.1)), (3, zI x3), (4, zI (s.2.1))] [] (s.2.2) Q) (he : ∀ s : Int × Int × zMem, P (.inr s) → z32 (s.1) → z32 (s.2.1) → zV zmX3_valueOf nn 0 0 Z 182 [(0, zR 120), (2, zI (s.1)), (3, zI x3), (4, zI (s.2.1))] [] (s.2.2) Q)   : zV zmX3_valueOf nn 0 0 Z 136 [(0, zR 120), (2, zI x2), (3, zI x3), (4, zI x4)] [zI s0, zI s1, zR 122] M Q := by
  unfold fX3_valueOf_j136 at h
  obtain ⟨hg, h⟩ := zs_gd h
  refine zV_iast (zq_122 hZ) (by decide) hg hs0 dX3_valueOf_136 ?_
  refine zV_goto 176 dX3_valueOf_137 (by decide) ?_
  refine zV_iinc 3 [(4, zI (zw (x4 + 1))), (0, zR 120), (2, zI x2), (3, zI x3)] dX3_valueOf_176 rfl rfl (by decide) rfl ?_
  refine zV_goto 33 dX3_valueOf_179 (by decide) ?_
  refine zV_ls [1, 2, 3, 0] rfl ?_
  exact hc _ h hx2 (z32_w _)
noncomputable def fX3_valueOf_j94 (x2 x3 x4 s0 s1 : Int) (M : zMem) : Option ((Int × Int × zMem) ⊕ (Int × Int × zMem)) :=
  (zgd ((0 : Int) ≤ s1 ∧ s1 < 32) (some (.inl ((zw (x2 + 1)), (zw (x4 + 1)), (zup M 122 s1 s0)))))
set_option maxRecDepth 100000 in
set_option maxHeartbeats 4000000 in
theorem fX3_valueOf_j94_ok {Z : zZ} (hZ : zB Z) {nn : Nat} (hn : 1 ≤ nn)  {x2 x3 x4 s0 s1 : Int} (hx2 : z32 x2) (hx3 : z32 x3) (hx4 : z32 x4) (hs0 : z32 s0) (hs1 : z32 s1) {M : zMem} {Q : Option zAV → zMem → zZ → Prop} {P : (Int × Int × zMem) ⊕ (Int × Int × zMem) → Prop} (h : zSat (fX3_valueOf_j94 x2 x3 x4 s0 s1 M) P)  (hc : ∀ s : Int × Int × zMem, P (.inl s) → z32 (s.1) → z32 (s.2.1) → zV zmX3_valueOf nn 0 0 Z 33 [(0, zR 120), (2, zI (s.1)), (3, zI x3), (4, zI (s.2.1))] [] (s.2.2) Q) (he : ∀ s : Int × Int × zMem, P (.inr s) → z32 (s.1) → z32 (s.2.1) → zV zmX3_valueOf nn 0 0 Z 182 [(0, zR 120), (2, zI (s.1)), (3, zI x3), (4, zI (s.2.1))] [] (s.2.2) Q)   : zV zmX3_valueOf nn 0 0 Z 94 [(0, zR 120), (2, zI x2), (3, zI x3), (4, zI x4)] [zI s0, zI s1, zR 122] M Q := by
  unfold fX3_valueOf_j94 at h
  obtain ⟨hg, h⟩ := zs_gd h
  refine zV_iast (zq_122 hZ) (by decide) hg hs0 dX3_valueOf_94 ?_
  refine zV_iinc 1 [(2, zI (zw (x2 + 1))), (0, zR 120), (3, zI x3), (4, zI x4)] dX3_valueOf_95 rfl rfl (by decide) rfl ?_
  refine zV_goto 176 dX3_valueOf_98 (by decide) ?_
  refine zV_iinc 3 [(4, zI (zw (x4 + 1))), (2, zI (zw (x2 + 1))), (0, zR 120), (3, zI x3)] dX3_valueOf_176 rfl rfl (by decide) rfl ?_
  refine zV_goto 33 dX3_valueOf_179 (by decide) ?_
  refine zV_ls [2, 1, 3, 0] rfl ?_
  exact hc _ h (z32_w _) (z32_w _)
noncomputable def fX3_valueOf_l33 (x3 x2 x4 : Int) (M : zMem) : Option ((Int × Int × zMem) ⊕ (Int × Int × zMem)) :=
  (if x3 ≤ x4 then some (.inr (x2, x4, M)) else (zgd ((0 : Int) ≤ x4 ∧ x4 < 1000) (zbd (fX3_isOperand (M 56 x4) M) fun r4 => (if r4 = 0 then (if (M 56 x4) = (-111) then (if x2 < 1 then some (.inl (x2, (zw (x4 + 1)), M)) else (zgd ((0 : Int) ≤ (x2 - 1) ∧ (x2 - 1) < 32) (if (M 122 (x2 - 1)) = 0 then fX3_valueOf_j136 x2 x3 x4 1 (zw (x2 - 1)) M else fX3_valueOf_j136 x2 x3 x4 0 (zw (x2 - 1)) M))) else (if x2 < 2 then some (.inl (x2, (zw (x4 + 1)), M)) else (zgd ((0 : Int) ≤ ((zw (x2 + (-1))) - 1) ∧ ((zw (x2 + (-1))) - 1) < 32) (zgd ((0 : Int) ≤ (zw (x2 + (-1))) ∧ (zw (x2 + (-1))) < 32) (zbd (fX3_joined (zw (-(M 56 x4))) (M 122 ((zw (x2 + (-1))) - 1)) (M 122 (zw (x2 + (-1)))) M) fun r10 => (zgd ((0 : Int) ≤ ((zw (x2 + (-1))) - 1) ∧ ((zw (x2 + (-1))) - 1) < 32) (some (.inl ((zw (x2 + (-1))), (zw (x4 + 1)), (zup M 122 ((zw (x2 + (-1))) - 1) r10)))))))))) else (if 32 ≤ x2 then some (.inl (x2, (zw (x4 + 1)), M)) else (if (M 56 x4) < 0 then (zgd ((0 : Int) ≤ ((-(M 56 x4)) - 100) ∧ ((-(M 56 x4)) - 100) < 29) (fX3_valueOf_j94 x2 x3 x4 (M 123 ((-(M 56 x4)) - 100)) x2 M)) else fX3_valueOf_j94 x2 x3 x4 (M 56 x4) x2 M))))))
set_option maxRecDepth 100000 in
set_option maxHeartbeats 4000000 in
theorem fX3_valueOf_l33_ok {Z : zZ} (hZ : zB Z) {nn : Nat} (hn : 1 ≤ nn)  {x3 x2 x4 : Int} (hx3 : z32 x3) (hx2 : z32 x2) (hx4 : z32 x4) {M : zMem} {Q : Option zAV → zMem → zZ → Prop} {P : (Int × Int × zMem) ⊕ (Int × Int × zMem) → Prop} (h : zSat (fX3_valueOf_l33 x3 x2 x4 M) P)  (hc : ∀ s : Int × Int × zMem, P (.inl s) → z32 (s.1) → z32 (s.2.1) → zV zmX3_valueOf nn 0 0 Z 33 [(0, zR 120), (2, zI (s.1)), (3, zI x3), (4, zI (s.2.1))] [] (s.2.2) Q) (he : ∀ s : Int × Int × zMem, P (.inr s) → z32 (s.1) → z32 (s.2.1) → zV zmX3_valueOf nn 0 0 Z 182 [(0, zR 120), (2, zI (s.1)), (3, zI x3), (4, zI (s.2.1))] [] (s.2.2) Q)   : zV zmX3_valueOf nn 0 0 Z 33 [(0, zR 120), (2, zI x2), (3, zI x3), (4, zI x4)] [] M Q := by
  unfold fX3_valueOf_l33 at h
  refine zV_iload 3 dX3_valueOf_33 rfl ?_
  refine zV_iload_n 2 dX3_valueOf_35 rfl rfl ?_
  refine zV_icmp_ge 182 dX3_valueOf_36 (by decide) hx4 hx3 (fun hc_ => ?_) (fun hc_ => ?_)
  · replace h := zs_t h hc_
    exact he _ h hx2 hx4
  · replace h := zs_f h hc_
    refine zV_aload_n 0 dX3_valueOf_39 rfl rfl ?_
    refine zV_getR (j := 40) (zq_120 hZ) zf_X3_0 zkf_X3_26 rfl dX3_valueOf_40 ?_
    refine zV_getR (j := 56) (zq_40 hZ) zf_X7_15 zkf_X3_43 rfl dX3_valueOf_43 ?_
    refine zV_iload 3 dX3_valueOf_46 rfl ?_
    obtain ⟨hg, h⟩ := zs_gd h
    refine zV_iald (zq_56 hZ) hg dX3_valueOf_48 (fun m3 => ?_)
    refine zV_istore [(5, zI (M 56 x4)), (0, zR 120), (2, zI x2), (3, zI x3), (4, zI x4)] dX3_valueOf_49 (by decide) rfl ?_
    refine zV_iload 0 dX3_valueOf_51 rfl ?_
    refine zV_cSI (y' := zmX3_isOperand) (n' := 0) (As := [zI (M 56 x4)]) zc_X3_46 dX3_valueOf_53 (Nat.le_trans (by decide) hn) rfl (Nat.le_of_ble_eq_true rfl) (Nat.le_of_ble_eq_true rfl) rfl h (fun Q' h' => fX3_isOperand_ok hZ (Nat.le_refl _) m3 h') (fun r4 c5 b6 h => ?_)
    refine zV_if_eq 101 dX3_valueOf_56 (by decide) c5 (fun hc_ => ?_) (fun hc_ => ?_)
    · replace h := zs_t h hc_
      refine zV_iload 0 dX3_valueOf_101 rfl ?_
      refine zV_bipush (v := (-111)) dX3_valueOf_103 rfl ?_
      refine zV_icmp_ne 140 dX3_valueOf_105 (by decide) m3 zi_n111 (fun hc_ => ?_) (fun hc_ => ?_)
      · replace h := zs_f h hc_
        refine zV_iload_n 2 dX3_valueOf_140 rfl rfl ?_
        refine zV_iconst (v := 2) dX3_valueOf_141 rfl ?_
        refine zV_icmp_lt 176 dX3_valueOf_142 (by decide) hx2 zi_2 (fun hc_ => ?_) (fun hc_ => ?_)
        · replace h := zs_t h hc_
          refine zV_iinc 4 [(4, zI (zw (x4 + 1))), (5, zI (M 56 x4)), (0, zR 120), (2, zI x2), (3, zI x3)] dX3_valueOf_176 rfl rfl (by decide) rfl ?_
          refine zV_goto 33 dX3_valueOf_179 (by decide) ?_
          refine zV_ls [2, 3, 4, 0] rfl ?_
          exact hc _ h hx2 (z32_w _)
        · replace h := zs_f h hc_
          refine zV_iinc 2 [(2, zI (zw (x2 + (-1)))), (5, zI (M 56 x4)), (0, zR 120), (3, zI x3), (4, zI x4)] dX3_valueOf_145 rfl rfl (by decide) rfl ?_
          refine zV_aload_n 2 dX3_valueOf_148 rfl rfl ?_
          refine zV_getR (j := 122) (zq_120 hZ) zf_X3_1 zkf_X3_9 rfl dX3_valueOf_149 ?_
          refine zV_iload_n 0 dX3_valueOf_152 rfl rfl ?_
          refine zV_iconst (v := 1) dX3_valueOf_153 rfl ?_
          refine zV_isub dX3_valueOf_154 ?_
          refine zV_iload 1 dX3_valueOf_155 rfl ?_
          refine zV_ineg dX3_valueOf_157 ?_
          refine zV_aload_n 2 dX3_valueOf_158 rfl rfl ?_
          refine zV_getR (j := 122) (zq_120 hZ) zf_X3_1 zkf_X3_9 rfl dX3_valueOf_159 ?_
          refine zV_iload_n 0 dX3_valueOf_162 rfl rfl ?_
          refine zV_iconst (v := 1) dX3_valueOf_163 rfl ?_
          refine zV_isub dX3_valueOf_164 ?_
          obtain ⟨hg, h⟩ := zs_gd h
          refine zV_iald (zq_122 hZ) hg dX3_valueOf_165 (fun m8 => ?_)
          refine zV_aload_n 2 dX3_valueOf_166 rfl rfl ?_
          refine zV_getR (j := 122) (zq_120 hZ) zf_X3_1 zkf_X3_9 rfl dX3_valueOf_167 ?_
          refine zV_iload_n 0 dX3_valueOf_170 rfl rfl ?_
          obtain ⟨hg, h⟩ := zs_gd h
          refine zV_iald (zq_122 hZ) hg dX3_valueOf_171 (fun m9 => ?_)
          refine zV_wn 2 (st' := [zI (M 122 (zw (x2 + (-1)))), zI (M 122 ((zw (x2 + (-1))) - 1)), zI (zw (-(M 56 x4))), zI ((zw (x2 + (-1))) - 1), zR 122]) rfl rfl ?_
          refine zV_cSI (y' := zmX3_joined) (n' := 0) (As := [zI (zw (-(M 56 x4))), zI (M 122 ((zw (x2 + (-1))) - 1)), zI (M 122 (zw (x2 + (-1))))]) zc_X3_50 dX3_valueOf_172 (Nat.le_trans (by decide) hn) rfl (Nat.le_of_ble_eq_true rfl) (Nat.le_of_ble_eq_true rfl) rfl h (fun Q' h' => fX3_joined_ok hZ (Nat.le_refl _) (z32_w _) m8 m9 h') (fun r10 c11 b12 h => ?_)
          obtain ⟨hg, h⟩ := zs_gd h
          refine zV_iast (zq_122 hZ) (by decide) hg c11 dX3_valueOf_175 ?_
          refine zV_iinc 4 [(4, zI (zw (x4 + 1))), (2, zI (zw (x2 + (-1)))), (5, zI (M 56 x4)), (0, zR 120), (3, zI x3)] dX3_valueOf_176 rfl rfl (by decide) rfl ?_
          refine zV_goto 33 dX3_valueOf_179 (by decide) ?_
          refine zV_ls [3, 1, 4, 0] rfl ?_
          exact hc _ h (z32_w _) (z32_w _)
      · replace h := zs_t h hc_
        refine zV_iload_n 2 dX3_valueOf_108 rfl rfl ?_
        refine zV_iconst (v := 1) dX3_valueOf_109 rfl ?_
        refine zV_icmp_lt 176 dX3_valueOf_110 (by decide) hx2 zi_1 (fun hc_ => ?_) (fun hc_ => ?_)
        · replace h := zs_t h hc_
          refine zV_iinc 4 [(4, zI (zw (x4 + 1))), (5, zI (M 56 x4)), (0, zR 120), (2, zI x2), (3, zI x3)] dX3_valueOf_176 rfl rfl (by decide) rfl ?_
          refine zV_goto 33 dX3_valueOf_179 (by decide) ?_
          refine zV_ls [2, 3, 4, 0] rfl ?_
          exact hc _ h hx2 (z32_w _)
        · replace h := zs_f h hc_
          refine zV_aload_n 1 dX3_valueOf_113 rfl rfl ?_
          refine zV_getR (j := 122) (zq_120 hZ) zf_X3_1 zkf_X3_9 rfl dX3_valueOf_114 ?_
          refine zV_iload_n 2 dX3_valueOf_117 rfl rfl ?_
          refine zV_iconst (v := 1) dX3_valueOf_118 rfl ?_
          refine zV_isub dX3_valueOf_119 ?_
          refine zV_aload_n 1 dX3_valueOf_120 rfl rfl ?_
          refine zV_getR (j := 122) (zq_120 hZ) zf_X3_1 zkf_X3_9 rfl dX3_valueOf_121 ?_
          refine zV_iload_n 2 dX3_valueOf_124 rfl rfl ?_
          refine zV_iconst (v := 1) dX3_valueOf_125 rfl ?_
          refine zV_isub dX3_valueOf_126 ?_
          obtain ⟨hg, h⟩ := zs_gd h
          refine zV_iald (zq_122 hZ) hg dX3_valueOf_127 (fun m14 => ?_)
          refine zV_if_ne 135 dX3_valueOf_128 (by decide) m14 (fun hc_ => ?_) (fun hc_ => ?_)
          · replace h := zs_f h hc_
            refine zV_iconst (v := 0) dX3_valueOf_135 rfl ?_
            refine zV_w2 ?_
            refine zV_ls [1, 2, 3, 4] rfl ?_
            exact fX3_valueOf_j136_ok hZ hn hx2 hx3 hx4 zi_0 (Or.inl rfl) (z32_w _) h hc he
          · replace h := zs_t h hc_
            refine zV_iconst (v := 1) dX3_valueOf_131 rfl ?_
            refine zV_goto 136 dX3_valueOf_132 (by decide) ?_
            refine zV_w2 ?_
            refine zV_ls [1, 2, 3, 4] rfl ?_
            exact fX3_valueOf_j136_ok hZ hn hx2 hx3 hx4 zi_1 (Or.inr rfl) (z32_w _) h hc he
    · replace h := zs_f h hc_
      refine zV_iload_n 2 dX3_valueOf_59 rfl rfl ?_
      refine zV_aload_n 1 dX3_valueOf_60 rfl rfl ?_
      refine zV_getR (j := 122) (zq_120 hZ) zf_X3_1 zkf_X3_9 rfl dX3_valueOf_61 ?_
      refine zV_alen (zq_122 hZ) (by decide) dX3_valueOf_64 ?_
      refine zV_icmp_ge 176 dX3_valueOf_65 (by decide) hx2 zi_32 (fun hc_ => ?_) (fun hc_ => ?_)
      · replace h := zs_t h hc_
        refine zV_iinc 4 [(4, zI (zw (x4 + 1))), (5, zI (M 56 x4)), (0, zR 120), (2, zI x2), (3, zI x3)] dX3_valueOf_176 rfl rfl (by decide) rfl ?_
        refine zV_goto 33 dX3_valueOf_179 (by decide) ?_
        refine zV_ls [2, 3, 4, 0] rfl ?_
        exact hc _ h hx2 (z32_w _)
      · replace h := zs_f h hc_
        refine zV_aload_n 1 dX3_valueOf_68 rfl rfl ?_
        refine zV_getR (j := 122) (zq_120 hZ) zf_X3_1 zkf_X3_9 rfl dX3_valueOf_69 ?_
        refine zV_iload_n 2 dX3_valueOf_72 rfl rfl ?_
        refine zV_iload 0 dX3_valueOf_73 rfl ?_
        refine zV_if_lt 83 dX3_valueOf_75 (by decide) m3 (fun hc_ => ?_) (fun hc_ => ?_)
        · replace h := zs_t h hc_
          refine zV_aload_n 1 dX3_valueOf_83 rfl rfl ?_
          refine zV_getR (j := 123) (zq_120 hZ) zf_X3_2 zkf_X3_23 rfl dX3_valueOf_84 ?_
          refine zV_iload 0 dX3_valueOf_87 rfl ?_
          refine zV_ineg dX3_valueOf_89 ?_
          refine zV_bipush (v := 100) dX3_valueOf_90 rfl ?_
          refine zV_isub dX3_valueOf_92 ?_
          obtain ⟨hg, h⟩ := zs_gd h
          refine zV_iald (zq_123 hZ) hg dX3_valueOf_93 (fun m15 => ?_)
          refine zV_ls [1, 2, 3, 4] rfl ?_
          exact fX3_valueOf_j94_ok hZ hn hx2 hx3 hx4 m15 hx2 h hc he
        · replace h := zs_f h hc_
          refine zV_iload 0 dX3_valueOf_78 rfl ?_
          refine zV_goto 94 dX3_valueOf_80 (by decide) ?_
          refine zV_ls [1, 2, 3, 4] rfl ?_
          exact fX3_valueOf_j94_ok hZ hn hx2 hx3 hx4 m3 hx2 h hc he
noncomputable def fX3_valueOf_j31 (x2 x3 s0 : Int) (M : zMem) : Option (Int × zMem) :=
  (zbd (zit (fun s16 => fX3_valueOf_l33 x3 (s16.1) (s16.2.1) (s16.2.2)) (x2, s0, M)) fun s23 => (zgd ((0 : Int) ≤ (0 : Int) ∧ (0 : Int) < 32) (some (((s23.2.2) 122 0), s23.2.2))))
set_option maxRecDepth 100000 in
set_option maxHeartbeats 4000000 in
theorem fX3_valueOf_j31_ok {Z : zZ} (hZ : zB Z) {nn : Nat} (hn : 1 ≤ nn)  {x2 x3 s0 : Int} (hx2 : z32 x2) (hbx2 : x2 = 0 ∨ x2 = 1) (hx3 : z32 x3) (hs0 : z32 s0) {M : zMem} {Q : Option zAV → zMem → zZ → Prop} (h : zSat (fX3_valueOf_j31 x2 x3 s0 M) (fun r => Q (some (zI r.1)) r.2 Z))  : zV zmX3_valueOf nn 0 0 Z 31 [(0, zR 120), (2, zI x2), (3, zI x3)] [zI s0] M Q := by
  unfold fX3_valueOf_j31 at h
  refine zV_istore [(4, zI s0), (0, zR 120), (2, zI x2), (3, zI x3)] dX3_valueOf_31 (by decide) rfl ?_
  refine zV_ls [1, 2, 3, 0] rfl ?_
  refine (zV_loop (Vh := fun s16 : Int × Int × zMem => z32 (s16.1) → z32 (s16.2.1) → zV zmX3_valueOf nn 0 0 Z 33 [(0, zR 120), (2, zI (s16.1)), (3, zI x3), (4, zI (s16.2.1))] [] (s16.2.2) Q) h (fun s16 P17 hP18 hc19 he20 => ?_)) hx2 hs0
  intro c21 c22
  refine fX3_valueOf_l33_ok hZ hn hx3 c21 c22 hP18 hc19 (fun s23 h24 d25 d26 => ?_)
  have h := he20 _ h24
  refine zV_aload_n 0 dX3_valueOf_182 rfl rfl ?_
  refine zV_getR (j := 122) (zq_120 hZ) zf_X3_1 zkf_X3_9 rfl dX3_valueOf_183 ?_
  refine zV_iconst (v := 0) dX3_valueOf_186 rfl ?_
  obtain ⟨hg, h⟩ := zs_gd h
  refine zV_iald (zq_122 hZ) hg dX3_valueOf_187 (fun m27 => ?_)
  exact zV_ireti dX3_valueOf_188 rfl m27 h
noncomputable def fX3_valueOf (x1 : Int) (M : zMem) : Option (Int × zMem) :=
  (zgd ((0 : Int) ≤ x1 ∧ x1 < 4) (if x1 = 0 then fX3_valueOf_j31 0 (M 58 x1) 0 M else (zgd ((0 : Int) ≤ (x1 - 1) ∧ (x1 - 1) < 4) (fX3_valueOf_j31 0 (M 58 x1) (M 58 (x1 - 1)) M))))
set_option maxRecDepth 100000 in
set_option maxHeartbeats 4000000 in
theorem fX3_valueOf_ok {Z : zZ} (hZ : zB Z) {nn : Nat} (hn : 1 ≤ nn)  {x1 : Int} (hx1 : z32 x1) {M : zMem} {Q : Option zAV → zMem → zZ → Prop} (h : zSat (fX3_valueOf x1 M) (fun r => Q (some (zI r.1)) r.2 Z))  : zV zmX3_valueOf nn 0 0 Z 0 [(0, zR 120), (1, zI x1)] [] M Q := by
  unfold fX3_valueOf at h
  refine zV_iconst (v := 0) dX3_valueOf_0 rfl ?_
  refine zV_istore_n [(2, zI 0), (0, zR 120), (1, zI x1)] dX3_valueOf_1 rfl (by decide) rfl ?_
  refine zV_aload_n 1 dX3_valueOf_2 rfl rfl ?_
  refine zV_getR (j := 40) (zq_120 hZ) zf_X3_0 zkf_X3_26 rfl dX3_valueOf_3 ?_
  refine zV_getR (j := 58) (zq_40 hZ) zf_X7_17 zkf_X3_40 rfl dX3_valueOf_6 ?_
  refine zV_iload_n 2 dX3_valueOf_9 rfl rfl ?_
  obtain ⟨hg, h⟩ := zs_gd h
  refine zV_iald (zq_58 hZ) hg dX3_valueOf_10 (fun m1 => ?_)
  refine zV_istore_n [(3, zI (M 58 x1)), (2, zI 0), (0, zR 120), (1, zI x1)] dX3_valueOf_11 rfl (by decide) rfl ?_
  refine zV_iload_n 3 dX3_valueOf_12 rfl rfl ?_
  refine zV_if_ne 20 dX3_valueOf_13 (by decide) hx1 (fun hc_ => ?_) (fun hc_ => ?_)
  · replace h := zs_f h hc_
    refine zV_aload_n 2 dX3_valueOf_20 rfl rfl ?_
    refine zV_getR (j := 40) (zq_120 hZ) zf_X3_0 zkf_X3_26 rfl dX3_valueOf_21 ?_
    refine zV_getR (j := 58) (zq_40 hZ) zf_X7_17 zkf_X3_40 rfl dX3_valueOf_24 ?_
    refine zV_iload_n 3 dX3_valueOf_27 rfl rfl ?_
    refine zV_iconst (v := 1) dX3_valueOf_28 rfl ?_
    refine zV_isub dX3_valueOf_29 ?_
    obtain ⟨hg, h⟩ := zs_gd h
    refine zV_iald (zq_58 hZ) hg dX3_valueOf_30 (fun m2 => ?_)
    refine zV_ls [2, 1, 0] rfl ?_
    exact fX3_valueOf_j31_ok hZ hn zi_0 (Or.inl rfl) m1 m2 h
  · replace h := zs_t h hc_
    refine zV_iconst (v := 0) dX3_valueOf_16 rfl ?_
    refine zV_goto 31 dX3_valueOf_17 (by decide) ?_
    refine zV_ls [2, 1, 0] rfl ?_
    exact fX3_valueOf_j31_ok hZ hn zi_0 (Or.inl rfl) m1 zi_0 h
noncomputable def fX3_allows_l10 (x1 x3 : Int) (M : zMem) : Option ((Int × zMem) ⊕ ((Int × zMem) ⊕ (Int × zMem))) :=
  (if (M 40 13) ≤ x3 then some (.inr (.inl (x3, M))) else (if (zand (zshr x1 x3) 1) = 0 then some (.inl ((zw (x3 + 1)), M)) else (zbd2 (fX3_valueOf x3 M) fun r2 M5 => (if r2 = 0 then some (.inr (.inr (0, M5))) else some (.inl ((zw (x3 + 1)), M5))))))
set_option maxRecDepth 100000 in
set_option maxHeartbeats 4000000 in
theorem fX3_allows_l10_ok {Z : zZ} (hZ : zB Z) {nn : Nat} (hn : 2 ≤ nn)  {x1 x3 : Int} (hx1 : z32 x1) (hx3 : z32 x3) {M : zMem} {Q : Option zAV → zMem → zZ → Prop} {P : (Int × zMem) ⊕ ((Int × zMem) ⊕ (Int × zMem)) → Prop} (h : zSat (fX3_allows_l10 x1 x3 M) P)  (hc : ∀ s : Int × zMem, P (.inl s) → z32 (s.1) → zV zmX3_allows nn 0 0 Z 10 [(0, zR 120), (1, zI x1), (3, zI (s.1))] [] (s.2) Q) (he : ∀ s : Int × zMem, P (.inr (.inl s)) → z32 (s.1) → zV zmX3_allows nn 0 0 Z 45 [(0, zR 120), (1, zI x1), (3, zI (s.1))] [] (s.2) Q) (hr : ∀ r : Int × zMem, P (.inr (.inr r)) → (fun r => Q (some (zI r.1)) r.2 Z) r)  : zV zmX3_allows nn 0 0 Z 10 [(0, zR 120), (1, zI x1), (3, zI x3)] [] M Q := by
  unfold fX3_allows_l10 at h
  refine zV_iload_n 2 dX3_allows_10 rfl rfl ?_
  refine zV_aload_n 0 dX3_allows_11 rfl rfl ?_
  refine zV_getR (j := 40) (zq_120 hZ) zf_X3_0 zkf_X3_26 rfl dX3_allows_12 ?_
  refine zV_getI (zq_40 hZ) zf_X7_13 zkf_X3_30 rfl dX3_allows_15 (fun m1 => ?_)
  refine zV_icmp_ge 45 dX3_allows_18 (by decide) hx3 m1 (fun hc_ => ?_) (fun hc_ => ?_)
  · replace h := zs_t h hc_
    exact he _ h hx3
  · replace h := zs_f h hc_
    refine zV_iload_n 1 dX3_allows_21 rfl rfl ?_
    refine zV_iload_n 2 dX3_allows_22 rfl rfl ?_
    refine zV_ishr dX3_allows_23 ?_
    refine zV_iconst (v := 1) dX3_allows_24 rfl ?_
    refine zV_iand dX3_allows_25 ?_
    refine zV_if_eq 39 dX3_allows_26 (by decide) (z32_i _) (fun hc_ => ?_) (fun hc_ => ?_)
    · replace h := zs_t h hc_
      refine zV_iinc 2 [(3, zI (zw (x3 + 1))), (0, zR 120), (1, zI x1)] dX3_allows_39 rfl rfl (by decide) rfl ?_
      refine zV_goto 10 dX3_allows_42 (by decide) ?_
      refine zV_ls [1, 2, 0] rfl ?_
      exact hc _ h (z32_w _)
    · replace h := zs_f h hc_
      refine zV_aload_n 0 dX3_allows_29 rfl rfl ?_
      refine zV_iload_n 2 dX3_allows_30 rfl rfl ?_
      refine zV_cVIm (y' := zmX3_valueOf) (n' := 1) (As := [zI x3]) zc_X3_36 (zq_120 hZ) rfl dX3_allows_31 (Nat.le_trans (by decide) hn) rfl (Nat.le_of_ble_eq_true rfl) (Nat.le_of_ble_eq_true rfl) rfl h (fun Q' h' => fX3_valueOf_ok hZ (Nat.le_refl _) hx3 h') (fun r2 M5 c3 b4 h => ?_)
      refine zV_if_ne 39 dX3_allows_34 (by decide) c3 (fun hc_ => ?_) (fun hc_ => ?_)
      · replace h := zs_f h hc_
        refine zV_iinc 2 [(3, zI (zw (x3 + 1))), (0, zR 120), (1, zI x1)] dX3_allows_39 rfl rfl (by decide) rfl ?_
        refine zV_goto 10 dX3_allows_42 (by decide) ?_
        refine zV_ls [1, 2, 0] rfl ?_
        exact hc _ h (z32_w _)
      · replace h := zs_t h hc_
        refine zV_iconst (v := 0) dX3_allows_37 rfl ?_
        exact zV_iretb dX3_allows_38 rfl (Or.inl rfl) (hr _ h)
noncomputable def fX3_allows (x1 x2 : Int) (M : zMem) : Option (Int × zMem) :=
  (zgd ((0 : Int) ≤ (25 : Int) ∧ (25 : Int) < 29) (zbd (zit (fun s6 => fX3_allows_l10 x1 (s6.1) (s6.2)) (0, (zup M 123 25 x2))) fun e => zel e (fun s12 => some (1, s12.2)) (fun r => some r)))
set_option maxRecDepth 100000 in
set_option maxHeartbeats 4000000 in
theorem fX3_allows_ok {Z : zZ} (hZ : zB Z) {nn : Nat} (hn : 2 ≤ nn)  {x1 x2 : Int} (hx1 : z32 x1) (hx2 : z32 x2) {M : zMem} {Q : Option zAV → zMem → zZ → Prop} (h : zSat (fX3_allows x1 x2 M) (fun r => Q (some (zI r.1)) r.2 Z))  : zV zmX3_allows nn 0 0 Z 0 [(0, zR 120), (1, zI x1), (2, zI x2)] [] M Q := by
  unfold fX3_allows at h
  refine zV_aload_n 0 dX3_allows_0 rfl rfl ?_
  refine zV_getR (j := 123) (zq_120 hZ) zf_X3_2 zkf_X3_23 rfl dX3_allows_1 ?_
  refine zV_bipush (v := 25) dX3_allows_4 rfl ?_
  refine zV_iload_n 2 dX3_allows_6 rfl rfl ?_
  obtain ⟨hg, h⟩ := zs_gd h
  refine zV_iast (zq_123 hZ) (by decide) hg hx2 dX3_allows_7 ?_
  refine zV_iconst (v := 0) dX3_allows_8 rfl ?_
  refine zV_istore_n [(3, zI 0), (0, zR 120), (1, zI x1), (2, zI x2)] dX3_allows_9 rfl (by decide) rfl ?_
  refine zV_ls [1, 2, 0] rfl ?_
  refine (zV_loop (Vh := fun s6 : Int × zMem => z32 (s6.1) → zV zmX3_allows nn 0 0 Z 10 [(0, zR 120), (1, zI x1), (3, zI (s6.1))] [] (s6.2) Q) h (fun s6 P7 hP8 hc9 he10 => ?_)) zi_0
  intro c11
  refine fX3_allows_l10_ok hZ hn hx1 c11 hP8 hc9 (fun s12 h13 d14 => ?_) (fun r15 h16 => he10 _ h16)
  have h := he10 _ h13
  refine zV_iconst (v := 1) dX3_allows_45 rfl ?_
  exact zV_iretb dX3_allows_46 rfl (Or.inr rfl) h
noncomputable def fX7_apart (o : Nat) (x1 x2 : Int) (M : zMem) : Option (Int) :=
  (zgd ((0 : Int) ≤ x1 ∧ x1 < 12) (zgd ((0 : Int) ≤ x2 ∧ x2 < 12) (some (zw (zabs (zw ((M (o + 3) x1) - (M (o + 3) x2))))))))
set_option maxRecDepth 100000 in
set_option maxHeartbeats 4000000 in
theorem fX7_apart_ok {Z : zZ} (hZ : zB Z) {nn : Nat} (hn : 1 ≤ nn) {o : Nat} (hS_o : zSU Z o) (hw_o : o < 900)  {x1 x2 : Int} (hx1 : z32 x1) (hx2 : z32 x2) {M : zMem} {Q : Option zAV → zMem → zZ → Prop} (h : zSat (fX7_apart o x1 x2 M) (fun r => Q (some (zI r)) M Z))  : zV zmX7_apart nn 0 0 Z 0 [(0, zR o), (1, zI x1), (2, zI x2)] [] M Q := by
  unfold fX7_apart at h
  refine zV_aload_n 0 dX7_apart_0 rfl rfl ?_
  refine zV_getR (j := (o + 3)) (zsu_c hS_o) zf_X7_2 zkf_X7_9 rfl dX7_apart_1 ?_
  refine zV_iload_n 1 dX7_apart_4 rfl rfl ?_
  obtain ⟨hg, h⟩ := zs_gd h
  refine zV_iald (zsu_2 hS_o) hg dX7_apart_5 (fun m1 => ?_)
  refine zV_aload_n 0 dX7_apart_6 rfl rfl ?_
  refine zV_getR (j := (o + 3)) (zsu_c hS_o) zf_X7_2 zkf_X7_9 rfl dX7_apart_7 ?_
  refine zV_iload_n 2 dX7_apart_10 rfl rfl ?_
  obtain ⟨hg, h⟩ := zs_gd h
  refine zV_iald (zsu_2 hS_o) hg dX7_apart_11 (fun m2 => ?_)
  refine zV_isub dX7_apart_12 ?_
  refine zV_w ?_
  refine zV_mabs zml_X7_92 dX7_apart_13 (Nat.le_trans (by decide) hn) (Nat.le_of_ble_eq_true rfl) (z32_w _) ?_
  refine zV_w ?_
  exact zV_ireti dX7_apart_16 rfl (z32_w _) h
noncomputable def fX5_firstIn_l2 (o : Nat) (x1 x2 : Int) (M : zMem) : Option ((Int) ⊕ ((Int) ⊕ (Int))) :=
  (if (M o 0) ≤ x2 then some (.inr (.inl x2)) else (zbd (fX5_lasts o x2 x1 M) fun r2 => (if r2 = 0 then some (.inl (zw (x2 + 1))) else some (.inr (.inr x2)))))
set_option maxRecDepth 100000 in
set_option maxHeartbeats 4000000 in
theorem fX5_firstIn_l2_ok {Z : zZ} (hZ : zB Z) {nn : Nat} (hn : 2 ≤ nn) {o : Nat} (hS_o : zPI Z o) (hw_o : o < 900)  {x1 x2 : Int} (hx1 : z32 x1) (hx2 : z32 x2) {M : zMem} {Q : Option zAV → zMem → zZ → Prop} {P : (Int) ⊕ ((Int) ⊕ (Int)) → Prop} (h : zSat (fX5_firstIn_l2 o x1 x2 M) P)  (hc : ∀ s : Int, P (.inl s) → z32 s → zV zmX5_firstIn nn 0 0 Z 2 [(0, zR o), (1, zI x1), (2, zI s)] [] M Q) (he : ∀ s : Int, P (.inr (.inl s)) → z32 s → zV zmX5_firstIn nn 0 0 Z 27 [(0, zR o), (1, zI x1), (2, zI s)] [] M Q) (hr : ∀ r : Int, P (.inr (.inr r)) → (fun r => Q (some (zI r)) M Z) r)  : zV zmX5_firstIn nn 0 0 Z 2 [(0, zR o), (1, zI x1), (2, zI x2)] [] M Q := by
  unfold fX5_firstIn_l2 at h
  refine zV_iload_n 2 dX5_firstIn_2 rfl rfl ?_
  refine zV_aload_n 0 dX5_firstIn_3 rfl rfl ?_
  refine zV_getI (zpi_c hS_o) zf_X5_0 zkf_X5_27 rfl dX5_firstIn_4 (fun m1 => ?_)
  refine zV_icmp_ge 27 dX5_firstIn_7 (by decide) hx2 m1 (fun hc_ => ?_) (fun hc_ => ?_)
  · replace h := zs_t h hc_
    exact he _ h hx2
  · replace h := zs_f h hc_
    refine zV_aload_n 0 dX5_firstIn_10 rfl rfl ?_
    refine zV_iload_n 2 dX5_firstIn_11 rfl rfl ?_
    refine zV_iload_n 1 dX5_firstIn_12 rfl rfl ?_
    refine zV_cVI (y' := zmX5_lasts) (n' := 1) (As := [zI x2, zI x1]) zc_X5_45 (zpi_c hS_o) rfl dX5_firstIn_13 (Nat.le_trans (by decide) hn) rfl (Nat.le_of_ble_eq_true rfl) (Nat.le_of_ble_eq_true rfl) rfl h (fun Q' h' => fX5_lasts_ok hZ (Nat.le_refl _) hS_o hw_o hx2 hx1 h') (fun r2 c3 b4 h => ?_)
    refine zV_if_eq 21 dX5_firstIn_16 (by decide) c3 (fun hc_ => ?_) (fun hc_ => ?_)
    · replace h := zs_t h hc_
      refine zV_iinc 2 [(2, zI (zw (x2 + 1))), (0, zR o), (1, zI x1)] dX5_firstIn_21 rfl rfl (by decide) rfl ?_
      refine zV_goto 2 dX5_firstIn_24 (by decide) ?_
      refine zV_ls [1, 2, 0] rfl ?_
      exact hc _ h (z32_w _)
    · replace h := zs_f h hc_
      refine zV_iload_n 2 dX5_firstIn_19 rfl rfl ?_
      exact zV_ireti dX5_firstIn_20 rfl hx2 (hr _ h)
noncomputable def fX5_firstIn (o : Nat) (x1 : Int) (M : zMem) : Option (Int) :=
  (zbd (zit (fun s6 => fX5_firstIn_l2 o x1 s6 M) 0) fun e => zel e (fun s12 => some (-1)) (fun r => some r))
set_option maxRecDepth 100000 in
set_option maxHeartbeats 4000000 in
theorem fX5_firstIn_ok {Z : zZ} (hZ : zB Z) {nn : Nat} (hn : 2 ≤ nn) {o : Nat} (hS_o : zPI Z o) (hw_o : o < 900)  {x1 : Int} (hx1 : z32 x1) {M : zMem} {Q : Option zAV → zMem → zZ → Prop} (h : zSat (fX5_firstIn o x1 M) (fun r => Q (some (zI r)) M Z))  : zV zmX5_firstIn nn 0 0 Z 0 [(0, zR o), (1, zI x1)] [] M Q := by
  unfold fX5_firstIn at h
  refine zV_iconst (v := 0) dX5_firstIn_0 rfl ?_
  refine zV_istore_n [(2, zI 0), (0, zR o), (1, zI x1)] dX5_firstIn_1 rfl (by decide) rfl ?_
  refine zV_ls [1, 2, 0] rfl ?_
  refine (zV_loop (Vh := fun s6 : Int => z32 s6 → zV zmX5_firstIn nn 0 0 Z 2 [(0, zR o), (1, zI x1), (2, zI s6)] [] M Q) h (fun s6 P7 hP8 hc9 he10 => ?_)) zi_0
  intro c11
  refine fX5_firstIn_l2_ok hZ hn hS_o hw_o hx1 c11 hP8 hc9 (fun s12 h13 d14 => ?_) (fun r15 h16 => he10 _ h16)
  have h := he10 _ h13
  refine zV_iconst (v := (-1)) dX5_firstIn_27 rfl ?_
  exact zV_ireti dX5_firstIn_28 rfl zi_n1 h
noncomputable def fX5_overlap (o : Nat) (x1 x2 : Int) (M : zMem) : Option (Int) :=
  (zgd ((0 : Int) ≤ x1 ∧ x1 < 24) (zbd (fX5_endOf o x2 M) fun r2 => (if r2 ≤ (M (o + 3) x1) then some 0 else (zgd ((0 : Int) ≤ x2 ∧ x2 < 24) (zbd (fX5_endOf o x1 M) fun r7 => (if r7 ≤ (M (o + 3) x2) then some 0 else some 1))))))
set_option maxRecDepth 100000 in
set_option maxHeartbeats 4000000 in
theorem fX5_overlap_ok {Z : zZ} (hZ : zB Z) {nn : Nat} (hn : 1 ≤ nn) {o : Nat} (hS_o : zPI Z o) (hw_o : o < 900)  {x1 x2 : Int} (hx1 : z32 x1) (hx2 : z32 x2) {M : zMem} {Q : Option zAV → zMem → zZ → Prop} (h : zSat (fX5_overlap o x1 x2 M) (fun r => Q (some (zI r)) M Z))  : zV zmX5_overlap nn 0 0 Z 0 [(0, zR o), (1, zI x1), (2, zI x2)] [] M Q := by
  unfold fX5_overlap at h
  refine zV_aload_n 0 dX5_overlap_0 rfl rfl ?_
  refine zV_getR (j := (o + 3)) (zpi_c hS_o) zf_X5_2 zkf_X5_15 rfl dX5_overlap_1 ?_
  refine zV_iload_n 1 dX5_overlap_4 rfl rfl ?_
  obtain ⟨hg, h⟩ := zs_gd h
  refine zV_iald (zpi_2 hS_o) hg dX5_overlap_5 (fun m1 => ?_)
  refine zV_aload_n 0 dX5_overlap_6 rfl rfl ?_
  refine zV_iload_n 2 dX5_overlap_7 rfl rfl ?_
  refine zV_cVI (y' := zmX5_endOf) (n' := 0) (As := [zI x2]) zc_X5_41 (zpi_c hS_o) rfl dX5_overlap_8 (Nat.le_trans (by decide) hn) rfl (Nat.le_of_ble_eq_true rfl) (Nat.le_of_ble_eq_true rfl) rfl h (fun Q' h' => fX5_endOf_ok hZ (Nat.le_refl _) hS_o hw_o hx2 h') (fun r2 c3 b4 h => ?_)
  refine zV_icmp_ge 32 dX5_overlap_11 (by decide) m1 c3 (fun hc_ => ?_) (fun hc_ => ?_)
  · replace h := zs_t h hc_
    refine zV_iconst (v := 0) dX5_overlap_32 rfl ?_
    exact zV_iretb dX5_overlap_33 rfl (Or.inl rfl) h
  · replace h := zs_f h hc_
    refine zV_aload_n 0 dX5_overlap_14 rfl rfl ?_
    refine zV_getR (j := (o + 3)) (zpi_c hS_o) zf_X5_2 zkf_X5_15 rfl dX5_overlap_15 ?_
    refine zV_iload_n 2 dX5_overlap_18 rfl rfl ?_
    obtain ⟨hg, h⟩ := zs_gd h
    refine zV_iald (zpi_2 hS_o) hg dX5_overlap_19 (fun m6 => ?_)
    refine zV_aload_n 0 dX5_overlap_20 rfl rfl ?_
    refine zV_iload_n 1 dX5_overlap_21 rfl rfl ?_
    refine zV_cVI (y' := zmX5_endOf) (n' := 0) (As := [zI x1]) zc_X5_41 (zpi_c hS_o) rfl dX5_overlap_22 (Nat.le_trans (by decide) hn) rfl (Nat.le_of_ble_eq_true rfl) (Nat.le_of_ble_eq_true rfl) rfl h (fun Q' h' => fX5_endOf_ok hZ (Nat.le_refl _) hS_o hw_o hx1 h') (fun r7 c8 b9 h => ?_)
    refine zV_icmp_ge 32 dX5_overlap_25 (by decide) m6 c8 (fun hc_ => ?_) (fun hc_ => ?_)
    · replace h := zs_t h hc_
      refine zV_iconst (v := 0) dX5_overlap_32 rfl ?_
      exact zV_iretb dX5_overlap_33 rfl (Or.inl rfl) h
    · replace h := zs_f h hc_
      refine zV_iconst (v := 1) dX5_overlap_28 rfl ?_
      refine zV_goto 33 dX5_overlap_29 (by decide) ?_
      exact zV_iretb dX5_overlap_33 rfl (Or.inr rfl) h
noncomputable def fX7_leftHand (o : Nat) (x1 : Int) (M : zMem) : Option (Int) :=
  (zgd ((0 : Int) ≤ (1 : Int) ∧ (1 : Int) < 11) (if (M (o + 19) 1) ≤ x1 then some 0 else some 1))
set_option maxRecDepth 100000 in
set_option maxHeartbeats 4000000 in
theorem fX7_leftHand_ok {Z : zZ} (hZ : zB Z) {nn : Nat} (hn : 0 ≤ nn) {o : Nat} (hS_o : zSU Z o) (hw_o : o < 900)  {x1 : Int} (hx1 : z32 x1) {M : zMem} {Q : Option zAV → zMem → zZ → Prop} (h : zSat (fX7_leftHand o x1 M) (fun r => Q (some (zI r)) M Z))  : zV zmX7_leftHand nn 0 0 Z 0 [(0, zR o), (1, zI x1)] [] M Q := by
  unfold fX7_leftHand at h
  refine zV_iload_n 1 dX7_leftHand_0 rfl rfl ?_
  refine zV_aload_n 0 dX7_leftHand_1 rfl rfl ?_
  refine zV_getR (j := (o + 19)) (zsu_c hS_o) zf_X7_18 zkf_X7_56 rfl dX7_leftHand_2 ?_
  refine zV_iconst (v := 1) dX7_leftHand_5 rfl ?_
  obtain ⟨hg, h⟩ := zs_gd h
  refine zV_iald (zsu_18 hS_o) hg dX7_leftHand_6 (fun m1 => ?_)
  refine zV_icmp_ge 14 dX7_leftHand_7 (by decide) hx1 m1 (fun hc_ => ?_) (fun hc_ => ?_)
  · replace h := zs_t h hc_
    refine zV_iconst (v := 0) dX7_leftHand_14 rfl ?_
    exact zV_iretb dX7_leftHand_15 rfl (Or.inl rfl) h
  · replace h := zs_f h hc_
    refine zV_iconst (v := 1) dX7_leftHand_10 rfl ?_
    refine zV_goto 15 dX7_leftHand_11 (by decide) ?_
    exact zV_iretb dX7_leftHand_15 rfl (Or.inr rfl) h
noncomputable def fX5_follows (o : Nat) (x1 x2 : Int) (M : zMem) : Option (Int) :=
  (zgd ((0 : Int) ≤ x1 ∧ x1 < 24) (zgd ((0 : Int) ≤ x2 ∧ x2 < 24) (if (M (o + 2) x1) = (M (o + 2) x2) then (zbd (fX5_endOf o x1 M) fun r3 => (zgd ((0 : Int) ≤ x2 ∧ x2 < 24) (if r3 = (M (o + 3) x2) then some 1 else some 0))) else some 0)))
set_option maxRecDepth 100000 in
set_option maxHeartbeats 4000000 in
theorem fX5_follows_ok {Z : zZ} (hZ : zB Z) {nn : Nat} (hn : 1 ≤ nn) {o : Nat} (hS_o : zPI Z o) (hw_o : o < 900)  {x1 x2 : Int} (hx1 : z32 x1) (hx2 : z32 x2) {M : zMem} {Q : Option zAV → zMem → zZ → Prop} (h : zSat (fX5_follows o x1 x2 M) (fun r => Q (some (zI r)) M Z))  : zV zmX5_follows nn 0 0 Z 0 [(0, zR o), (1, zI x1), (2, zI x2)] [] M Q := by
  unfold fX5_follows at h
  refine zV_aload_n 0 dX5_follows_0 rfl rfl ?_
  refine zV_getR (j := (o + 2)) (zpi_c hS_o) zf_X5_1 zkf_X5_9 rfl dX5_follows_1 ?_
  refine zV_iload_n 1 dX5_follows_4 rfl rfl ?_
  obtain ⟨hg, h⟩ := zs_gd h
  refine zV_iald (zpi_1 hS_o) hg dX5_follows_5 (fun m1 => ?_)
  refine zV_aload_n 0 dX5_follows_6 rfl rfl ?_
  refine zV_getR (j := (o + 2)) (zpi_c hS_o) zf_X5_1 zkf_X5_9 rfl dX5_follows_7 ?_
  refine zV_iload_n 2 dX5_follows_10 rfl rfl ?_
  obtain ⟨hg, h⟩ := zs_gd h
  refine zV_iald (zpi_1 hS_o) hg dX5_follows_11 (fun m2 => ?_)
  refine zV_icmp_ne 33 dX5_follows_12 (by decide) m1 m2 (fun hc_ => ?_) (fun hc_ => ?_)
  · replace h := zs_f h hc_
    refine zV_iconst (v := 0) dX5_follows_33 rfl ?_
    exact zV_iretb dX5_follows_34 rfl (Or.inl rfl) h
  · replace h := zs_t h hc_
    refine zV_aload_n 0 dX5_follows_15 rfl rfl ?_
    refine zV_iload_n 1 dX5_follows_16 rfl rfl ?_
    refine zV_cVI (y' := zmX5_endOf) (n' := 0) (As := [zI x1]) zc_X5_41 (zpi_c hS_o) rfl dX5_follows_17 (Nat.le_trans (by decide) hn) rfl (Nat.le_of_ble_eq_true rfl) (Nat.le_of_ble_eq_true rfl) rfl h (fun Q' h' => fX5_endOf_ok hZ (Nat.le_refl _) hS_o hw_o hx1 h') (fun r3 c4 b5 h => ?_)
    refine zV_aload_n 0 dX5_follows_20 rfl rfl ?_
    refine zV_getR (j := (o + 3)) (zpi_c hS_o) zf_X5_2 zkf_X5_15 rfl dX5_follows_21 ?_
    refine zV_iload_n 2 dX5_follows_24 rfl rfl ?_
    obtain ⟨hg, h⟩ := zs_gd h
    refine zV_iald (zpi_2 hS_o) hg dX5_follows_25 (fun m7 => ?_)
    refine zV_icmp_ne 33 dX5_follows_26 (by decide) c4 m7 (fun hc_ => ?_) (fun hc_ => ?_)
    · replace h := zs_f h hc_
      refine zV_iconst (v := 0) dX5_follows_33 rfl ?_
      exact zV_iretb dX5_follows_34 rfl (Or.inl rfl) h
    · replace h := zs_t h hc_
      refine zV_iconst (v := 1) dX5_follows_29 rfl ?_
      refine zV_goto 34 dX5_follows_30 (by decide) ?_
      exact zV_iretb dX5_follows_34 rfl (Or.inr rfl) h
noncomputable def fX7_hasPair (o : Nat) (x1 : Int) (M : zMem) : Option (Int) :=
  (if x1 < 0 then some 0 else (if (M o 7) ≤ x1 then some 0 else some 1))
set_option maxRecDepth 100000 in
set_option maxHeartbeats 4000000 in
theorem fX7_hasPair_ok {Z : zZ} (hZ : zB Z) {nn : Nat} (hn : 0 ≤ nn) {o : Nat} (hS_o : zSU Z o) (hw_o : o < 900)  {x1 : Int} (hx1 : z32 x1) {M : zMem} {Q : Option zAV → zMem → zZ → Prop} (h : zSat (fX7_hasPair o x1 M) (fun r => Q (some (zI r)) M Z))  : zV zmX7_hasPair nn 0 0 Z 0 [(0, zR o), (1, zI x1)] [] M Q := by
  unfold fX7_hasPair at h
  refine zV_iload_n 1 dX7_hasPair_0 rfl rfl ?_
  refine zV_if_lt 16 dX7_hasPair_1 (by decide) hx1 (fun hc_ => ?_) (fun hc_ => ?_)
  · replace h := zs_t h hc_
    refine zV_iconst (v := 0) dX7_hasPair_16 rfl ?_
    exact zV_iretb dX7_hasPair_17 rfl (Or.inl rfl) h
  · replace h := zs_f h hc_
    refine zV_iload_n 1 dX7_hasPair_4 rfl rfl ?_
    refine zV_aload_n 0 dX7_hasPair_5 rfl rfl ?_
    refine zV_getI (zsu_c hS_o) zf_X7_7 zkf_X7_66 rfl dX7_hasPair_6 (fun m1 => ?_)
    refine zV_icmp_ge 16 dX7_hasPair_9 (by decide) hx1 m1 (fun hc_ => ?_) (fun hc_ => ?_)
    · replace h := zs_t h hc_
      refine zV_iconst (v := 0) dX7_hasPair_16 rfl ?_
      exact zV_iretb dX7_hasPair_17 rfl (Or.inl rfl) h
    · replace h := zs_f h hc_
      refine zV_iconst (v := 1) dX7_hasPair_12 rfl ?_
      refine zV_goto 17 dX7_hasPair_13 (by decide) ?_
      exact zV_iretb dX7_hasPair_17 rfl (Or.inr rfl) h
noncomputable def fX7_speedAt (o : Nat) (x1 x2 x3 : Int) (M : zMem) : Option (Int) :=
  (zgd ((0 : Int) ≤ x1 ∧ x1 < 8) (zgd ((0 : Int) ≤ x1 ∧ x1 < 8) (some (zw (zabs (zw ((x2 * (M (o + 12) x1)) - (x3 * (M (o + 10) x1)))))))))
set_option maxRecDepth 100000 in
set_option maxHeartbeats 4000000 in
theorem fX7_speedAt_ok {Z : zZ} (hZ : zB Z) {nn : Nat} (hn : 1 ≤ nn) {o : Nat} (hS_o : zSU Z o) (hw_o : o < 900)  {x1 x2 x3 : Int} (hx1 : z32 x1) (hx2 : z32 x2) (hx3 : z32 x3) {M : zMem} {Q : Option zAV → zMem → zZ → Prop} (h : zSat (fX7_speedAt o x1 x2 x3 M) (fun r => Q (some (zI r)) M Z))  : zV zmX7_speedAt nn 0 0 Z 0 [(0, zR o), (1, zI x1), (2, zI x2), (3, zI x3)] [] M Q := by
  unfold fX7_speedAt at h
  refine zV_iload_n 2 dX7_speedAt_0 rfl rfl ?_
  refine zV_aload_n 0 dX7_speedAt_1 rfl rfl ?_
  refine zV_getR (j := (o + 12)) (zsu_c hS_o) zf_X7_11 zkf_X7_36 rfl dX7_speedAt_2 ?_
  refine zV_iload_n 1 dX7_speedAt_5 rfl rfl ?_
  obtain ⟨hg, h⟩ := zs_gd h
  refine zV_iald (zsu_11 hS_o) hg dX7_speedAt_6 (fun m1 => ?_)
  refine zV_imul dX7_speedAt_7 ?_
  refine zV_iload_n 3 dX7_speedAt_8 rfl rfl ?_
  refine zV_aload_n 0 dX7_speedAt_9 rfl rfl ?_
  refine zV_getR (j := (o + 10)) (zsu_c hS_o) zf_X7_9 zkf_X7_30 rfl dX7_speedAt_10 ?_
  refine zV_iload_n 1 dX7_speedAt_13 rfl rfl ?_
  obtain ⟨hg, h⟩ := zs_gd h
  refine zV_iald (zsu_9 hS_o) hg dX7_speedAt_14 (fun m2 => ?_)
  refine zV_imul dX7_speedAt_15 ?_
  refine zV_isub dX7_speedAt_16 ?_
  refine zV_w ?_
  refine zV_mabs zml_X7_92 dX7_speedAt_17 (Nat.le_trans (by decide) hn) (Nat.le_of_ble_eq_true rfl) (z32_w _) ?_
  refine zV_w ?_
  exact zV_ireti dX7_speedAt_20 rfl (z32_w _) h
noncomputable def fX7_speedOf (o : Nat) (x1 : Int) (M : zMem) : Option (Int) :=
  (zgd ((0 : Int) ≤ x1 ∧ x1 < 8) (zgd ((0 : Int) ≤ (M (o + 9) x1) ∧ (M (o + 9) x1) < 12) (zgd ((0 : Int) ≤ x1 ∧ x1 < 8) (zgd ((0 : Int) ≤ (M (o + 11) x1) ∧ (M (o + 11) x1) < 12) (zbd (fX7_speedAt o x1 (M (o + 3) (M (o + 9) x1)) (M (o + 3) (M (o + 11) x1)) M) fun r5 => some r5)))))
set_option maxRecDepth 100000 in
set_option maxHeartbeats 4000000 in
theorem fX7_speedOf_ok {Z : zZ} (hZ : zB Z) {nn : Nat} (hn : 2 ≤ nn) {o : Nat} (hS_o : zSU Z o) (hw_o : o < 900)  {x1 : Int} (hx1 : z32 x1) {M : zMem} {Q : Option zAV → zMem → zZ → Prop} (h : zSat (fX7_speedOf o x1 M) (fun r => Q (some (zI r)) M Z))  : zV zmX7_speedOf nn 0 0 Z 0 [(0, zR o), (1, zI x1)] [] M Q := by
  unfold fX7_speedOf at h
  refine zV_aload_n 0 dX7_speedOf_0 rfl rfl ?_
  refine zV_iload_n 1 dX7_speedOf_1 rfl rfl ?_
  refine zV_aload_n 0 dX7_speedOf_2 rfl rfl ?_
  refine zV_getR (j := (o + 3)) (zsu_c hS_o) zf_X7_2 zkf_X7_9 rfl dX7_speedOf_3 ?_
  refine zV_aload_n 0 dX7_speedOf_6 rfl rfl ?_
  refine zV_getR (j := (o + 9)) (zsu_c hS_o) zf_X7_8 zkf_X7_27 rfl dX7_speedOf_7 ?_
  refine zV_iload_n 1 dX7_speedOf_10 rfl rfl ?_
  obtain ⟨hg, h⟩ := zs_gd h
  refine zV_iald (zsu_8 hS_o) hg dX7_speedOf_11 (fun m1 => ?_)
  obtain ⟨hg, h⟩ := zs_gd h
  refine zV_iald (zsu_2 hS_o) hg dX7_speedOf_12 (fun m2 => ?_)
  refine zV_aload_n 0 dX7_speedOf_13 rfl rfl ?_
  refine zV_getR (j := (o + 3)) (zsu_c hS_o) zf_X7_2 zkf_X7_9 rfl dX7_speedOf_14 ?_
  refine zV_aload_n 0 dX7_speedOf_17 rfl rfl ?_
  refine zV_getR (j := (o + 11)) (zsu_c hS_o) zf_X7_10 zkf_X7_33 rfl dX7_speedOf_18 ?_
  refine zV_iload_n 1 dX7_speedOf_21 rfl rfl ?_
  obtain ⟨hg, h⟩ := zs_gd h
  refine zV_iald (zsu_10 hS_o) hg dX7_speedOf_22 (fun m3 => ?_)
  obtain ⟨hg, h⟩ := zs_gd h
  refine zV_iald (zsu_2 hS_o) hg dX7_speedOf_23 (fun m4 => ?_)
  refine zV_cVI (y' := zmX7_speedAt) (n' := 1) (As := [zI x1, zI (M (o + 3) (M (o + 9) x1)), zI (M (o + 3) (M (o + 11) x1))]) zc_X7_88 (zsu_c hS_o) rfl dX7_speedOf_24 (Nat.le_trans (by decide) hn) rfl (Nat.le_of_ble_eq_true rfl) (Nat.le_of_ble_eq_true rfl) rfl h (fun Q' h' => fX7_speedAt_ok hZ (Nat.le_refl _) hS_o hw_o hx1 m2 m4 h') (fun r5 c6 b7 h => ?_)
  exact zV_ireti dX7_speedOf_27 rfl c6 h
noncomputable def fX7_nearestSpare_j42 (o : Nat) (x1 x2 x3 : Int) (M : zMem) : Option ((Int × Int) ⊕ (Int × Int)) :=
  some (.inl (x3, (zw (x3 + 1))))
set_option maxRecDepth 100000 in
set_option maxHeartbeats 4000000 in
theorem fX7_nearestSpare_j42_ok {Z : zZ} (hZ : zB Z) {nn : Nat} (hn : 2 ≤ nn) {o : Nat} (hS_o : zSU Z o) (hw_o : o < 900)  {x1 x2 x3 : Int} (hx1 : z32 x1) (hx2 : z32 x2) (hx3 : z32 x3) {M : zMem} {Q : Option zAV → zMem → zZ → Prop} {P : (Int × Int) ⊕ (Int × Int) → Prop} (h : zSat (fX7_nearestSpare_j42 o x1 x2 x3 M) P)  (hc : ∀ s : Int × Int, P (.inl s) → z32 (s.1) → z32 (s.2) → zV zmX7_nearestSpare nn 0 0 Z 4 [(0, zR o), (1, zI x1), (2, zI (s.1)), (3, zI (s.2))] [] M Q) (he : ∀ s : Int × Int, P (.inr s) → z32 (s.1) → z32 (s.2) → zV zmX7_nearestSpare nn 0 0 Z 50 [(0, zR o), (1, zI x1), (2, zI (s.1)), (3, zI (s.2))] [] M Q)   : zV zmX7_nearestSpare nn 0 0 Z 42 [(0, zR o), (1, zI x1), (2, zI x2), (3, zI x3)] [] M Q := by
  unfold fX7_nearestSpare_j42 at h
  refine zV_iload_n 3 dX7_nearestSpare_42 rfl rfl ?_
  refine zV_istore_n [(2, zI x3), (0, zR o), (1, zI x1), (3, zI x3)] dX7_nearestSpare_43 rfl (by decide) rfl ?_
  refine zV_iinc 3 [(3, zI (zw (x3 + 1))), (2, zI x3), (0, zR o), (1, zI x1)] dX7_nearestSpare_44 rfl rfl (by decide) rfl ?_
  refine zV_goto 4 dX7_nearestSpare_47 (by decide) ?_
  refine zV_ls [2, 3, 1, 0] rfl ?_
  exact hc _ h hx3 (z32_w _)
noncomputable def fX7_nearestSpare_l4 (o : Nat) (x1 x2 x3 : Int) (M : zMem) : Option ((Int × Int) ⊕ (Int × Int)) :=
  (if (M o 0) ≤ x3 then some (.inr (x2, x3)) else (zgd ((0 : Int) ≤ x3 ∧ x3 < 12) (if (M (o + 6) x3) = 3 then (if x2 = (-1) then fX7_nearestSpare_j42 o x1 x2 x3 M else (zbd (fX7_apart o x3 x1 M) fun r3 => (zbd (fX7_apart o x2 x1 M) fun r7 => (if r7 ≤ r3 then some (.inl (x2, (zw (x3 + 1)))) else fX7_nearestSpare_j42 o x1 x2 x3 M)))) else some (.inl (x2, (zw (x3 + 1)))))))
set_option maxRecDepth 100000 in
set_option maxHeartbeats 4000000 in
theorem fX7_nearestSpare_l4_ok {Z : zZ} (hZ : zB Z) {nn : Nat} (hn : 2 ≤ nn) {o : Nat} (hS_o : zSU Z o) (hw_o : o < 900)  {x1 x2 x3 : Int} (hx1 : z32 x1) (hx2 : z32 x2) (hx3 : z32 x3) {M : zMem} {Q : Option zAV → zMem → zZ → Prop} {P : (Int × Int) ⊕ (Int × Int) → Prop} (h : zSat (fX7_nearestSpare_l4 o x1 x2 x3 M) P)  (hc : ∀ s : Int × Int, P (.inl s) → z32 (s.1) → z32 (s.2) → zV zmX7_nearestSpare nn 0 0 Z 4 [(0, zR o), (1, zI x1), (2, zI (s.1)), (3, zI (s.2))] [] M Q) (he : ∀ s : Int × Int, P (.inr s) → z32 (s.1) → z32 (s.2) → zV zmX7_nearestSpare nn 0 0 Z 50 [(0, zR o), (1, zI x1), (2, zI (s.1)), (3, zI (s.2))] [] M Q)   : zV zmX7_nearestSpare nn 0 0 Z 4 [(0, zR o), (1, zI x1), (2, zI x2), (3, zI x3)] [] M Q := by
  unfold fX7_nearestSpare_l4 at h
  refine zV_iload_n 3 dX7_nearestSpare_4 rfl rfl ?_
  refine zV_aload_n 0 dX7_nearestSpare_5 rfl rfl ?_
  refine zV_getI (zsu_c hS_o) zf_X7_0 zkf_X7_59 rfl dX7_nearestSpare_6 (fun m1 => ?_)
  refine zV_icmp_ge 50 dX7_nearestSpare_9 (by decide) hx3 m1 (fun hc_ => ?_) (fun hc_ => ?_)
  · replace h := zs_t h hc_
    exact he _ h hx2 hx3
  · replace h := zs_f h hc_
    refine zV_aload_n 0 dX7_nearestSpare_12 rfl rfl ?_
    refine zV_getR (j := (o + 6)) (zsu_c hS_o) zf_X7_5 zkf_X7_21 rfl dX7_nearestSpare_13 ?_
    refine zV_iload_n 3 dX7_nearestSpare_16 rfl rfl ?_
    obtain ⟨hg, h⟩ := zs_gd h
    refine zV_iald (zsu_5 hS_o) hg dX7_nearestSpare_17 (fun m2 => ?_)
    refine zV_iconst (v := 3) dX7_nearestSpare_18 rfl ?_
    refine zV_icmp_ne 44 dX7_nearestSpare_19 (by decide) m2 zi_3 (fun hc_ => ?_) (fun hc_ => ?_)
    · replace h := zs_f h hc_
      refine zV_iinc 3 [(3, zI (zw (x3 + 1))), (0, zR o), (1, zI x1), (2, zI x2)] dX7_nearestSpare_44 rfl rfl (by decide) rfl ?_
      refine zV_goto 4 dX7_nearestSpare_47 (by decide) ?_
      refine zV_ls [1, 2, 3, 0] rfl ?_
      exact hc _ h hx2 (z32_w _)
    · replace h := zs_t h hc_
      refine zV_iload_n 2 dX7_nearestSpare_22 rfl rfl ?_
      refine zV_iconst (v := (-1)) dX7_nearestSpare_23 rfl ?_
      refine zV_icmp_eq 42 dX7_nearestSpare_24 (by decide) hx2 zi_n1 (fun hc_ => ?_) (fun hc_ => ?_)
      · replace h := zs_t h hc_
        exact fX7_nearestSpare_j42_ok hZ hn hS_o hw_o hx1 hx2 hx3 h hc he
      · replace h := zs_f h hc_
        refine zV_aload_n 0 dX7_nearestSpare_27 rfl rfl ?_
        refine zV_iload_n 3 dX7_nearestSpare_28 rfl rfl ?_
        refine zV_iload_n 1 dX7_nearestSpare_29 rfl rfl ?_
        refine zV_cVI (y' := zmX7_apart) (n' := 1) (As := [zI x3, zI x1]) zc_X7_98 (zsu_c hS_o) rfl dX7_nearestSpare_30 (Nat.le_trans (by decide) hn) rfl (Nat.le_of_ble_eq_true rfl) (Nat.le_of_ble_eq_true rfl) rfl h (fun Q' h' => fX7_apart_ok hZ (Nat.le_refl _) hS_o hw_o hx3 hx1 h') (fun r3 c4 b5 h => ?_)
        refine zV_aload_n 0 dX7_nearestSpare_33 rfl rfl ?_
        refine zV_iload_n 2 dX7_nearestSpare_34 rfl rfl ?_
        refine zV_iload_n 1 dX7_nearestSpare_35 rfl rfl ?_
        refine zV_cVI (y' := zmX7_apart) (n' := 1) (As := [zI x2, zI x1]) zc_X7_98 (zsu_c hS_o) rfl dX7_nearestSpare_36 (Nat.le_trans (by decide) hn) rfl (Nat.le_of_ble_eq_true rfl) (Nat.le_of_ble_eq_true rfl) rfl h (fun Q' h' => fX7_apart_ok hZ (Nat.le_refl _) hS_o hw_o hx2 hx1 h') (fun r7 c8 b9 h => ?_)
        refine zV_icmp_ge 44 dX7_nearestSpare_39 (by decide) c4 c8 (fun hc_ => ?_) (fun hc_ => ?_)
        · replace h := zs_t h hc_
          refine zV_iinc 3 [(3, zI (zw (x3 + 1))), (0, zR o), (1, zI x1), (2, zI x2)] dX7_nearestSpare_44 rfl rfl (by decide) rfl ?_
          refine zV_goto 4 dX7_nearestSpare_47 (by decide) ?_
          refine zV_ls [1, 2, 3, 0] rfl ?_
          exact hc _ h hx2 (z32_w _)
        · replace h := zs_f h hc_
          exact fX7_nearestSpare_j42_ok hZ hn hS_o hw_o hx1 hx2 hx3 h hc he
noncomputable def fX7_nearestSpare (o : Nat) (x1 : Int) (M : zMem) : Option (Int) :=
  (zbd (zit (fun s11 => fX7_nearestSpare_l4 o x1 (s11.1) (s11.2) M) ((-1), 0)) fun s18 => some (s18.1))
set_option maxRecDepth 100000 in
set_option maxHeartbeats 4000000 in
theorem fX7_nearestSpare_ok {Z : zZ} (hZ : zB Z) {nn : Nat} (hn : 2 ≤ nn) {o : Nat} (hS_o : zSU Z o) (hw_o : o < 900)  {x1 : Int} (hx1 : z32 x1) {M : zMem} {Q : Option zAV → zMem → zZ → Prop} (h : zSat (fX7_nearestSpare o x1 M) (fun r => Q (some (zI r)) M Z))  : zV zmX7_nearestSpare nn 0 0 Z 0 [(0, zR o), (1, zI x1)] [] M Q := by
  unfold fX7_nearestSpare at h
  refine zV_iconst (v := (-1)) dX7_nearestSpare_0 rfl ?_
  refine zV_istore_n [(2, zI (-1)), (0, zR o), (1, zI x1)] dX7_nearestSpare_1 rfl (by decide) rfl ?_
  refine zV_iconst (v := 0) dX7_nearestSpare_2 rfl ?_
  refine zV_istore_n [(3, zI 0), (2, zI (-1)), (0, zR o), (1, zI x1)] dX7_nearestSpare_3 rfl (by decide) rfl ?_
  refine zV_ls [2, 3, 1, 0] rfl ?_
  refine (zV_loop (Vh := fun s11 : Int × Int => z32 (s11.1) → z32 (s11.2) → zV zmX7_nearestSpare nn 0 0 Z 4 [(0, zR o), (1, zI x1), (2, zI (s11.1)), (3, zI (s11.2))] [] M Q) h (fun s11 P12 hP13 hc14 he15 => ?_)) zi_n1 zi_0
  intro c16 c17
  refine fX7_nearestSpare_l4_ok hZ hn hS_o hw_o hx1 c16 c17 hP13 hc14 (fun s18 h19 d20 d21 => ?_)
  have h := he15 _ h19
  refine zV_iload_n 2 dX7_nearestSpare_50 rfl rfl ?_
  exact zV_ireti dX7_nearestSpare_51 rfl d20 h
noncomputable def fX7_swap (o : Nat) (x1 x2 : Int) (M : zMem) : Option (zMem) :=
  (zgd ((0 : Int) ≤ x1 ∧ x1 < 12) (zgd ((0 : Int) ≤ x2 ∧ x2 < 12) (zgd ((0 : Int) ≤ x2 ∧ x2 < 12) (zgd ((0 : Int) ≤ x1 ∧ x1 < 12) (zgd ((0 : Int) ≤ x1 ∧ x1 < 12) (some (zup (zup (zup (zup M (o + 7) x2 (M (o + 7) x1)) (o + 6) x2 0) (o + 7) x1 (-1)) (o + 6) x1 3)))))))
set_option maxRecDepth 100000 in
set_option maxHeartbeats 4000000 in
theorem fX7_swap_ok {Z : zZ} (hZ : zB Z) {nn : Nat} (hn : 0 ≤ nn) {o : Nat} (hS_o : zSU Z o) (hw_o : o < 900)  {x1 x2 : Int} (hx1 : z32 x1) (hx2 : z32 x2) {M : zMem} {Q : Option zAV → zMem → zZ → Prop} (h : zSat (fX7_swap o x1 x2 M) (fun r => Q none r Z))  : zV zmX7_swap nn 0 0 Z 0 [(0, zR o), (1, zI x1), (2, zI x2)] [] M Q := by
  unfold fX7_swap at h
  refine zV_aload_n 0 dX7_swap_0 rfl rfl ?_
  refine zV_getR (j := (o + 7)) (zsu_c hS_o) zf_X7_6 zkf_X7_24 rfl dX7_swap_1 ?_
  refine zV_iload_n 2 dX7_swap_4 rfl rfl ?_
  refine zV_aload_n 0 dX7_swap_5 rfl rfl ?_
  refine zV_getR (j := (o + 7)) (zsu_c hS_o) zf_X7_6 zkf_X7_24 rfl dX7_swap_6 ?_
  refine zV_iload_n 1 dX7_swap_9 rfl rfl ?_
  obtain ⟨hg, h⟩ := zs_gd h
  refine zV_iald (zsu_6 hS_o) hg dX7_swap_10 (fun m1 => ?_)
  obtain ⟨hg, h⟩ := zs_gd h
  refine zV_iast (zsu_6 hS_o) (zlt_o hw_o (by decide)) hg m1 dX7_swap_11 ?_
  refine zV_aload_n 0 dX7_swap_12 rfl rfl ?_
  refine zV_getR (j := (o + 6)) (zsu_c hS_o) zf_X7_5 zkf_X7_21 rfl dX7_swap_13 ?_
  refine zV_iload_n 2 dX7_swap_16 rfl rfl ?_
  refine zV_iconst (v := 0) dX7_swap_17 rfl ?_
  obtain ⟨hg, h⟩ := zs_gd h
  refine zV_iast (zsu_5 hS_o) (zlt_o hw_o (by decide)) hg zi_0 dX7_swap_18 ?_
  refine zV_aload_n 0 dX7_swap_19 rfl rfl ?_
  refine zV_getR (j := (o + 7)) (zsu_c hS_o) zf_X7_6 zkf_X7_24 rfl dX7_swap_20 ?_
  refine zV_iload_n 1 dX7_swap_23 rfl rfl ?_
  refine zV_iconst (v := (-1)) dX7_swap_24 rfl ?_
  obtain ⟨hg, h⟩ := zs_gd h
  refine zV_iast (zsu_6 hS_o) (zlt_o hw_o (by decide)) hg zi_n1 dX7_swap_25 ?_
  refine zV_aload_n 0 dX7_swap_26 rfl rfl ?_
  refine zV_getR (j := (o + 6)) (zsu_c hS_o) zf_X7_5 zkf_X7_21 rfl dX7_swap_27 ?_
  refine zV_iload_n 1 dX7_swap_30 rfl rfl ?_
  refine zV_iconst (v := 3) dX7_swap_31 rfl ?_
  obtain ⟨hg, h⟩ := zs_gd h
  refine zV_iast (zsu_5 hS_o) (zlt_o hw_o (by decide)) hg zi_3 dX7_swap_32 ?_
  exact zV_vret dX7_swap_33 rfl h
noncomputable def fX5_rename_l2 (o : Nat) (x1 x2 x3 : Int) (M : zMem) : Option ((Int × zMem) ⊕ (Int × zMem)) :=
  (if (M o 0) ≤ x3 then some (.inr (x3, M)) else (zgd ((0 : Int) ≤ x3 ∧ x3 < 24) (if (M (o + 2) x3) = x1 then (zgd ((0 : Int) ≤ x3 ∧ x3 < 24) (some (.inl ((zw (x3 + 1)), (zup M (o + 2) x3 x2))))) else some (.inl ((zw (x3 + 1)), M)))))
set_option maxRecDepth 100000 in
set_option maxHeartbeats 4000000 in
theorem fX5_rename_l2_ok {Z : zZ} (hZ : zB Z) {nn : Nat} (hn : 0 ≤ nn) {o : Nat} (hS_o : zPI Z o) (hw_o : o < 900)  {x1 x2 x3 : Int} (hx1 : z32 x1) (hx2 : z32 x2) (hx3 : z32 x3) {M : zMem} {Q : Option zAV → zMem → zZ → Prop} {P : (Int × zMem) ⊕ (Int × zMem) → Prop} (h : zSat (fX5_rename_l2 o x1 x2 x3 M) P)  (hc : ∀ s : Int × zMem, P (.inl s) → z32 (s.1) → zV zmX5_rename nn 0 0 Z 2 [(0, zR o), (1, zI x1), (2, zI x2), (3, zI (s.1))] [] (s.2) Q) (he : ∀ s : Int × zMem, P (.inr s) → z32 (s.1) → zV zmX5_rename nn 0 0 Z 33 [(0, zR o), (1, zI x1), (2, zI x2), (3, zI (s.1))] [] (s.2) Q)   : zV zmX5_rename nn 0 0 Z 2 [(0, zR o), (1, zI x1), (2, zI x2), (3, zI x3)] [] M Q := by
  unfold fX5_rename_l2 at h
  refine zV_iload_n 3 dX5_rename_2 rfl rfl ?_
  refine zV_aload_n 0 dX5_rename_3 rfl rfl ?_
  refine zV_getI (zpi_c hS_o) zf_X5_0 zkf_X5_27 rfl dX5_rename_4 (fun m1 => ?_)
  refine zV_icmp_ge 33 dX5_rename_7 (by decide) hx3 m1 (fun hc_ => ?_) (fun hc_ => ?_)
  · replace h := zs_t h hc_
    exact he _ h hx3
  · replace h := zs_f h hc_
    refine zV_aload_n 0 dX5_rename_10 rfl rfl ?_
    refine zV_getR (j := (o + 2)) (zpi_c hS_o) zf_X5_1 zkf_X5_9 rfl dX5_rename_11 ?_
    refine zV_iload_n 3 dX5_rename_14 rfl rfl ?_
    obtain ⟨hg, h⟩ := zs_gd h
    refine zV_iald (zpi_1 hS_o) hg dX5_rename_15 (fun m2 => ?_)
    refine zV_iload_n 1 dX5_rename_16 rfl rfl ?_
    refine zV_icmp_ne 27 dX5_rename_17 (by decide) m2 hx1 (fun hc_ => ?_) (fun hc_ => ?_)
    · replace h := zs_f h hc_
      refine zV_iinc 3 [(3, zI (zw (x3 + 1))), (0, zR o), (1, zI x1), (2, zI x2)] dX5_rename_27 rfl rfl (by decide) rfl ?_
      refine zV_goto 2 dX5_rename_30 (by decide) ?_
      refine zV_ls [1, 2, 3, 0] rfl ?_
      exact hc _ h (z32_w _)
    · replace h := zs_t h hc_
      refine zV_aload_n 0 dX5_rename_20 rfl rfl ?_
      refine zV_getR (j := (o + 2)) (zpi_c hS_o) zf_X5_1 zkf_X5_9 rfl dX5_rename_21 ?_
      refine zV_iload_n 3 dX5_rename_24 rfl rfl ?_
      refine zV_iload_n 2 dX5_rename_25 rfl rfl ?_
      obtain ⟨hg, h⟩ := zs_gd h
      refine zV_iast (zpi_1 hS_o) (zlt_o hw_o (by decide)) hg hx2 dX5_rename_26 ?_
      refine zV_iinc 3 [(3, zI (zw (x3 + 1))), (0, zR o), (1, zI x1), (2, zI x2)] dX5_rename_27 rfl rfl (by decide) rfl ?_
      refine zV_goto 2 dX5_rename_30 (by decide) ?_
      refine zV_ls [1, 2, 3, 0] rfl ?_
      exact hc _ h (z32_w _)
noncomputable def fX5_rename (o : Nat) (x1 x2 : Int) (M : zMem) : Option (zMem) :=
  (zbd (zit (fun s3 => fX5_rename_l2 o x1 x2 (s3.1) (s3.2)) (0, M)) fun s9 => some (s9.2))
set_option maxRecDepth 100000 in
set_option maxHeartbeats 4000000 in
theorem fX5_rename_ok {Z : zZ} (hZ : zB Z) {nn : Nat} (hn : 0 ≤ nn) {o : Nat} (hS_o : zPI Z o) (hw_o : o < 900)  {x1 x2 : Int} (hx1 : z32 x1) (hx2 : z32 x2) {M : zMem} {Q : Option zAV → zMem → zZ → Prop} (h : zSat (fX5_rename o x1 x2 M) (fun r => Q none r Z))  : zV zmX5_rename nn 0 0 Z 0 [(0, zR o), (1, zI x1), (2, zI x2)] [] M Q := by
  unfold fX5_rename at h
  refine zV_iconst (v := 0) dX5_rename_0 rfl ?_
  refine zV_istore_n [(3, zI 0), (0, zR o), (1, zI x1), (2, zI x2)] dX5_rename_1 rfl (by decide) rfl ?_
  refine zV_ls [1, 2, 3, 0] rfl ?_
  refine (zV_loop (Vh := fun s3 : Int × zMem => z32 (s3.1) → zV zmX5_rename nn 0 0 Z 2 [(0, zR o), (1, zI x1), (2, zI x2), (3, zI (s3.1))] [] (s3.2) Q) h (fun s3 P4 hP5 hc6 he7 => ?_)) zi_0
  intro c8
  refine fX5_rename_l2_ok hZ hn hS_o hw_o hx1 hx2 c8 hP5 hc6 (fun s9 h10 d11 => ?_)
  have h := he7 _ h10
  exact zV_vret dX5_rename_33 rfl h
noncomputable def fX5_copy (o o1 : Nat) (M : zMem) : Option (zMem) :=
  (zgd (((0 : Int) ≤ (0 : Int) ∧ (0 : Int) + 24 ≤ 24) ∧ ((0 : Int) ≤ (0 : Int) ∧ (0 : Int) + 24 ≤ 24) ∧ (0 : Int) ≤ (24 : Int)) (zgd (((0 : Int) ≤ (0 : Int) ∧ (0 : Int) + 24 ≤ 24) ∧ ((0 : Int) ≤ (0 : Int) ∧ (0 : Int) + 24 ≤ 24) ∧ (0 : Int) ≤ (24 : Int)) (zgd (((0 : Int) ≤ (0 : Int) ∧ (0 : Int) + 24 ≤ 24) ∧ ((0 : Int) ≤ (0 : Int) ∧ (0 : Int) + 24 ≤ 24) ∧ (0 : Int) ≤ (24 : Int)) (zgd (((0 : Int) ≤ (0 : Int) ∧ (0 : Int) + 24 ≤ 24) ∧ ((0 : Int) ≤ (0 : Int) ∧ (0 : Int) + 24 ≤ 24) ∧ (0 : Int) ≤ (24 : Int)) (zgd (((0 : Int) ≤ (0 : Int) ∧ (0 : Int) + 24 ≤ 24) ∧ ((0 : Int) ≤ (0 : Int) ∧ (0 : Int) + 24 ≤ 24) ∧ (0 : Int) ≤ (24 : Int)) (some (zcpy (zcpy (zcpy (zcpy (zcpy (zup M o 0 (M o1 0)) (o1 + 2) 0 (o + 2) 0 24) (o1 + 3) 0 (o + 3) 0 24) (o1 + 4) 0 (o + 4) 0 24) (o1 + 5) 0 (o + 5) 0 24) (o1 + 6) 0 (o + 6) 0 24)))))))
set_option maxRecDepth 100000 in
set_option maxHeartbeats 4000000 in
theorem fX5_copy_ok {Z : zZ} (hZ : zB Z) {nn : Nat} (hn : 1 ≤ nn) {o o1 : Nat} (hS_o : zPI Z o) (hw_o : o < 900) (hS_o1 : zPI Z o1) (hw_o1 : o1 < 900)   {M : zMem} {Q : Option zAV → zMem → zZ → Prop} (h : zSat (fX5_copy o o1 M) (fun r => Q none r Z))  : zV zmX5_copy nn 0 0 Z 0 [(0, zR o), (1, zR o1)] [] M Q := by
  unfold fX5_copy at h
  refine zV_aload_n 0 dX5_copy_0 rfl rfl ?_
  refine zV_aload_n 1 dX5_copy_1 rfl rfl ?_
  refine zV_getI (zpi_c hS_o1) zf_X5_0 zkf_X5_27 rfl dX5_copy_2 (fun m1 => ?_)
  refine zV_putI (zpi_c hS_o) (zlt_b hw_o) zf_X5_0 zkf_X5_27 rfl dX5_copy_5 m1 ?_
  refine zV_aload_n 1 dX5_copy_8 rfl rfl ?_
  refine zV_getR (j := (o1 + 2)) (zpi_c hS_o1) zf_X5_1 zkf_X5_9 rfl dX5_copy_9 ?_
  refine zV_iconst (v := 0) dX5_copy_12 rfl ?_
  refine zV_aload_n 0 dX5_copy_13 rfl rfl ?_
  refine zV_getR (j := (o + 2)) (zpi_c hS_o) zf_X5_1 zkf_X5_9 rfl dX5_copy_14 ?_
  refine zV_iconst (v := 0) dX5_copy_17 rfl ?_
  refine zV_bipush (v := 24) dX5_copy_18 rfl ?_
  obtain ⟨hg, h⟩ := zs_gd h
  refine zV_acopy zac_X5_31 (zpi_1 hS_o1) (zpi_1 hS_o) (zlt_o hw_o (by decide)) hg dX5_copy_20 (Nat.le_trans (by decide) hn) (Nat.le_of_ble_eq_true rfl) ?_
  refine zV_aload_n 1 dX5_copy_23 rfl rfl ?_
  refine zV_getR (j := (o1 + 3)) (zpi_c hS_o1) zf_X5_2 zkf_X5_15 rfl dX5_copy_24 ?_
  refine zV_iconst (v := 0) dX5_copy_27 rfl ?_
  refine zV_aload_n 0 dX5_copy_28 rfl rfl ?_
  refine zV_getR (j := (o + 3)) (zpi_c hS_o) zf_X5_2 zkf_X5_15 rfl dX5_copy_29 ?_
  refine zV_iconst (v := 0) dX5_copy_32 rfl ?_
  refine zV_bipush (v := 24) dX5_copy_33 rfl ?_
  obtain ⟨hg, h⟩ := zs_gd h
  refine zV_acopy zac_X5_31 (zpi_2 hS_o1) (zpi_2 hS_o) (zlt_o hw_o (by decide)) hg dX5_copy_35 (Nat.le_trans (by decide) hn) (Nat.le_of_ble_eq_true rfl) ?_
  refine zV_aload_n 1 dX5_copy_38 rfl rfl ?_
  refine zV_getR (j := (o1 + 4)) (zpi_c hS_o1) zf_X5_3 zkf_X5_18 rfl dX5_copy_39 ?_
  refine zV_iconst (v := 0) dX5_copy_42 rfl ?_
  refine zV_aload_n 0 dX5_copy_43 rfl rfl ?_
  refine zV_getR (j := (o + 4)) (zpi_c hS_o) zf_X5_3 zkf_X5_18 rfl dX5_copy_44 ?_
  refine zV_iconst (v := 0) dX5_copy_47 rfl ?_
  refine zV_bipush (v := 24) dX5_copy_48 rfl ?_
  obtain ⟨hg, h⟩ := zs_gd h
  refine zV_acopy zac_X5_31 (zpi_3 hS_o1) (zpi_3 hS_o) (zlt_o hw_o (by decide)) hg dX5_copy_50 (Nat.le_trans (by decide) hn) (Nat.le_of_ble_eq_true rfl) ?_
  refine zV_aload_n 1 dX5_copy_53 rfl rfl ?_
  refine zV_getR (j := (o1 + 5)) (zpi_c hS_o1) zf_X5_4 zkf_X5_21 rfl dX5_copy_54 ?_
  refine zV_iconst (v := 0) dX5_copy_57 rfl ?_
  refine zV_aload_n 0 dX5_copy_58 rfl rfl ?_
  refine zV_getR (j := (o + 5)) (zpi_c hS_o) zf_X5_4 zkf_X5_21 rfl dX5_copy_59 ?_
  refine zV_iconst (v := 0) dX5_copy_62 rfl ?_
  refine zV_bipush (v := 24) dX5_copy_63 rfl ?_
  obtain ⟨hg, h⟩ := zs_gd h
  refine zV_acopy zac_X5_31 (zpi_4 hS_o1) (zpi_4 hS_o) (zlt_o hw_o (by decide)) hg dX5_copy_65 (Nat.le_trans (by decide) hn) (Nat.le_of_ble_eq_true rfl) ?_
  refine zV_aload_n 1 dX5_copy_68 rfl rfl ?_
  refine zV_getR (j := (o1 + 6)) (zpi_c hS_o1) zf_X5_5 zkf_X5_24 rfl dX5_copy_69 ?_
  refine zV_iconst (v := 0) dX5_copy_72 rfl ?_
  refine zV_aload_n 0 dX5_copy_73 rfl rfl ?_
  refine zV_getR (j := (o + 6)) (zpi_c hS_o) zf_X5_5 zkf_X5_24 rfl dX5_copy_74 ?_
  refine zV_iconst (v := 0) dX5_copy_77 rfl ?_
  refine zV_bipush (v := 24) dX5_copy_78 rfl ?_
  obtain ⟨hg, h⟩ := zs_gd h
  refine zV_acopy zac_X5_31 (zpi_5 hS_o1) (zpi_5 hS_o) (zlt_o hw_o (by decide)) hg dX5_copy_80 (Nat.le_trans (by decide) hn) (Nat.le_of_ble_eq_true rfl) ?_
  exact zV_vret dX5_copy_83 rfl h
