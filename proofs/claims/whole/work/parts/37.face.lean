noncomputable def fX11_feed (x1 x3 x5 : Int) (M : zMem) : Option (Int × zMem) :=
  (zbd (fX8_addBytes x1 M) fun M4 => (zbd (fX8_addBytes x3 M4) fun M8 => (zbd (fX8_addBytes x5 M8) fun M12 => some ((M12 20 1), M12))))
set_option maxRecDepth 100000 in
set_option maxHeartbeats 4000000 in
theorem fX11_feed_ok {Z : zZ} (hZ : zB Z) {nn : Nat} (hn : 1 ≤ nn)  {x1 x3 x5 : Int} (hx1 : z64 x1) (hx3 : z64 x3) (hx5 : z64 x5) {M : zMem} {Q : Option zAV → zMem → zZ → Prop} (h : zSat (fX11_feed x1 x3 x5 M) (fun r => Q (some (zI r.1)) r.2 Z))  : zV zmX11_feed nn 0 0 Z 0 [(0, zR 0), (1, zL x1), (3, zL x3), (5, zL x5)] [] M Q := by
  unfold fX11_feed at h
  refine zV_aload_n 0 dX11_feed_0 rfl rfl ?_
  refine zV_getR (j := 20) (zq_0 hZ) zf_X11_0 zkf_X11_10 rfl dX11_feed_1 ?_
  refine zV_lload_n 1 dX11_feed_4 rfl rfl ?_
  refine zV_cVV (y' := zmX8_addBytes) (n' := 0) (As := [zL x1]) zc_X11_100 (zq_20 hZ) rfl dX11_feed_5 (Nat.le_trans (by decide) hn) rfl (Nat.le_of_ble_eq_true rfl) (Nat.le_of_ble_eq_true rfl) rfl h (fun Q' h' => fX8_addBytes_ok hZ (Nat.le_refl _) hx1 h') (fun M4 h => ?_)
  refine zV_aload_n 0 dX11_feed_8 rfl rfl ?_
  refine zV_getR (j := 20) (zq_0 hZ) zf_X11_0 zkf_X11_10 rfl dX11_feed_9 ?_
  refine zV_lload_n 2 dX11_feed_12 rfl rfl ?_
  refine zV_cVV (y' := zmX8_addBytes) (n' := 0) (As := [zL x3]) zc_X11_100 (zq_20 hZ) rfl dX11_feed_13 (Nat.le_trans (by decide) hn) rfl (Nat.le_of_ble_eq_true rfl) (Nat.le_of_ble_eq_true rfl) rfl h (fun Q' h' => fX8_addBytes_ok hZ (Nat.le_refl _) hx3 h') (fun M8 h => ?_)
  refine zV_aload_n 0 dX11_feed_16 rfl rfl ?_
  refine zV_getR (j := 20) (zq_0 hZ) zf_X11_0 zkf_X11_10 rfl dX11_feed_17 ?_
  refine zV_lload 3 dX11_feed_20 rfl ?_
  refine zV_cVV (y' := zmX8_addBytes) (n' := 0) (As := [zL x5]) zc_X11_100 (zq_20 hZ) rfl dX11_feed_22 (Nat.le_trans (by decide) hn) rfl (Nat.le_of_ble_eq_true rfl) (Nat.le_of_ble_eq_true rfl) rfl h (fun Q' h' => fX8_addBytes_ok hZ (Nat.le_refl _) hx5 h') (fun M12 h => ?_)
  refine zV_aload_n 0 dX11_feed_25 rfl rfl ?_
  refine zV_getR (j := 20) (zq_0 hZ) zf_X11_0 zkf_X11_10 rfl dX11_feed_26 ?_
  refine zV_getI (zq_20 hZ) zf_X8_1 zkf_X11_104 rfl dX11_feed_29 (fun m13 => ?_)
  exact zV_ireti dX11_feed_32 rfl m13 h
noncomputable def fX11_forgetPlaying (M : zMem) : Option (zMem) :=
  some (zup (zup (zup (zup M 90 5 0) 110 7 0) 130 10 0) 170 7 0)
set_option maxRecDepth 100000 in
set_option maxHeartbeats 4000000 in
theorem fX11_forgetPlaying_ok {Z : zZ} (hZ : zB Z) {nn : Nat} (hn : 0 ≤ nn)   {M : zMem} {Q : Option zAV → zMem → zZ → Prop} (h : zSat (fX11_forgetPlaying M) (fun r => Q none r Z))  : zV zmX11_forgetPlaying nn 0 0 Z 0 [(0, zR 0)] [] M Q := by
  unfold fX11_forgetPlaying at h
  refine zV_aload_n 0 dX11_forgetPlaying_0 rfl rfl ?_
  refine zV_getR (j := 90) (zq_0 hZ) zf_X11_7 zkf_X11_55 rfl dX11_forgetPlaying_1 ?_
  refine zV_iconst (v := 0) dX11_forgetPlaying_4 rfl ?_
  refine zV_putB (zq_90 hZ) (by decide) zf_X10_5 zkf_X11_309 rfl dX11_forgetPlaying_5 (Or.inl rfl) ?_
  refine zV_aload_n 0 dX11_forgetPlaying_8 rfl rfl ?_
  refine zV_getR (j := 110) (zq_0 hZ) zf_X11_9 zkf_X11_71 rfl dX11_forgetPlaying_9 ?_
  refine zV_iconst (v := 0) dX11_forgetPlaying_12 rfl ?_
  refine zV_putB (zq_110 hZ) (by decide) zf_X9_7 zkf_X11_164 rfl dX11_forgetPlaying_13 (Or.inl rfl) ?_
  refine zV_aload_n 0 dX11_forgetPlaying_16 rfl rfl ?_
  refine zV_getR (j := 130) (zq_0 hZ) zf_X11_10 zkf_X11_80 rfl dX11_forgetPlaying_17 ?_
  refine zV_iconst (v := 0) dX11_forgetPlaying_20 rfl ?_
  refine zV_putB (zq_130 hZ) (by decide) zf_X0_10 zkf_X11_310 rfl dX11_forgetPlaying_21 (Or.inl rfl) ?_
  refine zV_aload_n 0 dX11_forgetPlaying_24 rfl rfl ?_
  refine zV_getR (j := 170) (zq_0 hZ) zf_X11_12 zkf_X11_96 rfl dX11_forgetPlaying_25 ?_
  refine zV_iconst (v := 0) dX11_forgetPlaying_28 rfl ?_
  refine zV_putB (zq_170 hZ) (by decide) zf_X4_7 zkf_X11_311 rfl dX11_forgetPlaying_29 (Or.inl rfl) ?_
  exact zV_vret dX11_forgetPlaying_32 rfl h
noncomputable def fX11_forgetAll (M : zMem) : Option (zMem) :=
  (zbd (fX11_forgetPlaying M) fun M4 => some (zup M4 150 13 0))
set_option maxRecDepth 100000 in
set_option maxHeartbeats 4000000 in
theorem fX11_forgetAll_ok {Z : zZ} (hZ : zB Z) {nn : Nat} (hn : 1 ≤ nn)   {M : zMem} {Q : Option zAV → zMem → zZ → Prop} (h : zSat (fX11_forgetAll M) (fun r => Q none r Z))  : zV zmX11_forgetAll nn 0 0 Z 0 [(0, zR 0)] [] M Q := by
  unfold fX11_forgetAll at h
  refine zV_aload_n 0 dX11_forgetAll_0 rfl rfl ?_
  refine zV_cVV (y' := zmX11_forgetPlaying) (n' := 0) (As := []) zc_X11_155 (zq_0 hZ) rfl dX11_forgetAll_1 (Nat.le_trans (by decide) hn) rfl (Nat.le_of_ble_eq_true rfl) (Nat.le_of_ble_eq_true rfl) rfl h (fun Q' h' => fX11_forgetPlaying_ok hZ (Nat.le_refl _)  h') (fun M4 h => ?_)
  refine zV_aload_n 0 dX11_forgetAll_4 rfl rfl ?_
  refine zV_getR (j := 150) (zq_0 hZ) zf_X11_11 zkf_X11_89 rfl dX11_forgetAll_5 ?_
  refine zV_iconst (v := 0) dX11_forgetAll_8 rfl ?_
  refine zV_putB (zq_150 hZ) (by decide) zf_X1_13 zkf_X11_312 rfl dX11_forgetAll_9 (Or.inl rfl) ?_
  exact zV_vret dX11_forgetAll_12 rfl h
noncomputable def fX11_spindle (M : zMem) : Option (Int × zMem) :=
  (zbd2 (fX6_read M) fun r1 M4 => (if r1 = 0 then (zbd (fX7_copy 40 60 (zup M4 20 1 0)) fun M8 => (zbd (fX11_forgetAll (zup M8 80 0 0)) fun M12 => some (r1, M12))) else some (r1, (zup M4 20 1 0))))
set_option maxRecDepth 100000 in
set_option maxHeartbeats 4000000 in
theorem fX11_spindle_ok {Z : zZ} (hZ : zB Z) {nn : Nat} (hn : 89 ≤ nn)   {M : zMem} {Q : Option zAV → zMem → zZ → Prop} (h : zSat (fX11_spindle M) (fun r => Q (some (zI r.1)) r.2 Z))  : zV zmX11_spindle nn 0 0 Z 0 [(0, zR 0)] [] M Q := by
  unfold fX11_spindle at h
  refine zV_aload_n 0 dX11_spindle_0 rfl rfl ?_
  refine zV_getR (j := 30) (zq_0 hZ) zf_X11_1 zkf_X11_31 rfl dX11_spindle_1 ?_
  refine zV_cVIm (y' := zmX6_read) (n' := 88) (As := []) zc_X11_108 (zq_30 hZ) rfl dX11_spindle_4 (Nat.le_trans (by decide) hn) rfl (Nat.le_of_ble_eq_true rfl) (Nat.le_of_ble_eq_true rfl) rfl h (fun Q' h' => fX6_read_ok hZ (Nat.le_refl _)  h') (fun r1 M4 c2 b3 h => ?_)
  refine zV_istore_n [(1, zI r1), (0, zR 0)] dX11_spindle_7 rfl (by decide) rfl ?_
  refine zV_aload_n 1 dX11_spindle_8 rfl rfl ?_
  refine zV_getR (j := 20) (zq_0 hZ) zf_X11_0 zkf_X11_10 rfl dX11_spindle_9 ?_
  refine zV_iconst (v := 0) dX11_spindle_12 rfl ?_
  refine zV_putI (zq_20 hZ) (by decide) zf_X8_1 zkf_X11_104 rfl dX11_spindle_13 zi_0 ?_
  refine zV_iload_n 0 dX11_spindle_16 rfl rfl ?_
  refine zV_if_ne 43 dX11_spindle_17 (by decide) c2 (fun hc_ => ?_) (fun hc_ => ?_)
  · replace h := zs_f h hc_
    refine zV_iload_n 0 dX11_spindle_43 rfl rfl ?_
    exact zV_ireti dX11_spindle_44 rfl c2 h
  · replace h := zs_t h hc_
    refine zV_aload_n 1 dX11_spindle_20 rfl rfl ?_
    refine zV_getR (j := 40) (zq_0 hZ) zf_X11_2 zkf_X11_19 rfl dX11_spindle_21 ?_
    refine zV_aload_n 1 dX11_spindle_24 rfl rfl ?_
    refine zV_getR (j := 60) (zq_0 hZ) zf_X11_3 zkf_X11_23 rfl dX11_spindle_25 ?_
    refine zV_cVV (y' := zmX7_copy) (n' := 1) (As := [zR 60]) zc_X11_112 (zq_40 hZ) rfl dX11_spindle_28 (Nat.le_trans (by decide) hn) rfl (Nat.le_of_ble_eq_true rfl) (Nat.le_of_ble_eq_true rfl) rfl h (fun Q' h' => fX7_copy_ok hZ (Nat.le_refl _) (zqsu_40 hZ) (by decide) (zqsu_60 hZ) (by decide) h') (fun M8 h => ?_)
    refine zV_aload_n 1 dX11_spindle_31 rfl rfl ?_
    refine zV_getR (j := 80) (zq_0 hZ) zf_X11_4 zkf_X11_38 rfl dX11_spindle_32 ?_
    refine zV_iconst (v := 0) dX11_spindle_35 rfl ?_
    refine zV_putI (zq_80 hZ) (by decide) zf_X5_0 zkf_X11_115 rfl dX11_spindle_36 zi_0 ?_
    refine zV_aload_n 1 dX11_spindle_39 rfl rfl ?_
    refine zV_cVV (y' := zmX11_forgetAll) (n' := 1) (As := []) zc_X11_118 (zq_0 hZ) rfl dX11_spindle_40 (Nat.le_trans (by decide) hn) rfl (Nat.le_of_ble_eq_true rfl) (Nat.le_of_ble_eq_true rfl) rfl h (fun Q' h' => fX11_forgetAll_ok hZ (Nat.le_refl _)  h') (fun M12 h => ?_)
    refine zV_iload_n 0 dX11_spindle_43 rfl rfl ?_
    exact zV_ireti dX11_spindle_44 rfl c2 h
noncomputable def fX11_bowl (x1 x2 : Int) (M : zMem) : Option (Int) :=
  (zbd (fX7_hasBowl 40 x1 M) fun r1 => (if r1 = 0 then some (-1) else (if x2 = 0 then (zgd ((0 : Int) ≤ x1 ∧ x1 < 12) (some (M 43 x1))) else (if x2 = 1 then (zgd ((0 : Int) ≤ x1 ∧ x1 < 12) (some (M 44 x1))) else (if x2 = 2 then (zgd ((0 : Int) ≤ x1 ∧ x1 < 12) (some (M 45 x1))) else (if x2 = 3 then (zgd ((0 : Int) ≤ x1 ∧ x1 < 12) (some (M 46 x1))) else (if x2 = 4 then (zgd ((0 : Int) ≤ x1 ∧ x1 < 12) (some (M 47 x1))) else some (-1))))))))
set_option maxRecDepth 100000 in
set_option maxHeartbeats 4000000 in
theorem fX11_bowl_ok {Z : zZ} (hZ : zB Z) {nn : Nat} (hn : 1 ≤ nn)  {x1 x2 : Int} (hx1 : z32 x1) (hx2 : z32 x2) {M : zMem} {Q : Option zAV → zMem → zZ → Prop} (h : zSat (fX11_bowl x1 x2 M) (fun r => Q (some (zI r)) M Z))  : zV zmX11_bowl nn 0 0 Z 0 [(0, zR 0), (1, zI x1), (2, zI x2)] [] M Q := by
  unfold fX11_bowl at h
  refine zV_aload_n 0 dX11_bowl_0 rfl rfl ?_
  refine zV_getR (j := 40) (zq_0 hZ) zf_X11_2 zkf_X11_19 rfl dX11_bowl_1 ?_
  refine zV_iload_n 1 dX11_bowl_4 rfl rfl ?_
  refine zV_cVI (y' := zmX7_hasBowl) (n' := 0) (As := [zI x1]) zc_X11_121 (zq_40 hZ) rfl dX11_bowl_5 (Nat.le_trans (by decide) hn) rfl (Nat.le_of_ble_eq_true rfl) (Nat.le_of_ble_eq_true rfl) rfl h (fun Q' h' => fX7_hasBowl_ok hZ (Nat.le_refl _) (zqsu_40 hZ) (by decide) hx1 h') (fun r1 c2 b3 h => ?_)
  refine zV_if_ne 13 dX11_bowl_8 (by decide) c2 (fun hc_ => ?_) (fun hc_ => ?_)
  · replace h := zs_f h hc_
    refine zV_iload_n 2 dX11_bowl_13 rfl rfl ?_
    refine zV_if (x2 = 0) (fun hc_ => ?_) (fun hc_0 => ?_)
    · replace h := zs_t h hc_
      refine zV_tsw 48 dX11_bowl_14 hx2 (by rw [hc_]; decide) ?_
      refine zV_aload_n 0 dX11_bowl_48 rfl rfl ?_
      refine zV_getR (j := 40) (zq_0 hZ) zf_X11_2 zkf_X11_19 rfl dX11_bowl_49 ?_
      refine zV_getR (j := 43) (zq_40 hZ) zf_X7_2 zkf_X11_125 rfl dX11_bowl_52 ?_
      refine zV_iload_n 1 dX11_bowl_55 rfl rfl ?_
      obtain ⟨hg, h⟩ := zs_gd h
      refine zV_iald (zq_43 hZ) hg dX11_bowl_56 (fun m5 => ?_)
      exact zV_ireti dX11_bowl_57 rfl m5 h
    · replace h := zs_f h hc_0
      refine zV_if (x2 = 1) (fun hc_ => ?_) (fun hc_1 => ?_)
      · replace h := zs_t h hc_
        refine zV_tsw 58 dX11_bowl_14 hx2 (by rw [hc_]; decide) ?_
        refine zV_aload_n 0 dX11_bowl_58 rfl rfl ?_
        refine zV_getR (j := 40) (zq_0 hZ) zf_X11_2 zkf_X11_19 rfl dX11_bowl_59 ?_
        refine zV_getR (j := 44) (zq_40 hZ) zf_X7_3 zkf_X11_129 rfl dX11_bowl_62 ?_
        refine zV_iload_n 1 dX11_bowl_65 rfl rfl ?_
        obtain ⟨hg, h⟩ := zs_gd h
        refine zV_iald (zq_44 hZ) hg dX11_bowl_66 (fun m6 => ?_)
        exact zV_ireti dX11_bowl_67 rfl m6 h
      · replace h := zs_f h hc_1
        refine zV_if (x2 = 2) (fun hc_ => ?_) (fun hc_2 => ?_)
        · replace h := zs_t h hc_
          refine zV_tsw 68 dX11_bowl_14 hx2 (by rw [hc_]; decide) ?_
          refine zV_aload_n 0 dX11_bowl_68 rfl rfl ?_
          refine zV_getR (j := 40) (zq_0 hZ) zf_X11_2 zkf_X11_19 rfl dX11_bowl_69 ?_
          refine zV_getR (j := 45) (zq_40 hZ) zf_X7_4 zkf_X11_132 rfl dX11_bowl_72 ?_
          refine zV_iload_n 1 dX11_bowl_75 rfl rfl ?_
          obtain ⟨hg, h⟩ := zs_gd h
          refine zV_iald (zq_45 hZ) hg dX11_bowl_76 (fun m7 => ?_)
          exact zV_ireti dX11_bowl_77 rfl m7 h
        · replace h := zs_f h hc_2
          refine zV_if (x2 = 3) (fun hc_ => ?_) (fun hc_3 => ?_)
          · replace h := zs_t h hc_
            refine zV_tsw 78 dX11_bowl_14 hx2 (by rw [hc_]; decide) ?_
            refine zV_aload_n 0 dX11_bowl_78 rfl rfl ?_
            refine zV_getR (j := 40) (zq_0 hZ) zf_X11_2 zkf_X11_19 rfl dX11_bowl_79 ?_
            refine zV_getR (j := 46) (zq_40 hZ) zf_X7_5 zkf_X11_135 rfl dX11_bowl_82 ?_
            refine zV_iload_n 1 dX11_bowl_85 rfl rfl ?_
            obtain ⟨hg, h⟩ := zs_gd h
            refine zV_iald (zq_46 hZ) hg dX11_bowl_86 (fun m8 => ?_)
            exact zV_ireti dX11_bowl_87 rfl m8 h
          · replace h := zs_f h hc_3
            refine zV_if (x2 = 4) (fun hc_ => ?_) (fun hc_4 => ?_)
            · replace h := zs_t h hc_
              refine zV_tsw 88 dX11_bowl_14 hx2 (by rw [hc_]; decide) ?_
              refine zV_aload_n 0 dX11_bowl_88 rfl rfl ?_
              refine zV_getR (j := 40) (zq_0 hZ) zf_X11_2 zkf_X11_19 rfl dX11_bowl_89 ?_
              refine zV_getR (j := 47) (zq_40 hZ) zf_X7_6 zkf_X11_138 rfl dX11_bowl_92 ?_
              refine zV_iload_n 1 dX11_bowl_95 rfl rfl ?_
              obtain ⟨hg, h⟩ := zs_gd h
              refine zV_iald (zq_47 hZ) hg dX11_bowl_96 (fun m9 => ?_)
              exact zV_ireti dX11_bowl_97 rfl m9 h
            · replace h := zs_f h hc_4
              refine zV_tswd 98 dX11_bowl_14 hx2 (Or.inl ⟨by omega, by decide⟩) ?_
              refine zV_iconst (v := (-1)) dX11_bowl_98 rfl ?_
              exact zV_ireti dX11_bowl_99 rfl zi_n1 h
  · replace h := zs_t h hc_
    refine zV_iconst (v := (-1)) dX11_bowl_11 rfl ?_
    exact zV_ireti dX11_bowl_12 rfl zi_n1 h
noncomputable def fX11_note_j53 (x1 x2 x3 x4 x5 s0 : Int) (M : zMem) : Option (Int × zMem) :=
  (if s0 = 0 then some ((-1), M) else (zbd (fX5_add 80 x1 x2 x3 x4 x5 M) fun M8 => (zbd (fX11_forgetPlaying M8) fun M12 => some ((zw ((M12 80 0) - 1)), M12))))
set_option maxRecDepth 100000 in
set_option maxHeartbeats 4000000 in
theorem fX11_note_j53_ok {Z : zZ} (hZ : zB Z) {nn : Nat} (hn : 2 ≤ nn)  {x1 x2 x3 x4 x5 s0 : Int} (hx1 : z32 x1) (hx2 : z32 x2) (hx3 : z32 x3) (hx4 : z32 x4) (hx5 : z32 x5) (hs0 : z32 s0) (hbs0 : s0 = 0 ∨ s0 = 1) {M : zMem} {Q : Option zAV → zMem → zZ → Prop} (h : zSat (fX11_note_j53 x1 x2 x3 x4 x5 s0 M) (fun r => Q (some (zI r.1)) r.2 Z))  : zV zmX11_note nn 0 0 Z 53 [(0, zR 0), (1, zI x1), (2, zI x2), (3, zI x3), (4, zI x4), (5, zI x5)] [zI s0] M Q := by
  unfold fX11_note_j53 at h
  refine zV_istore [(6, zI s0), (0, zR 0), (1, zI x1), (2, zI x2), (3, zI x3), (4, zI x4), (5, zI x5)] dX11_note_53 (by decide) rfl ?_
  refine zV_iload 0 dX11_note_55 rfl ?_
  refine zV_if_ne 62 dX11_note_57 (by decide) hs0 (fun hc_ => ?_) (fun hc_ => ?_)
  · replace h := zs_f h hc_
    refine zV_aload_n 1 dX11_note_62 rfl rfl ?_
    refine zV_getR (j := 80) (zq_0 hZ) zf_X11_4 zkf_X11_38 rfl dX11_note_63 ?_
    refine zV_iload_n 2 dX11_note_66 rfl rfl ?_
    refine zV_iload_n 3 dX11_note_67 rfl rfl ?_
    refine zV_iload_n 4 dX11_note_68 rfl rfl ?_
    refine zV_iload 5 dX11_note_69 rfl ?_
    refine zV_iload 6 dX11_note_71 rfl ?_
    refine zV_cVV (y' := zmX5_add) (n' := 0) (As := [zI x1, zI x2, zI x3, zI x4, zI x5]) zc_X11_151 (zq_80 hZ) rfl dX11_note_73 (Nat.le_trans (by decide) hn) rfl (Nat.le_of_ble_eq_true rfl) (Nat.le_of_ble_eq_true rfl) rfl h (fun Q' h' => fX5_add_ok hZ (Nat.le_refl _) (zqpi_80 hZ) (by decide) hx1 hx2 hx3 hx4 hx5 h') (fun M8 h => ?_)
    refine zV_aload_n 1 dX11_note_76 rfl rfl ?_
    refine zV_cVV (y' := zmX11_forgetPlaying) (n' := 0) (As := []) zc_X11_155 (zq_0 hZ) rfl dX11_note_77 (Nat.le_trans (by decide) hn) rfl (Nat.le_of_ble_eq_true rfl) (Nat.le_of_ble_eq_true rfl) rfl h (fun Q' h' => fX11_forgetPlaying_ok hZ (Nat.le_refl _)  h') (fun M12 h => ?_)
    refine zV_aload_n 1 dX11_note_80 rfl rfl ?_
    refine zV_getR (j := 80) (zq_0 hZ) zf_X11_4 zkf_X11_38 rfl dX11_note_81 ?_
    refine zV_getI (zq_80 hZ) zf_X5_0 zkf_X11_115 rfl dX11_note_84 (fun m13 => ?_)
    refine zV_iconst (v := 1) dX11_note_87 rfl ?_
    refine zV_isub dX11_note_88 ?_
    refine zV_w ?_
    exact zV_ireti dX11_note_89 rfl (z32_w _) h
  · replace h := zs_t h hc_
    refine zV_iconst (v := (-1)) dX11_note_60 rfl ?_
    exact zV_ireti dX11_note_61 rfl zi_n1 h
noncomputable def fX11_note_j52 (x1 x2 x3 x4 x5 : Int) (M : zMem) : Option (Int × zMem) :=
  fX11_note_j53 x1 x2 x3 x4 x5 0 M
set_option maxRecDepth 100000 in
set_option maxHeartbeats 4000000 in
theorem fX11_note_j52_ok {Z : zZ} (hZ : zB Z) {nn : Nat} (hn : 2 ≤ nn)  {x1 x2 x3 x4 x5 : Int} (hx1 : z32 x1) (hx2 : z32 x2) (hx3 : z32 x3) (hx4 : z32 x4) (hx5 : z32 x5) {M : zMem} {Q : Option zAV → zMem → zZ → Prop} (h : zSat (fX11_note_j52 x1 x2 x3 x4 x5 M) (fun r => Q (some (zI r.1)) r.2 Z))  : zV zmX11_note nn 0 0 Z 52 [(0, zR 0), (1, zI x1), (2, zI x2), (3, zI x3), (4, zI x4), (5, zI x5)] [] M Q := by
  unfold fX11_note_j52 at h
  refine zV_iconst (v := 0) dX11_note_52 rfl ?_
  exact fX11_note_j53_ok hZ hn hx1 hx2 hx3 hx4 hx5 zi_0 (Or.inl rfl) h
noncomputable def fX11_note (x1 x2 x3 x4 x5 : Int) (M : zMem) : Option (Int × zMem) :=
  (zbd (fX7_hasPlace 40 x1 M) fun r1 => (if r1 = 0 then fX11_note_j52 x1 x2 x3 x4 x5 M else (zbd (fX5_takes 80 x2 x3 M) fun r14 => (if r14 = 0 then fX11_note_j52 x1 x2 x3 x4 x5 M else (if x4 < 1 then fX11_note_j52 x1 x2 x3 x4 x5 M else (if 9 < x4 then fX11_note_j52 x1 x2 x3 x4 x5 M else (zbd (fX7_hasFinger 40 x5 M) fun r18 => (if r18 = 0 then fX11_note_j52 x1 x2 x3 x4 x5 M else fX11_note_j53 x1 x2 x3 x4 x5 1 M))))))))
set_option maxRecDepth 100000 in
set_option maxHeartbeats 4000000 in
theorem fX11_note_ok {Z : zZ} (hZ : zB Z) {nn : Nat} (hn : 2 ≤ nn)  {x1 x2 x3 x4 x5 : Int} (hx1 : z32 x1) (hx2 : z32 x2) (hx3 : z32 x3) (hx4 : z32 x4) (hx5 : z32 x5) {M : zMem} {Q : Option zAV → zMem → zZ → Prop} (h : zSat (fX11_note x1 x2 x3 x4 x5 M) (fun r => Q (some (zI r.1)) r.2 Z))  : zV zmX11_note nn 0 0 Z 0 [(0, zR 0), (1, zI x1), (2, zI x2), (3, zI x3), (4, zI x4), (5, zI x5)] [] M Q := by
  unfold fX11_note at h
  refine zV_aload_n 0 dX11_note_0 rfl rfl ?_
  refine zV_getR (j := 40) (zq_0 hZ) zf_X11_2 zkf_X11_19 rfl dX11_note_1 ?_
  refine zV_iload_n 1 dX11_note_4 rfl rfl ?_
  refine zV_cVI (y' := zmX7_hasPlace) (n' := 1) (As := [zI x1]) zc_X11_141 (zq_40 hZ) rfl dX11_note_5 (Nat.le_trans (by decide) hn) rfl (Nat.le_of_ble_eq_true rfl) (Nat.le_of_ble_eq_true rfl) rfl h (fun Q' h' => fX7_hasPlace_ok hZ (Nat.le_refl _) (zqsu_40 hZ) (by decide) hx1 h') (fun r1 c2 b3 h => ?_)
  refine zV_if_eq 52 dX11_note_8 (by decide) c2 (fun hc_ => ?_) (fun hc_ => ?_)
  · replace h := zs_t h hc_
    exact fX11_note_j52_ok hZ hn hx1 hx2 hx3 hx4 hx5 h
  · replace h := zs_f h hc_
    refine zV_aload_n 0 dX11_note_11 rfl rfl ?_
    refine zV_getR (j := 80) (zq_0 hZ) zf_X11_4 zkf_X11_38 rfl dX11_note_12 ?_
    refine zV_iload_n 2 dX11_note_15 rfl rfl ?_
    refine zV_iload_n 3 dX11_note_16 rfl rfl ?_
    refine zV_cVI (y' := zmX5_takes) (n' := 0) (As := [zI x2, zI x3]) zc_X11_144 (zq_80 hZ) rfl dX11_note_17 (Nat.le_trans (by decide) hn) rfl (Nat.le_of_ble_eq_true rfl) (Nat.le_of_ble_eq_true rfl) rfl h (fun Q' h' => fX5_takes_ok hZ (Nat.le_refl _) (zqpi_80 hZ) (by decide) hx2 hx3 h') (fun r14 c15 b16 h => ?_)
    refine zV_if_eq 52 dX11_note_20 (by decide) c15 (fun hc_ => ?_) (fun hc_ => ?_)
    · replace h := zs_t h hc_
      exact fX11_note_j52_ok hZ hn hx1 hx2 hx3 hx4 hx5 h
    · replace h := zs_f h hc_
      refine zV_iload 4 dX11_note_23 rfl ?_
      refine zV_iconst (v := 1) dX11_note_25 rfl ?_
      refine zV_icmp_lt 52 dX11_note_26 (by decide) hx4 zi_1 (fun hc_ => ?_) (fun hc_ => ?_)
      · replace h := zs_t h hc_
        exact fX11_note_j52_ok hZ hn hx1 hx2 hx3 hx4 hx5 h
      · replace h := zs_f h hc_
        refine zV_iload 4 dX11_note_29 rfl ?_
        refine zV_bipush (v := 9) dX11_note_31 rfl ?_
        refine zV_icmp_gt 52 dX11_note_33 (by decide) hx4 zi_9 (fun hc_ => ?_) (fun hc_ => ?_)
        · replace h := zs_t h hc_
          exact fX11_note_j52_ok hZ hn hx1 hx2 hx3 hx4 hx5 h
        · replace h := zs_f h hc_
          refine zV_aload_n 0 dX11_note_36 rfl rfl ?_
          refine zV_getR (j := 40) (zq_0 hZ) zf_X11_2 zkf_X11_19 rfl dX11_note_37 ?_
          refine zV_iload 5 dX11_note_40 rfl ?_
          refine zV_cVI (y' := zmX7_hasFinger) (n' := 0) (As := [zI x5]) zc_X11_148 (zq_40 hZ) rfl dX11_note_42 (Nat.le_trans (by decide) hn) rfl (Nat.le_of_ble_eq_true rfl) (Nat.le_of_ble_eq_true rfl) rfl h (fun Q' h' => fX7_hasFinger_ok hZ (Nat.le_refl _) (zqsu_40 hZ) (by decide) hx5 h') (fun r18 c19 b20 h => ?_)
          refine zV_if_eq 52 dX11_note_45 (by decide) c19 (fun hc_ => ?_) (fun hc_ => ?_)
          · replace h := zs_t h hc_
            exact fX11_note_j52_ok hZ hn hx1 hx2 hx3 hx4 hx5 h
          · replace h := zs_f h hc_
            refine zV_iconst (v := 1) dX11_note_48 rfl ?_
            refine zV_goto 53 dX11_note_49 (by decide) ?_
            exact fX11_note_j53_ok hZ hn hx1 hx2 hx3 hx4 hx5 zi_1 (Or.inr rfl) h
noncomputable def fX11_drop (M : zMem) : Option (Int × zMem) :=
  (if (M 80 0) = 0 then some (0, M) else (zbd (fX11_forgetPlaying (zup M 80 0 (zw ((M 80 0) - 1)))) fun M6 => some (1, M6)))
set_option maxRecDepth 100000 in
set_option maxHeartbeats 4000000 in
theorem fX11_drop_ok {Z : zZ} (hZ : zB Z) {nn : Nat} (hn : 1 ≤ nn)   {M : zMem} {Q : Option zAV → zMem → zZ → Prop} (h : zSat (fX11_drop M) (fun r => Q (some (zI r.1)) r.2 Z))  : zV zmX11_drop nn 0 0 Z 0 [(0, zR 0)] [] M Q := by
  unfold fX11_drop at h
  refine zV_aload_n 0 dX11_drop_0 rfl rfl ?_
  refine zV_getR (j := 80) (zq_0 hZ) zf_X11_4 zkf_X11_38 rfl dX11_drop_1 ?_
  refine zV_getI (zq_80 hZ) zf_X5_0 zkf_X11_115 rfl dX11_drop_4 (fun m1 => ?_)
  refine zV_if_ne 12 dX11_drop_7 (by decide) m1 (fun hc_ => ?_) (fun hc_ => ?_)
  · replace h := zs_f h hc_
    refine zV_aload_n 0 dX11_drop_12 rfl rfl ?_
    refine zV_getR (j := 80) (zq_0 hZ) zf_X11_4 zkf_X11_38 rfl dX11_drop_13 ?_
    refine zV_dup dX11_drop_16 rfl ?_
    refine zV_getI (zq_80 hZ) zf_X5_0 zkf_X11_115 rfl dX11_drop_17 (fun m2 => ?_)
    refine zV_iconst (v := 1) dX11_drop_20 rfl ?_
    refine zV_isub dX11_drop_21 ?_
    refine zV_w ?_
    refine zV_putI (zq_80 hZ) (by decide) zf_X5_0 zkf_X11_115 rfl dX11_drop_22 (z32_w _) ?_
    refine zV_aload_n 0 dX11_drop_25 rfl rfl ?_
    refine zV_cVV (y' := zmX11_forgetPlaying) (n' := 0) (As := []) zc_X11_155 (zq_0 hZ) rfl dX11_drop_26 (Nat.le_trans (by decide) hn) rfl (Nat.le_of_ble_eq_true rfl) (Nat.le_of_ble_eq_true rfl) rfl h (fun Q' h' => fX11_forgetPlaying_ok hZ (Nat.le_refl _)  h') (fun M6 h => ?_)
    refine zV_iconst (v := 1) dX11_drop_29 rfl ?_
    exact zV_iretb dX11_drop_30 rfl (Or.inr rfl) h
  · replace h := zs_t h hc_
    refine zV_iconst (v := 0) dX11_drop_10 rfl ?_
    exact zV_iretb dX11_drop_11 rfl (Or.inl rfl) h
noncomputable def fX11_finger (x1 x2 : Int) (M : zMem) : Option (Int × zMem) :=
  (zbd (fX5_has 80 x1 M) fun r1 => (if r1 = 0 then some (0, M) else (zbd (fX7_hasFinger 40 x2 M) fun r5 => (if r5 = 0 then some (0, M) else (zgd ((0 : Int) ≤ x1 ∧ x1 < 24) (some (1, (zup (zup M 86 x1 x2) 110 7 0))))))))
set_option maxRecDepth 100000 in
set_option maxHeartbeats 4000000 in
theorem fX11_finger_ok {Z : zZ} (hZ : zB Z) {nn : Nat} (hn : 1 ≤ nn)  {x1 x2 : Int} (hx1 : z32 x1) (hx2 : z32 x2) {M : zMem} {Q : Option zAV → zMem → zZ → Prop} (h : zSat (fX11_finger x1 x2 M) (fun r => Q (some (zI r.1)) r.2 Z))  : zV zmX11_finger nn 0 0 Z 0 [(0, zR 0), (1, zI x1), (2, zI x2)] [] M Q := by
  unfold fX11_finger at h
  refine zV_aload_n 0 dX11_finger_0 rfl rfl ?_
  refine zV_getR (j := 80) (zq_0 hZ) zf_X11_4 zkf_X11_38 rfl dX11_finger_1 ?_
  refine zV_iload_n 1 dX11_finger_4 rfl rfl ?_
  refine zV_cVI (y' := zmX5_has) (n' := 0) (As := [zI x1]) zc_X11_158 (zq_80 hZ) rfl dX11_finger_5 (Nat.le_trans (by decide) hn) rfl (Nat.le_of_ble_eq_true rfl) (Nat.le_of_ble_eq_true rfl) rfl h (fun Q' h' => fX5_has_ok hZ (Nat.le_refl _) (zqpi_80 hZ) (by decide) hx1 h') (fun r1 c2 b3 h => ?_)
  refine zV_if_eq 22 dX11_finger_8 (by decide) c2 (fun hc_ => ?_) (fun hc_ => ?_)
  · replace h := zs_t h hc_
    refine zV_iconst (v := 0) dX11_finger_22 rfl ?_
    exact zV_iretb dX11_finger_23 rfl (Or.inl rfl) h
  · replace h := zs_f h hc_
    refine zV_aload_n 0 dX11_finger_11 rfl rfl ?_
    refine zV_getR (j := 40) (zq_0 hZ) zf_X11_2 zkf_X11_19 rfl dX11_finger_12 ?_
    refine zV_iload_n 2 dX11_finger_15 rfl rfl ?_
    refine zV_cVI (y' := zmX7_hasFinger) (n' := 0) (As := [zI x2]) zc_X11_148 (zq_40 hZ) rfl dX11_finger_16 (Nat.le_trans (by decide) hn) rfl (Nat.le_of_ble_eq_true rfl) (Nat.le_of_ble_eq_true rfl) rfl h (fun Q' h' => fX7_hasFinger_ok hZ (Nat.le_refl _) (zqsu_40 hZ) (by decide) hx2 h') (fun r5 c6 b7 h => ?_)
    refine zV_if_ne 24 dX11_finger_19 (by decide) c6 (fun hc_ => ?_) (fun hc_ => ?_)
    · replace h := zs_f h hc_
      refine zV_aload_n 0 dX11_finger_24 rfl rfl ?_
      refine zV_getR (j := 80) (zq_0 hZ) zf_X11_4 zkf_X11_38 rfl dX11_finger_25 ?_
      refine zV_getR (j := 86) (zq_80 hZ) zf_X5_5 zkf_X11_161 rfl dX11_finger_28 ?_
      refine zV_iload_n 1 dX11_finger_31 rfl rfl ?_
      refine zV_iload_n 2 dX11_finger_32 rfl rfl ?_
      obtain ⟨hg, h⟩ := zs_gd h
      refine zV_iast (zq_86 hZ) (by decide) hg hx2 dX11_finger_33 ?_
      refine zV_aload_n 0 dX11_finger_34 rfl rfl ?_
      refine zV_getR (j := 110) (zq_0 hZ) zf_X11_9 zkf_X11_71 rfl dX11_finger_35 ?_
      refine zV_iconst (v := 0) dX11_finger_38 rfl ?_
      refine zV_putB (zq_110 hZ) (by decide) zf_X9_7 zkf_X11_164 rfl dX11_finger_39 (Or.inl rfl) ?_
      refine zV_iconst (v := 1) dX11_finger_42 rfl ?_
      exact zV_iretb dX11_finger_43 rfl (Or.inr rfl) h
    · replace h := zs_t h hc_
      refine zV_iconst (v := 0) dX11_finger_22 rfl ?_
      exact zV_iretb dX11_finger_23 rfl (Or.inl rfl) h
noncomputable def fX11_noteOf (x1 x2 : Int) (M : zMem) : Option (Int) :=
  (zbd (fX5_has 80 x1 M) fun r1 => (if r1 = 0 then some (-1) else (if x2 = 0 then (zgd ((0 : Int) ≤ x1 ∧ x1 < 24) (some (M 82 x1))) else (if x2 = 1 then (zgd ((0 : Int) ≤ x1 ∧ x1 < 24) (some (M 83 x1))) else (if x2 = 2 then (zgd ((0 : Int) ≤ x1 ∧ x1 < 24) (some (M 84 x1))) else (if x2 = 3 then (zgd ((0 : Int) ≤ x1 ∧ x1 < 24) (some (M 85 x1))) else (if x2 = 4 then (zgd ((0 : Int) ≤ x1 ∧ x1 < 24) (some (M 86 x1))) else some (-1))))))))
set_option maxRecDepth 100000 in
set_option maxHeartbeats 4000000 in
theorem fX11_noteOf_ok {Z : zZ} (hZ : zB Z) {nn : Nat} (hn : 1 ≤ nn)  {x1 x2 : Int} (hx1 : z32 x1) (hx2 : z32 x2) {M : zMem} {Q : Option zAV → zMem → zZ → Prop} (h : zSat (fX11_noteOf x1 x2 M) (fun r => Q (some (zI r)) M Z))  : zV zmX11_noteOf nn 0 0 Z 0 [(0, zR 0), (1, zI x1), (2, zI x2)] [] M Q := by
  unfold fX11_noteOf at h
  refine zV_aload_n 0 dX11_noteOf_0 rfl rfl ?_
  refine zV_getR (j := 80) (zq_0 hZ) zf_X11_4 zkf_X11_38 rfl dX11_noteOf_1 ?_
  refine zV_iload_n 1 dX11_noteOf_4 rfl rfl ?_
  refine zV_cVI (y' := zmX5_has) (n' := 0) (As := [zI x1]) zc_X11_158 (zq_80 hZ) rfl dX11_noteOf_5 (Nat.le_trans (by decide) hn) rfl (Nat.le_of_ble_eq_true rfl) (Nat.le_of_ble_eq_true rfl) rfl h (fun Q' h' => fX5_has_ok hZ (Nat.le_refl _) (zqpi_80 hZ) (by decide) hx1 h') (fun r1 c2 b3 h => ?_)
  refine zV_if_ne 13 dX11_noteOf_8 (by decide) c2 (fun hc_ => ?_) (fun hc_ => ?_)
  · replace h := zs_f h hc_
    refine zV_iload_n 2 dX11_noteOf_13 rfl rfl ?_
    refine zV_if (x2 = 0) (fun hc_ => ?_) (fun hc_0 => ?_)
    · replace h := zs_t h hc_
      refine zV_tsw 48 dX11_noteOf_14 hx2 (by rw [hc_]; decide) ?_
      refine zV_aload_n 0 dX11_noteOf_48 rfl rfl ?_
      refine zV_getR (j := 80) (zq_0 hZ) zf_X11_4 zkf_X11_38 rfl dX11_noteOf_49 ?_
      refine zV_getR (j := 82) (zq_80 hZ) zf_X5_1 zkf_X11_168 rfl dX11_noteOf_52 ?_
      refine zV_iload_n 1 dX11_noteOf_55 rfl rfl ?_
      obtain ⟨hg, h⟩ := zs_gd h
      refine zV_iald (zq_82 hZ) hg dX11_noteOf_56 (fun m5 => ?_)
      exact zV_ireti dX11_noteOf_57 rfl m5 h
    · replace h := zs_f h hc_0
      refine zV_if (x2 = 1) (fun hc_ => ?_) (fun hc_1 => ?_)
      · replace h := zs_t h hc_
        refine zV_tsw 58 dX11_noteOf_14 hx2 (by rw [hc_]; decide) ?_
        refine zV_aload_n 0 dX11_noteOf_58 rfl rfl ?_
        refine zV_getR (j := 80) (zq_0 hZ) zf_X11_4 zkf_X11_38 rfl dX11_noteOf_59 ?_
        refine zV_getR (j := 83) (zq_80 hZ) zf_X5_2 zkf_X11_171 rfl dX11_noteOf_62 ?_
        refine zV_iload_n 1 dX11_noteOf_65 rfl rfl ?_
        obtain ⟨hg, h⟩ := zs_gd h
        refine zV_iald (zq_83 hZ) hg dX11_noteOf_66 (fun m6 => ?_)
        exact zV_ireti dX11_noteOf_67 rfl m6 h
      · replace h := zs_f h hc_1
        refine zV_if (x2 = 2) (fun hc_ => ?_) (fun hc_2 => ?_)
        · replace h := zs_t h hc_
          refine zV_tsw 68 dX11_noteOf_14 hx2 (by rw [hc_]; decide) ?_
          refine zV_aload_n 0 dX11_noteOf_68 rfl rfl ?_
          refine zV_getR (j := 80) (zq_0 hZ) zf_X11_4 zkf_X11_38 rfl dX11_noteOf_69 ?_
          refine zV_getR (j := 84) (zq_80 hZ) zf_X5_3 zkf_X11_174 rfl dX11_noteOf_72 ?_
          refine zV_iload_n 1 dX11_noteOf_75 rfl rfl ?_
          obtain ⟨hg, h⟩ := zs_gd h
          refine zV_iald (zq_84 hZ) hg dX11_noteOf_76 (fun m7 => ?_)
          exact zV_ireti dX11_noteOf_77 rfl m7 h
        · replace h := zs_f h hc_2
          refine zV_if (x2 = 3) (fun hc_ => ?_) (fun hc_3 => ?_)
          · replace h := zs_t h hc_
            refine zV_tsw 78 dX11_noteOf_14 hx2 (by rw [hc_]; decide) ?_
            refine zV_aload_n 0 dX11_noteOf_78 rfl rfl ?_
            refine zV_getR (j := 80) (zq_0 hZ) zf_X11_4 zkf_X11_38 rfl dX11_noteOf_79 ?_
            refine zV_getR (j := 85) (zq_80 hZ) zf_X5_4 zkf_X11_176 rfl dX11_noteOf_82 ?_
            refine zV_iload_n 1 dX11_noteOf_85 rfl rfl ?_
            obtain ⟨hg, h⟩ := zs_gd h
            refine zV_iald (zq_85 hZ) hg dX11_noteOf_86 (fun m8 => ?_)
            exact zV_ireti dX11_noteOf_87 rfl m8 h
          · replace h := zs_f h hc_3
            refine zV_if (x2 = 4) (fun hc_ => ?_) (fun hc_4 => ?_)
            · replace h := zs_t h hc_
              refine zV_tsw 88 dX11_noteOf_14 hx2 (by rw [hc_]; decide) ?_
              refine zV_aload_n 0 dX11_noteOf_88 rfl rfl ?_
              refine zV_getR (j := 80) (zq_0 hZ) zf_X11_4 zkf_X11_38 rfl dX11_noteOf_89 ?_
              refine zV_getR (j := 86) (zq_80 hZ) zf_X5_5 zkf_X11_161 rfl dX11_noteOf_92 ?_
              refine zV_iload_n 1 dX11_noteOf_95 rfl rfl ?_
              obtain ⟨hg, h⟩ := zs_gd h
              refine zV_iald (zq_86 hZ) hg dX11_noteOf_96 (fun m9 => ?_)
              exact zV_ireti dX11_noteOf_97 rfl m9 h
            · replace h := zs_f h hc_4
              refine zV_tswd 98 dX11_noteOf_14 hx2 (Or.inl ⟨by omega, by decide⟩) ?_
              refine zV_iconst (v := (-1)) dX11_noteOf_98 rfl ?_
              exact zV_ireti dX11_noteOf_99 rfl zi_n1 h
  · replace h := zs_t h hc_
    refine zV_iconst (v := (-1)) dX11_noteOf_11 rfl ?_
    exact zV_ireti dX11_noteOf_12 rfl zi_n1 h
noncomputable def fX11_isBeat (x0 : Int) (M : zMem) : Option (Int) :=
  (if x0 < 0 then some 0 else (if 200 ≤ x0 then some 0 else some 1))
set_option maxRecDepth 100000 in
set_option maxHeartbeats 4000000 in
theorem fX11_isBeat_ok {Z : zZ} (hZ : zB Z) {nn : Nat} (hn : 0 ≤ nn)  {x0 : Int} (hx0 : z32 x0) {M : zMem} {Q : Option zAV → zMem → zZ → Prop} (h : zSat (fX11_isBeat x0 M) (fun r => Q (some (zI r)) M Z))  : zV zmX11_isBeat nn 0 0 Z 0 [(0, zI x0)] [] M Q := by
  unfold fX11_isBeat at h
  refine zV_iload_n 0 dX11_isBeat_0 rfl rfl ?_
  refine zV_if_lt 15 dX11_isBeat_1 (by decide) hx0 (fun hc_ => ?_) (fun hc_ => ?_)
  · replace h := zs_t h hc_
    refine zV_iconst (v := 0) dX11_isBeat_15 rfl ?_
    exact zV_iretb dX11_isBeat_16 rfl (Or.inl rfl) h
  · replace h := zs_f h hc_
    refine zV_iload_n 0 dX11_isBeat_4 rfl rfl ?_
    refine zV_sipush (v := 200) dX11_isBeat_5 rfl ?_
    refine zV_icmp_ge 15 dX11_isBeat_8 (by decide) hx0 zi_200 (fun hc_ => ?_) (fun hc_ => ?_)
    · replace h := zs_t h hc_
      refine zV_iconst (v := 0) dX11_isBeat_15 rfl ?_
      exact zV_iretb dX11_isBeat_16 rfl (Or.inl rfl) h
    · replace h := zs_f h hc_
      refine zV_iconst (v := 1) dX11_isBeat_11 rfl ?_
      refine zV_goto 16 dX11_isBeat_12 (by decide) ?_
      exact zV_iretb dX11_isBeat_16 rfl (Or.inr rfl) h
noncomputable def fX11_touched (x1 x2 : Int) (M : zMem) : Option (Int) :=
  (zbd (fX7_hasBowl 40 x1 M) fun r1 => (if r1 = 0 then some (-1) else (zbd (fX11_isBeat x2 M) fun r5 => (if r5 = 0 then some (-1) else (zbd (fX5_pressOn 80 x1 x2 M) fun r9 => some r9)))))
set_option maxRecDepth 100000 in
set_option maxHeartbeats 4000000 in
theorem fX11_touched_ok {Z : zZ} (hZ : zB Z) {nn : Nat} (hn : 3 ≤ nn)  {x1 x2 : Int} (hx1 : z32 x1) (hx2 : z32 x2) {M : zMem} {Q : Option zAV → zMem → zZ → Prop} (h : zSat (fX11_touched x1 x2 M) (fun r => Q (some (zI r)) M Z))  : zV zmX11_touched nn 0 0 Z 0 [(0, zR 0), (1, zI x1), (2, zI x2)] [] M Q := by
  unfold fX11_touched at h
  refine zV_aload_n 0 dX11_touched_0 rfl rfl ?_
  refine zV_getR (j := 40) (zq_0 hZ) zf_X11_2 zkf_X11_19 rfl dX11_touched_1 ?_
  refine zV_iload_n 1 dX11_touched_4 rfl rfl ?_
  refine zV_cVI (y' := zmX7_hasBowl) (n' := 0) (As := [zI x1]) zc_X11_121 (zq_40 hZ) rfl dX11_touched_5 (Nat.le_trans (by decide) hn) rfl (Nat.le_of_ble_eq_true rfl) (Nat.le_of_ble_eq_true rfl) rfl h (fun Q' h' => fX7_hasBowl_ok hZ (Nat.le_refl _) (zqsu_40 hZ) (by decide) hx1 h') (fun r1 c2 b3 h => ?_)
  refine zV_if_eq 30 dX11_touched_8 (by decide) c2 (fun hc_ => ?_) (fun hc_ => ?_)
  · replace h := zs_t h hc_
    refine zV_iconst (v := (-1)) dX11_touched_30 rfl ?_
    exact zV_ireti dX11_touched_31 rfl zi_n1 h
  · replace h := zs_f h hc_
    refine zV_iload_n 2 dX11_touched_11 rfl rfl ?_
    refine zV_cSI (y' := zmX11_isBeat) (n' := 0) (As := [zI x2]) zc_X11_179 dX11_touched_12 (Nat.le_trans (by decide) hn) rfl (Nat.le_of_ble_eq_true rfl) (Nat.le_of_ble_eq_true rfl) rfl h (fun Q' h' => fX11_isBeat_ok hZ (Nat.le_refl _) hx2 h') (fun r5 c6 b7 h => ?_)
    refine zV_if_eq 30 dX11_touched_15 (by decide) c6 (fun hc_ => ?_) (fun hc_ => ?_)
    · replace h := zs_t h hc_
      refine zV_iconst (v := (-1)) dX11_touched_30 rfl ?_
      exact zV_ireti dX11_touched_31 rfl zi_n1 h
    · replace h := zs_f h hc_
      refine zV_aload_n 0 dX11_touched_18 rfl rfl ?_
      refine zV_getR (j := 80) (zq_0 hZ) zf_X11_4 zkf_X11_38 rfl dX11_touched_19 ?_
      refine zV_iload_n 1 dX11_touched_22 rfl rfl ?_
      refine zV_iload_n 2 dX11_touched_23 rfl rfl ?_
      refine zV_cVI (y' := zmX5_pressOn) (n' := 2) (As := [zI x1, zI x2]) zc_X11_182 (zq_80 hZ) rfl dX11_touched_24 (Nat.le_trans (by decide) hn) rfl (Nat.le_of_ble_eq_true rfl) (Nat.le_of_ble_eq_true rfl) rfl h (fun Q' h' => fX5_pressOn_ok hZ (Nat.le_refl _) (zqpi_80 hZ) (by decide) hx1 hx2 h') (fun r9 c10 b11 h => ?_)
      refine zV_goto 31 dX11_touched_27 (by decide) ?_
      exact zV_ireti dX11_touched_31 rfl c10 h
noncomputable def fX11_warmth (x1 x2 : Int) (M : zMem) : Option (Int × zMem) :=
  (zbd (fX10_learn M) fun M4 => (zbd (fX7_hasBowl 40 x1 M4) fun r5 => (if r5 = 0 then some ((-1), M4) else (zbd (fX11_isBeat x2 M4) fun r9 => (if r9 = 0 then some ((-1), M4) else (zbd (fX10_heatOf x1 x2 M4) fun r13 => some (r13, M4)))))))
set_option maxRecDepth 100000 in
set_option maxHeartbeats 4000000 in
theorem fX11_warmth_ok {Z : zZ} (hZ : zB Z) {nn : Nat} (hn : 3 ≤ nn)  {x1 x2 : Int} (hx1 : z32 x1) (hx2 : z32 x2) {M : zMem} {Q : Option zAV → zMem → zZ → Prop} (h : zSat (fX11_warmth x1 x2 M) (fun r => Q (some (zI r.1)) r.2 Z))  : zV zmX11_warmth nn 0 0 Z 0 [(0, zR 0), (1, zI x1), (2, zI x2)] [] M Q := by
  unfold fX11_warmth at h
  refine zV_aload_n 0 dX11_warmth_0 rfl rfl ?_
  refine zV_getR (j := 90) (zq_0 hZ) zf_X11_7 zkf_X11_55 rfl dX11_warmth_1 ?_
  refine zV_cVV (y' := zmX10_learn) (n' := 2) (As := []) zc_X11_186 (zq_90 hZ) rfl dX11_warmth_4 (Nat.le_trans (by decide) hn) rfl (Nat.le_of_ble_eq_true rfl) (Nat.le_of_ble_eq_true rfl) rfl h (fun Q' h' => fX10_learn_ok hZ (Nat.le_refl _)  h') (fun M4 h => ?_)
  refine zV_aload_n 0 dX11_warmth_7 rfl rfl ?_
  refine zV_getR (j := 40) (zq_0 hZ) zf_X11_2 zkf_X11_19 rfl dX11_warmth_8 ?_
  refine zV_iload_n 1 dX11_warmth_11 rfl rfl ?_
  refine zV_cVI (y' := zmX7_hasBowl) (n' := 0) (As := [zI x1]) zc_X11_121 (zq_40 hZ) rfl dX11_warmth_12 (Nat.le_trans (by decide) hn) rfl (Nat.le_of_ble_eq_true rfl) (Nat.le_of_ble_eq_true rfl) rfl h (fun Q' h' => fX7_hasBowl_ok hZ (Nat.le_refl _) (zqsu_40 hZ) (by decide) hx1 h') (fun r5 c6 b7 h => ?_)
  refine zV_if_eq 37 dX11_warmth_15 (by decide) c6 (fun hc_ => ?_) (fun hc_ => ?_)
  · replace h := zs_t h hc_
    refine zV_iconst (v := (-1)) dX11_warmth_37 rfl ?_
    exact zV_ireti dX11_warmth_38 rfl zi_n1 h
  · replace h := zs_f h hc_
    refine zV_iload_n 2 dX11_warmth_18 rfl rfl ?_
    refine zV_cSI (y' := zmX11_isBeat) (n' := 0) (As := [zI x2]) zc_X11_179 dX11_warmth_19 (Nat.le_trans (by decide) hn) rfl (Nat.le_of_ble_eq_true rfl) (Nat.le_of_ble_eq_true rfl) rfl h (fun Q' h' => fX11_isBeat_ok hZ (Nat.le_refl _) hx2 h') (fun r9 c10 b11 h => ?_)
    refine zV_if_eq 37 dX11_warmth_22 (by decide) c10 (fun hc_ => ?_) (fun hc_ => ?_)
    · replace h := zs_t h hc_
      refine zV_iconst (v := (-1)) dX11_warmth_37 rfl ?_
      exact zV_ireti dX11_warmth_38 rfl zi_n1 h
    · replace h := zs_f h hc_
      refine zV_aload_n 0 dX11_warmth_25 rfl rfl ?_
      refine zV_getR (j := 90) (zq_0 hZ) zf_X11_7 zkf_X11_55 rfl dX11_warmth_26 ?_
      refine zV_iload_n 1 dX11_warmth_29 rfl rfl ?_
      refine zV_iload_n 2 dX11_warmth_30 rfl rfl ?_
      refine zV_cVI (y' := zmX10_heatOf) (n' := 0) (As := [zI x1, zI x2]) zc_X11_189 (zq_90 hZ) rfl dX11_warmth_31 (Nat.le_trans (by decide) hn) rfl (Nat.le_of_ble_eq_true rfl) (Nat.le_of_ble_eq_true rfl) rfl h (fun Q' h' => fX10_heatOf_ok hZ (Nat.le_refl _) hx1 hx2 h') (fun r13 c14 b15 h => ?_)
      refine zV_goto 38 dX11_warmth_34 (by decide) ?_
      exact zV_ireti dX11_warmth_38 rfl c14 h
noncomputable def fX11_cracked (x1 : Int) (M : zMem) : Option (Int × zMem) :=
  (zbd (fX10_learn M) fun M4 => (zbd (fX7_hasBowl 40 x1 M4) fun r5 => (if r5 = 0 then some ((-1), M4) else (zbd (fX10_crackOf x1 M4) fun r9 => some (r9, M4)))))
set_option maxRecDepth 100000 in
set_option maxHeartbeats 4000000 in
theorem fX11_cracked_ok {Z : zZ} (hZ : zB Z) {nn : Nat} (hn : 3 ≤ nn)  {x1 : Int} (hx1 : z32 x1) {M : zMem} {Q : Option zAV → zMem → zZ → Prop} (h : zSat (fX11_cracked x1 M) (fun r => Q (some (zI r.1)) r.2 Z))  : zV zmX11_cracked nn 0 0 Z 0 [(0, zR 0), (1, zI x1)] [] M Q := by
  unfold fX11_cracked at h
  refine zV_aload_n 0 dX11_cracked_0 rfl rfl ?_
  refine zV_getR (j := 90) (zq_0 hZ) zf_X11_7 zkf_X11_55 rfl dX11_cracked_1 ?_
  refine zV_cVV (y' := zmX10_learn) (n' := 2) (As := []) zc_X11_186 (zq_90 hZ) rfl dX11_cracked_4 (Nat.le_trans (by decide) hn) rfl (Nat.le_of_ble_eq_true rfl) (Nat.le_of_ble_eq_true rfl) rfl h (fun Q' h' => fX10_learn_ok hZ (Nat.le_refl _)  h') (fun M4 h => ?_)
  refine zV_aload_n 0 dX11_cracked_7 rfl rfl ?_
  refine zV_getR (j := 40) (zq_0 hZ) zf_X11_2 zkf_X11_19 rfl dX11_cracked_8 ?_
  refine zV_iload_n 1 dX11_cracked_11 rfl rfl ?_
  refine zV_cVI (y' := zmX7_hasBowl) (n' := 0) (As := [zI x1]) zc_X11_121 (zq_40 hZ) rfl dX11_cracked_12 (Nat.le_trans (by decide) hn) rfl (Nat.le_of_ble_eq_true rfl) (Nat.le_of_ble_eq_true rfl) rfl h (fun Q' h' => fX7_hasBowl_ok hZ (Nat.le_refl _) (zqsu_40 hZ) (by decide) hx1 h') (fun r5 c6 b7 h => ?_)
  refine zV_if_eq 29 dX11_cracked_15 (by decide) c6 (fun hc_ => ?_) (fun hc_ => ?_)
  · replace h := zs_t h hc_
    refine zV_iconst (v := (-1)) dX11_cracked_29 rfl ?_
    exact zV_ireti dX11_cracked_30 rfl zi_n1 h
  · replace h := zs_f h hc_
    refine zV_aload_n 0 dX11_cracked_18 rfl rfl ?_
    refine zV_getR (j := 90) (zq_0 hZ) zf_X11_7 zkf_X11_55 rfl dX11_cracked_19 ?_
    refine zV_iload_n 1 dX11_cracked_22 rfl rfl ?_
    refine zV_cVI (y' := zmX10_crackOf) (n' := 0) (As := [zI x1]) zc_X11_192 (zq_90 hZ) rfl dX11_cracked_23 (Nat.le_trans (by decide) hn) rfl (Nat.le_of_ble_eq_true rfl) (Nat.le_of_ble_eq_true rfl) rfl h (fun Q' h' => fX10_crackOf_ok hZ (Nat.le_refl _) hx1 h') (fun r9 c10 b11 h => ?_)
    refine zV_goto 30 dX11_cracked_26 (by decide) ?_
    exact zV_ireti dX11_cracked_30 rfl c10 h
noncomputable def fX11_speaks (x1 : Int) (M : zMem) : Option (Int × zMem) :=
  (zbd (fX5_has 80 x1 M) fun r1 => (if r1 = 0 then some ((-1), M) else (zbd2 (fX9_spokenBy x1 M) fun r5 M8 => some (r5, M8))))
set_option maxRecDepth 100000 in
set_option maxHeartbeats 4000000 in
theorem fX11_speaks_ok {Z : zZ} (hZ : zB Z) {nn : Nat} (hn : 6 ≤ nn)  {x1 : Int} (hx1 : z32 x1) {M : zMem} {Q : Option zAV → zMem → zZ → Prop} (h : zSat (fX11_speaks x1 M) (fun r => Q (some (zI r.1)) r.2 Z))  : zV zmX11_speaks nn 0 0 Z 0 [(0, zR 0), (1, zI x1)] [] M Q := by
  unfold fX11_speaks at h
  refine zV_aload_n 0 dX11_speaks_0 rfl rfl ?_
  refine zV_getR (j := 80) (zq_0 hZ) zf_X11_4 zkf_X11_38 rfl dX11_speaks_1 ?_
  refine zV_iload_n 1 dX11_speaks_4 rfl rfl ?_
  refine zV_cVI (y' := zmX5_has) (n' := 0) (As := [zI x1]) zc_X11_158 (zq_80 hZ) rfl dX11_speaks_5 (Nat.le_trans (by decide) hn) rfl (Nat.le_of_ble_eq_true rfl) (Nat.le_of_ble_eq_true rfl) rfl h (fun Q' h' => fX5_has_ok hZ (Nat.le_refl _) (zqpi_80 hZ) (by decide) hx1 h') (fun r1 c2 b3 h => ?_)
  refine zV_if_eq 22 dX11_speaks_8 (by decide) c2 (fun hc_ => ?_) (fun hc_ => ?_)
  · replace h := zs_t h hc_
    refine zV_iconst (v := (-1)) dX11_speaks_22 rfl ?_
    exact zV_ireti dX11_speaks_23 rfl zi_n1 h
  · replace h := zs_f h hc_
    refine zV_aload_n 0 dX11_speaks_11 rfl rfl ?_
    refine zV_getR (j := 110) (zq_0 hZ) zf_X11_9 zkf_X11_71 rfl dX11_speaks_12 ?_
    refine zV_iload_n 1 dX11_speaks_15 rfl rfl ?_
    refine zV_cVIm (y' := zmX9_spokenBy) (n' := 5) (As := [zI x1]) zc_X11_209 (zq_110 hZ) rfl dX11_speaks_16 (Nat.le_trans (by decide) hn) rfl (Nat.le_of_ble_eq_true rfl) (Nat.le_of_ble_eq_true rfl) rfl h (fun Q' h' => fX9_spokenBy_ok hZ (Nat.le_refl _) hx1 h') (fun r5 M8 c6 b7 h => ?_)
    refine zV_goto 23 dX11_speaks_19 (by decide) ?_
    exact zV_ireti dX11_speaks_23 rfl c6 h
noncomputable def fX11_sounds (x1 : Int) (M : zMem) : Option (Int × zMem) :=
  (zbd (fX11_isBeat x1 M) fun r1 => (if r1 = 0 then some ((-1), M) else (zbd2 (fX9_speakingIn x1 M) fun r5 M8 => some (r5, M8))))
set_option maxRecDepth 100000 in
set_option maxHeartbeats 4000000 in
theorem fX11_sounds_ok {Z : zZ} (hZ : zB Z) {nn : Nat} (hn : 6 ≤ nn)  {x1 : Int} (hx1 : z32 x1) {M : zMem} {Q : Option zAV → zMem → zZ → Prop} (h : zSat (fX11_sounds x1 M) (fun r => Q (some (zI r.1)) r.2 Z))  : zV zmX11_sounds nn 0 0 Z 0 [(0, zR 0), (1, zI x1)] [] M Q := by
  unfold fX11_sounds at h
  refine zV_iload_n 1 dX11_sounds_0 rfl rfl ?_
  refine zV_cSI (y' := zmX11_isBeat) (n' := 0) (As := [zI x1]) zc_X11_179 dX11_sounds_1 (Nat.le_trans (by decide) hn) rfl (Nat.le_of_ble_eq_true rfl) (Nat.le_of_ble_eq_true rfl) rfl h (fun Q' h' => fX11_isBeat_ok hZ (Nat.le_refl _) hx1 h') (fun r1 c2 b3 h => ?_)
  refine zV_if_eq 18 dX11_sounds_4 (by decide) c2 (fun hc_ => ?_) (fun hc_ => ?_)
  · replace h := zs_t h hc_
    refine zV_iconst (v := (-1)) dX11_sounds_18 rfl ?_
    exact zV_ireti dX11_sounds_19 rfl zi_n1 h
  · replace h := zs_f h hc_
    refine zV_aload_n 0 dX11_sounds_7 rfl rfl ?_
    refine zV_getR (j := 110) (zq_0 hZ) zf_X11_9 zkf_X11_71 rfl dX11_sounds_8 ?_
    refine zV_iload_n 1 dX11_sounds_11 rfl rfl ?_
    refine zV_cVIm (y' := zmX9_speakingIn) (n' := 5) (As := [zI x1]) zc_X11_212 (zq_110 hZ) rfl dX11_sounds_12 (Nat.le_trans (by decide) hn) rfl (Nat.le_of_ble_eq_true rfl) (Nat.le_of_ble_eq_true rfl) rfl h (fun Q' h' => fX9_speakingIn_ok hZ (Nat.le_refl _) hx1 h') (fun r5 M8 c6 b7 h => ?_)
    refine zV_goto 19 dX11_sounds_15 (by decide) ?_
    exact zV_ireti dX11_sounds_19 rfl c6 h
noncomputable def fX11_along (x1 : Int) (M : zMem) : Option (Int × zMem) :=
  (zbd (fX11_isBeat x1 M) fun r1 => (if r1 = 0 then some ((-1), M) else (zbd2 (fX9_ringingIn x1 M) fun r5 M8 => some (r5, M8))))
set_option maxRecDepth 100000 in
set_option maxHeartbeats 4000000 in
theorem fX11_along_ok {Z : zZ} (hZ : zB Z) {nn : Nat} (hn : 7 ≤ nn)  {x1 : Int} (hx1 : z32 x1) {M : zMem} {Q : Option zAV → zMem → zZ → Prop} (h : zSat (fX11_along x1 M) (fun r => Q (some (zI r.1)) r.2 Z))  : zV zmX11_along nn 0 0 Z 0 [(0, zR 0), (1, zI x1)] [] M Q := by
  unfold fX11_along at h
  refine zV_iload_n 1 dX11_along_0 rfl rfl ?_
  refine zV_cSI (y' := zmX11_isBeat) (n' := 0) (As := [zI x1]) zc_X11_179 dX11_along_1 (Nat.le_trans (by decide) hn) rfl (Nat.le_of_ble_eq_true rfl) (Nat.le_of_ble_eq_true rfl) rfl h (fun Q' h' => fX11_isBeat_ok hZ (Nat.le_refl _) hx1 h') (fun r1 c2 b3 h => ?_)
  refine zV_if_eq 18 dX11_along_4 (by decide) c2 (fun hc_ => ?_) (fun hc_ => ?_)
  · replace h := zs_t h hc_
    refine zV_iconst (v := (-1)) dX11_along_18 rfl ?_
    exact zV_ireti dX11_along_19 rfl zi_n1 h
  · replace h := zs_f h hc_
    refine zV_aload_n 0 dX11_along_7 rfl rfl ?_
    refine zV_getR (j := 110) (zq_0 hZ) zf_X11_9 zkf_X11_71 rfl dX11_along_8 ?_
    refine zV_iload_n 1 dX11_along_11 rfl rfl ?_
    refine zV_cVIm (y' := zmX9_ringingIn) (n' := 6) (As := [zI x1]) zc_X11_215 (zq_110 hZ) rfl dX11_along_12 (Nat.le_trans (by decide) hn) rfl (Nat.le_of_ble_eq_true rfl) (Nat.le_of_ble_eq_true rfl) rfl h (fun Q' h' => fX9_ringingIn_ok hZ (Nat.le_refl _) hx1 h') (fun r5 M8 c6 b7 h => ?_)
    refine zV_goto 19 dX11_along_15 (by decide) ?_
    exact zV_ireti dX11_along_19 rfl c6 h
noncomputable def fX11_silence_j19 (x2 s0 : Int) (M : zMem) : Option (Int × zMem) :=
  (if s0 = (-1) then some ((-1), M) else (zbd (fX5_firstIn 80 s0 M) fun r5 => (if x2 = 0 then some (s0, M) else (if x2 = 1 then some (r5, M) else (if x2 = 2 then (zbd2 (fX9_reasonOf r5 s0 M) fun r9 M12 => some (r9, M12)) else some ((-1), M))))))
set_option maxRecDepth 100000 in
set_option maxHeartbeats 4000000 in
theorem fX11_silence_j19_ok {Z : zZ} (hZ : zB Z) {nn : Nat} (hn : 7 ≤ nn)  {x2 s0 : Int} (hx2 : z32 x2) (hs0 : z32 s0) {M : zMem} {Q : Option zAV → zMem → zZ → Prop} (h : zSat (fX11_silence_j19 x2 s0 M) (fun r => Q (some (zI r.1)) r.2 Z))  : zV zmX11_silence nn 0 0 Z 19 [(0, zR 0), (2, zI x2)] [zI s0] M Q := by
  unfold fX11_silence_j19 at h
  refine zV_istore_n [(3, zI s0), (0, zR 0), (2, zI x2)] dX11_silence_19 rfl (by decide) rfl ?_
  refine zV_iload_n 0 dX11_silence_20 rfl rfl ?_
  refine zV_iconst (v := (-1)) dX11_silence_21 rfl ?_
  refine zV_icmp_ne 27 dX11_silence_22 (by decide) hs0 zi_n1 (fun hc_ => ?_) (fun hc_ => ?_)
  · replace h := zs_f h hc_
    refine zV_aload_n 1 dX11_silence_27 rfl rfl ?_
    refine zV_getR (j := 80) (zq_0 hZ) zf_X11_4 zkf_X11_38 rfl dX11_silence_28 ?_
    refine zV_iload_n 0 dX11_silence_31 rfl rfl ?_
    refine zV_cVI (y' := zmX5_firstIn) (n' := 2) (As := [zI s0]) zc_X11_221 (zq_80 hZ) rfl dX11_silence_32 (Nat.le_trans (by decide) hn) rfl (Nat.le_of_ble_eq_true rfl) (Nat.le_of_ble_eq_true rfl) rfl h (fun Q' h' => fX5_firstIn_ok hZ (Nat.le_refl _) (zqpi_80 hZ) (by decide) hs0 h') (fun r5 c6 b7 h => ?_)
    refine zV_istore [(4, zI r5), (3, zI s0), (0, zR 0), (2, zI x2)] dX11_silence_35 (by decide) rfl ?_
    refine zV_iload_n 3 dX11_silence_37 rfl rfl ?_
    refine zV_if (x2 = 0) (fun hc_ => ?_) (fun hc_0 => ?_)
    · replace h := zs_t h hc_
      refine zV_tsw 64 dX11_silence_38 hx2 (by rw [hc_]; decide) ?_
      refine zV_iload_n 1 dX11_silence_64 rfl rfl ?_
      exact zV_ireti dX11_silence_65 rfl hs0 h
    · replace h := zs_f h hc_0
      refine zV_if (x2 = 1) (fun hc_ => ?_) (fun hc_1 => ?_)
      · replace h := zs_t h hc_
        refine zV_tsw 66 dX11_silence_38 hx2 (by rw [hc_]; decide) ?_
        refine zV_iload 0 dX11_silence_66 rfl ?_
        exact zV_ireti dX11_silence_68 rfl c6 h
      · replace h := zs_f h hc_1
        refine zV_if (x2 = 2) (fun hc_ => ?_) (fun hc_2 => ?_)
        · replace h := zs_t h hc_
          refine zV_tsw 69 dX11_silence_38 hx2 (by rw [hc_]; decide) ?_
          refine zV_aload_n 2 dX11_silence_69 rfl rfl ?_
          refine zV_getR (j := 110) (zq_0 hZ) zf_X11_9 zkf_X11_71 rfl dX11_silence_70 ?_
          refine zV_iload 0 dX11_silence_73 rfl ?_
          refine zV_iload_n 1 dX11_silence_75 rfl rfl ?_
          refine zV_cVIm (y' := zmX9_reasonOf) (n' := 5) (As := [zI r5, zI s0]) zc_X11_206 (zq_110 hZ) rfl dX11_silence_76 (Nat.le_trans (by decide) hn) rfl (Nat.le_of_ble_eq_true rfl) (Nat.le_of_ble_eq_true rfl) rfl h (fun Q' h' => fX9_reasonOf_ok hZ (Nat.le_refl _) c6 hs0 h') (fun r9 M12 c10 b11 h => ?_)
          exact zV_ireti dX11_silence_79 rfl c10 h
        · replace h := zs_f h hc_2
          refine zV_tswd 80 dX11_silence_38 hx2 (Or.inl ⟨by omega, by decide⟩) ?_
          refine zV_iconst (v := (-1)) dX11_silence_80 rfl ?_
          exact zV_ireti dX11_silence_81 rfl zi_n1 h
  · replace h := zs_t h hc_
    refine zV_iconst (v := (-1)) dX11_silence_25 rfl ?_
    exact zV_ireti dX11_silence_26 rfl zi_n1 h
noncomputable def fX11_silence (x1 x2 : Int) (M : zMem) : Option (Int × zMem) :=
  (zbd (fX11_isBeat x1 M) fun r1 => (if r1 = 0 then fX11_silence_j19 x2 (-1) M else (zbd2 (fX9_silentFrom x1 M) fun r13 M16 => fX11_silence_j19 x2 r13 M16)))
set_option maxRecDepth 100000 in
set_option maxHeartbeats 4000000 in
theorem fX11_silence_ok {Z : zZ} (hZ : zB Z) {nn : Nat} (hn : 7 ≤ nn)  {x1 x2 : Int} (hx1 : z32 x1) (hx2 : z32 x2) {M : zMem} {Q : Option zAV → zMem → zZ → Prop} (h : zSat (fX11_silence x1 x2 M) (fun r => Q (some (zI r.1)) r.2 Z))  : zV zmX11_silence nn 0 0 Z 0 [(0, zR 0), (1, zI x1), (2, zI x2)] [] M Q := by
  unfold fX11_silence at h
  refine zV_iload_n 1 dX11_silence_0 rfl rfl ?_
  refine zV_cSI (y' := zmX11_isBeat) (n' := 0) (As := [zI x1]) zc_X11_179 dX11_silence_1 (Nat.le_trans (by decide) hn) rfl (Nat.le_of_ble_eq_true rfl) (Nat.le_of_ble_eq_true rfl) rfl h (fun Q' h' => fX11_isBeat_ok hZ (Nat.le_refl _) hx1 h') (fun r1 c2 b3 h => ?_)
  refine zV_if_eq 18 dX11_silence_4 (by decide) c2 (fun hc_ => ?_) (fun hc_ => ?_)
  · replace h := zs_t h hc_
    refine zV_iconst (v := (-1)) dX11_silence_18 rfl ?_
    refine zV_ls [0, 2] rfl ?_
    exact fX11_silence_j19_ok hZ hn hx2 zi_n1 h
  · replace h := zs_f h hc_
    refine zV_aload_n 0 dX11_silence_7 rfl rfl ?_
    refine zV_getR (j := 110) (zq_0 hZ) zf_X11_9 zkf_X11_71 rfl dX11_silence_8 ?_
    refine zV_iload_n 1 dX11_silence_11 rfl rfl ?_
    refine zV_cVIm (y' := zmX9_silentFrom) (n' := 6) (As := [zI x1]) zc_X11_218 (zq_110 hZ) rfl dX11_silence_12 (Nat.le_trans (by decide) hn) rfl (Nat.le_of_ble_eq_true rfl) (Nat.le_of_ble_eq_true rfl) rfl h (fun Q' h' => fX9_silentFrom_ok hZ (Nat.le_refl _) hx1 h') (fun r13 M16 c14 b15 h => ?_)
    refine zV_goto 19 dX11_silence_15 (by decide) ?_
    refine zV_ls [0, 2] rfl ?_
    exact fX11_silence_j19_ok hZ hn hx2 c14 h
noncomputable def fX11_best_l15 (x1 x2 x3 : Int) (M : zMem) : Option ((Int × Int × zMem) ⊕ (Int × Int × zMem)) :=
  (if 99 < x3 then some (.inr (x2, x3, M)) else (zbd2 (fX9_spokenAt x3 M) fun r1 M4 => (zbd2 (fX9_spokenAt x2 M4) fun r5 M8 => (if r1 ≤ r5 then some (.inl (x2, (zw (x3 + 1)), M8)) else some (.inl (x3, (zw (x3 + 1)), M8))))))
set_option maxRecDepth 100000 in
set_option maxHeartbeats 4000000 in
theorem fX11_best_l15_ok {Z : zZ} (hZ : zB Z) {nn : Nat} (hn : 7 ≤ nn)  {x1 x2 x3 : Int} (hx1 : z32 x1) (hx2 : z32 x2) (hx3 : z32 x3) {M : zMem} {Q : Option zAV → zMem → zZ → Prop} {P : (Int × Int × zMem) ⊕ (Int × Int × zMem) → Prop} (h : zSat (fX11_best_l15 x1 x2 x3 M) P)  (hc : ∀ s : Int × Int × zMem, P (.inl s) → z32 (s.1) → z32 (s.2.1) → zV zmX11_best nn 0 0 Z 15 [(0, zR 0), (1, zI x1), (2, zI (s.1)), (3, zI (s.2.1))] [] (s.2.2) Q) (he : ∀ s : Int × Int × zMem, P (.inr s) → z32 (s.1) → z32 (s.2.1) → zV zmX11_best nn 0 0 Z 48 [(0, zR 0), (1, zI x1), (2, zI (s.1)), (3, zI (s.2.1))] [] (s.2.2) Q)   : zV zmX11_best nn 0 0 Z 15 [(0, zR 0), (1, zI x1), (2, zI x2), (3, zI x3)] [] M Q := by
  unfold fX11_best_l15 at h
  refine zV_iload_n 3 dX11_best_15 rfl rfl ?_
  refine zV_bipush (v := 99) dX11_best_16 rfl ?_
  refine zV_icmp_gt 48 dX11_best_18 (by decide) hx3 zi_99 (fun hc_ => ?_) (fun hc_ => ?_)
  · replace h := zs_t h hc_
    exact he _ h hx2 hx3
  · replace h := zs_f h hc_
    refine zV_aload_n 0 dX11_best_21 rfl rfl ?_
    refine zV_getR (j := 110) (zq_0 hZ) zf_X11_9 zkf_X11_71 rfl dX11_best_22 ?_
    refine zV_iload_n 3 dX11_best_25 rfl rfl ?_
    refine zV_cVIm (y' := zmX9_spokenAt) (n' := 6) (As := [zI x3]) zc_X11_224 (zq_110 hZ) rfl dX11_best_26 (Nat.le_trans (by decide) hn) rfl (Nat.le_of_ble_eq_true rfl) (Nat.le_of_ble_eq_true rfl) rfl h (fun Q' h' => fX9_spokenAt_ok hZ (Nat.le_refl _) hx3 h') (fun r1 M4 c2 b3 h => ?_)
    refine zV_aload_n 0 dX11_best_29 rfl rfl ?_
    refine zV_getR (j := 110) (zq_0 hZ) zf_X11_9 zkf_X11_71 rfl dX11_best_30 ?_
    refine zV_iload_n 2 dX11_best_33 rfl rfl ?_
    refine zV_cVIm (y' := zmX9_spokenAt) (n' := 6) (As := [zI x2]) zc_X11_224 (zq_110 hZ) rfl dX11_best_34 (Nat.le_trans (by decide) hn) rfl (Nat.le_of_ble_eq_true rfl) (Nat.le_of_ble_eq_true rfl) rfl h (fun Q' h' => fX9_spokenAt_ok hZ (Nat.le_refl _) hx2 h') (fun r5 M8 c6 b7 h => ?_)
    refine zV_icmp_le 42 dX11_best_37 (by decide) c2 c6 (fun hc_ => ?_) (fun hc_ => ?_)
    · replace h := zs_t h hc_
      refine zV_iinc 3 [(3, zI (zw (x3 + 1))), (0, zR 0), (1, zI x1), (2, zI x2)] dX11_best_42 rfl rfl (by decide) rfl ?_
      refine zV_goto 15 dX11_best_45 (by decide) ?_
      refine zV_ls [1, 2, 3, 0] rfl ?_
      exact hc _ h hx2 (z32_w _)
    · replace h := zs_f h hc_
      refine zV_iload_n 3 dX11_best_40 rfl rfl ?_
      refine zV_istore_n [(2, zI x3), (0, zR 0), (1, zI x1), (3, zI x3)] dX11_best_41 rfl (by decide) rfl ?_
      refine zV_iinc 3 [(3, zI (zw (x3 + 1))), (2, zI x3), (0, zR 0), (1, zI x1)] dX11_best_42 rfl rfl (by decide) rfl ?_
      refine zV_goto 15 dX11_best_45 (by decide) ?_
      refine zV_ls [2, 3, 1, 0] rfl ?_
      exact hc _ h hx3 (z32_w _)
noncomputable def fX11_best_j11 (x1 : Int) (M : zMem) : Option (Int × zMem) :=
  (zbd (zit (fun s9 => fX11_best_l15 x1 (s9.1) (s9.2.1) (s9.2.2)) (1, 2, M)) fun s16 => (if x1 = 0 then some (s16.1, s16.2.2) else (zbd2 (fX9_spokenAt (s16.1) (s16.2.2)) fun r20 M23 => some (r20, M23))))
set_option maxRecDepth 100000 in
set_option maxHeartbeats 4000000 in
theorem fX11_best_j11_ok {Z : zZ} (hZ : zB Z) {nn : Nat} (hn : 7 ≤ nn)  {x1 : Int} (hx1 : z32 x1) {M : zMem} {Q : Option zAV → zMem → zZ → Prop} (h : zSat (fX11_best_j11 x1 M) (fun r => Q (some (zI r.1)) r.2 Z))  : zV zmX11_best nn 0 0 Z 11 [(0, zR 0), (1, zI x1)] [] M Q := by
  unfold fX11_best_j11 at h
  refine zV_iconst (v := 1) dX11_best_11 rfl ?_
  refine zV_istore_n [(2, zI 1), (0, zR 0), (1, zI x1)] dX11_best_12 rfl (by decide) rfl ?_
  refine zV_iconst (v := 2) dX11_best_13 rfl ?_
  refine zV_istore_n [(3, zI 2), (2, zI 1), (0, zR 0), (1, zI x1)] dX11_best_14 rfl (by decide) rfl ?_
  refine zV_ls [2, 3, 1, 0] rfl ?_
  refine (zV_loop (Vh := fun s9 : Int × Int × zMem => z32 (s9.1) → z32 (s9.2.1) → zV zmX11_best nn 0 0 Z 15 [(0, zR 0), (1, zI x1), (2, zI (s9.1)), (3, zI (s9.2.1))] [] (s9.2.2) Q) h (fun s9 P10 hP11 hc12 he13 => ?_)) zi_1 zi_2
  intro c14 c15
  refine fX11_best_l15_ok hZ hn hx1 c14 c15 hP11 hc12 (fun s16 h17 d18 d19 => ?_)
  have h := he13 _ h17
  refine zV_iload_n 1 dX11_best_48 rfl rfl ?_
  refine zV_if_ne 56 dX11_best_49 (by decide) hx1 (fun hc_ => ?_) (fun hc_ => ?_)
  · replace h := zs_f h hc_
    refine zV_aload_n 0 dX11_best_56 rfl rfl ?_
    refine zV_getR (j := 110) (zq_0 hZ) zf_X11_9 zkf_X11_71 rfl dX11_best_57 ?_
    refine zV_iload_n 2 dX11_best_60 rfl rfl ?_
    refine zV_cVIm (y' := zmX9_spokenAt) (n' := 6) (As := [zI (s16.1)]) zc_X11_224 (zq_110 hZ) rfl dX11_best_61 (Nat.le_trans (by decide) hn) rfl (Nat.le_of_ble_eq_true rfl) (Nat.le_of_ble_eq_true rfl) rfl h (fun Q' h' => fX9_spokenAt_ok hZ (Nat.le_refl _) d18 h') (fun r20 M23 c21 b22 h => ?_)
    exact zV_ireti dX11_best_64 rfl c21 h
  · replace h := zs_t h hc_
    refine zV_iload_n 2 dX11_best_52 rfl rfl ?_
    refine zV_goto 64 dX11_best_53 (by decide) ?_
    exact zV_ireti dX11_best_64 rfl d18 h
noncomputable def fX11_best (x1 : Int) (M : zMem) : Option (Int × zMem) :=
  (if x1 = 0 then fX11_best_j11 x1 M else (if x1 = 1 then fX11_best_j11 x1 M else some ((-1), M)))
set_option maxRecDepth 100000 in
set_option maxHeartbeats 4000000 in
theorem fX11_best_ok {Z : zZ} (hZ : zB Z) {nn : Nat} (hn : 7 ≤ nn)  {x1 : Int} (hx1 : z32 x1) {M : zMem} {Q : Option zAV → zMem → zZ → Prop} (h : zSat (fX11_best x1 M) (fun r => Q (some (zI r.1)) r.2 Z))  : zV zmX11_best nn 0 0 Z 0 [(0, zR 0), (1, zI x1)] [] M Q := by
  unfold fX11_best at h
  refine zV_iload_n 1 dX11_best_0 rfl rfl ?_
  refine zV_if_eq 11 dX11_best_1 (by decide) hx1 (fun hc_ => ?_) (fun hc_ => ?_)
  · replace h := zs_t h hc_
    exact fX11_best_j11_ok hZ hn hx1 h
  · replace h := zs_f h hc_
    refine zV_iload_n 1 dX11_best_4 rfl rfl ?_
    refine zV_iconst (v := 1) dX11_best_5 rfl ?_
    refine zV_icmp_eq 11 dX11_best_6 (by decide) hx1 zi_1 (fun hc_ => ?_) (fun hc_ => ?_)
    · replace h := zs_t h hc_
      exact fX11_best_j11_ok hZ hn hx1 h
    · replace h := zs_f h hc_
      refine zV_iconst (v := (-1)) dX11_best_9 rfl ?_
      exact zV_ireti dX11_best_10 rfl zi_n1 h
noncomputable def fX11_atTreadle (x1 : Int) (M : zMem) : Option (Int × zMem) :=
  (if x1 < 1 then some ((-1), M) else (if 99 < x1 then some ((-1), M) else (zbd2 (fX9_spokenAt x1 M) fun r1 M4 => some (r1, M4))))
set_option maxRecDepth 100000 in
set_option maxHeartbeats 4000000 in
theorem fX11_atTreadle_ok {Z : zZ} (hZ : zB Z) {nn : Nat} (hn : 7 ≤ nn)  {x1 : Int} (hx1 : z32 x1) {M : zMem} {Q : Option zAV → zMem → zZ → Prop} (h : zSat (fX11_atTreadle x1 M) (fun r => Q (some (zI r.1)) r.2 Z))  : zV zmX11_atTreadle nn 0 0 Z 0 [(0, zR 0), (1, zI x1)] [] M Q := by
  unfold fX11_atTreadle at h
  refine zV_iload_n 1 dX11_atTreadle_0 rfl rfl ?_
  refine zV_iconst (v := 1) dX11_atTreadle_1 rfl ?_
  refine zV_icmp_lt 22 dX11_atTreadle_2 (by decide) hx1 zi_1 (fun hc_ => ?_) (fun hc_ => ?_)
  · replace h := zs_t h hc_
    refine zV_iconst (v := (-1)) dX11_atTreadle_22 rfl ?_
    exact zV_ireti dX11_atTreadle_23 rfl zi_n1 h
  · replace h := zs_f h hc_
    refine zV_iload_n 1 dX11_atTreadle_5 rfl rfl ?_
    refine zV_bipush (v := 99) dX11_atTreadle_6 rfl ?_
    refine zV_icmp_gt 22 dX11_atTreadle_8 (by decide) hx1 zi_99 (fun hc_ => ?_) (fun hc_ => ?_)
    · replace h := zs_t h hc_
      refine zV_iconst (v := (-1)) dX11_atTreadle_22 rfl ?_
      exact zV_ireti dX11_atTreadle_23 rfl zi_n1 h
    · replace h := zs_f h hc_
      refine zV_aload_n 0 dX11_atTreadle_11 rfl rfl ?_
      refine zV_getR (j := 110) (zq_0 hZ) zf_X11_9 zkf_X11_71 rfl dX11_atTreadle_12 ?_
      refine zV_iload_n 1 dX11_atTreadle_15 rfl rfl ?_
      refine zV_cVIm (y' := zmX9_spokenAt) (n' := 6) (As := [zI x1]) zc_X11_224 (zq_110 hZ) rfl dX11_atTreadle_16 (Nat.le_trans (by decide) hn) rfl (Nat.le_of_ble_eq_true rfl) (Nat.le_of_ble_eq_true rfl) rfl h (fun Q' h' => fX9_spokenAt_ok hZ (Nat.le_refl _) hx1 h') (fun r1 M4 c2 b3 h => ?_)
      refine zV_goto 23 dX11_atTreadle_19 (by decide) ?_
      exact zV_ireti dX11_atTreadle_23 rfl c2 h
noncomputable def fX11_wrong (x1 : Int) (M : zMem) : Option (Int) :=
  (zbd (fX5_has 80 x1 M) fun r1 => (if r1 = 0 then some (-1) else (zbd (fX2_faultOf 86 24 x1 M) fun r5 => some r5)))
set_option maxRecDepth 100000 in
set_option maxHeartbeats 4000000 in
theorem fX11_wrong_ok {Z : zZ} (hZ : zB Z) {nn : Nat} (hn : 3 ≤ nn)  {x1 : Int} (hx1 : z32 x1) {M : zMem} {Q : Option zAV → zMem → zZ → Prop} (h : zSat (fX11_wrong x1 M) (fun r => Q (some (zI r)) M Z))  : zV zmX11_wrong nn 0 0 Z 0 [(0, zR 0), (1, zI x1)] [] M Q := by
  unfold fX11_wrong at h
  refine zV_aload_n 0 dX11_wrong_0 rfl rfl ?_
  refine zV_getR (j := 80) (zq_0 hZ) zf_X11_4 zkf_X11_38 rfl dX11_wrong_1 ?_
  refine zV_iload_n 1 dX11_wrong_4 rfl rfl ?_
  refine zV_cVI (y' := zmX5_has) (n' := 0) (As := [zI x1]) zc_X11_158 (zq_80 hZ) rfl dX11_wrong_5 (Nat.le_trans (by decide) hn) rfl (Nat.le_of_ble_eq_true rfl) (Nat.le_of_ble_eq_true rfl) rfl h (fun Q' h' => fX5_has_ok hZ (Nat.le_refl _) (zqpi_80 hZ) (by decide) hx1 h') (fun r1 c2 b3 h => ?_)
  refine zV_if_eq 29 dX11_wrong_8 (by decide) c2 (fun hc_ => ?_) (fun hc_ => ?_)
  · replace h := zs_t h hc_
    refine zV_iconst (v := (-1)) dX11_wrong_29 rfl ?_
    exact zV_ireti dX11_wrong_30 rfl zi_n1 h
  · replace h := zs_f h hc_
    refine zV_aload_n 0 dX11_wrong_11 rfl rfl ?_
    refine zV_getR (j := 100) (zq_0 hZ) zf_X11_8 zkf_X11_62 rfl dX11_wrong_12 ?_
    refine zV_aload_n 0 dX11_wrong_15 rfl rfl ?_
    refine zV_getR (j := 80) (zq_0 hZ) zf_X11_4 zkf_X11_38 rfl dX11_wrong_16 ?_
    refine zV_getR (j := 86) (zq_80 hZ) zf_X5_5 zkf_X11_161 rfl dX11_wrong_19 ?_
    refine zV_iload_n 1 dX11_wrong_22 rfl rfl ?_
    refine zV_cVI (y' := zmX2_faultOf) (n' := 2) (As := [zR 86, zI x1]) zc_X11_227 (zq_100 hZ) rfl dX11_wrong_23 (Nat.le_trans (by decide) hn) rfl (Nat.le_of_ble_eq_true rfl) (Nat.le_of_ble_eq_true rfl) rfl h (fun Q' h' => fX2_faultOf_ok hZ (Nat.le_refl _) (zq_86 hZ) (by decide) hx1 h') (fun r5 c6 b7 h => ?_)
    refine zV_goto 30 dX11_wrong_26 (by decide) ?_
    exact zV_ireti dX11_wrong_30 rfl c6 h
noncomputable def fX11_judged_l2 (x1 : Int) (M : zMem) : Option ((Int) ⊕ ((Int) ⊕ (Int))) :=
  (if (M 80 0) ≤ x1 then some (.inr (.inl x1)) else (zbd (fX2_faultOf 86 24 x1 M) fun r2 => (if r2 = 0 then some (.inl (zw (x1 + 1))) else some (.inr (.inr x1)))))
set_option maxRecDepth 100000 in
set_option maxHeartbeats 4000000 in
theorem fX11_judged_l2_ok {Z : zZ} (hZ : zB Z) {nn : Nat} (hn : 3 ≤ nn)  {x1 : Int} (hx1 : z32 x1) {M : zMem} {Q : Option zAV → zMem → zZ → Prop} {P : (Int) ⊕ ((Int) ⊕ (Int)) → Prop} (h : zSat (fX11_judged_l2 x1 M) P)  (hc : ∀ s : Int, P (.inl s) → z32 s → zV zmX11_judged nn 0 0 Z 2 [(0, zR 0), (1, zI s)] [] M Q) (he : ∀ s : Int, P (.inr (.inl s)) → z32 s → zV zmX11_judged nn 0 0 Z 39 [(0, zR 0), (1, zI s)] [] M Q) (hr : ∀ r : Int, P (.inr (.inr r)) → (fun r => Q (some (zI r)) M Z) r)  : zV zmX11_judged nn 0 0 Z 2 [(0, zR 0), (1, zI x1)] [] M Q := by
  unfold fX11_judged_l2 at h
  refine zV_iload_n 1 dX11_judged_2 rfl rfl ?_
  refine zV_aload_n 0 dX11_judged_3 rfl rfl ?_
  refine zV_getR (j := 80) (zq_0 hZ) zf_X11_4 zkf_X11_38 rfl dX11_judged_4 ?_
  refine zV_getI (zq_80 hZ) zf_X5_0 zkf_X11_115 rfl dX11_judged_7 (fun m1 => ?_)
  refine zV_icmp_ge 39 dX11_judged_10 (by decide) hx1 m1 (fun hc_ => ?_) (fun hc_ => ?_)
  · replace h := zs_t h hc_
    exact he _ h hx1
  · replace h := zs_f h hc_
    refine zV_aload_n 0 dX11_judged_13 rfl rfl ?_
    refine zV_getR (j := 100) (zq_0 hZ) zf_X11_8 zkf_X11_62 rfl dX11_judged_14 ?_
    refine zV_aload_n 0 dX11_judged_17 rfl rfl ?_
    refine zV_getR (j := 80) (zq_0 hZ) zf_X11_4 zkf_X11_38 rfl dX11_judged_18 ?_
    refine zV_getR (j := 86) (zq_80 hZ) zf_X5_5 zkf_X11_161 rfl dX11_judged_21 ?_
    refine zV_iload_n 1 dX11_judged_24 rfl rfl ?_
    refine zV_cVI (y' := zmX2_faultOf) (n' := 2) (As := [zR 86, zI x1]) zc_X11_227 (zq_100 hZ) rfl dX11_judged_25 (Nat.le_trans (by decide) hn) rfl (Nat.le_of_ble_eq_true rfl) (Nat.le_of_ble_eq_true rfl) rfl h (fun Q' h' => fX2_faultOf_ok hZ (Nat.le_refl _) (zq_86 hZ) (by decide) hx1 h') (fun r2 c3 b4 h => ?_)
    refine zV_if_eq 33 dX11_judged_28 (by decide) c3 (fun hc_ => ?_) (fun hc_ => ?_)
    · replace h := zs_t h hc_
      refine zV_iinc 1 [(1, zI (zw (x1 + 1))), (0, zR 0)] dX11_judged_33 rfl rfl (by decide) rfl ?_
      refine zV_goto 2 dX11_judged_36 (by decide) ?_
      refine zV_ls [1, 0] rfl ?_
      exact hc _ h (z32_w _)
    · replace h := zs_f h hc_
      refine zV_iload_n 1 dX11_judged_31 rfl rfl ?_
      exact zV_ireti dX11_judged_32 rfl hx1 (hr _ h)
noncomputable def fX11_judged (M : zMem) : Option (Int) :=
  (zbd (zit (fun s6 => fX11_judged_l2 s6 M) 0) fun e => zel e (fun s12 => some (-1)) (fun r => some r))
set_option maxRecDepth 100000 in
set_option maxHeartbeats 4000000 in
theorem fX11_judged_ok {Z : zZ} (hZ : zB Z) {nn : Nat} (hn : 3 ≤ nn)   {M : zMem} {Q : Option zAV → zMem → zZ → Prop} (h : zSat (fX11_judged M) (fun r => Q (some (zI r)) M Z))  : zV zmX11_judged nn 0 0 Z 0 [(0, zR 0)] [] M Q := by
  unfold fX11_judged at h
  refine zV_iconst (v := 0) dX11_judged_0 rfl ?_
  refine zV_istore_n [(1, zI 0), (0, zR 0)] dX11_judged_1 rfl (by decide) rfl ?_
  refine zV_ls [1, 0] rfl ?_
  refine (zV_loop (Vh := fun s6 : Int => z32 s6 → zV zmX11_judged nn 0 0 Z 2 [(0, zR 0), (1, zI s6)] [] M Q) h (fun s6 P7 hP8 hc9 he10 => ?_)) zi_0
  intro c11
  refine fX11_judged_l2_ok hZ hn c11 hP8 hc9 (fun s12 h13 d14 => ?_) (fun r15 h16 => he10 _ h16)
  have h := he10 _ h13
  refine zV_iconst (v := (-1)) dX11_judged_39 rfl ?_
  exact zV_ireti dX11_judged_40 rfl zi_n1 h
noncomputable def fX11_lifts_j39 (x1 x2 s0 s1 : Int) (M : zMem) : Option ((Int × Int) ⊕ (Int × Int)) :=
  some (.inl ((zw (s1 + s0)), (zw (x2 + 1))))
set_option maxRecDepth 100000 in
set_option maxHeartbeats 4000000 in
theorem fX11_lifts_j39_ok {Z : zZ} (hZ : zB Z) {nn : Nat} (hn : 3 ≤ nn)  {x1 x2 s0 s1 : Int} (hx1 : z32 x1) (hx2 : z32 x2) (hs0 : z32 s0) (hbs0 : s0 = 0 ∨ s0 = 1) (hs1 : z32 s1) {M : zMem} {Q : Option zAV → zMem → zZ → Prop} {P : (Int × Int) ⊕ (Int × Int) → Prop} (h : zSat (fX11_lifts_j39 x1 x2 s0 s1 M) P)  (hc : ∀ s : Int × Int, P (.inl s) → z32 (s.1) → z32 (s.2) → zV zmX11_lifts nn 0 0 Z 4 [(0, zR 0), (1, zI (s.1)), (2, zI (s.2))] [] M Q) (he : ∀ s : Int × Int, P (.inr s) → z32 (s.1) → z32 (s.2) → zV zmX11_lifts nn 0 0 Z 47 [(0, zR 0), (1, zI (s.1)), (2, zI (s.2))] [] M Q)   : zV zmX11_lifts nn 0 0 Z 39 [(0, zR 0), (1, zI x1), (2, zI x2)] [zI s0, zI s1] M Q := by
  unfold fX11_lifts_j39 at h
  refine zV_iadd dX11_lifts_39 ?_
  refine zV_w ?_
  refine zV_istore_n [(1, zI (zw (s1 + s0))), (0, zR 0), (2, zI x2)] dX11_lifts_40 rfl (by decide) rfl ?_
  refine zV_iinc 2 [(2, zI (zw (x2 + 1))), (1, zI (zw (s1 + s0))), (0, zR 0)] dX11_lifts_41 rfl rfl (by decide) rfl ?_
  refine zV_goto 4 dX11_lifts_44 (by decide) ?_
  refine zV_ls [2, 1, 0] rfl ?_
  exact hc _ h (z32_w _) (z32_w _)
noncomputable def fX11_lifts_l4 (x1 x2 : Int) (M : zMem) : Option ((Int × Int) ⊕ (Int × Int)) :=
  (if (M 80 0) ≤ x2 then some (.inr (x1, x2)) else (zbd (fX2_liftsAt 86 24 x2 M) fun r2 => (if r2 = 0 then fX11_lifts_j39 x1 x2 0 x1 M else fX11_lifts_j39 x1 x2 1 x1 M)))
set_option maxRecDepth 100000 in
set_option maxHeartbeats 4000000 in
theorem fX11_lifts_l4_ok {Z : zZ} (hZ : zB Z) {nn : Nat} (hn : 3 ≤ nn)  {x1 x2 : Int} (hx1 : z32 x1) (hx2 : z32 x2) {M : zMem} {Q : Option zAV → zMem → zZ → Prop} {P : (Int × Int) ⊕ (Int × Int) → Prop} (h : zSat (fX11_lifts_l4 x1 x2 M) P)  (hc : ∀ s : Int × Int, P (.inl s) → z32 (s.1) → z32 (s.2) → zV zmX11_lifts nn 0 0 Z 4 [(0, zR 0), (1, zI (s.1)), (2, zI (s.2))] [] M Q) (he : ∀ s : Int × Int, P (.inr s) → z32 (s.1) → z32 (s.2) → zV zmX11_lifts nn 0 0 Z 47 [(0, zR 0), (1, zI (s.1)), (2, zI (s.2))] [] M Q)   : zV zmX11_lifts nn 0 0 Z 4 [(0, zR 0), (1, zI x1), (2, zI x2)] [] M Q := by
  unfold fX11_lifts_l4 at h
  refine zV_iload_n 2 dX11_lifts_4 rfl rfl ?_
  refine zV_aload_n 0 dX11_lifts_5 rfl rfl ?_
  refine zV_getR (j := 80) (zq_0 hZ) zf_X11_4 zkf_X11_38 rfl dX11_lifts_6 ?_
  refine zV_getI (zq_80 hZ) zf_X5_0 zkf_X11_115 rfl dX11_lifts_9 (fun m1 => ?_)
  refine zV_icmp_ge 47 dX11_lifts_12 (by decide) hx2 m1 (fun hc_ => ?_) (fun hc_ => ?_)
  · replace h := zs_t h hc_
    exact he _ h hx1 hx2
  · replace h := zs_f h hc_
    refine zV_iload_n 1 dX11_lifts_15 rfl rfl ?_
    refine zV_aload_n 0 dX11_lifts_16 rfl rfl ?_
    refine zV_getR (j := 100) (zq_0 hZ) zf_X11_8 zkf_X11_62 rfl dX11_lifts_17 ?_
    refine zV_aload_n 0 dX11_lifts_20 rfl rfl ?_
    refine zV_getR (j := 80) (zq_0 hZ) zf_X11_4 zkf_X11_38 rfl dX11_lifts_21 ?_
    refine zV_getR (j := 86) (zq_80 hZ) zf_X5_5 zkf_X11_161 rfl dX11_lifts_24 ?_
    refine zV_iload_n 2 dX11_lifts_27 rfl rfl ?_
    refine zV_cVI (y' := zmX2_liftsAt) (n' := 2) (As := [zR 86, zI x2]) zc_X11_231 (zq_100 hZ) rfl dX11_lifts_28 (Nat.le_trans (by decide) hn) rfl (Nat.le_of_ble_eq_true rfl) (Nat.le_of_ble_eq_true rfl) rfl h (fun Q' h' => fX2_liftsAt_ok hZ (Nat.le_refl _) (zq_86 hZ) (by decide) hx2 h') (fun r2 c3 b4 h => ?_)
    refine zV_if_eq 38 dX11_lifts_31 (by decide) c3 (fun hc_ => ?_) (fun hc_ => ?_)
    · replace h := zs_t h hc_
      refine zV_iconst (v := 0) dX11_lifts_38 rfl ?_
      exact fX11_lifts_j39_ok hZ hn hx1 hx2 zi_0 (Or.inl rfl) hx1 h hc he
    · replace h := zs_f h hc_
      refine zV_iconst (v := 1) dX11_lifts_34 rfl ?_
      refine zV_goto 39 dX11_lifts_35 (by decide) ?_
      exact fX11_lifts_j39_ok hZ hn hx1 hx2 zi_1 (Or.inr rfl) hx1 h hc he
noncomputable def fX11_lifts (M : zMem) : Option (Int) :=
  (zbd (zit (fun s6 => fX11_lifts_l4 (s6.1) (s6.2) M) (0, 0)) fun s13 => some (s13.1))
set_option maxRecDepth 100000 in
set_option maxHeartbeats 4000000 in
theorem fX11_lifts_ok {Z : zZ} (hZ : zB Z) {nn : Nat} (hn : 3 ≤ nn)   {M : zMem} {Q : Option zAV → zMem → zZ → Prop} (h : zSat (fX11_lifts M) (fun r => Q (some (zI r)) M Z))  : zV zmX11_lifts nn 0 0 Z 0 [(0, zR 0)] [] M Q := by
  unfold fX11_lifts at h
  refine zV_iconst (v := 0) dX11_lifts_0 rfl ?_
  refine zV_istore_n [(1, zI 0), (0, zR 0)] dX11_lifts_1 rfl (by decide) rfl ?_
  refine zV_iconst (v := 0) dX11_lifts_2 rfl ?_
  refine zV_istore_n [(2, zI 0), (1, zI 0), (0, zR 0)] dX11_lifts_3 rfl (by decide) rfl ?_
  refine zV_ls [2, 1, 0] rfl ?_
  refine (zV_loop (Vh := fun s6 : Int × Int => z32 (s6.1) → z32 (s6.2) → zV zmX11_lifts nn 0 0 Z 4 [(0, zR 0), (1, zI (s6.1)), (2, zI (s6.2))] [] M Q) h (fun s6 P7 hP8 hc9 he10 => ?_)) zi_0 zi_0
  intro c11 c12
  refine fX11_lifts_l4_ok hZ hn c11 c12 hP8 hc9 (fun s13 h14 d15 d16 => ?_)
  have h := he10 _ h14
  refine zV_iload_n 1 dX11_lifts_47 rfl rfl ?_
  exact zV_ireti dX11_lifts_48 rfl d15 h
noncomputable def fX11_fewest (M : zMem) : Option (Int × zMem) :=
  (zbd2 (fX0_fewestLifts M) fun r1 M4 => some (r1, M4))
set_option maxRecDepth 100000 in
set_option maxHeartbeats 4000000 in
theorem fX11_fewest_ok {Z : zZ} (hZ : zB Z) {nn : Nat} (hn : 26 ≤ nn)   {M : zMem} {Q : Option zAV → zMem → zZ → Prop} (h : zSat (fX11_fewest M) (fun r => Q (some (zI r.1)) r.2 Z))  : zV zmX11_fewest nn 0 0 Z 0 [(0, zR 0)] [] M Q := by
  unfold fX11_fewest at h
  refine zV_aload_n 0 dX11_fewest_0 rfl rfl ?_
  refine zV_getR (j := 130) (zq_0 hZ) zf_X11_10 zkf_X11_80 rfl dX11_fewest_1 ?_
  refine zV_cVIm (y' := zmX0_fewestLifts) (n' := 25) (As := []) zc_X11_235 (zq_130 hZ) rfl dX11_fewest_4 (Nat.le_trans (by decide) hn) rfl (Nat.le_of_ble_eq_true rfl) (Nat.le_of_ble_eq_true rfl) rfl h (fun Q' h' => fX0_fewestLifts_ok hZ (Nat.le_refl _)  h') (fun r1 M4 c2 b3 h => ?_)
  exact zV_ireti dX11_fewest_7 rfl c2 h
noncomputable def fX11_fingered (x1 : Int) (M : zMem) : Option (Int × zMem) :=
  (zbd2 (fX0_fingerOf x1 M) fun r1 M4 => some (r1, M4))
set_option maxRecDepth 100000 in
set_option maxHeartbeats 4000000 in
theorem fX11_fingered_ok {Z : zZ} (hZ : zB Z) {nn : Nat} (hn : 26 ≤ nn)  {x1 : Int} (hx1 : z32 x1) {M : zMem} {Q : Option zAV → zMem → zZ → Prop} (h : zSat (fX11_fingered x1 M) (fun r => Q (some (zI r.1)) r.2 Z))  : zV zmX11_fingered nn 0 0 Z 0 [(0, zR 0), (1, zI x1)] [] M Q := by
  unfold fX11_fingered at h
  refine zV_aload_n 0 dX11_fingered_0 rfl rfl ?_
  refine zV_getR (j := 130) (zq_0 hZ) zf_X11_10 zkf_X11_80 rfl dX11_fingered_1 ?_
  refine zV_iload_n 1 dX11_fingered_4 rfl rfl ?_
  refine zV_cVIm (y' := zmX0_fingerOf) (n' := 25) (As := [zI x1]) zc_X11_238 (zq_130 hZ) rfl dX11_fingered_5 (Nat.le_trans (by decide) hn) rfl (Nat.le_of_ble_eq_true rfl) (Nat.le_of_ble_eq_true rfl) rfl h (fun Q' h' => fX0_fingerOf_ok hZ (Nat.le_refl _) hx1 h') (fun r1 M4 c2 b3 h => ?_)
  exact zV_ireti dX11_fingered_8 rfl c2 h
noncomputable def fX11_far (M : zMem) : Option (Int × zMem) :=
  (zbd2 (fX0_farthest M) fun r1 M4 => some (r1, M4))
set_option maxRecDepth 100000 in
set_option maxHeartbeats 4000000 in
theorem fX11_far_ok {Z : zZ} (hZ : zB Z) {nn : Nat} (hn : 26 ≤ nn)   {M : zMem} {Q : Option zAV → zMem → zZ → Prop} (h : zSat (fX11_far M) (fun r => Q (some (zI r.1)) r.2 Z))  : zV zmX11_far nn 0 0 Z 0 [(0, zR 0)] [] M Q := by
  unfold fX11_far at h
  refine zV_aload_n 0 dX11_far_0 rfl rfl ?_
  refine zV_getR (j := 130) (zq_0 hZ) zf_X11_10 zkf_X11_80 rfl dX11_far_1 ?_
  refine zV_cVIm (y' := zmX0_farthest) (n' := 25) (As := []) zc_X11_241 (zq_130 hZ) rfl dX11_far_4 (Nat.le_trans (by decide) hn) rfl (Nat.le_of_ble_eq_true rfl) (Nat.le_of_ble_eq_true rfl) rfl h (fun Q' h' => fX0_farthest_ok hZ (Nat.le_refl _)  h') (fun r1 M4 c2 b3 h => ?_)
  exact zV_ireti dX11_far_7 rfl c2 h
noncomputable def fX11_beating (x1 : Int) (M : zMem) : Option (Int) :=
  (zbd (fX7_hasPair 40 x1 M) fun r1 => (if r1 = 0 then some (-1) else (zbd (fX7_speedOf 40 x1 M) fun r5 => some r5)))
set_option maxRecDepth 100000 in
set_option maxHeartbeats 4000000 in
theorem fX11_beating_ok {Z : zZ} (hZ : zB Z) {nn : Nat} (hn : 3 ≤ nn)  {x1 : Int} (hx1 : z32 x1) {M : zMem} {Q : Option zAV → zMem → zZ → Prop} (h : zSat (fX11_beating x1 M) (fun r => Q (some (zI r)) M Z))  : zV zmX11_beating nn 0 0 Z 0 [(0, zR 0), (1, zI x1)] [] M Q := by
  unfold fX11_beating at h
  refine zV_aload_n 0 dX11_beating_0 rfl rfl ?_
  refine zV_getR (j := 40) (zq_0 hZ) zf_X11_2 zkf_X11_19 rfl dX11_beating_1 ?_
  refine zV_iload_n 1 dX11_beating_4 rfl rfl ?_
  refine zV_cVI (y' := zmX7_hasPair) (n' := 0) (As := [zI x1]) zc_X11_244 (zq_40 hZ) rfl dX11_beating_5 (Nat.le_trans (by decide) hn) rfl (Nat.le_of_ble_eq_true rfl) (Nat.le_of_ble_eq_true rfl) rfl h (fun Q' h' => fX7_hasPair_ok hZ (Nat.le_refl _) (zqsu_40 hZ) (by decide) hx1 h') (fun r1 c2 b3 h => ?_)
  refine zV_if_eq 22 dX11_beating_8 (by decide) c2 (fun hc_ => ?_) (fun hc_ => ?_)
  · replace h := zs_t h hc_
    refine zV_iconst (v := (-1)) dX11_beating_22 rfl ?_
    exact zV_ireti dX11_beating_23 rfl zi_n1 h
  · replace h := zs_f h hc_
    refine zV_aload_n 0 dX11_beating_11 rfl rfl ?_
    refine zV_getR (j := 40) (zq_0 hZ) zf_X11_2 zkf_X11_19 rfl dX11_beating_12 ?_
    refine zV_iload_n 1 dX11_beating_15 rfl rfl ?_
    refine zV_cVI (y' := zmX7_speedOf) (n' := 2) (As := [zI x1]) zc_X11_247 (zq_40 hZ) rfl dX11_beating_16 (Nat.le_trans (by decide) hn) rfl (Nat.le_of_ble_eq_true rfl) (Nat.le_of_ble_eq_true rfl) rfl h (fun Q' h' => fX7_speedOf_ok hZ (Nat.le_refl _) (zqsu_40 hZ) (by decide) hx1 h') (fun r5 c6 b7 h => ?_)
    refine zV_goto 23 dX11_beating_19 (by decide) ?_
    exact zV_ireti dX11_beating_23 rfl c6 h
noncomputable def fX11_within_l4 (x1 x2 : Int) (M : zMem) : Option ((Int × Int) ⊕ (Int × Int)) :=
  (if (M 40 7) ≤ x2 then some (.inr (x1, x2)) else (zbd (fX7_speedOf 40 x2 M) fun r2 => (zgd ((0 : Int) ≤ x2 ∧ x2 < 8) (if (M 53 x2) < r2 then some (.inl (x1, (zw (x2 + 1)))) else some (.inl ((zor x1 (zshl 1 x2)), (zw (x2 + 1))))))))
set_option maxRecDepth 100000 in
set_option maxHeartbeats 4000000 in
theorem fX11_within_l4_ok {Z : zZ} (hZ : zB Z) {nn : Nat} (hn : 3 ≤ nn)  {x1 x2 : Int} (hx1 : z32 x1) (hx2 : z32 x2) {M : zMem} {Q : Option zAV → zMem → zZ → Prop} {P : (Int × Int) ⊕ (Int × Int) → Prop} (h : zSat (fX11_within_l4 x1 x2 M) P)  (hc : ∀ s : Int × Int, P (.inl s) → z32 (s.1) → z32 (s.2) → zV zmX11_within nn 0 0 Z 4 [(0, zR 0), (1, zI (s.1)), (2, zI (s.2))] [] M Q) (he : ∀ s : Int × Int, P (.inr s) → z32 (s.1) → z32 (s.2) → zV zmX11_within nn 0 0 Z 47 [(0, zR 0), (1, zI (s.1)), (2, zI (s.2))] [] M Q)   : zV zmX11_within nn 0 0 Z 4 [(0, zR 0), (1, zI x1), (2, zI x2)] [] M Q := by
  unfold fX11_within_l4 at h
  refine zV_iload_n 2 dX11_within_4 rfl rfl ?_
  refine zV_aload_n 0 dX11_within_5 rfl rfl ?_
  refine zV_getR (j := 40) (zq_0 hZ) zf_X11_2 zkf_X11_19 rfl dX11_within_6 ?_
  refine zV_getI (zq_40 hZ) zf_X7_7 zkf_X11_250 rfl dX11_within_9 (fun m1 => ?_)
  refine zV_icmp_ge 47 dX11_within_12 (by decide) hx2 m1 (fun hc_ => ?_) (fun hc_ => ?_)
  · replace h := zs_t h hc_
    exact he _ h hx1 hx2
  · replace h := zs_f h hc_
    refine zV_aload_n 0 dX11_within_15 rfl rfl ?_
    refine zV_getR (j := 40) (zq_0 hZ) zf_X11_2 zkf_X11_19 rfl dX11_within_16 ?_
    refine zV_iload_n 2 dX11_within_19 rfl rfl ?_
    refine zV_cVI (y' := zmX7_speedOf) (n' := 2) (As := [zI x2]) zc_X11_247 (zq_40 hZ) rfl dX11_within_20 (Nat.le_trans (by decide) hn) rfl (Nat.le_of_ble_eq_true rfl) (Nat.le_of_ble_eq_true rfl) rfl h (fun Q' h' => fX7_speedOf_ok hZ (Nat.le_refl _) (zqsu_40 hZ) (by decide) hx2 h') (fun r2 c3 b4 h => ?_)
    refine zV_aload_n 0 dX11_within_23 rfl rfl ?_
    refine zV_getR (j := 40) (zq_0 hZ) zf_X11_2 zkf_X11_19 rfl dX11_within_24 ?_
    refine zV_getR (j := 53) (zq_40 hZ) zf_X7_12 zkf_X11_253 rfl dX11_within_27 ?_
    refine zV_iload_n 2 dX11_within_30 rfl rfl ?_
    obtain ⟨hg, h⟩ := zs_gd h
    refine zV_iald (zq_53 hZ) hg dX11_within_31 (fun m6 => ?_)
    refine zV_icmp_gt 41 dX11_within_32 (by decide) c3 m6 (fun hc_ => ?_) (fun hc_ => ?_)
    · replace h := zs_t h hc_
      refine zV_iinc 2 [(2, zI (zw (x2 + 1))), (0, zR 0), (1, zI x1)] dX11_within_41 rfl rfl (by decide) rfl ?_
      refine zV_goto 4 dX11_within_44 (by decide) ?_
      refine zV_ls [1, 2, 0] rfl ?_
      exact hc _ h hx1 (z32_w _)
    · replace h := zs_f h hc_
      refine zV_iload_n 1 dX11_within_35 rfl rfl ?_
      refine zV_iconst (v := 1) dX11_within_36 rfl ?_
      refine zV_iload_n 2 dX11_within_37 rfl rfl ?_
      refine zV_ishl dX11_within_38 ?_
      refine zV_ior dX11_within_39 ?_
      refine zV_istore_n [(1, zI (zor x1 (zshl 1 x2))), (0, zR 0), (2, zI x2)] dX11_within_40 rfl (by decide) rfl ?_
      refine zV_iinc 2 [(2, zI (zw (x2 + 1))), (1, zI (zor x1 (zshl 1 x2))), (0, zR 0)] dX11_within_41 rfl rfl (by decide) rfl ?_
      refine zV_goto 4 dX11_within_44 (by decide) ?_
      refine zV_ls [2, 1, 0] rfl ?_
      exact hc _ h (z32_i _) (z32_w _)
noncomputable def fX11_within (M : zMem) : Option (Int) :=
  (zbd (zit (fun s7 => fX11_within_l4 (s7.1) (s7.2) M) (0, 0)) fun s14 => some (s14.1))
set_option maxRecDepth 100000 in
set_option maxHeartbeats 4000000 in
theorem fX11_within_ok {Z : zZ} (hZ : zB Z) {nn : Nat} (hn : 3 ≤ nn)   {M : zMem} {Q : Option zAV → zMem → zZ → Prop} (h : zSat (fX11_within M) (fun r => Q (some (zI r)) M Z))  : zV zmX11_within nn 0 0 Z 0 [(0, zR 0)] [] M Q := by
  unfold fX11_within at h
  refine zV_iconst (v := 0) dX11_within_0 rfl ?_
  refine zV_istore_n [(1, zI 0), (0, zR 0)] dX11_within_1 rfl (by decide) rfl ?_
  refine zV_iconst (v := 0) dX11_within_2 rfl ?_
  refine zV_istore_n [(2, zI 0), (1, zI 0), (0, zR 0)] dX11_within_3 rfl (by decide) rfl ?_
  refine zV_ls [2, 1, 0] rfl ?_
  refine (zV_loop (Vh := fun s7 : Int × Int => z32 (s7.1) → z32 (s7.2) → zV zmX11_within nn 0 0 Z 4 [(0, zR 0), (1, zI (s7.1)), (2, zI (s7.2))] [] M Q) h (fun s7 P8 hP9 hc10 he11 => ?_)) zi_0 zi_0
  intro c12 c13
  refine fX11_within_l4_ok hZ hn c12 c13 hP9 hc10 (fun s14 h15 d16 d17 => ?_)
  have h := he11 _ h15
  refine zV_iload_n 1 dX11_within_47 rfl rfl ?_
  exact zV_ireti dX11_within_48 rfl d16 h
noncomputable def fX11_ground (M : zMem) : Option (Int × zMem) :=
  (zbd2 (fX1_leastGlass M) fun r1 M4 => some (r1, M4))
set_option maxRecDepth 100000 in
set_option maxHeartbeats 4000000 in
theorem fX11_ground_ok {Z : zZ} (hZ : zB Z) {nn : Nat} (hn : 7 ≤ nn)   {M : zMem} {Q : Option zAV → zMem → zZ → Prop} (h : zSat (fX11_ground M) (fun r => Q (some (zI r.1)) r.2 Z))  : zV zmX11_ground nn 0 0 Z 0 [(0, zR 0)] [] M Q := by
  unfold fX11_ground at h
  refine zV_aload_n 0 dX11_ground_0 rfl rfl ?_
  refine zV_getR (j := 150) (zq_0 hZ) zf_X11_11 zkf_X11_89 rfl dX11_ground_1 ?_
  refine zV_cVIm (y' := zmX1_leastGlass) (n' := 6) (As := []) zc_X11_256 (zq_150 hZ) rfl dX11_ground_4 (Nat.le_trans (by decide) hn) rfl (Nat.le_of_ble_eq_true rfl) (Nat.le_of_ble_eq_true rfl) rfl h (fun Q' h' => fX1_leastGlass_ok hZ (Nat.le_refl _)  h') (fun r1 M4 c2 b3 h => ?_)
  exact zV_ireti dX11_ground_7 rfl c2 h
noncomputable def fX11_spare (x1 : Int) (M : zMem) : Option (Int) :=
  (zbd (fX7_hasPlace 40 x1 M) fun r1 => (if r1 = 0 then some (-1) else (zbd (fX7_nearestSpare 40 x1 M) fun r5 => some r5)))
set_option maxRecDepth 100000 in
set_option maxHeartbeats 4000000 in
theorem fX11_spare_ok {Z : zZ} (hZ : zB Z) {nn : Nat} (hn : 3 ≤ nn)  {x1 : Int} (hx1 : z32 x1) {M : zMem} {Q : Option zAV → zMem → zZ → Prop} (h : zSat (fX11_spare x1 M) (fun r => Q (some (zI r)) M Z))  : zV zmX11_spare nn 0 0 Z 0 [(0, zR 0), (1, zI x1)] [] M Q := by
  unfold fX11_spare at h
  refine zV_aload_n 0 dX11_spare_0 rfl rfl ?_
  refine zV_getR (j := 40) (zq_0 hZ) zf_X11_2 zkf_X11_19 rfl dX11_spare_1 ?_
  refine zV_iload_n 1 dX11_spare_4 rfl rfl ?_
  refine zV_cVI (y' := zmX7_hasPlace) (n' := 1) (As := [zI x1]) zc_X11_141 (zq_40 hZ) rfl dX11_spare_5 (Nat.le_trans (by decide) hn) rfl (Nat.le_of_ble_eq_true rfl) (Nat.le_of_ble_eq_true rfl) rfl h (fun Q' h' => fX7_hasPlace_ok hZ (Nat.le_refl _) (zqsu_40 hZ) (by decide) hx1 h') (fun r1 c2 b3 h => ?_)
  refine zV_if_eq 22 dX11_spare_8 (by decide) c2 (fun hc_ => ?_) (fun hc_ => ?_)
  · replace h := zs_t h hc_
    refine zV_iconst (v := (-1)) dX11_spare_22 rfl ?_
    exact zV_ireti dX11_spare_23 rfl zi_n1 h
  · replace h := zs_f h hc_
    refine zV_aload_n 0 dX11_spare_11 rfl rfl ?_
    refine zV_getR (j := 40) (zq_0 hZ) zf_X11_2 zkf_X11_19 rfl dX11_spare_12 ?_
    refine zV_iload_n 1 dX11_spare_15 rfl rfl ?_
    refine zV_cVI (y' := zmX7_nearestSpare) (n' := 2) (As := [zI x1]) zc_X11_264 (zq_40 hZ) rfl dX11_spare_16 (Nat.le_trans (by decide) hn) rfl (Nat.le_of_ble_eq_true rfl) (Nat.le_of_ble_eq_true rfl) rfl h (fun Q' h' => fX7_nearestSpare_ok hZ (Nat.le_refl _) (zqsu_40 hZ) (by decide) hx1 h') (fun r5 c6 b7 h => ?_)
    refine zV_goto 23 dX11_spare_19 (by decide) ?_
    exact zV_ireti dX11_spare_23 rfl c6 h
noncomputable def fX11_exchange (x1 x2 : Int) (M : zMem) : Option (Int × zMem) :=
  (zbd (fX7_hasPlace 40 x1 M) fun r1 => (if r1 = 0 then some (0, M) else (zbd (fX7_hasBowl 40 x2 M) fun r5 => (if r5 = 0 then some (0, M) else (zbd (fX7_hasPlace 40 x2 M) fun r9 => (if r9 = 0 then (zbd (fX7_swap 40 x1 x2 M) fun M16 => (zbd (fX5_rename 80 x1 x2 M16) fun M20 => (zbd (fX11_forgetPlaying M20) fun M24 => some (1, M24)))) else some (0, M)))))))
set_option maxRecDepth 100000 in
set_option maxHeartbeats 4000000 in
theorem fX11_exchange_ok {Z : zZ} (hZ : zB Z) {nn : Nat} (hn : 2 ≤ nn)  {x1 x2 : Int} (hx1 : z32 x1) (hx2 : z32 x2) {M : zMem} {Q : Option zAV → zMem → zZ → Prop} (h : zSat (fX11_exchange x1 x2 M) (fun r => Q (some (zI r.1)) r.2 Z))  : zV zmX11_exchange nn 0 0 Z 0 [(0, zR 0), (1, zI x1), (2, zI x2)] [] M Q := by
  unfold fX11_exchange at h
  refine zV_aload_n 0 dX11_exchange_0 rfl rfl ?_
  refine zV_getR (j := 40) (zq_0 hZ) zf_X11_2 zkf_X11_19 rfl dX11_exchange_1 ?_
  refine zV_iload_n 1 dX11_exchange_4 rfl rfl ?_
  refine zV_cVI (y' := zmX7_hasPlace) (n' := 1) (As := [zI x1]) zc_X11_141 (zq_40 hZ) rfl dX11_exchange_5 (Nat.le_trans (by decide) hn) rfl (Nat.le_of_ble_eq_true rfl) (Nat.le_of_ble_eq_true rfl) rfl h (fun Q' h' => fX7_hasPlace_ok hZ (Nat.le_refl _) (zqsu_40 hZ) (by decide) hx1 h') (fun r1 c2 b3 h => ?_)
  refine zV_if_eq 33 dX11_exchange_8 (by decide) c2 (fun hc_ => ?_) (fun hc_ => ?_)
  · replace h := zs_t h hc_
    refine zV_iconst (v := 0) dX11_exchange_33 rfl ?_
    exact zV_iretb dX11_exchange_34 rfl (Or.inl rfl) h
  · replace h := zs_f h hc_
    refine zV_aload_n 0 dX11_exchange_11 rfl rfl ?_
    refine zV_getR (j := 40) (zq_0 hZ) zf_X11_2 zkf_X11_19 rfl dX11_exchange_12 ?_
    refine zV_iload_n 2 dX11_exchange_15 rfl rfl ?_
    refine zV_cVI (y' := zmX7_hasBowl) (n' := 0) (As := [zI x2]) zc_X11_121 (zq_40 hZ) rfl dX11_exchange_16 (Nat.le_trans (by decide) hn) rfl (Nat.le_of_ble_eq_true rfl) (Nat.le_of_ble_eq_true rfl) rfl h (fun Q' h' => fX7_hasBowl_ok hZ (Nat.le_refl _) (zqsu_40 hZ) (by decide) hx2 h') (fun r5 c6 b7 h => ?_)
    refine zV_if_eq 33 dX11_exchange_19 (by decide) c6 (fun hc_ => ?_) (fun hc_ => ?_)
    · replace h := zs_t h hc_
      refine zV_iconst (v := 0) dX11_exchange_33 rfl ?_
      exact zV_iretb dX11_exchange_34 rfl (Or.inl rfl) h
    · replace h := zs_f h hc_
      refine zV_aload_n 0 dX11_exchange_22 rfl rfl ?_
      refine zV_getR (j := 40) (zq_0 hZ) zf_X11_2 zkf_X11_19 rfl dX11_exchange_23 ?_
      refine zV_iload_n 2 dX11_exchange_26 rfl rfl ?_
      refine zV_cVI (y' := zmX7_hasPlace) (n' := 1) (As := [zI x2]) zc_X11_141 (zq_40 hZ) rfl dX11_exchange_27 (Nat.le_trans (by decide) hn) rfl (Nat.le_of_ble_eq_true rfl) (Nat.le_of_ble_eq_true rfl) rfl h (fun Q' h' => fX7_hasPlace_ok hZ (Nat.le_refl _) (zqsu_40 hZ) (by decide) hx2 h') (fun r9 c10 b11 h => ?_)
      refine zV_if_eq 35 dX11_exchange_30 (by decide) c10 (fun hc_ => ?_) (fun hc_ => ?_)
      · replace h := zs_t h hc_
        refine zV_aload_n 0 dX11_exchange_35 rfl rfl ?_
        refine zV_getR (j := 40) (zq_0 hZ) zf_X11_2 zkf_X11_19 rfl dX11_exchange_36 ?_
        refine zV_iload_n 1 dX11_exchange_39 rfl rfl ?_
        refine zV_iload_n 2 dX11_exchange_40 rfl rfl ?_
        refine zV_cVV (y' := zmX7_swap) (n' := 0) (As := [zI x1, zI x2]) zc_X11_267 (zq_40 hZ) rfl dX11_exchange_41 (Nat.le_trans (by decide) hn) rfl (Nat.le_of_ble_eq_true rfl) (Nat.le_of_ble_eq_true rfl) rfl h (fun Q' h' => fX7_swap_ok hZ (Nat.le_refl _) (zqsu_40 hZ) (by decide) hx1 hx2 h') (fun M16 h => ?_)
        refine zV_aload_n 0 dX11_exchange_44 rfl rfl ?_
        refine zV_getR (j := 80) (zq_0 hZ) zf_X11_4 zkf_X11_38 rfl dX11_exchange_45 ?_
        refine zV_iload_n 1 dX11_exchange_48 rfl rfl ?_
        refine zV_iload_n 2 dX11_exchange_49 rfl rfl ?_
        refine zV_cVV (y' := zmX5_rename) (n' := 0) (As := [zI x1, zI x2]) zc_X11_271 (zq_80 hZ) rfl dX11_exchange_50 (Nat.le_trans (by decide) hn) rfl (Nat.le_of_ble_eq_true rfl) (Nat.le_of_ble_eq_true rfl) rfl h (fun Q' h' => fX5_rename_ok hZ (Nat.le_refl _) (zqpi_80 hZ) (by decide) hx1 hx2 h') (fun M20 h => ?_)
        refine zV_aload_n 0 dX11_exchange_53 rfl rfl ?_
        refine zV_cVV (y' := zmX11_forgetPlaying) (n' := 0) (As := []) zc_X11_155 (zq_0 hZ) rfl dX11_exchange_54 (Nat.le_trans (by decide) hn) rfl (Nat.le_of_ble_eq_true rfl) (Nat.le_of_ble_eq_true rfl) rfl h (fun Q' h' => fX11_forgetPlaying_ok hZ (Nat.le_refl _)  h') (fun M24 h => ?_)
        refine zV_iconst (v := 1) dX11_exchange_57 rfl ?_
        exact zV_iretb dX11_exchange_58 rfl (Or.inr rfl) h
      · replace h := zs_f h hc_
        refine zV_iconst (v := 0) dX11_exchange_33 rfl ?_
        exact zV_iretb dX11_exchange_34 rfl (Or.inl rfl) h
noncomputable def fX11_moved_l4 (x1 x2 : Int) (M : zMem) : Option ((Int × Int) ⊕ (Int × Int)) :=
  (if (M 80 0) ≤ x2 then some (.inr (x1, x2)) else (zbd (fX2_placeOf x2 M) fun r2 => (zbd (fX2_placeOf (zw (x2 - 1)) M) fun r6 => some (.inl ((zw (x1 + (zabs (zw (r2 - r6))))), (zw (x2 + 1)))))))
set_option maxRecDepth 100000 in
set_option maxHeartbeats 4000000 in
theorem fX11_moved_l4_ok {Z : zZ} (hZ : zB Z) {nn : Nat} (hn : 1 ≤ nn)  {x1 x2 : Int} (hx1 : z32 x1) (hx2 : z32 x2) {M : zMem} {Q : Option zAV → zMem → zZ → Prop} {P : (Int × Int) ⊕ (Int × Int) → Prop} (h : zSat (fX11_moved_l4 x1 x2 M) P)  (hc : ∀ s : Int × Int, P (.inl s) → z32 (s.1) → z32 (s.2) → zV zmX11_moved nn 0 0 Z 4 [(0, zR 0), (1, zI (s.1)), (2, zI (s.2))] [] M Q) (he : ∀ s : Int × Int, P (.inr s) → z32 (s.1) → z32 (s.2) → zV zmX11_moved nn 0 0 Z 46 [(0, zR 0), (1, zI (s.1)), (2, zI (s.2))] [] M Q)   : zV zmX11_moved nn 0 0 Z 4 [(0, zR 0), (1, zI x1), (2, zI x2)] [] M Q := by
  unfold fX11_moved_l4 at h
  refine zV_iload_n 2 dX11_moved_4 rfl rfl ?_
  refine zV_aload_n 0 dX11_moved_5 rfl rfl ?_
  refine zV_getR (j := 80) (zq_0 hZ) zf_X11_4 zkf_X11_38 rfl dX11_moved_6 ?_
  refine zV_getI (zq_80 hZ) zf_X5_0 zkf_X11_115 rfl dX11_moved_9 (fun m1 => ?_)
  refine zV_icmp_ge 46 dX11_moved_12 (by decide) hx2 m1 (fun hc_ => ?_) (fun hc_ => ?_)
  · replace h := zs_t h hc_
    exact he _ h hx1 hx2
  · replace h := zs_f h hc_
    refine zV_iload_n 1 dX11_moved_15 rfl rfl ?_
    refine zV_aload_n 0 dX11_moved_16 rfl rfl ?_
    refine zV_getR (j := 100) (zq_0 hZ) zf_X11_8 zkf_X11_62 rfl dX11_moved_17 ?_
    refine zV_iload_n 2 dX11_moved_20 rfl rfl ?_
    refine zV_cVI (y' := zmX2_placeOf) (n' := 0) (As := [zI x2]) zc_X11_274 (zq_100 hZ) rfl dX11_moved_21 (Nat.le_trans (by decide) hn) rfl (Nat.le_of_ble_eq_true rfl) (Nat.le_of_ble_eq_true rfl) rfl h (fun Q' h' => fX2_placeOf_ok hZ (Nat.le_refl _) hx2 h') (fun r2 c3 b4 h => ?_)
    refine zV_aload_n 0 dX11_moved_24 rfl rfl ?_
    refine zV_getR (j := 100) (zq_0 hZ) zf_X11_8 zkf_X11_62 rfl dX11_moved_25 ?_
    refine zV_iload_n 2 dX11_moved_28 rfl rfl ?_
    refine zV_iconst (v := 1) dX11_moved_29 rfl ?_
    refine zV_isub dX11_moved_30 ?_
    refine zV_w ?_
    refine zV_cVI (y' := zmX2_placeOf) (n' := 0) (As := [zI (zw (x2 - 1))]) zc_X11_274 (zq_100 hZ) rfl dX11_moved_31 (Nat.le_trans (by decide) hn) rfl (Nat.le_of_ble_eq_true rfl) (Nat.le_of_ble_eq_true rfl) rfl h (fun Q' h' => fX2_placeOf_ok hZ (Nat.le_refl _) (z32_w _) h') (fun r6 c7 b8 h => ?_)
    refine zV_isub dX11_moved_34 ?_
    refine zV_w ?_
    refine zV_mabs zml_X11_277 dX11_moved_35 (Nat.le_trans (by decide) hn) (Nat.le_of_ble_eq_true rfl) (z32_w _) ?_
    refine zV_iadd dX11_moved_38 ?_
    refine zV_w ?_
    refine zV_istore_n [(1, zI (zw (x1 + (zabs (zw (r2 - r6)))))), (0, zR 0), (2, zI x2)] dX11_moved_39 rfl (by decide) rfl ?_
    refine zV_iinc 2 [(2, zI (zw (x2 + 1))), (1, zI (zw (x1 + (zabs (zw (r2 - r6)))))), (0, zR 0)] dX11_moved_40 rfl rfl (by decide) rfl ?_
    refine zV_goto 4 dX11_moved_43 (by decide) ?_
    refine zV_ls [2, 1, 0] rfl ?_
    exact hc _ h (z32_w _) (z32_w _)
noncomputable def fX11_moved (M : zMem) : Option (Int) :=
  (zbd (zit (fun s10 => fX11_moved_l4 (s10.1) (s10.2) M) (0, 1)) fun s17 => some (s17.1))
set_option maxRecDepth 100000 in
set_option maxHeartbeats 4000000 in
theorem fX11_moved_ok {Z : zZ} (hZ : zB Z) {nn : Nat} (hn : 1 ≤ nn)   {M : zMem} {Q : Option zAV → zMem → zZ → Prop} (h : zSat (fX11_moved M) (fun r => Q (some (zI r)) M Z))  : zV zmX11_moved nn 0 0 Z 0 [(0, zR 0)] [] M Q := by
  unfold fX11_moved at h
  refine zV_iconst (v := 0) dX11_moved_0 rfl ?_
  refine zV_istore_n [(1, zI 0), (0, zR 0)] dX11_moved_1 rfl (by decide) rfl ?_
  refine zV_iconst (v := 1) dX11_moved_2 rfl ?_
  refine zV_istore_n [(2, zI 1), (1, zI 0), (0, zR 0)] dX11_moved_3 rfl (by decide) rfl ?_
  refine zV_ls [2, 1, 0] rfl ?_
  refine (zV_loop (Vh := fun s10 : Int × Int => z32 (s10.1) → z32 (s10.2) → zV zmX11_moved nn 0 0 Z 4 [(0, zR 0), (1, zI (s10.1)), (2, zI (s10.2))] [] M Q) h (fun s10 P11 hP12 hc13 he14 => ?_)) zi_0 zi_1
  intro c15 c16
  refine fX11_moved_l4_ok hZ hn c15 c16 hP12 hc13 (fun s17 h18 d19 d20 => ?_)
  have h := he14 _ h18
  refine zV_iload_n 1 dX11_moved_46 rfl rfl ?_
  exact zV_ireti dX11_moved_47 rfl d19 h
noncomputable def fX11_order (M : zMem) : Option (Int × zMem) :=
  (zbd2 (fX4_leastMoved M) fun r1 M4 => some (r1, M4))
set_option maxRecDepth 100000 in
set_option maxHeartbeats 4000000 in
theorem fX11_order_ok {Z : zZ} (hZ : zB Z) {nn : Nat} (hn : 5 ≤ nn)   {M : zMem} {Q : Option zAV → zMem → zZ → Prop} (h : zSat (fX11_order M) (fun r => Q (some (zI r.1)) r.2 Z))  : zV zmX11_order nn 0 0 Z 0 [(0, zR 0)] [] M Q := by
  unfold fX11_order at h
  refine zV_aload_n 0 dX11_order_0 rfl rfl ?_
  refine zV_getR (j := 170) (zq_0 hZ) zf_X11_12 zkf_X11_96 rfl dX11_order_1 ?_
  refine zV_cVIm (y' := zmX4_leastMoved) (n' := 4) (As := []) zc_X11_282 (zq_170 hZ) rfl dX11_order_4 (Nat.le_trans (by decide) hn) rfl (Nat.le_of_ble_eq_true rfl) (Nat.le_of_ble_eq_true rfl) rfl h (fun Q' h' => fX4_leastMoved_ok hZ (Nat.le_refl _)  h') (fun r1 M4 c2 b3 h => ?_)
  exact zV_ireti dX11_order_7 rfl c2 h
noncomputable def fX11_ordered (x1 : Int) (M : zMem) : Option (Int × zMem) :=
  (zbd2 (fX4_bowlAt x1 M) fun r1 M4 => some (r1, M4))
set_option maxRecDepth 100000 in
set_option maxHeartbeats 4000000 in
theorem fX11_ordered_ok {Z : zZ} (hZ : zB Z) {nn : Nat} (hn : 5 ≤ nn)  {x1 : Int} (hx1 : z32 x1) {M : zMem} {Q : Option zAV → zMem → zZ → Prop} (h : zSat (fX11_ordered x1 M) (fun r => Q (some (zI r.1)) r.2 Z))  : zV zmX11_ordered nn 0 0 Z 0 [(0, zR 0), (1, zI x1)] [] M Q := by
  unfold fX11_ordered at h
  refine zV_aload_n 0 dX11_ordered_0 rfl rfl ?_
  refine zV_getR (j := 170) (zq_0 hZ) zf_X11_12 zkf_X11_96 rfl dX11_ordered_1 ?_
  refine zV_iload_n 1 dX11_ordered_4 rfl rfl ?_
  refine zV_cVIm (y' := zmX4_bowlAt) (n' := 4) (As := [zI x1]) zc_X11_285 (zq_170 hZ) rfl dX11_ordered_5 (Nat.le_trans (by decide) hn) rfl (Nat.le_of_ble_eq_true rfl) (Nat.le_of_ble_eq_true rfl) rfl h (fun Q' h' => fX4_bowlAt_ok hZ (Nat.le_refl _) hx1 h') (fun r1 M4 c2 b3 h => ?_)
  exact zV_ireti dX11_ordered_8 rfl c2 h
noncomputable def fX11_goBack (o7 o5 : Nat) (x1 : Int) (M : zMem) : Option (Int × zMem) :=
  (zgd ((0 : Int) ≤ x1 ∧ x1 < 4) (zgd (M 6 x1 = ((o7 : Nat) : Int)) (zgd ((0 : Int) ≤ x1 ∧ x1 < 4) (zgd (M 7 x1 = ((o5 : Nat) : Int)) (zgd ((0 : Int) ≤ x1 ∧ x1 < 4) (zgd (M 6 x1 = ((o7 : Nat) : Int)) (zbd (fX7_copy 40 o7 M) fun M4 => (zgd ((0 : Int) ≤ x1 ∧ x1 < 4) (zgd (M4 7 x1 = ((o5 : Nat) : Int)) (zbd (fX5_copy 80 o5 M4) fun M8 => (zbd (fX11_forgetAll M8) fun M12 => some (1, M12))))))))))))
set_option maxRecDepth 100000 in
set_option maxHeartbeats 4000000 in
theorem fX11_goBack_ok {Z : zZ} (hZ : zB Z) {nn : Nat} (hn : 2 ≤ nn) {o7 o5 : Nat} (hS_o7 : zSU Z o7) (hw_o7 : o7 < 900) (hS_o5 : zPI Z o5) (hw_o5 : o5 < 900)  {x1 : Int} (hx1 : z32 x1) {M : zMem} {Q : Option zAV → zMem → zZ → Prop} (h : zSat (fX11_goBack o7 o5 x1 M) (fun r => Q (some (zI r.1)) r.2 Z))  : zV zmX11_goBack nn 0 0 Z 0 [(0, zR 0), (1, zI x1)] [] M Q := by
  unfold fX11_goBack at h
  refine zV_aload_n 0 dX11_goBack_0 rfl rfl ?_
  refine zV_getR (j := 6) (zq_0 hZ) zf_X11_5 zkf_X11_42 rfl dX11_goBack_1 ?_
  refine zV_iload_n 1 dX11_goBack_4 rfl rfl ?_
  obtain ⟨hg, h⟩ := zs_gd h
  obtain ⟨hv_, h⟩ := zs_gd h
  refine zV_aaldR (zq_6 hZ) (Or.inl rfl) hg hv_ dX11_goBack_5 (fun _ => ?_)
  refine zV_nuR dX11_goBack_6 ?_
  refine zV_aload_n 0 dX11_goBack_9 rfl rfl ?_
  refine zV_getR (j := 7) (zq_0 hZ) zf_X11_6 zkf_X11_46 rfl dX11_goBack_10 ?_
  refine zV_iload_n 1 dX11_goBack_13 rfl rfl ?_
  obtain ⟨hg, h⟩ := zs_gd h
  obtain ⟨hv_, h⟩ := zs_gd h
  refine zV_aaldR (zq_7 hZ) (Or.inr rfl) hg hv_ dX11_goBack_14 (fun _ => ?_)
  refine zV_nnR 20 dX11_goBack_15 (by decide) ?_
  refine zV_aload_n 0 dX11_goBack_20 rfl rfl ?_
  refine zV_getR (j := 40) (zq_0 hZ) zf_X11_2 zkf_X11_19 rfl dX11_goBack_21 ?_
  refine zV_aload_n 0 dX11_goBack_24 rfl rfl ?_
  refine zV_getR (j := 6) (zq_0 hZ) zf_X11_5 zkf_X11_42 rfl dX11_goBack_25 ?_
  refine zV_iload_n 1 dX11_goBack_28 rfl rfl ?_
  obtain ⟨hg, h⟩ := zs_gd h
  obtain ⟨hv_, h⟩ := zs_gd h
  refine zV_aaldR (zq_6 hZ) (Or.inl rfl) hg hv_ dX11_goBack_29 (fun _ => ?_)
  refine zV_cVV (y' := zmX7_copy) (n' := 1) (As := [zR o7]) zc_X11_112 (zq_40 hZ) rfl dX11_goBack_30 (Nat.le_trans (by decide) hn) rfl (Nat.le_of_ble_eq_true rfl) (Nat.le_of_ble_eq_true rfl) rfl h (fun Q' h' => fX7_copy_ok hZ (Nat.le_refl _) (zqsu_40 hZ) (by decide) hS_o7 hw_o7 h') (fun M4 h => ?_)
  refine zV_aload_n 0 dX11_goBack_33 rfl rfl ?_
  refine zV_getR (j := 80) (zq_0 hZ) zf_X11_4 zkf_X11_38 rfl dX11_goBack_34 ?_
  refine zV_aload_n 0 dX11_goBack_37 rfl rfl ?_
  refine zV_getR (j := 7) (zq_0 hZ) zf_X11_6 zkf_X11_46 rfl dX11_goBack_38 ?_
  refine zV_iload_n 1 dX11_goBack_41 rfl rfl ?_
  obtain ⟨hg, h⟩ := zs_gd h
  obtain ⟨hv_, h⟩ := zs_gd h
  refine zV_aaldR (zq_7 hZ) (Or.inr rfl) hg hv_ dX11_goBack_42 (fun _ => ?_)
  refine zV_cVV (y' := zmX5_copy) (n' := 1) (As := [zR o5]) zc_X11_306 (zq_80 hZ) rfl dX11_goBack_43 (Nat.le_trans (by decide) hn) rfl (Nat.le_of_ble_eq_true rfl) (Nat.le_of_ble_eq_true rfl) rfl h (fun Q' h' => fX5_copy_ok hZ (Nat.le_refl _) (zqpi_80 hZ) (by decide) hS_o5 hw_o5 h') (fun M8 h => ?_)
  refine zV_aload_n 0 dX11_goBack_46 rfl rfl ?_
  refine zV_cVV (y' := zmX11_forgetAll) (n' := 1) (As := []) zc_X11_118 (zq_0 hZ) rfl dX11_goBack_47 (Nat.le_trans (by decide) hn) rfl (Nat.le_of_ble_eq_true rfl) (Nat.le_of_ble_eq_true rfl) rfl h (fun Q' h' => fX11_forgetAll_ok hZ (Nat.le_refl _)  h') (fun M12 h => ?_)
  refine zV_iconst (v := 1) dX11_goBack_50 rfl ?_
  exact zV_iretb dX11_goBack_51 rfl (Or.inr rfl) h
noncomputable def fX11_lay_j44 (o7 o5 : Nat) (x1 : Int) (M : zMem) : Option (Int × zMem) :=
  (zgd ((0 : Int) ≤ x1 ∧ x1 < 4) (zgd (M 6 x1 = ((o7 : Nat) : Int)) (zbd (fX7_copy o7 40 M) fun M4 => (zgd ((0 : Int) ≤ x1 ∧ x1 < 4) (zgd (M4 7 x1 = ((o5 : Nat) : Int)) (zbd (fX5_copy o5 80 M4) fun M8 => some (1, M8)))))))
set_option maxRecDepth 100000 in
set_option maxHeartbeats 4000000 in
theorem fX11_lay_j44_ok {Z : zZ} (hZ : zB Z) {nn : Nat} (hn : 3 ≤ nn) {o7 o5 : Nat} (hS_o7 : zSU Z o7) (hw_o7 : o7 < 900) (hS_o5 : zPI Z o5) (hw_o5 : o5 < 900)  {x1 : Int} (hx1 : z32 x1) {M : zMem} {Q : Option zAV → zMem → zZ → Prop} (h : zSat (fX11_lay_j44 o7 o5 x1 M) (fun r => Q (some (zI r.1)) r.2 Z))  : zV zmX11_lay nn 0 0 Z 44 [(0, zR 0), (1, zI x1)] [] M Q := by
  unfold fX11_lay_j44 at h
  refine zV_aload_n 0 dX11_lay_44 rfl rfl ?_
  refine zV_getR (j := 6) (zq_0 hZ) zf_X11_5 zkf_X11_42 rfl dX11_lay_45 ?_
  refine zV_iload_n 1 dX11_lay_48 rfl rfl ?_
  obtain ⟨hg, h⟩ := zs_gd h
  obtain ⟨hv_, h⟩ := zs_gd h
  refine zV_aaldR (zq_6 hZ) (Or.inl rfl) hg hv_ dX11_lay_49 (fun _ => ?_)
  refine zV_aload_n 0 dX11_lay_50 rfl rfl ?_
  refine zV_getR (j := 40) (zq_0 hZ) zf_X11_2 zkf_X11_19 rfl dX11_lay_51 ?_
  refine zV_cVV (y' := zmX7_copy) (n' := 1) (As := [zR 40]) zc_X11_112 (zsu_c hS_o7) rfl dX11_lay_54 (Nat.le_trans (by decide) hn) rfl (Nat.le_of_ble_eq_true rfl) (Nat.le_of_ble_eq_true rfl) rfl h (fun Q' h' => fX7_copy_ok hZ (Nat.le_refl _) hS_o7 hw_o7 (zqsu_40 hZ) (by decide) h') (fun M4 h => ?_)
  refine zV_aload_n 0 dX11_lay_57 rfl rfl ?_
  refine zV_getR (j := 7) (zq_0 hZ) zf_X11_6 zkf_X11_46 rfl dX11_lay_58 ?_
  refine zV_iload_n 1 dX11_lay_61 rfl rfl ?_
  obtain ⟨hg, h⟩ := zs_gd h
  obtain ⟨hv_, h⟩ := zs_gd h
  refine zV_aaldR (zq_7 hZ) (Or.inr rfl) hg hv_ dX11_lay_62 (fun _ => ?_)
  refine zV_aload_n 0 dX11_lay_63 rfl rfl ?_
  refine zV_getR (j := 80) (zq_0 hZ) zf_X11_4 zkf_X11_38 rfl dX11_lay_64 ?_
  refine zV_cVV (y' := zmX5_copy) (n' := 1) (As := [zR 80]) zc_X11_306 (zpi_c hS_o5) rfl dX11_lay_67 (Nat.le_trans (by decide) hn) rfl (Nat.le_of_ble_eq_true rfl) (Nat.le_of_ble_eq_true rfl) rfl h (fun Q' h' => fX5_copy_ok hZ (Nat.le_refl _) hS_o5 hw_o5 (zqpi_80 hZ) (by decide) h') (fun M8 h => ?_)
  refine zV_iconst (v := 1) dX11_lay_70 rfl ?_
  exact zV_iretb dX11_lay_71 rfl (Or.inr rfl) h
noncomputable def fX11_lay (o7 o5 : Nat) (x1 : Int) (M : zMem) : Option (Int × zMem) :=
  (zgd ((0 : Int) ≤ x1 ∧ x1 < 4) (zgd (M 6 x1 = ((o7 : Nat) : Int)) (zgd ((0 : Int) ≤ x1 ∧ x1 < 4) (zgd (M 7 x1 = ((o5 : Nat) : Int)) (fX11_lay_j44 o7 o5 x1 M)))))
set_option maxRecDepth 100000 in
set_option maxHeartbeats 4000000 in
theorem fX11_lay_ok {Z : zZ} (hZ : zB Z) {nn : Nat} (hn : 3 ≤ nn) {o7 o5 : Nat} (hS_o7 : zSU Z o7) (hw_o7 : o7 < 900) (hS_o5 : zPI Z o5) (hw_o5 : o5 < 900)  {x1 : Int} (hx1 : z32 x1) {M : zMem} {Q : Option zAV → zMem → zZ → Prop} (h : zSat (fX11_lay o7 o5 x1 M) (fun r => Q (some (zI r.1)) r.2 Z))  : zV zmX11_lay nn 0 0 Z 0 [(0, zR 0), (1, zI x1)] [] M Q := by
  unfold fX11_lay at h
  refine zV_aload_n 0 dX11_lay_0 rfl rfl ?_
  refine zV_getR (j := 6) (zq_0 hZ) zf_X11_5 zkf_X11_42 rfl dX11_lay_1 ?_
  refine zV_iload_n 1 dX11_lay_4 rfl rfl ?_
  obtain ⟨hg, h⟩ := zs_gd h
  obtain ⟨hv_, h⟩ := zs_gd h
  refine zV_aaldR (zq_6 hZ) (Or.inl rfl) hg hv_ dX11_lay_5 (fun _ => ?_)
  refine zV_nuR dX11_lay_6 ?_
  refine zV_aload_n 0 dX11_lay_9 rfl rfl ?_
  refine zV_getR (j := 7) (zq_0 hZ) zf_X11_6 zkf_X11_46 rfl dX11_lay_10 ?_
  refine zV_iload_n 1 dX11_lay_13 rfl rfl ?_
  obtain ⟨hg, h⟩ := zs_gd h
  obtain ⟨hv_, h⟩ := zs_gd h
  refine zV_aaldR (zq_7 hZ) (Or.inr rfl) hg hv_ dX11_lay_14 (fun _ => ?_)
  refine zV_nnR 44 dX11_lay_15 (by decide) ?_
  exact fX11_lay_j44_ok hZ hn hS_o7 hw_o7 hS_o5 hw_o5 hx1 h
noncomputable def fX11_count_j23 (x1 : Int) (M : zMem) : Option (Int) :=
  (if x1 = 0 then some (M 40 0) else (if x1 = 1 then some (M 40 1) else (if x1 = 2 then some (M 40 7) else (if x1 = 3 then some (M 40 13) else (if x1 = 4 then some (M 80 0) else (if x1 = 16 then some (M 20 1) else some (-1)))))))
set_option maxRecDepth 100000 in
set_option maxHeartbeats 4000000 in
theorem fX11_count_j23_ok {Z : zZ} (hZ : zB Z) {nn : Nat} (hn : 0 ≤ nn)  {x1 : Int} (hx1 : z32 x1) {M : zMem} {Q : Option zAV → zMem → zZ → Prop} (h : zSat (fX11_count_j23 x1 M) (fun r => Q (some (zI r)) M Z))  : zV zmX11_count nn 0 0 Z 23 [(0, zR 0), (1, zI x1)] [] M Q := by
  unfold fX11_count_j23 at h
  refine zV_iload_n 1 dX11_count_23 rfl rfl ?_
  refine zV_if (x1 = 0) (fun hc_ => ?_) (fun hc_0 => ?_)
  · replace h := zs_t h hc_
    refine zV_tsw 108 dX11_count_24 hx1 (by rw [hc_]; decide) ?_
    refine zV_aload_n 0 dX11_count_108 rfl rfl ?_
    refine zV_getR (j := 40) (zq_0 hZ) zf_X11_2 zkf_X11_19 rfl dX11_count_109 ?_
    refine zV_getI (zq_40 hZ) zf_X7_0 zkf_X11_297 rfl dX11_count_112 (fun m1 => ?_)
    exact zV_ireti dX11_count_115 rfl m1 h
  · replace h := zs_f h hc_0
    refine zV_if (x1 = 1) (fun hc_ => ?_) (fun hc_1 => ?_)
    · replace h := zs_t h hc_
      refine zV_tsw 116 dX11_count_24 hx1 (by rw [hc_]; decide) ?_
      refine zV_aload_n 0 dX11_count_116 rfl rfl ?_
      refine zV_getR (j := 40) (zq_0 hZ) zf_X11_2 zkf_X11_19 rfl dX11_count_117 ?_
      refine zV_getI (zq_40 hZ) zf_X7_1 zkf_X11_300 rfl dX11_count_120 (fun m2 => ?_)
      exact zV_ireti dX11_count_123 rfl m2 h
    · replace h := zs_f h hc_1
      refine zV_if (x1 = 2) (fun hc_ => ?_) (fun hc_2 => ?_)
      · replace h := zs_t h hc_
        refine zV_tsw 124 dX11_count_24 hx1 (by rw [hc_]; decide) ?_
        refine zV_aload_n 0 dX11_count_124 rfl rfl ?_
        refine zV_getR (j := 40) (zq_0 hZ) zf_X11_2 zkf_X11_19 rfl dX11_count_125 ?_
        refine zV_getI (zq_40 hZ) zf_X7_7 zkf_X11_250 rfl dX11_count_128 (fun m3 => ?_)
        exact zV_ireti dX11_count_131 rfl m3 h
      · replace h := zs_f h hc_2
        refine zV_if (x1 = 3) (fun hc_ => ?_) (fun hc_3 => ?_)
        · replace h := zs_t h hc_
          refine zV_tsw 132 dX11_count_24 hx1 (by rw [hc_]; decide) ?_
          refine zV_aload_n 0 dX11_count_132 rfl rfl ?_
          refine zV_getR (j := 40) (zq_0 hZ) zf_X11_2 zkf_X11_19 rfl dX11_count_133 ?_
          refine zV_getI (zq_40 hZ) zf_X7_13 zkf_X11_303 rfl dX11_count_136 (fun m4 => ?_)
          exact zV_ireti dX11_count_139 rfl m4 h
        · replace h := zs_f h hc_3
          refine zV_if (x1 = 4) (fun hc_ => ?_) (fun hc_4 => ?_)
          · replace h := zs_t h hc_
            refine zV_tsw 140 dX11_count_24 hx1 (by rw [hc_]; decide) ?_
            refine zV_aload_n 0 dX11_count_140 rfl rfl ?_
            refine zV_getR (j := 80) (zq_0 hZ) zf_X11_4 zkf_X11_38 rfl dX11_count_141 ?_
            refine zV_getI (zq_80 hZ) zf_X5_0 zkf_X11_115 rfl dX11_count_144 (fun m5 => ?_)
            exact zV_ireti dX11_count_147 rfl m5 h
          · replace h := zs_f h hc_4
            refine zV_if (x1 = 16) (fun hc_ => ?_) (fun hc_5 => ?_)
            · replace h := zs_t h hc_
              refine zV_tsw 148 dX11_count_24 hx1 (by rw [hc_]; decide) ?_
              refine zV_aload_n 0 dX11_count_148 rfl rfl ?_
              refine zV_getR (j := 20) (zq_0 hZ) zf_X11_0 zkf_X11_10 rfl dX11_count_149 ?_
              refine zV_getI (zq_20 hZ) zf_X8_1 zkf_X11_104 rfl dX11_count_152 (fun m6 => ?_)
              exact zV_ireti dX11_count_155 rfl m6 h
            · replace h := zs_f h hc_5
              refine zV_tswd 156 dX11_count_24 hx1 ((Classical.em (x1 < 0 ∨ 16 < x1)).elim (fun hlo => Or.inl ⟨hlo, by decide⟩) (fun hlo => Or.inr ⟨⟨by omega, by omega⟩, by rcases (show x1 = 5 ∨ x1 = 6 ∨ x1 = 7 ∨ x1 = 8 ∨ x1 = 9 ∨ x1 = 10 ∨ x1 = 11 ∨ x1 = 12 ∨ x1 = 13 ∨ x1 = 14 ∨ x1 = 15 by omega) with e_ | e_ | e_ | e_ | e_ | e_ | e_ | e_ | e_ | e_ | e_ <;> (rw [e_]; rfl)⟩)) ?_
              refine zV_iconst (v := (-1)) dX11_count_156 rfl ?_
              exact zV_ireti dX11_count_157 rfl zi_n1 h
noncomputable def fX11_count (x1 : Int) (M : zMem) : Option (Int) :=
  (if x1 < 5 then fX11_count_j23 x1 M else (if 16 ≤ x1 then fX11_count_j23 x1 M else (zgd ((0 : Int) ≤ (x1 - 5) ∧ (x1 - 5) < 11) (some (M 59 (x1 - 5))))))
set_option maxRecDepth 100000 in
set_option maxHeartbeats 4000000 in
theorem fX11_count_ok {Z : zZ} (hZ : zB Z) {nn : Nat} (hn : 0 ≤ nn)  {x1 : Int} (hx1 : z32 x1) {M : zMem} {Q : Option zAV → zMem → zZ → Prop} (h : zSat (fX11_count x1 M) (fun r => Q (some (zI r)) M Z))  : zV zmX11_count nn 0 0 Z 0 [(0, zR 0), (1, zI x1)] [] M Q := by
  unfold fX11_count at h
  refine zV_iload_n 1 dX11_count_0 rfl rfl ?_
  refine zV_iconst (v := 5) dX11_count_1 rfl ?_
  refine zV_icmp_lt 23 dX11_count_2 (by decide) hx1 zi_5 (fun hc_ => ?_) (fun hc_ => ?_)
  · replace h := zs_t h hc_
    exact fX11_count_j23_ok hZ hn hx1 h
  · replace h := zs_f h hc_
    refine zV_iload_n 1 dX11_count_5 rfl rfl ?_
    refine zV_bipush (v := 16) dX11_count_6 rfl ?_
    refine zV_icmp_ge 23 dX11_count_8 (by decide) hx1 zi_16 (fun hc_ => ?_) (fun hc_ => ?_)
    · replace h := zs_t h hc_
      exact fX11_count_j23_ok hZ hn hx1 h
    · replace h := zs_f h hc_
      refine zV_aload_n 0 dX11_count_11 rfl rfl ?_
      refine zV_getR (j := 40) (zq_0 hZ) zf_X11_2 zkf_X11_19 rfl dX11_count_12 ?_
      refine zV_getR (j := 59) (zq_40 hZ) zf_X7_18 zkf_X11_294 rfl dX11_count_15 ?_
      refine zV_iload_n 1 dX11_count_18 rfl rfl ?_
      refine zV_iconst (v := 5) dX11_count_19 rfl ?_
      refine zV_isub dX11_count_20 ?_
      obtain ⟨hg, h⟩ := zs_gd h
      refine zV_iald (zq_59 hZ) hg dX11_count_21 (fun m7 => ?_)
      exact zV_ireti dX11_count_22 rfl m7 h
