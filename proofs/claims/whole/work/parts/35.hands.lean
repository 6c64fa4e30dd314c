noncomputable def fX10_press_l44 (x1 x2 x3 : Int) (M : zMem) : Option ((Int × zMem) ⊕ (Int × zMem)) :=
  (zbd (fX5_endOf 80 x2 M) fun r8 => (if r8 ≤ x3 then some (.inr (x3, M)) else (zgd ((0 : Int) ≤ x3 ∧ x3 < 200) (zgd ((0 : Int) ≤ x2 ∧ x2 < 24) (zgd ((0 : Int) ≤ x3 ∧ x3 < 200) (some (.inl ((zw (x3 + 1)), (zup M 93 x3 (zw ((M 93 x3) + (M 85 x2))))))))))))
set_option maxRecDepth 100000 in
set_option maxHeartbeats 4000000 in
theorem fX10_press_l44_ok {Z : zZ} (hZ : zB Z) {nn : Nat} (hn : 1 ≤ nn)  {x1 x2 x3 : Int} (hx1 : z32 x1) (hx2 : z32 x2) (hx3 : z32 x3) {M : zMem} {Q : Option zAV → zMem → zZ → Prop} {P : (Int × zMem) ⊕ (Int × zMem) → Prop} (h : zSat (fX10_press_l44 x1 x2 x3 M) P)  (hc : ∀ s : Int × zMem, P (.inl s) → z32 (s.1) → zV zmX10_press nn 0 0 Z 44 [(0, zR 90), (1, zI x1), (2, zI x2), (3, zI (s.1))] [] (s.2) Q) (he : ∀ s : Int × zMem, P (.inr s) → z32 (s.1) → zV zmX10_press nn 0 0 Z 80 [(0, zR 90), (1, zI x1), (2, zI x2), (3, zI (s.1))] [] (s.2) Q)   : zV zmX10_press nn 0 0 Z 44 [(0, zR 90), (1, zI x1), (2, zI x2), (3, zI x3)] [] M Q := by
  unfold fX10_press_l44 at h
  refine zV_iload_n 3 dX10_press_44 rfl rfl ?_
  refine zV_aload_n 0 dX10_press_45 rfl rfl ?_
  refine zV_getR (j := 80) (zq_90 hZ) zf_X10_1 zkf_X10_25 rfl dX10_press_46 ?_
  refine zV_iload_n 2 dX10_press_49 rfl rfl ?_
  refine zV_cVI (y' := zmX5_endOf) (n' := 0) (As := [zI x2]) zc_X10_63 (zq_80 hZ) rfl dX10_press_50 (Nat.le_trans (by decide) hn) rfl (Nat.le_of_ble_eq_true rfl) (Nat.le_of_ble_eq_true rfl) rfl h (fun Q' h' => fX5_endOf_ok hZ (Nat.le_refl _) (zqpi_80 hZ) (by decide) hx2 h') (fun r8 c9 b10 h => ?_)
  refine zV_icmp_ge 80 dX10_press_53 (by decide) hx3 c9 (fun hc_ => ?_) (fun hc_ => ?_)
  · replace h := zs_t h hc_
    exact he _ h hx3
  · replace h := zs_f h hc_
    refine zV_aload_n 0 dX10_press_56 rfl rfl ?_
    refine zV_getR (j := 93) (zq_90 hZ) zf_X10_2 zkf_X10_9 rfl dX10_press_57 ?_
    refine zV_iload_n 3 dX10_press_60 rfl rfl ?_
    refine zV_dup2 dX10_press_61 rfl rfl ?_
    obtain ⟨hg, h⟩ := zs_gd h
    refine zV_iald (zq_93 hZ) hg dX10_press_62 (fun m12 => ?_)
    refine zV_aload_n 0 dX10_press_63 rfl rfl ?_
    refine zV_getR (j := 80) (zq_90 hZ) zf_X10_1 zkf_X10_25 rfl dX10_press_64 ?_
    refine zV_getR (j := 85) (zq_80 hZ) zf_X5_4 zkf_X10_67 rfl dX10_press_67 ?_
    refine zV_iload_n 2 dX10_press_70 rfl rfl ?_
    obtain ⟨hg, h⟩ := zs_gd h
    refine zV_iald (zq_85 hZ) hg dX10_press_71 (fun m13 => ?_)
    refine zV_iadd dX10_press_72 ?_
    refine zV_w ?_
    obtain ⟨hg, h⟩ := zs_gd h
    refine zV_iast (zq_93 hZ) (by decide) hg (z32_w _) dX10_press_73 ?_
    refine zV_iinc 3 [(3, zI (zw (x3 + 1))), (0, zR 90), (1, zI x1), (2, zI x2)] dX10_press_74 rfl rfl (by decide) rfl ?_
    refine zV_goto 44 dX10_press_77 (by decide) ?_
    refine zV_ls [1, 2, 3, 0] rfl ?_
    exact hc _ h (z32_w _)
noncomputable def fX10_press_l10 (x1 x2 : Int) (M : zMem) : Option ((Int × zMem) ⊕ (Int × zMem)) :=
  (if (M 80 0) ≤ x2 then some (.inr (x2, M)) else (zgd ((0 : Int) ≤ x2 ∧ x2 < 24) (if (M 82 x2) = x1 then (zgd ((0 : Int) ≤ x2 ∧ x2 < 24) (zbd (zit (fun s14 => fX10_press_l44 x1 x2 (s14.1) (s14.2)) ((M 83 x2), M)) fun s20 => some (.inl ((zw (x2 + 1)), s20.2)))) else some (.inl ((zw (x2 + 1)), M)))))
set_option maxRecDepth 100000 in
set_option maxHeartbeats 4000000 in
theorem fX10_press_l10_ok {Z : zZ} (hZ : zB Z) {nn : Nat} (hn : 1 ≤ nn)  {x1 x2 : Int} (hx1 : z32 x1) (hx2 : z32 x2) {M : zMem} {Q : Option zAV → zMem → zZ → Prop} {P : (Int × zMem) ⊕ (Int × zMem) → Prop} (h : zSat (fX10_press_l10 x1 x2 M) P)  (hc : ∀ s : Int × zMem, P (.inl s) → z32 (s.1) → zV zmX10_press nn 0 0 Z 10 [(0, zR 90), (1, zI x1), (2, zI (s.1))] [] (s.2) Q) (he : ∀ s : Int × zMem, P (.inr s) → z32 (s.1) → zV zmX10_press nn 0 0 Z 86 [(0, zR 90), (1, zI x1), (2, zI (s.1))] [] (s.2) Q)   : zV zmX10_press nn 0 0 Z 10 [(0, zR 90), (1, zI x1), (2, zI x2)] [] M Q := by
  unfold fX10_press_l10 at h
  refine zV_iload_n 2 dX10_press_10 rfl rfl ?_
  refine zV_aload_n 0 dX10_press_11 rfl rfl ?_
  refine zV_getR (j := 80) (zq_90 hZ) zf_X10_1 zkf_X10_25 rfl dX10_press_12 ?_
  refine zV_getI (zq_80 hZ) zf_X5_0 zkf_X10_52 rfl dX10_press_15 (fun m5 => ?_)
  refine zV_icmp_ge 86 dX10_press_18 (by decide) hx2 m5 (fun hc_ => ?_) (fun hc_ => ?_)
  · replace h := zs_t h hc_
    exact he _ h hx2
  · replace h := zs_f h hc_
    refine zV_aload_n 0 dX10_press_21 rfl rfl ?_
    refine zV_getR (j := 80) (zq_90 hZ) zf_X10_1 zkf_X10_25 rfl dX10_press_22 ?_
    refine zV_getR (j := 82) (zq_80 hZ) zf_X5_1 zkf_X10_57 rfl dX10_press_25 ?_
    refine zV_iload_n 2 dX10_press_28 rfl rfl ?_
    obtain ⟨hg, h⟩ := zs_gd h
    refine zV_iald (zq_82 hZ) hg dX10_press_29 (fun m6 => ?_)
    refine zV_iload_n 1 dX10_press_30 rfl rfl ?_
    refine zV_icmp_ne 80 dX10_press_31 (by decide) m6 hx1 (fun hc_ => ?_) (fun hc_ => ?_)
    · replace h := zs_f h hc_
      refine zV_iinc 2 [(2, zI (zw (x2 + 1))), (0, zR 90), (1, zI x1)] dX10_press_80 rfl rfl (by decide) rfl ?_
      refine zV_goto 10 dX10_press_83 (by decide) ?_
      refine zV_ls [1, 2, 0] rfl ?_
      exact hc _ h (z32_w _)
    · replace h := zs_t h hc_
      refine zV_aload_n 0 dX10_press_34 rfl rfl ?_
      refine zV_getR (j := 80) (zq_90 hZ) zf_X10_1 zkf_X10_25 rfl dX10_press_35 ?_
      refine zV_getR (j := 83) (zq_80 hZ) zf_X5_2 zkf_X10_60 rfl dX10_press_38 ?_
      refine zV_iload_n 2 dX10_press_41 rfl rfl ?_
      obtain ⟨hg, h⟩ := zs_gd h
      refine zV_iald (zq_83 hZ) hg dX10_press_42 (fun m7 => ?_)
      refine zV_istore_n [(3, zI (M 83 x2)), (0, zR 90), (1, zI x1), (2, zI x2)] dX10_press_43 rfl (by decide) rfl ?_
      refine zV_ls [1, 2, 3, 0] rfl ?_
      refine (zV_loop (Vh := fun s14 : Int × zMem => z32 (s14.1) → zV zmX10_press nn 0 0 Z 44 [(0, zR 90), (1, zI x1), (2, zI x2), (3, zI (s14.1))] [] (s14.2) Q) h (fun s14 P15 hP16 hc17 he18 => ?_)) m7
      intro c19
      refine fX10_press_l44_ok hZ hn hx1 hx2 c19 hP16 hc17 (fun s20 h21 d22 => ?_)
      have h := he18 _ h21
      refine zV_iinc 2 [(2, zI (zw (x2 + 1))), (0, zR 90), (1, zI x1), (3, zI (s20.1))] dX10_press_80 rfl rfl (by decide) rfl ?_
      refine zV_goto 10 dX10_press_83 (by decide) ?_
      refine zV_ls [1, 2, 0] rfl ?_
      exact hc _ h (z32_w _)
noncomputable def fX10_press (x1 : Int) (M : zMem) : Option (zMem) :=
  (zbd (fJ7_fill_53178 93 200 0 M) fun M4 => (zbd (zit (fun s23 => fX10_press_l10 x1 (s23.1) (s23.2)) (0, M4)) fun s29 => some (s29.2)))
set_option maxRecDepth 100000 in
set_option maxHeartbeats 4000000 in
theorem fX10_press_ok {Z : zZ} (hZ : zB Z) {nn : Nat} (hn : 1 ≤ nn)  {x1 : Int} (hx1 : z32 x1) {M : zMem} {Q : Option zAV → zMem → zZ → Prop} (h : zSat (fX10_press x1 M) (fun r => Q none r Z))  : zV zmX10_press nn 0 0 Z 0 [(0, zR 90), (1, zI x1)] [] M Q := by
  unfold fX10_press at h
  refine zV_aload_n 0 dX10_press_0 rfl rfl ?_
  refine zV_getR (j := 93) (zq_90 hZ) zf_X10_2 zkf_X10_9 rfl dX10_press_1 ?_
  refine zV_iconst (v := 0) dX10_press_4 rfl ?_
  refine zV_cSV (y' := zmJ7_fill_53178) (n' := 0) (As := [zR 93, zI 0]) zc_X10_46 dX10_press_5 (Nat.le_trans (by decide) hn) rfl (Nat.le_of_ble_eq_true rfl) (Nat.le_of_ble_eq_true rfl) rfl h (fun Q' h' => fJ7_fill_53178_ok hZ (Nat.le_refl _) (zq_93 hZ) (by decide) zi_0 h') (fun M4 h => ?_)
  refine zV_iconst (v := 0) dX10_press_8 rfl ?_
  refine zV_istore_n [(2, zI 0), (0, zR 90), (1, zI x1)] dX10_press_9 rfl (by decide) rfl ?_
  refine zV_ls [1, 2, 0] rfl ?_
  refine (zV_loop (Vh := fun s23 : Int × zMem => z32 (s23.1) → zV zmX10_press nn 0 0 Z 10 [(0, zR 90), (1, zI x1), (2, zI (s23.1))] [] (s23.2) Q) h (fun s23 P24 hP25 hc26 he27 => ?_)) zi_0
  intro c28
  refine fX10_press_l10_ok hZ hn hx1 c28 hP25 hc26 (fun s29 h30 d31 => ?_)
  have h := he27 _ h30
  exact zV_vret dX10_press_86 rfl h
noncomputable def fX10_warm_j130 (x1 x2 x3 x4 s0 s1 : Int) (M : zMem) : Option ((Int × Int × zMem) ⊕ (Int × Int × zMem)) :=
  some (.inl ((zw (s1 + s0)), (zw (x4 + 1)), M))
set_option maxRecDepth 100000 in
set_option maxHeartbeats 4000000 in
theorem fX10_warm_j130_ok {Z : zZ} (hZ : zB Z) {nn : Nat} (hn : 1 ≤ nn)  {x1 x2 x3 x4 s0 s1 : Int} (hx1 : z32 x1) (hx2 : z32 x2) (hx3 : z32 x3) (hx4 : z32 x4) (hs0 : z32 s0) (hs1 : z32 s1) {M : zMem} {Q : Option zAV → zMem → zZ → Prop} {P : (Int × Int × zMem) ⊕ (Int × Int × zMem) → Prop} (h : zSat (fX10_warm_j130 x1 x2 x3 x4 s0 s1 M) P)  (hc : ∀ s : Int × Int × zMem, P (.inl s) → z32 (s.1) → z32 (s.2.1) → zV zmX10_warm nn 0 0 Z 33 [(0, zR 90), (1, zI x1), (2, zI x2), (3, zI (s.1)), (4, zI (s.2.1))] [] (s.2.2) Q) (he : ∀ s : Int × Int × zMem, P (.inr s) → z32 (s.1) → z32 (s.2.1) → zV zmX10_warm nn 0 0 Z 158 [(0, zR 90), (1, zI x1), (2, zI x2), (3, zI (s.1)), (4, zI (s.2.1))] [] (s.2.2) Q)   : zV zmX10_warm nn 0 0 Z 130 [(0, zR 90), (1, zI x1), (2, zI x2), (3, zI x3), (4, zI x4)] [zI s0, zI s1] M Q := by
  unfold fX10_warm_j130 at h
  refine zV_iadd dX10_warm_130 ?_
  refine zV_w ?_
  refine zV_istore_n [(3, zI (zw (s1 + s0))), (0, zR 90), (1, zI x1), (2, zI x2), (4, zI x4)] dX10_warm_131 rfl (by decide) rfl ?_
  refine zV_goto 152 dX10_warm_132 (by decide) ?_
  refine zV_iinc 4 [(4, zI (zw (x4 + 1))), (3, zI (zw (s1 + s0))), (0, zR 90), (1, zI x1), (2, zI x2)] dX10_warm_152 rfl rfl (by decide) rfl ?_
  refine zV_goto 33 dX10_warm_155 (by decide) ?_
  refine zV_ls [2, 3, 4, 1, 0] rfl ?_
  exact hc _ h (z32_w _) (z32_w _)
noncomputable def fX10_warm_j78 (x1 x2 x3 x4 : Int) (M : zMem) : Option ((Int × Int × zMem) ⊕ (Int × Int × zMem)) :=
  (zgd ((0 : Int) ≤ x4 ∧ x4 < 200) (if (M 93 x4) ≤ 0 then (zgd ((0 : Int) ≤ (7 : Int) ∧ (7 : Int) < 11) (some (.inl ((max 0 (zw (x3 - (M 59 7)))), (zw (x4 + 1)), M)))) else (zgd ((0 : Int) ≤ (6 : Int) ∧ (6 : Int) < 11) (zgd ((0 : Int) ≤ x4 ∧ x4 < 200) (zgd ((0 : Int) ≤ x1 ∧ x1 < 12) (if (M 46 x1) = 0 then fX10_warm_j130 x1 x2 x3 x4 (zw ((M 59 6) * (M 93 x4))) x3 M else (zgd (¬ 2 = (0 : Int)) (fX10_warm_j130 x1 x2 x3 x4 (zdiv (zw ((M 59 6) * (M 93 x4))) 2) x3 M))))))))
set_option maxRecDepth 100000 in
set_option maxHeartbeats 4000000 in
theorem fX10_warm_j78_ok {Z : zZ} (hZ : zB Z) {nn : Nat} (hn : 1 ≤ nn)  {x1 x2 x3 x4 : Int} (hx1 : z32 x1) (hx2 : z32 x2) (hx3 : z32 x3) (hx4 : z32 x4) {M : zMem} {Q : Option zAV → zMem → zZ → Prop} {P : (Int × Int × zMem) ⊕ (Int × Int × zMem) → Prop} (h : zSat (fX10_warm_j78 x1 x2 x3 x4 M) P)  (hc : ∀ s : Int × Int × zMem, P (.inl s) → z32 (s.1) → z32 (s.2.1) → zV zmX10_warm nn 0 0 Z 33 [(0, zR 90), (1, zI x1), (2, zI x2), (3, zI (s.1)), (4, zI (s.2.1))] [] (s.2.2) Q) (he : ∀ s : Int × Int × zMem, P (.inr s) → z32 (s.1) → z32 (s.2.1) → zV zmX10_warm nn 0 0 Z 158 [(0, zR 90), (1, zI x1), (2, zI x2), (3, zI (s.1)), (4, zI (s.2.1))] [] (s.2.2) Q)   : zV zmX10_warm nn 0 0 Z 78 [(0, zR 90), (1, zI x1), (2, zI x2), (3, zI x3), (4, zI x4)] [] M Q := by
  unfold fX10_warm_j78 at h
  refine zV_aload_n 0 dX10_warm_78 rfl rfl ?_
  refine zV_getR (j := 93) (zq_90 hZ) zf_X10_2 zkf_X10_9 rfl dX10_warm_79 ?_
  refine zV_iload 4 dX10_warm_82 rfl ?_
  obtain ⟨hg, h⟩ := zs_gd h
  refine zV_iald (zq_93 hZ) hg dX10_warm_84 (fun m4 => ?_)
  refine zV_if_le 135 dX10_warm_85 (by decide) m4 (fun hc_ => ?_) (fun hc_ => ?_)
  · replace h := zs_t h hc_
    refine zV_iconst (v := 0) dX10_warm_135 rfl ?_
    refine zV_iload_n 3 dX10_warm_136 rfl rfl ?_
    refine zV_aload_n 0 dX10_warm_137 rfl rfl ?_
    refine zV_getR (j := 40) (zq_90 hZ) zf_X10_0 zkf_X10_21 rfl dX10_warm_138 ?_
    refine zV_getR (j := 59) (zq_40 hZ) zf_X7_18 zkf_X10_72 rfl dX10_warm_141 ?_
    refine zV_bipush (v := 7) dX10_warm_144 rfl ?_
    obtain ⟨hg, h⟩ := zs_gd h
    refine zV_iald (zq_59 hZ) hg dX10_warm_146 (fun m5 => ?_)
    refine zV_isub dX10_warm_147 ?_
    refine zV_w ?_
    refine zV_mmax zml_X10_78 dX10_warm_148 (Nat.le_trans (by decide) hn) (Nat.le_of_ble_eq_true rfl) zi_0 (z32_w _) ?_
    refine zV_istore_n [(3, zI (max 0 (zw (x3 - (M 59 7))))), (0, zR 90), (1, zI x1), (2, zI x2), (4, zI x4)] dX10_warm_151 rfl (by decide) rfl ?_
    refine zV_iinc 4 [(4, zI (zw (x4 + 1))), (3, zI (max 0 (zw (x3 - (M 59 7))))), (0, zR 90), (1, zI x1), (2, zI x2)] dX10_warm_152 rfl rfl (by decide) rfl ?_
    refine zV_goto 33 dX10_warm_155 (by decide) ?_
    refine zV_ls [2, 3, 4, 1, 0] rfl ?_
    exact hc _ h (z32_max zi_0 (z32_w _)) (z32_w _)
  · replace h := zs_f h hc_
    refine zV_aload_n 0 dX10_warm_88 rfl rfl ?_
    refine zV_getR (j := 40) (zq_90 hZ) zf_X10_0 zkf_X10_21 rfl dX10_warm_89 ?_
    refine zV_getR (j := 59) (zq_40 hZ) zf_X7_18 zkf_X10_72 rfl dX10_warm_92 ?_
    refine zV_bipush (v := 6) dX10_warm_95 rfl ?_
    obtain ⟨hg, h⟩ := zs_gd h
    refine zV_iald (zq_59 hZ) hg dX10_warm_97 (fun m6 => ?_)
    refine zV_aload_n 0 dX10_warm_98 rfl rfl ?_
    refine zV_getR (j := 93) (zq_90 hZ) zf_X10_2 zkf_X10_9 rfl dX10_warm_99 ?_
    refine zV_iload 4 dX10_warm_102 rfl ?_
    obtain ⟨hg, h⟩ := zs_gd h
    refine zV_iald (zq_93 hZ) hg dX10_warm_104 (fun m7 => ?_)
    refine zV_imul dX10_warm_105 ?_
    refine zV_w ?_
    refine zV_istore [(5, zI (zw ((M 59 6) * (M 93 x4)))), (0, zR 90), (1, zI x1), (2, zI x2), (3, zI x3), (4, zI x4)] dX10_warm_106 (by decide) rfl ?_
    refine zV_iload_n 4 dX10_warm_108 rfl rfl ?_
    refine zV_aload_n 1 dX10_warm_109 rfl rfl ?_
    refine zV_getR (j := 40) (zq_90 hZ) zf_X10_0 zkf_X10_21 rfl dX10_warm_110 ?_
    refine zV_getR (j := 46) (zq_40 hZ) zf_X7_5 zkf_X10_75 rfl dX10_warm_113 ?_
    refine zV_iload_n 2 dX10_warm_116 rfl rfl ?_
    obtain ⟨hg, h⟩ := zs_gd h
    refine zV_iald (zq_46 hZ) hg dX10_warm_117 (fun m8 => ?_)
    refine zV_if_ne 126 dX10_warm_118 (by decide) m8 (fun hc_ => ?_) (fun hc_ => ?_)
    · replace h := zs_f h hc_
      refine zV_iload 0 dX10_warm_126 rfl ?_
      refine zV_iconst (v := 2) dX10_warm_128 rfl ?_
      obtain ⟨hg, h⟩ := zs_gd h
      refine zV_idiv dX10_warm_129 zi_2 hg ?_
      refine zV_ls [1, 2, 3, 4, 5] rfl ?_
      exact fX10_warm_j130_ok hZ hn hx1 hx2 hx3 hx4 (z32_i _) hx3 h hc he
    · replace h := zs_t h hc_
      refine zV_iload 0 dX10_warm_121 rfl ?_
      refine zV_goto 130 dX10_warm_123 (by decide) ?_
      refine zV_ls [1, 2, 3, 4, 5] rfl ?_
      exact fX10_warm_j130_ok hZ hn hx1 hx2 hx3 hx4 (z32_w _) hx3 h hc he
noncomputable def fX10_warm_l33 (x1 x2 x3 x4 : Int) (M : zMem) : Option ((Int × Int × zMem) ⊕ (Int × Int × zMem)) :=
  (if 200 ≤ x4 then some (.inr (x3, x4, M)) else (zgd ((0 : Int) ≤ ((x1 * 200) + x4) ∧ ((x1 * 200) + x4) < 2400) (zgd ((0 : Int) ≤ x1 ∧ x1 < 12) (if ((zup M 94 ((x1 * 200) + x4) x3) 95 x1) = (-1) then (if x3 ≤ x2 then fX10_warm_j78 x1 x2 x3 x4 (zup M 94 ((x1 * 200) + x4) x3) else (zgd ((0 : Int) ≤ x1 ∧ x1 < 12) (fX10_warm_j78 x1 x2 x3 x4 (zup (zup M 94 ((x1 * 200) + x4) x3) 95 x1 x4)))) else fX10_warm_j78 x1 x2 x3 x4 (zup M 94 ((x1 * 200) + x4) x3)))))
set_option maxRecDepth 100000 in
set_option maxHeartbeats 4000000 in
theorem fX10_warm_l33_ok {Z : zZ} (hZ : zB Z) {nn : Nat} (hn : 1 ≤ nn)  {x1 x2 x3 x4 : Int} (hx1 : z32 x1) (hx2 : z32 x2) (hx3 : z32 x3) (hx4 : z32 x4) {M : zMem} {Q : Option zAV → zMem → zZ → Prop} {P : (Int × Int × zMem) ⊕ (Int × Int × zMem) → Prop} (h : zSat (fX10_warm_l33 x1 x2 x3 x4 M) P)  (hc : ∀ s : Int × Int × zMem, P (.inl s) → z32 (s.1) → z32 (s.2.1) → zV zmX10_warm nn 0 0 Z 33 [(0, zR 90), (1, zI x1), (2, zI x2), (3, zI (s.1)), (4, zI (s.2.1))] [] (s.2.2) Q) (he : ∀ s : Int × Int × zMem, P (.inr s) → z32 (s.1) → z32 (s.2.1) → zV zmX10_warm nn 0 0 Z 158 [(0, zR 90), (1, zI x1), (2, zI x2), (3, zI (s.1)), (4, zI (s.2.1))] [] (s.2.2) Q)   : zV zmX10_warm nn 0 0 Z 33 [(0, zR 90), (1, zI x1), (2, zI x2), (3, zI x3), (4, zI x4)] [] M Q := by
  unfold fX10_warm_l33 at h
  refine zV_iload 4 dX10_warm_33 rfl ?_
  refine zV_sipush (v := 200) dX10_warm_35 rfl ?_
  refine zV_icmp_ge 158 dX10_warm_38 (by decide) hx4 zi_200 (fun hc_ => ?_) (fun hc_ => ?_)
  · replace h := zs_t h hc_
    exact he _ h hx3 hx4
  · replace h := zs_f h hc_
    refine zV_aload_n 0 dX10_warm_41 rfl rfl ?_
    refine zV_getR (j := 94) (zq_90 hZ) zf_X10_3 zkf_X10_15 rfl dX10_warm_42 ?_
    refine zV_iload_n 1 dX10_warm_45 rfl rfl ?_
    refine zV_sipush (v := 200) dX10_warm_46 rfl ?_
    refine zV_imul dX10_warm_49 ?_
    refine zV_iload 4 dX10_warm_50 rfl ?_
    refine zV_iadd dX10_warm_52 ?_
    refine zV_iload_n 3 dX10_warm_53 rfl rfl ?_
    obtain ⟨hg, h⟩ := zs_gd h
    refine zV_iast (zq_94 hZ) (by decide) hg hx3 dX10_warm_54 ?_
    refine zV_aload_n 0 dX10_warm_55 rfl rfl ?_
    refine zV_getR (j := 95) (zq_90 hZ) zf_X10_4 zkf_X10_18 rfl dX10_warm_56 ?_
    refine zV_iload_n 1 dX10_warm_59 rfl rfl ?_
    obtain ⟨hg, h⟩ := zs_gd h
    refine zV_iald (zq_95 hZ) hg dX10_warm_60 (fun m3 => ?_)
    refine zV_iconst (v := (-1)) dX10_warm_61 rfl ?_
    refine zV_icmp_ne 78 dX10_warm_62 (by decide) m3 zi_n1 (fun hc_ => ?_) (fun hc_ => ?_)
    · replace h := zs_f h hc_
      exact fX10_warm_j78_ok hZ hn hx1 hx2 hx3 hx4 h hc he
    · replace h := zs_t h hc_
      refine zV_iload_n 3 dX10_warm_65 rfl rfl ?_
      refine zV_iload_n 2 dX10_warm_66 rfl rfl ?_
      refine zV_icmp_le 78 dX10_warm_67 (by decide) hx3 hx2 (fun hc_ => ?_) (fun hc_ => ?_)
      · replace h := zs_t h hc_
        exact fX10_warm_j78_ok hZ hn hx1 hx2 hx3 hx4 h hc he
      · replace h := zs_f h hc_
        refine zV_aload_n 0 dX10_warm_70 rfl rfl ?_
        refine zV_getR (j := 95) (zq_90 hZ) zf_X10_4 zkf_X10_18 rfl dX10_warm_71 ?_
        refine zV_iload_n 1 dX10_warm_74 rfl rfl ?_
        refine zV_iload 4 dX10_warm_75 rfl ?_
        obtain ⟨hg, h⟩ := zs_gd h
        refine zV_iast (zq_95 hZ) (by decide) hg hx4 dX10_warm_77 ?_
        exact fX10_warm_j78_ok hZ hn hx1 hx2 hx3 hx4 h hc he
noncomputable def fX10_warm (x1 : Int) (M : zMem) : Option (zMem) :=
  (zgd ((0 : Int) ≤ x1 ∧ x1 < 12) (zgd ((0 : Int) ≤ (8 : Int) ∧ (8 : Int) < 11) (zgd ((0 : Int) ≤ x1 ∧ x1 < 12) (zbd (zit (fun s9 => fX10_warm_l33 x1 (zw ((M 45 x1) * (M 59 8))) (s9.1) (s9.2.1) (s9.2.2)) (0, 0, (zup M 95 x1 (-1)))) fun s16 => some (s16.2.2)))))
set_option maxRecDepth 100000 in
set_option maxHeartbeats 4000000 in
theorem fX10_warm_ok {Z : zZ} (hZ : zB Z) {nn : Nat} (hn : 1 ≤ nn)  {x1 : Int} (hx1 : z32 x1) {M : zMem} {Q : Option zAV → zMem → zZ → Prop} (h : zSat (fX10_warm x1 M) (fun r => Q none r Z))  : zV zmX10_warm nn 0 0 Z 0 [(0, zR 90), (1, zI x1)] [] M Q := by
  unfold fX10_warm at h
  refine zV_aload_n 0 dX10_warm_0 rfl rfl ?_
  refine zV_getR (j := 40) (zq_90 hZ) zf_X10_0 zkf_X10_21 rfl dX10_warm_1 ?_
  refine zV_getR (j := 45) (zq_40 hZ) zf_X7_4 zkf_X10_69 rfl dX10_warm_4 ?_
  refine zV_iload_n 1 dX10_warm_7 rfl rfl ?_
  obtain ⟨hg, h⟩ := zs_gd h
  refine zV_iald (zq_45 hZ) hg dX10_warm_8 (fun m1 => ?_)
  refine zV_aload_n 0 dX10_warm_9 rfl rfl ?_
  refine zV_getR (j := 40) (zq_90 hZ) zf_X10_0 zkf_X10_21 rfl dX10_warm_10 ?_
  refine zV_getR (j := 59) (zq_40 hZ) zf_X7_18 zkf_X10_72 rfl dX10_warm_13 ?_
  refine zV_bipush (v := 8) dX10_warm_16 rfl ?_
  obtain ⟨hg, h⟩ := zs_gd h
  refine zV_iald (zq_59 hZ) hg dX10_warm_18 (fun m2 => ?_)
  refine zV_imul dX10_warm_19 ?_
  refine zV_w ?_
  refine zV_istore_n [(2, zI (zw ((M 45 x1) * (M 59 8)))), (0, zR 90), (1, zI x1)] dX10_warm_20 rfl (by decide) rfl ?_
  refine zV_iconst (v := 0) dX10_warm_21 rfl ?_
  refine zV_istore_n [(3, zI 0), (2, zI (zw ((M 45 x1) * (M 59 8)))), (0, zR 90), (1, zI x1)] dX10_warm_22 rfl (by decide) rfl ?_
  refine zV_aload_n 2 dX10_warm_23 rfl rfl ?_
  refine zV_getR (j := 95) (zq_90 hZ) zf_X10_4 zkf_X10_18 rfl dX10_warm_24 ?_
  refine zV_iload_n 3 dX10_warm_27 rfl rfl ?_
  refine zV_iconst (v := (-1)) dX10_warm_28 rfl ?_
  obtain ⟨hg, h⟩ := zs_gd h
  refine zV_iast (zq_95 hZ) (by decide) hg zi_n1 dX10_warm_29 ?_
  refine zV_iconst (v := 0) dX10_warm_30 rfl ?_
  refine zV_istore [(4, zI 0), (3, zI 0), (2, zI (zw ((M 45 x1) * (M 59 8)))), (0, zR 90), (1, zI x1)] dX10_warm_31 (by decide) rfl ?_
  refine zV_ls [3, 4, 2, 1, 0] rfl ?_
  refine (zV_loop (Vh := fun s9 : Int × Int × zMem => z32 (s9.1) → z32 (s9.2.1) → zV zmX10_warm nn 0 0 Z 33 [(0, zR 90), (1, zI x1), (2, zI (zw ((M 45 x1) * (M 59 8)))), (3, zI (s9.1)), (4, zI (s9.2.1))] [] (s9.2.2) Q) h (fun s9 P10 hP11 hc12 he13 => ?_)) zi_0 zi_0
  intro c14 c15
  refine fX10_warm_l33_ok hZ hn hx1 (z32_w _) c14 c15 hP11 hc12 (fun s16 h17 d18 d19 => ?_)
  have h := he13 _ h17
  exact zV_vret dX10_warm_158 rfl h
noncomputable def fX10_learn_l15 (x1 : Int) (M : zMem) : Option ((Int × zMem) ⊕ (Int × zMem)) :=
  (if (M 40 0) ≤ x1 then some (.inr (x1, M)) else (zbd (fX10_press x1 M) fun M6 => (zbd (fX10_warm x1 M6) fun M10 => some (.inl ((zw (x1 + 1)), M10)))))
set_option maxRecDepth 100000 in
set_option maxHeartbeats 4000000 in
theorem fX10_learn_l15_ok {Z : zZ} (hZ : zB Z) {nn : Nat} (hn : 2 ≤ nn)  {x1 : Int} (hx1 : z32 x1) {M : zMem} {Q : Option zAV → zMem → zZ → Prop} {P : (Int × zMem) ⊕ (Int × zMem) → Prop} (h : zSat (fX10_learn_l15 x1 M) P)  (hc : ∀ s : Int × zMem, P (.inl s) → z32 (s.1) → zV zmX10_learn nn 0 0 Z 15 [(0, zR 90), (1, zI (s.1))] [] (s.2) Q) (he : ∀ s : Int × zMem, P (.inr s) → z32 (s.1) → zV zmX10_learn nn 0 0 Z 42 [(0, zR 90), (1, zI (s.1))] [] (s.2) Q)   : zV zmX10_learn nn 0 0 Z 15 [(0, zR 90), (1, zI x1)] [] M Q := by
  unfold fX10_learn_l15 at h
  refine zV_iload_n 1 dX10_learn_15 rfl rfl ?_
  refine zV_aload_n 0 dX10_learn_16 rfl rfl ?_
  refine zV_getR (j := 40) (zq_90 hZ) zf_X10_0 zkf_X10_21 rfl dX10_learn_17 ?_
  refine zV_getI (zq_40 hZ) zf_X7_0 zkf_X10_33 rfl dX10_learn_20 (fun m2 => ?_)
  refine zV_icmp_ge 42 dX10_learn_23 (by decide) hx1 m2 (fun hc_ => ?_) (fun hc_ => ?_)
  · replace h := zs_t h hc_
    exact he _ h hx1
  · replace h := zs_f h hc_
    refine zV_aload_n 0 dX10_learn_26 rfl rfl ?_
    refine zV_iload_n 1 dX10_learn_27 rfl rfl ?_
    refine zV_cVV (y' := zmX10_press) (n' := 1) (As := [zI x1]) zc_X10_39 (zq_90 hZ) rfl dX10_learn_28 (Nat.le_trans (by decide) hn) rfl (Nat.le_of_ble_eq_true rfl) (Nat.le_of_ble_eq_true rfl) rfl h (fun Q' h' => fX10_press_ok hZ (Nat.le_refl _) hx1 h') (fun M6 h => ?_)
    refine zV_aload_n 0 dX10_learn_31 rfl rfl ?_
    refine zV_iload_n 1 dX10_learn_32 rfl rfl ?_
    refine zV_cVV (y' := zmX10_warm) (n' := 1) (As := [zI x1]) zc_X10_43 (zq_90 hZ) rfl dX10_learn_33 (Nat.le_trans (by decide) hn) rfl (Nat.le_of_ble_eq_true rfl) (Nat.le_of_ble_eq_true rfl) rfl h (fun Q' h' => fX10_warm_ok hZ (Nat.le_refl _) hx1 h') (fun M10 h => ?_)
    refine zV_iinc 1 [(1, zI (zw (x1 + 1))), (0, zR 90)] dX10_learn_36 rfl rfl (by decide) rfl ?_
    refine zV_goto 15 dX10_learn_39 (by decide) ?_
    refine zV_ls [1, 0] rfl ?_
    exact hc _ h (z32_w _)
noncomputable def fX10_learn (M : zMem) : Option (zMem) :=
  (if (M 90 5) = 0 then (zbd (zit (fun s11 => fX10_learn_l15 (s11.1) (s11.2)) (0, (zup M 90 5 1))) fun s17 => some (s17.2)) else some M)
set_option maxRecDepth 100000 in
set_option maxHeartbeats 4000000 in
theorem fX10_learn_ok {Z : zZ} (hZ : zB Z) {nn : Nat} (hn : 2 ≤ nn)   {M : zMem} {Q : Option zAV → zMem → zZ → Prop} (h : zSat (fX10_learn M) (fun r => Q none r Z))  : zV zmX10_learn nn 0 0 Z 0 [(0, zR 90)] [] M Q := by
  unfold fX10_learn at h
  refine zV_aload_n 0 dX10_learn_0 rfl rfl ?_
  refine zV_getI (zq_90 hZ) zf_X10_5 zkf_X10_29 rfl dX10_learn_1 (fun m1 => ?_)
  refine zV_if_eq 8 dX10_learn_4 (by decide) m1 (fun hc_ => ?_) (fun hc_ => ?_)
  · replace h := zs_t h hc_
    refine zV_aload_n 0 dX10_learn_8 rfl rfl ?_
    refine zV_iconst (v := 1) dX10_learn_9 rfl ?_
    refine zV_putB (zq_90 hZ) (by decide) zf_X10_5 zkf_X10_29 rfl dX10_learn_10 (Or.inr rfl) ?_
    refine zV_iconst (v := 0) dX10_learn_13 rfl ?_
    refine zV_istore_n [(1, zI 0), (0, zR 90)] dX10_learn_14 rfl (by decide) rfl ?_
    refine zV_ls [1, 0] rfl ?_
    refine (zV_loop (Vh := fun s11 : Int × zMem => z32 (s11.1) → zV zmX10_learn nn 0 0 Z 15 [(0, zR 90), (1, zI (s11.1))] [] (s11.2) Q) h (fun s11 P12 hP13 hc14 he15 => ?_)) zi_0
    intro c16
    refine fX10_learn_l15_ok hZ hn c16 hP13 hc14 (fun s17 h18 d19 => ?_)
    have h := he15 _ h18
    exact zV_vret dX10_learn_42 rfl h
  · replace h := zs_f h hc_
    exact zV_vret dX10_learn_7 rfl h
noncomputable def fX10_heatOf (x1 x2 : Int) (M : zMem) : Option (Int) :=
  (zgd ((0 : Int) ≤ ((x1 * 200) + x2) ∧ ((x1 * 200) + x2) < 2400) (some (M 94 ((x1 * 200) + x2))))
set_option maxRecDepth 100000 in
set_option maxHeartbeats 4000000 in
theorem fX10_heatOf_ok {Z : zZ} (hZ : zB Z) {nn : Nat} (hn : 0 ≤ nn)  {x1 x2 : Int} (hx1 : z32 x1) (hx2 : z32 x2) {M : zMem} {Q : Option zAV → zMem → zZ → Prop} (h : zSat (fX10_heatOf x1 x2 M) (fun r => Q (some (zI r)) M Z))  : zV zmX10_heatOf nn 0 0 Z 0 [(0, zR 90), (1, zI x1), (2, zI x2)] [] M Q := by
  unfold fX10_heatOf at h
  refine zV_aload_n 0 dX10_heatOf_0 rfl rfl ?_
  refine zV_getR (j := 94) (zq_90 hZ) zf_X10_3 zkf_X10_15 rfl dX10_heatOf_1 ?_
  refine zV_iload_n 1 dX10_heatOf_4 rfl rfl ?_
  refine zV_sipush (v := 200) dX10_heatOf_5 rfl ?_
  refine zV_imul dX10_heatOf_8 ?_
  refine zV_iload_n 2 dX10_heatOf_9 rfl rfl ?_
  refine zV_iadd dX10_heatOf_10 ?_
  obtain ⟨hg, h⟩ := zs_gd h
  refine zV_iald (zq_94 hZ) hg dX10_heatOf_11 (fun m1 => ?_)
  exact zV_ireti dX10_heatOf_12 rfl m1 h
noncomputable def fX10_crackOf (x1 : Int) (M : zMem) : Option (Int) :=
  (zgd ((0 : Int) ≤ x1 ∧ x1 < 12) (some (M 95 x1)))
set_option maxRecDepth 100000 in
set_option maxHeartbeats 4000000 in
theorem fX10_crackOf_ok {Z : zZ} (hZ : zB Z) {nn : Nat} (hn : 0 ≤ nn)  {x1 : Int} (hx1 : z32 x1) {M : zMem} {Q : Option zAV → zMem → zZ → Prop} (h : zSat (fX10_crackOf x1 M) (fun r => Q (some (zI r)) M Z))  : zV zmX10_crackOf nn 0 0 Z 0 [(0, zR 90), (1, zI x1)] [] M Q := by
  unfold fX10_crackOf at h
  refine zV_aload_n 0 dX10_crackOf_0 rfl rfl ?_
  refine zV_getR (j := 95) (zq_90 hZ) zf_X10_4 zkf_X10_18 rfl dX10_crackOf_1 ?_
  refine zV_iload_n 1 dX10_crackOf_4 rfl rfl ?_
  obtain ⟨hg, h⟩ := zs_gd h
  refine zV_iald (zq_95 hZ) hg dX10_crackOf_5 (fun m1 => ?_)
  exact zV_ireti dX10_crackOf_6 rfl m1 h
noncomputable def fX9_learn (M : zMem) : Option (zMem) :=
  (if (M 110 7) = 0 then (zbd (fX10_learn (zup M 110 7 1)) fun M5 => (zbd (fJ7_fill_53178 117 100 (-1) M5) fun M9 => (zbd (fJ7_fill_53178 116 960 (-1) M9) fun M13 => some M13))) else some M)
set_option maxRecDepth 100000 in
set_option maxHeartbeats 4000000 in
theorem fX9_learn_ok {Z : zZ} (hZ : zB Z) {nn : Nat} (hn : 3 ≤ nn)   {M : zMem} {Q : Option zAV → zMem → zZ → Prop} (h : zSat (fX9_learn M) (fun r => Q none r Z))  : zV zmX9_learn nn 0 0 Z 0 [(0, zR 110)] [] M Q := by
  unfold fX9_learn at h
  refine zV_aload_n 0 dX9_learn_0 rfl rfl ?_
  refine zV_getI (zq_110 hZ) zf_X9_7 zkf_X9_43 rfl dX9_learn_1 (fun m1 => ?_)
  refine zV_if_eq 8 dX9_learn_4 (by decide) m1 (fun hc_ => ?_) (fun hc_ => ?_)
  · replace h := zs_t h hc_
    refine zV_aload_n 0 dX9_learn_8 rfl rfl ?_
    refine zV_iconst (v := 1) dX9_learn_9 rfl ?_
    refine zV_putB (zq_110 hZ) (by decide) zf_X9_7 zkf_X9_43 rfl dX9_learn_10 (Or.inr rfl) ?_
    refine zV_aload_n 0 dX9_learn_13 rfl rfl ?_
    refine zV_getR (j := 90) (zq_110 hZ) zf_X9_2 zkf_X9_26 rfl dX9_learn_14 ?_
    refine zV_cVV (y' := zmX10_learn) (n' := 2) (As := []) zc_X9_47 (zq_90 hZ) rfl dX9_learn_17 (Nat.le_trans (by decide) hn) rfl (Nat.le_of_ble_eq_true rfl) (Nat.le_of_ble_eq_true rfl) rfl h (fun Q' h' => fX10_learn_ok hZ (Nat.le_refl _)  h') (fun M5 h => ?_)
    refine zV_aload_n 0 dX9_learn_20 rfl rfl ?_
    refine zV_getR (j := 117) (zq_110 hZ) zf_X9_6 zkf_X9_15 rfl dX9_learn_21 ?_
    refine zV_iconst (v := (-1)) dX9_learn_24 rfl ?_
    refine zV_cSV (y' := zmJ7_fill_53178) (n' := 0) (As := [zR 117, zI (-1)]) zc_X9_52 dX9_learn_25 (Nat.le_trans (by decide) hn) rfl (Nat.le_of_ble_eq_true rfl) (Nat.le_of_ble_eq_true rfl) rfl h (fun Q' h' => fJ7_fill_53178_ok hZ (Nat.le_refl _) (zq_117 hZ) (by decide) zi_n1 h') (fun M9 h => ?_)
    refine zV_aload_n 0 dX9_learn_28 rfl rfl ?_
    refine zV_getR (j := 116) (zq_110 hZ) zf_X9_5 zkf_X9_9 rfl dX9_learn_29 ?_
    refine zV_iconst (v := (-1)) dX9_learn_32 rfl ?_
    refine zV_cSV (y' := zmJ7_fill_53178) (n' := 0) (As := [zR 116, zI (-1)]) zc_X9_52 dX9_learn_33 (Nat.le_trans (by decide) hn) rfl (Nat.le_of_ble_eq_true rfl) (Nat.le_of_ble_eq_true rfl) rfl h (fun Q' h' => fJ7_fill_53178_ok hZ (Nat.le_refl _) (zq_116 hZ) (by decide) zi_n1 h') (fun M13 h => ?_)
    exact zV_vret dX9_learn_36 rfl h
  · replace h := zs_f h hc_
    exact zV_vret dX9_learn_7 rfl h
noncomputable def fX10_isCracked (x1 x2 : Int) (M : zMem) : Option (Int) :=
  (zgd ((0 : Int) ≤ x1 ∧ x1 < 12) (if (M 95 x1) = (-1) then some 0 else (zgd ((0 : Int) ≤ x1 ∧ x1 < 12) (if x2 < (M 95 x1) then some 0 else some 1))))
set_option maxRecDepth 100000 in
set_option maxHeartbeats 4000000 in
theorem fX10_isCracked_ok {Z : zZ} (hZ : zB Z) {nn : Nat} (hn : 0 ≤ nn)  {x1 x2 : Int} (hx1 : z32 x1) (hx2 : z32 x2) {M : zMem} {Q : Option zAV → zMem → zZ → Prop} (h : zSat (fX10_isCracked x1 x2 M) (fun r => Q (some (zI r)) M Z))  : zV zmX10_isCracked nn 0 0 Z 0 [(0, zR 90), (1, zI x1), (2, zI x2)] [] M Q := by
  unfold fX10_isCracked at h
  refine zV_aload_n 0 dX10_isCracked_0 rfl rfl ?_
  refine zV_getR (j := 95) (zq_90 hZ) zf_X10_4 zkf_X10_18 rfl dX10_isCracked_1 ?_
  refine zV_iload_n 1 dX10_isCracked_4 rfl rfl ?_
  obtain ⟨hg, h⟩ := zs_gd h
  refine zV_iald (zq_95 hZ) hg dX10_isCracked_5 (fun m1 => ?_)
  refine zV_iconst (v := (-1)) dX10_isCracked_6 rfl ?_
  refine zV_icmp_eq 24 dX10_isCracked_7 (by decide) m1 zi_n1 (fun hc_ => ?_) (fun hc_ => ?_)
  · replace h := zs_t h hc_
    refine zV_iconst (v := 0) dX10_isCracked_24 rfl ?_
    exact zV_iretb dX10_isCracked_25 rfl (Or.inl rfl) h
  · replace h := zs_f h hc_
    refine zV_iload_n 2 dX10_isCracked_10 rfl rfl ?_
    refine zV_aload_n 0 dX10_isCracked_11 rfl rfl ?_
    refine zV_getR (j := 95) (zq_90 hZ) zf_X10_4 zkf_X10_18 rfl dX10_isCracked_12 ?_
    refine zV_iload_n 1 dX10_isCracked_15 rfl rfl ?_
    obtain ⟨hg, h⟩ := zs_gd h
    refine zV_iald (zq_95 hZ) hg dX10_isCracked_16 (fun m2 => ?_)
    refine zV_icmp_lt 24 dX10_isCracked_17 (by decide) hx2 m2 (fun hc_ => ?_) (fun hc_ => ?_)
    · replace h := zs_t h hc_
      refine zV_iconst (v := 0) dX10_isCracked_24 rfl ?_
      exact zV_iretb dX10_isCracked_25 rfl (Or.inl rfl) h
    · replace h := zs_f h hc_
      refine zV_iconst (v := 1) dX10_isCracked_20 rfl ?_
      refine zV_goto 25 dX10_isCracked_21 (by decide) ?_
      exact zV_iretb dX10_isCracked_25 rfl (Or.inr rfl) h
noncomputable def fX2_wornBefore_j57 (o1 no1 : Nat) (x2 x3 x4 x5 : Int) (M : zMem) : Option ((Int × Int × Int) ⊕ (Int × Int × Int)) :=
  (zgd ((0 : Int) ≤ x5 ∧ x5 < 24) (zbd (fX5_endOf 80 x5 M) fun r4 => some (.inl ((zw (x3 + (M 84 x5))), r4, (zw (x5 + 1))))))
set_option maxRecDepth 100000 in
set_option maxHeartbeats 4000000 in
theorem fX2_wornBefore_j57_ok {Z : zZ} (hZ : zB Z) {nn : Nat} (hn : 1 ≤ nn) {o1 no1 : Nat} (hz_o1 : Z o1 = some (.inr (0, no1))) (hw_o1 : o1 < 1000)  {x2 x3 x4 x5 : Int} (hx2 : z32 x2) (hx3 : z32 x3) (hx4 : z32 x4) (hx5 : z32 x5) {M : zMem} {Q : Option zAV → zMem → zZ → Prop} {P : (Int × Int × Int) ⊕ (Int × Int × Int) → Prop} (h : zSat (fX2_wornBefore_j57 o1 no1 x2 x3 x4 x5 M) P)  (hc : ∀ s : Int × Int × Int, P (.inl s) → z32 (s.1) → z32 (s.2.1) → z32 (s.2.2) → zV zmX2_wornBefore nn 0 0 Z 8 [(0, zR 100), (1, zR o1), (2, zI x2), (3, zI (s.1)), (4, zI (s.2.1)), (5, zI (s.2.2))] [] M Q) (he : ∀ s : Int × Int × Int, P (.inr s) → z32 (s.1) → z32 (s.2.1) → z32 (s.2.2) → zV zmX2_wornBefore nn 0 0 Z 87 [(0, zR 100), (1, zR o1), (2, zI x2), (3, zI (s.1)), (4, zI (s.2.1)), (5, zI (s.2.2))] [] M Q)   : zV zmX2_wornBefore nn 0 0 Z 57 [(0, zR 100), (1, zR o1), (2, zI x2), (3, zI x3), (4, zI x4), (5, zI x5)] [] M Q := by
  unfold fX2_wornBefore_j57 at h
  refine zV_iload_n 3 dX2_wornBefore_57 rfl rfl ?_
  refine zV_aload_n 0 dX2_wornBefore_58 rfl rfl ?_
  refine zV_getR (j := 80) (zq_100 hZ) zf_X2_1 zkf_X2_15 rfl dX2_wornBefore_59 ?_
  refine zV_getR (j := 84) (zq_80 hZ) zf_X5_3 zkf_X2_48 rfl dX2_wornBefore_62 ?_
  refine zV_iload 5 dX2_wornBefore_65 rfl ?_
  obtain ⟨hg, h⟩ := zs_gd h
  refine zV_iald (zq_84 hZ) hg dX2_wornBefore_67 (fun m3 => ?_)
  refine zV_iadd dX2_wornBefore_68 ?_
  refine zV_w ?_
  refine zV_istore_n [(3, zI (zw (x3 + (M 84 x5)))), (0, zR 100), (1, zR o1), (2, zI x2), (4, zI x4), (5, zI x5)] dX2_wornBefore_69 rfl (by decide) rfl ?_
  refine zV_aload_n 1 dX2_wornBefore_70 rfl rfl ?_
  refine zV_getR (j := 80) (zq_100 hZ) zf_X2_1 zkf_X2_15 rfl dX2_wornBefore_71 ?_
  refine zV_iload 5 dX2_wornBefore_74 rfl ?_
  refine zV_cVI (y' := zmX5_endOf) (n' := 0) (As := [zI x5]) zc_X2_68 (zq_80 hZ) rfl dX2_wornBefore_76 (Nat.le_trans (by decide) hn) rfl (Nat.le_of_ble_eq_true rfl) (Nat.le_of_ble_eq_true rfl) rfl h (fun Q' h' => fX5_endOf_ok hZ (Nat.le_refl _) (zqpi_80 hZ) (by decide) hx5 h') (fun r4 c5 b6 h => ?_)
  refine zV_istore [(4, zI r4), (3, zI (zw (x3 + (M 84 x5)))), (0, zR 100), (1, zR o1), (2, zI x2), (5, zI x5)] dX2_wornBefore_79 (by decide) rfl ?_
  refine zV_iinc 5 [(5, zI (zw (x5 + 1))), (4, zI r4), (3, zI (zw (x3 + (M 84 x5)))), (0, zR 100), (1, zR o1), (2, zI x2)] dX2_wornBefore_81 rfl rfl (by decide) rfl ?_
  refine zV_goto 8 dX2_wornBefore_84 (by decide) ?_
  refine zV_ls [3, 4, 5, 2, 1, 0] rfl ?_
  exact hc _ h (z32_w _) c5 (z32_w _)
noncomputable def fX2_wornBefore_l8 (o1 no1 : Nat) (x2 x3 x4 x5 : Int) (M : zMem) : Option ((Int × Int × Int) ⊕ (Int × Int × Int)) :=
  (if x2 < x5 then some (.inr (x3, x4, x5)) else (zgd ((0 : Int) ≤ x5 ∧ x5 < ((no1 : Nat) : Int)) (zgd ((0 : Int) ≤ x2 ∧ x2 < ((no1 : Nat) : Int)) (if (M o1 x5) = (M o1 x2) then (if x4 = (-1) then fX2_wornBefore_j57 o1 no1 x2 x3 x4 x5 M else (zgd ((0 : Int) ≤ x5 ∧ x5 < 24) (zgd ((0 : Int) ≤ (5 : Int) ∧ (5 : Int) < 11) (if (zw ((M 83 x5) - x4)) < (M 59 5) then fX2_wornBefore_j57 o1 no1 x2 x3 x4 x5 M else fX2_wornBefore_j57 o1 no1 x2 0 x4 x5 M)))) else some (.inl (x3, x4, (zw (x5 + 1))))))))
set_option maxRecDepth 100000 in
set_option maxHeartbeats 4000000 in
theorem fX2_wornBefore_l8_ok {Z : zZ} (hZ : zB Z) {nn : Nat} (hn : 1 ≤ nn) {o1 no1 : Nat} (hz_o1 : Z o1 = some (.inr (0, no1))) (hw_o1 : o1 < 1000)  {x2 x3 x4 x5 : Int} (hx2 : z32 x2) (hx3 : z32 x3) (hx4 : z32 x4) (hx5 : z32 x5) {M : zMem} {Q : Option zAV → zMem → zZ → Prop} {P : (Int × Int × Int) ⊕ (Int × Int × Int) → Prop} (h : zSat (fX2_wornBefore_l8 o1 no1 x2 x3 x4 x5 M) P)  (hc : ∀ s : Int × Int × Int, P (.inl s) → z32 (s.1) → z32 (s.2.1) → z32 (s.2.2) → zV zmX2_wornBefore nn 0 0 Z 8 [(0, zR 100), (1, zR o1), (2, zI x2), (3, zI (s.1)), (4, zI (s.2.1)), (5, zI (s.2.2))] [] M Q) (he : ∀ s : Int × Int × Int, P (.inr s) → z32 (s.1) → z32 (s.2.1) → z32 (s.2.2) → zV zmX2_wornBefore nn 0 0 Z 87 [(0, zR 100), (1, zR o1), (2, zI x2), (3, zI (s.1)), (4, zI (s.2.1)), (5, zI (s.2.2))] [] M Q)   : zV zmX2_wornBefore nn 0 0 Z 8 [(0, zR 100), (1, zR o1), (2, zI x2), (3, zI x3), (4, zI x4), (5, zI x5)] [] M Q := by
  unfold fX2_wornBefore_l8 at h
  refine zV_iload 5 dX2_wornBefore_8 rfl ?_
  refine zV_iload_n 2 dX2_wornBefore_10 rfl rfl ?_
  refine zV_icmp_gt 87 dX2_wornBefore_11 (by decide) hx5 hx2 (fun hc_ => ?_) (fun hc_ => ?_)
  · replace h := zs_t h hc_
    exact he _ h hx3 hx4 hx5
  · replace h := zs_f h hc_
    refine zV_aload_n 1 dX2_wornBefore_14 rfl rfl ?_
    refine zV_iload 5 dX2_wornBefore_15 rfl ?_
    obtain ⟨hg, h⟩ := zs_gd h
    refine zV_iald hz_o1 hg dX2_wornBefore_17 (fun m1 => ?_)
    refine zV_aload_n 1 dX2_wornBefore_18 rfl rfl ?_
    refine zV_iload_n 2 dX2_wornBefore_19 rfl rfl ?_
    obtain ⟨hg, h⟩ := zs_gd h
    refine zV_iald hz_o1 hg dX2_wornBefore_20 (fun m2 => ?_)
    refine zV_icmp_ne 81 dX2_wornBefore_21 (by decide) m1 m2 (fun hc_ => ?_) (fun hc_ => ?_)
    · replace h := zs_f h hc_
      refine zV_iinc 5 [(5, zI (zw (x5 + 1))), (0, zR 100), (1, zR o1), (2, zI x2), (3, zI x3), (4, zI x4)] dX2_wornBefore_81 rfl rfl (by decide) rfl ?_
      refine zV_goto 8 dX2_wornBefore_84 (by decide) ?_
      refine zV_ls [1, 2, 3, 4, 5, 0] rfl ?_
      exact hc _ h hx3 hx4 (z32_w _)
    · replace h := zs_t h hc_
      refine zV_iload 4 dX2_wornBefore_24 rfl ?_
      refine zV_iconst (v := (-1)) dX2_wornBefore_26 rfl ?_
      refine zV_icmp_eq 57 dX2_wornBefore_27 (by decide) hx4 zi_n1 (fun hc_ => ?_) (fun hc_ => ?_)
      · replace h := zs_t h hc_
        exact fX2_wornBefore_j57_ok hZ hn hz_o1 hw_o1 hx2 hx3 hx4 hx5 h hc he
      · replace h := zs_f h hc_
        refine zV_aload_n 0 dX2_wornBefore_30 rfl rfl ?_
        refine zV_getR (j := 80) (zq_100 hZ) zf_X2_1 zkf_X2_15 rfl dX2_wornBefore_31 ?_
        refine zV_getR (j := 83) (zq_80 hZ) zf_X5_2 zkf_X2_65 rfl dX2_wornBefore_34 ?_
        refine zV_iload 5 dX2_wornBefore_37 rfl ?_
        obtain ⟨hg, h⟩ := zs_gd h
        refine zV_iald (zq_83 hZ) hg dX2_wornBefore_39 (fun m8 => ?_)
        refine zV_iload 4 dX2_wornBefore_40 rfl ?_
        refine zV_isub dX2_wornBefore_42 ?_
        refine zV_aload_n 0 dX2_wornBefore_43 rfl rfl ?_
        refine zV_getR (j := 40) (zq_100 hZ) zf_X2_0 zkf_X2_9 rfl dX2_wornBefore_44 ?_
        refine zV_getR (j := 59) (zq_40 hZ) zf_X7_18 zkf_X2_51 rfl dX2_wornBefore_47 ?_
        refine zV_iconst (v := 5) dX2_wornBefore_50 rfl ?_
        obtain ⟨hg, h⟩ := zs_gd h
        refine zV_iald (zq_59 hZ) hg dX2_wornBefore_51 (fun m9 => ?_)
        refine zV_w2 ?_
        refine zV_icmp_lt 57 dX2_wornBefore_52 (by decide) (z32_w _) m9 (fun hc_ => ?_) (fun hc_ => ?_)
        · replace h := zs_t h hc_
          exact fX2_wornBefore_j57_ok hZ hn hz_o1 hw_o1 hx2 hx3 hx4 hx5 h hc he
        · replace h := zs_f h hc_
          refine zV_iconst (v := 0) dX2_wornBefore_55 rfl ?_
          refine zV_istore_n [(3, zI 0), (0, zR 100), (1, zR o1), (2, zI x2), (4, zI x4), (5, zI x5)] dX2_wornBefore_56 rfl (by decide) rfl ?_
          refine zV_ls [1, 2, 3, 0, 4, 5] rfl ?_
          exact fX2_wornBefore_j57_ok hZ hn hz_o1 hw_o1 hx2 zi_0 hx4 hx5 h hc he
noncomputable def fX2_wornBefore (o1 no1 : Nat) (x2 : Int) (M : zMem) : Option (Int) :=
  (zbd (zit (fun s10 => fX2_wornBefore_l8 o1 no1 x2 (s10.1) (s10.2.1) (s10.2.2) M) (0, (-1), 0)) fun s18 => (zgd ((0 : Int) ≤ x2 ∧ x2 < 24) (some (zw (s18.1 - (M 84 x2))))))
set_option maxRecDepth 100000 in
set_option maxHeartbeats 4000000 in
theorem fX2_wornBefore_ok {Z : zZ} (hZ : zB Z) {nn : Nat} (hn : 1 ≤ nn) {o1 no1 : Nat} (hz_o1 : Z o1 = some (.inr (0, no1))) (hw_o1 : o1 < 1000)  {x2 : Int} (hx2 : z32 x2) {M : zMem} {Q : Option zAV → zMem → zZ → Prop} (h : zSat (fX2_wornBefore o1 no1 x2 M) (fun r => Q (some (zI r)) M Z))  : zV zmX2_wornBefore nn 0 0 Z 0 [(0, zR 100), (1, zR o1), (2, zI x2)] [] M Q := by
  unfold fX2_wornBefore at h
  refine zV_iconst (v := 0) dX2_wornBefore_0 rfl ?_
  refine zV_istore_n [(3, zI 0), (0, zR 100), (1, zR o1), (2, zI x2)] dX2_wornBefore_1 rfl (by decide) rfl ?_
  refine zV_iconst (v := (-1)) dX2_wornBefore_2 rfl ?_
  refine zV_istore [(4, zI (-1)), (3, zI 0), (0, zR 100), (1, zR o1), (2, zI x2)] dX2_wornBefore_3 (by decide) rfl ?_
  refine zV_iconst (v := 0) dX2_wornBefore_5 rfl ?_
  refine zV_istore [(5, zI 0), (4, zI (-1)), (3, zI 0), (0, zR 100), (1, zR o1), (2, zI x2)] dX2_wornBefore_6 (by decide) rfl ?_
  refine zV_ls [3, 4, 5, 2, 1, 0] rfl ?_
  refine (zV_loop (Vh := fun s10 : Int × Int × Int => z32 (s10.1) → z32 (s10.2.1) → z32 (s10.2.2) → zV zmX2_wornBefore nn 0 0 Z 8 [(0, zR 100), (1, zR o1), (2, zI x2), (3, zI (s10.1)), (4, zI (s10.2.1)), (5, zI (s10.2.2))] [] M Q) h (fun s10 P11 hP12 hc13 he14 => ?_)) zi_0 zi_n1 zi_0
  intro c15 c16 c17
  refine fX2_wornBefore_l8_ok hZ hn hz_o1 hw_o1 hx2 c15 c16 c17 hP12 hc13 (fun s18 h19 d20 d21 d22 => ?_)
  have h := he14 _ h19
  refine zV_iload_n 3 dX2_wornBefore_87 rfl rfl ?_
  refine zV_aload_n 0 dX2_wornBefore_88 rfl rfl ?_
  refine zV_getR (j := 80) (zq_100 hZ) zf_X2_1 zkf_X2_15 rfl dX2_wornBefore_89 ?_
  refine zV_getR (j := 84) (zq_80 hZ) zf_X5_3 zkf_X2_48 rfl dX2_wornBefore_92 ?_
  refine zV_iload_n 2 dX2_wornBefore_95 rfl rfl ?_
  obtain ⟨hg, h⟩ := zs_gd h
  refine zV_iald (zq_84 hZ) hg dX2_wornBefore_96 (fun m23 => ?_)
  refine zV_isub dX2_wornBefore_97 ?_
  refine zV_w ?_
  exact zV_ireti dX2_wornBefore_98 rfl (z32_w _) h
noncomputable def fX2_driesIn (x1 x2 : Int) (M : zMem) : Option (Int) :=
  (zgd ((0 : Int) ≤ x1 ∧ x1 < 24) (if (M 86 x1) = (-1) then some 0 else (zbd (fX2_wornBefore 86 24 x1 M) fun r2 => (zgd ((0 : Int) ≤ (4 : Int) ∧ (4 : Int) < 11) (if (zw (r2 + x2)) < (M 59 4) then some 0 else some 1)))))
set_option maxRecDepth 100000 in
set_option maxHeartbeats 4000000 in
theorem fX2_driesIn_ok {Z : zZ} (hZ : zB Z) {nn : Nat} (hn : 2 ≤ nn)  {x1 x2 : Int} (hx1 : z32 x1) (hx2 : z32 x2) {M : zMem} {Q : Option zAV → zMem → zZ → Prop} (h : zSat (fX2_driesIn x1 x2 M) (fun r => Q (some (zI r)) M Z))  : zV zmX2_driesIn nn 0 0 Z 0 [(0, zR 100), (1, zI x1), (2, zI x2)] [] M Q := by
  unfold fX2_driesIn at h
  refine zV_aload_n 0 dX2_driesIn_0 rfl rfl ?_
  refine zV_getR (j := 80) (zq_100 hZ) zf_X2_1 zkf_X2_15 rfl dX2_driesIn_1 ?_
  refine zV_getR (j := 86) (zq_80 hZ) zf_X5_5 zkf_X2_71 rfl dX2_driesIn_4 ?_
  refine zV_iload_n 1 dX2_driesIn_7 rfl rfl ?_
  obtain ⟨hg, h⟩ := zs_gd h
  refine zV_iald (zq_86 hZ) hg dX2_driesIn_8 (fun m1 => ?_)
  refine zV_iconst (v := (-1)) dX2_driesIn_9 rfl ?_
  refine zV_icmp_eq 43 dX2_driesIn_10 (by decide) m1 zi_n1 (fun hc_ => ?_) (fun hc_ => ?_)
  · replace h := zs_t h hc_
    refine zV_iconst (v := 0) dX2_driesIn_43 rfl ?_
    exact zV_iretb dX2_driesIn_44 rfl (Or.inl rfl) h
  · replace h := zs_f h hc_
    refine zV_aload_n 0 dX2_driesIn_13 rfl rfl ?_
    refine zV_aload_n 0 dX2_driesIn_14 rfl rfl ?_
    refine zV_getR (j := 80) (zq_100 hZ) zf_X2_1 zkf_X2_15 rfl dX2_driesIn_15 ?_
    refine zV_getR (j := 86) (zq_80 hZ) zf_X5_5 zkf_X2_71 rfl dX2_driesIn_18 ?_
    refine zV_iload_n 1 dX2_driesIn_21 rfl rfl ?_
    refine zV_cVI (y' := zmX2_wornBefore) (n' := 1) (As := [zR 86, zI x1]) zc_X2_44 (zq_100 hZ) rfl dX2_driesIn_22 (Nat.le_trans (by decide) hn) rfl (Nat.le_of_ble_eq_true rfl) (Nat.le_of_ble_eq_true rfl) rfl h (fun Q' h' => fX2_wornBefore_ok hZ (Nat.le_refl _) (zq_86 hZ) (by decide) hx1 h') (fun r2 c3 b4 h => ?_)
    refine zV_iload_n 2 dX2_driesIn_25 rfl rfl ?_
    refine zV_iadd dX2_driesIn_26 ?_
    refine zV_aload_n 0 dX2_driesIn_27 rfl rfl ?_
    refine zV_getR (j := 40) (zq_100 hZ) zf_X2_0 zkf_X2_9 rfl dX2_driesIn_28 ?_
    refine zV_getR (j := 59) (zq_40 hZ) zf_X7_18 zkf_X2_51 rfl dX2_driesIn_31 ?_
    refine zV_iconst (v := 4) dX2_driesIn_34 rfl ?_
    obtain ⟨hg, h⟩ := zs_gd h
    refine zV_iald (zq_59 hZ) hg dX2_driesIn_35 (fun m6 => ?_)
    refine zV_w2 ?_
    refine zV_icmp_lt 43 dX2_driesIn_36 (by decide) (z32_w _) m6 (fun hc_ => ?_) (fun hc_ => ?_)
    · replace h := zs_t h hc_
      refine zV_iconst (v := 0) dX2_driesIn_43 rfl ?_
      exact zV_iretb dX2_driesIn_44 rfl (Or.inl rfl) h
    · replace h := zs_f h hc_
      refine zV_iconst (v := 1) dX2_driesIn_39 rfl ?_
      refine zV_goto 44 dX2_driesIn_40 (by decide) ?_
      exact zV_iretb dX2_driesIn_44 rfl (Or.inr rfl) h
noncomputable def fX9_tellLaw_j37 (x1 x2 x3 s0 s1 : Int) (M : zMem) : Option (zMem) :=
  (zbd (fX10_heatOf x3 x2 M) fun r4 => (zgd ((0 : Int) ≤ x1 ∧ x1 < 24) (zgd ((0 : Int) ≤ x3 ∧ x3 < 12) (zbd (fX3_tell (zw (s1 - s0)) r4 (zw (x2 - (M 83 x1))) (M 45 x3) M) fun M13 => some M13))))
set_option maxRecDepth 100000 in
set_option maxHeartbeats 4000000 in
theorem fX9_tellLaw_j37_ok {Z : zZ} (hZ : zB Z) {nn : Nat} (hn : 1 ≤ nn)  {x1 x2 x3 s0 s1 : Int} (hx1 : z32 x1) (hx2 : z32 x2) (hx3 : z32 x3) (hs0 : z32 s0) (hbs0 : s0 = 0 ∨ s0 = 1) (hs1 : z32 s1) {M : zMem} {Q : Option zAV → zMem → zZ → Prop} (h : zSat (fX9_tellLaw_j37 x1 x2 x3 s0 s1 M) (fun r => Q none r Z))  : zV zmX9_tellLaw nn 0 0 Z 37 [(0, zR 110), (1, zI x1), (2, zI x2), (3, zI x3)] [zI s0, zI s1] M Q := by
  unfold fX9_tellLaw_j37 at h
  refine zV_isub dX9_tellLaw_37 ?_
  refine zV_w ?_
  refine zV_istore [(4, zI (zw (s1 - s0))), (0, zR 110), (1, zI x1), (2, zI x2), (3, zI x3)] dX9_tellLaw_38 (by decide) rfl ?_
  refine zV_aload_n 1 dX9_tellLaw_40 rfl rfl ?_
  refine zV_getR (j := 120) (zq_110 hZ) zf_X9_4 zkf_X9_39 rfl dX9_tellLaw_41 ?_
  refine zV_iload 0 dX9_tellLaw_44 rfl ?_
  refine zV_aload_n 1 dX9_tellLaw_46 rfl rfl ?_
  refine zV_getR (j := 90) (zq_110 hZ) zf_X9_2 zkf_X9_26 rfl dX9_tellLaw_47 ?_
  refine zV_iload_n 4 dX9_tellLaw_50 rfl rfl ?_
  refine zV_iload_n 3 dX9_tellLaw_51 rfl rfl ?_
  refine zV_cVI (y' := zmX10_heatOf) (n' := 0) (As := [zI x3, zI x2]) zc_X9_116 (zq_90 hZ) rfl dX9_tellLaw_52 (Nat.le_trans (by decide) hn) rfl (Nat.le_of_ble_eq_true rfl) (Nat.le_of_ble_eq_true rfl) rfl h (fun Q' h' => fX10_heatOf_ok hZ (Nat.le_refl _) hx3 hx2 h') (fun r4 c5 b6 h => ?_)
  refine zV_iload_n 3 dX9_tellLaw_55 rfl rfl ?_
  refine zV_aload_n 1 dX9_tellLaw_56 rfl rfl ?_
  refine zV_getR (j := 80) (zq_110 hZ) zf_X9_1 zkf_X9_22 rfl dX9_tellLaw_57 ?_
  refine zV_getR (j := 83) (zq_80 hZ) zf_X5_2 zkf_X9_74 rfl dX9_tellLaw_60 ?_
  refine zV_iload_n 2 dX9_tellLaw_63 rfl rfl ?_
  obtain ⟨hg, h⟩ := zs_gd h
  refine zV_iald (zq_83 hZ) hg dX9_tellLaw_64 (fun m8 => ?_)
  refine zV_isub dX9_tellLaw_65 ?_
  refine zV_aload_n 1 dX9_tellLaw_66 rfl rfl ?_
  refine zV_getR (j := 40) (zq_110 hZ) zf_X9_0 zkf_X9_18 rfl dX9_tellLaw_67 ?_
  refine zV_getR (j := 45) (zq_40 hZ) zf_X7_4 zkf_X9_119 rfl dX9_tellLaw_70 ?_
  refine zV_iload_n 4 dX9_tellLaw_73 rfl rfl ?_
  obtain ⟨hg, h⟩ := zs_gd h
  refine zV_iald (zq_45 hZ) hg dX9_tellLaw_74 (fun m9 => ?_)
  refine zV_w2 ?_
  refine zV_cVV (y' := zmX3_tell) (n' := 0) (As := [zI (zw (s1 - s0)), zI r4, zI (zw (x2 - (M 83 x1))), zI (M 45 x3)]) zc_X9_122 (zq_120 hZ) rfl dX9_tellLaw_75 (Nat.le_trans (by decide) hn) rfl (Nat.le_of_ble_eq_true rfl) (Nat.le_of_ble_eq_true rfl) rfl h (fun Q' h' => fX3_tell_ok hZ (Nat.le_refl _) (z32_w _) c5 (z32_w _) m9 h') (fun M13 h => ?_)
  exact zV_vret dX9_tellLaw_78 rfl h
noncomputable def fX9_tellLaw (x1 x2 : Int) (M : zMem) : Option (zMem) :=
  (zgd ((0 : Int) ≤ x1 ∧ x1 < 24) (zgd ((0 : Int) ≤ x1 ∧ x1 < 24) (zgd ((0 : Int) ≤ (M 82 x1) ∧ (M 82 x1) < 12) (if (M 46 (M 82 x1)) = 2 then fX9_tellLaw_j37 x1 x2 (M 82 x1) 1 (M 85 x1) M else fX9_tellLaw_j37 x1 x2 (M 82 x1) 0 (M 85 x1) M))))
set_option maxRecDepth 100000 in
set_option maxHeartbeats 4000000 in
theorem fX9_tellLaw_ok {Z : zZ} (hZ : zB Z) {nn : Nat} (hn : 1 ≤ nn)  {x1 x2 : Int} (hx1 : z32 x1) (hx2 : z32 x2) {M : zMem} {Q : Option zAV → zMem → zZ → Prop} (h : zSat (fX9_tellLaw x1 x2 M) (fun r => Q none r Z))  : zV zmX9_tellLaw nn 0 0 Z 0 [(0, zR 110), (1, zI x1), (2, zI x2)] [] M Q := by
  unfold fX9_tellLaw at h
  refine zV_aload_n 0 dX9_tellLaw_0 rfl rfl ?_
  refine zV_getR (j := 80) (zq_110 hZ) zf_X9_1 zkf_X9_22 rfl dX9_tellLaw_1 ?_
  refine zV_getR (j := 82) (zq_80 hZ) zf_X5_1 zkf_X9_85 rfl dX9_tellLaw_4 ?_
  refine zV_iload_n 1 dX9_tellLaw_7 rfl rfl ?_
  obtain ⟨hg, h⟩ := zs_gd h
  refine zV_iald (zq_82 hZ) hg dX9_tellLaw_8 (fun m1 => ?_)
  refine zV_istore_n [(3, zI (M 82 x1)), (0, zR 110), (1, zI x1), (2, zI x2)] dX9_tellLaw_9 rfl (by decide) rfl ?_
  refine zV_aload_n 1 dX9_tellLaw_10 rfl rfl ?_
  refine zV_getR (j := 80) (zq_110 hZ) zf_X9_1 zkf_X9_22 rfl dX9_tellLaw_11 ?_
  refine zV_getR (j := 85) (zq_80 hZ) zf_X5_4 zkf_X9_110 rfl dX9_tellLaw_14 ?_
  refine zV_iload_n 2 dX9_tellLaw_17 rfl rfl ?_
  obtain ⟨hg, h⟩ := zs_gd h
  refine zV_iald (zq_85 hZ) hg dX9_tellLaw_18 (fun m2 => ?_)
  refine zV_aload_n 1 dX9_tellLaw_19 rfl rfl ?_
  refine zV_getR (j := 40) (zq_110 hZ) zf_X9_0 zkf_X9_18 rfl dX9_tellLaw_20 ?_
  refine zV_getR (j := 46) (zq_40 hZ) zf_X7_5 zkf_X9_113 rfl dX9_tellLaw_23 ?_
  refine zV_iload_n 0 dX9_tellLaw_26 rfl rfl ?_
  obtain ⟨hg, h⟩ := zs_gd h
  refine zV_iald (zq_46 hZ) hg dX9_tellLaw_27 (fun m3 => ?_)
  refine zV_iconst (v := 2) dX9_tellLaw_28 rfl ?_
  refine zV_icmp_ne 36 dX9_tellLaw_29 (by decide) m3 zi_2 (fun hc_ => ?_) (fun hc_ => ?_)
  · replace h := zs_f h hc_
    refine zV_iconst (v := 0) dX9_tellLaw_36 rfl ?_
    refine zV_ls [1, 2, 3, 0] rfl ?_
    exact fX9_tellLaw_j37_ok hZ hn hx1 hx2 m1 zi_0 (Or.inl rfl) m2 h
  · replace h := zs_t h hc_
    refine zV_iconst (v := 1) dX9_tellLaw_32 rfl ?_
    refine zV_goto 37 dX9_tellLaw_33 (by decide) ?_
    refine zV_ls [1, 2, 3, 0] rfl ?_
    exact fX9_tellLaw_j37_ok hZ hn hx1 hx2 m1 zi_1 (Or.inr rfl) m2 h
noncomputable def fX9_speedOf (x1 x2 : Int) (M : zMem) : Option (Int) :=
  (zgd ((0 : Int) ≤ x1 ∧ x1 < 24) (zgd ((0 : Int) ≤ (M 82 x1) ∧ (M 82 x1) < 12) (some (zw ((M 44 (M 82 x1)) * x2)))))
set_option maxRecDepth 100000 in
set_option maxHeartbeats 4000000 in
theorem fX9_speedOf_ok {Z : zZ} (hZ : zB Z) {nn : Nat} (hn : 0 ≤ nn)  {x1 x2 : Int} (hx1 : z32 x1) (hx2 : z32 x2) {M : zMem} {Q : Option zAV → zMem → zZ → Prop} (h : zSat (fX9_speedOf x1 x2 M) (fun r => Q (some (zI r)) M Z))  : zV zmX9_speedOf nn 0 0 Z 0 [(0, zR 110), (1, zI x1), (2, zI x2)] [] M Q := by
  unfold fX9_speedOf at h
  refine zV_aload_n 0 dX9_speedOf_0 rfl rfl ?_
  refine zV_getR (j := 40) (zq_110 hZ) zf_X9_0 zkf_X9_18 rfl dX9_speedOf_1 ?_
  refine zV_getR (j := 44) (zq_40 hZ) zf_X7_3 zkf_X9_126 rfl dX9_speedOf_4 ?_
  refine zV_aload_n 0 dX9_speedOf_7 rfl rfl ?_
  refine zV_getR (j := 80) (zq_110 hZ) zf_X9_1 zkf_X9_22 rfl dX9_speedOf_8 ?_
  refine zV_getR (j := 82) (zq_80 hZ) zf_X5_1 zkf_X9_85 rfl dX9_speedOf_11 ?_
  refine zV_iload_n 1 dX9_speedOf_14 rfl rfl ?_
  obtain ⟨hg, h⟩ := zs_gd h
  refine zV_iald (zq_82 hZ) hg dX9_speedOf_15 (fun m1 => ?_)
  obtain ⟨hg, h⟩ := zs_gd h
  refine zV_iald (zq_44 hZ) hg dX9_speedOf_16 (fun m2 => ?_)
  refine zV_iload_n 2 dX9_speedOf_17 rfl rfl ?_
  refine zV_imul dX9_speedOf_18 ?_
  refine zV_w ?_
  exact zV_ireti dX9_speedOf_19 rfl (z32_w _) h
noncomputable def fX9_reasonFound (x1 x2 : Int) (M : zMem) : Option (Int × zMem) :=
  (zgd ((0 : Int) ≤ x1 ∧ x1 < 24) (zgd ((0 : Int) ≤ (3 : Int) ∧ (3 : Int) < 11) (if (M 59 3) ≤ (zw (x2 - (M 83 x1))) then (zgd ((0 : Int) ≤ x1 ∧ x1 < 24) (zbd (fX10_isCracked (M 82 x1) x2 M) fun r4 => (if r4 = 0 then (zbd (fX2_driesIn x1 (zw (x2 - (M 83 x1))) M) fun r8 => (if r8 = 0 then (zbd (fX9_tellLaw x1 x2 M) fun M15 => (zgd ((0 : Int) ≤ (0 : Int) ∧ (0 : Int) < 11) (zbd (fX9_speedOf x1 (M15 59 0) M15) fun r17 => (zbd2 (fX3_allows (zxor (M15 40 14) (-1)) r17 M15) fun r22 M25 => (if r22 = 0 then some (5, M25) else (zbd2 (fX3_allows (M25 40 14) r17 M25) fun r27 M30 => (if r27 = 0 then some (4, M30) else some (0, M30)))))))) else some (3, M))) else some (2, M)))) else some (1, M))))
set_option maxRecDepth 100000 in
set_option maxHeartbeats 4000000 in
theorem fX9_reasonFound_ok {Z : zZ} (hZ : zB Z) {nn : Nat} (hn : 3 ≤ nn)  {x1 x2 : Int} (hx1 : z32 x1) (hx2 : z32 x2) {M : zMem} {Q : Option zAV → zMem → zZ → Prop} (h : zSat (fX9_reasonFound x1 x2 M) (fun r => Q (some (zI r.1)) r.2 Z))  : zV zmX9_reasonFound nn 0 0 Z 0 [(0, zR 110), (1, zI x1), (2, zI x2)] [] M Q := by
  unfold fX9_reasonFound at h
  refine zV_iload_n 2 dX9_reasonFound_0 rfl rfl ?_
  refine zV_aload_n 0 dX9_reasonFound_1 rfl rfl ?_
  refine zV_getR (j := 80) (zq_110 hZ) zf_X9_1 zkf_X9_22 rfl dX9_reasonFound_2 ?_
  refine zV_getR (j := 83) (zq_80 hZ) zf_X5_2 zkf_X9_74 rfl dX9_reasonFound_5 ?_
  refine zV_iload_n 1 dX9_reasonFound_8 rfl rfl ?_
  obtain ⟨hg, h⟩ := zs_gd h
  refine zV_iald (zq_83 hZ) hg dX9_reasonFound_9 (fun m1 => ?_)
  refine zV_isub dX9_reasonFound_10 ?_
  refine zV_w ?_
  refine zV_istore_n [(3, zI (zw (x2 - (M 83 x1)))), (0, zR 110), (1, zI x1), (2, zI x2)] dX9_reasonFound_11 rfl (by decide) rfl ?_
  refine zV_iload_n 0 dX9_reasonFound_12 rfl rfl ?_
  refine zV_aload_n 1 dX9_reasonFound_13 rfl rfl ?_
  refine zV_getR (j := 40) (zq_110 hZ) zf_X9_0 zkf_X9_18 rfl dX9_reasonFound_14 ?_
  refine zV_getR (j := 59) (zq_40 hZ) zf_X7_18 zkf_X9_80 rfl dX9_reasonFound_17 ?_
  refine zV_iconst (v := 3) dX9_reasonFound_20 rfl ?_
  obtain ⟨hg, h⟩ := zs_gd h
  refine zV_iald (zq_59 hZ) hg dX9_reasonFound_21 (fun m2 => ?_)
  refine zV_icmp_ge 27 dX9_reasonFound_22 (by decide) (z32_w _) m2 (fun hc_ => ?_) (fun hc_ => ?_)
  · replace h := zs_t h hc_
    refine zV_aload_n 1 dX9_reasonFound_27 rfl rfl ?_
    refine zV_getR (j := 90) (zq_110 hZ) zf_X9_2 zkf_X9_26 rfl dX9_reasonFound_28 ?_
    refine zV_aload_n 1 dX9_reasonFound_31 rfl rfl ?_
    refine zV_getR (j := 80) (zq_110 hZ) zf_X9_1 zkf_X9_22 rfl dX9_reasonFound_32 ?_
    refine zV_getR (j := 82) (zq_80 hZ) zf_X5_1 zkf_X9_85 rfl dX9_reasonFound_35 ?_
    refine zV_iload_n 2 dX9_reasonFound_38 rfl rfl ?_
    obtain ⟨hg, h⟩ := zs_gd h
    refine zV_iald (zq_82 hZ) hg dX9_reasonFound_39 (fun m3 => ?_)
    refine zV_iload_n 3 dX9_reasonFound_40 rfl rfl ?_
    refine zV_cVI (y' := zmX10_isCracked) (n' := 0) (As := [zI (M 82 x1), zI x2]) zc_X9_88 (zq_90 hZ) rfl dX9_reasonFound_41 (Nat.le_trans (by decide) hn) rfl (Nat.le_of_ble_eq_true rfl) (Nat.le_of_ble_eq_true rfl) rfl h (fun Q' h' => fX10_isCracked_ok hZ (Nat.le_refl _) m3 hx2 h') (fun r4 c5 b6 h => ?_)
    refine zV_if_eq 49 dX9_reasonFound_44 (by decide) c5 (fun hc_ => ?_) (fun hc_ => ?_)
    · replace h := zs_t h hc_
      refine zV_aload_n 1 dX9_reasonFound_49 rfl rfl ?_
      refine zV_getR (j := 100) (zq_110 hZ) zf_X9_3 zkf_X9_30 rfl dX9_reasonFound_50 ?_
      refine zV_iload_n 2 dX9_reasonFound_53 rfl rfl ?_
      refine zV_iload_n 0 dX9_reasonFound_54 rfl rfl ?_
      refine zV_cVI (y' := zmX2_driesIn) (n' := 2) (As := [zI x1, zI (zw (x2 - (M 83 x1)))]) zc_X9_91 (zq_100 hZ) rfl dX9_reasonFound_55 (Nat.le_trans (by decide) hn) rfl (Nat.le_of_ble_eq_true rfl) (Nat.le_of_ble_eq_true rfl) rfl h (fun Q' h' => fX2_driesIn_ok hZ (Nat.le_refl _) hx1 (z32_w _) h') (fun r8 c9 b10 h => ?_)
      refine zV_if_eq 63 dX9_reasonFound_58 (by decide) c9 (fun hc_ => ?_) (fun hc_ => ?_)
      · replace h := zs_t h hc_
        refine zV_aload_n 1 dX9_reasonFound_63 rfl rfl ?_
        refine zV_iload_n 2 dX9_reasonFound_64 rfl rfl ?_
        refine zV_iload_n 3 dX9_reasonFound_65 rfl rfl ?_
        refine zV_cVV (y' := zmX9_tellLaw) (n' := 1) (As := [zI x1, zI x2]) zc_X9_96 (zq_110 hZ) rfl dX9_reasonFound_66 (Nat.le_trans (by decide) hn) rfl (Nat.le_of_ble_eq_true rfl) (Nat.le_of_ble_eq_true rfl) rfl h (fun Q' h' => fX9_tellLaw_ok hZ (Nat.le_refl _) hx1 hx2 h') (fun M15 h => ?_)
        refine zV_aload_n 1 dX9_reasonFound_69 rfl rfl ?_
        refine zV_iload_n 2 dX9_reasonFound_70 rfl rfl ?_
        refine zV_aload_n 1 dX9_reasonFound_71 rfl rfl ?_
        refine zV_getR (j := 40) (zq_110 hZ) zf_X9_0 zkf_X9_18 rfl dX9_reasonFound_72 ?_
        refine zV_getR (j := 59) (zq_40 hZ) zf_X7_18 zkf_X9_80 rfl dX9_reasonFound_75 ?_
        refine zV_iconst (v := 0) dX9_reasonFound_78 rfl ?_
        obtain ⟨hg, h⟩ := zs_gd h
        refine zV_iald (zq_59 hZ) hg dX9_reasonFound_79 (fun m16 => ?_)
        refine zV_cVI (y' := zmX9_speedOf) (n' := 0) (As := [zI x1, zI (M15 59 0)]) zc_X9_100 (zq_110 hZ) rfl dX9_reasonFound_80 (Nat.le_trans (by decide) hn) rfl (Nat.le_of_ble_eq_true rfl) (Nat.le_of_ble_eq_true rfl) rfl h (fun Q' h' => fX9_speedOf_ok hZ (Nat.le_refl _) hx1 m16 h') (fun r17 c18 b19 h => ?_)
        refine zV_istore [(4, zI r17), (3, zI (zw (x2 - (M 83 x1)))), (0, zR 110), (1, zI x1), (2, zI x2)] dX9_reasonFound_83 (by decide) rfl ?_
        refine zV_aload_n 2 dX9_reasonFound_85 rfl rfl ?_
        refine zV_getR (j := 120) (zq_110 hZ) zf_X9_4 zkf_X9_39 rfl dX9_reasonFound_86 ?_
        refine zV_aload_n 2 dX9_reasonFound_89 rfl rfl ?_
        refine zV_getR (j := 40) (zq_110 hZ) zf_X9_0 zkf_X9_18 rfl dX9_reasonFound_90 ?_
        refine zV_getI (zq_40 hZ) zf_X7_14 zkf_X9_103 rfl dX9_reasonFound_93 (fun m21 => ?_)
        refine zV_iconst (v := (-1)) dX9_reasonFound_96 rfl ?_
        refine zV_ixor dX9_reasonFound_97 ?_
        refine zV_iload 0 dX9_reasonFound_98 rfl ?_
        refine zV_cVIm (y' := zmX3_allows) (n' := 2) (As := [zI (zxor (M15 40 14) (-1)), zI r17]) zc_X9_107 (zq_120 hZ) rfl dX9_reasonFound_100 (Nat.le_trans (by decide) hn) rfl (Nat.le_of_ble_eq_true rfl) (Nat.le_of_ble_eq_true rfl) rfl h (fun Q' h' => fX3_allows_ok hZ (Nat.le_refl _) (z32_i _) c18 h') (fun r22 M25 c23 b24 h => ?_)
        refine zV_if_ne 108 dX9_reasonFound_103 (by decide) c23 (fun hc_ => ?_) (fun hc_ => ?_)
        · replace h := zs_f h hc_
          refine zV_aload_n 2 dX9_reasonFound_108 rfl rfl ?_
          refine zV_getR (j := 120) (zq_110 hZ) zf_X9_4 zkf_X9_39 rfl dX9_reasonFound_109 ?_
          refine zV_aload_n 2 dX9_reasonFound_112 rfl rfl ?_
          refine zV_getR (j := 40) (zq_110 hZ) zf_X9_0 zkf_X9_18 rfl dX9_reasonFound_113 ?_
          refine zV_getI (zq_40 hZ) zf_X7_14 zkf_X9_103 rfl dX9_reasonFound_116 (fun m26 => ?_)
          refine zV_iload 0 dX9_reasonFound_119 rfl ?_
          refine zV_cVIm (y' := zmX3_allows) (n' := 2) (As := [zI (M25 40 14), zI r17]) zc_X9_107 (zq_120 hZ) rfl dX9_reasonFound_121 (Nat.le_trans (by decide) hn) rfl (Nat.le_of_ble_eq_true rfl) (Nat.le_of_ble_eq_true rfl) rfl h (fun Q' h' => fX3_allows_ok hZ (Nat.le_refl _) m26 c18 h') (fun r27 M30 c28 b29 h => ?_)
          refine zV_if_eq 131 dX9_reasonFound_124 (by decide) c28 (fun hc_ => ?_) (fun hc_ => ?_)
          · replace h := zs_t h hc_
            refine zV_iconst (v := 4) dX9_reasonFound_131 rfl ?_
            exact zV_ireti dX9_reasonFound_132 rfl zi_4 h
          · replace h := zs_f h hc_
            refine zV_iconst (v := 0) dX9_reasonFound_127 rfl ?_
            refine zV_goto 132 dX9_reasonFound_128 (by decide) ?_
            exact zV_ireti dX9_reasonFound_132 rfl zi_0 h
        · replace h := zs_t h hc_
          refine zV_iconst (v := 5) dX9_reasonFound_106 rfl ?_
          exact zV_ireti dX9_reasonFound_107 rfl zi_5 h
      · replace h := zs_f h hc_
        refine zV_iconst (v := 3) dX9_reasonFound_61 rfl ?_
        exact zV_ireti dX9_reasonFound_62 rfl zi_3 h
    · replace h := zs_f h hc_
      refine zV_iconst (v := 2) dX9_reasonFound_47 rfl ?_
      exact zV_ireti dX9_reasonFound_48 rfl zi_2 h
  · replace h := zs_f h hc_
    refine zV_iconst (v := 1) dX9_reasonFound_25 rfl ?_
    exact zV_ireti dX9_reasonFound_26 rfl zi_1 h
noncomputable def fX9_reasonKept_j57 (x3 : Int) (M : zMem) : Option (Int × zMem) :=
  (zgd ((0 : Int) ≤ x3 ∧ x3 < 960) (some ((M 116 x3), M)))
set_option maxRecDepth 100000 in
set_option maxHeartbeats 4000000 in
theorem fX9_reasonKept_j57_ok {Z : zZ} (hZ : zB Z) {nn : Nat} (hn : 4 ≤ nn)  {x3 : Int} (hx3 : z32 x3) {M : zMem} {Q : Option zAV → zMem → zZ → Prop} (h : zSat (fX9_reasonKept_j57 x3 M) (fun r => Q (some (zI r.1)) r.2 Z))  : zV zmX9_reasonKept nn 0 0 Z 57 [(0, zR 110), (3, zI x3)] [] M Q := by
  unfold fX9_reasonKept_j57 at h
  refine zV_aload_n 0 dX9_reasonKept_57 rfl rfl ?_
  refine zV_getR (j := 116) (zq_110 hZ) zf_X9_5 zkf_X9_9 rfl dX9_reasonKept_58 ?_
  refine zV_iload_n 1 dX9_reasonKept_61 rfl rfl ?_
  obtain ⟨hg, h⟩ := zs_gd h
  refine zV_iald (zq_116 hZ) hg dX9_reasonKept_62 (fun m11 => ?_)
  exact zV_ireti dX9_reasonKept_63 rfl m11 h
noncomputable def fX9_reasonKept (x1 x2 : Int) (M : zMem) : Option (Int × zMem) :=
  (zbd (fX5_lasts 80 x1 x2 M) fun r1 => (if r1 = 0 then some (1, M) else (zbd (fX9_learn M) fun M8 => (zgd ((0 : Int) ≤ x1 ∧ x1 < 24) (zgd ((0 : Int) ≤ (zw (((x1 * 40) + x2) - (M8 83 x1))) ∧ (zw (((x1 * 40) + x2) - (M8 83 x1))) < 960) (if (M8 116 (zw (((x1 * 40) + x2) - (M8 83 x1)))) = (-1) then (zbd2 (fX9_reasonFound x1 x2 M8) fun r12 M15 => (zgd ((0 : Int) ≤ (zw (((x1 * 40) + x2) - (M8 83 x1))) ∧ (zw (((x1 * 40) + x2) - (M8 83 x1))) < 960) (fX9_reasonKept_j57 (zw (((x1 * 40) + x2) - (M8 83 x1))) (zup M15 116 (zw (((x1 * 40) + x2) - (M8 83 x1))) r12)))) else fX9_reasonKept_j57 (zw (((x1 * 40) + x2) - (M8 83 x1))) M8))))))
set_option maxRecDepth 100000 in
set_option maxHeartbeats 4000000 in
theorem fX9_reasonKept_ok {Z : zZ} (hZ : zB Z) {nn : Nat} (hn : 4 ≤ nn)  {x1 x2 : Int} (hx1 : z32 x1) (hx2 : z32 x2) {M : zMem} {Q : Option zAV → zMem → zZ → Prop} (h : zSat (fX9_reasonKept x1 x2 M) (fun r => Q (some (zI r.1)) r.2 Z))  : zV zmX9_reasonKept nn 0 0 Z 0 [(0, zR 110), (1, zI x1), (2, zI x2)] [] M Q := by
  unfold fX9_reasonKept at h
  refine zV_aload_n 0 dX9_reasonKept_0 rfl rfl ?_
  refine zV_getR (j := 80) (zq_110 hZ) zf_X9_1 zkf_X9_22 rfl dX9_reasonKept_1 ?_
  refine zV_iload_n 1 dX9_reasonKept_4 rfl rfl ?_
  refine zV_iload_n 2 dX9_reasonKept_5 rfl rfl ?_
  refine zV_cVI (y' := zmX5_lasts) (n' := 1) (As := [zI x1, zI x2]) zc_X9_67 (zq_80 hZ) rfl dX9_reasonKept_6 (Nat.le_trans (by decide) hn) rfl (Nat.le_of_ble_eq_true rfl) (Nat.le_of_ble_eq_true rfl) rfl h (fun Q' h' => fX5_lasts_ok hZ (Nat.le_refl _) (zqpi_80 hZ) (by decide) hx1 hx2 h') (fun r1 c2 b3 h => ?_)
  refine zV_if_ne 14 dX9_reasonKept_9 (by decide) c2 (fun hc_ => ?_) (fun hc_ => ?_)
  · replace h := zs_f h hc_
    refine zV_aload_n 0 dX9_reasonKept_14 rfl rfl ?_
    refine zV_cVV (y' := zmX9_learn) (n' := 3) (As := []) zc_X9_73 (zq_110 hZ) rfl dX9_reasonKept_15 (Nat.le_trans (by decide) hn) rfl (Nat.le_of_ble_eq_true rfl) (Nat.le_of_ble_eq_true rfl) rfl h (fun Q' h' => fX9_learn_ok hZ (Nat.le_refl _)  h') (fun M8 h => ?_)
    refine zV_iload_n 1 dX9_reasonKept_18 rfl rfl ?_
    refine zV_bipush (v := 40) dX9_reasonKept_19 rfl ?_
    refine zV_imul dX9_reasonKept_21 ?_
    refine zV_iload_n 2 dX9_reasonKept_22 rfl rfl ?_
    refine zV_iadd dX9_reasonKept_23 ?_
    refine zV_aload_n 0 dX9_reasonKept_24 rfl rfl ?_
    refine zV_getR (j := 80) (zq_110 hZ) zf_X9_1 zkf_X9_22 rfl dX9_reasonKept_25 ?_
    refine zV_getR (j := 83) (zq_80 hZ) zf_X5_2 zkf_X9_74 rfl dX9_reasonKept_28 ?_
    refine zV_iload_n 1 dX9_reasonKept_31 rfl rfl ?_
    obtain ⟨hg, h⟩ := zs_gd h
    refine zV_iald (zq_83 hZ) hg dX9_reasonKept_32 (fun m9 => ?_)
    refine zV_isub dX9_reasonKept_33 ?_
    refine zV_w ?_
    refine zV_istore_n [(3, zI (zw (((x1 * 40) + x2) - (M8 83 x1)))), (0, zR 110), (1, zI x1), (2, zI x2)] dX9_reasonKept_34 rfl (by decide) rfl ?_
    refine zV_aload_n 1 dX9_reasonKept_35 rfl rfl ?_
    refine zV_getR (j := 116) (zq_110 hZ) zf_X9_5 zkf_X9_9 rfl dX9_reasonKept_36 ?_
    refine zV_iload_n 0 dX9_reasonKept_39 rfl rfl ?_
    obtain ⟨hg, h⟩ := zs_gd h
    refine zV_iald (zq_116 hZ) hg dX9_reasonKept_40 (fun m10 => ?_)
    refine zV_iconst (v := (-1)) dX9_reasonKept_41 rfl ?_
    refine zV_icmp_ne 57 dX9_reasonKept_42 (by decide) m10 zi_n1 (fun hc_ => ?_) (fun hc_ => ?_)
    · replace h := zs_f h hc_
      refine zV_ls [1, 0] rfl ?_
      exact fX9_reasonKept_j57_ok hZ hn (z32_w _) h
    · replace h := zs_t h hc_
      refine zV_aload_n 1 dX9_reasonKept_45 rfl rfl ?_
      refine zV_getR (j := 116) (zq_110 hZ) zf_X9_5 zkf_X9_9 rfl dX9_reasonKept_46 ?_
      refine zV_iload_n 0 dX9_reasonKept_49 rfl rfl ?_
      refine zV_aload_n 1 dX9_reasonKept_50 rfl rfl ?_
      refine zV_iload_n 2 dX9_reasonKept_51 rfl rfl ?_
      refine zV_iload_n 3 dX9_reasonKept_52 rfl rfl ?_
      refine zV_cVIm (y' := zmX9_reasonFound) (n' := 3) (As := [zI x1, zI x2]) zc_X9_77 (zq_110 hZ) rfl dX9_reasonKept_53 (Nat.le_trans (by decide) hn) rfl (Nat.le_of_ble_eq_true rfl) (Nat.le_of_ble_eq_true rfl) rfl h (fun Q' h' => fX9_reasonFound_ok hZ (Nat.le_refl _) hx1 hx2 h') (fun r12 M15 c13 b14 h => ?_)
      obtain ⟨hg, h⟩ := zs_gd h
      refine zV_iast (zq_116 hZ) (by decide) hg c13 dX9_reasonKept_56 ?_
      refine zV_ls [1, 0] rfl ?_
      exact fX9_reasonKept_j57_ok hZ hn (z32_w _) h
  · replace h := zs_t h hc_
    refine zV_iconst (v := 1) dX9_reasonKept_12 rfl ?_
    exact zV_ireti dX9_reasonKept_13 rfl zi_1 h
noncomputable def fX9_reasonOf (x1 x2 : Int) (M : zMem) : Option (Int × zMem) :=
  (zbd2 (fX9_reasonKept x1 x2 M) fun r1 M4 => some ((min 4 r1), M4))
set_option maxRecDepth 100000 in
set_option maxHeartbeats 4000000 in
theorem fX9_reasonOf_ok {Z : zZ} (hZ : zB Z) {nn : Nat} (hn : 5 ≤ nn)  {x1 x2 : Int} (hx1 : z32 x1) (hx2 : z32 x2) {M : zMem} {Q : Option zAV → zMem → zZ → Prop} (h : zSat (fX9_reasonOf x1 x2 M) (fun r => Q (some (zI r.1)) r.2 Z))  : zV zmX9_reasonOf nn 0 0 Z 0 [(0, zR 110), (1, zI x1), (2, zI x2)] [] M Q := by
  unfold fX9_reasonOf at h
  refine zV_iconst (v := 4) dX9_reasonOf_0 rfl ?_
  refine zV_aload_n 0 dX9_reasonOf_1 rfl rfl ?_
  refine zV_iload_n 1 dX9_reasonOf_2 rfl rfl ?_
  refine zV_iload_n 2 dX9_reasonOf_3 rfl rfl ?_
  refine zV_cVIm (y' := zmX9_reasonKept) (n' := 4) (As := [zI x1, zI x2]) zc_X9_58 (zq_110 hZ) rfl dX9_reasonOf_4 (Nat.le_trans (by decide) hn) rfl (Nat.le_of_ble_eq_true rfl) (Nat.le_of_ble_eq_true rfl) rfl h (fun Q' h' => fX9_reasonKept_ok hZ (Nat.le_refl _) hx1 hx2 h') (fun r1 M4 c2 b3 h => ?_)
  refine zV_mmin zml_X9_62 dX9_reasonOf_7 (Nat.le_trans (by decide) hn) (Nat.le_of_ble_eq_true rfl) zi_4 c2 ?_
  exact zV_ireti dX9_reasonOf_10 rfl (z32_min zi_4 c2) h
noncomputable def fX9_spokenBy_j39 (x1 x2 x3 s0 s1 : Int) (M : zMem) : Option ((Int × Int × zMem) ⊕ (Int × Int × zMem)) :=
  some (.inl ((zw (s1 + s0)), (zw (x3 + 1)), M))
set_option maxRecDepth 100000 in
set_option maxHeartbeats 4000000 in
theorem fX9_spokenBy_j39_ok {Z : zZ} (hZ : zB Z) {nn : Nat} (hn : 5 ≤ nn)  {x1 x2 x3 s0 s1 : Int} (hx1 : z32 x1) (hx2 : z32 x2) (hx3 : z32 x3) (hs0 : z32 s0) (hbs0 : s0 = 0 ∨ s0 = 1) (hs1 : z32 s1) {M : zMem} {Q : Option zAV → zMem → zZ → Prop} {P : (Int × Int × zMem) ⊕ (Int × Int × zMem) → Prop} (h : zSat (fX9_spokenBy_j39 x1 x2 x3 s0 s1 M) P)  (hc : ∀ s : Int × Int × zMem, P (.inl s) → z32 (s.1) → z32 (s.2.1) → zV zmX9_spokenBy nn 0 0 Z 12 [(0, zR 110), (1, zI x1), (2, zI (s.1)), (3, zI (s.2.1))] [] (s.2.2) Q) (he : ∀ s : Int × Int × zMem, P (.inr s) → z32 (s.1) → z32 (s.2.1) → zV zmX9_spokenBy nn 0 0 Z 47 [(0, zR 110), (1, zI x1), (2, zI (s.1)), (3, zI (s.2.1))] [] (s.2.2) Q)   : zV zmX9_spokenBy nn 0 0 Z 39 [(0, zR 110), (1, zI x1), (2, zI x2), (3, zI x3)] [zI s0, zI s1] M Q := by
  unfold fX9_spokenBy_j39 at h
  refine zV_iadd dX9_spokenBy_39 ?_
  refine zV_w ?_
  refine zV_istore_n [(2, zI (zw (s1 + s0))), (0, zR 110), (1, zI x1), (3, zI x3)] dX9_spokenBy_40 rfl (by decide) rfl ?_
  refine zV_iinc 3 [(3, zI (zw (x3 + 1))), (2, zI (zw (s1 + s0))), (0, zR 110), (1, zI x1)] dX9_spokenBy_41 rfl rfl (by decide) rfl ?_
  refine zV_goto 12 dX9_spokenBy_44 (by decide) ?_
  refine zV_ls [2, 3, 1, 0] rfl ?_
  exact hc _ h (z32_w _) (z32_w _)
noncomputable def fX9_spokenBy_l12 (x1 x2 x3 : Int) (M : zMem) : Option ((Int × Int × zMem) ⊕ (Int × Int × zMem)) :=
  (zbd (fX5_endOf 80 x1 M) fun r2 => (if r2 ≤ x3 then some (.inr (x2, x3, M)) else (zbd2 (fX9_reasonKept x1 x3 M) fun r6 M9 => (if r6 = 0 then fX9_spokenBy_j39 x1 x2 x3 1 x2 M9 else fX9_spokenBy_j39 x1 x2 x3 0 x2 M9))))
set_option maxRecDepth 100000 in
set_option maxHeartbeats 4000000 in
theorem fX9_spokenBy_l12_ok {Z : zZ} (hZ : zB Z) {nn : Nat} (hn : 5 ≤ nn)  {x1 x2 x3 : Int} (hx1 : z32 x1) (hx2 : z32 x2) (hx3 : z32 x3) {M : zMem} {Q : Option zAV → zMem → zZ → Prop} {P : (Int × Int × zMem) ⊕ (Int × Int × zMem) → Prop} (h : zSat (fX9_spokenBy_l12 x1 x2 x3 M) P)  (hc : ∀ s : Int × Int × zMem, P (.inl s) → z32 (s.1) → z32 (s.2.1) → zV zmX9_spokenBy nn 0 0 Z 12 [(0, zR 110), (1, zI x1), (2, zI (s.1)), (3, zI (s.2.1))] [] (s.2.2) Q) (he : ∀ s : Int × Int × zMem, P (.inr s) → z32 (s.1) → z32 (s.2.1) → zV zmX9_spokenBy nn 0 0 Z 47 [(0, zR 110), (1, zI x1), (2, zI (s.1)), (3, zI (s.2.1))] [] (s.2.2) Q)   : zV zmX9_spokenBy nn 0 0 Z 12 [(0, zR 110), (1, zI x1), (2, zI x2), (3, zI x3)] [] M Q := by
  unfold fX9_spokenBy_l12 at h
  refine zV_iload_n 3 dX9_spokenBy_12 rfl rfl ?_
  refine zV_aload_n 0 dX9_spokenBy_13 rfl rfl ?_
  refine zV_getR (j := 80) (zq_110 hZ) zf_X9_1 zkf_X9_22 rfl dX9_spokenBy_14 ?_
  refine zV_iload_n 1 dX9_spokenBy_17 rfl rfl ?_
  refine zV_cVI (y' := zmX5_endOf) (n' := 0) (As := [zI x1]) zc_X9_129 (zq_80 hZ) rfl dX9_spokenBy_18 (Nat.le_trans (by decide) hn) rfl (Nat.le_of_ble_eq_true rfl) (Nat.le_of_ble_eq_true rfl) rfl h (fun Q' h' => fX5_endOf_ok hZ (Nat.le_refl _) (zqpi_80 hZ) (by decide) hx1 h') (fun r2 c3 b4 h => ?_)
  refine zV_icmp_ge 47 dX9_spokenBy_21 (by decide) hx3 c3 (fun hc_ => ?_) (fun hc_ => ?_)
  · replace h := zs_t h hc_
    exact he _ h hx2 hx3
  · replace h := zs_f h hc_
    refine zV_iload_n 2 dX9_spokenBy_24 rfl rfl ?_
    refine zV_aload_n 0 dX9_spokenBy_25 rfl rfl ?_
    refine zV_iload_n 1 dX9_spokenBy_26 rfl rfl ?_
    refine zV_iload_n 3 dX9_spokenBy_27 rfl rfl ?_
    refine zV_cVIm (y' := zmX9_reasonKept) (n' := 4) (As := [zI x1, zI x3]) zc_X9_58 (zq_110 hZ) rfl dX9_spokenBy_28 (Nat.le_trans (by decide) hn) rfl (Nat.le_of_ble_eq_true rfl) (Nat.le_of_ble_eq_true rfl) rfl h (fun Q' h' => fX9_reasonKept_ok hZ (Nat.le_refl _) hx1 hx3 h') (fun r6 M9 c7 b8 h => ?_)
    refine zV_if_ne 38 dX9_spokenBy_31 (by decide) c7 (fun hc_ => ?_) (fun hc_ => ?_)
    · replace h := zs_f h hc_
      refine zV_iconst (v := 0) dX9_spokenBy_38 rfl ?_
      exact fX9_spokenBy_j39_ok hZ hn hx1 hx2 hx3 zi_0 (Or.inl rfl) hx2 h hc he
    · replace h := zs_t h hc_
      refine zV_iconst (v := 1) dX9_spokenBy_34 rfl ?_
      refine zV_goto 39 dX9_spokenBy_35 (by decide) ?_
      exact fX9_spokenBy_j39_ok hZ hn hx1 hx2 hx3 zi_1 (Or.inr rfl) hx2 h hc he
noncomputable def fX9_spokenBy (x1 : Int) (M : zMem) : Option (Int × zMem) :=
  (zgd ((0 : Int) ≤ x1 ∧ x1 < 24) (zbd (zit (fun s10 => fX9_spokenBy_l12 x1 (s10.1) (s10.2.1) (s10.2.2)) (0, (M 83 x1), M)) fun s17 => some (s17.1, s17.2.2)))
set_option maxRecDepth 100000 in
set_option maxHeartbeats 4000000 in
theorem fX9_spokenBy_ok {Z : zZ} (hZ : zB Z) {nn : Nat} (hn : 5 ≤ nn)  {x1 : Int} (hx1 : z32 x1) {M : zMem} {Q : Option zAV → zMem → zZ → Prop} (h : zSat (fX9_spokenBy x1 M) (fun r => Q (some (zI r.1)) r.2 Z))  : zV zmX9_spokenBy nn 0 0 Z 0 [(0, zR 110), (1, zI x1)] [] M Q := by
  unfold fX9_spokenBy at h
  refine zV_iconst (v := 0) dX9_spokenBy_0 rfl ?_
  refine zV_istore_n [(2, zI 0), (0, zR 110), (1, zI x1)] dX9_spokenBy_1 rfl (by decide) rfl ?_
  refine zV_aload_n 1 dX9_spokenBy_2 rfl rfl ?_
  refine zV_getR (j := 80) (zq_110 hZ) zf_X9_1 zkf_X9_22 rfl dX9_spokenBy_3 ?_
  refine zV_getR (j := 83) (zq_80 hZ) zf_X5_2 zkf_X9_74 rfl dX9_spokenBy_6 ?_
  refine zV_iload_n 2 dX9_spokenBy_9 rfl rfl ?_
  obtain ⟨hg, h⟩ := zs_gd h
  refine zV_iald (zq_83 hZ) hg dX9_spokenBy_10 (fun m1 => ?_)
  refine zV_istore_n [(3, zI (M 83 x1)), (2, zI 0), (0, zR 110), (1, zI x1)] dX9_spokenBy_11 rfl (by decide) rfl ?_
  refine zV_ls [2, 3, 1, 0] rfl ?_
  refine (zV_loop (Vh := fun s10 : Int × Int × zMem => z32 (s10.1) → z32 (s10.2.1) → zV zmX9_spokenBy nn 0 0 Z 12 [(0, zR 110), (1, zI x1), (2, zI (s10.1)), (3, zI (s10.2.1))] [] (s10.2.2) Q) h (fun s10 P11 hP12 hc13 he14 => ?_)) zi_0 m1
  intro c15 c16
  refine fX9_spokenBy_l12_ok hZ hn hx1 c15 c16 hP12 hc13 (fun s17 h18 d19 d20 => ?_)
  have h := he14 _ h18
  refine zV_iload_n 2 dX9_spokenBy_47 rfl rfl ?_
  exact zV_ireti dX9_spokenBy_48 rfl d19 h
noncomputable def fX9_speakingIn_l4 (x1 x2 x3 : Int) (M : zMem) : Option ((Int × Int × zMem) ⊕ (Int × Int × zMem)) :=
  (if (M 80 0) ≤ x3 then some (.inr (x2, x3, M)) else (zbd (fX5_lasts 80 x3 x1 M) fun r2 => (if r2 = 0 then some (.inl (x2, (zw (x3 + 1)), M)) else (zbd2 (fX9_reasonKept x3 x1 M) fun r6 M9 => (if r6 = 0 then some (.inl ((zor x2 (zshl 1 x3)), (zw (x3 + 1)), M9)) else some (.inl (x2, (zw (x3 + 1)), M9)))))))
set_option maxRecDepth 100000 in
set_option maxHeartbeats 4000000 in
theorem fX9_speakingIn_l4_ok {Z : zZ} (hZ : zB Z) {nn : Nat} (hn : 5 ≤ nn)  {x1 x2 x3 : Int} (hx1 : z32 x1) (hx2 : z32 x2) (hx3 : z32 x3) {M : zMem} {Q : Option zAV → zMem → zZ → Prop} {P : (Int × Int × zMem) ⊕ (Int × Int × zMem) → Prop} (h : zSat (fX9_speakingIn_l4 x1 x2 x3 M) P)  (hc : ∀ s : Int × Int × zMem, P (.inl s) → z32 (s.1) → z32 (s.2.1) → zV zmX9_speakingIn nn 0 0 Z 4 [(0, zR 110), (1, zI x1), (2, zI (s.1)), (3, zI (s.2.1))] [] (s.2.2) Q) (he : ∀ s : Int × Int × zMem, P (.inr s) → z32 (s.1) → z32 (s.2.1) → zV zmX9_speakingIn nn 0 0 Z 48 [(0, zR 110), (1, zI x1), (2, zI (s.1)), (3, zI (s.2.1))] [] (s.2.2) Q)   : zV zmX9_speakingIn nn 0 0 Z 4 [(0, zR 110), (1, zI x1), (2, zI x2), (3, zI x3)] [] M Q := by
  unfold fX9_speakingIn_l4 at h
  refine zV_iload_n 3 dX9_speakingIn_4 rfl rfl ?_
  refine zV_aload_n 0 dX9_speakingIn_5 rfl rfl ?_
  refine zV_getR (j := 80) (zq_110 hZ) zf_X9_1 zkf_X9_22 rfl dX9_speakingIn_6 ?_
  refine zV_getI (zq_80 hZ) zf_X5_0 zkf_X9_133 rfl dX9_speakingIn_9 (fun m1 => ?_)
  refine zV_icmp_ge 48 dX9_speakingIn_12 (by decide) hx3 m1 (fun hc_ => ?_) (fun hc_ => ?_)
  · replace h := zs_t h hc_
    exact he _ h hx2 hx3
  · replace h := zs_f h hc_
    refine zV_aload_n 0 dX9_speakingIn_15 rfl rfl ?_
    refine zV_getR (j := 80) (zq_110 hZ) zf_X9_1 zkf_X9_22 rfl dX9_speakingIn_16 ?_
    refine zV_iload_n 3 dX9_speakingIn_19 rfl rfl ?_
    refine zV_iload_n 1 dX9_speakingIn_20 rfl rfl ?_
    refine zV_cVI (y' := zmX5_lasts) (n' := 1) (As := [zI x3, zI x1]) zc_X9_67 (zq_80 hZ) rfl dX9_speakingIn_21 (Nat.le_trans (by decide) hn) rfl (Nat.le_of_ble_eq_true rfl) (Nat.le_of_ble_eq_true rfl) rfl h (fun Q' h' => fX5_lasts_ok hZ (Nat.le_refl _) (zqpi_80 hZ) (by decide) hx3 hx1 h') (fun r2 c3 b4 h => ?_)
    refine zV_if_eq 42 dX9_speakingIn_24 (by decide) c3 (fun hc_ => ?_) (fun hc_ => ?_)
    · replace h := zs_t h hc_
      refine zV_iinc 3 [(3, zI (zw (x3 + 1))), (0, zR 110), (1, zI x1), (2, zI x2)] dX9_speakingIn_42 rfl rfl (by decide) rfl ?_
      refine zV_goto 4 dX9_speakingIn_45 (by decide) ?_
      refine zV_ls [1, 2, 3, 0] rfl ?_
      exact hc _ h hx2 (z32_w _)
    · replace h := zs_f h hc_
      refine zV_aload_n 0 dX9_speakingIn_27 rfl rfl ?_
      refine zV_iload_n 3 dX9_speakingIn_28 rfl rfl ?_
      refine zV_iload_n 1 dX9_speakingIn_29 rfl rfl ?_
      refine zV_cVIm (y' := zmX9_reasonKept) (n' := 4) (As := [zI x3, zI x1]) zc_X9_58 (zq_110 hZ) rfl dX9_speakingIn_30 (Nat.le_trans (by decide) hn) rfl (Nat.le_of_ble_eq_true rfl) (Nat.le_of_ble_eq_true rfl) rfl h (fun Q' h' => fX9_reasonKept_ok hZ (Nat.le_refl _) hx3 hx1 h') (fun r6 M9 c7 b8 h => ?_)
      refine zV_if_ne 42 dX9_speakingIn_33 (by decide) c7 (fun hc_ => ?_) (fun hc_ => ?_)
      · replace h := zs_f h hc_
        refine zV_iinc 3 [(3, zI (zw (x3 + 1))), (0, zR 110), (1, zI x1), (2, zI x2)] dX9_speakingIn_42 rfl rfl (by decide) rfl ?_
        refine zV_goto 4 dX9_speakingIn_45 (by decide) ?_
        refine zV_ls [1, 2, 3, 0] rfl ?_
        exact hc _ h hx2 (z32_w _)
      · replace h := zs_t h hc_
        refine zV_iload_n 2 dX9_speakingIn_36 rfl rfl ?_
        refine zV_iconst (v := 1) dX9_speakingIn_37 rfl ?_
        refine zV_iload_n 3 dX9_speakingIn_38 rfl rfl ?_
        refine zV_ishl dX9_speakingIn_39 ?_
        refine zV_ior dX9_speakingIn_40 ?_
        refine zV_istore_n [(2, zI (zor x2 (zshl 1 x3))), (0, zR 110), (1, zI x1), (3, zI x3)] dX9_speakingIn_41 rfl (by decide) rfl ?_
        refine zV_iinc 3 [(3, zI (zw (x3 + 1))), (2, zI (zor x2 (zshl 1 x3))), (0, zR 110), (1, zI x1)] dX9_speakingIn_42 rfl rfl (by decide) rfl ?_
        refine zV_goto 4 dX9_speakingIn_45 (by decide) ?_
        refine zV_ls [2, 3, 1, 0] rfl ?_
        exact hc _ h (z32_i _) (z32_w _)
noncomputable def fX9_speakingIn (x1 : Int) (M : zMem) : Option (Int × zMem) :=
  (zbd (zit (fun s10 => fX9_speakingIn_l4 x1 (s10.1) (s10.2.1) (s10.2.2)) (0, 0, M)) fun s17 => some (s17.1, s17.2.2))
set_option maxRecDepth 100000 in
set_option maxHeartbeats 4000000 in
theorem fX9_speakingIn_ok {Z : zZ} (hZ : zB Z) {nn : Nat} (hn : 5 ≤ nn)  {x1 : Int} (hx1 : z32 x1) {M : zMem} {Q : Option zAV → zMem → zZ → Prop} (h : zSat (fX9_speakingIn x1 M) (fun r => Q (some (zI r.1)) r.2 Z))  : zV zmX9_speakingIn nn 0 0 Z 0 [(0, zR 110), (1, zI x1)] [] M Q := by
  unfold fX9_speakingIn at h
  refine zV_iconst (v := 0) dX9_speakingIn_0 rfl ?_
  refine zV_istore_n [(2, zI 0), (0, zR 110), (1, zI x1)] dX9_speakingIn_1 rfl (by decide) rfl ?_
  refine zV_iconst (v := 0) dX9_speakingIn_2 rfl ?_
  refine zV_istore_n [(3, zI 0), (2, zI 0), (0, zR 110), (1, zI x1)] dX9_speakingIn_3 rfl (by decide) rfl ?_
  refine zV_ls [2, 3, 1, 0] rfl ?_
  refine (zV_loop (Vh := fun s10 : Int × Int × zMem => z32 (s10.1) → z32 (s10.2.1) → zV zmX9_speakingIn nn 0 0 Z 4 [(0, zR 110), (1, zI x1), (2, zI (s10.1)), (3, zI (s10.2.1))] [] (s10.2.2) Q) h (fun s10 P11 hP12 hc13 he14 => ?_)) zi_0 zi_0
  intro c15 c16
  refine fX9_speakingIn_l4_ok hZ hn hx1 c15 c16 hP12 hc13 (fun s17 h18 d19 d20 => ?_)
  have h := he14 _ h18
  refine zV_iload_n 2 dX9_speakingIn_48 rfl rfl ?_
  exact zV_ireti dX9_speakingIn_49 rfl d19 h
noncomputable def fX9_isRoused_j79 (x1 x2 x3 s0 : Int) (M : zMem) : Option ((Int) ⊕ ((Int) ⊕ (Int))) :=
  (if s0 = 0 then some (.inl (zw (x3 + 1))) else (if (zand (zshr x2 x3) 1) = 0 then some (.inl (zw (x3 + 1))) else some (.inr (.inr 1))))
set_option maxRecDepth 100000 in
set_option maxHeartbeats 4000000 in
theorem fX9_isRoused_j79_ok {Z : zZ} (hZ : zB Z) {nn : Nat} (hn : 2 ≤ nn)  {x1 x2 x3 s0 : Int} (hx1 : z32 x1) (hx2 : z32 x2) (hx3 : z32 x3) (hs0 : z32 s0) (hbs0 : s0 = 0 ∨ s0 = 1) {M : zMem} {Q : Option zAV → zMem → zZ → Prop} {P : (Int) ⊕ ((Int) ⊕ (Int)) → Prop} (h : zSat (fX9_isRoused_j79 x1 x2 x3 s0 M) P)  (hc : ∀ s : Int, P (.inl s) → z32 s → zV zmX9_isRoused nn 0 0 Z 2 [(0, zR 110), (1, zI x1), (2, zI x2), (3, zI s)] [] M Q) (he : ∀ s : Int, P (.inr (.inl s)) → z32 s → zV zmX9_isRoused nn 0 0 Z 102 [(0, zR 110), (1, zI x1), (2, zI x2), (3, zI s)] [] M Q) (hr : ∀ r : Int, P (.inr (.inr r)) → (fun r => Q (some (zI r)) M Z) r)  : zV zmX9_isRoused nn 0 0 Z 79 [(0, zR 110), (1, zI x1), (2, zI x2), (3, zI x3)] [zI s0] M Q := by
  unfold fX9_isRoused_j79 at h
  refine zV_istore [(5, zI s0), (0, zR 110), (1, zI x1), (2, zI x2), (3, zI x3)] dX9_isRoused_79 (by decide) rfl ?_
  refine zV_iload 0 dX9_isRoused_81 rfl ?_
  refine zV_if_eq 96 dX9_isRoused_83 (by decide) hs0 (fun hc_ => ?_) (fun hc_ => ?_)
  · replace h := zs_t h hc_
    refine zV_iinc 4 [(3, zI (zw (x3 + 1))), (5, zI s0), (0, zR 110), (1, zI x1), (2, zI x2)] dX9_isRoused_96 rfl rfl (by decide) rfl ?_
    refine zV_goto 2 dX9_isRoused_99 (by decide) ?_
    refine zV_ls [2, 3, 4, 0] rfl ?_
    exact hc _ h (z32_w _)
  · replace h := zs_f h hc_
    refine zV_iload_n 3 dX9_isRoused_86 rfl rfl ?_
    refine zV_iload_n 4 dX9_isRoused_87 rfl rfl ?_
    refine zV_ishr dX9_isRoused_88 ?_
    refine zV_iconst (v := 1) dX9_isRoused_89 rfl ?_
    refine zV_iand dX9_isRoused_90 ?_
    refine zV_if_eq 96 dX9_isRoused_91 (by decide) (z32_i _) (fun hc_ => ?_) (fun hc_ => ?_)
    · replace h := zs_t h hc_
      refine zV_iinc 4 [(3, zI (zw (x3 + 1))), (5, zI s0), (0, zR 110), (1, zI x1), (2, zI x2)] dX9_isRoused_96 rfl rfl (by decide) rfl ?_
      refine zV_goto 2 dX9_isRoused_99 (by decide) ?_
      refine zV_ls [2, 3, 4, 0] rfl ?_
      exact hc _ h (z32_w _)
    · replace h := zs_f h hc_
      refine zV_iconst (v := 1) dX9_isRoused_94 rfl ?_
      exact zV_iretb dX9_isRoused_95 rfl (Or.inr rfl) (hr _ h)
noncomputable def fX9_isRoused_j78 (x1 x2 x3 : Int) (M : zMem) : Option ((Int) ⊕ ((Int) ⊕ (Int))) :=
  fX9_isRoused_j79 x1 x2 x3 0 M
set_option maxRecDepth 100000 in
set_option maxHeartbeats 4000000 in
theorem fX9_isRoused_j78_ok {Z : zZ} (hZ : zB Z) {nn : Nat} (hn : 2 ≤ nn)  {x1 x2 x3 : Int} (hx1 : z32 x1) (hx2 : z32 x2) (hx3 : z32 x3) {M : zMem} {Q : Option zAV → zMem → zZ → Prop} {P : (Int) ⊕ ((Int) ⊕ (Int)) → Prop} (h : zSat (fX9_isRoused_j78 x1 x2 x3 M) P)  (hc : ∀ s : Int, P (.inl s) → z32 s → zV zmX9_isRoused nn 0 0 Z 2 [(0, zR 110), (1, zI x1), (2, zI x2), (3, zI s)] [] M Q) (he : ∀ s : Int, P (.inr (.inl s)) → z32 s → zV zmX9_isRoused nn 0 0 Z 102 [(0, zR 110), (1, zI x1), (2, zI x2), (3, zI s)] [] M Q) (hr : ∀ r : Int, P (.inr (.inr r)) → (fun r => Q (some (zI r)) M Z) r)  : zV zmX9_isRoused nn 0 0 Z 78 [(0, zR 110), (1, zI x1), (2, zI x2), (3, zI x3)] [] M Q := by
  unfold fX9_isRoused_j78 at h
  refine zV_iconst (v := 0) dX9_isRoused_78 rfl ?_
  exact fX9_isRoused_j79_ok hZ hn hx1 hx2 hx3 zi_0 (Or.inl rfl) h hc he hr
noncomputable def fX9_isRoused_l2 (x1 x2 x3 : Int) (M : zMem) : Option ((Int) ⊕ ((Int) ⊕ (Int))) :=
  (if (M 80 0) ≤ x3 then some (.inr (.inl x3)) else (zgd ((0 : Int) ≤ x3 ∧ x3 < 24) (zgd ((0 : Int) ≤ x1 ∧ x1 < 12) (zgd ((0 : Int) ≤ (M 82 x3) ∧ (M 82 x3) < 12) (if (zw (zabs (zw ((M 47 x1) - (M 47 (M 82 x3)))))) = 1 then (zbd (fX7_apart 40 x1 (M 82 x3) M) fun r5 => (zgd ((0 : Int) ≤ (9 : Int) ∧ (9 : Int) < 11) (if (M 59 9) < r5 then fX9_isRoused_j78 x1 x2 x3 M else fX9_isRoused_j79 x1 x2 x3 1 M))) else fX9_isRoused_j78 x1 x2 x3 M)))))
set_option maxRecDepth 100000 in
set_option maxHeartbeats 4000000 in
theorem fX9_isRoused_l2_ok {Z : zZ} (hZ : zB Z) {nn : Nat} (hn : 2 ≤ nn)  {x1 x2 x3 : Int} (hx1 : z32 x1) (hx2 : z32 x2) (hx3 : z32 x3) {M : zMem} {Q : Option zAV → zMem → zZ → Prop} {P : (Int) ⊕ ((Int) ⊕ (Int)) → Prop} (h : zSat (fX9_isRoused_l2 x1 x2 x3 M) P)  (hc : ∀ s : Int, P (.inl s) → z32 s → zV zmX9_isRoused nn 0 0 Z 2 [(0, zR 110), (1, zI x1), (2, zI x2), (3, zI s)] [] M Q) (he : ∀ s : Int, P (.inr (.inl s)) → z32 s → zV zmX9_isRoused nn 0 0 Z 102 [(0, zR 110), (1, zI x1), (2, zI x2), (3, zI s)] [] M Q) (hr : ∀ r : Int, P (.inr (.inr r)) → (fun r => Q (some (zI r)) M Z) r)  : zV zmX9_isRoused nn 0 0 Z 2 [(0, zR 110), (1, zI x1), (2, zI x2), (3, zI x3)] [] M Q := by
  unfold fX9_isRoused_l2 at h
  refine zV_iload_n 3 dX9_isRoused_2 rfl rfl ?_
  refine zV_aload_n 0 dX9_isRoused_3 rfl rfl ?_
  refine zV_getR (j := 80) (zq_110 hZ) zf_X9_1 zkf_X9_22 rfl dX9_isRoused_4 ?_
  refine zV_getI (zq_80 hZ) zf_X5_0 zkf_X9_133 rfl dX9_isRoused_7 (fun m1 => ?_)
  refine zV_icmp_ge 102 dX9_isRoused_10 (by decide) hx3 m1 (fun hc_ => ?_) (fun hc_ => ?_)
  · replace h := zs_t h hc_
    exact he _ h hx3
  · replace h := zs_f h hc_
    refine zV_aload_n 0 dX9_isRoused_13 rfl rfl ?_
    refine zV_getR (j := 80) (zq_110 hZ) zf_X9_1 zkf_X9_22 rfl dX9_isRoused_14 ?_
    refine zV_getR (j := 82) (zq_80 hZ) zf_X5_1 zkf_X9_85 rfl dX9_isRoused_17 ?_
    refine zV_iload_n 3 dX9_isRoused_20 rfl rfl ?_
    obtain ⟨hg, h⟩ := zs_gd h
    refine zV_iald (zq_82 hZ) hg dX9_isRoused_21 (fun m2 => ?_)
    refine zV_istore [(4, zI (M 82 x3)), (0, zR 110), (1, zI x1), (2, zI x2), (3, zI x3)] dX9_isRoused_22 (by decide) rfl ?_
    refine zV_aload_n 1 dX9_isRoused_24 rfl rfl ?_
    refine zV_getR (j := 40) (zq_110 hZ) zf_X9_0 zkf_X9_18 rfl dX9_isRoused_25 ?_
    refine zV_getR (j := 47) (zq_40 hZ) zf_X7_6 zkf_X9_156 rfl dX9_isRoused_28 ?_
    refine zV_iload_n 2 dX9_isRoused_31 rfl rfl ?_
    obtain ⟨hg, h⟩ := zs_gd h
    refine zV_iald (zq_47 hZ) hg dX9_isRoused_32 (fun m3 => ?_)
    refine zV_aload_n 1 dX9_isRoused_33 rfl rfl ?_
    refine zV_getR (j := 40) (zq_110 hZ) zf_X9_0 zkf_X9_18 rfl dX9_isRoused_34 ?_
    refine zV_getR (j := 47) (zq_40 hZ) zf_X7_6 zkf_X9_156 rfl dX9_isRoused_37 ?_
    refine zV_iload 0 dX9_isRoused_40 rfl ?_
    obtain ⟨hg, h⟩ := zs_gd h
    refine zV_iald (zq_47 hZ) hg dX9_isRoused_42 (fun m4 => ?_)
    refine zV_isub dX9_isRoused_43 ?_
    refine zV_w ?_
    refine zV_mabs zml_X9_159 dX9_isRoused_44 (Nat.le_trans (by decide) hn) (Nat.le_of_ble_eq_true rfl) (z32_w _) ?_
    refine zV_iconst (v := 1) dX9_isRoused_47 rfl ?_
    refine zV_w2 ?_
    refine zV_icmp_ne 78 dX9_isRoused_48 (by decide) (z32_w _) zi_1 (fun hc_ => ?_) (fun hc_ => ?_)
    · replace h := zs_f h hc_
      refine zV_ls [1, 2, 3, 4] rfl ?_
      exact fX9_isRoused_j78_ok hZ hn hx1 hx2 hx3 h hc he hr
    · replace h := zs_t h hc_
      refine zV_aload_n 1 dX9_isRoused_51 rfl rfl ?_
      refine zV_getR (j := 40) (zq_110 hZ) zf_X9_0 zkf_X9_18 rfl dX9_isRoused_52 ?_
      refine zV_iload_n 2 dX9_isRoused_55 rfl rfl ?_
      refine zV_iload 0 dX9_isRoused_56 rfl ?_
      refine zV_cVI (y' := zmX7_apart) (n' := 1) (As := [zI x1, zI (M 82 x3)]) zc_X9_162 (zq_40 hZ) rfl dX9_isRoused_58 (Nat.le_trans (by decide) hn) rfl (Nat.le_of_ble_eq_true rfl) (Nat.le_of_ble_eq_true rfl) rfl h (fun Q' h' => fX7_apart_ok hZ (Nat.le_refl _) (zqsu_40 hZ) (by decide) hx1 m2 h') (fun r5 c6 b7 h => ?_)
      refine zV_aload_n 1 dX9_isRoused_61 rfl rfl ?_
      refine zV_getR (j := 40) (zq_110 hZ) zf_X9_0 zkf_X9_18 rfl dX9_isRoused_62 ?_
      refine zV_getR (j := 59) (zq_40 hZ) zf_X7_18 zkf_X9_80 rfl dX9_isRoused_65 ?_
      refine zV_bipush (v := 9) dX9_isRoused_68 rfl ?_
      obtain ⟨hg, h⟩ := zs_gd h
      refine zV_iald (zq_59 hZ) hg dX9_isRoused_70 (fun m9 => ?_)
      refine zV_icmp_gt 78 dX9_isRoused_71 (by decide) c6 m9 (fun hc_ => ?_) (fun hc_ => ?_)
      · replace h := zs_t h hc_
        refine zV_ls [1, 2, 3, 4] rfl ?_
        exact fX9_isRoused_j78_ok hZ hn hx1 hx2 hx3 h hc he hr
      · replace h := zs_f h hc_
        refine zV_iconst (v := 1) dX9_isRoused_74 rfl ?_
        refine zV_goto 79 dX9_isRoused_75 (by decide) ?_
        refine zV_ls [1, 2, 3, 4] rfl ?_
        exact fX9_isRoused_j79_ok hZ hn hx1 hx2 hx3 zi_1 (Or.inr rfl) h hc he hr
noncomputable def fX9_isRoused (x1 x2 : Int) (M : zMem) : Option (Int) :=
  (zbd (zit (fun s10 => fX9_isRoused_l2 x1 x2 s10 M) 0) fun e => zel e (fun s16 => some 0) (fun r => some r))
set_option maxRecDepth 100000 in
set_option maxHeartbeats 4000000 in
theorem fX9_isRoused_ok {Z : zZ} (hZ : zB Z) {nn : Nat} (hn : 2 ≤ nn)  {x1 x2 : Int} (hx1 : z32 x1) (hx2 : z32 x2) {M : zMem} {Q : Option zAV → zMem → zZ → Prop} (h : zSat (fX9_isRoused x1 x2 M) (fun r => Q (some (zI r)) M Z))  : zV zmX9_isRoused nn 0 0 Z 0 [(0, zR 110), (1, zI x1), (2, zI x2)] [] M Q := by
  unfold fX9_isRoused at h
  refine zV_iconst (v := 0) dX9_isRoused_0 rfl ?_
  refine zV_istore_n [(3, zI 0), (0, zR 110), (1, zI x1), (2, zI x2)] dX9_isRoused_1 rfl (by decide) rfl ?_
  refine zV_ls [1, 2, 3, 0] rfl ?_
  refine (zV_loop (Vh := fun s10 : Int => z32 s10 → zV zmX9_isRoused nn 0 0 Z 2 [(0, zR 110), (1, zI x1), (2, zI x2), (3, zI s10)] [] M Q) h (fun s10 P11 hP12 hc13 he14 => ?_)) zi_0
  intro c15
  refine fX9_isRoused_l2_ok hZ hn hx1 hx2 c15 hP12 hc13 (fun s16 h17 d18 => ?_) (fun r19 h20 => he14 _ h20)
  have h := he14 _ h17
  refine zV_iconst (v := 0) dX9_isRoused_102 rfl ?_
  exact zV_iretb dX9_isRoused_103 rfl (Or.inl rfl) h
noncomputable def fX9_ringingIn_j72 (x1 x2 x3 x4 s0 : Int) (M : zMem) : Option ((Int × Int) ⊕ (Int × Int)) :=
  (if s0 = 0 then some (.inl (x3, (zw (x4 + 1)))) else (zbd (fX9_isRoused x4 x2 M) fun r10 => (if r10 = 0 then some (.inl (x3, (zw (x4 + 1)))) else some (.inl ((zor x3 (zshl 1 x4)), (zw (x4 + 1)))))))
set_option maxRecDepth 100000 in
set_option maxHeartbeats 4000000 in
theorem fX9_ringingIn_j72_ok {Z : zZ} (hZ : zB Z) {nn : Nat} (hn : 6 ≤ nn)  {x1 x2 x3 x4 s0 : Int} (hx1 : z32 x1) (hx2 : z32 x2) (hx3 : z32 x3) (hx4 : z32 x4) (hs0 : z32 s0) (hbs0 : s0 = 0 ∨ s0 = 1) {M : zMem} {Q : Option zAV → zMem → zZ → Prop} {P : (Int × Int) ⊕ (Int × Int) → Prop} (h : zSat (fX9_ringingIn_j72 x1 x2 x3 x4 s0 M) P)  (hc : ∀ s : Int × Int, P (.inl s) → z32 (s.1) → z32 (s.2) → zV zmX9_ringingIn nn 0 0 Z 17 [(0, zR 110), (1, zI x1), (2, zI x2), (3, zI (s.1)), (4, zI (s.2))] [] M Q) (he : ∀ s : Int × Int, P (.inr s) → z32 (s.1) → z32 (s.2) → zV zmX9_ringingIn nn 0 0 Z 102 [(0, zR 110), (1, zI x1), (2, zI x2), (3, zI (s.1)), (4, zI (s.2))] [] M Q)   : zV zmX9_ringingIn nn 0 0 Z 72 [(0, zR 110), (1, zI x1), (2, zI x2), (3, zI x3), (4, zI x4)] [zI s0] M Q := by
  unfold fX9_ringingIn_j72 at h
  refine zV_istore [(5, zI s0), (0, zR 110), (1, zI x1), (2, zI x2), (3, zI x3), (4, zI x4)] dX9_ringingIn_72 (by decide) rfl ?_
  refine zV_iload 0 dX9_ringingIn_74 rfl ?_
  refine zV_if_eq 96 dX9_ringingIn_76 (by decide) hs0 (fun hc_ => ?_) (fun hc_ => ?_)
  · replace h := zs_t h hc_
    refine zV_iinc 5 [(4, zI (zw (x4 + 1))), (5, zI s0), (0, zR 110), (1, zI x1), (2, zI x2), (3, zI x3)] dX9_ringingIn_96 rfl rfl (by decide) rfl ?_
    refine zV_goto 17 dX9_ringingIn_99 (by decide) ?_
    refine zV_ls [2, 3, 4, 5, 0] rfl ?_
    exact hc _ h hx3 (z32_w _)
  · replace h := zs_f h hc_
    refine zV_aload_n 1 dX9_ringingIn_79 rfl rfl ?_
    refine zV_iload 5 dX9_ringingIn_80 rfl ?_
    refine zV_iload_n 3 dX9_ringingIn_82 rfl rfl ?_
    refine zV_cVI (y' := zmX9_isRoused) (n' := 2) (As := [zI x4, zI x2]) zc_X9_153 (zq_110 hZ) rfl dX9_ringingIn_83 (Nat.le_trans (by decide) hn) rfl (Nat.le_of_ble_eq_true rfl) (Nat.le_of_ble_eq_true rfl) rfl h (fun Q' h' => fX9_isRoused_ok hZ (Nat.le_refl _) hx4 hx2 h') (fun r10 c11 b12 h => ?_)
    refine zV_if_eq 96 dX9_ringingIn_86 (by decide) c11 (fun hc_ => ?_) (fun hc_ => ?_)
    · replace h := zs_t h hc_
      refine zV_iinc 5 [(4, zI (zw (x4 + 1))), (5, zI s0), (0, zR 110), (1, zI x1), (2, zI x2), (3, zI x3)] dX9_ringingIn_96 rfl rfl (by decide) rfl ?_
      refine zV_goto 17 dX9_ringingIn_99 (by decide) ?_
      refine zV_ls [2, 3, 4, 5, 0] rfl ?_
      exact hc _ h hx3 (z32_w _)
    · replace h := zs_f h hc_
      refine zV_iload_n 4 dX9_ringingIn_89 rfl rfl ?_
      refine zV_iconst (v := 1) dX9_ringingIn_90 rfl ?_
      refine zV_iload 5 dX9_ringingIn_91 rfl ?_
      refine zV_ishl dX9_ringingIn_93 ?_
      refine zV_ior dX9_ringingIn_94 ?_
      refine zV_istore_n [(3, zI (zor x3 (zshl 1 x4))), (5, zI s0), (0, zR 110), (1, zI x1), (2, zI x2), (4, zI x4)] dX9_ringingIn_95 rfl (by decide) rfl ?_
      refine zV_iinc 5 [(4, zI (zw (x4 + 1))), (3, zI (zor x3 (zshl 1 x4))), (5, zI s0), (0, zR 110), (1, zI x1), (2, zI x2)] dX9_ringingIn_96 rfl rfl (by decide) rfl ?_
      refine zV_goto 17 dX9_ringingIn_99 (by decide) ?_
      refine zV_ls [3, 4, 5, 1, 0] rfl ?_
      exact hc _ h (z32_i _) (z32_w _)
noncomputable def fX9_ringingIn_j71 (x1 x2 x3 x4 : Int) (M : zMem) : Option ((Int × Int) ⊕ (Int × Int)) :=
  fX9_ringingIn_j72 x1 x2 x3 x4 0 M
set_option maxRecDepth 100000 in
set_option maxHeartbeats 4000000 in
theorem fX9_ringingIn_j71_ok {Z : zZ} (hZ : zB Z) {nn : Nat} (hn : 6 ≤ nn)  {x1 x2 x3 x4 : Int} (hx1 : z32 x1) (hx2 : z32 x2) (hx3 : z32 x3) (hx4 : z32 x4) {M : zMem} {Q : Option zAV → zMem → zZ → Prop} {P : (Int × Int) ⊕ (Int × Int) → Prop} (h : zSat (fX9_ringingIn_j71 x1 x2 x3 x4 M) P)  (hc : ∀ s : Int × Int, P (.inl s) → z32 (s.1) → z32 (s.2) → zV zmX9_ringingIn nn 0 0 Z 17 [(0, zR 110), (1, zI x1), (2, zI x2), (3, zI (s.1)), (4, zI (s.2))] [] M Q) (he : ∀ s : Int × Int, P (.inr s) → z32 (s.1) → z32 (s.2) → zV zmX9_ringingIn nn 0 0 Z 102 [(0, zR 110), (1, zI x1), (2, zI x2), (3, zI (s.1)), (4, zI (s.2))] [] M Q)   : zV zmX9_ringingIn nn 0 0 Z 71 [(0, zR 110), (1, zI x1), (2, zI x2), (3, zI x3), (4, zI x4)] [] M Q := by
  unfold fX9_ringingIn_j71 at h
  refine zV_iconst (v := 0) dX9_ringingIn_71 rfl ?_
  exact fX9_ringingIn_j72_ok hZ hn hx1 hx2 hx3 hx4 zi_0 (Or.inl rfl) h hc he
noncomputable def fX9_ringingIn_l17 (x1 x2 x3 x4 : Int) (M : zMem) : Option ((Int × Int) ⊕ (Int × Int)) :=
  (if (M 40 0) ≤ x4 then some (.inr (x3, x4)) else (zbd (fX7_hasPlace 40 x4 M) fun r6 => (if r6 = 0 then fX9_ringingIn_j71 x1 x2 x3 x4 M else (zbd (fX5_pressOn 80 x4 x1 M) fun r14 => (if r14 = 0 then (zbd (fX10_isCracked x4 x1 M) fun r18 => (if r18 = 0 then fX9_ringingIn_j72 x1 x2 x3 x4 1 M else fX9_ringingIn_j71 x1 x2 x3 x4 M)) else fX9_ringingIn_j71 x1 x2 x3 x4 M)))))
set_option maxRecDepth 100000 in
set_option maxHeartbeats 4000000 in
theorem fX9_ringingIn_l17_ok {Z : zZ} (hZ : zB Z) {nn : Nat} (hn : 6 ≤ nn)  {x1 x2 x3 x4 : Int} (hx1 : z32 x1) (hx2 : z32 x2) (hx3 : z32 x3) (hx4 : z32 x4) {M : zMem} {Q : Option zAV → zMem → zZ → Prop} {P : (Int × Int) ⊕ (Int × Int) → Prop} (h : zSat (fX9_ringingIn_l17 x1 x2 x3 x4 M) P)  (hc : ∀ s : Int × Int, P (.inl s) → z32 (s.1) → z32 (s.2) → zV zmX9_ringingIn nn 0 0 Z 17 [(0, zR 110), (1, zI x1), (2, zI x2), (3, zI (s.1)), (4, zI (s.2))] [] M Q) (he : ∀ s : Int × Int, P (.inr s) → z32 (s.1) → z32 (s.2) → zV zmX9_ringingIn nn 0 0 Z 102 [(0, zR 110), (1, zI x1), (2, zI x2), (3, zI (s.1)), (4, zI (s.2))] [] M Q)   : zV zmX9_ringingIn nn 0 0 Z 17 [(0, zR 110), (1, zI x1), (2, zI x2), (3, zI x3), (4, zI x4)] [] M Q := by
  unfold fX9_ringingIn_l17 at h
  refine zV_iload 4 dX9_ringingIn_17 rfl ?_
  refine zV_aload_n 0 dX9_ringingIn_19 rfl rfl ?_
  refine zV_getR (j := 40) (zq_110 hZ) zf_X9_0 zkf_X9_18 rfl dX9_ringingIn_20 ?_
  refine zV_getI (zq_40 hZ) zf_X7_0 zkf_X9_143 rfl dX9_ringingIn_23 (fun m5 => ?_)
  refine zV_icmp_ge 102 dX9_ringingIn_26 (by decide) hx4 m5 (fun hc_ => ?_) (fun hc_ => ?_)
  · replace h := zs_t h hc_
    exact he _ h hx3 hx4
  · replace h := zs_f h hc_
    refine zV_aload_n 0 dX9_ringingIn_29 rfl rfl ?_
    refine zV_getR (j := 40) (zq_110 hZ) zf_X9_0 zkf_X9_18 rfl dX9_ringingIn_30 ?_
    refine zV_iload 4 dX9_ringingIn_33 rfl ?_
    refine zV_cVI (y' := zmX7_hasPlace) (n' := 1) (As := [zI x4]) zc_X9_146 (zq_40 hZ) rfl dX9_ringingIn_35 (Nat.le_trans (by decide) hn) rfl (Nat.le_of_ble_eq_true rfl) (Nat.le_of_ble_eq_true rfl) rfl h (fun Q' h' => fX7_hasPlace_ok hZ (Nat.le_refl _) (zqsu_40 hZ) (by decide) hx4 h') (fun r6 c7 b8 h => ?_)
    refine zV_if_eq 71 dX9_ringingIn_38 (by decide) c7 (fun hc_ => ?_) (fun hc_ => ?_)
    · replace h := zs_t h hc_
      exact fX9_ringingIn_j71_ok hZ hn hx1 hx2 hx3 hx4 h hc he
    · replace h := zs_f h hc_
      refine zV_aload_n 0 dX9_ringingIn_41 rfl rfl ?_
      refine zV_getR (j := 80) (zq_110 hZ) zf_X9_1 zkf_X9_22 rfl dX9_ringingIn_42 ?_
      refine zV_iload 4 dX9_ringingIn_45 rfl ?_
      refine zV_iload_n 1 dX9_ringingIn_47 rfl rfl ?_
      refine zV_cVI (y' := zmX5_pressOn) (n' := 2) (As := [zI x4, zI x1]) zc_X9_150 (zq_80 hZ) rfl dX9_ringingIn_48 (Nat.le_trans (by decide) hn) rfl (Nat.le_of_ble_eq_true rfl) (Nat.le_of_ble_eq_true rfl) rfl h (fun Q' h' => fX5_pressOn_ok hZ (Nat.le_refl _) (zqpi_80 hZ) (by decide) hx4 hx1 h') (fun r14 c15 b16 h => ?_)
      refine zV_if_ne 71 dX9_ringingIn_51 (by decide) c15 (fun hc_ => ?_) (fun hc_ => ?_)
      · replace h := zs_f h hc_
        exact fX9_ringingIn_j71_ok hZ hn hx1 hx2 hx3 hx4 h hc he
      · replace h := zs_t h hc_
        refine zV_aload_n 0 dX9_ringingIn_54 rfl rfl ?_
        refine zV_getR (j := 90) (zq_110 hZ) zf_X9_2 zkf_X9_26 rfl dX9_ringingIn_55 ?_
        refine zV_iload 4 dX9_ringingIn_58 rfl ?_
        refine zV_iload_n 1 dX9_ringingIn_60 rfl rfl ?_
        refine zV_cVI (y' := zmX10_isCracked) (n' := 0) (As := [zI x4, zI x1]) zc_X9_88 (zq_90 hZ) rfl dX9_ringingIn_61 (Nat.le_trans (by decide) hn) rfl (Nat.le_of_ble_eq_true rfl) (Nat.le_of_ble_eq_true rfl) rfl h (fun Q' h' => fX10_isCracked_ok hZ (Nat.le_refl _) hx4 hx1 h') (fun r18 c19 b20 h => ?_)
        refine zV_if_ne 71 dX9_ringingIn_64 (by decide) c19 (fun hc_ => ?_) (fun hc_ => ?_)
        · replace h := zs_f h hc_
          exact fX9_ringingIn_j71_ok hZ hn hx1 hx2 hx3 hx4 h hc he
        · replace h := zs_t h hc_
          refine zV_iconst (v := 1) dX9_ringingIn_67 rfl ?_
          refine zV_goto 72 dX9_ringingIn_68 (by decide) ?_
          exact fX9_ringingIn_j72_ok hZ hn hx1 hx2 hx3 hx4 zi_1 (Or.inr rfl) h hc he
noncomputable def fX9_ringingIn (x1 : Int) (M : zMem) : Option (Int × zMem) :=
  (zbd2 (fX9_speakingIn x1 M) fun r1 M4 => (if r1 = 0 then some (0, M4) else (zbd (zit (fun s22 => fX9_ringingIn_l17 x1 r1 (s22.1) (s22.2) M4) (0, 0)) fun s29 => some (s29.1, M4))))
set_option maxRecDepth 100000 in
set_option maxHeartbeats 4000000 in
theorem fX9_ringingIn_ok {Z : zZ} (hZ : zB Z) {nn : Nat} (hn : 6 ≤ nn)  {x1 : Int} (hx1 : z32 x1) {M : zMem} {Q : Option zAV → zMem → zZ → Prop} (h : zSat (fX9_ringingIn x1 M) (fun r => Q (some (zI r.1)) r.2 Z))  : zV zmX9_ringingIn nn 0 0 Z 0 [(0, zR 110), (1, zI x1)] [] M Q := by
  unfold fX9_ringingIn at h
  refine zV_aload_n 0 dX9_ringingIn_0 rfl rfl ?_
  refine zV_iload_n 1 dX9_ringingIn_1 rfl rfl ?_
  refine zV_cVIm (y' := zmX9_speakingIn) (n' := 5) (As := [zI x1]) zc_X9_140 (zq_110 hZ) rfl dX9_ringingIn_2 (Nat.le_trans (by decide) hn) rfl (Nat.le_of_ble_eq_true rfl) (Nat.le_of_ble_eq_true rfl) rfl h (fun Q' h' => fX9_speakingIn_ok hZ (Nat.le_refl _) hx1 h') (fun r1 M4 c2 b3 h => ?_)
  refine zV_istore_n [(2, zI r1), (0, zR 110), (1, zI x1)] dX9_ringingIn_5 rfl (by decide) rfl ?_
  refine zV_iload_n 0 dX9_ringingIn_6 rfl rfl ?_
  refine zV_if_ne 12 dX9_ringingIn_7 (by decide) c2 (fun hc_ => ?_) (fun hc_ => ?_)
  · replace h := zs_f h hc_
    refine zV_iconst (v := 0) dX9_ringingIn_12 rfl ?_
    refine zV_istore_n [(3, zI 0), (2, zI r1), (0, zR 110), (1, zI x1)] dX9_ringingIn_13 rfl (by decide) rfl ?_
    refine zV_iconst (v := 0) dX9_ringingIn_14 rfl ?_
    refine zV_istore [(4, zI 0), (3, zI 0), (2, zI r1), (0, zR 110), (1, zI x1)] dX9_ringingIn_15 (by decide) rfl ?_
    refine zV_ls [3, 4, 2, 1, 0] rfl ?_
    refine (zV_loop (Vh := fun s22 : Int × Int => z32 (s22.1) → z32 (s22.2) → zV zmX9_ringingIn nn 0 0 Z 17 [(0, zR 110), (1, zI x1), (2, zI r1), (3, zI (s22.1)), (4, zI (s22.2))] [] M4 Q) h (fun s22 P23 hP24 hc25 he26 => ?_)) zi_0 zi_0
    intro c27 c28
    refine fX9_ringingIn_l17_ok hZ hn hx1 c2 c27 c28 hP24 hc25 (fun s29 h30 d31 d32 => ?_)
    have h := he26 _ h30
    refine zV_iload_n 3 dX9_ringingIn_102 rfl rfl ?_
    exact zV_ireti dX9_ringingIn_103 rfl d31 h
  · replace h := zs_t h hc_
    refine zV_iconst (v := 0) dX9_ringingIn_10 rfl ?_
    exact zV_ireti dX9_ringingIn_11 rfl zi_0 h
noncomputable def fX9_silentFrom_l2 (x2 : Int) (M : zMem) : Option ((Int × zMem) ⊕ ((Int × zMem) ⊕ (Int × zMem))) :=
  (if 200 ≤ x2 then some (.inr (.inl (x2, M))) else (zbd (fX5_firstIn 80 x2 M) fun r1 => (if r1 = (-1) then some (.inl ((zw (x2 + 1)), M)) else (zbd2 (fX9_speakingIn x2 M) fun r5 M8 => (if r5 = 0 then some (.inr (.inr (x2, M8))) else some (.inl ((zw (x2 + 1)), M8)))))))
set_option maxRecDepth 100000 in
set_option maxHeartbeats 4000000 in
theorem fX9_silentFrom_l2_ok {Z : zZ} (hZ : zB Z) {nn : Nat} (hn : 6 ≤ nn)  {x2 : Int} (hx2 : z32 x2) {M : zMem} {Q : Option zAV → zMem → zZ → Prop} {P : (Int × zMem) ⊕ ((Int × zMem) ⊕ (Int × zMem)) → Prop} (h : zSat (fX9_silentFrom_l2 x2 M) P)  (hc : ∀ s : Int × zMem, P (.inl s) → z32 (s.1) → zV zmX9_silentFrom nn 0 0 Z 2 [(0, zR 110), (2, zI (s.1))] [] (s.2) Q) (he : ∀ s : Int × zMem, P (.inr (.inl s)) → z32 (s.1) → zV zmX9_silentFrom nn 0 0 Z 37 [(0, zR 110), (2, zI (s.1))] [] (s.2) Q) (hr : ∀ r : Int × zMem, P (.inr (.inr r)) → (fun r => Q (some (zI r.1)) r.2 Z) r)  : zV zmX9_silentFrom nn 0 0 Z 2 [(0, zR 110), (2, zI x2)] [] M Q := by
  unfold fX9_silentFrom_l2 at h
  refine zV_iload_n 1 dX9_silentFrom_2 rfl rfl ?_
  refine zV_sipush (v := 200) dX9_silentFrom_3 rfl ?_
  refine zV_icmp_ge 37 dX9_silentFrom_6 (by decide) hx2 zi_200 (fun hc_ => ?_) (fun hc_ => ?_)
  · replace h := zs_t h hc_
    exact he _ h hx2
  · replace h := zs_f h hc_
    refine zV_aload_n 0 dX9_silentFrom_9 rfl rfl ?_
    refine zV_getR (j := 80) (zq_110 hZ) zf_X9_1 zkf_X9_22 rfl dX9_silentFrom_10 ?_
    refine zV_iload_n 1 dX9_silentFrom_13 rfl rfl ?_
    refine zV_cVI (y' := zmX5_firstIn) (n' := 2) (As := [zI x2]) zc_X9_165 (zq_80 hZ) rfl dX9_silentFrom_14 (Nat.le_trans (by decide) hn) rfl (Nat.le_of_ble_eq_true rfl) (Nat.le_of_ble_eq_true rfl) rfl h (fun Q' h' => fX5_firstIn_ok hZ (Nat.le_refl _) (zqpi_80 hZ) (by decide) hx2 h') (fun r1 c2 b3 h => ?_)
    refine zV_iconst (v := (-1)) dX9_silentFrom_17 rfl ?_
    refine zV_icmp_eq 31 dX9_silentFrom_18 (by decide) c2 zi_n1 (fun hc_ => ?_) (fun hc_ => ?_)
    · replace h := zs_t h hc_
      refine zV_iinc 1 [(2, zI (zw (x2 + 1))), (0, zR 110)] dX9_silentFrom_31 rfl rfl (by decide) rfl ?_
      refine zV_goto 2 dX9_silentFrom_34 (by decide) ?_
      refine zV_ls [1, 0] rfl ?_
      exact hc _ h (z32_w _)
    · replace h := zs_f h hc_
      refine zV_aload_n 0 dX9_silentFrom_21 rfl rfl ?_
      refine zV_iload_n 1 dX9_silentFrom_22 rfl rfl ?_
      refine zV_cVIm (y' := zmX9_speakingIn) (n' := 5) (As := [zI x2]) zc_X9_140 (zq_110 hZ) rfl dX9_silentFrom_23 (Nat.le_trans (by decide) hn) rfl (Nat.le_of_ble_eq_true rfl) (Nat.le_of_ble_eq_true rfl) rfl h (fun Q' h' => fX9_speakingIn_ok hZ (Nat.le_refl _) hx2 h') (fun r5 M8 c6 b7 h => ?_)
      refine zV_if_ne 31 dX9_silentFrom_26 (by decide) c6 (fun hc_ => ?_) (fun hc_ => ?_)
      · replace h := zs_f h hc_
        refine zV_iinc 1 [(2, zI (zw (x2 + 1))), (0, zR 110)] dX9_silentFrom_31 rfl rfl (by decide) rfl ?_
        refine zV_goto 2 dX9_silentFrom_34 (by decide) ?_
        refine zV_ls [1, 0] rfl ?_
        exact hc _ h (z32_w _)
      · replace h := zs_t h hc_
        refine zV_iload_n 1 dX9_silentFrom_29 rfl rfl ?_
        exact zV_ireti dX9_silentFrom_30 rfl hx2 (hr _ h)
noncomputable def fX9_silentFrom (x1 : Int) (M : zMem) : Option (Int × zMem) :=
  (zbd (zit (fun s9 => fX9_silentFrom_l2 (s9.1) (s9.2)) (x1, M)) fun e => zel e (fun s15 => some ((-1), s15.2)) (fun r => some r))
set_option maxRecDepth 100000 in
set_option maxHeartbeats 4000000 in
theorem fX9_silentFrom_ok {Z : zZ} (hZ : zB Z) {nn : Nat} (hn : 6 ≤ nn)  {x1 : Int} (hx1 : z32 x1) {M : zMem} {Q : Option zAV → zMem → zZ → Prop} (h : zSat (fX9_silentFrom x1 M) (fun r => Q (some (zI r.1)) r.2 Z))  : zV zmX9_silentFrom nn 0 0 Z 0 [(0, zR 110), (1, zI x1)] [] M Q := by
  unfold fX9_silentFrom at h
  refine zV_iload_n 1 dX9_silentFrom_0 rfl rfl ?_
  refine zV_istore_n [(2, zI x1), (0, zR 110), (1, zI x1)] dX9_silentFrom_1 rfl (by decide) rfl ?_
  refine zV_ls [1, 0] rfl ?_
  refine (zV_loop (Vh := fun s9 : Int × zMem => z32 (s9.1) → zV zmX9_silentFrom nn 0 0 Z 2 [(0, zR 110), (2, zI (s9.1))] [] (s9.2) Q) h (fun s9 P10 hP11 hc12 he13 => ?_)) hx1
  intro c14
  refine fX9_silentFrom_l2_ok hZ hn c14 hP11 hc12 (fun s15 h16 d17 => ?_) (fun r18 h19 => he13 _ h19)
  have h := he13 _ h16
  refine zV_iconst (v := (-1)) dX9_silentFrom_37 rfl ?_
  exact zV_ireti dX9_silentFrom_38 rfl zi_n1 h
noncomputable def fX9_speaksAt_j31 (x4 : Int) (M : zMem) : Option (Int × zMem) :=
  (if x4 = 0 then some (1, M) else some (0, M))
set_option maxRecDepth 100000 in
set_option maxHeartbeats 4000000 in
theorem fX9_speaksAt_j31_ok {Z : zZ} (hZ : zB Z) {nn : Nat} (hn : 5 ≤ nn)  {x4 : Int} (hx4 : z32 x4) {M : zMem} {Q : Option zAV → zMem → zZ → Prop} (h : zSat (fX9_speaksAt_j31 x4 M) (fun r => Q (some (zI r.1)) r.2 Z))  : zV zmX9_speaksAt nn 0 0 Z 31 [(4, zI x4)] [] M Q := by
  unfold fX9_speaksAt_j31 at h
  refine zV_iload 0 dX9_speaksAt_31 rfl ?_
  refine zV_if_ne 40 dX9_speaksAt_33 (by decide) hx4 (fun hc_ => ?_) (fun hc_ => ?_)
  · replace h := zs_f h hc_
    refine zV_iconst (v := 0) dX9_speaksAt_40 rfl ?_
    exact zV_iretb dX9_speaksAt_41 rfl (Or.inl rfl) h
  · replace h := zs_t h hc_
    refine zV_iconst (v := 1) dX9_speaksAt_36 rfl ?_
    refine zV_goto 41 dX9_speaksAt_37 (by decide) ?_
    exact zV_iretb dX9_speaksAt_41 rfl (Or.inr rfl) h
noncomputable def fX9_speaksAt_j55 (x1 x2 x3 : Int) (M : zMem) : Option (Int × zMem) :=
  (zbd (fX9_tellLaw x1 x2 M) fun M10 => (zbd (fX9_speedOf x1 x3 M10) fun r12 => (zbd2 (fX3_allows (M10 40 14) r12 M10) fun r16 M19 => some (r16, M19))))
set_option maxRecDepth 100000 in
set_option maxHeartbeats 4000000 in
theorem fX9_speaksAt_j55_ok {Z : zZ} (hZ : zB Z) {nn : Nat} (hn : 5 ≤ nn)  {x1 x2 x3 : Int} (hx1 : z32 x1) (hx2 : z32 x2) (hx3 : z32 x3) {M : zMem} {Q : Option zAV → zMem → zZ → Prop} (h : zSat (fX9_speaksAt_j55 x1 x2 x3 M) (fun r => Q (some (zI r.1)) r.2 Z))  : zV zmX9_speaksAt nn 0 0 Z 55 [(0, zR 110), (1, zI x1), (2, zI x2), (3, zI x3)] [] M Q := by
  unfold fX9_speaksAt_j55 at h
  refine zV_aload_n 0 dX9_speaksAt_55 rfl rfl ?_
  refine zV_iload_n 1 dX9_speaksAt_56 rfl rfl ?_
  refine zV_iload_n 2 dX9_speaksAt_57 rfl rfl ?_
  refine zV_cVV (y' := zmX9_tellLaw) (n' := 1) (As := [zI x1, zI x2]) zc_X9_96 (zq_110 hZ) rfl dX9_speaksAt_58 (Nat.le_trans (by decide) hn) rfl (Nat.le_of_ble_eq_true rfl) (Nat.le_of_ble_eq_true rfl) rfl h (fun Q' h' => fX9_tellLaw_ok hZ (Nat.le_refl _) hx1 hx2 h') (fun M10 h => ?_)
  refine zV_aload_n 0 dX9_speaksAt_61 rfl rfl ?_
  refine zV_getR (j := 120) (zq_110 hZ) zf_X9_4 zkf_X9_39 rfl dX9_speaksAt_62 ?_
  refine zV_aload_n 0 dX9_speaksAt_65 rfl rfl ?_
  refine zV_getR (j := 40) (zq_110 hZ) zf_X9_0 zkf_X9_18 rfl dX9_speaksAt_66 ?_
  refine zV_getI (zq_40 hZ) zf_X7_14 zkf_X9_103 rfl dX9_speaksAt_69 (fun m11 => ?_)
  refine zV_aload_n 0 dX9_speaksAt_72 rfl rfl ?_
  refine zV_iload_n 1 dX9_speaksAt_73 rfl rfl ?_
  refine zV_iload_n 3 dX9_speaksAt_74 rfl rfl ?_
  refine zV_cVI (y' := zmX9_speedOf) (n' := 0) (As := [zI x1, zI x3]) zc_X9_100 (zq_110 hZ) rfl dX9_speaksAt_75 (Nat.le_trans (by decide) hn) rfl (Nat.le_of_ble_eq_true rfl) (Nat.le_of_ble_eq_true rfl) rfl h (fun Q' h' => fX9_speedOf_ok hZ (Nat.le_refl _) hx1 hx3 h') (fun r12 c13 b14 h => ?_)
  refine zV_cVIm (y' := zmX3_allows) (n' := 2) (As := [zI (M10 40 14), zI r12]) zc_X9_107 (zq_120 hZ) rfl dX9_speaksAt_78 (Nat.le_trans (by decide) hn) rfl (Nat.le_of_ble_eq_true rfl) (Nat.le_of_ble_eq_true rfl) rfl h (fun Q' h' => fX3_allows_ok hZ (Nat.le_refl _) m11 c13 h') (fun r16 M19 c17 b18 h => ?_)
  exact zV_iretb dX9_speaksAt_81 rfl (b18 rfl) h
noncomputable def fX9_speaksAt (x1 x2 x3 : Int) (M : zMem) : Option (Int × zMem) :=
  (zbd2 (fX9_reasonKept x1 x2 M) fun r1 M4 => (if (M4 40 14) = 0 then fX9_speaksAt_j31 r1 M4 else (zgd ((0 : Int) ≤ (0 : Int) ∧ (0 : Int) < 11) (if x3 = (M4 59 0) then fX9_speaksAt_j31 r1 M4 else (if r1 = 0 then fX9_speaksAt_j55 x1 x2 x3 M4 else (if r1 = 4 then fX9_speaksAt_j55 x1 x2 x3 M4 else some (0, M4)))))))
set_option maxRecDepth 100000 in
set_option maxHeartbeats 4000000 in
theorem fX9_speaksAt_ok {Z : zZ} (hZ : zB Z) {nn : Nat} (hn : 5 ≤ nn)  {x1 x2 x3 : Int} (hx1 : z32 x1) (hx2 : z32 x2) (hx3 : z32 x3) {M : zMem} {Q : Option zAV → zMem → zZ → Prop} (h : zSat (fX9_speaksAt x1 x2 x3 M) (fun r => Q (some (zI r.1)) r.2 Z))  : zV zmX9_speaksAt nn 0 0 Z 0 [(0, zR 110), (1, zI x1), (2, zI x2), (3, zI x3)] [] M Q := by
  unfold fX9_speaksAt at h
  refine zV_aload_n 0 dX9_speaksAt_0 rfl rfl ?_
  refine zV_iload_n 1 dX9_speaksAt_1 rfl rfl ?_
  refine zV_iload_n 2 dX9_speaksAt_2 rfl rfl ?_
  refine zV_cVIm (y' := zmX9_reasonKept) (n' := 4) (As := [zI x1, zI x2]) zc_X9_58 (zq_110 hZ) rfl dX9_speaksAt_3 (Nat.le_trans (by decide) hn) rfl (Nat.le_of_ble_eq_true rfl) (Nat.le_of_ble_eq_true rfl) rfl h (fun Q' h' => fX9_reasonKept_ok hZ (Nat.le_refl _) hx1 hx2 h') (fun r1 M4 c2 b3 h => ?_)
  refine zV_istore [(4, zI r1), (0, zR 110), (1, zI x1), (2, zI x2), (3, zI x3)] dX9_speaksAt_6 (by decide) rfl ?_
  refine zV_aload_n 1 dX9_speaksAt_8 rfl rfl ?_
  refine zV_getR (j := 40) (zq_110 hZ) zf_X9_0 zkf_X9_18 rfl dX9_speaksAt_9 ?_
  refine zV_getI (zq_40 hZ) zf_X7_14 zkf_X9_103 rfl dX9_speaksAt_12 (fun m5 => ?_)
  refine zV_if_eq 31 dX9_speaksAt_15 (by decide) m5 (fun hc_ => ?_) (fun hc_ => ?_)
  · replace h := zs_t h hc_
    refine zV_ls [0] rfl ?_
    exact fX9_speaksAt_j31_ok hZ hn c2 h
  · replace h := zs_f h hc_
    refine zV_iload_n 4 dX9_speaksAt_18 rfl rfl ?_
    refine zV_aload_n 1 dX9_speaksAt_19 rfl rfl ?_
    refine zV_getR (j := 40) (zq_110 hZ) zf_X9_0 zkf_X9_18 rfl dX9_speaksAt_20 ?_
    refine zV_getR (j := 59) (zq_40 hZ) zf_X7_18 zkf_X9_80 rfl dX9_speaksAt_23 ?_
    refine zV_iconst (v := 0) dX9_speaksAt_26 rfl ?_
    obtain ⟨hg, h⟩ := zs_gd h
    refine zV_iald (zq_59 hZ) hg dX9_speaksAt_27 (fun m6 => ?_)
    refine zV_icmp_ne 42 dX9_speaksAt_28 (by decide) hx3 m6 (fun hc_ => ?_) (fun hc_ => ?_)
    · replace h := zs_f h hc_
      refine zV_iload 0 dX9_speaksAt_42 rfl ?_
      refine zV_if_eq 55 dX9_speaksAt_44 (by decide) c2 (fun hc_ => ?_) (fun hc_ => ?_)
      · replace h := zs_t h hc_
        refine zV_ls [1, 2, 3, 4] rfl ?_
        exact fX9_speaksAt_j55_ok hZ hn hx1 hx2 hx3 h
      · replace h := zs_f h hc_
        refine zV_iload 0 dX9_speaksAt_47 rfl ?_
        refine zV_iconst (v := 4) dX9_speaksAt_49 rfl ?_
        refine zV_icmp_eq 55 dX9_speaksAt_50 (by decide) c2 zi_4 (fun hc_ => ?_) (fun hc_ => ?_)
        · replace h := zs_t h hc_
          refine zV_ls [1, 2, 3, 4] rfl ?_
          exact fX9_speaksAt_j55_ok hZ hn hx1 hx2 hx3 h
        · replace h := zs_f h hc_
          refine zV_iconst (v := 0) dX9_speaksAt_53 rfl ?_
          exact zV_iretb dX9_speaksAt_54 rfl (Or.inl rfl) h
    · replace h := zs_t h hc_
      refine zV_ls [0] rfl ?_
      exact fX9_speaksAt_j31_ok hZ hn c2 h
noncomputable def fX9_spokenAt_j91 (x1 : Int) (M : zMem) : Option (Int × zMem) :=
  (zgd ((0 : Int) ≤ x1 ∧ x1 < 100) (some ((M 117 x1), M)))
set_option maxRecDepth 100000 in
set_option maxHeartbeats 4000000 in
theorem fX9_spokenAt_j91_ok {Z : zZ} (hZ : zB Z) {nn : Nat} (hn : 6 ≤ nn)  {x1 : Int} (hx1 : z32 x1) {M : zMem} {Q : Option zAV → zMem → zZ → Prop} (h : zSat (fX9_spokenAt_j91 x1 M) (fun r => Q (some (zI r.1)) r.2 Z))  : zV zmX9_spokenAt nn 0 0 Z 91 [(0, zR 110), (1, zI x1)] [] M Q := by
  unfold fX9_spokenAt_j91 at h
  refine zV_aload_n 0 dX9_spokenAt_91 rfl rfl ?_
  refine zV_getR (j := 117) (zq_110 hZ) zf_X9_6 zkf_X9_15 rfl dX9_spokenAt_92 ?_
  refine zV_iload_n 1 dX9_spokenAt_95 rfl rfl ?_
  obtain ⟨hg, h⟩ := zs_gd h
  refine zV_iald (zq_117 hZ) hg dX9_spokenAt_96 (fun m6 => ?_)
  exact zV_ireti dX9_spokenAt_97 rfl m6 h
noncomputable def fX9_spokenAt_j70 (x1 x2 x3 x4 s0 s1 : Int) (M : zMem) : Option ((Int × Int × zMem) ⊕ (Int × Int × zMem)) :=
  some (.inl ((zw (s1 + s0)), (zw (x4 + 1)), M))
set_option maxRecDepth 100000 in
set_option maxHeartbeats 4000000 in
theorem fX9_spokenAt_j70_ok {Z : zZ} (hZ : zB Z) {nn : Nat} (hn : 6 ≤ nn)  {x1 x2 x3 x4 s0 s1 : Int} (hx1 : z32 x1) (hx2 : z32 x2) (hx3 : z32 x3) (hx4 : z32 x4) (hs0 : z32 s0) (hbs0 : s0 = 0 ∨ s0 = 1) (hs1 : z32 s1) {M : zMem} {Q : Option zAV → zMem → zZ → Prop} {P : (Int × Int × zMem) ⊕ (Int × Int × zMem) → Prop} (h : zSat (fX9_spokenAt_j70 x1 x2 x3 x4 s0 s1 M) P)  (hc : ∀ s : Int × Int × zMem, P (.inl s) → z32 (s.1) → z32 (s.2.1) → zV zmX9_spokenAt nn 0 0 Z 40 [(0, zR 110), (1, zI x1), (2, zI (s.1)), (3, zI x3), (4, zI (s.2.1))] [] (s.2.2) Q) (he : ∀ s : Int × Int × zMem, P (.inr s) → z32 (s.1) → z32 (s.2.1) → zV zmX9_spokenAt nn 0 0 Z 78 [(0, zR 110), (1, zI x1), (2, zI (s.1)), (3, zI x3), (4, zI (s.2.1))] [] (s.2.2) Q)   : zV zmX9_spokenAt nn 0 0 Z 70 [(0, zR 110), (1, zI x1), (2, zI x2), (3, zI x3), (4, zI x4)] [zI s0, zI s1] M Q := by
  unfold fX9_spokenAt_j70 at h
  refine zV_iadd dX9_spokenAt_70 ?_
  refine zV_w ?_
  refine zV_istore_n [(2, zI (zw (s1 + s0))), (0, zR 110), (1, zI x1), (3, zI x3), (4, zI x4)] dX9_spokenAt_71 rfl (by decide) rfl ?_
  refine zV_iinc 4 [(4, zI (zw (x4 + 1))), (2, zI (zw (s1 + s0))), (0, zR 110), (1, zI x1), (3, zI x3)] dX9_spokenAt_72 rfl rfl (by decide) rfl ?_
  refine zV_goto 40 dX9_spokenAt_75 (by decide) ?_
  refine zV_ls [2, 3, 1, 4, 0] rfl ?_
  exact hc _ h (z32_w _) (z32_w _)
noncomputable def fX9_spokenAt_l40 (x1 x3 x2 x4 : Int) (M : zMem) : Option ((Int × Int × zMem) ⊕ (Int × Int × zMem)) :=
  (zbd (fX5_endOf 80 x3 M) fun r9 => (if r9 ≤ x4 then some (.inr (x2, x4, M)) else (zbd2 (fX9_speaksAt x3 x4 x1 M) fun r13 M16 => (if r13 = 0 then fX9_spokenAt_j70 x1 x2 x3 x4 0 x2 M16 else fX9_spokenAt_j70 x1 x2 x3 x4 1 x2 M16))))
set_option maxRecDepth 100000 in
set_option maxHeartbeats 4000000 in
theorem fX9_spokenAt_l40_ok {Z : zZ} (hZ : zB Z) {nn : Nat} (hn : 6 ≤ nn)  {x1 x3 x2 x4 : Int} (hx1 : z32 x1) (hx3 : z32 x3) (hx2 : z32 x2) (hx4 : z32 x4) {M : zMem} {Q : Option zAV → zMem → zZ → Prop} {P : (Int × Int × zMem) ⊕ (Int × Int × zMem) → Prop} (h : zSat (fX9_spokenAt_l40 x1 x3 x2 x4 M) P)  (hc : ∀ s : Int × Int × zMem, P (.inl s) → z32 (s.1) → z32 (s.2.1) → zV zmX9_spokenAt nn 0 0 Z 40 [(0, zR 110), (1, zI x1), (2, zI (s.1)), (3, zI x3), (4, zI (s.2.1))] [] (s.2.2) Q) (he : ∀ s : Int × Int × zMem, P (.inr s) → z32 (s.1) → z32 (s.2.1) → zV zmX9_spokenAt nn 0 0 Z 78 [(0, zR 110), (1, zI x1), (2, zI (s.1)), (3, zI x3), (4, zI (s.2.1))] [] (s.2.2) Q)   : zV zmX9_spokenAt nn 0 0 Z 40 [(0, zR 110), (1, zI x1), (2, zI x2), (3, zI x3), (4, zI x4)] [] M Q := by
  unfold fX9_spokenAt_l40 at h
  refine zV_iload 4 dX9_spokenAt_40 rfl ?_
  refine zV_aload_n 0 dX9_spokenAt_42 rfl rfl ?_
  refine zV_getR (j := 80) (zq_110 hZ) zf_X9_1 zkf_X9_22 rfl dX9_spokenAt_43 ?_
  refine zV_iload_n 3 dX9_spokenAt_46 rfl rfl ?_
  refine zV_cVI (y' := zmX5_endOf) (n' := 0) (As := [zI x3]) zc_X9_129 (zq_80 hZ) rfl dX9_spokenAt_47 (Nat.le_trans (by decide) hn) rfl (Nat.le_of_ble_eq_true rfl) (Nat.le_of_ble_eq_true rfl) rfl h (fun Q' h' => fX5_endOf_ok hZ (Nat.le_refl _) (zqpi_80 hZ) (by decide) hx3 h') (fun r9 c10 b11 h => ?_)
  refine zV_icmp_ge 78 dX9_spokenAt_50 (by decide) hx4 c10 (fun hc_ => ?_) (fun hc_ => ?_)
  · replace h := zs_t h hc_
    exact he _ h hx2 hx4
  · replace h := zs_f h hc_
    refine zV_iload_n 2 dX9_spokenAt_53 rfl rfl ?_
    refine zV_aload_n 0 dX9_spokenAt_54 rfl rfl ?_
    refine zV_iload_n 3 dX9_spokenAt_55 rfl rfl ?_
    refine zV_iload 4 dX9_spokenAt_56 rfl ?_
    refine zV_iload_n 1 dX9_spokenAt_58 rfl rfl ?_
    refine zV_cVIm (y' := zmX9_speaksAt) (n' := 5) (As := [zI x3, zI x4, zI x1]) zc_X9_136 (zq_110 hZ) rfl dX9_spokenAt_59 (Nat.le_trans (by decide) hn) rfl (Nat.le_of_ble_eq_true rfl) (Nat.le_of_ble_eq_true rfl) rfl h (fun Q' h' => fX9_speaksAt_ok hZ (Nat.le_refl _) hx3 hx4 hx1 h') (fun r13 M16 c14 b15 h => ?_)
    refine zV_if_eq 69 dX9_spokenAt_62 (by decide) c14 (fun hc_ => ?_) (fun hc_ => ?_)
    · replace h := zs_t h hc_
      refine zV_iconst (v := 0) dX9_spokenAt_69 rfl ?_
      exact fX9_spokenAt_j70_ok hZ hn hx1 hx2 hx3 hx4 zi_0 (Or.inl rfl) hx2 h hc he
    · replace h := zs_f h hc_
      refine zV_iconst (v := 1) dX9_spokenAt_65 rfl ?_
      refine zV_goto 70 dX9_spokenAt_66 (by decide) ?_
      exact fX9_spokenAt_j70_ok hZ hn hx1 hx2 hx3 hx4 zi_1 (Or.inr rfl) hx2 h hc he
noncomputable def fX9_spokenAt_l18 (x1 x2 x3 : Int) (M : zMem) : Option ((Int × Int × zMem) ⊕ (Int × Int × zMem)) :=
  (if (M 80 0) ≤ x3 then some (.inr (x2, x3, M)) else (zgd ((0 : Int) ≤ x3 ∧ x3 < 24) (zbd (zit (fun s17 => fX9_spokenAt_l40 x1 x3 (s17.1) (s17.2.1) (s17.2.2)) (x2, (M 83 x3), M)) fun s24 => some (.inl (s24.1, (zw (x3 + 1)), s24.2.2)))))
set_option maxRecDepth 100000 in
set_option maxHeartbeats 4000000 in
theorem fX9_spokenAt_l18_ok {Z : zZ} (hZ : zB Z) {nn : Nat} (hn : 6 ≤ nn)  {x1 x2 x3 : Int} (hx1 : z32 x1) (hx2 : z32 x2) (hx3 : z32 x3) {M : zMem} {Q : Option zAV → zMem → zZ → Prop} {P : (Int × Int × zMem) ⊕ (Int × Int × zMem) → Prop} (h : zSat (fX9_spokenAt_l18 x1 x2 x3 M) P)  (hc : ∀ s : Int × Int × zMem, P (.inl s) → z32 (s.1) → z32 (s.2.1) → zV zmX9_spokenAt nn 0 0 Z 18 [(0, zR 110), (1, zI x1), (2, zI (s.1)), (3, zI (s.2.1))] [] (s.2.2) Q) (he : ∀ s : Int × Int × zMem, P (.inr s) → z32 (s.1) → z32 (s.2.1) → zV zmX9_spokenAt nn 0 0 Z 84 [(0, zR 110), (1, zI x1), (2, zI (s.1)), (3, zI (s.2.1))] [] (s.2.2) Q)   : zV zmX9_spokenAt nn 0 0 Z 18 [(0, zR 110), (1, zI x1), (2, zI x2), (3, zI x3)] [] M Q := by
  unfold fX9_spokenAt_l18 at h
  refine zV_iload_n 3 dX9_spokenAt_18 rfl rfl ?_
  refine zV_aload_n 0 dX9_spokenAt_19 rfl rfl ?_
  refine zV_getR (j := 80) (zq_110 hZ) zf_X9_1 zkf_X9_22 rfl dX9_spokenAt_20 ?_
  refine zV_getI (zq_80 hZ) zf_X5_0 zkf_X9_133 rfl dX9_spokenAt_23 (fun m7 => ?_)
  refine zV_icmp_ge 84 dX9_spokenAt_26 (by decide) hx3 m7 (fun hc_ => ?_) (fun hc_ => ?_)
  · replace h := zs_t h hc_
    exact he _ h hx2 hx3
  · replace h := zs_f h hc_
    refine zV_aload_n 0 dX9_spokenAt_29 rfl rfl ?_
    refine zV_getR (j := 80) (zq_110 hZ) zf_X9_1 zkf_X9_22 rfl dX9_spokenAt_30 ?_
    refine zV_getR (j := 83) (zq_80 hZ) zf_X5_2 zkf_X9_74 rfl dX9_spokenAt_33 ?_
    refine zV_iload_n 3 dX9_spokenAt_36 rfl rfl ?_
    obtain ⟨hg, h⟩ := zs_gd h
    refine zV_iald (zq_83 hZ) hg dX9_spokenAt_37 (fun m8 => ?_)
    refine zV_istore [(4, zI (M 83 x3)), (0, zR 110), (1, zI x1), (2, zI x2), (3, zI x3)] dX9_spokenAt_38 (by decide) rfl ?_
    refine zV_ls [1, 2, 3, 4, 0] rfl ?_
    refine (zV_loop (Vh := fun s17 : Int × Int × zMem => z32 (s17.1) → z32 (s17.2.1) → zV zmX9_spokenAt nn 0 0 Z 40 [(0, zR 110), (1, zI x1), (2, zI (s17.1)), (3, zI x3), (4, zI (s17.2.1))] [] (s17.2.2) Q) h (fun s17 P18 hP19 hc20 he21 => ?_)) hx2 m8
    intro c22 c23
    refine fX9_spokenAt_l40_ok hZ hn hx1 hx3 c22 c23 hP19 hc20 (fun s24 h25 d26 d27 => ?_)
    have h := he21 _ h25
    refine zV_iinc 3 [(3, zI (zw (x3 + 1))), (0, zR 110), (1, zI x1), (2, zI (s24.1)), (4, zI (s24.2.1))] dX9_spokenAt_78 rfl rfl (by decide) rfl ?_
    refine zV_goto 18 dX9_spokenAt_81 (by decide) ?_
    refine zV_ls [1, 2, 3, 0] rfl ?_
    exact hc _ h d26 (z32_w _)
noncomputable def fX9_spokenAt (x1 : Int) (M : zMem) : Option (Int × zMem) :=
  (zbd (fX9_learn M) fun M4 => (zgd ((0 : Int) ≤ x1 ∧ x1 < 100) (if (M4 117 x1) = (-1) then (zbd (zit (fun s28 => fX9_spokenAt_l18 x1 (s28.1) (s28.2.1) (s28.2.2)) (0, 0, M4)) fun s35 => (zgd ((0 : Int) ≤ x1 ∧ x1 < 100) (fX9_spokenAt_j91 x1 (zup (s35.2.2) 117 x1 (s35.1))))) else fX9_spokenAt_j91 x1 M4)))
set_option maxRecDepth 100000 in
set_option maxHeartbeats 4000000 in
theorem fX9_spokenAt_ok {Z : zZ} (hZ : zB Z) {nn : Nat} (hn : 6 ≤ nn)  {x1 : Int} (hx1 : z32 x1) {M : zMem} {Q : Option zAV → zMem → zZ → Prop} (h : zSat (fX9_spokenAt x1 M) (fun r => Q (some (zI r.1)) r.2 Z))  : zV zmX9_spokenAt nn 0 0 Z 0 [(0, zR 110), (1, zI x1)] [] M Q := by
  unfold fX9_spokenAt at h
  refine zV_aload_n 0 dX9_spokenAt_0 rfl rfl ?_
  refine zV_cVV (y' := zmX9_learn) (n' := 3) (As := []) zc_X9_73 (zq_110 hZ) rfl dX9_spokenAt_1 (Nat.le_trans (by decide) hn) rfl (Nat.le_of_ble_eq_true rfl) (Nat.le_of_ble_eq_true rfl) rfl h (fun Q' h' => fX9_learn_ok hZ (Nat.le_refl _)  h') (fun M4 h => ?_)
  refine zV_aload_n 0 dX9_spokenAt_4 rfl rfl ?_
  refine zV_getR (j := 117) (zq_110 hZ) zf_X9_6 zkf_X9_15 rfl dX9_spokenAt_5 ?_
  refine zV_iload_n 1 dX9_spokenAt_8 rfl rfl ?_
  obtain ⟨hg, h⟩ := zs_gd h
  refine zV_iald (zq_117 hZ) hg dX9_spokenAt_9 (fun m5 => ?_)
  refine zV_iconst (v := (-1)) dX9_spokenAt_10 rfl ?_
  refine zV_icmp_ne 91 dX9_spokenAt_11 (by decide) m5 zi_n1 (fun hc_ => ?_) (fun hc_ => ?_)
  · replace h := zs_f h hc_
    exact fX9_spokenAt_j91_ok hZ hn hx1 h
  · replace h := zs_t h hc_
    refine zV_iconst (v := 0) dX9_spokenAt_14 rfl ?_
    refine zV_istore_n [(2, zI 0), (0, zR 110), (1, zI x1)] dX9_spokenAt_15 rfl (by decide) rfl ?_
    refine zV_iconst (v := 0) dX9_spokenAt_16 rfl ?_
    refine zV_istore_n [(3, zI 0), (2, zI 0), (0, zR 110), (1, zI x1)] dX9_spokenAt_17 rfl (by decide) rfl ?_
    refine zV_ls [2, 3, 1, 0] rfl ?_
    refine (zV_loop (Vh := fun s28 : Int × Int × zMem => z32 (s28.1) → z32 (s28.2.1) → zV zmX9_spokenAt nn 0 0 Z 18 [(0, zR 110), (1, zI x1), (2, zI (s28.1)), (3, zI (s28.2.1))] [] (s28.2.2) Q) h (fun s28 P29 hP30 hc31 he32 => ?_)) zi_0 zi_0
    intro c33 c34
    refine fX9_spokenAt_l18_ok hZ hn hx1 c33 c34 hP30 hc31 (fun s35 h36 d37 d38 => ?_)
    have h := he32 _ h36
    refine zV_aload_n 0 dX9_spokenAt_84 rfl rfl ?_
    refine zV_getR (j := 117) (zq_110 hZ) zf_X9_6 zkf_X9_15 rfl dX9_spokenAt_85 ?_
    refine zV_iload_n 1 dX9_spokenAt_88 rfl rfl ?_
    refine zV_iload_n 2 dX9_spokenAt_89 rfl rfl ?_
    obtain ⟨hg, h⟩ := zs_gd h
    refine zV_iast (zq_117 hZ) (by decide) hg d37 dX9_spokenAt_90 ?_
    refine zV_ls [0, 1] rfl ?_
    exact fX9_spokenAt_j91_ok hZ hn hx1 h
noncomputable def fX2_placeOf (x1 : Int) (M : zMem) : Option (Int) :=
  (zgd ((0 : Int) ≤ x1 ∧ x1 < 24) (zgd ((0 : Int) ≤ (M 82 x1) ∧ (M 82 x1) < 12) (some (M 47 (M 82 x1)))))
set_option maxRecDepth 100000 in
set_option maxHeartbeats 4000000 in
theorem fX2_placeOf_ok {Z : zZ} (hZ : zB Z) {nn : Nat} (hn : 0 ≤ nn)  {x1 : Int} (hx1 : z32 x1) {M : zMem} {Q : Option zAV → zMem → zZ → Prop} (h : zSat (fX2_placeOf x1 M) (fun r => Q (some (zI r)) M Z))  : zV zmX2_placeOf nn 0 0 Z 0 [(0, zR 100), (1, zI x1)] [] M Q := by
  unfold fX2_placeOf at h
  refine zV_aload_n 0 dX2_placeOf_0 rfl rfl ?_
  refine zV_getR (j := 40) (zq_100 hZ) zf_X2_0 zkf_X2_9 rfl dX2_placeOf_1 ?_
  refine zV_getR (j := 47) (zq_40 hZ) zf_X7_6 zkf_X2_19 rfl dX2_placeOf_4 ?_
  refine zV_aload_n 0 dX2_placeOf_7 rfl rfl ?_
  refine zV_getR (j := 80) (zq_100 hZ) zf_X2_1 zkf_X2_15 rfl dX2_placeOf_8 ?_
  refine zV_getR (j := 82) (zq_80 hZ) zf_X5_1 zkf_X2_25 rfl dX2_placeOf_11 ?_
  refine zV_iload_n 1 dX2_placeOf_14 rfl rfl ?_
  obtain ⟨hg, h⟩ := zs_gd h
  refine zV_iald (zq_82 hZ) hg dX2_placeOf_15 (fun m1 => ?_)
  obtain ⟨hg, h⟩ := zs_gd h
  refine zV_iald (zq_47 hZ) hg dX2_placeOf_16 (fun m2 => ?_)
  exact zV_ireti dX2_placeOf_17 rfl m2 h
noncomputable def fX2_clash_j80 (o1 no1 : Nat) (x6 s0 : Int) (M : zMem) : Option (Int) :=
  (if s0 = 0 then some 6 else (zgd ((0 : Int) ≤ (2 : Int) ∧ (2 : Int) < 11) (if (zw (zabs x6)) ≤ (M 59 2) then some 6 else some 4)))
set_option maxRecDepth 100000 in
set_option maxHeartbeats 4000000 in
theorem fX2_clash_j80_ok {Z : zZ} (hZ : zB Z) {nn : Nat} (hn : 1 ≤ nn) {o1 no1 : Nat} (hz_o1 : Z o1 = some (.inr (0, no1))) (hw_o1 : o1 < 1000)  {x6 s0 : Int} (hx6 : z32 x6) (hs0 : z32 s0) (hbs0 : s0 = 0 ∨ s0 = 1) {M : zMem} {Q : Option zAV → zMem → zZ → Prop} (h : zSat (fX2_clash_j80 o1 no1 x6 s0 M) (fun r => Q (some (zI r)) M Z))  : zV zmX2_clash nn 0 0 Z 80 [(0, zR 100), (6, zI x6)] [zI s0] M Q := by
  unfold fX2_clash_j80 at h
  refine zV_istore [(7, zI s0), (0, zR 100), (6, zI x6)] dX2_clash_80 (by decide) rfl ?_
  refine zV_iload 0 dX2_clash_82 rfl ?_
  refine zV_if_eq 108 dX2_clash_84 (by decide) hs0 (fun hc_ => ?_) (fun hc_ => ?_)
  · replace h := zs_t h hc_
    refine zV_bipush (v := 6) dX2_clash_108 rfl ?_
    exact zV_ireti dX2_clash_110 rfl zi_6 h
  · replace h := zs_f h hc_
    refine zV_iload 2 dX2_clash_87 rfl ?_
    refine zV_mabs zml_X2_62 dX2_clash_89 (Nat.le_trans (by decide) hn) (Nat.le_of_ble_eq_true rfl) hx6 ?_
    refine zV_aload_n 1 dX2_clash_92 rfl rfl ?_
    refine zV_getR (j := 40) (zq_100 hZ) zf_X2_0 zkf_X2_9 rfl dX2_clash_93 ?_
    refine zV_getR (j := 59) (zq_40 hZ) zf_X7_18 zkf_X2_51 rfl dX2_clash_96 ?_
    refine zV_iconst (v := 2) dX2_clash_99 rfl ?_
    obtain ⟨hg, h⟩ := zs_gd h
    refine zV_iald (zq_59 hZ) hg dX2_clash_100 (fun m19 => ?_)
    refine zV_w2 ?_
    refine zV_icmp_le 108 dX2_clash_101 (by decide) (z32_w _) m19 (fun hc_ => ?_) (fun hc_ => ?_)
    · replace h := zs_t h hc_
      refine zV_bipush (v := 6) dX2_clash_108 rfl ?_
      exact zV_ireti dX2_clash_110 rfl zi_6 h
    · replace h := zs_f h hc_
      refine zV_iconst (v := 4) dX2_clash_104 rfl ?_
      refine zV_goto 110 dX2_clash_105 (by decide) ?_
      exact zV_ireti dX2_clash_110 rfl zi_4 h
noncomputable def fX2_clash_j54 (o1 no1 : Nat) (x4 x5 x6 : Int) (M : zMem) : Option (Int) :=
  (zbd (fX7_leftHand 40 x4 M) fun r11 => (zbd (fX7_leftHand 40 x5 M) fun r15 => (if r11 = r15 then fX2_clash_j80 o1 no1 x6 1 M else fX2_clash_j80 o1 no1 x6 0 M)))
set_option maxRecDepth 100000 in
set_option maxHeartbeats 4000000 in
theorem fX2_clash_j54_ok {Z : zZ} (hZ : zB Z) {nn : Nat} (hn : 1 ≤ nn) {o1 no1 : Nat} (hz_o1 : Z o1 = some (.inr (0, no1))) (hw_o1 : o1 < 1000)  {x4 x5 x6 : Int} (hx4 : z32 x4) (hx5 : z32 x5) (hx6 : z32 x6) {M : zMem} {Q : Option zAV → zMem → zZ → Prop} (h : zSat (fX2_clash_j54 o1 no1 x4 x5 x6 M) (fun r => Q (some (zI r)) M Z))  : zV zmX2_clash nn 0 0 Z 54 [(0, zR 100), (4, zI x4), (5, zI x5), (6, zI x6)] [] M Q := by
  unfold fX2_clash_j54 at h
  refine zV_aload_n 0 dX2_clash_54 rfl rfl ?_
  refine zV_getR (j := 40) (zq_100 hZ) zf_X2_0 zkf_X2_9 rfl dX2_clash_55 ?_
  refine zV_iload 1 dX2_clash_58 rfl ?_
  refine zV_cVI (y' := zmX7_leftHand) (n' := 0) (As := [zI x4]) zc_X2_58 (zq_40 hZ) rfl dX2_clash_60 (Nat.le_trans (by decide) hn) rfl (Nat.le_of_ble_eq_true rfl) (Nat.le_of_ble_eq_true rfl) rfl h (fun Q' h' => fX7_leftHand_ok hZ (Nat.le_refl _) (zqsu_40 hZ) (by decide) hx4 h') (fun r11 c12 b13 h => ?_)
  refine zV_aload_n 0 dX2_clash_63 rfl rfl ?_
  refine zV_getR (j := 40) (zq_100 hZ) zf_X2_0 zkf_X2_9 rfl dX2_clash_64 ?_
  refine zV_iload 2 dX2_clash_67 rfl ?_
  refine zV_cVI (y' := zmX7_leftHand) (n' := 0) (As := [zI x5]) zc_X2_58 (zq_40 hZ) rfl dX2_clash_69 (Nat.le_trans (by decide) hn) rfl (Nat.le_of_ble_eq_true rfl) (Nat.le_of_ble_eq_true rfl) rfl h (fun Q' h' => fX7_leftHand_ok hZ (Nat.le_refl _) (zqsu_40 hZ) (by decide) hx5 h') (fun r15 c16 b17 h => ?_)
  refine zV_icmp_ne 79 dX2_clash_72 (by decide) c12 c16 (fun hc_ => ?_) (fun hc_ => ?_)
  · replace h := zs_f h hc_
    refine zV_iconst (v := 0) dX2_clash_79 rfl ?_
    refine zV_ls [0, 3] rfl ?_
    exact fX2_clash_j80_ok hZ hn hz_o1 hw_o1 hx6 zi_0 (Or.inl rfl) h
  · replace h := zs_t h hc_
    refine zV_iconst (v := 1) dX2_clash_75 rfl ?_
    refine zV_goto 80 dX2_clash_76 (by decide) ?_
    refine zV_ls [0, 3] rfl ?_
    exact fX2_clash_j80_ok hZ hn hz_o1 hw_o1 hx6 zi_1 (Or.inr rfl) h
noncomputable def fX2_clash (o1 no1 : Nat) (x2 x3 : Int) (M : zMem) : Option (Int) :=
  (zgd ((0 : Int) ≤ x3 ∧ x3 < ((no1 : Nat) : Int)) (zgd ((0 : Int) ≤ x2 ∧ x2 < ((no1 : Nat) : Int)) (if (M o1 x3) = (M o1 x2) then some 2 else (zbd (fX2_placeOf x3 M) fun r3 => (zbd (fX2_placeOf x2 M) fun r7 => (if (M o1 x3) ≤ (M o1 x2) then (if (zw (r3 - r7)) < 0 then fX2_clash_j54 o1 no1 (M o1 x3) (M o1 x2) (zw (r3 - r7)) M else some 3) else (if 0 < (zw (r3 - r7)) then fX2_clash_j54 o1 no1 (M o1 x3) (M o1 x2) (zw (r3 - r7)) M else some 3)))))))
set_option maxRecDepth 100000 in
set_option maxHeartbeats 4000000 in
theorem fX2_clash_ok {Z : zZ} (hZ : zB Z) {nn : Nat} (hn : 1 ≤ nn) {o1 no1 : Nat} (hz_o1 : Z o1 = some (.inr (0, no1))) (hw_o1 : o1 < 1000)  {x2 x3 : Int} (hx2 : z32 x2) (hx3 : z32 x3) {M : zMem} {Q : Option zAV → zMem → zZ → Prop} (h : zSat (fX2_clash o1 no1 x2 x3 M) (fun r => Q (some (zI r)) M Z))  : zV zmX2_clash nn 0 0 Z 0 [(0, zR 100), (1, zR o1), (2, zI x2), (3, zI x3)] [] M Q := by
  unfold fX2_clash at h
  refine zV_aload_n 1 dX2_clash_0 rfl rfl ?_
  refine zV_iload_n 3 dX2_clash_1 rfl rfl ?_
  obtain ⟨hg, h⟩ := zs_gd h
  refine zV_iald hz_o1 hg dX2_clash_2 (fun m1 => ?_)
  refine zV_istore [(4, zI (M o1 x3)), (0, zR 100), (1, zR o1), (2, zI x2), (3, zI x3)] dX2_clash_3 (by decide) rfl ?_
  refine zV_aload_n 2 dX2_clash_5 rfl rfl ?_
  refine zV_iload_n 3 dX2_clash_6 rfl rfl ?_
  obtain ⟨hg, h⟩ := zs_gd h
  refine zV_iald hz_o1 hg dX2_clash_7 (fun m2 => ?_)
  refine zV_istore [(5, zI (M o1 x2)), (4, zI (M o1 x3)), (0, zR 100), (1, zR o1), (2, zI x2), (3, zI x3)] dX2_clash_8 (by decide) rfl ?_
  refine zV_iload 1 dX2_clash_10 rfl ?_
  refine zV_iload 0 dX2_clash_12 rfl ?_
  refine zV_icmp_ne 19 dX2_clash_14 (by decide) m1 m2 (fun hc_ => ?_) (fun hc_ => ?_)
  · replace h := zs_f h hc_
    refine zV_aload_n 2 dX2_clash_19 rfl rfl ?_
    refine zV_iload_n 5 dX2_clash_20 rfl rfl ?_
    refine zV_cVI (y' := zmX2_placeOf) (n' := 0) (As := [zI x3]) zc_X2_54 (zq_100 hZ) rfl dX2_clash_21 (Nat.le_trans (by decide) hn) rfl (Nat.le_of_ble_eq_true rfl) (Nat.le_of_ble_eq_true rfl) rfl h (fun Q' h' => fX2_placeOf_ok hZ (Nat.le_refl _) hx3 h') (fun r3 c4 b5 h => ?_)
    refine zV_aload_n 2 dX2_clash_24 rfl rfl ?_
    refine zV_iload_n 4 dX2_clash_25 rfl rfl ?_
    refine zV_cVI (y' := zmX2_placeOf) (n' := 0) (As := [zI x2]) zc_X2_54 (zq_100 hZ) rfl dX2_clash_26 (Nat.le_trans (by decide) hn) rfl (Nat.le_of_ble_eq_true rfl) (Nat.le_of_ble_eq_true rfl) rfl h (fun Q' h' => fX2_placeOf_ok hZ (Nat.le_refl _) hx2 h') (fun r7 c8 b9 h => ?_)
    refine zV_isub dX2_clash_29 ?_
    refine zV_w ?_
    refine zV_istore [(6, zI (zw (r3 - r7))), (5, zI (M o1 x2)), (4, zI (M o1 x3)), (0, zR 100), (1, zR o1), (2, zI x2), (3, zI x3)] dX2_clash_30 (by decide) rfl ?_
    refine zV_iload 1 dX2_clash_32 rfl ?_
    refine zV_iload 2 dX2_clash_34 rfl ?_
    refine zV_icmp_ge 47 dX2_clash_36 (by decide) m2 m1 (fun hc_ => ?_) (fun hc_ => ?_)
    · replace h := zs_t h hc_
      refine zV_iload 0 dX2_clash_47 rfl ?_
      refine zV_if_lt 54 dX2_clash_49 (by decide) (z32_w _) (fun hc_ => ?_) (fun hc_ => ?_)
      · replace h := zs_t h hc_
        refine zV_ls [3, 2, 1, 0] rfl ?_
        exact fX2_clash_j54_ok hZ hn hz_o1 hw_o1 m1 m2 (z32_w _) h
      · replace h := zs_f h hc_
        refine zV_iconst (v := 3) dX2_clash_52 rfl ?_
        exact zV_ireti dX2_clash_53 rfl zi_3 h
    · replace h := zs_f h hc_
      refine zV_iload 0 dX2_clash_39 rfl ?_
      refine zV_if_gt 54 dX2_clash_41 (by decide) (z32_w _) (fun hc_ => ?_) (fun hc_ => ?_)
      · replace h := zs_t h hc_
        refine zV_ls [3, 2, 1, 0] rfl ?_
        exact fX2_clash_j54_ok hZ hn hz_o1 hw_o1 m1 m2 (z32_w _) h
      · replace h := zs_f h hc_
        refine zV_goto 52 dX2_clash_44 (by decide) ?_
        refine zV_iconst (v := 3) dX2_clash_52 rfl ?_
        exact zV_ireti dX2_clash_53 rfl zi_3 h
  · replace h := zs_t h hc_
    refine zV_iconst (v := 2) dX2_clash_17 rfl ?_
    exact zV_ireti dX2_clash_18 rfl zi_2 h
noncomputable def fX2_faultOf_l15 (o1 no1 : Nat) (x2 x3 x4 : Int) (M : zMem) : Option ((Int × Int) ⊕ (Int × Int)) :=
  (if x2 ≤ x4 then some (.inr (x3, x4)) else (zgd ((0 : Int) ≤ x4 ∧ x4 < ((no1 : Nat) : Int)) (if (M o1 x4) = (-1) then some (.inl (x3, (zw (x4 + 1)))) else (zbd (fX5_overlap 80 x4 x2 M) fun r3 => (if r3 = 0 then some (.inl (x3, (zw (x4 + 1)))) else (zbd (fX2_clash o1 no1 x4 x2 M) fun r7 => some (.inl ((min x3 r7), (zw (x4 + 1))))))))))
set_option maxRecDepth 100000 in
set_option maxHeartbeats 4000000 in
theorem fX2_faultOf_l15_ok {Z : zZ} (hZ : zB Z) {nn : Nat} (hn : 2 ≤ nn) {o1 no1 : Nat} (hz_o1 : Z o1 = some (.inr (0, no1))) (hw_o1 : o1 < 1000)  {x2 x3 x4 : Int} (hx2 : z32 x2) (hx3 : z32 x3) (hx4 : z32 x4) {M : zMem} {Q : Option zAV → zMem → zZ → Prop} {P : (Int × Int) ⊕ (Int × Int) → Prop} (h : zSat (fX2_faultOf_l15 o1 no1 x2 x3 x4 M) P)  (hc : ∀ s : Int × Int, P (.inl s) → z32 (s.1) → z32 (s.2) → zV zmX2_faultOf nn 0 0 Z 15 [(0, zR 100), (1, zR o1), (2, zI x2), (3, zI (s.1)), (4, zI (s.2))] [] M Q) (he : ∀ s : Int × Int, P (.inr s) → z32 (s.1) → z32 (s.2) → zV zmX2_faultOf nn 0 0 Z 61 [(0, zR 100), (1, zR o1), (2, zI x2), (3, zI (s.1)), (4, zI (s.2))] [] M Q)   : zV zmX2_faultOf nn 0 0 Z 15 [(0, zR 100), (1, zR o1), (2, zI x2), (3, zI x3), (4, zI x4)] [] M Q := by
  unfold fX2_faultOf_l15 at h
  refine zV_iload 4 dX2_faultOf_15 rfl ?_
  refine zV_iload_n 2 dX2_faultOf_17 rfl rfl ?_
  refine zV_icmp_ge 61 dX2_faultOf_18 (by decide) hx4 hx2 (fun hc_ => ?_) (fun hc_ => ?_)
  · replace h := zs_t h hc_
    exact he _ h hx3 hx4
  · replace h := zs_f h hc_
    refine zV_aload_n 1 dX2_faultOf_21 rfl rfl ?_
    refine zV_iload 4 dX2_faultOf_22 rfl ?_
    obtain ⟨hg, h⟩ := zs_gd h
    refine zV_iald hz_o1 hg dX2_faultOf_24 (fun m2 => ?_)
    refine zV_iconst (v := (-1)) dX2_faultOf_25 rfl ?_
    refine zV_icmp_eq 55 dX2_faultOf_26 (by decide) m2 zi_n1 (fun hc_ => ?_) (fun hc_ => ?_)
    · replace h := zs_t h hc_
      refine zV_iinc 4 [(4, zI (zw (x4 + 1))), (0, zR 100), (1, zR o1), (2, zI x2), (3, zI x3)] dX2_faultOf_55 rfl rfl (by decide) rfl ?_
      refine zV_goto 15 dX2_faultOf_58 (by decide) ?_
      refine zV_ls [1, 2, 3, 4, 0] rfl ?_
      exact hc _ h hx3 (z32_w _)
    · replace h := zs_f h hc_
      refine zV_aload_n 0 dX2_faultOf_29 rfl rfl ?_
      refine zV_getR (j := 80) (zq_100 hZ) zf_X2_1 zkf_X2_15 rfl dX2_faultOf_30 ?_
      refine zV_iload 4 dX2_faultOf_33 rfl ?_
      refine zV_iload_n 2 dX2_faultOf_35 rfl rfl ?_
      refine zV_cVI (y' := zmX5_overlap) (n' := 1) (As := [zI x4, zI x2]) zc_X2_30 (zq_80 hZ) rfl dX2_faultOf_36 (Nat.le_trans (by decide) hn) rfl (Nat.le_of_ble_eq_true rfl) (Nat.le_of_ble_eq_true rfl) rfl h (fun Q' h' => fX5_overlap_ok hZ (Nat.le_refl _) (zqpi_80 hZ) (by decide) hx4 hx2 h') (fun r3 c4 b5 h => ?_)
      refine zV_if_eq 55 dX2_faultOf_39 (by decide) c4 (fun hc_ => ?_) (fun hc_ => ?_)
      · replace h := zs_t h hc_
        refine zV_iinc 4 [(4, zI (zw (x4 + 1))), (0, zR 100), (1, zR o1), (2, zI x2), (3, zI x3)] dX2_faultOf_55 rfl rfl (by decide) rfl ?_
        refine zV_goto 15 dX2_faultOf_58 (by decide) ?_
        refine zV_ls [1, 2, 3, 4, 0] rfl ?_
        exact hc _ h hx3 (z32_w _)
      · replace h := zs_f h hc_
        refine zV_iload_n 3 dX2_faultOf_42 rfl rfl ?_
        refine zV_aload_n 0 dX2_faultOf_43 rfl rfl ?_
        refine zV_aload_n 1 dX2_faultOf_44 rfl rfl ?_
        refine zV_iload 4 dX2_faultOf_45 rfl ?_
        refine zV_iload_n 2 dX2_faultOf_47 rfl rfl ?_
        refine zV_cVI (y' := zmX2_clash) (n' := 1) (As := [zR o1, zI x4, zI x2]) zc_X2_34 (zq_100 hZ) rfl dX2_faultOf_48 (Nat.le_trans (by decide) hn) rfl (Nat.le_of_ble_eq_true rfl) (Nat.le_of_ble_eq_true rfl) rfl h (fun Q' h' => fX2_clash_ok hZ (Nat.le_refl _) hz_o1 hw_o1 hx4 hx2 h') (fun r7 c8 b9 h => ?_)
        refine zV_mmin zml_X2_38 dX2_faultOf_51 (Nat.le_trans (by decide) hn) (Nat.le_of_ble_eq_true rfl) hx3 c8 ?_
        refine zV_istore_n [(3, zI (min x3 r7)), (0, zR 100), (1, zR o1), (2, zI x2), (4, zI x4)] dX2_faultOf_54 rfl (by decide) rfl ?_
        refine zV_iinc 4 [(4, zI (zw (x4 + 1))), (3, zI (min x3 r7)), (0, zR 100), (1, zR o1), (2, zI x2)] dX2_faultOf_55 rfl rfl (by decide) rfl ?_
        refine zV_goto 15 dX2_faultOf_58 (by decide) ?_
        refine zV_ls [2, 3, 4, 1, 0] rfl ?_
        exact hc _ h (z32_min hx3 c8) (z32_w _)
noncomputable def fX2_faultOf (o1 no1 : Nat) (x2 : Int) (M : zMem) : Option (Int) :=
  (zgd ((0 : Int) ≤ x2 ∧ x2 < ((no1 : Nat) : Int)) (if (M o1 x2) = (-1) then some 1 else (zbd (zit (fun s11 => fX2_faultOf_l15 o1 no1 x2 (s11.1) (s11.2) M) (6, 0)) fun s18 => (if 5 < s18.1 then (zbd (fX2_wornBefore o1 no1 x2 M) fun r22 => (zgd ((0 : Int) ≤ x2 ∧ x2 < 24) (zgd ((0 : Int) ≤ (4 : Int) ∧ (4 : Int) < 11) (if (zw (r22 + (M 84 x2))) ≤ (M 59 4) then some 0 else some 5)))) else some (s18.1)))))
set_option maxRecDepth 100000 in
set_option maxHeartbeats 4000000 in
theorem fX2_faultOf_ok {Z : zZ} (hZ : zB Z) {nn : Nat} (hn : 2 ≤ nn) {o1 no1 : Nat} (hz_o1 : Z o1 = some (.inr (0, no1))) (hw_o1 : o1 < 1000)  {x2 : Int} (hx2 : z32 x2) {M : zMem} {Q : Option zAV → zMem → zZ → Prop} (h : zSat (fX2_faultOf o1 no1 x2 M) (fun r => Q (some (zI r)) M Z))  : zV zmX2_faultOf nn 0 0 Z 0 [(0, zR 100), (1, zR o1), (2, zI x2)] [] M Q := by
  unfold fX2_faultOf at h
  refine zV_aload_n 1 dX2_faultOf_0 rfl rfl ?_
  refine zV_iload_n 2 dX2_faultOf_1 rfl rfl ?_
  obtain ⟨hg, h⟩ := zs_gd h
  refine zV_iald hz_o1 hg dX2_faultOf_2 (fun m1 => ?_)
  refine zV_iconst (v := (-1)) dX2_faultOf_3 rfl ?_
  refine zV_icmp_ne 9 dX2_faultOf_4 (by decide) m1 zi_n1 (fun hc_ => ?_) (fun hc_ => ?_)
  · replace h := zs_f h hc_
    refine zV_bipush (v := 6) dX2_faultOf_9 rfl ?_
    refine zV_istore_n [(3, zI 6), (0, zR 100), (1, zR o1), (2, zI x2)] dX2_faultOf_11 rfl (by decide) rfl ?_
    refine zV_iconst (v := 0) dX2_faultOf_12 rfl ?_
    refine zV_istore [(4, zI 0), (3, zI 6), (0, zR 100), (1, zR o1), (2, zI x2)] dX2_faultOf_13 (by decide) rfl ?_
    refine zV_ls [2, 3, 4, 1, 0] rfl ?_
    refine (zV_loop (Vh := fun s11 : Int × Int => z32 (s11.1) → z32 (s11.2) → zV zmX2_faultOf nn 0 0 Z 15 [(0, zR 100), (1, zR o1), (2, zI x2), (3, zI (s11.1)), (4, zI (s11.2))] [] M Q) h (fun s11 P12 hP13 hc14 he15 => ?_)) zi_6 zi_0
    intro c16 c17
    refine fX2_faultOf_l15_ok hZ hn hz_o1 hw_o1 hx2 c16 c17 hP13 hc14 (fun s18 h19 d20 d21 => ?_)
    have h := he15 _ h19
    refine zV_iload_n 3 dX2_faultOf_61 rfl rfl ?_
    refine zV_iconst (v := 5) dX2_faultOf_62 rfl ?_
    refine zV_icmp_gt 68 dX2_faultOf_63 (by decide) d20 zi_5 (fun hc_ => ?_) (fun hc_ => ?_)
    · replace h := zs_t h hc_
      refine zV_aload_n 0 dX2_faultOf_68 rfl rfl ?_
      refine zV_aload_n 1 dX2_faultOf_69 rfl rfl ?_
      refine zV_iload_n 2 dX2_faultOf_70 rfl rfl ?_
      refine zV_cVI (y' := zmX2_wornBefore) (n' := 1) (As := [zR o1, zI x2]) zc_X2_44 (zq_100 hZ) rfl dX2_faultOf_71 (Nat.le_trans (by decide) hn) rfl (Nat.le_of_ble_eq_true rfl) (Nat.le_of_ble_eq_true rfl) rfl h (fun Q' h' => fX2_wornBefore_ok hZ (Nat.le_refl _) hz_o1 hw_o1 hx2 h') (fun r22 c23 b24 h => ?_)
      refine zV_aload_n 0 dX2_faultOf_74 rfl rfl ?_
      refine zV_getR (j := 80) (zq_100 hZ) zf_X2_1 zkf_X2_15 rfl dX2_faultOf_75 ?_
      refine zV_getR (j := 84) (zq_80 hZ) zf_X5_3 zkf_X2_48 rfl dX2_faultOf_78 ?_
      refine zV_iload_n 2 dX2_faultOf_81 rfl rfl ?_
      obtain ⟨hg, h⟩ := zs_gd h
      refine zV_iald (zq_84 hZ) hg dX2_faultOf_82 (fun m26 => ?_)
      refine zV_iadd dX2_faultOf_83 ?_
      refine zV_aload_n 0 dX2_faultOf_84 rfl rfl ?_
      refine zV_getR (j := 40) (zq_100 hZ) zf_X2_0 zkf_X2_9 rfl dX2_faultOf_85 ?_
      refine zV_getR (j := 59) (zq_40 hZ) zf_X7_18 zkf_X2_51 rfl dX2_faultOf_88 ?_
      refine zV_iconst (v := 4) dX2_faultOf_91 rfl ?_
      obtain ⟨hg, h⟩ := zs_gd h
      refine zV_iald (zq_59 hZ) hg dX2_faultOf_92 (fun m27 => ?_)
      refine zV_w2 ?_
      refine zV_icmp_le 100 dX2_faultOf_93 (by decide) (z32_w _) m27 (fun hc_ => ?_) (fun hc_ => ?_)
      · replace h := zs_t h hc_
        refine zV_iconst (v := 0) dX2_faultOf_100 rfl ?_
        exact zV_ireti dX2_faultOf_101 rfl zi_0 h
      · replace h := zs_f h hc_
        refine zV_iconst (v := 5) dX2_faultOf_96 rfl ?_
        refine zV_goto 101 dX2_faultOf_97 (by decide) ?_
        exact zV_ireti dX2_faultOf_101 rfl zi_5 h
    · replace h := zs_f h hc_
      refine zV_iload_n 3 dX2_faultOf_66 rfl rfl ?_
      exact zV_ireti dX2_faultOf_67 rfl d20 h
  · replace h := zs_t h hc_
    refine zV_iconst (v := 1) dX2_faultOf_7 rfl ?_
    exact zV_ireti dX2_faultOf_8 rfl zi_1 h
noncomputable def fX2_liftsAt_l13 (o1 no1 : Nat) (x2 x3 : Int) (M : zMem) : Option ((Int) ⊕ ((Int) ⊕ (Int))) :=
  (if x3 < 0 then some (.inr (.inl x3)) else (zgd ((0 : Int) ≤ x3 ∧ x3 < ((no1 : Nat) : Int)) (zgd ((0 : Int) ≤ x2 ∧ x2 < ((no1 : Nat) : Int)) (if (M o1 x3) = (M o1 x2) then (zbd (fX5_follows 80 x3 x2 M) fun r4 => (if r4 = 0 then some (.inr (.inr 1)) else some (.inr (.inr 0)))) else some (.inl (zw (x3 + (-1))))))))
set_option maxRecDepth 100000 in
set_option maxHeartbeats 4000000 in
theorem fX2_liftsAt_l13_ok {Z : zZ} (hZ : zB Z) {nn : Nat} (hn : 2 ≤ nn) {o1 no1 : Nat} (hz_o1 : Z o1 = some (.inr (0, no1))) (hw_o1 : o1 < 1000)  {x2 x3 : Int} (hx2 : z32 x2) (hx3 : z32 x3) {M : zMem} {Q : Option zAV → zMem → zZ → Prop} {P : (Int) ⊕ ((Int) ⊕ (Int)) → Prop} (h : zSat (fX2_liftsAt_l13 o1 no1 x2 x3 M) P)  (hc : ∀ s : Int, P (.inl s) → z32 s → zV zmX2_liftsAt nn 0 0 Z 13 [(0, zR 100), (1, zR o1), (2, zI x2), (3, zI s)] [] M Q) (he : ∀ s : Int, P (.inr (.inl s)) → z32 s → zV zmX2_liftsAt nn 0 0 Z 50 [(0, zR 100), (1, zR o1), (2, zI x2), (3, zI s)] [] M Q) (hr : ∀ r : Int, P (.inr (.inr r)) → (fun r => Q (some (zI r)) M Z) r)  : zV zmX2_liftsAt nn 0 0 Z 13 [(0, zR 100), (1, zR o1), (2, zI x2), (3, zI x3)] [] M Q := by
  unfold fX2_liftsAt_l13 at h
  refine zV_iload_n 3 dX2_liftsAt_13 rfl rfl ?_
  refine zV_if_lt 50 dX2_liftsAt_14 (by decide) hx3 (fun hc_ => ?_) (fun hc_ => ?_)
  · replace h := zs_t h hc_
    exact he _ h hx3
  · replace h := zs_f h hc_
    refine zV_aload_n 1 dX2_liftsAt_17 rfl rfl ?_
    refine zV_iload_n 3 dX2_liftsAt_18 rfl rfl ?_
    obtain ⟨hg, h⟩ := zs_gd h
    refine zV_iald hz_o1 hg dX2_liftsAt_19 (fun m2 => ?_)
    refine zV_aload_n 1 dX2_liftsAt_20 rfl rfl ?_
    refine zV_iload_n 2 dX2_liftsAt_21 rfl rfl ?_
    obtain ⟨hg, h⟩ := zs_gd h
    refine zV_iald hz_o1 hg dX2_liftsAt_22 (fun m3 => ?_)
    refine zV_icmp_ne 44 dX2_liftsAt_23 (by decide) m2 m3 (fun hc_ => ?_) (fun hc_ => ?_)
    · replace h := zs_f h hc_
      refine zV_iinc 3 [(3, zI (zw (x3 + (-1)))), (0, zR 100), (1, zR o1), (2, zI x2)] dX2_liftsAt_44 rfl rfl (by decide) rfl ?_
      refine zV_goto 13 dX2_liftsAt_47 (by decide) ?_
      refine zV_ls [1, 2, 3, 0] rfl ?_
      exact hc _ h (z32_w _)
    · replace h := zs_t h hc_
      refine zV_aload_n 0 dX2_liftsAt_26 rfl rfl ?_
      refine zV_getR (j := 80) (zq_100 hZ) zf_X2_1 zkf_X2_15 rfl dX2_liftsAt_27 ?_
      refine zV_iload_n 3 dX2_liftsAt_30 rfl rfl ?_
      refine zV_iload_n 2 dX2_liftsAt_31 rfl rfl ?_
      refine zV_cVI (y' := zmX5_follows) (n' := 1) (As := [zI x3, zI x2]) zc_X2_74 (zq_80 hZ) rfl dX2_liftsAt_32 (Nat.le_trans (by decide) hn) rfl (Nat.le_of_ble_eq_true rfl) (Nat.le_of_ble_eq_true rfl) rfl h (fun Q' h' => fX5_follows_ok hZ (Nat.le_refl _) (zqpi_80 hZ) (by decide) hx3 hx2 h') (fun r4 c5 b6 h => ?_)
      refine zV_if_ne 42 dX2_liftsAt_35 (by decide) c5 (fun hc_ => ?_) (fun hc_ => ?_)
      · replace h := zs_f h hc_
        refine zV_iconst (v := 0) dX2_liftsAt_42 rfl ?_
        exact zV_iretb dX2_liftsAt_43 rfl (Or.inl rfl) (hr _ h)
      · replace h := zs_t h hc_
        refine zV_iconst (v := 1) dX2_liftsAt_38 rfl ?_
        refine zV_goto 43 dX2_liftsAt_39 (by decide) ?_
        exact zV_iretb dX2_liftsAt_43 rfl (Or.inr rfl) (hr _ h)
noncomputable def fX2_liftsAt (o1 no1 : Nat) (x2 : Int) (M : zMem) : Option (Int) :=
  (zgd ((0 : Int) ≤ x2 ∧ x2 < ((no1 : Nat) : Int)) (if (M o1 x2) = (-1) then some 1 else (zbd (zit (fun s8 => fX2_liftsAt_l13 o1 no1 x2 s8 M) (zw (x2 - 1))) fun e => zel e (fun s14 => some 1) (fun r => some r))))
set_option maxRecDepth 100000 in
set_option maxHeartbeats 4000000 in
theorem fX2_liftsAt_ok {Z : zZ} (hZ : zB Z) {nn : Nat} (hn : 2 ≤ nn) {o1 no1 : Nat} (hz_o1 : Z o1 = some (.inr (0, no1))) (hw_o1 : o1 < 1000)  {x2 : Int} (hx2 : z32 x2) {M : zMem} {Q : Option zAV → zMem → zZ → Prop} (h : zSat (fX2_liftsAt o1 no1 x2 M) (fun r => Q (some (zI r)) M Z))  : zV zmX2_liftsAt nn 0 0 Z 0 [(0, zR 100), (1, zR o1), (2, zI x2)] [] M Q := by
  unfold fX2_liftsAt at h
  refine zV_aload_n 1 dX2_liftsAt_0 rfl rfl ?_
  refine zV_iload_n 2 dX2_liftsAt_1 rfl rfl ?_
  obtain ⟨hg, h⟩ := zs_gd h
  refine zV_iald hz_o1 hg dX2_liftsAt_2 (fun m1 => ?_)
  refine zV_iconst (v := (-1)) dX2_liftsAt_3 rfl ?_
  refine zV_icmp_ne 9 dX2_liftsAt_4 (by decide) m1 zi_n1 (fun hc_ => ?_) (fun hc_ => ?_)
  · replace h := zs_f h hc_
    refine zV_iload_n 2 dX2_liftsAt_9 rfl rfl ?_
    refine zV_iconst (v := 1) dX2_liftsAt_10 rfl ?_
    refine zV_isub dX2_liftsAt_11 ?_
    refine zV_w ?_
    refine zV_istore_n [(3, zI (zw (x2 - 1))), (0, zR 100), (1, zR o1), (2, zI x2)] dX2_liftsAt_12 rfl (by decide) rfl ?_
    refine zV_ls [1, 2, 3, 0] rfl ?_
    refine (zV_loop (Vh := fun s8 : Int => z32 s8 → zV zmX2_liftsAt nn 0 0 Z 13 [(0, zR 100), (1, zR o1), (2, zI x2), (3, zI s8)] [] M Q) h (fun s8 P9 hP10 hc11 he12 => ?_)) (z32_w _)
    intro c13
    refine fX2_liftsAt_l13_ok hZ hn hz_o1 hw_o1 hx2 c13 hP10 hc11 (fun s14 h15 d16 => ?_) (fun r17 h18 => he12 _ h18)
    have h := he12 _ h15
    refine zV_iconst (v := 1) dX2_liftsAt_50 rfl ?_
    exact zV_iretb dX2_liftsAt_51 rfl (Or.inr rfl) h
  · replace h := zs_t h hc_
    refine zV_iconst (v := 1) dX2_liftsAt_7 rfl ?_
    exact zV_iretb dX2_liftsAt_8 rfl (Or.inr rfl) h
