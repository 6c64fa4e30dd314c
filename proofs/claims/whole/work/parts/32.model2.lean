noncomputable def fX12_warmth (x1 x2 : Int) (M : zMem) : Option (Int × zMem) :=
  (zbd (fX12_isBowl x1 (zup M 200 0 0)) fun r1 => (if r1 = 0 then some ((-1), (zup M 200 0 0)) else (zbd (fX12_isBeat x2 (zup M 200 0 0)) fun r5 => (if r5 = 0 then some ((-1), (zup M 200 0 0)) else (zbd (fX12_warms (zup M 200 0 0)) fun M12 => (zgd ((0 : Int) ≤ ((200 * x1) + x2) ∧ ((200 * x1) + x2) < 2400) (some ((M12 250 ((200 * x1) + x2)), M12))))))))
set_option maxRecDepth 100000 in
set_option maxHeartbeats 4000000 in
theorem fX12_warmth_ok {Z : zZ} (hZ : zB Z) {nn : Nat} (hn : 4 ≤ nn)  {x1 x2 : Int} (hx1 : z32 x1) (hx2 : z32 x2) {M : zMem} {Q : Option zAV → zMem → zZ → Prop} (h : zSat (fX12_warmth x1 x2 M) (fun r => Q (some (zI r.1)) r.2 Z))  : zV zmX12_warmth nn 0 0 Z 0 [(0, zR 200), (1, zI x1), (2, zI x2)] [] M Q := by
  unfold fX12_warmth at h
  refine zV_aload_n 0 dX12_warmth_0 rfl rfl ?_
  refine zV_iconst (v := 0) dX12_warmth_1 rfl ?_
  refine zV_putI (zq_200 hZ) (by decide) zf_X12_0 zkf_X12_157 rfl dX12_warmth_2 zi_0 ?_
  refine zV_aload_n 0 dX12_warmth_5 rfl rfl ?_
  refine zV_iload_n 1 dX12_warmth_6 rfl rfl ?_
  refine zV_cVI (y' := zmX12_isBowl) (n' := 0) (As := [zI x1]) zc_X12_346 (zq_200 hZ) rfl dX12_warmth_7 (Nat.le_trans (by decide) hn) rfl (Nat.le_of_ble_eq_true rfl) (Nat.le_of_ble_eq_true rfl) rfl h (fun Q' h' => fX12_isBowl_ok hZ (Nat.le_refl _) hx1 h') (fun r1 c2 b3 h => ?_)
  refine zV_if_eq 20 dX12_warmth_10 (by decide) c2 (fun hc_ => ?_) (fun hc_ => ?_)
  · replace h := zs_t h hc_
    refine zV_iconst (v := (-1)) dX12_warmth_20 rfl ?_
    exact zV_ireti dX12_warmth_21 rfl zi_n1 h
  · replace h := zs_f h hc_
    refine zV_iload_n 2 dX12_warmth_13 rfl rfl ?_
    refine zV_cSI (y' := zmX12_isBeat) (n' := 0) (As := [zI x2]) zc_X12_355 dX12_warmth_14 (Nat.le_trans (by decide) hn) rfl (Nat.le_of_ble_eq_true rfl) (Nat.le_of_ble_eq_true rfl) rfl h (fun Q' h' => fX12_isBeat_ok hZ (Nat.le_refl _) hx2 h') (fun r5 c6 b7 h => ?_)
    refine zV_if_ne 22 dX12_warmth_17 (by decide) c6 (fun hc_ => ?_) (fun hc_ => ?_)
    · replace h := zs_f h hc_
      refine zV_aload_n 0 dX12_warmth_22 rfl rfl ?_
      refine zV_cVV (y' := zmX12_warms) (n' := 3) (As := []) zc_X12_377 (zq_200 hZ) rfl dX12_warmth_23 (Nat.le_trans (by decide) hn) rfl (Nat.le_of_ble_eq_true rfl) (Nat.le_of_ble_eq_true rfl) rfl h (fun Q' h' => fX12_warms_ok hZ (Nat.le_refl _)  h') (fun M12 h => ?_)
      refine zV_aload_n 0 dX12_warmth_26 rfl rfl ?_
      refine zV_getR (j := 250) (zq_200 hZ) zf_X12_49 zkf_X12_123 rfl dX12_warmth_27 ?_
      refine zV_sipush (v := 200) dX12_warmth_30 rfl ?_
      refine zV_iload_n 1 dX12_warmth_33 rfl rfl ?_
      refine zV_imul dX12_warmth_34 ?_
      refine zV_iload_n 2 dX12_warmth_35 rfl rfl ?_
      refine zV_iadd dX12_warmth_36 ?_
      obtain ⟨hg, h⟩ := zs_gd h
      refine zV_iald (zq_250 hZ) hg dX12_warmth_37 (fun m13 => ?_)
      exact zV_ireti dX12_warmth_38 rfl m13 h
    · replace h := zs_t h hc_
      refine zV_iconst (v := (-1)) dX12_warmth_20 rfl ?_
      exact zV_ireti dX12_warmth_21 rfl zi_n1 h
noncomputable def fX12_cracked (x1 : Int) (M : zMem) : Option (Int × zMem) :=
  (zbd (fX12_isBowl x1 (zup M 200 0 0)) fun r1 => (if r1 = 0 then some ((-1), (zup M 200 0 0)) else (zbd (fX12_warms (zup M 200 0 0)) fun M8 => (zgd ((0 : Int) ≤ x1 ∧ x1 < 12) (if (M8 251 x1) = 100000000 then some ((-1), M8) else (zgd ((0 : Int) ≤ x1 ∧ x1 < 12) (some ((M8 251 x1), M8))))))))
set_option maxRecDepth 100000 in
set_option maxHeartbeats 4000000 in
theorem fX12_cracked_ok {Z : zZ} (hZ : zB Z) {nn : Nat} (hn : 4 ≤ nn)  {x1 : Int} (hx1 : z32 x1) {M : zMem} {Q : Option zAV → zMem → zZ → Prop} (h : zSat (fX12_cracked x1 M) (fun r => Q (some (zI r.1)) r.2 Z))  : zV zmX12_cracked nn 0 0 Z 0 [(0, zR 200), (1, zI x1)] [] M Q := by
  unfold fX12_cracked at h
  refine zV_aload_n 0 dX12_cracked_0 rfl rfl ?_
  refine zV_iconst (v := 0) dX12_cracked_1 rfl ?_
  refine zV_putI (zq_200 hZ) (by decide) zf_X12_0 zkf_X12_157 rfl dX12_cracked_2 zi_0 ?_
  refine zV_aload_n 0 dX12_cracked_5 rfl rfl ?_
  refine zV_iload_n 1 dX12_cracked_6 rfl rfl ?_
  refine zV_cVI (y' := zmX12_isBowl) (n' := 0) (As := [zI x1]) zc_X12_346 (zq_200 hZ) rfl dX12_cracked_7 (Nat.le_trans (by decide) hn) rfl (Nat.le_of_ble_eq_true rfl) (Nat.le_of_ble_eq_true rfl) rfl h (fun Q' h' => fX12_isBowl_ok hZ (Nat.le_refl _) hx1 h') (fun r1 c2 b3 h => ?_)
  refine zV_if_ne 15 dX12_cracked_10 (by decide) c2 (fun hc_ => ?_) (fun hc_ => ?_)
  · replace h := zs_f h hc_
    refine zV_aload_n 0 dX12_cracked_15 rfl rfl ?_
    refine zV_cVV (y' := zmX12_warms) (n' := 3) (As := []) zc_X12_377 (zq_200 hZ) rfl dX12_cracked_16 (Nat.le_trans (by decide) hn) rfl (Nat.le_of_ble_eq_true rfl) (Nat.le_of_ble_eq_true rfl) rfl h (fun Q' h' => fX12_warms_ok hZ (Nat.le_refl _)  h') (fun M8 h => ?_)
    refine zV_aload_n 0 dX12_cracked_19 rfl rfl ?_
    refine zV_getR (j := 251) (zq_200 hZ) zf_X12_50 zkf_X12_126 rfl dX12_cracked_20 ?_
    refine zV_iload_n 1 dX12_cracked_23 rfl rfl ?_
    obtain ⟨hg, h⟩ := zs_gd h
    refine zV_iald (zq_251 hZ) hg dX12_cracked_24 (fun m9 => ?_)
    refine zV_ldcw (v := 100000000) zko_X12_371 rfl dX12_cracked_25 ?_
    refine zV_icmp_ne 35 dX12_cracked_28 (by decide) m9 zi_100000000 (fun hc_ => ?_) (fun hc_ => ?_)
    · replace h := zs_f h hc_
      refine zV_aload_n 0 dX12_cracked_35 rfl rfl ?_
      refine zV_getR (j := 251) (zq_200 hZ) zf_X12_50 zkf_X12_126 rfl dX12_cracked_36 ?_
      refine zV_iload_n 1 dX12_cracked_39 rfl rfl ?_
      obtain ⟨hg, h⟩ := zs_gd h
      refine zV_iald (zq_251 hZ) hg dX12_cracked_40 (fun m10 => ?_)
      exact zV_ireti dX12_cracked_41 rfl m10 h
    · replace h := zs_t h hc_
      refine zV_iconst (v := (-1)) dX12_cracked_31 rfl ?_
      refine zV_goto 41 dX12_cracked_32 (by decide) ?_
      exact zV_ireti dX12_cracked_41 rfl zi_n1 h
  · replace h := zs_t h hc_
    refine zV_iconst (v := (-1)) dX12_cracked_13 rfl ?_
    exact zV_ireti dX12_cracked_14 rfl zi_n1 h
noncomputable def fX12_worn_j71 (x1 x2 x3 x4 : Int) (M : zMem) : Option ((Int × Int × Int) ⊕ (Int × Int × Int)) :=
  some (.inl (x2, x4, (zw (x4 + 1))))
set_option maxRecDepth 100000 in
set_option maxHeartbeats 4000000 in
theorem fX12_worn_j71_ok {Z : zZ} (hZ : zB Z) {nn : Nat} (hn : 1 ≤ nn)  {x1 x2 x3 x4 : Int} (hx1 : z32 x1) (hx2 : z32 x2) (hx3 : z32 x3) (hx4 : z32 x4) {M : zMem} {Q : Option zAV → zMem → zZ → Prop} {P : (Int × Int × Int) ⊕ (Int × Int × Int) → Prop} (h : zSat (fX12_worn_j71 x1 x2 x3 x4 M) P)  (hc : ∀ s : Int × Int × Int, P (.inl s) → z32 (s.1) → z32 (s.2.1) → z32 (s.2.2) → zV zmX12_worn nn 0 0 Z 7 [(0, zR 200), (1, zI x1), (2, zI (s.1)), (3, zI (s.2.1)), (4, zI (s.2.2))] [] M Q) (he : ∀ s : Int × Int × Int, P (.inr s) → z32 (s.1) → z32 (s.2.1) → z32 (s.2.2) → zV zmX12_worn nn 0 0 Z 80 [(0, zR 200), (1, zI x1), (2, zI (s.1)), (3, zI (s.2.1)), (4, zI (s.2.2))] [] M Q)   : zV zmX12_worn nn 0 0 Z 71 [(0, zR 200), (1, zI x1), (2, zI x2), (3, zI x3), (4, zI x4)] [] M Q := by
  unfold fX12_worn_j71 at h
  refine zV_iload 4 dX12_worn_71 rfl ?_
  refine zV_istore_n [(3, zI x4), (0, zR 200), (1, zI x1), (2, zI x2), (4, zI x4)] dX12_worn_73 rfl (by decide) rfl ?_
  refine zV_iinc 4 [(4, zI (zw (x4 + 1))), (3, zI x4), (0, zR 200), (1, zI x1), (2, zI x2)] dX12_worn_74 rfl rfl (by decide) rfl ?_
  refine zV_goto 7 dX12_worn_77 (by decide) ?_
  refine zV_ls [2, 3, 4, 1, 0] rfl ?_
  exact hc _ h hx2 hx4 (z32_w _)
noncomputable def fX12_worn_j70 (x1 x2 x3 x4 s0 : Int) (M : zMem) : Option ((Int × Int × Int) ⊕ (Int × Int × Int)) :=
  fX12_worn_j71 x1 s0 x3 x4 M
set_option maxRecDepth 100000 in
set_option maxHeartbeats 4000000 in
theorem fX12_worn_j70_ok {Z : zZ} (hZ : zB Z) {nn : Nat} (hn : 1 ≤ nn)  {x1 x2 x3 x4 s0 : Int} (hx1 : z32 x1) (hx2 : z32 x2) (hx3 : z32 x3) (hx4 : z32 x4) (hs0 : z32 s0) {M : zMem} {Q : Option zAV → zMem → zZ → Prop} {P : (Int × Int × Int) ⊕ (Int × Int × Int) → Prop} (h : zSat (fX12_worn_j70 x1 x2 x3 x4 s0 M) P)  (hc : ∀ s : Int × Int × Int, P (.inl s) → z32 (s.1) → z32 (s.2.1) → z32 (s.2.2) → zV zmX12_worn nn 0 0 Z 7 [(0, zR 200), (1, zI x1), (2, zI (s.1)), (3, zI (s.2.1)), (4, zI (s.2.2))] [] M Q) (he : ∀ s : Int × Int × Int, P (.inr s) → z32 (s.1) → z32 (s.2.1) → z32 (s.2.2) → zV zmX12_worn nn 0 0 Z 80 [(0, zR 200), (1, zI x1), (2, zI (s.1)), (3, zI (s.2.1)), (4, zI (s.2.2))] [] M Q)   : zV zmX12_worn nn 0 0 Z 70 [(0, zR 200), (1, zI x1), (2, zI x2), (3, zI x3), (4, zI x4)] [zI s0] M Q := by
  unfold fX12_worn_j70 at h
  refine zV_istore_n [(2, zI s0), (0, zR 200), (1, zI x1), (3, zI x3), (4, zI x4)] dX12_worn_70 rfl (by decide) rfl ?_
  refine zV_ls [1, 2, 0, 3, 4] rfl ?_
  exact fX12_worn_j71_ok hZ hn hx1 hs0 hx3 hx4 h hc he
noncomputable def fX12_worn_l7 (x1 x2 x3 x4 : Int) (M : zMem) : Option ((Int × Int × Int) ⊕ (Int × Int × Int)) :=
  (if x1 < x4 then some (.inr (x2, x3, x4)) else (zgd ((0 : Int) ≤ x4 ∧ x4 < 120) (zgd ((0 : Int) ≤ x1 ∧ x1 < 120) (if (M 249 x4) = (M 249 x1) then (if x3 < 0 then fX12_worn_j71 x1 x2 x3 x4 M else (zgd ((0 : Int) ≤ x4 ∧ x4 < 120) (zbd (fX12_endOf x3 M) fun r4 => (zgd ((0 : Int) ≤ (5 : Int) ∧ (5 : Int) < 66) (if (zw ((M 246 x4) - r4)) < (M 225 5) then (zgd ((0 : Int) ≤ x3 ∧ x3 < 120) (fX12_worn_j70 x1 x2 x3 x4 (zw (x2 + (M 247 x3))) M)) else fX12_worn_j70 x1 x2 x3 x4 0 M))))) else some (.inl (x2, x3, (zw (x4 + 1))))))))
set_option maxRecDepth 100000 in
set_option maxHeartbeats 4000000 in
theorem fX12_worn_l7_ok {Z : zZ} (hZ : zB Z) {nn : Nat} (hn : 1 ≤ nn)  {x1 x2 x3 x4 : Int} (hx1 : z32 x1) (hx2 : z32 x2) (hx3 : z32 x3) (hx4 : z32 x4) {M : zMem} {Q : Option zAV → zMem → zZ → Prop} {P : (Int × Int × Int) ⊕ (Int × Int × Int) → Prop} (h : zSat (fX12_worn_l7 x1 x2 x3 x4 M) P)  (hc : ∀ s : Int × Int × Int, P (.inl s) → z32 (s.1) → z32 (s.2.1) → z32 (s.2.2) → zV zmX12_worn nn 0 0 Z 7 [(0, zR 200), (1, zI x1), (2, zI (s.1)), (3, zI (s.2.1)), (4, zI (s.2.2))] [] M Q) (he : ∀ s : Int × Int × Int, P (.inr s) → z32 (s.1) → z32 (s.2.1) → z32 (s.2.2) → zV zmX12_worn nn 0 0 Z 80 [(0, zR 200), (1, zI x1), (2, zI (s.1)), (3, zI (s.2.1)), (4, zI (s.2.2))] [] M Q)   : zV zmX12_worn nn 0 0 Z 7 [(0, zR 200), (1, zI x1), (2, zI x2), (3, zI x3), (4, zI x4)] [] M Q := by
  unfold fX12_worn_l7 at h
  refine zV_iload 4 dX12_worn_7 rfl ?_
  refine zV_iload_n 1 dX12_worn_9 rfl rfl ?_
  refine zV_icmp_gt 80 dX12_worn_10 (by decide) hx4 hx1 (fun hc_ => ?_) (fun hc_ => ?_)
  · replace h := zs_t h hc_
    exact he _ h hx2 hx3 hx4
  · replace h := zs_f h hc_
    refine zV_aload_n 0 dX12_worn_13 rfl rfl ?_
    refine zV_getR (j := 249) (zq_200 hZ) zf_X12_48 zkf_X12_120 rfl dX12_worn_14 ?_
    refine zV_iload 4 dX12_worn_17 rfl ?_
    obtain ⟨hg, h⟩ := zs_gd h
    refine zV_iald (zq_249 hZ) hg dX12_worn_19 (fun m1 => ?_)
    refine zV_aload_n 0 dX12_worn_20 rfl rfl ?_
    refine zV_getR (j := 249) (zq_200 hZ) zf_X12_48 zkf_X12_120 rfl dX12_worn_21 ?_
    refine zV_iload_n 1 dX12_worn_24 rfl rfl ?_
    obtain ⟨hg, h⟩ := zs_gd h
    refine zV_iald (zq_249 hZ) hg dX12_worn_25 (fun m2 => ?_)
    refine zV_icmp_eq 32 dX12_worn_26 (by decide) m1 m2 (fun hc_ => ?_) (fun hc_ => ?_)
    · replace h := zs_t h hc_
      refine zV_iload_n 3 dX12_worn_32 rfl rfl ?_
      refine zV_if_lt 71 dX12_worn_33 (by decide) hx3 (fun hc_ => ?_) (fun hc_ => ?_)
      · replace h := zs_t h hc_
        exact fX12_worn_j71_ok hZ hn hx1 hx2 hx3 hx4 h hc he
      · replace h := zs_f h hc_
        refine zV_aload_n 0 dX12_worn_36 rfl rfl ?_
        refine zV_getR (j := 246) (zq_200 hZ) zf_X12_45 zkf_X12_111 rfl dX12_worn_37 ?_
        refine zV_iload 4 dX12_worn_40 rfl ?_
        obtain ⟨hg, h⟩ := zs_gd h
        refine zV_iald (zq_246 hZ) hg dX12_worn_42 (fun m3 => ?_)
        refine zV_aload_n 0 dX12_worn_43 rfl rfl ?_
        refine zV_iload_n 3 dX12_worn_44 rfl rfl ?_
        refine zV_cVI (y' := zmX12_endOf) (n' := 0) (As := [zI x3]) zc_X12_349 (zq_200 hZ) rfl dX12_worn_45 (Nat.le_trans (by decide) hn) rfl (Nat.le_of_ble_eq_true rfl) (Nat.le_of_ble_eq_true rfl) rfl h (fun Q' h' => fX12_endOf_ok hZ (Nat.le_refl _) hx3 h') (fun r4 c5 b6 h => ?_)
        refine zV_isub dX12_worn_48 ?_
        refine zV_aload_n 0 dX12_worn_49 rfl rfl ?_
        refine zV_getR (j := 225) (zq_200 hZ) zf_X12_24 zkf_X12_56 rfl dX12_worn_50 ?_
        refine zV_iconst (v := 5) dX12_worn_53 rfl ?_
        obtain ⟨hg, h⟩ := zs_gd h
        refine zV_iald (zq_225 hZ) hg dX12_worn_54 (fun m8 => ?_)
        refine zV_w2 ?_
        refine zV_icmp_lt 62 dX12_worn_55 (by decide) (z32_w _) m8 (fun hc_ => ?_) (fun hc_ => ?_)
        · replace h := zs_t h hc_
          refine zV_iload_n 2 dX12_worn_62 rfl rfl ?_
          refine zV_aload_n 0 dX12_worn_63 rfl rfl ?_
          refine zV_getR (j := 247) (zq_200 hZ) zf_X12_46 zkf_X12_114 rfl dX12_worn_64 ?_
          refine zV_iload_n 3 dX12_worn_67 rfl rfl ?_
          obtain ⟨hg, h⟩ := zs_gd h
          refine zV_iald (zq_247 hZ) hg dX12_worn_68 (fun m9 => ?_)
          refine zV_iadd dX12_worn_69 ?_
          refine zV_w ?_
          exact fX12_worn_j70_ok hZ hn hx1 hx2 hx3 hx4 (z32_w _) h hc he
        · replace h := zs_f h hc_
          refine zV_iconst (v := 0) dX12_worn_58 rfl ?_
          refine zV_goto 70 dX12_worn_59 (by decide) ?_
          exact fX12_worn_j70_ok hZ hn hx1 hx2 hx3 hx4 zi_0 h hc he
    · replace h := zs_f h hc_
      refine zV_goto 74 dX12_worn_29 (by decide) ?_
      refine zV_iinc 4 [(4, zI (zw (x4 + 1))), (0, zR 200), (1, zI x1), (2, zI x2), (3, zI x3)] dX12_worn_74 rfl rfl (by decide) rfl ?_
      refine zV_goto 7 dX12_worn_77 (by decide) ?_
      refine zV_ls [1, 2, 3, 4, 0] rfl ?_
      exact hc _ h hx2 hx3 (z32_w _)
noncomputable def fX12_worn (x1 : Int) (M : zMem) : Option (Int) :=
  (zbd (zit (fun s10 => fX12_worn_l7 x1 (s10.1) (s10.2.1) (s10.2.2) M) (0, (-1), 0)) fun s18 => some (s18.1))
set_option maxRecDepth 100000 in
set_option maxHeartbeats 4000000 in
theorem fX12_worn_ok {Z : zZ} (hZ : zB Z) {nn : Nat} (hn : 1 ≤ nn)  {x1 : Int} (hx1 : z32 x1) {M : zMem} {Q : Option zAV → zMem → zZ → Prop} (h : zSat (fX12_worn x1 M) (fun r => Q (some (zI r)) M Z))  : zV zmX12_worn nn 0 0 Z 0 [(0, zR 200), (1, zI x1)] [] M Q := by
  unfold fX12_worn at h
  refine zV_iconst (v := 0) dX12_worn_0 rfl ?_
  refine zV_istore_n [(2, zI 0), (0, zR 200), (1, zI x1)] dX12_worn_1 rfl (by decide) rfl ?_
  refine zV_iconst (v := (-1)) dX12_worn_2 rfl ?_
  refine zV_istore_n [(3, zI (-1)), (2, zI 0), (0, zR 200), (1, zI x1)] dX12_worn_3 rfl (by decide) rfl ?_
  refine zV_iconst (v := 0) dX12_worn_4 rfl ?_
  refine zV_istore [(4, zI 0), (3, zI (-1)), (2, zI 0), (0, zR 200), (1, zI x1)] dX12_worn_5 (by decide) rfl ?_
  refine zV_ls [3, 4, 2, 1, 0] rfl ?_
  refine (zV_loop (Vh := fun s10 : Int × Int × Int => z32 (s10.1) → z32 (s10.2.1) → z32 (s10.2.2) → zV zmX12_worn nn 0 0 Z 7 [(0, zR 200), (1, zI x1), (2, zI (s10.1)), (3, zI (s10.2.1)), (4, zI (s10.2.2))] [] M Q) h (fun s10 P11 hP12 hc13 he14 => ?_)) zi_0 zi_n1 zi_0
  intro c15 c16 c17
  refine fX12_worn_l7_ok hZ hn hx1 c15 c16 c17 hP12 hc13 (fun s18 h19 d20 d21 d22 => ?_)
  have h := he14 _ h19
  refine zV_iload_n 2 dX12_worn_80 rfl rfl ?_
  exact zV_ireti dX12_worn_81 rfl d20 h
noncomputable def fX12_isDry (x1 x2 : Int) (M : zMem) : Option (Int) :=
  (zgd ((0 : Int) ≤ x1 ∧ x1 < 120) (if (M 249 x1) < 0 then some 0 else (zbd (fX12_worn x1 M) fun r2 => (zgd ((0 : Int) ≤ x1 ∧ x1 < 120) (zgd ((0 : Int) ≤ (4 : Int) ∧ (4 : Int) < 66) (if (zw ((r2 + x2) - (M 246 x1))) < (M 225 4) then some 0 else some 1))))))
set_option maxRecDepth 100000 in
set_option maxHeartbeats 4000000 in
theorem fX12_isDry_ok {Z : zZ} (hZ : zB Z) {nn : Nat} (hn : 2 ≤ nn)  {x1 x2 : Int} (hx1 : z32 x1) (hx2 : z32 x2) {M : zMem} {Q : Option zAV → zMem → zZ → Prop} (h : zSat (fX12_isDry x1 x2 M) (fun r => Q (some (zI r)) M Z))  : zV zmX12_isDry nn 0 0 Z 0 [(0, zR 200), (1, zI x1), (2, zI x2)] [] M Q := by
  unfold fX12_isDry at h
  refine zV_aload_n 0 dX12_isDry_0 rfl rfl ?_
  refine zV_getR (j := 249) (zq_200 hZ) zf_X12_48 zkf_X12_120 rfl dX12_isDry_1 ?_
  refine zV_iload_n 1 dX12_isDry_4 rfl rfl ?_
  obtain ⟨hg, h⟩ := zs_gd h
  refine zV_iald (zq_249 hZ) hg dX12_isDry_5 (fun m1 => ?_)
  refine zV_if_lt 36 dX12_isDry_6 (by decide) m1 (fun hc_ => ?_) (fun hc_ => ?_)
  · replace h := zs_t h hc_
    refine zV_iconst (v := 0) dX12_isDry_36 rfl ?_
    exact zV_iretb dX12_isDry_37 rfl (Or.inl rfl) h
  · replace h := zs_f h hc_
    refine zV_aload_n 0 dX12_isDry_9 rfl rfl ?_
    refine zV_iload_n 1 dX12_isDry_10 rfl rfl ?_
    refine zV_cVI (y' := zmX12_worn) (n' := 1) (As := [zI x1]) zc_X12_380 (zq_200 hZ) rfl dX12_isDry_11 (Nat.le_trans (by decide) hn) rfl (Nat.le_of_ble_eq_true rfl) (Nat.le_of_ble_eq_true rfl) rfl h (fun Q' h' => fX12_worn_ok hZ (Nat.le_refl _) hx1 h') (fun r2 c3 b4 h => ?_)
    refine zV_iload_n 2 dX12_isDry_14 rfl rfl ?_
    refine zV_iadd dX12_isDry_15 ?_
    refine zV_aload_n 0 dX12_isDry_16 rfl rfl ?_
    refine zV_getR (j := 246) (zq_200 hZ) zf_X12_45 zkf_X12_111 rfl dX12_isDry_17 ?_
    refine zV_iload_n 1 dX12_isDry_20 rfl rfl ?_
    obtain ⟨hg, h⟩ := zs_gd h
    refine zV_iald (zq_246 hZ) hg dX12_isDry_21 (fun m6 => ?_)
    refine zV_isub dX12_isDry_22 ?_
    refine zV_aload_n 0 dX12_isDry_23 rfl rfl ?_
    refine zV_getR (j := 225) (zq_200 hZ) zf_X12_24 zkf_X12_56 rfl dX12_isDry_24 ?_
    refine zV_iconst (v := 4) dX12_isDry_27 rfl ?_
    obtain ⟨hg, h⟩ := zs_gd h
    refine zV_iald (zq_225 hZ) hg dX12_isDry_28 (fun m7 => ?_)
    refine zV_w2 ?_
    refine zV_icmp_lt 36 dX12_isDry_29 (by decide) (z32_w _) m7 (fun hc_ => ?_) (fun hc_ => ?_)
    · replace h := zs_t h hc_
      refine zV_iconst (v := 0) dX12_isDry_36 rfl ?_
      exact zV_iretb dX12_isDry_37 rfl (Or.inl rfl) h
    · replace h := zs_f h hc_
      refine zV_iconst (v := 1) dX12_isDry_32 rfl ?_
      refine zV_goto 37 dX12_isDry_33 (by decide) ?_
      exact zV_iretb dX12_isDry_37 rfl (Or.inr rfl) h
noncomputable def fX12_whyIn_l144 (x5 : Int) (M : zMem) : Option ((Int × zMem) ⊕ ((Int × zMem) ⊕ (Int × zMem))) :=
  (zgd ((0 : Int) ≤ (0 : Int) ∧ (0 : Int) < 6) (if (M 213 0) ≤ x5 then some (.inr (.inl (x5, M))) else (zbd2 (fX12_worked x5 M) fun r16 M19 => (if r16 = 0 then some (.inr (.inr (4, M19))) else some (.inl ((zw (x5 + 1)), M19))))))
set_option maxRecDepth 100000 in
set_option maxHeartbeats 4000000 in
theorem fX12_whyIn_l144_ok {Z : zZ} (hZ : zB Z) {nn : Nat} (hn : 3 ≤ nn)  {x5 : Int} (hx5 : z32 x5) {M : zMem} {Q : Option zAV → zMem → zZ → Prop} {P : (Int × zMem) ⊕ ((Int × zMem) ⊕ (Int × zMem)) → Prop} (h : zSat (fX12_whyIn_l144 x5 M) P)  (hc : ∀ s : Int × zMem, P (.inl s) → z32 (s.1) → zV zmX12_whyIn nn 0 0 Z 144 [(0, zR 200), (5, zI (s.1))] [] (s.2) Q) (he : ∀ s : Int × zMem, P (.inr (.inl s)) → z32 (s.1) → zV zmX12_whyIn nn 0 0 Z 172 [(0, zR 200), (5, zI (s.1))] [] (s.2) Q) (hr : ∀ r : Int × zMem, P (.inr (.inr r)) → (fun r => Q (some (zI r.1)) r.2 Z) r)  : zV zmX12_whyIn nn 0 0 Z 144 [(0, zR 200), (5, zI x5)] [] M Q := by
  unfold fX12_whyIn_l144 at h
  refine zV_iload 1 dX12_whyIn_144 rfl ?_
  refine zV_aload_n 0 dX12_whyIn_146 rfl rfl ?_
  refine zV_getR (j := 213) (zq_200 hZ) zf_X12_12 zkf_X12_19 rfl dX12_whyIn_147 ?_
  refine zV_iconst (v := 0) dX12_whyIn_150 rfl ?_
  obtain ⟨hg, h⟩ := zs_gd h
  refine zV_iald (zq_213 hZ) hg dX12_whyIn_151 (fun m15 => ?_)
  refine zV_icmp_ge 172 dX12_whyIn_152 (by decide) hx5 m15 (fun hc_ => ?_) (fun hc_ => ?_)
  · replace h := zs_t h hc_
    exact he _ h hx5
  · replace h := zs_f h hc_
    refine zV_aload_n 0 dX12_whyIn_155 rfl rfl ?_
    refine zV_iload 1 dX12_whyIn_156 rfl ?_
    refine zV_cVIm (y' := zmX12_worked) (n' := 2) (As := [zI x5]) zc_X12_386 (zq_200 hZ) rfl dX12_whyIn_158 (Nat.le_trans (by decide) hn) rfl (Nat.le_of_ble_eq_true rfl) (Nat.le_of_ble_eq_true rfl) rfl h (fun Q' h' => fX12_worked_ok hZ (Nat.le_refl _) hx5 h') (fun r16 M19 c17 b18 h => ?_)
    refine zV_if_ne 166 dX12_whyIn_161 (by decide) c17 (fun hc_ => ?_) (fun hc_ => ?_)
    · replace h := zs_f h hc_
      refine zV_iinc 1 [(5, zI (zw (x5 + 1))), (0, zR 200)] dX12_whyIn_166 rfl rfl (by decide) rfl ?_
      refine zV_goto 144 dX12_whyIn_169 (by decide) ?_
      refine zV_ls [1, 0] rfl ?_
      exact hc _ h (z32_w _)
    · replace h := zs_t h hc_
      refine zV_iconst (v := 4) dX12_whyIn_164 rfl ?_
      exact zV_ireti dX12_whyIn_165 rfl zi_4 (hr _ h)
noncomputable def fX12_whyIn_j93 (x1 x2 x4 s0 s1 s2 : Int) (M : zMem) : Option (Int × zMem) :=
  (zgd ((0 : Int) ≤ s2 ∧ s2 < 20) (zgd ((0 : Int) ≤ ((200 * x4) + x2) ∧ ((200 * x4) + x2) < 2400) (zgd ((0 : Int) ≤ (3 : Int) ∧ (3 : Int) < 20) (zgd ((0 : Int) ≤ x1 ∧ x1 < 120) (zgd ((0 : Int) ≤ (4 : Int) ∧ (4 : Int) < 20) (zgd ((0 : Int) ≤ x4 ∧ x4 < 72) (zgd ((0 : Int) ≤ (5 : Int) ∧ (5 : Int) < 20) (zbd (zit (fun s20 => fX12_whyIn_l144 (s20.1) (s20.2)) (0, (zup (zup (zup (zup M 242 s2 (zw (s1 - s0))) 242 3 ((zup M 242 s2 (zw (s1 - s0))) 250 ((200 * x4) + x2))) 242 4 (zw (x2 - ((zup (zup M 242 s2 (zw (s1 - s0))) 242 3 ((zup M 242 s2 (zw (s1 - s0))) 250 ((200 * x4) + x2))) 246 x1)))) 242 5 ((zup (zup (zup M 242 s2 (zw (s1 - s0))) 242 3 ((zup M 242 s2 (zw (s1 - s0))) 250 ((200 * x4) + x2))) 242 4 (zw (x2 - ((zup (zup M 242 s2 (zw (s1 - s0))) 242 3 ((zup M 242 s2 (zw (s1 - s0))) 250 ((200 * x4) + x2))) 246 x1)))) 217 x4)))) fun e => zel e (fun s26 => some (0, s26.2)) (fun r => some r)))))))))
set_option maxRecDepth 100000 in
set_option maxHeartbeats 4000000 in
theorem fX12_whyIn_j93_ok {Z : zZ} (hZ : zB Z) {nn : Nat} (hn : 3 ≤ nn)  {x1 x2 x4 s0 s1 s2 : Int} (hx1 : z32 x1) (hx2 : z32 x2) (hx4 : z32 x4) (hs0 : z32 s0) (hbs0 : s0 = 0 ∨ s0 = 1) (hs1 : z32 s1) (hs2 : z32 s2) {M : zMem} {Q : Option zAV → zMem → zZ → Prop} (h : zSat (fX12_whyIn_j93 x1 x2 x4 s0 s1 s2 M) (fun r => Q (some (zI r.1)) r.2 Z))  : zV zmX12_whyIn nn 0 0 Z 93 [(0, zR 200), (1, zI x1), (2, zI x2), (4, zI x4)] [zI s0, zI s1, zI s2, zR 242] M Q := by
  unfold fX12_whyIn_j93 at h
  refine zV_isub dX12_whyIn_93 ?_
  refine zV_w ?_
  obtain ⟨hg, h⟩ := zs_gd h
  refine zV_iast (zq_242 hZ) (by decide) hg (z32_w _) dX12_whyIn_94 ?_
  refine zV_aload_n 0 dX12_whyIn_95 rfl rfl ?_
  refine zV_getR (j := 242) (zq_200 hZ) zf_X12_41 zkf_X12_105 rfl dX12_whyIn_96 ?_
  refine zV_iconst (v := 3) dX12_whyIn_99 rfl ?_
  refine zV_aload_n 0 dX12_whyIn_100 rfl rfl ?_
  refine zV_getR (j := 250) (zq_200 hZ) zf_X12_49 zkf_X12_123 rfl dX12_whyIn_101 ?_
  refine zV_sipush (v := 200) dX12_whyIn_104 rfl ?_
  refine zV_iload 3 dX12_whyIn_107 rfl ?_
  refine zV_imul dX12_whyIn_109 ?_
  refine zV_iload_n 2 dX12_whyIn_110 rfl rfl ?_
  refine zV_iadd dX12_whyIn_111 ?_
  obtain ⟨hg, h⟩ := zs_gd h
  refine zV_iald (zq_250 hZ) hg dX12_whyIn_112 (fun m12 => ?_)
  obtain ⟨hg, h⟩ := zs_gd h
  refine zV_iast (zq_242 hZ) (by decide) hg m12 dX12_whyIn_113 ?_
  refine zV_aload_n 0 dX12_whyIn_114 rfl rfl ?_
  refine zV_getR (j := 242) (zq_200 hZ) zf_X12_41 zkf_X12_105 rfl dX12_whyIn_115 ?_
  refine zV_iconst (v := 4) dX12_whyIn_118 rfl ?_
  refine zV_iload_n 2 dX12_whyIn_119 rfl rfl ?_
  refine zV_aload_n 0 dX12_whyIn_120 rfl rfl ?_
  refine zV_getR (j := 246) (zq_200 hZ) zf_X12_45 zkf_X12_111 rfl dX12_whyIn_121 ?_
  refine zV_iload_n 1 dX12_whyIn_124 rfl rfl ?_
  obtain ⟨hg, h⟩ := zs_gd h
  refine zV_iald (zq_246 hZ) hg dX12_whyIn_125 (fun m13 => ?_)
  refine zV_isub dX12_whyIn_126 ?_
  refine zV_w ?_
  obtain ⟨hg, h⟩ := zs_gd h
  refine zV_iast (zq_242 hZ) (by decide) hg (z32_w _) dX12_whyIn_127 ?_
  refine zV_aload_n 0 dX12_whyIn_128 rfl rfl ?_
  refine zV_getR (j := 242) (zq_200 hZ) zf_X12_41 zkf_X12_105 rfl dX12_whyIn_129 ?_
  refine zV_iconst (v := 5) dX12_whyIn_132 rfl ?_
  refine zV_aload_n 0 dX12_whyIn_133 rfl rfl ?_
  refine zV_getR (j := 217) (zq_200 hZ) zf_X12_16 zkf_X12_32 rfl dX12_whyIn_134 ?_
  refine zV_iload 3 dX12_whyIn_137 rfl ?_
  obtain ⟨hg, h⟩ := zs_gd h
  refine zV_iald (zq_217 hZ) hg dX12_whyIn_139 (fun m14 => ?_)
  obtain ⟨hg, h⟩ := zs_gd h
  refine zV_iast (zq_242 hZ) (by decide) hg m14 dX12_whyIn_140 ?_
  refine zV_iconst (v := 0) dX12_whyIn_141 rfl ?_
  refine zV_istore [(5, zI 0), (0, zR 200), (1, zI x1), (2, zI x2), (4, zI x4)] dX12_whyIn_142 (by decide) rfl ?_
  refine zV_ls [1, 0] rfl ?_
  refine (zV_loop (Vh := fun s20 : Int × zMem => z32 (s20.1) → zV zmX12_whyIn nn 0 0 Z 144 [(0, zR 200), (5, zI (s20.1))] [] (s20.2) Q) h (fun s20 P21 hP22 hc23 he24 => ?_)) zi_0
  intro c25
  refine fX12_whyIn_l144_ok hZ hn c25 hP22 hc23 (fun s26 h27 d28 => ?_) (fun r29 h30 => he24 _ h30)
  have h := he24 _ h27
  refine zV_iconst (v := 0) dX12_whyIn_172 rfl ?_
  exact zV_ireti dX12_whyIn_173 rfl zi_0 h
noncomputable def fX12_whyIn (x1 x2 x3 : Int) (M : zMem) : Option (Int × zMem) :=
  (zgd ((0 : Int) ≤ x1 ∧ x1 < 120) (zgd ((0 : Int) ≤ x1 ∧ x1 < 120) (zgd ((0 : Int) ≤ (3 : Int) ∧ (3 : Int) < 66) (if (M 225 3) ≤ (zw (x2 - (M 246 x1))) then (zgd ((0 : Int) ≤ (M 245 x1) ∧ (M 245 x1) < 12) (if x2 < (M 251 (M 245 x1)) then (zbd (fX12_isDry x1 x2 M) fun r5 => (if r5 = 0 then (zgd ((0 : Int) ≤ (M 245 x1) ∧ (M 245 x1) < 72) (zgd ((0 : Int) ≤ (1 : Int) ∧ (1 : Int) < 20) (zgd ((0 : Int) ≤ x1 ∧ x1 < 120) (zgd ((0 : Int) ≤ (M 245 x1) ∧ (M 245 x1) < 72) (if ((zup M 242 1 (zw ((M 216 (M 245 x1)) * x3))) 218 (M 245 x1)) = 2 then fX12_whyIn_j93 x1 x2 (M 245 x1) 1 ((zup M 242 1 (zw ((M 216 (M 245 x1)) * x3))) 248 x1) 2 (zup M 242 1 (zw ((M 216 (M 245 x1)) * x3))) else fX12_whyIn_j93 x1 x2 (M 245 x1) 0 ((zup M 242 1 (zw ((M 216 (M 245 x1)) * x3))) 248 x1) 2 (zup M 242 1 (zw ((M 216 (M 245 x1)) * x3)))))))) else some (3, M))) else some (2, M))) else some (1, M)))))
set_option maxRecDepth 100000 in
set_option maxHeartbeats 4000000 in
theorem fX12_whyIn_ok {Z : zZ} (hZ : zB Z) {nn : Nat} (hn : 3 ≤ nn)  {x1 x2 x3 : Int} (hx1 : z32 x1) (hx2 : z32 x2) (hx3 : z32 x3) {M : zMem} {Q : Option zAV → zMem → zZ → Prop} (h : zSat (fX12_whyIn x1 x2 x3 M) (fun r => Q (some (zI r.1)) r.2 Z))  : zV zmX12_whyIn nn 0 0 Z 0 [(0, zR 200), (1, zI x1), (2, zI x2), (3, zI x3)] [] M Q := by
  unfold fX12_whyIn at h
  refine zV_aload_n 0 dX12_whyIn_0 rfl rfl ?_
  refine zV_getR (j := 245) (zq_200 hZ) zf_X12_44 zkf_X12_108 rfl dX12_whyIn_1 ?_
  refine zV_iload_n 1 dX12_whyIn_4 rfl rfl ?_
  obtain ⟨hg, h⟩ := zs_gd h
  refine zV_iald (zq_245 hZ) hg dX12_whyIn_5 (fun m1 => ?_)
  refine zV_istore [(4, zI (M 245 x1)), (0, zR 200), (1, zI x1), (2, zI x2), (3, zI x3)] dX12_whyIn_6 (by decide) rfl ?_
  refine zV_iload_n 3 dX12_whyIn_8 rfl rfl ?_
  refine zV_aload_n 1 dX12_whyIn_9 rfl rfl ?_
  refine zV_getR (j := 246) (zq_200 hZ) zf_X12_45 zkf_X12_111 rfl dX12_whyIn_10 ?_
  refine zV_iload_n 2 dX12_whyIn_13 rfl rfl ?_
  obtain ⟨hg, h⟩ := zs_gd h
  refine zV_iald (zq_246 hZ) hg dX12_whyIn_14 (fun m2 => ?_)
  refine zV_isub dX12_whyIn_15 ?_
  refine zV_aload_n 1 dX12_whyIn_16 rfl rfl ?_
  refine zV_getR (j := 225) (zq_200 hZ) zf_X12_24 zkf_X12_56 rfl dX12_whyIn_17 ?_
  refine zV_iconst (v := 3) dX12_whyIn_20 rfl ?_
  obtain ⟨hg, h⟩ := zs_gd h
  refine zV_iald (zq_225 hZ) hg dX12_whyIn_21 (fun m3 => ?_)
  refine zV_w2 ?_
  refine zV_icmp_ge 27 dX12_whyIn_22 (by decide) (z32_w _) m3 (fun hc_ => ?_) (fun hc_ => ?_)
  · replace h := zs_t h hc_
    refine zV_iload_n 3 dX12_whyIn_27 rfl rfl ?_
    refine zV_aload_n 1 dX12_whyIn_28 rfl rfl ?_
    refine zV_getR (j := 251) (zq_200 hZ) zf_X12_50 zkf_X12_126 rfl dX12_whyIn_29 ?_
    refine zV_iload 0 dX12_whyIn_32 rfl ?_
    obtain ⟨hg, h⟩ := zs_gd h
    refine zV_iald (zq_251 hZ) hg dX12_whyIn_34 (fun m4 => ?_)
    refine zV_icmp_lt 40 dX12_whyIn_35 (by decide) hx2 m4 (fun hc_ => ?_) (fun hc_ => ?_)
    · replace h := zs_t h hc_
      refine zV_aload_n 1 dX12_whyIn_40 rfl rfl ?_
      refine zV_iload_n 2 dX12_whyIn_41 rfl rfl ?_
      refine zV_iload_n 3 dX12_whyIn_42 rfl rfl ?_
      refine zV_cVI (y' := zmX12_isDry) (n' := 2) (As := [zI x1, zI x2]) zc_X12_383 (zq_200 hZ) rfl dX12_whyIn_43 (Nat.le_trans (by decide) hn) rfl (Nat.le_of_ble_eq_true rfl) (Nat.le_of_ble_eq_true rfl) rfl h (fun Q' h' => fX12_isDry_ok hZ (Nat.le_refl _) hx1 hx2 h') (fun r5 c6 b7 h => ?_)
      refine zV_if_eq 51 dX12_whyIn_46 (by decide) c6 (fun hc_ => ?_) (fun hc_ => ?_)
      · replace h := zs_t h hc_
        refine zV_aload_n 1 dX12_whyIn_51 rfl rfl ?_
        refine zV_getR (j := 242) (zq_200 hZ) zf_X12_41 zkf_X12_105 rfl dX12_whyIn_52 ?_
        refine zV_iconst (v := 1) dX12_whyIn_55 rfl ?_
        refine zV_aload_n 1 dX12_whyIn_56 rfl rfl ?_
        refine zV_getR (j := 216) (zq_200 hZ) zf_X12_15 zkf_X12_29 rfl dX12_whyIn_57 ?_
        refine zV_iload 0 dX12_whyIn_60 rfl ?_
        obtain ⟨hg, h⟩ := zs_gd h
        refine zV_iald (zq_216 hZ) hg dX12_whyIn_62 (fun m9 => ?_)
        refine zV_iload_n 4 dX12_whyIn_63 rfl rfl ?_
        refine zV_imul dX12_whyIn_64 ?_
        refine zV_w ?_
        obtain ⟨hg, h⟩ := zs_gd h
        refine zV_iast (zq_242 hZ) (by decide) hg (z32_w _) dX12_whyIn_65 ?_
        refine zV_aload_n 1 dX12_whyIn_66 rfl rfl ?_
        refine zV_getR (j := 242) (zq_200 hZ) zf_X12_41 zkf_X12_105 rfl dX12_whyIn_67 ?_
        refine zV_iconst (v := 2) dX12_whyIn_70 rfl ?_
        refine zV_aload_n 1 dX12_whyIn_71 rfl rfl ?_
        refine zV_getR (j := 248) (zq_200 hZ) zf_X12_47 zkf_X12_117 rfl dX12_whyIn_72 ?_
        refine zV_iload_n 2 dX12_whyIn_75 rfl rfl ?_
        obtain ⟨hg, h⟩ := zs_gd h
        refine zV_iald (zq_248 hZ) hg dX12_whyIn_76 (fun m10 => ?_)
        refine zV_aload_n 1 dX12_whyIn_77 rfl rfl ?_
        refine zV_getR (j := 218) (zq_200 hZ) zf_X12_17 zkf_X12_35 rfl dX12_whyIn_78 ?_
        refine zV_iload 0 dX12_whyIn_81 rfl ?_
        obtain ⟨hg, h⟩ := zs_gd h
        refine zV_iald (zq_218 hZ) hg dX12_whyIn_83 (fun m11 => ?_)
        refine zV_iconst (v := 2) dX12_whyIn_84 rfl ?_
        refine zV_icmp_ne 92 dX12_whyIn_85 (by decide) m11 zi_2 (fun hc_ => ?_) (fun hc_ => ?_)
        · replace h := zs_f h hc_
          refine zV_iconst (v := 0) dX12_whyIn_92 rfl ?_
          refine zV_ls [1, 2, 3, 0] rfl ?_
          exact fX12_whyIn_j93_ok hZ hn hx1 hx2 m1 zi_0 (Or.inl rfl) m10 zi_2 h
        · replace h := zs_t h hc_
          refine zV_iconst (v := 1) dX12_whyIn_88 rfl ?_
          refine zV_goto 93 dX12_whyIn_89 (by decide) ?_
          refine zV_ls [1, 2, 3, 0] rfl ?_
          exact fX12_whyIn_j93_ok hZ hn hx1 hx2 m1 zi_1 (Or.inr rfl) m10 zi_2 h
      · replace h := zs_f h hc_
        refine zV_iconst (v := 3) dX12_whyIn_49 rfl ?_
        exact zV_ireti dX12_whyIn_50 rfl zi_3 h
    · replace h := zs_f h hc_
      refine zV_iconst (v := 2) dX12_whyIn_38 rfl ?_
      exact zV_ireti dX12_whyIn_39 rfl zi_2 h
  · replace h := zs_f h hc_
    refine zV_iconst (v := 1) dX12_whyIn_25 rfl ?_
    exact zV_ireti dX12_whyIn_26 rfl zi_1 h
noncomputable def fX12_why_j30 (x1 x2 s0 : Int) (M : zMem) : Option (Int × zMem) :=
  (if ((zup M 200 0 s0) 200 0) = 1 then some (0, (zup M 200 0 s0)) else (zbd (fX12_warms (zup M 200 0 s0)) fun M9 => (zgd ((0 : Int) ≤ (0 : Int) ∧ (0 : Int) < 66) (zbd2 (fX12_whyIn x1 x2 (M9 225 0) M9) fun r11 M14 => some (r11, M14)))))
set_option maxRecDepth 100000 in
set_option maxHeartbeats 4000000 in
theorem fX12_why_j30_ok {Z : zZ} (hZ : zB Z) {nn : Nat} (hn : 4 ≤ nn)  {x1 x2 s0 : Int} (hx1 : z32 x1) (hx2 : z32 x2) (hs0 : z32 s0) (hbs0 : s0 = 0 ∨ s0 = 1) {M : zMem} {Q : Option zAV → zMem → zZ → Prop} (h : zSat (fX12_why_j30 x1 x2 s0 M) (fun r => Q (some (zI r.1)) r.2 Z))  : zV zmX12_why nn 0 0 Z 30 [(0, zR 200), (1, zI x1), (2, zI x2)] [zI s0, zR 200] M Q := by
  unfold fX12_why_j30 at h
  refine zV_putI (zq_200 hZ) (by decide) zf_X12_0 zkf_X12_157 rfl dX12_why_30 hs0 ?_
  refine zV_aload_n 0 dX12_why_33 rfl rfl ?_
  refine zV_getI (zq_200 hZ) zf_X12_0 zkf_X12_157 rfl dX12_why_34 (fun m5 => ?_)
  refine zV_iconst (v := 1) dX12_why_37 rfl ?_
  refine zV_icmp_ne 43 dX12_why_38 (by decide) m5 zi_1 (fun hc_ => ?_) (fun hc_ => ?_)
  · replace h := zs_f h hc_
    refine zV_aload_n 0 dX12_why_43 rfl rfl ?_
    refine zV_cVV (y' := zmX12_warms) (n' := 3) (As := []) zc_X12_377 (zq_200 hZ) rfl dX12_why_44 (Nat.le_trans (by decide) hn) rfl (Nat.le_of_ble_eq_true rfl) (Nat.le_of_ble_eq_true rfl) rfl h (fun Q' h' => fX12_warms_ok hZ (Nat.le_refl _)  h') (fun M9 h => ?_)
    refine zV_aload_n 0 dX12_why_47 rfl rfl ?_
    refine zV_iload_n 1 dX12_why_48 rfl rfl ?_
    refine zV_iload_n 2 dX12_why_49 rfl rfl ?_
    refine zV_aload_n 0 dX12_why_50 rfl rfl ?_
    refine zV_getR (j := 225) (zq_200 hZ) zf_X12_24 zkf_X12_56 rfl dX12_why_51 ?_
    refine zV_iconst (v := 0) dX12_why_54 rfl ?_
    obtain ⟨hg, h⟩ := zs_gd h
    refine zV_iald (zq_225 hZ) hg dX12_why_55 (fun m10 => ?_)
    refine zV_cVIm (y' := zmX12_whyIn) (n' := 3) (As := [zI x1, zI x2, zI (M9 225 0)]) zc_X12_389 (zq_200 hZ) rfl dX12_why_56 (Nat.le_trans (by decide) hn) rfl (Nat.le_of_ble_eq_true rfl) (Nat.le_of_ble_eq_true rfl) rfl h (fun Q' h' => fX12_whyIn_ok hZ (Nat.le_refl _) hx1 hx2 m10 h') (fun r11 M14 c12 b13 h => ?_)
    exact zV_ireti dX12_why_59 rfl c12 h
  · replace h := zs_t h hc_
    refine zV_iconst (v := 0) dX12_why_41 rfl ?_
    exact zV_ireti dX12_why_42 rfl zi_0 h
noncomputable def fX12_why_j29 (x1 x2 : Int) (M : zMem) : Option (Int × zMem) :=
  fX12_why_j30 x1 x2 1 M
set_option maxRecDepth 100000 in
set_option maxHeartbeats 4000000 in
theorem fX12_why_j29_ok {Z : zZ} (hZ : zB Z) {nn : Nat} (hn : 4 ≤ nn)  {x1 x2 : Int} (hx1 : z32 x1) (hx2 : z32 x2) {M : zMem} {Q : Option zAV → zMem → zZ → Prop} (h : zSat (fX12_why_j29 x1 x2 M) (fun r => Q (some (zI r.1)) r.2 Z))  : zV zmX12_why nn 0 0 Z 29 [(0, zR 200), (1, zI x1), (2, zI x2)] [zR 200] M Q := by
  unfold fX12_why_j29 at h
  refine zV_iconst (v := 1) dX12_why_29 rfl ?_
  exact fX12_why_j30_ok hZ hn hx1 hx2 zi_1 (Or.inr rfl) h
noncomputable def fX12_why (x1 x2 : Int) (M : zMem) : Option (Int × zMem) :=
  (zbd (fX12_isNote x1 M) fun r1 => (if r1 = 0 then fX12_why_j29 x1 x2 M else (zbd (fX12_isBeat x2 M) fun r15 => (if r15 = 0 then fX12_why_j29 x1 x2 M else (zbd (fX12_lasts x1 x2 M) fun r19 => (if r19 = 0 then fX12_why_j29 x1 x2 M else fX12_why_j30 x1 x2 0 M))))))
set_option maxRecDepth 100000 in
set_option maxHeartbeats 4000000 in
theorem fX12_why_ok {Z : zZ} (hZ : zB Z) {nn : Nat} (hn : 4 ≤ nn)  {x1 x2 : Int} (hx1 : z32 x1) (hx2 : z32 x2) {M : zMem} {Q : Option zAV → zMem → zZ → Prop} (h : zSat (fX12_why x1 x2 M) (fun r => Q (some (zI r.1)) r.2 Z))  : zV zmX12_why nn 0 0 Z 0 [(0, zR 200), (1, zI x1), (2, zI x2)] [] M Q := by
  unfold fX12_why at h
  refine zV_aload_n 0 dX12_why_0 rfl rfl ?_
  refine zV_aload_n 0 dX12_why_1 rfl rfl ?_
  refine zV_iload_n 1 dX12_why_2 rfl rfl ?_
  refine zV_cVI (y' := zmX12_isNote) (n' := 0) (As := [zI x1]) zc_X12_361 (zq_200 hZ) rfl dX12_why_3 (Nat.le_trans (by decide) hn) rfl (Nat.le_of_ble_eq_true rfl) (Nat.le_of_ble_eq_true rfl) rfl h (fun Q' h' => fX12_isNote_ok hZ (Nat.le_refl _) hx1 h') (fun r1 c2 b3 h => ?_)
  refine zV_if_eq 29 dX12_why_6 (by decide) c2 (fun hc_ => ?_) (fun hc_ => ?_)
  · replace h := zs_t h hc_
    exact fX12_why_j29_ok hZ hn hx1 hx2 h
  · replace h := zs_f h hc_
    refine zV_iload_n 2 dX12_why_9 rfl rfl ?_
    refine zV_cSI (y' := zmX12_isBeat) (n' := 0) (As := [zI x2]) zc_X12_355 dX12_why_10 (Nat.le_trans (by decide) hn) rfl (Nat.le_of_ble_eq_true rfl) (Nat.le_of_ble_eq_true rfl) rfl h (fun Q' h' => fX12_isBeat_ok hZ (Nat.le_refl _) hx2 h') (fun r15 c16 b17 h => ?_)
    refine zV_if_eq 29 dX12_why_13 (by decide) c16 (fun hc_ => ?_) (fun hc_ => ?_)
    · replace h := zs_t h hc_
      exact fX12_why_j29_ok hZ hn hx1 hx2 h
    · replace h := zs_f h hc_
      refine zV_aload_n 0 dX12_why_16 rfl rfl ?_
      refine zV_iload_n 1 dX12_why_17 rfl rfl ?_
      refine zV_iload_n 2 dX12_why_18 rfl rfl ?_
      refine zV_cVI (y' := zmX12_lasts) (n' := 1) (As := [zI x1, zI x2]) zc_X12_364 (zq_200 hZ) rfl dX12_why_19 (Nat.le_trans (by decide) hn) rfl (Nat.le_of_ble_eq_true rfl) (Nat.le_of_ble_eq_true rfl) rfl h (fun Q' h' => fX12_lasts_ok hZ (Nat.le_refl _) hx1 hx2 h') (fun r19 c20 b21 h => ?_)
      refine zV_if_eq 29 dX12_why_22 (by decide) c20 (fun hc_ => ?_) (fun hc_ => ?_)
      · replace h := zs_t h hc_
        exact fX12_why_j29_ok hZ hn hx1 hx2 h
      · replace h := zs_f h hc_
        refine zV_iconst (v := 0) dX12_why_25 rfl ?_
        refine zV_goto 30 dX12_why_26 (by decide) ?_
        exact fX12_why_j30_ok hZ hn hx1 hx2 zi_0 (Or.inl rfl) h
noncomputable def fX12_speaksFor_j37 (x1 x2 x3 x4 s0 s1 : Int) (M : zMem) : Option ((Int × Int × zMem) ⊕ (Int × Int × zMem)) :=
  some (.inl ((zw (s1 + s0)), (zw (x4 + 1)), M))
set_option maxRecDepth 100000 in
set_option maxHeartbeats 4000000 in
theorem fX12_speaksFor_j37_ok {Z : zZ} (hZ : zB Z) {nn : Nat} (hn : 4 ≤ nn)  {x1 x2 x3 x4 s0 s1 : Int} (hx1 : z32 x1) (hx2 : z32 x2) (hx3 : z32 x3) (hx4 : z32 x4) (hs0 : z32 s0) (hbs0 : s0 = 0 ∨ s0 = 1) (hs1 : z32 s1) {M : zMem} {Q : Option zAV → zMem → zZ → Prop} {P : (Int × Int × zMem) ⊕ (Int × Int × zMem) → Prop} (h : zSat (fX12_speaksFor_j37 x1 x2 x3 x4 s0 s1 M) P)  (hc : ∀ s : Int × Int × zMem, P (.inl s) → z32 (s.1) → z32 (s.2.1) → zV zmX12_speaksFor nn 0 0 Z 10 [(0, zR 200), (1, zI x1), (2, zI x2), (3, zI (s.1)), (4, zI (s.2.1))] [] (s.2.2) Q) (he : ∀ s : Int × Int × zMem, P (.inr s) → z32 (s.1) → z32 (s.2.1) → zV zmX12_speaksFor nn 0 0 Z 45 [(0, zR 200), (1, zI x1), (2, zI x2), (3, zI (s.1)), (4, zI (s.2.1))] [] (s.2.2) Q)   : zV zmX12_speaksFor nn 0 0 Z 37 [(0, zR 200), (1, zI x1), (2, zI x2), (3, zI x3), (4, zI x4)] [zI s0, zI s1] M Q := by
  unfold fX12_speaksFor_j37 at h
  refine zV_iadd dX12_speaksFor_37 ?_
  refine zV_w ?_
  refine zV_istore_n [(3, zI (zw (s1 + s0))), (0, zR 200), (1, zI x1), (2, zI x2), (4, zI x4)] dX12_speaksFor_38 rfl (by decide) rfl ?_
  refine zV_iinc 4 [(4, zI (zw (x4 + 1))), (3, zI (zw (s1 + s0))), (0, zR 200), (1, zI x1), (2, zI x2)] dX12_speaksFor_39 rfl rfl (by decide) rfl ?_
  refine zV_goto 10 dX12_speaksFor_42 (by decide) ?_
  refine zV_ls [2, 3, 4, 1, 0] rfl ?_
  exact hc _ h (z32_w _) (z32_w _)
noncomputable def fX12_speaksFor_l10 (x1 x2 x3 x4 : Int) (M : zMem) : Option ((Int × Int × zMem) ⊕ (Int × Int × zMem)) :=
  (zbd (fX12_endOf x1 M) fun r2 => (if r2 ≤ x4 then some (.inr (x3, x4, M)) else (zbd2 (fX12_whyIn x1 x4 x2 M) fun r6 M9 => (if r6 = 0 then fX12_speaksFor_j37 x1 x2 x3 x4 1 x3 M9 else fX12_speaksFor_j37 x1 x2 x3 x4 0 x3 M9))))
set_option maxRecDepth 100000 in
set_option maxHeartbeats 4000000 in
theorem fX12_speaksFor_l10_ok {Z : zZ} (hZ : zB Z) {nn : Nat} (hn : 4 ≤ nn)  {x1 x2 x3 x4 : Int} (hx1 : z32 x1) (hx2 : z32 x2) (hx3 : z32 x3) (hx4 : z32 x4) {M : zMem} {Q : Option zAV → zMem → zZ → Prop} {P : (Int × Int × zMem) ⊕ (Int × Int × zMem) → Prop} (h : zSat (fX12_speaksFor_l10 x1 x2 x3 x4 M) P)  (hc : ∀ s : Int × Int × zMem, P (.inl s) → z32 (s.1) → z32 (s.2.1) → zV zmX12_speaksFor nn 0 0 Z 10 [(0, zR 200), (1, zI x1), (2, zI x2), (3, zI (s.1)), (4, zI (s.2.1))] [] (s.2.2) Q) (he : ∀ s : Int × Int × zMem, P (.inr s) → z32 (s.1) → z32 (s.2.1) → zV zmX12_speaksFor nn 0 0 Z 45 [(0, zR 200), (1, zI x1), (2, zI x2), (3, zI (s.1)), (4, zI (s.2.1))] [] (s.2.2) Q)   : zV zmX12_speaksFor nn 0 0 Z 10 [(0, zR 200), (1, zI x1), (2, zI x2), (3, zI x3), (4, zI x4)] [] M Q := by
  unfold fX12_speaksFor_l10 at h
  refine zV_iload 4 dX12_speaksFor_10 rfl ?_
  refine zV_aload_n 0 dX12_speaksFor_12 rfl rfl ?_
  refine zV_iload_n 1 dX12_speaksFor_13 rfl rfl ?_
  refine zV_cVI (y' := zmX12_endOf) (n' := 0) (As := [zI x1]) zc_X12_349 (zq_200 hZ) rfl dX12_speaksFor_14 (Nat.le_trans (by decide) hn) rfl (Nat.le_of_ble_eq_true rfl) (Nat.le_of_ble_eq_true rfl) rfl h (fun Q' h' => fX12_endOf_ok hZ (Nat.le_refl _) hx1 h') (fun r2 c3 b4 h => ?_)
  refine zV_icmp_ge 45 dX12_speaksFor_17 (by decide) hx4 c3 (fun hc_ => ?_) (fun hc_ => ?_)
  · replace h := zs_t h hc_
    exact he _ h hx3 hx4
  · replace h := zs_f h hc_
    refine zV_iload_n 3 dX12_speaksFor_20 rfl rfl ?_
    refine zV_aload_n 0 dX12_speaksFor_21 rfl rfl ?_
    refine zV_iload_n 1 dX12_speaksFor_22 rfl rfl ?_
    refine zV_iload 4 dX12_speaksFor_23 rfl ?_
    refine zV_iload_n 2 dX12_speaksFor_25 rfl rfl ?_
    refine zV_cVIm (y' := zmX12_whyIn) (n' := 3) (As := [zI x1, zI x4, zI x2]) zc_X12_389 (zq_200 hZ) rfl dX12_speaksFor_26 (Nat.le_trans (by decide) hn) rfl (Nat.le_of_ble_eq_true rfl) (Nat.le_of_ble_eq_true rfl) rfl h (fun Q' h' => fX12_whyIn_ok hZ (Nat.le_refl _) hx1 hx4 hx2 h') (fun r6 M9 c7 b8 h => ?_)
    refine zV_if_ne 36 dX12_speaksFor_29 (by decide) c7 (fun hc_ => ?_) (fun hc_ => ?_)
    · replace h := zs_f h hc_
      refine zV_iconst (v := 0) dX12_speaksFor_36 rfl ?_
      exact fX12_speaksFor_j37_ok hZ hn hx1 hx2 hx3 hx4 zi_0 (Or.inl rfl) hx3 h hc he
    · replace h := zs_t h hc_
      refine zV_iconst (v := 1) dX12_speaksFor_32 rfl ?_
      refine zV_goto 37 dX12_speaksFor_33 (by decide) ?_
      exact fX12_speaksFor_j37_ok hZ hn hx1 hx2 hx3 hx4 zi_1 (Or.inr rfl) hx3 h hc he
noncomputable def fX12_speaksFor (x1 x2 : Int) (M : zMem) : Option (Int × zMem) :=
  (zgd ((0 : Int) ≤ x1 ∧ x1 < 120) (zbd (zit (fun s10 => fX12_speaksFor_l10 x1 x2 (s10.1) (s10.2.1) (s10.2.2)) (0, (M 246 x1), M)) fun s17 => some (s17.1, s17.2.2)))
set_option maxRecDepth 100000 in
set_option maxHeartbeats 4000000 in
theorem fX12_speaksFor_ok {Z : zZ} (hZ : zB Z) {nn : Nat} (hn : 4 ≤ nn)  {x1 x2 : Int} (hx1 : z32 x1) (hx2 : z32 x2) {M : zMem} {Q : Option zAV → zMem → zZ → Prop} (h : zSat (fX12_speaksFor x1 x2 M) (fun r => Q (some (zI r.1)) r.2 Z))  : zV zmX12_speaksFor nn 0 0 Z 0 [(0, zR 200), (1, zI x1), (2, zI x2)] [] M Q := by
  unfold fX12_speaksFor at h
  refine zV_iconst (v := 0) dX12_speaksFor_0 rfl ?_
  refine zV_istore_n [(3, zI 0), (0, zR 200), (1, zI x1), (2, zI x2)] dX12_speaksFor_1 rfl (by decide) rfl ?_
  refine zV_aload_n 1 dX12_speaksFor_2 rfl rfl ?_
  refine zV_getR (j := 246) (zq_200 hZ) zf_X12_45 zkf_X12_111 rfl dX12_speaksFor_3 ?_
  refine zV_iload_n 2 dX12_speaksFor_6 rfl rfl ?_
  obtain ⟨hg, h⟩ := zs_gd h
  refine zV_iald (zq_246 hZ) hg dX12_speaksFor_7 (fun m1 => ?_)
  refine zV_istore [(4, zI (M 246 x1)), (3, zI 0), (0, zR 200), (1, zI x1), (2, zI x2)] dX12_speaksFor_8 (by decide) rfl ?_
  refine zV_ls [2, 3, 4, 1, 0] rfl ?_
  refine (zV_loop (Vh := fun s10 : Int × Int × zMem => z32 (s10.1) → z32 (s10.2.1) → zV zmX12_speaksFor nn 0 0 Z 10 [(0, zR 200), (1, zI x1), (2, zI x2), (3, zI (s10.1)), (4, zI (s10.2.1))] [] (s10.2.2) Q) h (fun s10 P11 hP12 hc13 he14 => ?_)) zi_0 m1
  intro c15 c16
  refine fX12_speaksFor_l10_ok hZ hn hx1 hx2 c15 c16 hP12 hc13 (fun s17 h18 d19 d20 => ?_)
  have h := he14 _ h18
  refine zV_iload_n 3 dX12_speaksFor_45 rfl rfl ?_
  exact zV_ireti dX12_speaksFor_46 rfl d19 h
noncomputable def fX12_speaks (x1 : Int) (M : zMem) : Option (Int × zMem) :=
  (zbd (fX12_isNote x1 (zup M 200 0 0)) fun r1 => (if r1 = 0 then some ((-1), (zup M 200 0 0)) else (zbd (fX12_warms (zup M 200 0 0)) fun M8 => (zgd ((0 : Int) ≤ (0 : Int) ∧ (0 : Int) < 66) (zbd2 (fX12_speaksFor x1 (M8 225 0) M8) fun r10 M13 => some (r10, M13))))))
set_option maxRecDepth 100000 in
set_option maxHeartbeats 4000000 in
theorem fX12_speaks_ok {Z : zZ} (hZ : zB Z) {nn : Nat} (hn : 5 ≤ nn)  {x1 : Int} (hx1 : z32 x1) {M : zMem} {Q : Option zAV → zMem → zZ → Prop} (h : zSat (fX12_speaks x1 M) (fun r => Q (some (zI r.1)) r.2 Z))  : zV zmX12_speaks nn 0 0 Z 0 [(0, zR 200), (1, zI x1)] [] M Q := by
  unfold fX12_speaks at h
  refine zV_aload_n 0 dX12_speaks_0 rfl rfl ?_
  refine zV_iconst (v := 0) dX12_speaks_1 rfl ?_
  refine zV_putI (zq_200 hZ) (by decide) zf_X12_0 zkf_X12_157 rfl dX12_speaks_2 zi_0 ?_
  refine zV_aload_n 0 dX12_speaks_5 rfl rfl ?_
  refine zV_iload_n 1 dX12_speaks_6 rfl rfl ?_
  refine zV_cVI (y' := zmX12_isNote) (n' := 0) (As := [zI x1]) zc_X12_361 (zq_200 hZ) rfl dX12_speaks_7 (Nat.le_trans (by decide) hn) rfl (Nat.le_of_ble_eq_true rfl) (Nat.le_of_ble_eq_true rfl) rfl h (fun Q' h' => fX12_isNote_ok hZ (Nat.le_refl _) hx1 h') (fun r1 c2 b3 h => ?_)
  refine zV_if_ne 15 dX12_speaks_10 (by decide) c2 (fun hc_ => ?_) (fun hc_ => ?_)
  · replace h := zs_f h hc_
    refine zV_aload_n 0 dX12_speaks_15 rfl rfl ?_
    refine zV_cVV (y' := zmX12_warms) (n' := 3) (As := []) zc_X12_377 (zq_200 hZ) rfl dX12_speaks_16 (Nat.le_trans (by decide) hn) rfl (Nat.le_of_ble_eq_true rfl) (Nat.le_of_ble_eq_true rfl) rfl h (fun Q' h' => fX12_warms_ok hZ (Nat.le_refl _)  h') (fun M8 h => ?_)
    refine zV_aload_n 0 dX12_speaks_19 rfl rfl ?_
    refine zV_iload_n 1 dX12_speaks_20 rfl rfl ?_
    refine zV_aload_n 0 dX12_speaks_21 rfl rfl ?_
    refine zV_getR (j := 225) (zq_200 hZ) zf_X12_24 zkf_X12_56 rfl dX12_speaks_22 ?_
    refine zV_iconst (v := 0) dX12_speaks_25 rfl ?_
    obtain ⟨hg, h⟩ := zs_gd h
    refine zV_iald (zq_225 hZ) hg dX12_speaks_26 (fun m9 => ?_)
    refine zV_cVIm (y' := zmX12_speaksFor) (n' := 4) (As := [zI x1, zI (M8 225 0)]) zc_X12_393 (zq_200 hZ) rfl dX12_speaks_27 (Nat.le_trans (by decide) hn) rfl (Nat.le_of_ble_eq_true rfl) (Nat.le_of_ble_eq_true rfl) rfl h (fun Q' h' => fX12_speaksFor_ok hZ (Nat.le_refl _) hx1 m9 h') (fun r10 M13 c11 b12 h => ?_)
    exact zV_ireti dX12_speaks_30 rfl c11 h
  · replace h := zs_t h hc_
    refine zV_iconst (v := (-1)) dX12_speaks_13 rfl ?_
    exact zV_ireti dX12_speaks_14 rfl zi_n1 h
noncomputable def fX12_soundsIn_j44 (x1 x2 x3 s0 s1 : Int) (M : zMem) : Option ((Int × Int × zMem) ⊕ (Int × Int × zMem)) :=
  some (.inl ((zor s1 s0), (zw (x3 + 1)), M))
set_option maxRecDepth 100000 in
set_option maxHeartbeats 4000000 in
theorem fX12_soundsIn_j44_ok {Z : zZ} (hZ : zB Z) {nn : Nat} (hn : 4 ≤ nn)  {x1 x2 x3 s0 s1 : Int} (hx1 : z32 x1) (hx2 : z32 x2) (hx3 : z32 x3) (hs0 : z32 s0) (hs1 : z32 s1) {M : zMem} {Q : Option zAV → zMem → zZ → Prop} {P : (Int × Int × zMem) ⊕ (Int × Int × zMem) → Prop} (h : zSat (fX12_soundsIn_j44 x1 x2 x3 s0 s1 M) P)  (hc : ∀ s : Int × Int × zMem, P (.inl s) → z32 (s.1) → z32 (s.2.1) → zV zmX12_soundsIn nn 0 0 Z 4 [(0, zR 200), (1, zI x1), (2, zI (s.1)), (3, zI (s.2.1))] [] (s.2.2) Q) (he : ∀ s : Int × Int × zMem, P (.inr s) → z32 (s.1) → z32 (s.2.1) → zV zmX12_soundsIn nn 0 0 Z 52 [(0, zR 200), (1, zI x1), (2, zI (s.1)), (3, zI (s.2.1))] [] (s.2.2) Q)   : zV zmX12_soundsIn nn 0 0 Z 44 [(0, zR 200), (1, zI x1), (2, zI x2), (3, zI x3)] [zI s0, zI s1] M Q := by
  unfold fX12_soundsIn_j44 at h
  refine zV_ior dX12_soundsIn_44 ?_
  refine zV_istore_n [(2, zI (zor s1 s0)), (0, zR 200), (1, zI x1), (3, zI x3)] dX12_soundsIn_45 rfl (by decide) rfl ?_
  refine zV_iinc 3 [(3, zI (zw (x3 + 1))), (2, zI (zor s1 s0)), (0, zR 200), (1, zI x1)] dX12_soundsIn_46 rfl rfl (by decide) rfl ?_
  refine zV_goto 4 dX12_soundsIn_49 (by decide) ?_
  refine zV_ls [2, 3, 1, 0] rfl ?_
  exact hc _ h (z32_i _) (z32_w _)
noncomputable def fX12_soundsIn_j43 (x1 x2 x3 s0 : Int) (M : zMem) : Option ((Int × Int × zMem) ⊕ (Int × Int × zMem)) :=
  fX12_soundsIn_j44 x1 x2 x3 0 s0 M
set_option maxRecDepth 100000 in
set_option maxHeartbeats 4000000 in
theorem fX12_soundsIn_j43_ok {Z : zZ} (hZ : zB Z) {nn : Nat} (hn : 4 ≤ nn)  {x1 x2 x3 s0 : Int} (hx1 : z32 x1) (hx2 : z32 x2) (hx3 : z32 x3) (hs0 : z32 s0) {M : zMem} {Q : Option zAV → zMem → zZ → Prop} {P : (Int × Int × zMem) ⊕ (Int × Int × zMem) → Prop} (h : zSat (fX12_soundsIn_j43 x1 x2 x3 s0 M) P)  (hc : ∀ s : Int × Int × zMem, P (.inl s) → z32 (s.1) → z32 (s.2.1) → zV zmX12_soundsIn nn 0 0 Z 4 [(0, zR 200), (1, zI x1), (2, zI (s.1)), (3, zI (s.2.1))] [] (s.2.2) Q) (he : ∀ s : Int × Int × zMem, P (.inr s) → z32 (s.1) → z32 (s.2.1) → zV zmX12_soundsIn nn 0 0 Z 52 [(0, zR 200), (1, zI x1), (2, zI (s.1)), (3, zI (s.2.1))] [] (s.2.2) Q)   : zV zmX12_soundsIn nn 0 0 Z 43 [(0, zR 200), (1, zI x1), (2, zI x2), (3, zI x3)] [zI s0] M Q := by
  unfold fX12_soundsIn_j43 at h
  refine zV_iconst (v := 0) dX12_soundsIn_43 rfl ?_
  exact fX12_soundsIn_j44_ok hZ hn hx1 hx2 hx3 zi_0 hs0 h hc he
noncomputable def fX12_soundsIn_l4 (x1 x2 x3 : Int) (M : zMem) : Option ((Int × Int × zMem) ⊕ (Int × Int × zMem)) :=
  (if (M 200 43) ≤ x3 then some (.inr (x2, x3, M)) else (zbd (fX12_lasts x3 x1 M) fun r2 => (if r2 = 0 then fX12_soundsIn_j43 x1 x2 x3 x2 M else (zgd ((0 : Int) ≤ (0 : Int) ∧ (0 : Int) < 66) (zbd2 (fX12_whyIn x3 x1 (M 225 0) M) fun r7 M10 => (if r7 = 0 then fX12_soundsIn_j44 x1 x2 x3 (zshl 1 x3) x2 M10 else fX12_soundsIn_j43 x1 x2 x3 x2 M10))))))
set_option maxRecDepth 100000 in
set_option maxHeartbeats 4000000 in
theorem fX12_soundsIn_l4_ok {Z : zZ} (hZ : zB Z) {nn : Nat} (hn : 4 ≤ nn)  {x1 x2 x3 : Int} (hx1 : z32 x1) (hx2 : z32 x2) (hx3 : z32 x3) {M : zMem} {Q : Option zAV → zMem → zZ → Prop} {P : (Int × Int × zMem) ⊕ (Int × Int × zMem) → Prop} (h : zSat (fX12_soundsIn_l4 x1 x2 x3 M) P)  (hc : ∀ s : Int × Int × zMem, P (.inl s) → z32 (s.1) → z32 (s.2.1) → zV zmX12_soundsIn nn 0 0 Z 4 [(0, zR 200), (1, zI x1), (2, zI (s.1)), (3, zI (s.2.1))] [] (s.2.2) Q) (he : ∀ s : Int × Int × zMem, P (.inr s) → z32 (s.1) → z32 (s.2.1) → zV zmX12_soundsIn nn 0 0 Z 52 [(0, zR 200), (1, zI x1), (2, zI (s.1)), (3, zI (s.2.1))] [] (s.2.2) Q)   : zV zmX12_soundsIn nn 0 0 Z 4 [(0, zR 200), (1, zI x1), (2, zI x2), (3, zI x3)] [] M Q := by
  unfold fX12_soundsIn_l4 at h
  refine zV_iload_n 3 dX12_soundsIn_4 rfl rfl ?_
  refine zV_aload_n 0 dX12_soundsIn_5 rfl rfl ?_
  refine zV_getI (zq_200 hZ) zf_X12_43 zkf_X12_343 rfl dX12_soundsIn_6 (fun m1 => ?_)
  refine zV_icmp_ge 52 dX12_soundsIn_9 (by decide) hx3 m1 (fun hc_ => ?_) (fun hc_ => ?_)
  · replace h := zs_t h hc_
    exact he _ h hx2 hx3
  · replace h := zs_f h hc_
    refine zV_iload_n 2 dX12_soundsIn_12 rfl rfl ?_
    refine zV_aload_n 0 dX12_soundsIn_13 rfl rfl ?_
    refine zV_iload_n 3 dX12_soundsIn_14 rfl rfl ?_
    refine zV_iload_n 1 dX12_soundsIn_15 rfl rfl ?_
    refine zV_cVI (y' := zmX12_lasts) (n' := 1) (As := [zI x3, zI x1]) zc_X12_364 (zq_200 hZ) rfl dX12_soundsIn_16 (Nat.le_trans (by decide) hn) rfl (Nat.le_of_ble_eq_true rfl) (Nat.le_of_ble_eq_true rfl) rfl h (fun Q' h' => fX12_lasts_ok hZ (Nat.le_refl _) hx3 hx1 h') (fun r2 c3 b4 h => ?_)
    refine zV_if_eq 43 dX12_soundsIn_19 (by decide) c3 (fun hc_ => ?_) (fun hc_ => ?_)
    · replace h := zs_t h hc_
      exact fX12_soundsIn_j43_ok hZ hn hx1 hx2 hx3 hx2 h hc he
    · replace h := zs_f h hc_
      refine zV_aload_n 0 dX12_soundsIn_22 rfl rfl ?_
      refine zV_iload_n 3 dX12_soundsIn_23 rfl rfl ?_
      refine zV_iload_n 1 dX12_soundsIn_24 rfl rfl ?_
      refine zV_aload_n 0 dX12_soundsIn_25 rfl rfl ?_
      refine zV_getR (j := 225) (zq_200 hZ) zf_X12_24 zkf_X12_56 rfl dX12_soundsIn_26 ?_
      refine zV_iconst (v := 0) dX12_soundsIn_29 rfl ?_
      obtain ⟨hg, h⟩ := zs_gd h
      refine zV_iald (zq_225 hZ) hg dX12_soundsIn_30 (fun m6 => ?_)
      refine zV_cVIm (y' := zmX12_whyIn) (n' := 3) (As := [zI x3, zI x1, zI (M 225 0)]) zc_X12_389 (zq_200 hZ) rfl dX12_soundsIn_31 (Nat.le_trans (by decide) hn) rfl (Nat.le_of_ble_eq_true rfl) (Nat.le_of_ble_eq_true rfl) rfl h (fun Q' h' => fX12_whyIn_ok hZ (Nat.le_refl _) hx3 hx1 m6 h') (fun r7 M10 c8 b9 h => ?_)
      refine zV_if_ne 43 dX12_soundsIn_34 (by decide) c8 (fun hc_ => ?_) (fun hc_ => ?_)
      · replace h := zs_f h hc_
        exact fX12_soundsIn_j43_ok hZ hn hx1 hx2 hx3 hx2 h hc he
      · replace h := zs_t h hc_
        refine zV_iconst (v := 1) dX12_soundsIn_37 rfl ?_
        refine zV_iload_n 3 dX12_soundsIn_38 rfl rfl ?_
        refine zV_ishl dX12_soundsIn_39 ?_
        refine zV_goto 44 dX12_soundsIn_40 (by decide) ?_
        exact fX12_soundsIn_j44_ok hZ hn hx1 hx2 hx3 (z32_i _) hx2 h hc he
noncomputable def fX12_soundsIn (x1 : Int) (M : zMem) : Option (Int × zMem) :=
  (zbd (zit (fun s11 => fX12_soundsIn_l4 x1 (s11.1) (s11.2.1) (s11.2.2)) (0, 0, M)) fun s18 => some (s18.1, s18.2.2))
set_option maxRecDepth 100000 in
set_option maxHeartbeats 4000000 in
theorem fX12_soundsIn_ok {Z : zZ} (hZ : zB Z) {nn : Nat} (hn : 4 ≤ nn)  {x1 : Int} (hx1 : z32 x1) {M : zMem} {Q : Option zAV → zMem → zZ → Prop} (h : zSat (fX12_soundsIn x1 M) (fun r => Q (some (zI r.1)) r.2 Z))  : zV zmX12_soundsIn nn 0 0 Z 0 [(0, zR 200), (1, zI x1)] [] M Q := by
  unfold fX12_soundsIn at h
  refine zV_iconst (v := 0) dX12_soundsIn_0 rfl ?_
  refine zV_istore_n [(2, zI 0), (0, zR 200), (1, zI x1)] dX12_soundsIn_1 rfl (by decide) rfl ?_
  refine zV_iconst (v := 0) dX12_soundsIn_2 rfl ?_
  refine zV_istore_n [(3, zI 0), (2, zI 0), (0, zR 200), (1, zI x1)] dX12_soundsIn_3 rfl (by decide) rfl ?_
  refine zV_ls [2, 3, 1, 0] rfl ?_
  refine (zV_loop (Vh := fun s11 : Int × Int × zMem => z32 (s11.1) → z32 (s11.2.1) → zV zmX12_soundsIn nn 0 0 Z 4 [(0, zR 200), (1, zI x1), (2, zI (s11.1)), (3, zI (s11.2.1))] [] (s11.2.2) Q) h (fun s11 P12 hP13 hc14 he15 => ?_)) zi_0 zi_0
  intro c16 c17
  refine fX12_soundsIn_l4_ok hZ hn hx1 c16 c17 hP13 hc14 (fun s18 h19 d20 d21 => ?_)
  have h := he15 _ h19
  refine zV_iload_n 2 dX12_soundsIn_52 rfl rfl ?_
  exact zV_ireti dX12_soundsIn_53 rfl d20 h
noncomputable def fX12_sounds (x1 : Int) (M : zMem) : Option (Int × zMem) :=
  (zbd (fX12_isBeat x1 (zup M 200 0 0)) fun r1 => (if r1 = 0 then some ((-1), (zup M 200 0 0)) else (zbd (fX12_warms (zup M 200 0 0)) fun M8 => (zbd2 (fX12_soundsIn x1 M8) fun r9 M12 => some (r9, M12)))))
set_option maxRecDepth 100000 in
set_option maxHeartbeats 4000000 in
theorem fX12_sounds_ok {Z : zZ} (hZ : zB Z) {nn : Nat} (hn : 5 ≤ nn)  {x1 : Int} (hx1 : z32 x1) {M : zMem} {Q : Option zAV → zMem → zZ → Prop} (h : zSat (fX12_sounds x1 M) (fun r => Q (some (zI r.1)) r.2 Z))  : zV zmX12_sounds nn 0 0 Z 0 [(0, zR 200), (1, zI x1)] [] M Q := by
  unfold fX12_sounds at h
  refine zV_aload_n 0 dX12_sounds_0 rfl rfl ?_
  refine zV_iconst (v := 0) dX12_sounds_1 rfl ?_
  refine zV_putI (zq_200 hZ) (by decide) zf_X12_0 zkf_X12_157 rfl dX12_sounds_2 zi_0 ?_
  refine zV_iload_n 1 dX12_sounds_5 rfl rfl ?_
  refine zV_cSI (y' := zmX12_isBeat) (n' := 0) (As := [zI x1]) zc_X12_355 dX12_sounds_6 (Nat.le_trans (by decide) hn) rfl (Nat.le_of_ble_eq_true rfl) (Nat.le_of_ble_eq_true rfl) rfl h (fun Q' h' => fX12_isBeat_ok hZ (Nat.le_refl _) hx1 h') (fun r1 c2 b3 h => ?_)
  refine zV_if_ne 14 dX12_sounds_9 (by decide) c2 (fun hc_ => ?_) (fun hc_ => ?_)
  · replace h := zs_f h hc_
    refine zV_aload_n 0 dX12_sounds_14 rfl rfl ?_
    refine zV_cVV (y' := zmX12_warms) (n' := 3) (As := []) zc_X12_377 (zq_200 hZ) rfl dX12_sounds_15 (Nat.le_trans (by decide) hn) rfl (Nat.le_of_ble_eq_true rfl) (Nat.le_of_ble_eq_true rfl) rfl h (fun Q' h' => fX12_warms_ok hZ (Nat.le_refl _)  h') (fun M8 h => ?_)
    refine zV_aload_n 0 dX12_sounds_18 rfl rfl ?_
    refine zV_iload_n 1 dX12_sounds_19 rfl rfl ?_
    refine zV_cVIm (y' := zmX12_soundsIn) (n' := 4) (As := [zI x1]) zc_X12_396 (zq_200 hZ) rfl dX12_sounds_20 (Nat.le_trans (by decide) hn) rfl (Nat.le_of_ble_eq_true rfl) (Nat.le_of_ble_eq_true rfl) rfl h (fun Q' h' => fX12_soundsIn_ok hZ (Nat.le_refl _) hx1 h') (fun r9 M12 c10 b11 h => ?_)
    exact zV_ireti dX12_sounds_23 rfl c10 h
  · replace h := zs_t h hc_
    refine zV_iconst (v := (-1)) dX12_sounds_12 rfl ?_
    exact zV_ireti dX12_sounds_13 rfl zi_n1 h
noncomputable def fX12_along_l77 (x1 x2 x4 x3 x5 : Int) (M : zMem) : Option ((Int × Int) ⊕ (Int × Int)) :=
  (if (M 200 43) ≤ x5 then some (.inr (x3, x5)) else (zgd ((0 : Int) ≤ x5 ∧ x5 < 120) (if (zand (zshr x2 x5) 1) = 1 then (zgd ((0 : Int) ≤ (M 245 x5) ∧ (M 245 x5) < 72) (zgd ((0 : Int) ≤ x4 ∧ x4 < 72) (zbd (fX12_away (M 219 (M 245 x5)) (M 219 x4) M) fun r24 => (if r24 = 1 then (zgd ((0 : Int) ≤ (M 245 x5) ∧ (M 245 x5) < 72) (zgd ((0 : Int) ≤ x4 ∧ x4 < 72) (zbd (fX12_away (M 215 (M 245 x5)) (M 215 x4) M) fun r30 => (zgd ((0 : Int) ≤ (9 : Int) ∧ (9 : Int) < 66) (if (M 225 9) < r30 then some (.inl (x3, (zw (x5 + 1)))) else some (.inl ((zor x3 (zshl 1 x4)), (zw (x5 + 1))))))))) else some (.inl (x3, (zw (x5 + 1)))))))) else some (.inl (x3, (zw (x5 + 1)))))))
set_option maxRecDepth 100000 in
set_option maxHeartbeats 4000000 in
theorem fX12_along_l77_ok {Z : zZ} (hZ : zB Z) {nn : Nat} (hn : 5 ≤ nn)  {x1 x2 x4 x3 x5 : Int} (hx1 : z32 x1) (hx2 : z32 x2) (hx4 : z32 x4) (hx3 : z32 x3) (hx5 : z32 x5) {M : zMem} {Q : Option zAV → zMem → zZ → Prop} {P : (Int × Int) ⊕ (Int × Int) → Prop} (h : zSat (fX12_along_l77 x1 x2 x4 x3 x5 M) P)  (hc : ∀ s : Int × Int, P (.inl s) → z32 (s.1) → z32 (s.2) → zV zmX12_along nn 0 0 Z 77 [(0, zR 200), (1, zI x1), (2, zI x2), (3, zI (s.1)), (4, zI x4), (5, zI (s.2))] [] M Q) (he : ∀ s : Int × Int, P (.inr s) → z32 (s.1) → z32 (s.2) → zV zmX12_along nn 0 0 Z 166 [(0, zR 200), (1, zI x1), (2, zI x2), (3, zI (s.1)), (4, zI x4), (5, zI (s.2))] [] M Q)   : zV zmX12_along nn 0 0 Z 77 [(0, zR 200), (1, zI x1), (2, zI x2), (3, zI x3), (4, zI x4), (5, zI x5)] [] M Q := by
  unfold fX12_along_l77 at h
  refine zV_iload 5 dX12_along_77 rfl ?_
  refine zV_aload_n 0 dX12_along_79 rfl rfl ?_
  refine zV_getI (zq_200 hZ) zf_X12_43 zkf_X12_343 rfl dX12_along_80 (fun m20 => ?_)
  refine zV_icmp_ge 166 dX12_along_83 (by decide) hx5 m20 (fun hc_ => ?_) (fun hc_ => ?_)
  · replace h := zs_t h hc_
    exact he _ h hx3 hx5
  · replace h := zs_f h hc_
    refine zV_aload_n 0 dX12_along_86 rfl rfl ?_
    refine zV_getR (j := 245) (zq_200 hZ) zf_X12_44 zkf_X12_108 rfl dX12_along_87 ?_
    refine zV_iload 5 dX12_along_90 rfl ?_
    obtain ⟨hg, h⟩ := zs_gd h
    refine zV_iald (zq_245 hZ) hg dX12_along_92 (fun m21 => ?_)
    refine zV_istore [(6, zI (M 245 x5)), (0, zR 200), (1, zI x1), (2, zI x2), (3, zI x3), (4, zI x4), (5, zI x5)] dX12_along_93 (by decide) rfl ?_
    refine zV_iload_n 3 dX12_along_95 rfl rfl ?_
    refine zV_iload 6 dX12_along_96 rfl ?_
    refine zV_ishr dX12_along_98 ?_
    refine zV_iconst (v := 1) dX12_along_99 rfl ?_
    refine zV_iand dX12_along_100 ?_
    refine zV_iconst (v := 1) dX12_along_101 rfl ?_
    refine zV_icmp_ne 160 dX12_along_102 (by decide) (z32_i _) zi_1 (fun hc_ => ?_) (fun hc_ => ?_)
    · replace h := zs_f h hc_
      refine zV_iinc 6 [(5, zI (zw (x5 + 1))), (6, zI (M 245 x5)), (0, zR 200), (1, zI x1), (2, zI x2), (3, zI x3), (4, zI x4)] dX12_along_160 rfl rfl (by decide) rfl ?_
      refine zV_goto 77 dX12_along_163 (by decide) ?_
      refine zV_ls [2, 3, 4, 5, 6, 0] rfl ?_
      exact hc _ h hx3 (z32_w _)
    · replace h := zs_t h hc_
      refine zV_aload_n 1 dX12_along_105 rfl rfl ?_
      refine zV_getR (j := 219) (zq_200 hZ) zf_X12_18 zkf_X12_38 rfl dX12_along_106 ?_
      refine zV_iload 0 dX12_along_109 rfl ?_
      obtain ⟨hg, h⟩ := zs_gd h
      refine zV_iald (zq_219 hZ) hg dX12_along_111 (fun m22 => ?_)
      refine zV_aload_n 1 dX12_along_112 rfl rfl ?_
      refine zV_getR (j := 219) (zq_200 hZ) zf_X12_18 zkf_X12_38 rfl dX12_along_113 ?_
      refine zV_iload 5 dX12_along_116 rfl ?_
      obtain ⟨hg, h⟩ := zs_gd h
      refine zV_iald (zq_219 hZ) hg dX12_along_118 (fun m23 => ?_)
      refine zV_cSI (y' := zmX12_away) (n' := 0) (As := [zI (M 219 (M 245 x5)), zI (M 219 x4)]) zc_X12_399 dX12_along_119 (Nat.le_trans (by decide) hn) rfl (Nat.le_of_ble_eq_true rfl) (Nat.le_of_ble_eq_true rfl) rfl h (fun Q' h' => fX12_away_ok hZ (Nat.le_refl _) m22 m23 h') (fun r24 c25 b26 h => ?_)
      refine zV_iconst (v := 1) dX12_along_122 rfl ?_
      refine zV_icmp_ne 160 dX12_along_123 (by decide) c25 zi_1 (fun hc_ => ?_) (fun hc_ => ?_)
      · replace h := zs_f h hc_
        refine zV_iinc 6 [(5, zI (zw (x5 + 1))), (6, zI (M 245 x5)), (0, zR 200), (1, zI x1), (2, zI x2), (3, zI x3), (4, zI x4)] dX12_along_160 rfl rfl (by decide) rfl ?_
        refine zV_goto 77 dX12_along_163 (by decide) ?_
        refine zV_ls [2, 3, 4, 5, 6, 0] rfl ?_
        exact hc _ h hx3 (z32_w _)
      · replace h := zs_t h hc_
        refine zV_aload_n 1 dX12_along_126 rfl rfl ?_
        refine zV_getR (j := 215) (zq_200 hZ) zf_X12_14 zkf_X12_26 rfl dX12_along_127 ?_
        refine zV_iload 0 dX12_along_130 rfl ?_
        obtain ⟨hg, h⟩ := zs_gd h
        refine zV_iald (zq_215 hZ) hg dX12_along_132 (fun m28 => ?_)
        refine zV_aload_n 1 dX12_along_133 rfl rfl ?_
        refine zV_getR (j := 215) (zq_200 hZ) zf_X12_14 zkf_X12_26 rfl dX12_along_134 ?_
        refine zV_iload 5 dX12_along_137 rfl ?_
        obtain ⟨hg, h⟩ := zs_gd h
        refine zV_iald (zq_215 hZ) hg dX12_along_139 (fun m29 => ?_)
        refine zV_cSI (y' := zmX12_away) (n' := 0) (As := [zI (M 215 (M 245 x5)), zI (M 215 x4)]) zc_X12_399 dX12_along_140 (Nat.le_trans (by decide) hn) rfl (Nat.le_of_ble_eq_true rfl) (Nat.le_of_ble_eq_true rfl) rfl h (fun Q' h' => fX12_away_ok hZ (Nat.le_refl _) m28 m29 h') (fun r30 c31 b32 h => ?_)
        refine zV_aload_n 1 dX12_along_143 rfl rfl ?_
        refine zV_getR (j := 225) (zq_200 hZ) zf_X12_24 zkf_X12_56 rfl dX12_along_144 ?_
        refine zV_bipush (v := 9) dX12_along_147 rfl ?_
        obtain ⟨hg, h⟩ := zs_gd h
        refine zV_iald (zq_225 hZ) hg dX12_along_149 (fun m34 => ?_)
        refine zV_icmp_gt 160 dX12_along_150 (by decide) c31 m34 (fun hc_ => ?_) (fun hc_ => ?_)
        · replace h := zs_t h hc_
          refine zV_iinc 6 [(5, zI (zw (x5 + 1))), (6, zI (M 245 x5)), (0, zR 200), (1, zI x1), (2, zI x2), (3, zI x3), (4, zI x4)] dX12_along_160 rfl rfl (by decide) rfl ?_
          refine zV_goto 77 dX12_along_163 (by decide) ?_
          refine zV_ls [2, 3, 4, 5, 6, 0] rfl ?_
          exact hc _ h hx3 (z32_w _)
        · replace h := zs_f h hc_
          refine zV_iload_n 4 dX12_along_153 rfl rfl ?_
          refine zV_iconst (v := 1) dX12_along_154 rfl ?_
          refine zV_iload 5 dX12_along_155 rfl ?_
          refine zV_ishl dX12_along_157 ?_
          refine zV_ior dX12_along_158 ?_
          refine zV_istore_n [(3, zI (zor x3 (zshl 1 x4))), (6, zI (M 245 x5)), (0, zR 200), (1, zI x1), (2, zI x2), (4, zI x4), (5, zI x5)] dX12_along_159 rfl (by decide) rfl ?_
          refine zV_iinc 6 [(5, zI (zw (x5 + 1))), (3, zI (zor x3 (zshl 1 x4))), (6, zI (M 245 x5)), (0, zR 200), (1, zI x1), (2, zI x2), (4, zI x4)] dX12_along_160 rfl rfl (by decide) rfl ?_
          refine zV_goto 77 dX12_along_163 (by decide) ?_
          refine zV_ls [3, 4, 5, 1, 6, 0] rfl ?_
          exact hc _ h (z32_i _) (z32_w _)
noncomputable def fX12_along_l29 (x1 x2 x3 x4 : Int) (M : zMem) : Option ((Int × Int) ⊕ (Int × Int)) :=
  (zgd ((0 : Int) ≤ (0 : Int) ∧ (0 : Int) < 6) (if (M 211 0) ≤ x4 then some (.inr (x3, x4)) else (zgd ((0 : Int) ≤ x4 ∧ x4 < 72) (if (M 219 x4) < 0 then some (.inl (x3, (zw (x4 + 1)))) else (zgd ((0 : Int) ≤ x4 ∧ x4 < 12) (if (M 251 x4) ≤ x1 then some (.inl (x3, (zw (x4 + 1)))) else (zbd (fX12_touchedIn x4 x1 M) fun r16 => (if r16 ≤ 0 then (zbd (zit (fun s35 => fX12_along_l77 x1 x2 x4 (s35.1) (s35.2) M) (x3, 0)) fun s42 => some (.inl (s42.1, (zw (x4 + 1))))) else some (.inl (x3, (zw (x4 + 1))))))))))))
set_option maxRecDepth 100000 in
set_option maxHeartbeats 4000000 in
theorem fX12_along_l29_ok {Z : zZ} (hZ : zB Z) {nn : Nat} (hn : 5 ≤ nn)  {x1 x2 x3 x4 : Int} (hx1 : z32 x1) (hx2 : z32 x2) (hx3 : z32 x3) (hx4 : z32 x4) {M : zMem} {Q : Option zAV → zMem → zZ → Prop} {P : (Int × Int) ⊕ (Int × Int) → Prop} (h : zSat (fX12_along_l29 x1 x2 x3 x4 M) P)  (hc : ∀ s : Int × Int, P (.inl s) → z32 (s.1) → z32 (s.2) → zV zmX12_along nn 0 0 Z 29 [(0, zR 200), (1, zI x1), (2, zI x2), (3, zI (s.1)), (4, zI (s.2))] [] M Q) (he : ∀ s : Int × Int, P (.inr s) → z32 (s.1) → z32 (s.2) → zV zmX12_along nn 0 0 Z 172 [(0, zR 200), (1, zI x1), (2, zI x2), (3, zI (s.1)), (4, zI (s.2))] [] M Q)   : zV zmX12_along nn 0 0 Z 29 [(0, zR 200), (1, zI x1), (2, zI x2), (3, zI x3), (4, zI x4)] [] M Q := by
  unfold fX12_along_l29 at h
  refine zV_iload 4 dX12_along_29 rfl ?_
  refine zV_aload_n 0 dX12_along_31 rfl rfl ?_
  refine zV_getR (j := 211) (zq_200 hZ) zf_X12_10 zkf_X12_13 rfl dX12_along_32 ?_
  refine zV_iconst (v := 0) dX12_along_35 rfl ?_
  obtain ⟨hg, h⟩ := zs_gd h
  refine zV_iald (zq_211 hZ) hg dX12_along_36 (fun m13 => ?_)
  refine zV_icmp_ge 172 dX12_along_37 (by decide) hx4 m13 (fun hc_ => ?_) (fun hc_ => ?_)
  · replace h := zs_t h hc_
    exact he _ h hx3 hx4
  · replace h := zs_f h hc_
    refine zV_aload_n 0 dX12_along_40 rfl rfl ?_
    refine zV_getR (j := 219) (zq_200 hZ) zf_X12_18 zkf_X12_38 rfl dX12_along_41 ?_
    refine zV_iload 4 dX12_along_44 rfl ?_
    obtain ⟨hg, h⟩ := zs_gd h
    refine zV_iald (zq_219 hZ) hg dX12_along_46 (fun m14 => ?_)
    refine zV_if_lt 166 dX12_along_47 (by decide) m14 (fun hc_ => ?_) (fun hc_ => ?_)
    · replace h := zs_t h hc_
      refine zV_iinc 4 [(4, zI (zw (x4 + 1))), (0, zR 200), (1, zI x1), (2, zI x2), (3, zI x3)] dX12_along_166 rfl rfl (by decide) rfl ?_
      refine zV_goto 29 dX12_along_169 (by decide) ?_
      refine zV_ls [1, 2, 3, 4, 0] rfl ?_
      exact hc _ h hx3 (z32_w _)
    · replace h := zs_f h hc_
      refine zV_iload_n 1 dX12_along_50 rfl rfl ?_
      refine zV_aload_n 0 dX12_along_51 rfl rfl ?_
      refine zV_getR (j := 251) (zq_200 hZ) zf_X12_50 zkf_X12_126 rfl dX12_along_52 ?_
      refine zV_iload 4 dX12_along_55 rfl ?_
      obtain ⟨hg, h⟩ := zs_gd h
      refine zV_iald (zq_251 hZ) hg dX12_along_57 (fun m15 => ?_)
      refine zV_icmp_ge 166 dX12_along_58 (by decide) hx1 m15 (fun hc_ => ?_) (fun hc_ => ?_)
      · replace h := zs_t h hc_
        refine zV_iinc 4 [(4, zI (zw (x4 + 1))), (0, zR 200), (1, zI x1), (2, zI x2), (3, zI x3)] dX12_along_166 rfl rfl (by decide) rfl ?_
        refine zV_goto 29 dX12_along_169 (by decide) ?_
        refine zV_ls [1, 2, 3, 4, 0] rfl ?_
        exact hc _ h hx3 (z32_w _)
      · replace h := zs_f h hc_
        refine zV_aload_n 0 dX12_along_61 rfl rfl ?_
        refine zV_iload 4 dX12_along_62 rfl ?_
        refine zV_iload_n 1 dX12_along_64 rfl rfl ?_
        refine zV_cVI (y' := zmX12_touchedIn) (n' := 2) (As := [zI x4, zI x1]) zc_X12_367 (zq_200 hZ) rfl dX12_along_65 (Nat.le_trans (by decide) hn) rfl (Nat.le_of_ble_eq_true rfl) (Nat.le_of_ble_eq_true rfl) rfl h (fun Q' h' => fX12_touchedIn_ok hZ (Nat.le_refl _) hx4 hx1 h') (fun r16 c17 b18 h => ?_)
        refine zV_if_le 74 dX12_along_68 (by decide) c17 (fun hc_ => ?_) (fun hc_ => ?_)
        · replace h := zs_t h hc_
          refine zV_iconst (v := 0) dX12_along_74 rfl ?_
          refine zV_istore [(5, zI 0), (0, zR 200), (1, zI x1), (2, zI x2), (3, zI x3), (4, zI x4)] dX12_along_75 (by decide) rfl ?_
          refine zV_ls [1, 2, 3, 4, 5, 0] rfl ?_
          refine (zV_loop (Vh := fun s35 : Int × Int => z32 (s35.1) → z32 (s35.2) → zV zmX12_along nn 0 0 Z 77 [(0, zR 200), (1, zI x1), (2, zI x2), (3, zI (s35.1)), (4, zI x4), (5, zI (s35.2))] [] M Q) h (fun s35 P36 hP37 hc38 he39 => ?_)) hx3 zi_0
          intro c40 c41
          refine fX12_along_l77_ok hZ hn hx1 hx2 hx4 c40 c41 hP37 hc38 (fun s42 h43 d44 d45 => ?_)
          have h := he39 _ h43
          refine zV_iinc 4 [(4, zI (zw (x4 + 1))), (0, zR 200), (1, zI x1), (2, zI x2), (3, zI (s42.1)), (5, zI (s42.2))] dX12_along_166 rfl rfl (by decide) rfl ?_
          refine zV_goto 29 dX12_along_169 (by decide) ?_
          refine zV_ls [1, 2, 3, 4, 0] rfl ?_
          exact hc _ h d44 (z32_w _)
        · replace h := zs_f h hc_
          refine zV_goto 166 dX12_along_71 (by decide) ?_
          refine zV_iinc 4 [(4, zI (zw (x4 + 1))), (0, zR 200), (1, zI x1), (2, zI x2), (3, zI x3)] dX12_along_166 rfl rfl (by decide) rfl ?_
          refine zV_goto 29 dX12_along_169 (by decide) ?_
          refine zV_ls [1, 2, 3, 4, 0] rfl ?_
          exact hc _ h hx3 (z32_w _)
noncomputable def fX12_along (x1 : Int) (M : zMem) : Option (Int × zMem) :=
  (zbd (fX12_isBeat x1 (zup M 200 0 0)) fun r1 => (if r1 = 0 then some ((-1), (zup M 200 0 0)) else (zbd (fX12_warms (zup M 200 0 0)) fun M8 => (zbd2 (fX12_soundsIn x1 M8) fun r9 M12 => (zbd (zit (fun s46 => fX12_along_l29 x1 r9 (s46.1) (s46.2) M12) (0, 0)) fun s53 => some (s53.1, M12))))))
set_option maxRecDepth 100000 in
set_option maxHeartbeats 4000000 in
theorem fX12_along_ok {Z : zZ} (hZ : zB Z) {nn : Nat} (hn : 5 ≤ nn)  {x1 : Int} (hx1 : z32 x1) {M : zMem} {Q : Option zAV → zMem → zZ → Prop} (h : zSat (fX12_along x1 M) (fun r => Q (some (zI r.1)) r.2 Z))  : zV zmX12_along nn 0 0 Z 0 [(0, zR 200), (1, zI x1)] [] M Q := by
  unfold fX12_along at h
  refine zV_aload_n 0 dX12_along_0 rfl rfl ?_
  refine zV_iconst (v := 0) dX12_along_1 rfl ?_
  refine zV_putI (zq_200 hZ) (by decide) zf_X12_0 zkf_X12_157 rfl dX12_along_2 zi_0 ?_
  refine zV_iload_n 1 dX12_along_5 rfl rfl ?_
  refine zV_cSI (y' := zmX12_isBeat) (n' := 0) (As := [zI x1]) zc_X12_355 dX12_along_6 (Nat.le_trans (by decide) hn) rfl (Nat.le_of_ble_eq_true rfl) (Nat.le_of_ble_eq_true rfl) rfl h (fun Q' h' => fX12_isBeat_ok hZ (Nat.le_refl _) hx1 h') (fun r1 c2 b3 h => ?_)
  refine zV_if_ne 14 dX12_along_9 (by decide) c2 (fun hc_ => ?_) (fun hc_ => ?_)
  · replace h := zs_f h hc_
    refine zV_aload_n 0 dX12_along_14 rfl rfl ?_
    refine zV_cVV (y' := zmX12_warms) (n' := 3) (As := []) zc_X12_377 (zq_200 hZ) rfl dX12_along_15 (Nat.le_trans (by decide) hn) rfl (Nat.le_of_ble_eq_true rfl) (Nat.le_of_ble_eq_true rfl) rfl h (fun Q' h' => fX12_warms_ok hZ (Nat.le_refl _)  h') (fun M8 h => ?_)
    refine zV_aload_n 0 dX12_along_18 rfl rfl ?_
    refine zV_iload_n 1 dX12_along_19 rfl rfl ?_
    refine zV_cVIm (y' := zmX12_soundsIn) (n' := 4) (As := [zI x1]) zc_X12_396 (zq_200 hZ) rfl dX12_along_20 (Nat.le_trans (by decide) hn) rfl (Nat.le_of_ble_eq_true rfl) (Nat.le_of_ble_eq_true rfl) rfl h (fun Q' h' => fX12_soundsIn_ok hZ (Nat.le_refl _) hx1 h') (fun r9 M12 c10 b11 h => ?_)
    refine zV_istore_n [(2, zI r9), (0, zR 200), (1, zI x1)] dX12_along_23 rfl (by decide) rfl ?_
    refine zV_iconst (v := 0) dX12_along_24 rfl ?_
    refine zV_istore_n [(3, zI 0), (2, zI r9), (0, zR 200), (1, zI x1)] dX12_along_25 rfl (by decide) rfl ?_
    refine zV_iconst (v := 0) dX12_along_26 rfl ?_
    refine zV_istore [(4, zI 0), (3, zI 0), (2, zI r9), (0, zR 200), (1, zI x1)] dX12_along_27 (by decide) rfl ?_
    refine zV_ls [3, 4, 2, 1, 0] rfl ?_
    refine (zV_loop (Vh := fun s46 : Int × Int => z32 (s46.1) → z32 (s46.2) → zV zmX12_along nn 0 0 Z 29 [(0, zR 200), (1, zI x1), (2, zI r9), (3, zI (s46.1)), (4, zI (s46.2))] [] M12 Q) h (fun s46 P47 hP48 hc49 he50 => ?_)) zi_0 zi_0
    intro c51 c52
    refine fX12_along_l29_ok hZ hn hx1 c10 c51 c52 hP48 hc49 (fun s53 h54 d55 d56 => ?_)
    have h := he50 _ h54
    refine zV_iload_n 3 dX12_along_172 rfl rfl ?_
    exact zV_ireti dX12_along_173 rfl d55 h
  · replace h := zs_t h hc_
    refine zV_iconst (v := (-1)) dX12_along_12 rfl ?_
    exact zV_ireti dX12_along_13 rfl zi_n1 h
noncomputable def fX12_silence_j69 (x2 x3 x4 x5 s0 : Int) (M : zMem) : Option ((Int × Int) ⊕ (Int × Int)) :=
  some (.inl (s0, (zw (x5 + (-1)))))
set_option maxRecDepth 100000 in
set_option maxHeartbeats 4000000 in
theorem fX12_silence_j69_ok {Z : zZ} (hZ : zB Z) {nn : Nat} (hn : 5 ≤ nn)  {x2 x3 x4 x5 s0 : Int} (hx2 : z32 x2) (hx3 : z32 x3) (hx4 : z32 x4) (hx5 : z32 x5) (hs0 : z32 s0) {M : zMem} {Q : Option zAV → zMem → zZ → Prop} {P : (Int × Int) ⊕ (Int × Int) → Prop} (h : zSat (fX12_silence_j69 x2 x3 x4 x5 s0 M) P)  (hc : ∀ s : Int × Int, P (.inl s) → z32 (s.1) → z32 (s.2) → zV zmX12_silence nn 0 0 Z 47 [(0, zR 200), (2, zI x2), (3, zI x3), (4, zI (s.1)), (5, zI (s.2))] [] M Q) (he : ∀ s : Int × Int, P (.inr s) → z32 (s.1) → z32 (s.2) → zV zmX12_silence nn 0 0 Z 77 [(0, zR 200), (2, zI x2), (3, zI x3), (4, zI (s.1)), (5, zI (s.2))] [] M Q)   : zV zmX12_silence nn 0 0 Z 69 [(0, zR 200), (2, zI x2), (3, zI x3), (4, zI x4), (5, zI x5)] [zI s0] M Q := by
  unfold fX12_silence_j69 at h
  refine zV_istore [(4, zI s0), (0, zR 200), (2, zI x2), (3, zI x3), (5, zI x5)] dX12_silence_69 (by decide) rfl ?_
  refine zV_iinc 4 [(5, zI (zw (x5 + (-1)))), (4, zI s0), (0, zR 200), (2, zI x2), (3, zI x3)] dX12_silence_71 rfl rfl (by decide) rfl ?_
  refine zV_goto 47 dX12_silence_74 (by decide) ?_
  refine zV_ls [2, 3, 4, 1, 0] rfl ?_
  exact hc _ h hs0 (z32_w _)
noncomputable def fX12_silence_l47 (x2 x3 x4 x5 : Int) (M : zMem) : Option ((Int × Int) ⊕ (Int × Int)) :=
  (if x5 < 0 then some (.inr (x4, x5)) else (zbd (fX12_lasts x5 x3 M) fun r14 => (if r14 = 0 then fX12_silence_j69 x2 x3 x4 x5 x4 M else fX12_silence_j69 x2 x3 x4 x5 x5 M)))
set_option maxRecDepth 100000 in
set_option maxHeartbeats 4000000 in
theorem fX12_silence_l47_ok {Z : zZ} (hZ : zB Z) {nn : Nat} (hn : 5 ≤ nn)  {x2 x3 x4 x5 : Int} (hx2 : z32 x2) (hx3 : z32 x3) (hx4 : z32 x4) (hx5 : z32 x5) {M : zMem} {Q : Option zAV → zMem → zZ → Prop} {P : (Int × Int) ⊕ (Int × Int) → Prop} (h : zSat (fX12_silence_l47 x2 x3 x4 x5 M) P)  (hc : ∀ s : Int × Int, P (.inl s) → z32 (s.1) → z32 (s.2) → zV zmX12_silence nn 0 0 Z 47 [(0, zR 200), (2, zI x2), (3, zI x3), (4, zI (s.1)), (5, zI (s.2))] [] M Q) (he : ∀ s : Int × Int, P (.inr s) → z32 (s.1) → z32 (s.2) → zV zmX12_silence nn 0 0 Z 77 [(0, zR 200), (2, zI x2), (3, zI x3), (4, zI (s.1)), (5, zI (s.2))] [] M Q)   : zV zmX12_silence nn 0 0 Z 47 [(0, zR 200), (2, zI x2), (3, zI x3), (4, zI x4), (5, zI x5)] [] M Q := by
  unfold fX12_silence_l47 at h
  refine zV_iload 4 dX12_silence_47 rfl ?_
  refine zV_if_lt 77 dX12_silence_49 (by decide) hx5 (fun hc_ => ?_) (fun hc_ => ?_)
  · replace h := zs_t h hc_
    exact he _ h hx4 hx5
  · replace h := zs_f h hc_
    refine zV_aload_n 0 dX12_silence_52 rfl rfl ?_
    refine zV_iload 4 dX12_silence_53 rfl ?_
    refine zV_iload_n 2 dX12_silence_55 rfl rfl ?_
    refine zV_cVI (y' := zmX12_lasts) (n' := 1) (As := [zI x5, zI x3]) zc_X12_364 (zq_200 hZ) rfl dX12_silence_56 (Nat.le_trans (by decide) hn) rfl (Nat.le_of_ble_eq_true rfl) (Nat.le_of_ble_eq_true rfl) rfl h (fun Q' h' => fX12_lasts_ok hZ (Nat.le_refl _) hx5 hx3 h') (fun r14 c15 b16 h => ?_)
    refine zV_if_eq 67 dX12_silence_59 (by decide) c15 (fun hc_ => ?_) (fun hc_ => ?_)
    · replace h := zs_t h hc_
      refine zV_iload 3 dX12_silence_67 rfl ?_
      exact fX12_silence_j69_ok hZ hn hx2 hx3 hx4 hx5 hx4 h hc he
    · replace h := zs_f h hc_
      refine zV_iload 4 dX12_silence_62 rfl ?_
      refine zV_goto 69 dX12_silence_64 (by decide) ?_
      exact fX12_silence_j69_ok hZ hn hx2 hx3 hx4 hx5 hx5 h hc he
noncomputable def fX12_silence_l29 (x2 x3 : Int) (M : zMem) : Option ((Int × zMem) ⊕ ((Int × zMem) ⊕ (Int × zMem))) :=
  (if 200 ≤ x3 then some (.inr (.inl (x3, M))) else (zbd (zit (fun s18 => fX12_silence_l47 x2 x3 (s18.1) (s18.2) M) ((-1), (zw ((M 200 43) - 1)))) fun s25 => (if s25.1 < 0 then some (.inl ((zw (x3 + 1)), M)) else (zbd2 (fX12_soundsIn x3 M) fun r29 M32 => (if r29 ≤ 0 then (if x2 = 0 then some (.inr (.inr (x3, M32))) else (if x2 = 1 then some (.inr (.inr (s25.1, M32))) else (zgd ((0 : Int) ≤ (0 : Int) ∧ (0 : Int) < 66) (zbd2 (fX12_whyIn (s25.1) x3 (M32 225 0) M32) fun r34 M37 => some (.inr (.inr (r34, M37))))))) else some (.inl ((zw (x3 + 1)), M32)))))))
set_option maxRecDepth 100000 in
set_option maxHeartbeats 4000000 in
theorem fX12_silence_l29_ok {Z : zZ} (hZ : zB Z) {nn : Nat} (hn : 5 ≤ nn)  {x2 x3 : Int} (hx2 : z32 x2) (hx3 : z32 x3) {M : zMem} {Q : Option zAV → zMem → zZ → Prop} {P : (Int × zMem) ⊕ ((Int × zMem) ⊕ (Int × zMem)) → Prop} (h : zSat (fX12_silence_l29 x2 x3 M) P)  (hc : ∀ s : Int × zMem, P (.inl s) → z32 (s.1) → zV zmX12_silence nn 0 0 Z 29 [(0, zR 200), (2, zI x2), (3, zI (s.1))] [] (s.2) Q) (he : ∀ s : Int × zMem, P (.inr (.inl s)) → z32 (s.1) → zV zmX12_silence nn 0 0 Z 131 [(0, zR 200), (2, zI x2), (3, zI (s.1))] [] (s.2) Q) (hr : ∀ r : Int × zMem, P (.inr (.inr r)) → (fun r => Q (some (zI r.1)) r.2 Z) r)  : zV zmX12_silence nn 0 0 Z 29 [(0, zR 200), (2, zI x2), (3, zI x3)] [] M Q := by
  unfold fX12_silence_l29 at h
  refine zV_iload_n 2 dX12_silence_29 rfl rfl ?_
  refine zV_sipush (v := 200) dX12_silence_30 rfl ?_
  refine zV_icmp_ge 131 dX12_silence_33 (by decide) hx3 zi_200 (fun hc_ => ?_) (fun hc_ => ?_)
  · replace h := zs_t h hc_
    exact he _ h hx3
  · replace h := zs_f h hc_
    refine zV_iconst (v := (-1)) dX12_silence_36 rfl ?_
    refine zV_istore [(4, zI (-1)), (0, zR 200), (2, zI x2), (3, zI x3)] dX12_silence_37 (by decide) rfl ?_
    refine zV_aload_n 1 dX12_silence_39 rfl rfl ?_
    refine zV_getI (zq_200 hZ) zf_X12_43 zkf_X12_343 rfl dX12_silence_40 (fun m13 => ?_)
    refine zV_iconst (v := 1) dX12_silence_43 rfl ?_
    refine zV_isub dX12_silence_44 ?_
    refine zV_w ?_
    refine zV_istore [(5, zI (zw ((M 200 43) - 1))), (4, zI (-1)), (0, zR 200), (2, zI x2), (3, zI x3)] dX12_silence_45 (by decide) rfl ?_
    refine zV_ls [2, 3, 4, 1, 0] rfl ?_
    refine (zV_loop (Vh := fun s18 : Int × Int => z32 (s18.1) → z32 (s18.2) → zV zmX12_silence nn 0 0 Z 47 [(0, zR 200), (2, zI x2), (3, zI x3), (4, zI (s18.1)), (5, zI (s18.2))] [] M Q) h (fun s18 P19 hP20 hc21 he22 => ?_)) zi_n1 (z32_w _)
    intro c23 c24
    refine fX12_silence_l47_ok hZ hn hx2 hx3 c23 c24 hP20 hc21 (fun s25 h26 d27 d28 => ?_)
    have h := he22 _ h26
    refine zV_iload 3 dX12_silence_77 rfl ?_
    refine zV_if_lt 125 dX12_silence_79 (by decide) d27 (fun hc_ => ?_) (fun hc_ => ?_)
    · replace h := zs_t h hc_
      refine zV_iinc 2 [(3, zI (zw (x3 + 1))), (0, zR 200), (2, zI x2), (4, zI (s25.1)), (5, zI (s25.2))] dX12_silence_125 rfl rfl (by decide) rfl ?_
      refine zV_goto 29 dX12_silence_128 (by decide) ?_
      refine zV_ls [1, 2, 0] rfl ?_
      exact hc _ h (z32_w _)
    · replace h := zs_f h hc_
      refine zV_aload_n 0 dX12_silence_82 rfl rfl ?_
      refine zV_iload_n 2 dX12_silence_83 rfl rfl ?_
      refine zV_cVIm (y' := zmX12_soundsIn) (n' := 4) (As := [zI x3]) zc_X12_396 (zq_200 hZ) rfl dX12_silence_84 (Nat.le_trans (by decide) hn) rfl (Nat.le_of_ble_eq_true rfl) (Nat.le_of_ble_eq_true rfl) rfl h (fun Q' h' => fX12_soundsIn_ok hZ (Nat.le_refl _) hx3 h') (fun r29 M32 c30 b31 h => ?_)
      refine zV_if_le 93 dX12_silence_87 (by decide) c30 (fun hc_ => ?_) (fun hc_ => ?_)
      · replace h := zs_t h hc_
        refine zV_iload_n 1 dX12_silence_93 rfl rfl ?_
        refine zV_if_ne 101 dX12_silence_94 (by decide) hx2 (fun hc_ => ?_) (fun hc_ => ?_)
        · replace h := zs_f h hc_
          refine zV_iload_n 1 dX12_silence_101 rfl rfl ?_
          refine zV_iconst (v := 1) dX12_silence_102 rfl ?_
          refine zV_icmp_ne 111 dX12_silence_103 (by decide) hx2 zi_1 (fun hc_ => ?_) (fun hc_ => ?_)
          · replace h := zs_f h hc_
            refine zV_aload_n 0 dX12_silence_111 rfl rfl ?_
            refine zV_iload 3 dX12_silence_112 rfl ?_
            refine zV_iload_n 2 dX12_silence_114 rfl rfl ?_
            refine zV_aload_n 0 dX12_silence_115 rfl rfl ?_
            refine zV_getR (j := 225) (zq_200 hZ) zf_X12_24 zkf_X12_56 rfl dX12_silence_116 ?_
            refine zV_iconst (v := 0) dX12_silence_119 rfl ?_
            obtain ⟨hg, h⟩ := zs_gd h
            refine zV_iald (zq_225 hZ) hg dX12_silence_120 (fun m33 => ?_)
            refine zV_cVIm (y' := zmX12_whyIn) (n' := 3) (As := [zI (s25.1), zI x3, zI (M32 225 0)]) zc_X12_389 (zq_200 hZ) rfl dX12_silence_121 (Nat.le_trans (by decide) hn) rfl (Nat.le_of_ble_eq_true rfl) (Nat.le_of_ble_eq_true rfl) rfl h (fun Q' h' => fX12_whyIn_ok hZ (Nat.le_refl _) d27 hx3 m33 h') (fun r34 M37 c35 b36 h => ?_)
            exact zV_ireti dX12_silence_124 rfl c35 (hr _ h)
          · replace h := zs_t h hc_
            refine zV_iload 3 dX12_silence_106 rfl ?_
            refine zV_goto 124 dX12_silence_108 (by decide) ?_
            exact zV_ireti dX12_silence_124 rfl d27 (hr _ h)
        · replace h := zs_t h hc_
          refine zV_iload_n 2 dX12_silence_97 rfl rfl ?_
          refine zV_goto 124 dX12_silence_98 (by decide) ?_
          exact zV_ireti dX12_silence_124 rfl hx3 (hr _ h)
      · replace h := zs_f h hc_
        refine zV_goto 125 dX12_silence_90 (by decide) ?_
        refine zV_iinc 2 [(3, zI (zw (x3 + 1))), (0, zR 200), (2, zI x2), (4, zI (s25.1)), (5, zI (s25.2))] dX12_silence_125 rfl rfl (by decide) rfl ?_
        refine zV_goto 29 dX12_silence_128 (by decide) ?_
        refine zV_ls [1, 2, 0] rfl ?_
        exact hc _ h (z32_w _)
noncomputable def fX12_silence (x1 x2 : Int) (M : zMem) : Option (Int × zMem) :=
  (zbd (fX12_isBeat x1 (zup M 200 0 0)) fun r1 => (if r1 = 0 then some ((-1), (zup M 200 0 0)) else (zbd (fX12_isFrom x2 0 2 (zup M 200 0 0)) fun r5 => (if r5 = 0 then some ((-1), (zup M 200 0 0)) else (zbd (fX12_warms (zup M 200 0 0)) fun M12 => (zbd (zit (fun s38 => fX12_silence_l29 x2 (s38.1) (s38.2)) (x1, M12)) fun e => zel e (fun s44 => some ((-1), s44.2)) (fun r => some r)))))))
set_option maxRecDepth 100000 in
set_option maxHeartbeats 4000000 in
theorem fX12_silence_ok {Z : zZ} (hZ : zB Z) {nn : Nat} (hn : 5 ≤ nn)  {x1 x2 : Int} (hx1 : z32 x1) (hx2 : z32 x2) {M : zMem} {Q : Option zAV → zMem → zZ → Prop} (h : zSat (fX12_silence x1 x2 M) (fun r => Q (some (zI r.1)) r.2 Z))  : zV zmX12_silence nn 0 0 Z 0 [(0, zR 200), (1, zI x1), (2, zI x2)] [] M Q := by
  unfold fX12_silence at h
  refine zV_aload_n 0 dX12_silence_0 rfl rfl ?_
  refine zV_iconst (v := 0) dX12_silence_1 rfl ?_
  refine zV_putI (zq_200 hZ) (by decide) zf_X12_0 zkf_X12_157 rfl dX12_silence_2 zi_0 ?_
  refine zV_iload_n 1 dX12_silence_5 rfl rfl ?_
  refine zV_cSI (y' := zmX12_isBeat) (n' := 0) (As := [zI x1]) zc_X12_355 dX12_silence_6 (Nat.le_trans (by decide) hn) rfl (Nat.le_of_ble_eq_true rfl) (Nat.le_of_ble_eq_true rfl) rfl h (fun Q' h' => fX12_isBeat_ok hZ (Nat.le_refl _) hx1 h') (fun r1 c2 b3 h => ?_)
  refine zV_if_eq 21 dX12_silence_9 (by decide) c2 (fun hc_ => ?_) (fun hc_ => ?_)
  · replace h := zs_t h hc_
    refine zV_iconst (v := (-1)) dX12_silence_21 rfl ?_
    exact zV_ireti dX12_silence_22 rfl zi_n1 h
  · replace h := zs_f h hc_
    refine zV_iload_n 2 dX12_silence_12 rfl rfl ?_
    refine zV_iconst (v := 0) dX12_silence_13 rfl ?_
    refine zV_iconst (v := 2) dX12_silence_14 rfl ?_
    refine zV_cSI (y' := zmX12_isFrom) (n' := 0) (As := [zI x2, zI 0, zI 2]) zc_X12_287 dX12_silence_15 (Nat.le_trans (by decide) hn) rfl (Nat.le_of_ble_eq_true rfl) (Nat.le_of_ble_eq_true rfl) rfl h (fun Q' h' => fX12_isFrom_ok hZ (Nat.le_refl _) hx2 zi_0 zi_2 h') (fun r5 c6 b7 h => ?_)
    refine zV_if_ne 23 dX12_silence_18 (by decide) c6 (fun hc_ => ?_) (fun hc_ => ?_)
    · replace h := zs_f h hc_
      refine zV_aload_n 0 dX12_silence_23 rfl rfl ?_
      refine zV_cVV (y' := zmX12_warms) (n' := 3) (As := []) zc_X12_377 (zq_200 hZ) rfl dX12_silence_24 (Nat.le_trans (by decide) hn) rfl (Nat.le_of_ble_eq_true rfl) (Nat.le_of_ble_eq_true rfl) rfl h (fun Q' h' => fX12_warms_ok hZ (Nat.le_refl _)  h') (fun M12 h => ?_)
      refine zV_iload_n 1 dX12_silence_27 rfl rfl ?_
      refine zV_istore_n [(3, zI x1), (0, zR 200), (1, zI x1), (2, zI x2)] dX12_silence_28 rfl (by decide) rfl ?_
      refine zV_ls [1, 3, 0] rfl ?_
      refine (zV_loop (Vh := fun s38 : Int × zMem => z32 (s38.1) → zV zmX12_silence nn 0 0 Z 29 [(0, zR 200), (2, zI x2), (3, zI (s38.1))] [] (s38.2) Q) h (fun s38 P39 hP40 hc41 he42 => ?_)) hx1
      intro c43
      refine fX12_silence_l29_ok hZ hn hx2 c43 hP40 hc41 (fun s44 h45 d46 => ?_) (fun r47 h48 => he42 _ h48)
      have h := he42 _ h45
      refine zV_iconst (v := (-1)) dX12_silence_131 rfl ?_
      exact zV_ireti dX12_silence_132 rfl zi_n1 h
    · replace h := zs_t h hc_
      refine zV_iconst (v := (-1)) dX12_silence_21 rfl ?_
      exact zV_ireti dX12_silence_22 rfl zi_n1 h
noncomputable def fX12_allAt_l4 (x1 x2 x3 : Int) (M : zMem) : Option ((Int × Int × zMem) ⊕ (Int × Int × zMem)) :=
  (if (M 200 43) ≤ x3 then some (.inr (x2, x3, M)) else (zbd2 (fX12_speaksFor x3 x1 M) fun r2 M5 => some (.inl ((zw (x2 + r2)), (zw (x3 + 1)), M5))))
set_option maxRecDepth 100000 in
set_option maxHeartbeats 4000000 in
theorem fX12_allAt_l4_ok {Z : zZ} (hZ : zB Z) {nn : Nat} (hn : 5 ≤ nn)  {x1 x2 x3 : Int} (hx1 : z32 x1) (hx2 : z32 x2) (hx3 : z32 x3) {M : zMem} {Q : Option zAV → zMem → zZ → Prop} {P : (Int × Int × zMem) ⊕ (Int × Int × zMem) → Prop} (h : zSat (fX12_allAt_l4 x1 x2 x3 M) P)  (hc : ∀ s : Int × Int × zMem, P (.inl s) → z32 (s.1) → z32 (s.2.1) → zV zmX12_allAt nn 0 0 Z 4 [(0, zR 200), (1, zI x1), (2, zI (s.1)), (3, zI (s.2.1))] [] (s.2.2) Q) (he : ∀ s : Int × Int × zMem, P (.inr s) → z32 (s.1) → z32 (s.2.1) → zV zmX12_allAt nn 0 0 Z 27 [(0, zR 200), (1, zI x1), (2, zI (s.1)), (3, zI (s.2.1))] [] (s.2.2) Q)   : zV zmX12_allAt nn 0 0 Z 4 [(0, zR 200), (1, zI x1), (2, zI x2), (3, zI x3)] [] M Q := by
  unfold fX12_allAt_l4 at h
  refine zV_iload_n 3 dX12_allAt_4 rfl rfl ?_
  refine zV_aload_n 0 dX12_allAt_5 rfl rfl ?_
  refine zV_getI (zq_200 hZ) zf_X12_43 zkf_X12_343 rfl dX12_allAt_6 (fun m1 => ?_)
  refine zV_icmp_ge 27 dX12_allAt_9 (by decide) hx3 m1 (fun hc_ => ?_) (fun hc_ => ?_)
  · replace h := zs_t h hc_
    exact he _ h hx2 hx3
  · replace h := zs_f h hc_
    refine zV_iload_n 2 dX12_allAt_12 rfl rfl ?_
    refine zV_aload_n 0 dX12_allAt_13 rfl rfl ?_
    refine zV_iload_n 3 dX12_allAt_14 rfl rfl ?_
    refine zV_iload_n 1 dX12_allAt_15 rfl rfl ?_
    refine zV_cVIm (y' := zmX12_speaksFor) (n' := 4) (As := [zI x3, zI x1]) zc_X12_393 (zq_200 hZ) rfl dX12_allAt_16 (Nat.le_trans (by decide) hn) rfl (Nat.le_of_ble_eq_true rfl) (Nat.le_of_ble_eq_true rfl) rfl h (fun Q' h' => fX12_speaksFor_ok hZ (Nat.le_refl _) hx3 hx1 h') (fun r2 M5 c3 b4 h => ?_)
    refine zV_iadd dX12_allAt_19 ?_
    refine zV_w ?_
    refine zV_istore_n [(2, zI (zw (x2 + r2))), (0, zR 200), (1, zI x1), (3, zI x3)] dX12_allAt_20 rfl (by decide) rfl ?_
    refine zV_iinc 3 [(3, zI (zw (x3 + 1))), (2, zI (zw (x2 + r2))), (0, zR 200), (1, zI x1)] dX12_allAt_21 rfl rfl (by decide) rfl ?_
    refine zV_goto 4 dX12_allAt_24 (by decide) ?_
    refine zV_ls [2, 3, 1, 0] rfl ?_
    exact hc _ h (z32_w _) (z32_w _)
noncomputable def fX12_allAt (x1 : Int) (M : zMem) : Option (Int × zMem) :=
  (zbd (zit (fun s6 => fX12_allAt_l4 x1 (s6.1) (s6.2.1) (s6.2.2)) (0, 0, M)) fun s13 => some (s13.1, s13.2.2))
set_option maxRecDepth 100000 in
set_option maxHeartbeats 4000000 in
theorem fX12_allAt_ok {Z : zZ} (hZ : zB Z) {nn : Nat} (hn : 5 ≤ nn)  {x1 : Int} (hx1 : z32 x1) {M : zMem} {Q : Option zAV → zMem → zZ → Prop} (h : zSat (fX12_allAt x1 M) (fun r => Q (some (zI r.1)) r.2 Z))  : zV zmX12_allAt nn 0 0 Z 0 [(0, zR 200), (1, zI x1)] [] M Q := by
  unfold fX12_allAt at h
  refine zV_iconst (v := 0) dX12_allAt_0 rfl ?_
  refine zV_istore_n [(2, zI 0), (0, zR 200), (1, zI x1)] dX12_allAt_1 rfl (by decide) rfl ?_
  refine zV_iconst (v := 0) dX12_allAt_2 rfl ?_
  refine zV_istore_n [(3, zI 0), (2, zI 0), (0, zR 200), (1, zI x1)] dX12_allAt_3 rfl (by decide) rfl ?_
  refine zV_ls [2, 3, 1, 0] rfl ?_
  refine (zV_loop (Vh := fun s6 : Int × Int × zMem => z32 (s6.1) → z32 (s6.2.1) → zV zmX12_allAt nn 0 0 Z 4 [(0, zR 200), (1, zI x1), (2, zI (s6.1)), (3, zI (s6.2.1))] [] (s6.2.2) Q) h (fun s6 P7 hP8 hc9 he10 => ?_)) zi_0 zi_0
  intro c11 c12
  refine fX12_allAt_l4_ok hZ hn hx1 c11 c12 hP8 hc9 (fun s13 h14 d15 d16 => ?_)
  have h := he10 _ h14
  refine zV_iload_n 2 dX12_allAt_27 rfl rfl ?_
  exact zV_ireti dX12_allAt_28 rfl d15 h
noncomputable def fX12_best_l27 (x1 x2 x3 x4 : Int) (M : zMem) : Option ((Int × Int × Int × zMem) ⊕ (Int × Int × Int × zMem)) :=
  (if 100 ≤ x4 then some (.inr (x2, x3, x4, M)) else (zbd2 (fX12_allAt x4 M) fun r9 M12 => (if x3 < r9 then some (.inl (x4, r9, (zw (x4 + 1)), M12)) else some (.inl (x2, x3, (zw (x4 + 1)), M12)))))
set_option maxRecDepth 100000 in
set_option maxHeartbeats 4000000 in
theorem fX12_best_l27_ok {Z : zZ} (hZ : zB Z) {nn : Nat} (hn : 6 ≤ nn)  {x1 x2 x3 x4 : Int} (hx1 : z32 x1) (hx2 : z32 x2) (hx3 : z32 x3) (hx4 : z32 x4) {M : zMem} {Q : Option zAV → zMem → zZ → Prop} {P : (Int × Int × Int × zMem) ⊕ (Int × Int × Int × zMem) → Prop} (h : zSat (fX12_best_l27 x1 x2 x3 x4 M) P)  (hc : ∀ s : Int × Int × Int × zMem, P (.inl s) → z32 (s.1) → z32 (s.2.1) → z32 (s.2.2.1) → zV zmX12_best nn 0 0 Z 27 [(0, zR 200), (1, zI x1), (2, zI (s.1)), (3, zI (s.2.1)), (4, zI (s.2.2.1))] [] (s.2.2.2) Q) (he : ∀ s : Int × Int × Int × zMem, P (.inr s) → z32 (s.1) → z32 (s.2.1) → z32 (s.2.2.1) → zV zmX12_best nn 0 0 Z 63 [(0, zR 200), (1, zI x1), (2, zI (s.1)), (3, zI (s.2.1)), (4, zI (s.2.2.1))] [] (s.2.2.2) Q)   : zV zmX12_best nn 0 0 Z 27 [(0, zR 200), (1, zI x1), (2, zI x2), (3, zI x3), (4, zI x4)] [] M Q := by
  unfold fX12_best_l27 at h
  refine zV_iload 4 dX12_best_27 rfl ?_
  refine zV_bipush (v := 100) dX12_best_29 rfl ?_
  refine zV_icmp_ge 63 dX12_best_31 (by decide) hx4 zi_100 (fun hc_ => ?_) (fun hc_ => ?_)
  · replace h := zs_t h hc_
    exact he _ h hx2 hx3 hx4
  · replace h := zs_f h hc_
    refine zV_aload_n 0 dX12_best_34 rfl rfl ?_
    refine zV_iload 4 dX12_best_35 rfl ?_
    refine zV_cVIm (y' := zmX12_allAt) (n' := 5) (As := [zI x4]) zc_X12_402 (zq_200 hZ) rfl dX12_best_37 (Nat.le_trans (by decide) hn) rfl (Nat.le_of_ble_eq_true rfl) (Nat.le_of_ble_eq_true rfl) rfl h (fun Q' h' => fX12_allAt_ok hZ (Nat.le_refl _) hx4 h') (fun r9 M12 c10 b11 h => ?_)
    refine zV_istore [(5, zI r9), (0, zR 200), (1, zI x1), (2, zI x2), (3, zI x3), (4, zI x4)] dX12_best_40 (by decide) rfl ?_
    refine zV_iload 0 dX12_best_42 rfl ?_
    refine zV_iload_n 4 dX12_best_44 rfl rfl ?_
    refine zV_icmp_gt 51 dX12_best_45 (by decide) c10 hx3 (fun hc_ => ?_) (fun hc_ => ?_)
    · replace h := zs_t h hc_
      refine zV_iload 0 dX12_best_51 rfl ?_
      refine zV_istore_n [(3, zI r9), (5, zI r9), (0, zR 200), (1, zI x1), (2, zI x2), (4, zI x4)] dX12_best_53 rfl (by decide) rfl ?_
      refine zV_iload 5 dX12_best_54 rfl ?_
      refine zV_istore_n [(2, zI x4), (3, zI r9), (5, zI r9), (0, zR 200), (1, zI x1), (4, zI x4)] dX12_best_56 rfl (by decide) rfl ?_
      refine zV_iinc 5 [(4, zI (zw (x4 + 1))), (2, zI x4), (3, zI r9), (5, zI r9), (0, zR 200), (1, zI x1)] dX12_best_57 rfl rfl (by decide) rfl ?_
      refine zV_goto 27 dX12_best_60 (by decide) ?_
      refine zV_ls [4, 5, 1, 2, 0] rfl ?_
      exact hc _ h hx4 c10 (z32_w _)
    · replace h := zs_f h hc_
      refine zV_goto 57 dX12_best_48 (by decide) ?_
      refine zV_iinc 5 [(4, zI (zw (x4 + 1))), (5, zI r9), (0, zR 200), (1, zI x1), (2, zI x2), (3, zI x3)] dX12_best_57 rfl rfl (by decide) rfl ?_
      refine zV_goto 27 dX12_best_60 (by decide) ?_
      refine zV_ls [2, 3, 4, 5, 0] rfl ?_
      exact hc _ h hx2 hx3 (z32_w _)
noncomputable def fX12_best (x1 : Int) (M : zMem) : Option (Int × zMem) :=
  (zbd (fX12_isFrom x1 0 1 (zup M 200 0 0)) fun r1 => (if r1 = 0 then some ((-1), (zup M 200 0 0)) else (zbd (fX12_warms (zup M 200 0 0)) fun M8 => (zbd (zit (fun s13 => fX12_best_l27 x1 (s13.1) (s13.2.1) (s13.2.2.1) (s13.2.2.2)) (0, (-1), 1, M8)) fun s21 => (if x1 = 0 then some (s21.1, s21.2.2.2) else some (s21.2.1, s21.2.2.2))))))
set_option maxRecDepth 100000 in
set_option maxHeartbeats 4000000 in
theorem fX12_best_ok {Z : zZ} (hZ : zB Z) {nn : Nat} (hn : 6 ≤ nn)  {x1 : Int} (hx1 : z32 x1) {M : zMem} {Q : Option zAV → zMem → zZ → Prop} (h : zSat (fX12_best x1 M) (fun r => Q (some (zI r.1)) r.2 Z))  : zV zmX12_best nn 0 0 Z 0 [(0, zR 200), (1, zI x1)] [] M Q := by
  unfold fX12_best at h
  refine zV_aload_n 0 dX12_best_0 rfl rfl ?_
  refine zV_iconst (v := 0) dX12_best_1 rfl ?_
  refine zV_putI (zq_200 hZ) (by decide) zf_X12_0 zkf_X12_157 rfl dX12_best_2 zi_0 ?_
  refine zV_iload_n 1 dX12_best_5 rfl rfl ?_
  refine zV_iconst (v := 0) dX12_best_6 rfl ?_
  refine zV_iconst (v := 1) dX12_best_7 rfl ?_
  refine zV_cSI (y' := zmX12_isFrom) (n' := 0) (As := [zI x1, zI 0, zI 1]) zc_X12_287 dX12_best_8 (Nat.le_trans (by decide) hn) rfl (Nat.le_of_ble_eq_true rfl) (Nat.le_of_ble_eq_true rfl) rfl h (fun Q' h' => fX12_isFrom_ok hZ (Nat.le_refl _) hx1 zi_0 zi_1 h') (fun r1 c2 b3 h => ?_)
  refine zV_if_ne 16 dX12_best_11 (by decide) c2 (fun hc_ => ?_) (fun hc_ => ?_)
  · replace h := zs_f h hc_
    refine zV_aload_n 0 dX12_best_16 rfl rfl ?_
    refine zV_cVV (y' := zmX12_warms) (n' := 3) (As := []) zc_X12_377 (zq_200 hZ) rfl dX12_best_17 (Nat.le_trans (by decide) hn) rfl (Nat.le_of_ble_eq_true rfl) (Nat.le_of_ble_eq_true rfl) rfl h (fun Q' h' => fX12_warms_ok hZ (Nat.le_refl _)  h') (fun M8 h => ?_)
    refine zV_iconst (v := 0) dX12_best_20 rfl ?_
    refine zV_istore_n [(2, zI 0), (0, zR 200), (1, zI x1)] dX12_best_21 rfl (by decide) rfl ?_
    refine zV_iconst (v := (-1)) dX12_best_22 rfl ?_
    refine zV_istore_n [(3, zI (-1)), (2, zI 0), (0, zR 200), (1, zI x1)] dX12_best_23 rfl (by decide) rfl ?_
    refine zV_iconst (v := 1) dX12_best_24 rfl ?_
    refine zV_istore [(4, zI 1), (3, zI (-1)), (2, zI 0), (0, zR 200), (1, zI x1)] dX12_best_25 (by decide) rfl ?_
    refine zV_ls [3, 4, 2, 1, 0] rfl ?_
    refine (zV_loop (Vh := fun s13 : Int × Int × Int × zMem => z32 (s13.1) → z32 (s13.2.1) → z32 (s13.2.2.1) → zV zmX12_best nn 0 0 Z 27 [(0, zR 200), (1, zI x1), (2, zI (s13.1)), (3, zI (s13.2.1)), (4, zI (s13.2.2.1))] [] (s13.2.2.2) Q) h (fun s13 P14 hP15 hc16 he17 => ?_)) zi_0 zi_n1 zi_1
    intro c18 c19 c20
    refine fX12_best_l27_ok hZ hn hx1 c18 c19 c20 hP15 hc16 (fun s21 h22 d23 d24 d25 => ?_)
    have h := he17 _ h22
    refine zV_iload_n 1 dX12_best_63 rfl rfl ?_
    refine zV_if_ne 71 dX12_best_64 (by decide) hx1 (fun hc_ => ?_) (fun hc_ => ?_)
    · replace h := zs_f h hc_
      refine zV_iload_n 3 dX12_best_71 rfl rfl ?_
      exact zV_ireti dX12_best_72 rfl d24 h
    · replace h := zs_t h hc_
      refine zV_iload_n 2 dX12_best_67 rfl rfl ?_
      refine zV_goto 72 dX12_best_68 (by decide) ?_
      exact zV_ireti dX12_best_72 rfl d23 h
  · replace h := zs_t h hc_
    refine zV_iconst (v := (-1)) dX12_best_14 rfl ?_
    exact zV_ireti dX12_best_15 rfl zi_n1 h
noncomputable def fX12_atTreadle (x1 : Int) (M : zMem) : Option (Int × zMem) :=
  (zbd (fX12_isFrom x1 1 99 (zup M 200 0 0)) fun r1 => (if r1 = 0 then some ((-1), (zup M 200 0 0)) else (zbd (fX12_warms (zup M 200 0 0)) fun M8 => (zbd2 (fX12_allAt x1 M8) fun r9 M12 => some (r9, M12)))))
set_option maxRecDepth 100000 in
set_option maxHeartbeats 4000000 in
theorem fX12_atTreadle_ok {Z : zZ} (hZ : zB Z) {nn : Nat} (hn : 6 ≤ nn)  {x1 : Int} (hx1 : z32 x1) {M : zMem} {Q : Option zAV → zMem → zZ → Prop} (h : zSat (fX12_atTreadle x1 M) (fun r => Q (some (zI r.1)) r.2 Z))  : zV zmX12_atTreadle nn 0 0 Z 0 [(0, zR 200), (1, zI x1)] [] M Q := by
  unfold fX12_atTreadle at h
  refine zV_aload_n 0 dX12_atTreadle_0 rfl rfl ?_
  refine zV_iconst (v := 0) dX12_atTreadle_1 rfl ?_
  refine zV_putI (zq_200 hZ) (by decide) zf_X12_0 zkf_X12_157 rfl dX12_atTreadle_2 zi_0 ?_
  refine zV_iload_n 1 dX12_atTreadle_5 rfl rfl ?_
  refine zV_iconst (v := 1) dX12_atTreadle_6 rfl ?_
  refine zV_bipush (v := 99) dX12_atTreadle_7 rfl ?_
  refine zV_cSI (y' := zmX12_isFrom) (n' := 0) (As := [zI x1, zI 1, zI 99]) zc_X12_287 dX12_atTreadle_9 (Nat.le_trans (by decide) hn) rfl (Nat.le_of_ble_eq_true rfl) (Nat.le_of_ble_eq_true rfl) rfl h (fun Q' h' => fX12_isFrom_ok hZ (Nat.le_refl _) hx1 zi_1 zi_99 h') (fun r1 c2 b3 h => ?_)
  refine zV_if_ne 17 dX12_atTreadle_12 (by decide) c2 (fun hc_ => ?_) (fun hc_ => ?_)
  · replace h := zs_f h hc_
    refine zV_aload_n 0 dX12_atTreadle_17 rfl rfl ?_
    refine zV_cVV (y' := zmX12_warms) (n' := 3) (As := []) zc_X12_377 (zq_200 hZ) rfl dX12_atTreadle_18 (Nat.le_trans (by decide) hn) rfl (Nat.le_of_ble_eq_true rfl) (Nat.le_of_ble_eq_true rfl) rfl h (fun Q' h' => fX12_warms_ok hZ (Nat.le_refl _)  h') (fun M8 h => ?_)
    refine zV_aload_n 0 dX12_atTreadle_21 rfl rfl ?_
    refine zV_iload_n 1 dX12_atTreadle_22 rfl rfl ?_
    refine zV_cVIm (y' := zmX12_allAt) (n' := 5) (As := [zI x1]) zc_X12_402 (zq_200 hZ) rfl dX12_atTreadle_23 (Nat.le_trans (by decide) hn) rfl (Nat.le_of_ble_eq_true rfl) (Nat.le_of_ble_eq_true rfl) rfl h (fun Q' h' => fX12_allAt_ok hZ (Nat.le_refl _) hx1 h') (fun r9 M12 c10 b11 h => ?_)
    exact zV_ireti dX12_atTreadle_26 rfl c10 h
  · replace h := zs_t h hc_
    refine zV_iconst (v := (-1)) dX12_atTreadle_15 rfl ?_
    exact zV_ireti dX12_atTreadle_16 rfl zi_n1 h
noncomputable def fX12_meet (x1 x2 : Int) (M : zMem) : Option (Int) :=
  (zgd ((0 : Int) ≤ x1 ∧ x1 < 120) (zbd (fX12_endOf x2 M) fun r2 => (if r2 ≤ (M 246 x1) then some 0 else (zgd ((0 : Int) ≤ x2 ∧ x2 < 120) (zbd (fX12_endOf x1 M) fun r7 => (if r7 ≤ (M 246 x2) then some 0 else some 1))))))
set_option maxRecDepth 100000 in
set_option maxHeartbeats 4000000 in
theorem fX12_meet_ok {Z : zZ} (hZ : zB Z) {nn : Nat} (hn : 1 ≤ nn)  {x1 x2 : Int} (hx1 : z32 x1) (hx2 : z32 x2) {M : zMem} {Q : Option zAV → zMem → zZ → Prop} (h : zSat (fX12_meet x1 x2 M) (fun r => Q (some (zI r)) M Z))  : zV zmX12_meet nn 0 0 Z 0 [(0, zR 200), (1, zI x1), (2, zI x2)] [] M Q := by
  unfold fX12_meet at h
  refine zV_aload_n 0 dX12_meet_0 rfl rfl ?_
  refine zV_getR (j := 246) (zq_200 hZ) zf_X12_45 zkf_X12_111 rfl dX12_meet_1 ?_
  refine zV_iload_n 1 dX12_meet_4 rfl rfl ?_
  obtain ⟨hg, h⟩ := zs_gd h
  refine zV_iald (zq_246 hZ) hg dX12_meet_5 (fun m1 => ?_)
  refine zV_aload_n 0 dX12_meet_6 rfl rfl ?_
  refine zV_iload_n 2 dX12_meet_7 rfl rfl ?_
  refine zV_cVI (y' := zmX12_endOf) (n' := 0) (As := [zI x2]) zc_X12_349 (zq_200 hZ) rfl dX12_meet_8 (Nat.le_trans (by decide) hn) rfl (Nat.le_of_ble_eq_true rfl) (Nat.le_of_ble_eq_true rfl) rfl h (fun Q' h' => fX12_endOf_ok hZ (Nat.le_refl _) hx2 h') (fun r2 c3 b4 h => ?_)
  refine zV_icmp_ge 32 dX12_meet_11 (by decide) m1 c3 (fun hc_ => ?_) (fun hc_ => ?_)
  · replace h := zs_t h hc_
    refine zV_iconst (v := 0) dX12_meet_32 rfl ?_
    exact zV_iretb dX12_meet_33 rfl (Or.inl rfl) h
  · replace h := zs_f h hc_
    refine zV_aload_n 0 dX12_meet_14 rfl rfl ?_
    refine zV_getR (j := 246) (zq_200 hZ) zf_X12_45 zkf_X12_111 rfl dX12_meet_15 ?_
    refine zV_iload_n 2 dX12_meet_18 rfl rfl ?_
    obtain ⟨hg, h⟩ := zs_gd h
    refine zV_iald (zq_246 hZ) hg dX12_meet_19 (fun m6 => ?_)
    refine zV_aload_n 0 dX12_meet_20 rfl rfl ?_
    refine zV_iload_n 1 dX12_meet_21 rfl rfl ?_
    refine zV_cVI (y' := zmX12_endOf) (n' := 0) (As := [zI x1]) zc_X12_349 (zq_200 hZ) rfl dX12_meet_22 (Nat.le_trans (by decide) hn) rfl (Nat.le_of_ble_eq_true rfl) (Nat.le_of_ble_eq_true rfl) rfl h (fun Q' h' => fX12_endOf_ok hZ (Nat.le_refl _) hx1 h') (fun r7 c8 b9 h => ?_)
    refine zV_icmp_ge 32 dX12_meet_25 (by decide) m6 c8 (fun hc_ => ?_) (fun hc_ => ?_)
    · replace h := zs_t h hc_
      refine zV_iconst (v := 0) dX12_meet_32 rfl ?_
      exact zV_iretb dX12_meet_33 rfl (Or.inl rfl) h
    · replace h := zs_f h hc_
      refine zV_iconst (v := 1) dX12_meet_28 rfl ?_
      refine zV_goto 33 dX12_meet_29 (by decide) ?_
      exact zV_iretb dX12_meet_33 rfl (Or.inr rfl) h
noncomputable def fX12_at (x1 : Int) (M : zMem) : Option (Int) :=
  (zgd ((0 : Int) ≤ x1 ∧ x1 < 120) (zgd ((0 : Int) ≤ (M 245 x1) ∧ (M 245 x1) < 72) (some (M 219 (M 245 x1)))))
set_option maxRecDepth 100000 in
set_option maxHeartbeats 4000000 in
theorem fX12_at_ok {Z : zZ} (hZ : zB Z) {nn : Nat} (hn : 0 ≤ nn)  {x1 : Int} (hx1 : z32 x1) {M : zMem} {Q : Option zAV → zMem → zZ → Prop} (h : zSat (fX12_at x1 M) (fun r => Q (some (zI r)) M Z))  : zV zmX12_at nn 0 0 Z 0 [(0, zR 200), (1, zI x1)] [] M Q := by
  unfold fX12_at at h
  refine zV_aload_n 0 dX12_at_0 rfl rfl ?_
  refine zV_getR (j := 219) (zq_200 hZ) zf_X12_18 zkf_X12_38 rfl dX12_at_1 ?_
  refine zV_aload_n 0 dX12_at_4 rfl rfl ?_
  refine zV_getR (j := 245) (zq_200 hZ) zf_X12_44 zkf_X12_108 rfl dX12_at_5 ?_
  refine zV_iload_n 1 dX12_at_8 rfl rfl ?_
  obtain ⟨hg, h⟩ := zs_gd h
  refine zV_iald (zq_245 hZ) hg dX12_at_9 (fun m1 => ?_)
  obtain ⟨hg, h⟩ := zs_gd h
  refine zV_iald (zq_219 hZ) hg dX12_at_10 (fun m2 => ?_)
  exact zV_ireti dX12_at_11 rfl m2 h
noncomputable def fX12_wrongIs_j110 (x1 x2 x3 x4 x5 : Int) (M : zMem) : Option ((Int × Int) ⊕ (Int × Int)) :=
  (zgd ((0 : Int) ≤ (1 : Int) ∧ (1 : Int) < 66) (zgd (¬ (M 225 1) = (0 : Int)) (zgd ((0 : Int) ≤ (1 : Int) ∧ (1 : Int) < 66) (zgd (¬ (M 225 1) = (0 : Int)) (if (zdiv x5 (M 225 1)) = (zdiv x2 (M 225 1)) then (zbd (fX12_at x4 M) fun r9 => (zbd (fX12_at x1 M) fun r13 => (zbd (fX12_away r9 r13 M) fun r17 => (zgd ((0 : Int) ≤ (2 : Int) ∧ (2 : Int) < 66) (if r17 ≤ (M 225 2) then some (.inl (x3, (zw (x4 + 1)))) else some (.inl ((min x3 4), (zw (x4 + 1))))))))) else some (.inl (x3, (zw (x4 + 1)))))))))
set_option maxRecDepth 100000 in
set_option maxHeartbeats 4000000 in
theorem fX12_wrongIs_j110_ok {Z : zZ} (hZ : zB Z) {nn : Nat} (hn : 3 ≤ nn)  {x1 x2 x3 x4 x5 : Int} (hx1 : z32 x1) (hx2 : z32 x2) (hx3 : z32 x3) (hx4 : z32 x4) (hx5 : z32 x5) {M : zMem} {Q : Option zAV → zMem → zZ → Prop} {P : (Int × Int) ⊕ (Int × Int) → Prop} (h : zSat (fX12_wrongIs_j110 x1 x2 x3 x4 x5 M) P)  (hc : ∀ s : Int × Int, P (.inl s) → z32 (s.1) → z32 (s.2) → zV zmX12_wrongIs nn 0 0 Z 19 [(0, zR 200), (1, zI x1), (2, zI x2), (3, zI (s.1)), (4, zI (s.2))] [] M Q) (he : ∀ s : Int × Int, P (.inr s) → z32 (s.1) → z32 (s.2) → zV zmX12_wrongIs nn 0 0 Z 165 [(0, zR 200), (1, zI x1), (2, zI x2), (3, zI (s.1)), (4, zI (s.2))] [] M Q)   : zV zmX12_wrongIs nn 0 0 Z 110 [(0, zR 200), (1, zI x1), (2, zI x2), (3, zI x3), (4, zI x4), (5, zI x5)] [] M Q := by
  unfold fX12_wrongIs_j110 at h
  refine zV_iload 5 dX12_wrongIs_110 rfl ?_
  refine zV_aload_n 0 dX12_wrongIs_112 rfl rfl ?_
  refine zV_getR (j := 225) (zq_200 hZ) zf_X12_24 zkf_X12_56 rfl dX12_wrongIs_113 ?_
  refine zV_iconst (v := 1) dX12_wrongIs_116 rfl ?_
  obtain ⟨hg, h⟩ := zs_gd h
  refine zV_iald (zq_225 hZ) hg dX12_wrongIs_117 (fun m7 => ?_)
  obtain ⟨hg, h⟩ := zs_gd h
  refine zV_idiv dX12_wrongIs_118 m7 hg ?_
  refine zV_iload_n 2 dX12_wrongIs_119 rfl rfl ?_
  refine zV_aload_n 0 dX12_wrongIs_120 rfl rfl ?_
  refine zV_getR (j := 225) (zq_200 hZ) zf_X12_24 zkf_X12_56 rfl dX12_wrongIs_121 ?_
  refine zV_iconst (v := 1) dX12_wrongIs_124 rfl ?_
  obtain ⟨hg, h⟩ := zs_gd h
  refine zV_iald (zq_225 hZ) hg dX12_wrongIs_125 (fun m8 => ?_)
  obtain ⟨hg, h⟩ := zs_gd h
  refine zV_idiv dX12_wrongIs_126 m8 hg ?_
  refine zV_icmp_ne 159 dX12_wrongIs_127 (by decide) (z32_i _) (z32_i _) (fun hc_ => ?_) (fun hc_ => ?_)
  · replace h := zs_f h hc_
    refine zV_iinc 4 [(4, zI (zw (x4 + 1))), (0, zR 200), (1, zI x1), (2, zI x2), (3, zI x3), (5, zI x5)] dX12_wrongIs_159 rfl rfl (by decide) rfl ?_
    refine zV_goto 19 dX12_wrongIs_162 (by decide) ?_
    refine zV_ls [1, 2, 3, 4, 0] rfl ?_
    exact hc _ h hx3 (z32_w _)
  · replace h := zs_t h hc_
    refine zV_aload_n 0 dX12_wrongIs_130 rfl rfl ?_
    refine zV_iload 4 dX12_wrongIs_131 rfl ?_
    refine zV_cVI (y' := zmX12_at) (n' := 0) (As := [zI x4]) zc_X12_411 (zq_200 hZ) rfl dX12_wrongIs_133 (Nat.le_trans (by decide) hn) rfl (Nat.le_of_ble_eq_true rfl) (Nat.le_of_ble_eq_true rfl) rfl h (fun Q' h' => fX12_at_ok hZ (Nat.le_refl _) hx4 h') (fun r9 c10 b11 h => ?_)
    refine zV_aload_n 0 dX12_wrongIs_136 rfl rfl ?_
    refine zV_iload_n 1 dX12_wrongIs_137 rfl rfl ?_
    refine zV_cVI (y' := zmX12_at) (n' := 0) (As := [zI x1]) zc_X12_411 (zq_200 hZ) rfl dX12_wrongIs_138 (Nat.le_trans (by decide) hn) rfl (Nat.le_of_ble_eq_true rfl) (Nat.le_of_ble_eq_true rfl) rfl h (fun Q' h' => fX12_at_ok hZ (Nat.le_refl _) hx1 h') (fun r13 c14 b15 h => ?_)
    refine zV_cSI (y' := zmX12_away) (n' := 0) (As := [zI r9, zI r13]) zc_X12_399 dX12_wrongIs_141 (Nat.le_trans (by decide) hn) rfl (Nat.le_of_ble_eq_true rfl) (Nat.le_of_ble_eq_true rfl) rfl h (fun Q' h' => fX12_away_ok hZ (Nat.le_refl _) c10 c14 h') (fun r17 c18 b19 h => ?_)
    refine zV_aload_n 0 dX12_wrongIs_144 rfl rfl ?_
    refine zV_getR (j := 225) (zq_200 hZ) zf_X12_24 zkf_X12_56 rfl dX12_wrongIs_145 ?_
    refine zV_iconst (v := 2) dX12_wrongIs_148 rfl ?_
    obtain ⟨hg, h⟩ := zs_gd h
    refine zV_iald (zq_225 hZ) hg dX12_wrongIs_149 (fun m21 => ?_)
    refine zV_icmp_le 159 dX12_wrongIs_150 (by decide) c18 m21 (fun hc_ => ?_) (fun hc_ => ?_)
    · replace h := zs_t h hc_
      refine zV_iinc 4 [(4, zI (zw (x4 + 1))), (0, zR 200), (1, zI x1), (2, zI x2), (3, zI x3), (5, zI x5)] dX12_wrongIs_159 rfl rfl (by decide) rfl ?_
      refine zV_goto 19 dX12_wrongIs_162 (by decide) ?_
      refine zV_ls [1, 2, 3, 4, 0] rfl ?_
      exact hc _ h hx3 (z32_w _)
    · replace h := zs_f h hc_
      refine zV_iload_n 3 dX12_wrongIs_153 rfl rfl ?_
      refine zV_iconst (v := 4) dX12_wrongIs_154 rfl ?_
      refine zV_mmin zml_X12_408 dX12_wrongIs_155 (Nat.le_trans (by decide) hn) (Nat.le_of_ble_eq_true rfl) hx3 zi_4 ?_
      refine zV_istore_n [(3, zI (min x3 4)), (0, zR 200), (1, zI x1), (2, zI x2), (4, zI x4), (5, zI x5)] dX12_wrongIs_158 rfl (by decide) rfl ?_
      refine zV_iinc 4 [(4, zI (zw (x4 + 1))), (3, zI (min x3 4)), (0, zR 200), (1, zI x1), (2, zI x2), (5, zI x5)] dX12_wrongIs_159 rfl rfl (by decide) rfl ?_
      refine zV_goto 19 dX12_wrongIs_162 (by decide) ?_
      refine zV_ls [2, 3, 4, 1, 0] rfl ?_
      exact hc _ h (z32_min hx3 zi_4) (z32_w _)
noncomputable def fX12_wrongIs_j104 (x1 x2 x3 x4 x5 : Int) (M : zMem) : Option ((Int × Int) ⊕ (Int × Int)) :=
  fX12_wrongIs_j110 x1 x2 (min x3 3) x4 x5 M
set_option maxRecDepth 100000 in
set_option maxHeartbeats 4000000 in
theorem fX12_wrongIs_j104_ok {Z : zZ} (hZ : zB Z) {nn : Nat} (hn : 3 ≤ nn)  {x1 x2 x3 x4 x5 : Int} (hx1 : z32 x1) (hx2 : z32 x2) (hx3 : z32 x3) (hx4 : z32 x4) (hx5 : z32 x5) {M : zMem} {Q : Option zAV → zMem → zZ → Prop} {P : (Int × Int) ⊕ (Int × Int) → Prop} (h : zSat (fX12_wrongIs_j104 x1 x2 x3 x4 x5 M) P)  (hc : ∀ s : Int × Int, P (.inl s) → z32 (s.1) → z32 (s.2) → zV zmX12_wrongIs nn 0 0 Z 19 [(0, zR 200), (1, zI x1), (2, zI x2), (3, zI (s.1)), (4, zI (s.2))] [] M Q) (he : ∀ s : Int × Int, P (.inr s) → z32 (s.1) → z32 (s.2) → zV zmX12_wrongIs nn 0 0 Z 165 [(0, zR 200), (1, zI x1), (2, zI x2), (3, zI (s.1)), (4, zI (s.2))] [] M Q)   : zV zmX12_wrongIs nn 0 0 Z 104 [(0, zR 200), (1, zI x1), (2, zI x2), (3, zI x3), (4, zI x4), (5, zI x5)] [] M Q := by
  unfold fX12_wrongIs_j104 at h
  refine zV_iload_n 3 dX12_wrongIs_104 rfl rfl ?_
  refine zV_iconst (v := 3) dX12_wrongIs_105 rfl ?_
  refine zV_mmin zml_X12_408 dX12_wrongIs_106 (Nat.le_trans (by decide) hn) (Nat.le_of_ble_eq_true rfl) hx3 zi_3 ?_
  refine zV_istore_n [(3, zI (min x3 3)), (0, zR 200), (1, zI x1), (2, zI x2), (4, zI x4), (5, zI x5)] dX12_wrongIs_109 rfl (by decide) rfl ?_
  refine zV_ls [1, 2, 3, 0, 4, 5] rfl ?_
  exact fX12_wrongIs_j110_ok hZ hn hx1 hx2 (z32_min hx3 zi_3) hx4 hx5 h hc he
noncomputable def fX12_wrongIs_j84 (x1 x2 x3 x4 x5 : Int) (M : zMem) : Option ((Int × Int) ⊕ (Int × Int)) :=
  (if x5 ≤ x2 then fX12_wrongIs_j110 x1 x2 x3 x4 x5 M else (zbd (fX12_at x4 M) fun r22 => (zbd (fX12_at x1 M) fun r26 => (if r26 < r22 then fX12_wrongIs_j110 x1 x2 x3 x4 x5 M else fX12_wrongIs_j104 x1 x2 x3 x4 x5 M))))
set_option maxRecDepth 100000 in
set_option maxHeartbeats 4000000 in
theorem fX12_wrongIs_j84_ok {Z : zZ} (hZ : zB Z) {nn : Nat} (hn : 3 ≤ nn)  {x1 x2 x3 x4 x5 : Int} (hx1 : z32 x1) (hx2 : z32 x2) (hx3 : z32 x3) (hx4 : z32 x4) (hx5 : z32 x5) {M : zMem} {Q : Option zAV → zMem → zZ → Prop} {P : (Int × Int) ⊕ (Int × Int) → Prop} (h : zSat (fX12_wrongIs_j84 x1 x2 x3 x4 x5 M) P)  (hc : ∀ s : Int × Int, P (.inl s) → z32 (s.1) → z32 (s.2) → zV zmX12_wrongIs nn 0 0 Z 19 [(0, zR 200), (1, zI x1), (2, zI x2), (3, zI (s.1)), (4, zI (s.2))] [] M Q) (he : ∀ s : Int × Int, P (.inr s) → z32 (s.1) → z32 (s.2) → zV zmX12_wrongIs nn 0 0 Z 165 [(0, zR 200), (1, zI x1), (2, zI x2), (3, zI (s.1)), (4, zI (s.2))] [] M Q)   : zV zmX12_wrongIs nn 0 0 Z 84 [(0, zR 200), (1, zI x1), (2, zI x2), (3, zI x3), (4, zI x4), (5, zI x5)] [] M Q := by
  unfold fX12_wrongIs_j84 at h
  refine zV_iload 5 dX12_wrongIs_84 rfl ?_
  refine zV_iload_n 2 dX12_wrongIs_86 rfl rfl ?_
  refine zV_icmp_le 110 dX12_wrongIs_87 (by decide) hx5 hx2 (fun hc_ => ?_) (fun hc_ => ?_)
  · replace h := zs_t h hc_
    exact fX12_wrongIs_j110_ok hZ hn hx1 hx2 hx3 hx4 hx5 h hc he
  · replace h := zs_f h hc_
    refine zV_aload_n 0 dX12_wrongIs_90 rfl rfl ?_
    refine zV_iload 4 dX12_wrongIs_91 rfl ?_
    refine zV_cVI (y' := zmX12_at) (n' := 0) (As := [zI x4]) zc_X12_411 (zq_200 hZ) rfl dX12_wrongIs_93 (Nat.le_trans (by decide) hn) rfl (Nat.le_of_ble_eq_true rfl) (Nat.le_of_ble_eq_true rfl) rfl h (fun Q' h' => fX12_at_ok hZ (Nat.le_refl _) hx4 h') (fun r22 c23 b24 h => ?_)
    refine zV_aload_n 0 dX12_wrongIs_96 rfl rfl ?_
    refine zV_iload_n 1 dX12_wrongIs_97 rfl rfl ?_
    refine zV_cVI (y' := zmX12_at) (n' := 0) (As := [zI x1]) zc_X12_411 (zq_200 hZ) rfl dX12_wrongIs_98 (Nat.le_trans (by decide) hn) rfl (Nat.le_of_ble_eq_true rfl) (Nat.le_of_ble_eq_true rfl) rfl h (fun Q' h' => fX12_at_ok hZ (Nat.le_refl _) hx1 h') (fun r26 c27 b28 h => ?_)
    refine zV_icmp_gt 110 dX12_wrongIs_101 (by decide) c23 c27 (fun hc_ => ?_) (fun hc_ => ?_)
    · replace h := zs_t h hc_
      exact fX12_wrongIs_j110_ok hZ hn hx1 hx2 hx3 hx4 hx5 h hc he
    · replace h := zs_f h hc_
      exact fX12_wrongIs_j104_ok hZ hn hx1 hx2 hx3 hx4 hx5 h hc he
noncomputable def fX12_wrongIs_j64 (x1 x2 x3 x4 x5 : Int) (M : zMem) : Option ((Int × Int) ⊕ (Int × Int)) :=
  (if x2 ≤ x5 then fX12_wrongIs_j84 x1 x2 x3 x4 x5 M else (zbd (fX12_at x4 M) fun r30 => (zbd (fX12_at x1 M) fun r34 => (if r34 ≤ r30 then fX12_wrongIs_j104 x1 x2 x3 x4 x5 M else fX12_wrongIs_j84 x1 x2 x3 x4 x5 M))))
set_option maxRecDepth 100000 in
set_option maxHeartbeats 4000000 in
theorem fX12_wrongIs_j64_ok {Z : zZ} (hZ : zB Z) {nn : Nat} (hn : 3 ≤ nn)  {x1 x2 x3 x4 x5 : Int} (hx1 : z32 x1) (hx2 : z32 x2) (hx3 : z32 x3) (hx4 : z32 x4) (hx5 : z32 x5) {M : zMem} {Q : Option zAV → zMem → zZ → Prop} {P : (Int × Int) ⊕ (Int × Int) → Prop} (h : zSat (fX12_wrongIs_j64 x1 x2 x3 x4 x5 M) P)  (hc : ∀ s : Int × Int, P (.inl s) → z32 (s.1) → z32 (s.2) → zV zmX12_wrongIs nn 0 0 Z 19 [(0, zR 200), (1, zI x1), (2, zI x2), (3, zI (s.1)), (4, zI (s.2))] [] M Q) (he : ∀ s : Int × Int, P (.inr s) → z32 (s.1) → z32 (s.2) → zV zmX12_wrongIs nn 0 0 Z 165 [(0, zR 200), (1, zI x1), (2, zI x2), (3, zI (s.1)), (4, zI (s.2))] [] M Q)   : zV zmX12_wrongIs nn 0 0 Z 64 [(0, zR 200), (1, zI x1), (2, zI x2), (3, zI x3), (4, zI x4), (5, zI x5)] [] M Q := by
  unfold fX12_wrongIs_j64 at h
  refine zV_iload 5 dX12_wrongIs_64 rfl ?_
  refine zV_iload_n 2 dX12_wrongIs_66 rfl rfl ?_
  refine zV_icmp_ge 84 dX12_wrongIs_67 (by decide) hx5 hx2 (fun hc_ => ?_) (fun hc_ => ?_)
  · replace h := zs_t h hc_
    exact fX12_wrongIs_j84_ok hZ hn hx1 hx2 hx3 hx4 hx5 h hc he
  · replace h := zs_f h hc_
    refine zV_aload_n 0 dX12_wrongIs_70 rfl rfl ?_
    refine zV_iload 4 dX12_wrongIs_71 rfl ?_
    refine zV_cVI (y' := zmX12_at) (n' := 0) (As := [zI x4]) zc_X12_411 (zq_200 hZ) rfl dX12_wrongIs_73 (Nat.le_trans (by decide) hn) rfl (Nat.le_of_ble_eq_true rfl) (Nat.le_of_ble_eq_true rfl) rfl h (fun Q' h' => fX12_at_ok hZ (Nat.le_refl _) hx4 h') (fun r30 c31 b32 h => ?_)
    refine zV_aload_n 0 dX12_wrongIs_76 rfl rfl ?_
    refine zV_iload_n 1 dX12_wrongIs_77 rfl rfl ?_
    refine zV_cVI (y' := zmX12_at) (n' := 0) (As := [zI x1]) zc_X12_411 (zq_200 hZ) rfl dX12_wrongIs_78 (Nat.le_trans (by decide) hn) rfl (Nat.le_of_ble_eq_true rfl) (Nat.le_of_ble_eq_true rfl) rfl h (fun Q' h' => fX12_at_ok hZ (Nat.le_refl _) hx1 h') (fun r34 c35 b36 h => ?_)
    refine zV_icmp_ge 104 dX12_wrongIs_81 (by decide) c31 c35 (fun hc_ => ?_) (fun hc_ => ?_)
    · replace h := zs_t h hc_
      exact fX12_wrongIs_j104_ok hZ hn hx1 hx2 hx3 hx4 hx5 h hc he
    · replace h := zs_f h hc_
      exact fX12_wrongIs_j84_ok hZ hn hx1 hx2 hx3 hx4 hx5 h hc he
noncomputable def fX12_wrongIs_l19 (x1 x2 x3 x4 : Int) (M : zMem) : Option ((Int × Int) ⊕ (Int × Int)) :=
  (if x1 ≤ x4 then some (.inr (x3, x4)) else (zgd ((0 : Int) ≤ x4 ∧ x4 < 120) (if (M 249 x4) < 0 then some (.inl (x3, (zw (x4 + 1)))) else (zbd (fX12_meet x4 x1 M) fun r3 => (if r3 = 0 then some (.inl (x3, (zw (x4 + 1)))) else (if (M 249 x4) = x2 then fX12_wrongIs_j64 x1 x2 (min x3 2) x4 (M 249 x4) M else fX12_wrongIs_j64 x1 x2 x3 x4 (M 249 x4) M))))))
set_option maxRecDepth 100000 in
set_option maxHeartbeats 4000000 in
theorem fX12_wrongIs_l19_ok {Z : zZ} (hZ : zB Z) {nn : Nat} (hn : 3 ≤ nn)  {x1 x2 x3 x4 : Int} (hx1 : z32 x1) (hx2 : z32 x2) (hx3 : z32 x3) (hx4 : z32 x4) {M : zMem} {Q : Option zAV → zMem → zZ → Prop} {P : (Int × Int) ⊕ (Int × Int) → Prop} (h : zSat (fX12_wrongIs_l19 x1 x2 x3 x4 M) P)  (hc : ∀ s : Int × Int, P (.inl s) → z32 (s.1) → z32 (s.2) → zV zmX12_wrongIs nn 0 0 Z 19 [(0, zR 200), (1, zI x1), (2, zI x2), (3, zI (s.1)), (4, zI (s.2))] [] M Q) (he : ∀ s : Int × Int, P (.inr s) → z32 (s.1) → z32 (s.2) → zV zmX12_wrongIs nn 0 0 Z 165 [(0, zR 200), (1, zI x1), (2, zI x2), (3, zI (s.1)), (4, zI (s.2))] [] M Q)   : zV zmX12_wrongIs nn 0 0 Z 19 [(0, zR 200), (1, zI x1), (2, zI x2), (3, zI x3), (4, zI x4)] [] M Q := by
  unfold fX12_wrongIs_l19 at h
  refine zV_iload 4 dX12_wrongIs_19 rfl ?_
  refine zV_iload_n 1 dX12_wrongIs_21 rfl rfl ?_
  refine zV_icmp_ge 165 dX12_wrongIs_22 (by decide) hx4 hx1 (fun hc_ => ?_) (fun hc_ => ?_)
  · replace h := zs_t h hc_
    exact he _ h hx3 hx4
  · replace h := zs_f h hc_
    refine zV_aload_n 0 dX12_wrongIs_25 rfl rfl ?_
    refine zV_getR (j := 249) (zq_200 hZ) zf_X12_48 zkf_X12_120 rfl dX12_wrongIs_26 ?_
    refine zV_iload 4 dX12_wrongIs_29 rfl ?_
    obtain ⟨hg, h⟩ := zs_gd h
    refine zV_iald (zq_249 hZ) hg dX12_wrongIs_31 (fun m2 => ?_)
    refine zV_istore [(5, zI (M 249 x4)), (0, zR 200), (1, zI x1), (2, zI x2), (3, zI x3), (4, zI x4)] dX12_wrongIs_32 (by decide) rfl ?_
    refine zV_iload 0 dX12_wrongIs_34 rfl ?_
    refine zV_if_lt 159 dX12_wrongIs_36 (by decide) m2 (fun hc_ => ?_) (fun hc_ => ?_)
    · replace h := zs_t h hc_
      refine zV_iinc 5 [(4, zI (zw (x4 + 1))), (5, zI (M 249 x4)), (0, zR 200), (1, zI x1), (2, zI x2), (3, zI x3)] dX12_wrongIs_159 rfl rfl (by decide) rfl ?_
      refine zV_goto 19 dX12_wrongIs_162 (by decide) ?_
      refine zV_ls [2, 3, 4, 5, 0] rfl ?_
      exact hc _ h hx3 (z32_w _)
    · replace h := zs_f h hc_
      refine zV_aload_n 1 dX12_wrongIs_39 rfl rfl ?_
      refine zV_iload 5 dX12_wrongIs_40 rfl ?_
      refine zV_iload_n 2 dX12_wrongIs_42 rfl rfl ?_
      refine zV_cVI (y' := zmX12_meet) (n' := 1) (As := [zI x4, zI x1]) zc_X12_405 (zq_200 hZ) rfl dX12_wrongIs_43 (Nat.le_trans (by decide) hn) rfl (Nat.le_of_ble_eq_true rfl) (Nat.le_of_ble_eq_true rfl) rfl h (fun Q' h' => fX12_meet_ok hZ (Nat.le_refl _) hx4 hx1 h') (fun r3 c4 b5 h => ?_)
      refine zV_if_ne 52 dX12_wrongIs_46 (by decide) c4 (fun hc_ => ?_) (fun hc_ => ?_)
      · replace h := zs_f h hc_
        refine zV_iload 0 dX12_wrongIs_52 rfl ?_
        refine zV_iload_n 3 dX12_wrongIs_54 rfl rfl ?_
        refine zV_icmp_ne 64 dX12_wrongIs_55 (by decide) m2 hx2 (fun hc_ => ?_) (fun hc_ => ?_)
        · replace h := zs_f h hc_
          refine zV_ls [1, 2, 3, 4, 5, 0] rfl ?_
          exact fX12_wrongIs_j64_ok hZ hn hx1 hx2 hx3 hx4 m2 h hc he
        · replace h := zs_t h hc_
          refine zV_iload_n 4 dX12_wrongIs_58 rfl rfl ?_
          refine zV_iconst (v := 2) dX12_wrongIs_59 rfl ?_
          refine zV_mmin zml_X12_408 dX12_wrongIs_60 (Nat.le_trans (by decide) hn) (Nat.le_of_ble_eq_true rfl) hx3 zi_2 ?_
          refine zV_istore_n [(3, zI (min x3 2)), (5, zI (M 249 x4)), (0, zR 200), (1, zI x1), (2, zI x2), (4, zI x4)] dX12_wrongIs_63 rfl (by decide) rfl ?_
          refine zV_ls [2, 3, 4, 0, 5, 1] rfl ?_
          exact fX12_wrongIs_j64_ok hZ hn hx1 hx2 (z32_min hx3 zi_2) hx4 m2 h hc he
      · replace h := zs_t h hc_
        refine zV_goto 159 dX12_wrongIs_49 (by decide) ?_
        refine zV_iinc 5 [(4, zI (zw (x4 + 1))), (5, zI (M 249 x4)), (0, zR 200), (1, zI x1), (2, zI x2), (3, zI x3)] dX12_wrongIs_159 rfl rfl (by decide) rfl ?_
        refine zV_goto 19 dX12_wrongIs_162 (by decide) ?_
        refine zV_ls [2, 3, 4, 5, 0] rfl ?_
        exact hc _ h hx3 (z32_w _)
noncomputable def fX12_wrongIs (x1 : Int) (M : zMem) : Option (Int) :=
  (zgd ((0 : Int) ≤ x1 ∧ x1 < 120) (if 0 ≤ (M 249 x1) then (zbd (zit (fun s38 => fX12_wrongIs_l19 x1 (M 249 x1) (s38.1) (s38.2) M) (6, 0)) fun s45 => (if 6 ≤ s45.1 then (zbd (fX12_endOf x1 M) fun r49 => (zbd (fX12_isDry x1 (zw (r49 - 1)) M) fun r53 => (if r53 = 0 then some 0 else some 5))) else some (s45.1))) else some 1))
set_option maxRecDepth 100000 in
set_option maxHeartbeats 4000000 in
theorem fX12_wrongIs_ok {Z : zZ} (hZ : zB Z) {nn : Nat} (hn : 3 ≤ nn)  {x1 : Int} (hx1 : z32 x1) {M : zMem} {Q : Option zAV → zMem → zZ → Prop} (h : zSat (fX12_wrongIs x1 M) (fun r => Q (some (zI r)) M Z))  : zV zmX12_wrongIs nn 0 0 Z 0 [(0, zR 200), (1, zI x1)] [] M Q := by
  unfold fX12_wrongIs at h
  refine zV_aload_n 0 dX12_wrongIs_0 rfl rfl ?_
  refine zV_getR (j := 249) (zq_200 hZ) zf_X12_48 zkf_X12_120 rfl dX12_wrongIs_1 ?_
  refine zV_iload_n 1 dX12_wrongIs_4 rfl rfl ?_
  obtain ⟨hg, h⟩ := zs_gd h
  refine zV_iald (zq_249 hZ) hg dX12_wrongIs_5 (fun m1 => ?_)
  refine zV_istore_n [(2, zI (M 249 x1)), (0, zR 200), (1, zI x1)] dX12_wrongIs_6 rfl (by decide) rfl ?_
  refine zV_iload_n 0 dX12_wrongIs_7 rfl rfl ?_
  refine zV_if_ge 13 dX12_wrongIs_8 (by decide) m1 (fun hc_ => ?_) (fun hc_ => ?_)
  · replace h := zs_t h hc_
    refine zV_bipush (v := 6) dX12_wrongIs_13 rfl ?_
    refine zV_istore_n [(3, zI 6), (2, zI (M 249 x1)), (0, zR 200), (1, zI x1)] dX12_wrongIs_15 rfl (by decide) rfl ?_
    refine zV_iconst (v := 0) dX12_wrongIs_16 rfl ?_
    refine zV_istore [(4, zI 0), (3, zI 6), (2, zI (M 249 x1)), (0, zR 200), (1, zI x1)] dX12_wrongIs_17 (by decide) rfl ?_
    refine zV_ls [3, 4, 2, 1, 0] rfl ?_
    refine (zV_loop (Vh := fun s38 : Int × Int => z32 (s38.1) → z32 (s38.2) → zV zmX12_wrongIs nn 0 0 Z 19 [(0, zR 200), (1, zI x1), (2, zI (M 249 x1)), (3, zI (s38.1)), (4, zI (s38.2))] [] M Q) h (fun s38 P39 hP40 hc41 he42 => ?_)) zi_6 zi_0
    intro c43 c44
    refine fX12_wrongIs_l19_ok hZ hn hx1 m1 c43 c44 hP40 hc41 (fun s45 h46 d47 d48 => ?_)
    have h := he42 _ h46
    refine zV_iload_n 3 dX12_wrongIs_165 rfl rfl ?_
    refine zV_bipush (v := 6) dX12_wrongIs_166 rfl ?_
    refine zV_icmp_ge 173 dX12_wrongIs_168 (by decide) d47 zi_6 (fun hc_ => ?_) (fun hc_ => ?_)
    · replace h := zs_t h hc_
      refine zV_aload_n 0 dX12_wrongIs_173 rfl rfl ?_
      refine zV_iload_n 1 dX12_wrongIs_174 rfl rfl ?_
      refine zV_aload_n 0 dX12_wrongIs_175 rfl rfl ?_
      refine zV_iload_n 1 dX12_wrongIs_176 rfl rfl ?_
      refine zV_cVI (y' := zmX12_endOf) (n' := 0) (As := [zI x1]) zc_X12_349 (zq_200 hZ) rfl dX12_wrongIs_177 (Nat.le_trans (by decide) hn) rfl (Nat.le_of_ble_eq_true rfl) (Nat.le_of_ble_eq_true rfl) rfl h (fun Q' h' => fX12_endOf_ok hZ (Nat.le_refl _) hx1 h') (fun r49 c50 b51 h => ?_)
      refine zV_iconst (v := 1) dX12_wrongIs_180 rfl ?_
      refine zV_isub dX12_wrongIs_181 ?_
      refine zV_w ?_
      refine zV_cVI (y' := zmX12_isDry) (n' := 2) (As := [zI x1, zI (zw (r49 - 1))]) zc_X12_383 (zq_200 hZ) rfl dX12_wrongIs_182 (Nat.le_trans (by decide) hn) rfl (Nat.le_of_ble_eq_true rfl) (Nat.le_of_ble_eq_true rfl) rfl h (fun Q' h' => fX12_isDry_ok hZ (Nat.le_refl _) hx1 (z32_w _) h') (fun r53 c54 b55 h => ?_)
      refine zV_if_eq 192 dX12_wrongIs_185 (by decide) c54 (fun hc_ => ?_) (fun hc_ => ?_)
      · replace h := zs_t h hc_
        refine zV_iconst (v := 0) dX12_wrongIs_192 rfl ?_
        exact zV_ireti dX12_wrongIs_193 rfl zi_0 h
      · replace h := zs_f h hc_
        refine zV_iconst (v := 5) dX12_wrongIs_188 rfl ?_
        refine zV_goto 193 dX12_wrongIs_189 (by decide) ?_
        exact zV_ireti dX12_wrongIs_193 rfl zi_5 h
    · replace h := zs_f h hc_
      refine zV_iload_n 3 dX12_wrongIs_171 rfl rfl ?_
      exact zV_ireti dX12_wrongIs_172 rfl d47 h
  · replace h := zs_f h hc_
    refine zV_iconst (v := 1) dX12_wrongIs_11 rfl ?_
    exact zV_ireti dX12_wrongIs_12 rfl zi_1 h
noncomputable def fX12_wrong (x1 : Int) (M : zMem) : Option (Int × zMem) :=
  (zbd (fX12_isNote x1 (zup M 200 0 0)) fun r1 => (if r1 = 0 then some ((-1), (zup M 200 0 0)) else (zbd (fX12_wrongIs x1 (zup M 200 0 0)) fun r5 => some (r5, (zup M 200 0 0)))))
set_option maxRecDepth 100000 in
set_option maxHeartbeats 4000000 in
theorem fX12_wrong_ok {Z : zZ} (hZ : zB Z) {nn : Nat} (hn : 4 ≤ nn)  {x1 : Int} (hx1 : z32 x1) {M : zMem} {Q : Option zAV → zMem → zZ → Prop} (h : zSat (fX12_wrong x1 M) (fun r => Q (some (zI r.1)) r.2 Z))  : zV zmX12_wrong nn 0 0 Z 0 [(0, zR 200), (1, zI x1)] [] M Q := by
  unfold fX12_wrong at h
  refine zV_aload_n 0 dX12_wrong_0 rfl rfl ?_
  refine zV_iconst (v := 0) dX12_wrong_1 rfl ?_
  refine zV_putI (zq_200 hZ) (by decide) zf_X12_0 zkf_X12_157 rfl dX12_wrong_2 zi_0 ?_
  refine zV_aload_n 0 dX12_wrong_5 rfl rfl ?_
  refine zV_iload_n 1 dX12_wrong_6 rfl rfl ?_
  refine zV_cVI (y' := zmX12_isNote) (n' := 0) (As := [zI x1]) zc_X12_361 (zq_200 hZ) rfl dX12_wrong_7 (Nat.le_trans (by decide) hn) rfl (Nat.le_of_ble_eq_true rfl) (Nat.le_of_ble_eq_true rfl) rfl h (fun Q' h' => fX12_isNote_ok hZ (Nat.le_refl _) hx1 h') (fun r1 c2 b3 h => ?_)
  refine zV_if_eq 21 dX12_wrong_10 (by decide) c2 (fun hc_ => ?_) (fun hc_ => ?_)
  · replace h := zs_t h hc_
    refine zV_iconst (v := (-1)) dX12_wrong_21 rfl ?_
    exact zV_ireti dX12_wrong_22 rfl zi_n1 h
  · replace h := zs_f h hc_
    refine zV_aload_n 0 dX12_wrong_13 rfl rfl ?_
    refine zV_iload_n 1 dX12_wrong_14 rfl rfl ?_
    refine zV_cVI (y' := zmX12_wrongIs) (n' := 3) (As := [zI x1]) zc_X12_414 (zq_200 hZ) rfl dX12_wrong_15 (Nat.le_trans (by decide) hn) rfl (Nat.le_of_ble_eq_true rfl) (Nat.le_of_ble_eq_true rfl) rfl h (fun Q' h' => fX12_wrongIs_ok hZ (Nat.le_refl _) hx1 h') (fun r5 c6 b7 h => ?_)
    refine zV_goto 22 dX12_wrong_18 (by decide) ?_
    exact zV_ireti dX12_wrong_22 rfl c6 h
noncomputable def fX12_judged_l7 (x1 : Int) (M : zMem) : Option ((Int) ⊕ ((Int) ⊕ (Int × zMem))) :=
  (if (M 200 43) ≤ x1 then some (.inr (.inl x1)) else (zbd (fX12_wrongIs x1 M) fun r2 => (if r2 ≤ 0 then some (.inl (zw (x1 + 1))) else some (.inr (.inr (x1, M))))))
set_option maxRecDepth 100000 in
set_option maxHeartbeats 4000000 in
theorem fX12_judged_l7_ok {Z : zZ} (hZ : zB Z) {nn : Nat} (hn : 4 ≤ nn)  {x1 : Int} (hx1 : z32 x1) {M : zMem} {Q : Option zAV → zMem → zZ → Prop} {P : (Int) ⊕ ((Int) ⊕ (Int × zMem)) → Prop} (h : zSat (fX12_judged_l7 x1 M) P)  (hc : ∀ s : Int, P (.inl s) → z32 s → zV zmX12_judged nn 0 0 Z 7 [(0, zR 200), (1, zI s)] [] M Q) (he : ∀ s : Int, P (.inr (.inl s)) → z32 s → zV zmX12_judged nn 0 0 Z 31 [(0, zR 200), (1, zI s)] [] M Q) (hr : ∀ r : Int × zMem, P (.inr (.inr r)) → (fun r => Q (some (zI r.1)) r.2 Z) r)  : zV zmX12_judged nn 0 0 Z 7 [(0, zR 200), (1, zI x1)] [] M Q := by
  unfold fX12_judged_l7 at h
  refine zV_iload_n 1 dX12_judged_7 rfl rfl ?_
  refine zV_aload_n 0 dX12_judged_8 rfl rfl ?_
  refine zV_getI (zq_200 hZ) zf_X12_43 zkf_X12_343 rfl dX12_judged_9 (fun m1 => ?_)
  refine zV_icmp_ge 31 dX12_judged_12 (by decide) hx1 m1 (fun hc_ => ?_) (fun hc_ => ?_)
  · replace h := zs_t h hc_
    exact he _ h hx1
  · replace h := zs_f h hc_
    refine zV_aload_n 0 dX12_judged_15 rfl rfl ?_
    refine zV_iload_n 1 dX12_judged_16 rfl rfl ?_
    refine zV_cVI (y' := zmX12_wrongIs) (n' := 3) (As := [zI x1]) zc_X12_414 (zq_200 hZ) rfl dX12_judged_17 (Nat.le_trans (by decide) hn) rfl (Nat.le_of_ble_eq_true rfl) (Nat.le_of_ble_eq_true rfl) rfl h (fun Q' h' => fX12_wrongIs_ok hZ (Nat.le_refl _) hx1 h') (fun r2 c3 b4 h => ?_)
    refine zV_if_le 25 dX12_judged_20 (by decide) c3 (fun hc_ => ?_) (fun hc_ => ?_)
    · replace h := zs_t h hc_
      refine zV_iinc 1 [(1, zI (zw (x1 + 1))), (0, zR 200)] dX12_judged_25 rfl rfl (by decide) rfl ?_
      refine zV_goto 7 dX12_judged_28 (by decide) ?_
      refine zV_ls [1, 0] rfl ?_
      exact hc _ h (z32_w _)
    · replace h := zs_f h hc_
      refine zV_iload_n 1 dX12_judged_23 rfl rfl ?_
      exact zV_ireti dX12_judged_24 rfl hx1 (hr _ h)
noncomputable def fX12_judged (M : zMem) : Option (Int × zMem) :=
  (zbd (zit (fun s6 => fX12_judged_l7 s6 (zup M 200 0 0)) 0) fun e => zel e (fun s12 => some ((-1), (zup M 200 0 0))) (fun r => some r))
set_option maxRecDepth 100000 in
set_option maxHeartbeats 4000000 in
theorem fX12_judged_ok {Z : zZ} (hZ : zB Z) {nn : Nat} (hn : 4 ≤ nn)   {M : zMem} {Q : Option zAV → zMem → zZ → Prop} (h : zSat (fX12_judged M) (fun r => Q (some (zI r.1)) r.2 Z))  : zV zmX12_judged nn 0 0 Z 0 [(0, zR 200)] [] M Q := by
  unfold fX12_judged at h
  refine zV_aload_n 0 dX12_judged_0 rfl rfl ?_
  refine zV_iconst (v := 0) dX12_judged_1 rfl ?_
  refine zV_putI (zq_200 hZ) (by decide) zf_X12_0 zkf_X12_157 rfl dX12_judged_2 zi_0 ?_
  refine zV_iconst (v := 0) dX12_judged_5 rfl ?_
  refine zV_istore_n [(1, zI 0), (0, zR 200)] dX12_judged_6 rfl (by decide) rfl ?_
  refine zV_ls [1, 0] rfl ?_
  refine (zV_loop (Vh := fun s6 : Int => z32 s6 → zV zmX12_judged nn 0 0 Z 7 [(0, zR 200), (1, zI s6)] [] (zup M 200 0 0) Q) h (fun s6 P7 hP8 hc9 he10 => ?_)) zi_0
  intro c11
  refine fX12_judged_l7_ok hZ hn c11 hP8 hc9 (fun s12 h13 d14 => ?_) (fun r15 h16 => he10 _ h16)
  have h := he10 _ h13
  refine zV_iconst (v := (-1)) dX12_judged_31 rfl ?_
  exact zV_ireti dX12_judged_32 rfl zi_n1 h
noncomputable def fX12_stays_l4 (x1 x2 : Int) (M : zMem) : Option ((Int) ⊕ (Int)) :=
  (if x2 < 0 then some (.inr x2) else (zgd ((0 : Int) ≤ x2 ∧ x2 < 120) (zgd ((0 : Int) ≤ x1 ∧ x1 < 120) (if (M 249 x2) = (M 249 x1) then some (.inr x2) else some (.inl (zw (x2 + (-1))))))))
set_option maxRecDepth 100000 in
set_option maxHeartbeats 4000000 in
theorem fX12_stays_l4_ok {Z : zZ} (hZ : zB Z) {nn : Nat} (hn : 1 ≤ nn)  {x1 x2 : Int} (hx1 : z32 x1) (hx2 : z32 x2) {M : zMem} {Q : Option zAV → zMem → zZ → Prop} {P : (Int) ⊕ (Int) → Prop} (h : zSat (fX12_stays_l4 x1 x2 M) P)  (hc : ∀ s : Int, P (.inl s) → z32 s → zV zmX12_stays nn 0 0 Z 4 [(0, zR 200), (1, zI x1), (2, zI s)] [] M Q) (he : ∀ s : Int, P (.inr s) → z32 s → zV zmX12_stays nn 0 0 Z 29 [(0, zR 200), (1, zI x1), (2, zI s)] [] M Q)   : zV zmX12_stays nn 0 0 Z 4 [(0, zR 200), (1, zI x1), (2, zI x2)] [] M Q := by
  unfold fX12_stays_l4 at h
  refine zV_iload_n 2 dX12_stays_4 rfl rfl ?_
  refine zV_if_lt 29 dX12_stays_5 (by decide) hx2 (fun hc_ => ?_) (fun hc_ => ?_)
  · replace h := zs_t h hc_
    exact he _ h hx2
  · replace h := zs_f h hc_
    refine zV_aload_n 0 dX12_stays_8 rfl rfl ?_
    refine zV_getR (j := 249) (zq_200 hZ) zf_X12_48 zkf_X12_120 rfl dX12_stays_9 ?_
    refine zV_iload_n 2 dX12_stays_12 rfl rfl ?_
    obtain ⟨hg, h⟩ := zs_gd h
    refine zV_iald (zq_249 hZ) hg dX12_stays_13 (fun m1 => ?_)
    refine zV_aload_n 0 dX12_stays_14 rfl rfl ?_
    refine zV_getR (j := 249) (zq_200 hZ) zf_X12_48 zkf_X12_120 rfl dX12_stays_15 ?_
    refine zV_iload_n 1 dX12_stays_18 rfl rfl ?_
    obtain ⟨hg, h⟩ := zs_gd h
    refine zV_iald (zq_249 hZ) hg dX12_stays_19 (fun m2 => ?_)
    refine zV_icmp_eq 29 dX12_stays_20 (by decide) m1 m2 (fun hc_ => ?_) (fun hc_ => ?_)
    · replace h := zs_t h hc_
      exact he _ h hx2
    · replace h := zs_f h hc_
      refine zV_iinc 2 [(2, zI (zw (x2 + (-1)))), (0, zR 200), (1, zI x1)] dX12_stays_23 rfl rfl (by decide) rfl ?_
      refine zV_goto 4 dX12_stays_26 (by decide) ?_
      refine zV_ls [1, 2, 0] rfl ?_
      exact hc _ h (z32_w _)
noncomputable def fX12_stays_j29 (x1 x2 : Int) (M : zMem) : Option (Int) :=
  (zgd ((0 : Int) ≤ x1 ∧ x1 < 120) (if (M 249 x1) < 0 then some 0 else (if x2 < 0 then some 0 else (zgd ((0 : Int) ≤ x2 ∧ x2 < 120) (zgd ((0 : Int) ≤ x1 ∧ x1 < 120) (if (M 245 x2) = (M 245 x1) then (zbd (fX12_endOf x2 M) fun r15 => (zgd ((0 : Int) ≤ x1 ∧ x1 < 120) (if r15 = (M 246 x1) then some 1 else some 0))) else some 0))))))
set_option maxRecDepth 100000 in
set_option maxHeartbeats 4000000 in
theorem fX12_stays_j29_ok {Z : zZ} (hZ : zB Z) {nn : Nat} (hn : 1 ≤ nn)  {x1 x2 : Int} (hx1 : z32 x1) (hx2 : z32 x2) {M : zMem} {Q : Option zAV → zMem → zZ → Prop} (h : zSat (fX12_stays_j29 x1 x2 M) (fun r => Q (some (zI r)) M Z))  : zV zmX12_stays nn 0 0 Z 29 [(0, zR 200), (1, zI x1), (2, zI x2)] [] M Q := by
  unfold fX12_stays_j29 at h
  refine zV_aload_n 0 dX12_stays_29 rfl rfl ?_
  refine zV_getR (j := 249) (zq_200 hZ) zf_X12_48 zkf_X12_120 rfl dX12_stays_30 ?_
  refine zV_iload_n 1 dX12_stays_33 rfl rfl ?_
  obtain ⟨hg, h⟩ := zs_gd h
  refine zV_iald (zq_249 hZ) hg dX12_stays_34 (fun m12 => ?_)
  refine zV_if_lt 75 dX12_stays_35 (by decide) m12 (fun hc_ => ?_) (fun hc_ => ?_)
  · replace h := zs_t h hc_
    refine zV_iconst (v := 0) dX12_stays_75 rfl ?_
    exact zV_iretb dX12_stays_76 rfl (Or.inl rfl) h
  · replace h := zs_f h hc_
    refine zV_iload_n 2 dX12_stays_38 rfl rfl ?_
    refine zV_if_lt 75 dX12_stays_39 (by decide) hx2 (fun hc_ => ?_) (fun hc_ => ?_)
    · replace h := zs_t h hc_
      refine zV_iconst (v := 0) dX12_stays_75 rfl ?_
      exact zV_iretb dX12_stays_76 rfl (Or.inl rfl) h
    · replace h := zs_f h hc_
      refine zV_aload_n 0 dX12_stays_42 rfl rfl ?_
      refine zV_getR (j := 245) (zq_200 hZ) zf_X12_44 zkf_X12_108 rfl dX12_stays_43 ?_
      refine zV_iload_n 2 dX12_stays_46 rfl rfl ?_
      obtain ⟨hg, h⟩ := zs_gd h
      refine zV_iald (zq_245 hZ) hg dX12_stays_47 (fun m13 => ?_)
      refine zV_aload_n 0 dX12_stays_48 rfl rfl ?_
      refine zV_getR (j := 245) (zq_200 hZ) zf_X12_44 zkf_X12_108 rfl dX12_stays_49 ?_
      refine zV_iload_n 1 dX12_stays_52 rfl rfl ?_
      obtain ⟨hg, h⟩ := zs_gd h
      refine zV_iald (zq_245 hZ) hg dX12_stays_53 (fun m14 => ?_)
      refine zV_icmp_ne 75 dX12_stays_54 (by decide) m13 m14 (fun hc_ => ?_) (fun hc_ => ?_)
      · replace h := zs_f h hc_
        refine zV_iconst (v := 0) dX12_stays_75 rfl ?_
        exact zV_iretb dX12_stays_76 rfl (Or.inl rfl) h
      · replace h := zs_t h hc_
        refine zV_aload_n 0 dX12_stays_57 rfl rfl ?_
        refine zV_iload_n 2 dX12_stays_58 rfl rfl ?_
        refine zV_cVI (y' := zmX12_endOf) (n' := 0) (As := [zI x2]) zc_X12_349 (zq_200 hZ) rfl dX12_stays_59 (Nat.le_trans (by decide) hn) rfl (Nat.le_of_ble_eq_true rfl) (Nat.le_of_ble_eq_true rfl) rfl h (fun Q' h' => fX12_endOf_ok hZ (Nat.le_refl _) hx2 h') (fun r15 c16 b17 h => ?_)
        refine zV_aload_n 0 dX12_stays_62 rfl rfl ?_
        refine zV_getR (j := 246) (zq_200 hZ) zf_X12_45 zkf_X12_111 rfl dX12_stays_63 ?_
        refine zV_iload_n 1 dX12_stays_66 rfl rfl ?_
        obtain ⟨hg, h⟩ := zs_gd h
        refine zV_iald (zq_246 hZ) hg dX12_stays_67 (fun m19 => ?_)
        refine zV_icmp_ne 75 dX12_stays_68 (by decide) c16 m19 (fun hc_ => ?_) (fun hc_ => ?_)
        · replace h := zs_f h hc_
          refine zV_iconst (v := 0) dX12_stays_75 rfl ?_
          exact zV_iretb dX12_stays_76 rfl (Or.inl rfl) h
        · replace h := zs_t h hc_
          refine zV_iconst (v := 1) dX12_stays_71 rfl ?_
          refine zV_goto 76 dX12_stays_72 (by decide) ?_
          exact zV_iretb dX12_stays_76 rfl (Or.inr rfl) h
noncomputable def fX12_stays (x1 : Int) (M : zMem) : Option (Int) :=
  (zbd (zit (fun s3 => fX12_stays_l4 x1 s3 M) (zw (x1 - 1))) fun s9 => fX12_stays_j29 x1 s9 M)
set_option maxRecDepth 100000 in
set_option maxHeartbeats 4000000 in
theorem fX12_stays_ok {Z : zZ} (hZ : zB Z) {nn : Nat} (hn : 1 ≤ nn)  {x1 : Int} (hx1 : z32 x1) {M : zMem} {Q : Option zAV → zMem → zZ → Prop} (h : zSat (fX12_stays x1 M) (fun r => Q (some (zI r)) M Z))  : zV zmX12_stays nn 0 0 Z 0 [(0, zR 200), (1, zI x1)] [] M Q := by
  unfold fX12_stays at h
  refine zV_iload_n 1 dX12_stays_0 rfl rfl ?_
  refine zV_iconst (v := 1) dX12_stays_1 rfl ?_
  refine zV_isub dX12_stays_2 ?_
  refine zV_w ?_
  refine zV_istore_n [(2, zI (zw (x1 - 1))), (0, zR 200), (1, zI x1)] dX12_stays_3 rfl (by decide) rfl ?_
  refine zV_ls [1, 2, 0] rfl ?_
  refine (zV_loop (Vh := fun s3 : Int => z32 s3 → zV zmX12_stays nn 0 0 Z 4 [(0, zR 200), (1, zI x1), (2, zI s3)] [] M Q) h (fun s3 P4 hP5 hc6 he7 => ?_)) (z32_w _)
  intro c8
  refine fX12_stays_l4_ok hZ hn hx1 c8 hP5 hc6 (fun s9 h10 d11 => ?_)
  have h := he7 _ h10
  exact fX12_stays_j29_ok hZ hn hx1 d11 h
noncomputable def fX12_lifts_j31 (x1 x2 s0 s1 : Int) (M : zMem) : Option ((Int × Int) ⊕ (Int × Int)) :=
  some (.inl ((zw (s1 + s0)), (zw (x2 + 1))))
set_option maxRecDepth 100000 in
set_option maxHeartbeats 4000000 in
theorem fX12_lifts_j31_ok {Z : zZ} (hZ : zB Z) {nn : Nat} (hn : 2 ≤ nn)  {x1 x2 s0 s1 : Int} (hx1 : z32 x1) (hx2 : z32 x2) (hs0 : z32 s0) (hbs0 : s0 = 0 ∨ s0 = 1) (hs1 : z32 s1) {M : zMem} {Q : Option zAV → zMem → zZ → Prop} {P : (Int × Int) ⊕ (Int × Int) → Prop} (h : zSat (fX12_lifts_j31 x1 x2 s0 s1 M) P)  (hc : ∀ s : Int × Int, P (.inl s) → z32 (s.1) → z32 (s.2) → zV zmX12_lifts nn 0 0 Z 9 [(0, zR 200), (1, zI (s.1)), (2, zI (s.2))] [] M Q) (he : ∀ s : Int × Int, P (.inr s) → z32 (s.1) → z32 (s.2) → zV zmX12_lifts nn 0 0 Z 39 [(0, zR 200), (1, zI (s.1)), (2, zI (s.2))] [] M Q)   : zV zmX12_lifts nn 0 0 Z 31 [(0, zR 200), (1, zI x1), (2, zI x2)] [zI s0, zI s1] M Q := by
  unfold fX12_lifts_j31 at h
  refine zV_iadd dX12_lifts_31 ?_
  refine zV_w ?_
  refine zV_istore_n [(1, zI (zw (s1 + s0))), (0, zR 200), (2, zI x2)] dX12_lifts_32 rfl (by decide) rfl ?_
  refine zV_iinc 2 [(2, zI (zw (x2 + 1))), (1, zI (zw (s1 + s0))), (0, zR 200)] dX12_lifts_33 rfl rfl (by decide) rfl ?_
  refine zV_goto 9 dX12_lifts_36 (by decide) ?_
  refine zV_ls [2, 1, 0] rfl ?_
  exact hc _ h (z32_w _) (z32_w _)
noncomputable def fX12_lifts_l9 (x1 x2 : Int) (M : zMem) : Option ((Int × Int) ⊕ (Int × Int)) :=
  (if (M 200 43) ≤ x2 then some (.inr (x1, x2)) else (zbd (fX12_stays x2 M) fun r2 => (if r2 = 0 then fX12_lifts_j31 x1 x2 1 x1 M else fX12_lifts_j31 x1 x2 0 x1 M)))
set_option maxRecDepth 100000 in
set_option maxHeartbeats 4000000 in
theorem fX12_lifts_l9_ok {Z : zZ} (hZ : zB Z) {nn : Nat} (hn : 2 ≤ nn)  {x1 x2 : Int} (hx1 : z32 x1) (hx2 : z32 x2) {M : zMem} {Q : Option zAV → zMem → zZ → Prop} {P : (Int × Int) ⊕ (Int × Int) → Prop} (h : zSat (fX12_lifts_l9 x1 x2 M) P)  (hc : ∀ s : Int × Int, P (.inl s) → z32 (s.1) → z32 (s.2) → zV zmX12_lifts nn 0 0 Z 9 [(0, zR 200), (1, zI (s.1)), (2, zI (s.2))] [] M Q) (he : ∀ s : Int × Int, P (.inr s) → z32 (s.1) → z32 (s.2) → zV zmX12_lifts nn 0 0 Z 39 [(0, zR 200), (1, zI (s.1)), (2, zI (s.2))] [] M Q)   : zV zmX12_lifts nn 0 0 Z 9 [(0, zR 200), (1, zI x1), (2, zI x2)] [] M Q := by
  unfold fX12_lifts_l9 at h
  refine zV_iload_n 2 dX12_lifts_9 rfl rfl ?_
  refine zV_aload_n 0 dX12_lifts_10 rfl rfl ?_
  refine zV_getI (zq_200 hZ) zf_X12_43 zkf_X12_343 rfl dX12_lifts_11 (fun m1 => ?_)
  refine zV_icmp_ge 39 dX12_lifts_14 (by decide) hx2 m1 (fun hc_ => ?_) (fun hc_ => ?_)
  · replace h := zs_t h hc_
    exact he _ h hx1 hx2
  · replace h := zs_f h hc_
    refine zV_iload_n 1 dX12_lifts_17 rfl rfl ?_
    refine zV_aload_n 0 dX12_lifts_18 rfl rfl ?_
    refine zV_iload_n 2 dX12_lifts_19 rfl rfl ?_
    refine zV_cVI (y' := zmX12_stays) (n' := 1) (As := [zI x2]) zc_X12_417 (zq_200 hZ) rfl dX12_lifts_20 (Nat.le_trans (by decide) hn) rfl (Nat.le_of_ble_eq_true rfl) (Nat.le_of_ble_eq_true rfl) rfl h (fun Q' h' => fX12_stays_ok hZ (Nat.le_refl _) hx2 h') (fun r2 c3 b4 h => ?_)
    refine zV_if_eq 30 dX12_lifts_23 (by decide) c3 (fun hc_ => ?_) (fun hc_ => ?_)
    · replace h := zs_t h hc_
      refine zV_iconst (v := 1) dX12_lifts_30 rfl ?_
      exact fX12_lifts_j31_ok hZ hn hx1 hx2 zi_1 (Or.inr rfl) hx1 h hc he
    · replace h := zs_f h hc_
      refine zV_iconst (v := 0) dX12_lifts_26 rfl ?_
      refine zV_goto 31 dX12_lifts_27 (by decide) ?_
      exact fX12_lifts_j31_ok hZ hn hx1 hx2 zi_0 (Or.inl rfl) hx1 h hc he
noncomputable def fX12_lifts (M : zMem) : Option (Int × zMem) :=
  (zbd (zit (fun s6 => fX12_lifts_l9 (s6.1) (s6.2) (zup M 200 0 0)) (0, 0)) fun s13 => some (s13.1, (zup M 200 0 0)))
set_option maxRecDepth 100000 in
set_option maxHeartbeats 4000000 in
theorem fX12_lifts_ok {Z : zZ} (hZ : zB Z) {nn : Nat} (hn : 2 ≤ nn)   {M : zMem} {Q : Option zAV → zMem → zZ → Prop} (h : zSat (fX12_lifts M) (fun r => Q (some (zI r.1)) r.2 Z))  : zV zmX12_lifts nn 0 0 Z 0 [(0, zR 200)] [] M Q := by
  unfold fX12_lifts at h
  refine zV_aload_n 0 dX12_lifts_0 rfl rfl ?_
  refine zV_iconst (v := 0) dX12_lifts_1 rfl ?_
  refine zV_putI (zq_200 hZ) (by decide) zf_X12_0 zkf_X12_157 rfl dX12_lifts_2 zi_0 ?_
  refine zV_iconst (v := 0) dX12_lifts_5 rfl ?_
  refine zV_istore_n [(1, zI 0), (0, zR 200)] dX12_lifts_6 rfl (by decide) rfl ?_
  refine zV_iconst (v := 0) dX12_lifts_7 rfl ?_
  refine zV_istore_n [(2, zI 0), (1, zI 0), (0, zR 200)] dX12_lifts_8 rfl (by decide) rfl ?_
  refine zV_ls [2, 1, 0] rfl ?_
  refine (zV_loop (Vh := fun s6 : Int × Int => z32 (s6.1) → z32 (s6.2) → zV zmX12_lifts nn 0 0 Z 9 [(0, zR 200), (1, zI (s6.1)), (2, zI (s6.2))] [] (zup M 200 0 0) Q) h (fun s6 P7 hP8 hc9 he10 => ?_)) zi_0 zi_0
  intro c11 c12
  refine fX12_lifts_l9_ok hZ hn c11 c12 hP8 hc9 (fun s13 h14 d15 d16 => ?_)
  have h := he10 _ h14
  refine zV_iload_n 1 dX12_lifts_39 rfl rfl ?_
  exact zV_ireti dX12_lifts_40 rfl d15 h
noncomputable def fX12_tries_j108 (F_tries : Int → Int → zMem → Option zMem) (x1 x2 x3 s0 s1 s2 : Int) (M : zMem) : Option ((Int × zMem) ⊕ (Int × zMem)) :=
  (zbd (F_tries s2 (zw (s1 + s0)) M) fun M16 => some (.inl ((zw (x3 + 1)), M16)))
set_option maxRecDepth 100000 in
set_option maxHeartbeats 4000000 in
theorem fX12_tries_j108_ok {Z : zZ} (hZ : zB Z) {nn : Nat} (hn : 4 ≤ nn) {n0 : Nat} (hn0 : n0 + 1 ≤ nn) {F_tries : Int → Int → zMem → Option zMem}  {x1 x2 x3 s0 s1 s2 : Int} (hx1 : z32 x1) (hx2 : z32 x2) (hx3 : z32 x3) (hs0 : z32 s0) (hbs0 : s0 = 0 ∨ s0 = 1) (hs1 : z32 s1) (hs2 : z32 s2) {M : zMem} (hF_tries : ∀ (y0 y1 : Int) (M : zMem) (Q : Option zAV → zMem → zZ → Prop), z32 y0 → z32 y1 → zSat (F_tries y0 y1 M) (fun r => Q none r Z) → zV zmX12_tries n0 0 0 Z 0 (zent 0 [zR 200, zI y0, zI y1]) [] M Q) {Q : Option zAV → zMem → zZ → Prop} {P : (Int × zMem) ⊕ (Int × zMem) → Prop} (h : zSat (fX12_tries_j108 F_tries x1 x2 x3 s0 s1 s2 M) P)  (hc : ∀ s : Int × zMem, P (.inl s) → z32 (s.1) → zV zmX12_tries nn 0 0 Z 63 [(0, zR 200), (1, zI x1), (2, zI x2), (3, zI (s.1))] [] (s.2) Q) (he : ∀ s : Int × zMem, P (.inr s) → z32 (s.1) → zV zmX12_tries nn 0 0 Z 118 [(0, zR 200), (1, zI x1), (2, zI x2), (3, zI (s.1))] [] (s.2) Q)   : zV zmX12_tries nn 0 0 Z 108 [(0, zR 200), (1, zI x1), (2, zI x2), (3, zI x3)] [zI s0, zI s1, zI s2, zR 200] M Q := by
  unfold fX12_tries_j108 at h
  refine zV_iadd dX12_tries_108 ?_
  refine zV_w ?_
  refine zV_cVV (y' := zmX12_tries) (n' := n0) (As := [zI s2, zI (zw (s1 + s0))]) zc_X12_426 (zq_200 hZ) rfl dX12_tries_109 hn0 rfl (Nat.le_of_ble_eq_true rfl) (Nat.le_of_ble_eq_true rfl) rfl h (fun Q' h' => hF_tries _ _ _ Q' hs2 (z32_w _) h') (fun M16 h => ?_)
  refine zV_iinc 3 [(3, zI (zw (x3 + 1))), (0, zR 200), (1, zI x1), (2, zI x2)] dX12_tries_112 rfl rfl (by decide) rfl ?_
  refine zV_goto 63 dX12_tries_115 (by decide) ?_
  refine zV_ls [1, 2, 3, 0] rfl ?_
  exact hc _ h (z32_w _)
noncomputable def fX12_tries_l63 (F_tries : Int → Int → zMem → Option zMem) (x1 x2 x3 : Int) (M : zMem) : Option ((Int × zMem) ⊕ (Int × zMem)) :=
  (zgd ((0 : Int) ≤ (1 : Int) ∧ (1 : Int) < 66) (if (zw (2 * (M 225 1))) ≤ x3 then some (.inr (x3, M)) else (zgd ((0 : Int) ≤ x1 ∧ x1 < 120) (zbd (fX12_wrongIs x1 (zup M 249 x1 x3)) fun r5 => (if r5 = 0 then (zbd (fX12_stays x1 (zup M 249 x1 x3)) fun r9 => (if r9 = 0 then fX12_tries_j108 F_tries x1 x2 x3 1 x2 (zw (x1 + 1)) (zup M 249 x1 x3) else fX12_tries_j108 F_tries x1 x2 x3 0 x2 (zw (x1 + 1)) (zup M 249 x1 x3))) else some (.inl ((zw (x3 + 1)), (zup M 249 x1 x3))))))))
set_option maxRecDepth 100000 in
set_option maxHeartbeats 4000000 in
theorem fX12_tries_l63_ok {Z : zZ} (hZ : zB Z) {nn : Nat} (hn : 4 ≤ nn) {n0 : Nat} (hn0 : n0 + 1 ≤ nn) {F_tries : Int → Int → zMem → Option zMem}  {x1 x2 x3 : Int} (hx1 : z32 x1) (hx2 : z32 x2) (hx3 : z32 x3) {M : zMem} (hF_tries : ∀ (y0 y1 : Int) (M : zMem) (Q : Option zAV → zMem → zZ → Prop), z32 y0 → z32 y1 → zSat (F_tries y0 y1 M) (fun r => Q none r Z) → zV zmX12_tries n0 0 0 Z 0 (zent 0 [zR 200, zI y0, zI y1]) [] M Q) {Q : Option zAV → zMem → zZ → Prop} {P : (Int × zMem) ⊕ (Int × zMem) → Prop} (h : zSat (fX12_tries_l63 F_tries x1 x2 x3 M) P)  (hc : ∀ s : Int × zMem, P (.inl s) → z32 (s.1) → zV zmX12_tries nn 0 0 Z 63 [(0, zR 200), (1, zI x1), (2, zI x2), (3, zI (s.1))] [] (s.2) Q) (he : ∀ s : Int × zMem, P (.inr s) → z32 (s.1) → zV zmX12_tries nn 0 0 Z 118 [(0, zR 200), (1, zI x1), (2, zI x2), (3, zI (s.1))] [] (s.2) Q)   : zV zmX12_tries nn 0 0 Z 63 [(0, zR 200), (1, zI x1), (2, zI x2), (3, zI x3)] [] M Q := by
  unfold fX12_tries_l63 at h
  refine zV_iload_n 3 dX12_tries_63 rfl rfl ?_
  refine zV_iconst (v := 2) dX12_tries_64 rfl ?_
  refine zV_aload_n 0 dX12_tries_65 rfl rfl ?_
  refine zV_getR (j := 225) (zq_200 hZ) zf_X12_24 zkf_X12_56 rfl dX12_tries_66 ?_
  refine zV_iconst (v := 1) dX12_tries_69 rfl ?_
  obtain ⟨hg, h⟩ := zs_gd h
  refine zV_iald (zq_225 hZ) hg dX12_tries_70 (fun m4 => ?_)
  refine zV_imul dX12_tries_71 ?_
  refine zV_w ?_
  refine zV_icmp_ge 118 dX12_tries_72 (by decide) hx3 (z32_w _) (fun hc_ => ?_) (fun hc_ => ?_)
  · replace h := zs_t h hc_
    exact he _ h hx3
  · replace h := zs_f h hc_
    refine zV_aload_n 0 dX12_tries_75 rfl rfl ?_
    refine zV_getR (j := 249) (zq_200 hZ) zf_X12_48 zkf_X12_120 rfl dX12_tries_76 ?_
    refine zV_iload_n 1 dX12_tries_79 rfl rfl ?_
    refine zV_iload_n 3 dX12_tries_80 rfl rfl ?_
    obtain ⟨hg, h⟩ := zs_gd h
    refine zV_iast (zq_249 hZ) (by decide) hg hx3 dX12_tries_81 ?_
    refine zV_aload_n 0 dX12_tries_82 rfl rfl ?_
    refine zV_iload_n 1 dX12_tries_83 rfl rfl ?_
    refine zV_cVI (y' := zmX12_wrongIs) (n' := 3) (As := [zI x1]) zc_X12_414 (zq_200 hZ) rfl dX12_tries_84 (Nat.le_trans (by decide) hn) rfl (Nat.le_of_ble_eq_true rfl) (Nat.le_of_ble_eq_true rfl) rfl h (fun Q' h' => fX12_wrongIs_ok hZ (Nat.le_refl _) hx1 h') (fun r5 c6 b7 h => ?_)
    refine zV_if_ne 112 dX12_tries_87 (by decide) c6 (fun hc_ => ?_) (fun hc_ => ?_)
    · replace h := zs_f h hc_
      refine zV_iinc 3 [(3, zI (zw (x3 + 1))), (0, zR 200), (1, zI x1), (2, zI x2)] dX12_tries_112 rfl rfl (by decide) rfl ?_
      refine zV_goto 63 dX12_tries_115 (by decide) ?_
      refine zV_ls [1, 2, 3, 0] rfl ?_
      exact hc _ h (z32_w _)
    · replace h := zs_t h hc_
      refine zV_aload_n 0 dX12_tries_90 rfl rfl ?_
      refine zV_iload_n 1 dX12_tries_91 rfl rfl ?_
      refine zV_iconst (v := 1) dX12_tries_92 rfl ?_
      refine zV_iadd dX12_tries_93 ?_
      refine zV_iload_n 2 dX12_tries_94 rfl rfl ?_
      refine zV_aload_n 0 dX12_tries_95 rfl rfl ?_
      refine zV_iload_n 1 dX12_tries_96 rfl rfl ?_
      refine zV_cVI (y' := zmX12_stays) (n' := 1) (As := [zI x1]) zc_X12_417 (zq_200 hZ) rfl dX12_tries_97 (Nat.le_trans (by decide) hn) rfl (Nat.le_of_ble_eq_true rfl) (Nat.le_of_ble_eq_true rfl) rfl h (fun Q' h' => fX12_stays_ok hZ (Nat.le_refl _) hx1 h') (fun r9 c10 b11 h => ?_)
      refine zV_if_eq 107 dX12_tries_100 (by decide) c10 (fun hc_ => ?_) (fun hc_ => ?_)
      · replace h := zs_t h hc_
        refine zV_iconst (v := 1) dX12_tries_107 rfl ?_
        refine zV_wn 2 (st' := [zI 1, zI x2, zI (zw (x1 + 1)), zR 200]) rfl rfl ?_
        exact fX12_tries_j108_ok hZ hn hn0 hx1 hx2 hx3 zi_1 (Or.inr rfl) hx2 (z32_w _) hF_tries h hc he
      · replace h := zs_f h hc_
        refine zV_iconst (v := 0) dX12_tries_103 rfl ?_
        refine zV_goto 108 dX12_tries_104 (by decide) ?_
        refine zV_wn 2 (st' := [zI 0, zI x2, zI (zw (x1 + 1)), zR 200]) rfl rfl ?_
        exact fX12_tries_j108_ok hZ hn hn0 hx1 hx2 hx3 zi_0 (Or.inl rfl) hx2 (z32_w _) hF_tries h hc he
noncomputable def fX12_tries_l36 (F_tries : Int → Int → zMem → Option zMem) (x3 : Int) (M : zMem) : Option ((Int × zMem) ⊕ (Int × zMem)) :=
  (if 24 ≤ x3 then some (.inr (x3, M)) else (zgd ((0 : Int) ≤ x3 ∧ x3 < 120) (zgd ((0 : Int) ≤ x3 ∧ x3 < 24) (some (.inl ((zw (x3 + 1)), (zup M 253 x3 (M 249 x3))))))))
set_option maxRecDepth 100000 in
set_option maxHeartbeats 4000000 in
theorem fX12_tries_l36_ok {Z : zZ} (hZ : zB Z) {nn : Nat} (hn : 4 ≤ nn) {n0 : Nat} (hn0 : n0 + 1 ≤ nn) {F_tries : Int → Int → zMem → Option zMem}  {x3 : Int} (hx3 : z32 x3) {M : zMem} (hF_tries : ∀ (y0 y1 : Int) (M : zMem) (Q : Option zAV → zMem → zZ → Prop), z32 y0 → z32 y1 → zSat (F_tries y0 y1 M) (fun r => Q none r Z) → zV zmX12_tries n0 0 0 Z 0 (zent 0 [zR 200, zI y0, zI y1]) [] M Q) {Q : Option zAV → zMem → zZ → Prop} {P : (Int × zMem) ⊕ (Int × zMem) → Prop} (h : zSat (fX12_tries_l36 F_tries x3 M) P)  (hc : ∀ s : Int × zMem, P (.inl s) → z32 (s.1) → zV zmX12_tries nn 0 0 Z 36 [(0, zR 200), (3, zI (s.1))] [] (s.2) Q) (he : ∀ s : Int × zMem, P (.inr s) → z32 (s.1) → zV zmX12_tries nn 0 0 Z 60 [(0, zR 200), (3, zI (s.1))] [] (s.2) Q)   : zV zmX12_tries nn 0 0 Z 36 [(0, zR 200), (3, zI x3)] [] M Q := by
  unfold fX12_tries_l36 at h
  refine zV_iload_n 1 dX12_tries_36 rfl rfl ?_
  refine zV_bipush (v := 24) dX12_tries_37 rfl ?_
  refine zV_icmp_ge 60 dX12_tries_39 (by decide) hx3 zi_24 (fun hc_ => ?_) (fun hc_ => ?_)
  · replace h := zs_t h hc_
    exact he _ h hx3
  · replace h := zs_f h hc_
    refine zV_aload_n 0 dX12_tries_42 rfl rfl ?_
    refine zV_getR (j := 253) (zq_200 hZ) zf_X12_52 zkf_X12_132 rfl dX12_tries_43 ?_
    refine zV_iload_n 1 dX12_tries_46 rfl rfl ?_
    refine zV_aload_n 0 dX12_tries_47 rfl rfl ?_
    refine zV_getR (j := 249) (zq_200 hZ) zf_X12_48 zkf_X12_120 rfl dX12_tries_48 ?_
    refine zV_iload_n 1 dX12_tries_51 rfl rfl ?_
    obtain ⟨hg, h⟩ := zs_gd h
    refine zV_iald (zq_249 hZ) hg dX12_tries_52 (fun m26 => ?_)
    obtain ⟨hg, h⟩ := zs_gd h
    refine zV_iast (zq_253 hZ) (by decide) hg m26 dX12_tries_53 ?_
    refine zV_iinc 1 [(3, zI (zw (x3 + 1))), (0, zR 200)] dX12_tries_54 rfl rfl (by decide) rfl ?_
    refine zV_goto 36 dX12_tries_57 (by decide) ?_
    refine zV_ls [1, 0] rfl ?_
    exact hc _ h (z32_w _)
noncomputable def fX12_tries_s (F_tries : Int → Int → zMem → Option zMem) (x1 x2 : Int) (M : zMem) : Option (zMem) :=
  (if x2 < ((zup M 200 54 (max (M 200 54) x1)) 200 53) then (if x1 = ((zup M 200 54 (max (M 200 54) x1)) 200 43) then (zbd (zit (fun s27 => fX12_tries_l36 F_tries (s27.1) (s27.2)) (0, (zup (zup M 200 54 (max (M 200 54) x1)) 200 53 x2))) fun s33 => some (s33.2)) else (zbd (zit (fun s17 => fX12_tries_l63 F_tries x1 x2 (s17.1) (s17.2)) (0, (zup M 200 54 (max (M 200 54) x1)))) fun s23 => some (s23.2))) else some (zup M 200 54 (max (M 200 54) x1)))
set_option maxRecDepth 100000 in
set_option maxHeartbeats 4000000 in
theorem fX12_tries_s_ok {Z : zZ} (hZ : zB Z) {nn : Nat} (hn : 4 ≤ nn) {n0 : Nat} (hn0 : n0 + 1 ≤ nn) {F_tries : Int → Int → zMem → Option zMem}  {x1 x2 : Int} (hx1 : z32 x1) (hx2 : z32 x2) {M : zMem} (hF_tries : ∀ (y0 y1 : Int) (M : zMem) (Q : Option zAV → zMem → zZ → Prop), z32 y0 → z32 y1 → zSat (F_tries y0 y1 M) (fun r => Q none r Z) → zV zmX12_tries n0 0 0 Z 0 (zent 0 [zR 200, zI y0, zI y1]) [] M Q) {Q : Option zAV → zMem → zZ → Prop} (h : zSat (fX12_tries_s F_tries x1 x2 M) (fun r => Q none r Z))  : zV zmX12_tries nn 0 0 Z 0 [(0, zR 200), (1, zI x1), (2, zI x2)] [] M Q := by
  unfold fX12_tries_s at h
  refine zV_aload_n 0 dX12_tries_0 rfl rfl ?_
  refine zV_aload_n 0 dX12_tries_1 rfl rfl ?_
  refine zV_getI (zq_200 hZ) zf_X12_54 zkf_X12_420 rfl dX12_tries_2 (fun m1 => ?_)
  refine zV_iload_n 1 dX12_tries_5 rfl rfl ?_
  refine zV_mmax zml_X12_372 dX12_tries_6 (Nat.le_trans (by decide) hn) (Nat.le_of_ble_eq_true rfl) m1 hx1 ?_
  refine zV_putI (zq_200 hZ) (by decide) zf_X12_54 zkf_X12_420 rfl dX12_tries_9 (z32_max m1 hx1) ?_
  refine zV_iload_n 2 dX12_tries_12 rfl rfl ?_
  refine zV_aload_n 0 dX12_tries_13 rfl rfl ?_
  refine zV_getI (zq_200 hZ) zf_X12_53 zkf_X12_423 rfl dX12_tries_14 (fun m2 => ?_)
  refine zV_icmp_lt 21 dX12_tries_17 (by decide) hx2 m2 (fun hc_ => ?_) (fun hc_ => ?_)
  · replace h := zs_t h hc_
    refine zV_iload_n 1 dX12_tries_21 rfl rfl ?_
    refine zV_aload_n 0 dX12_tries_22 rfl rfl ?_
    refine zV_getI (zq_200 hZ) zf_X12_43 zkf_X12_343 rfl dX12_tries_23 (fun m3 => ?_)
    refine zV_icmp_ne 61 dX12_tries_26 (by decide) hx1 m3 (fun hc_ => ?_) (fun hc_ => ?_)
    · replace h := zs_f h hc_
      refine zV_iconst (v := 0) dX12_tries_61 rfl ?_
      refine zV_istore_n [(3, zI 0), (0, zR 200), (1, zI x1), (2, zI x2)] dX12_tries_62 rfl (by decide) rfl ?_
      refine zV_ls [1, 2, 3, 0] rfl ?_
      refine (zV_loop (Vh := fun s17 : Int × zMem => z32 (s17.1) → zV zmX12_tries nn 0 0 Z 63 [(0, zR 200), (1, zI x1), (2, zI x2), (3, zI (s17.1))] [] (s17.2) Q) h (fun s17 P18 hP19 hc20 he21 => ?_)) zi_0
      intro c22
      refine fX12_tries_l63_ok hZ hn hn0 hx1 hx2 c22 hF_tries hP19 hc20 (fun s23 h24 d25 => ?_)
      have h := he21 _ h24
      exact zV_vret dX12_tries_118 rfl h
    · replace h := zs_t h hc_
      refine zV_aload_n 0 dX12_tries_29 rfl rfl ?_
      refine zV_iload_n 2 dX12_tries_30 rfl rfl ?_
      refine zV_putI (zq_200 hZ) (by decide) zf_X12_53 zkf_X12_423 rfl dX12_tries_31 hx2 ?_
      refine zV_iconst (v := 0) dX12_tries_34 rfl ?_
      refine zV_istore_n [(3, zI 0), (0, zR 200), (1, zI x1), (2, zI x2)] dX12_tries_35 rfl (by decide) rfl ?_
      refine zV_ls [1, 0] rfl ?_
      refine (zV_loop (Vh := fun s27 : Int × zMem => z32 (s27.1) → zV zmX12_tries nn 0 0 Z 36 [(0, zR 200), (3, zI (s27.1))] [] (s27.2) Q) h (fun s27 P28 hP29 hc30 he31 => ?_)) zi_0
      intro c32
      refine fX12_tries_l36_ok hZ hn hn0 c32 hF_tries hP29 hc30 (fun s33 h34 d35 => ?_)
      have h := he31 _ h34
      exact zV_vret dX12_tries_60 rfl h
  · replace h := zs_f h hc_
    exact zV_vret dX12_tries_20 rfl h
noncomputable def fX12_tries : Nat → Int → Int → zMem → Option (zMem)
  | 0, _, _, _ => none
  | d + 1, x1, x2, M => fX12_tries_s (fX12_tries d) x1 x2 M
theorem fX12_tries_ok {Z : zZ} (hZ : zB Z) : ∀ (d : Nat) {nn : Nat} (hn : 4 + d ≤ nn) {x1 x2 : Int} (hx1 : z32 x1) (hx2 : z32 x2) {M : zMem} {Q : Option zAV → zMem → zZ → Prop} (h : zSat (fX12_tries d x1 x2 M) (fun r => Q none r Z)), zV zmX12_tries nn 0 0 Z 0 [(0, zR 200), (1, zI x1), (2, zI x2)] [] M Q
  | 0, _, _, _, _,  _, _,  _, _, h => h.elim
  | d + 1, nn, hn, x1, x2,  hx1, hx2,  M, Q, h => fX12_tries_s_ok (n0 := nn - 1) hZ (by omega) (by omega) hx1 hx2 (fun _ _ M' Q' gx1 gx2 hh => fX12_tries_ok hZ d (by omega) gx1 gx2 hh) h
noncomputable def fX12_hasTried_l13 (x1 : Int) (M : zMem) : Option ((Int × zMem) ⊕ (Int × zMem)) :=
  (if 24 ≤ x1 then some (.inr (x1, M)) else (zgd ((0 : Int) ≤ x1 ∧ x1 < 120) (zgd ((0 : Int) ≤ x1 ∧ x1 < 24) (some (.inl ((zw (x1 + 1)), (zup M 252 x1 (M 249 x1))))))))
set_option maxRecDepth 100000 in
set_option maxHeartbeats 4000000 in
theorem fX12_hasTried_l13_ok {Z : zZ} (hZ : zB Z) {nn : Nat} (hn : 25 ≤ nn)  {x1 : Int} (hx1 : z32 x1) {M : zMem} {Q : Option zAV → zMem → zZ → Prop} {P : (Int × zMem) ⊕ (Int × zMem) → Prop} (h : zSat (fX12_hasTried_l13 x1 M) P)  (hc : ∀ s : Int × zMem, P (.inl s) → z32 (s.1) → zV zmX12_hasTried nn 0 0 Z 13 [(0, zR 200), (1, zI (s.1))] [] (s.2) Q) (he : ∀ s : Int × zMem, P (.inr s) → z32 (s.1) → zV zmX12_hasTried nn 0 0 Z 37 [(0, zR 200), (1, zI (s.1))] [] (s.2) Q)   : zV zmX12_hasTried nn 0 0 Z 13 [(0, zR 200), (1, zI x1)] [] M Q := by
  unfold fX12_hasTried_l13 at h
  refine zV_iload_n 1 dX12_hasTried_13 rfl rfl ?_
  refine zV_bipush (v := 24) dX12_hasTried_14 rfl ?_
  refine zV_icmp_ge 37 dX12_hasTried_16 (by decide) hx1 zi_24 (fun hc_ => ?_) (fun hc_ => ?_)
  · replace h := zs_t h hc_
    exact he _ h hx1
  · replace h := zs_f h hc_
    refine zV_aload_n 0 dX12_hasTried_19 rfl rfl ?_
    refine zV_getR (j := 252) (zq_200 hZ) zf_X12_51 zkf_X12_129 rfl dX12_hasTried_20 ?_
    refine zV_iload_n 1 dX12_hasTried_23 rfl rfl ?_
    refine zV_aload_n 0 dX12_hasTried_24 rfl rfl ?_
    refine zV_getR (j := 249) (zq_200 hZ) zf_X12_48 zkf_X12_120 rfl dX12_hasTried_25 ?_
    refine zV_iload_n 1 dX12_hasTried_28 rfl rfl ?_
    obtain ⟨hg, h⟩ := zs_gd h
    refine zV_iald (zq_249 hZ) hg dX12_hasTried_29 (fun m2 => ?_)
    obtain ⟨hg, h⟩ := zs_gd h
    refine zV_iast (zq_252 hZ) (by decide) hg m2 dX12_hasTried_30 ?_
    refine zV_iinc 1 [(1, zI (zw (x1 + 1))), (0, zR 200)] dX12_hasTried_31 rfl rfl (by decide) rfl ?_
    refine zV_goto 13 dX12_hasTried_34 (by decide) ?_
    refine zV_ls [1, 0] rfl ?_
    exact hc _ h (z32_w _)
noncomputable def fX12_hasTried_l57 (x1 : Int) (M : zMem) : Option ((Int × zMem) ⊕ (Int × zMem)) :=
  (if 24 ≤ x1 then some (.inr (x1, M)) else (zgd ((0 : Int) ≤ x1 ∧ x1 < 24) (zgd ((0 : Int) ≤ x1 ∧ x1 < 120) (some (.inl ((zw (x1 + 1)), (zup M 249 x1 (M 252 x1))))))))
set_option maxRecDepth 100000 in
set_option maxHeartbeats 4000000 in
theorem fX12_hasTried_l57_ok {Z : zZ} (hZ : zB Z) {nn : Nat} (hn : 25 ≤ nn)  {x1 : Int} (hx1 : z32 x1) {M : zMem} {Q : Option zAV → zMem → zZ → Prop} {P : (Int × zMem) ⊕ (Int × zMem) → Prop} (h : zSat (fX12_hasTried_l57 x1 M) P)  (hc : ∀ s : Int × zMem, P (.inl s) → z32 (s.1) → zV zmX12_hasTried nn 0 0 Z 57 [(0, zR 200), (1, zI (s.1))] [] (s.2) Q) (he : ∀ s : Int × zMem, P (.inr s) → z32 (s.1) → zV zmX12_hasTried nn 0 0 Z 81 [(0, zR 200), (1, zI (s.1))] [] (s.2) Q)   : zV zmX12_hasTried nn 0 0 Z 57 [(0, zR 200), (1, zI x1)] [] M Q := by
  unfold fX12_hasTried_l57 at h
  refine zV_iload_n 1 dX12_hasTried_57 rfl rfl ?_
  refine zV_bipush (v := 24) dX12_hasTried_58 rfl ?_
  refine zV_icmp_ge 81 dX12_hasTried_60 (by decide) hx1 zi_24 (fun hc_ => ?_) (fun hc_ => ?_)
  · replace h := zs_t h hc_
    exact he _ h hx1
  · replace h := zs_f h hc_
    refine zV_aload_n 0 dX12_hasTried_63 rfl rfl ?_
    refine zV_getR (j := 249) (zq_200 hZ) zf_X12_48 zkf_X12_120 rfl dX12_hasTried_64 ?_
    refine zV_iload_n 1 dX12_hasTried_67 rfl rfl ?_
    refine zV_aload_n 0 dX12_hasTried_68 rfl rfl ?_
    refine zV_getR (j := 252) (zq_200 hZ) zf_X12_51 zkf_X12_129 rfl dX12_hasTried_69 ?_
    refine zV_iload_n 1 dX12_hasTried_72 rfl rfl ?_
    obtain ⟨hg, h⟩ := zs_gd h
    refine zV_iald (zq_252 hZ) hg dX12_hasTried_73 (fun m16 => ?_)
    obtain ⟨hg, h⟩ := zs_gd h
    refine zV_iast (zq_249 hZ) (by decide) hg m16 dX12_hasTried_74 ?_
    refine zV_iinc 1 [(1, zI (zw (x1 + 1))), (0, zR 200)] dX12_hasTried_75 rfl rfl (by decide) rfl ?_
    refine zV_goto 57 dX12_hasTried_78 (by decide) ?_
    refine zV_ls [1, 0] rfl ?_
    exact hc _ h (z32_w _)
noncomputable def fX12_hasTried (M : zMem) : Option (Int × zMem) :=
  (if (M 200 43) ≤ 8 then (zbd (zit (fun s3 => fX12_hasTried_l13 (s3.1) (s3.2)) (0, M)) fun s9 => (zbd (fX12_tries 20 0 0 (zup (zup (s9.2) 200 53 100000000) 200 54 0)) fun M15 => (zbd (zit (fun s17 => fX12_hasTried_l57 (s17.1) (s17.2)) (0, M15)) fun s23 => some (1, s23.2)))) else some (0, M))
set_option maxRecDepth 100000 in
set_option maxHeartbeats 4000000 in
theorem fX12_hasTried_ok {Z : zZ} (hZ : zB Z) {nn : Nat} (hn : 25 ≤ nn)   {M : zMem} {Q : Option zAV → zMem → zZ → Prop} (h : zSat (fX12_hasTried M) (fun r => Q (some (zI r.1)) r.2 Z))  : zV zmX12_hasTried nn 0 0 Z 0 [(0, zR 200)] [] M Q := by
  unfold fX12_hasTried at h
  refine zV_aload_n 0 dX12_hasTried_0 rfl rfl ?_
  refine zV_getI (zq_200 hZ) zf_X12_43 zkf_X12_343 rfl dX12_hasTried_1 (fun m1 => ?_)
  refine zV_bipush (v := 8) dX12_hasTried_4 rfl ?_
  refine zV_icmp_le 11 dX12_hasTried_6 (by decide) m1 zi_8 (fun hc_ => ?_) (fun hc_ => ?_)
  · replace h := zs_t h hc_
    refine zV_iconst (v := 0) dX12_hasTried_11 rfl ?_
    refine zV_istore_n [(1, zI 0), (0, zR 200)] dX12_hasTried_12 rfl (by decide) rfl ?_
    refine zV_ls [1, 0] rfl ?_
    refine (zV_loop (Vh := fun s3 : Int × zMem => z32 (s3.1) → zV zmX12_hasTried nn 0 0 Z 13 [(0, zR 200), (1, zI (s3.1))] [] (s3.2) Q) h (fun s3 P4 hP5 hc6 he7 => ?_)) zi_0
    intro c8
    refine fX12_hasTried_l13_ok hZ hn c8 hP5 hc6 (fun s9 h10 d11 => ?_)
    have h := he7 _ h10
    refine zV_aload_n 0 dX12_hasTried_37 rfl rfl ?_
    refine zV_ldcw (v := 100000000) zko_X12_371 rfl dX12_hasTried_38 ?_
    refine zV_putI (zq_200 hZ) (by decide) zf_X12_53 zkf_X12_423 rfl dX12_hasTried_41 zi_100000000 ?_
    refine zV_aload_n 0 dX12_hasTried_44 rfl rfl ?_
    refine zV_iconst (v := 0) dX12_hasTried_45 rfl ?_
    refine zV_putI (zq_200 hZ) (by decide) zf_X12_54 zkf_X12_420 rfl dX12_hasTried_46 zi_0 ?_
    refine zV_aload_n 0 dX12_hasTried_49 rfl rfl ?_
    refine zV_iconst (v := 0) dX12_hasTried_50 rfl ?_
    refine zV_iconst (v := 0) dX12_hasTried_51 rfl ?_
    refine zV_cVV (y' := zmX12_tries) (n' := 24) (As := [zI 0, zI 0]) zc_X12_426 (zq_200 hZ) rfl dX12_hasTried_52 (Nat.le_trans (by decide) hn) rfl (Nat.le_of_ble_eq_true rfl) (Nat.le_of_ble_eq_true rfl) rfl h (fun Q' h' => fX12_tries_ok hZ 20 (Nat.le_refl _) zi_0 zi_0 h') (fun M15 h => ?_)
    refine zV_iconst (v := 0) dX12_hasTried_55 rfl ?_
    refine zV_istore_n [(1, zI 0), (0, zR 200)] dX12_hasTried_56 rfl (by decide) rfl ?_
    refine zV_ls [1, 0] rfl ?_
    refine (zV_loop (Vh := fun s17 : Int × zMem => z32 (s17.1) → zV zmX12_hasTried nn 0 0 Z 57 [(0, zR 200), (1, zI (s17.1))] [] (s17.2) Q) h (fun s17 P18 hP19 hc20 he21 => ?_)) zi_0
    intro c22
    refine fX12_hasTried_l57_ok hZ hn c22 hP19 hc20 (fun s23 h24 d25 => ?_)
    have h := he21 _ h24
    refine zV_iconst (v := 1) dX12_hasTried_81 rfl ?_
    exact zV_iretb dX12_hasTried_82 rfl (Or.inr rfl) h
  · replace h := zs_f h hc_
    refine zV_iconst (v := 0) dX12_hasTried_9 rfl ?_
    exact zV_iretb dX12_hasTried_10 rfl (Or.inl rfl) h
noncomputable def fX12_fewest (M : zMem) : Option (Int × zMem) :=
  (zbd2 (fX12_hasTried (zup M 200 0 0)) fun r1 M4 => (if r1 = 0 then some ((-1), M4) else (if 100000000 ≤ (M4 200 53) then some ((-1), M4) else some ((M4 200 53), M4))))
set_option maxRecDepth 100000 in
set_option maxHeartbeats 4000000 in
theorem fX12_fewest_ok {Z : zZ} (hZ : zB Z) {nn : Nat} (hn : 26 ≤ nn)   {M : zMem} {Q : Option zAV → zMem → zZ → Prop} (h : zSat (fX12_fewest M) (fun r => Q (some (zI r.1)) r.2 Z))  : zV zmX12_fewest nn 0 0 Z 0 [(0, zR 200)] [] M Q := by
  unfold fX12_fewest at h
  refine zV_aload_n 0 dX12_fewest_0 rfl rfl ?_
  refine zV_iconst (v := 0) dX12_fewest_1 rfl ?_
  refine zV_putI (zq_200 hZ) (by decide) zf_X12_0 zkf_X12_157 rfl dX12_fewest_2 zi_0 ?_
  refine zV_aload_n 0 dX12_fewest_5 rfl rfl ?_
  refine zV_cVIm (y' := zmX12_hasTried) (n' := 25) (As := []) zc_X12_429 (zq_200 hZ) rfl dX12_fewest_6 (Nat.le_trans (by decide) hn) rfl (Nat.le_of_ble_eq_true rfl) (Nat.le_of_ble_eq_true rfl) rfl h (fun Q' h' => fX12_hasTried_ok hZ (Nat.le_refl _)  h') (fun r1 M4 c2 b3 h => ?_)
  refine zV_if_eq 29 dX12_fewest_9 (by decide) c2 (fun hc_ => ?_) (fun hc_ => ?_)
  · replace h := zs_t h hc_
    refine zV_iconst (v := (-1)) dX12_fewest_29 rfl ?_
    exact zV_ireti dX12_fewest_30 rfl zi_n1 h
  · replace h := zs_f h hc_
    refine zV_aload_n 0 dX12_fewest_12 rfl rfl ?_
    refine zV_getI (zq_200 hZ) zf_X12_53 zkf_X12_423 rfl dX12_fewest_13 (fun m5 => ?_)
    refine zV_ldcw (v := 100000000) zko_X12_371 rfl dX12_fewest_16 ?_
    refine zV_icmp_ge 29 dX12_fewest_19 (by decide) m5 zi_100000000 (fun hc_ => ?_) (fun hc_ => ?_)
    · replace h := zs_t h hc_
      refine zV_iconst (v := (-1)) dX12_fewest_29 rfl ?_
      exact zV_ireti dX12_fewest_30 rfl zi_n1 h
    · replace h := zs_f h hc_
      refine zV_aload_n 0 dX12_fewest_22 rfl rfl ?_
      refine zV_getI (zq_200 hZ) zf_X12_53 zkf_X12_423 rfl dX12_fewest_23 (fun m6 => ?_)
      refine zV_goto 30 dX12_fewest_26 (by decide) ?_
      exact zV_ireti dX12_fewest_30 rfl m6 h
noncomputable def fX12_fingered (x1 : Int) (M : zMem) : Option (Int × zMem) :=
  (zbd (fX12_isNote x1 (zup M 200 0 0)) fun r1 => (if r1 = 0 then some ((-1), (zup M 200 0 0)) else (zbd2 (fX12_hasTried (zup M 200 0 0)) fun r5 M8 => (if r5 = 0 then some ((-1), M8) else (if 100000000 ≤ (M8 200 53) then some ((-1), M8) else (zgd ((0 : Int) ≤ x1 ∧ x1 < 24) (some ((M8 253 x1), M8))))))))
set_option maxRecDepth 100000 in
set_option maxHeartbeats 4000000 in
theorem fX12_fingered_ok {Z : zZ} (hZ : zB Z) {nn : Nat} (hn : 26 ≤ nn)  {x1 : Int} (hx1 : z32 x1) {M : zMem} {Q : Option zAV → zMem → zZ → Prop} (h : zSat (fX12_fingered x1 M) (fun r => Q (some (zI r.1)) r.2 Z))  : zV zmX12_fingered nn 0 0 Z 0 [(0, zR 200), (1, zI x1)] [] M Q := by
  unfold fX12_fingered at h
  refine zV_aload_n 0 dX12_fingered_0 rfl rfl ?_
  refine zV_iconst (v := 0) dX12_fingered_1 rfl ?_
  refine zV_putI (zq_200 hZ) (by decide) zf_X12_0 zkf_X12_157 rfl dX12_fingered_2 zi_0 ?_
  refine zV_aload_n 0 dX12_fingered_5 rfl rfl ?_
  refine zV_iload_n 1 dX12_fingered_6 rfl rfl ?_
  refine zV_cVI (y' := zmX12_isNote) (n' := 0) (As := [zI x1]) zc_X12_361 (zq_200 hZ) rfl dX12_fingered_7 (Nat.le_trans (by decide) hn) rfl (Nat.le_of_ble_eq_true rfl) (Nat.le_of_ble_eq_true rfl) rfl h (fun Q' h' => fX12_isNote_ok hZ (Nat.le_refl _) hx1 h') (fun r1 c2 b3 h => ?_)
  refine zV_if_eq 39 dX12_fingered_10 (by decide) c2 (fun hc_ => ?_) (fun hc_ => ?_)
  · replace h := zs_t h hc_
    refine zV_iconst (v := (-1)) dX12_fingered_39 rfl ?_
    exact zV_ireti dX12_fingered_40 rfl zi_n1 h
  · replace h := zs_f h hc_
    refine zV_aload_n 0 dX12_fingered_13 rfl rfl ?_
    refine zV_cVIm (y' := zmX12_hasTried) (n' := 25) (As := []) zc_X12_429 (zq_200 hZ) rfl dX12_fingered_14 (Nat.le_trans (by decide) hn) rfl (Nat.le_of_ble_eq_true rfl) (Nat.le_of_ble_eq_true rfl) rfl h (fun Q' h' => fX12_hasTried_ok hZ (Nat.le_refl _)  h') (fun r5 M8 c6 b7 h => ?_)
    refine zV_if_eq 39 dX12_fingered_17 (by decide) c6 (fun hc_ => ?_) (fun hc_ => ?_)
    · replace h := zs_t h hc_
      refine zV_iconst (v := (-1)) dX12_fingered_39 rfl ?_
      exact zV_ireti dX12_fingered_40 rfl zi_n1 h
    · replace h := zs_f h hc_
      refine zV_aload_n 0 dX12_fingered_20 rfl rfl ?_
      refine zV_getI (zq_200 hZ) zf_X12_53 zkf_X12_423 rfl dX12_fingered_21 (fun m9 => ?_)
      refine zV_ldcw (v := 100000000) zko_X12_371 rfl dX12_fingered_24 ?_
      refine zV_icmp_ge 39 dX12_fingered_27 (by decide) m9 zi_100000000 (fun hc_ => ?_) (fun hc_ => ?_)
      · replace h := zs_t h hc_
        refine zV_iconst (v := (-1)) dX12_fingered_39 rfl ?_
        exact zV_ireti dX12_fingered_40 rfl zi_n1 h
      · replace h := zs_f h hc_
        refine zV_aload_n 0 dX12_fingered_30 rfl rfl ?_
        refine zV_getR (j := 253) (zq_200 hZ) zf_X12_52 zkf_X12_132 rfl dX12_fingered_31 ?_
        refine zV_iload_n 1 dX12_fingered_34 rfl rfl ?_
        obtain ⟨hg, h⟩ := zs_gd h
        refine zV_iald (zq_253 hZ) hg dX12_fingered_35 (fun m10 => ?_)
        refine zV_goto 40 dX12_fingered_36 (by decide) ?_
        exact zV_ireti dX12_fingered_40 rfl m10 h
noncomputable def fX12_far (M : zMem) : Option (Int × zMem) :=
  (zbd2 (fX12_hasTried (zup M 200 0 0)) fun r1 M4 => (if r1 = 0 then some ((-1), M4) else some ((M4 200 54), M4)))
set_option maxRecDepth 100000 in
set_option maxHeartbeats 4000000 in
theorem fX12_far_ok {Z : zZ} (hZ : zB Z) {nn : Nat} (hn : 26 ≤ nn)   {M : zMem} {Q : Option zAV → zMem → zZ → Prop} (h : zSat (fX12_far M) (fun r => Q (some (zI r.1)) r.2 Z))  : zV zmX12_far nn 0 0 Z 0 [(0, zR 200)] [] M Q := by
  unfold fX12_far at h
  refine zV_aload_n 0 dX12_far_0 rfl rfl ?_
  refine zV_iconst (v := 0) dX12_far_1 rfl ?_
  refine zV_putI (zq_200 hZ) (by decide) zf_X12_0 zkf_X12_157 rfl dX12_far_2 zi_0 ?_
  refine zV_aload_n 0 dX12_far_5 rfl rfl ?_
  refine zV_cVIm (y' := zmX12_hasTried) (n' := 25) (As := []) zc_X12_429 (zq_200 hZ) rfl dX12_far_6 (Nat.le_trans (by decide) hn) rfl (Nat.le_of_ble_eq_true rfl) (Nat.le_of_ble_eq_true rfl) rfl h (fun Q' h' => fX12_hasTried_ok hZ (Nat.le_refl _)  h') (fun r1 M4 c2 b3 h => ?_)
  refine zV_if_eq 19 dX12_far_9 (by decide) c2 (fun hc_ => ?_) (fun hc_ => ?_)
  · replace h := zs_t h hc_
    refine zV_iconst (v := (-1)) dX12_far_19 rfl ?_
    exact zV_ireti dX12_far_20 rfl zi_n1 h
  · replace h := zs_f h hc_
    refine zV_aload_n 0 dX12_far_12 rfl rfl ?_
    refine zV_getI (zq_200 hZ) zf_X12_54 zkf_X12_420 rfl dX12_far_13 (fun m5 => ?_)
    refine zV_goto 20 dX12_far_16 (by decide) ?_
    exact zV_ireti dX12_far_20 rfl m5 h
noncomputable def fX12_beats (x1 x2 x3 : Int) (M : zMem) : Option (Int) :=
  (zgd ((0 : Int) ≤ x1 ∧ x1 < 48) (zgd ((0 : Int) ≤ (M 220 x1) ∧ (M 220 x1) < 72) (zgd ((0 : Int) ≤ x1 ∧ x1 < 48) (zgd ((0 : Int) ≤ x1 ∧ x1 < 48) (zgd ((0 : Int) ≤ (M 222 x1) ∧ (M 222 x1) < 72) (zgd ((0 : Int) ≤ x1 ∧ x1 < 48) (zbd (fX12_away (zw (((M 215 (M 220 x1)) + x2) * (M 223 x1))) (zw (((M 215 (M 222 x1)) + x3) * (M 221 x1))) M) fun r7 => some r7)))))))
set_option maxRecDepth 100000 in
set_option maxHeartbeats 4000000 in
theorem fX12_beats_ok {Z : zZ} (hZ : zB Z) {nn : Nat} (hn : 1 ≤ nn)  {x1 x2 x3 : Int} (hx1 : z32 x1) (hx2 : z32 x2) (hx3 : z32 x3) {M : zMem} {Q : Option zAV → zMem → zZ → Prop} (h : zSat (fX12_beats x1 x2 x3 M) (fun r => Q (some (zI r)) M Z))  : zV zmX12_beats nn 0 0 Z 0 [(0, zR 200), (1, zI x1), (2, zI x2), (3, zI x3)] [] M Q := by
  unfold fX12_beats at h
  refine zV_aload_n 0 dX12_beats_0 rfl rfl ?_
  refine zV_getR (j := 215) (zq_200 hZ) zf_X12_14 zkf_X12_26 rfl dX12_beats_1 ?_
  refine zV_aload_n 0 dX12_beats_4 rfl rfl ?_
  refine zV_getR (j := 220) (zq_200 hZ) zf_X12_19 zkf_X12_41 rfl dX12_beats_5 ?_
  refine zV_iload_n 1 dX12_beats_8 rfl rfl ?_
  obtain ⟨hg, h⟩ := zs_gd h
  refine zV_iald (zq_220 hZ) hg dX12_beats_9 (fun m1 => ?_)
  obtain ⟨hg, h⟩ := zs_gd h
  refine zV_iald (zq_215 hZ) hg dX12_beats_10 (fun m2 => ?_)
  refine zV_iload_n 2 dX12_beats_11 rfl rfl ?_
  refine zV_iadd dX12_beats_12 ?_
  refine zV_aload_n 0 dX12_beats_13 rfl rfl ?_
  refine zV_getR (j := 223) (zq_200 hZ) zf_X12_22 zkf_X12_50 rfl dX12_beats_14 ?_
  refine zV_iload_n 1 dX12_beats_17 rfl rfl ?_
  obtain ⟨hg, h⟩ := zs_gd h
  refine zV_iald (zq_223 hZ) hg dX12_beats_18 (fun m3 => ?_)
  refine zV_imul dX12_beats_19 ?_
  refine zV_aload_n 0 dX12_beats_20 rfl rfl ?_
  refine zV_getR (j := 215) (zq_200 hZ) zf_X12_14 zkf_X12_26 rfl dX12_beats_21 ?_
  refine zV_aload_n 0 dX12_beats_24 rfl rfl ?_
  refine zV_getR (j := 222) (zq_200 hZ) zf_X12_21 zkf_X12_47 rfl dX12_beats_25 ?_
  refine zV_iload_n 1 dX12_beats_28 rfl rfl ?_
  obtain ⟨hg, h⟩ := zs_gd h
  refine zV_iald (zq_222 hZ) hg dX12_beats_29 (fun m4 => ?_)
  obtain ⟨hg, h⟩ := zs_gd h
  refine zV_iald (zq_215 hZ) hg dX12_beats_30 (fun m5 => ?_)
  refine zV_iload_n 3 dX12_beats_31 rfl rfl ?_
  refine zV_iadd dX12_beats_32 ?_
  refine zV_aload_n 0 dX12_beats_33 rfl rfl ?_
  refine zV_getR (j := 221) (zq_200 hZ) zf_X12_20 zkf_X12_44 rfl dX12_beats_34 ?_
  refine zV_iload_n 1 dX12_beats_37 rfl rfl ?_
  obtain ⟨hg, h⟩ := zs_gd h
  refine zV_iald (zq_221 hZ) hg dX12_beats_38 (fun m6 => ?_)
  refine zV_imul dX12_beats_39 ?_
  refine zV_w ?_
  refine zV_w2 ?_
  refine zV_cSI (y' := zmX12_away) (n' := 0) (As := [zI (zw (((M 215 (M 220 x1)) + x2) * (M 223 x1))), zI (zw (((M 215 (M 222 x1)) + x3) * (M 221 x1)))]) zc_X12_399 dX12_beats_40 (Nat.le_trans (by decide) hn) rfl (Nat.le_of_ble_eq_true rfl) (Nat.le_of_ble_eq_true rfl) rfl h (fun Q' h' => fX12_away_ok hZ (Nat.le_refl _) (z32_w _) (z32_w _) h') (fun r7 c8 b9 h => ?_)
  exact zV_ireti dX12_beats_43 rfl c8 h
noncomputable def fX12_beating (x1 : Int) (M : zMem) : Option (Int × zMem) :=
  (if x1 < 0 then some ((-1), (zup M 200 0 0)) else (zgd ((0 : Int) ≤ (0 : Int) ∧ (0 : Int) < 6) (if ((zup M 200 0 0) 212 0) ≤ x1 then some ((-1), (zup M 200 0 0)) else (zbd (fX12_beats x1 0 0 (zup M 200 0 0)) fun r2 => some (r2, (zup M 200 0 0))))))
set_option maxRecDepth 100000 in
set_option maxHeartbeats 4000000 in
theorem fX12_beating_ok {Z : zZ} (hZ : zB Z) {nn : Nat} (hn : 2 ≤ nn)  {x1 : Int} (hx1 : z32 x1) {M : zMem} {Q : Option zAV → zMem → zZ → Prop} (h : zSat (fX12_beating x1 M) (fun r => Q (some (zI r.1)) r.2 Z))  : zV zmX12_beating nn 0 0 Z 0 [(0, zR 200), (1, zI x1)] [] M Q := by
  unfold fX12_beating at h
  refine zV_aload_n 0 dX12_beating_0 rfl rfl ?_
  refine zV_iconst (v := 0) dX12_beating_1 rfl ?_
  refine zV_putI (zq_200 hZ) (by decide) zf_X12_0 zkf_X12_157 rfl dX12_beating_2 zi_0 ?_
  refine zV_iload_n 1 dX12_beating_5 rfl rfl ?_
  refine zV_if_lt 29 dX12_beating_6 (by decide) hx1 (fun hc_ => ?_) (fun hc_ => ?_)
  · replace h := zs_t h hc_
    refine zV_iconst (v := (-1)) dX12_beating_29 rfl ?_
    exact zV_ireti dX12_beating_30 rfl zi_n1 h
  · replace h := zs_f h hc_
    refine zV_iload_n 1 dX12_beating_9 rfl rfl ?_
    refine zV_aload_n 0 dX12_beating_10 rfl rfl ?_
    refine zV_getR (j := 212) (zq_200 hZ) zf_X12_11 zkf_X12_16 rfl dX12_beating_11 ?_
    refine zV_iconst (v := 0) dX12_beating_14 rfl ?_
    obtain ⟨hg, h⟩ := zs_gd h
    refine zV_iald (zq_212 hZ) hg dX12_beating_15 (fun m1 => ?_)
    refine zV_icmp_ge 29 dX12_beating_16 (by decide) hx1 m1 (fun hc_ => ?_) (fun hc_ => ?_)
    · replace h := zs_t h hc_
      refine zV_iconst (v := (-1)) dX12_beating_29 rfl ?_
      exact zV_ireti dX12_beating_30 rfl zi_n1 h
    · replace h := zs_f h hc_
      refine zV_aload_n 0 dX12_beating_19 rfl rfl ?_
      refine zV_iload_n 1 dX12_beating_20 rfl rfl ?_
      refine zV_iconst (v := 0) dX12_beating_21 rfl ?_
      refine zV_iconst (v := 0) dX12_beating_22 rfl ?_
      refine zV_cVI (y' := zmX12_beats) (n' := 1) (As := [zI x1, zI 0, zI 0]) zc_X12_432 (zq_200 hZ) rfl dX12_beating_23 (Nat.le_trans (by decide) hn) rfl (Nat.le_of_ble_eq_true rfl) (Nat.le_of_ble_eq_true rfl) rfl h (fun Q' h' => fX12_beats_ok hZ (Nat.le_refl _) hx1 zi_0 zi_0 h') (fun r2 c3 b4 h => ?_)
      refine zV_goto 30 dX12_beating_26 (by decide) ?_
      exact zV_ireti dX12_beating_30 rfl c3 h
noncomputable def fX12_within_j43 (x1 x2 s0 s1 : Int) (M : zMem) : Option ((Int × Int) ⊕ (Int × Int)) :=
  some (.inl ((zor s1 s0), (zw (x2 + 1))))
set_option maxRecDepth 100000 in
set_option maxHeartbeats 4000000 in
theorem fX12_within_j43_ok {Z : zZ} (hZ : zB Z) {nn : Nat} (hn : 2 ≤ nn)  {x1 x2 s0 s1 : Int} (hx1 : z32 x1) (hx2 : z32 x2) (hs0 : z32 s0) (hs1 : z32 s1) {M : zMem} {Q : Option zAV → zMem → zZ → Prop} {P : (Int × Int) ⊕ (Int × Int) → Prop} (h : zSat (fX12_within_j43 x1 x2 s0 s1 M) P)  (hc : ∀ s : Int × Int, P (.inl s) → z32 (s.1) → z32 (s.2) → zV zmX12_within nn 0 0 Z 9 [(0, zR 200), (1, zI (s.1)), (2, zI (s.2))] [] M Q) (he : ∀ s : Int × Int, P (.inr s) → z32 (s.1) → z32 (s.2) → zV zmX12_within nn 0 0 Z 51 [(0, zR 200), (1, zI (s.1)), (2, zI (s.2))] [] M Q)   : zV zmX12_within nn 0 0 Z 43 [(0, zR 200), (1, zI x1), (2, zI x2)] [zI s0, zI s1] M Q := by
  unfold fX12_within_j43 at h
  refine zV_ior dX12_within_43 ?_
  refine zV_istore_n [(1, zI (zor s1 s0)), (0, zR 200), (2, zI x2)] dX12_within_44 rfl (by decide) rfl ?_
  refine zV_iinc 2 [(2, zI (zw (x2 + 1))), (1, zI (zor s1 s0)), (0, zR 200)] dX12_within_45 rfl rfl (by decide) rfl ?_
  refine zV_goto 9 dX12_within_48 (by decide) ?_
  refine zV_ls [2, 1, 0] rfl ?_
  exact hc _ h (z32_i _) (z32_w _)
noncomputable def fX12_within_l9 (x1 x2 : Int) (M : zMem) : Option ((Int × Int) ⊕ (Int × Int)) :=
  (zgd ((0 : Int) ≤ (0 : Int) ∧ (0 : Int) < 6) (if (M 212 0) ≤ x2 then some (.inr (x1, x2)) else (zbd (fX12_beats x2 0 0 M) fun r2 => (zgd ((0 : Int) ≤ x2 ∧ x2 < 48) (if (M 224 x2) < r2 then fX12_within_j43 x1 x2 0 x1 M else fX12_within_j43 x1 x2 (zshl 1 x2) x1 M)))))
set_option maxRecDepth 100000 in
set_option maxHeartbeats 4000000 in
theorem fX12_within_l9_ok {Z : zZ} (hZ : zB Z) {nn : Nat} (hn : 2 ≤ nn)  {x1 x2 : Int} (hx1 : z32 x1) (hx2 : z32 x2) {M : zMem} {Q : Option zAV → zMem → zZ → Prop} {P : (Int × Int) ⊕ (Int × Int) → Prop} (h : zSat (fX12_within_l9 x1 x2 M) P)  (hc : ∀ s : Int × Int, P (.inl s) → z32 (s.1) → z32 (s.2) → zV zmX12_within nn 0 0 Z 9 [(0, zR 200), (1, zI (s.1)), (2, zI (s.2))] [] M Q) (he : ∀ s : Int × Int, P (.inr s) → z32 (s.1) → z32 (s.2) → zV zmX12_within nn 0 0 Z 51 [(0, zR 200), (1, zI (s.1)), (2, zI (s.2))] [] M Q)   : zV zmX12_within nn 0 0 Z 9 [(0, zR 200), (1, zI x1), (2, zI x2)] [] M Q := by
  unfold fX12_within_l9 at h
  refine zV_iload_n 2 dX12_within_9 rfl rfl ?_
  refine zV_aload_n 0 dX12_within_10 rfl rfl ?_
  refine zV_getR (j := 212) (zq_200 hZ) zf_X12_11 zkf_X12_16 rfl dX12_within_11 ?_
  refine zV_iconst (v := 0) dX12_within_14 rfl ?_
  obtain ⟨hg, h⟩ := zs_gd h
  refine zV_iald (zq_212 hZ) hg dX12_within_15 (fun m1 => ?_)
  refine zV_icmp_ge 51 dX12_within_16 (by decide) hx2 m1 (fun hc_ => ?_) (fun hc_ => ?_)
  · replace h := zs_t h hc_
    exact he _ h hx1 hx2
  · replace h := zs_f h hc_
    refine zV_iload_n 1 dX12_within_19 rfl rfl ?_
    refine zV_aload_n 0 dX12_within_20 rfl rfl ?_
    refine zV_iload_n 2 dX12_within_21 rfl rfl ?_
    refine zV_iconst (v := 0) dX12_within_22 rfl ?_
    refine zV_iconst (v := 0) dX12_within_23 rfl ?_
    refine zV_cVI (y' := zmX12_beats) (n' := 1) (As := [zI x2, zI 0, zI 0]) zc_X12_432 (zq_200 hZ) rfl dX12_within_24 (Nat.le_trans (by decide) hn) rfl (Nat.le_of_ble_eq_true rfl) (Nat.le_of_ble_eq_true rfl) rfl h (fun Q' h' => fX12_beats_ok hZ (Nat.le_refl _) hx2 zi_0 zi_0 h') (fun r2 c3 b4 h => ?_)
    refine zV_aload_n 0 dX12_within_27 rfl rfl ?_
    refine zV_getR (j := 224) (zq_200 hZ) zf_X12_23 zkf_X12_53 rfl dX12_within_28 ?_
    refine zV_iload_n 2 dX12_within_31 rfl rfl ?_
    obtain ⟨hg, h⟩ := zs_gd h
    refine zV_iald (zq_224 hZ) hg dX12_within_32 (fun m6 => ?_)
    refine zV_icmp_gt 42 dX12_within_33 (by decide) c3 m6 (fun hc_ => ?_) (fun hc_ => ?_)
    · replace h := zs_t h hc_
      refine zV_iconst (v := 0) dX12_within_42 rfl ?_
      exact fX12_within_j43_ok hZ hn hx1 hx2 zi_0 hx1 h hc he
    · replace h := zs_f h hc_
      refine zV_iconst (v := 1) dX12_within_36 rfl ?_
      refine zV_iload_n 2 dX12_within_37 rfl rfl ?_
      refine zV_ishl dX12_within_38 ?_
      refine zV_goto 43 dX12_within_39 (by decide) ?_
      exact fX12_within_j43_ok hZ hn hx1 hx2 (z32_i _) hx1 h hc he
noncomputable def fX12_within (M : zMem) : Option (Int × zMem) :=
  (zbd (zit (fun s7 => fX12_within_l9 (s7.1) (s7.2) (zup M 200 0 0)) (0, 0)) fun s14 => some (s14.1, (zup M 200 0 0)))
set_option maxRecDepth 100000 in
set_option maxHeartbeats 4000000 in
theorem fX12_within_ok {Z : zZ} (hZ : zB Z) {nn : Nat} (hn : 2 ≤ nn)   {M : zMem} {Q : Option zAV → zMem → zZ → Prop} (h : zSat (fX12_within M) (fun r => Q (some (zI r.1)) r.2 Z))  : zV zmX12_within nn 0 0 Z 0 [(0, zR 200)] [] M Q := by
  unfold fX12_within at h
  refine zV_aload_n 0 dX12_within_0 rfl rfl ?_
  refine zV_iconst (v := 0) dX12_within_1 rfl ?_
  refine zV_putI (zq_200 hZ) (by decide) zf_X12_0 zkf_X12_157 rfl dX12_within_2 zi_0 ?_
  refine zV_iconst (v := 0) dX12_within_5 rfl ?_
  refine zV_istore_n [(1, zI 0), (0, zR 200)] dX12_within_6 rfl (by decide) rfl ?_
  refine zV_iconst (v := 0) dX12_within_7 rfl ?_
  refine zV_istore_n [(2, zI 0), (1, zI 0), (0, zR 200)] dX12_within_8 rfl (by decide) rfl ?_
  refine zV_ls [2, 1, 0] rfl ?_
  refine (zV_loop (Vh := fun s7 : Int × Int => z32 (s7.1) → z32 (s7.2) → zV zmX12_within nn 0 0 Z 9 [(0, zR 200), (1, zI (s7.1)), (2, zI (s7.2))] [] (zup M 200 0 0) Q) h (fun s7 P8 hP9 hc10 he11 => ?_)) zi_0 zi_0
  intro c12 c13
  refine fX12_within_l9_ok hZ hn c12 c13 hP9 hc10 (fun s14 h15 d16 d17 => ?_)
  have h := he11 _ h15
  refine zV_iload_n 1 dX12_within_51 rfl rfl ?_
  exact zV_ireti dX12_within_52 rfl d16 h
noncomputable def fX12_isPaired_l2 (x1 x2 : Int) (M : zMem) : Option ((Int) ⊕ ((Int) ⊕ (Int))) :=
  (zgd ((0 : Int) ≤ (0 : Int) ∧ (0 : Int) < 6) (if (M 212 0) ≤ x2 then some (.inr (.inl x2)) else (zgd ((0 : Int) ≤ x2 ∧ x2 < 48) (if (M 220 x2) = x1 then some (.inr (.inr 1)) else (zgd ((0 : Int) ≤ x2 ∧ x2 < 48) (if (M 222 x2) = x1 then some (.inr (.inr 1)) else some (.inl (zw (x2 + 1)))))))))
set_option maxRecDepth 100000 in
set_option maxHeartbeats 4000000 in
theorem fX12_isPaired_l2_ok {Z : zZ} (hZ : zB Z) {nn : Nat} (hn : 0 ≤ nn)  {x1 x2 : Int} (hx1 : z32 x1) (hx2 : z32 x2) {M : zMem} {Q : Option zAV → zMem → zZ → Prop} {P : (Int) ⊕ ((Int) ⊕ (Int)) → Prop} (h : zSat (fX12_isPaired_l2 x1 x2 M) P)  (hc : ∀ s : Int, P (.inl s) → z32 s → zV zmX12_isPaired nn 0 0 Z 2 [(0, zR 200), (1, zI x1), (2, zI s)] [] M Q) (he : ∀ s : Int, P (.inr (.inl s)) → z32 s → zV zmX12_isPaired nn 0 0 Z 40 [(0, zR 200), (1, zI x1), (2, zI s)] [] M Q) (hr : ∀ r : Int, P (.inr (.inr r)) → (fun r => Q (some (zI r)) M Z) r)  : zV zmX12_isPaired nn 0 0 Z 2 [(0, zR 200), (1, zI x1), (2, zI x2)] [] M Q := by
  unfold fX12_isPaired_l2 at h
  refine zV_iload_n 2 dX12_isPaired_2 rfl rfl ?_
  refine zV_aload_n 0 dX12_isPaired_3 rfl rfl ?_
  refine zV_getR (j := 212) (zq_200 hZ) zf_X12_11 zkf_X12_16 rfl dX12_isPaired_4 ?_
  refine zV_iconst (v := 0) dX12_isPaired_7 rfl ?_
  obtain ⟨hg, h⟩ := zs_gd h
  refine zV_iald (zq_212 hZ) hg dX12_isPaired_8 (fun m1 => ?_)
  refine zV_icmp_ge 40 dX12_isPaired_9 (by decide) hx2 m1 (fun hc_ => ?_) (fun hc_ => ?_)
  · replace h := zs_t h hc_
    exact he _ h hx2
  · replace h := zs_f h hc_
    refine zV_aload_n 0 dX12_isPaired_12 rfl rfl ?_
    refine zV_getR (j := 220) (zq_200 hZ) zf_X12_19 zkf_X12_41 rfl dX12_isPaired_13 ?_
    refine zV_iload_n 2 dX12_isPaired_16 rfl rfl ?_
    obtain ⟨hg, h⟩ := zs_gd h
    refine zV_iald (zq_220 hZ) hg dX12_isPaired_17 (fun m2 => ?_)
    refine zV_iload_n 1 dX12_isPaired_18 rfl rfl ?_
    refine zV_icmp_eq 32 dX12_isPaired_19 (by decide) m2 hx1 (fun hc_ => ?_) (fun hc_ => ?_)
    · replace h := zs_t h hc_
      refine zV_iconst (v := 1) dX12_isPaired_32 rfl ?_
      exact zV_iretb dX12_isPaired_33 rfl (Or.inr rfl) (hr _ h)
    · replace h := zs_f h hc_
      refine zV_aload_n 0 dX12_isPaired_22 rfl rfl ?_
      refine zV_getR (j := 222) (zq_200 hZ) zf_X12_21 zkf_X12_47 rfl dX12_isPaired_23 ?_
      refine zV_iload_n 2 dX12_isPaired_26 rfl rfl ?_
      obtain ⟨hg, h⟩ := zs_gd h
      refine zV_iald (zq_222 hZ) hg dX12_isPaired_27 (fun m3 => ?_)
      refine zV_iload_n 1 dX12_isPaired_28 rfl rfl ?_
      refine zV_icmp_ne 34 dX12_isPaired_29 (by decide) m3 hx1 (fun hc_ => ?_) (fun hc_ => ?_)
      · replace h := zs_f h hc_
        refine zV_iinc 2 [(2, zI (zw (x2 + 1))), (0, zR 200), (1, zI x1)] dX12_isPaired_34 rfl rfl (by decide) rfl ?_
        refine zV_goto 2 dX12_isPaired_37 (by decide) ?_
        refine zV_ls [1, 2, 0] rfl ?_
        exact hc _ h (z32_w _)
      · replace h := zs_t h hc_
        refine zV_iconst (v := 1) dX12_isPaired_32 rfl ?_
        exact zV_iretb dX12_isPaired_33 rfl (Or.inr rfl) (hr _ h)
noncomputable def fX12_isPaired (x1 : Int) (M : zMem) : Option (Int) :=
  (zbd (zit (fun s4 => fX12_isPaired_l2 x1 s4 M) 0) fun e => zel e (fun s10 => some 0) (fun r => some r))
set_option maxRecDepth 100000 in
set_option maxHeartbeats 4000000 in
theorem fX12_isPaired_ok {Z : zZ} (hZ : zB Z) {nn : Nat} (hn : 0 ≤ nn)  {x1 : Int} (hx1 : z32 x1) {M : zMem} {Q : Option zAV → zMem → zZ → Prop} (h : zSat (fX12_isPaired x1 M) (fun r => Q (some (zI r)) M Z))  : zV zmX12_isPaired nn 0 0 Z 0 [(0, zR 200), (1, zI x1)] [] M Q := by
  unfold fX12_isPaired at h
  refine zV_iconst (v := 0) dX12_isPaired_0 rfl ?_
  refine zV_istore_n [(2, zI 0), (0, zR 200), (1, zI x1)] dX12_isPaired_1 rfl (by decide) rfl ?_
  refine zV_ls [1, 2, 0] rfl ?_
  refine (zV_loop (Vh := fun s4 : Int => z32 s4 → zV zmX12_isPaired nn 0 0 Z 2 [(0, zR 200), (1, zI x1), (2, zI s4)] [] M Q) h (fun s4 P5 hP6 hc7 he8 => ?_)) zi_0
  intro c9
  refine fX12_isPaired_l2_ok hZ hn hx1 c9 hP6 hc7 (fun s10 h11 d12 => ?_) (fun r13 h14 => he8 _ h14)
  have h := he8 _ h11
  refine zV_iconst (v := 0) dX12_isPaired_40 rfl ?_
  exact zV_iretb dX12_isPaired_41 rfl (Or.inl rfl) h
noncomputable def fX12_goes_l2 (x1 x2 : Int) (M : zMem) : Option ((Int) ⊕ ((Int) ⊕ (Int))) :=
  (zgd ((0 : Int) ≤ (0 : Int) ∧ (0 : Int) < 6) (if (M 212 0) ≤ x2 then some (.inr (.inl x2)) else (zgd ((0 : Int) ≤ x2 ∧ x2 < 48) (zgd ((0 : Int) ≤ x2 ∧ x2 < 48) (if (max (M 220 x2) (M 222 x2)) = x1 then (zgd ((0 : Int) ≤ x2 ∧ x2 < 48) (zgd ((0 : Int) ≤ (M 220 x2) ∧ (M 220 x2) < 12) (zgd ((0 : Int) ≤ (10 : Int) ∧ (10 : Int) < 66) (zgd ((0 : Int) ≤ x2 ∧ x2 < 48) (zgd ((0 : Int) ≤ (M 222 x2) ∧ (M 222 x2) < 12) (zgd ((0 : Int) ≤ (10 : Int) ∧ (10 : Int) < 66) (zbd (fX12_beats x2 (zw ((M 256 (M 220 x2)) * (M 225 10))) (zw ((M 256 (M 222 x2)) * (M 225 10))) M) fun r10 => (zgd ((0 : Int) ≤ x2 ∧ x2 < 48) (if r10 ≤ (M 224 x2) then some (.inl (zw (x2 + 1))) else some (.inr (.inr 0))))))))))) else some (.inl (zw (x2 + 1))))))))
set_option maxRecDepth 100000 in
set_option maxHeartbeats 4000000 in
theorem fX12_goes_l2_ok {Z : zZ} (hZ : zB Z) {nn : Nat} (hn : 2 ≤ nn)  {x1 x2 : Int} (hx1 : z32 x1) (hx2 : z32 x2) {M : zMem} {Q : Option zAV → zMem → zZ → Prop} {P : (Int) ⊕ ((Int) ⊕ (Int)) → Prop} (h : zSat (fX12_goes_l2 x1 x2 M) P)  (hc : ∀ s : Int, P (.inl s) → z32 s → zV zmX12_goes nn 0 0 Z 2 [(0, zR 200), (1, zI x1), (2, zI s)] [] M Q) (he : ∀ s : Int, P (.inr (.inl s)) → z32 s → zV zmX12_goes nn 0 0 Z 94 [(0, zR 200), (1, zI x1), (2, zI s)] [] M Q) (hr : ∀ r : Int, P (.inr (.inr r)) → (fun r => Q (some (zI r)) M Z) r)  : zV zmX12_goes nn 0 0 Z 2 [(0, zR 200), (1, zI x1), (2, zI x2)] [] M Q := by
  unfold fX12_goes_l2 at h
  refine zV_iload_n 2 dX12_goes_2 rfl rfl ?_
  refine zV_aload_n 0 dX12_goes_3 rfl rfl ?_
  refine zV_getR (j := 212) (zq_200 hZ) zf_X12_11 zkf_X12_16 rfl dX12_goes_4 ?_
  refine zV_iconst (v := 0) dX12_goes_7 rfl ?_
  obtain ⟨hg, h⟩ := zs_gd h
  refine zV_iald (zq_212 hZ) hg dX12_goes_8 (fun m1 => ?_)
  refine zV_icmp_ge 94 dX12_goes_9 (by decide) hx2 m1 (fun hc_ => ?_) (fun hc_ => ?_)
  · replace h := zs_t h hc_
    exact he _ h hx2
  · replace h := zs_f h hc_
    refine zV_aload_n 0 dX12_goes_12 rfl rfl ?_
    refine zV_getR (j := 220) (zq_200 hZ) zf_X12_19 zkf_X12_41 rfl dX12_goes_13 ?_
    refine zV_iload_n 2 dX12_goes_16 rfl rfl ?_
    obtain ⟨hg, h⟩ := zs_gd h
    refine zV_iald (zq_220 hZ) hg dX12_goes_17 (fun m2 => ?_)
    refine zV_aload_n 0 dX12_goes_18 rfl rfl ?_
    refine zV_getR (j := 222) (zq_200 hZ) zf_X12_21 zkf_X12_47 rfl dX12_goes_19 ?_
    refine zV_iload_n 2 dX12_goes_22 rfl rfl ?_
    obtain ⟨hg, h⟩ := zs_gd h
    refine zV_iald (zq_222 hZ) hg dX12_goes_23 (fun m3 => ?_)
    refine zV_mmax zml_X12_372 dX12_goes_24 (Nat.le_trans (by decide) hn) (Nat.le_of_ble_eq_true rfl) m2 m3 ?_
    refine zV_iload_n 1 dX12_goes_27 rfl rfl ?_
    refine zV_icmp_eq 34 dX12_goes_28 (by decide) (z32_max m2 m3) hx1 (fun hc_ => ?_) (fun hc_ => ?_)
    · replace h := zs_t h hc_
      refine zV_aload_n 0 dX12_goes_34 rfl rfl ?_
      refine zV_iload_n 2 dX12_goes_35 rfl rfl ?_
      refine zV_aload_n 0 dX12_goes_36 rfl rfl ?_
      refine zV_getR (j := 256) (zq_200 hZ) zf_X12_55 zkf_X12_135 rfl dX12_goes_37 ?_
      refine zV_aload_n 0 dX12_goes_40 rfl rfl ?_
      refine zV_getR (j := 220) (zq_200 hZ) zf_X12_19 zkf_X12_41 rfl dX12_goes_41 ?_
      refine zV_iload_n 2 dX12_goes_44 rfl rfl ?_
      obtain ⟨hg, h⟩ := zs_gd h
      refine zV_iald (zq_220 hZ) hg dX12_goes_45 (fun m4 => ?_)
      obtain ⟨hg, h⟩ := zs_gd h
      refine zV_iald (zq_256 hZ) hg dX12_goes_46 (fun m5 => ?_)
      refine zV_aload_n 0 dX12_goes_47 rfl rfl ?_
      refine zV_getR (j := 225) (zq_200 hZ) zf_X12_24 zkf_X12_56 rfl dX12_goes_48 ?_
      refine zV_bipush (v := 10) dX12_goes_51 rfl ?_
      obtain ⟨hg, h⟩ := zs_gd h
      refine zV_iald (zq_225 hZ) hg dX12_goes_53 (fun m6 => ?_)
      refine zV_imul dX12_goes_54 ?_
      refine zV_aload_n 0 dX12_goes_55 rfl rfl ?_
      refine zV_getR (j := 256) (zq_200 hZ) zf_X12_55 zkf_X12_135 rfl dX12_goes_56 ?_
      refine zV_aload_n 0 dX12_goes_59 rfl rfl ?_
      refine zV_getR (j := 222) (zq_200 hZ) zf_X12_21 zkf_X12_47 rfl dX12_goes_60 ?_
      refine zV_iload_n 2 dX12_goes_63 rfl rfl ?_
      obtain ⟨hg, h⟩ := zs_gd h
      refine zV_iald (zq_222 hZ) hg dX12_goes_64 (fun m7 => ?_)
      obtain ⟨hg, h⟩ := zs_gd h
      refine zV_iald (zq_256 hZ) hg dX12_goes_65 (fun m8 => ?_)
      refine zV_aload_n 0 dX12_goes_66 rfl rfl ?_
      refine zV_getR (j := 225) (zq_200 hZ) zf_X12_24 zkf_X12_56 rfl dX12_goes_67 ?_
      refine zV_bipush (v := 10) dX12_goes_70 rfl ?_
      obtain ⟨hg, h⟩ := zs_gd h
      refine zV_iald (zq_225 hZ) hg dX12_goes_72 (fun m9 => ?_)
      refine zV_imul dX12_goes_73 ?_
      refine zV_w ?_
      refine zV_w2 ?_
      refine zV_cVI (y' := zmX12_beats) (n' := 1) (As := [zI x2, zI (zw ((M 256 (M 220 x2)) * (M 225 10))), zI (zw ((M 256 (M 222 x2)) * (M 225 10)))]) zc_X12_432 (zq_200 hZ) rfl dX12_goes_74 (Nat.le_trans (by decide) hn) rfl (Nat.le_of_ble_eq_true rfl) (Nat.le_of_ble_eq_true rfl) rfl h (fun Q' h' => fX12_beats_ok hZ (Nat.le_refl _) hx2 (z32_w _) (z32_w _) h') (fun r10 c11 b12 h => ?_)
      refine zV_aload_n 0 dX12_goes_77 rfl rfl ?_
      refine zV_getR (j := 224) (zq_200 hZ) zf_X12_23 zkf_X12_53 rfl dX12_goes_78 ?_
      refine zV_iload_n 2 dX12_goes_81 rfl rfl ?_
      obtain ⟨hg, h⟩ := zs_gd h
      refine zV_iald (zq_224 hZ) hg dX12_goes_82 (fun m14 => ?_)
      refine zV_icmp_le 88 dX12_goes_83 (by decide) c11 m14 (fun hc_ => ?_) (fun hc_ => ?_)
      · replace h := zs_t h hc_
        refine zV_iinc 2 [(2, zI (zw (x2 + 1))), (0, zR 200), (1, zI x1)] dX12_goes_88 rfl rfl (by decide) rfl ?_
        refine zV_goto 2 dX12_goes_91 (by decide) ?_
        refine zV_ls [1, 2, 0] rfl ?_
        exact hc _ h (z32_w _)
      · replace h := zs_f h hc_
        refine zV_iconst (v := 0) dX12_goes_86 rfl ?_
        exact zV_iretb dX12_goes_87 rfl (Or.inl rfl) (hr _ h)
    · replace h := zs_f h hc_
      refine zV_goto 88 dX12_goes_31 (by decide) ?_
      refine zV_iinc 2 [(2, zI (zw (x2 + 1))), (0, zR 200), (1, zI x1)] dX12_goes_88 rfl rfl (by decide) rfl ?_
      refine zV_goto 2 dX12_goes_91 (by decide) ?_
      refine zV_ls [1, 2, 0] rfl ?_
      exact hc _ h (z32_w _)
noncomputable def fX12_goes (x1 : Int) (M : zMem) : Option (Int) :=
  (zbd (zit (fun s15 => fX12_goes_l2 x1 s15 M) 0) fun e => zel e (fun s21 => some 1) (fun r => some r))
set_option maxRecDepth 100000 in
set_option maxHeartbeats 4000000 in
theorem fX12_goes_ok {Z : zZ} (hZ : zB Z) {nn : Nat} (hn : 2 ≤ nn)  {x1 : Int} (hx1 : z32 x1) {M : zMem} {Q : Option zAV → zMem → zZ → Prop} (h : zSat (fX12_goes x1 M) (fun r => Q (some (zI r)) M Z))  : zV zmX12_goes nn 0 0 Z 0 [(0, zR 200), (1, zI x1)] [] M Q := by
  unfold fX12_goes at h
  refine zV_iconst (v := 0) dX12_goes_0 rfl ?_
  refine zV_istore_n [(2, zI 0), (0, zR 200), (1, zI x1)] dX12_goes_1 rfl (by decide) rfl ?_
  refine zV_ls [1, 2, 0] rfl ?_
  refine (zV_loop (Vh := fun s15 : Int => z32 s15 → zV zmX12_goes nn 0 0 Z 2 [(0, zR 200), (1, zI x1), (2, zI s15)] [] M Q) h (fun s15 P16 hP17 hc18 he19 => ?_)) zi_0
  intro c20
  refine fX12_goes_l2_ok hZ hn hx1 c20 hP17 hc18 (fun s21 h22 d23 => ?_) (fun r24 h25 => he19 _ h25)
  have h := he19 _ h22
  refine zV_iconst (v := 1) dX12_goes_94 rfl ?_
  exact zV_iretb dX12_goes_95 rfl (Or.inr rfl) h
noncomputable def fX12_grinds_j136 (F_grinds : Int → Int → zMem → Option zMem) (x1 x2 x3 x4 s0 s1 s2 : Int) (M : zMem) : Option ((Int × zMem) ⊕ (Int × zMem)) :=
  (zgd ((0 : Int) ≤ x1 ∧ x1 < 72) (zbd (F_grinds s2 (zw (s1 + (s0 * (M 216 x1)))) M) fun M21 => some (.inl ((zw (x4 + 1)), M21))))
set_option maxRecDepth 100000 in
set_option maxHeartbeats 4000000 in
theorem fX12_grinds_j136_ok {Z : zZ} (hZ : zB Z) {nn : Nat} (hn : 3 ≤ nn) {n0 : Nat} (hn0 : n0 + 1 ≤ nn) {F_grinds : Int → Int → zMem → Option zMem}  {x1 x2 x3 x4 s0 s1 s2 : Int} (hx1 : z32 x1) (hx2 : z32 x2) (hx3 : z32 x3) (hx4 : z32 x4) (hs0 : z32 s0) (hs1 : z32 s1) (hs2 : z32 s2) {M : zMem} (hF_grinds : ∀ (y0 y1 : Int) (M : zMem) (Q : Option zAV → zMem → zZ → Prop), z32 y0 → z32 y1 → zSat (F_grinds y0 y1 M) (fun r => Q none r Z) → zV zmX12_grinds n0 0 0 Z 0 (zent 0 [zR 200, zI y0, zI y1]) [] M Q) {Q : Option zAV → zMem → zZ → Prop} {P : (Int × zMem) ⊕ (Int × zMem) → Prop} (h : zSat (fX12_grinds_j136 F_grinds x1 x2 x3 x4 s0 s1 s2 M) P)  (hc : ∀ s : Int × zMem, P (.inl s) → z32 (s.1) → zV zmX12_grinds nn 0 0 Z 69 [(0, zR 200), (1, zI x1), (2, zI x2), (3, zI x3), (4, zI (s.1))] [] (s.2) Q) (he : ∀ s : Int × zMem, P (.inr s) → z32 (s.1) → zV zmX12_grinds nn 0 0 Z 153 [(0, zR 200), (1, zI x1), (2, zI x2), (3, zI x3), (4, zI (s.1))] [] (s.2) Q)   : zV zmX12_grinds nn 0 0 Z 136 [(0, zR 200), (1, zI x1), (2, zI x2), (3, zI x3), (4, zI x4)] [zI s0, zI s1, zI s2, zR 200] M Q := by
  unfold fX12_grinds_j136 at h
  refine zV_aload_n 0 dX12_grinds_136 rfl rfl ?_
  refine zV_getR (j := 216) (zq_200 hZ) zf_X12_15 zkf_X12_29 rfl dX12_grinds_137 ?_
  refine zV_iload_n 1 dX12_grinds_140 rfl rfl ?_
  obtain ⟨hg, h⟩ := zs_gd h
  refine zV_iald (zq_216 hZ) hg dX12_grinds_141 (fun m17 => ?_)
  refine zV_imul dX12_grinds_142 ?_
  refine zV_iadd dX12_grinds_143 ?_
  refine zV_w ?_
  refine zV_cVV (y' := zmX12_grinds) (n' := n0) (As := [zI s2, zI (zw (s1 + (s0 * (M 216 x1))))]) zc_X12_444 (zq_200 hZ) rfl dX12_grinds_144 hn0 rfl (Nat.le_of_ble_eq_true rfl) (Nat.le_of_ble_eq_true rfl) rfl h (fun Q' h' => hF_grinds _ _ _ Q' hs2 (z32_w _) h') (fun M21 h => ?_)
  refine zV_iinc 4 [(4, zI (zw (x4 + 1))), (0, zR 200), (1, zI x1), (2, zI x2), (3, zI x3)] dX12_grinds_147 rfl rfl (by decide) rfl ?_
  refine zV_goto 69 dX12_grinds_150 (by decide) ?_
  refine zV_ls [1, 2, 3, 4, 0] rfl ?_
  exact hc _ h (z32_w _)
noncomputable def fX12_grinds_l69 (F_grinds : Int → Int → zMem → Option zMem) (x1 x2 x3 x4 : Int) (M : zMem) : Option ((Int × zMem) ⊕ (Int × zMem)) :=
  (if x3 < x4 then some (.inr (x4, M)) else (zgd ((0 : Int) ≤ x1 ∧ x1 < 12) (zgd ((0 : Int) ≤ x1 ∧ x1 < 72) (zgd ((0 : Int) ≤ (10 : Int) ∧ (10 : Int) < 66) (zbd (fX12_isFrom (zw (((zup M 256 x1 x4) 215 x1) + (x4 * ((zup M 256 x1 x4) 225 10)))) 1 9999 (zup M 256 x1 x4)) fun r9 => (if r9 = 0 then some (.inl ((zw (x4 + 1)), (zup M 256 x1 x4))) else (zbd (fX12_goes x1 (zup M 256 x1 x4)) fun r13 => (if r13 = 0 then some (.inl ((zw (x4 + 1)), (zup M 256 x1 x4))) else (if 0 ≤ x4 then fX12_grinds_j136 F_grinds x1 x2 x3 x4 x4 x2 (zw (x1 + 1)) (zup M 256 x1 x4) else fX12_grinds_j136 F_grinds x1 x2 x3 x4 (zw (-x4)) x2 (zw (x1 + 1)) (zup M 256 x1 x4))))))))))
set_option maxRecDepth 100000 in
set_option maxHeartbeats 4000000 in
theorem fX12_grinds_l69_ok {Z : zZ} (hZ : zB Z) {nn : Nat} (hn : 3 ≤ nn) {n0 : Nat} (hn0 : n0 + 1 ≤ nn) {F_grinds : Int → Int → zMem → Option zMem}  {x1 x2 x3 x4 : Int} (hx1 : z32 x1) (hx2 : z32 x2) (hx3 : z32 x3) (hx4 : z32 x4) {M : zMem} (hF_grinds : ∀ (y0 y1 : Int) (M : zMem) (Q : Option zAV → zMem → zZ → Prop), z32 y0 → z32 y1 → zSat (F_grinds y0 y1 M) (fun r => Q none r Z) → zV zmX12_grinds n0 0 0 Z 0 (zent 0 [zR 200, zI y0, zI y1]) [] M Q) {Q : Option zAV → zMem → zZ → Prop} {P : (Int × zMem) ⊕ (Int × zMem) → Prop} (h : zSat (fX12_grinds_l69 F_grinds x1 x2 x3 x4 M) P)  (hc : ∀ s : Int × zMem, P (.inl s) → z32 (s.1) → zV zmX12_grinds nn 0 0 Z 69 [(0, zR 200), (1, zI x1), (2, zI x2), (3, zI x3), (4, zI (s.1))] [] (s.2) Q) (he : ∀ s : Int × zMem, P (.inr s) → z32 (s.1) → zV zmX12_grinds nn 0 0 Z 153 [(0, zR 200), (1, zI x1), (2, zI x2), (3, zI x3), (4, zI (s.1))] [] (s.2) Q)   : zV zmX12_grinds nn 0 0 Z 69 [(0, zR 200), (1, zI x1), (2, zI x2), (3, zI x3), (4, zI x4)] [] M Q := by
  unfold fX12_grinds_l69 at h
  refine zV_iload 4 dX12_grinds_69 rfl ?_
  refine zV_iload_n 3 dX12_grinds_71 rfl rfl ?_
  refine zV_icmp_gt 153 dX12_grinds_72 (by decide) hx4 hx3 (fun hc_ => ?_) (fun hc_ => ?_)
  · replace h := zs_t h hc_
    exact he _ h hx4
  · replace h := zs_f h hc_
    refine zV_aload_n 0 dX12_grinds_75 rfl rfl ?_
    refine zV_getR (j := 256) (zq_200 hZ) zf_X12_55 zkf_X12_135 rfl dX12_grinds_76 ?_
    refine zV_iload_n 1 dX12_grinds_79 rfl rfl ?_
    refine zV_iload 4 dX12_grinds_80 rfl ?_
    obtain ⟨hg, h⟩ := zs_gd h
    refine zV_iast (zq_256 hZ) (by decide) hg hx4 dX12_grinds_82 ?_
    refine zV_aload_n 0 dX12_grinds_83 rfl rfl ?_
    refine zV_getR (j := 215) (zq_200 hZ) zf_X12_14 zkf_X12_26 rfl dX12_grinds_84 ?_
    refine zV_iload_n 1 dX12_grinds_87 rfl rfl ?_
    obtain ⟨hg, h⟩ := zs_gd h
    refine zV_iald (zq_215 hZ) hg dX12_grinds_88 (fun m7 => ?_)
    refine zV_iload 4 dX12_grinds_89 rfl ?_
    refine zV_aload_n 0 dX12_grinds_91 rfl rfl ?_
    refine zV_getR (j := 225) (zq_200 hZ) zf_X12_24 zkf_X12_56 rfl dX12_grinds_92 ?_
    refine zV_bipush (v := 10) dX12_grinds_95 rfl ?_
    obtain ⟨hg, h⟩ := zs_gd h
    refine zV_iald (zq_225 hZ) hg dX12_grinds_97 (fun m8 => ?_)
    refine zV_imul dX12_grinds_98 ?_
    refine zV_iadd dX12_grinds_99 ?_
    refine zV_iconst (v := 1) dX12_grinds_100 rfl ?_
    refine zV_sipush (v := 9999) dX12_grinds_101 rfl ?_
    refine zV_wn 2 (st' := [zI 9999, zI 1, zI (zw (((zup M 256 x1 x4) 215 x1) + (x4 * ((zup M 256 x1 x4) 225 10))))]) rfl rfl ?_
    refine zV_cSI (y' := zmX12_isFrom) (n' := 0) (As := [zI (zw (((zup M 256 x1 x4) 215 x1) + (x4 * ((zup M 256 x1 x4) 225 10)))), zI 1, zI 9999]) zc_X12_287 dX12_grinds_104 (Nat.le_trans (by decide) hn) rfl (Nat.le_of_ble_eq_true rfl) (Nat.le_of_ble_eq_true rfl) rfl h (fun Q' h' => fX12_isFrom_ok hZ (Nat.le_refl _) (z32_w _) zi_1 zi_9999 h') (fun r9 c10 b11 h => ?_)
    refine zV_if_eq 147 dX12_grinds_107 (by decide) c10 (fun hc_ => ?_) (fun hc_ => ?_)
    · replace h := zs_t h hc_
      refine zV_iinc 4 [(4, zI (zw (x4 + 1))), (0, zR 200), (1, zI x1), (2, zI x2), (3, zI x3)] dX12_grinds_147 rfl rfl (by decide) rfl ?_
      refine zV_goto 69 dX12_grinds_150 (by decide) ?_
      refine zV_ls [1, 2, 3, 4, 0] rfl ?_
      exact hc _ h (z32_w _)
    · replace h := zs_f h hc_
      refine zV_aload_n 0 dX12_grinds_110 rfl rfl ?_
      refine zV_iload_n 1 dX12_grinds_111 rfl rfl ?_
      refine zV_cVI (y' := zmX12_goes) (n' := 2) (As := [zI x1]) zc_X12_441 (zq_200 hZ) rfl dX12_grinds_112 (Nat.le_trans (by decide) hn) rfl (Nat.le_of_ble_eq_true rfl) (Nat.le_of_ble_eq_true rfl) rfl h (fun Q' h' => fX12_goes_ok hZ (Nat.le_refl _) hx1 h') (fun r13 c14 b15 h => ?_)
      refine zV_if_eq 147 dX12_grinds_115 (by decide) c14 (fun hc_ => ?_) (fun hc_ => ?_)
      · replace h := zs_t h hc_
        refine zV_iinc 4 [(4, zI (zw (x4 + 1))), (0, zR 200), (1, zI x1), (2, zI x2), (3, zI x3)] dX12_grinds_147 rfl rfl (by decide) rfl ?_
        refine zV_goto 69 dX12_grinds_150 (by decide) ?_
        refine zV_ls [1, 2, 3, 4, 0] rfl ?_
        exact hc _ h (z32_w _)
      · replace h := zs_f h hc_
        refine zV_aload_n 0 dX12_grinds_118 rfl rfl ?_
        refine zV_iload_n 1 dX12_grinds_119 rfl rfl ?_
        refine zV_iconst (v := 1) dX12_grinds_120 rfl ?_
        refine zV_iadd dX12_grinds_121 ?_
        refine zV_iload_n 2 dX12_grinds_122 rfl rfl ?_
        refine zV_iload 4 dX12_grinds_123 rfl ?_
        refine zV_if_ge 134 dX12_grinds_125 (by decide) hx4 (fun hc_ => ?_) (fun hc_ => ?_)
        · replace h := zs_t h hc_
          refine zV_iload 4 dX12_grinds_134 rfl ?_
          refine zV_wn 2 (st' := [zI x4, zI x2, zI (zw (x1 + 1)), zR 200]) rfl rfl ?_
          exact fX12_grinds_j136_ok hZ hn hn0 hx1 hx2 hx3 hx4 hx4 hx2 (z32_w _) hF_grinds h hc he
        · replace h := zs_f h hc_
          refine zV_iload 4 dX12_grinds_128 rfl ?_
          refine zV_ineg dX12_grinds_130 ?_
          refine zV_goto 136 dX12_grinds_131 (by decide) ?_
          refine zV_w ?_
          refine zV_wn 2 (st' := [zI (zw (-x4)), zI x2, zI (zw (x1 + 1)), zR 200]) rfl rfl ?_
          exact fX12_grinds_j136_ok hZ hn hn0 hx1 hx2 hx3 hx4 (z32_w _) hx2 (z32_w _) hF_grinds h hc he
noncomputable def fX12_grinds_j64 (F_grinds : Int → Int → zMem → Option zMem) (x1 x2 s0 : Int) (M : zMem) : Option (zMem) :=
  (zbd (zit (fun s22 => fX12_grinds_l69 F_grinds x1 x2 s0 (s22.1) (s22.2)) ((zw (-s0)), M)) fun s28 => some (s28.2))
set_option maxRecDepth 100000 in
set_option maxHeartbeats 4000000 in
theorem fX12_grinds_j64_ok {Z : zZ} (hZ : zB Z) {nn : Nat} (hn : 3 ≤ nn) {n0 : Nat} (hn0 : n0 + 1 ≤ nn) {F_grinds : Int → Int → zMem → Option zMem}  {x1 x2 s0 : Int} (hx1 : z32 x1) (hx2 : z32 x2) (hs0 : z32 s0) {M : zMem} (hF_grinds : ∀ (y0 y1 : Int) (M : zMem) (Q : Option zAV → zMem → zZ → Prop), z32 y0 → z32 y1 → zSat (F_grinds y0 y1 M) (fun r => Q none r Z) → zV zmX12_grinds n0 0 0 Z 0 (zent 0 [zR 200, zI y0, zI y1]) [] M Q) {Q : Option zAV → zMem → zZ → Prop} (h : zSat (fX12_grinds_j64 F_grinds x1 x2 s0 M) (fun r => Q none r Z))  : zV zmX12_grinds nn 0 0 Z 64 [(0, zR 200), (1, zI x1), (2, zI x2)] [zI s0] M Q := by
  unfold fX12_grinds_j64 at h
  refine zV_istore_n [(3, zI s0), (0, zR 200), (1, zI x1), (2, zI x2)] dX12_grinds_64 rfl (by decide) rfl ?_
  refine zV_iload_n 0 dX12_grinds_65 rfl rfl ?_
  refine zV_ineg dX12_grinds_66 ?_
  refine zV_w ?_
  refine zV_istore [(4, zI (zw (-s0))), (3, zI s0), (0, zR 200), (1, zI x1), (2, zI x2)] dX12_grinds_67 (by decide) rfl ?_
  refine zV_ls [2, 3, 4, 1, 0] rfl ?_
  refine (zV_loop (Vh := fun s22 : Int × zMem => z32 (s22.1) → zV zmX12_grinds nn 0 0 Z 69 [(0, zR 200), (1, zI x1), (2, zI x2), (3, zI s0), (4, zI (s22.1))] [] (s22.2) Q) h (fun s22 P23 hP24 hc25 he26 => ?_)) (z32_w _)
  intro c27
  refine fX12_grinds_l69_ok hZ hn hn0 hx1 hx2 hs0 c27 hF_grinds hP24 hc25 (fun s28 h29 d30 => ?_)
  have h := he26 _ h29
  exact zV_vret dX12_grinds_153 rfl h
noncomputable def fX12_grinds_l26 (F_grinds : Int → Int → zMem → Option zMem) (x3 : Int) (M : zMem) : Option ((Int × zMem) ⊕ (Int × zMem)) :=
  (if 12 ≤ x3 then some (.inr (x3, M)) else (zgd ((0 : Int) ≤ x3 ∧ x3 < 12) (zgd ((0 : Int) ≤ x3 ∧ x3 < 12) (some (.inl ((zw (x3 + 1)), (zup M 257 x3 (M 256 x3))))))))
set_option maxRecDepth 100000 in
set_option maxHeartbeats 4000000 in
theorem fX12_grinds_l26_ok {Z : zZ} (hZ : zB Z) {nn : Nat} (hn : 3 ≤ nn) {n0 : Nat} (hn0 : n0 + 1 ≤ nn) {F_grinds : Int → Int → zMem → Option zMem}  {x3 : Int} (hx3 : z32 x3) {M : zMem} (hF_grinds : ∀ (y0 y1 : Int) (M : zMem) (Q : Option zAV → zMem → zZ → Prop), z32 y0 → z32 y1 → zSat (F_grinds y0 y1 M) (fun r => Q none r Z) → zV zmX12_grinds n0 0 0 Z 0 (zent 0 [zR 200, zI y0, zI y1]) [] M Q) {Q : Option zAV → zMem → zZ → Prop} {P : (Int × zMem) ⊕ (Int × zMem) → Prop} (h : zSat (fX12_grinds_l26 F_grinds x3 M) P)  (hc : ∀ s : Int × zMem, P (.inl s) → z32 (s.1) → zV zmX12_grinds nn 0 0 Z 26 [(0, zR 200), (3, zI (s.1))] [] (s.2) Q) (he : ∀ s : Int × zMem, P (.inr s) → z32 (s.1) → zV zmX12_grinds nn 0 0 Z 50 [(0, zR 200), (3, zI (s.1))] [] (s.2) Q)   : zV zmX12_grinds nn 0 0 Z 26 [(0, zR 200), (3, zI x3)] [] M Q := by
  unfold fX12_grinds_l26 at h
  refine zV_iload_n 1 dX12_grinds_26 rfl rfl ?_
  refine zV_bipush (v := 12) dX12_grinds_27 rfl ?_
  refine zV_icmp_ge 50 dX12_grinds_29 (by decide) hx3 zi_12 (fun hc_ => ?_) (fun hc_ => ?_)
  · replace h := zs_t h hc_
    exact he _ h hx3
  · replace h := zs_f h hc_
    refine zV_aload_n 0 dX12_grinds_32 rfl rfl ?_
    refine zV_getR (j := 257) (zq_200 hZ) zf_X12_56 zkf_X12_138 rfl dX12_grinds_33 ?_
    refine zV_iload_n 1 dX12_grinds_36 rfl rfl ?_
    refine zV_aload_n 0 dX12_grinds_37 rfl rfl ?_
    refine zV_getR (j := 256) (zq_200 hZ) zf_X12_55 zkf_X12_135 rfl dX12_grinds_38 ?_
    refine zV_iload_n 1 dX12_grinds_41 rfl rfl ?_
    obtain ⟨hg, h⟩ := zs_gd h
    refine zV_iald (zq_256 hZ) hg dX12_grinds_42 (fun m31 => ?_)
    obtain ⟨hg, h⟩ := zs_gd h
    refine zV_iast (zq_257 hZ) (by decide) hg m31 dX12_grinds_43 ?_
    refine zV_iinc 1 [(3, zI (zw (x3 + 1))), (0, zR 200)] dX12_grinds_44 rfl rfl (by decide) rfl ?_
    refine zV_goto 26 dX12_grinds_47 (by decide) ?_
    refine zV_ls [1, 0] rfl ?_
    exact hc _ h (z32_w _)
noncomputable def fX12_grinds_s (F_grinds : Int → Int → zMem → Option zMem) (x1 x2 : Int) (M : zMem) : Option (zMem) :=
  (if x2 < (M 200 57) then (zgd ((0 : Int) ≤ (0 : Int) ∧ (0 : Int) < 6) (if x1 = (M 211 0) then (zbd (zit (fun s32 => fX12_grinds_l26 F_grinds (s32.1) (s32.2)) (0, (zup M 200 57 x2))) fun s38 => some (s38.2)) else (zbd (fX12_isPaired x1 M) fun r3 => (if r3 = 0 then fX12_grinds_j64 F_grinds x1 x2 0 M else fX12_grinds_j64 F_grinds x1 x2 3 M)))) else some M)
set_option maxRecDepth 100000 in
set_option maxHeartbeats 4000000 in
theorem fX12_grinds_s_ok {Z : zZ} (hZ : zB Z) {nn : Nat} (hn : 3 ≤ nn) {n0 : Nat} (hn0 : n0 + 1 ≤ nn) {F_grinds : Int → Int → zMem → Option zMem}  {x1 x2 : Int} (hx1 : z32 x1) (hx2 : z32 x2) {M : zMem} (hF_grinds : ∀ (y0 y1 : Int) (M : zMem) (Q : Option zAV → zMem → zZ → Prop), z32 y0 → z32 y1 → zSat (F_grinds y0 y1 M) (fun r => Q none r Z) → zV zmX12_grinds n0 0 0 Z 0 (zent 0 [zR 200, zI y0, zI y1]) [] M Q) {Q : Option zAV → zMem → zZ → Prop} (h : zSat (fX12_grinds_s F_grinds x1 x2 M) (fun r => Q none r Z))  : zV zmX12_grinds nn 0 0 Z 0 [(0, zR 200), (1, zI x1), (2, zI x2)] [] M Q := by
  unfold fX12_grinds_s at h
  refine zV_iload_n 2 dX12_grinds_0 rfl rfl ?_
  refine zV_aload_n 0 dX12_grinds_1 rfl rfl ?_
  refine zV_getI (zq_200 hZ) zf_X12_57 zkf_X12_435 rfl dX12_grinds_2 (fun m1 => ?_)
  refine zV_icmp_lt 9 dX12_grinds_5 (by decide) hx2 m1 (fun hc_ => ?_) (fun hc_ => ?_)
  · replace h := zs_t h hc_
    refine zV_iload_n 1 dX12_grinds_9 rfl rfl ?_
    refine zV_aload_n 0 dX12_grinds_10 rfl rfl ?_
    refine zV_getR (j := 211) (zq_200 hZ) zf_X12_10 zkf_X12_13 rfl dX12_grinds_11 ?_
    refine zV_iconst (v := 0) dX12_grinds_14 rfl ?_
    obtain ⟨hg, h⟩ := zs_gd h
    refine zV_iald (zq_211 hZ) hg dX12_grinds_15 (fun m2 => ?_)
    refine zV_icmp_ne 51 dX12_grinds_16 (by decide) hx1 m2 (fun hc_ => ?_) (fun hc_ => ?_)
    · replace h := zs_f h hc_
      refine zV_aload_n 0 dX12_grinds_51 rfl rfl ?_
      refine zV_iload_n 1 dX12_grinds_52 rfl rfl ?_
      refine zV_cVI (y' := zmX12_isPaired) (n' := 0) (As := [zI x1]) zc_X12_438 (zq_200 hZ) rfl dX12_grinds_53 (Nat.le_trans (by decide) hn) rfl (Nat.le_of_ble_eq_true rfl) (Nat.le_of_ble_eq_true rfl) rfl h (fun Q' h' => fX12_isPaired_ok hZ (Nat.le_refl _) hx1 h') (fun r3 c4 b5 h => ?_)
      refine zV_if_eq 63 dX12_grinds_56 (by decide) c4 (fun hc_ => ?_) (fun hc_ => ?_)
      · replace h := zs_t h hc_
        refine zV_iconst (v := 0) dX12_grinds_63 rfl ?_
        exact fX12_grinds_j64_ok hZ hn hn0 hx1 hx2 zi_0 hF_grinds h
      · replace h := zs_f h hc_
        refine zV_iconst (v := 3) dX12_grinds_59 rfl ?_
        refine zV_goto 64 dX12_grinds_60 (by decide) ?_
        exact fX12_grinds_j64_ok hZ hn hn0 hx1 hx2 zi_3 hF_grinds h
    · replace h := zs_t h hc_
      refine zV_aload_n 0 dX12_grinds_19 rfl rfl ?_
      refine zV_iload_n 2 dX12_grinds_20 rfl rfl ?_
      refine zV_putI (zq_200 hZ) (by decide) zf_X12_57 zkf_X12_435 rfl dX12_grinds_21 hx2 ?_
      refine zV_iconst (v := 0) dX12_grinds_24 rfl ?_
      refine zV_istore_n [(3, zI 0), (0, zR 200), (1, zI x1), (2, zI x2)] dX12_grinds_25 rfl (by decide) rfl ?_
      refine zV_ls [1, 0] rfl ?_
      refine (zV_loop (Vh := fun s32 : Int × zMem => z32 (s32.1) → zV zmX12_grinds nn 0 0 Z 26 [(0, zR 200), (3, zI (s32.1))] [] (s32.2) Q) h (fun s32 P33 hP34 hc35 he36 => ?_)) zi_0
      intro c37
      refine fX12_grinds_l26_ok hZ hn hn0 c37 hF_grinds hP34 hc35 (fun s38 h39 d40 => ?_)
      have h := he36 _ h39
      exact zV_vret dX12_grinds_50 rfl h
  · replace h := zs_f h hc_
    exact zV_vret dX12_grinds_8 rfl h
noncomputable def fX12_grinds : Nat → Int → Int → zMem → Option (zMem)
  | 0, _, _, _ => none
  | d + 1, x1, x2, M => fX12_grinds_s (fX12_grinds d) x1 x2 M
theorem fX12_grinds_ok {Z : zZ} (hZ : zB Z) : ∀ (d : Nat) {nn : Nat} (hn : 3 + d ≤ nn) {x1 x2 : Int} (hx1 : z32 x1) (hx2 : z32 x2) {M : zMem} {Q : Option zAV → zMem → zZ → Prop} (h : zSat (fX12_grinds d x1 x2 M) (fun r => Q none r Z)), zV zmX12_grinds nn 0 0 Z 0 [(0, zR 200), (1, zI x1), (2, zI x2)] [] M Q
  | 0, _, _, _, _,  _, _,  _, _, h => h.elim
  | d + 1, nn, hn, x1, x2,  hx1, hx2,  M, Q, h => fX12_grinds_s_ok (n0 := nn - 1) hZ (by omega) (by omega) hx1 hx2 (fun _ _ M' Q' gx1 gx2 hh => fX12_grinds_ok hZ d (by omega) gx1 gx2 hh) h
noncomputable def fX12_isGround_j28 (x1 x2 s0 s1 : Int) (M : zMem) : Option ((Int × Int) ⊕ (Int × Int)) :=
  some (.inl ((zw (s1 + s0)), (zw (x2 + 1))))
set_option maxRecDepth 100000 in
set_option maxHeartbeats 4000000 in
theorem fX12_isGround_j28_ok {Z : zZ} (hZ : zB Z) {nn : Nat} (hn : 24 ≤ nn)  {x1 x2 s0 s1 : Int} (hx1 : z32 x1) (hx2 : z32 x2) (hs0 : z32 s0) (hbs0 : s0 = 0 ∨ s0 = 1) (hs1 : z32 s1) {M : zMem} {Q : Option zAV → zMem → zZ → Prop} {P : (Int × Int) ⊕ (Int × Int) → Prop} (h : zSat (fX12_isGround_j28 x1 x2 s0 s1 M) P)  (hc : ∀ s : Int × Int, P (.inl s) → z32 (s.1) → z32 (s.2) → zV zmX12_isGround nn 0 0 Z 4 [(0, zR 200), (1, zI (s.1)), (2, zI (s.2))] [] M Q) (he : ∀ s : Int × Int, P (.inr s) → z32 (s.1) → z32 (s.2) → zV zmX12_isGround nn 0 0 Z 36 [(0, zR 200), (1, zI (s.1)), (2, zI (s.2))] [] M Q)   : zV zmX12_isGround nn 0 0 Z 28 [(0, zR 200), (1, zI x1), (2, zI x2)] [zI s0, zI s1] M Q := by
  unfold fX12_isGround_j28 at h
  refine zV_iadd dX12_isGround_28 ?_
  refine zV_w ?_
  refine zV_istore_n [(1, zI (zw (s1 + s0))), (0, zR 200), (2, zI x2)] dX12_isGround_29 rfl (by decide) rfl ?_
  refine zV_iinc 2 [(2, zI (zw (x2 + 1))), (1, zI (zw (s1 + s0))), (0, zR 200)] dX12_isGround_30 rfl rfl (by decide) rfl ?_
  refine zV_goto 4 dX12_isGround_33 (by decide) ?_
  refine zV_ls [2, 1, 0] rfl ?_
  exact hc _ h (z32_w _) (z32_w _)
noncomputable def fX12_isGround_l4 (x1 x2 : Int) (M : zMem) : Option ((Int × Int) ⊕ (Int × Int)) :=
  (zgd ((0 : Int) ≤ (0 : Int) ∧ (0 : Int) < 6) (if (M 211 0) ≤ x2 then some (.inr (x1, x2)) else (zbd (fX12_isPaired x2 M) fun r2 => (if r2 = 0 then fX12_isGround_j28 x1 x2 0 x1 M else fX12_isGround_j28 x1 x2 1 x1 M))))
set_option maxRecDepth 100000 in
set_option maxHeartbeats 4000000 in
theorem fX12_isGround_l4_ok {Z : zZ} (hZ : zB Z) {nn : Nat} (hn : 24 ≤ nn)  {x1 x2 : Int} (hx1 : z32 x1) (hx2 : z32 x2) {M : zMem} {Q : Option zAV → zMem → zZ → Prop} {P : (Int × Int) ⊕ (Int × Int) → Prop} (h : zSat (fX12_isGround_l4 x1 x2 M) P)  (hc : ∀ s : Int × Int, P (.inl s) → z32 (s.1) → z32 (s.2) → zV zmX12_isGround nn 0 0 Z 4 [(0, zR 200), (1, zI (s.1)), (2, zI (s.2))] [] M Q) (he : ∀ s : Int × Int, P (.inr s) → z32 (s.1) → z32 (s.2) → zV zmX12_isGround nn 0 0 Z 36 [(0, zR 200), (1, zI (s.1)), (2, zI (s.2))] [] M Q)   : zV zmX12_isGround nn 0 0 Z 4 [(0, zR 200), (1, zI x1), (2, zI x2)] [] M Q := by
  unfold fX12_isGround_l4 at h
  refine zV_iload_n 2 dX12_isGround_4 rfl rfl ?_
  refine zV_aload_n 0 dX12_isGround_5 rfl rfl ?_
  refine zV_getR (j := 211) (zq_200 hZ) zf_X12_10 zkf_X12_13 rfl dX12_isGround_6 ?_
  refine zV_iconst (v := 0) dX12_isGround_9 rfl ?_
  obtain ⟨hg, h⟩ := zs_gd h
  refine zV_iald (zq_211 hZ) hg dX12_isGround_10 (fun m1 => ?_)
  refine zV_icmp_ge 36 dX12_isGround_11 (by decide) hx2 m1 (fun hc_ => ?_) (fun hc_ => ?_)
  · replace h := zs_t h hc_
    exact he _ h hx1 hx2
  · replace h := zs_f h hc_
    refine zV_iload_n 1 dX12_isGround_14 rfl rfl ?_
    refine zV_aload_n 0 dX12_isGround_15 rfl rfl ?_
    refine zV_iload_n 2 dX12_isGround_16 rfl rfl ?_
    refine zV_cVI (y' := zmX12_isPaired) (n' := 0) (As := [zI x2]) zc_X12_438 (zq_200 hZ) rfl dX12_isGround_17 (Nat.le_trans (by decide) hn) rfl (Nat.le_of_ble_eq_true rfl) (Nat.le_of_ble_eq_true rfl) rfl h (fun Q' h' => fX12_isPaired_ok hZ (Nat.le_refl _) hx2 h') (fun r2 c3 b4 h => ?_)
    refine zV_if_eq 27 dX12_isGround_20 (by decide) c3 (fun hc_ => ?_) (fun hc_ => ?_)
    · replace h := zs_t h hc_
      refine zV_iconst (v := 0) dX12_isGround_27 rfl ?_
      exact fX12_isGround_j28_ok hZ hn hx1 hx2 zi_0 (Or.inl rfl) hx1 h hc he
    · replace h := zs_f h hc_
      refine zV_iconst (v := 1) dX12_isGround_23 rfl ?_
      refine zV_goto 28 dX12_isGround_24 (by decide) ?_
      exact fX12_isGround_j28_ok hZ hn hx1 hx2 zi_1 (Or.inr rfl) hx1 h hc he
noncomputable def fX12_isGround (M : zMem) : Option (Int × zMem) :=
  (zbd (zit (fun s6 => fX12_isGround_l4 (s6.1) (s6.2) M) (0, 0)) fun s13 => (if s13.1 ≤ 8 then (zbd (fX12_grinds 20 0 0 (zup M 200 57 100000000)) fun M20 => (if 100000000 ≤ (M20 200 57) then some (0, M20) else some (1, M20))) else some (0, M)))
set_option maxRecDepth 100000 in
set_option maxHeartbeats 4000000 in
theorem fX12_isGround_ok {Z : zZ} (hZ : zB Z) {nn : Nat} (hn : 24 ≤ nn)   {M : zMem} {Q : Option zAV → zMem → zZ → Prop} (h : zSat (fX12_isGround M) (fun r => Q (some (zI r.1)) r.2 Z))  : zV zmX12_isGround nn 0 0 Z 0 [(0, zR 200)] [] M Q := by
  unfold fX12_isGround at h
  refine zV_iconst (v := 0) dX12_isGround_0 rfl ?_
  refine zV_istore_n [(1, zI 0), (0, zR 200)] dX12_isGround_1 rfl (by decide) rfl ?_
  refine zV_iconst (v := 0) dX12_isGround_2 rfl ?_
  refine zV_istore_n [(2, zI 0), (1, zI 0), (0, zR 200)] dX12_isGround_3 rfl (by decide) rfl ?_
  refine zV_ls [2, 1, 0] rfl ?_
  refine (zV_loop (Vh := fun s6 : Int × Int => z32 (s6.1) → z32 (s6.2) → zV zmX12_isGround nn 0 0 Z 4 [(0, zR 200), (1, zI (s6.1)), (2, zI (s6.2))] [] M Q) h (fun s6 P7 hP8 hc9 he10 => ?_)) zi_0 zi_0
  intro c11 c12
  refine fX12_isGround_l4_ok hZ hn c11 c12 hP8 hc9 (fun s13 h14 d15 d16 => ?_)
  have h := he10 _ h14
  refine zV_iload_n 1 dX12_isGround_36 rfl rfl ?_
  refine zV_bipush (v := 8) dX12_isGround_37 rfl ?_
  refine zV_icmp_le 44 dX12_isGround_39 (by decide) d15 zi_8 (fun hc_ => ?_) (fun hc_ => ?_)
  · replace h := zs_t h hc_
    refine zV_aload_n 0 dX12_isGround_44 rfl rfl ?_
    refine zV_ldcw (v := 100000000) zko_X12_371 rfl dX12_isGround_45 ?_
    refine zV_putI (zq_200 hZ) (by decide) zf_X12_57 zkf_X12_435 rfl dX12_isGround_48 zi_100000000 ?_
    refine zV_aload_n 0 dX12_isGround_51 rfl rfl ?_
    refine zV_iconst (v := 0) dX12_isGround_52 rfl ?_
    refine zV_iconst (v := 0) dX12_isGround_53 rfl ?_
    refine zV_cVV (y' := zmX12_grinds) (n' := 23) (As := [zI 0, zI 0]) zc_X12_444 (zq_200 hZ) rfl dX12_isGround_54 (Nat.le_trans (by decide) hn) rfl (Nat.le_of_ble_eq_true rfl) (Nat.le_of_ble_eq_true rfl) rfl h (fun Q' h' => fX12_grinds_ok hZ 20 (Nat.le_refl _) zi_0 zi_0 h') (fun M20 h => ?_)
    refine zV_aload_n 0 dX12_isGround_57 rfl rfl ?_
    refine zV_getI (zq_200 hZ) zf_X12_57 zkf_X12_435 rfl dX12_isGround_58 (fun m21 => ?_)
    refine zV_ldcw (v := 100000000) zko_X12_371 rfl dX12_isGround_61 ?_
    refine zV_icmp_ge 71 dX12_isGround_64 (by decide) m21 zi_100000000 (fun hc_ => ?_) (fun hc_ => ?_)
    · replace h := zs_t h hc_
      refine zV_iconst (v := 0) dX12_isGround_71 rfl ?_
      exact zV_iretb dX12_isGround_72 rfl (Or.inl rfl) h
    · replace h := zs_f h hc_
      refine zV_iconst (v := 1) dX12_isGround_67 rfl ?_
      refine zV_goto 72 dX12_isGround_68 (by decide) ?_
      exact zV_iretb dX12_isGround_72 rfl (Or.inr rfl) h
  · replace h := zs_f h hc_
    refine zV_iconst (v := 0) dX12_isGround_42 rfl ?_
    exact zV_iretb dX12_isGround_43 rfl (Or.inl rfl) h
noncomputable def fX12_ground (M : zMem) : Option (Int × zMem) :=
  (zbd2 (fX12_isGround (zup M 200 0 0)) fun r1 M4 => (if r1 = 0 then some ((-1), M4) else some ((M4 200 57), M4)))
set_option maxRecDepth 100000 in
set_option maxHeartbeats 4000000 in
theorem fX12_ground_ok {Z : zZ} (hZ : zB Z) {nn : Nat} (hn : 25 ≤ nn)   {M : zMem} {Q : Option zAV → zMem → zZ → Prop} (h : zSat (fX12_ground M) (fun r => Q (some (zI r.1)) r.2 Z))  : zV zmX12_ground nn 0 0 Z 0 [(0, zR 200)] [] M Q := by
  unfold fX12_ground at h
  refine zV_aload_n 0 dX12_ground_0 rfl rfl ?_
  refine zV_iconst (v := 0) dX12_ground_1 rfl ?_
  refine zV_putI (zq_200 hZ) (by decide) zf_X12_0 zkf_X12_157 rfl dX12_ground_2 zi_0 ?_
  refine zV_aload_n 0 dX12_ground_5 rfl rfl ?_
  refine zV_cVIm (y' := zmX12_isGround) (n' := 24) (As := []) zc_X12_446 (zq_200 hZ) rfl dX12_ground_6 (Nat.le_trans (by decide) hn) rfl (Nat.le_of_ble_eq_true rfl) (Nat.le_of_ble_eq_true rfl) rfl h (fun Q' h' => fX12_isGround_ok hZ (Nat.le_refl _)  h') (fun r1 M4 c2 b3 h => ?_)
  refine zV_if_eq 19 dX12_ground_9 (by decide) c2 (fun hc_ => ?_) (fun hc_ => ?_)
  · replace h := zs_t h hc_
    refine zV_iconst (v := (-1)) dX12_ground_19 rfl ?_
    exact zV_ireti dX12_ground_20 rfl zi_n1 h
  · replace h := zs_f h hc_
    refine zV_aload_n 0 dX12_ground_12 rfl rfl ?_
    refine zV_getI (zq_200 hZ) zf_X12_57 zkf_X12_435 rfl dX12_ground_13 (fun m5 => ?_)
    refine zV_goto 20 dX12_ground_16 (by decide) ?_
    exact zV_ireti dX12_ground_20 rfl m5 h
noncomputable def fX12_groundOf_j21 (x1 s0 : Int) (M : zMem) : Option (Int × zMem) :=
  (if ((zup M 200 0 s0) 200 0) = 1 then some (0, (zup M 200 0 s0)) else (zgd ((0 : Int) ≤ x1 ∧ x1 < 12) (some (((zup M 200 0 s0) 257 x1), (zup M 200 0 s0)))))
set_option maxRecDepth 100000 in
set_option maxHeartbeats 4000000 in
theorem fX12_groundOf_j21_ok {Z : zZ} (hZ : zB Z) {nn : Nat} (hn : 25 ≤ nn)  {x1 s0 : Int} (hx1 : z32 x1) (hs0 : z32 s0) (hbs0 : s0 = 0 ∨ s0 = 1) {M : zMem} {Q : Option zAV → zMem → zZ → Prop} (h : zSat (fX12_groundOf_j21 x1 s0 M) (fun r => Q (some (zI r.1)) r.2 Z))  : zV zmX12_groundOf nn 0 0 Z 21 [(0, zR 200), (1, zI x1)] [zI s0, zR 200] M Q := by
  unfold fX12_groundOf_j21 at h
  refine zV_putI (zq_200 hZ) (by decide) zf_X12_0 zkf_X12_157 rfl dX12_groundOf_21 hs0 ?_
  refine zV_aload_n 0 dX12_groundOf_24 rfl rfl ?_
  refine zV_getI (zq_200 hZ) zf_X12_0 zkf_X12_157 rfl dX12_groundOf_25 (fun m5 => ?_)
  refine zV_iconst (v := 1) dX12_groundOf_28 rfl ?_
  refine zV_icmp_ne 36 dX12_groundOf_29 (by decide) m5 zi_1 (fun hc_ => ?_) (fun hc_ => ?_)
  · replace h := zs_f h hc_
    refine zV_aload_n 0 dX12_groundOf_36 rfl rfl ?_
    refine zV_getR (j := 257) (zq_200 hZ) zf_X12_56 zkf_X12_138 rfl dX12_groundOf_37 ?_
    refine zV_iload_n 1 dX12_groundOf_40 rfl rfl ?_
    obtain ⟨hg, h⟩ := zs_gd h
    refine zV_iald (zq_257 hZ) hg dX12_groundOf_41 (fun m6 => ?_)
    exact zV_ireti dX12_groundOf_42 rfl m6 h
  · replace h := zs_t h hc_
    refine zV_iconst (v := 0) dX12_groundOf_32 rfl ?_
    refine zV_goto 42 dX12_groundOf_33 (by decide) ?_
    exact zV_ireti dX12_groundOf_42 rfl zi_0 h
noncomputable def fX12_groundOf_j20 (x1 : Int) (M : zMem) : Option (Int × zMem) :=
  fX12_groundOf_j21 x1 1 M
set_option maxRecDepth 100000 in
set_option maxHeartbeats 4000000 in
theorem fX12_groundOf_j20_ok {Z : zZ} (hZ : zB Z) {nn : Nat} (hn : 25 ≤ nn)  {x1 : Int} (hx1 : z32 x1) {M : zMem} {Q : Option zAV → zMem → zZ → Prop} (h : zSat (fX12_groundOf_j20 x1 M) (fun r => Q (some (zI r.1)) r.2 Z))  : zV zmX12_groundOf nn 0 0 Z 20 [(0, zR 200), (1, zI x1)] [zR 200] M Q := by
  unfold fX12_groundOf_j20 at h
  refine zV_iconst (v := 1) dX12_groundOf_20 rfl ?_
  exact fX12_groundOf_j21_ok hZ hn hx1 zi_1 (Or.inr rfl) h
noncomputable def fX12_groundOf (x1 : Int) (M : zMem) : Option (Int × zMem) :=
  (zbd (fX12_isBowl x1 M) fun r1 => (if r1 = 0 then fX12_groundOf_j20 x1 M else (zbd2 (fX12_isGround M) fun r7 M10 => (if r7 = 0 then fX12_groundOf_j20 x1 M10 else fX12_groundOf_j21 x1 0 M10))))
set_option maxRecDepth 100000 in
set_option maxHeartbeats 4000000 in
theorem fX12_groundOf_ok {Z : zZ} (hZ : zB Z) {nn : Nat} (hn : 25 ≤ nn)  {x1 : Int} (hx1 : z32 x1) {M : zMem} {Q : Option zAV → zMem → zZ → Prop} (h : zSat (fX12_groundOf x1 M) (fun r => Q (some (zI r.1)) r.2 Z))  : zV zmX12_groundOf nn 0 0 Z 0 [(0, zR 200), (1, zI x1)] [] M Q := by
  unfold fX12_groundOf at h
  refine zV_aload_n 0 dX12_groundOf_0 rfl rfl ?_
  refine zV_aload_n 0 dX12_groundOf_1 rfl rfl ?_
  refine zV_iload_n 1 dX12_groundOf_2 rfl rfl ?_
  refine zV_cVI (y' := zmX12_isBowl) (n' := 0) (As := [zI x1]) zc_X12_346 (zq_200 hZ) rfl dX12_groundOf_3 (Nat.le_trans (by decide) hn) rfl (Nat.le_of_ble_eq_true rfl) (Nat.le_of_ble_eq_true rfl) rfl h (fun Q' h' => fX12_isBowl_ok hZ (Nat.le_refl _) hx1 h') (fun r1 c2 b3 h => ?_)
  refine zV_if_eq 20 dX12_groundOf_6 (by decide) c2 (fun hc_ => ?_) (fun hc_ => ?_)
  · replace h := zs_t h hc_
    exact fX12_groundOf_j20_ok hZ hn hx1 h
  · replace h := zs_f h hc_
    refine zV_aload_n 0 dX12_groundOf_9 rfl rfl ?_
    refine zV_cVIm (y' := zmX12_isGround) (n' := 24) (As := []) zc_X12_446 (zq_200 hZ) rfl dX12_groundOf_10 (Nat.le_trans (by decide) hn) rfl (Nat.le_of_ble_eq_true rfl) (Nat.le_of_ble_eq_true rfl) rfl h (fun Q' h' => fX12_isGround_ok hZ (Nat.le_refl _)  h') (fun r7 M10 c8 b9 h => ?_)
    refine zV_if_eq 20 dX12_groundOf_13 (by decide) c8 (fun hc_ => ?_) (fun hc_ => ?_)
    · replace h := zs_t h hc_
      exact fX12_groundOf_j20_ok hZ hn hx1 h
    · replace h := zs_f h hc_
      refine zV_iconst (v := 0) dX12_groundOf_16 rfl ?_
      refine zV_goto 21 dX12_groundOf_17 (by decide) ?_
      exact fX12_groundOf_j21_ok hZ hn hx1 zi_0 (Or.inl rfl) h
noncomputable def fX12_spare_j78 (x1 x2 x3 : Int) (M : zMem) : Option ((Int × Int) ⊕ (Int × Int)) :=
  some (.inl (x3, (zw (x3 + 1))))
set_option maxRecDepth 100000 in
set_option maxHeartbeats 4000000 in
theorem fX12_spare_j78_ok {Z : zZ} (hZ : zB Z) {nn : Nat} (hn : 2 ≤ nn)  {x1 x2 x3 : Int} (hx1 : z32 x1) (hx2 : z32 x2) (hx3 : z32 x3) {M : zMem} {Q : Option zAV → zMem → zZ → Prop} {P : (Int × Int) ⊕ (Int × Int) → Prop} (h : zSat (fX12_spare_j78 x1 x2 x3 M) P)  (hc : ∀ s : Int × Int, P (.inl s) → z32 (s.1) → z32 (s.2) → zV zmX12_spare nn 0 0 Z 19 [(0, zR 200), (1, zI x1), (2, zI (s.1)), (3, zI (s.2))] [] M Q) (he : ∀ s : Int × Int, P (.inr s) → z32 (s.1) → z32 (s.2) → zV zmX12_spare nn 0 0 Z 86 [(0, zR 200), (1, zI x1), (2, zI (s.1)), (3, zI (s.2))] [] M Q)   : zV zmX12_spare nn 0 0 Z 78 [(0, zR 200), (1, zI x1), (2, zI x2), (3, zI x3)] [] M Q := by
  unfold fX12_spare_j78 at h
  refine zV_iload_n 3 dX12_spare_78 rfl rfl ?_
  refine zV_istore_n [(2, zI x3), (0, zR 200), (1, zI x1), (3, zI x3)] dX12_spare_79 rfl (by decide) rfl ?_
  refine zV_iinc 3 [(3, zI (zw (x3 + 1))), (2, zI x3), (0, zR 200), (1, zI x1)] dX12_spare_80 rfl rfl (by decide) rfl ?_
  refine zV_goto 19 dX12_spare_83 (by decide) ?_
  refine zV_ls [2, 3, 1, 0] rfl ?_
  exact hc _ h hx3 (z32_w _)
noncomputable def fX12_spare_l19 (x1 x2 x3 : Int) (M : zMem) : Option ((Int × Int) ⊕ (Int × Int)) :=
  (zgd ((0 : Int) ≤ (0 : Int) ∧ (0 : Int) < 6) (if (M 211 0) ≤ x3 then some (.inr (x2, x3)) else (zgd ((0 : Int) ≤ x3 ∧ x3 < 72) (if 0 ≤ (M 219 x3) then some (.inl (x2, (zw (x3 + 1)))) else (if x2 < 0 then fX12_spare_j78 x1 x2 x3 M else (zgd ((0 : Int) ≤ x3 ∧ x3 < 72) (zgd ((0 : Int) ≤ x1 ∧ x1 < 72) (zbd (fX12_away (M 215 x3) (M 215 x1) M) fun r9 => (zgd ((0 : Int) ≤ x2 ∧ x2 < 72) (zgd ((0 : Int) ≤ x1 ∧ x1 < 72) (zbd (fX12_away (M 215 x2) (M 215 x1) M) fun r15 => (if r9 < r15 then fX12_spare_j78 x1 x2 x3 M else some (.inl (x2, (zw (x3 + 1))))))))))))))))
set_option maxRecDepth 100000 in
set_option maxHeartbeats 4000000 in
theorem fX12_spare_l19_ok {Z : zZ} (hZ : zB Z) {nn : Nat} (hn : 2 ≤ nn)  {x1 x2 x3 : Int} (hx1 : z32 x1) (hx2 : z32 x2) (hx3 : z32 x3) {M : zMem} {Q : Option zAV → zMem → zZ → Prop} {P : (Int × Int) ⊕ (Int × Int) → Prop} (h : zSat (fX12_spare_l19 x1 x2 x3 M) P)  (hc : ∀ s : Int × Int, P (.inl s) → z32 (s.1) → z32 (s.2) → zV zmX12_spare nn 0 0 Z 19 [(0, zR 200), (1, zI x1), (2, zI (s.1)), (3, zI (s.2))] [] M Q) (he : ∀ s : Int × Int, P (.inr s) → z32 (s.1) → z32 (s.2) → zV zmX12_spare nn 0 0 Z 86 [(0, zR 200), (1, zI x1), (2, zI (s.1)), (3, zI (s.2))] [] M Q)   : zV zmX12_spare nn 0 0 Z 19 [(0, zR 200), (1, zI x1), (2, zI x2), (3, zI x3)] [] M Q := by
  unfold fX12_spare_l19 at h
  refine zV_iload_n 3 dX12_spare_19 rfl rfl ?_
  refine zV_aload_n 0 dX12_spare_20 rfl rfl ?_
  refine zV_getR (j := 211) (zq_200 hZ) zf_X12_10 zkf_X12_13 rfl dX12_spare_21 ?_
  refine zV_iconst (v := 0) dX12_spare_24 rfl ?_
  obtain ⟨hg, h⟩ := zs_gd h
  refine zV_iald (zq_211 hZ) hg dX12_spare_25 (fun m5 => ?_)
  refine zV_icmp_ge 86 dX12_spare_26 (by decide) hx3 m5 (fun hc_ => ?_) (fun hc_ => ?_)
  · replace h := zs_t h hc_
    exact he _ h hx2 hx3
  · replace h := zs_f h hc_
    refine zV_aload_n 0 dX12_spare_29 rfl rfl ?_
    refine zV_getR (j := 219) (zq_200 hZ) zf_X12_18 zkf_X12_38 rfl dX12_spare_30 ?_
    refine zV_iload_n 3 dX12_spare_33 rfl rfl ?_
    obtain ⟨hg, h⟩ := zs_gd h
    refine zV_iald (zq_219 hZ) hg dX12_spare_34 (fun m6 => ?_)
    refine zV_if_ge 80 dX12_spare_35 (by decide) m6 (fun hc_ => ?_) (fun hc_ => ?_)
    · replace h := zs_t h hc_
      refine zV_iinc 3 [(3, zI (zw (x3 + 1))), (0, zR 200), (1, zI x1), (2, zI x2)] dX12_spare_80 rfl rfl (by decide) rfl ?_
      refine zV_goto 19 dX12_spare_83 (by decide) ?_
      refine zV_ls [1, 2, 3, 0] rfl ?_
      exact hc _ h hx2 (z32_w _)
    · replace h := zs_f h hc_
      refine zV_iload_n 2 dX12_spare_38 rfl rfl ?_
      refine zV_if_lt 78 dX12_spare_39 (by decide) hx2 (fun hc_ => ?_) (fun hc_ => ?_)
      · replace h := zs_t h hc_
        exact fX12_spare_j78_ok hZ hn hx1 hx2 hx3 h hc he
      · replace h := zs_f h hc_
        refine zV_aload_n 0 dX12_spare_42 rfl rfl ?_
        refine zV_getR (j := 215) (zq_200 hZ) zf_X12_14 zkf_X12_26 rfl dX12_spare_43 ?_
        refine zV_iload_n 3 dX12_spare_46 rfl rfl ?_
        obtain ⟨hg, h⟩ := zs_gd h
        refine zV_iald (zq_215 hZ) hg dX12_spare_47 (fun m7 => ?_)
        refine zV_aload_n 0 dX12_spare_48 rfl rfl ?_
        refine zV_getR (j := 215) (zq_200 hZ) zf_X12_14 zkf_X12_26 rfl dX12_spare_49 ?_
        refine zV_iload_n 1 dX12_spare_52 rfl rfl ?_
        obtain ⟨hg, h⟩ := zs_gd h
        refine zV_iald (zq_215 hZ) hg dX12_spare_53 (fun m8 => ?_)
        refine zV_cSI (y' := zmX12_away) (n' := 0) (As := [zI (M 215 x3), zI (M 215 x1)]) zc_X12_399 dX12_spare_54 (Nat.le_trans (by decide) hn) rfl (Nat.le_of_ble_eq_true rfl) (Nat.le_of_ble_eq_true rfl) rfl h (fun Q' h' => fX12_away_ok hZ (Nat.le_refl _) m7 m8 h') (fun r9 c10 b11 h => ?_)
        refine zV_aload_n 0 dX12_spare_57 rfl rfl ?_
        refine zV_getR (j := 215) (zq_200 hZ) zf_X12_14 zkf_X12_26 rfl dX12_spare_58 ?_
        refine zV_iload_n 2 dX12_spare_61 rfl rfl ?_
        obtain ⟨hg, h⟩ := zs_gd h
        refine zV_iald (zq_215 hZ) hg dX12_spare_62 (fun m13 => ?_)
        refine zV_aload_n 0 dX12_spare_63 rfl rfl ?_
        refine zV_getR (j := 215) (zq_200 hZ) zf_X12_14 zkf_X12_26 rfl dX12_spare_64 ?_
        refine zV_iload_n 1 dX12_spare_67 rfl rfl ?_
        obtain ⟨hg, h⟩ := zs_gd h
        refine zV_iald (zq_215 hZ) hg dX12_spare_68 (fun m14 => ?_)
        refine zV_cSI (y' := zmX12_away) (n' := 0) (As := [zI (M 215 x2), zI (M 215 x1)]) zc_X12_399 dX12_spare_69 (Nat.le_trans (by decide) hn) rfl (Nat.le_of_ble_eq_true rfl) (Nat.le_of_ble_eq_true rfl) rfl h (fun Q' h' => fX12_away_ok hZ (Nat.le_refl _) m13 m14 h') (fun r15 c16 b17 h => ?_)
        refine zV_icmp_lt 78 dX12_spare_72 (by decide) c10 c16 (fun hc_ => ?_) (fun hc_ => ?_)
        · replace h := zs_t h hc_
          exact fX12_spare_j78_ok hZ hn hx1 hx2 hx3 h hc he
        · replace h := zs_f h hc_
          refine zV_goto 80 dX12_spare_75 (by decide) ?_
          refine zV_iinc 3 [(3, zI (zw (x3 + 1))), (0, zR 200), (1, zI x1), (2, zI x2)] dX12_spare_80 rfl rfl (by decide) rfl ?_
          refine zV_goto 19 dX12_spare_83 (by decide) ?_
          refine zV_ls [1, 2, 3, 0] rfl ?_
          exact hc _ h hx2 (z32_w _)
noncomputable def fX12_spare (x1 : Int) (M : zMem) : Option (Int × zMem) :=
  (zbd (fX12_isPlaced x1 (zup M 200 0 0)) fun r1 => (if r1 = 0 then some ((-1), (zup M 200 0 0)) else (zbd (zit (fun s19 => fX12_spare_l19 x1 (s19.1) (s19.2) (zup M 200 0 0)) ((-1), 0)) fun s26 => some (s26.1, (zup M 200 0 0)))))
set_option maxRecDepth 100000 in
set_option maxHeartbeats 4000000 in
theorem fX12_spare_ok {Z : zZ} (hZ : zB Z) {nn : Nat} (hn : 2 ≤ nn)  {x1 : Int} (hx1 : z32 x1) {M : zMem} {Q : Option zAV → zMem → zZ → Prop} (h : zSat (fX12_spare x1 M) (fun r => Q (some (zI r.1)) r.2 Z))  : zV zmX12_spare nn 0 0 Z 0 [(0, zR 200), (1, zI x1)] [] M Q := by
  unfold fX12_spare at h
  refine zV_aload_n 0 dX12_spare_0 rfl rfl ?_
  refine zV_iconst (v := 0) dX12_spare_1 rfl ?_
  refine zV_putI (zq_200 hZ) (by decide) zf_X12_0 zkf_X12_157 rfl dX12_spare_2 zi_0 ?_
  refine zV_aload_n 0 dX12_spare_5 rfl rfl ?_
  refine zV_iload_n 1 dX12_spare_6 rfl rfl ?_
  refine zV_cVI (y' := zmX12_isPlaced) (n' := 1) (As := [zI x1]) zc_X12_352 (zq_200 hZ) rfl dX12_spare_7 (Nat.le_trans (by decide) hn) rfl (Nat.le_of_ble_eq_true rfl) (Nat.le_of_ble_eq_true rfl) rfl h (fun Q' h' => fX12_isPlaced_ok hZ (Nat.le_refl _) hx1 h') (fun r1 c2 b3 h => ?_)
  refine zV_if_ne 15 dX12_spare_10 (by decide) c2 (fun hc_ => ?_) (fun hc_ => ?_)
  · replace h := zs_f h hc_
    refine zV_iconst (v := (-1)) dX12_spare_15 rfl ?_
    refine zV_istore_n [(2, zI (-1)), (0, zR 200), (1, zI x1)] dX12_spare_16 rfl (by decide) rfl ?_
    refine zV_iconst (v := 0) dX12_spare_17 rfl ?_
    refine zV_istore_n [(3, zI 0), (2, zI (-1)), (0, zR 200), (1, zI x1)] dX12_spare_18 rfl (by decide) rfl ?_
    refine zV_ls [2, 3, 1, 0] rfl ?_
    refine (zV_loop (Vh := fun s19 : Int × Int => z32 (s19.1) → z32 (s19.2) → zV zmX12_spare nn 0 0 Z 19 [(0, zR 200), (1, zI x1), (2, zI (s19.1)), (3, zI (s19.2))] [] (zup M 200 0 0) Q) h (fun s19 P20 hP21 hc22 he23 => ?_)) zi_n1 zi_0
    intro c24 c25
    refine fX12_spare_l19_ok hZ hn hx1 c24 c25 hP21 hc22 (fun s26 h27 d28 d29 => ?_)
    have h := he23 _ h27
    refine zV_iload_n 2 dX12_spare_86 rfl rfl ?_
    exact zV_ireti dX12_spare_87 rfl d28 h
  · replace h := zs_t h hc_
    refine zV_iconst (v := (-1)) dX12_spare_13 rfl ?_
    exact zV_ireti dX12_spare_14 rfl zi_n1 h
noncomputable def fX12_exchange_j100 (x1 x2 x3 s0 s1 : Int) (M : zMem) : Option ((Int × zMem) ⊕ (Int × zMem)) :=
  (zgd ((0 : Int) ≤ s1 ∧ s1 < 120) (some (.inl ((zw (x3 + 1)), (zup M 245 s1 s0)))))
set_option maxRecDepth 100000 in
set_option maxHeartbeats 4000000 in
theorem fX12_exchange_j100_ok {Z : zZ} (hZ : zB Z) {nn : Nat} (hn : 2 ≤ nn)  {x1 x2 x3 s0 s1 : Int} (hx1 : z32 x1) (hx2 : z32 x2) (hx3 : z32 x3) (hs0 : z32 s0) (hs1 : z32 s1) {M : zMem} {Q : Option zAV → zMem → zZ → Prop} {P : (Int × zMem) ⊕ (Int × zMem) → Prop} (h : zSat (fX12_exchange_j100 x1 x2 x3 s0 s1 M) P)  (hc : ∀ s : Int × zMem, P (.inl s) → z32 (s.1) → zV zmX12_exchange nn 0 0 Z 67 [(0, zR 200), (1, zI x1), (2, zI x2), (3, zI (s.1))] [] (s.2) Q) (he : ∀ s : Int × zMem, P (.inr s) → z32 (s.1) → zV zmX12_exchange nn 0 0 Z 107 [(0, zR 200), (1, zI x1), (2, zI x2), (3, zI (s.1))] [] (s.2) Q)   : zV zmX12_exchange nn 0 0 Z 100 [(0, zR 200), (1, zI x1), (2, zI x2), (3, zI x3)] [zI s0, zI s1, zR 245] M Q := by
  unfold fX12_exchange_j100 at h
  obtain ⟨hg, h⟩ := zs_gd h
  refine zV_iast (zq_245 hZ) (by decide) hg hs0 dX12_exchange_100 ?_
  refine zV_iinc 3 [(3, zI (zw (x3 + 1))), (0, zR 200), (1, zI x1), (2, zI x2)] dX12_exchange_101 rfl rfl (by decide) rfl ?_
  refine zV_goto 67 dX12_exchange_104 (by decide) ?_
  refine zV_ls [1, 2, 3, 0] rfl ?_
  exact hc _ h (z32_w _)
noncomputable def fX12_exchange_l67 (x1 x2 x3 : Int) (M : zMem) : Option ((Int × zMem) ⊕ (Int × zMem)) :=
  (if (M 200 43) ≤ x3 then some (.inr (x3, M)) else (zgd ((0 : Int) ≤ x3 ∧ x3 < 120) (if (M 245 x3) = x1 then fX12_exchange_j100 x1 x2 x3 x2 x3 M else (zgd ((0 : Int) ≤ x3 ∧ x3 < 120) (fX12_exchange_j100 x1 x2 x3 (M 245 x3) x3 M)))))
set_option maxRecDepth 100000 in
set_option maxHeartbeats 4000000 in
theorem fX12_exchange_l67_ok {Z : zZ} (hZ : zB Z) {nn : Nat} (hn : 2 ≤ nn)  {x1 x2 x3 : Int} (hx1 : z32 x1) (hx2 : z32 x2) (hx3 : z32 x3) {M : zMem} {Q : Option zAV → zMem → zZ → Prop} {P : (Int × zMem) ⊕ (Int × zMem) → Prop} (h : zSat (fX12_exchange_l67 x1 x2 x3 M) P)  (hc : ∀ s : Int × zMem, P (.inl s) → z32 (s.1) → zV zmX12_exchange nn 0 0 Z 67 [(0, zR 200), (1, zI x1), (2, zI x2), (3, zI (s.1))] [] (s.2) Q) (he : ∀ s : Int × zMem, P (.inr s) → z32 (s.1) → zV zmX12_exchange nn 0 0 Z 107 [(0, zR 200), (1, zI x1), (2, zI x2), (3, zI (s.1))] [] (s.2) Q)   : zV zmX12_exchange nn 0 0 Z 67 [(0, zR 200), (1, zI x1), (2, zI x2), (3, zI x3)] [] M Q := by
  unfold fX12_exchange_l67 at h
  refine zV_iload_n 3 dX12_exchange_67 rfl rfl ?_
  refine zV_aload_n 0 dX12_exchange_68 rfl rfl ?_
  refine zV_getI (zq_200 hZ) zf_X12_43 zkf_X12_343 rfl dX12_exchange_69 (fun m11 => ?_)
  refine zV_icmp_ge 107 dX12_exchange_72 (by decide) hx3 m11 (fun hc_ => ?_) (fun hc_ => ?_)
  · replace h := zs_t h hc_
    exact he _ h hx3
  · replace h := zs_f h hc_
    refine zV_aload_n 0 dX12_exchange_75 rfl rfl ?_
    refine zV_getR (j := 245) (zq_200 hZ) zf_X12_44 zkf_X12_108 rfl dX12_exchange_76 ?_
    refine zV_iload_n 3 dX12_exchange_79 rfl rfl ?_
    refine zV_aload_n 0 dX12_exchange_80 rfl rfl ?_
    refine zV_getR (j := 245) (zq_200 hZ) zf_X12_44 zkf_X12_108 rfl dX12_exchange_81 ?_
    refine zV_iload_n 3 dX12_exchange_84 rfl rfl ?_
    obtain ⟨hg, h⟩ := zs_gd h
    refine zV_iald (zq_245 hZ) hg dX12_exchange_85 (fun m12 => ?_)
    refine zV_iload_n 1 dX12_exchange_86 rfl rfl ?_
    refine zV_icmp_ne 94 dX12_exchange_87 (by decide) m12 hx1 (fun hc_ => ?_) (fun hc_ => ?_)
    · replace h := zs_f h hc_
      refine zV_aload_n 0 dX12_exchange_94 rfl rfl ?_
      refine zV_getR (j := 245) (zq_200 hZ) zf_X12_44 zkf_X12_108 rfl dX12_exchange_95 ?_
      refine zV_iload_n 3 dX12_exchange_98 rfl rfl ?_
      obtain ⟨hg, h⟩ := zs_gd h
      refine zV_iald (zq_245 hZ) hg dX12_exchange_99 (fun m13 => ?_)
      exact fX12_exchange_j100_ok hZ hn hx1 hx2 hx3 m13 hx3 h hc he
    · replace h := zs_t h hc_
      refine zV_iload_n 2 dX12_exchange_90 rfl rfl ?_
      refine zV_goto 100 dX12_exchange_91 (by decide) ?_
      exact fX12_exchange_j100_ok hZ hn hx1 hx2 hx3 hx2 hx3 h hc he
noncomputable def fX12_exchange (x1 x2 : Int) (M : zMem) : Option (Int × zMem) :=
  (zbd (fX12_isPlaced x1 (zup M 200 0 0)) fun r1 => (if r1 = 0 then some (0, (zup M 200 0 0)) else (zbd (fX12_isBowl x2 (zup M 200 0 0)) fun r5 => (if r5 = 0 then some (0, (zup M 200 0 0)) else (zgd ((0 : Int) ≤ x2 ∧ x2 < 72) (if ((zup M 200 0 0) 219 x2) < 0 then (zgd ((0 : Int) ≤ x1 ∧ x1 < 72) (zgd ((0 : Int) ≤ x2 ∧ x2 < 72) (zgd ((0 : Int) ≤ x1 ∧ x1 < 72) (zgd ((0 : Int) ≤ x2 ∧ x2 < 72) (zgd ((0 : Int) ≤ x1 ∧ x1 < 72) (zbd (zit (fun s14 => fX12_exchange_l67 x1 x2 (s14.1) (s14.2)) (0, (zup (zup (zup (zup (zup M 200 0 0) 219 x2 ((zup M 200 0 0) 219 x1)) 219 x1 (-1)) 218 x2 0) 218 x1 3))) fun s20 => some (1, s20.2))))))) else some (0, (zup M 200 0 0))))))))
set_option maxRecDepth 100000 in
set_option maxHeartbeats 4000000 in
theorem fX12_exchange_ok {Z : zZ} (hZ : zB Z) {nn : Nat} (hn : 2 ≤ nn)  {x1 x2 : Int} (hx1 : z32 x1) (hx2 : z32 x2) {M : zMem} {Q : Option zAV → zMem → zZ → Prop} (h : zSat (fX12_exchange x1 x2 M) (fun r => Q (some (zI r.1)) r.2 Z))  : zV zmX12_exchange nn 0 0 Z 0 [(0, zR 200), (1, zI x1), (2, zI x2)] [] M Q := by
  unfold fX12_exchange at h
  refine zV_aload_n 0 dX12_exchange_0 rfl rfl ?_
  refine zV_iconst (v := 0) dX12_exchange_1 rfl ?_
  refine zV_putI (zq_200 hZ) (by decide) zf_X12_0 zkf_X12_157 rfl dX12_exchange_2 zi_0 ?_
  refine zV_aload_n 0 dX12_exchange_5 rfl rfl ?_
  refine zV_iload_n 1 dX12_exchange_6 rfl rfl ?_
  refine zV_cVI (y' := zmX12_isPlaced) (n' := 1) (As := [zI x1]) zc_X12_352 (zq_200 hZ) rfl dX12_exchange_7 (Nat.le_trans (by decide) hn) rfl (Nat.le_of_ble_eq_true rfl) (Nat.le_of_ble_eq_true rfl) rfl h (fun Q' h' => fX12_isPlaced_ok hZ (Nat.le_refl _) hx1 h') (fun r1 c2 b3 h => ?_)
  refine zV_if_eq 30 dX12_exchange_10 (by decide) c2 (fun hc_ => ?_) (fun hc_ => ?_)
  · replace h := zs_t h hc_
    refine zV_iconst (v := 0) dX12_exchange_30 rfl ?_
    exact zV_iretb dX12_exchange_31 rfl (Or.inl rfl) h
  · replace h := zs_f h hc_
    refine zV_aload_n 0 dX12_exchange_13 rfl rfl ?_
    refine zV_iload_n 2 dX12_exchange_14 rfl rfl ?_
    refine zV_cVI (y' := zmX12_isBowl) (n' := 0) (As := [zI x2]) zc_X12_346 (zq_200 hZ) rfl dX12_exchange_15 (Nat.le_trans (by decide) hn) rfl (Nat.le_of_ble_eq_true rfl) (Nat.le_of_ble_eq_true rfl) rfl h (fun Q' h' => fX12_isBowl_ok hZ (Nat.le_refl _) hx2 h') (fun r5 c6 b7 h => ?_)
    refine zV_if_eq 30 dX12_exchange_18 (by decide) c6 (fun hc_ => ?_) (fun hc_ => ?_)
    · replace h := zs_t h hc_
      refine zV_iconst (v := 0) dX12_exchange_30 rfl ?_
      exact zV_iretb dX12_exchange_31 rfl (Or.inl rfl) h
    · replace h := zs_f h hc_
      refine zV_aload_n 0 dX12_exchange_21 rfl rfl ?_
      refine zV_getR (j := 219) (zq_200 hZ) zf_X12_18 zkf_X12_38 rfl dX12_exchange_22 ?_
      refine zV_iload_n 2 dX12_exchange_25 rfl rfl ?_
      obtain ⟨hg, h⟩ := zs_gd h
      refine zV_iald (zq_219 hZ) hg dX12_exchange_26 (fun m9 => ?_)
      refine zV_if_lt 32 dX12_exchange_27 (by decide) m9 (fun hc_ => ?_) (fun hc_ => ?_)
      · replace h := zs_t h hc_
        refine zV_aload_n 0 dX12_exchange_32 rfl rfl ?_
        refine zV_getR (j := 219) (zq_200 hZ) zf_X12_18 zkf_X12_38 rfl dX12_exchange_33 ?_
        refine zV_iload_n 2 dX12_exchange_36 rfl rfl ?_
        refine zV_aload_n 0 dX12_exchange_37 rfl rfl ?_
        refine zV_getR (j := 219) (zq_200 hZ) zf_X12_18 zkf_X12_38 rfl dX12_exchange_38 ?_
        refine zV_iload_n 1 dX12_exchange_41 rfl rfl ?_
        obtain ⟨hg, h⟩ := zs_gd h
        refine zV_iald (zq_219 hZ) hg dX12_exchange_42 (fun m10 => ?_)
        obtain ⟨hg, h⟩ := zs_gd h
        refine zV_iast (zq_219 hZ) (by decide) hg m10 dX12_exchange_43 ?_
        refine zV_aload_n 0 dX12_exchange_44 rfl rfl ?_
        refine zV_getR (j := 219) (zq_200 hZ) zf_X12_18 zkf_X12_38 rfl dX12_exchange_45 ?_
        refine zV_iload_n 1 dX12_exchange_48 rfl rfl ?_
        refine zV_iconst (v := (-1)) dX12_exchange_49 rfl ?_
        obtain ⟨hg, h⟩ := zs_gd h
        refine zV_iast (zq_219 hZ) (by decide) hg zi_n1 dX12_exchange_50 ?_
        refine zV_aload_n 0 dX12_exchange_51 rfl rfl ?_
        refine zV_getR (j := 218) (zq_200 hZ) zf_X12_17 zkf_X12_35 rfl dX12_exchange_52 ?_
        refine zV_iload_n 2 dX12_exchange_55 rfl rfl ?_
        refine zV_iconst (v := 0) dX12_exchange_56 rfl ?_
        obtain ⟨hg, h⟩ := zs_gd h
        refine zV_iast (zq_218 hZ) (by decide) hg zi_0 dX12_exchange_57 ?_
        refine zV_aload_n 0 dX12_exchange_58 rfl rfl ?_
        refine zV_getR (j := 218) (zq_200 hZ) zf_X12_17 zkf_X12_35 rfl dX12_exchange_59 ?_
        refine zV_iload_n 1 dX12_exchange_62 rfl rfl ?_
        refine zV_iconst (v := 3) dX12_exchange_63 rfl ?_
        obtain ⟨hg, h⟩ := zs_gd h
        refine zV_iast (zq_218 hZ) (by decide) hg zi_3 dX12_exchange_64 ?_
        refine zV_iconst (v := 0) dX12_exchange_65 rfl ?_
        refine zV_istore_n [(3, zI 0), (0, zR 200), (1, zI x1), (2, zI x2)] dX12_exchange_66 rfl (by decide) rfl ?_
        refine zV_ls [1, 2, 3, 0] rfl ?_
        refine (zV_loop (Vh := fun s14 : Int × zMem => z32 (s14.1) → zV zmX12_exchange nn 0 0 Z 67 [(0, zR 200), (1, zI x1), (2, zI x2), (3, zI (s14.1))] [] (s14.2) Q) h (fun s14 P15 hP16 hc17 he18 => ?_)) zi_0
        intro c19
        refine fX12_exchange_l67_ok hZ hn hx1 hx2 c19 hP16 hc17 (fun s20 h21 d22 => ?_)
        have h := he18 _ h21
        refine zV_iconst (v := 1) dX12_exchange_107 rfl ?_
        exact zV_iretb dX12_exchange_108 rfl (Or.inr rfl) h
      · replace h := zs_f h hc_
        refine zV_iconst (v := 0) dX12_exchange_30 rfl ?_
        exact zV_iretb dX12_exchange_31 rfl (Or.inl rfl) h
noncomputable def fX12_moved_l9 (x1 x2 : Int) (M : zMem) : Option ((Int × Int) ⊕ (Int × Int)) :=
  (if (M 200 43) ≤ x2 then some (.inr (x1, x2)) else (zbd (fX12_at x2 M) fun r2 => (zbd (fX12_at (zw (x2 - 1)) M) fun r6 => (zbd (fX12_away r2 r6 M) fun r10 => some (.inl ((zw (x1 + r10)), (zw (x2 + 1))))))))
set_option maxRecDepth 100000 in
set_option maxHeartbeats 4000000 in
theorem fX12_moved_l9_ok {Z : zZ} (hZ : zB Z) {nn : Nat} (hn : 1 ≤ nn)  {x1 x2 : Int} (hx1 : z32 x1) (hx2 : z32 x2) {M : zMem} {Q : Option zAV → zMem → zZ → Prop} {P : (Int × Int) ⊕ (Int × Int) → Prop} (h : zSat (fX12_moved_l9 x1 x2 M) P)  (hc : ∀ s : Int × Int, P (.inl s) → z32 (s.1) → z32 (s.2) → zV zmX12_moved nn 0 0 Z 9 [(0, zR 200), (1, zI (s.1)), (2, zI (s.2))] [] M Q) (he : ∀ s : Int × Int, P (.inr s) → z32 (s.1) → z32 (s.2) → zV zmX12_moved nn 0 0 Z 41 [(0, zR 200), (1, zI (s.1)), (2, zI (s.2))] [] M Q)   : zV zmX12_moved nn 0 0 Z 9 [(0, zR 200), (1, zI x1), (2, zI x2)] [] M Q := by
  unfold fX12_moved_l9 at h
  refine zV_iload_n 2 dX12_moved_9 rfl rfl ?_
  refine zV_aload_n 0 dX12_moved_10 rfl rfl ?_
  refine zV_getI (zq_200 hZ) zf_X12_43 zkf_X12_343 rfl dX12_moved_11 (fun m1 => ?_)
  refine zV_icmp_ge 41 dX12_moved_14 (by decide) hx2 m1 (fun hc_ => ?_) (fun hc_ => ?_)
  · replace h := zs_t h hc_
    exact he _ h hx1 hx2
  · replace h := zs_f h hc_
    refine zV_iload_n 1 dX12_moved_17 rfl rfl ?_
    refine zV_aload_n 0 dX12_moved_18 rfl rfl ?_
    refine zV_iload_n 2 dX12_moved_19 rfl rfl ?_
    refine zV_cVI (y' := zmX12_at) (n' := 0) (As := [zI x2]) zc_X12_411 (zq_200 hZ) rfl dX12_moved_20 (Nat.le_trans (by decide) hn) rfl (Nat.le_of_ble_eq_true rfl) (Nat.le_of_ble_eq_true rfl) rfl h (fun Q' h' => fX12_at_ok hZ (Nat.le_refl _) hx2 h') (fun r2 c3 b4 h => ?_)
    refine zV_aload_n 0 dX12_moved_23 rfl rfl ?_
    refine zV_iload_n 2 dX12_moved_24 rfl rfl ?_
    refine zV_iconst (v := 1) dX12_moved_25 rfl ?_
    refine zV_isub dX12_moved_26 ?_
    refine zV_w ?_
    refine zV_cVI (y' := zmX12_at) (n' := 0) (As := [zI (zw (x2 - 1))]) zc_X12_411 (zq_200 hZ) rfl dX12_moved_27 (Nat.le_trans (by decide) hn) rfl (Nat.le_of_ble_eq_true rfl) (Nat.le_of_ble_eq_true rfl) rfl h (fun Q' h' => fX12_at_ok hZ (Nat.le_refl _) (z32_w _) h') (fun r6 c7 b8 h => ?_)
    refine zV_cSI (y' := zmX12_away) (n' := 0) (As := [zI r2, zI r6]) zc_X12_399 dX12_moved_30 (Nat.le_trans (by decide) hn) rfl (Nat.le_of_ble_eq_true rfl) (Nat.le_of_ble_eq_true rfl) rfl h (fun Q' h' => fX12_away_ok hZ (Nat.le_refl _) c3 c7 h') (fun r10 c11 b12 h => ?_)
    refine zV_iadd dX12_moved_33 ?_
    refine zV_w ?_
    refine zV_istore_n [(1, zI (zw (x1 + r10))), (0, zR 200), (2, zI x2)] dX12_moved_34 rfl (by decide) rfl ?_
    refine zV_iinc 2 [(2, zI (zw (x2 + 1))), (1, zI (zw (x1 + r10))), (0, zR 200)] dX12_moved_35 rfl rfl (by decide) rfl ?_
    refine zV_goto 9 dX12_moved_38 (by decide) ?_
    refine zV_ls [2, 1, 0] rfl ?_
    exact hc _ h (z32_w _) (z32_w _)
noncomputable def fX12_moved (M : zMem) : Option (Int × zMem) :=
  (zbd (zit (fun s14 => fX12_moved_l9 (s14.1) (s14.2) (zup M 200 0 0)) (0, 1)) fun s21 => some (s21.1, (zup M 200 0 0)))
set_option maxRecDepth 100000 in
set_option maxHeartbeats 4000000 in
theorem fX12_moved_ok {Z : zZ} (hZ : zB Z) {nn : Nat} (hn : 1 ≤ nn)   {M : zMem} {Q : Option zAV → zMem → zZ → Prop} (h : zSat (fX12_moved M) (fun r => Q (some (zI r.1)) r.2 Z))  : zV zmX12_moved nn 0 0 Z 0 [(0, zR 200)] [] M Q := by
  unfold fX12_moved at h
  refine zV_aload_n 0 dX12_moved_0 rfl rfl ?_
  refine zV_iconst (v := 0) dX12_moved_1 rfl ?_
  refine zV_putI (zq_200 hZ) (by decide) zf_X12_0 zkf_X12_157 rfl dX12_moved_2 zi_0 ?_
  refine zV_iconst (v := 0) dX12_moved_5 rfl ?_
  refine zV_istore_n [(1, zI 0), (0, zR 200)] dX12_moved_6 rfl (by decide) rfl ?_
  refine zV_iconst (v := 1) dX12_moved_7 rfl ?_
  refine zV_istore_n [(2, zI 1), (1, zI 0), (0, zR 200)] dX12_moved_8 rfl (by decide) rfl ?_
  refine zV_ls [2, 1, 0] rfl ?_
  refine (zV_loop (Vh := fun s14 : Int × Int => z32 (s14.1) → z32 (s14.2) → zV zmX12_moved nn 0 0 Z 9 [(0, zR 200), (1, zI (s14.1)), (2, zI (s14.2))] [] (zup M 200 0 0) Q) h (fun s14 P15 hP16 hc17 he18 => ?_)) zi_0 zi_1
  intro c19 c20
  refine fX12_moved_l9_ok hZ hn c19 c20 hP16 hc17 (fun s21 h22 d23 d24 => ?_)
  have h := he18 _ h22
  refine zV_iload_n 1 dX12_moved_41 rfl rfl ?_
  exact zV_ireti dX12_moved_42 rfl d23 h
noncomputable def fX12_lines_j80 (F_lines : Int → Int → zMem → Option zMem) (x1 x2 x3 x4 s0 s1 : Int) (M : zMem) : Option ((Int × Int) ⊕ (Int × Int)) :=
  some (.inl ((zw (s1 + s0)), (zw (x4 + 1))))
set_option maxRecDepth 100000 in
set_option maxHeartbeats 4000000 in
theorem fX12_lines_j80_ok {Z : zZ} (hZ : zB Z) {nn : Nat} (hn : 1 ≤ nn) {n0 : Nat} (hn0 : n0 + 1 ≤ nn) {F_lines : Int → Int → zMem → Option zMem}  {x1 x2 x3 x4 s0 s1 : Int} (hx1 : z32 x1) (hx2 : z32 x2) (hx3 : z32 x3) (hx4 : z32 x4) (hs0 : z32 s0) (hs1 : z32 s1) {M : zMem} (hF_lines : ∀ (y0 y1 : Int) (M : zMem) (Q : Option zAV → zMem → zZ → Prop), z32 y0 → z32 y1 → zSat (F_lines y0 y1 M) (fun r => Q none r Z) → zV zmX12_lines n0 0 0 Z 0 (zent 0 [zR 200, zI y0, zI y1]) [] M Q) {Q : Option zAV → zMem → zZ → Prop} {P : (Int × Int) ⊕ (Int × Int) → Prop} (h : zSat (fX12_lines_j80 F_lines x1 x2 x3 x4 s0 s1 M) P)  (hc : ∀ s : Int × Int, P (.inl s) → z32 (s.1) → z32 (s.2) → zV zmX12_lines nn 0 0 Z 5 [(0, zR 200), (1, zI x1), (2, zI x2), (3, zI (s.1)), (4, zI (s.2))] [] M Q) (he : ∀ s : Int × Int, P (.inr s) → z32 (s.1) → z32 (s.2) → zV zmX12_lines nn 0 0 Z 88 [(0, zR 200), (1, zI x1), (2, zI x2), (3, zI (s.1)), (4, zI (s.2))] [] M Q)   : zV zmX12_lines nn 0 0 Z 80 [(0, zR 200), (1, zI x1), (2, zI x2), (3, zI x3), (4, zI x4)] [zI s0, zI s1] M Q := by
  unfold fX12_lines_j80 at h
  refine zV_iadd dX12_lines_80 ?_
  refine zV_w ?_
  refine zV_istore_n [(3, zI (zw (s1 + s0))), (0, zR 200), (1, zI x1), (2, zI x2), (4, zI x4)] dX12_lines_81 rfl (by decide) rfl ?_
  refine zV_iinc 4 [(4, zI (zw (x4 + 1))), (3, zI (zw (s1 + s0))), (0, zR 200), (1, zI x1), (2, zI x2)] dX12_lines_82 rfl rfl (by decide) rfl ?_
  refine zV_goto 5 dX12_lines_85 (by decide) ?_
  refine zV_ls [2, 3, 4, 1, 0] rfl ?_
  exact hc _ h (z32_w _) (z32_w _)
noncomputable def fX12_lines_j79 (F_lines : Int → Int → zMem → Option zMem) (x1 x2 x3 x4 s0 : Int) (M : zMem) : Option ((Int × Int) ⊕ (Int × Int)) :=
  fX12_lines_j80 F_lines x1 x2 x3 x4 0 s0 M
set_option maxRecDepth 100000 in
set_option maxHeartbeats 4000000 in
theorem fX12_lines_j79_ok {Z : zZ} (hZ : zB Z) {nn : Nat} (hn : 1 ≤ nn) {n0 : Nat} (hn0 : n0 + 1 ≤ nn) {F_lines : Int → Int → zMem → Option zMem}  {x1 x2 x3 x4 s0 : Int} (hx1 : z32 x1) (hx2 : z32 x2) (hx3 : z32 x3) (hx4 : z32 x4) (hs0 : z32 s0) {M : zMem} (hF_lines : ∀ (y0 y1 : Int) (M : zMem) (Q : Option zAV → zMem → zZ → Prop), z32 y0 → z32 y1 → zSat (F_lines y0 y1 M) (fun r => Q none r Z) → zV zmX12_lines n0 0 0 Z 0 (zent 0 [zR 200, zI y0, zI y1]) [] M Q) {Q : Option zAV → zMem → zZ → Prop} {P : (Int × Int) ⊕ (Int × Int) → Prop} (h : zSat (fX12_lines_j79 F_lines x1 x2 x3 x4 s0 M) P)  (hc : ∀ s : Int × Int, P (.inl s) → z32 (s.1) → z32 (s.2) → zV zmX12_lines nn 0 0 Z 5 [(0, zR 200), (1, zI x1), (2, zI x2), (3, zI (s.1)), (4, zI (s.2))] [] M Q) (he : ∀ s : Int × Int, P (.inr s) → z32 (s.1) → z32 (s.2) → zV zmX12_lines nn 0 0 Z 88 [(0, zR 200), (1, zI x1), (2, zI x2), (3, zI (s.1)), (4, zI (s.2))] [] M Q)   : zV zmX12_lines nn 0 0 Z 79 [(0, zR 200), (1, zI x1), (2, zI x2), (3, zI x3), (4, zI x4)] [zI s0] M Q := by
  unfold fX12_lines_j79 at h
  refine zV_iconst (v := 0) dX12_lines_79 rfl ?_
  exact fX12_lines_j80_ok hZ hn hn0 hx1 hx2 hx3 hx4 zi_0 hs0 hF_lines h hc he
noncomputable def fX12_lines_l5 (F_lines : Int → Int → zMem → Option zMem) (x1 x2 x3 x4 : Int) (M : zMem) : Option ((Int × Int) ⊕ (Int × Int)) :=
  (if (M 200 43) ≤ x4 then some (.inr (x3, x4)) else (zgd ((0 : Int) ≤ x4 ∧ x4 < 120) (zgd ((0 : Int) ≤ (M 245 x4) ∧ (M 245 x4) < 12) (if (M 259 (M 245 x4)) < 0 then fX12_lines_j79 F_lines x1 x2 x3 x4 x3 M else (zgd ((0 : Int) ≤ (x4 - 1) ∧ (x4 - 1) < 120) (zgd ((0 : Int) ≤ (M 245 (x4 - 1)) ∧ (M 245 (x4 - 1)) < 12) (if (M 259 (M 245 (x4 - 1))) < 0 then fX12_lines_j79 F_lines x1 x2 x3 x4 x3 M else (zgd ((0 : Int) ≤ x4 ∧ x4 < 120) (zgd ((0 : Int) ≤ (M 245 x4) ∧ (M 245 x4) < 12) (zgd ((0 : Int) ≤ (x4 - 1) ∧ (x4 - 1) < 120) (zgd ((0 : Int) ≤ (M 245 (x4 - 1)) ∧ (M 245 (x4 - 1)) < 12) (zbd (fX12_away (M 259 (M 245 x4)) (M 259 (M 245 (x4 - 1))) M) fun r10 => fX12_lines_j80 F_lines x1 x2 x3 x4 r10 x3 M))))))))))))
set_option maxRecDepth 100000 in
set_option maxHeartbeats 4000000 in
theorem fX12_lines_l5_ok {Z : zZ} (hZ : zB Z) {nn : Nat} (hn : 1 ≤ nn) {n0 : Nat} (hn0 : n0 + 1 ≤ nn) {F_lines : Int → Int → zMem → Option zMem}  {x1 x2 x3 x4 : Int} (hx1 : z32 x1) (hx2 : z32 x2) (hx3 : z32 x3) (hx4 : z32 x4) {M : zMem} (hF_lines : ∀ (y0 y1 : Int) (M : zMem) (Q : Option zAV → zMem → zZ → Prop), z32 y0 → z32 y1 → zSat (F_lines y0 y1 M) (fun r => Q none r Z) → zV zmX12_lines n0 0 0 Z 0 (zent 0 [zR 200, zI y0, zI y1]) [] M Q) {Q : Option zAV → zMem → zZ → Prop} {P : (Int × Int) ⊕ (Int × Int) → Prop} (h : zSat (fX12_lines_l5 F_lines x1 x2 x3 x4 M) P)  (hc : ∀ s : Int × Int, P (.inl s) → z32 (s.1) → z32 (s.2) → zV zmX12_lines nn 0 0 Z 5 [(0, zR 200), (1, zI x1), (2, zI x2), (3, zI (s.1)), (4, zI (s.2))] [] M Q) (he : ∀ s : Int × Int, P (.inr s) → z32 (s.1) → z32 (s.2) → zV zmX12_lines nn 0 0 Z 88 [(0, zR 200), (1, zI x1), (2, zI x2), (3, zI (s.1)), (4, zI (s.2))] [] M Q)   : zV zmX12_lines nn 0 0 Z 5 [(0, zR 200), (1, zI x1), (2, zI x2), (3, zI x3), (4, zI x4)] [] M Q := by
  unfold fX12_lines_l5 at h
  refine zV_iload 4 dX12_lines_5 rfl ?_
  refine zV_aload_n 0 dX12_lines_7 rfl rfl ?_
  refine zV_getI (zq_200 hZ) zf_X12_43 zkf_X12_343 rfl dX12_lines_8 (fun m1 => ?_)
  refine zV_icmp_ge 88 dX12_lines_11 (by decide) hx4 m1 (fun hc_ => ?_) (fun hc_ => ?_)
  · replace h := zs_t h hc_
    exact he _ h hx3 hx4
  · replace h := zs_f h hc_
    refine zV_iload_n 3 dX12_lines_14 rfl rfl ?_
    refine zV_aload_n 0 dX12_lines_15 rfl rfl ?_
    refine zV_getR (j := 259) (zq_200 hZ) zf_X12_58 zkf_X12_141 rfl dX12_lines_16 ?_
    refine zV_aload_n 0 dX12_lines_19 rfl rfl ?_
    refine zV_getR (j := 245) (zq_200 hZ) zf_X12_44 zkf_X12_108 rfl dX12_lines_20 ?_
    refine zV_iload 4 dX12_lines_23 rfl ?_
    obtain ⟨hg, h⟩ := zs_gd h
    refine zV_iald (zq_245 hZ) hg dX12_lines_25 (fun m2 => ?_)
    obtain ⟨hg, h⟩ := zs_gd h
    refine zV_iald (zq_259 hZ) hg dX12_lines_26 (fun m3 => ?_)
    refine zV_if_lt 79 dX12_lines_27 (by decide) m3 (fun hc_ => ?_) (fun hc_ => ?_)
    · replace h := zs_t h hc_
      exact fX12_lines_j79_ok hZ hn hn0 hx1 hx2 hx3 hx4 hx3 hF_lines h hc he
    · replace h := zs_f h hc_
      refine zV_aload_n 0 dX12_lines_30 rfl rfl ?_
      refine zV_getR (j := 259) (zq_200 hZ) zf_X12_58 zkf_X12_141 rfl dX12_lines_31 ?_
      refine zV_aload_n 0 dX12_lines_34 rfl rfl ?_
      refine zV_getR (j := 245) (zq_200 hZ) zf_X12_44 zkf_X12_108 rfl dX12_lines_35 ?_
      refine zV_iload 4 dX12_lines_38 rfl ?_
      refine zV_iconst (v := 1) dX12_lines_40 rfl ?_
      refine zV_isub dX12_lines_41 ?_
      obtain ⟨hg, h⟩ := zs_gd h
      refine zV_iald (zq_245 hZ) hg dX12_lines_42 (fun m4 => ?_)
      obtain ⟨hg, h⟩ := zs_gd h
      refine zV_iald (zq_259 hZ) hg dX12_lines_43 (fun m5 => ?_)
      refine zV_if_lt 79 dX12_lines_44 (by decide) m5 (fun hc_ => ?_) (fun hc_ => ?_)
      · replace h := zs_t h hc_
        exact fX12_lines_j79_ok hZ hn hn0 hx1 hx2 hx3 hx4 hx3 hF_lines h hc he
      · replace h := zs_f h hc_
        refine zV_aload_n 0 dX12_lines_47 rfl rfl ?_
        refine zV_getR (j := 259) (zq_200 hZ) zf_X12_58 zkf_X12_141 rfl dX12_lines_48 ?_
        refine zV_aload_n 0 dX12_lines_51 rfl rfl ?_
        refine zV_getR (j := 245) (zq_200 hZ) zf_X12_44 zkf_X12_108 rfl dX12_lines_52 ?_
        refine zV_iload 4 dX12_lines_55 rfl ?_
        obtain ⟨hg, h⟩ := zs_gd h
        refine zV_iald (zq_245 hZ) hg dX12_lines_57 (fun m6 => ?_)
        obtain ⟨hg, h⟩ := zs_gd h
        refine zV_iald (zq_259 hZ) hg dX12_lines_58 (fun m7 => ?_)
        refine zV_aload_n 0 dX12_lines_59 rfl rfl ?_
        refine zV_getR (j := 259) (zq_200 hZ) zf_X12_58 zkf_X12_141 rfl dX12_lines_60 ?_
        refine zV_aload_n 0 dX12_lines_63 rfl rfl ?_
        refine zV_getR (j := 245) (zq_200 hZ) zf_X12_44 zkf_X12_108 rfl dX12_lines_64 ?_
        refine zV_iload 4 dX12_lines_67 rfl ?_
        refine zV_iconst (v := 1) dX12_lines_69 rfl ?_
        refine zV_isub dX12_lines_70 ?_
        obtain ⟨hg, h⟩ := zs_gd h
        refine zV_iald (zq_245 hZ) hg dX12_lines_71 (fun m8 => ?_)
        obtain ⟨hg, h⟩ := zs_gd h
        refine zV_iald (zq_259 hZ) hg dX12_lines_72 (fun m9 => ?_)
        refine zV_cSI (y' := zmX12_away) (n' := 0) (As := [zI (M 259 (M 245 x4)), zI (M 259 (M 245 (x4 - 1)))]) zc_X12_399 dX12_lines_73 (Nat.le_trans (by decide) hn) rfl (Nat.le_of_ble_eq_true rfl) (Nat.le_of_ble_eq_true rfl) rfl h (fun Q' h' => fX12_away_ok hZ (Nat.le_refl _) m7 m9 h') (fun r10 c11 b12 h => ?_)
        refine zV_goto 80 dX12_lines_76 (by decide) ?_
        exact fX12_lines_j80_ok hZ hn hn0 hx1 hx2 hx3 hx4 c11 hx3 hF_lines h hc he
noncomputable def fX12_lines_l141 (F_lines : Int → Int → zMem → Option zMem) (x1 x2 x4 : Int) (M : zMem) : Option ((Int × zMem) ⊕ (Int × zMem)) :=
  (zgd ((0 : Int) ≤ (0 : Int) ∧ (0 : Int) < 6) (if (M 211 0) ≤ x4 then some (.inr (x4, M)) else (zgd ((0 : Int) ≤ x4 ∧ x4 < 72) (if (M 219 x4) < 0 then some (.inl ((zw (x4 + 1)), M)) else (zgd ((0 : Int) ≤ x4 ∧ x4 < 12) (if (M 259 x4) < 0 then (zgd ((0 : Int) ≤ x4 ∧ x4 < 12) (zbd (F_lines (zw (x1 + 1)) x2 (zup M 259 x4 x1)) fun M32 => (zgd ((0 : Int) ≤ x4 ∧ x4 < 12) (some (.inl ((zw (x4 + 1)), (zup M32 259 x4 (-1)))))))) else some (.inl ((zw (x4 + 1)), M))))))))
set_option maxRecDepth 100000 in
set_option maxHeartbeats 4000000 in
theorem fX12_lines_l141_ok {Z : zZ} (hZ : zB Z) {nn : Nat} (hn : 1 ≤ nn) {n0 : Nat} (hn0 : n0 + 1 ≤ nn) {F_lines : Int → Int → zMem → Option zMem}  {x1 x2 x4 : Int} (hx1 : z32 x1) (hx2 : z32 x2) (hx4 : z32 x4) {M : zMem} (hF_lines : ∀ (y0 y1 : Int) (M : zMem) (Q : Option zAV → zMem → zZ → Prop), z32 y0 → z32 y1 → zSat (F_lines y0 y1 M) (fun r => Q none r Z) → zV zmX12_lines n0 0 0 Z 0 (zent 0 [zR 200, zI y0, zI y1]) [] M Q) {Q : Option zAV → zMem → zZ → Prop} {P : (Int × zMem) ⊕ (Int × zMem) → Prop} (h : zSat (fX12_lines_l141 F_lines x1 x2 x4 M) P)  (hc : ∀ s : Int × zMem, P (.inl s) → z32 (s.1) → zV zmX12_lines nn 0 0 Z 141 [(0, zR 200), (1, zI x1), (2, zI x2), (4, zI (s.1))] [] (s.2) Q) (he : ∀ s : Int × zMem, P (.inr s) → z32 (s.1) → zV zmX12_lines nn 0 0 Z 205 [(0, zR 200), (1, zI x1), (2, zI x2), (4, zI (s.1))] [] (s.2) Q)   : zV zmX12_lines nn 0 0 Z 141 [(0, zR 200), (1, zI x1), (2, zI x2), (4, zI x4)] [] M Q := by
  unfold fX12_lines_l141 at h
  refine zV_iload 3 dX12_lines_141 rfl ?_
  refine zV_aload_n 0 dX12_lines_143 rfl rfl ?_
  refine zV_getR (j := 211) (zq_200 hZ) zf_X12_10 zkf_X12_13 rfl dX12_lines_144 ?_
  refine zV_iconst (v := 0) dX12_lines_147 rfl ?_
  obtain ⟨hg, h⟩ := zs_gd h
  refine zV_iald (zq_211 hZ) hg dX12_lines_148 (fun m26 => ?_)
  refine zV_icmp_ge 205 dX12_lines_149 (by decide) hx4 m26 (fun hc_ => ?_) (fun hc_ => ?_)
  · replace h := zs_t h hc_
    exact he _ h hx4
  · replace h := zs_f h hc_
    refine zV_aload_n 0 dX12_lines_152 rfl rfl ?_
    refine zV_getR (j := 219) (zq_200 hZ) zf_X12_18 zkf_X12_38 rfl dX12_lines_153 ?_
    refine zV_iload 3 dX12_lines_156 rfl ?_
    obtain ⟨hg, h⟩ := zs_gd h
    refine zV_iald (zq_219 hZ) hg dX12_lines_158 (fun m27 => ?_)
    refine zV_if_lt 199 dX12_lines_159 (by decide) m27 (fun hc_ => ?_) (fun hc_ => ?_)
    · replace h := zs_t h hc_
      refine zV_iinc 3 [(4, zI (zw (x4 + 1))), (0, zR 200), (1, zI x1), (2, zI x2)] dX12_lines_199 rfl rfl (by decide) rfl ?_
      refine zV_goto 141 dX12_lines_202 (by decide) ?_
      refine zV_ls [1, 2, 3, 0] rfl ?_
      exact hc _ h (z32_w _)
    · replace h := zs_f h hc_
      refine zV_aload_n 0 dX12_lines_162 rfl rfl ?_
      refine zV_getR (j := 259) (zq_200 hZ) zf_X12_58 zkf_X12_141 rfl dX12_lines_163 ?_
      refine zV_iload 3 dX12_lines_166 rfl ?_
      obtain ⟨hg, h⟩ := zs_gd h
      refine zV_iald (zq_259 hZ) hg dX12_lines_168 (fun m28 => ?_)
      refine zV_if_lt 175 dX12_lines_169 (by decide) m28 (fun hc_ => ?_) (fun hc_ => ?_)
      · replace h := zs_t h hc_
        refine zV_aload_n 0 dX12_lines_175 rfl rfl ?_
        refine zV_getR (j := 259) (zq_200 hZ) zf_X12_58 zkf_X12_141 rfl dX12_lines_176 ?_
        refine zV_iload 3 dX12_lines_179 rfl ?_
        refine zV_iload_n 1 dX12_lines_181 rfl rfl ?_
        obtain ⟨hg, h⟩ := zs_gd h
        refine zV_iast (zq_259 hZ) (by decide) hg hx1 dX12_lines_182 ?_
        refine zV_aload_n 0 dX12_lines_183 rfl rfl ?_
        refine zV_iload_n 1 dX12_lines_184 rfl rfl ?_
        refine zV_iconst (v := 1) dX12_lines_185 rfl ?_
        refine zV_iadd dX12_lines_186 ?_
        refine zV_iload_n 2 dX12_lines_187 rfl rfl ?_
        refine zV_w2 ?_
        refine zV_cVV (y' := zmX12_lines) (n' := n0) (As := [zI (zw (x1 + 1)), zI x2]) zc_X12_451 (zq_200 hZ) rfl dX12_lines_188 hn0 rfl (Nat.le_of_ble_eq_true rfl) (Nat.le_of_ble_eq_true rfl) rfl h (fun Q' h' => hF_lines _ _ _ Q' (z32_w _) hx2 h') (fun M32 h => ?_)
        refine zV_aload_n 0 dX12_lines_191 rfl rfl ?_
        refine zV_getR (j := 259) (zq_200 hZ) zf_X12_58 zkf_X12_141 rfl dX12_lines_192 ?_
        refine zV_iload 3 dX12_lines_195 rfl ?_
        refine zV_iconst (v := (-1)) dX12_lines_197 rfl ?_
        obtain ⟨hg, h⟩ := zs_gd h
        refine zV_iast (zq_259 hZ) (by decide) hg zi_n1 dX12_lines_198 ?_
        refine zV_iinc 3 [(4, zI (zw (x4 + 1))), (0, zR 200), (1, zI x1), (2, zI x2)] dX12_lines_199 rfl rfl (by decide) rfl ?_
        refine zV_goto 141 dX12_lines_202 (by decide) ?_
        refine zV_ls [1, 2, 3, 0] rfl ?_
        exact hc _ h (z32_w _)
      · replace h := zs_f h hc_
        refine zV_goto 199 dX12_lines_172 (by decide) ?_
        refine zV_iinc 3 [(4, zI (zw (x4 + 1))), (0, zR 200), (1, zI x1), (2, zI x2)] dX12_lines_199 rfl rfl (by decide) rfl ?_
        refine zV_goto 141 dX12_lines_202 (by decide) ?_
        refine zV_ls [1, 2, 3, 0] rfl ?_
        exact hc _ h (z32_w _)
noncomputable def fX12_lines_l110 (F_lines : Int → Int → zMem → Option zMem) (x4 : Int) (M : zMem) : Option ((Int × zMem) ⊕ (Int × zMem)) :=
  (if 12 ≤ x4 then some (.inr (x4, M)) else (zgd ((0 : Int) ≤ x4 ∧ x4 < 12) (zgd ((0 : Int) ≤ x4 ∧ x4 < 12) (some (.inl ((zw (x4 + 1)), (zup M 260 x4 (M 259 x4))))))))
set_option maxRecDepth 100000 in
set_option maxHeartbeats 4000000 in
theorem fX12_lines_l110_ok {Z : zZ} (hZ : zB Z) {nn : Nat} (hn : 1 ≤ nn) {n0 : Nat} (hn0 : n0 + 1 ≤ nn) {F_lines : Int → Int → zMem → Option zMem}  {x4 : Int} (hx4 : z32 x4) {M : zMem} (hF_lines : ∀ (y0 y1 : Int) (M : zMem) (Q : Option zAV → zMem → zZ → Prop), z32 y0 → z32 y1 → zSat (F_lines y0 y1 M) (fun r => Q none r Z) → zV zmX12_lines n0 0 0 Z 0 (zent 0 [zR 200, zI y0, zI y1]) [] M Q) {Q : Option zAV → zMem → zZ → Prop} {P : (Int × zMem) ⊕ (Int × zMem) → Prop} (h : zSat (fX12_lines_l110 F_lines x4 M) P)  (hc : ∀ s : Int × zMem, P (.inl s) → z32 (s.1) → zV zmX12_lines nn 0 0 Z 110 [(0, zR 200), (4, zI (s.1))] [] (s.2) Q) (he : ∀ s : Int × zMem, P (.inr s) → z32 (s.1) → zV zmX12_lines nn 0 0 Z 137 [(0, zR 200), (4, zI (s.1))] [] (s.2) Q)   : zV zmX12_lines nn 0 0 Z 110 [(0, zR 200), (4, zI x4)] [] M Q := by
  unfold fX12_lines_l110 at h
  refine zV_iload 1 dX12_lines_110 rfl ?_
  refine zV_bipush (v := 12) dX12_lines_112 rfl ?_
  refine zV_icmp_ge 137 dX12_lines_114 (by decide) hx4 zi_12 (fun hc_ => ?_) (fun hc_ => ?_)
  · replace h := zs_t h hc_
    exact he _ h hx4
  · replace h := zs_f h hc_
    refine zV_aload_n 0 dX12_lines_117 rfl rfl ?_
    refine zV_getR (j := 260) (zq_200 hZ) zf_X12_59 zkf_X12_144 rfl dX12_lines_118 ?_
    refine zV_iload 1 dX12_lines_121 rfl ?_
    refine zV_aload_n 0 dX12_lines_123 rfl rfl ?_
    refine zV_getR (j := 259) (zq_200 hZ) zf_X12_58 zkf_X12_141 rfl dX12_lines_124 ?_
    refine zV_iload 1 dX12_lines_127 rfl ?_
    obtain ⟨hg, h⟩ := zs_gd h
    refine zV_iald (zq_259 hZ) hg dX12_lines_129 (fun m42 => ?_)
    obtain ⟨hg, h⟩ := zs_gd h
    refine zV_iast (zq_260 hZ) (by decide) hg m42 dX12_lines_130 ?_
    refine zV_iinc 1 [(4, zI (zw (x4 + 1))), (0, zR 200)] dX12_lines_131 rfl rfl (by decide) rfl ?_
    refine zV_goto 110 dX12_lines_134 (by decide) ?_
    refine zV_ls [1, 0] rfl ?_
    exact hc _ h (z32_w _)
noncomputable def fX12_lines_s (F_lines : Int → Int → zMem → Option zMem) (x1 x2 : Int) (M : zMem) : Option (zMem) :=
  (zbd (zit (fun s14 => fX12_lines_l5 F_lines x1 x2 (s14.1) (s14.2) M) (0, 1)) fun s21 => (if s21.1 < (M 200 60) then (if x1 = x2 then (zbd (zit (fun s43 => fX12_lines_l110 F_lines (s43.1) (s43.2)) (0, (zup M 200 60 (s21.1)))) fun s49 => some (s49.2)) else (zbd (zit (fun s33 => fX12_lines_l141 F_lines x1 x2 (s33.1) (s33.2)) (0, M)) fun s39 => some (s39.2))) else some M))
set_option maxRecDepth 100000 in
set_option maxHeartbeats 4000000 in
theorem fX12_lines_s_ok {Z : zZ} (hZ : zB Z) {nn : Nat} (hn : 1 ≤ nn) {n0 : Nat} (hn0 : n0 + 1 ≤ nn) {F_lines : Int → Int → zMem → Option zMem}  {x1 x2 : Int} (hx1 : z32 x1) (hx2 : z32 x2) {M : zMem} (hF_lines : ∀ (y0 y1 : Int) (M : zMem) (Q : Option zAV → zMem → zZ → Prop), z32 y0 → z32 y1 → zSat (F_lines y0 y1 M) (fun r => Q none r Z) → zV zmX12_lines n0 0 0 Z 0 (zent 0 [zR 200, zI y0, zI y1]) [] M Q) {Q : Option zAV → zMem → zZ → Prop} (h : zSat (fX12_lines_s F_lines x1 x2 M) (fun r => Q none r Z))  : zV zmX12_lines nn 0 0 Z 0 [(0, zR 200), (1, zI x1), (2, zI x2)] [] M Q := by
  unfold fX12_lines_s at h
  refine zV_iconst (v := 0) dX12_lines_0 rfl ?_
  refine zV_istore_n [(3, zI 0), (0, zR 200), (1, zI x1), (2, zI x2)] dX12_lines_1 rfl (by decide) rfl ?_
  refine zV_iconst (v := 1) dX12_lines_2 rfl ?_
  refine zV_istore [(4, zI 1), (3, zI 0), (0, zR 200), (1, zI x1), (2, zI x2)] dX12_lines_3 (by decide) rfl ?_
  refine zV_ls [2, 3, 4, 1, 0] rfl ?_
  refine (zV_loop (Vh := fun s14 : Int × Int => z32 (s14.1) → z32 (s14.2) → zV zmX12_lines nn 0 0 Z 5 [(0, zR 200), (1, zI x1), (2, zI x2), (3, zI (s14.1)), (4, zI (s14.2))] [] M Q) h (fun s14 P15 hP16 hc17 he18 => ?_)) zi_0 zi_1
  intro c19 c20
  refine fX12_lines_l5_ok hZ hn hn0 hx1 hx2 c19 c20 hF_lines hP16 hc17 (fun s21 h22 d23 d24 => ?_)
  have h := he18 _ h22
  refine zV_iload_n 3 dX12_lines_88 rfl rfl ?_
  refine zV_aload_n 0 dX12_lines_89 rfl rfl ?_
  refine zV_getI (zq_200 hZ) zf_X12_60 zkf_X12_449 rfl dX12_lines_90 (fun m25 => ?_)
  refine zV_icmp_lt 97 dX12_lines_93 (by decide) d23 m25 (fun hc_ => ?_) (fun hc_ => ?_)
  · replace h := zs_t h hc_
    refine zV_iload_n 1 dX12_lines_97 rfl rfl ?_
    refine zV_iload_n 2 dX12_lines_98 rfl rfl ?_
    refine zV_icmp_ne 138 dX12_lines_99 (by decide) hx1 hx2 (fun hc_ => ?_) (fun hc_ => ?_)
    · replace h := zs_f h hc_
      refine zV_iconst (v := 0) dX12_lines_138 rfl ?_
      refine zV_istore [(4, zI 0), (0, zR 200), (1, zI x1), (2, zI x2), (3, zI (s21.1))] dX12_lines_139 (by decide) rfl ?_
      refine zV_ls [1, 2, 3, 0] rfl ?_
      refine (zV_loop (Vh := fun s33 : Int × zMem => z32 (s33.1) → zV zmX12_lines nn 0 0 Z 141 [(0, zR 200), (1, zI x1), (2, zI x2), (4, zI (s33.1))] [] (s33.2) Q) h (fun s33 P34 hP35 hc36 he37 => ?_)) zi_0
      intro c38
      refine fX12_lines_l141_ok hZ hn hn0 hx1 hx2 c38 hF_lines hP35 hc36 (fun s39 h40 d41 => ?_)
      have h := he37 _ h40
      exact zV_vret dX12_lines_205 rfl h
    · replace h := zs_t h hc_
      refine zV_aload_n 0 dX12_lines_102 rfl rfl ?_
      refine zV_iload_n 3 dX12_lines_103 rfl rfl ?_
      refine zV_putI (zq_200 hZ) (by decide) zf_X12_60 zkf_X12_449 rfl dX12_lines_104 d23 ?_
      refine zV_iconst (v := 0) dX12_lines_107 rfl ?_
      refine zV_istore [(4, zI 0), (0, zR 200), (1, zI x1), (2, zI x2), (3, zI (s21.1))] dX12_lines_108 (by decide) rfl ?_
      refine zV_ls [1, 0] rfl ?_
      refine (zV_loop (Vh := fun s43 : Int × zMem => z32 (s43.1) → zV zmX12_lines nn 0 0 Z 110 [(0, zR 200), (4, zI (s43.1))] [] (s43.2) Q) h (fun s43 P44 hP45 hc46 he47 => ?_)) zi_0
      intro c48
      refine fX12_lines_l110_ok hZ hn hn0 c48 hF_lines hP45 hc46 (fun s49 h50 d51 => ?_)
      have h := he47 _ h50
      exact zV_vret dX12_lines_137 rfl h
  · replace h := zs_f h hc_
    exact zV_vret dX12_lines_96 rfl h
noncomputable def fX12_lines : Nat → Int → Int → zMem → Option (zMem)
  | 0, _, _, _ => none
  | d + 1, x1, x2, M => fX12_lines_s (fX12_lines d) x1 x2 M
theorem fX12_lines_ok {Z : zZ} (hZ : zB Z) : ∀ (d : Nat) {nn : Nat} (hn : 1 + d ≤ nn) {x1 x2 : Int} (hx1 : z32 x1) (hx2 : z32 x2) {M : zMem} {Q : Option zAV → zMem → zZ → Prop} (h : zSat (fX12_lines d x1 x2 M) (fun r => Q none r Z)), zV zmX12_lines nn 0 0 Z 0 [(0, zR 200), (1, zI x1), (2, zI x2)] [] M Q
  | 0, _, _, _, _,  _, _,  _, _, h => h.elim
  | d + 1, nn, hn, x1, x2,  hx1, hx2,  M, Q, h => fX12_lines_s_ok (n0 := nn - 1) hZ (by omega) (by omega) hx1 hx2 (fun _ _ M' Q' gx1 gx2 hh => fX12_lines_ok hZ d (by omega) gx1 gx2 hh) h
noncomputable def fX12_hasLines_l22 (x1 x2 : Int) (M : zMem) : Option ((Int × zMem) ⊕ (Int × zMem)) :=
  (if 12 ≤ x2 then some (.inr (x2, M)) else (zgd ((0 : Int) ≤ x2 ∧ x2 < 12) (some (.inl ((zw (x2 + 1)), (zup M 259 x2 (-1)))))))
set_option maxRecDepth 100000 in
set_option maxHeartbeats 4000000 in
theorem fX12_hasLines_l22_ok {Z : zZ} (hZ : zB Z) {nn : Nat} (hn : 22 ≤ nn)  {x1 x2 : Int} (hx1 : z32 x1) (hx2 : z32 x2) {M : zMem} {Q : Option zAV → zMem → zZ → Prop} {P : (Int × zMem) ⊕ (Int × zMem) → Prop} (h : zSat (fX12_hasLines_l22 x1 x2 M) P)  (hc : ∀ s : Int × zMem, P (.inl s) → z32 (s.1) → zV zmX12_hasLines nn 0 0 Z 22 [(0, zR 200), (1, zI x1), (2, zI (s.1))] [] (s.2) Q) (he : ∀ s : Int × zMem, P (.inr s) → z32 (s.1) → zV zmX12_hasLines nn 0 0 Z 41 [(0, zR 200), (1, zI x1), (2, zI (s.1))] [] (s.2) Q)   : zV zmX12_hasLines nn 0 0 Z 22 [(0, zR 200), (1, zI x1), (2, zI x2)] [] M Q := by
  unfold fX12_hasLines_l22 at h
  refine zV_iload_n 2 dX12_hasLines_22 rfl rfl ?_
  refine zV_bipush (v := 12) dX12_hasLines_23 rfl ?_
  refine zV_icmp_ge 41 dX12_hasLines_25 (by decide) hx2 zi_12 (fun hc_ => ?_) (fun hc_ => ?_)
  · replace h := zs_t h hc_
    exact he _ h hx2
  · replace h := zs_f h hc_
    refine zV_aload_n 0 dX12_hasLines_28 rfl rfl ?_
    refine zV_getR (j := 259) (zq_200 hZ) zf_X12_58 zkf_X12_141 rfl dX12_hasLines_29 ?_
    refine zV_iload_n 2 dX12_hasLines_32 rfl rfl ?_
    refine zV_iconst (v := (-1)) dX12_hasLines_33 rfl ?_
    obtain ⟨hg, h⟩ := zs_gd h
    refine zV_iast (zq_259 hZ) (by decide) hg zi_n1 dX12_hasLines_34 ?_
    refine zV_iinc 2 [(2, zI (zw (x2 + 1))), (0, zR 200), (1, zI x1)] dX12_hasLines_35 rfl rfl (by decide) rfl ?_
    refine zV_goto 22 dX12_hasLines_38 (by decide) ?_
    refine zV_ls [1, 2, 0] rfl ?_
    exact hc _ h (z32_w _)
noncomputable def fX12_hasLines (M : zMem) : Option (Int × zMem) :=
  (zbd (fX12_placed M) fun r1 => (if r1 ≤ 8 then (zbd (zit (fun s5 => fX12_hasLines_l22 r1 (s5.1) (s5.2)) (0, (zup M 200 60 100000000))) fun s11 => (zbd (fX12_lines 20 0 r1 (s11.2)) fun M17 => some (1, M17))) else some (0, M)))
set_option maxRecDepth 100000 in
set_option maxHeartbeats 4000000 in
theorem fX12_hasLines_ok {Z : zZ} (hZ : zB Z) {nn : Nat} (hn : 22 ≤ nn)   {M : zMem} {Q : Option zAV → zMem → zZ → Prop} (h : zSat (fX12_hasLines M) (fun r => Q (some (zI r.1)) r.2 Z))  : zV zmX12_hasLines nn 0 0 Z 0 [(0, zR 200)] [] M Q := by
  unfold fX12_hasLines at h
  refine zV_aload_n 0 dX12_hasLines_0 rfl rfl ?_
  refine zV_cVI (y' := zmX12_placed) (n' := 0) (As := []) zc_X12_454 (zq_200 hZ) rfl dX12_hasLines_1 (Nat.le_trans (by decide) hn) rfl (Nat.le_of_ble_eq_true rfl) (Nat.le_of_ble_eq_true rfl) rfl h (fun Q' h' => fX12_placed_ok hZ (Nat.le_refl _)  h') (fun r1 c2 b3 h => ?_)
  refine zV_istore_n [(1, zI r1), (0, zR 200)] dX12_hasLines_4 rfl (by decide) rfl ?_
  refine zV_iload_n 0 dX12_hasLines_5 rfl rfl ?_
  refine zV_bipush (v := 8) dX12_hasLines_6 rfl ?_
  refine zV_icmp_le 13 dX12_hasLines_8 (by decide) c2 zi_8 (fun hc_ => ?_) (fun hc_ => ?_)
  · replace h := zs_t h hc_
    refine zV_aload_n 1 dX12_hasLines_13 rfl rfl ?_
    refine zV_ldcw (v := 100000000) zko_X12_371 rfl dX12_hasLines_14 ?_
    refine zV_putI (zq_200 hZ) (by decide) zf_X12_60 zkf_X12_449 rfl dX12_hasLines_17 zi_100000000 ?_
    refine zV_iconst (v := 0) dX12_hasLines_20 rfl ?_
    refine zV_istore_n [(2, zI 0), (1, zI r1), (0, zR 200)] dX12_hasLines_21 rfl (by decide) rfl ?_
    refine zV_ls [2, 1, 0] rfl ?_
    refine (zV_loop (Vh := fun s5 : Int × zMem => z32 (s5.1) → zV zmX12_hasLines nn 0 0 Z 22 [(0, zR 200), (1, zI r1), (2, zI (s5.1))] [] (s5.2) Q) h (fun s5 P6 hP7 hc8 he9 => ?_)) zi_0
    intro c10
    refine fX12_hasLines_l22_ok hZ hn c2 c10 hP7 hc8 (fun s11 h12 d13 => ?_)
    have h := he9 _ h12
    refine zV_aload_n 0 dX12_hasLines_41 rfl rfl ?_
    refine zV_iconst (v := 0) dX12_hasLines_42 rfl ?_
    refine zV_iload_n 1 dX12_hasLines_43 rfl rfl ?_
    refine zV_cVV (y' := zmX12_lines) (n' := 21) (As := [zI 0, zI r1]) zc_X12_451 (zq_200 hZ) rfl dX12_hasLines_44 (Nat.le_trans (by decide) hn) rfl (Nat.le_of_ble_eq_true rfl) (Nat.le_of_ble_eq_true rfl) rfl h (fun Q' h' => fX12_lines_ok hZ 20 (Nat.le_refl _) zi_0 c2 h') (fun M17 h => ?_)
    refine zV_iconst (v := 1) dX12_hasLines_47 rfl ?_
    exact zV_iretb dX12_hasLines_48 rfl (Or.inr rfl) h
  · replace h := zs_f h hc_
    refine zV_iconst (v := 0) dX12_hasLines_11 rfl ?_
    exact zV_iretb dX12_hasLines_12 rfl (Or.inl rfl) h
noncomputable def fX12_order (M : zMem) : Option (Int × zMem) :=
  (zbd2 (fX12_hasLines (zup M 200 0 0)) fun r1 M4 => (if r1 = 0 then some ((-1), M4) else some ((M4 200 60), M4)))
set_option maxRecDepth 100000 in
set_option maxHeartbeats 4000000 in
theorem fX12_order_ok {Z : zZ} (hZ : zB Z) {nn : Nat} (hn : 23 ≤ nn)   {M : zMem} {Q : Option zAV → zMem → zZ → Prop} (h : zSat (fX12_order M) (fun r => Q (some (zI r.1)) r.2 Z))  : zV zmX12_order nn 0 0 Z 0 [(0, zR 200)] [] M Q := by
  unfold fX12_order at h
  refine zV_aload_n 0 dX12_order_0 rfl rfl ?_
  refine zV_iconst (v := 0) dX12_order_1 rfl ?_
  refine zV_putI (zq_200 hZ) (by decide) zf_X12_0 zkf_X12_157 rfl dX12_order_2 zi_0 ?_
  refine zV_aload_n 0 dX12_order_5 rfl rfl ?_
  refine zV_cVIm (y' := zmX12_hasLines) (n' := 22) (As := []) zc_X12_457 (zq_200 hZ) rfl dX12_order_6 (Nat.le_trans (by decide) hn) rfl (Nat.le_of_ble_eq_true rfl) (Nat.le_of_ble_eq_true rfl) rfl h (fun Q' h' => fX12_hasLines_ok hZ (Nat.le_refl _)  h') (fun r1 M4 c2 b3 h => ?_)
  refine zV_if_eq 19 dX12_order_9 (by decide) c2 (fun hc_ => ?_) (fun hc_ => ?_)
  · replace h := zs_t h hc_
    refine zV_iconst (v := (-1)) dX12_order_19 rfl ?_
    exact zV_ireti dX12_order_20 rfl zi_n1 h
  · replace h := zs_f h hc_
    refine zV_aload_n 0 dX12_order_12 rfl rfl ?_
    refine zV_getI (zq_200 hZ) zf_X12_60 zkf_X12_449 rfl dX12_order_13 (fun m5 => ?_)
    refine zV_goto 20 dX12_order_16 (by decide) ?_
    exact zV_ireti dX12_order_20 rfl m5 h
noncomputable def fX12_ordered_l20 (x1 x2 : Int) (M : zMem) : Option ((Int) ⊕ ((Int) ⊕ (Int × zMem))) :=
  (if 12 ≤ x2 then some (.inr (.inl x2)) else (zgd ((0 : Int) ≤ x2 ∧ x2 < 12) (if (M 260 x2) = x1 then some (.inr (.inr (x2, M))) else some (.inl (zw (x2 + 1))))))
set_option maxRecDepth 100000 in
set_option maxHeartbeats 4000000 in
theorem fX12_ordered_l20_ok {Z : zZ} (hZ : zB Z) {nn : Nat} (hn : 23 ≤ nn)  {x1 x2 : Int} (hx1 : z32 x1) (hx2 : z32 x2) {M : zMem} {Q : Option zAV → zMem → zZ → Prop} {P : (Int) ⊕ ((Int) ⊕ (Int × zMem)) → Prop} (h : zSat (fX12_ordered_l20 x1 x2 M) P)  (hc : ∀ s : Int, P (.inl s) → z32 s → zV zmX12_ordered nn 0 0 Z 20 [(0, zR 200), (1, zI x1), (2, zI s)] [] M Q) (he : ∀ s : Int, P (.inr (.inl s)) → z32 s → zV zmX12_ordered nn 0 0 Z 44 [(0, zR 200), (1, zI x1), (2, zI s)] [] M Q) (hr : ∀ r : Int × zMem, P (.inr (.inr r)) → (fun r => Q (some (zI r.1)) r.2 Z) r)  : zV zmX12_ordered nn 0 0 Z 20 [(0, zR 200), (1, zI x1), (2, zI x2)] [] M Q := by
  unfold fX12_ordered_l20 at h
  refine zV_iload_n 2 dX12_ordered_20 rfl rfl ?_
  refine zV_bipush (v := 12) dX12_ordered_21 rfl ?_
  refine zV_icmp_ge 44 dX12_ordered_23 (by decide) hx2 zi_12 (fun hc_ => ?_) (fun hc_ => ?_)
  · replace h := zs_t h hc_
    exact he _ h hx2
  · replace h := zs_f h hc_
    refine zV_aload_n 0 dX12_ordered_26 rfl rfl ?_
    refine zV_getR (j := 260) (zq_200 hZ) zf_X12_59 zkf_X12_144 rfl dX12_ordered_27 ?_
    refine zV_iload_n 2 dX12_ordered_30 rfl rfl ?_
    obtain ⟨hg, h⟩ := zs_gd h
    refine zV_iald (zq_260 hZ) hg dX12_ordered_31 (fun m5 => ?_)
    refine zV_iload_n 1 dX12_ordered_32 rfl rfl ?_
    refine zV_icmp_ne 38 dX12_ordered_33 (by decide) m5 hx1 (fun hc_ => ?_) (fun hc_ => ?_)
    · replace h := zs_f h hc_
      refine zV_iinc 2 [(2, zI (zw (x2 + 1))), (0, zR 200), (1, zI x1)] dX12_ordered_38 rfl rfl (by decide) rfl ?_
      refine zV_goto 20 dX12_ordered_41 (by decide) ?_
      refine zV_ls [1, 2, 0] rfl ?_
      exact hc _ h (z32_w _)
    · replace h := zs_t h hc_
      refine zV_iload_n 2 dX12_ordered_36 rfl rfl ?_
      exact zV_ireti dX12_ordered_37 rfl hx2 (hr _ h)
noncomputable def fX12_ordered (x1 : Int) (M : zMem) : Option (Int × zMem) :=
  (if x1 < 0 then some ((-1), (zup M 200 0 0)) else (zbd2 (fX12_hasLines (zup M 200 0 0)) fun r1 M4 => (if r1 = 0 then some ((-1), M4) else (zbd (zit (fun s6 => fX12_ordered_l20 x1 s6 M4) 0) fun e => zel e (fun s12 => some ((-1), M4)) (fun r => some r)))))
set_option maxRecDepth 100000 in
set_option maxHeartbeats 4000000 in
theorem fX12_ordered_ok {Z : zZ} (hZ : zB Z) {nn : Nat} (hn : 23 ≤ nn)  {x1 : Int} (hx1 : z32 x1) {M : zMem} {Q : Option zAV → zMem → zZ → Prop} (h : zSat (fX12_ordered x1 M) (fun r => Q (some (zI r.1)) r.2 Z))  : zV zmX12_ordered nn 0 0 Z 0 [(0, zR 200), (1, zI x1)] [] M Q := by
  unfold fX12_ordered at h
  refine zV_aload_n 0 dX12_ordered_0 rfl rfl ?_
  refine zV_iconst (v := 0) dX12_ordered_1 rfl ?_
  refine zV_putI (zq_200 hZ) (by decide) zf_X12_0 zkf_X12_157 rfl dX12_ordered_2 zi_0 ?_
  refine zV_iload_n 1 dX12_ordered_5 rfl rfl ?_
  refine zV_if_lt 16 dX12_ordered_6 (by decide) hx1 (fun hc_ => ?_) (fun hc_ => ?_)
  · replace h := zs_t h hc_
    refine zV_iconst (v := (-1)) dX12_ordered_16 rfl ?_
    exact zV_ireti dX12_ordered_17 rfl zi_n1 h
  · replace h := zs_f h hc_
    refine zV_aload_n 0 dX12_ordered_9 rfl rfl ?_
    refine zV_cVIm (y' := zmX12_hasLines) (n' := 22) (As := []) zc_X12_457 (zq_200 hZ) rfl dX12_ordered_10 (Nat.le_trans (by decide) hn) rfl (Nat.le_of_ble_eq_true rfl) (Nat.le_of_ble_eq_true rfl) rfl h (fun Q' h' => fX12_hasLines_ok hZ (Nat.le_refl _)  h') (fun r1 M4 c2 b3 h => ?_)
    refine zV_if_ne 18 dX12_ordered_13 (by decide) c2 (fun hc_ => ?_) (fun hc_ => ?_)
    · replace h := zs_f h hc_
      refine zV_iconst (v := 0) dX12_ordered_18 rfl ?_
      refine zV_istore_n [(2, zI 0), (0, zR 200), (1, zI x1)] dX12_ordered_19 rfl (by decide) rfl ?_
      refine zV_ls [1, 2, 0] rfl ?_
      refine (zV_loop (Vh := fun s6 : Int => z32 s6 → zV zmX12_ordered nn 0 0 Z 20 [(0, zR 200), (1, zI x1), (2, zI s6)] [] M4 Q) h (fun s6 P7 hP8 hc9 he10 => ?_)) zi_0
      intro c11
      refine fX12_ordered_l20_ok hZ hn hx1 c11 hP8 hc9 (fun s12 h13 d14 => ?_) (fun r15 h16 => he10 _ h16)
      have h := he10 _ h13
      refine zV_iconst (v := (-1)) dX12_ordered_44 rfl ?_
      exact zV_ireti dX12_ordered_45 rfl zi_n1 h
    · replace h := zs_t h hc_
      refine zV_iconst (v := (-1)) dX12_ordered_16 rfl ?_
      exact zV_ireti dX12_ordered_17 rfl zi_n1 h
noncomputable def fX12_keeps_l3 (o1 no1 : Nat) (x2 x3 x4 : Int) (M : zMem) : Option ((Int × zMem) ⊕ (Int × zMem)) :=
  (if 24 ≤ x4 then some (.inr (x4, M)) else (if x3 = 0 then (zgd ((0 : Int) ≤ x4 ∧ x4 < ((no1 : Nat) : Int)) (zgd ((0 : Int) ≤ ((24 + (24 * x2)) + x4) ∧ ((24 + (24 * x2)) + x4) < ((no1 : Nat) : Int)) (some (.inl ((zw (x4 + 1)), (zup M o1 ((24 + (24 * x2)) + x4) (M o1 x4))))))) else (zgd ((0 : Int) ≤ ((24 + (24 * x2)) + x4) ∧ ((24 + (24 * x2)) + x4) < ((no1 : Nat) : Int)) (zgd ((0 : Int) ≤ x4 ∧ x4 < ((no1 : Nat) : Int)) (some (.inl ((zw (x4 + 1)), (zup M o1 x4 (M o1 ((24 + (24 * x2)) + x4))))))))))
set_option maxRecDepth 100000 in
set_option maxHeartbeats 4000000 in
theorem fX12_keeps_l3_ok {Z : zZ} (hZ : zB Z) {nn : Nat} (hn : 0 ≤ nn) {o1 no1 : Nat} (hz_o1 : Z o1 = some (.inr (0, no1))) (hw_o1 : o1 < 1000)  {x2 x3 x4 : Int} (hx2 : z32 x2) (hx3 : z32 x3) (hx4 : z32 x4) {M : zMem} {Q : Option zAV → zMem → zZ → Prop} {P : (Int × zMem) ⊕ (Int × zMem) → Prop} (h : zSat (fX12_keeps_l3 o1 no1 x2 x3 x4 M) P)  (hc : ∀ s : Int × zMem, P (.inl s) → z32 (s.1) → zV zmX12_keeps nn 0 0 Z 3 [(1, zR o1), (2, zI x2), (3, zI x3), (4, zI (s.1))] [] (s.2) Q) (he : ∀ s : Int × zMem, P (.inr s) → z32 (s.1) → zV zmX12_keeps nn 0 0 Z 55 [(1, zR o1), (2, zI x2), (3, zI x3), (4, zI (s.1))] [] (s.2) Q)   : zV zmX12_keeps nn 0 0 Z 3 [(1, zR o1), (2, zI x2), (3, zI x3), (4, zI x4)] [] M Q := by
  unfold fX12_keeps_l3 at h
  refine zV_iload 3 dX12_keeps_3 rfl ?_
  refine zV_bipush (v := 24) dX12_keeps_5 rfl ?_
  refine zV_icmp_ge 55 dX12_keeps_7 (by decide) hx4 zi_24 (fun hc_ => ?_) (fun hc_ => ?_)
  · replace h := zs_t h hc_
    exact he _ h hx4
  · replace h := zs_f h hc_
    refine zV_iload_n 2 dX12_keeps_10 rfl rfl ?_
    refine zV_if_eq 33 dX12_keeps_11 (by decide) hx3 (fun hc_ => ?_) (fun hc_ => ?_)
    · replace h := zs_t h hc_
      refine zV_aload_n 0 dX12_keeps_33 rfl rfl ?_
      refine zV_bipush (v := 24) dX12_keeps_34 rfl ?_
      refine zV_bipush (v := 24) dX12_keeps_36 rfl ?_
      refine zV_iload_n 1 dX12_keeps_38 rfl rfl ?_
      refine zV_imul dX12_keeps_39 ?_
      refine zV_iadd dX12_keeps_40 ?_
      refine zV_iload 3 dX12_keeps_41 rfl ?_
      refine zV_iadd dX12_keeps_43 ?_
      refine zV_aload_n 0 dX12_keeps_44 rfl rfl ?_
      refine zV_iload 3 dX12_keeps_45 rfl ?_
      obtain ⟨hg, h⟩ := zs_gd h
      refine zV_iald hz_o1 hg dX12_keeps_47 (fun m1 => ?_)
      obtain ⟨hg, h⟩ := zs_gd h
      refine zV_iast hz_o1 hw_o1 hg m1 dX12_keeps_48 ?_
      refine zV_iinc 3 [(4, zI (zw (x4 + 1))), (1, zR o1), (2, zI x2), (3, zI x3)] dX12_keeps_49 rfl rfl (by decide) rfl ?_
      refine zV_goto 3 dX12_keeps_52 (by decide) ?_
      refine zV_ls [1, 2, 3, 0] rfl ?_
      exact hc _ h (z32_w _)
    · replace h := zs_f h hc_
      refine zV_aload_n 0 dX12_keeps_14 rfl rfl ?_
      refine zV_iload 3 dX12_keeps_15 rfl ?_
      refine zV_aload_n 0 dX12_keeps_17 rfl rfl ?_
      refine zV_bipush (v := 24) dX12_keeps_18 rfl ?_
      refine zV_bipush (v := 24) dX12_keeps_20 rfl ?_
      refine zV_iload_n 1 dX12_keeps_22 rfl rfl ?_
      refine zV_imul dX12_keeps_23 ?_
      refine zV_iadd dX12_keeps_24 ?_
      refine zV_iload 3 dX12_keeps_25 rfl ?_
      refine zV_iadd dX12_keeps_27 ?_
      obtain ⟨hg, h⟩ := zs_gd h
      refine zV_iald hz_o1 hg dX12_keeps_28 (fun m2 => ?_)
      obtain ⟨hg, h⟩ := zs_gd h
      refine zV_iast hz_o1 hw_o1 hg m2 dX12_keeps_29 ?_
      refine zV_goto 49 dX12_keeps_30 (by decide) ?_
      refine zV_iinc 3 [(4, zI (zw (x4 + 1))), (1, zR o1), (2, zI x2), (3, zI x3)] dX12_keeps_49 rfl rfl (by decide) rfl ?_
      refine zV_goto 3 dX12_keeps_52 (by decide) ?_
      refine zV_ls [1, 2, 3, 0] rfl ?_
      exact hc _ h (z32_w _)
noncomputable def fX12_keeps (o1 no1 : Nat) (x2 x3 : Int) (M : zMem) : Option (zMem) :=
  (zbd (zit (fun s3 => fX12_keeps_l3 o1 no1 x2 x3 (s3.1) (s3.2)) (0, M)) fun s9 => some (s9.2))
set_option maxRecDepth 100000 in
set_option maxHeartbeats 4000000 in
theorem fX12_keeps_ok {Z : zZ} (hZ : zB Z) {nn : Nat} (hn : 0 ≤ nn) {o1 no1 : Nat} (hz_o1 : Z o1 = some (.inr (0, no1))) (hw_o1 : o1 < 1000)  {x2 x3 : Int} (hx2 : z32 x2) (hx3 : z32 x3) (hbx3 : x3 = 0 ∨ x3 = 1) {M : zMem} {Q : Option zAV → zMem → zZ → Prop} (h : zSat (fX12_keeps o1 no1 x2 x3 M) (fun r => Q none r Z))  : zV zmX12_keeps nn 0 0 Z 0 [(0, zR 200), (1, zR o1), (2, zI x2), (3, zI x3)] [] M Q := by
  unfold fX12_keeps at h
  refine zV_iconst (v := 0) dX12_keeps_0 rfl ?_
  refine zV_istore [(4, zI 0), (0, zR 200), (1, zR o1), (2, zI x2), (3, zI x3)] dX12_keeps_1 (by decide) rfl ?_
  refine zV_ls [2, 3, 4, 0] rfl ?_
  refine (zV_loop (Vh := fun s3 : Int × zMem => z32 (s3.1) → zV zmX12_keeps nn 0 0 Z 3 [(1, zR o1), (2, zI x2), (3, zI x3), (4, zI (s3.1))] [] (s3.2) Q) h (fun s3 P4 hP5 hc6 he7 => ?_)) zi_0
  intro c8
  refine fX12_keeps_l3_ok hZ hn hz_o1 hw_o1 hx2 hx3 c8 hP5 hc6 (fun s9 h10 d11 => ?_)
  have h := he7 _ h10
  exact zV_vret dX12_keeps_55 rfl h
noncomputable def fX12_mark_j79 (x1 x2 : Int) (M : zMem) : Option (Int × zMem) :=
  (zbd (fX12_keeps 245 120 x1 x2 M) fun M13 => (zbd (fX12_keeps 246 120 x1 x2 M13) fun M17 => (zbd (fX12_keeps 247 120 x1 x2 M17) fun M21 => (zbd (fX12_keeps 248 120 x1 x2 M21) fun M25 => (zbd (fX12_keeps 249 120 x1 x2 M25) fun M29 => some (1, M29))))))
set_option maxRecDepth 100000 in
set_option maxHeartbeats 4000000 in
theorem fX12_mark_j79_ok {Z : zZ} (hZ : zB Z) {nn : Nat} (hn : 1 ≤ nn)  {x1 x2 : Int} (hx1 : z32 x1) (hx2 : z32 x2) (hbx2 : x2 = 0 ∨ x2 = 1) {M : zMem} {Q : Option zAV → zMem → zZ → Prop} (h : zSat (fX12_mark_j79 x1 x2 M) (fun r => Q (some (zI r.1)) r.2 Z))  : zV zmX12_mark nn 0 0 Z 79 [(0, zR 200), (1, zI x1), (2, zI x2)] [] M Q := by
  unfold fX12_mark_j79 at h
  refine zV_aload_n 0 dX12_mark_79 rfl rfl ?_
  refine zV_aload_n 0 dX12_mark_80 rfl rfl ?_
  refine zV_getR (j := 245) (zq_200 hZ) zf_X12_44 zkf_X12_108 rfl dX12_mark_81 ?_
  refine zV_iload_n 1 dX12_mark_84 rfl rfl ?_
  refine zV_iload_n 2 dX12_mark_85 rfl rfl ?_
  refine zV_cVV (y' := zmX12_keeps) (n' := 0) (As := [zR 245, zI x1, zI x2]) zc_X12_460 (zq_200 hZ) rfl dX12_mark_86 (Nat.le_trans (by decide) hn) rfl (Nat.le_of_ble_eq_true rfl) (Nat.le_of_ble_eq_true rfl) rfl h (fun Q' h' => fX12_keeps_ok hZ (Nat.le_refl _) (zq_245 hZ) (by decide) hx1 hx2 hbx2 h') (fun M13 h => ?_)
  refine zV_aload_n 0 dX12_mark_89 rfl rfl ?_
  refine zV_aload_n 0 dX12_mark_90 rfl rfl ?_
  refine zV_getR (j := 246) (zq_200 hZ) zf_X12_45 zkf_X12_111 rfl dX12_mark_91 ?_
  refine zV_iload_n 1 dX12_mark_94 rfl rfl ?_
  refine zV_iload_n 2 dX12_mark_95 rfl rfl ?_
  refine zV_cVV (y' := zmX12_keeps) (n' := 0) (As := [zR 246, zI x1, zI x2]) zc_X12_460 (zq_200 hZ) rfl dX12_mark_96 (Nat.le_trans (by decide) hn) rfl (Nat.le_of_ble_eq_true rfl) (Nat.le_of_ble_eq_true rfl) rfl h (fun Q' h' => fX12_keeps_ok hZ (Nat.le_refl _) (zq_246 hZ) (by decide) hx1 hx2 hbx2 h') (fun M17 h => ?_)
  refine zV_aload_n 0 dX12_mark_99 rfl rfl ?_
  refine zV_aload_n 0 dX12_mark_100 rfl rfl ?_
  refine zV_getR (j := 247) (zq_200 hZ) zf_X12_46 zkf_X12_114 rfl dX12_mark_101 ?_
  refine zV_iload_n 1 dX12_mark_104 rfl rfl ?_
  refine zV_iload_n 2 dX12_mark_105 rfl rfl ?_
  refine zV_cVV (y' := zmX12_keeps) (n' := 0) (As := [zR 247, zI x1, zI x2]) zc_X12_460 (zq_200 hZ) rfl dX12_mark_106 (Nat.le_trans (by decide) hn) rfl (Nat.le_of_ble_eq_true rfl) (Nat.le_of_ble_eq_true rfl) rfl h (fun Q' h' => fX12_keeps_ok hZ (Nat.le_refl _) (zq_247 hZ) (by decide) hx1 hx2 hbx2 h') (fun M21 h => ?_)
  refine zV_aload_n 0 dX12_mark_109 rfl rfl ?_
  refine zV_aload_n 0 dX12_mark_110 rfl rfl ?_
  refine zV_getR (j := 248) (zq_200 hZ) zf_X12_47 zkf_X12_117 rfl dX12_mark_111 ?_
  refine zV_iload_n 1 dX12_mark_114 rfl rfl ?_
  refine zV_iload_n 2 dX12_mark_115 rfl rfl ?_
  refine zV_cVV (y' := zmX12_keeps) (n' := 0) (As := [zR 248, zI x1, zI x2]) zc_X12_460 (zq_200 hZ) rfl dX12_mark_116 (Nat.le_trans (by decide) hn) rfl (Nat.le_of_ble_eq_true rfl) (Nat.le_of_ble_eq_true rfl) rfl h (fun Q' h' => fX12_keeps_ok hZ (Nat.le_refl _) (zq_248 hZ) (by decide) hx1 hx2 hbx2 h') (fun M25 h => ?_)
  refine zV_aload_n 0 dX12_mark_119 rfl rfl ?_
  refine zV_aload_n 0 dX12_mark_120 rfl rfl ?_
  refine zV_getR (j := 249) (zq_200 hZ) zf_X12_48 zkf_X12_120 rfl dX12_mark_121 ?_
  refine zV_iload_n 1 dX12_mark_124 rfl rfl ?_
  refine zV_iload_n 2 dX12_mark_125 rfl rfl ?_
  refine zV_cVV (y' := zmX12_keeps) (n' := 0) (As := [zR 249, zI x1, zI x2]) zc_X12_460 (zq_200 hZ) rfl dX12_mark_126 (Nat.le_trans (by decide) hn) rfl (Nat.le_of_ble_eq_true rfl) (Nat.le_of_ble_eq_true rfl) rfl h (fun Q' h' => fX12_keeps_ok hZ (Nat.le_refl _) (zq_249 hZ) (by decide) hx1 hx2 hbx2 h') (fun M29 h => ?_)
  refine zV_iconst (v := 1) dX12_mark_129 rfl ?_
  exact zV_iretb dX12_mark_130 rfl (Or.inr rfl) h
noncomputable def fX12_mark_j29 (x1 x2 : Int) (M : zMem) : Option (Int × zMem) :=
  (zgd ((0 : Int) ≤ x1 ∧ x1 < 4) (if x2 = 0 then (zbd (fX12_lays 0 (zw (2 + x1)) (zup M 262 x1 1)) fun M8 => (zgd ((0 : Int) ≤ x1 ∧ x1 < 4) (fX12_mark_j79 x1 x2 (zup M8 263 x1 (M8 200 43))))) else (zbd (fX12_lays (zw (2 + x1)) 0 (zup M 262 x1 1)) fun M33 => (zgd ((0 : Int) ≤ x1 ∧ x1 < 4) (fX12_mark_j79 x1 x2 (zup M33 200 43 (M33 263 x1)))))))
set_option maxRecDepth 100000 in
set_option maxHeartbeats 4000000 in
theorem fX12_mark_j29_ok {Z : zZ} (hZ : zB Z) {nn : Nat} (hn : 1 ≤ nn)  {x1 x2 : Int} (hx1 : z32 x1) (hx2 : z32 x2) (hbx2 : x2 = 0 ∨ x2 = 1) {M : zMem} {Q : Option zAV → zMem → zZ → Prop} (h : zSat (fX12_mark_j29 x1 x2 M) (fun r => Q (some (zI r.1)) r.2 Z))  : zV zmX12_mark nn 0 0 Z 29 [(0, zR 200), (1, zI x1), (2, zI x2)] [] M Q := by
  unfold fX12_mark_j29 at h
  refine zV_aload_n 0 dX12_mark_29 rfl rfl ?_
  refine zV_getR (j := 262) (zq_200 hZ) zf_X12_61 zkf_X12_147 rfl dX12_mark_30 ?_
  refine zV_iload_n 1 dX12_mark_33 rfl rfl ?_
  refine zV_iconst (v := 1) dX12_mark_34 rfl ?_
  obtain ⟨hg, h⟩ := zs_gd h
  refine zV_zast (zq_262 hZ) (by decide) hg (Or.inr rfl) dX12_mark_35 ?_
  refine zV_iload_n 2 dX12_mark_36 rfl rfl ?_
  refine zV_if_eq 61 dX12_mark_37 (by decide) hx2 (fun hc_ => ?_) (fun hc_ => ?_)
  · replace h := zs_t h hc_
    refine zV_aload_n 0 dX12_mark_61 rfl rfl ?_
    refine zV_iconst (v := 0) dX12_mark_62 rfl ?_
    refine zV_iconst (v := 2) dX12_mark_63 rfl ?_
    refine zV_iload_n 1 dX12_mark_64 rfl rfl ?_
    refine zV_iadd dX12_mark_65 ?_
    refine zV_w ?_
    refine zV_cVV (y' := zmX12_lays) (n' := 0) (As := [zI 0, zI (zw (2 + x1))]) zc_X12_339 (zq_200 hZ) rfl dX12_mark_66 (Nat.le_trans (by decide) hn) rfl (Nat.le_of_ble_eq_true rfl) (Nat.le_of_ble_eq_true rfl) rfl h (fun Q' h' => fX12_lays_ok hZ (Nat.le_refl _) zi_0 (z32_w _) h') (fun M8 h => ?_)
    refine zV_aload_n 0 dX12_mark_69 rfl rfl ?_
    refine zV_getR (j := 263) (zq_200 hZ) zf_X12_62 zkf_X12_150 rfl dX12_mark_70 ?_
    refine zV_iload_n 1 dX12_mark_73 rfl rfl ?_
    refine zV_aload_n 0 dX12_mark_74 rfl rfl ?_
    refine zV_getI (zq_200 hZ) zf_X12_43 zkf_X12_343 rfl dX12_mark_75 (fun m9 => ?_)
    obtain ⟨hg, h⟩ := zs_gd h
    refine zV_iast (zq_263 hZ) (by decide) hg m9 dX12_mark_78 ?_
    exact fX12_mark_j79_ok hZ hn hx1 hx2 hbx2 h
  · replace h := zs_f h hc_
    refine zV_aload_n 0 dX12_mark_40 rfl rfl ?_
    refine zV_iconst (v := 2) dX12_mark_41 rfl ?_
    refine zV_iload_n 1 dX12_mark_42 rfl rfl ?_
    refine zV_iadd dX12_mark_43 ?_
    refine zV_iconst (v := 0) dX12_mark_44 rfl ?_
    refine zV_w2 ?_
    refine zV_cVV (y' := zmX12_lays) (n' := 0) (As := [zI (zw (2 + x1)), zI 0]) zc_X12_339 (zq_200 hZ) rfl dX12_mark_45 (Nat.le_trans (by decide) hn) rfl (Nat.le_of_ble_eq_true rfl) (Nat.le_of_ble_eq_true rfl) rfl h (fun Q' h' => fX12_lays_ok hZ (Nat.le_refl _) (z32_w _) zi_0 h') (fun M33 h => ?_)
    refine zV_aload_n 0 dX12_mark_48 rfl rfl ?_
    refine zV_aload_n 0 dX12_mark_49 rfl rfl ?_
    refine zV_getR (j := 263) (zq_200 hZ) zf_X12_62 zkf_X12_150 rfl dX12_mark_50 ?_
    refine zV_iload_n 1 dX12_mark_53 rfl rfl ?_
    obtain ⟨hg, h⟩ := zs_gd h
    refine zV_iald (zq_263 hZ) hg dX12_mark_54 (fun m34 => ?_)
    refine zV_putI (zq_200 hZ) (by decide) zf_X12_43 zkf_X12_343 rfl dX12_mark_55 m34 ?_
    refine zV_goto 79 dX12_mark_58 (by decide) ?_
    exact fX12_mark_j79_ok hZ hn hx1 hx2 hbx2 h
noncomputable def fX12_mark (x1 x2 : Int) (M : zMem) : Option (Int × zMem) :=
  (zbd (fX12_isFrom x1 0 3 (zup M 200 0 0)) fun r1 => (if r1 = 0 then some (0, (zup M 200 0 0)) else (if x2 = 0 then fX12_mark_j29 x1 x2 (zup M 200 0 0) else (zgd ((0 : Int) ≤ x1 ∧ x1 < 4) (if ((zup M 200 0 0) 262 x1) = 0 then some (0, (zup M 200 0 0)) else fX12_mark_j29 x1 x2 (zup M 200 0 0))))))
set_option maxRecDepth 100000 in
set_option maxHeartbeats 4000000 in
theorem fX12_mark_ok {Z : zZ} (hZ : zB Z) {nn : Nat} (hn : 1 ≤ nn)  {x1 x2 : Int} (hx1 : z32 x1) (hx2 : z32 x2) (hbx2 : x2 = 0 ∨ x2 = 1) {M : zMem} {Q : Option zAV → zMem → zZ → Prop} (h : zSat (fX12_mark x1 x2 M) (fun r => Q (some (zI r.1)) r.2 Z))  : zV zmX12_mark nn 0 0 Z 0 [(0, zR 200), (1, zI x1), (2, zI x2)] [] M Q := by
  unfold fX12_mark at h
  refine zV_aload_n 0 dX12_mark_0 rfl rfl ?_
  refine zV_iconst (v := 0) dX12_mark_1 rfl ?_
  refine zV_putI (zq_200 hZ) (by decide) zf_X12_0 zkf_X12_157 rfl dX12_mark_2 zi_0 ?_
  refine zV_iload_n 1 dX12_mark_5 rfl rfl ?_
  refine zV_iconst (v := 0) dX12_mark_6 rfl ?_
  refine zV_iconst (v := 3) dX12_mark_7 rfl ?_
  refine zV_cSI (y' := zmX12_isFrom) (n' := 0) (As := [zI x1, zI 0, zI 3]) zc_X12_287 dX12_mark_8 (Nat.le_trans (by decide) hn) rfl (Nat.le_of_ble_eq_true rfl) (Nat.le_of_ble_eq_true rfl) rfl h (fun Q' h' => fX12_isFrom_ok hZ (Nat.le_refl _) hx1 zi_0 zi_3 h') (fun r1 c2 b3 h => ?_)
  refine zV_if_eq 27 dX12_mark_11 (by decide) c2 (fun hc_ => ?_) (fun hc_ => ?_)
  · replace h := zs_t h hc_
    refine zV_iconst (v := 0) dX12_mark_27 rfl ?_
    exact zV_iretb dX12_mark_28 rfl (Or.inl rfl) h
  · replace h := zs_f h hc_
    refine zV_iload_n 2 dX12_mark_14 rfl rfl ?_
    refine zV_if_eq 29 dX12_mark_15 (by decide) hx2 (fun hc_ => ?_) (fun hc_ => ?_)
    · replace h := zs_t h hc_
      exact fX12_mark_j29_ok hZ hn hx1 hx2 hbx2 h
    · replace h := zs_f h hc_
      refine zV_aload_n 0 dX12_mark_18 rfl rfl ?_
      refine zV_getR (j := 262) (zq_200 hZ) zf_X12_61 zkf_X12_147 rfl dX12_mark_19 ?_
      refine zV_iload_n 1 dX12_mark_22 rfl rfl ?_
      obtain ⟨hg, h⟩ := zs_gd h
      refine zV_zald (zq_262 hZ) hg dX12_mark_23 (fun m35 => ?_)
      refine zV_if_ne 29 dX12_mark_24 (by decide) (z32_01 m35) (fun hc_ => ?_) (fun hc_ => ?_)
      · replace h := zs_f h hc_
        exact fX12_mark_j29_ok hZ hn hx1 hx2 hbx2 h
      · replace h := zs_t h hc_
        refine zV_iconst (v := 0) dX12_mark_27 rfl ?_
        exact zV_iretb dX12_mark_28 rfl (Or.inl rfl) h
noncomputable def fX12_count (x1 : Int) (M : zMem) : Option (Int × zMem) :=
  (zbd (fX12_isFrom x1 0 16 (zup M 200 0 0)) fun r1 => (if r1 = 0 then some ((-1), (zup M 200 0 0)) else (if x1 ≤ 4 then (if x1 = 0 then (zgd ((0 : Int) ≤ (0 : Int) ∧ (0 : Int) < 6) (some (((zup M 200 0 0) 211 0), (zup M 200 0 0)))) else (if x1 = 1 then (zbd (fX12_placed (zup M 200 0 0)) fun r8 => some (r8, (zup M 200 0 0))) else (if x1 = 2 then (zgd ((0 : Int) ≤ (0 : Int) ∧ (0 : Int) < 6) (some (((zup M 200 0 0) 212 0), (zup M 200 0 0)))) else (if x1 = 3 then (zgd ((0 : Int) ≤ (0 : Int) ∧ (0 : Int) < 6) (some (((zup M 200 0 0) 213 0), (zup M 200 0 0)))) else some (((zup M 200 0 0) 200 43), (zup M 200 0 0)))))) else (if x1 = 16 then some (((zup M 200 0 0) 200 1), (zup M 200 0 0)) else (zgd ((0 : Int) ≤ (x1 - 5) ∧ (x1 - 5) < 66) (some (((zup M 200 0 0) 225 (x1 - 5)), (zup M 200 0 0))))))))
set_option maxRecDepth 100000 in
set_option maxHeartbeats 4000000 in
theorem fX12_count_ok {Z : zZ} (hZ : zB Z) {nn : Nat} (hn : 1 ≤ nn)  {x1 : Int} (hx1 : z32 x1) {M : zMem} {Q : Option zAV → zMem → zZ → Prop} (h : zSat (fX12_count x1 M) (fun r => Q (some (zI r.1)) r.2 Z))  : zV zmX12_count nn 0 0 Z 0 [(0, zR 200), (1, zI x1)] [] M Q := by
  unfold fX12_count at h
  refine zV_aload_n 0 dX12_count_0 rfl rfl ?_
  refine zV_iconst (v := 0) dX12_count_1 rfl ?_
  refine zV_putI (zq_200 hZ) (by decide) zf_X12_0 zkf_X12_157 rfl dX12_count_2 zi_0 ?_
  refine zV_iload_n 1 dX12_count_5 rfl rfl ?_
  refine zV_iconst (v := 0) dX12_count_6 rfl ?_
  refine zV_bipush (v := 16) dX12_count_7 rfl ?_
  refine zV_cSI (y' := zmX12_isFrom) (n' := 0) (As := [zI x1, zI 0, zI 16]) zc_X12_287 dX12_count_9 (Nat.le_trans (by decide) hn) rfl (Nat.le_of_ble_eq_true rfl) (Nat.le_of_ble_eq_true rfl) rfl h (fun Q' h' => fX12_isFrom_ok hZ (Nat.le_refl _) hx1 zi_0 zi_16 h') (fun r1 c2 b3 h => ?_)
  refine zV_if_ne 17 dX12_count_12 (by decide) c2 (fun hc_ => ?_) (fun hc_ => ?_)
  · replace h := zs_f h hc_
    refine zV_iload_n 1 dX12_count_17 rfl rfl ?_
    refine zV_iconst (v := 4) dX12_count_18 rfl ?_
    refine zV_icmp_le 44 dX12_count_19 (by decide) hx1 zi_4 (fun hc_ => ?_) (fun hc_ => ?_)
    · replace h := zs_t h hc_
      refine zV_iload_n 1 dX12_count_44 rfl rfl ?_
      refine zV_if_ne 57 dX12_count_45 (by decide) hx1 (fun hc_ => ?_) (fun hc_ => ?_)
      · replace h := zs_f h hc_
        refine zV_iload_n 1 dX12_count_57 rfl rfl ?_
        refine zV_iconst (v := 1) dX12_count_58 rfl ?_
        refine zV_icmp_ne 69 dX12_count_59 (by decide) hx1 zi_1 (fun hc_ => ?_) (fun hc_ => ?_)
        · replace h := zs_f h hc_
          refine zV_iload_n 1 dX12_count_69 rfl rfl ?_
          refine zV_iconst (v := 2) dX12_count_70 rfl ?_
          refine zV_icmp_ne 83 dX12_count_71 (by decide) hx1 zi_2 (fun hc_ => ?_) (fun hc_ => ?_)
          · replace h := zs_f h hc_
            refine zV_iload_n 1 dX12_count_83 rfl rfl ?_
            refine zV_iconst (v := 3) dX12_count_84 rfl ?_
            refine zV_icmp_ne 97 dX12_count_85 (by decide) hx1 zi_3 (fun hc_ => ?_) (fun hc_ => ?_)
            · replace h := zs_f h hc_
              refine zV_aload_n 0 dX12_count_97 rfl rfl ?_
              refine zV_getI (zq_200 hZ) zf_X12_43 zkf_X12_343 rfl dX12_count_98 (fun m5 => ?_)
              exact zV_ireti dX12_count_101 rfl m5 h
            · replace h := zs_t h hc_
              refine zV_aload_n 0 dX12_count_88 rfl rfl ?_
              refine zV_getR (j := 213) (zq_200 hZ) zf_X12_12 zkf_X12_19 rfl dX12_count_89 ?_
              refine zV_iconst (v := 0) dX12_count_92 rfl ?_
              obtain ⟨hg, h⟩ := zs_gd h
              refine zV_iald (zq_213 hZ) hg dX12_count_93 (fun m6 => ?_)
              refine zV_goto 101 dX12_count_94 (by decide) ?_
              exact zV_ireti dX12_count_101 rfl m6 h
          · replace h := zs_t h hc_
            refine zV_aload_n 0 dX12_count_74 rfl rfl ?_
            refine zV_getR (j := 212) (zq_200 hZ) zf_X12_11 zkf_X12_16 rfl dX12_count_75 ?_
            refine zV_iconst (v := 0) dX12_count_78 rfl ?_
            obtain ⟨hg, h⟩ := zs_gd h
            refine zV_iald (zq_212 hZ) hg dX12_count_79 (fun m7 => ?_)
            refine zV_goto 101 dX12_count_80 (by decide) ?_
            exact zV_ireti dX12_count_101 rfl m7 h
        · replace h := zs_t h hc_
          refine zV_aload_n 0 dX12_count_62 rfl rfl ?_
          refine zV_cVI (y' := zmX12_placed) (n' := 0) (As := []) zc_X12_454 (zq_200 hZ) rfl dX12_count_63 (Nat.le_trans (by decide) hn) rfl (Nat.le_of_ble_eq_true rfl) (Nat.le_of_ble_eq_true rfl) rfl h (fun Q' h' => fX12_placed_ok hZ (Nat.le_refl _)  h') (fun r8 c9 b10 h => ?_)
          refine zV_goto 101 dX12_count_66 (by decide) ?_
          exact zV_ireti dX12_count_101 rfl c9 h
      · replace h := zs_t h hc_
        refine zV_aload_n 0 dX12_count_48 rfl rfl ?_
        refine zV_getR (j := 211) (zq_200 hZ) zf_X12_10 zkf_X12_13 rfl dX12_count_49 ?_
        refine zV_iconst (v := 0) dX12_count_52 rfl ?_
        obtain ⟨hg, h⟩ := zs_gd h
        refine zV_iald (zq_211 hZ) hg dX12_count_53 (fun m12 => ?_)
        refine zV_goto 101 dX12_count_54 (by decide) ?_
        exact zV_ireti dX12_count_101 rfl m12 h
    · replace h := zs_f h hc_
      refine zV_iload_n 1 dX12_count_22 rfl rfl ?_
      refine zV_bipush (v := 16) dX12_count_23 rfl ?_
      refine zV_icmp_ne 35 dX12_count_25 (by decide) hx1 zi_16 (fun hc_ => ?_) (fun hc_ => ?_)
      · replace h := zs_f h hc_
        refine zV_aload_n 0 dX12_count_35 rfl rfl ?_
        refine zV_getR (j := 225) (zq_200 hZ) zf_X12_24 zkf_X12_56 rfl dX12_count_36 ?_
        refine zV_iload_n 1 dX12_count_39 rfl rfl ?_
        refine zV_iconst (v := 5) dX12_count_40 rfl ?_
        refine zV_isub dX12_count_41 ?_
        obtain ⟨hg, h⟩ := zs_gd h
        refine zV_iald (zq_225 hZ) hg dX12_count_42 (fun m13 => ?_)
        exact zV_ireti dX12_count_43 rfl m13 h
      · replace h := zs_t h hc_
        refine zV_aload_n 0 dX12_count_28 rfl rfl ?_
        refine zV_getI (zq_200 hZ) zf_X12_1 zkf_X12_163 rfl dX12_count_29 (fun m14 => ?_)
        refine zV_goto 43 dX12_count_32 (by decide) ?_
        exact zV_ireti dX12_count_43 rfl m14 h
  · replace h := zs_t h hc_
    refine zV_iconst (v := (-1)) dX12_count_15 rfl ?_
    exact zV_ireti dX12_count_16 rfl zi_n1 h
