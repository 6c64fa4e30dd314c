noncomputable def fX6_seen (M : zMem) : Option (Int) :=
  (zbd (fX8_tokenAt (M 30 3) M) fun r2 => some r2)
set_option maxRecDepth 100000 in
set_option maxHeartbeats 4000000 in
theorem fX6_seen_ok {Z : zZ} (hZ : zB Z) {nn : Nat} (hn : 1 ≤ nn)   {M : zMem} {Q : Option zAV → zMem → zZ → Prop} (h : zSat (fX6_seen M) (fun r => Q (some (zI r)) M Z))  : zV zmX6_seen nn 0 0 Z 0 [(0, zR 30)] [] M Q := by
  unfold fX6_seen at h
  refine zV_aload_n 0 dX6_seen_0 rfl rfl ?_
  refine zV_getR (j := 20) (zq_30 hZ) zf_X6_0 zkf_X6_15 rfl dX6_seen_1 ?_
  refine zV_aload_n 0 dX6_seen_4 rfl rfl ?_
  refine zV_getI (zq_30 hZ) zf_X6_3 zkf_X6_28 rfl dX6_seen_5 (fun m1 => ?_)
  refine zV_cVI (y' := zmX8_tokenAt) (n' := 0) (As := [zI (M 30 3)]) zc_X6_54 (zq_20 hZ) rfl dX6_seen_8 (Nat.le_trans (by decide) hn) rfl (Nat.le_of_ble_eq_true rfl) (Nat.le_of_ble_eq_true rfl) rfl h (fun Q' h' => fX8_tokenAt_ok hZ (Nat.le_refl _) m1 h') (fun r2 c3 b4 h => ?_)
  exact zV_ireti dX6_seen_11 rfl c3 h
noncomputable def fX6_isName (M : zMem) : Option (Int) :=
  (zbd (fX6_seen M) fun r1 => (if r1 = 2 then some 1 else (zbd (fX6_seen M) fun r5 => (if r5 < 125 then some 0 else (zbd (fX6_seen M) fun r9 => (if 128 < r9 then some 0 else some 1))))))
set_option maxRecDepth 100000 in
set_option maxHeartbeats 4000000 in
theorem fX6_isName_ok {Z : zZ} (hZ : zB Z) {nn : Nat} (hn : 2 ≤ nn)   {M : zMem} {Q : Option zAV → zMem → zZ → Prop} (h : zSat (fX6_isName M) (fun r => Q (some (zI r)) M Z))  : zV zmX6_isName nn 0 0 Z 0 [(0, zR 30)] [] M Q := by
  unfold fX6_isName at h
  refine zV_aload_n 0 dX6_isName_0 rfl rfl ?_
  refine zV_cVI (y' := zmX6_seen) (n' := 1) (As := []) zc_X6_43 (zq_30 hZ) rfl dX6_isName_1 (Nat.le_trans (by decide) hn) rfl (Nat.le_of_ble_eq_true rfl) (Nat.le_of_ble_eq_true rfl) rfl h (fun Q' h' => fX6_seen_ok hZ (Nat.le_refl _)  h') (fun r1 c2 b3 h => ?_)
  refine zV_iconst (v := 2) dX6_isName_4 rfl ?_
  refine zV_icmp_eq 27 dX6_isName_5 (by decide) c2 zi_2 (fun hc_ => ?_) (fun hc_ => ?_)
  · replace h := zs_t h hc_
    refine zV_iconst (v := 1) dX6_isName_27 rfl ?_
    refine zV_goto 32 dX6_isName_28 (by decide) ?_
    exact zV_iretb dX6_isName_32 rfl (Or.inr rfl) h
  · replace h := zs_f h hc_
    refine zV_aload_n 0 dX6_isName_8 rfl rfl ?_
    refine zV_cVI (y' := zmX6_seen) (n' := 1) (As := []) zc_X6_43 (zq_30 hZ) rfl dX6_isName_9 (Nat.le_trans (by decide) hn) rfl (Nat.le_of_ble_eq_true rfl) (Nat.le_of_ble_eq_true rfl) rfl h (fun Q' h' => fX6_seen_ok hZ (Nat.le_refl _)  h') (fun r5 c6 b7 h => ?_)
    refine zV_bipush (v := 125) dX6_isName_12 rfl ?_
    refine zV_icmp_lt 31 dX6_isName_14 (by decide) c6 zi_125 (fun hc_ => ?_) (fun hc_ => ?_)
    · replace h := zs_t h hc_
      refine zV_iconst (v := 0) dX6_isName_31 rfl ?_
      exact zV_iretb dX6_isName_32 rfl (Or.inl rfl) h
    · replace h := zs_f h hc_
      refine zV_aload_n 0 dX6_isName_17 rfl rfl ?_
      refine zV_cVI (y' := zmX6_seen) (n' := 1) (As := []) zc_X6_43 (zq_30 hZ) rfl dX6_isName_18 (Nat.le_trans (by decide) hn) rfl (Nat.le_of_ble_eq_true rfl) (Nat.le_of_ble_eq_true rfl) rfl h (fun Q' h' => fX6_seen_ok hZ (Nat.le_refl _)  h') (fun r9 c10 b11 h => ?_)
      refine zV_sipush (v := 128) dX6_isName_21 rfl ?_
      refine zV_icmp_gt 31 dX6_isName_24 (by decide) c10 zi_128 (fun hc_ => ?_) (fun hc_ => ?_)
      · replace h := zs_t h hc_
        refine zV_iconst (v := 0) dX6_isName_31 rfl ?_
        exact zV_iretb dX6_isName_32 rfl (Or.inl rfl) h
      · replace h := zs_f h hc_
        refine zV_iconst (v := 1) dX6_isName_27 rfl ?_
        refine zV_goto 32 dX6_isName_28 (by decide) ?_
        exact zV_iretb dX6_isName_32 rfl (Or.inr rfl) h
noncomputable def fX6_refuse (x1 : Int) (M : zMem) : Option (Int × zMem) :=
  some (0, (zup M 30 5 x1))
set_option maxRecDepth 100000 in
set_option maxHeartbeats 4000000 in
theorem fX6_refuse_ok {Z : zZ} (hZ : zB Z) {nn : Nat} (hn : 0 ≤ nn)  {x1 : Int} (hx1 : z32 x1) {M : zMem} {Q : Option zAV → zMem → zZ → Prop} (h : zSat (fX6_refuse x1 M) (fun r => Q (some (zI r.1)) r.2 Z))  : zV zmX6_refuse nn 0 0 Z 0 [(0, zR 30), (1, zI x1)] [] M Q := by
  unfold fX6_refuse at h
  refine zV_aload_n 0 dX6_refuse_0 rfl rfl ?_
  refine zV_iload_n 1 dX6_refuse_1 rfl rfl ?_
  refine zV_putI (zq_30 hZ) (by decide) zf_X6_5 zkf_X6_35 rfl dX6_refuse_2 hx1 ?_
  refine zV_iconst (v := 0) dX6_refuse_5 rfl ?_
  exact zV_iretb dX6_refuse_6 rfl (Or.inl rfl) h
noncomputable def fX6_placeSeen (M : zMem) : Option (Int) :=
  (zbd (fX8_placeAt (M 30 3) M) fun r2 => some r2)
set_option maxRecDepth 100000 in
set_option maxHeartbeats 4000000 in
theorem fX6_placeSeen_ok {Z : zZ} (hZ : zB Z) {nn : Nat} (hn : 1 ≤ nn)   {M : zMem} {Q : Option zAV → zMem → zZ → Prop} (h : zSat (fX6_placeSeen M) (fun r => Q (some (zI r)) M Z))  : zV zmX6_placeSeen nn 0 0 Z 0 [(0, zR 30)] [] M Q := by
  unfold fX6_placeSeen at h
  refine zV_aload_n 0 dX6_placeSeen_0 rfl rfl ?_
  refine zV_getR (j := 20) (zq_30 hZ) zf_X6_0 zkf_X6_15 rfl dX6_placeSeen_1 ?_
  refine zV_aload_n 0 dX6_placeSeen_4 rfl rfl ?_
  refine zV_getI (zq_30 hZ) zf_X6_3 zkf_X6_28 rfl dX6_placeSeen_5 (fun m1 => ?_)
  refine zV_cVI (y' := zmX8_placeAt) (n' := 0) (As := [zI (M 30 3)]) zc_X6_58 (zq_20 hZ) rfl dX6_placeSeen_8 (Nat.le_trans (by decide) hn) rfl (Nat.le_of_ble_eq_true rfl) (Nat.le_of_ble_eq_true rfl) rfl h (fun Q' h' => fX8_placeAt_ok hZ (Nat.le_refl _) m1 h') (fun r2 c3 b4 h => ?_)
  exact zV_ireti dX6_placeSeen_11 rfl c3 h
noncomputable def fX6_bowlSeen_l2 (x1 : Int) (M : zMem) : Option ((Int) ⊕ ((Int) ⊕ (Int))) :=
  (if (M 60 0) ≤ x1 then some (.inr (.inl x1)) else (zgd ((0 : Int) ≤ x1 ∧ x1 < 12) (zbd (fX6_placeSeen M) fun r3 => (zbd (fX8_sameWord (M 32 x1) r3 M) fun r7 => (if r7 = 0 then some (.inl (zw (x1 + 1))) else some (.inr (.inr x1)))))))
set_option maxRecDepth 100000 in
set_option maxHeartbeats 4000000 in
theorem fX6_bowlSeen_l2_ok {Z : zZ} (hZ : zB Z) {nn : Nat} (hn : 2 ≤ nn)  {x1 : Int} (hx1 : z32 x1) {M : zMem} {Q : Option zAV → zMem → zZ → Prop} {P : (Int) ⊕ ((Int) ⊕ (Int)) → Prop} (h : zSat (fX6_bowlSeen_l2 x1 M) P)  (hc : ∀ s : Int, P (.inl s) → z32 s → zV zmX6_bowlSeen nn 0 0 Z 2 [(0, zR 30), (1, zI s)] [] M Q) (he : ∀ s : Int, P (.inr (.inl s)) → z32 s → zV zmX6_bowlSeen nn 0 0 Z 41 [(0, zR 30), (1, zI s)] [] M Q) (hr : ∀ r : Int, P (.inr (.inr r)) → (fun r => Q (some (zI r)) M Z) r)  : zV zmX6_bowlSeen nn 0 0 Z 2 [(0, zR 30), (1, zI x1)] [] M Q := by
  unfold fX6_bowlSeen_l2 at h
  refine zV_iload_n 1 dX6_bowlSeen_2 rfl rfl ?_
  refine zV_aload_n 0 dX6_bowlSeen_3 rfl rfl ?_
  refine zV_getR (j := 60) (zq_30 hZ) zf_X6_1 zkf_X6_19 rfl dX6_bowlSeen_4 ?_
  refine zV_getI (zq_60 hZ) zf_X7_0 zkf_X6_65 rfl dX6_bowlSeen_7 (fun m1 => ?_)
  refine zV_icmp_ge 41 dX6_bowlSeen_10 (by decide) hx1 m1 (fun hc_ => ?_) (fun hc_ => ?_)
  · replace h := zs_t h hc_
    exact he _ h hx1
  · replace h := zs_f h hc_
    refine zV_aload_n 0 dX6_bowlSeen_13 rfl rfl ?_
    refine zV_getR (j := 20) (zq_30 hZ) zf_X6_0 zkf_X6_15 rfl dX6_bowlSeen_14 ?_
    refine zV_aload_n 0 dX6_bowlSeen_17 rfl rfl ?_
    refine zV_getR (j := 32) (zq_30 hZ) zf_X6_2 zkf_X6_9 rfl dX6_bowlSeen_18 ?_
    refine zV_iload_n 1 dX6_bowlSeen_21 rfl rfl ?_
    obtain ⟨hg, h⟩ := zs_gd h
    refine zV_iald (zq_32 hZ) hg dX6_bowlSeen_22 (fun m2 => ?_)
    refine zV_aload_n 0 dX6_bowlSeen_23 rfl rfl ?_
    refine zV_cVI (y' := zmX6_placeSeen) (n' := 1) (As := []) zc_X6_51 (zq_30 hZ) rfl dX6_bowlSeen_24 (Nat.le_trans (by decide) hn) rfl (Nat.le_of_ble_eq_true rfl) (Nat.le_of_ble_eq_true rfl) rfl h (fun Q' h' => fX6_placeSeen_ok hZ (Nat.le_refl _)  h') (fun r3 c4 b5 h => ?_)
    refine zV_cVI (y' := zmX8_sameWord) (n' := 1) (As := [zI (M 32 x1), zI r3]) zc_X6_109 (zq_20 hZ) rfl dX6_bowlSeen_27 (Nat.le_trans (by decide) hn) rfl (Nat.le_of_ble_eq_true rfl) (Nat.le_of_ble_eq_true rfl) rfl h (fun Q' h' => fX8_sameWord_ok hZ (Nat.le_refl _) m2 c4 h') (fun r7 c8 b9 h => ?_)
    refine zV_if_eq 35 dX6_bowlSeen_30 (by decide) c8 (fun hc_ => ?_) (fun hc_ => ?_)
    · replace h := zs_t h hc_
      refine zV_iinc 1 [(1, zI (zw (x1 + 1))), (0, zR 30)] dX6_bowlSeen_35 rfl rfl (by decide) rfl ?_
      refine zV_goto 2 dX6_bowlSeen_38 (by decide) ?_
      refine zV_ls [1, 0] rfl ?_
      exact hc _ h (z32_w _)
    · replace h := zs_f h hc_
      refine zV_iload_n 1 dX6_bowlSeen_33 rfl rfl ?_
      exact zV_ireti dX6_bowlSeen_34 rfl hx1 (hr _ h)
noncomputable def fX6_bowlSeen (M : zMem) : Option (Int) :=
  (zbd (zit (fun s11 => fX6_bowlSeen_l2 s11 M) 0) fun e => zel e (fun s17 => some (-1)) (fun r => some r))
set_option maxRecDepth 100000 in
set_option maxHeartbeats 4000000 in
theorem fX6_bowlSeen_ok {Z : zZ} (hZ : zB Z) {nn : Nat} (hn : 2 ≤ nn)   {M : zMem} {Q : Option zAV → zMem → zZ → Prop} (h : zSat (fX6_bowlSeen M) (fun r => Q (some (zI r)) M Z))  : zV zmX6_bowlSeen nn 0 0 Z 0 [(0, zR 30)] [] M Q := by
  unfold fX6_bowlSeen at h
  refine zV_iconst (v := 0) dX6_bowlSeen_0 rfl ?_
  refine zV_istore_n [(1, zI 0), (0, zR 30)] dX6_bowlSeen_1 rfl (by decide) rfl ?_
  refine zV_ls [1, 0] rfl ?_
  refine (zV_loop (Vh := fun s11 : Int => z32 s11 → zV zmX6_bowlSeen nn 0 0 Z 2 [(0, zR 30), (1, zI s11)] [] M Q) h (fun s11 P12 hP13 hc14 he15 => ?_)) zi_0
  intro c16
  refine fX6_bowlSeen_l2_ok hZ hn c16 hP13 hc14 (fun s17 h18 d19 => ?_) (fun r20 h21 => he15 _ h21)
  have h := he15 _ h18
  refine zV_iconst (v := (-1)) dX6_bowlSeen_41 rfl ?_
  exact zV_ireti dX6_bowlSeen_42 rfl zi_n1 h
noncomputable def fX6_newName (x1 : Int) (M : zMem) : Option (Int × zMem) :=
  (zbd (fX6_isName M) fun r1 => (if r1 = 0 then (zbd2 (fX6_refuse 1 M) fun r18 M21 => some (r18, M21)) else (zbd (fX6_bowlSeen M) fun r5 => (if r5 = (-1) then (zbd (fX6_placeSeen M) fun r9 => (zgd ((0 : Int) ≤ x1 ∧ x1 < 12) (some (1, (zup (zup M 32 x1 r9) 30 3 (zw (((zup M 32 x1 r9) 30 3) + 1))))))) else (zbd2 (fX6_refuse 3 M) fun r14 M17 => some (r14, M17))))))
set_option maxRecDepth 100000 in
set_option maxHeartbeats 4000000 in
theorem fX6_newName_ok {Z : zZ} (hZ : zB Z) {nn : Nat} (hn : 3 ≤ nn)  {x1 : Int} (hx1 : z32 x1) {M : zMem} {Q : Option zAV → zMem → zZ → Prop} (h : zSat (fX6_newName x1 M) (fun r => Q (some (zI r.1)) r.2 Z))  : zV zmX6_newName nn 0 0 Z 0 [(0, zR 30), (1, zI x1)] [] M Q := by
  unfold fX6_newName at h
  refine zV_aload_n 0 dX6_newName_0 rfl rfl ?_
  refine zV_cVI (y' := zmX6_isName) (n' := 2) (As := []) zc_X6_113 (zq_30 hZ) rfl dX6_newName_1 (Nat.le_trans (by decide) hn) rfl (Nat.le_of_ble_eq_true rfl) (Nat.le_of_ble_eq_true rfl) rfl h (fun Q' h' => fX6_isName_ok hZ (Nat.le_refl _)  h') (fun r1 c2 b3 h => ?_)
  refine zV_if_ne 13 dX6_newName_4 (by decide) c2 (fun hc_ => ?_) (fun hc_ => ?_)
  · replace h := zs_f h hc_
    refine zV_aload_n 0 dX6_newName_13 rfl rfl ?_
    refine zV_cVI (y' := zmX6_bowlSeen) (n' := 2) (As := []) zc_X6_116 (zq_30 hZ) rfl dX6_newName_14 (Nat.le_trans (by decide) hn) rfl (Nat.le_of_ble_eq_true rfl) (Nat.le_of_ble_eq_true rfl) rfl h (fun Q' h' => fX6_bowlSeen_ok hZ (Nat.le_refl _)  h') (fun r5 c6 b7 h => ?_)
    refine zV_iconst (v := (-1)) dX6_newName_17 rfl ?_
    refine zV_icmp_eq 27 dX6_newName_18 (by decide) c6 zi_n1 (fun hc_ => ?_) (fun hc_ => ?_)
    · replace h := zs_t h hc_
      refine zV_aload_n 0 dX6_newName_27 rfl rfl ?_
      refine zV_getR (j := 32) (zq_30 hZ) zf_X6_2 zkf_X6_9 rfl dX6_newName_28 ?_
      refine zV_iload_n 1 dX6_newName_31 rfl rfl ?_
      refine zV_aload_n 0 dX6_newName_32 rfl rfl ?_
      refine zV_cVI (y' := zmX6_placeSeen) (n' := 1) (As := []) zc_X6_51 (zq_30 hZ) rfl dX6_newName_33 (Nat.le_trans (by decide) hn) rfl (Nat.le_of_ble_eq_true rfl) (Nat.le_of_ble_eq_true rfl) rfl h (fun Q' h' => fX6_placeSeen_ok hZ (Nat.le_refl _)  h') (fun r9 c10 b11 h => ?_)
      obtain ⟨hg, h⟩ := zs_gd h
      refine zV_iast (zq_32 hZ) (by decide) hg c10 dX6_newName_36 ?_
      refine zV_aload_n 0 dX6_newName_37 rfl rfl ?_
      refine zV_dup dX6_newName_38 rfl ?_
      refine zV_getI (zq_30 hZ) zf_X6_3 zkf_X6_28 rfl dX6_newName_39 (fun m13 => ?_)
      refine zV_iconst (v := 1) dX6_newName_42 rfl ?_
      refine zV_iadd dX6_newName_43 ?_
      refine zV_w ?_
      refine zV_putI (zq_30 hZ) (by decide) zf_X6_3 zkf_X6_28 rfl dX6_newName_44 (z32_w _) ?_
      refine zV_iconst (v := 1) dX6_newName_47 rfl ?_
      exact zV_iretb dX6_newName_48 rfl (Or.inr rfl) h
    · replace h := zs_f h hc_
      refine zV_aload_n 0 dX6_newName_21 rfl rfl ?_
      refine zV_iconst (v := 3) dX6_newName_22 rfl ?_
      refine zV_cVIm (y' := zmX6_refuse) (n' := 0) (As := [zI 3]) zc_X6_61 (zq_30 hZ) rfl dX6_newName_23 (Nat.le_trans (by decide) hn) rfl (Nat.le_of_ble_eq_true rfl) (Nat.le_of_ble_eq_true rfl) rfl h (fun Q' h' => fX6_refuse_ok hZ (Nat.le_refl _) zi_3 h') (fun r14 M17 c15 b16 h => ?_)
      exact zV_iretb dX6_newName_26 rfl (b16 rfl) h
  · replace h := zs_t h hc_
    refine zV_aload_n 0 dX6_newName_7 rfl rfl ?_
    refine zV_iconst (v := 1) dX6_newName_8 rfl ?_
    refine zV_cVIm (y' := zmX6_refuse) (n' := 0) (As := [zI 1]) zc_X6_61 (zq_30 hZ) rfl dX6_newName_9 (Nat.le_trans (by decide) hn) rfl (Nat.le_of_ble_eq_true rfl) (Nat.le_of_ble_eq_true rfl) rfl h (fun Q' h' => fX6_refuse_ok hZ (Nat.le_refl _) zi_1 h') (fun r18 M21 c19 b20 h => ?_)
    exact zV_iretb dX6_newName_12 rfl (b20 rfl) h
noncomputable def fX6_take (x1 : Int) (M : zMem) : Option (Int × zMem) :=
  (zbd (fX6_seen M) fun r1 => (if r1 = x1 then some (1, (zup M 30 3 (zw ((M 30 3) + 1)))) else (zbd2 (fX6_refuse 1 M) fun r6 M9 => some (r6, M9))))
set_option maxRecDepth 100000 in
set_option maxHeartbeats 4000000 in
theorem fX6_take_ok {Z : zZ} (hZ : zB Z) {nn : Nat} (hn : 2 ≤ nn)  {x1 : Int} (hx1 : z32 x1) {M : zMem} {Q : Option zAV → zMem → zZ → Prop} (h : zSat (fX6_take x1 M) (fun r => Q (some (zI r.1)) r.2 Z))  : zV zmX6_take nn 0 0 Z 0 [(0, zR 30), (1, zI x1)] [] M Q := by
  unfold fX6_take at h
  refine zV_aload_n 0 dX6_take_0 rfl rfl ?_
  refine zV_cVI (y' := zmX6_seen) (n' := 1) (As := []) zc_X6_43 (zq_30 hZ) rfl dX6_take_1 (Nat.le_trans (by decide) hn) rfl (Nat.le_of_ble_eq_true rfl) (Nat.le_of_ble_eq_true rfl) rfl h (fun Q' h' => fX6_seen_ok hZ (Nat.le_refl _)  h') (fun r1 c2 b3 h => ?_)
  refine zV_iload_n 1 dX6_take_4 rfl rfl ?_
  refine zV_icmp_eq 14 dX6_take_5 (by decide) c2 hx1 (fun hc_ => ?_) (fun hc_ => ?_)
  · replace h := zs_t h hc_
    refine zV_aload_n 0 dX6_take_14 rfl rfl ?_
    refine zV_dup dX6_take_15 rfl ?_
    refine zV_getI (zq_30 hZ) zf_X6_3 zkf_X6_28 rfl dX6_take_16 (fun m5 => ?_)
    refine zV_iconst (v := 1) dX6_take_19 rfl ?_
    refine zV_iadd dX6_take_20 ?_
    refine zV_w ?_
    refine zV_putI (zq_30 hZ) (by decide) zf_X6_3 zkf_X6_28 rfl dX6_take_21 (z32_w _) ?_
    refine zV_iconst (v := 1) dX6_take_24 rfl ?_
    exact zV_iretb dX6_take_25 rfl (Or.inr rfl) h
  · replace h := zs_f h hc_
    refine zV_aload_n 0 dX6_take_8 rfl rfl ?_
    refine zV_iconst (v := 1) dX6_take_9 rfl ?_
    refine zV_cVIm (y' := zmX6_refuse) (n' := 0) (As := [zI 1]) zc_X6_61 (zq_30 hZ) rfl dX6_take_10 (Nat.le_trans (by decide) hn) rfl (Nat.le_of_ble_eq_true rfl) (Nat.le_of_ble_eq_true rfl) rfl h (fun Q' h' => fX6_refuse_ok hZ (Nat.le_refl _) zi_1 h') (fun r6 M9 c7 b8 h => ?_)
    exact zV_iretb dX6_take_13 rfl (b8 rfl) h
noncomputable def fX6_number_j34 (o1 no1 : Nat) (M : zMem) : Option (Int × zMem) :=
  (zbd2 (fX6_refuse 4 M) fun r5 M8 => some (r5, M8))
set_option maxRecDepth 100000 in
set_option maxHeartbeats 4000000 in
theorem fX6_number_j34_ok {Z : zZ} (hZ : zB Z) {nn : Nat} (hn : 2 ≤ nn) {o1 no1 : Nat} (hz_o1 : Z o1 = some (.inr (0, no1))) (hw_o1 : o1 < 1000)   {M : zMem} {Q : Option zAV → zMem → zZ → Prop} (h : zSat (fX6_number_j34 o1 no1 M) (fun r => Q (some (zI r.1)) r.2 Z))  : zV zmX6_number nn 0 0 Z 34 [(0, zR 30)] [] M Q := by
  unfold fX6_number_j34 at h
  refine zV_aload_n 0 dX6_number_34 rfl rfl ?_
  refine zV_iconst (v := 4) dX6_number_35 rfl ?_
  refine zV_cVIm (y' := zmX6_refuse) (n' := 0) (As := [zI 4]) zc_X6_61 (zq_30 hZ) rfl dX6_number_36 (Nat.le_trans (by decide) hn) rfl (Nat.le_of_ble_eq_true rfl) (Nat.le_of_ble_eq_true rfl) rfl h (fun Q' h' => fX6_refuse_ok hZ (Nat.le_refl _) zi_4 h') (fun r5 M8 c6 b7 h => ?_)
  exact zV_iretb dX6_number_39 rfl (b7 rfl) h
noncomputable def fX6_number_j50 (o1 no1 : Nat) (M : zMem) : Option (Int × zMem) :=
  (zbd2 (fX6_refuse 5 M) fun r9 M12 => some (r9, M12))
set_option maxRecDepth 100000 in
set_option maxHeartbeats 4000000 in
theorem fX6_number_j50_ok {Z : zZ} (hZ : zB Z) {nn : Nat} (hn : 2 ≤ nn) {o1 no1 : Nat} (hz_o1 : Z o1 = some (.inr (0, no1))) (hw_o1 : o1 < 1000)   {M : zMem} {Q : Option zAV → zMem → zZ → Prop} (h : zSat (fX6_number_j50 o1 no1 M) (fun r => Q (some (zI r.1)) r.2 Z))  : zV zmX6_number nn 0 0 Z 50 [(0, zR 30)] [] M Q := by
  unfold fX6_number_j50 at h
  refine zV_aload_n 0 dX6_number_50 rfl rfl ?_
  refine zV_iconst (v := 5) dX6_number_51 rfl ?_
  refine zV_cVIm (y' := zmX6_refuse) (n' := 0) (As := [zI 5]) zc_X6_61 (zq_30 hZ) rfl dX6_number_52 (Nat.le_trans (by decide) hn) rfl (Nat.le_of_ble_eq_true rfl) (Nat.le_of_ble_eq_true rfl) rfl h (fun Q' h' => fX6_refuse_ok hZ (Nat.le_refl _) zi_5 h') (fun r9 M12 c10 b11 h => ?_)
  exact zV_iretb dX6_number_55 rfl (b11 rfl) h
noncomputable def fX6_number (o1 no1 : Nat) (x2 x3 x4 : Int) (M : zMem) : Option (Int × zMem) :=
  (zbd (fX6_seen M) fun r1 => (if 0 ≤ (zw (r1 - 1000)) then (if (zw (r1 - 1000)) < x3 then fX6_number_j34 o1 no1  M else (if (zw (r1 - 1000)) ≤ x4 then (if x2 < 0 then fX6_number_j50 o1 no1  M else (if x2 < (zw ((no1 : Nat) : Int)) then (zgd ((0 : Int) ≤ x2 ∧ x2 < ((no1 : Nat) : Int)) (some (1, (zup (zup M o1 x2 (zw (r1 - 1000))) 30 3 (zw (((zup M o1 x2 (zw (r1 - 1000))) 30 3) + 1)))))) else fX6_number_j50 o1 no1  M)) else fX6_number_j34 o1 no1  M)) else (zbd2 (fX6_refuse 1 M) fun r14 M17 => some (r14, M17))))
set_option maxRecDepth 100000 in
set_option maxHeartbeats 4000000 in
theorem fX6_number_ok {Z : zZ} (hZ : zB Z) {nn : Nat} (hn : 2 ≤ nn) {o1 no1 : Nat} (hz_o1 : Z o1 = some (.inr (0, no1))) (hw_o1 : o1 < 1000)  {x2 x3 x4 : Int} (hx2 : z32 x2) (hx3 : z32 x3) (hx4 : z32 x4) {M : zMem} {Q : Option zAV → zMem → zZ → Prop} (h : zSat (fX6_number o1 no1 x2 x3 x4 M) (fun r => Q (some (zI r.1)) r.2 Z))  : zV zmX6_number nn 0 0 Z 0 [(0, zR 30), (1, zR o1), (2, zI x2), (3, zI x3), (4, zI x4)] [] M Q := by
  unfold fX6_number at h
  refine zV_aload_n 0 dX6_number_0 rfl rfl ?_
  refine zV_cVI (y' := zmX6_seen) (n' := 1) (As := []) zc_X6_43 (zq_30 hZ) rfl dX6_number_1 (Nat.le_trans (by decide) hn) rfl (Nat.le_of_ble_eq_true rfl) (Nat.le_of_ble_eq_true rfl) rfl h (fun Q' h' => fX6_seen_ok hZ (Nat.le_refl _)  h') (fun r1 c2 b3 h => ?_)
  refine zV_sipush (v := 1000) dX6_number_4 rfl ?_
  refine zV_isub dX6_number_7 ?_
  refine zV_w ?_
  refine zV_istore [(5, zI (zw (r1 - 1000))), (0, zR 30), (1, zR o1), (2, zI x2), (3, zI x3), (4, zI x4)] dX6_number_8 (by decide) rfl ?_
  refine zV_iload 0 dX6_number_10 rfl ?_
  refine zV_if_ge 21 dX6_number_12 (by decide) (z32_w _) (fun hc_ => ?_) (fun hc_ => ?_)
  · replace h := zs_t h hc_
    refine zV_iload 0 dX6_number_21 rfl ?_
    refine zV_iload_n 4 dX6_number_23 rfl rfl ?_
    refine zV_icmp_lt 34 dX6_number_24 (by decide) (z32_w _) hx3 (fun hc_ => ?_) (fun hc_ => ?_)
    · replace h := zs_t h hc_
      refine zV_ls [1] rfl ?_
      exact fX6_number_j34_ok hZ hn hz_o1 hw_o1  h
    · replace h := zs_f h hc_
      refine zV_iload 0 dX6_number_27 rfl ?_
      refine zV_iload 5 dX6_number_29 rfl ?_
      refine zV_icmp_le 40 dX6_number_31 (by decide) (z32_w _) hx4 (fun hc_ => ?_) (fun hc_ => ?_)
      · replace h := zs_t h hc_
        refine zV_iload_n 3 dX6_number_40 rfl rfl ?_
        refine zV_if_lt 50 dX6_number_41 (by decide) hx2 (fun hc_ => ?_) (fun hc_ => ?_)
        · replace h := zs_t h hc_
          refine zV_ls [1] rfl ?_
          exact fX6_number_j50_ok hZ hn hz_o1 hw_o1  h
        · replace h := zs_f h hc_
          refine zV_iload_n 3 dX6_number_44 rfl rfl ?_
          refine zV_aload_n 2 dX6_number_45 rfl rfl ?_
          refine zV_alen hz_o1 (by decide) dX6_number_46 ?_
          refine zV_w ?_
          refine zV_icmp_lt 56 dX6_number_47 (by decide) hx2 (z32_w _) (fun hc_ => ?_) (fun hc_ => ?_)
          · replace h := zs_t h hc_
            refine zV_aload_n 2 dX6_number_56 rfl rfl ?_
            refine zV_iload_n 3 dX6_number_57 rfl rfl ?_
            refine zV_iload 0 dX6_number_58 rfl ?_
            obtain ⟨hg, h⟩ := zs_gd h
            refine zV_iast hz_o1 hw_o1 hg (z32_w _) dX6_number_60 ?_
            refine zV_aload_n 1 dX6_number_61 rfl rfl ?_
            refine zV_dup dX6_number_62 rfl ?_
            refine zV_getI (zq_30 hZ) zf_X6_3 zkf_X6_28 rfl dX6_number_63 (fun m13 => ?_)
            refine zV_iconst (v := 1) dX6_number_66 rfl ?_
            refine zV_iadd dX6_number_67 ?_
            refine zV_w ?_
            refine zV_putI (zq_30 hZ) (by decide) zf_X6_3 zkf_X6_28 rfl dX6_number_68 (z32_w _) ?_
            refine zV_iconst (v := 1) dX6_number_71 rfl ?_
            exact zV_iretb dX6_number_72 rfl (Or.inr rfl) h
          · replace h := zs_f h hc_
            refine zV_ls [1] rfl ?_
            exact fX6_number_j50_ok hZ hn hz_o1 hw_o1  h
      · replace h := zs_f h hc_
        refine zV_ls [1] rfl ?_
        exact fX6_number_j34_ok hZ hn hz_o1 hw_o1  h
  · replace h := zs_f h hc_
    refine zV_aload_n 1 dX6_number_15 rfl rfl ?_
    refine zV_iconst (v := 1) dX6_number_16 rfl ?_
    refine zV_cVIm (y' := zmX6_refuse) (n' := 0) (As := [zI 1]) zc_X6_61 (zq_30 hZ) rfl dX6_number_17 (Nat.le_trans (by decide) hn) rfl (Nat.le_of_ble_eq_true rfl) (Nat.le_of_ble_eq_true rfl) rfl h (fun Q' h' => fX6_refuse_ok hZ (Nat.le_refl _) zi_1 h') (fun r14 M17 c15 b16 h => ?_)
    exact zV_iretb dX6_number_20 rfl (b16 rfl) h
noncomputable def fX6_bowlLine_j160 (x3 : Int) (M : zMem) : Option (Int × zMem) :=
  (zbd2 (fX6_take 59 M) fun r11 M14 => (if r11 = 0 then some (0, M14) else (zbd (fX7_putBowl 60 x3 M14) fun M18 => some (1, M18))))
set_option maxRecDepth 100000 in
set_option maxHeartbeats 4000000 in
theorem fX6_bowlLine_j160_ok {Z : zZ} (hZ : zB Z) {nn : Nat} (hn : 4 ≤ nn)  {x3 : Int} (hx3 : z32 x3) {M : zMem} {Q : Option zAV → zMem → zZ → Prop} (h : zSat (fX6_bowlLine_j160 x3 M) (fun r => Q (some (zI r.1)) r.2 Z))  : zV zmX6_bowlLine nn 0 0 Z 160 [(0, zR 30), (3, zI x3)] [] M Q := by
  unfold fX6_bowlLine_j160 at h
  refine zV_aload_n 0 dX6_bowlLine_160 rfl rfl ?_
  refine zV_bipush (v := 59) dX6_bowlLine_161 rfl ?_
  refine zV_cVIm (y' := zmX6_take) (n' := 2) (As := [zI 59]) zc_X6_89 (zq_30 hZ) rfl dX6_bowlLine_163 (Nat.le_trans (by decide) hn) rfl (Nat.le_of_ble_eq_true rfl) (Nat.le_of_ble_eq_true rfl) rfl h (fun Q' h' => fX6_take_ok hZ (Nat.le_refl _) zi_59 h') (fun r11 M14 c12 b13 h => ?_)
  refine zV_if_ne 171 dX6_bowlLine_166 (by decide) c12 (fun hc_ => ?_) (fun hc_ => ?_)
  · replace h := zs_f h hc_
    refine zV_aload_n 0 dX6_bowlLine_171 rfl rfl ?_
    refine zV_getR (j := 60) (zq_30 hZ) zf_X6_1 zkf_X6_19 rfl dX6_bowlLine_172 ?_
    refine zV_iload_n 1 dX6_bowlLine_175 rfl rfl ?_
    refine zV_cVV (y' := zmX7_putBowl) (n' := 0) (As := [zI x3]) zc_X6_105 (zq_60 hZ) rfl dX6_bowlLine_176 (Nat.le_trans (by decide) hn) rfl (Nat.le_of_ble_eq_true rfl) (Nat.le_of_ble_eq_true rfl) rfl h (fun Q' h' => fX7_putBowl_ok hZ (Nat.le_refl _) (zqsu_60 hZ) (by decide) hx3 h') (fun M18 h => ?_)
    refine zV_iconst (v := 1) dX6_bowlLine_179 rfl ?_
    exact zV_iretb dX6_bowlLine_180 rfl (Or.inr rfl) h
  · replace h := zs_t h hc_
    refine zV_iconst (v := 0) dX6_bowlLine_169 rfl ?_
    exact zV_iretb dX6_bowlLine_170 rfl (Or.inl rfl) h
noncomputable def fX6_bowlLine_j113 (s0 : Int) (M : zMem) : Option (Int × zMem) :=
  (if s0 = 0 then some (0, M) else (zbd (fX6_seen M) fun r7 => (if r7 < 104 then fX6_bowlLine_j160 0 M else (zbd (fX6_seen M) fun r19 => (if 106 < r19 then fX6_bowlLine_j160 0 M else (zbd (fX6_seen M) fun r23 => fX6_bowlLine_j160 (zw ((r23 - 104) + 1)) (zup M 30 3 (zw ((M 30 3) + 1)))))))))
set_option maxRecDepth 100000 in
set_option maxHeartbeats 4000000 in
theorem fX6_bowlLine_j113_ok {Z : zZ} (hZ : zB Z) {nn : Nat} (hn : 4 ≤ nn)  {s0 : Int} (hs0 : z32 s0) (hbs0 : s0 = 0 ∨ s0 = 1) {M : zMem} {Q : Option zAV → zMem → zZ → Prop} (h : zSat (fX6_bowlLine_j113 s0 M) (fun r => Q (some (zI r.1)) r.2 Z))  : zV zmX6_bowlLine nn 0 0 Z 113 [(0, zR 30)] [zI s0] M Q := by
  unfold fX6_bowlLine_j113 at h
  refine zV_istore_n [(2, zI s0), (0, zR 30)] dX6_bowlLine_113 rfl (by decide) rfl ?_
  refine zV_iload_n 0 dX6_bowlLine_114 rfl rfl ?_
  refine zV_if_ne 120 dX6_bowlLine_115 (by decide) hs0 (fun hc_ => ?_) (fun hc_ => ?_)
  · replace h := zs_f h hc_
    refine zV_iconst (v := 0) dX6_bowlLine_120 rfl ?_
    refine zV_istore_n [(3, zI 0), (2, zI s0), (0, zR 30)] dX6_bowlLine_121 rfl (by decide) rfl ?_
    refine zV_aload_n 2 dX6_bowlLine_122 rfl rfl ?_
    refine zV_cVI (y' := zmX6_seen) (n' := 1) (As := []) zc_X6_43 (zq_30 hZ) rfl dX6_bowlLine_123 (Nat.le_trans (by decide) hn) rfl (Nat.le_of_ble_eq_true rfl) (Nat.le_of_ble_eq_true rfl) rfl h (fun Q' h' => fX6_seen_ok hZ (Nat.le_refl _)  h') (fun r7 c8 b9 h => ?_)
    refine zV_bipush (v := 104) dX6_bowlLine_126 rfl ?_
    refine zV_icmp_lt 160 dX6_bowlLine_128 (by decide) c8 zi_104 (fun hc_ => ?_) (fun hc_ => ?_)
    · replace h := zs_t h hc_
      refine zV_ls [2, 0] rfl ?_
      exact fX6_bowlLine_j160_ok hZ hn zi_0 h
    · replace h := zs_f h hc_
      refine zV_aload_n 2 dX6_bowlLine_131 rfl rfl ?_
      refine zV_cVI (y' := zmX6_seen) (n' := 1) (As := []) zc_X6_43 (zq_30 hZ) rfl dX6_bowlLine_132 (Nat.le_trans (by decide) hn) rfl (Nat.le_of_ble_eq_true rfl) (Nat.le_of_ble_eq_true rfl) rfl h (fun Q' h' => fX6_seen_ok hZ (Nat.le_refl _)  h') (fun r19 c20 b21 h => ?_)
      refine zV_bipush (v := 106) dX6_bowlLine_135 rfl ?_
      refine zV_icmp_gt 160 dX6_bowlLine_137 (by decide) c20 zi_106 (fun hc_ => ?_) (fun hc_ => ?_)
      · replace h := zs_t h hc_
        refine zV_ls [2, 0] rfl ?_
        exact fX6_bowlLine_j160_ok hZ hn zi_0 h
      · replace h := zs_f h hc_
        refine zV_aload_n 2 dX6_bowlLine_140 rfl rfl ?_
        refine zV_cVI (y' := zmX6_seen) (n' := 1) (As := []) zc_X6_43 (zq_30 hZ) rfl dX6_bowlLine_141 (Nat.le_trans (by decide) hn) rfl (Nat.le_of_ble_eq_true rfl) (Nat.le_of_ble_eq_true rfl) rfl h (fun Q' h' => fX6_seen_ok hZ (Nat.le_refl _)  h') (fun r23 c24 b25 h => ?_)
        refine zV_bipush (v := 104) dX6_bowlLine_144 rfl ?_
        refine zV_isub dX6_bowlLine_146 ?_
        refine zV_iconst (v := 1) dX6_bowlLine_147 rfl ?_
        refine zV_iadd dX6_bowlLine_148 ?_
        refine zV_w ?_
        refine zV_istore_n [(3, zI (zw ((r23 - 104) + 1))), (2, zI s0), (0, zR 30)] dX6_bowlLine_149 rfl (by decide) rfl ?_
        refine zV_aload_n 2 dX6_bowlLine_150 rfl rfl ?_
        refine zV_dup dX6_bowlLine_151 rfl ?_
        refine zV_getI (zq_30 hZ) zf_X6_3 zkf_X6_28 rfl dX6_bowlLine_152 (fun m27 => ?_)
        refine zV_iconst (v := 1) dX6_bowlLine_155 rfl ?_
        refine zV_iadd dX6_bowlLine_156 ?_
        refine zV_w ?_
        refine zV_putI (zq_30 hZ) (by decide) zf_X6_3 zkf_X6_28 rfl dX6_bowlLine_157 (z32_w _) ?_
        refine zV_ls [2, 0] rfl ?_
        exact fX6_bowlLine_j160_ok hZ hn (z32_w _) h
  · replace h := zs_t h hc_
    refine zV_iconst (v := 0) dX6_bowlLine_118 rfl ?_
    exact zV_iretb dX6_bowlLine_119 rfl (Or.inl rfl) h
noncomputable def fX6_bowlLine_j112 (M : zMem) : Option (Int × zMem) :=
  fX6_bowlLine_j113 0 M
set_option maxRecDepth 100000 in
set_option maxHeartbeats 4000000 in
theorem fX6_bowlLine_j112_ok {Z : zZ} (hZ : zB Z) {nn : Nat} (hn : 4 ≤ nn)   {M : zMem} {Q : Option zAV → zMem → zZ → Prop} (h : zSat (fX6_bowlLine_j112 M) (fun r => Q (some (zI r.1)) r.2 Z))  : zV zmX6_bowlLine nn 0 0 Z 112 [(0, zR 30)] [] M Q := by
  unfold fX6_bowlLine_j112 at h
  refine zV_iconst (v := 0) dX6_bowlLine_112 rfl ?_
  exact fX6_bowlLine_j113_ok hZ hn zi_0 (Or.inl rfl) h
noncomputable def fX6_bowlLine (M : zMem) : Option (Int × zMem) :=
  (zbd2 (fX6_newName (M 60 0) (zup M 30 3 (zw ((M 30 3) + 1)))) fun r3 M6 => (if r3 = 0 then fX6_bowlLine_j112  M6 else (zbd2 (fX6_take 101 M6) fun r28 M31 => (if r28 = 0 then fX6_bowlLine_j112  M31 else (zbd2 (fX6_number 63 12 (M 60 0) 1 9999 M31) fun r32 M35 => (if r32 = 0 then fX6_bowlLine_j112  M35 else (zbd2 (fX6_take 102 M35) fun r36 M39 => (if r36 = 0 then fX6_bowlLine_j112  M39 else (zbd2 (fX6_number 64 12 (M 60 0) 1 99 M39) fun r40 M43 => (if r40 = 0 then fX6_bowlLine_j112  M43 else (zbd2 (fX6_take 103 M43) fun r44 M47 => (if r44 = 0 then fX6_bowlLine_j112  M47 else (zbd2 (fX6_number 65 12 (M 60 0) 1 20 M47) fun r48 M51 => (if r48 = 0 then fX6_bowlLine_j112  M51 else fX6_bowlLine_j113 1 M51))))))))))))))
set_option maxRecDepth 100000 in
set_option maxHeartbeats 4000000 in
theorem fX6_bowlLine_ok {Z : zZ} (hZ : zB Z) {nn : Nat} (hn : 4 ≤ nn)   {M : zMem} {Q : Option zAV → zMem → zZ → Prop} (h : zSat (fX6_bowlLine M) (fun r => Q (some (zI r.1)) r.2 Z))  : zV zmX6_bowlLine nn 0 0 Z 0 [(0, zR 30)] [] M Q := by
  unfold fX6_bowlLine at h
  refine zV_aload_n 0 dX6_bowlLine_0 rfl rfl ?_
  refine zV_getR (j := 60) (zq_30 hZ) zf_X6_1 zkf_X6_19 rfl dX6_bowlLine_1 ?_
  refine zV_getI (zq_60 hZ) zf_X7_0 zkf_X6_65 rfl dX6_bowlLine_4 (fun m1 => ?_)
  refine zV_istore_n [(1, zI (M 60 0)), (0, zR 30)] dX6_bowlLine_7 rfl (by decide) rfl ?_
  refine zV_aload_n 1 dX6_bowlLine_8 rfl rfl ?_
  refine zV_dup dX6_bowlLine_9 rfl ?_
  refine zV_getI (zq_30 hZ) zf_X6_3 zkf_X6_28 rfl dX6_bowlLine_10 (fun m2 => ?_)
  refine zV_iconst (v := 1) dX6_bowlLine_13 rfl ?_
  refine zV_iadd dX6_bowlLine_14 ?_
  refine zV_w ?_
  refine zV_putI (zq_30 hZ) (by decide) zf_X6_3 zkf_X6_28 rfl dX6_bowlLine_15 (z32_w _) ?_
  refine zV_aload_n 1 dX6_bowlLine_18 rfl rfl ?_
  refine zV_iload_n 0 dX6_bowlLine_19 rfl rfl ?_
  refine zV_cVIm (y' := zmX6_newName) (n' := 3) (As := [zI (M 60 0)]) zc_X6_86 (zq_30 hZ) rfl dX6_bowlLine_20 (Nat.le_trans (by decide) hn) rfl (Nat.le_of_ble_eq_true rfl) (Nat.le_of_ble_eq_true rfl) rfl h (fun Q' h' => fX6_newName_ok hZ (Nat.le_refl _) m1 h') (fun r3 M6 c4 b5 h => ?_)
  refine zV_if_eq 112 dX6_bowlLine_23 (by decide) c4 (fun hc_ => ?_) (fun hc_ => ?_)
  · replace h := zs_t h hc_
    refine zV_ls [1] rfl ?_
    exact fX6_bowlLine_j112_ok hZ hn  h
  · replace h := zs_f h hc_
    refine zV_aload_n 1 dX6_bowlLine_26 rfl rfl ?_
    refine zV_bipush (v := 101) dX6_bowlLine_27 rfl ?_
    refine zV_cVIm (y' := zmX6_take) (n' := 2) (As := [zI 101]) zc_X6_89 (zq_30 hZ) rfl dX6_bowlLine_29 (Nat.le_trans (by decide) hn) rfl (Nat.le_of_ble_eq_true rfl) (Nat.le_of_ble_eq_true rfl) rfl h (fun Q' h' => fX6_take_ok hZ (Nat.le_refl _) zi_101 h') (fun r28 M31 c29 b30 h => ?_)
    refine zV_if_eq 112 dX6_bowlLine_32 (by decide) c29 (fun hc_ => ?_) (fun hc_ => ?_)
    · replace h := zs_t h hc_
      refine zV_ls [1] rfl ?_
      exact fX6_bowlLine_j112_ok hZ hn  h
    · replace h := zs_f h hc_
      refine zV_aload_n 1 dX6_bowlLine_35 rfl rfl ?_
      refine zV_aload_n 1 dX6_bowlLine_36 rfl rfl ?_
      refine zV_getR (j := 60) (zq_30 hZ) zf_X6_1 zkf_X6_19 rfl dX6_bowlLine_37 ?_
      refine zV_getR (j := 63) (zq_60 hZ) zf_X7_2 zkf_X6_92 rfl dX6_bowlLine_40 ?_
      refine zV_iload_n 0 dX6_bowlLine_43 rfl rfl ?_
      refine zV_iconst (v := 1) dX6_bowlLine_44 rfl ?_
      refine zV_sipush (v := 9999) dX6_bowlLine_45 rfl ?_
      refine zV_cVIm (y' := zmX6_number) (n' := 2) (As := [zR 63, zI (M 60 0), zI 1, zI 9999]) zc_X6_95 (zq_30 hZ) rfl dX6_bowlLine_48 (Nat.le_trans (by decide) hn) rfl (Nat.le_of_ble_eq_true rfl) (Nat.le_of_ble_eq_true rfl) rfl h (fun Q' h' => fX6_number_ok hZ (Nat.le_refl _) (zq_63 hZ) (by decide) m1 zi_1 zi_9999 h') (fun r32 M35 c33 b34 h => ?_)
      refine zV_if_eq 112 dX6_bowlLine_51 (by decide) c33 (fun hc_ => ?_) (fun hc_ => ?_)
      · replace h := zs_t h hc_
        refine zV_ls [1] rfl ?_
        exact fX6_bowlLine_j112_ok hZ hn  h
      · replace h := zs_f h hc_
        refine zV_aload_n 1 dX6_bowlLine_54 rfl rfl ?_
        refine zV_bipush (v := 102) dX6_bowlLine_55 rfl ?_
        refine zV_cVIm (y' := zmX6_take) (n' := 2) (As := [zI 102]) zc_X6_89 (zq_30 hZ) rfl dX6_bowlLine_57 (Nat.le_trans (by decide) hn) rfl (Nat.le_of_ble_eq_true rfl) (Nat.le_of_ble_eq_true rfl) rfl h (fun Q' h' => fX6_take_ok hZ (Nat.le_refl _) zi_102 h') (fun r36 M39 c37 b38 h => ?_)
        refine zV_if_eq 112 dX6_bowlLine_60 (by decide) c37 (fun hc_ => ?_) (fun hc_ => ?_)
        · replace h := zs_t h hc_
          refine zV_ls [1] rfl ?_
          exact fX6_bowlLine_j112_ok hZ hn  h
        · replace h := zs_f h hc_
          refine zV_aload_n 1 dX6_bowlLine_63 rfl rfl ?_
          refine zV_aload_n 1 dX6_bowlLine_64 rfl rfl ?_
          refine zV_getR (j := 60) (zq_30 hZ) zf_X6_1 zkf_X6_19 rfl dX6_bowlLine_65 ?_
          refine zV_getR (j := 64) (zq_60 hZ) zf_X7_3 zkf_X6_99 rfl dX6_bowlLine_68 ?_
          refine zV_iload_n 0 dX6_bowlLine_71 rfl rfl ?_
          refine zV_iconst (v := 1) dX6_bowlLine_72 rfl ?_
          refine zV_bipush (v := 99) dX6_bowlLine_73 rfl ?_
          refine zV_cVIm (y' := zmX6_number) (n' := 2) (As := [zR 64, zI (M 60 0), zI 1, zI 99]) zc_X6_95 (zq_30 hZ) rfl dX6_bowlLine_75 (Nat.le_trans (by decide) hn) rfl (Nat.le_of_ble_eq_true rfl) (Nat.le_of_ble_eq_true rfl) rfl h (fun Q' h' => fX6_number_ok hZ (Nat.le_refl _) (zq_64 hZ) (by decide) m1 zi_1 zi_99 h') (fun r40 M43 c41 b42 h => ?_)
          refine zV_if_eq 112 dX6_bowlLine_78 (by decide) c41 (fun hc_ => ?_) (fun hc_ => ?_)
          · replace h := zs_t h hc_
            refine zV_ls [1] rfl ?_
            exact fX6_bowlLine_j112_ok hZ hn  h
          · replace h := zs_f h hc_
            refine zV_aload_n 1 dX6_bowlLine_81 rfl rfl ?_
            refine zV_bipush (v := 103) dX6_bowlLine_82 rfl ?_
            refine zV_cVIm (y' := zmX6_take) (n' := 2) (As := [zI 103]) zc_X6_89 (zq_30 hZ) rfl dX6_bowlLine_84 (Nat.le_trans (by decide) hn) rfl (Nat.le_of_ble_eq_true rfl) (Nat.le_of_ble_eq_true rfl) rfl h (fun Q' h' => fX6_take_ok hZ (Nat.le_refl _) zi_103 h') (fun r44 M47 c45 b46 h => ?_)
            refine zV_if_eq 112 dX6_bowlLine_87 (by decide) c45 (fun hc_ => ?_) (fun hc_ => ?_)
            · replace h := zs_t h hc_
              refine zV_ls [1] rfl ?_
              exact fX6_bowlLine_j112_ok hZ hn  h
            · replace h := zs_f h hc_
              refine zV_aload_n 1 dX6_bowlLine_90 rfl rfl ?_
              refine zV_aload_n 1 dX6_bowlLine_91 rfl rfl ?_
              refine zV_getR (j := 60) (zq_30 hZ) zf_X6_1 zkf_X6_19 rfl dX6_bowlLine_92 ?_
              refine zV_getR (j := 65) (zq_60 hZ) zf_X7_4 zkf_X6_102 rfl dX6_bowlLine_95 ?_
              refine zV_iload_n 0 dX6_bowlLine_98 rfl rfl ?_
              refine zV_iconst (v := 1) dX6_bowlLine_99 rfl ?_
              refine zV_bipush (v := 20) dX6_bowlLine_100 rfl ?_
              refine zV_cVIm (y' := zmX6_number) (n' := 2) (As := [zR 65, zI (M 60 0), zI 1, zI 20]) zc_X6_95 (zq_30 hZ) rfl dX6_bowlLine_102 (Nat.le_trans (by decide) hn) rfl (Nat.le_of_ble_eq_true rfl) (Nat.le_of_ble_eq_true rfl) rfl h (fun Q' h' => fX6_number_ok hZ (Nat.le_refl _) (zq_65 hZ) (by decide) m1 zi_1 zi_20 h') (fun r48 M51 c49 b50 h => ?_)
              refine zV_if_eq 112 dX6_bowlLine_105 (by decide) c49 (fun hc_ => ?_) (fun hc_ => ?_)
              · replace h := zs_t h hc_
                refine zV_ls [1] rfl ?_
                exact fX6_bowlLine_j112_ok hZ hn  h
              · replace h := zs_f h hc_
                refine zV_iconst (v := 1) dX6_bowlLine_108 rfl ?_
                refine zV_goto 113 dX6_bowlLine_109 (by decide) ?_
                refine zV_ls [1] rfl ?_
                exact fX6_bowlLine_j113_ok hZ hn zi_1 (Or.inr rfl) h
noncomputable def fX6_toldName (o1 no1 : Nat) (x2 x3 : Int) (M : zMem) : Option (Int × zMem) :=
  (zbd (fX6_isName M) fun r1 => (if r1 = 0 then (zbd2 (fX6_refuse 1 M) fun r18 M21 => some (r18, M21)) else (zbd (fX6_bowlSeen M) fun r5 => (if r5 = (-1) then (zbd2 (fX6_refuse 2 M) fun r14 M17 => some (r14, M17)) else (if r5 = x3 then (zbd2 (fX6_refuse 3 M) fun r10 M13 => some (r10, M13)) else (zgd ((0 : Int) ≤ x2 ∧ x2 < ((no1 : Nat) : Int)) (some (1, (zup (zup M o1 x2 r5) 30 3 (zw (((zup M o1 x2 r5) 30 3) + 1)))))))))))
set_option maxRecDepth 100000 in
set_option maxHeartbeats 4000000 in
theorem fX6_toldName_ok {Z : zZ} (hZ : zB Z) {nn : Nat} (hn : 3 ≤ nn) {o1 no1 : Nat} (hz_o1 : Z o1 = some (.inr (0, no1))) (hw_o1 : o1 < 1000)  {x2 x3 : Int} (hx2 : z32 x2) (hx3 : z32 x3) {M : zMem} {Q : Option zAV → zMem → zZ → Prop} (h : zSat (fX6_toldName o1 no1 x2 x3 M) (fun r => Q (some (zI r.1)) r.2 Z))  : zV zmX6_toldName nn 0 0 Z 0 [(0, zR 30), (1, zR o1), (2, zI x2), (3, zI x3)] [] M Q := by
  unfold fX6_toldName at h
  refine zV_aload_n 0 dX6_toldName_0 rfl rfl ?_
  refine zV_cVI (y' := zmX6_isName) (n' := 2) (As := []) zc_X6_113 (zq_30 hZ) rfl dX6_toldName_1 (Nat.le_trans (by decide) hn) rfl (Nat.le_of_ble_eq_true rfl) (Nat.le_of_ble_eq_true rfl) rfl h (fun Q' h' => fX6_isName_ok hZ (Nat.le_refl _)  h') (fun r1 c2 b3 h => ?_)
  refine zV_if_ne 13 dX6_toldName_4 (by decide) c2 (fun hc_ => ?_) (fun hc_ => ?_)
  · replace h := zs_f h hc_
    refine zV_aload_n 0 dX6_toldName_13 rfl rfl ?_
    refine zV_cVI (y' := zmX6_bowlSeen) (n' := 2) (As := []) zc_X6_116 (zq_30 hZ) rfl dX6_toldName_14 (Nat.le_trans (by decide) hn) rfl (Nat.le_of_ble_eq_true rfl) (Nat.le_of_ble_eq_true rfl) rfl h (fun Q' h' => fX6_bowlSeen_ok hZ (Nat.le_refl _)  h') (fun r5 c6 b7 h => ?_)
    refine zV_istore [(4, zI r5), (0, zR 30), (1, zR o1), (2, zI x2), (3, zI x3)] dX6_toldName_17 (by decide) rfl ?_
    refine zV_iload 0 dX6_toldName_19 rfl ?_
    refine zV_iconst (v := (-1)) dX6_toldName_21 rfl ?_
    refine zV_icmp_ne 31 dX6_toldName_22 (by decide) c6 zi_n1 (fun hc_ => ?_) (fun hc_ => ?_)
    · replace h := zs_f h hc_
      refine zV_iload 0 dX6_toldName_31 rfl ?_
      refine zV_iload_n 4 dX6_toldName_33 rfl rfl ?_
      refine zV_icmp_ne 43 dX6_toldName_34 (by decide) c6 hx3 (fun hc_ => ?_) (fun hc_ => ?_)
      · replace h := zs_f h hc_
        refine zV_aload_n 2 dX6_toldName_43 rfl rfl ?_
        refine zV_iload_n 3 dX6_toldName_44 rfl rfl ?_
        refine zV_iload 0 dX6_toldName_45 rfl ?_
        obtain ⟨hg, h⟩ := zs_gd h
        refine zV_iast hz_o1 hw_o1 hg c6 dX6_toldName_47 ?_
        refine zV_aload_n 1 dX6_toldName_48 rfl rfl ?_
        refine zV_dup dX6_toldName_49 rfl ?_
        refine zV_getI (zq_30 hZ) zf_X6_3 zkf_X6_28 rfl dX6_toldName_50 (fun m9 => ?_)
        refine zV_iconst (v := 1) dX6_toldName_53 rfl ?_
        refine zV_iadd dX6_toldName_54 ?_
        refine zV_w ?_
        refine zV_putI (zq_30 hZ) (by decide) zf_X6_3 zkf_X6_28 rfl dX6_toldName_55 (z32_w _) ?_
        refine zV_iconst (v := 1) dX6_toldName_58 rfl ?_
        exact zV_iretb dX6_toldName_59 rfl (Or.inr rfl) h
      · replace h := zs_t h hc_
        refine zV_aload_n 1 dX6_toldName_37 rfl rfl ?_
        refine zV_iconst (v := 3) dX6_toldName_38 rfl ?_
        refine zV_cVIm (y' := zmX6_refuse) (n' := 0) (As := [zI 3]) zc_X6_61 (zq_30 hZ) rfl dX6_toldName_39 (Nat.le_trans (by decide) hn) rfl (Nat.le_of_ble_eq_true rfl) (Nat.le_of_ble_eq_true rfl) rfl h (fun Q' h' => fX6_refuse_ok hZ (Nat.le_refl _) zi_3 h') (fun r10 M13 c11 b12 h => ?_)
        exact zV_iretb dX6_toldName_42 rfl (b12 rfl) h
    · replace h := zs_t h hc_
      refine zV_aload_n 1 dX6_toldName_25 rfl rfl ?_
      refine zV_iconst (v := 2) dX6_toldName_26 rfl ?_
      refine zV_cVIm (y' := zmX6_refuse) (n' := 0) (As := [zI 2]) zc_X6_61 (zq_30 hZ) rfl dX6_toldName_27 (Nat.le_trans (by decide) hn) rfl (Nat.le_of_ble_eq_true rfl) (Nat.le_of_ble_eq_true rfl) rfl h (fun Q' h' => fX6_refuse_ok hZ (Nat.le_refl _) zi_2 h') (fun r14 M17 c15 b16 h => ?_)
      exact zV_iretb dX6_toldName_30 rfl (b16 rfl) h
  · replace h := zs_t h hc_
    refine zV_aload_n 0 dX6_toldName_7 rfl rfl ?_
    refine zV_iconst (v := 1) dX6_toldName_8 rfl ?_
    refine zV_cVIm (y' := zmX6_refuse) (n' := 0) (As := [zI 1]) zc_X6_61 (zq_30 hZ) rfl dX6_toldName_9 (Nat.le_trans (by decide) hn) rfl (Nat.le_of_ble_eq_true rfl) (Nat.le_of_ble_eq_true rfl) rfl h (fun Q' h' => fX6_refuse_ok hZ (Nat.le_refl _) zi_1 h') (fun r18 M21 c19 b20 h => ?_)
    exact zV_iretb dX6_toldName_12 rfl (b20 rfl) h
noncomputable def fX6_pairLine_j154 (x2 s0 s1 : Int) (M : zMem) : Option (Int × zMem) :=
  some (x2, (zup M 60 7 (zw (s1 + s0))))
set_option maxRecDepth 100000 in
set_option maxHeartbeats 4000000 in
theorem fX6_pairLine_j154_ok {Z : zZ} (hZ : zB Z) {nn : Nat} (hn : 4 ≤ nn)  {x2 s0 s1 : Int} (hx2 : z32 x2) (hbx2 : x2 = 0 ∨ x2 = 1) (hs0 : z32 s0) (hbs0 : s0 = 0 ∨ s0 = 1) (hs1 : z32 s1) {M : zMem} {Q : Option zAV → zMem → zZ → Prop} (h : zSat (fX6_pairLine_j154 x2 s0 s1 M) (fun r => Q (some (zI r.1)) r.2 Z))  : zV zmX6_pairLine nn 0 0 Z 154 [(2, zI x2)] [zI s0, zI s1, zR 60] M Q := by
  unfold fX6_pairLine_j154 at h
  refine zV_iadd dX6_pairLine_154 ?_
  refine zV_w ?_
  refine zV_putI (zq_60 hZ) (by decide) zf_X7_7 zkf_X6_71 rfl dX6_pairLine_155 (z32_w _) ?_
  refine zV_iload_n 0 dX6_pairLine_158 rfl rfl ?_
  exact zV_iretb dX6_pairLine_159 rfl hbx2 h
noncomputable def fX6_pairLine_j136 (s0 : Int) (M : zMem) : Option (Int × zMem) :=
  (if s0 = 0 then fX6_pairLine_j154 s0 0 (M 60 7) M else fX6_pairLine_j154 s0 1 (M 60 7) M)
set_option maxRecDepth 100000 in
set_option maxHeartbeats 4000000 in
theorem fX6_pairLine_j136_ok {Z : zZ} (hZ : zB Z) {nn : Nat} (hn : 4 ≤ nn)  {s0 : Int} (hs0 : z32 s0) (hbs0 : s0 = 0 ∨ s0 = 1) {M : zMem} {Q : Option zAV → zMem → zZ → Prop} (h : zSat (fX6_pairLine_j136 s0 M) (fun r => Q (some (zI r.1)) r.2 Z))  : zV zmX6_pairLine nn 0 0 Z 136 [(0, zR 30)] [zI s0] M Q := by
  unfold fX6_pairLine_j136 at h
  refine zV_istore_n [(2, zI s0), (0, zR 30)] dX6_pairLine_136 rfl (by decide) rfl ?_
  refine zV_aload_n 1 dX6_pairLine_137 rfl rfl ?_
  refine zV_getR (j := 60) (zq_30 hZ) zf_X6_1 zkf_X6_19 rfl dX6_pairLine_138 ?_
  refine zV_dup dX6_pairLine_141 rfl ?_
  refine zV_getI (zq_60 hZ) zf_X7_7 zkf_X6_71 rfl dX6_pairLine_142 (fun m7 => ?_)
  refine zV_iload_n 0 dX6_pairLine_145 rfl rfl ?_
  refine zV_if_eq 153 dX6_pairLine_146 (by decide) hs0 (fun hc_ => ?_) (fun hc_ => ?_)
  · replace h := zs_t h hc_
    refine zV_iconst (v := 0) dX6_pairLine_153 rfl ?_
    refine zV_ls [0] rfl ?_
    exact fX6_pairLine_j154_ok hZ hn hs0 hbs0 zi_0 (Or.inl rfl) m7 h
  · replace h := zs_f h hc_
    refine zV_iconst (v := 1) dX6_pairLine_149 rfl ?_
    refine zV_goto 154 dX6_pairLine_150 (by decide) ?_
    refine zV_ls [0] rfl ?_
    exact fX6_pairLine_j154_ok hZ hn hs0 hbs0 zi_1 (Or.inr rfl) m7 h
noncomputable def fX6_pairLine_j135 (M : zMem) : Option (Int × zMem) :=
  fX6_pairLine_j136 0 M
set_option maxRecDepth 100000 in
set_option maxHeartbeats 4000000 in
theorem fX6_pairLine_j135_ok {Z : zZ} (hZ : zB Z) {nn : Nat} (hn : 4 ≤ nn)   {M : zMem} {Q : Option zAV → zMem → zZ → Prop} (h : zSat (fX6_pairLine_j135 M) (fun r => Q (some (zI r.1)) r.2 Z))  : zV zmX6_pairLine nn 0 0 Z 135 [(0, zR 30)] [] M Q := by
  unfold fX6_pairLine_j135 at h
  refine zV_iconst (v := 0) dX6_pairLine_135 rfl ?_
  exact fX6_pairLine_j136_ok hZ hn zi_0 (Or.inl rfl) h
noncomputable def fX6_pairLine (M : zMem) : Option (Int × zMem) :=
  (zbd2 (fX6_toldName 69 8 (M 60 7) (-1) (zup M 30 3 (zw ((M 30 3) + 1)))) fun r3 M6 => (if r3 = 0 then fX6_pairLine_j135  M6 else (zbd2 (fX6_number 70 8 (M 60 7) 1 20 M6) fun r8 M11 => (if r8 = 0 then fX6_pairLine_j135  M11 else (zgd ((0 : Int) ≤ (M 60 7) ∧ (M 60 7) < 8) (zbd2 (fX6_toldName 71 8 (M 60 7) (M11 69 (M 60 7)) M11) fun r13 M16 => (if r13 = 0 then fX6_pairLine_j135  M16 else (zbd2 (fX6_number 72 8 (M 60 7) 1 20 M16) fun r17 M20 => (if r17 = 0 then fX6_pairLine_j135  M20 else (zbd2 (fX6_take 108 M20) fun r21 M24 => (if r21 = 0 then fX6_pairLine_j135  M24 else (zbd2 (fX6_number 73 8 (M 60 7) 0 9999 M24) fun r25 M28 => (if r25 = 0 then fX6_pairLine_j135  M28 else (zbd2 (fX6_take 59 M28) fun r29 M32 => (if r29 = 0 then fX6_pairLine_j135  M32 else fX6_pairLine_j136 1 M32)))))))))))))))
set_option maxRecDepth 100000 in
set_option maxHeartbeats 4000000 in
theorem fX6_pairLine_ok {Z : zZ} (hZ : zB Z) {nn : Nat} (hn : 4 ≤ nn)   {M : zMem} {Q : Option zAV → zMem → zZ → Prop} (h : zSat (fX6_pairLine M) (fun r => Q (some (zI r.1)) r.2 Z))  : zV zmX6_pairLine nn 0 0 Z 0 [(0, zR 30)] [] M Q := by
  unfold fX6_pairLine at h
  refine zV_aload_n 0 dX6_pairLine_0 rfl rfl ?_
  refine zV_getR (j := 60) (zq_30 hZ) zf_X6_1 zkf_X6_19 rfl dX6_pairLine_1 ?_
  refine zV_getI (zq_60 hZ) zf_X7_7 zkf_X6_71 rfl dX6_pairLine_4 (fun m1 => ?_)
  refine zV_istore_n [(1, zI (M 60 7)), (0, zR 30)] dX6_pairLine_7 rfl (by decide) rfl ?_
  refine zV_aload_n 1 dX6_pairLine_8 rfl rfl ?_
  refine zV_dup dX6_pairLine_9 rfl ?_
  refine zV_getI (zq_30 hZ) zf_X6_3 zkf_X6_28 rfl dX6_pairLine_10 (fun m2 => ?_)
  refine zV_iconst (v := 1) dX6_pairLine_13 rfl ?_
  refine zV_iadd dX6_pairLine_14 ?_
  refine zV_w ?_
  refine zV_putI (zq_30 hZ) (by decide) zf_X6_3 zkf_X6_28 rfl dX6_pairLine_15 (z32_w _) ?_
  refine zV_aload_n 1 dX6_pairLine_18 rfl rfl ?_
  refine zV_aload_n 1 dX6_pairLine_19 rfl rfl ?_
  refine zV_getR (j := 60) (zq_30 hZ) zf_X6_1 zkf_X6_19 rfl dX6_pairLine_20 ?_
  refine zV_getR (j := 69) (zq_60 hZ) zf_X7_8 zkf_X6_119 rfl dX6_pairLine_23 ?_
  refine zV_iload_n 0 dX6_pairLine_26 rfl rfl ?_
  refine zV_iconst (v := (-1)) dX6_pairLine_27 rfl ?_
  refine zV_cVIm (y' := zmX6_toldName) (n' := 3) (As := [zR 69, zI (M 60 7), zI (-1)]) zc_X6_122 (zq_30 hZ) rfl dX6_pairLine_28 (Nat.le_trans (by decide) hn) rfl (Nat.le_of_ble_eq_true rfl) (Nat.le_of_ble_eq_true rfl) rfl h (fun Q' h' => fX6_toldName_ok hZ (Nat.le_refl _) (zq_69 hZ) (by decide) m1 zi_n1 h') (fun r3 M6 c4 b5 h => ?_)
  refine zV_if_eq 135 dX6_pairLine_31 (by decide) c4 (fun hc_ => ?_) (fun hc_ => ?_)
  · replace h := zs_t h hc_
    refine zV_ls [1] rfl ?_
    exact fX6_pairLine_j135_ok hZ hn  h
  · replace h := zs_f h hc_
    refine zV_aload_n 1 dX6_pairLine_34 rfl rfl ?_
    refine zV_aload_n 1 dX6_pairLine_35 rfl rfl ?_
    refine zV_getR (j := 60) (zq_30 hZ) zf_X6_1 zkf_X6_19 rfl dX6_pairLine_36 ?_
    refine zV_getR (j := 70) (zq_60 hZ) zf_X7_9 zkf_X6_126 rfl dX6_pairLine_39 ?_
    refine zV_iload_n 0 dX6_pairLine_42 rfl rfl ?_
    refine zV_iconst (v := 1) dX6_pairLine_43 rfl ?_
    refine zV_bipush (v := 20) dX6_pairLine_44 rfl ?_
    refine zV_cVIm (y' := zmX6_number) (n' := 2) (As := [zR 70, zI (M 60 7), zI 1, zI 20]) zc_X6_95 (zq_30 hZ) rfl dX6_pairLine_46 (Nat.le_trans (by decide) hn) rfl (Nat.le_of_ble_eq_true rfl) (Nat.le_of_ble_eq_true rfl) rfl h (fun Q' h' => fX6_number_ok hZ (Nat.le_refl _) (zq_70 hZ) (by decide) m1 zi_1 zi_20 h') (fun r8 M11 c9 b10 h => ?_)
    refine zV_if_eq 135 dX6_pairLine_49 (by decide) c9 (fun hc_ => ?_) (fun hc_ => ?_)
    · replace h := zs_t h hc_
      refine zV_ls [1] rfl ?_
      exact fX6_pairLine_j135_ok hZ hn  h
    · replace h := zs_f h hc_
      refine zV_aload_n 1 dX6_pairLine_52 rfl rfl ?_
      refine zV_aload_n 1 dX6_pairLine_53 rfl rfl ?_
      refine zV_getR (j := 60) (zq_30 hZ) zf_X6_1 zkf_X6_19 rfl dX6_pairLine_54 ?_
      refine zV_getR (j := 71) (zq_60 hZ) zf_X7_10 zkf_X6_129 rfl dX6_pairLine_57 ?_
      refine zV_iload_n 0 dX6_pairLine_60 rfl rfl ?_
      refine zV_aload_n 1 dX6_pairLine_61 rfl rfl ?_
      refine zV_getR (j := 60) (zq_30 hZ) zf_X6_1 zkf_X6_19 rfl dX6_pairLine_62 ?_
      refine zV_getR (j := 69) (zq_60 hZ) zf_X7_8 zkf_X6_119 rfl dX6_pairLine_65 ?_
      refine zV_iload_n 0 dX6_pairLine_68 rfl rfl ?_
      obtain ⟨hg, h⟩ := zs_gd h
      refine zV_iald (zq_69 hZ) hg dX6_pairLine_69 (fun m12 => ?_)
      refine zV_cVIm (y' := zmX6_toldName) (n' := 3) (As := [zR 71, zI (M 60 7), zI (M11 69 (M 60 7))]) zc_X6_122 (zq_30 hZ) rfl dX6_pairLine_70 (Nat.le_trans (by decide) hn) rfl (Nat.le_of_ble_eq_true rfl) (Nat.le_of_ble_eq_true rfl) rfl h (fun Q' h' => fX6_toldName_ok hZ (Nat.le_refl _) (zq_71 hZ) (by decide) m1 m12 h') (fun r13 M16 c14 b15 h => ?_)
      refine zV_if_eq 135 dX6_pairLine_73 (by decide) c14 (fun hc_ => ?_) (fun hc_ => ?_)
      · replace h := zs_t h hc_
        refine zV_ls [1] rfl ?_
        exact fX6_pairLine_j135_ok hZ hn  h
      · replace h := zs_f h hc_
        refine zV_aload_n 1 dX6_pairLine_76 rfl rfl ?_
        refine zV_aload_n 1 dX6_pairLine_77 rfl rfl ?_
        refine zV_getR (j := 60) (zq_30 hZ) zf_X6_1 zkf_X6_19 rfl dX6_pairLine_78 ?_
        refine zV_getR (j := 72) (zq_60 hZ) zf_X7_11 zkf_X6_132 rfl dX6_pairLine_81 ?_
        refine zV_iload_n 0 dX6_pairLine_84 rfl rfl ?_
        refine zV_iconst (v := 1) dX6_pairLine_85 rfl ?_
        refine zV_bipush (v := 20) dX6_pairLine_86 rfl ?_
        refine zV_cVIm (y' := zmX6_number) (n' := 2) (As := [zR 72, zI (M 60 7), zI 1, zI 20]) zc_X6_95 (zq_30 hZ) rfl dX6_pairLine_88 (Nat.le_trans (by decide) hn) rfl (Nat.le_of_ble_eq_true rfl) (Nat.le_of_ble_eq_true rfl) rfl h (fun Q' h' => fX6_number_ok hZ (Nat.le_refl _) (zq_72 hZ) (by decide) m1 zi_1 zi_20 h') (fun r17 M20 c18 b19 h => ?_)
        refine zV_if_eq 135 dX6_pairLine_91 (by decide) c18 (fun hc_ => ?_) (fun hc_ => ?_)
        · replace h := zs_t h hc_
          refine zV_ls [1] rfl ?_
          exact fX6_pairLine_j135_ok hZ hn  h
        · replace h := zs_f h hc_
          refine zV_aload_n 1 dX6_pairLine_94 rfl rfl ?_
          refine zV_bipush (v := 108) dX6_pairLine_95 rfl ?_
          refine zV_cVIm (y' := zmX6_take) (n' := 2) (As := [zI 108]) zc_X6_89 (zq_30 hZ) rfl dX6_pairLine_97 (Nat.le_trans (by decide) hn) rfl (Nat.le_of_ble_eq_true rfl) (Nat.le_of_ble_eq_true rfl) rfl h (fun Q' h' => fX6_take_ok hZ (Nat.le_refl _) zi_108 h') (fun r21 M24 c22 b23 h => ?_)
          refine zV_if_eq 135 dX6_pairLine_100 (by decide) c22 (fun hc_ => ?_) (fun hc_ => ?_)
          · replace h := zs_t h hc_
            refine zV_ls [1] rfl ?_
            exact fX6_pairLine_j135_ok hZ hn  h
          · replace h := zs_f h hc_
            refine zV_aload_n 1 dX6_pairLine_103 rfl rfl ?_
            refine zV_aload_n 1 dX6_pairLine_104 rfl rfl ?_
            refine zV_getR (j := 60) (zq_30 hZ) zf_X6_1 zkf_X6_19 rfl dX6_pairLine_105 ?_
            refine zV_getR (j := 73) (zq_60 hZ) zf_X7_12 zkf_X6_135 rfl dX6_pairLine_108 ?_
            refine zV_iload_n 0 dX6_pairLine_111 rfl rfl ?_
            refine zV_iconst (v := 0) dX6_pairLine_112 rfl ?_
            refine zV_sipush (v := 9999) dX6_pairLine_113 rfl ?_
            refine zV_cVIm (y' := zmX6_number) (n' := 2) (As := [zR 73, zI (M 60 7), zI 0, zI 9999]) zc_X6_95 (zq_30 hZ) rfl dX6_pairLine_116 (Nat.le_trans (by decide) hn) rfl (Nat.le_of_ble_eq_true rfl) (Nat.le_of_ble_eq_true rfl) rfl h (fun Q' h' => fX6_number_ok hZ (Nat.le_refl _) (zq_73 hZ) (by decide) m1 zi_0 zi_9999 h') (fun r25 M28 c26 b27 h => ?_)
            refine zV_if_eq 135 dX6_pairLine_119 (by decide) c26 (fun hc_ => ?_) (fun hc_ => ?_)
            · replace h := zs_t h hc_
              refine zV_ls [1] rfl ?_
              exact fX6_pairLine_j135_ok hZ hn  h
            · replace h := zs_f h hc_
              refine zV_aload_n 1 dX6_pairLine_122 rfl rfl ?_
              refine zV_bipush (v := 59) dX6_pairLine_123 rfl ?_
              refine zV_cVIm (y' := zmX6_take) (n' := 2) (As := [zI 59]) zc_X6_89 (zq_30 hZ) rfl dX6_pairLine_125 (Nat.le_trans (by decide) hn) rfl (Nat.le_of_ble_eq_true rfl) (Nat.le_of_ble_eq_true rfl) rfl h (fun Q' h' => fX6_take_ok hZ (Nat.le_refl _) zi_59 h') (fun r29 M32 c30 b31 h => ?_)
              refine zV_if_eq 135 dX6_pairLine_128 (by decide) c30 (fun hc_ => ?_) (fun hc_ => ?_)
              · replace h := zs_t h hc_
                refine zV_ls [1] rfl ?_
                exact fX6_pairLine_j135_ok hZ hn  h
              · replace h := zs_f h hc_
                refine zV_iconst (v := 1) dX6_pairLine_131 rfl ?_
                refine zV_goto 136 dX6_pairLine_132 (by decide) ?_
                refine zV_ls [1] rfl ?_
                exact fX6_pairLine_j136_ok hZ hn zi_1 (Or.inr rfl) h
noncomputable def fX6_part_j160 (F_chain : Int → Int → zMem → Option (Int × zMem)) (F_part : Int → zMem → Option (Int × zMem)) (s0 : Int) (M : zMem) : Option (Int × zMem) :=
  (zbd (fX7_putCode 60 s0 M) fun M9 => some (1, M9))
set_option maxRecDepth 100000 in
set_option maxHeartbeats 4000000 in
theorem fX6_part_j160_ok {Z : zZ} (hZ : zB Z) {nn : Nat} (hn : 5 ≤ nn) {n0 : Nat} (hn0 : n0 + 1 ≤ nn) {F_chain : Int → Int → zMem → Option (Int × zMem)} {F_part : Int → zMem → Option (Int × zMem)}  {s0 : Int} (hs0 : z32 s0) {M : zMem} (hF_chain : ∀ (y0 y1 : Int) (M : zMem) (Q : Option zAV → zMem → zZ → Prop), z32 y0 → z32 y1 → zSat (F_chain y0 y1 M) (fun r => Q (some (zI r.1)) r.2 Z) → zV zmX6_chain n0 0 0 Z 0 (zent 0 [zR 30, zI y0, zI y1]) [] M Q) (hF_part : ∀ (y0 : Int) (M : zMem) (Q : Option zAV → zMem → zZ → Prop), z32 y0 → zSat (F_part y0 M) (fun r => Q (some (zI r.1)) r.2 Z) → zV zmX6_part n0 0 0 Z 0 (zent 0 [zR 30, zI y0]) [] M Q) {Q : Option zAV → zMem → zZ → Prop} (h : zSat (fX6_part_j160 F_chain F_part s0 M) (fun r => Q (some (zI r.1)) r.2 Z))  : zV zmX6_part nn 0 0 Z 160 [] [zI s0, zR 60] M Q := by
  unfold fX6_part_j160 at h
  refine zV_cVV (y' := zmX7_putCode) (n' := 0) (As := [zI s0]) zc_X6_159 (zq_60 hZ) rfl dX6_part_160 (Nat.le_trans (by decide) hn) rfl (Nat.le_of_ble_eq_true rfl) (Nat.le_of_ble_eq_true rfl) rfl h (fun Q' h' => fX7_putCode_ok hZ (Nat.le_refl _) (zqsu_60 hZ) (by decide) hs0 h') (fun M9 h => ?_)
  refine zV_iconst (v := 1) dX6_part_163 rfl ?_
  exact zV_iretb dX6_part_164 rfl (Or.inr rfl) h
noncomputable def fX6_part_j142 (F_chain : Int → Int → zMem → Option (Int × zMem)) (F_part : Int → zMem → Option (Int × zMem)) (x2 x3 : Int) (M : zMem) : Option (Int × zMem) :=
  (if x3 = 0 then fX6_part_j160 F_chain F_part (zw (-x2)) M else fX6_part_j160 F_chain F_part (zw (x2 - 1000)) M)
set_option maxRecDepth 100000 in
set_option maxHeartbeats 4000000 in
theorem fX6_part_j142_ok {Z : zZ} (hZ : zB Z) {nn : Nat} (hn : 5 ≤ nn) {n0 : Nat} (hn0 : n0 + 1 ≤ nn) {F_chain : Int → Int → zMem → Option (Int × zMem)} {F_part : Int → zMem → Option (Int × zMem)}  {x2 x3 : Int} (hx2 : z32 x2) (hx3 : z32 x3) (hbx3 : x3 = 0 ∨ x3 = 1) {M : zMem} (hF_chain : ∀ (y0 y1 : Int) (M : zMem) (Q : Option zAV → zMem → zZ → Prop), z32 y0 → z32 y1 → zSat (F_chain y0 y1 M) (fun r => Q (some (zI r.1)) r.2 Z) → zV zmX6_chain n0 0 0 Z 0 (zent 0 [zR 30, zI y0, zI y1]) [] M Q) (hF_part : ∀ (y0 : Int) (M : zMem) (Q : Option zAV → zMem → zZ → Prop), z32 y0 → zSat (F_part y0 M) (fun r => Q (some (zI r.1)) r.2 Z) → zV zmX6_part n0 0 0 Z 0 (zent 0 [zR 30, zI y0]) [] M Q) {Q : Option zAV → zMem → zZ → Prop} (h : zSat (fX6_part_j142 F_chain F_part x2 x3 M) (fun r => Q (some (zI r.1)) r.2 Z))  : zV zmX6_part nn 0 0 Z 142 [(0, zR 30), (2, zI x2), (3, zI x3)] [] M Q := by
  unfold fX6_part_j142 at h
  refine zV_aload_n 0 dX6_part_142 rfl rfl ?_
  refine zV_getR (j := 60) (zq_30 hZ) zf_X6_1 zkf_X6_19 rfl dX6_part_143 ?_
  refine zV_iload_n 2 dX6_part_146 rfl rfl ?_
  refine zV_if_eq 158 dX6_part_147 (by decide) hx3 (fun hc_ => ?_) (fun hc_ => ?_)
  · replace h := zs_t h hc_
    refine zV_iload_n 1 dX6_part_158 rfl rfl ?_
    refine zV_ineg dX6_part_159 ?_
    refine zV_w ?_
    refine zV_ls [] rfl ?_
    exact fX6_part_j160_ok hZ hn hn0 (z32_w _) hF_chain hF_part h
  · replace h := zs_f h hc_
    refine zV_iload_n 1 dX6_part_150 rfl rfl ?_
    refine zV_sipush (v := 1000) dX6_part_151 rfl ?_
    refine zV_isub dX6_part_154 ?_
    refine zV_goto 160 dX6_part_155 (by decide) ?_
    refine zV_w ?_
    refine zV_ls [] rfl ?_
    exact fX6_part_j160_ok hZ hn hn0 (z32_w _) hF_chain hF_part h
noncomputable def fX6_part_j71 (F_chain : Int → Int → zMem → Option (Int × zMem)) (F_part : Int → zMem → Option (Int × zMem)) (x1 x2 x3 : Int) (M : zMem) : Option (Int × zMem) :=
  (if x1 < 5 then (if x2 = 40 then (zbd2 (F_chain 0 (zw (x1 + 1)) (zup M 30 3 (zw ((M 30 3) + 1)))) fun r14 M17 => (if r14 = 0 then some (0, M17) else (zbd2 (fX6_take 41 M17) fun r18 M21 => (if r18 = 0 then some (0, M21) else some (1, M21))))) else (if x2 = 111 then (zbd2 (F_part (zw (x1 + 1)) (zup M 30 3 (zw ((M 30 3) + 1)))) fun r10 M13 => (if r10 = 0 then some (0, M13) else fX6_part_j142 F_chain F_part x2 x3 M13)) else fX6_part_j142 F_chain F_part x2 x3 (zup M 30 3 (zw ((M 30 3) + 1))))) else (zbd2 (fX6_refuse 5 M) fun r22 M25 => some (r22, M25)))
set_option maxRecDepth 100000 in
set_option maxHeartbeats 4000000 in
theorem fX6_part_j71_ok {Z : zZ} (hZ : zB Z) {nn : Nat} (hn : 5 ≤ nn) {n0 : Nat} (hn0 : n0 + 1 ≤ nn) {F_chain : Int → Int → zMem → Option (Int × zMem)} {F_part : Int → zMem → Option (Int × zMem)}  {x1 x2 x3 : Int} (hx1 : z32 x1) (hx2 : z32 x2) (hx3 : z32 x3) (hbx3 : x3 = 0 ∨ x3 = 1) {M : zMem} (hF_chain : ∀ (y0 y1 : Int) (M : zMem) (Q : Option zAV → zMem → zZ → Prop), z32 y0 → z32 y1 → zSat (F_chain y0 y1 M) (fun r => Q (some (zI r.1)) r.2 Z) → zV zmX6_chain n0 0 0 Z 0 (zent 0 [zR 30, zI y0, zI y1]) [] M Q) (hF_part : ∀ (y0 : Int) (M : zMem) (Q : Option zAV → zMem → zZ → Prop), z32 y0 → zSat (F_part y0 M) (fun r => Q (some (zI r.1)) r.2 Z) → zV zmX6_part n0 0 0 Z 0 (zent 0 [zR 30, zI y0]) [] M Q) {Q : Option zAV → zMem → zZ → Prop} (h : zSat (fX6_part_j71 F_chain F_part x1 x2 x3 M) (fun r => Q (some (zI r.1)) r.2 Z))  : zV zmX6_part nn 0 0 Z 71 [(0, zR 30), (1, zI x1), (2, zI x2), (3, zI x3)] [] M Q := by
  unfold fX6_part_j71 at h
  refine zV_iload_n 1 dX6_part_71 rfl rfl ?_
  refine zV_iconst (v := 5) dX6_part_72 rfl ?_
  refine zV_icmp_lt 82 dX6_part_73 (by decide) hx1 zi_5 (fun hc_ => ?_) (fun hc_ => ?_)
  · replace h := zs_t h hc_
    refine zV_aload_n 0 dX6_part_82 rfl rfl ?_
    refine zV_dup dX6_part_83 rfl ?_
    refine zV_getI (zq_30 hZ) zf_X6_3 zkf_X6_28 rfl dX6_part_84 (fun m5 => ?_)
    refine zV_iconst (v := 1) dX6_part_87 rfl ?_
    refine zV_iadd dX6_part_88 ?_
    refine zV_w ?_
    refine zV_putI (zq_30 hZ) (by decide) zf_X6_3 zkf_X6_28 rfl dX6_part_89 (z32_w _) ?_
    refine zV_iload_n 2 dX6_part_92 rfl rfl ?_
    refine zV_bipush (v := 40) dX6_part_93 rfl ?_
    refine zV_icmp_ne 124 dX6_part_95 (by decide) hx2 zi_40 (fun hc_ => ?_) (fun hc_ => ?_)
    · replace h := zs_f h hc_
      refine zV_iload_n 2 dX6_part_124 rfl rfl ?_
      refine zV_bipush (v := 111) dX6_part_125 rfl ?_
      refine zV_icmp_ne 142 dX6_part_127 (by decide) hx2 zi_111 (fun hc_ => ?_) (fun hc_ => ?_)
      · replace h := zs_f h hc_
        refine zV_ls [0, 2, 3] rfl ?_
        exact fX6_part_j142_ok hZ hn hn0 hx2 hx3 hbx3 hF_chain hF_part h
      · replace h := zs_t h hc_
        refine zV_aload_n 0 dX6_part_130 rfl rfl ?_
        refine zV_iload_n 1 dX6_part_131 rfl rfl ?_
        refine zV_iconst (v := 1) dX6_part_132 rfl ?_
        refine zV_iadd dX6_part_133 ?_
        refine zV_w ?_
        refine zV_cVIm (y' := zmX6_part) (n' := n0) (As := [zI (zw (x1 + 1))]) zc_X6_153 (zq_30 hZ) rfl dX6_part_134 hn0 rfl (Nat.le_of_ble_eq_true rfl) (Nat.le_of_ble_eq_true rfl) rfl h (fun Q' h' => hF_part _ _ Q' (z32_w _) h') (fun r10 M13 c11 b12 h => ?_)
        refine zV_if_ne 142 dX6_part_137 (by decide) c11 (fun hc_ => ?_) (fun hc_ => ?_)
        · replace h := zs_f h hc_
          refine zV_ls [0, 2, 3] rfl ?_
          exact fX6_part_j142_ok hZ hn hn0 hx2 hx3 hbx3 hF_chain hF_part h
        · replace h := zs_t h hc_
          refine zV_iconst (v := 0) dX6_part_140 rfl ?_
          exact zV_iretb dX6_part_141 rfl (Or.inl rfl) h
    · replace h := zs_t h hc_
      refine zV_aload_n 0 dX6_part_98 rfl rfl ?_
      refine zV_iconst (v := 0) dX6_part_99 rfl ?_
      refine zV_iload_n 1 dX6_part_100 rfl rfl ?_
      refine zV_iconst (v := 1) dX6_part_101 rfl ?_
      refine zV_iadd dX6_part_102 ?_
      refine zV_w ?_
      refine zV_cVIm (y' := zmX6_chain) (n' := n0) (As := [zI 0, zI (zw (x1 + 1))]) zc_X6_147 (zq_30 hZ) rfl dX6_part_103 hn0 rfl (Nat.le_of_ble_eq_true rfl) (Nat.le_of_ble_eq_true rfl) rfl h (fun Q' h' => hF_chain _ _ _ Q' zi_0 (z32_w _) h') (fun r14 M17 c15 b16 h => ?_)
      refine zV_if_eq 122 dX6_part_106 (by decide) c15 (fun hc_ => ?_) (fun hc_ => ?_)
      · replace h := zs_t h hc_
        refine zV_iconst (v := 0) dX6_part_122 rfl ?_
        exact zV_iretb dX6_part_123 rfl (Or.inl rfl) h
      · replace h := zs_f h hc_
        refine zV_aload_n 0 dX6_part_109 rfl rfl ?_
        refine zV_bipush (v := 41) dX6_part_110 rfl ?_
        refine zV_cVIm (y' := zmX6_take) (n' := 2) (As := [zI 41]) zc_X6_89 (zq_30 hZ) rfl dX6_part_112 (Nat.le_trans (by decide) hn) rfl (Nat.le_of_ble_eq_true rfl) (Nat.le_of_ble_eq_true rfl) rfl h (fun Q' h' => fX6_take_ok hZ (Nat.le_refl _) zi_41 h') (fun r18 M21 c19 b20 h => ?_)
        refine zV_if_eq 122 dX6_part_115 (by decide) c19 (fun hc_ => ?_) (fun hc_ => ?_)
        · replace h := zs_t h hc_
          refine zV_iconst (v := 0) dX6_part_122 rfl ?_
          exact zV_iretb dX6_part_123 rfl (Or.inl rfl) h
        · replace h := zs_f h hc_
          refine zV_iconst (v := 1) dX6_part_118 rfl ?_
          refine zV_goto 123 dX6_part_119 (by decide) ?_
          exact zV_iretb dX6_part_123 rfl (Or.inr rfl) h
  · replace h := zs_f h hc_
    refine zV_aload_n 0 dX6_part_76 rfl rfl ?_
    refine zV_iconst (v := 5) dX6_part_77 rfl ?_
    refine zV_cVIm (y' := zmX6_refuse) (n' := 0) (As := [zI 5]) zc_X6_61 (zq_30 hZ) rfl dX6_part_78 (Nat.le_trans (by decide) hn) rfl (Nat.le_of_ble_eq_true rfl) (Nat.le_of_ble_eq_true rfl) rfl h (fun Q' h' => fX6_refuse_ok hZ (Nat.le_refl _) zi_5 h') (fun r22 M25 c23 b24 h => ?_)
    exact zV_iretb dX6_part_81 rfl (b24 rfl) h
noncomputable def fX6_part_j42 (F_chain : Int → Int → zMem → Option (Int × zMem)) (F_part : Int → zMem → Option (Int × zMem)) (x1 x2 x3 s0 : Int) (M : zMem) : Option (Int × zMem) :=
  (if x3 = 0 then (if s0 = 0 then (if x2 = 111 then fX6_part_j71 F_chain F_part x1 x2 x3 M else (if x2 = 40 then fX6_part_j71 F_chain F_part x1 x2 x3 M else (zbd2 (fX6_refuse 1 M) fun r26 M29 => some (r26, M29)))) else fX6_part_j71 F_chain F_part x1 x2 x3 M) else fX6_part_j71 F_chain F_part x1 x2 x3 M)
set_option maxRecDepth 100000 in
set_option maxHeartbeats 4000000 in
theorem fX6_part_j42_ok {Z : zZ} (hZ : zB Z) {nn : Nat} (hn : 5 ≤ nn) {n0 : Nat} (hn0 : n0 + 1 ≤ nn) {F_chain : Int → Int → zMem → Option (Int × zMem)} {F_part : Int → zMem → Option (Int × zMem)}  {x1 x2 x3 s0 : Int} (hx1 : z32 x1) (hx2 : z32 x2) (hx3 : z32 x3) (hbx3 : x3 = 0 ∨ x3 = 1) (hs0 : z32 s0) (hbs0 : s0 = 0 ∨ s0 = 1) {M : zMem} (hF_chain : ∀ (y0 y1 : Int) (M : zMem) (Q : Option zAV → zMem → zZ → Prop), z32 y0 → z32 y1 → zSat (F_chain y0 y1 M) (fun r => Q (some (zI r.1)) r.2 Z) → zV zmX6_chain n0 0 0 Z 0 (zent 0 [zR 30, zI y0, zI y1]) [] M Q) (hF_part : ∀ (y0 : Int) (M : zMem) (Q : Option zAV → zMem → zZ → Prop), z32 y0 → zSat (F_part y0 M) (fun r => Q (some (zI r.1)) r.2 Z) → zV zmX6_part n0 0 0 Z 0 (zent 0 [zR 30, zI y0]) [] M Q) {Q : Option zAV → zMem → zZ → Prop} (h : zSat (fX6_part_j42 F_chain F_part x1 x2 x3 s0 M) (fun r => Q (some (zI r.1)) r.2 Z))  : zV zmX6_part nn 0 0 Z 42 [(0, zR 30), (1, zI x1), (2, zI x2), (3, zI x3)] [zI s0] M Q := by
  unfold fX6_part_j42 at h
  refine zV_istore [(4, zI s0), (0, zR 30), (1, zI x1), (2, zI x2), (3, zI x3)] dX6_part_42 (by decide) rfl ?_
  refine zV_iload_n 4 dX6_part_44 rfl rfl ?_
  refine zV_if_ne 71 dX6_part_45 (by decide) hx3 (fun hc_ => ?_) (fun hc_ => ?_)
  · replace h := zs_f h hc_
    refine zV_ls [1, 2, 3, 4] rfl ?_
    exact fX6_part_j71_ok hZ hn hn0 hx1 hx2 hx3 hbx3 hF_chain hF_part h
  · replace h := zs_t h hc_
    refine zV_iload 0 dX6_part_48 rfl ?_
    refine zV_if_ne 71 dX6_part_50 (by decide) hs0 (fun hc_ => ?_) (fun hc_ => ?_)
    · replace h := zs_f h hc_
      refine zV_ls [1, 2, 3, 4] rfl ?_
      exact fX6_part_j71_ok hZ hn hn0 hx1 hx2 hx3 hbx3 hF_chain hF_part h
    · replace h := zs_t h hc_
      refine zV_iload_n 3 dX6_part_53 rfl rfl ?_
      refine zV_bipush (v := 111) dX6_part_54 rfl ?_
      refine zV_icmp_eq 71 dX6_part_56 (by decide) hx2 zi_111 (fun hc_ => ?_) (fun hc_ => ?_)
      · replace h := zs_t h hc_
        refine zV_ls [1, 2, 3, 4] rfl ?_
        exact fX6_part_j71_ok hZ hn hn0 hx1 hx2 hx3 hbx3 hF_chain hF_part h
      · replace h := zs_f h hc_
        refine zV_iload_n 3 dX6_part_59 rfl rfl ?_
        refine zV_bipush (v := 40) dX6_part_60 rfl ?_
        refine zV_icmp_eq 71 dX6_part_62 (by decide) hx2 zi_40 (fun hc_ => ?_) (fun hc_ => ?_)
        · replace h := zs_t h hc_
          refine zV_ls [1, 2, 3, 4] rfl ?_
          exact fX6_part_j71_ok hZ hn hn0 hx1 hx2 hx3 hbx3 hF_chain hF_part h
        · replace h := zs_f h hc_
          refine zV_aload_n 1 dX6_part_65 rfl rfl ?_
          refine zV_iconst (v := 1) dX6_part_66 rfl ?_
          refine zV_cVIm (y' := zmX6_refuse) (n' := 0) (As := [zI 1]) zc_X6_61 (zq_30 hZ) rfl dX6_part_67 (Nat.le_trans (by decide) hn) rfl (Nat.le_of_ble_eq_true rfl) (Nat.le_of_ble_eq_true rfl) rfl h (fun Q' h' => fX6_refuse_ok hZ (Nat.le_refl _) zi_1 h') (fun r26 M29 c27 b28 h => ?_)
          exact zV_iretb dX6_part_70 rfl (b28 rfl) h
noncomputable def fX6_part_j37 (F_chain : Int → Int → zMem → Option (Int × zMem)) (F_part : Int → zMem → Option (Int × zMem)) (x1 x2 x3 : Int) (M : zMem) : Option (Int × zMem) :=
  fX6_part_j42 F_chain F_part x1 x2 x3 1 M
set_option maxRecDepth 100000 in
set_option maxHeartbeats 4000000 in
theorem fX6_part_j37_ok {Z : zZ} (hZ : zB Z) {nn : Nat} (hn : 5 ≤ nn) {n0 : Nat} (hn0 : n0 + 1 ≤ nn) {F_chain : Int → Int → zMem → Option (Int × zMem)} {F_part : Int → zMem → Option (Int × zMem)}  {x1 x2 x3 : Int} (hx1 : z32 x1) (hx2 : z32 x2) (hx3 : z32 x3) (hbx3 : x3 = 0 ∨ x3 = 1) {M : zMem} (hF_chain : ∀ (y0 y1 : Int) (M : zMem) (Q : Option zAV → zMem → zZ → Prop), z32 y0 → z32 y1 → zSat (F_chain y0 y1 M) (fun r => Q (some (zI r.1)) r.2 Z) → zV zmX6_chain n0 0 0 Z 0 (zent 0 [zR 30, zI y0, zI y1]) [] M Q) (hF_part : ∀ (y0 : Int) (M : zMem) (Q : Option zAV → zMem → zZ → Prop), z32 y0 → zSat (F_part y0 M) (fun r => Q (some (zI r.1)) r.2 Z) → zV zmX6_part n0 0 0 Z 0 (zent 0 [zR 30, zI y0]) [] M Q) {Q : Option zAV → zMem → zZ → Prop} (h : zSat (fX6_part_j37 F_chain F_part x1 x2 x3 M) (fun r => Q (some (zI r.1)) r.2 Z))  : zV zmX6_part nn 0 0 Z 37 [(0, zR 30), (1, zI x1), (2, zI x2), (3, zI x3)] [] M Q := by
  unfold fX6_part_j37 at h
  refine zV_iconst (v := 1) dX6_part_37 rfl ?_
  refine zV_goto 42 dX6_part_38 (by decide) ?_
  exact fX6_part_j42_ok hZ hn hn0 hx1 hx2 hx3 hbx3 zi_1 (Or.inr rfl) hF_chain hF_part h
noncomputable def fX6_part_j41 (F_chain : Int → Int → zMem → Option (Int × zMem)) (F_part : Int → zMem → Option (Int × zMem)) (x1 x2 x3 : Int) (M : zMem) : Option (Int × zMem) :=
  fX6_part_j42 F_chain F_part x1 x2 x3 0 M
set_option maxRecDepth 100000 in
set_option maxHeartbeats 4000000 in
theorem fX6_part_j41_ok {Z : zZ} (hZ : zB Z) {nn : Nat} (hn : 5 ≤ nn) {n0 : Nat} (hn0 : n0 + 1 ≤ nn) {F_chain : Int → Int → zMem → Option (Int × zMem)} {F_part : Int → zMem → Option (Int × zMem)}  {x1 x2 x3 : Int} (hx1 : z32 x1) (hx2 : z32 x2) (hx3 : z32 x3) (hbx3 : x3 = 0 ∨ x3 = 1) {M : zMem} (hF_chain : ∀ (y0 y1 : Int) (M : zMem) (Q : Option zAV → zMem → zZ → Prop), z32 y0 → z32 y1 → zSat (F_chain y0 y1 M) (fun r => Q (some (zI r.1)) r.2 Z) → zV zmX6_chain n0 0 0 Z 0 (zent 0 [zR 30, zI y0, zI y1]) [] M Q) (hF_part : ∀ (y0 : Int) (M : zMem) (Q : Option zAV → zMem → zZ → Prop), z32 y0 → zSat (F_part y0 M) (fun r => Q (some (zI r.1)) r.2 Z) → zV zmX6_part n0 0 0 Z 0 (zent 0 [zR 30, zI y0]) [] M Q) {Q : Option zAV → zMem → zZ → Prop} (h : zSat (fX6_part_j41 F_chain F_part x1 x2 x3 M) (fun r => Q (some (zI r.1)) r.2 Z))  : zV zmX6_part nn 0 0 Z 41 [(0, zR 30), (1, zI x1), (2, zI x2), (3, zI x3)] [] M Q := by
  unfold fX6_part_j41 at h
  refine zV_iconst (v := 0) dX6_part_41 rfl ?_
  exact fX6_part_j42_ok hZ hn hn0 hx1 hx2 hx3 hbx3 zi_0 (Or.inl rfl) hF_chain hF_part h
noncomputable def fX6_part_j17 (F_chain : Int → Int → zMem → Option (Int × zMem)) (F_part : Int → zMem → Option (Int × zMem)) (x1 x2 s0 : Int) (M : zMem) : Option (Int × zMem) :=
  (if x2 = 103 then fX6_part_j37 F_chain F_part x1 x2 s0 M else (if x2 < 125 then fX6_part_j41 F_chain F_part x1 x2 s0 M else (if 128 < x2 then fX6_part_j41 F_chain F_part x1 x2 s0 M else fX6_part_j37 F_chain F_part x1 x2 s0 M)))
set_option maxRecDepth 100000 in
set_option maxHeartbeats 4000000 in
theorem fX6_part_j17_ok {Z : zZ} (hZ : zB Z) {nn : Nat} (hn : 5 ≤ nn) {n0 : Nat} (hn0 : n0 + 1 ≤ nn) {F_chain : Int → Int → zMem → Option (Int × zMem)} {F_part : Int → zMem → Option (Int × zMem)}  {x1 x2 s0 : Int} (hx1 : z32 x1) (hx2 : z32 x2) (hs0 : z32 s0) (hbs0 : s0 = 0 ∨ s0 = 1) {M : zMem} (hF_chain : ∀ (y0 y1 : Int) (M : zMem) (Q : Option zAV → zMem → zZ → Prop), z32 y0 → z32 y1 → zSat (F_chain y0 y1 M) (fun r => Q (some (zI r.1)) r.2 Z) → zV zmX6_chain n0 0 0 Z 0 (zent 0 [zR 30, zI y0, zI y1]) [] M Q) (hF_part : ∀ (y0 : Int) (M : zMem) (Q : Option zAV → zMem → zZ → Prop), z32 y0 → zSat (F_part y0 M) (fun r => Q (some (zI r.1)) r.2 Z) → zV zmX6_part n0 0 0 Z 0 (zent 0 [zR 30, zI y0]) [] M Q) {Q : Option zAV → zMem → zZ → Prop} (h : zSat (fX6_part_j17 F_chain F_part x1 x2 s0 M) (fun r => Q (some (zI r.1)) r.2 Z))  : zV zmX6_part nn 0 0 Z 17 [(0, zR 30), (1, zI x1), (2, zI x2)] [zI s0] M Q := by
  unfold fX6_part_j17 at h
  refine zV_istore_n [(3, zI s0), (0, zR 30), (1, zI x1), (2, zI x2)] dX6_part_17 rfl (by decide) rfl ?_
  refine zV_iload_n 3 dX6_part_18 rfl rfl ?_
  refine zV_bipush (v := 103) dX6_part_19 rfl ?_
  refine zV_icmp_eq 37 dX6_part_21 (by decide) hx2 zi_103 (fun hc_ => ?_) (fun hc_ => ?_)
  · replace h := zs_t h hc_
    refine zV_ls [1, 2, 3, 0] rfl ?_
    exact fX6_part_j37_ok hZ hn hn0 hx1 hx2 hs0 hbs0 hF_chain hF_part h
  · replace h := zs_f h hc_
    refine zV_iload_n 3 dX6_part_24 rfl rfl ?_
    refine zV_bipush (v := 125) dX6_part_25 rfl ?_
    refine zV_icmp_lt 41 dX6_part_27 (by decide) hx2 zi_125 (fun hc_ => ?_) (fun hc_ => ?_)
    · replace h := zs_t h hc_
      refine zV_ls [1, 2, 3, 0] rfl ?_
      exact fX6_part_j41_ok hZ hn hn0 hx1 hx2 hs0 hbs0 hF_chain hF_part h
    · replace h := zs_f h hc_
      refine zV_iload_n 3 dX6_part_30 rfl rfl ?_
      refine zV_sipush (v := 128) dX6_part_31 rfl ?_
      refine zV_icmp_gt 41 dX6_part_34 (by decide) hx2 zi_128 (fun hc_ => ?_) (fun hc_ => ?_)
      · replace h := zs_t h hc_
        refine zV_ls [1, 2, 3, 0] rfl ?_
        exact fX6_part_j41_ok hZ hn hn0 hx1 hx2 hs0 hbs0 hF_chain hF_part h
      · replace h := zs_f h hc_
        refine zV_ls [1, 2, 3, 0] rfl ?_
        exact fX6_part_j37_ok hZ hn hn0 hx1 hx2 hs0 hbs0 hF_chain hF_part h
noncomputable def fX6_part_s (F_chain : Int → Int → zMem → Option (Int × zMem)) (F_part : Int → zMem → Option (Int × zMem)) (x1 : Int) (M : zMem) : Option (Int × zMem) :=
  (zbd (fX6_seen M) fun r1 => (if r1 < 1000 then fX6_part_j17 F_chain F_part x1 r1 0 M else fX6_part_j17 F_chain F_part x1 r1 1 M))
set_option maxRecDepth 100000 in
set_option maxHeartbeats 4000000 in
theorem fX6_part_s_ok {Z : zZ} (hZ : zB Z) {nn : Nat} (hn : 5 ≤ nn) {n0 : Nat} (hn0 : n0 + 1 ≤ nn) {F_chain : Int → Int → zMem → Option (Int × zMem)} {F_part : Int → zMem → Option (Int × zMem)}  {x1 : Int} (hx1 : z32 x1) {M : zMem} (hF_chain : ∀ (y0 y1 : Int) (M : zMem) (Q : Option zAV → zMem → zZ → Prop), z32 y0 → z32 y1 → zSat (F_chain y0 y1 M) (fun r => Q (some (zI r.1)) r.2 Z) → zV zmX6_chain n0 0 0 Z 0 (zent 0 [zR 30, zI y0, zI y1]) [] M Q) (hF_part : ∀ (y0 : Int) (M : zMem) (Q : Option zAV → zMem → zZ → Prop), z32 y0 → zSat (F_part y0 M) (fun r => Q (some (zI r.1)) r.2 Z) → zV zmX6_part n0 0 0 Z 0 (zent 0 [zR 30, zI y0]) [] M Q) {Q : Option zAV → zMem → zZ → Prop} (h : zSat (fX6_part_s F_chain F_part x1 M) (fun r => Q (some (zI r.1)) r.2 Z))  : zV zmX6_part nn 0 0 Z 0 [(0, zR 30), (1, zI x1)] [] M Q := by
  unfold fX6_part_s at h
  refine zV_aload_n 0 dX6_part_0 rfl rfl ?_
  refine zV_cVI (y' := zmX6_seen) (n' := 1) (As := []) zc_X6_43 (zq_30 hZ) rfl dX6_part_1 (Nat.le_trans (by decide) hn) rfl (Nat.le_of_ble_eq_true rfl) (Nat.le_of_ble_eq_true rfl) rfl h (fun Q' h' => fX6_seen_ok hZ (Nat.le_refl _)  h') (fun r1 c2 b3 h => ?_)
  refine zV_istore_n [(2, zI r1), (0, zR 30), (1, zI x1)] dX6_part_4 rfl (by decide) rfl ?_
  refine zV_iload_n 0 dX6_part_5 rfl rfl ?_
  refine zV_sipush (v := 1000) dX6_part_6 rfl ?_
  refine zV_icmp_lt 16 dX6_part_9 (by decide) c2 zi_1000 (fun hc_ => ?_) (fun hc_ => ?_)
  · replace h := zs_t h hc_
    refine zV_iconst (v := 0) dX6_part_16 rfl ?_
    refine zV_ls [1, 2, 0] rfl ?_
    exact fX6_part_j17_ok hZ hn hn0 hx1 c2 zi_0 (Or.inl rfl) hF_chain hF_part h
  · replace h := zs_f h hc_
    refine zV_iconst (v := 1) dX6_part_12 rfl ?_
    refine zV_goto 17 dX6_part_13 (by decide) ?_
    refine zV_ls [1, 2, 0] rfl ?_
    exact fX6_part_j17_ok hZ hn hn0 hx1 c2 zi_1 (Or.inr rfl) hF_chain hF_part h
noncomputable def fX6_levelOf (x0 : Int) (M : zMem) : Option (Int) :=
  (if x0 = 42 then some 3 else (if x0 = 43 then some 2 else (if x0 = 45 then some 2 else (if x0 = 60 then some 1 else (if x0 = 61 then some 1 else (if x0 = 112 then some 0 else (if x0 = 113 then some 0 else some (-1))))))))
set_option maxRecDepth 100000 in
set_option maxHeartbeats 4000000 in
theorem fX6_levelOf_ok {Z : zZ} (hZ : zB Z) {nn : Nat} (hn : 0 ≤ nn)  {x0 : Int} (hx0 : z32 x0) {M : zMem} {Q : Option zAV → zMem → zZ → Prop} (h : zSat (fX6_levelOf x0 M) (fun r => Q (some (zI r)) M Z))  : zV zmX6_levelOf nn 0 0 Z 0 [(0, zI x0)] [] M Q := by
  unfold fX6_levelOf at h
  refine zV_iload_n 0 dX6_levelOf_0 rfl rfl ?_
  refine zV_if (x0 = 42) (fun hc_ => ?_) (fun hc_0 => ?_)
  · replace h := zs_t h hc_
    refine zV_lsw 74 dX6_levelOf_1 (by decide) hx0 (by rw [hc_]; decide) ?_
    refine zV_iconst (v := 3) dX6_levelOf_74 rfl ?_
    exact zV_ireti dX6_levelOf_75 rfl zi_3 h
  · replace h := zs_f h hc_0
    refine zV_if (x0 = 43) (fun hc_ => ?_) (fun hc_1 => ?_)
    · replace h := zs_t h hc_
      refine zV_lsw 72 dX6_levelOf_1 (by decide) hx0 (by rw [hc_]; decide) ?_
      refine zV_iconst (v := 2) dX6_levelOf_72 rfl ?_
      exact zV_ireti dX6_levelOf_73 rfl zi_2 h
    · replace h := zs_f h hc_1
      refine zV_if (x0 = 45) (fun hc_ => ?_) (fun hc_2 => ?_)
      · replace h := zs_t h hc_
        refine zV_lsw 72 dX6_levelOf_1 (by decide) hx0 (by rw [hc_]; decide) ?_
        refine zV_iconst (v := 2) dX6_levelOf_72 rfl ?_
        exact zV_ireti dX6_levelOf_73 rfl zi_2 h
      · replace h := zs_f h hc_2
        refine zV_if (x0 = 60) (fun hc_ => ?_) (fun hc_3 => ?_)
        · replace h := zs_t h hc_
          refine zV_lsw 70 dX6_levelOf_1 (by decide) hx0 (by rw [hc_]; decide) ?_
          refine zV_iconst (v := 1) dX6_levelOf_70 rfl ?_
          exact zV_ireti dX6_levelOf_71 rfl zi_1 h
        · replace h := zs_f h hc_3
          refine zV_if (x0 = 61) (fun hc_ => ?_) (fun hc_4 => ?_)
          · replace h := zs_t h hc_
            refine zV_lsw 70 dX6_levelOf_1 (by decide) hx0 (by rw [hc_]; decide) ?_
            refine zV_iconst (v := 1) dX6_levelOf_70 rfl ?_
            exact zV_ireti dX6_levelOf_71 rfl zi_1 h
          · replace h := zs_f h hc_4
            refine zV_if (x0 = 112) (fun hc_ => ?_) (fun hc_5 => ?_)
            · replace h := zs_t h hc_
              refine zV_lsw 68 dX6_levelOf_1 (by decide) hx0 (by rw [hc_]; decide) ?_
              refine zV_iconst (v := 0) dX6_levelOf_68 rfl ?_
              exact zV_ireti dX6_levelOf_69 rfl zi_0 h
            · replace h := zs_f h hc_5
              refine zV_if (x0 = 113) (fun hc_ => ?_) (fun hc_6 => ?_)
              · replace h := zs_t h hc_
                refine zV_lsw 68 dX6_levelOf_1 (by decide) hx0 (by rw [hc_]; decide) ?_
                refine zV_iconst (v := 0) dX6_levelOf_68 rfl ?_
                exact zV_ireti dX6_levelOf_69 rfl zi_0 h
              · replace h := zs_f h hc_6
                refine zV_lsw 76 dX6_levelOf_1 (by decide) hx0 (by rw [zlo_n hc_0, zlo_n hc_1, zlo_n hc_2, zlo_n hc_3, zlo_n hc_4, zlo_n hc_5, zlo_n hc_6, zlo_e]; decide) ?_
                refine zV_iconst (v := (-1)) dX6_levelOf_76 rfl ?_
                exact zV_ireti dX6_levelOf_77 rfl zi_n1 h
noncomputable def fX6_chain_l40 (F_chain : Int → Int → zMem → Option (Int × zMem)) (F_part : Int → zMem → Option (Int × zMem)) (x1 x2 x3 x4 : Int) (M : zMem) : Option ((Int × zMem) ⊕ ((Int × zMem) ⊕ (Int × zMem))) :=
  (if x3 ≤ x4 then some (.inr (.inl (x4, M))) else (zbd (fX6_seen M) fun r5 => (zbd (fX6_levelOf r5 M) fun r9 => (if r9 = x1 then (zbd (fX6_seen M) fun r13 => (zbd2 (F_chain (zw (x1 + 1)) x2 (zup M 30 3 (zw ((M 30 3) + 1)))) fun r18 M21 => (if r18 = 0 then some (.inr (.inr (0, M21))) else (zbd (fX7_putCode 60 (zw (-r13)) M21) fun M25 => some (.inl ((zw (x4 + 1)), M25)))))) else some (.inr (.inl (x4, M)))))))
set_option maxRecDepth 100000 in
set_option maxHeartbeats 4000000 in
theorem fX6_chain_l40_ok {Z : zZ} (hZ : zB Z) {nn : Nat} (hn : 5 ≤ nn) {n0 : Nat} (hn0 : n0 + 1 ≤ nn) {F_chain : Int → Int → zMem → Option (Int × zMem)} {F_part : Int → zMem → Option (Int × zMem)}  {x1 x2 x3 x4 : Int} (hx1 : z32 x1) (hx2 : z32 x2) (hx3 : z32 x3) (hx4 : z32 x4) {M : zMem} (hF_chain : ∀ (y0 y1 : Int) (M : zMem) (Q : Option zAV → zMem → zZ → Prop), z32 y0 → z32 y1 → zSat (F_chain y0 y1 M) (fun r => Q (some (zI r.1)) r.2 Z) → zV zmX6_chain n0 0 0 Z 0 (zent 0 [zR 30, zI y0, zI y1]) [] M Q) (hF_part : ∀ (y0 : Int) (M : zMem) (Q : Option zAV → zMem → zZ → Prop), z32 y0 → zSat (F_part y0 M) (fun r => Q (some (zI r.1)) r.2 Z) → zV zmX6_part n0 0 0 Z 0 (zent 0 [zR 30, zI y0]) [] M Q) {Q : Option zAV → zMem → zZ → Prop} {P : (Int × zMem) ⊕ ((Int × zMem) ⊕ (Int × zMem)) → Prop} (h : zSat (fX6_chain_l40 F_chain F_part x1 x2 x3 x4 M) P)  (hc : ∀ s : Int × zMem, P (.inl s) → z32 (s.1) → zV zmX6_chain nn 0 0 Z 40 [(0, zR 30), (1, zI x1), (2, zI x2), (3, zI x3), (4, zI (s.1))] [] (s.2) Q) (he : ∀ s : Int × zMem, P (.inr (.inl s)) → z32 (s.1) → zV zmX6_chain nn 0 0 Z 102 [(0, zR 30), (1, zI x1), (2, zI x2), (3, zI x3), (4, zI (s.1))] [] (s.2) Q) (hr : ∀ r : Int × zMem, P (.inr (.inr r)) → (fun r => Q (some (zI r.1)) r.2 Z) r)  : zV zmX6_chain nn 0 0 Z 40 [(0, zR 30), (1, zI x1), (2, zI x2), (3, zI x3), (4, zI x4)] [] M Q := by
  unfold fX6_chain_l40 at h
  refine zV_iload 4 dX6_chain_40 rfl ?_
  refine zV_iload_n 3 dX6_chain_42 rfl rfl ?_
  refine zV_icmp_ge 102 dX6_chain_43 (by decide) hx4 hx3 (fun hc_ => ?_) (fun hc_ => ?_)
  · replace h := zs_t h hc_
    exact he _ h hx4
  · replace h := zs_f h hc_
    refine zV_aload_n 0 dX6_chain_46 rfl rfl ?_
    refine zV_cVI (y' := zmX6_seen) (n' := 1) (As := []) zc_X6_43 (zq_30 hZ) rfl dX6_chain_47 (Nat.le_trans (by decide) hn) rfl (Nat.le_of_ble_eq_true rfl) (Nat.le_of_ble_eq_true rfl) rfl h (fun Q' h' => fX6_seen_ok hZ (Nat.le_refl _)  h') (fun r5 c6 b7 h => ?_)
    refine zV_cSI (y' := zmX6_levelOf) (n' := 0) (As := [zI r5]) zc_X6_156 dX6_chain_50 (Nat.le_trans (by decide) hn) rfl (Nat.le_of_ble_eq_true rfl) (Nat.le_of_ble_eq_true rfl) rfl h (fun Q' h' => fX6_levelOf_ok hZ (Nat.le_refl _) c6 h') (fun r9 c10 b11 h => ?_)
    refine zV_iload_n 1 dX6_chain_53 rfl rfl ?_
    refine zV_icmp_ne 102 dX6_chain_54 (by decide) c10 hx1 (fun hc_ => ?_) (fun hc_ => ?_)
    · replace h := zs_f h hc_
      exact he _ h hx4
    · replace h := zs_t h hc_
      refine zV_aload_n 0 dX6_chain_57 rfl rfl ?_
      refine zV_cVI (y' := zmX6_seen) (n' := 1) (As := []) zc_X6_43 (zq_30 hZ) rfl dX6_chain_58 (Nat.le_trans (by decide) hn) rfl (Nat.le_of_ble_eq_true rfl) (Nat.le_of_ble_eq_true rfl) rfl h (fun Q' h' => fX6_seen_ok hZ (Nat.le_refl _)  h') (fun r13 c14 b15 h => ?_)
      refine zV_istore [(5, zI r13), (0, zR 30), (1, zI x1), (2, zI x2), (3, zI x3), (4, zI x4)] dX6_chain_61 (by decide) rfl ?_
      refine zV_aload_n 1 dX6_chain_63 rfl rfl ?_
      refine zV_dup dX6_chain_64 rfl ?_
      refine zV_getI (zq_30 hZ) zf_X6_3 zkf_X6_28 rfl dX6_chain_65 (fun m17 => ?_)
      refine zV_iconst (v := 1) dX6_chain_68 rfl ?_
      refine zV_iadd dX6_chain_69 ?_
      refine zV_w ?_
      refine zV_putI (zq_30 hZ) (by decide) zf_X6_3 zkf_X6_28 rfl dX6_chain_70 (z32_w _) ?_
      refine zV_aload_n 1 dX6_chain_73 rfl rfl ?_
      refine zV_iload_n 2 dX6_chain_74 rfl rfl ?_
      refine zV_iconst (v := 1) dX6_chain_75 rfl ?_
      refine zV_iadd dX6_chain_76 ?_
      refine zV_iload_n 3 dX6_chain_77 rfl rfl ?_
      refine zV_w2 ?_
      refine zV_cVIm (y' := zmX6_chain) (n' := n0) (As := [zI (zw (x1 + 1)), zI x2]) zc_X6_147 (zq_30 hZ) rfl dX6_chain_78 hn0 rfl (Nat.le_of_ble_eq_true rfl) (Nat.le_of_ble_eq_true rfl) rfl h (fun Q' h' => hF_chain _ _ _ Q' (z32_w _) hx2 h') (fun r18 M21 c19 b20 h => ?_)
      refine zV_if_ne 86 dX6_chain_81 (by decide) c19 (fun hc_ => ?_) (fun hc_ => ?_)
      · replace h := zs_f h hc_
        refine zV_aload_n 1 dX6_chain_86 rfl rfl ?_
        refine zV_getR (j := 60) (zq_30 hZ) zf_X6_1 zkf_X6_19 rfl dX6_chain_87 ?_
        refine zV_iload 0 dX6_chain_90 rfl ?_
        refine zV_ineg dX6_chain_92 ?_
        refine zV_w ?_
        refine zV_cVV (y' := zmX7_putCode) (n' := 0) (As := [zI (zw (-r13))]) zc_X6_159 (zq_60 hZ) rfl dX6_chain_93 (Nat.le_trans (by decide) hn) rfl (Nat.le_of_ble_eq_true rfl) (Nat.le_of_ble_eq_true rfl) rfl h (fun Q' h' => fX7_putCode_ok hZ (Nat.le_refl _) (zqsu_60 hZ) (by decide) (z32_w _) h') (fun M25 h => ?_)
        refine zV_iinc 5 [(4, zI (zw (x4 + 1))), (5, zI r13), (0, zR 30), (1, zI x1), (2, zI x2), (3, zI x3)] dX6_chain_96 rfl rfl (by decide) rfl ?_
        refine zV_goto 40 dX6_chain_99 (by decide) ?_
        refine zV_ls [2, 3, 4, 5, 0] rfl ?_
        exact hc _ h (z32_w _)
      · replace h := zs_t h hc_
        refine zV_iconst (v := 0) dX6_chain_84 rfl ?_
        exact zV_iretb dX6_chain_85 rfl (Or.inl rfl) (hr _ h)
noncomputable def fX6_chain_j36 (F_chain : Int → Int → zMem → Option (Int × zMem)) (F_part : Int → zMem → Option (Int × zMem)) (x1 x2 s0 : Int) (M : zMem) : Option (Int × zMem) :=
  (zbd (zit (fun s26 => fX6_chain_l40 F_chain F_part x1 x2 s0 (s26.1) (s26.2)) (0, M)) fun e => zel e (fun s32 => some (1, s32.2)) (fun r => some r))
set_option maxRecDepth 100000 in
set_option maxHeartbeats 4000000 in
theorem fX6_chain_j36_ok {Z : zZ} (hZ : zB Z) {nn : Nat} (hn : 5 ≤ nn) {n0 : Nat} (hn0 : n0 + 1 ≤ nn) {F_chain : Int → Int → zMem → Option (Int × zMem)} {F_part : Int → zMem → Option (Int × zMem)}  {x1 x2 s0 : Int} (hx1 : z32 x1) (hx2 : z32 x2) (hs0 : z32 s0) {M : zMem} (hF_chain : ∀ (y0 y1 : Int) (M : zMem) (Q : Option zAV → zMem → zZ → Prop), z32 y0 → z32 y1 → zSat (F_chain y0 y1 M) (fun r => Q (some (zI r.1)) r.2 Z) → zV zmX6_chain n0 0 0 Z 0 (zent 0 [zR 30, zI y0, zI y1]) [] M Q) (hF_part : ∀ (y0 : Int) (M : zMem) (Q : Option zAV → zMem → zZ → Prop), z32 y0 → zSat (F_part y0 M) (fun r => Q (some (zI r.1)) r.2 Z) → zV zmX6_part n0 0 0 Z 0 (zent 0 [zR 30, zI y0]) [] M Q) {Q : Option zAV → zMem → zZ → Prop} (h : zSat (fX6_chain_j36 F_chain F_part x1 x2 s0 M) (fun r => Q (some (zI r.1)) r.2 Z))  : zV zmX6_chain nn 0 0 Z 36 [(0, zR 30), (1, zI x1), (2, zI x2)] [zI s0] M Q := by
  unfold fX6_chain_j36 at h
  refine zV_istore_n [(3, zI s0), (0, zR 30), (1, zI x1), (2, zI x2)] dX6_chain_36 rfl (by decide) rfl ?_
  refine zV_iconst (v := 0) dX6_chain_37 rfl ?_
  refine zV_istore [(4, zI 0), (3, zI s0), (0, zR 30), (1, zI x1), (2, zI x2)] dX6_chain_38 (by decide) rfl ?_
  refine zV_ls [2, 3, 4, 1, 0] rfl ?_
  refine (zV_loop (Vh := fun s26 : Int × zMem => z32 (s26.1) → zV zmX6_chain nn 0 0 Z 40 [(0, zR 30), (1, zI x1), (2, zI x2), (3, zI s0), (4, zI (s26.1))] [] (s26.2) Q) h (fun s26 P27 hP28 hc29 he30 => ?_)) zi_0
  intro c31
  refine fX6_chain_l40_ok hZ hn hn0 hx1 hx2 hs0 c31 hF_chain hF_part hP28 hc29 (fun s32 h33 d34 => ?_) (fun r35 h36 => he30 _ h36)
  have h := he30 _ h33
  refine zV_iconst (v := 1) dX6_chain_102 rfl ?_
  exact zV_iretb dX6_chain_103 rfl (Or.inr rfl) h
noncomputable def fX6_chain_s (F_chain : Int → Int → zMem → Option (Int × zMem)) (F_part : Int → zMem → Option (Int × zMem)) (x1 x2 : Int) (M : zMem) : Option (Int × zMem) :=
  (if x1 < 4 then (zbd2 (F_chain (zw (x1 + 1)) x2 M) fun r1 M4 => (if r1 = 0 then some (0, M4) else (if x1 = 1 then fX6_chain_j36 F_chain F_part x1 x2 1 M4 else fX6_chain_j36 F_chain F_part x1 x2 1000 M4))) else (zbd2 (F_part x2 M) fun r37 M40 => some (r37, M40)))
set_option maxRecDepth 100000 in
set_option maxHeartbeats 4000000 in
theorem fX6_chain_s_ok {Z : zZ} (hZ : zB Z) {nn : Nat} (hn : 5 ≤ nn) {n0 : Nat} (hn0 : n0 + 1 ≤ nn) {F_chain : Int → Int → zMem → Option (Int × zMem)} {F_part : Int → zMem → Option (Int × zMem)}  {x1 x2 : Int} (hx1 : z32 x1) (hx2 : z32 x2) {M : zMem} (hF_chain : ∀ (y0 y1 : Int) (M : zMem) (Q : Option zAV → zMem → zZ → Prop), z32 y0 → z32 y1 → zSat (F_chain y0 y1 M) (fun r => Q (some (zI r.1)) r.2 Z) → zV zmX6_chain n0 0 0 Z 0 (zent 0 [zR 30, zI y0, zI y1]) [] M Q) (hF_part : ∀ (y0 : Int) (M : zMem) (Q : Option zAV → zMem → zZ → Prop), z32 y0 → zSat (F_part y0 M) (fun r => Q (some (zI r.1)) r.2 Z) → zV zmX6_part n0 0 0 Z 0 (zent 0 [zR 30, zI y0]) [] M Q) {Q : Option zAV → zMem → zZ → Prop} (h : zSat (fX6_chain_s F_chain F_part x1 x2 M) (fun r => Q (some (zI r.1)) r.2 Z))  : zV zmX6_chain nn 0 0 Z 0 [(0, zR 30), (1, zI x1), (2, zI x2)] [] M Q := by
  unfold fX6_chain_s at h
  refine zV_iload_n 1 dX6_chain_0 rfl rfl ?_
  refine zV_iconst (v := 4) dX6_chain_1 rfl ?_
  refine zV_icmp_lt 11 dX6_chain_2 (by decide) hx1 zi_4 (fun hc_ => ?_) (fun hc_ => ?_)
  · replace h := zs_t h hc_
    refine zV_aload_n 0 dX6_chain_11 rfl rfl ?_
    refine zV_iload_n 1 dX6_chain_12 rfl rfl ?_
    refine zV_iconst (v := 1) dX6_chain_13 rfl ?_
    refine zV_iadd dX6_chain_14 ?_
    refine zV_iload_n 2 dX6_chain_15 rfl rfl ?_
    refine zV_w2 ?_
    refine zV_cVIm (y' := zmX6_chain) (n' := n0) (As := [zI (zw (x1 + 1)), zI x2]) zc_X6_147 (zq_30 hZ) rfl dX6_chain_16 hn0 rfl (Nat.le_of_ble_eq_true rfl) (Nat.le_of_ble_eq_true rfl) rfl h (fun Q' h' => hF_chain _ _ _ Q' (z32_w _) hx2 h') (fun r1 M4 c2 b3 h => ?_)
    refine zV_if_ne 24 dX6_chain_19 (by decide) c2 (fun hc_ => ?_) (fun hc_ => ?_)
    · replace h := zs_f h hc_
      refine zV_iload_n 1 dX6_chain_24 rfl rfl ?_
      refine zV_iconst (v := 1) dX6_chain_25 rfl ?_
      refine zV_icmp_ne 33 dX6_chain_26 (by decide) hx1 zi_1 (fun hc_ => ?_) (fun hc_ => ?_)
      · replace h := zs_f h hc_
        refine zV_sipush (v := 1000) dX6_chain_33 rfl ?_
        exact fX6_chain_j36_ok hZ hn hn0 hx1 hx2 zi_1000 hF_chain hF_part h
      · replace h := zs_t h hc_
        refine zV_iconst (v := 1) dX6_chain_29 rfl ?_
        refine zV_goto 36 dX6_chain_30 (by decide) ?_
        exact fX6_chain_j36_ok hZ hn hn0 hx1 hx2 zi_1 hF_chain hF_part h
    · replace h := zs_t h hc_
      refine zV_iconst (v := 0) dX6_chain_22 rfl ?_
      exact zV_iretb dX6_chain_23 rfl (Or.inl rfl) h
  · replace h := zs_f h hc_
    refine zV_aload_n 0 dX6_chain_5 rfl rfl ?_
    refine zV_iload_n 2 dX6_chain_6 rfl rfl ?_
    refine zV_cVIm (y' := zmX6_part) (n' := n0) (As := [zI x2]) zc_X6_153 (zq_30 hZ) rfl dX6_chain_7 hn0 rfl (Nat.le_of_ble_eq_true rfl) (Nat.le_of_ble_eq_true rfl) rfl h (fun Q' h' => hF_part _ _ Q' hx2 h') (fun r37 M40 c38 b39 h => ?_)
    exact zV_iretb dX6_chain_10 rfl (b39 rfl) h
noncomputable def fX6_cp : Nat → (Int → Int → zMem → Option (Int × zMem)) × (Int → zMem → Option (Int × zMem))
  | 0 => (fun _ _ _ => none, fun _ _ => none)
  | d + 1 => (fX6_chain_s (fX6_cp d).1 (fX6_cp d).2, fX6_part_s (fX6_cp d).1 (fX6_cp d).2)
noncomputable def fX6_chain (d : Nat) : Int → Int → zMem → Option (Int × zMem) := (fX6_cp d).1
noncomputable def fX6_part (d : Nat) : Int → zMem → Option (Int × zMem) := (fX6_cp d).2
theorem fX6_cp_ok {Z : zZ} (hZ : zB Z) : ∀ (d nn : Nat), 5 + d ≤ nn →
    (∀ {x1 x2 : Int} (_ : z32 x1) (_ : z32 x2) {M : zMem} {Q : Option zAV → zMem → zZ → Prop} (_ : zSat (fX6_chain d x1 x2 M) (fun r => Q (some (zI r.1)) r.2 Z)), zV zmX6_chain nn 0 0 Z 0 [(0, zR 30), (1, zI x1), (2, zI x2)] [] M Q) ∧
    (∀ {x1 : Int} (_ : z32 x1) {M : zMem} {Q : Option zAV → zMem → zZ → Prop} (_ : zSat (fX6_part d x1 M) (fun r => Q (some (zI r.1)) r.2 Z)), zV zmX6_part nn 0 0 Z 0 [(0, zR 30), (1, zI x1)] [] M Q)
  | 0, _, _ => ⟨fun _ _ _ _ h => h.elim, fun _ _ _ h => h.elim⟩
  | d + 1, nn, hn => by
    have ih := fX6_cp_ok hZ d (nn - 1) (by omega)
    exact ⟨fun hx1 hx2 _ _ h => fX6_chain_s_ok (n0 := nn - 1) hZ (by omega) (by omega) hx1 hx2 (fun _ _ M' Q' g1 g2 hh => ih.1 g1 g2 hh) (fun _ M' Q' g1 hh => ih.2 g1 hh) h,
      fun hx1 _ _ h => fX6_part_s_ok (n0 := nn - 1) hZ (by omega) (by omega) hx1 (fun _ _ M' Q' g1 g2 hh => ih.1 g1 g2 hh) (fun _ M' Q' g1 hh => ih.2 g1 hh) h⟩
theorem fX6_chain_ok {Z : zZ} (hZ : zB Z) (d : Nat) {nn : Nat} (hn : 5 + d ≤ nn) {x1 x2 : Int} (hx1 : z32 x1) (hx2 : z32 x2) {M : zMem} {Q : Option zAV → zMem → zZ → Prop} (h : zSat (fX6_chain d x1 x2 M) (fun r => Q (some (zI r.1)) r.2 Z)) : zV zmX6_chain nn 0 0 Z 0 [(0, zR 30), (1, zI x1), (2, zI x2)] [] M Q := (fX6_cp_ok hZ d nn hn).1 hx1 hx2 h

noncomputable def fX6_speakLine (M : zMem) : Option (Int × zMem) :=
  (zbd2 (fX6_chain 80 0 0 (zup M 30 3 (zw ((M 30 3) + 1)))) fun r2 M5 => (if r2 = 0 then some (0, M5) else (zbd2 (fX6_take 59 M5) fun r6 M9 => (if r6 = 0 then some (0, M9) else (zbd (fX7_endSpeak 60 M9) fun M13 => some (1, M13))))))
set_option maxRecDepth 100000 in
set_option maxHeartbeats 4000000 in
theorem fX6_speakLine_ok {Z : zZ} (hZ : zB Z) {nn : Nat} (hn : 86 ≤ nn)   {M : zMem} {Q : Option zAV → zMem → zZ → Prop} (h : zSat (fX6_speakLine M) (fun r => Q (some (zI r.1)) r.2 Z))  : zV zmX6_speakLine nn 0 0 Z 0 [(0, zR 30)] [] M Q := by
  unfold fX6_speakLine at h
  refine zV_aload_n 0 dX6_speakLine_0 rfl rfl ?_
  refine zV_dup dX6_speakLine_1 rfl ?_
  refine zV_getI (zq_30 hZ) zf_X6_3 zkf_X6_28 rfl dX6_speakLine_2 (fun m1 => ?_)
  refine zV_iconst (v := 1) dX6_speakLine_5 rfl ?_
  refine zV_iadd dX6_speakLine_6 ?_
  refine zV_w ?_
  refine zV_putI (zq_30 hZ) (by decide) zf_X6_3 zkf_X6_28 rfl dX6_speakLine_7 (z32_w _) ?_
  refine zV_aload_n 0 dX6_speakLine_10 rfl rfl ?_
  refine zV_iconst (v := 0) dX6_speakLine_11 rfl ?_
  refine zV_iconst (v := 0) dX6_speakLine_12 rfl ?_
  refine zV_cVIm (y' := zmX6_chain) (n' := 85) (As := [zI 0, zI 0]) zc_X6_147 (zq_30 hZ) rfl dX6_speakLine_13 (Nat.le_trans (by decide) hn) rfl (Nat.le_of_ble_eq_true rfl) (Nat.le_of_ble_eq_true rfl) rfl h (fun Q' h' => fX6_chain_ok hZ 80 (Nat.le_refl _) zi_0 zi_0 h') (fun r2 M5 c3 b4 h => ?_)
  refine zV_if_eq 28 dX6_speakLine_16 (by decide) c3 (fun hc_ => ?_) (fun hc_ => ?_)
  · replace h := zs_t h hc_
    refine zV_iconst (v := 0) dX6_speakLine_28 rfl ?_
    exact zV_iretb dX6_speakLine_29 rfl (Or.inl rfl) h
  · replace h := zs_f h hc_
    refine zV_aload_n 0 dX6_speakLine_19 rfl rfl ?_
    refine zV_bipush (v := 59) dX6_speakLine_20 rfl ?_
    refine zV_cVIm (y' := zmX6_take) (n' := 2) (As := [zI 59]) zc_X6_89 (zq_30 hZ) rfl dX6_speakLine_22 (Nat.le_trans (by decide) hn) rfl (Nat.le_of_ble_eq_true rfl) (Nat.le_of_ble_eq_true rfl) rfl h (fun Q' h' => fX6_take_ok hZ (Nat.le_refl _) zi_59 h') (fun r6 M9 c7 b8 h => ?_)
    refine zV_if_ne 30 dX6_speakLine_25 (by decide) c7 (fun hc_ => ?_) (fun hc_ => ?_)
    · replace h := zs_f h hc_
      refine zV_aload_n 0 dX6_speakLine_30 rfl rfl ?_
      refine zV_getR (j := 60) (zq_30 hZ) zf_X6_1 zkf_X6_19 rfl dX6_speakLine_31 ?_
      refine zV_cVV (y' := zmX7_endSpeak) (n' := 0) (As := []) zc_X6_150 (zq_60 hZ) rfl dX6_speakLine_34 (Nat.le_trans (by decide) hn) rfl (Nat.le_of_ble_eq_true rfl) (Nat.le_of_ble_eq_true rfl) rfl h (fun Q' h' => fX7_endSpeak_ok hZ (Nat.le_refl _) (zqsu_60 hZ) (by decide) h') (fun M13 h => ?_)
      refine zV_iconst (v := 1) dX6_speakLine_37 rfl ?_
      exact zV_iretb dX6_speakLine_38 rfl (Or.inr rfl) h
    · replace h := zs_t h hc_
      refine zV_iconst (v := 0) dX6_speakLine_28 rfl ?_
      exact zV_iretb dX6_speakLine_29 rfl (Or.inl rfl) h
noncomputable def fX6_setLine_j28 (M : zMem) : Option (Int × zMem) :=
  (zbd2 (fX6_refuse 1 M) fun r6 M9 => some (r6, M9))
set_option maxRecDepth 100000 in
set_option maxHeartbeats 4000000 in
theorem fX6_setLine_j28_ok {Z : zZ} (hZ : zB Z) {nn : Nat} (hn : 3 ≤ nn)   {M : zMem} {Q : Option zAV → zMem → zZ → Prop} (h : zSat (fX6_setLine_j28 M) (fun r => Q (some (zI r.1)) r.2 Z))  : zV zmX6_setLine nn 0 0 Z 28 [(0, zR 30)] [] M Q := by
  unfold fX6_setLine_j28 at h
  refine zV_aload_n 0 dX6_setLine_28 rfl rfl ?_
  refine zV_iconst (v := 1) dX6_setLine_29 rfl ?_
  refine zV_cVIm (y' := zmX6_refuse) (n' := 0) (As := [zI 1]) zc_X6_61 (zq_30 hZ) rfl dX6_setLine_30 (Nat.le_trans (by decide) hn) rfl (Nat.le_of_ble_eq_true rfl) (Nat.le_of_ble_eq_true rfl) rfl h (fun Q' h' => fX6_refuse_ok hZ (Nat.le_refl _) zi_1 h') (fun r6 M9 c7 b8 h => ?_)
  exact zV_iretb dX6_setLine_33 rfl (b8 rfl) h
noncomputable def fX6_setLine (M : zMem) : Option (Int × zMem) :=
  (zbd (fX6_seen (zup M 30 3 (zw ((M 30 3) + 1)))) fun r2 => (if (zw (r2 - 114)) < 0 then fX6_setLine_j28  (zup M 30 3 (zw ((M 30 3) + 1))) else (if (zw (r2 - 114)) < 11 then (if (zand (zshr ((zup M 30 3 (zw ((M 30 3) + 1))) 30 4) (zw (r2 - 114))) 1) = 0 then (zgd ((0 : Int) ≤ (zw (r2 - 114)) ∧ (zw (r2 - 114)) < 11) (zgd ((0 : Int) ≤ (zw (r2 - 114)) ∧ (zw (r2 - 114)) < 11) (zbd2 (fX6_number 79 11 (zw (r2 - 114)) ((zup (zup (zup M 30 3 (zw ((M 30 3) + 1))) 30 4 (zor ((zup M 30 3 (zw ((M 30 3) + 1))) 30 4) (zshl 1 (zw (r2 - 114))))) 30 3 (zw (((zup (zup M 30 3 (zw ((M 30 3) + 1))) 30 4 (zor ((zup M 30 3 (zw ((M 30 3) + 1))) 30 4) (zshl 1 (zw (r2 - 114))))) 30 3) + 1))) 1001 (zw (r2 - 114))) ((zup (zup (zup M 30 3 (zw ((M 30 3) + 1))) 30 4 (zor ((zup M 30 3 (zw ((M 30 3) + 1))) 30 4) (zshl 1 (zw (r2 - 114))))) 30 3 (zw (((zup (zup M 30 3 (zw ((M 30 3) + 1))) 30 4 (zor ((zup M 30 3 (zw ((M 30 3) + 1))) 30 4) (zshl 1 (zw (r2 - 114))))) 30 3) + 1))) 1002 (zw (r2 - 114))) (zup (zup (zup M 30 3 (zw ((M 30 3) + 1))) 30 4 (zor ((zup M 30 3 (zw ((M 30 3) + 1))) 30 4) (zshl 1 (zw (r2 - 114))))) 30 3 (zw (((zup (zup M 30 3 (zw ((M 30 3) + 1))) 30 4 (zor ((zup M 30 3 (zw ((M 30 3) + 1))) 30 4) (zshl 1 (zw (r2 - 114))))) 30 3) + 1)))) fun r15 M18 => (if r15 = 0 then some (0, M18) else (zbd2 (fX6_take 59 M18) fun r19 M22 => (if r19 = 0 then some (0, M22) else some (1, M22))))))) else (zbd2 (fX6_refuse 3 (zup M 30 3 (zw ((M 30 3) + 1)))) fun r23 M26 => some (r23, M26))) else fX6_setLine_j28  (zup M 30 3 (zw ((M 30 3) + 1))))))
set_option maxRecDepth 100000 in
set_option maxHeartbeats 4000000 in
theorem fX6_setLine_ok {Z : zZ} (hZ : zB Z) {nn : Nat} (hn : 3 ≤ nn)   {M : zMem} {Q : Option zAV → zMem → zZ → Prop} (h : zSat (fX6_setLine M) (fun r => Q (some (zI r.1)) r.2 Z))  : zV zmX6_setLine nn 0 0 Z 0 [(0, zR 30)] [] M Q := by
  unfold fX6_setLine at h
  refine zV_aload_n 0 dX6_setLine_0 rfl rfl ?_
  refine zV_dup dX6_setLine_1 rfl ?_
  refine zV_getI (zq_30 hZ) zf_X6_3 zkf_X6_28 rfl dX6_setLine_2 (fun m1 => ?_)
  refine zV_iconst (v := 1) dX6_setLine_5 rfl ?_
  refine zV_iadd dX6_setLine_6 ?_
  refine zV_w ?_
  refine zV_putI (zq_30 hZ) (by decide) zf_X6_3 zkf_X6_28 rfl dX6_setLine_7 (z32_w _) ?_
  refine zV_aload_n 0 dX6_setLine_10 rfl rfl ?_
  refine zV_cVI (y' := zmX6_seen) (n' := 1) (As := []) zc_X6_43 (zq_30 hZ) rfl dX6_setLine_11 (Nat.le_trans (by decide) hn) rfl (Nat.le_of_ble_eq_true rfl) (Nat.le_of_ble_eq_true rfl) rfl h (fun Q' h' => fX6_seen_ok hZ (Nat.le_refl _)  h') (fun r2 c3 b4 h => ?_)
  refine zV_bipush (v := 114) dX6_setLine_14 rfl ?_
  refine zV_isub dX6_setLine_16 ?_
  refine zV_w ?_
  refine zV_istore_n [(1, zI (zw (r2 - 114))), (0, zR 30)] dX6_setLine_17 rfl (by decide) rfl ?_
  refine zV_iload_n 0 dX6_setLine_18 rfl rfl ?_
  refine zV_if_lt 28 dX6_setLine_19 (by decide) (z32_w _) (fun hc_ => ?_) (fun hc_ => ?_)
  · replace h := zs_t h hc_
    refine zV_ls [1] rfl ?_
    exact fX6_setLine_j28_ok hZ hn  h
  · replace h := zs_f h hc_
    refine zV_iload_n 0 dX6_setLine_22 rfl rfl ?_
    refine zV_bipush (v := 11) dX6_setLine_23 rfl ?_
    refine zV_icmp_lt 34 dX6_setLine_25 (by decide) (z32_w _) zi_11 (fun hc_ => ?_) (fun hc_ => ?_)
    · replace h := zs_t h hc_
      refine zV_aload_n 1 dX6_setLine_34 rfl rfl ?_
      refine zV_getI (zq_30 hZ) zf_X6_4 zkf_X6_32 rfl dX6_setLine_35 (fun m10 => ?_)
      refine zV_iload_n 0 dX6_setLine_38 rfl rfl ?_
      refine zV_ishr dX6_setLine_39 ?_
      refine zV_iconst (v := 1) dX6_setLine_40 rfl ?_
      refine zV_iand dX6_setLine_41 ?_
      refine zV_if_eq 51 dX6_setLine_42 (by decide) (z32_i _) (fun hc_ => ?_) (fun hc_ => ?_)
      · replace h := zs_t h hc_
        refine zV_aload_n 1 dX6_setLine_51 rfl rfl ?_
        refine zV_dup dX6_setLine_52 rfl ?_
        refine zV_getI (zq_30 hZ) zf_X6_4 zkf_X6_32 rfl dX6_setLine_53 (fun m11 => ?_)
        refine zV_iconst (v := 1) dX6_setLine_56 rfl ?_
        refine zV_iload_n 0 dX6_setLine_57 rfl rfl ?_
        refine zV_ishl dX6_setLine_58 ?_
        refine zV_ior dX6_setLine_59 ?_
        refine zV_putI (zq_30 hZ) (by decide) zf_X6_4 zkf_X6_32 rfl dX6_setLine_60 (z32_i _) ?_
        refine zV_aload_n 1 dX6_setLine_63 rfl rfl ?_
        refine zV_dup dX6_setLine_64 rfl ?_
        refine zV_getI (zq_30 hZ) zf_X6_3 zkf_X6_28 rfl dX6_setLine_65 (fun m12 => ?_)
        refine zV_iconst (v := 1) dX6_setLine_68 rfl ?_
        refine zV_iadd dX6_setLine_69 ?_
        refine zV_w ?_
        refine zV_putI (zq_30 hZ) (by decide) zf_X6_3 zkf_X6_28 rfl dX6_setLine_70 (z32_w _) ?_
        refine zV_aload_n 1 dX6_setLine_73 rfl rfl ?_
        refine zV_aload_n 1 dX6_setLine_74 rfl rfl ?_
        refine zV_getR (j := 60) (zq_30 hZ) zf_X6_1 zkf_X6_19 rfl dX6_setLine_75 ?_
        refine zV_getR (j := 79) (zq_60 hZ) zf_X7_18 zkf_X6_138 rfl dX6_setLine_78 ?_
        refine zV_iload_n 0 dX6_setLine_81 rfl rfl ?_
        refine zV_gets (i := 1001) zgs_X6_141 (by decide) (by rw [zq_1001 hZ]; rfl) dX6_setLine_82 ?_
        refine zV_iload_n 0 dX6_setLine_85 rfl rfl ?_
        obtain ⟨hg, h⟩ := zs_gd h
        refine zV_iald (zq_1001 hZ) hg dX6_setLine_86 (fun m13 => ?_)
        refine zV_gets (i := 1002) zgs_X6_144 (by decide) (by rw [zq_1002 hZ]; rfl) dX6_setLine_87 ?_
        refine zV_iload_n 0 dX6_setLine_90 rfl rfl ?_
        obtain ⟨hg, h⟩ := zs_gd h
        refine zV_iald (zq_1002 hZ) hg dX6_setLine_91 (fun m14 => ?_)
        refine zV_cVIm (y' := zmX6_number) (n' := 2) (As := [zR 79, zI (zw (r2 - 114)), zI ((zup (zup (zup M 30 3 (zw ((M 30 3) + 1))) 30 4 (zor ((zup M 30 3 (zw ((M 30 3) + 1))) 30 4) (zshl 1 (zw (r2 - 114))))) 30 3 (zw (((zup (zup M 30 3 (zw ((M 30 3) + 1))) 30 4 (zor ((zup M 30 3 (zw ((M 30 3) + 1))) 30 4) (zshl 1 (zw (r2 - 114))))) 30 3) + 1))) 1001 (zw (r2 - 114))), zI ((zup (zup (zup M 30 3 (zw ((M 30 3) + 1))) 30 4 (zor ((zup M 30 3 (zw ((M 30 3) + 1))) 30 4) (zshl 1 (zw (r2 - 114))))) 30 3 (zw (((zup (zup M 30 3 (zw ((M 30 3) + 1))) 30 4 (zor ((zup M 30 3 (zw ((M 30 3) + 1))) 30 4) (zshl 1 (zw (r2 - 114))))) 30 3) + 1))) 1002 (zw (r2 - 114)))]) zc_X6_95 (zq_30 hZ) rfl dX6_setLine_92 (Nat.le_trans (by decide) hn) rfl (Nat.le_of_ble_eq_true rfl) (Nat.le_of_ble_eq_true rfl) rfl h (fun Q' h' => fX6_number_ok hZ (Nat.le_refl _) (zq_79 hZ) (by decide) (z32_w _) m13 m14 h') (fun r15 M18 c16 b17 h => ?_)
        refine zV_if_eq 111 dX6_setLine_95 (by decide) c16 (fun hc_ => ?_) (fun hc_ => ?_)
        · replace h := zs_t h hc_
          refine zV_iconst (v := 0) dX6_setLine_111 rfl ?_
          exact zV_iretb dX6_setLine_112 rfl (Or.inl rfl) h
        · replace h := zs_f h hc_
          refine zV_aload_n 1 dX6_setLine_98 rfl rfl ?_
          refine zV_bipush (v := 59) dX6_setLine_99 rfl ?_
          refine zV_cVIm (y' := zmX6_take) (n' := 2) (As := [zI 59]) zc_X6_89 (zq_30 hZ) rfl dX6_setLine_101 (Nat.le_trans (by decide) hn) rfl (Nat.le_of_ble_eq_true rfl) (Nat.le_of_ble_eq_true rfl) rfl h (fun Q' h' => fX6_take_ok hZ (Nat.le_refl _) zi_59 h') (fun r19 M22 c20 b21 h => ?_)
          refine zV_if_eq 111 dX6_setLine_104 (by decide) c20 (fun hc_ => ?_) (fun hc_ => ?_)
          · replace h := zs_t h hc_
            refine zV_iconst (v := 0) dX6_setLine_111 rfl ?_
            exact zV_iretb dX6_setLine_112 rfl (Or.inl rfl) h
          · replace h := zs_f h hc_
            refine zV_iconst (v := 1) dX6_setLine_107 rfl ?_
            refine zV_goto 112 dX6_setLine_108 (by decide) ?_
            exact zV_iretb dX6_setLine_112 rfl (Or.inr rfl) h
      · replace h := zs_f h hc_
        refine zV_aload_n 1 dX6_setLine_45 rfl rfl ?_
        refine zV_iconst (v := 3) dX6_setLine_46 rfl ?_
        refine zV_cVIm (y' := zmX6_refuse) (n' := 0) (As := [zI 3]) zc_X6_61 (zq_30 hZ) rfl dX6_setLine_47 (Nat.le_trans (by decide) hn) rfl (Nat.le_of_ble_eq_true rfl) (Nat.le_of_ble_eq_true rfl) rfl h (fun Q' h' => fX6_refuse_ok hZ (Nat.le_refl _) zi_3 h') (fun r23 M26 c24 b25 h => ?_)
        exact zV_iretb dX6_setLine_50 rfl (b25 rfl) h
    · replace h := zs_f h hc_
      refine zV_ls [1] rfl ?_
      exact fX6_setLine_j28_ok hZ hn  h
noncomputable def fX6_line (M : zMem) : Option (Int × zMem) :=
  (zbd (fX6_seen M) fun r1 => (if r1 = 100 then (if 12 ≤ (M 60 0) then (zbd2 (fX6_refuse 5 M) fun r6 M9 => some (r6, M9)) else (zbd2 (fX6_bowlLine M) fun r10 M13 => some (r10, M13))) else (if r1 = 107 then (if 8 ≤ (M 60 7) then (zbd2 (fX6_refuse 5 M) fun r15 M18 => some (r15, M18)) else (zbd2 (fX6_pairLine M) fun r19 M22 => some (r19, M22))) else (if r1 = 109 then (if 4 ≤ (M 60 13) then (zbd2 (fX6_refuse 5 M) fun r24 M27 => some (r24, M27)) else (zbd2 (fX6_speakLine M) fun r28 M31 => some (r28, M31))) else (if r1 = 110 then (zbd2 (fX6_setLine M) fun r32 M35 => some (r32, M35)) else (zbd2 (fX6_refuse 1 M) fun r36 M39 => some (r36, M39)))))))
set_option maxRecDepth 100000 in
set_option maxHeartbeats 4000000 in
theorem fX6_line_ok {Z : zZ} (hZ : zB Z) {nn : Nat} (hn : 87 ≤ nn)   {M : zMem} {Q : Option zAV → zMem → zZ → Prop} (h : zSat (fX6_line M) (fun r => Q (some (zI r.1)) r.2 Z))  : zV zmX6_line nn 0 0 Z 0 [(0, zR 30)] [] M Q := by
  unfold fX6_line at h
  refine zV_aload_n 0 dX6_line_0 rfl rfl ?_
  refine zV_cVI (y' := zmX6_seen) (n' := 1) (As := []) zc_X6_43 (zq_30 hZ) rfl dX6_line_1 (Nat.le_trans (by decide) hn) rfl (Nat.le_of_ble_eq_true rfl) (Nat.le_of_ble_eq_true rfl) rfl h (fun Q' h' => fX6_seen_ok hZ (Nat.le_refl _)  h') (fun r1 c2 b3 h => ?_)
  refine zV_if (r1 = 100) (fun hc_ => ?_) (fun hc_0 => ?_)
  · replace h := zs_t h hc_
    refine zV_lsw 48 dX6_line_4 (by decide) c2 (by rw [hc_]; decide) ?_
    refine zV_aload_n 0 dX6_line_48 rfl rfl ?_
    refine zV_getR (j := 60) (zq_30 hZ) zf_X6_1 zkf_X6_19 rfl dX6_line_49 ?_
    refine zV_getI (zq_60 hZ) zf_X7_0 zkf_X6_65 rfl dX6_line_52 (fun m5 => ?_)
    refine zV_bipush (v := 12) dX6_line_55 rfl ?_
    refine zV_icmp_ge 67 dX6_line_57 (by decide) m5 zi_12 (fun hc_ => ?_) (fun hc_ => ?_)
    · replace h := zs_t h hc_
      refine zV_aload_n 0 dX6_line_67 rfl rfl ?_
      refine zV_iconst (v := 5) dX6_line_68 rfl ?_
      refine zV_cVIm (y' := zmX6_refuse) (n' := 0) (As := [zI 5]) zc_X6_61 (zq_30 hZ) rfl dX6_line_69 (Nat.le_trans (by decide) hn) rfl (Nat.le_of_ble_eq_true rfl) (Nat.le_of_ble_eq_true rfl) rfl h (fun Q' h' => fX6_refuse_ok hZ (Nat.le_refl _) zi_5 h') (fun r6 M9 c7 b8 h => ?_)
      exact zV_iretb dX6_line_72 rfl (b8 rfl) h
    · replace h := zs_f h hc_
      refine zV_aload_n 0 dX6_line_60 rfl rfl ?_
      refine zV_cVIm (y' := zmX6_bowlLine) (n' := 4) (As := []) zc_X6_68 (zq_30 hZ) rfl dX6_line_61 (Nat.le_trans (by decide) hn) rfl (Nat.le_of_ble_eq_true rfl) (Nat.le_of_ble_eq_true rfl) rfl h (fun Q' h' => fX6_bowlLine_ok hZ (Nat.le_refl _)  h') (fun r10 M13 c11 b12 h => ?_)
      refine zV_goto 72 dX6_line_64 (by decide) ?_
      exact zV_iretb dX6_line_72 rfl (b12 rfl) h
  · replace h := zs_f h hc_0
    refine zV_if (r1 = 107) (fun hc_ => ?_) (fun hc_1 => ?_)
    · replace h := zs_t h hc_
      refine zV_lsw 73 dX6_line_4 (by decide) c2 (by rw [hc_]; decide) ?_
      refine zV_aload_n 0 dX6_line_73 rfl rfl ?_
      refine zV_getR (j := 60) (zq_30 hZ) zf_X6_1 zkf_X6_19 rfl dX6_line_74 ?_
      refine zV_getI (zq_60 hZ) zf_X7_7 zkf_X6_71 rfl dX6_line_77 (fun m14 => ?_)
      refine zV_bipush (v := 8) dX6_line_80 rfl ?_
      refine zV_icmp_ge 92 dX6_line_82 (by decide) m14 zi_8 (fun hc_ => ?_) (fun hc_ => ?_)
      · replace h := zs_t h hc_
        refine zV_aload_n 0 dX6_line_92 rfl rfl ?_
        refine zV_iconst (v := 5) dX6_line_93 rfl ?_
        refine zV_cVIm (y' := zmX6_refuse) (n' := 0) (As := [zI 5]) zc_X6_61 (zq_30 hZ) rfl dX6_line_94 (Nat.le_trans (by decide) hn) rfl (Nat.le_of_ble_eq_true rfl) (Nat.le_of_ble_eq_true rfl) rfl h (fun Q' h' => fX6_refuse_ok hZ (Nat.le_refl _) zi_5 h') (fun r15 M18 c16 b17 h => ?_)
        exact zV_iretb dX6_line_97 rfl (b17 rfl) h
      · replace h := zs_f h hc_
        refine zV_aload_n 0 dX6_line_85 rfl rfl ?_
        refine zV_cVIm (y' := zmX6_pairLine) (n' := 4) (As := []) zc_X6_74 (zq_30 hZ) rfl dX6_line_86 (Nat.le_trans (by decide) hn) rfl (Nat.le_of_ble_eq_true rfl) (Nat.le_of_ble_eq_true rfl) rfl h (fun Q' h' => fX6_pairLine_ok hZ (Nat.le_refl _)  h') (fun r19 M22 c20 b21 h => ?_)
        refine zV_goto 97 dX6_line_89 (by decide) ?_
        exact zV_iretb dX6_line_97 rfl (b21 rfl) h
    · replace h := zs_f h hc_1
      refine zV_if (r1 = 109) (fun hc_ => ?_) (fun hc_2 => ?_)
      · replace h := zs_t h hc_
        refine zV_lsw 98 dX6_line_4 (by decide) c2 (by rw [hc_]; decide) ?_
        refine zV_aload_n 0 dX6_line_98 rfl rfl ?_
        refine zV_getR (j := 60) (zq_30 hZ) zf_X6_1 zkf_X6_19 rfl dX6_line_99 ?_
        refine zV_getI (zq_60 hZ) zf_X7_13 zkf_X6_77 rfl dX6_line_102 (fun m23 => ?_)
        refine zV_iconst (v := 4) dX6_line_105 rfl ?_
        refine zV_icmp_ge 116 dX6_line_106 (by decide) m23 zi_4 (fun hc_ => ?_) (fun hc_ => ?_)
        · replace h := zs_t h hc_
          refine zV_aload_n 0 dX6_line_116 rfl rfl ?_
          refine zV_iconst (v := 5) dX6_line_117 rfl ?_
          refine zV_cVIm (y' := zmX6_refuse) (n' := 0) (As := [zI 5]) zc_X6_61 (zq_30 hZ) rfl dX6_line_118 (Nat.le_trans (by decide) hn) rfl (Nat.le_of_ble_eq_true rfl) (Nat.le_of_ble_eq_true rfl) rfl h (fun Q' h' => fX6_refuse_ok hZ (Nat.le_refl _) zi_5 h') (fun r24 M27 c25 b26 h => ?_)
          exact zV_iretb dX6_line_121 rfl (b26 rfl) h
        · replace h := zs_f h hc_
          refine zV_aload_n 0 dX6_line_109 rfl rfl ?_
          refine zV_cVIm (y' := zmX6_speakLine) (n' := 86) (As := []) zc_X6_80 (zq_30 hZ) rfl dX6_line_110 (Nat.le_trans (by decide) hn) rfl (Nat.le_of_ble_eq_true rfl) (Nat.le_of_ble_eq_true rfl) rfl h (fun Q' h' => fX6_speakLine_ok hZ (Nat.le_refl _)  h') (fun r28 M31 c29 b30 h => ?_)
          refine zV_goto 121 dX6_line_113 (by decide) ?_
          exact zV_iretb dX6_line_121 rfl (b30 rfl) h
      · replace h := zs_f h hc_2
        refine zV_if (r1 = 110) (fun hc_ => ?_) (fun hc_3 => ?_)
        · replace h := zs_t h hc_
          refine zV_lsw 122 dX6_line_4 (by decide) c2 (by rw [hc_]; decide) ?_
          refine zV_aload_n 0 dX6_line_122 rfl rfl ?_
          refine zV_cVIm (y' := zmX6_setLine) (n' := 3) (As := []) zc_X6_83 (zq_30 hZ) rfl dX6_line_123 (Nat.le_trans (by decide) hn) rfl (Nat.le_of_ble_eq_true rfl) (Nat.le_of_ble_eq_true rfl) rfl h (fun Q' h' => fX6_setLine_ok hZ (Nat.le_refl _)  h') (fun r32 M35 c33 b34 h => ?_)
          exact zV_iretb dX6_line_126 rfl (b34 rfl) h
        · replace h := zs_f h hc_3
          refine zV_lsw 127 dX6_line_4 (by decide) c2 (by rw [zlo_n hc_0, zlo_n hc_1, zlo_n hc_2, zlo_n hc_3, zlo_e]; decide) ?_
          refine zV_aload_n 0 dX6_line_127 rfl rfl ?_
          refine zV_iconst (v := 1) dX6_line_128 rfl ?_
          refine zV_cVIm (y' := zmX6_refuse) (n' := 0) (As := [zI 1]) zc_X6_61 (zq_30 hZ) rfl dX6_line_129 (Nat.le_trans (by decide) hn) rfl (Nat.le_of_ble_eq_true rfl) (Nat.le_of_ble_eq_true rfl) rfl h (fun Q' h' => fX6_refuse_ok hZ (Nat.le_refl _) zi_1 h') (fun r36 M39 c37 b38 h => ?_)
          exact zV_iretb dX6_line_132 rfl (b38 rfl) h
noncomputable def fX6_read_l33 (x1 x2 : Int) (M : zMem) : Option ((Int × Int × zMem) ⊕ (Int × Int × zMem)) :=
  (if 1000 < x2 then some (.inr (x1, x2, M)) else (if x1 = 0 then some (.inr (x1, x2, M)) else (zbd (fX6_seen M) fun r9 => (if r9 = 0 then some (.inr (x1, x2, M)) else (zbd2 (fX6_line M) fun r13 M16 => some (.inl (r13, (zw (x2 + 1)), M16)))))))
set_option maxRecDepth 100000 in
set_option maxHeartbeats 4000000 in
theorem fX6_read_l33_ok {Z : zZ} (hZ : zB Z) {nn : Nat} (hn : 88 ≤ nn)  {x1 x2 : Int} (hx1 : z32 x1) (hx2 : z32 x2) {M : zMem} {Q : Option zAV → zMem → zZ → Prop} {P : (Int × Int × zMem) ⊕ (Int × Int × zMem) → Prop} (h : zSat (fX6_read_l33 x1 x2 M) P)  (hc : ∀ s : Int × Int × zMem, P (.inl s) → z32 (s.1) → z32 (s.2.1) → zV zmX6_read nn 0 0 Z 33 [(0, zR 30), (1, zI (s.1)), (2, zI (s.2.1))] [] (s.2.2) Q) (he : ∀ s : Int × Int × zMem, P (.inr s) → z32 (s.1) → z32 (s.2.1) → zV zmX6_read nn 0 0 Z 62 [(0, zR 30), (1, zI (s.1)), (2, zI (s.2.1))] [] (s.2.2) Q)   : zV zmX6_read nn 0 0 Z 33 [(0, zR 30), (1, zI x1), (2, zI x2)] [] M Q := by
  unfold fX6_read_l33 at h
  refine zV_iload_n 2 dX6_read_33 rfl rfl ?_
  refine zV_sipush (v := 1000) dX6_read_34 rfl ?_
  refine zV_icmp_gt 62 dX6_read_37 (by decide) hx2 zi_1000 (fun hc_ => ?_) (fun hc_ => ?_)
  · replace h := zs_t h hc_
    exact he _ h hx1 hx2
  · replace h := zs_f h hc_
    refine zV_iload_n 1 dX6_read_40 rfl rfl ?_
    refine zV_if_eq 62 dX6_read_41 (by decide) hx1 (fun hc_ => ?_) (fun hc_ => ?_)
    · replace h := zs_t h hc_
      exact he _ h hx1 hx2
    · replace h := zs_f h hc_
      refine zV_aload_n 0 dX6_read_44 rfl rfl ?_
      refine zV_cVI (y' := zmX6_seen) (n' := 1) (As := []) zc_X6_43 (zq_30 hZ) rfl dX6_read_45 (Nat.le_trans (by decide) hn) rfl (Nat.le_of_ble_eq_true rfl) (Nat.le_of_ble_eq_true rfl) rfl h (fun Q' h' => fX6_seen_ok hZ (Nat.le_refl _)  h') (fun r9 c10 b11 h => ?_)
      refine zV_if_eq 62 dX6_read_48 (by decide) c10 (fun hc_ => ?_) (fun hc_ => ?_)
      · replace h := zs_t h hc_
        exact he _ h hx1 hx2
      · replace h := zs_f h hc_
        refine zV_aload_n 0 dX6_read_51 rfl rfl ?_
        refine zV_cVIm (y' := zmX6_line) (n' := 87) (As := []) zc_X6_47 (zq_30 hZ) rfl dX6_read_52 (Nat.le_trans (by decide) hn) rfl (Nat.le_of_ble_eq_true rfl) (Nat.le_of_ble_eq_true rfl) rfl h (fun Q' h' => fX6_line_ok hZ (Nat.le_refl _)  h') (fun r13 M16 c14 b15 h => ?_)
        refine zV_istore_n [(1, zI r13), (0, zR 30), (2, zI x2)] dX6_read_55 rfl (by decide) rfl ?_
        refine zV_iinc 2 [(2, zI (zw (x2 + 1))), (1, zI r13), (0, zR 30)] dX6_read_56 rfl rfl (by decide) rfl ?_
        refine zV_goto 33 dX6_read_59 (by decide) ?_
        refine zV_ls [2, 1, 0] rfl ?_
        exact hc _ h c14 (z32_w _)
noncomputable def fX6_read_j62 (M : zMem) : Option (Int × zMem) :=
  (if (M 30 5) = 0 then some (0, M) else (zbd (fX6_placeSeen M) fun r30 => some ((zw ((M 30 5) + (16 * r30))), M)))
set_option maxRecDepth 100000 in
set_option maxHeartbeats 4000000 in
theorem fX6_read_j62_ok {Z : zZ} (hZ : zB Z) {nn : Nat} (hn : 88 ≤ nn)   {M : zMem} {Q : Option zAV → zMem → zZ → Prop} (h : zSat (fX6_read_j62 M) (fun r => Q (some (zI r.1)) r.2 Z))  : zV zmX6_read nn 0 0 Z 62 [(0, zR 30)] [] M Q := by
  unfold fX6_read_j62 at h
  refine zV_aload_n 0 dX6_read_62 rfl rfl ?_
  refine zV_getI (zq_30 hZ) zf_X6_5 zkf_X6_35 rfl dX6_read_63 (fun m28 => ?_)
  refine zV_if_ne 73 dX6_read_66 (by decide) m28 (fun hc_ => ?_) (fun hc_ => ?_)
  · replace h := zs_f h hc_
    refine zV_aload_n 0 dX6_read_73 rfl rfl ?_
    refine zV_getI (zq_30 hZ) zf_X6_5 zkf_X6_35 rfl dX6_read_74 (fun m29 => ?_)
    refine zV_bipush (v := 16) dX6_read_77 rfl ?_
    refine zV_aload_n 0 dX6_read_79 rfl rfl ?_
    refine zV_cVI (y' := zmX6_placeSeen) (n' := 1) (As := []) zc_X6_51 (zq_30 hZ) rfl dX6_read_80 (Nat.le_trans (by decide) hn) rfl (Nat.le_of_ble_eq_true rfl) (Nat.le_of_ble_eq_true rfl) rfl h (fun Q' h' => fX6_placeSeen_ok hZ (Nat.le_refl _)  h') (fun r30 c31 b32 h => ?_)
    refine zV_imul dX6_read_83 ?_
    refine zV_iadd dX6_read_84 ?_
    refine zV_w ?_
    exact zV_ireti dX6_read_85 rfl (z32_w _) h
  · replace h := zs_t h hc_
    refine zV_iconst (v := 0) dX6_read_69 rfl ?_
    refine zV_goto 85 dX6_read_70 (by decide) ?_
    exact zV_ireti dX6_read_85 rfl zi_0 h
noncomputable def fX6_read (M : zMem) : Option (Int × zMem) :=
  (zbd (fX7_clear 60 M) fun M4 => (zbd (fX8_split (zup (zup (zup M4 30 3 0) 30 4 0) 30 5 0)) fun M8 => (zbd (zit (fun s17 => fX6_read_l33 (s17.1) (s17.2.1) (s17.2.2)) (1, 0, M8)) fun s24 => fX6_read_j62  (s24.2.2))))
set_option maxRecDepth 100000 in
set_option maxHeartbeats 4000000 in
theorem fX6_read_ok {Z : zZ} (hZ : zB Z) {nn : Nat} (hn : 88 ≤ nn)   {M : zMem} {Q : Option zAV → zMem → zZ → Prop} (h : zSat (fX6_read M) (fun r => Q (some (zI r.1)) r.2 Z))  : zV zmX6_read nn 0 0 Z 0 [(0, zR 30)] [] M Q := by
  unfold fX6_read at h
  refine zV_aload_n 0 dX6_read_0 rfl rfl ?_
  refine zV_getR (j := 60) (zq_30 hZ) zf_X6_1 zkf_X6_19 rfl dX6_read_1 ?_
  refine zV_cVV (y' := zmX7_clear) (n' := 1) (As := []) zc_X6_23 (zq_60 hZ) rfl dX6_read_4 (Nat.le_trans (by decide) hn) rfl (Nat.le_of_ble_eq_true rfl) (Nat.le_of_ble_eq_true rfl) rfl h (fun Q' h' => fX7_clear_ok hZ (Nat.le_refl _) (zqsu_60 hZ) (by decide) h') (fun M4 h => ?_)
  refine zV_aload_n 0 dX6_read_7 rfl rfl ?_
  refine zV_iconst (v := 0) dX6_read_8 rfl ?_
  refine zV_putI (zq_30 hZ) (by decide) zf_X6_3 zkf_X6_28 rfl dX6_read_9 zi_0 ?_
  refine zV_aload_n 0 dX6_read_12 rfl rfl ?_
  refine zV_iconst (v := 0) dX6_read_13 rfl ?_
  refine zV_putI (zq_30 hZ) (by decide) zf_X6_4 zkf_X6_32 rfl dX6_read_14 zi_0 ?_
  refine zV_aload_n 0 dX6_read_17 rfl rfl ?_
  refine zV_iconst (v := 0) dX6_read_18 rfl ?_
  refine zV_putI (zq_30 hZ) (by decide) zf_X6_5 zkf_X6_35 rfl dX6_read_19 zi_0 ?_
  refine zV_aload_n 0 dX6_read_22 rfl rfl ?_
  refine zV_getR (j := 20) (zq_30 hZ) zf_X6_0 zkf_X6_15 rfl dX6_read_23 ?_
  refine zV_cVV (y' := zmX8_split) (n' := 10) (As := []) zc_X6_38 (zq_20 hZ) rfl dX6_read_26 (Nat.le_trans (by decide) hn) rfl (Nat.le_of_ble_eq_true rfl) (Nat.le_of_ble_eq_true rfl) rfl h (fun Q' h' => fX8_split_ok hZ (Nat.le_refl _)  h') (fun M8 h => ?_)
  refine zV_iconst (v := 1) dX6_read_29 rfl ?_
  refine zV_istore_n [(1, zI 1), (0, zR 30)] dX6_read_30 rfl (by decide) rfl ?_
  refine zV_iconst (v := 0) dX6_read_31 rfl ?_
  refine zV_istore_n [(2, zI 0), (1, zI 1), (0, zR 30)] dX6_read_32 rfl (by decide) rfl ?_
  refine zV_ls [2, 1, 0] rfl ?_
  refine (zV_loop (Vh := fun s17 : Int × Int × zMem => z32 (s17.1) → z32 (s17.2.1) → zV zmX6_read nn 0 0 Z 33 [(0, zR 30), (1, zI (s17.1)), (2, zI (s17.2.1))] [] (s17.2.2) Q) h (fun s17 P18 hP19 hc20 he21 => ?_)) zi_1 zi_0
  intro c22 c23
  refine fX6_read_l33_ok hZ hn c22 c23 hP19 hc20 (fun s24 h25 d26 d27 => ?_)
  have h := he21 _ h25
  refine zV_ls [0] rfl ?_
  exact fX6_read_j62_ok hZ hn  h
