def zmI_X7_400 (M : zMem) : zMem := (zcl (zfr (zfr (zfr (zfr (zfr (zfr (zfr (zfr (zfr (zfr (zfr (zfr M 403 0) 404 0) 405 0) 406 0) 407 0) 409 0) 410 0) 411 0) 412 0) 413 0) 416 0) 418 0) 419)
set_option maxRecDepth 100000 in
set_option maxHeartbeats 4000000 in
theorem zcI_X7_400 {Z : zZ} (hfr : ∀ i ∈ (403 :: 404 :: 405 :: 406 :: 407 :: 409 :: 410 :: 411 :: 412 :: 413 :: 416 :: 418 :: 419 :: [] : List Nat), Z i = none) (hU : Z 1000 = some (.inr (0, 11))) {n : Nat} (hn : 1 ≤ n) {M : zMem} {Q : Option zAV → zMem → zZ → Prop} (h : Q none (zmI_X7_400 M) (zLs ((400, .inl (7, [-1, -1, 403, 404, 405, 406, 407, -1, 409, 410, 411, 412, 413, -1, -1, 416, -1, 418, 419])) :: (419, .inr (0, 11)) :: (418, .inr (0, 4)) :: (416, .inr (0, 1000)) :: (413, .inr (0, 8)) :: (412, .inr (0, 8)) :: (411, .inr (0, 8)) :: (410, .inr (0, 8)) :: (409, .inr (0, 8)) :: (407, .inr (0, 12)) :: (406, .inr (0, 12)) :: (405, .inr (0, 12)) :: (404, .inr (0, 12)) :: (403, .inr (0, 12)) :: []) Z)) : zV zmX7_init n 13 1115 (zLs [(400, .inl (7, [-1, -1, -3, -3, -3, -3, -3, -1, -3, -3, -3, -3, -3, -1, -1, -3, -1, -3, -3]))] Z) 0 [(0, zR 400)] [] M Q := by
  unfold zmI_X7_400 at h
  refine zV_aload_n 0 dX7_init_0 rfl rfl ?_
  refine zV_objI zoi_X7 dX7_init_1 (by omega) (Nat.le_of_ble_eq_true rfl) ?_
  refine zV_aload_n 0 dX7_init_4 rfl rfl ?_
  refine zV_bipush (v := 12) dX7_init_5 rfl ?_
  refine zV_newa (kc := 12) (ks := 1103) (i := 403) (k := 12) (t := 0) rfl (by decide) zka_int (by decide) (hfr 403 (by decide)) (by decide) dX7_init_7 ?_
  refine zV_Z (zLs_add _ _ _ _) ?_
  refine zV_putS (i := 400) (j := 403) (ci := 7) (ksl := [-1, -1, -3, -3, -3, -3, -3, -1, -3, -3, -3, -3, -3, -1, -1, -3, -1, -3, -3]) (Z' := zLs [(400, .inl (7, [-1, -1, 403, -3, -3, -3, -3, -1, -3, -3, -3, -3, -3, -1, -1, -3, -1, -3, -3])), (403, .inr (0, 12))] Z) rfl (by decide) zf_X7_2 zkf_X7_9 (by decide) dX7_init_9 rfl rfl (fun _ => ⟨rfl, rfl⟩) (zLs_set _ _ _ _) ?_
  refine zV_aload_n 0 dX7_init_12 rfl rfl ?_
  refine zV_bipush (v := 12) dX7_init_13 rfl ?_
  refine zV_newa (kc := 11) (ks := 1091) (i := 404) (k := 12) (t := 0) rfl (by decide) zka_int (by decide) (hfr 404 (by decide)) (by decide) dX7_init_15 ?_
  refine zV_Z (zLs_add _ _ _ _) ?_
  refine zV_putS (i := 400) (j := 404) (ci := 7) (ksl := [-1, -1, 403, -3, -3, -3, -3, -1, -3, -3, -3, -3, -3, -1, -1, -3, -1, -3, -3]) (Z' := zLs [(400, .inl (7, [-1, -1, 403, 404, -3, -3, -3, -1, -3, -3, -3, -3, -3, -1, -1, -3, -1, -3, -3])), (404, .inr (0, 12)), (403, .inr (0, 12))] Z) rfl (by decide) zf_X7_3 zkf_X7_15 (by decide) dX7_init_17 rfl rfl (fun _ => ⟨rfl, rfl⟩) (zLs_set _ _ _ _) ?_
  refine zV_aload_n 0 dX7_init_20 rfl rfl ?_
  refine zV_bipush (v := 12) dX7_init_21 rfl ?_
  refine zV_newa (kc := 10) (ks := 1079) (i := 405) (k := 12) (t := 0) rfl (by decide) zka_int (by decide) (hfr 405 (by decide)) (by decide) dX7_init_23 ?_
  refine zV_Z (zLs_add _ _ _ _) ?_
  refine zV_putS (i := 400) (j := 405) (ci := 7) (ksl := [-1, -1, 403, 404, -3, -3, -3, -1, -3, -3, -3, -3, -3, -1, -1, -3, -1, -3, -3]) (Z' := zLs [(400, .inl (7, [-1, -1, 403, 404, 405, -3, -3, -1, -3, -3, -3, -3, -3, -1, -1, -3, -1, -3, -3])), (405, .inr (0, 12)), (404, .inr (0, 12)), (403, .inr (0, 12))] Z) rfl (by decide) zf_X7_4 zkf_X7_18 (by decide) dX7_init_25 rfl rfl (fun _ => ⟨rfl, rfl⟩) (zLs_set _ _ _ _) ?_
  refine zV_aload_n 0 dX7_init_28 rfl rfl ?_
  refine zV_bipush (v := 12) dX7_init_29 rfl ?_
  refine zV_newa (kc := 9) (ks := 1067) (i := 406) (k := 12) (t := 0) rfl (by decide) zka_int (by decide) (hfr 406 (by decide)) (by decide) dX7_init_31 ?_
  refine zV_Z (zLs_add _ _ _ _) ?_
  refine zV_putS (i := 400) (j := 406) (ci := 7) (ksl := [-1, -1, 403, 404, 405, -3, -3, -1, -3, -3, -3, -3, -3, -1, -1, -3, -1, -3, -3]) (Z' := zLs [(400, .inl (7, [-1, -1, 403, 404, 405, 406, -3, -1, -3, -3, -3, -3, -3, -1, -1, -3, -1, -3, -3])), (406, .inr (0, 12)), (405, .inr (0, 12)), (404, .inr (0, 12)), (403, .inr (0, 12))] Z) rfl (by decide) zf_X7_5 zkf_X7_21 (by decide) dX7_init_33 rfl rfl (fun _ => ⟨rfl, rfl⟩) (zLs_set _ _ _ _) ?_
  refine zV_aload_n 0 dX7_init_36 rfl rfl ?_
  refine zV_bipush (v := 12) dX7_init_37 rfl ?_
  refine zV_newa (kc := 8) (ks := 1055) (i := 407) (k := 12) (t := 0) rfl (by decide) zka_int (by decide) (hfr 407 (by decide)) (by decide) dX7_init_39 ?_
  refine zV_Z (zLs_add _ _ _ _) ?_
  refine zV_putS (i := 400) (j := 407) (ci := 7) (ksl := [-1, -1, 403, 404, 405, 406, -3, -1, -3, -3, -3, -3, -3, -1, -1, -3, -1, -3, -3]) (Z' := zLs [(400, .inl (7, [-1, -1, 403, 404, 405, 406, 407, -1, -3, -3, -3, -3, -3, -1, -1, -3, -1, -3, -3])), (407, .inr (0, 12)), (406, .inr (0, 12)), (405, .inr (0, 12)), (404, .inr (0, 12)), (403, .inr (0, 12))] Z) rfl (by decide) zf_X7_6 zkf_X7_24 (by decide) dX7_init_41 rfl rfl (fun _ => ⟨rfl, rfl⟩) (zLs_set _ _ _ _) ?_
  refine zV_aload_n 0 dX7_init_44 rfl rfl ?_
  refine zV_bipush (v := 8) dX7_init_45 rfl ?_
  refine zV_newa (kc := 7) (ks := 1047) (i := 409) (k := 8) (t := 0) rfl (by decide) zka_int (by decide) (hfr 409 (by decide)) (by decide) dX7_init_47 ?_
  refine zV_Z (zLs_add _ _ _ _) ?_
  refine zV_putS (i := 400) (j := 409) (ci := 7) (ksl := [-1, -1, 403, 404, 405, 406, 407, -1, -3, -3, -3, -3, -3, -1, -1, -3, -1, -3, -3]) (Z' := zLs [(400, .inl (7, [-1, -1, 403, 404, 405, 406, 407, -1, 409, -3, -3, -3, -3, -1, -1, -3, -1, -3, -3])), (409, .inr (0, 8)), (407, .inr (0, 12)), (406, .inr (0, 12)), (405, .inr (0, 12)), (404, .inr (0, 12)), (403, .inr (0, 12))] Z) rfl (by decide) zf_X7_8 zkf_X7_27 (by decide) dX7_init_49 rfl rfl (fun _ => ⟨rfl, rfl⟩) (zLs_set _ _ _ _) ?_
  refine zV_aload_n 0 dX7_init_52 rfl rfl ?_
  refine zV_bipush (v := 8) dX7_init_53 rfl ?_
  refine zV_newa (kc := 6) (ks := 1039) (i := 410) (k := 8) (t := 0) rfl (by decide) zka_int (by decide) (hfr 410 (by decide)) (by decide) dX7_init_55 ?_
  refine zV_Z (zLs_add _ _ _ _) ?_
  refine zV_putS (i := 400) (j := 410) (ci := 7) (ksl := [-1, -1, 403, 404, 405, 406, 407, -1, 409, -3, -3, -3, -3, -1, -1, -3, -1, -3, -3]) (Z' := zLs [(400, .inl (7, [-1, -1, 403, 404, 405, 406, 407, -1, 409, 410, -3, -3, -3, -1, -1, -3, -1, -3, -3])), (410, .inr (0, 8)), (409, .inr (0, 8)), (407, .inr (0, 12)), (406, .inr (0, 12)), (405, .inr (0, 12)), (404, .inr (0, 12)), (403, .inr (0, 12))] Z) rfl (by decide) zf_X7_9 zkf_X7_30 (by decide) dX7_init_57 rfl rfl (fun _ => ⟨rfl, rfl⟩) (zLs_set _ _ _ _) ?_
  refine zV_aload_n 0 dX7_init_60 rfl rfl ?_
  refine zV_bipush (v := 8) dX7_init_61 rfl ?_
  refine zV_newa (kc := 5) (ks := 1031) (i := 411) (k := 8) (t := 0) rfl (by decide) zka_int (by decide) (hfr 411 (by decide)) (by decide) dX7_init_63 ?_
  refine zV_Z (zLs_add _ _ _ _) ?_
  refine zV_putS (i := 400) (j := 411) (ci := 7) (ksl := [-1, -1, 403, 404, 405, 406, 407, -1, 409, 410, -3, -3, -3, -1, -1, -3, -1, -3, -3]) (Z' := zLs [(400, .inl (7, [-1, -1, 403, 404, 405, 406, 407, -1, 409, 410, 411, -3, -3, -1, -1, -3, -1, -3, -3])), (411, .inr (0, 8)), (410, .inr (0, 8)), (409, .inr (0, 8)), (407, .inr (0, 12)), (406, .inr (0, 12)), (405, .inr (0, 12)), (404, .inr (0, 12)), (403, .inr (0, 12))] Z) rfl (by decide) zf_X7_10 zkf_X7_33 (by decide) dX7_init_65 rfl rfl (fun _ => ⟨rfl, rfl⟩) (zLs_set _ _ _ _) ?_
  refine zV_aload_n 0 dX7_init_68 rfl rfl ?_
  refine zV_bipush (v := 8) dX7_init_69 rfl ?_
  refine zV_newa (kc := 4) (ks := 1023) (i := 412) (k := 8) (t := 0) rfl (by decide) zka_int (by decide) (hfr 412 (by decide)) (by decide) dX7_init_71 ?_
  refine zV_Z (zLs_add _ _ _ _) ?_
  refine zV_putS (i := 400) (j := 412) (ci := 7) (ksl := [-1, -1, 403, 404, 405, 406, 407, -1, 409, 410, 411, -3, -3, -1, -1, -3, -1, -3, -3]) (Z' := zLs [(400, .inl (7, [-1, -1, 403, 404, 405, 406, 407, -1, 409, 410, 411, 412, -3, -1, -1, -3, -1, -3, -3])), (412, .inr (0, 8)), (411, .inr (0, 8)), (410, .inr (0, 8)), (409, .inr (0, 8)), (407, .inr (0, 12)), (406, .inr (0, 12)), (405, .inr (0, 12)), (404, .inr (0, 12)), (403, .inr (0, 12))] Z) rfl (by decide) zf_X7_11 zkf_X7_36 (by decide) dX7_init_73 rfl rfl (fun _ => ⟨rfl, rfl⟩) (zLs_set _ _ _ _) ?_
  refine zV_aload_n 0 dX7_init_76 rfl rfl ?_
  refine zV_bipush (v := 8) dX7_init_77 rfl ?_
  refine zV_newa (kc := 3) (ks := 1015) (i := 413) (k := 8) (t := 0) rfl (by decide) zka_int (by decide) (hfr 413 (by decide)) (by decide) dX7_init_79 ?_
  refine zV_Z (zLs_add _ _ _ _) ?_
  refine zV_putS (i := 400) (j := 413) (ci := 7) (ksl := [-1, -1, 403, 404, 405, 406, 407, -1, 409, 410, 411, 412, -3, -1, -1, -3, -1, -3, -3]) (Z' := zLs [(400, .inl (7, [-1, -1, 403, 404, 405, 406, 407, -1, 409, 410, 411, 412, 413, -1, -1, -3, -1, -3, -3])), (413, .inr (0, 8)), (412, .inr (0, 8)), (411, .inr (0, 8)), (410, .inr (0, 8)), (409, .inr (0, 8)), (407, .inr (0, 12)), (406, .inr (0, 12)), (405, .inr (0, 12)), (404, .inr (0, 12)), (403, .inr (0, 12))] Z) rfl (by decide) zf_X7_12 zkf_X7_39 (by decide) dX7_init_81 rfl rfl (fun _ => ⟨rfl, rfl⟩) (zLs_set _ _ _ _) ?_
  refine zV_aload_n 0 dX7_init_84 rfl rfl ?_
  refine zV_sipush (v := 1000) dX7_init_85 rfl ?_
  refine zV_newa (kc := 2) (ks := 15) (i := 416) (k := 1000) (t := 0) rfl (by decide) zka_int (by decide) (hfr 416 (by decide)) (by decide) dX7_init_88 ?_
  refine zV_Z (zLs_add _ _ _ _) ?_
  refine zV_putS (i := 400) (j := 416) (ci := 7) (ksl := [-1, -1, 403, 404, 405, 406, 407, -1, 409, 410, 411, 412, 413, -1, -1, -3, -1, -3, -3]) (Z' := zLs ((400, .inl (7, [-1, -1, 403, 404, 405, 406, 407, -1, 409, 410, 411, 412, 413, -1, -1, 416, -1, -3, -3])) :: (416, .inr (0, 1000)) :: (413, .inr (0, 8)) :: (412, .inr (0, 8)) :: (411, .inr (0, 8)) :: (410, .inr (0, 8)) :: (409, .inr (0, 8)) :: (407, .inr (0, 12)) :: (406, .inr (0, 12)) :: (405, .inr (0, 12)) :: (404, .inr (0, 12)) :: (403, .inr (0, 12)) :: []) Z) rfl (by decide) zf_X7_15 zkf_X7_42 (by decide) dX7_init_90 rfl rfl (fun _ => ⟨rfl, rfl⟩) (zLs_set _ _ _ _) ?_
  refine zV_aload_n 0 dX7_init_93 rfl rfl ?_
  refine zV_iconst (v := 4) dX7_init_94 rfl ?_
  refine zV_newa (kc := 1) (ks := 11) (i := 418) (k := 4) (t := 0) rfl (by decide) zka_int (by decide) (hfr 418 (by decide)) (by decide) dX7_init_95 ?_
  refine zV_Z (zLs_add _ _ _ _) ?_
  refine zV_putS (i := 400) (j := 418) (ci := 7) (ksl := [-1, -1, 403, 404, 405, 406, 407, -1, 409, 410, 411, 412, 413, -1, -1, 416, -1, -3, -3]) (Z' := zLs ((400, .inl (7, [-1, -1, 403, 404, 405, 406, 407, -1, 409, 410, 411, 412, 413, -1, -1, 416, -1, 418, -3])) :: (418, .inr (0, 4)) :: (416, .inr (0, 1000)) :: (413, .inr (0, 8)) :: (412, .inr (0, 8)) :: (411, .inr (0, 8)) :: (410, .inr (0, 8)) :: (409, .inr (0, 8)) :: (407, .inr (0, 12)) :: (406, .inr (0, 12)) :: (405, .inr (0, 12)) :: (404, .inr (0, 12)) :: (403, .inr (0, 12)) :: []) Z) rfl (by decide) zf_X7_17 zkf_X7_45 (by decide) dX7_init_97 rfl rfl (fun _ => ⟨rfl, rfl⟩) (zLs_set _ _ _ _) ?_
  refine zV_aload_n 0 dX7_init_100 rfl rfl ?_
  refine zV_gets (i := 1000) zgs_X7_48 (by decide) (show (Z 1000).isSome = true by rw [hU]; rfl) dX7_init_101 ?_
  refine zV_clone (kc := 0) (ks := 0) (i := 419) zcw_clone zcw_cast (show Z 1000 = _ from hU) (by decide) (hfr 419 (by decide)) dX7_init_104 dX7_init_107 (by omega) (Nat.le_of_ble_eq_true rfl) ?_
  refine zV_Z (zLs_add _ _ _ _) ?_
  refine zV_putS (i := 400) (j := 419) (ci := 7) (ksl := [-1, -1, 403, 404, 405, 406, 407, -1, 409, 410, 411, 412, 413, -1, -1, 416, -1, 418, -3]) (Z' := zLs ((400, .inl (7, [-1, -1, 403, 404, 405, 406, 407, -1, 409, 410, 411, 412, 413, -1, -1, 416, -1, 418, 419])) :: (419, .inr (0, 11)) :: (418, .inr (0, 4)) :: (416, .inr (0, 1000)) :: (413, .inr (0, 8)) :: (412, .inr (0, 8)) :: (411, .inr (0, 8)) :: (410, .inr (0, 8)) :: (409, .inr (0, 8)) :: (407, .inr (0, 12)) :: (406, .inr (0, 12)) :: (405, .inr (0, 12)) :: (404, .inr (0, 12)) :: (403, .inr (0, 12)) :: []) Z) rfl (by decide) zf_X7_18 zkf_X7_56 (by decide) dX7_init_110 rfl rfl (fun _ => ⟨rfl, rfl⟩) (zLs_set _ _ _ _) ?_
  exact zV_vret dX7_init_113 rfl h
def zmI_X5_500 (M : zMem) : zMem := (zfr (zfr (zfr (zfr (zfr M 502 0) 503 0) 504 0) 505 0) 506 0)
set_option maxRecDepth 100000 in
set_option maxHeartbeats 4000000 in
theorem zcI_X5_500 {Z : zZ} (hfr : ∀ i ∈ (502 :: 503 :: 504 :: 505 :: 506 :: [] : List Nat), Z i = none) {n : Nat} (hn : 1 ≤ n) {M : zMem} {Q : Option zAV → zMem → zZ → Prop} (h : Q none (zmI_X5_500 M) (zLs [(500, .inl (5, [-1, 502, 503, 504, 505, 506])), (506, .inr (0, 24)), (505, .inr (0, 24)), (504, .inr (0, 24)), (503, .inr (0, 24)), (502, .inr (0, 24))] Z)) : zV zmX5_init n 5 120 (zLs [(500, .inl (5, [-1, -3, -3, -3, -3, -3]))] Z) 0 [(0, zR 500)] [] M Q := by
  unfold zmI_X5_500 at h
  refine zV_aload_n 0 dX5_init_0 rfl rfl ?_
  refine zV_objI zoi_X5 dX5_init_1 (by omega) (Nat.le_of_ble_eq_true rfl) ?_
  refine zV_aload_n 0 dX5_init_4 rfl rfl ?_
  refine zV_bipush (v := 24) dX5_init_5 rfl ?_
  refine zV_newa (kc := 4) (ks := 96) (i := 502) (k := 24) (t := 0) rfl (by decide) zka_int (by decide) (hfr 502 (by decide)) (by decide) dX5_init_7 ?_
  refine zV_Z (zLs_add _ _ _ _) ?_
  refine zV_putS (i := 500) (j := 502) (ci := 5) (ksl := [-1, -3, -3, -3, -3, -3]) (Z' := zLs [(500, .inl (5, [-1, 502, -3, -3, -3, -3])), (502, .inr (0, 24))] Z) rfl (by decide) zf_X5_1 zkf_X5_9 (by decide) dX5_init_9 rfl rfl (fun _ => ⟨rfl, rfl⟩) (zLs_set _ _ _ _) ?_
  refine zV_aload_n 0 dX5_init_12 rfl rfl ?_
  refine zV_bipush (v := 24) dX5_init_13 rfl ?_
  refine zV_newa (kc := 3) (ks := 72) (i := 503) (k := 24) (t := 0) rfl (by decide) zka_int (by decide) (hfr 503 (by decide)) (by decide) dX5_init_15 ?_
  refine zV_Z (zLs_add _ _ _ _) ?_
  refine zV_putS (i := 500) (j := 503) (ci := 5) (ksl := [-1, 502, -3, -3, -3, -3]) (Z' := zLs [(500, .inl (5, [-1, 502, 503, -3, -3, -3])), (503, .inr (0, 24)), (502, .inr (0, 24))] Z) rfl (by decide) zf_X5_2 zkf_X5_15 (by decide) dX5_init_17 rfl rfl (fun _ => ⟨rfl, rfl⟩) (zLs_set _ _ _ _) ?_
  refine zV_aload_n 0 dX5_init_20 rfl rfl ?_
  refine zV_bipush (v := 24) dX5_init_21 rfl ?_
  refine zV_newa (kc := 2) (ks := 48) (i := 504) (k := 24) (t := 0) rfl (by decide) zka_int (by decide) (hfr 504 (by decide)) (by decide) dX5_init_23 ?_
  refine zV_Z (zLs_add _ _ _ _) ?_
  refine zV_putS (i := 500) (j := 504) (ci := 5) (ksl := [-1, 502, 503, -3, -3, -3]) (Z' := zLs [(500, .inl (5, [-1, 502, 503, 504, -3, -3])), (504, .inr (0, 24)), (503, .inr (0, 24)), (502, .inr (0, 24))] Z) rfl (by decide) zf_X5_3 zkf_X5_18 (by decide) dX5_init_25 rfl rfl (fun _ => ⟨rfl, rfl⟩) (zLs_set _ _ _ _) ?_
  refine zV_aload_n 0 dX5_init_28 rfl rfl ?_
  refine zV_bipush (v := 24) dX5_init_29 rfl ?_
  refine zV_newa (kc := 1) (ks := 24) (i := 505) (k := 24) (t := 0) rfl (by decide) zka_int (by decide) (hfr 505 (by decide)) (by decide) dX5_init_31 ?_
  refine zV_Z (zLs_add _ _ _ _) ?_
  refine zV_putS (i := 500) (j := 505) (ci := 5) (ksl := [-1, 502, 503, 504, -3, -3]) (Z' := zLs [(500, .inl (5, [-1, 502, 503, 504, 505, -3])), (505, .inr (0, 24)), (504, .inr (0, 24)), (503, .inr (0, 24)), (502, .inr (0, 24))] Z) rfl (by decide) zf_X5_4 zkf_X5_21 (by decide) dX5_init_33 rfl rfl (fun _ => ⟨rfl, rfl⟩) (zLs_set _ _ _ _) ?_
  refine zV_aload_n 0 dX5_init_36 rfl rfl ?_
  refine zV_bipush (v := 24) dX5_init_37 rfl ?_
  refine zV_newa (kc := 0) (ks := 0) (i := 506) (k := 24) (t := 0) rfl (by decide) zka_int (by decide) (hfr 506 (by decide)) (by decide) dX5_init_39 ?_
  refine zV_Z (zLs_add _ _ _ _) ?_
  refine zV_putS (i := 500) (j := 506) (ci := 5) (ksl := [-1, 502, 503, 504, 505, -3]) (Z' := zLs [(500, .inl (5, [-1, 502, 503, 504, 505, 506])), (506, .inr (0, 24)), (505, .inr (0, 24)), (504, .inr (0, 24)), (503, .inr (0, 24)), (502, .inr (0, 24))] Z) rfl (by decide) zf_X5_5 zkf_X5_24 (by decide) dX5_init_41 rfl rfl (fun _ => ⟨rfl, rfl⟩) (zLs_set _ _ _ _) ?_
  exact zV_vret dX5_init_44 rfl h
def zmI_X7_420 (M : zMem) : zMem := (zcl (zfr (zfr (zfr (zfr (zfr (zfr (zfr (zfr (zfr (zfr (zfr (zfr M 423 0) 424 0) 425 0) 426 0) 427 0) 429 0) 430 0) 431 0) 432 0) 433 0) 436 0) 438 0) 439)
set_option maxRecDepth 100000 in
set_option maxHeartbeats 4000000 in
theorem zcI_X7_420 {Z : zZ} (hfr : ∀ i ∈ (423 :: 424 :: 425 :: 426 :: 427 :: 429 :: 430 :: 431 :: 432 :: 433 :: 436 :: 438 :: 439 :: [] : List Nat), Z i = none) (hU : Z 1000 = some (.inr (0, 11))) {n : Nat} (hn : 1 ≤ n) {M : zMem} {Q : Option zAV → zMem → zZ → Prop} (h : Q none (zmI_X7_420 M) (zLs ((420, .inl (7, [-1, -1, 423, 424, 425, 426, 427, -1, 429, 430, 431, 432, 433, -1, -1, 436, -1, 438, 439])) :: (439, .inr (0, 11)) :: (438, .inr (0, 4)) :: (436, .inr (0, 1000)) :: (433, .inr (0, 8)) :: (432, .inr (0, 8)) :: (431, .inr (0, 8)) :: (430, .inr (0, 8)) :: (429, .inr (0, 8)) :: (427, .inr (0, 12)) :: (426, .inr (0, 12)) :: (425, .inr (0, 12)) :: (424, .inr (0, 12)) :: (423, .inr (0, 12)) :: []) Z)) : zV zmX7_init n 13 1115 (zLs [(420, .inl (7, [-1, -1, -3, -3, -3, -3, -3, -1, -3, -3, -3, -3, -3, -1, -1, -3, -1, -3, -3]))] Z) 0 [(0, zR 420)] [] M Q := by
  unfold zmI_X7_420 at h
  refine zV_aload_n 0 dX7_init_0 rfl rfl ?_
  refine zV_objI zoi_X7 dX7_init_1 (by omega) (Nat.le_of_ble_eq_true rfl) ?_
  refine zV_aload_n 0 dX7_init_4 rfl rfl ?_
  refine zV_bipush (v := 12) dX7_init_5 rfl ?_
  refine zV_newa (kc := 12) (ks := 1103) (i := 423) (k := 12) (t := 0) rfl (by decide) zka_int (by decide) (hfr 423 (by decide)) (by decide) dX7_init_7 ?_
  refine zV_Z (zLs_add _ _ _ _) ?_
  refine zV_putS (i := 420) (j := 423) (ci := 7) (ksl := [-1, -1, -3, -3, -3, -3, -3, -1, -3, -3, -3, -3, -3, -1, -1, -3, -1, -3, -3]) (Z' := zLs [(420, .inl (7, [-1, -1, 423, -3, -3, -3, -3, -1, -3, -3, -3, -3, -3, -1, -1, -3, -1, -3, -3])), (423, .inr (0, 12))] Z) rfl (by decide) zf_X7_2 zkf_X7_9 (by decide) dX7_init_9 rfl rfl (fun _ => ⟨rfl, rfl⟩) (zLs_set _ _ _ _) ?_
  refine zV_aload_n 0 dX7_init_12 rfl rfl ?_
  refine zV_bipush (v := 12) dX7_init_13 rfl ?_
  refine zV_newa (kc := 11) (ks := 1091) (i := 424) (k := 12) (t := 0) rfl (by decide) zka_int (by decide) (hfr 424 (by decide)) (by decide) dX7_init_15 ?_
  refine zV_Z (zLs_add _ _ _ _) ?_
  refine zV_putS (i := 420) (j := 424) (ci := 7) (ksl := [-1, -1, 423, -3, -3, -3, -3, -1, -3, -3, -3, -3, -3, -1, -1, -3, -1, -3, -3]) (Z' := zLs [(420, .inl (7, [-1, -1, 423, 424, -3, -3, -3, -1, -3, -3, -3, -3, -3, -1, -1, -3, -1, -3, -3])), (424, .inr (0, 12)), (423, .inr (0, 12))] Z) rfl (by decide) zf_X7_3 zkf_X7_15 (by decide) dX7_init_17 rfl rfl (fun _ => ⟨rfl, rfl⟩) (zLs_set _ _ _ _) ?_
  refine zV_aload_n 0 dX7_init_20 rfl rfl ?_
  refine zV_bipush (v := 12) dX7_init_21 rfl ?_
  refine zV_newa (kc := 10) (ks := 1079) (i := 425) (k := 12) (t := 0) rfl (by decide) zka_int (by decide) (hfr 425 (by decide)) (by decide) dX7_init_23 ?_
  refine zV_Z (zLs_add _ _ _ _) ?_
  refine zV_putS (i := 420) (j := 425) (ci := 7) (ksl := [-1, -1, 423, 424, -3, -3, -3, -1, -3, -3, -3, -3, -3, -1, -1, -3, -1, -3, -3]) (Z' := zLs [(420, .inl (7, [-1, -1, 423, 424, 425, -3, -3, -1, -3, -3, -3, -3, -3, -1, -1, -3, -1, -3, -3])), (425, .inr (0, 12)), (424, .inr (0, 12)), (423, .inr (0, 12))] Z) rfl (by decide) zf_X7_4 zkf_X7_18 (by decide) dX7_init_25 rfl rfl (fun _ => ⟨rfl, rfl⟩) (zLs_set _ _ _ _) ?_
  refine zV_aload_n 0 dX7_init_28 rfl rfl ?_
  refine zV_bipush (v := 12) dX7_init_29 rfl ?_
  refine zV_newa (kc := 9) (ks := 1067) (i := 426) (k := 12) (t := 0) rfl (by decide) zka_int (by decide) (hfr 426 (by decide)) (by decide) dX7_init_31 ?_
  refine zV_Z (zLs_add _ _ _ _) ?_
  refine zV_putS (i := 420) (j := 426) (ci := 7) (ksl := [-1, -1, 423, 424, 425, -3, -3, -1, -3, -3, -3, -3, -3, -1, -1, -3, -1, -3, -3]) (Z' := zLs [(420, .inl (7, [-1, -1, 423, 424, 425, 426, -3, -1, -3, -3, -3, -3, -3, -1, -1, -3, -1, -3, -3])), (426, .inr (0, 12)), (425, .inr (0, 12)), (424, .inr (0, 12)), (423, .inr (0, 12))] Z) rfl (by decide) zf_X7_5 zkf_X7_21 (by decide) dX7_init_33 rfl rfl (fun _ => ⟨rfl, rfl⟩) (zLs_set _ _ _ _) ?_
  refine zV_aload_n 0 dX7_init_36 rfl rfl ?_
  refine zV_bipush (v := 12) dX7_init_37 rfl ?_
  refine zV_newa (kc := 8) (ks := 1055) (i := 427) (k := 12) (t := 0) rfl (by decide) zka_int (by decide) (hfr 427 (by decide)) (by decide) dX7_init_39 ?_
  refine zV_Z (zLs_add _ _ _ _) ?_
  refine zV_putS (i := 420) (j := 427) (ci := 7) (ksl := [-1, -1, 423, 424, 425, 426, -3, -1, -3, -3, -3, -3, -3, -1, -1, -3, -1, -3, -3]) (Z' := zLs [(420, .inl (7, [-1, -1, 423, 424, 425, 426, 427, -1, -3, -3, -3, -3, -3, -1, -1, -3, -1, -3, -3])), (427, .inr (0, 12)), (426, .inr (0, 12)), (425, .inr (0, 12)), (424, .inr (0, 12)), (423, .inr (0, 12))] Z) rfl (by decide) zf_X7_6 zkf_X7_24 (by decide) dX7_init_41 rfl rfl (fun _ => ⟨rfl, rfl⟩) (zLs_set _ _ _ _) ?_
  refine zV_aload_n 0 dX7_init_44 rfl rfl ?_
  refine zV_bipush (v := 8) dX7_init_45 rfl ?_
  refine zV_newa (kc := 7) (ks := 1047) (i := 429) (k := 8) (t := 0) rfl (by decide) zka_int (by decide) (hfr 429 (by decide)) (by decide) dX7_init_47 ?_
  refine zV_Z (zLs_add _ _ _ _) ?_
  refine zV_putS (i := 420) (j := 429) (ci := 7) (ksl := [-1, -1, 423, 424, 425, 426, 427, -1, -3, -3, -3, -3, -3, -1, -1, -3, -1, -3, -3]) (Z' := zLs [(420, .inl (7, [-1, -1, 423, 424, 425, 426, 427, -1, 429, -3, -3, -3, -3, -1, -1, -3, -1, -3, -3])), (429, .inr (0, 8)), (427, .inr (0, 12)), (426, .inr (0, 12)), (425, .inr (0, 12)), (424, .inr (0, 12)), (423, .inr (0, 12))] Z) rfl (by decide) zf_X7_8 zkf_X7_27 (by decide) dX7_init_49 rfl rfl (fun _ => ⟨rfl, rfl⟩) (zLs_set _ _ _ _) ?_
  refine zV_aload_n 0 dX7_init_52 rfl rfl ?_
  refine zV_bipush (v := 8) dX7_init_53 rfl ?_
  refine zV_newa (kc := 6) (ks := 1039) (i := 430) (k := 8) (t := 0) rfl (by decide) zka_int (by decide) (hfr 430 (by decide)) (by decide) dX7_init_55 ?_
  refine zV_Z (zLs_add _ _ _ _) ?_
  refine zV_putS (i := 420) (j := 430) (ci := 7) (ksl := [-1, -1, 423, 424, 425, 426, 427, -1, 429, -3, -3, -3, -3, -1, -1, -3, -1, -3, -3]) (Z' := zLs [(420, .inl (7, [-1, -1, 423, 424, 425, 426, 427, -1, 429, 430, -3, -3, -3, -1, -1, -3, -1, -3, -3])), (430, .inr (0, 8)), (429, .inr (0, 8)), (427, .inr (0, 12)), (426, .inr (0, 12)), (425, .inr (0, 12)), (424, .inr (0, 12)), (423, .inr (0, 12))] Z) rfl (by decide) zf_X7_9 zkf_X7_30 (by decide) dX7_init_57 rfl rfl (fun _ => ⟨rfl, rfl⟩) (zLs_set _ _ _ _) ?_
  refine zV_aload_n 0 dX7_init_60 rfl rfl ?_
  refine zV_bipush (v := 8) dX7_init_61 rfl ?_
  refine zV_newa (kc := 5) (ks := 1031) (i := 431) (k := 8) (t := 0) rfl (by decide) zka_int (by decide) (hfr 431 (by decide)) (by decide) dX7_init_63 ?_
  refine zV_Z (zLs_add _ _ _ _) ?_
  refine zV_putS (i := 420) (j := 431) (ci := 7) (ksl := [-1, -1, 423, 424, 425, 426, 427, -1, 429, 430, -3, -3, -3, -1, -1, -3, -1, -3, -3]) (Z' := zLs [(420, .inl (7, [-1, -1, 423, 424, 425, 426, 427, -1, 429, 430, 431, -3, -3, -1, -1, -3, -1, -3, -3])), (431, .inr (0, 8)), (430, .inr (0, 8)), (429, .inr (0, 8)), (427, .inr (0, 12)), (426, .inr (0, 12)), (425, .inr (0, 12)), (424, .inr (0, 12)), (423, .inr (0, 12))] Z) rfl (by decide) zf_X7_10 zkf_X7_33 (by decide) dX7_init_65 rfl rfl (fun _ => ⟨rfl, rfl⟩) (zLs_set _ _ _ _) ?_
  refine zV_aload_n 0 dX7_init_68 rfl rfl ?_
  refine zV_bipush (v := 8) dX7_init_69 rfl ?_
  refine zV_newa (kc := 4) (ks := 1023) (i := 432) (k := 8) (t := 0) rfl (by decide) zka_int (by decide) (hfr 432 (by decide)) (by decide) dX7_init_71 ?_
  refine zV_Z (zLs_add _ _ _ _) ?_
  refine zV_putS (i := 420) (j := 432) (ci := 7) (ksl := [-1, -1, 423, 424, 425, 426, 427, -1, 429, 430, 431, -3, -3, -1, -1, -3, -1, -3, -3]) (Z' := zLs [(420, .inl (7, [-1, -1, 423, 424, 425, 426, 427, -1, 429, 430, 431, 432, -3, -1, -1, -3, -1, -3, -3])), (432, .inr (0, 8)), (431, .inr (0, 8)), (430, .inr (0, 8)), (429, .inr (0, 8)), (427, .inr (0, 12)), (426, .inr (0, 12)), (425, .inr (0, 12)), (424, .inr (0, 12)), (423, .inr (0, 12))] Z) rfl (by decide) zf_X7_11 zkf_X7_36 (by decide) dX7_init_73 rfl rfl (fun _ => ⟨rfl, rfl⟩) (zLs_set _ _ _ _) ?_
  refine zV_aload_n 0 dX7_init_76 rfl rfl ?_
  refine zV_bipush (v := 8) dX7_init_77 rfl ?_
  refine zV_newa (kc := 3) (ks := 1015) (i := 433) (k := 8) (t := 0) rfl (by decide) zka_int (by decide) (hfr 433 (by decide)) (by decide) dX7_init_79 ?_
  refine zV_Z (zLs_add _ _ _ _) ?_
  refine zV_putS (i := 420) (j := 433) (ci := 7) (ksl := [-1, -1, 423, 424, 425, 426, 427, -1, 429, 430, 431, 432, -3, -1, -1, -3, -1, -3, -3]) (Z' := zLs [(420, .inl (7, [-1, -1, 423, 424, 425, 426, 427, -1, 429, 430, 431, 432, 433, -1, -1, -3, -1, -3, -3])), (433, .inr (0, 8)), (432, .inr (0, 8)), (431, .inr (0, 8)), (430, .inr (0, 8)), (429, .inr (0, 8)), (427, .inr (0, 12)), (426, .inr (0, 12)), (425, .inr (0, 12)), (424, .inr (0, 12)), (423, .inr (0, 12))] Z) rfl (by decide) zf_X7_12 zkf_X7_39 (by decide) dX7_init_81 rfl rfl (fun _ => ⟨rfl, rfl⟩) (zLs_set _ _ _ _) ?_
  refine zV_aload_n 0 dX7_init_84 rfl rfl ?_
  refine zV_sipush (v := 1000) dX7_init_85 rfl ?_
  refine zV_newa (kc := 2) (ks := 15) (i := 436) (k := 1000) (t := 0) rfl (by decide) zka_int (by decide) (hfr 436 (by decide)) (by decide) dX7_init_88 ?_
  refine zV_Z (zLs_add _ _ _ _) ?_
  refine zV_putS (i := 420) (j := 436) (ci := 7) (ksl := [-1, -1, 423, 424, 425, 426, 427, -1, 429, 430, 431, 432, 433, -1, -1, -3, -1, -3, -3]) (Z' := zLs ((420, .inl (7, [-1, -1, 423, 424, 425, 426, 427, -1, 429, 430, 431, 432, 433, -1, -1, 436, -1, -3, -3])) :: (436, .inr (0, 1000)) :: (433, .inr (0, 8)) :: (432, .inr (0, 8)) :: (431, .inr (0, 8)) :: (430, .inr (0, 8)) :: (429, .inr (0, 8)) :: (427, .inr (0, 12)) :: (426, .inr (0, 12)) :: (425, .inr (0, 12)) :: (424, .inr (0, 12)) :: (423, .inr (0, 12)) :: []) Z) rfl (by decide) zf_X7_15 zkf_X7_42 (by decide) dX7_init_90 rfl rfl (fun _ => ⟨rfl, rfl⟩) (zLs_set _ _ _ _) ?_
  refine zV_aload_n 0 dX7_init_93 rfl rfl ?_
  refine zV_iconst (v := 4) dX7_init_94 rfl ?_
  refine zV_newa (kc := 1) (ks := 11) (i := 438) (k := 4) (t := 0) rfl (by decide) zka_int (by decide) (hfr 438 (by decide)) (by decide) dX7_init_95 ?_
  refine zV_Z (zLs_add _ _ _ _) ?_
  refine zV_putS (i := 420) (j := 438) (ci := 7) (ksl := [-1, -1, 423, 424, 425, 426, 427, -1, 429, 430, 431, 432, 433, -1, -1, 436, -1, -3, -3]) (Z' := zLs ((420, .inl (7, [-1, -1, 423, 424, 425, 426, 427, -1, 429, 430, 431, 432, 433, -1, -1, 436, -1, 438, -3])) :: (438, .inr (0, 4)) :: (436, .inr (0, 1000)) :: (433, .inr (0, 8)) :: (432, .inr (0, 8)) :: (431, .inr (0, 8)) :: (430, .inr (0, 8)) :: (429, .inr (0, 8)) :: (427, .inr (0, 12)) :: (426, .inr (0, 12)) :: (425, .inr (0, 12)) :: (424, .inr (0, 12)) :: (423, .inr (0, 12)) :: []) Z) rfl (by decide) zf_X7_17 zkf_X7_45 (by decide) dX7_init_97 rfl rfl (fun _ => ⟨rfl, rfl⟩) (zLs_set _ _ _ _) ?_
  refine zV_aload_n 0 dX7_init_100 rfl rfl ?_
  refine zV_gets (i := 1000) zgs_X7_48 (by decide) (show (Z 1000).isSome = true by rw [hU]; rfl) dX7_init_101 ?_
  refine zV_clone (kc := 0) (ks := 0) (i := 439) zcw_clone zcw_cast (show Z 1000 = _ from hU) (by decide) (hfr 439 (by decide)) dX7_init_104 dX7_init_107 (by omega) (Nat.le_of_ble_eq_true rfl) ?_
  refine zV_Z (zLs_add _ _ _ _) ?_
  refine zV_putS (i := 420) (j := 439) (ci := 7) (ksl := [-1, -1, 423, 424, 425, 426, 427, -1, 429, 430, 431, 432, 433, -1, -1, 436, -1, 438, -3]) (Z' := zLs ((420, .inl (7, [-1, -1, 423, 424, 425, 426, 427, -1, 429, 430, 431, 432, 433, -1, -1, 436, -1, 438, 439])) :: (439, .inr (0, 11)) :: (438, .inr (0, 4)) :: (436, .inr (0, 1000)) :: (433, .inr (0, 8)) :: (432, .inr (0, 8)) :: (431, .inr (0, 8)) :: (430, .inr (0, 8)) :: (429, .inr (0, 8)) :: (427, .inr (0, 12)) :: (426, .inr (0, 12)) :: (425, .inr (0, 12)) :: (424, .inr (0, 12)) :: (423, .inr (0, 12)) :: []) Z) rfl (by decide) zf_X7_18 zkf_X7_56 (by decide) dX7_init_110 rfl rfl (fun _ => ⟨rfl, rfl⟩) (zLs_set _ _ _ _) ?_
  exact zV_vret dX7_init_113 rfl h
def zmI_X5_510 (M : zMem) : zMem := (zfr (zfr (zfr (zfr (zfr M 512 0) 513 0) 514 0) 515 0) 516 0)
set_option maxRecDepth 100000 in
set_option maxHeartbeats 4000000 in
theorem zcI_X5_510 {Z : zZ} (hfr : ∀ i ∈ (512 :: 513 :: 514 :: 515 :: 516 :: [] : List Nat), Z i = none) {n : Nat} (hn : 1 ≤ n) {M : zMem} {Q : Option zAV → zMem → zZ → Prop} (h : Q none (zmI_X5_510 M) (zLs [(510, .inl (5, [-1, 512, 513, 514, 515, 516])), (516, .inr (0, 24)), (515, .inr (0, 24)), (514, .inr (0, 24)), (513, .inr (0, 24)), (512, .inr (0, 24))] Z)) : zV zmX5_init n 5 120 (zLs [(510, .inl (5, [-1, -3, -3, -3, -3, -3]))] Z) 0 [(0, zR 510)] [] M Q := by
  unfold zmI_X5_510 at h
  refine zV_aload_n 0 dX5_init_0 rfl rfl ?_
  refine zV_objI zoi_X5 dX5_init_1 (by omega) (Nat.le_of_ble_eq_true rfl) ?_
  refine zV_aload_n 0 dX5_init_4 rfl rfl ?_
  refine zV_bipush (v := 24) dX5_init_5 rfl ?_
  refine zV_newa (kc := 4) (ks := 96) (i := 512) (k := 24) (t := 0) rfl (by decide) zka_int (by decide) (hfr 512 (by decide)) (by decide) dX5_init_7 ?_
  refine zV_Z (zLs_add _ _ _ _) ?_
  refine zV_putS (i := 510) (j := 512) (ci := 5) (ksl := [-1, -3, -3, -3, -3, -3]) (Z' := zLs [(510, .inl (5, [-1, 512, -3, -3, -3, -3])), (512, .inr (0, 24))] Z) rfl (by decide) zf_X5_1 zkf_X5_9 (by decide) dX5_init_9 rfl rfl (fun _ => ⟨rfl, rfl⟩) (zLs_set _ _ _ _) ?_
  refine zV_aload_n 0 dX5_init_12 rfl rfl ?_
  refine zV_bipush (v := 24) dX5_init_13 rfl ?_
  refine zV_newa (kc := 3) (ks := 72) (i := 513) (k := 24) (t := 0) rfl (by decide) zka_int (by decide) (hfr 513 (by decide)) (by decide) dX5_init_15 ?_
  refine zV_Z (zLs_add _ _ _ _) ?_
  refine zV_putS (i := 510) (j := 513) (ci := 5) (ksl := [-1, 512, -3, -3, -3, -3]) (Z' := zLs [(510, .inl (5, [-1, 512, 513, -3, -3, -3])), (513, .inr (0, 24)), (512, .inr (0, 24))] Z) rfl (by decide) zf_X5_2 zkf_X5_15 (by decide) dX5_init_17 rfl rfl (fun _ => ⟨rfl, rfl⟩) (zLs_set _ _ _ _) ?_
  refine zV_aload_n 0 dX5_init_20 rfl rfl ?_
  refine zV_bipush (v := 24) dX5_init_21 rfl ?_
  refine zV_newa (kc := 2) (ks := 48) (i := 514) (k := 24) (t := 0) rfl (by decide) zka_int (by decide) (hfr 514 (by decide)) (by decide) dX5_init_23 ?_
  refine zV_Z (zLs_add _ _ _ _) ?_
  refine zV_putS (i := 510) (j := 514) (ci := 5) (ksl := [-1, 512, 513, -3, -3, -3]) (Z' := zLs [(510, .inl (5, [-1, 512, 513, 514, -3, -3])), (514, .inr (0, 24)), (513, .inr (0, 24)), (512, .inr (0, 24))] Z) rfl (by decide) zf_X5_3 zkf_X5_18 (by decide) dX5_init_25 rfl rfl (fun _ => ⟨rfl, rfl⟩) (zLs_set _ _ _ _) ?_
  refine zV_aload_n 0 dX5_init_28 rfl rfl ?_
  refine zV_bipush (v := 24) dX5_init_29 rfl ?_
  refine zV_newa (kc := 1) (ks := 24) (i := 515) (k := 24) (t := 0) rfl (by decide) zka_int (by decide) (hfr 515 (by decide)) (by decide) dX5_init_31 ?_
  refine zV_Z (zLs_add _ _ _ _) ?_
  refine zV_putS (i := 510) (j := 515) (ci := 5) (ksl := [-1, 512, 513, 514, -3, -3]) (Z' := zLs [(510, .inl (5, [-1, 512, 513, 514, 515, -3])), (515, .inr (0, 24)), (514, .inr (0, 24)), (513, .inr (0, 24)), (512, .inr (0, 24))] Z) rfl (by decide) zf_X5_4 zkf_X5_21 (by decide) dX5_init_33 rfl rfl (fun _ => ⟨rfl, rfl⟩) (zLs_set _ _ _ _) ?_
  refine zV_aload_n 0 dX5_init_36 rfl rfl ?_
  refine zV_bipush (v := 24) dX5_init_37 rfl ?_
  refine zV_newa (kc := 0) (ks := 0) (i := 516) (k := 24) (t := 0) rfl (by decide) zka_int (by decide) (hfr 516 (by decide)) (by decide) dX5_init_39 ?_
  refine zV_Z (zLs_add _ _ _ _) ?_
  refine zV_putS (i := 510) (j := 516) (ci := 5) (ksl := [-1, 512, 513, 514, 515, -3]) (Z' := zLs [(510, .inl (5, [-1, 512, 513, 514, 515, 516])), (516, .inr (0, 24)), (515, .inr (0, 24)), (514, .inr (0, 24)), (513, .inr (0, 24)), (512, .inr (0, 24))] Z) rfl (by decide) zf_X5_5 zkf_X5_24 (by decide) dX5_init_41 rfl rfl (fun _ => ⟨rfl, rfl⟩) (zLs_set _ _ _ _) ?_
  exact zV_vret dX5_init_44 rfl h
def zmI_X7_440 (M : zMem) : zMem := (zcl (zfr (zfr (zfr (zfr (zfr (zfr (zfr (zfr (zfr (zfr (zfr (zfr M 443 0) 444 0) 445 0) 446 0) 447 0) 449 0) 450 0) 451 0) 452 0) 453 0) 456 0) 458 0) 459)
set_option maxRecDepth 100000 in
set_option maxHeartbeats 4000000 in
theorem zcI_X7_440 {Z : zZ} (hfr : ∀ i ∈ (443 :: 444 :: 445 :: 446 :: 447 :: 449 :: 450 :: 451 :: 452 :: 453 :: 456 :: 458 :: 459 :: [] : List Nat), Z i = none) (hU : Z 1000 = some (.inr (0, 11))) {n : Nat} (hn : 1 ≤ n) {M : zMem} {Q : Option zAV → zMem → zZ → Prop} (h : Q none (zmI_X7_440 M) (zLs ((440, .inl (7, [-1, -1, 443, 444, 445, 446, 447, -1, 449, 450, 451, 452, 453, -1, -1, 456, -1, 458, 459])) :: (459, .inr (0, 11)) :: (458, .inr (0, 4)) :: (456, .inr (0, 1000)) :: (453, .inr (0, 8)) :: (452, .inr (0, 8)) :: (451, .inr (0, 8)) :: (450, .inr (0, 8)) :: (449, .inr (0, 8)) :: (447, .inr (0, 12)) :: (446, .inr (0, 12)) :: (445, .inr (0, 12)) :: (444, .inr (0, 12)) :: (443, .inr (0, 12)) :: []) Z)) : zV zmX7_init n 13 1115 (zLs [(440, .inl (7, [-1, -1, -3, -3, -3, -3, -3, -1, -3, -3, -3, -3, -3, -1, -1, -3, -1, -3, -3]))] Z) 0 [(0, zR 440)] [] M Q := by
  unfold zmI_X7_440 at h
  refine zV_aload_n 0 dX7_init_0 rfl rfl ?_
  refine zV_objI zoi_X7 dX7_init_1 (by omega) (Nat.le_of_ble_eq_true rfl) ?_
  refine zV_aload_n 0 dX7_init_4 rfl rfl ?_
  refine zV_bipush (v := 12) dX7_init_5 rfl ?_
  refine zV_newa (kc := 12) (ks := 1103) (i := 443) (k := 12) (t := 0) rfl (by decide) zka_int (by decide) (hfr 443 (by decide)) (by decide) dX7_init_7 ?_
  refine zV_Z (zLs_add _ _ _ _) ?_
  refine zV_putS (i := 440) (j := 443) (ci := 7) (ksl := [-1, -1, -3, -3, -3, -3, -3, -1, -3, -3, -3, -3, -3, -1, -1, -3, -1, -3, -3]) (Z' := zLs [(440, .inl (7, [-1, -1, 443, -3, -3, -3, -3, -1, -3, -3, -3, -3, -3, -1, -1, -3, -1, -3, -3])), (443, .inr (0, 12))] Z) rfl (by decide) zf_X7_2 zkf_X7_9 (by decide) dX7_init_9 rfl rfl (fun _ => ⟨rfl, rfl⟩) (zLs_set _ _ _ _) ?_
  refine zV_aload_n 0 dX7_init_12 rfl rfl ?_
  refine zV_bipush (v := 12) dX7_init_13 rfl ?_
  refine zV_newa (kc := 11) (ks := 1091) (i := 444) (k := 12) (t := 0) rfl (by decide) zka_int (by decide) (hfr 444 (by decide)) (by decide) dX7_init_15 ?_
  refine zV_Z (zLs_add _ _ _ _) ?_
  refine zV_putS (i := 440) (j := 444) (ci := 7) (ksl := [-1, -1, 443, -3, -3, -3, -3, -1, -3, -3, -3, -3, -3, -1, -1, -3, -1, -3, -3]) (Z' := zLs [(440, .inl (7, [-1, -1, 443, 444, -3, -3, -3, -1, -3, -3, -3, -3, -3, -1, -1, -3, -1, -3, -3])), (444, .inr (0, 12)), (443, .inr (0, 12))] Z) rfl (by decide) zf_X7_3 zkf_X7_15 (by decide) dX7_init_17 rfl rfl (fun _ => ⟨rfl, rfl⟩) (zLs_set _ _ _ _) ?_
  refine zV_aload_n 0 dX7_init_20 rfl rfl ?_
  refine zV_bipush (v := 12) dX7_init_21 rfl ?_
  refine zV_newa (kc := 10) (ks := 1079) (i := 445) (k := 12) (t := 0) rfl (by decide) zka_int (by decide) (hfr 445 (by decide)) (by decide) dX7_init_23 ?_
  refine zV_Z (zLs_add _ _ _ _) ?_
  refine zV_putS (i := 440) (j := 445) (ci := 7) (ksl := [-1, -1, 443, 444, -3, -3, -3, -1, -3, -3, -3, -3, -3, -1, -1, -3, -1, -3, -3]) (Z' := zLs [(440, .inl (7, [-1, -1, 443, 444, 445, -3, -3, -1, -3, -3, -3, -3, -3, -1, -1, -3, -1, -3, -3])), (445, .inr (0, 12)), (444, .inr (0, 12)), (443, .inr (0, 12))] Z) rfl (by decide) zf_X7_4 zkf_X7_18 (by decide) dX7_init_25 rfl rfl (fun _ => ⟨rfl, rfl⟩) (zLs_set _ _ _ _) ?_
  refine zV_aload_n 0 dX7_init_28 rfl rfl ?_
  refine zV_bipush (v := 12) dX7_init_29 rfl ?_
  refine zV_newa (kc := 9) (ks := 1067) (i := 446) (k := 12) (t := 0) rfl (by decide) zka_int (by decide) (hfr 446 (by decide)) (by decide) dX7_init_31 ?_
  refine zV_Z (zLs_add _ _ _ _) ?_
  refine zV_putS (i := 440) (j := 446) (ci := 7) (ksl := [-1, -1, 443, 444, 445, -3, -3, -1, -3, -3, -3, -3, -3, -1, -1, -3, -1, -3, -3]) (Z' := zLs [(440, .inl (7, [-1, -1, 443, 444, 445, 446, -3, -1, -3, -3, -3, -3, -3, -1, -1, -3, -1, -3, -3])), (446, .inr (0, 12)), (445, .inr (0, 12)), (444, .inr (0, 12)), (443, .inr (0, 12))] Z) rfl (by decide) zf_X7_5 zkf_X7_21 (by decide) dX7_init_33 rfl rfl (fun _ => ⟨rfl, rfl⟩) (zLs_set _ _ _ _) ?_
  refine zV_aload_n 0 dX7_init_36 rfl rfl ?_
  refine zV_bipush (v := 12) dX7_init_37 rfl ?_
  refine zV_newa (kc := 8) (ks := 1055) (i := 447) (k := 12) (t := 0) rfl (by decide) zka_int (by decide) (hfr 447 (by decide)) (by decide) dX7_init_39 ?_
  refine zV_Z (zLs_add _ _ _ _) ?_
  refine zV_putS (i := 440) (j := 447) (ci := 7) (ksl := [-1, -1, 443, 444, 445, 446, -3, -1, -3, -3, -3, -3, -3, -1, -1, -3, -1, -3, -3]) (Z' := zLs [(440, .inl (7, [-1, -1, 443, 444, 445, 446, 447, -1, -3, -3, -3, -3, -3, -1, -1, -3, -1, -3, -3])), (447, .inr (0, 12)), (446, .inr (0, 12)), (445, .inr (0, 12)), (444, .inr (0, 12)), (443, .inr (0, 12))] Z) rfl (by decide) zf_X7_6 zkf_X7_24 (by decide) dX7_init_41 rfl rfl (fun _ => ⟨rfl, rfl⟩) (zLs_set _ _ _ _) ?_
  refine zV_aload_n 0 dX7_init_44 rfl rfl ?_
  refine zV_bipush (v := 8) dX7_init_45 rfl ?_
  refine zV_newa (kc := 7) (ks := 1047) (i := 449) (k := 8) (t := 0) rfl (by decide) zka_int (by decide) (hfr 449 (by decide)) (by decide) dX7_init_47 ?_
  refine zV_Z (zLs_add _ _ _ _) ?_
  refine zV_putS (i := 440) (j := 449) (ci := 7) (ksl := [-1, -1, 443, 444, 445, 446, 447, -1, -3, -3, -3, -3, -3, -1, -1, -3, -1, -3, -3]) (Z' := zLs [(440, .inl (7, [-1, -1, 443, 444, 445, 446, 447, -1, 449, -3, -3, -3, -3, -1, -1, -3, -1, -3, -3])), (449, .inr (0, 8)), (447, .inr (0, 12)), (446, .inr (0, 12)), (445, .inr (0, 12)), (444, .inr (0, 12)), (443, .inr (0, 12))] Z) rfl (by decide) zf_X7_8 zkf_X7_27 (by decide) dX7_init_49 rfl rfl (fun _ => ⟨rfl, rfl⟩) (zLs_set _ _ _ _) ?_
  refine zV_aload_n 0 dX7_init_52 rfl rfl ?_
  refine zV_bipush (v := 8) dX7_init_53 rfl ?_
  refine zV_newa (kc := 6) (ks := 1039) (i := 450) (k := 8) (t := 0) rfl (by decide) zka_int (by decide) (hfr 450 (by decide)) (by decide) dX7_init_55 ?_
  refine zV_Z (zLs_add _ _ _ _) ?_
  refine zV_putS (i := 440) (j := 450) (ci := 7) (ksl := [-1, -1, 443, 444, 445, 446, 447, -1, 449, -3, -3, -3, -3, -1, -1, -3, -1, -3, -3]) (Z' := zLs [(440, .inl (7, [-1, -1, 443, 444, 445, 446, 447, -1, 449, 450, -3, -3, -3, -1, -1, -3, -1, -3, -3])), (450, .inr (0, 8)), (449, .inr (0, 8)), (447, .inr (0, 12)), (446, .inr (0, 12)), (445, .inr (0, 12)), (444, .inr (0, 12)), (443, .inr (0, 12))] Z) rfl (by decide) zf_X7_9 zkf_X7_30 (by decide) dX7_init_57 rfl rfl (fun _ => ⟨rfl, rfl⟩) (zLs_set _ _ _ _) ?_
  refine zV_aload_n 0 dX7_init_60 rfl rfl ?_
  refine zV_bipush (v := 8) dX7_init_61 rfl ?_
  refine zV_newa (kc := 5) (ks := 1031) (i := 451) (k := 8) (t := 0) rfl (by decide) zka_int (by decide) (hfr 451 (by decide)) (by decide) dX7_init_63 ?_
  refine zV_Z (zLs_add _ _ _ _) ?_
  refine zV_putS (i := 440) (j := 451) (ci := 7) (ksl := [-1, -1, 443, 444, 445, 446, 447, -1, 449, 450, -3, -3, -3, -1, -1, -3, -1, -3, -3]) (Z' := zLs [(440, .inl (7, [-1, -1, 443, 444, 445, 446, 447, -1, 449, 450, 451, -3, -3, -1, -1, -3, -1, -3, -3])), (451, .inr (0, 8)), (450, .inr (0, 8)), (449, .inr (0, 8)), (447, .inr (0, 12)), (446, .inr (0, 12)), (445, .inr (0, 12)), (444, .inr (0, 12)), (443, .inr (0, 12))] Z) rfl (by decide) zf_X7_10 zkf_X7_33 (by decide) dX7_init_65 rfl rfl (fun _ => ⟨rfl, rfl⟩) (zLs_set _ _ _ _) ?_
  refine zV_aload_n 0 dX7_init_68 rfl rfl ?_
  refine zV_bipush (v := 8) dX7_init_69 rfl ?_
  refine zV_newa (kc := 4) (ks := 1023) (i := 452) (k := 8) (t := 0) rfl (by decide) zka_int (by decide) (hfr 452 (by decide)) (by decide) dX7_init_71 ?_
  refine zV_Z (zLs_add _ _ _ _) ?_
  refine zV_putS (i := 440) (j := 452) (ci := 7) (ksl := [-1, -1, 443, 444, 445, 446, 447, -1, 449, 450, 451, -3, -3, -1, -1, -3, -1, -3, -3]) (Z' := zLs [(440, .inl (7, [-1, -1, 443, 444, 445, 446, 447, -1, 449, 450, 451, 452, -3, -1, -1, -3, -1, -3, -3])), (452, .inr (0, 8)), (451, .inr (0, 8)), (450, .inr (0, 8)), (449, .inr (0, 8)), (447, .inr (0, 12)), (446, .inr (0, 12)), (445, .inr (0, 12)), (444, .inr (0, 12)), (443, .inr (0, 12))] Z) rfl (by decide) zf_X7_11 zkf_X7_36 (by decide) dX7_init_73 rfl rfl (fun _ => ⟨rfl, rfl⟩) (zLs_set _ _ _ _) ?_
  refine zV_aload_n 0 dX7_init_76 rfl rfl ?_
  refine zV_bipush (v := 8) dX7_init_77 rfl ?_
  refine zV_newa (kc := 3) (ks := 1015) (i := 453) (k := 8) (t := 0) rfl (by decide) zka_int (by decide) (hfr 453 (by decide)) (by decide) dX7_init_79 ?_
  refine zV_Z (zLs_add _ _ _ _) ?_
  refine zV_putS (i := 440) (j := 453) (ci := 7) (ksl := [-1, -1, 443, 444, 445, 446, 447, -1, 449, 450, 451, 452, -3, -1, -1, -3, -1, -3, -3]) (Z' := zLs [(440, .inl (7, [-1, -1, 443, 444, 445, 446, 447, -1, 449, 450, 451, 452, 453, -1, -1, -3, -1, -3, -3])), (453, .inr (0, 8)), (452, .inr (0, 8)), (451, .inr (0, 8)), (450, .inr (0, 8)), (449, .inr (0, 8)), (447, .inr (0, 12)), (446, .inr (0, 12)), (445, .inr (0, 12)), (444, .inr (0, 12)), (443, .inr (0, 12))] Z) rfl (by decide) zf_X7_12 zkf_X7_39 (by decide) dX7_init_81 rfl rfl (fun _ => ⟨rfl, rfl⟩) (zLs_set _ _ _ _) ?_
  refine zV_aload_n 0 dX7_init_84 rfl rfl ?_
  refine zV_sipush (v := 1000) dX7_init_85 rfl ?_
  refine zV_newa (kc := 2) (ks := 15) (i := 456) (k := 1000) (t := 0) rfl (by decide) zka_int (by decide) (hfr 456 (by decide)) (by decide) dX7_init_88 ?_
  refine zV_Z (zLs_add _ _ _ _) ?_
  refine zV_putS (i := 440) (j := 456) (ci := 7) (ksl := [-1, -1, 443, 444, 445, 446, 447, -1, 449, 450, 451, 452, 453, -1, -1, -3, -1, -3, -3]) (Z' := zLs ((440, .inl (7, [-1, -1, 443, 444, 445, 446, 447, -1, 449, 450, 451, 452, 453, -1, -1, 456, -1, -3, -3])) :: (456, .inr (0, 1000)) :: (453, .inr (0, 8)) :: (452, .inr (0, 8)) :: (451, .inr (0, 8)) :: (450, .inr (0, 8)) :: (449, .inr (0, 8)) :: (447, .inr (0, 12)) :: (446, .inr (0, 12)) :: (445, .inr (0, 12)) :: (444, .inr (0, 12)) :: (443, .inr (0, 12)) :: []) Z) rfl (by decide) zf_X7_15 zkf_X7_42 (by decide) dX7_init_90 rfl rfl (fun _ => ⟨rfl, rfl⟩) (zLs_set _ _ _ _) ?_
  refine zV_aload_n 0 dX7_init_93 rfl rfl ?_
  refine zV_iconst (v := 4) dX7_init_94 rfl ?_
  refine zV_newa (kc := 1) (ks := 11) (i := 458) (k := 4) (t := 0) rfl (by decide) zka_int (by decide) (hfr 458 (by decide)) (by decide) dX7_init_95 ?_
  refine zV_Z (zLs_add _ _ _ _) ?_
  refine zV_putS (i := 440) (j := 458) (ci := 7) (ksl := [-1, -1, 443, 444, 445, 446, 447, -1, 449, 450, 451, 452, 453, -1, -1, 456, -1, -3, -3]) (Z' := zLs ((440, .inl (7, [-1, -1, 443, 444, 445, 446, 447, -1, 449, 450, 451, 452, 453, -1, -1, 456, -1, 458, -3])) :: (458, .inr (0, 4)) :: (456, .inr (0, 1000)) :: (453, .inr (0, 8)) :: (452, .inr (0, 8)) :: (451, .inr (0, 8)) :: (450, .inr (0, 8)) :: (449, .inr (0, 8)) :: (447, .inr (0, 12)) :: (446, .inr (0, 12)) :: (445, .inr (0, 12)) :: (444, .inr (0, 12)) :: (443, .inr (0, 12)) :: []) Z) rfl (by decide) zf_X7_17 zkf_X7_45 (by decide) dX7_init_97 rfl rfl (fun _ => ⟨rfl, rfl⟩) (zLs_set _ _ _ _) ?_
  refine zV_aload_n 0 dX7_init_100 rfl rfl ?_
  refine zV_gets (i := 1000) zgs_X7_48 (by decide) (show (Z 1000).isSome = true by rw [hU]; rfl) dX7_init_101 ?_
  refine zV_clone (kc := 0) (ks := 0) (i := 459) zcw_clone zcw_cast (show Z 1000 = _ from hU) (by decide) (hfr 459 (by decide)) dX7_init_104 dX7_init_107 (by omega) (Nat.le_of_ble_eq_true rfl) ?_
  refine zV_Z (zLs_add _ _ _ _) ?_
  refine zV_putS (i := 440) (j := 459) (ci := 7) (ksl := [-1, -1, 443, 444, 445, 446, 447, -1, 449, 450, 451, 452, 453, -1, -1, 456, -1, 458, -3]) (Z' := zLs ((440, .inl (7, [-1, -1, 443, 444, 445, 446, 447, -1, 449, 450, 451, 452, 453, -1, -1, 456, -1, 458, 459])) :: (459, .inr (0, 11)) :: (458, .inr (0, 4)) :: (456, .inr (0, 1000)) :: (453, .inr (0, 8)) :: (452, .inr (0, 8)) :: (451, .inr (0, 8)) :: (450, .inr (0, 8)) :: (449, .inr (0, 8)) :: (447, .inr (0, 12)) :: (446, .inr (0, 12)) :: (445, .inr (0, 12)) :: (444, .inr (0, 12)) :: (443, .inr (0, 12)) :: []) Z) rfl (by decide) zf_X7_18 zkf_X7_56 (by decide) dX7_init_110 rfl rfl (fun _ => ⟨rfl, rfl⟩) (zLs_set _ _ _ _) ?_
  exact zV_vret dX7_init_113 rfl h
def zmI_X5_520 (M : zMem) : zMem := (zfr (zfr (zfr (zfr (zfr M 522 0) 523 0) 524 0) 525 0) 526 0)
set_option maxRecDepth 100000 in
set_option maxHeartbeats 4000000 in
theorem zcI_X5_520 {Z : zZ} (hfr : ∀ i ∈ (522 :: 523 :: 524 :: 525 :: 526 :: [] : List Nat), Z i = none) {n : Nat} (hn : 1 ≤ n) {M : zMem} {Q : Option zAV → zMem → zZ → Prop} (h : Q none (zmI_X5_520 M) (zLs [(520, .inl (5, [-1, 522, 523, 524, 525, 526])), (526, .inr (0, 24)), (525, .inr (0, 24)), (524, .inr (0, 24)), (523, .inr (0, 24)), (522, .inr (0, 24))] Z)) : zV zmX5_init n 5 120 (zLs [(520, .inl (5, [-1, -3, -3, -3, -3, -3]))] Z) 0 [(0, zR 520)] [] M Q := by
  unfold zmI_X5_520 at h
  refine zV_aload_n 0 dX5_init_0 rfl rfl ?_
  refine zV_objI zoi_X5 dX5_init_1 (by omega) (Nat.le_of_ble_eq_true rfl) ?_
  refine zV_aload_n 0 dX5_init_4 rfl rfl ?_
  refine zV_bipush (v := 24) dX5_init_5 rfl ?_
  refine zV_newa (kc := 4) (ks := 96) (i := 522) (k := 24) (t := 0) rfl (by decide) zka_int (by decide) (hfr 522 (by decide)) (by decide) dX5_init_7 ?_
  refine zV_Z (zLs_add _ _ _ _) ?_
  refine zV_putS (i := 520) (j := 522) (ci := 5) (ksl := [-1, -3, -3, -3, -3, -3]) (Z' := zLs [(520, .inl (5, [-1, 522, -3, -3, -3, -3])), (522, .inr (0, 24))] Z) rfl (by decide) zf_X5_1 zkf_X5_9 (by decide) dX5_init_9 rfl rfl (fun _ => ⟨rfl, rfl⟩) (zLs_set _ _ _ _) ?_
  refine zV_aload_n 0 dX5_init_12 rfl rfl ?_
  refine zV_bipush (v := 24) dX5_init_13 rfl ?_
  refine zV_newa (kc := 3) (ks := 72) (i := 523) (k := 24) (t := 0) rfl (by decide) zka_int (by decide) (hfr 523 (by decide)) (by decide) dX5_init_15 ?_
  refine zV_Z (zLs_add _ _ _ _) ?_
  refine zV_putS (i := 520) (j := 523) (ci := 5) (ksl := [-1, 522, -3, -3, -3, -3]) (Z' := zLs [(520, .inl (5, [-1, 522, 523, -3, -3, -3])), (523, .inr (0, 24)), (522, .inr (0, 24))] Z) rfl (by decide) zf_X5_2 zkf_X5_15 (by decide) dX5_init_17 rfl rfl (fun _ => ⟨rfl, rfl⟩) (zLs_set _ _ _ _) ?_
  refine zV_aload_n 0 dX5_init_20 rfl rfl ?_
  refine zV_bipush (v := 24) dX5_init_21 rfl ?_
  refine zV_newa (kc := 2) (ks := 48) (i := 524) (k := 24) (t := 0) rfl (by decide) zka_int (by decide) (hfr 524 (by decide)) (by decide) dX5_init_23 ?_
  refine zV_Z (zLs_add _ _ _ _) ?_
  refine zV_putS (i := 520) (j := 524) (ci := 5) (ksl := [-1, 522, 523, -3, -3, -3]) (Z' := zLs [(520, .inl (5, [-1, 522, 523, 524, -3, -3])), (524, .inr (0, 24)), (523, .inr (0, 24)), (522, .inr (0, 24))] Z) rfl (by decide) zf_X5_3 zkf_X5_18 (by decide) dX5_init_25 rfl rfl (fun _ => ⟨rfl, rfl⟩) (zLs_set _ _ _ _) ?_
  refine zV_aload_n 0 dX5_init_28 rfl rfl ?_
  refine zV_bipush (v := 24) dX5_init_29 rfl ?_
  refine zV_newa (kc := 1) (ks := 24) (i := 525) (k := 24) (t := 0) rfl (by decide) zka_int (by decide) (hfr 525 (by decide)) (by decide) dX5_init_31 ?_
  refine zV_Z (zLs_add _ _ _ _) ?_
  refine zV_putS (i := 520) (j := 525) (ci := 5) (ksl := [-1, 522, 523, 524, -3, -3]) (Z' := zLs [(520, .inl (5, [-1, 522, 523, 524, 525, -3])), (525, .inr (0, 24)), (524, .inr (0, 24)), (523, .inr (0, 24)), (522, .inr (0, 24))] Z) rfl (by decide) zf_X5_4 zkf_X5_21 (by decide) dX5_init_33 rfl rfl (fun _ => ⟨rfl, rfl⟩) (zLs_set _ _ _ _) ?_
  refine zV_aload_n 0 dX5_init_36 rfl rfl ?_
  refine zV_bipush (v := 24) dX5_init_37 rfl ?_
  refine zV_newa (kc := 0) (ks := 0) (i := 526) (k := 24) (t := 0) rfl (by decide) zka_int (by decide) (hfr 526 (by decide)) (by decide) dX5_init_39 ?_
  refine zV_Z (zLs_add _ _ _ _) ?_
  refine zV_putS (i := 520) (j := 526) (ci := 5) (ksl := [-1, 522, 523, 524, 525, -3]) (Z' := zLs [(520, .inl (5, [-1, 522, 523, 524, 525, 526])), (526, .inr (0, 24)), (525, .inr (0, 24)), (524, .inr (0, 24)), (523, .inr (0, 24)), (522, .inr (0, 24))] Z) rfl (by decide) zf_X5_5 zkf_X5_24 (by decide) dX5_init_41 rfl rfl (fun _ => ⟨rfl, rfl⟩) (zLs_set _ _ _ _) ?_
  exact zV_vret dX5_init_44 rfl h
def zmI_X7_460 (M : zMem) : zMem := (zcl (zfr (zfr (zfr (zfr (zfr (zfr (zfr (zfr (zfr (zfr (zfr (zfr M 463 0) 464 0) 465 0) 466 0) 467 0) 469 0) 470 0) 471 0) 472 0) 473 0) 476 0) 478 0) 479)
set_option maxRecDepth 100000 in
set_option maxHeartbeats 4000000 in
theorem zcI_X7_460 {Z : zZ} (hfr : ∀ i ∈ (463 :: 464 :: 465 :: 466 :: 467 :: 469 :: 470 :: 471 :: 472 :: 473 :: 476 :: 478 :: 479 :: [] : List Nat), Z i = none) (hU : Z 1000 = some (.inr (0, 11))) {n : Nat} (hn : 1 ≤ n) {M : zMem} {Q : Option zAV → zMem → zZ → Prop} (h : Q none (zmI_X7_460 M) (zLs ((460, .inl (7, [-1, -1, 463, 464, 465, 466, 467, -1, 469, 470, 471, 472, 473, -1, -1, 476, -1, 478, 479])) :: (479, .inr (0, 11)) :: (478, .inr (0, 4)) :: (476, .inr (0, 1000)) :: (473, .inr (0, 8)) :: (472, .inr (0, 8)) :: (471, .inr (0, 8)) :: (470, .inr (0, 8)) :: (469, .inr (0, 8)) :: (467, .inr (0, 12)) :: (466, .inr (0, 12)) :: (465, .inr (0, 12)) :: (464, .inr (0, 12)) :: (463, .inr (0, 12)) :: []) Z)) : zV zmX7_init n 13 1115 (zLs [(460, .inl (7, [-1, -1, -3, -3, -3, -3, -3, -1, -3, -3, -3, -3, -3, -1, -1, -3, -1, -3, -3]))] Z) 0 [(0, zR 460)] [] M Q := by
  unfold zmI_X7_460 at h
  refine zV_aload_n 0 dX7_init_0 rfl rfl ?_
  refine zV_objI zoi_X7 dX7_init_1 (by omega) (Nat.le_of_ble_eq_true rfl) ?_
  refine zV_aload_n 0 dX7_init_4 rfl rfl ?_
  refine zV_bipush (v := 12) dX7_init_5 rfl ?_
  refine zV_newa (kc := 12) (ks := 1103) (i := 463) (k := 12) (t := 0) rfl (by decide) zka_int (by decide) (hfr 463 (by decide)) (by decide) dX7_init_7 ?_
  refine zV_Z (zLs_add _ _ _ _) ?_
  refine zV_putS (i := 460) (j := 463) (ci := 7) (ksl := [-1, -1, -3, -3, -3, -3, -3, -1, -3, -3, -3, -3, -3, -1, -1, -3, -1, -3, -3]) (Z' := zLs [(460, .inl (7, [-1, -1, 463, -3, -3, -3, -3, -1, -3, -3, -3, -3, -3, -1, -1, -3, -1, -3, -3])), (463, .inr (0, 12))] Z) rfl (by decide) zf_X7_2 zkf_X7_9 (by decide) dX7_init_9 rfl rfl (fun _ => ⟨rfl, rfl⟩) (zLs_set _ _ _ _) ?_
  refine zV_aload_n 0 dX7_init_12 rfl rfl ?_
  refine zV_bipush (v := 12) dX7_init_13 rfl ?_
  refine zV_newa (kc := 11) (ks := 1091) (i := 464) (k := 12) (t := 0) rfl (by decide) zka_int (by decide) (hfr 464 (by decide)) (by decide) dX7_init_15 ?_
  refine zV_Z (zLs_add _ _ _ _) ?_
  refine zV_putS (i := 460) (j := 464) (ci := 7) (ksl := [-1, -1, 463, -3, -3, -3, -3, -1, -3, -3, -3, -3, -3, -1, -1, -3, -1, -3, -3]) (Z' := zLs [(460, .inl (7, [-1, -1, 463, 464, -3, -3, -3, -1, -3, -3, -3, -3, -3, -1, -1, -3, -1, -3, -3])), (464, .inr (0, 12)), (463, .inr (0, 12))] Z) rfl (by decide) zf_X7_3 zkf_X7_15 (by decide) dX7_init_17 rfl rfl (fun _ => ⟨rfl, rfl⟩) (zLs_set _ _ _ _) ?_
  refine zV_aload_n 0 dX7_init_20 rfl rfl ?_
  refine zV_bipush (v := 12) dX7_init_21 rfl ?_
  refine zV_newa (kc := 10) (ks := 1079) (i := 465) (k := 12) (t := 0) rfl (by decide) zka_int (by decide) (hfr 465 (by decide)) (by decide) dX7_init_23 ?_
  refine zV_Z (zLs_add _ _ _ _) ?_
  refine zV_putS (i := 460) (j := 465) (ci := 7) (ksl := [-1, -1, 463, 464, -3, -3, -3, -1, -3, -3, -3, -3, -3, -1, -1, -3, -1, -3, -3]) (Z' := zLs [(460, .inl (7, [-1, -1, 463, 464, 465, -3, -3, -1, -3, -3, -3, -3, -3, -1, -1, -3, -1, -3, -3])), (465, .inr (0, 12)), (464, .inr (0, 12)), (463, .inr (0, 12))] Z) rfl (by decide) zf_X7_4 zkf_X7_18 (by decide) dX7_init_25 rfl rfl (fun _ => ⟨rfl, rfl⟩) (zLs_set _ _ _ _) ?_
  refine zV_aload_n 0 dX7_init_28 rfl rfl ?_
  refine zV_bipush (v := 12) dX7_init_29 rfl ?_
  refine zV_newa (kc := 9) (ks := 1067) (i := 466) (k := 12) (t := 0) rfl (by decide) zka_int (by decide) (hfr 466 (by decide)) (by decide) dX7_init_31 ?_
  refine zV_Z (zLs_add _ _ _ _) ?_
  refine zV_putS (i := 460) (j := 466) (ci := 7) (ksl := [-1, -1, 463, 464, 465, -3, -3, -1, -3, -3, -3, -3, -3, -1, -1, -3, -1, -3, -3]) (Z' := zLs [(460, .inl (7, [-1, -1, 463, 464, 465, 466, -3, -1, -3, -3, -3, -3, -3, -1, -1, -3, -1, -3, -3])), (466, .inr (0, 12)), (465, .inr (0, 12)), (464, .inr (0, 12)), (463, .inr (0, 12))] Z) rfl (by decide) zf_X7_5 zkf_X7_21 (by decide) dX7_init_33 rfl rfl (fun _ => ⟨rfl, rfl⟩) (zLs_set _ _ _ _) ?_
  refine zV_aload_n 0 dX7_init_36 rfl rfl ?_
  refine zV_bipush (v := 12) dX7_init_37 rfl ?_
  refine zV_newa (kc := 8) (ks := 1055) (i := 467) (k := 12) (t := 0) rfl (by decide) zka_int (by decide) (hfr 467 (by decide)) (by decide) dX7_init_39 ?_
  refine zV_Z (zLs_add _ _ _ _) ?_
  refine zV_putS (i := 460) (j := 467) (ci := 7) (ksl := [-1, -1, 463, 464, 465, 466, -3, -1, -3, -3, -3, -3, -3, -1, -1, -3, -1, -3, -3]) (Z' := zLs [(460, .inl (7, [-1, -1, 463, 464, 465, 466, 467, -1, -3, -3, -3, -3, -3, -1, -1, -3, -1, -3, -3])), (467, .inr (0, 12)), (466, .inr (0, 12)), (465, .inr (0, 12)), (464, .inr (0, 12)), (463, .inr (0, 12))] Z) rfl (by decide) zf_X7_6 zkf_X7_24 (by decide) dX7_init_41 rfl rfl (fun _ => ⟨rfl, rfl⟩) (zLs_set _ _ _ _) ?_
  refine zV_aload_n 0 dX7_init_44 rfl rfl ?_
  refine zV_bipush (v := 8) dX7_init_45 rfl ?_
  refine zV_newa (kc := 7) (ks := 1047) (i := 469) (k := 8) (t := 0) rfl (by decide) zka_int (by decide) (hfr 469 (by decide)) (by decide) dX7_init_47 ?_
  refine zV_Z (zLs_add _ _ _ _) ?_
  refine zV_putS (i := 460) (j := 469) (ci := 7) (ksl := [-1, -1, 463, 464, 465, 466, 467, -1, -3, -3, -3, -3, -3, -1, -1, -3, -1, -3, -3]) (Z' := zLs [(460, .inl (7, [-1, -1, 463, 464, 465, 466, 467, -1, 469, -3, -3, -3, -3, -1, -1, -3, -1, -3, -3])), (469, .inr (0, 8)), (467, .inr (0, 12)), (466, .inr (0, 12)), (465, .inr (0, 12)), (464, .inr (0, 12)), (463, .inr (0, 12))] Z) rfl (by decide) zf_X7_8 zkf_X7_27 (by decide) dX7_init_49 rfl rfl (fun _ => ⟨rfl, rfl⟩) (zLs_set _ _ _ _) ?_
  refine zV_aload_n 0 dX7_init_52 rfl rfl ?_
  refine zV_bipush (v := 8) dX7_init_53 rfl ?_
  refine zV_newa (kc := 6) (ks := 1039) (i := 470) (k := 8) (t := 0) rfl (by decide) zka_int (by decide) (hfr 470 (by decide)) (by decide) dX7_init_55 ?_
  refine zV_Z (zLs_add _ _ _ _) ?_
  refine zV_putS (i := 460) (j := 470) (ci := 7) (ksl := [-1, -1, 463, 464, 465, 466, 467, -1, 469, -3, -3, -3, -3, -1, -1, -3, -1, -3, -3]) (Z' := zLs [(460, .inl (7, [-1, -1, 463, 464, 465, 466, 467, -1, 469, 470, -3, -3, -3, -1, -1, -3, -1, -3, -3])), (470, .inr (0, 8)), (469, .inr (0, 8)), (467, .inr (0, 12)), (466, .inr (0, 12)), (465, .inr (0, 12)), (464, .inr (0, 12)), (463, .inr (0, 12))] Z) rfl (by decide) zf_X7_9 zkf_X7_30 (by decide) dX7_init_57 rfl rfl (fun _ => ⟨rfl, rfl⟩) (zLs_set _ _ _ _) ?_
  refine zV_aload_n 0 dX7_init_60 rfl rfl ?_
  refine zV_bipush (v := 8) dX7_init_61 rfl ?_
  refine zV_newa (kc := 5) (ks := 1031) (i := 471) (k := 8) (t := 0) rfl (by decide) zka_int (by decide) (hfr 471 (by decide)) (by decide) dX7_init_63 ?_
  refine zV_Z (zLs_add _ _ _ _) ?_
  refine zV_putS (i := 460) (j := 471) (ci := 7) (ksl := [-1, -1, 463, 464, 465, 466, 467, -1, 469, 470, -3, -3, -3, -1, -1, -3, -1, -3, -3]) (Z' := zLs [(460, .inl (7, [-1, -1, 463, 464, 465, 466, 467, -1, 469, 470, 471, -3, -3, -1, -1, -3, -1, -3, -3])), (471, .inr (0, 8)), (470, .inr (0, 8)), (469, .inr (0, 8)), (467, .inr (0, 12)), (466, .inr (0, 12)), (465, .inr (0, 12)), (464, .inr (0, 12)), (463, .inr (0, 12))] Z) rfl (by decide) zf_X7_10 zkf_X7_33 (by decide) dX7_init_65 rfl rfl (fun _ => ⟨rfl, rfl⟩) (zLs_set _ _ _ _) ?_
  refine zV_aload_n 0 dX7_init_68 rfl rfl ?_
  refine zV_bipush (v := 8) dX7_init_69 rfl ?_
  refine zV_newa (kc := 4) (ks := 1023) (i := 472) (k := 8) (t := 0) rfl (by decide) zka_int (by decide) (hfr 472 (by decide)) (by decide) dX7_init_71 ?_
  refine zV_Z (zLs_add _ _ _ _) ?_
  refine zV_putS (i := 460) (j := 472) (ci := 7) (ksl := [-1, -1, 463, 464, 465, 466, 467, -1, 469, 470, 471, -3, -3, -1, -1, -3, -1, -3, -3]) (Z' := zLs [(460, .inl (7, [-1, -1, 463, 464, 465, 466, 467, -1, 469, 470, 471, 472, -3, -1, -1, -3, -1, -3, -3])), (472, .inr (0, 8)), (471, .inr (0, 8)), (470, .inr (0, 8)), (469, .inr (0, 8)), (467, .inr (0, 12)), (466, .inr (0, 12)), (465, .inr (0, 12)), (464, .inr (0, 12)), (463, .inr (0, 12))] Z) rfl (by decide) zf_X7_11 zkf_X7_36 (by decide) dX7_init_73 rfl rfl (fun _ => ⟨rfl, rfl⟩) (zLs_set _ _ _ _) ?_
  refine zV_aload_n 0 dX7_init_76 rfl rfl ?_
  refine zV_bipush (v := 8) dX7_init_77 rfl ?_
  refine zV_newa (kc := 3) (ks := 1015) (i := 473) (k := 8) (t := 0) rfl (by decide) zka_int (by decide) (hfr 473 (by decide)) (by decide) dX7_init_79 ?_
  refine zV_Z (zLs_add _ _ _ _) ?_
  refine zV_putS (i := 460) (j := 473) (ci := 7) (ksl := [-1, -1, 463, 464, 465, 466, 467, -1, 469, 470, 471, 472, -3, -1, -1, -3, -1, -3, -3]) (Z' := zLs [(460, .inl (7, [-1, -1, 463, 464, 465, 466, 467, -1, 469, 470, 471, 472, 473, -1, -1, -3, -1, -3, -3])), (473, .inr (0, 8)), (472, .inr (0, 8)), (471, .inr (0, 8)), (470, .inr (0, 8)), (469, .inr (0, 8)), (467, .inr (0, 12)), (466, .inr (0, 12)), (465, .inr (0, 12)), (464, .inr (0, 12)), (463, .inr (0, 12))] Z) rfl (by decide) zf_X7_12 zkf_X7_39 (by decide) dX7_init_81 rfl rfl (fun _ => ⟨rfl, rfl⟩) (zLs_set _ _ _ _) ?_
  refine zV_aload_n 0 dX7_init_84 rfl rfl ?_
  refine zV_sipush (v := 1000) dX7_init_85 rfl ?_
  refine zV_newa (kc := 2) (ks := 15) (i := 476) (k := 1000) (t := 0) rfl (by decide) zka_int (by decide) (hfr 476 (by decide)) (by decide) dX7_init_88 ?_
  refine zV_Z (zLs_add _ _ _ _) ?_
  refine zV_putS (i := 460) (j := 476) (ci := 7) (ksl := [-1, -1, 463, 464, 465, 466, 467, -1, 469, 470, 471, 472, 473, -1, -1, -3, -1, -3, -3]) (Z' := zLs ((460, .inl (7, [-1, -1, 463, 464, 465, 466, 467, -1, 469, 470, 471, 472, 473, -1, -1, 476, -1, -3, -3])) :: (476, .inr (0, 1000)) :: (473, .inr (0, 8)) :: (472, .inr (0, 8)) :: (471, .inr (0, 8)) :: (470, .inr (0, 8)) :: (469, .inr (0, 8)) :: (467, .inr (0, 12)) :: (466, .inr (0, 12)) :: (465, .inr (0, 12)) :: (464, .inr (0, 12)) :: (463, .inr (0, 12)) :: []) Z) rfl (by decide) zf_X7_15 zkf_X7_42 (by decide) dX7_init_90 rfl rfl (fun _ => ⟨rfl, rfl⟩) (zLs_set _ _ _ _) ?_
  refine zV_aload_n 0 dX7_init_93 rfl rfl ?_
  refine zV_iconst (v := 4) dX7_init_94 rfl ?_
  refine zV_newa (kc := 1) (ks := 11) (i := 478) (k := 4) (t := 0) rfl (by decide) zka_int (by decide) (hfr 478 (by decide)) (by decide) dX7_init_95 ?_
  refine zV_Z (zLs_add _ _ _ _) ?_
  refine zV_putS (i := 460) (j := 478) (ci := 7) (ksl := [-1, -1, 463, 464, 465, 466, 467, -1, 469, 470, 471, 472, 473, -1, -1, 476, -1, -3, -3]) (Z' := zLs ((460, .inl (7, [-1, -1, 463, 464, 465, 466, 467, -1, 469, 470, 471, 472, 473, -1, -1, 476, -1, 478, -3])) :: (478, .inr (0, 4)) :: (476, .inr (0, 1000)) :: (473, .inr (0, 8)) :: (472, .inr (0, 8)) :: (471, .inr (0, 8)) :: (470, .inr (0, 8)) :: (469, .inr (0, 8)) :: (467, .inr (0, 12)) :: (466, .inr (0, 12)) :: (465, .inr (0, 12)) :: (464, .inr (0, 12)) :: (463, .inr (0, 12)) :: []) Z) rfl (by decide) zf_X7_17 zkf_X7_45 (by decide) dX7_init_97 rfl rfl (fun _ => ⟨rfl, rfl⟩) (zLs_set _ _ _ _) ?_
  refine zV_aload_n 0 dX7_init_100 rfl rfl ?_
  refine zV_gets (i := 1000) zgs_X7_48 (by decide) (show (Z 1000).isSome = true by rw [hU]; rfl) dX7_init_101 ?_
  refine zV_clone (kc := 0) (ks := 0) (i := 479) zcw_clone zcw_cast (show Z 1000 = _ from hU) (by decide) (hfr 479 (by decide)) dX7_init_104 dX7_init_107 (by omega) (Nat.le_of_ble_eq_true rfl) ?_
  refine zV_Z (zLs_add _ _ _ _) ?_
  refine zV_putS (i := 460) (j := 479) (ci := 7) (ksl := [-1, -1, 463, 464, 465, 466, 467, -1, 469, 470, 471, 472, 473, -1, -1, 476, -1, 478, -3]) (Z' := zLs ((460, .inl (7, [-1, -1, 463, 464, 465, 466, 467, -1, 469, 470, 471, 472, 473, -1, -1, 476, -1, 478, 479])) :: (479, .inr (0, 11)) :: (478, .inr (0, 4)) :: (476, .inr (0, 1000)) :: (473, .inr (0, 8)) :: (472, .inr (0, 8)) :: (471, .inr (0, 8)) :: (470, .inr (0, 8)) :: (469, .inr (0, 8)) :: (467, .inr (0, 12)) :: (466, .inr (0, 12)) :: (465, .inr (0, 12)) :: (464, .inr (0, 12)) :: (463, .inr (0, 12)) :: []) Z) rfl (by decide) zf_X7_18 zkf_X7_56 (by decide) dX7_init_110 rfl rfl (fun _ => ⟨rfl, rfl⟩) (zLs_set _ _ _ _) ?_
  exact zV_vret dX7_init_113 rfl h
def zmI_X5_530 (M : zMem) : zMem := (zfr (zfr (zfr (zfr (zfr M 532 0) 533 0) 534 0) 535 0) 536 0)
set_option maxRecDepth 100000 in
set_option maxHeartbeats 4000000 in
theorem zcI_X5_530 {Z : zZ} (hfr : ∀ i ∈ (532 :: 533 :: 534 :: 535 :: 536 :: [] : List Nat), Z i = none) {n : Nat} (hn : 1 ≤ n) {M : zMem} {Q : Option zAV → zMem → zZ → Prop} (h : Q none (zmI_X5_530 M) (zLs [(530, .inl (5, [-1, 532, 533, 534, 535, 536])), (536, .inr (0, 24)), (535, .inr (0, 24)), (534, .inr (0, 24)), (533, .inr (0, 24)), (532, .inr (0, 24))] Z)) : zV zmX5_init n 5 120 (zLs [(530, .inl (5, [-1, -3, -3, -3, -3, -3]))] Z) 0 [(0, zR 530)] [] M Q := by
  unfold zmI_X5_530 at h
  refine zV_aload_n 0 dX5_init_0 rfl rfl ?_
  refine zV_objI zoi_X5 dX5_init_1 (by omega) (Nat.le_of_ble_eq_true rfl) ?_
  refine zV_aload_n 0 dX5_init_4 rfl rfl ?_
  refine zV_bipush (v := 24) dX5_init_5 rfl ?_
  refine zV_newa (kc := 4) (ks := 96) (i := 532) (k := 24) (t := 0) rfl (by decide) zka_int (by decide) (hfr 532 (by decide)) (by decide) dX5_init_7 ?_
  refine zV_Z (zLs_add _ _ _ _) ?_
  refine zV_putS (i := 530) (j := 532) (ci := 5) (ksl := [-1, -3, -3, -3, -3, -3]) (Z' := zLs [(530, .inl (5, [-1, 532, -3, -3, -3, -3])), (532, .inr (0, 24))] Z) rfl (by decide) zf_X5_1 zkf_X5_9 (by decide) dX5_init_9 rfl rfl (fun _ => ⟨rfl, rfl⟩) (zLs_set _ _ _ _) ?_
  refine zV_aload_n 0 dX5_init_12 rfl rfl ?_
  refine zV_bipush (v := 24) dX5_init_13 rfl ?_
  refine zV_newa (kc := 3) (ks := 72) (i := 533) (k := 24) (t := 0) rfl (by decide) zka_int (by decide) (hfr 533 (by decide)) (by decide) dX5_init_15 ?_
  refine zV_Z (zLs_add _ _ _ _) ?_
  refine zV_putS (i := 530) (j := 533) (ci := 5) (ksl := [-1, 532, -3, -3, -3, -3]) (Z' := zLs [(530, .inl (5, [-1, 532, 533, -3, -3, -3])), (533, .inr (0, 24)), (532, .inr (0, 24))] Z) rfl (by decide) zf_X5_2 zkf_X5_15 (by decide) dX5_init_17 rfl rfl (fun _ => ⟨rfl, rfl⟩) (zLs_set _ _ _ _) ?_
  refine zV_aload_n 0 dX5_init_20 rfl rfl ?_
  refine zV_bipush (v := 24) dX5_init_21 rfl ?_
  refine zV_newa (kc := 2) (ks := 48) (i := 534) (k := 24) (t := 0) rfl (by decide) zka_int (by decide) (hfr 534 (by decide)) (by decide) dX5_init_23 ?_
  refine zV_Z (zLs_add _ _ _ _) ?_
  refine zV_putS (i := 530) (j := 534) (ci := 5) (ksl := [-1, 532, 533, -3, -3, -3]) (Z' := zLs [(530, .inl (5, [-1, 532, 533, 534, -3, -3])), (534, .inr (0, 24)), (533, .inr (0, 24)), (532, .inr (0, 24))] Z) rfl (by decide) zf_X5_3 zkf_X5_18 (by decide) dX5_init_25 rfl rfl (fun _ => ⟨rfl, rfl⟩) (zLs_set _ _ _ _) ?_
  refine zV_aload_n 0 dX5_init_28 rfl rfl ?_
  refine zV_bipush (v := 24) dX5_init_29 rfl ?_
  refine zV_newa (kc := 1) (ks := 24) (i := 535) (k := 24) (t := 0) rfl (by decide) zka_int (by decide) (hfr 535 (by decide)) (by decide) dX5_init_31 ?_
  refine zV_Z (zLs_add _ _ _ _) ?_
  refine zV_putS (i := 530) (j := 535) (ci := 5) (ksl := [-1, 532, 533, 534, -3, -3]) (Z' := zLs [(530, .inl (5, [-1, 532, 533, 534, 535, -3])), (535, .inr (0, 24)), (534, .inr (0, 24)), (533, .inr (0, 24)), (532, .inr (0, 24))] Z) rfl (by decide) zf_X5_4 zkf_X5_21 (by decide) dX5_init_33 rfl rfl (fun _ => ⟨rfl, rfl⟩) (zLs_set _ _ _ _) ?_
  refine zV_aload_n 0 dX5_init_36 rfl rfl ?_
  refine zV_bipush (v := 24) dX5_init_37 rfl ?_
  refine zV_newa (kc := 0) (ks := 0) (i := 536) (k := 24) (t := 0) rfl (by decide) zka_int (by decide) (hfr 536 (by decide)) (by decide) dX5_init_39 ?_
  refine zV_Z (zLs_add _ _ _ _) ?_
  refine zV_putS (i := 530) (j := 536) (ci := 5) (ksl := [-1, 532, 533, 534, 535, -3]) (Z' := zLs [(530, .inl (5, [-1, 532, 533, 534, 535, 536])), (536, .inr (0, 24)), (535, .inr (0, 24)), (534, .inr (0, 24)), (533, .inr (0, 24)), (532, .inr (0, 24))] Z) rfl (by decide) zf_X5_5 zkf_X5_24 (by decide) dX5_init_41 rfl rfl (fun _ => ⟨rfl, rfl⟩) (zLs_set _ _ _ _) ?_
  exact zV_vret dX5_init_44 rfl h
