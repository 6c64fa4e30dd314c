/-! MACHINE ROWS, 81: lay, where nothing is laid -/
section MK1
theorem zuz_ls (Z : zZ) (i : Nat) (h : zSh) : zuz Z i h = zLs [(i, h)] Z := by
  funext a
  show (if a = i then some h else Z a) = match (if a = i then some h else none) with | some h => some h | none => Z a
  by_cases e : a = i
  · rw [if_pos e, if_pos e]
  · rw [if_neg e, if_neg e]
theorem zLs_n {L : List (Nat × zSh)} {Z : zZ} {i : Nat} (h : (zLk L i).isNone = true) : zLs L Z i = Z i := by
  unfold zLs
  cases e : zLk L i with
  | none => rfl
  | some x => rw [e] at h; cases h
theorem zB_ls {L : List (Nat × zSh)} {Z : zZ} (hZ : zB Z) (h : zZl.all (fun q => (zLk L q.1).isNone) = true) : zB (zLs L Z) := fun q hq => by
  rw [zLs_n (List.all_eq_true.mp h q hq)]
  exact hZ q hq
set_option maxRecDepth 100000 in
theorem zno_r_X7_400 (M : zMem) : ∀ k, k < 19 → (([-1, -1, -3, -3, -3, -3, -3, -1, -3, -3, -3, -3, -3, -1, -1, -3, -1, -3, -3] : List Int).getD k (-1) = -1 ∨ ([-1, -1, -3, -3, -3, -3, -3, -1, -3, -3, -3, -3, -3, -1, -1, -3, -1, -3, -3] : List Int).getD k (-1) = -2 ∨ ([-1, -1, -3, -3, -3, -3, -3, -1, -3, -3, -3, -3, -3, -1, -1, -3, -1, -3, -3] : List Int).getD k (-1) = -3) ∧ ∀ ad : Nat → Nat, defaultValue (tyX7 k) = zsv ad (([-1, -1, -3, -3, -3, -3, -3, -1, -3, -3, -3, -3, -3, -1, -1, -3, -1, -3, -3] : List Int).getD k (-1)) (zno M 400 [-1, -1, -3, -3, -3, -3, -3, -1, -3, -3, -3, -3, -3, -1, -1, -3, -1, -3, -3] 400 k) := by
  intro k hk
  rcases (show k = 0 ∨ k = 1 ∨ k = 2 ∨ k = 3 ∨ k = 4 ∨ k = 5 ∨ k = 6 ∨ k = 7 ∨ k = 8 ∨ k = 9 ∨ k = 10 ∨ k = 11 ∨ k = 12 ∨ k = 13 ∨ k = 14 ∨ k = 15 ∨ k = 16 ∨ k = 17 ∨ k = 18 by omega) with rfl | rfl | rfl | rfl | rfl | rfl | rfl | rfl | rfl | rfl | rfl | rfl | rfl | rfl | rfl | rfl | rfl | rfl | rfl <;> exact ⟨by decide, fun _ => rfl⟩
set_option maxRecDepth 100000 in
theorem zno_k_X7_400 (M : zMem) (Z : zZ) : ∀ k : Nat, k < 19 → zkan Z (([-1, -1, -3, -3, -3, -3, -3, -1, -3, -3, -3, -3, -3, -1, -1, -3, -1, -3, -3] : List Int).getD k (-1)) (zno M 400 [-1, -1, -3, -3, -3, -3, -3, -1, -3, -3, -3, -3, -3, -1, -1, -3, -1, -3, -3] 400 k) := by
  intro k hk
  rcases (show k = 0 ∨ k = 1 ∨ k = 2 ∨ k = 3 ∨ k = 4 ∨ k = 5 ∨ k = 6 ∨ k = 7 ∨ k = 8 ∨ k = 9 ∨ k = 10 ∨ k = 11 ∨ k = 12 ∨ k = 13 ∨ k = 14 ∨ k = 15 ∨ k = 16 ∨ k = 17 ∨ k = 18 by omega) with rfl | rfl | rfl | rfl | rfl | rfl | rfl | rfl | rfl | rfl | rfl | rfl | rfl | rfl | rfl | rfl | rfl | rfl | rfl <;> first | exact z32_0 | exact z64_0 | exact Or.inl (show (-1 : Int) < 0 by decide)
set_option maxRecDepth 100000 in
theorem zno_r_X5_500 (M : zMem) : ∀ k, k < 6 → (([-1, -3, -3, -3, -3, -3] : List Int).getD k (-1) = -1 ∨ ([-1, -3, -3, -3, -3, -3] : List Int).getD k (-1) = -2 ∨ ([-1, -3, -3, -3, -3, -3] : List Int).getD k (-1) = -3) ∧ ∀ ad : Nat → Nat, defaultValue (tyX5 k) = zsv ad (([-1, -3, -3, -3, -3, -3] : List Int).getD k (-1)) (zno M 500 [-1, -3, -3, -3, -3, -3] 500 k) := by
  intro k hk
  rcases (show k = 0 ∨ k = 1 ∨ k = 2 ∨ k = 3 ∨ k = 4 ∨ k = 5 by omega) with rfl | rfl | rfl | rfl | rfl | rfl <;> exact ⟨by decide, fun _ => rfl⟩
set_option maxRecDepth 100000 in
theorem zno_k_X5_500 (M : zMem) (Z : zZ) : ∀ k : Nat, k < 6 → zkan Z (([-1, -3, -3, -3, -3, -3] : List Int).getD k (-1)) (zno M 500 [-1, -3, -3, -3, -3, -3] 500 k) := by
  intro k hk
  rcases (show k = 0 ∨ k = 1 ∨ k = 2 ∨ k = 3 ∨ k = 4 ∨ k = 5 by omega) with rfl | rfl | rfl | rfl | rfl | rfl <;> first | exact z32_0 | exact z64_0 | exact Or.inl (show (-1 : Int) < 0 by decide)
/-- mark 0's memory when its Setup and its Piece are made -/
def zlm0 (M : zMem) : zMem := zup (zmI_X5_500 (zno (zup (zmI_X7_400 (zno M 400 [-1, -1, -3, -3, -3, -3, -3, -1, -3, -3, -3, -3, -3, -1, -1, -3, -1, -3, -3])) 6 0 400) 500 [-1, -3, -3, -3, -3, -3])) 7 0 500
def zlz0 (Z : zZ) : zZ := zLs [(500, .inl (5, [-1, 502, 503, 504, 505, 506])), (506, .inr (0, 24)), (505, .inr (0, 24)), (504, .inr (0, 24)), (503, .inr (0, 24)), (502, .inr (0, 24))] (zLs ((400, .inl (7, [-1, -1, 403, 404, 405, 406, 407, -1, 409, 410, 411, 412, 413, -1, -1, 416, -1, 418, 419])) :: (419, .inr (0, 11)) :: (418, .inr (0, 4)) :: (416, .inr (0, 1000)) :: (413, .inr (0, 8)) :: (412, .inr (0, 8)) :: (411, .inr (0, 8)) :: (410, .inr (0, 8)) :: (409, .inr (0, 8)) :: (407, .inr (0, 12)) :: (406, .inr (0, 12)) :: (405, .inr (0, 12)) :: (404, .inr (0, 12)) :: (403, .inr (0, 12)) :: []) Z)
theorem zlz0_B {Z : zZ} (hZ : zB Z) : zB (zlz0 Z) := zB_ls (zB_ls hZ rfl) rfl
theorem zlz0_S {Z : zZ} : zSU (zlz0 Z) 400 := List.forall_mem_cons.mpr ⟨rfl, List.forall_mem_cons.mpr ⟨rfl, List.forall_mem_cons.mpr ⟨rfl, List.forall_mem_cons.mpr ⟨rfl, List.forall_mem_cons.mpr ⟨rfl, List.forall_mem_cons.mpr ⟨rfl, List.forall_mem_cons.mpr ⟨rfl, List.forall_mem_cons.mpr ⟨rfl, List.forall_mem_cons.mpr ⟨rfl, List.forall_mem_cons.mpr ⟨rfl, List.forall_mem_cons.mpr ⟨rfl, List.forall_mem_cons.mpr ⟨rfl, List.forall_mem_cons.mpr ⟨rfl, List.forall_mem_cons.mpr ⟨rfl, fun _ h => nomatch h⟩⟩⟩⟩⟩⟩⟩⟩⟩⟩⟩⟩⟩⟩
theorem zlz0_P {Z : zZ} : zPI (zlz0 Z) 500 := List.forall_mem_cons.mpr ⟨rfl, List.forall_mem_cons.mpr ⟨rfl, List.forall_mem_cons.mpr ⟨rfl, List.forall_mem_cons.mpr ⟨rfl, List.forall_mem_cons.mpr ⟨rfl, List.forall_mem_cons.mpr ⟨rfl, fun _ h => nomatch h⟩⟩⟩⟩⟩⟩
set_option maxRecDepth 100000 in
set_option maxHeartbeats 4000000 in
theorem zla_0 {Z : zZ} (hZ : zB Z) {nn : Nat} (hn : 3 ≤ nn) (h7 : ∀ i ∈ (400 :: 403 :: 404 :: 405 :: 406 :: 407 :: 409 :: 410 :: 411 :: 412 :: 413 :: 416 :: 418 :: 419 :: [] : List Nat), Z i = none) (h5 : ∀ i ∈ (500 :: 502 :: 503 :: 504 :: 505 :: 506 :: [] : List Nat), Z i = none) (hU : Z 1000 = some (.inr (0, 11))) {M : zMem} (h6 : M 6 0 < 0) {Q : Option zAV → zMem → zZ → Prop} (h : zSat (fX11_lay_j44 400 500 0 (zlm0 M)) (fun r => Q (some (zI r.1)) r.2 (zlz0 Z))) : zV zmX11_lay nn 20 1260 Z 0 [(0, zR 0), (1, zI 0)] [] M Q := by
  have hZ1 : zB (zLs ((400, .inl (7, [-1, -1, 403, 404, 405, 406, 407, -1, 409, 410, 411, 412, 413, -1, -1, 416, -1, 418, 419])) :: (419, .inr (0, 11)) :: (418, .inr (0, 4)) :: (416, .inr (0, 1000)) :: (413, .inr (0, 8)) :: (412, .inr (0, 8)) :: (411, .inr (0, 8)) :: (410, .inr (0, 8)) :: (409, .inr (0, 8)) :: (407, .inr (0, 12)) :: (406, .inr (0, 12)) :: (405, .inr (0, 12)) :: (404, .inr (0, 12)) :: (403, .inr (0, 12)) :: []) Z) := zB_ls hZ rfl
  refine zV_aload_n 0 dX11_lay_0 rfl rfl ?_
  refine zV_getR (j := 6) (zq_0 hZ) zf_X11_5 zkf_X11_42 rfl dX11_lay_1 ?_
  refine zV_iload_n 1 dX11_lay_4 rfl rfl ?_
  refine zV_aaldN (zq_6 hZ) (Or.inl rfl) (by decide) h6 dX11_lay_5 ?_
  refine zV_nuN 18 dX11_lay_6 (by decide) ?_
  refine zV_aload_n 0 dX11_lay_18 rfl rfl ?_
  refine zV_getR (j := 6) (zq_0 hZ) zf_X11_5 zkf_X11_42 rfl dX11_lay_19 ?_
  refine zV_iload_n 1 dX11_lay_22 rfl rfl ?_
  refine zV_newo (kc := 19) (ks := 1241) (i := 400) (ci := 7) (N := 19) (raw := [-1, -1, -3, -3, -3, -3, -3, -1, -3, -3, -3, -3, -3, -1, -1, -3, -1, -3, -3]) (M' := zno M 400 [-1, -1, -3, -3, -3, -3, -3, -1, -3, -3, -3, -3, -3, -1, -1, -3, -1, -3, -3]) rfl zinX7 tyX7_ok zkx_X11_16 zkb_X7 zki_X7 (by decide) (h7 400 (by decide)) rfl (zno_r_X7_400 _) (zno_k_X7_400 _ _) (fun a b h => zno_ne h) dX11_lay_23 ?_
  refine zV_Z (zuz_ls _ _ _) ?_
  refine zV_dup dX11_lay_26 rfl ?_
  refine zV_callN (kc := 6) (ks := 126) (mc := 13) (ms := 1115) (n' := 1) (As := []) (Q' := fun r M1 Z1 => r = none ∧ M1 = zmI_X7_400 (zno M 400 [-1, -1, -3, -3, -3, -3, -3, -1, -3, -3, -3, -3, -3, -1, -1, -3, -1, -3, -3]) ∧ Z1 = zLs ((400, .inl (7, [-1, -1, 403, 404, 405, 406, 407, -1, 409, 410, 411, 412, 413, -1, -1, 416, -1, 418, 419])) :: (419, .inr (0, 11)) :: (418, .inr (0, 4)) :: (416, .inr (0, 1000)) :: (413, .inr (0, 8)) :: (412, .inr (0, 8)) :: (411, .inr (0, 8)) :: (410, .inr (0, 8)) :: (409, .inr (0, 8)) :: (407, .inr (0, 12)) :: (406, .inr (0, 12)) :: (405, .inr (0, 12)) :: (404, .inr (0, 12)) :: (403, .inr (0, 12)) :: []) Z) zc_X11_18 dX11_lay_27 (by omega) rfl (Nat.le_of_ble_eq_true rfl) (Nat.le_of_ble_eq_true rfl) rfl (zcI_X7_400 (Z := Z) (fun i hi => h7 i (List.mem_cons_of_mem _ hi)) hU (Nat.le_refl _) ⟨rfl, rfl, rfl⟩) ?_
  rintro _ _ _ _ ⟨rfl, rfl, rfl⟩
  refine zV_aast (i := 6) (t := 4) (n0 := 4) (c := 400) (ci := 7) (zq_6 hZ1) (Or.inl rfl) (by decide) (by decide) rfl rfl rfl dX11_lay_30 ?_
  refine zV_aload_n 0 dX11_lay_31 rfl rfl ?_
  refine zV_getR (j := 7) (zq_0 hZ1) zf_X11_6 zkf_X11_46 rfl dX11_lay_32 ?_
  refine zV_iload_n 1 dX11_lay_35 rfl rfl ?_
  refine zV_newo (kc := 5) (ks := 120) (i := 500) (ci := 5) (N := 6) (raw := [-1, -3, -3, -3, -3, -3]) (M' := zno (zup (zmI_X7_400 (zno M 400 [-1, -1, -3, -3, -3, -3, -3, -1, -3, -3, -3, -3, -3, -1, -1, -3, -1, -3, -3])) 6 0 400) 500 [-1, -3, -3, -3, -3, -3]) rfl zinX5 tyX5_ok zkx_X11_35 zkb_X5 zki_X5 (by decide) (by rw [zLs_n rfl]; exact h5 500 (by decide)) rfl (zno_r_X5_500 _) (zno_k_X5_500 _ _) (fun a b h => zno_ne h) dX11_lay_36 ?_
  refine zV_Z (zuz_ls _ _ _) ?_
  refine zV_dup dX11_lay_39 rfl ?_
  refine zV_callN (kc := 0) (ks := 0) (mc := 5) (ms := 120) (n' := 1) (As := []) (Q' := fun r M1 Z1 => r = none ∧ M1 = zmI_X5_500 (zno (zup (zmI_X7_400 (zno M 400 [-1, -1, -3, -3, -3, -3, -3, -1, -3, -3, -3, -3, -3, -1, -1, -3, -1, -3, -3])) 6 0 400) 500 [-1, -3, -3, -3, -3, -3]) ∧ Z1 = zLs [(500, .inl (5, [-1, 502, 503, 504, 505, 506])), (506, .inr (0, 24)), (505, .inr (0, 24)), (504, .inr (0, 24)), (503, .inr (0, 24)), (502, .inr (0, 24))] (zLs ((400, .inl (7, [-1, -1, 403, 404, 405, 406, 407, -1, 409, 410, 411, 412, 413, -1, -1, 416, -1, 418, 419])) :: (419, .inr (0, 11)) :: (418, .inr (0, 4)) :: (416, .inr (0, 1000)) :: (413, .inr (0, 8)) :: (412, .inr (0, 8)) :: (411, .inr (0, 8)) :: (410, .inr (0, 8)) :: (409, .inr (0, 8)) :: (407, .inr (0, 12)) :: (406, .inr (0, 12)) :: (405, .inr (0, 12)) :: (404, .inr (0, 12)) :: (403, .inr (0, 12)) :: []) Z)) zc_X11_37 dX11_lay_40 (by omega) rfl (Nat.le_of_ble_eq_true rfl) (Nat.le_of_ble_eq_true rfl) rfl (zcI_X5_500 (Z := zLs ((400, .inl (7, [-1, -1, 403, 404, 405, 406, 407, -1, 409, 410, 411, 412, 413, -1, -1, 416, -1, 418, 419])) :: (419, .inr (0, 11)) :: (418, .inr (0, 4)) :: (416, .inr (0, 1000)) :: (413, .inr (0, 8)) :: (412, .inr (0, 8)) :: (411, .inr (0, 8)) :: (410, .inr (0, 8)) :: (409, .inr (0, 8)) :: (407, .inr (0, 12)) :: (406, .inr (0, 12)) :: (405, .inr (0, 12)) :: (404, .inr (0, 12)) :: (403, .inr (0, 12)) :: []) Z) (List.forall_mem_cons.mpr ⟨(by rw [zLs_n rfl]; exact h5 502 (by decide)), List.forall_mem_cons.mpr ⟨(by rw [zLs_n rfl]; exact h5 503 (by decide)), List.forall_mem_cons.mpr ⟨(by rw [zLs_n rfl]; exact h5 504 (by decide)), List.forall_mem_cons.mpr ⟨(by rw [zLs_n rfl]; exact h5 505 (by decide)), List.forall_mem_cons.mpr ⟨(by rw [zLs_n rfl]; exact h5 506 (by decide)), fun _ h => nomatch h⟩⟩⟩⟩⟩) (Nat.le_refl _) ⟨rfl, rfl, rfl⟩) ?_
  rintro _ _ _ _ ⟨rfl, rfl, rfl⟩
  refine zV_aast (i := 7) (t := 5) (n0 := 4) (c := 500) (ci := 5) (zq_7 (zlz0_B hZ)) (Or.inr rfl) (by decide) (by decide) rfl rfl rfl dX11_lay_43 ?_
  exact fX11_lay_j44_ok (zlz0_B hZ) hn zlz0_S (by decide) zlz0_P (by decide) ⟨by decide, by decide⟩ h
set_option maxRecDepth 100000 in
theorem zno_r_X7_420 (M : zMem) : ∀ k, k < 19 → (([-1, -1, -3, -3, -3, -3, -3, -1, -3, -3, -3, -3, -3, -1, -1, -3, -1, -3, -3] : List Int).getD k (-1) = -1 ∨ ([-1, -1, -3, -3, -3, -3, -3, -1, -3, -3, -3, -3, -3, -1, -1, -3, -1, -3, -3] : List Int).getD k (-1) = -2 ∨ ([-1, -1, -3, -3, -3, -3, -3, -1, -3, -3, -3, -3, -3, -1, -1, -3, -1, -3, -3] : List Int).getD k (-1) = -3) ∧ ∀ ad : Nat → Nat, defaultValue (tyX7 k) = zsv ad (([-1, -1, -3, -3, -3, -3, -3, -1, -3, -3, -3, -3, -3, -1, -1, -3, -1, -3, -3] : List Int).getD k (-1)) (zno M 420 [-1, -1, -3, -3, -3, -3, -3, -1, -3, -3, -3, -3, -3, -1, -1, -3, -1, -3, -3] 420 k) := by
  intro k hk
  rcases (show k = 0 ∨ k = 1 ∨ k = 2 ∨ k = 3 ∨ k = 4 ∨ k = 5 ∨ k = 6 ∨ k = 7 ∨ k = 8 ∨ k = 9 ∨ k = 10 ∨ k = 11 ∨ k = 12 ∨ k = 13 ∨ k = 14 ∨ k = 15 ∨ k = 16 ∨ k = 17 ∨ k = 18 by omega) with rfl | rfl | rfl | rfl | rfl | rfl | rfl | rfl | rfl | rfl | rfl | rfl | rfl | rfl | rfl | rfl | rfl | rfl | rfl <;> exact ⟨by decide, fun _ => rfl⟩
set_option maxRecDepth 100000 in
theorem zno_k_X7_420 (M : zMem) (Z : zZ) : ∀ k : Nat, k < 19 → zkan Z (([-1, -1, -3, -3, -3, -3, -3, -1, -3, -3, -3, -3, -3, -1, -1, -3, -1, -3, -3] : List Int).getD k (-1)) (zno M 420 [-1, -1, -3, -3, -3, -3, -3, -1, -3, -3, -3, -3, -3, -1, -1, -3, -1, -3, -3] 420 k) := by
  intro k hk
  rcases (show k = 0 ∨ k = 1 ∨ k = 2 ∨ k = 3 ∨ k = 4 ∨ k = 5 ∨ k = 6 ∨ k = 7 ∨ k = 8 ∨ k = 9 ∨ k = 10 ∨ k = 11 ∨ k = 12 ∨ k = 13 ∨ k = 14 ∨ k = 15 ∨ k = 16 ∨ k = 17 ∨ k = 18 by omega) with rfl | rfl | rfl | rfl | rfl | rfl | rfl | rfl | rfl | rfl | rfl | rfl | rfl | rfl | rfl | rfl | rfl | rfl | rfl <;> first | exact z32_0 | exact z64_0 | exact Or.inl (show (-1 : Int) < 0 by decide)
set_option maxRecDepth 100000 in
theorem zno_r_X5_510 (M : zMem) : ∀ k, k < 6 → (([-1, -3, -3, -3, -3, -3] : List Int).getD k (-1) = -1 ∨ ([-1, -3, -3, -3, -3, -3] : List Int).getD k (-1) = -2 ∨ ([-1, -3, -3, -3, -3, -3] : List Int).getD k (-1) = -3) ∧ ∀ ad : Nat → Nat, defaultValue (tyX5 k) = zsv ad (([-1, -3, -3, -3, -3, -3] : List Int).getD k (-1)) (zno M 510 [-1, -3, -3, -3, -3, -3] 510 k) := by
  intro k hk
  rcases (show k = 0 ∨ k = 1 ∨ k = 2 ∨ k = 3 ∨ k = 4 ∨ k = 5 by omega) with rfl | rfl | rfl | rfl | rfl | rfl <;> exact ⟨by decide, fun _ => rfl⟩
set_option maxRecDepth 100000 in
theorem zno_k_X5_510 (M : zMem) (Z : zZ) : ∀ k : Nat, k < 6 → zkan Z (([-1, -3, -3, -3, -3, -3] : List Int).getD k (-1)) (zno M 510 [-1, -3, -3, -3, -3, -3] 510 k) := by
  intro k hk
  rcases (show k = 0 ∨ k = 1 ∨ k = 2 ∨ k = 3 ∨ k = 4 ∨ k = 5 by omega) with rfl | rfl | rfl | rfl | rfl | rfl <;> first | exact z32_0 | exact z64_0 | exact Or.inl (show (-1 : Int) < 0 by decide)
/-- mark 1's memory when its Setup and its Piece are made -/
def zlm1 (M : zMem) : zMem := zup (zmI_X5_510 (zno (zup (zmI_X7_420 (zno M 420 [-1, -1, -3, -3, -3, -3, -3, -1, -3, -3, -3, -3, -3, -1, -1, -3, -1, -3, -3])) 6 1 420) 510 [-1, -3, -3, -3, -3, -3])) 7 1 510
def zlz1 (Z : zZ) : zZ := zLs [(510, .inl (5, [-1, 512, 513, 514, 515, 516])), (516, .inr (0, 24)), (515, .inr (0, 24)), (514, .inr (0, 24)), (513, .inr (0, 24)), (512, .inr (0, 24))] (zLs ((420, .inl (7, [-1, -1, 423, 424, 425, 426, 427, -1, 429, 430, 431, 432, 433, -1, -1, 436, -1, 438, 439])) :: (439, .inr (0, 11)) :: (438, .inr (0, 4)) :: (436, .inr (0, 1000)) :: (433, .inr (0, 8)) :: (432, .inr (0, 8)) :: (431, .inr (0, 8)) :: (430, .inr (0, 8)) :: (429, .inr (0, 8)) :: (427, .inr (0, 12)) :: (426, .inr (0, 12)) :: (425, .inr (0, 12)) :: (424, .inr (0, 12)) :: (423, .inr (0, 12)) :: []) Z)
theorem zlz1_B {Z : zZ} (hZ : zB Z) : zB (zlz1 Z) := zB_ls (zB_ls hZ rfl) rfl
theorem zlz1_S {Z : zZ} : zSU (zlz1 Z) 420 := List.forall_mem_cons.mpr ⟨rfl, List.forall_mem_cons.mpr ⟨rfl, List.forall_mem_cons.mpr ⟨rfl, List.forall_mem_cons.mpr ⟨rfl, List.forall_mem_cons.mpr ⟨rfl, List.forall_mem_cons.mpr ⟨rfl, List.forall_mem_cons.mpr ⟨rfl, List.forall_mem_cons.mpr ⟨rfl, List.forall_mem_cons.mpr ⟨rfl, List.forall_mem_cons.mpr ⟨rfl, List.forall_mem_cons.mpr ⟨rfl, List.forall_mem_cons.mpr ⟨rfl, List.forall_mem_cons.mpr ⟨rfl, List.forall_mem_cons.mpr ⟨rfl, fun _ h => nomatch h⟩⟩⟩⟩⟩⟩⟩⟩⟩⟩⟩⟩⟩⟩
theorem zlz1_P {Z : zZ} : zPI (zlz1 Z) 510 := List.forall_mem_cons.mpr ⟨rfl, List.forall_mem_cons.mpr ⟨rfl, List.forall_mem_cons.mpr ⟨rfl, List.forall_mem_cons.mpr ⟨rfl, List.forall_mem_cons.mpr ⟨rfl, List.forall_mem_cons.mpr ⟨rfl, fun _ h => nomatch h⟩⟩⟩⟩⟩⟩
set_option maxRecDepth 100000 in
set_option maxHeartbeats 4000000 in
theorem zla_1 {Z : zZ} (hZ : zB Z) {nn : Nat} (hn : 3 ≤ nn) (h7 : ∀ i ∈ (420 :: 423 :: 424 :: 425 :: 426 :: 427 :: 429 :: 430 :: 431 :: 432 :: 433 :: 436 :: 438 :: 439 :: [] : List Nat), Z i = none) (h5 : ∀ i ∈ (510 :: 512 :: 513 :: 514 :: 515 :: 516 :: [] : List Nat), Z i = none) (hU : Z 1000 = some (.inr (0, 11))) {M : zMem} (h6 : M 6 1 < 0) {Q : Option zAV → zMem → zZ → Prop} (h : zSat (fX11_lay_j44 420 510 1 (zlm1 M)) (fun r => Q (some (zI r.1)) r.2 (zlz1 Z))) : zV zmX11_lay nn 20 1260 Z 0 [(0, zR 0), (1, zI 1)] [] M Q := by
  have hZ1 : zB (zLs ((420, .inl (7, [-1, -1, 423, 424, 425, 426, 427, -1, 429, 430, 431, 432, 433, -1, -1, 436, -1, 438, 439])) :: (439, .inr (0, 11)) :: (438, .inr (0, 4)) :: (436, .inr (0, 1000)) :: (433, .inr (0, 8)) :: (432, .inr (0, 8)) :: (431, .inr (0, 8)) :: (430, .inr (0, 8)) :: (429, .inr (0, 8)) :: (427, .inr (0, 12)) :: (426, .inr (0, 12)) :: (425, .inr (0, 12)) :: (424, .inr (0, 12)) :: (423, .inr (0, 12)) :: []) Z) := zB_ls hZ rfl
  refine zV_aload_n 0 dX11_lay_0 rfl rfl ?_
  refine zV_getR (j := 6) (zq_0 hZ) zf_X11_5 zkf_X11_42 rfl dX11_lay_1 ?_
  refine zV_iload_n 1 dX11_lay_4 rfl rfl ?_
  refine zV_aaldN (zq_6 hZ) (Or.inl rfl) (by decide) h6 dX11_lay_5 ?_
  refine zV_nuN 18 dX11_lay_6 (by decide) ?_
  refine zV_aload_n 0 dX11_lay_18 rfl rfl ?_
  refine zV_getR (j := 6) (zq_0 hZ) zf_X11_5 zkf_X11_42 rfl dX11_lay_19 ?_
  refine zV_iload_n 1 dX11_lay_22 rfl rfl ?_
  refine zV_newo (kc := 19) (ks := 1241) (i := 420) (ci := 7) (N := 19) (raw := [-1, -1, -3, -3, -3, -3, -3, -1, -3, -3, -3, -3, -3, -1, -1, -3, -1, -3, -3]) (M' := zno M 420 [-1, -1, -3, -3, -3, -3, -3, -1, -3, -3, -3, -3, -3, -1, -1, -3, -1, -3, -3]) rfl zinX7 tyX7_ok zkx_X11_16 zkb_X7 zki_X7 (by decide) (h7 420 (by decide)) rfl (zno_r_X7_420 _) (zno_k_X7_420 _ _) (fun a b h => zno_ne h) dX11_lay_23 ?_
  refine zV_Z (zuz_ls _ _ _) ?_
  refine zV_dup dX11_lay_26 rfl ?_
  refine zV_callN (kc := 6) (ks := 126) (mc := 13) (ms := 1115) (n' := 1) (As := []) (Q' := fun r M1 Z1 => r = none ∧ M1 = zmI_X7_420 (zno M 420 [-1, -1, -3, -3, -3, -3, -3, -1, -3, -3, -3, -3, -3, -1, -1, -3, -1, -3, -3]) ∧ Z1 = zLs ((420, .inl (7, [-1, -1, 423, 424, 425, 426, 427, -1, 429, 430, 431, 432, 433, -1, -1, 436, -1, 438, 439])) :: (439, .inr (0, 11)) :: (438, .inr (0, 4)) :: (436, .inr (0, 1000)) :: (433, .inr (0, 8)) :: (432, .inr (0, 8)) :: (431, .inr (0, 8)) :: (430, .inr (0, 8)) :: (429, .inr (0, 8)) :: (427, .inr (0, 12)) :: (426, .inr (0, 12)) :: (425, .inr (0, 12)) :: (424, .inr (0, 12)) :: (423, .inr (0, 12)) :: []) Z) zc_X11_18 dX11_lay_27 (by omega) rfl (Nat.le_of_ble_eq_true rfl) (Nat.le_of_ble_eq_true rfl) rfl (zcI_X7_420 (Z := Z) (fun i hi => h7 i (List.mem_cons_of_mem _ hi)) hU (Nat.le_refl _) ⟨rfl, rfl, rfl⟩) ?_
  rintro _ _ _ _ ⟨rfl, rfl, rfl⟩
  refine zV_aast (i := 6) (t := 4) (n0 := 4) (c := 420) (ci := 7) (zq_6 hZ1) (Or.inl rfl) (by decide) (by decide) rfl rfl rfl dX11_lay_30 ?_
  refine zV_aload_n 0 dX11_lay_31 rfl rfl ?_
  refine zV_getR (j := 7) (zq_0 hZ1) zf_X11_6 zkf_X11_46 rfl dX11_lay_32 ?_
  refine zV_iload_n 1 dX11_lay_35 rfl rfl ?_
  refine zV_newo (kc := 5) (ks := 120) (i := 510) (ci := 5) (N := 6) (raw := [-1, -3, -3, -3, -3, -3]) (M' := zno (zup (zmI_X7_420 (zno M 420 [-1, -1, -3, -3, -3, -3, -3, -1, -3, -3, -3, -3, -3, -1, -1, -3, -1, -3, -3])) 6 1 420) 510 [-1, -3, -3, -3, -3, -3]) rfl zinX5 tyX5_ok zkx_X11_35 zkb_X5 zki_X5 (by decide) (by rw [zLs_n rfl]; exact h5 510 (by decide)) rfl (zno_r_X5_510 _) (zno_k_X5_510 _ _) (fun a b h => zno_ne h) dX11_lay_36 ?_
  refine zV_Z (zuz_ls _ _ _) ?_
  refine zV_dup dX11_lay_39 rfl ?_
  refine zV_callN (kc := 0) (ks := 0) (mc := 5) (ms := 120) (n' := 1) (As := []) (Q' := fun r M1 Z1 => r = none ∧ M1 = zmI_X5_510 (zno (zup (zmI_X7_420 (zno M 420 [-1, -1, -3, -3, -3, -3, -3, -1, -3, -3, -3, -3, -3, -1, -1, -3, -1, -3, -3])) 6 1 420) 510 [-1, -3, -3, -3, -3, -3]) ∧ Z1 = zLs [(510, .inl (5, [-1, 512, 513, 514, 515, 516])), (516, .inr (0, 24)), (515, .inr (0, 24)), (514, .inr (0, 24)), (513, .inr (0, 24)), (512, .inr (0, 24))] (zLs ((420, .inl (7, [-1, -1, 423, 424, 425, 426, 427, -1, 429, 430, 431, 432, 433, -1, -1, 436, -1, 438, 439])) :: (439, .inr (0, 11)) :: (438, .inr (0, 4)) :: (436, .inr (0, 1000)) :: (433, .inr (0, 8)) :: (432, .inr (0, 8)) :: (431, .inr (0, 8)) :: (430, .inr (0, 8)) :: (429, .inr (0, 8)) :: (427, .inr (0, 12)) :: (426, .inr (0, 12)) :: (425, .inr (0, 12)) :: (424, .inr (0, 12)) :: (423, .inr (0, 12)) :: []) Z)) zc_X11_37 dX11_lay_40 (by omega) rfl (Nat.le_of_ble_eq_true rfl) (Nat.le_of_ble_eq_true rfl) rfl (zcI_X5_510 (Z := zLs ((420, .inl (7, [-1, -1, 423, 424, 425, 426, 427, -1, 429, 430, 431, 432, 433, -1, -1, 436, -1, 438, 439])) :: (439, .inr (0, 11)) :: (438, .inr (0, 4)) :: (436, .inr (0, 1000)) :: (433, .inr (0, 8)) :: (432, .inr (0, 8)) :: (431, .inr (0, 8)) :: (430, .inr (0, 8)) :: (429, .inr (0, 8)) :: (427, .inr (0, 12)) :: (426, .inr (0, 12)) :: (425, .inr (0, 12)) :: (424, .inr (0, 12)) :: (423, .inr (0, 12)) :: []) Z) (List.forall_mem_cons.mpr ⟨(by rw [zLs_n rfl]; exact h5 512 (by decide)), List.forall_mem_cons.mpr ⟨(by rw [zLs_n rfl]; exact h5 513 (by decide)), List.forall_mem_cons.mpr ⟨(by rw [zLs_n rfl]; exact h5 514 (by decide)), List.forall_mem_cons.mpr ⟨(by rw [zLs_n rfl]; exact h5 515 (by decide)), List.forall_mem_cons.mpr ⟨(by rw [zLs_n rfl]; exact h5 516 (by decide)), fun _ h => nomatch h⟩⟩⟩⟩⟩) (Nat.le_refl _) ⟨rfl, rfl, rfl⟩) ?_
  rintro _ _ _ _ ⟨rfl, rfl, rfl⟩
  refine zV_aast (i := 7) (t := 5) (n0 := 4) (c := 510) (ci := 5) (zq_7 (zlz1_B hZ)) (Or.inr rfl) (by decide) (by decide) rfl rfl rfl dX11_lay_43 ?_
  exact fX11_lay_j44_ok (zlz1_B hZ) hn zlz1_S (by decide) zlz1_P (by decide) ⟨by decide, by decide⟩ h
set_option maxRecDepth 100000 in
theorem zno_r_X7_440 (M : zMem) : ∀ k, k < 19 → (([-1, -1, -3, -3, -3, -3, -3, -1, -3, -3, -3, -3, -3, -1, -1, -3, -1, -3, -3] : List Int).getD k (-1) = -1 ∨ ([-1, -1, -3, -3, -3, -3, -3, -1, -3, -3, -3, -3, -3, -1, -1, -3, -1, -3, -3] : List Int).getD k (-1) = -2 ∨ ([-1, -1, -3, -3, -3, -3, -3, -1, -3, -3, -3, -3, -3, -1, -1, -3, -1, -3, -3] : List Int).getD k (-1) = -3) ∧ ∀ ad : Nat → Nat, defaultValue (tyX7 k) = zsv ad (([-1, -1, -3, -3, -3, -3, -3, -1, -3, -3, -3, -3, -3, -1, -1, -3, -1, -3, -3] : List Int).getD k (-1)) (zno M 440 [-1, -1, -3, -3, -3, -3, -3, -1, -3, -3, -3, -3, -3, -1, -1, -3, -1, -3, -3] 440 k) := by
  intro k hk
  rcases (show k = 0 ∨ k = 1 ∨ k = 2 ∨ k = 3 ∨ k = 4 ∨ k = 5 ∨ k = 6 ∨ k = 7 ∨ k = 8 ∨ k = 9 ∨ k = 10 ∨ k = 11 ∨ k = 12 ∨ k = 13 ∨ k = 14 ∨ k = 15 ∨ k = 16 ∨ k = 17 ∨ k = 18 by omega) with rfl | rfl | rfl | rfl | rfl | rfl | rfl | rfl | rfl | rfl | rfl | rfl | rfl | rfl | rfl | rfl | rfl | rfl | rfl <;> exact ⟨by decide, fun _ => rfl⟩
set_option maxRecDepth 100000 in
theorem zno_k_X7_440 (M : zMem) (Z : zZ) : ∀ k : Nat, k < 19 → zkan Z (([-1, -1, -3, -3, -3, -3, -3, -1, -3, -3, -3, -3, -3, -1, -1, -3, -1, -3, -3] : List Int).getD k (-1)) (zno M 440 [-1, -1, -3, -3, -3, -3, -3, -1, -3, -3, -3, -3, -3, -1, -1, -3, -1, -3, -3] 440 k) := by
  intro k hk
  rcases (show k = 0 ∨ k = 1 ∨ k = 2 ∨ k = 3 ∨ k = 4 ∨ k = 5 ∨ k = 6 ∨ k = 7 ∨ k = 8 ∨ k = 9 ∨ k = 10 ∨ k = 11 ∨ k = 12 ∨ k = 13 ∨ k = 14 ∨ k = 15 ∨ k = 16 ∨ k = 17 ∨ k = 18 by omega) with rfl | rfl | rfl | rfl | rfl | rfl | rfl | rfl | rfl | rfl | rfl | rfl | rfl | rfl | rfl | rfl | rfl | rfl | rfl <;> first | exact z32_0 | exact z64_0 | exact Or.inl (show (-1 : Int) < 0 by decide)
set_option maxRecDepth 100000 in
theorem zno_r_X5_520 (M : zMem) : ∀ k, k < 6 → (([-1, -3, -3, -3, -3, -3] : List Int).getD k (-1) = -1 ∨ ([-1, -3, -3, -3, -3, -3] : List Int).getD k (-1) = -2 ∨ ([-1, -3, -3, -3, -3, -3] : List Int).getD k (-1) = -3) ∧ ∀ ad : Nat → Nat, defaultValue (tyX5 k) = zsv ad (([-1, -3, -3, -3, -3, -3] : List Int).getD k (-1)) (zno M 520 [-1, -3, -3, -3, -3, -3] 520 k) := by
  intro k hk
  rcases (show k = 0 ∨ k = 1 ∨ k = 2 ∨ k = 3 ∨ k = 4 ∨ k = 5 by omega) with rfl | rfl | rfl | rfl | rfl | rfl <;> exact ⟨by decide, fun _ => rfl⟩
set_option maxRecDepth 100000 in
theorem zno_k_X5_520 (M : zMem) (Z : zZ) : ∀ k : Nat, k < 6 → zkan Z (([-1, -3, -3, -3, -3, -3] : List Int).getD k (-1)) (zno M 520 [-1, -3, -3, -3, -3, -3] 520 k) := by
  intro k hk
  rcases (show k = 0 ∨ k = 1 ∨ k = 2 ∨ k = 3 ∨ k = 4 ∨ k = 5 by omega) with rfl | rfl | rfl | rfl | rfl | rfl <;> first | exact z32_0 | exact z64_0 | exact Or.inl (show (-1 : Int) < 0 by decide)
/-- mark 2's memory when its Setup and its Piece are made -/
def zlm2 (M : zMem) : zMem := zup (zmI_X5_520 (zno (zup (zmI_X7_440 (zno M 440 [-1, -1, -3, -3, -3, -3, -3, -1, -3, -3, -3, -3, -3, -1, -1, -3, -1, -3, -3])) 6 2 440) 520 [-1, -3, -3, -3, -3, -3])) 7 2 520
def zlz2 (Z : zZ) : zZ := zLs [(520, .inl (5, [-1, 522, 523, 524, 525, 526])), (526, .inr (0, 24)), (525, .inr (0, 24)), (524, .inr (0, 24)), (523, .inr (0, 24)), (522, .inr (0, 24))] (zLs ((440, .inl (7, [-1, -1, 443, 444, 445, 446, 447, -1, 449, 450, 451, 452, 453, -1, -1, 456, -1, 458, 459])) :: (459, .inr (0, 11)) :: (458, .inr (0, 4)) :: (456, .inr (0, 1000)) :: (453, .inr (0, 8)) :: (452, .inr (0, 8)) :: (451, .inr (0, 8)) :: (450, .inr (0, 8)) :: (449, .inr (0, 8)) :: (447, .inr (0, 12)) :: (446, .inr (0, 12)) :: (445, .inr (0, 12)) :: (444, .inr (0, 12)) :: (443, .inr (0, 12)) :: []) Z)
theorem zlz2_B {Z : zZ} (hZ : zB Z) : zB (zlz2 Z) := zB_ls (zB_ls hZ rfl) rfl
theorem zlz2_S {Z : zZ} : zSU (zlz2 Z) 440 := List.forall_mem_cons.mpr ⟨rfl, List.forall_mem_cons.mpr ⟨rfl, List.forall_mem_cons.mpr ⟨rfl, List.forall_mem_cons.mpr ⟨rfl, List.forall_mem_cons.mpr ⟨rfl, List.forall_mem_cons.mpr ⟨rfl, List.forall_mem_cons.mpr ⟨rfl, List.forall_mem_cons.mpr ⟨rfl, List.forall_mem_cons.mpr ⟨rfl, List.forall_mem_cons.mpr ⟨rfl, List.forall_mem_cons.mpr ⟨rfl, List.forall_mem_cons.mpr ⟨rfl, List.forall_mem_cons.mpr ⟨rfl, List.forall_mem_cons.mpr ⟨rfl, fun _ h => nomatch h⟩⟩⟩⟩⟩⟩⟩⟩⟩⟩⟩⟩⟩⟩
theorem zlz2_P {Z : zZ} : zPI (zlz2 Z) 520 := List.forall_mem_cons.mpr ⟨rfl, List.forall_mem_cons.mpr ⟨rfl, List.forall_mem_cons.mpr ⟨rfl, List.forall_mem_cons.mpr ⟨rfl, List.forall_mem_cons.mpr ⟨rfl, List.forall_mem_cons.mpr ⟨rfl, fun _ h => nomatch h⟩⟩⟩⟩⟩⟩
set_option maxRecDepth 100000 in
set_option maxHeartbeats 4000000 in
theorem zla_2 {Z : zZ} (hZ : zB Z) {nn : Nat} (hn : 3 ≤ nn) (h7 : ∀ i ∈ (440 :: 443 :: 444 :: 445 :: 446 :: 447 :: 449 :: 450 :: 451 :: 452 :: 453 :: 456 :: 458 :: 459 :: [] : List Nat), Z i = none) (h5 : ∀ i ∈ (520 :: 522 :: 523 :: 524 :: 525 :: 526 :: [] : List Nat), Z i = none) (hU : Z 1000 = some (.inr (0, 11))) {M : zMem} (h6 : M 6 2 < 0) {Q : Option zAV → zMem → zZ → Prop} (h : zSat (fX11_lay_j44 440 520 2 (zlm2 M)) (fun r => Q (some (zI r.1)) r.2 (zlz2 Z))) : zV zmX11_lay nn 20 1260 Z 0 [(0, zR 0), (1, zI 2)] [] M Q := by
  have hZ1 : zB (zLs ((440, .inl (7, [-1, -1, 443, 444, 445, 446, 447, -1, 449, 450, 451, 452, 453, -1, -1, 456, -1, 458, 459])) :: (459, .inr (0, 11)) :: (458, .inr (0, 4)) :: (456, .inr (0, 1000)) :: (453, .inr (0, 8)) :: (452, .inr (0, 8)) :: (451, .inr (0, 8)) :: (450, .inr (0, 8)) :: (449, .inr (0, 8)) :: (447, .inr (0, 12)) :: (446, .inr (0, 12)) :: (445, .inr (0, 12)) :: (444, .inr (0, 12)) :: (443, .inr (0, 12)) :: []) Z) := zB_ls hZ rfl
  refine zV_aload_n 0 dX11_lay_0 rfl rfl ?_
  refine zV_getR (j := 6) (zq_0 hZ) zf_X11_5 zkf_X11_42 rfl dX11_lay_1 ?_
  refine zV_iload_n 1 dX11_lay_4 rfl rfl ?_
  refine zV_aaldN (zq_6 hZ) (Or.inl rfl) (by decide) h6 dX11_lay_5 ?_
  refine zV_nuN 18 dX11_lay_6 (by decide) ?_
  refine zV_aload_n 0 dX11_lay_18 rfl rfl ?_
  refine zV_getR (j := 6) (zq_0 hZ) zf_X11_5 zkf_X11_42 rfl dX11_lay_19 ?_
  refine zV_iload_n 1 dX11_lay_22 rfl rfl ?_
  refine zV_newo (kc := 19) (ks := 1241) (i := 440) (ci := 7) (N := 19) (raw := [-1, -1, -3, -3, -3, -3, -3, -1, -3, -3, -3, -3, -3, -1, -1, -3, -1, -3, -3]) (M' := zno M 440 [-1, -1, -3, -3, -3, -3, -3, -1, -3, -3, -3, -3, -3, -1, -1, -3, -1, -3, -3]) rfl zinX7 tyX7_ok zkx_X11_16 zkb_X7 zki_X7 (by decide) (h7 440 (by decide)) rfl (zno_r_X7_440 _) (zno_k_X7_440 _ _) (fun a b h => zno_ne h) dX11_lay_23 ?_
  refine zV_Z (zuz_ls _ _ _) ?_
  refine zV_dup dX11_lay_26 rfl ?_
  refine zV_callN (kc := 6) (ks := 126) (mc := 13) (ms := 1115) (n' := 1) (As := []) (Q' := fun r M1 Z1 => r = none ∧ M1 = zmI_X7_440 (zno M 440 [-1, -1, -3, -3, -3, -3, -3, -1, -3, -3, -3, -3, -3, -1, -1, -3, -1, -3, -3]) ∧ Z1 = zLs ((440, .inl (7, [-1, -1, 443, 444, 445, 446, 447, -1, 449, 450, 451, 452, 453, -1, -1, 456, -1, 458, 459])) :: (459, .inr (0, 11)) :: (458, .inr (0, 4)) :: (456, .inr (0, 1000)) :: (453, .inr (0, 8)) :: (452, .inr (0, 8)) :: (451, .inr (0, 8)) :: (450, .inr (0, 8)) :: (449, .inr (0, 8)) :: (447, .inr (0, 12)) :: (446, .inr (0, 12)) :: (445, .inr (0, 12)) :: (444, .inr (0, 12)) :: (443, .inr (0, 12)) :: []) Z) zc_X11_18 dX11_lay_27 (by omega) rfl (Nat.le_of_ble_eq_true rfl) (Nat.le_of_ble_eq_true rfl) rfl (zcI_X7_440 (Z := Z) (fun i hi => h7 i (List.mem_cons_of_mem _ hi)) hU (Nat.le_refl _) ⟨rfl, rfl, rfl⟩) ?_
  rintro _ _ _ _ ⟨rfl, rfl, rfl⟩
  refine zV_aast (i := 6) (t := 4) (n0 := 4) (c := 440) (ci := 7) (zq_6 hZ1) (Or.inl rfl) (by decide) (by decide) rfl rfl rfl dX11_lay_30 ?_
  refine zV_aload_n 0 dX11_lay_31 rfl rfl ?_
  refine zV_getR (j := 7) (zq_0 hZ1) zf_X11_6 zkf_X11_46 rfl dX11_lay_32 ?_
  refine zV_iload_n 1 dX11_lay_35 rfl rfl ?_
  refine zV_newo (kc := 5) (ks := 120) (i := 520) (ci := 5) (N := 6) (raw := [-1, -3, -3, -3, -3, -3]) (M' := zno (zup (zmI_X7_440 (zno M 440 [-1, -1, -3, -3, -3, -3, -3, -1, -3, -3, -3, -3, -3, -1, -1, -3, -1, -3, -3])) 6 2 440) 520 [-1, -3, -3, -3, -3, -3]) rfl zinX5 tyX5_ok zkx_X11_35 zkb_X5 zki_X5 (by decide) (by rw [zLs_n rfl]; exact h5 520 (by decide)) rfl (zno_r_X5_520 _) (zno_k_X5_520 _ _) (fun a b h => zno_ne h) dX11_lay_36 ?_
  refine zV_Z (zuz_ls _ _ _) ?_
  refine zV_dup dX11_lay_39 rfl ?_
  refine zV_callN (kc := 0) (ks := 0) (mc := 5) (ms := 120) (n' := 1) (As := []) (Q' := fun r M1 Z1 => r = none ∧ M1 = zmI_X5_520 (zno (zup (zmI_X7_440 (zno M 440 [-1, -1, -3, -3, -3, -3, -3, -1, -3, -3, -3, -3, -3, -1, -1, -3, -1, -3, -3])) 6 2 440) 520 [-1, -3, -3, -3, -3, -3]) ∧ Z1 = zLs [(520, .inl (5, [-1, 522, 523, 524, 525, 526])), (526, .inr (0, 24)), (525, .inr (0, 24)), (524, .inr (0, 24)), (523, .inr (0, 24)), (522, .inr (0, 24))] (zLs ((440, .inl (7, [-1, -1, 443, 444, 445, 446, 447, -1, 449, 450, 451, 452, 453, -1, -1, 456, -1, 458, 459])) :: (459, .inr (0, 11)) :: (458, .inr (0, 4)) :: (456, .inr (0, 1000)) :: (453, .inr (0, 8)) :: (452, .inr (0, 8)) :: (451, .inr (0, 8)) :: (450, .inr (0, 8)) :: (449, .inr (0, 8)) :: (447, .inr (0, 12)) :: (446, .inr (0, 12)) :: (445, .inr (0, 12)) :: (444, .inr (0, 12)) :: (443, .inr (0, 12)) :: []) Z)) zc_X11_37 dX11_lay_40 (by omega) rfl (Nat.le_of_ble_eq_true rfl) (Nat.le_of_ble_eq_true rfl) rfl (zcI_X5_520 (Z := zLs ((440, .inl (7, [-1, -1, 443, 444, 445, 446, 447, -1, 449, 450, 451, 452, 453, -1, -1, 456, -1, 458, 459])) :: (459, .inr (0, 11)) :: (458, .inr (0, 4)) :: (456, .inr (0, 1000)) :: (453, .inr (0, 8)) :: (452, .inr (0, 8)) :: (451, .inr (0, 8)) :: (450, .inr (0, 8)) :: (449, .inr (0, 8)) :: (447, .inr (0, 12)) :: (446, .inr (0, 12)) :: (445, .inr (0, 12)) :: (444, .inr (0, 12)) :: (443, .inr (0, 12)) :: []) Z) (List.forall_mem_cons.mpr ⟨(by rw [zLs_n rfl]; exact h5 522 (by decide)), List.forall_mem_cons.mpr ⟨(by rw [zLs_n rfl]; exact h5 523 (by decide)), List.forall_mem_cons.mpr ⟨(by rw [zLs_n rfl]; exact h5 524 (by decide)), List.forall_mem_cons.mpr ⟨(by rw [zLs_n rfl]; exact h5 525 (by decide)), List.forall_mem_cons.mpr ⟨(by rw [zLs_n rfl]; exact h5 526 (by decide)), fun _ h => nomatch h⟩⟩⟩⟩⟩) (Nat.le_refl _) ⟨rfl, rfl, rfl⟩) ?_
  rintro _ _ _ _ ⟨rfl, rfl, rfl⟩
  refine zV_aast (i := 7) (t := 5) (n0 := 4) (c := 520) (ci := 5) (zq_7 (zlz2_B hZ)) (Or.inr rfl) (by decide) (by decide) rfl rfl rfl dX11_lay_43 ?_
  exact fX11_lay_j44_ok (zlz2_B hZ) hn zlz2_S (by decide) zlz2_P (by decide) ⟨by decide, by decide⟩ h
set_option maxRecDepth 100000 in
theorem zno_r_X7_460 (M : zMem) : ∀ k, k < 19 → (([-1, -1, -3, -3, -3, -3, -3, -1, -3, -3, -3, -3, -3, -1, -1, -3, -1, -3, -3] : List Int).getD k (-1) = -1 ∨ ([-1, -1, -3, -3, -3, -3, -3, -1, -3, -3, -3, -3, -3, -1, -1, -3, -1, -3, -3] : List Int).getD k (-1) = -2 ∨ ([-1, -1, -3, -3, -3, -3, -3, -1, -3, -3, -3, -3, -3, -1, -1, -3, -1, -3, -3] : List Int).getD k (-1) = -3) ∧ ∀ ad : Nat → Nat, defaultValue (tyX7 k) = zsv ad (([-1, -1, -3, -3, -3, -3, -3, -1, -3, -3, -3, -3, -3, -1, -1, -3, -1, -3, -3] : List Int).getD k (-1)) (zno M 460 [-1, -1, -3, -3, -3, -3, -3, -1, -3, -3, -3, -3, -3, -1, -1, -3, -1, -3, -3] 460 k) := by
  intro k hk
  rcases (show k = 0 ∨ k = 1 ∨ k = 2 ∨ k = 3 ∨ k = 4 ∨ k = 5 ∨ k = 6 ∨ k = 7 ∨ k = 8 ∨ k = 9 ∨ k = 10 ∨ k = 11 ∨ k = 12 ∨ k = 13 ∨ k = 14 ∨ k = 15 ∨ k = 16 ∨ k = 17 ∨ k = 18 by omega) with rfl | rfl | rfl | rfl | rfl | rfl | rfl | rfl | rfl | rfl | rfl | rfl | rfl | rfl | rfl | rfl | rfl | rfl | rfl <;> exact ⟨by decide, fun _ => rfl⟩
set_option maxRecDepth 100000 in
theorem zno_k_X7_460 (M : zMem) (Z : zZ) : ∀ k : Nat, k < 19 → zkan Z (([-1, -1, -3, -3, -3, -3, -3, -1, -3, -3, -3, -3, -3, -1, -1, -3, -1, -3, -3] : List Int).getD k (-1)) (zno M 460 [-1, -1, -3, -3, -3, -3, -3, -1, -3, -3, -3, -3, -3, -1, -1, -3, -1, -3, -3] 460 k) := by
  intro k hk
  rcases (show k = 0 ∨ k = 1 ∨ k = 2 ∨ k = 3 ∨ k = 4 ∨ k = 5 ∨ k = 6 ∨ k = 7 ∨ k = 8 ∨ k = 9 ∨ k = 10 ∨ k = 11 ∨ k = 12 ∨ k = 13 ∨ k = 14 ∨ k = 15 ∨ k = 16 ∨ k = 17 ∨ k = 18 by omega) with rfl | rfl | rfl | rfl | rfl | rfl | rfl | rfl | rfl | rfl | rfl | rfl | rfl | rfl | rfl | rfl | rfl | rfl | rfl <;> first | exact z32_0 | exact z64_0 | exact Or.inl (show (-1 : Int) < 0 by decide)
set_option maxRecDepth 100000 in
theorem zno_r_X5_530 (M : zMem) : ∀ k, k < 6 → (([-1, -3, -3, -3, -3, -3] : List Int).getD k (-1) = -1 ∨ ([-1, -3, -3, -3, -3, -3] : List Int).getD k (-1) = -2 ∨ ([-1, -3, -3, -3, -3, -3] : List Int).getD k (-1) = -3) ∧ ∀ ad : Nat → Nat, defaultValue (tyX5 k) = zsv ad (([-1, -3, -3, -3, -3, -3] : List Int).getD k (-1)) (zno M 530 [-1, -3, -3, -3, -3, -3] 530 k) := by
  intro k hk
  rcases (show k = 0 ∨ k = 1 ∨ k = 2 ∨ k = 3 ∨ k = 4 ∨ k = 5 by omega) with rfl | rfl | rfl | rfl | rfl | rfl <;> exact ⟨by decide, fun _ => rfl⟩
set_option maxRecDepth 100000 in
theorem zno_k_X5_530 (M : zMem) (Z : zZ) : ∀ k : Nat, k < 6 → zkan Z (([-1, -3, -3, -3, -3, -3] : List Int).getD k (-1)) (zno M 530 [-1, -3, -3, -3, -3, -3] 530 k) := by
  intro k hk
  rcases (show k = 0 ∨ k = 1 ∨ k = 2 ∨ k = 3 ∨ k = 4 ∨ k = 5 by omega) with rfl | rfl | rfl | rfl | rfl | rfl <;> first | exact z32_0 | exact z64_0 | exact Or.inl (show (-1 : Int) < 0 by decide)
/-- mark 3's memory when its Setup and its Piece are made -/
def zlm3 (M : zMem) : zMem := zup (zmI_X5_530 (zno (zup (zmI_X7_460 (zno M 460 [-1, -1, -3, -3, -3, -3, -3, -1, -3, -3, -3, -3, -3, -1, -1, -3, -1, -3, -3])) 6 3 460) 530 [-1, -3, -3, -3, -3, -3])) 7 3 530
def zlz3 (Z : zZ) : zZ := zLs [(530, .inl (5, [-1, 532, 533, 534, 535, 536])), (536, .inr (0, 24)), (535, .inr (0, 24)), (534, .inr (0, 24)), (533, .inr (0, 24)), (532, .inr (0, 24))] (zLs ((460, .inl (7, [-1, -1, 463, 464, 465, 466, 467, -1, 469, 470, 471, 472, 473, -1, -1, 476, -1, 478, 479])) :: (479, .inr (0, 11)) :: (478, .inr (0, 4)) :: (476, .inr (0, 1000)) :: (473, .inr (0, 8)) :: (472, .inr (0, 8)) :: (471, .inr (0, 8)) :: (470, .inr (0, 8)) :: (469, .inr (0, 8)) :: (467, .inr (0, 12)) :: (466, .inr (0, 12)) :: (465, .inr (0, 12)) :: (464, .inr (0, 12)) :: (463, .inr (0, 12)) :: []) Z)
theorem zlz3_B {Z : zZ} (hZ : zB Z) : zB (zlz3 Z) := zB_ls (zB_ls hZ rfl) rfl
theorem zlz3_S {Z : zZ} : zSU (zlz3 Z) 460 := List.forall_mem_cons.mpr ⟨rfl, List.forall_mem_cons.mpr ⟨rfl, List.forall_mem_cons.mpr ⟨rfl, List.forall_mem_cons.mpr ⟨rfl, List.forall_mem_cons.mpr ⟨rfl, List.forall_mem_cons.mpr ⟨rfl, List.forall_mem_cons.mpr ⟨rfl, List.forall_mem_cons.mpr ⟨rfl, List.forall_mem_cons.mpr ⟨rfl, List.forall_mem_cons.mpr ⟨rfl, List.forall_mem_cons.mpr ⟨rfl, List.forall_mem_cons.mpr ⟨rfl, List.forall_mem_cons.mpr ⟨rfl, List.forall_mem_cons.mpr ⟨rfl, fun _ h => nomatch h⟩⟩⟩⟩⟩⟩⟩⟩⟩⟩⟩⟩⟩⟩
theorem zlz3_P {Z : zZ} : zPI (zlz3 Z) 530 := List.forall_mem_cons.mpr ⟨rfl, List.forall_mem_cons.mpr ⟨rfl, List.forall_mem_cons.mpr ⟨rfl, List.forall_mem_cons.mpr ⟨rfl, List.forall_mem_cons.mpr ⟨rfl, List.forall_mem_cons.mpr ⟨rfl, fun _ h => nomatch h⟩⟩⟩⟩⟩⟩
set_option maxRecDepth 100000 in
set_option maxHeartbeats 4000000 in
theorem zla_3 {Z : zZ} (hZ : zB Z) {nn : Nat} (hn : 3 ≤ nn) (h7 : ∀ i ∈ (460 :: 463 :: 464 :: 465 :: 466 :: 467 :: 469 :: 470 :: 471 :: 472 :: 473 :: 476 :: 478 :: 479 :: [] : List Nat), Z i = none) (h5 : ∀ i ∈ (530 :: 532 :: 533 :: 534 :: 535 :: 536 :: [] : List Nat), Z i = none) (hU : Z 1000 = some (.inr (0, 11))) {M : zMem} (h6 : M 6 3 < 0) {Q : Option zAV → zMem → zZ → Prop} (h : zSat (fX11_lay_j44 460 530 3 (zlm3 M)) (fun r => Q (some (zI r.1)) r.2 (zlz3 Z))) : zV zmX11_lay nn 20 1260 Z 0 [(0, zR 0), (1, zI 3)] [] M Q := by
  have hZ1 : zB (zLs ((460, .inl (7, [-1, -1, 463, 464, 465, 466, 467, -1, 469, 470, 471, 472, 473, -1, -1, 476, -1, 478, 479])) :: (479, .inr (0, 11)) :: (478, .inr (0, 4)) :: (476, .inr (0, 1000)) :: (473, .inr (0, 8)) :: (472, .inr (0, 8)) :: (471, .inr (0, 8)) :: (470, .inr (0, 8)) :: (469, .inr (0, 8)) :: (467, .inr (0, 12)) :: (466, .inr (0, 12)) :: (465, .inr (0, 12)) :: (464, .inr (0, 12)) :: (463, .inr (0, 12)) :: []) Z) := zB_ls hZ rfl
  refine zV_aload_n 0 dX11_lay_0 rfl rfl ?_
  refine zV_getR (j := 6) (zq_0 hZ) zf_X11_5 zkf_X11_42 rfl dX11_lay_1 ?_
  refine zV_iload_n 1 dX11_lay_4 rfl rfl ?_
  refine zV_aaldN (zq_6 hZ) (Or.inl rfl) (by decide) h6 dX11_lay_5 ?_
  refine zV_nuN 18 dX11_lay_6 (by decide) ?_
  refine zV_aload_n 0 dX11_lay_18 rfl rfl ?_
  refine zV_getR (j := 6) (zq_0 hZ) zf_X11_5 zkf_X11_42 rfl dX11_lay_19 ?_
  refine zV_iload_n 1 dX11_lay_22 rfl rfl ?_
  refine zV_newo (kc := 19) (ks := 1241) (i := 460) (ci := 7) (N := 19) (raw := [-1, -1, -3, -3, -3, -3, -3, -1, -3, -3, -3, -3, -3, -1, -1, -3, -1, -3, -3]) (M' := zno M 460 [-1, -1, -3, -3, -3, -3, -3, -1, -3, -3, -3, -3, -3, -1, -1, -3, -1, -3, -3]) rfl zinX7 tyX7_ok zkx_X11_16 zkb_X7 zki_X7 (by decide) (h7 460 (by decide)) rfl (zno_r_X7_460 _) (zno_k_X7_460 _ _) (fun a b h => zno_ne h) dX11_lay_23 ?_
  refine zV_Z (zuz_ls _ _ _) ?_
  refine zV_dup dX11_lay_26 rfl ?_
  refine zV_callN (kc := 6) (ks := 126) (mc := 13) (ms := 1115) (n' := 1) (As := []) (Q' := fun r M1 Z1 => r = none ∧ M1 = zmI_X7_460 (zno M 460 [-1, -1, -3, -3, -3, -3, -3, -1, -3, -3, -3, -3, -3, -1, -1, -3, -1, -3, -3]) ∧ Z1 = zLs ((460, .inl (7, [-1, -1, 463, 464, 465, 466, 467, -1, 469, 470, 471, 472, 473, -1, -1, 476, -1, 478, 479])) :: (479, .inr (0, 11)) :: (478, .inr (0, 4)) :: (476, .inr (0, 1000)) :: (473, .inr (0, 8)) :: (472, .inr (0, 8)) :: (471, .inr (0, 8)) :: (470, .inr (0, 8)) :: (469, .inr (0, 8)) :: (467, .inr (0, 12)) :: (466, .inr (0, 12)) :: (465, .inr (0, 12)) :: (464, .inr (0, 12)) :: (463, .inr (0, 12)) :: []) Z) zc_X11_18 dX11_lay_27 (by omega) rfl (Nat.le_of_ble_eq_true rfl) (Nat.le_of_ble_eq_true rfl) rfl (zcI_X7_460 (Z := Z) (fun i hi => h7 i (List.mem_cons_of_mem _ hi)) hU (Nat.le_refl _) ⟨rfl, rfl, rfl⟩) ?_
  rintro _ _ _ _ ⟨rfl, rfl, rfl⟩
  refine zV_aast (i := 6) (t := 4) (n0 := 4) (c := 460) (ci := 7) (zq_6 hZ1) (Or.inl rfl) (by decide) (by decide) rfl rfl rfl dX11_lay_30 ?_
  refine zV_aload_n 0 dX11_lay_31 rfl rfl ?_
  refine zV_getR (j := 7) (zq_0 hZ1) zf_X11_6 zkf_X11_46 rfl dX11_lay_32 ?_
  refine zV_iload_n 1 dX11_lay_35 rfl rfl ?_
  refine zV_newo (kc := 5) (ks := 120) (i := 530) (ci := 5) (N := 6) (raw := [-1, -3, -3, -3, -3, -3]) (M' := zno (zup (zmI_X7_460 (zno M 460 [-1, -1, -3, -3, -3, -3, -3, -1, -3, -3, -3, -3, -3, -1, -1, -3, -1, -3, -3])) 6 3 460) 530 [-1, -3, -3, -3, -3, -3]) rfl zinX5 tyX5_ok zkx_X11_35 zkb_X5 zki_X5 (by decide) (by rw [zLs_n rfl]; exact h5 530 (by decide)) rfl (zno_r_X5_530 _) (zno_k_X5_530 _ _) (fun a b h => zno_ne h) dX11_lay_36 ?_
  refine zV_Z (zuz_ls _ _ _) ?_
  refine zV_dup dX11_lay_39 rfl ?_
  refine zV_callN (kc := 0) (ks := 0) (mc := 5) (ms := 120) (n' := 1) (As := []) (Q' := fun r M1 Z1 => r = none ∧ M1 = zmI_X5_530 (zno (zup (zmI_X7_460 (zno M 460 [-1, -1, -3, -3, -3, -3, -3, -1, -3, -3, -3, -3, -3, -1, -1, -3, -1, -3, -3])) 6 3 460) 530 [-1, -3, -3, -3, -3, -3]) ∧ Z1 = zLs [(530, .inl (5, [-1, 532, 533, 534, 535, 536])), (536, .inr (0, 24)), (535, .inr (0, 24)), (534, .inr (0, 24)), (533, .inr (0, 24)), (532, .inr (0, 24))] (zLs ((460, .inl (7, [-1, -1, 463, 464, 465, 466, 467, -1, 469, 470, 471, 472, 473, -1, -1, 476, -1, 478, 479])) :: (479, .inr (0, 11)) :: (478, .inr (0, 4)) :: (476, .inr (0, 1000)) :: (473, .inr (0, 8)) :: (472, .inr (0, 8)) :: (471, .inr (0, 8)) :: (470, .inr (0, 8)) :: (469, .inr (0, 8)) :: (467, .inr (0, 12)) :: (466, .inr (0, 12)) :: (465, .inr (0, 12)) :: (464, .inr (0, 12)) :: (463, .inr (0, 12)) :: []) Z)) zc_X11_37 dX11_lay_40 (by omega) rfl (Nat.le_of_ble_eq_true rfl) (Nat.le_of_ble_eq_true rfl) rfl (zcI_X5_530 (Z := zLs ((460, .inl (7, [-1, -1, 463, 464, 465, 466, 467, -1, 469, 470, 471, 472, 473, -1, -1, 476, -1, 478, 479])) :: (479, .inr (0, 11)) :: (478, .inr (0, 4)) :: (476, .inr (0, 1000)) :: (473, .inr (0, 8)) :: (472, .inr (0, 8)) :: (471, .inr (0, 8)) :: (470, .inr (0, 8)) :: (469, .inr (0, 8)) :: (467, .inr (0, 12)) :: (466, .inr (0, 12)) :: (465, .inr (0, 12)) :: (464, .inr (0, 12)) :: (463, .inr (0, 12)) :: []) Z) (List.forall_mem_cons.mpr ⟨(by rw [zLs_n rfl]; exact h5 532 (by decide)), List.forall_mem_cons.mpr ⟨(by rw [zLs_n rfl]; exact h5 533 (by decide)), List.forall_mem_cons.mpr ⟨(by rw [zLs_n rfl]; exact h5 534 (by decide)), List.forall_mem_cons.mpr ⟨(by rw [zLs_n rfl]; exact h5 535 (by decide)), List.forall_mem_cons.mpr ⟨(by rw [zLs_n rfl]; exact h5 536 (by decide)), fun _ h => nomatch h⟩⟩⟩⟩⟩) (Nat.le_refl _) ⟨rfl, rfl, rfl⟩) ?_
  rintro _ _ _ _ ⟨rfl, rfl, rfl⟩
  refine zV_aast (i := 7) (t := 5) (n0 := 4) (c := 530) (ci := 5) (zq_7 (zlz3_B hZ)) (Or.inr rfl) (by decide) (by decide) rfl rfl rfl dX11_lay_43 ?_
  exact fX11_lay_j44_ok (zlz3_B hZ) hn zlz3_S (by decide) zlz3_P (by decide) ⟨by decide, by decide⟩ h
end MK1
