def zno (M : zMem) (i : Nat) (raw : List Int) : zMem := fun a b => if a = i then (if raw.getD b.toNat (-1) = -3 then -1 else 0) else M a b
theorem zno_ne {M : zMem} {i a : Nat} {raw : List Int} {b : Int} (h : a ≠ i) : zno M i raw a b = M a b := by unfold zno; rw [if_neg h]
theorem zV_cst {y : zMI} {n kc ks : Nat} {Z : zZ} {pc : Nat} {ls : List (Nat × zAV)} {st : List zAV} {M : zMem} {Q : Option zAV → zMem → zZ → Prop} {x v : Int} (h : x = v) (k : zV y n kc ks Z pc ls (zI v :: st) M Q) : zV y n kc ks Z pc ls (zI x :: st) M Q := by subst h; exact k
theorem zkm_X11_1 : Cond.methodLink RX11 1 Lib.objectInit ∈ zT := zT_inc (i := 32) zL_1 rfl rfl
theorem zkn_Obj : Cond.instanceMethod Lib.objectInit ∈ zT := zT_inc (i := 33) zL_1 rfl rfl
theorem zkc_Obj : Cond.code Lib.objectInit ⟨#[0xb1]⟩ 1 none ∈ zT := zT_inc (i := 34) zL_1 rfl rfl
theorem zkx_X11_7 : Cond.classLink RX11 7 RX8 ∈ zT := zT_inc (i := 35) zL_1 rfl rfl
theorem zkb_X8 : Cond.instantiable RX8 4 ∈ zT := zT_inc (i := 36) zL_1 rfl rfl
theorem zkm_X8_3 : Cond.methodLink RX8 3 Lib.objectInit ∈ zT := zT_inc (i := 40) zL_1 rfl rfl
theorem zkc_X8_init : Cond.code yX8_init cX8_init 1 none ∈ zT := zT_inc (i := 39) zL_1 rfl rfl
theorem zkn_X8_init : Cond.instanceMethod yX8_init ∈ zT := zT_inc (i := 38) zL_1 rfl rfl
theorem zkx_X11_16 : Cond.classLink RX11 16 "GlassSpindle$Setup" ∈ zT := zT_inc (i := 57) zL_1 rfl rfl
theorem zkb_X7 : Cond.instantiable RX7 19 ∈ zT := zT_inc (i := 58) zL_1 rfl rfl
theorem zkm_X7_3 : Cond.methodLink RX7 3 Lib.objectInit ∈ zT := zT_inc (i := 62) zL_1 rfl rfl
theorem zkm_X7_51 : Cond.methodLink RX7 51 ⟨"[I", "clone", "()Ljava/lang/Object;"⟩ ∈ zT := zT_inc (i := 65) zL_1 rfl rfl
theorem zka_cn : Cond.native ⟨"java/lang/Object", "clone", "()Ljava/lang/Object;"⟩ ∈ zT := zT_inc (i := 67) zL_1 rfl rfl
theorem zka_ci : Cond.instanceMethod ⟨"java/lang/Object", "clone", "()Ljava/lang/Object;"⟩ ∈ zT := zT_inc (i := 68) zL_1 rfl rfl
theorem zkx_X7_52 : Cond.classLink RX7 52 "[I" ∈ zT := zT_inc (i := 71) zL_1 rfl rfl
theorem zkc_X7_init : Cond.code yX7_init cX7_init 1 none ∈ zT := zT_inc (i := 61) zL_1 rfl rfl
theorem zkn_X7_init : Cond.instanceMethod yX7_init ∈ zT := zT_inc (i := 60) zL_1 rfl rfl
theorem zkx_X11_26 : Cond.classLink RX11 26 RX6 ∈ zT := zT_inc (i := 180) zL_1 rfl rfl
theorem zkb_X6 : Cond.instantiable RX6 6 ∈ zT := zT_inc (i := 181) zL_1 rfl rfl
theorem zkm_X6_3 : Cond.methodLink RX6 3 Lib.objectInit ∈ zT := zT_inc (i := 185) zL_1 rfl rfl
theorem zkc_X6_init : Cond.code yX6_init cX6_init 3 none ∈ zT := zT_inc (i := 184) zL_1 rfl rfl
theorem zkn_X6_init : Cond.instanceMethod yX6_init ∈ zT := zT_inc (i := 183) zL_1 rfl rfl
theorem zkm_X11_28 : Cond.methodLink RX11 28 yX6_init ∈ zT := zT_inc (i := 182) zL_1 rfl rfl
theorem zkx_X11_35 : Cond.classLink RX11 35 "GlassSpindle$Piece" ∈ zT := zT_inc (i := 205) zL_1 rfl rfl
theorem zkb_X5 : Cond.instantiable RX5 6 ∈ zT := zT_inc (i := 206) zL_1 rfl rfl
theorem zkm_X5_3 : Cond.methodLink RX5 3 Lib.objectInit ∈ zT := zT_inc (i := 210) zL_1 rfl rfl
theorem zkc_X5_init : Cond.code yX5_init cX5_init 1 none ∈ zT := zT_inc (i := 209) zL_1 rfl rfl
theorem zkn_X5_init : Cond.instanceMethod yX5_init ∈ zT := zT_inc (i := 208) zL_1 rfl rfl
theorem zkx_X11_50 : Cond.classLink RX11 50 RX10 ∈ zT := zT_inc (i := 14) zL_2 rfl rfl
theorem zkb_X10 : Cond.instantiable RX10 6 ∈ zT := zT_inc (i := 15) zL_2 rfl rfl
theorem zkm_X10_3 : Cond.methodLink RX10 3 Lib.objectInit ∈ zT := zT_inc (i := 19) zL_2 rfl rfl
theorem zkc_X10_init : Cond.code yX10_init cX10_init 3 none ∈ zT := zT_inc (i := 18) zL_2 rfl rfl
theorem zkn_X10_init : Cond.instanceMethod yX10_init ∈ zT := zT_inc (i := 17) zL_2 rfl rfl
theorem zkm_X11_52 : Cond.methodLink RX11 52 yX10_init ∈ zT := zT_inc (i := 16) zL_2 rfl rfl
theorem zkx_X11_59 : Cond.classLink RX11 59 RX2 ∈ zT := zT_inc (i := 40) zL_2 rfl rfl
theorem zkb_X2 : Cond.instantiable RX2 2 ∈ zT := zT_inc (i := 41) zL_2 rfl rfl
theorem zkm_X2_3 : Cond.methodLink RX2 3 Lib.objectInit ∈ zT := zT_inc (i := 45) zL_2 rfl rfl
theorem zkc_X2_init : Cond.code yX2_init cX2_init 3 none ∈ zT := zT_inc (i := 44) zL_2 rfl rfl
theorem zkn_X2_init : Cond.instanceMethod yX2_init ∈ zT := zT_inc (i := 43) zL_2 rfl rfl
theorem zkm_X11_61 : Cond.methodLink RX11 61 yX2_init ∈ zT := zT_inc (i := 42) zL_2 rfl rfl
theorem zkx_X11_66 : Cond.classLink RX11 66 RX9 ∈ zT := zT_inc (i := 53) zL_2 rfl rfl
theorem zkb_X9 : Cond.instantiable RX9 8 ∈ zT := zT_inc (i := 54) zL_2 rfl rfl
theorem zkm_X9_3 : Cond.methodLink RX9 3 Lib.objectInit ∈ zT := zT_inc (i := 58) zL_2 rfl rfl
theorem zkx_X9_34 : Cond.classLink RX9 34 RX3 ∈ zT := zT_inc (i := 59) zL_2 rfl rfl
theorem zkb_X3 : Cond.instantiable RX3 3 ∈ zT := zT_inc (i := 60) zL_2 rfl rfl
theorem zkm_X3_3 : Cond.methodLink RX3 3 Lib.objectInit ∈ zT := zT_inc (i := 64) zL_2 rfl rfl
theorem zkc_X3_init : Cond.code yX3_init cX3_init 2 none ∈ zT := zT_inc (i := 63) zL_2 rfl rfl
theorem zkn_X3_init : Cond.instanceMethod yX3_init ∈ zT := zT_inc (i := 62) zL_2 rfl rfl
theorem zkm_X9_36 : Cond.methodLink RX9 36 yX3_init ∈ zT := zT_inc (i := 61) zL_2 rfl rfl
theorem zkc_X9_init : Cond.code yX9_init cX9_init 5 none ∈ zT := zT_inc (i := 57) zL_2 rfl rfl
theorem zkn_X9_init : Cond.instanceMethod yX9_init ∈ zT := zT_inc (i := 56) zL_2 rfl rfl
theorem zkm_X11_68 : Cond.methodLink RX11 68 yX9_init ∈ zT := zT_inc (i := 55) zL_2 rfl rfl
theorem zkx_X11_75 : Cond.classLink RX11 75 RX0 ∈ zT := zT_inc (i := 113) zL_2 rfl rfl
theorem zkb_X0 : Cond.instantiable RX0 11 ∈ zT := zT_inc (i := 114) zL_2 rfl rfl
theorem zkm_X0_3 : Cond.methodLink RX0 3 Lib.objectInit ∈ zT := zT_inc (i := 118) zL_2 rfl rfl
theorem zkc_X0_init : Cond.code yX0_init cX0_init 4 none ∈ zT := zT_inc (i := 117) zL_2 rfl rfl
theorem zkn_X0_init : Cond.instanceMethod yX0_init ∈ zT := zT_inc (i := 116) zL_2 rfl rfl
theorem zkm_X11_77 : Cond.methodLink RX11 77 yX0_init ∈ zT := zT_inc (i := 115) zL_2 rfl rfl
theorem zkx_X11_84 : Cond.classLink RX11 84 RX1 ∈ zT := zT_inc (i := 154) zL_2 rfl rfl
theorem zkb_X1 : Cond.instantiable RX1 14 ∈ zT := zT_inc (i := 155) zL_2 rfl rfl
theorem zkm_X1_3 : Cond.methodLink RX1 3 Lib.objectInit ∈ zT := zT_inc (i := 159) zL_2 rfl rfl
theorem zkc_X1_init : Cond.code yX1_init cX1_init 2 none ∈ zT := zT_inc (i := 158) zL_2 rfl rfl
theorem zkn_X1_init : Cond.instanceMethod yX1_init ∈ zT := zT_inc (i := 157) zL_2 rfl rfl
theorem zkm_X11_86 : Cond.methodLink RX11 86 yX1_init ∈ zT := zT_inc (i := 156) zL_2 rfl rfl
theorem zkx_X11_93 : Cond.classLink RX11 93 RX4 ∈ zT := zT_inc (i := 205) zL_2 rfl rfl
theorem zkb_X4 : Cond.instantiable RX4 8 ∈ zT := zT_inc (i := 206) zL_2 rfl rfl
theorem zkm_X4_3 : Cond.methodLink RX4 3 Lib.objectInit ∈ zT := zT_inc (i := 210) zL_2 rfl rfl
theorem zkc_X4_init : Cond.code yX4_init cX4_init 3 none ∈ zT := zT_inc (i := 209) zL_2 rfl rfl
theorem zkn_X4_init : Cond.instanceMethod yX4_init ∈ zT := zT_inc (i := 208) zL_2 rfl rfl
theorem zkm_X11_95 : Cond.methodLink RX11 95 yX4_init ∈ zT := zT_inc (i := 207) zL_2 rfl rfl
theorem zkm_X12_1 : Cond.methodLink RX12 1 Lib.objectInit ∈ zT := zT_inc (i := 209) zL_6 rfl rfl
abbrev zmX8_init : zMI := (yX8_init, cX8_init, 1, none)
abbrev zmX6_init : zMI := (yX6_init, cX6_init, 3, none)
abbrev zmX7_init : zMI := (yX7_init, cX7_init, 1, none)
abbrev zmX5_init : zMI := (yX5_init, cX5_init, 1, none)
abbrev zmX10_init : zMI := (yX10_init, cX10_init, 3, none)
abbrev zmX2_init : zMI := (yX2_init, cX2_init, 3, none)
abbrev zmX3_init : zMI := (yX3_init, cX3_init, 2, none)
abbrev zmX9_init : zMI := (yX9_init, cX9_init, 5, none)
abbrev zmX0_init : zMI := (yX0_init, cX0_init, 4, none)
abbrev zmX1_init : zMI := (yX1_init, cX1_init, 2, none)
abbrev zmX4_init : zMI := (yX4_init, cX4_init, 3, none)
abbrev zmX11_init : zMI := (yX11_init, cX11_init, 1, none)
abbrev zmX12_init : zMI := (yX12_init, cX12_init, 2, none)
theorem zmw_X8_init : zMW zmX8_init 0 := ⟨zkc_X8_init, zki_X8, by decide +kernel, by decide +kernel, by decide⟩
theorem zmw_X7_init : zMW zmX7_init 0 := ⟨zkc_X7_init, zki_X7, by decide +kernel, by decide +kernel, by decide⟩
theorem zmw_X6_init : zMW zmX6_init 2 := ⟨zkc_X6_init, zki_X6, by decide +kernel, by decide +kernel, by decide⟩
theorem zmw_X5_init : zMW zmX5_init 0 := ⟨zkc_X5_init, zki_X5, by decide +kernel, by decide +kernel, by decide⟩
theorem zmw_X10_init : zMW zmX10_init 2 := ⟨zkc_X10_init, zki_X10, by decide +kernel, by decide +kernel, by decide⟩
theorem zmw_X2_init : zMW zmX2_init 2 := ⟨zkc_X2_init, zki_X2, by decide +kernel, by decide +kernel, by decide⟩
theorem zmw_X3_init : zMW zmX3_init 1 := ⟨zkc_X3_init, zki_X3, by decide +kernel, by decide +kernel, by decide⟩
theorem zmw_X9_init : zMW zmX9_init 4 := ⟨zkc_X9_init, zki_X9, by decide +kernel, by decide +kernel, by decide⟩
theorem zmw_X0_init : zMW zmX0_init 3 := ⟨zkc_X0_init, zki_X0, by decide +kernel, by decide +kernel, by decide⟩
theorem zmw_X1_init : zMW zmX1_init 1 := ⟨zkc_X1_init, zki_X1, by decide +kernel, by decide +kernel, by decide⟩
theorem zmw_X4_init : zMW zmX4_init 2 := ⟨zkc_X4_init, zki_X4, by decide +kernel, by decide +kernel, by decide⟩
theorem zc_X11_9 : zCN RX11 9 zmX8_init 0 := ⟨⟨"GlassSpindle", List.mem_of_getElem? (i := 161) (by decide +kernel)⟩, zkn_X8_init, rfl, rfl, zmw_X8_init⟩
theorem zc_X11_18 : zCN RX11 18 zmX7_init 0 := ⟨⟨"GlassSpindle", List.mem_of_getElem? (i := 183) (by decide +kernel)⟩, zkn_X7_init, rfl, rfl, zmw_X7_init⟩
theorem zc_X11_28 : zCI RX11 28 zmX6_init 2 := ⟨zkm_X11_28, zkn_X6_init, rfl, rfl, zmw_X6_init⟩
theorem zc_X11_37 : zCN RX11 37 zmX5_init 0 := ⟨⟨"GlassSpindle", List.mem_of_getElem? (i := 331) (by decide +kernel)⟩, zkn_X5_init, rfl, rfl, zmw_X5_init⟩
theorem zc_X11_52 : zCI RX11 52 zmX10_init 2 := ⟨zkm_X11_52, zkn_X10_init, rfl, rfl, zmw_X10_init⟩
theorem zc_X11_61 : zCI RX11 61 zmX2_init 2 := ⟨zkm_X11_61, zkn_X2_init, rfl, rfl, zmw_X2_init⟩
theorem zc_X9_36 : zCI RX9 36 zmX3_init 1 := ⟨zkm_X9_36, zkn_X3_init, rfl, rfl, zmw_X3_init⟩
theorem zc_X11_68 : zCI RX11 68 zmX9_init 4 := ⟨zkm_X11_68, zkn_X9_init, rfl, rfl, zmw_X9_init⟩
theorem zc_X11_77 : zCI RX11 77 zmX0_init 3 := ⟨zkm_X11_77, zkn_X0_init, rfl, rfl, zmw_X0_init⟩
theorem zc_X11_86 : zCI RX11 86 zmX1_init 1 := ⟨zkm_X11_86, zkn_X1_init, rfl, rfl, zmw_X1_init⟩
theorem zc_X11_95 : zCI RX11 95 zmX4_init 2 := ⟨zkm_X11_95, zkn_X4_init, rfl, rfl, zmw_X4_init⟩
theorem zka_int : Cond.arrayClass (zty 0) ∈ zT := zT_inc (i := 56) zL_1 rfl rfl
theorem zka_char : Cond.arrayClass (zty 1) ∈ zT := zT_inc (i := 55) zL_1 rfl rfl
theorem zka_boolean : Cond.arrayClass (zty 2) ∈ zT := zT_inc (i := 163) zL_7 rfl rfl
theorem zka_long : Cond.arrayClass (zty 3) ∈ zT := zT_inc (i := 204) zL_2 rfl rfl
theorem zoi_X11 : Cond.methodLink RX11 1 Lib.objectInit ∈ zT ∧ Cond.instanceMethod Lib.objectInit ∈ zT ∧ Cond.code Lib.objectInit ⟨#[0xb1]⟩ 1 none ∈ zT := ⟨zkm_X11_1, zkn_Obj, zkc_Obj⟩
set_option maxRecDepth 100000 in
theorem zno_r_X8_20 (M : zMem) : ∀ k, k < 4 → (([-3, -1, -3, -1] : List Int).getD k (-1) = -1 ∨ ([-3, -1, -3, -1] : List Int).getD k (-1) = -2 ∨ ([-3, -1, -3, -1] : List Int).getD k (-1) = -3) ∧ ∀ ad : Nat → Nat, defaultValue (tyX8 k) = zsv ad (([-3, -1, -3, -1] : List Int).getD k (-1)) (zno M 20 [-3, -1, -3, -1] 20 k) := by
  intro k hk
  rcases (show k = 0 ∨ k = 1 ∨ k = 2 ∨ k = 3 by omega) with rfl | rfl | rfl | rfl <;> exact ⟨by decide, fun _ => rfl⟩
set_option maxRecDepth 100000 in
theorem zno_k_X8_20 (M : zMem) (Z : zZ) : ∀ k : Nat, k < 4 → zkan Z (([-3, -1, -3, -1] : List Int).getD k (-1)) (zno M 20 [-3, -1, -3, -1] 20 k) := by
  intro k hk
  rcases (show k = 0 ∨ k = 1 ∨ k = 2 ∨ k = 3 by omega) with rfl | rfl | rfl | rfl <;> first | exact z32_0 | exact z64_0 | exact Or.inl (show (-1 : Int) < 0 by decide)
theorem zoi_X8 : Cond.methodLink RX8 3 Lib.objectInit ∈ zT ∧ Cond.instanceMethod Lib.objectInit ∈ zT ∧ Cond.code Lib.objectInit ⟨#[0xb1]⟩ 1 none ∈ zT := ⟨zkm_X8_3, zkn_Obj, zkc_Obj⟩
set_option maxRecDepth 100000 in
theorem zno_r_X7_40 (M : zMem) : ∀ k, k < 19 → (([-1, -1, -3, -3, -3, -3, -3, -1, -3, -3, -3, -3, -3, -1, -1, -3, -1, -3, -3] : List Int).getD k (-1) = -1 ∨ ([-1, -1, -3, -3, -3, -3, -3, -1, -3, -3, -3, -3, -3, -1, -1, -3, -1, -3, -3] : List Int).getD k (-1) = -2 ∨ ([-1, -1, -3, -3, -3, -3, -3, -1, -3, -3, -3, -3, -3, -1, -1, -3, -1, -3, -3] : List Int).getD k (-1) = -3) ∧ ∀ ad : Nat → Nat, defaultValue (tyX7 k) = zsv ad (([-1, -1, -3, -3, -3, -3, -3, -1, -3, -3, -3, -3, -3, -1, -1, -3, -1, -3, -3] : List Int).getD k (-1)) (zno M 40 [-1, -1, -3, -3, -3, -3, -3, -1, -3, -3, -3, -3, -3, -1, -1, -3, -1, -3, -3] 40 k) := by
  intro k hk
  rcases (show k = 0 ∨ k = 1 ∨ k = 2 ∨ k = 3 ∨ k = 4 ∨ k = 5 ∨ k = 6 ∨ k = 7 ∨ k = 8 ∨ k = 9 ∨ k = 10 ∨ k = 11 ∨ k = 12 ∨ k = 13 ∨ k = 14 ∨ k = 15 ∨ k = 16 ∨ k = 17 ∨ k = 18 by omega) with rfl | rfl | rfl | rfl | rfl | rfl | rfl | rfl | rfl | rfl | rfl | rfl | rfl | rfl | rfl | rfl | rfl | rfl | rfl <;> exact ⟨by decide, fun _ => rfl⟩
set_option maxRecDepth 100000 in
theorem zno_k_X7_40 (M : zMem) (Z : zZ) : ∀ k : Nat, k < 19 → zkan Z (([-1, -1, -3, -3, -3, -3, -3, -1, -3, -3, -3, -3, -3, -1, -1, -3, -1, -3, -3] : List Int).getD k (-1)) (zno M 40 [-1, -1, -3, -3, -3, -3, -3, -1, -3, -3, -3, -3, -3, -1, -1, -3, -1, -3, -3] 40 k) := by
  intro k hk
  rcases (show k = 0 ∨ k = 1 ∨ k = 2 ∨ k = 3 ∨ k = 4 ∨ k = 5 ∨ k = 6 ∨ k = 7 ∨ k = 8 ∨ k = 9 ∨ k = 10 ∨ k = 11 ∨ k = 12 ∨ k = 13 ∨ k = 14 ∨ k = 15 ∨ k = 16 ∨ k = 17 ∨ k = 18 by omega) with rfl | rfl | rfl | rfl | rfl | rfl | rfl | rfl | rfl | rfl | rfl | rfl | rfl | rfl | rfl | rfl | rfl | rfl | rfl <;> first | exact z32_0 | exact z64_0 | exact Or.inl (show (-1 : Int) < 0 by decide)
theorem zoi_X7 : Cond.methodLink RX7 3 Lib.objectInit ∈ zT ∧ Cond.instanceMethod Lib.objectInit ∈ zT ∧ Cond.code Lib.objectInit ⟨#[0xb1]⟩ 1 none ∈ zT := ⟨zkm_X7_3, zkn_Obj, zkc_Obj⟩
theorem zcw_clone : Cond.methodLink RX7 51 ⟨"[I", "clone", "()Ljava/lang/Object;"⟩ ∈ zT ∧ Cond.sameMethod "[I" "java/lang/Object" "clone" "()Ljava/lang/Object;" ∈ zT ∧ Cond.native ⟨"java/lang/Object", "clone", "()Ljava/lang/Object;"⟩ ∈ zT ∧ Cond.instanceMethod ⟨"java/lang/Object", "clone", "()Ljava/lang/Object;"⟩ ∈ zT ∧ Cond.selects "[I" ⟨"[I", "clone", "()Ljava/lang/Object;"⟩ ⟨"java/lang/Object", "clone", "()Ljava/lang/Object;"⟩ ∈ zT ∧ Cond.classLink RX7 52 "[I" ∈ zT := ⟨zkm_X7_51, zT_inc (i := 66) zL_1 rfl rfl, zka_cn, zka_ci, zT_inc (i := 69) zL_1 rfl rfl, zkx_X7_52⟩
theorem zcw_cast : Cond.castable "[I" "java/lang/Cloneable" ∈ lw_tbl := zL_1 _ (List.mem_of_getElem? (i := 70) rfl)
set_option maxRecDepth 100000 in
theorem zno_r_X7_60 (M : zMem) : ∀ k, k < 19 → (([-1, -1, -3, -3, -3, -3, -3, -1, -3, -3, -3, -3, -3, -1, -1, -3, -1, -3, -3] : List Int).getD k (-1) = -1 ∨ ([-1, -1, -3, -3, -3, -3, -3, -1, -3, -3, -3, -3, -3, -1, -1, -3, -1, -3, -3] : List Int).getD k (-1) = -2 ∨ ([-1, -1, -3, -3, -3, -3, -3, -1, -3, -3, -3, -3, -3, -1, -1, -3, -1, -3, -3] : List Int).getD k (-1) = -3) ∧ ∀ ad : Nat → Nat, defaultValue (tyX7 k) = zsv ad (([-1, -1, -3, -3, -3, -3, -3, -1, -3, -3, -3, -3, -3, -1, -1, -3, -1, -3, -3] : List Int).getD k (-1)) (zno M 60 [-1, -1, -3, -3, -3, -3, -3, -1, -3, -3, -3, -3, -3, -1, -1, -3, -1, -3, -3] 60 k) := by
  intro k hk
  rcases (show k = 0 ∨ k = 1 ∨ k = 2 ∨ k = 3 ∨ k = 4 ∨ k = 5 ∨ k = 6 ∨ k = 7 ∨ k = 8 ∨ k = 9 ∨ k = 10 ∨ k = 11 ∨ k = 12 ∨ k = 13 ∨ k = 14 ∨ k = 15 ∨ k = 16 ∨ k = 17 ∨ k = 18 by omega) with rfl | rfl | rfl | rfl | rfl | rfl | rfl | rfl | rfl | rfl | rfl | rfl | rfl | rfl | rfl | rfl | rfl | rfl | rfl <;> exact ⟨by decide, fun _ => rfl⟩
set_option maxRecDepth 100000 in
theorem zno_k_X7_60 (M : zMem) (Z : zZ) : ∀ k : Nat, k < 19 → zkan Z (([-1, -1, -3, -3, -3, -3, -3, -1, -3, -3, -3, -3, -3, -1, -1, -3, -1, -3, -3] : List Int).getD k (-1)) (zno M 60 [-1, -1, -3, -3, -3, -3, -3, -1, -3, -3, -3, -3, -3, -1, -1, -3, -1, -3, -3] 60 k) := by
  intro k hk
  rcases (show k = 0 ∨ k = 1 ∨ k = 2 ∨ k = 3 ∨ k = 4 ∨ k = 5 ∨ k = 6 ∨ k = 7 ∨ k = 8 ∨ k = 9 ∨ k = 10 ∨ k = 11 ∨ k = 12 ∨ k = 13 ∨ k = 14 ∨ k = 15 ∨ k = 16 ∨ k = 17 ∨ k = 18 by omega) with rfl | rfl | rfl | rfl | rfl | rfl | rfl | rfl | rfl | rfl | rfl | rfl | rfl | rfl | rfl | rfl | rfl | rfl | rfl <;> first | exact z32_0 | exact z64_0 | exact Or.inl (show (-1 : Int) < 0 by decide)
set_option maxRecDepth 100000 in
theorem zno_r_X6_30 (M : zMem) : ∀ k, k < 6 → (([-3, -3, -3, -1, -1, -1] : List Int).getD k (-1) = -1 ∨ ([-3, -3, -3, -1, -1, -1] : List Int).getD k (-1) = -2 ∨ ([-3, -3, -3, -1, -1, -1] : List Int).getD k (-1) = -3) ∧ ∀ ad : Nat → Nat, defaultValue (tyX6 k) = zsv ad (([-3, -3, -3, -1, -1, -1] : List Int).getD k (-1)) (zno M 30 [-3, -3, -3, -1, -1, -1] 30 k) := by
  intro k hk
  rcases (show k = 0 ∨ k = 1 ∨ k = 2 ∨ k = 3 ∨ k = 4 ∨ k = 5 by omega) with rfl | rfl | rfl | rfl | rfl | rfl <;> exact ⟨by decide, fun _ => rfl⟩
set_option maxRecDepth 100000 in
theorem zno_k_X6_30 (M : zMem) (Z : zZ) : ∀ k : Nat, k < 6 → zkan Z (([-3, -3, -3, -1, -1, -1] : List Int).getD k (-1)) (zno M 30 [-3, -3, -3, -1, -1, -1] 30 k) := by
  intro k hk
  rcases (show k = 0 ∨ k = 1 ∨ k = 2 ∨ k = 3 ∨ k = 4 ∨ k = 5 by omega) with rfl | rfl | rfl | rfl | rfl | rfl <;> first | exact z32_0 | exact z64_0 | exact Or.inl (show (-1 : Int) < 0 by decide)
theorem zoi_X6 : Cond.methodLink RX6 3 Lib.objectInit ∈ zT ∧ Cond.instanceMethod Lib.objectInit ∈ zT ∧ Cond.code Lib.objectInit ⟨#[0xb1]⟩ 1 none ∈ zT := ⟨zkm_X6_3, zkn_Obj, zkc_Obj⟩
set_option maxRecDepth 100000 in
theorem zno_r_X5_80 (M : zMem) : ∀ k, k < 6 → (([-1, -3, -3, -3, -3, -3] : List Int).getD k (-1) = -1 ∨ ([-1, -3, -3, -3, -3, -3] : List Int).getD k (-1) = -2 ∨ ([-1, -3, -3, -3, -3, -3] : List Int).getD k (-1) = -3) ∧ ∀ ad : Nat → Nat, defaultValue (tyX5 k) = zsv ad (([-1, -3, -3, -3, -3, -3] : List Int).getD k (-1)) (zno M 80 [-1, -3, -3, -3, -3, -3] 80 k) := by
  intro k hk
  rcases (show k = 0 ∨ k = 1 ∨ k = 2 ∨ k = 3 ∨ k = 4 ∨ k = 5 by omega) with rfl | rfl | rfl | rfl | rfl | rfl <;> exact ⟨by decide, fun _ => rfl⟩
set_option maxRecDepth 100000 in
theorem zno_k_X5_80 (M : zMem) (Z : zZ) : ∀ k : Nat, k < 6 → zkan Z (([-1, -3, -3, -3, -3, -3] : List Int).getD k (-1)) (zno M 80 [-1, -3, -3, -3, -3, -3] 80 k) := by
  intro k hk
  rcases (show k = 0 ∨ k = 1 ∨ k = 2 ∨ k = 3 ∨ k = 4 ∨ k = 5 by omega) with rfl | rfl | rfl | rfl | rfl | rfl <;> first | exact z32_0 | exact z64_0 | exact Or.inl (show (-1 : Int) < 0 by decide)
theorem zoi_X5 : Cond.methodLink RX5 3 Lib.objectInit ∈ zT ∧ Cond.instanceMethod Lib.objectInit ∈ zT ∧ Cond.code Lib.objectInit ⟨#[0xb1]⟩ 1 none ∈ zT := ⟨zkm_X5_3, zkn_Obj, zkc_Obj⟩
set_option maxRecDepth 100000 in
theorem zno_r_X10_90 (M : zMem) : ∀ k, k < 6 → (([-3, -3, -3, -3, -3, -1] : List Int).getD k (-1) = -1 ∨ ([-3, -3, -3, -3, -3, -1] : List Int).getD k (-1) = -2 ∨ ([-3, -3, -3, -3, -3, -1] : List Int).getD k (-1) = -3) ∧ ∀ ad : Nat → Nat, defaultValue (tyX10 k) = zsv ad (([-3, -3, -3, -3, -3, -1] : List Int).getD k (-1)) (zno M 90 [-3, -3, -3, -3, -3, -1] 90 k) := by
  intro k hk
  rcases (show k = 0 ∨ k = 1 ∨ k = 2 ∨ k = 3 ∨ k = 4 ∨ k = 5 by omega) with rfl | rfl | rfl | rfl | rfl | rfl <;> exact ⟨by decide, fun _ => rfl⟩
set_option maxRecDepth 100000 in
theorem zno_k_X10_90 (M : zMem) (Z : zZ) : ∀ k : Nat, k < 6 → zkan Z (([-3, -3, -3, -3, -3, -1] : List Int).getD k (-1)) (zno M 90 [-3, -3, -3, -3, -3, -1] 90 k) := by
  intro k hk
  rcases (show k = 0 ∨ k = 1 ∨ k = 2 ∨ k = 3 ∨ k = 4 ∨ k = 5 by omega) with rfl | rfl | rfl | rfl | rfl | rfl <;> first | exact z32_0 | exact z64_0 | exact Or.inl (show (-1 : Int) < 0 by decide)
theorem zoi_X10 : Cond.methodLink RX10 3 Lib.objectInit ∈ zT ∧ Cond.instanceMethod Lib.objectInit ∈ zT ∧ Cond.code Lib.objectInit ⟨#[0xb1]⟩ 1 none ∈ zT := ⟨zkm_X10_3, zkn_Obj, zkc_Obj⟩
set_option maxRecDepth 100000 in
theorem zno_r_X2_100 (M : zMem) : ∀ k, k < 2 → (([-3, -3] : List Int).getD k (-1) = -1 ∨ ([-3, -3] : List Int).getD k (-1) = -2 ∨ ([-3, -3] : List Int).getD k (-1) = -3) ∧ ∀ ad : Nat → Nat, defaultValue (tyX2 k) = zsv ad (([-3, -3] : List Int).getD k (-1)) (zno M 100 [-3, -3] 100 k) := by
  intro k hk
  rcases (show k = 0 ∨ k = 1 by omega) with rfl | rfl <;> exact ⟨by decide, fun _ => rfl⟩
set_option maxRecDepth 100000 in
theorem zno_k_X2_100 (M : zMem) (Z : zZ) : ∀ k : Nat, k < 2 → zkan Z (([-3, -3] : List Int).getD k (-1)) (zno M 100 [-3, -3] 100 k) := by
  intro k hk
  rcases (show k = 0 ∨ k = 1 by omega) with rfl | rfl <;> first | exact z32_0 | exact z64_0 | exact Or.inl (show (-1 : Int) < 0 by decide)
theorem zoi_X2 : Cond.methodLink RX2 3 Lib.objectInit ∈ zT ∧ Cond.instanceMethod Lib.objectInit ∈ zT ∧ Cond.code Lib.objectInit ⟨#[0xb1]⟩ 1 none ∈ zT := ⟨zkm_X2_3, zkn_Obj, zkc_Obj⟩
set_option maxRecDepth 100000 in
theorem zno_r_X9_110 (M : zMem) : ∀ k, k < 8 → (([-3, -3, -3, -3, -3, -3, -3, -1] : List Int).getD k (-1) = -1 ∨ ([-3, -3, -3, -3, -3, -3, -3, -1] : List Int).getD k (-1) = -2 ∨ ([-3, -3, -3, -3, -3, -3, -3, -1] : List Int).getD k (-1) = -3) ∧ ∀ ad : Nat → Nat, defaultValue (tyX9 k) = zsv ad (([-3, -3, -3, -3, -3, -3, -3, -1] : List Int).getD k (-1)) (zno M 110 [-3, -3, -3, -3, -3, -3, -3, -1] 110 k) := by
  intro k hk
  rcases (show k = 0 ∨ k = 1 ∨ k = 2 ∨ k = 3 ∨ k = 4 ∨ k = 5 ∨ k = 6 ∨ k = 7 by omega) with rfl | rfl | rfl | rfl | rfl | rfl | rfl | rfl <;> exact ⟨by decide, fun _ => rfl⟩
set_option maxRecDepth 100000 in
theorem zno_k_X9_110 (M : zMem) (Z : zZ) : ∀ k : Nat, k < 8 → zkan Z (([-3, -3, -3, -3, -3, -3, -3, -1] : List Int).getD k (-1)) (zno M 110 [-3, -3, -3, -3, -3, -3, -3, -1] 110 k) := by
  intro k hk
  rcases (show k = 0 ∨ k = 1 ∨ k = 2 ∨ k = 3 ∨ k = 4 ∨ k = 5 ∨ k = 6 ∨ k = 7 by omega) with rfl | rfl | rfl | rfl | rfl | rfl | rfl | rfl <;> first | exact z32_0 | exact z64_0 | exact Or.inl (show (-1 : Int) < 0 by decide)
theorem zoi_X9 : Cond.methodLink RX9 3 Lib.objectInit ∈ zT ∧ Cond.instanceMethod Lib.objectInit ∈ zT ∧ Cond.code Lib.objectInit ⟨#[0xb1]⟩ 1 none ∈ zT := ⟨zkm_X9_3, zkn_Obj, zkc_Obj⟩
set_option maxRecDepth 100000 in
theorem zno_r_X3_120 (M : zMem) : ∀ k, k < 3 → (([-3, -3, -3] : List Int).getD k (-1) = -1 ∨ ([-3, -3, -3] : List Int).getD k (-1) = -2 ∨ ([-3, -3, -3] : List Int).getD k (-1) = -3) ∧ ∀ ad : Nat → Nat, defaultValue (tyX3 k) = zsv ad (([-3, -3, -3] : List Int).getD k (-1)) (zno M 120 [-3, -3, -3] 120 k) := by
  intro k hk
  rcases (show k = 0 ∨ k = 1 ∨ k = 2 by omega) with rfl | rfl | rfl <;> exact ⟨by decide, fun _ => rfl⟩
set_option maxRecDepth 100000 in
theorem zno_k_X3_120 (M : zMem) (Z : zZ) : ∀ k : Nat, k < 3 → zkan Z (([-3, -3, -3] : List Int).getD k (-1)) (zno M 120 [-3, -3, -3] 120 k) := by
  intro k hk
  rcases (show k = 0 ∨ k = 1 ∨ k = 2 by omega) with rfl | rfl | rfl <;> first | exact z32_0 | exact z64_0 | exact Or.inl (show (-1 : Int) < 0 by decide)
theorem zoi_X3 : Cond.methodLink RX3 3 Lib.objectInit ∈ zT ∧ Cond.instanceMethod Lib.objectInit ∈ zT ∧ Cond.code Lib.objectInit ⟨#[0xb1]⟩ 1 none ∈ zT := ⟨zkm_X3_3, zkn_Obj, zkc_Obj⟩
set_option maxRecDepth 100000 in
theorem zno_r_X0_130 (M : zMem) : ∀ k, k < 11 → (([-3, -3, -3, -3, -3, -3, -3, -1, -1, -1, -1] : List Int).getD k (-1) = -1 ∨ ([-3, -3, -3, -3, -3, -3, -3, -1, -1, -1, -1] : List Int).getD k (-1) = -2 ∨ ([-3, -3, -3, -3, -3, -3, -3, -1, -1, -1, -1] : List Int).getD k (-1) = -3) ∧ ∀ ad : Nat → Nat, defaultValue (tyX0 k) = zsv ad (([-3, -3, -3, -3, -3, -3, -3, -1, -1, -1, -1] : List Int).getD k (-1)) (zno M 130 [-3, -3, -3, -3, -3, -3, -3, -1, -1, -1, -1] 130 k) := by
  intro k hk
  rcases (show k = 0 ∨ k = 1 ∨ k = 2 ∨ k = 3 ∨ k = 4 ∨ k = 5 ∨ k = 6 ∨ k = 7 ∨ k = 8 ∨ k = 9 ∨ k = 10 by omega) with rfl | rfl | rfl | rfl | rfl | rfl | rfl | rfl | rfl | rfl | rfl <;> exact ⟨by decide, fun _ => rfl⟩
set_option maxRecDepth 100000 in
theorem zno_k_X0_130 (M : zMem) (Z : zZ) : ∀ k : Nat, k < 11 → zkan Z (([-3, -3, -3, -3, -3, -3, -3, -1, -1, -1, -1] : List Int).getD k (-1)) (zno M 130 [-3, -3, -3, -3, -3, -3, -3, -1, -1, -1, -1] 130 k) := by
  intro k hk
  rcases (show k = 0 ∨ k = 1 ∨ k = 2 ∨ k = 3 ∨ k = 4 ∨ k = 5 ∨ k = 6 ∨ k = 7 ∨ k = 8 ∨ k = 9 ∨ k = 10 by omega) with rfl | rfl | rfl | rfl | rfl | rfl | rfl | rfl | rfl | rfl | rfl <;> first | exact z32_0 | exact z64_0 | exact Or.inl (show (-1 : Int) < 0 by decide)
theorem zoi_X0 : Cond.methodLink RX0 3 Lib.objectInit ∈ zT ∧ Cond.instanceMethod Lib.objectInit ∈ zT ∧ Cond.code Lib.objectInit ⟨#[0xb1]⟩ 1 none ∈ zT := ⟨zkm_X0_3, zkn_Obj, zkc_Obj⟩
set_option maxRecDepth 100000 in
theorem zno_r_X1_150 (M : zMem) : ∀ k, k < 14 → (([-3, -3, -3, -1, -3, -3, -3, -3, -1, -3, -1, -1, -2, -1] : List Int).getD k (-1) = -1 ∨ ([-3, -3, -3, -1, -3, -3, -3, -3, -1, -3, -1, -1, -2, -1] : List Int).getD k (-1) = -2 ∨ ([-3, -3, -3, -1, -3, -3, -3, -3, -1, -3, -1, -1, -2, -1] : List Int).getD k (-1) = -3) ∧ ∀ ad : Nat → Nat, defaultValue (tyX1 k) = zsv ad (([-3, -3, -3, -1, -3, -3, -3, -3, -1, -3, -1, -1, -2, -1] : List Int).getD k (-1)) (zno M 150 [-3, -3, -3, -1, -3, -3, -3, -3, -1, -3, -1, -1, -2, -1] 150 k) := by
  intro k hk
  rcases (show k = 0 ∨ k = 1 ∨ k = 2 ∨ k = 3 ∨ k = 4 ∨ k = 5 ∨ k = 6 ∨ k = 7 ∨ k = 8 ∨ k = 9 ∨ k = 10 ∨ k = 11 ∨ k = 12 ∨ k = 13 by omega) with rfl | rfl | rfl | rfl | rfl | rfl | rfl | rfl | rfl | rfl | rfl | rfl | rfl | rfl <;> exact ⟨by decide, fun _ => rfl⟩
set_option maxRecDepth 100000 in
theorem zno_k_X1_150 (M : zMem) (Z : zZ) : ∀ k : Nat, k < 14 → zkan Z (([-3, -3, -3, -1, -3, -3, -3, -3, -1, -3, -1, -1, -2, -1] : List Int).getD k (-1)) (zno M 150 [-3, -3, -3, -1, -3, -3, -3, -3, -1, -3, -1, -1, -2, -1] 150 k) := by
  intro k hk
  rcases (show k = 0 ∨ k = 1 ∨ k = 2 ∨ k = 3 ∨ k = 4 ∨ k = 5 ∨ k = 6 ∨ k = 7 ∨ k = 8 ∨ k = 9 ∨ k = 10 ∨ k = 11 ∨ k = 12 ∨ k = 13 by omega) with rfl | rfl | rfl | rfl | rfl | rfl | rfl | rfl | rfl | rfl | rfl | rfl | rfl | rfl <;> first | exact z32_0 | exact z64_0 | exact Or.inl (show (-1 : Int) < 0 by decide)
theorem zoi_X1 : Cond.methodLink RX1 3 Lib.objectInit ∈ zT ∧ Cond.instanceMethod Lib.objectInit ∈ zT ∧ Cond.code Lib.objectInit ⟨#[0xb1]⟩ 1 none ∈ zT := ⟨zkm_X1_3, zkn_Obj, zkc_Obj⟩
set_option maxRecDepth 100000 in
theorem zno_r_X4_170 (M : zMem) : ∀ k, k < 8 → (([-3, -3, -3, -3, -1, -3, -3, -1] : List Int).getD k (-1) = -1 ∨ ([-3, -3, -3, -3, -1, -3, -3, -1] : List Int).getD k (-1) = -2 ∨ ([-3, -3, -3, -3, -1, -3, -3, -1] : List Int).getD k (-1) = -3) ∧ ∀ ad : Nat → Nat, defaultValue (tyX4 k) = zsv ad (([-3, -3, -3, -3, -1, -3, -3, -1] : List Int).getD k (-1)) (zno M 170 [-3, -3, -3, -3, -1, -3, -3, -1] 170 k) := by
  intro k hk
  rcases (show k = 0 ∨ k = 1 ∨ k = 2 ∨ k = 3 ∨ k = 4 ∨ k = 5 ∨ k = 6 ∨ k = 7 by omega) with rfl | rfl | rfl | rfl | rfl | rfl | rfl | rfl <;> exact ⟨by decide, fun _ => rfl⟩
set_option maxRecDepth 100000 in
theorem zno_k_X4_170 (M : zMem) (Z : zZ) : ∀ k : Nat, k < 8 → zkan Z (([-3, -3, -3, -3, -1, -3, -3, -1] : List Int).getD k (-1)) (zno M 170 [-3, -3, -3, -3, -1, -3, -3, -1] 170 k) := by
  intro k hk
  rcases (show k = 0 ∨ k = 1 ∨ k = 2 ∨ k = 3 ∨ k = 4 ∨ k = 5 ∨ k = 6 ∨ k = 7 by omega) with rfl | rfl | rfl | rfl | rfl | rfl | rfl | rfl <;> first | exact z32_0 | exact z64_0 | exact Or.inl (show (-1 : Int) < 0 by decide)
theorem zoi_X4 : Cond.methodLink RX4 3 Lib.objectInit ∈ zT ∧ Cond.instanceMethod Lib.objectInit ∈ zT ∧ Cond.code Lib.objectInit ⟨#[0xb1]⟩ 1 none ∈ zT := ⟨zkm_X4_3, zkn_Obj, zkc_Obj⟩
theorem zoi_X12 : Cond.methodLink RX12 1 Lib.objectInit ∈ zT ∧ Cond.instanceMethod Lib.objectInit ∈ zT ∧ Cond.code Lib.objectInit ⟨#[0xb1]⟩ 1 none ∈ zT := ⟨zkm_X12_1, zkn_Obj, zkc_Obj⟩
set_option maxRecDepth 100000 in
set_option maxHeartbeats 4000000 in
theorem fX12_without_ok0 {Z : zZ} {nn : Nat} (hn : 0 ≤ nn)  {x0 : Int} (hx0 : z32 x0) {M : zMem} {Q : Option zAV → zMem → zZ → Prop} (h : zSat (fX12_without x0 M) (fun r => Q (some (zI r)) M Z))  : zV zmX12_without nn 0 0 Z 0 [(0, zI x0)] [] M Q := by
  unfold fX12_without at h
  refine zV_iload_n 0 dX12_without_0 rfl rfl ?_
  refine zV_if_ne 9 dX12_without_1 (by decide) hx0 (fun hc_ => ?_) (fun hc_ => ?_)
  · replace h := zs_f h hc_
    refine zV_iload_n 0 dX12_without_9 rfl rfl ?_
    refine zV_iconst (v := 1) dX12_without_10 rfl ?_
    refine zV_icmp_ne 18 dX12_without_11 (by decide) hx0 zi_1 (fun hc_ => ?_) (fun hc_ => ?_)
    · replace h := zs_f h hc_
      refine zV_iload_n 0 dX12_without_18 rfl rfl ?_
      refine zV_iconst (v := 2) dX12_without_19 rfl ?_
      refine zV_icmp_ne 27 dX12_without_20 (by decide) hx0 zi_2 (fun hc_ => ?_) (fun hc_ => ?_)
      · replace h := zs_f h hc_
        refine zV_iload_n 0 dX12_without_27 rfl rfl ?_
        refine zV_iconst (v := 3) dX12_without_28 rfl ?_
        refine zV_icmp_ne 36 dX12_without_29 (by decide) hx0 zi_3 (fun hc_ => ?_) (fun hc_ => ?_)
        · replace h := zs_f h hc_
          refine zV_iload_n 0 dX12_without_36 rfl rfl ?_
          refine zV_iconst (v := 4) dX12_without_37 rfl ?_
          refine zV_icmp_ne 46 dX12_without_38 (by decide) hx0 zi_4 (fun hc_ => ?_) (fun hc_ => ?_)
          · replace h := zs_f h hc_
            refine zV_iload_n 0 dX12_without_46 rfl rfl ?_
            refine zV_iconst (v := 5) dX12_without_47 rfl ?_
            refine zV_icmp_ne 55 dX12_without_48 (by decide) hx0 zi_5 (fun hc_ => ?_) (fun hc_ => ?_)
            · replace h := zs_f h hc_
              refine zV_iload_n 0 dX12_without_55 rfl rfl ?_
              refine zV_bipush (v := 6) dX12_without_56 rfl ?_
              refine zV_icmp_ne 65 dX12_without_58 (by decide) hx0 zi_6 (fun hc_ => ?_) (fun hc_ => ?_)
              · replace h := zs_f h hc_
                refine zV_iload_n 0 dX12_without_65 rfl rfl ?_
                refine zV_bipush (v := 7) dX12_without_66 rfl ?_
                refine zV_icmp_ne 75 dX12_without_68 (by decide) hx0 zi_7 (fun hc_ => ?_) (fun hc_ => ?_)
                · replace h := zs_f h hc_
                  refine zV_iload_n 0 dX12_without_75 rfl rfl ?_
                  refine zV_bipush (v := 8) dX12_without_76 rfl ?_
                  refine zV_icmp_ne 85 dX12_without_78 (by decide) hx0 zi_8 (fun hc_ => ?_) (fun hc_ => ?_)
                  · replace h := zs_f h hc_
                    refine zV_iload_n 0 dX12_without_85 rfl rfl ?_
                    refine zV_bipush (v := 9) dX12_without_86 rfl ?_
                    refine zV_icmp_ne 95 dX12_without_88 (by decide) hx0 zi_9 (fun hc_ => ?_) (fun hc_ => ?_)
                    · replace h := zs_f h hc_
                      refine zV_iconst (v := 1) dX12_without_95 rfl ?_
                      exact zV_ireti dX12_without_96 rfl zi_1 h
                    · replace h := zs_t h hc_
                      refine zV_iconst (v := 0) dX12_without_91 rfl ?_
                      refine zV_goto 96 dX12_without_92 (by decide) ?_
                      exact zV_ireti dX12_without_96 rfl zi_0 h
                  · replace h := zs_t h hc_
                    refine zV_iconst (v := 5) dX12_without_81 rfl ?_
                    refine zV_goto 96 dX12_without_82 (by decide) ?_
                    exact zV_ireti dX12_without_96 rfl zi_5 h
                · replace h := zs_t h hc_
                  refine zV_iconst (v := 1) dX12_without_71 rfl ?_
                  refine zV_goto 96 dX12_without_72 (by decide) ?_
                  exact zV_ireti dX12_without_96 rfl zi_1 h
              · replace h := zs_t h hc_
                refine zV_iconst (v := 3) dX12_without_61 rfl ?_
                refine zV_goto 96 dX12_without_62 (by decide) ?_
                exact zV_ireti dX12_without_96 rfl zi_3 h
            · replace h := zs_t h hc_
              refine zV_iconst (v := 2) dX12_without_51 rfl ?_
              refine zV_goto 96 dX12_without_52 (by decide) ?_
              exact zV_ireti dX12_without_96 rfl zi_2 h
          · replace h := zs_t h hc_
            refine zV_bipush (v := 12) dX12_without_41 rfl ?_
            refine zV_goto 96 dX12_without_43 (by decide) ?_
            exact zV_ireti dX12_without_96 rfl zi_12 h
        · replace h := zs_t h hc_
          refine zV_iconst (v := 1) dX12_without_32 rfl ?_
          refine zV_goto 96 dX12_without_33 (by decide) ?_
          exact zV_ireti dX12_without_96 rfl zi_1 h
      · replace h := zs_t h hc_
        refine zV_iconst (v := 4) dX12_without_23 rfl ?_
        refine zV_goto 96 dX12_without_24 (by decide) ?_
        exact zV_ireti dX12_without_96 rfl zi_4 h
    · replace h := zs_t h hc_
      refine zV_iconst (v := 2) dX12_without_14 rfl ?_
      refine zV_goto 96 dX12_without_15 (by decide) ?_
      exact zV_ireti dX12_without_96 rfl zi_2 h
  · replace h := zs_t h hc_
    refine zV_bipush (v := 10) dX12_without_4 rfl ?_
    refine zV_goto 96 dX12_without_6 (by decide) ?_
    exact zV_ireti dX12_without_96 rfl zi_10 h
theorem zwo_0 {Z : zZ} {n : Nat} {M : zMem} {Q : Option zAV → zMem → zZ → Prop} (h : Q (some (zI 10)) M Z) : zV zmX12_without n 0 0 Z 0 [(0, zI 0)] [] M Q := fX12_without_ok0 (Nat.zero_le _) ⟨by decide, by decide⟩ (show zSat (fX12_without 0 M) _ by simp [fX12_without, zSat]; exact h)
theorem zwo_1 {Z : zZ} {n : Nat} {M : zMem} {Q : Option zAV → zMem → zZ → Prop} (h : Q (some (zI 2)) M Z) : zV zmX12_without n 0 0 Z 0 [(0, zI 1)] [] M Q := fX12_without_ok0 (Nat.zero_le _) ⟨by decide, by decide⟩ (show zSat (fX12_without 1 M) _ by simp [fX12_without, zSat]; exact h)
theorem zwo_2 {Z : zZ} {n : Nat} {M : zMem} {Q : Option zAV → zMem → zZ → Prop} (h : Q (some (zI 4)) M Z) : zV zmX12_without n 0 0 Z 0 [(0, zI 2)] [] M Q := fX12_without_ok0 (Nat.zero_le _) ⟨by decide, by decide⟩ (show zSat (fX12_without 2 M) _ by simp [fX12_without, zSat]; exact h)
theorem zwo_3 {Z : zZ} {n : Nat} {M : zMem} {Q : Option zAV → zMem → zZ → Prop} (h : Q (some (zI 1)) M Z) : zV zmX12_without n 0 0 Z 0 [(0, zI 3)] [] M Q := fX12_without_ok0 (Nat.zero_le _) ⟨by decide, by decide⟩ (show zSat (fX12_without 3 M) _ by simp [fX12_without, zSat]; exact h)
theorem zwo_4 {Z : zZ} {n : Nat} {M : zMem} {Q : Option zAV → zMem → zZ → Prop} (h : Q (some (zI 12)) M Z) : zV zmX12_without n 0 0 Z 0 [(0, zI 4)] [] M Q := fX12_without_ok0 (Nat.zero_le _) ⟨by decide, by decide⟩ (show zSat (fX12_without 4 M) _ by simp [fX12_without, zSat]; exact h)
theorem zwo_5 {Z : zZ} {n : Nat} {M : zMem} {Q : Option zAV → zMem → zZ → Prop} (h : Q (some (zI 2)) M Z) : zV zmX12_without n 0 0 Z 0 [(0, zI 5)] [] M Q := fX12_without_ok0 (Nat.zero_le _) ⟨by decide, by decide⟩ (show zSat (fX12_without 5 M) _ by simp [fX12_without, zSat]; exact h)
theorem zwo_6 {Z : zZ} {n : Nat} {M : zMem} {Q : Option zAV → zMem → zZ → Prop} (h : Q (some (zI 3)) M Z) : zV zmX12_without n 0 0 Z 0 [(0, zI 6)] [] M Q := fX12_without_ok0 (Nat.zero_le _) ⟨by decide, by decide⟩ (show zSat (fX12_without 6 M) _ by simp [fX12_without, zSat]; exact h)
theorem zwo_7 {Z : zZ} {n : Nat} {M : zMem} {Q : Option zAV → zMem → zZ → Prop} (h : Q (some (zI 1)) M Z) : zV zmX12_without n 0 0 Z 0 [(0, zI 7)] [] M Q := fX12_without_ok0 (Nat.zero_le _) ⟨by decide, by decide⟩ (show zSat (fX12_without 7 M) _ by simp [fX12_without, zSat]; exact h)
theorem zwo_8 {Z : zZ} {n : Nat} {M : zMem} {Q : Option zAV → zMem → zZ → Prop} (h : Q (some (zI 5)) M Z) : zV zmX12_without n 0 0 Z 0 [(0, zI 8)] [] M Q := fX12_without_ok0 (Nat.zero_le _) ⟨by decide, by decide⟩ (show zSat (fX12_without 8 M) _ by simp [fX12_without, zSat]; exact h)
theorem zwo_9 {Z : zZ} {n : Nat} {M : zMem} {Q : Option zAV → zMem → zZ → Prop} (h : Q (some (zI 0)) M Z) : zV zmX12_without n 0 0 Z 0 [(0, zI 9)] [] M Q := fX12_without_ok0 (Nat.zero_le _) ⟨by decide, by decide⟩ (show zSat (fX12_without 9 M) _ by simp [fX12_without, zSat]; exact h)
theorem zwo_10 {Z : zZ} {n : Nat} {M : zMem} {Q : Option zAV → zMem → zZ → Prop} (h : Q (some (zI 1)) M Z) : zV zmX12_without n 0 0 Z 0 [(0, zI 10)] [] M Q := fX12_without_ok0 (Nat.zero_le _) ⟨by decide, by decide⟩ (show zSat (fX12_without 10 M) _ by simp [fX12_without, zSat]; exact h)
def zmI_X8_20 (M : zMem) : zMem := (zfr (zfr M 21 0) 23 0)
set_option maxRecDepth 100000 in
set_option maxHeartbeats 4000000 in
theorem zcI_X8_20 {Z : zZ} (hfr : ∀ i ∈ (21 :: 23 :: [] : List Nat), Z i = none) {n : Nat} (hn : 1 ≤ n) {M : zMem} {Q : Option zAV → zMem → zZ → Prop} (h : Q none (zmI_X8_20 M) (zLs [(20, .inl (8, [21, -1, 23, -1])), (23, .inr (0, 1001)), (21, .inr (1, 1000))] Z)) : zV zmX8_init n 2 2001 (zLs [(20, .inl (8, [-3, -1, -3, -1]))] Z) 0 [(0, zR 20)] [] M Q := by
  unfold zmI_X8_20 at h
  refine zV_aload_n 0 dX8_init_0 rfl rfl ?_
  refine zV_objI zoi_X8 dX8_init_1 (by omega) (Nat.le_of_ble_eq_true rfl) ?_
  refine zV_aload_n 0 dX8_init_4 rfl rfl ?_
  refine zV_sipush (v := 1000) dX8_init_5 rfl ?_
  refine zV_newa (kc := 1) (ks := 1001) (i := 21) (k := 1000) (t := 1) rfl (by decide) zka_char (by decide) (hfr 21 (by decide)) (by decide) dX8_init_8 ?_
  refine zV_Z (zLs_add _ _ _ _) ?_
  refine zV_putS (i := 20) (j := 21) (ci := 8) (ksl := [-3, -1, -3, -1]) (Z' := zLs [(20, .inl (8, [21, -1, -3, -1])), (21, .inr (1, 1000))] Z) rfl (by decide) zf_X8_0 zkf_X8_9 (by decide) dX8_init_10 rfl rfl (fun _ => ⟨rfl, rfl⟩) (zLs_set _ _ _ _) ?_
  refine zV_aload_n 0 dX8_init_13 rfl rfl ?_
  refine zV_sipush (v := 1001) dX8_init_14 rfl ?_
  refine zV_newa (kc := 0) (ks := 0) (i := 23) (k := 1001) (t := 0) rfl (by decide) zka_int (by decide) (hfr 23 (by decide)) (by decide) dX8_init_17 ?_
  refine zV_Z (zLs_add _ _ _ _) ?_
  refine zV_putS (i := 20) (j := 23) (ci := 8) (ksl := [21, -1, -3, -1]) (Z' := zLs [(20, .inl (8, [21, -1, 23, -1])), (23, .inr (0, 1001)), (21, .inr (1, 1000))] Z) rfl (by decide) zf_X8_2 zkf_X8_15 (by decide) dX8_init_19 rfl rfl (fun _ => ⟨rfl, rfl⟩) (zLs_set _ _ _ _) ?_
  exact zV_vret dX8_init_22 rfl h
def zmI_X7_40 (M : zMem) : zMem := (zcl (zfr (zfr (zfr (zfr (zfr (zfr (zfr (zfr (zfr (zfr (zfr (zfr M 43 0) 44 0) 45 0) 46 0) 47 0) 49 0) 50 0) 51 0) 52 0) 53 0) 56 0) 58 0) 59)
set_option maxRecDepth 100000 in
set_option maxHeartbeats 4000000 in
theorem zcI_X7_40 {Z : zZ} (hfr : ∀ i ∈ (43 :: 44 :: 45 :: 46 :: 47 :: 49 :: 50 :: 51 :: 52 :: 53 :: 56 :: 58 :: 59 :: [] : List Nat), Z i = none) (hU : Z 1000 = some (.inr (0, 11))) {n : Nat} (hn : 1 ≤ n) {M : zMem} {Q : Option zAV → zMem → zZ → Prop} (h : Q none (zmI_X7_40 M) (zLs ((40, .inl (7, [-1, -1, 43, 44, 45, 46, 47, -1, 49, 50, 51, 52, 53, -1, -1, 56, -1, 58, 59])) :: (59, .inr (0, 11)) :: (58, .inr (0, 4)) :: (56, .inr (0, 1000)) :: (53, .inr (0, 8)) :: (52, .inr (0, 8)) :: (51, .inr (0, 8)) :: (50, .inr (0, 8)) :: (49, .inr (0, 8)) :: (47, .inr (0, 12)) :: (46, .inr (0, 12)) :: (45, .inr (0, 12)) :: (44, .inr (0, 12)) :: (43, .inr (0, 12)) :: []) Z)) : zV zmX7_init n 13 1115 (zLs [(40, .inl (7, [-1, -1, -3, -3, -3, -3, -3, -1, -3, -3, -3, -3, -3, -1, -1, -3, -1, -3, -3]))] Z) 0 [(0, zR 40)] [] M Q := by
  unfold zmI_X7_40 at h
  refine zV_aload_n 0 dX7_init_0 rfl rfl ?_
  refine zV_objI zoi_X7 dX7_init_1 (by omega) (Nat.le_of_ble_eq_true rfl) ?_
  refine zV_aload_n 0 dX7_init_4 rfl rfl ?_
  refine zV_bipush (v := 12) dX7_init_5 rfl ?_
  refine zV_newa (kc := 12) (ks := 1103) (i := 43) (k := 12) (t := 0) rfl (by decide) zka_int (by decide) (hfr 43 (by decide)) (by decide) dX7_init_7 ?_
  refine zV_Z (zLs_add _ _ _ _) ?_
  refine zV_putS (i := 40) (j := 43) (ci := 7) (ksl := [-1, -1, -3, -3, -3, -3, -3, -1, -3, -3, -3, -3, -3, -1, -1, -3, -1, -3, -3]) (Z' := zLs [(40, .inl (7, [-1, -1, 43, -3, -3, -3, -3, -1, -3, -3, -3, -3, -3, -1, -1, -3, -1, -3, -3])), (43, .inr (0, 12))] Z) rfl (by decide) zf_X7_2 zkf_X7_9 (by decide) dX7_init_9 rfl rfl (fun _ => ⟨rfl, rfl⟩) (zLs_set _ _ _ _) ?_
  refine zV_aload_n 0 dX7_init_12 rfl rfl ?_
  refine zV_bipush (v := 12) dX7_init_13 rfl ?_
  refine zV_newa (kc := 11) (ks := 1091) (i := 44) (k := 12) (t := 0) rfl (by decide) zka_int (by decide) (hfr 44 (by decide)) (by decide) dX7_init_15 ?_
  refine zV_Z (zLs_add _ _ _ _) ?_
  refine zV_putS (i := 40) (j := 44) (ci := 7) (ksl := [-1, -1, 43, -3, -3, -3, -3, -1, -3, -3, -3, -3, -3, -1, -1, -3, -1, -3, -3]) (Z' := zLs [(40, .inl (7, [-1, -1, 43, 44, -3, -3, -3, -1, -3, -3, -3, -3, -3, -1, -1, -3, -1, -3, -3])), (44, .inr (0, 12)), (43, .inr (0, 12))] Z) rfl (by decide) zf_X7_3 zkf_X7_15 (by decide) dX7_init_17 rfl rfl (fun _ => ⟨rfl, rfl⟩) (zLs_set _ _ _ _) ?_
  refine zV_aload_n 0 dX7_init_20 rfl rfl ?_
  refine zV_bipush (v := 12) dX7_init_21 rfl ?_
  refine zV_newa (kc := 10) (ks := 1079) (i := 45) (k := 12) (t := 0) rfl (by decide) zka_int (by decide) (hfr 45 (by decide)) (by decide) dX7_init_23 ?_
  refine zV_Z (zLs_add _ _ _ _) ?_
  refine zV_putS (i := 40) (j := 45) (ci := 7) (ksl := [-1, -1, 43, 44, -3, -3, -3, -1, -3, -3, -3, -3, -3, -1, -1, -3, -1, -3, -3]) (Z' := zLs [(40, .inl (7, [-1, -1, 43, 44, 45, -3, -3, -1, -3, -3, -3, -3, -3, -1, -1, -3, -1, -3, -3])), (45, .inr (0, 12)), (44, .inr (0, 12)), (43, .inr (0, 12))] Z) rfl (by decide) zf_X7_4 zkf_X7_18 (by decide) dX7_init_25 rfl rfl (fun _ => ⟨rfl, rfl⟩) (zLs_set _ _ _ _) ?_
  refine zV_aload_n 0 dX7_init_28 rfl rfl ?_
  refine zV_bipush (v := 12) dX7_init_29 rfl ?_
  refine zV_newa (kc := 9) (ks := 1067) (i := 46) (k := 12) (t := 0) rfl (by decide) zka_int (by decide) (hfr 46 (by decide)) (by decide) dX7_init_31 ?_
  refine zV_Z (zLs_add _ _ _ _) ?_
  refine zV_putS (i := 40) (j := 46) (ci := 7) (ksl := [-1, -1, 43, 44, 45, -3, -3, -1, -3, -3, -3, -3, -3, -1, -1, -3, -1, -3, -3]) (Z' := zLs [(40, .inl (7, [-1, -1, 43, 44, 45, 46, -3, -1, -3, -3, -3, -3, -3, -1, -1, -3, -1, -3, -3])), (46, .inr (0, 12)), (45, .inr (0, 12)), (44, .inr (0, 12)), (43, .inr (0, 12))] Z) rfl (by decide) zf_X7_5 zkf_X7_21 (by decide) dX7_init_33 rfl rfl (fun _ => ⟨rfl, rfl⟩) (zLs_set _ _ _ _) ?_
  refine zV_aload_n 0 dX7_init_36 rfl rfl ?_
  refine zV_bipush (v := 12) dX7_init_37 rfl ?_
  refine zV_newa (kc := 8) (ks := 1055) (i := 47) (k := 12) (t := 0) rfl (by decide) zka_int (by decide) (hfr 47 (by decide)) (by decide) dX7_init_39 ?_
  refine zV_Z (zLs_add _ _ _ _) ?_
  refine zV_putS (i := 40) (j := 47) (ci := 7) (ksl := [-1, -1, 43, 44, 45, 46, -3, -1, -3, -3, -3, -3, -3, -1, -1, -3, -1, -3, -3]) (Z' := zLs [(40, .inl (7, [-1, -1, 43, 44, 45, 46, 47, -1, -3, -3, -3, -3, -3, -1, -1, -3, -1, -3, -3])), (47, .inr (0, 12)), (46, .inr (0, 12)), (45, .inr (0, 12)), (44, .inr (0, 12)), (43, .inr (0, 12))] Z) rfl (by decide) zf_X7_6 zkf_X7_24 (by decide) dX7_init_41 rfl rfl (fun _ => ⟨rfl, rfl⟩) (zLs_set _ _ _ _) ?_
  refine zV_aload_n 0 dX7_init_44 rfl rfl ?_
  refine zV_bipush (v := 8) dX7_init_45 rfl ?_
  refine zV_newa (kc := 7) (ks := 1047) (i := 49) (k := 8) (t := 0) rfl (by decide) zka_int (by decide) (hfr 49 (by decide)) (by decide) dX7_init_47 ?_
  refine zV_Z (zLs_add _ _ _ _) ?_
  refine zV_putS (i := 40) (j := 49) (ci := 7) (ksl := [-1, -1, 43, 44, 45, 46, 47, -1, -3, -3, -3, -3, -3, -1, -1, -3, -1, -3, -3]) (Z' := zLs [(40, .inl (7, [-1, -1, 43, 44, 45, 46, 47, -1, 49, -3, -3, -3, -3, -1, -1, -3, -1, -3, -3])), (49, .inr (0, 8)), (47, .inr (0, 12)), (46, .inr (0, 12)), (45, .inr (0, 12)), (44, .inr (0, 12)), (43, .inr (0, 12))] Z) rfl (by decide) zf_X7_8 zkf_X7_27 (by decide) dX7_init_49 rfl rfl (fun _ => ⟨rfl, rfl⟩) (zLs_set _ _ _ _) ?_
  refine zV_aload_n 0 dX7_init_52 rfl rfl ?_
  refine zV_bipush (v := 8) dX7_init_53 rfl ?_
  refine zV_newa (kc := 6) (ks := 1039) (i := 50) (k := 8) (t := 0) rfl (by decide) zka_int (by decide) (hfr 50 (by decide)) (by decide) dX7_init_55 ?_
  refine zV_Z (zLs_add _ _ _ _) ?_
  refine zV_putS (i := 40) (j := 50) (ci := 7) (ksl := [-1, -1, 43, 44, 45, 46, 47, -1, 49, -3, -3, -3, -3, -1, -1, -3, -1, -3, -3]) (Z' := zLs [(40, .inl (7, [-1, -1, 43, 44, 45, 46, 47, -1, 49, 50, -3, -3, -3, -1, -1, -3, -1, -3, -3])), (50, .inr (0, 8)), (49, .inr (0, 8)), (47, .inr (0, 12)), (46, .inr (0, 12)), (45, .inr (0, 12)), (44, .inr (0, 12)), (43, .inr (0, 12))] Z) rfl (by decide) zf_X7_9 zkf_X7_30 (by decide) dX7_init_57 rfl rfl (fun _ => ⟨rfl, rfl⟩) (zLs_set _ _ _ _) ?_
  refine zV_aload_n 0 dX7_init_60 rfl rfl ?_
  refine zV_bipush (v := 8) dX7_init_61 rfl ?_
  refine zV_newa (kc := 5) (ks := 1031) (i := 51) (k := 8) (t := 0) rfl (by decide) zka_int (by decide) (hfr 51 (by decide)) (by decide) dX7_init_63 ?_
  refine zV_Z (zLs_add _ _ _ _) ?_
  refine zV_putS (i := 40) (j := 51) (ci := 7) (ksl := [-1, -1, 43, 44, 45, 46, 47, -1, 49, 50, -3, -3, -3, -1, -1, -3, -1, -3, -3]) (Z' := zLs [(40, .inl (7, [-1, -1, 43, 44, 45, 46, 47, -1, 49, 50, 51, -3, -3, -1, -1, -3, -1, -3, -3])), (51, .inr (0, 8)), (50, .inr (0, 8)), (49, .inr (0, 8)), (47, .inr (0, 12)), (46, .inr (0, 12)), (45, .inr (0, 12)), (44, .inr (0, 12)), (43, .inr (0, 12))] Z) rfl (by decide) zf_X7_10 zkf_X7_33 (by decide) dX7_init_65 rfl rfl (fun _ => ⟨rfl, rfl⟩) (zLs_set _ _ _ _) ?_
  refine zV_aload_n 0 dX7_init_68 rfl rfl ?_
  refine zV_bipush (v := 8) dX7_init_69 rfl ?_
  refine zV_newa (kc := 4) (ks := 1023) (i := 52) (k := 8) (t := 0) rfl (by decide) zka_int (by decide) (hfr 52 (by decide)) (by decide) dX7_init_71 ?_
  refine zV_Z (zLs_add _ _ _ _) ?_
  refine zV_putS (i := 40) (j := 52) (ci := 7) (ksl := [-1, -1, 43, 44, 45, 46, 47, -1, 49, 50, 51, -3, -3, -1, -1, -3, -1, -3, -3]) (Z' := zLs [(40, .inl (7, [-1, -1, 43, 44, 45, 46, 47, -1, 49, 50, 51, 52, -3, -1, -1, -3, -1, -3, -3])), (52, .inr (0, 8)), (51, .inr (0, 8)), (50, .inr (0, 8)), (49, .inr (0, 8)), (47, .inr (0, 12)), (46, .inr (0, 12)), (45, .inr (0, 12)), (44, .inr (0, 12)), (43, .inr (0, 12))] Z) rfl (by decide) zf_X7_11 zkf_X7_36 (by decide) dX7_init_73 rfl rfl (fun _ => ⟨rfl, rfl⟩) (zLs_set _ _ _ _) ?_
  refine zV_aload_n 0 dX7_init_76 rfl rfl ?_
  refine zV_bipush (v := 8) dX7_init_77 rfl ?_
  refine zV_newa (kc := 3) (ks := 1015) (i := 53) (k := 8) (t := 0) rfl (by decide) zka_int (by decide) (hfr 53 (by decide)) (by decide) dX7_init_79 ?_
  refine zV_Z (zLs_add _ _ _ _) ?_
  refine zV_putS (i := 40) (j := 53) (ci := 7) (ksl := [-1, -1, 43, 44, 45, 46, 47, -1, 49, 50, 51, 52, -3, -1, -1, -3, -1, -3, -3]) (Z' := zLs [(40, .inl (7, [-1, -1, 43, 44, 45, 46, 47, -1, 49, 50, 51, 52, 53, -1, -1, -3, -1, -3, -3])), (53, .inr (0, 8)), (52, .inr (0, 8)), (51, .inr (0, 8)), (50, .inr (0, 8)), (49, .inr (0, 8)), (47, .inr (0, 12)), (46, .inr (0, 12)), (45, .inr (0, 12)), (44, .inr (0, 12)), (43, .inr (0, 12))] Z) rfl (by decide) zf_X7_12 zkf_X7_39 (by decide) dX7_init_81 rfl rfl (fun _ => ⟨rfl, rfl⟩) (zLs_set _ _ _ _) ?_
  refine zV_aload_n 0 dX7_init_84 rfl rfl ?_
  refine zV_sipush (v := 1000) dX7_init_85 rfl ?_
  refine zV_newa (kc := 2) (ks := 15) (i := 56) (k := 1000) (t := 0) rfl (by decide) zka_int (by decide) (hfr 56 (by decide)) (by decide) dX7_init_88 ?_
  refine zV_Z (zLs_add _ _ _ _) ?_
  refine zV_putS (i := 40) (j := 56) (ci := 7) (ksl := [-1, -1, 43, 44, 45, 46, 47, -1, 49, 50, 51, 52, 53, -1, -1, -3, -1, -3, -3]) (Z' := zLs ((40, .inl (7, [-1, -1, 43, 44, 45, 46, 47, -1, 49, 50, 51, 52, 53, -1, -1, 56, -1, -3, -3])) :: (56, .inr (0, 1000)) :: (53, .inr (0, 8)) :: (52, .inr (0, 8)) :: (51, .inr (0, 8)) :: (50, .inr (0, 8)) :: (49, .inr (0, 8)) :: (47, .inr (0, 12)) :: (46, .inr (0, 12)) :: (45, .inr (0, 12)) :: (44, .inr (0, 12)) :: (43, .inr (0, 12)) :: []) Z) rfl (by decide) zf_X7_15 zkf_X7_42 (by decide) dX7_init_90 rfl rfl (fun _ => ⟨rfl, rfl⟩) (zLs_set _ _ _ _) ?_
  refine zV_aload_n 0 dX7_init_93 rfl rfl ?_
  refine zV_iconst (v := 4) dX7_init_94 rfl ?_
  refine zV_newa (kc := 1) (ks := 11) (i := 58) (k := 4) (t := 0) rfl (by decide) zka_int (by decide) (hfr 58 (by decide)) (by decide) dX7_init_95 ?_
  refine zV_Z (zLs_add _ _ _ _) ?_
  refine zV_putS (i := 40) (j := 58) (ci := 7) (ksl := [-1, -1, 43, 44, 45, 46, 47, -1, 49, 50, 51, 52, 53, -1, -1, 56, -1, -3, -3]) (Z' := zLs ((40, .inl (7, [-1, -1, 43, 44, 45, 46, 47, -1, 49, 50, 51, 52, 53, -1, -1, 56, -1, 58, -3])) :: (58, .inr (0, 4)) :: (56, .inr (0, 1000)) :: (53, .inr (0, 8)) :: (52, .inr (0, 8)) :: (51, .inr (0, 8)) :: (50, .inr (0, 8)) :: (49, .inr (0, 8)) :: (47, .inr (0, 12)) :: (46, .inr (0, 12)) :: (45, .inr (0, 12)) :: (44, .inr (0, 12)) :: (43, .inr (0, 12)) :: []) Z) rfl (by decide) zf_X7_17 zkf_X7_45 (by decide) dX7_init_97 rfl rfl (fun _ => ⟨rfl, rfl⟩) (zLs_set _ _ _ _) ?_
  refine zV_aload_n 0 dX7_init_100 rfl rfl ?_
  refine zV_gets (i := 1000) zgs_X7_48 (by decide) (show (Z 1000).isSome = true by rw [hU]; rfl) dX7_init_101 ?_
  refine zV_clone (kc := 0) (ks := 0) (i := 59) zcw_clone zcw_cast (show Z 1000 = _ from hU) (by decide) (hfr 59 (by decide)) dX7_init_104 dX7_init_107 (by omega) (Nat.le_of_ble_eq_true rfl) ?_
  refine zV_Z (zLs_add _ _ _ _) ?_
  refine zV_putS (i := 40) (j := 59) (ci := 7) (ksl := [-1, -1, 43, 44, 45, 46, 47, -1, 49, 50, 51, 52, 53, -1, -1, 56, -1, 58, -3]) (Z' := zLs ((40, .inl (7, [-1, -1, 43, 44, 45, 46, 47, -1, 49, 50, 51, 52, 53, -1, -1, 56, -1, 58, 59])) :: (59, .inr (0, 11)) :: (58, .inr (0, 4)) :: (56, .inr (0, 1000)) :: (53, .inr (0, 8)) :: (52, .inr (0, 8)) :: (51, .inr (0, 8)) :: (50, .inr (0, 8)) :: (49, .inr (0, 8)) :: (47, .inr (0, 12)) :: (46, .inr (0, 12)) :: (45, .inr (0, 12)) :: (44, .inr (0, 12)) :: (43, .inr (0, 12)) :: []) Z) rfl (by decide) zf_X7_18 zkf_X7_56 (by decide) dX7_init_110 rfl rfl (fun _ => ⟨rfl, rfl⟩) (zLs_set _ _ _ _) ?_
  exact zV_vret dX7_init_113 rfl h
def zmI_X7_60 (M : zMem) : zMem := (zcl (zfr (zfr (zfr (zfr (zfr (zfr (zfr (zfr (zfr (zfr (zfr (zfr M 63 0) 64 0) 65 0) 66 0) 67 0) 69 0) 70 0) 71 0) 72 0) 73 0) 76 0) 78 0) 79)
set_option maxRecDepth 100000 in
set_option maxHeartbeats 4000000 in
theorem zcI_X7_60 {Z : zZ} (hfr : ∀ i ∈ (63 :: 64 :: 65 :: 66 :: 67 :: 69 :: 70 :: 71 :: 72 :: 73 :: 76 :: 78 :: 79 :: [] : List Nat), Z i = none) (hU : Z 1000 = some (.inr (0, 11))) {n : Nat} (hn : 1 ≤ n) {M : zMem} {Q : Option zAV → zMem → zZ → Prop} (h : Q none (zmI_X7_60 M) (zLs ((60, .inl (7, [-1, -1, 63, 64, 65, 66, 67, -1, 69, 70, 71, 72, 73, -1, -1, 76, -1, 78, 79])) :: (79, .inr (0, 11)) :: (78, .inr (0, 4)) :: (76, .inr (0, 1000)) :: (73, .inr (0, 8)) :: (72, .inr (0, 8)) :: (71, .inr (0, 8)) :: (70, .inr (0, 8)) :: (69, .inr (0, 8)) :: (67, .inr (0, 12)) :: (66, .inr (0, 12)) :: (65, .inr (0, 12)) :: (64, .inr (0, 12)) :: (63, .inr (0, 12)) :: []) Z)) : zV zmX7_init n 13 1115 (zLs [(60, .inl (7, [-1, -1, -3, -3, -3, -3, -3, -1, -3, -3, -3, -3, -3, -1, -1, -3, -1, -3, -3]))] Z) 0 [(0, zR 60)] [] M Q := by
  unfold zmI_X7_60 at h
  refine zV_aload_n 0 dX7_init_0 rfl rfl ?_
  refine zV_objI zoi_X7 dX7_init_1 (by omega) (Nat.le_of_ble_eq_true rfl) ?_
  refine zV_aload_n 0 dX7_init_4 rfl rfl ?_
  refine zV_bipush (v := 12) dX7_init_5 rfl ?_
  refine zV_newa (kc := 12) (ks := 1103) (i := 63) (k := 12) (t := 0) rfl (by decide) zka_int (by decide) (hfr 63 (by decide)) (by decide) dX7_init_7 ?_
  refine zV_Z (zLs_add _ _ _ _) ?_
  refine zV_putS (i := 60) (j := 63) (ci := 7) (ksl := [-1, -1, -3, -3, -3, -3, -3, -1, -3, -3, -3, -3, -3, -1, -1, -3, -1, -3, -3]) (Z' := zLs [(60, .inl (7, [-1, -1, 63, -3, -3, -3, -3, -1, -3, -3, -3, -3, -3, -1, -1, -3, -1, -3, -3])), (63, .inr (0, 12))] Z) rfl (by decide) zf_X7_2 zkf_X7_9 (by decide) dX7_init_9 rfl rfl (fun _ => ⟨rfl, rfl⟩) (zLs_set _ _ _ _) ?_
  refine zV_aload_n 0 dX7_init_12 rfl rfl ?_
  refine zV_bipush (v := 12) dX7_init_13 rfl ?_
  refine zV_newa (kc := 11) (ks := 1091) (i := 64) (k := 12) (t := 0) rfl (by decide) zka_int (by decide) (hfr 64 (by decide)) (by decide) dX7_init_15 ?_
  refine zV_Z (zLs_add _ _ _ _) ?_
  refine zV_putS (i := 60) (j := 64) (ci := 7) (ksl := [-1, -1, 63, -3, -3, -3, -3, -1, -3, -3, -3, -3, -3, -1, -1, -3, -1, -3, -3]) (Z' := zLs [(60, .inl (7, [-1, -1, 63, 64, -3, -3, -3, -1, -3, -3, -3, -3, -3, -1, -1, -3, -1, -3, -3])), (64, .inr (0, 12)), (63, .inr (0, 12))] Z) rfl (by decide) zf_X7_3 zkf_X7_15 (by decide) dX7_init_17 rfl rfl (fun _ => ⟨rfl, rfl⟩) (zLs_set _ _ _ _) ?_
  refine zV_aload_n 0 dX7_init_20 rfl rfl ?_
  refine zV_bipush (v := 12) dX7_init_21 rfl ?_
  refine zV_newa (kc := 10) (ks := 1079) (i := 65) (k := 12) (t := 0) rfl (by decide) zka_int (by decide) (hfr 65 (by decide)) (by decide) dX7_init_23 ?_
  refine zV_Z (zLs_add _ _ _ _) ?_
  refine zV_putS (i := 60) (j := 65) (ci := 7) (ksl := [-1, -1, 63, 64, -3, -3, -3, -1, -3, -3, -3, -3, -3, -1, -1, -3, -1, -3, -3]) (Z' := zLs [(60, .inl (7, [-1, -1, 63, 64, 65, -3, -3, -1, -3, -3, -3, -3, -3, -1, -1, -3, -1, -3, -3])), (65, .inr (0, 12)), (64, .inr (0, 12)), (63, .inr (0, 12))] Z) rfl (by decide) zf_X7_4 zkf_X7_18 (by decide) dX7_init_25 rfl rfl (fun _ => ⟨rfl, rfl⟩) (zLs_set _ _ _ _) ?_
  refine zV_aload_n 0 dX7_init_28 rfl rfl ?_
  refine zV_bipush (v := 12) dX7_init_29 rfl ?_
  refine zV_newa (kc := 9) (ks := 1067) (i := 66) (k := 12) (t := 0) rfl (by decide) zka_int (by decide) (hfr 66 (by decide)) (by decide) dX7_init_31 ?_
  refine zV_Z (zLs_add _ _ _ _) ?_
  refine zV_putS (i := 60) (j := 66) (ci := 7) (ksl := [-1, -1, 63, 64, 65, -3, -3, -1, -3, -3, -3, -3, -3, -1, -1, -3, -1, -3, -3]) (Z' := zLs [(60, .inl (7, [-1, -1, 63, 64, 65, 66, -3, -1, -3, -3, -3, -3, -3, -1, -1, -3, -1, -3, -3])), (66, .inr (0, 12)), (65, .inr (0, 12)), (64, .inr (0, 12)), (63, .inr (0, 12))] Z) rfl (by decide) zf_X7_5 zkf_X7_21 (by decide) dX7_init_33 rfl rfl (fun _ => ⟨rfl, rfl⟩) (zLs_set _ _ _ _) ?_
  refine zV_aload_n 0 dX7_init_36 rfl rfl ?_
  refine zV_bipush (v := 12) dX7_init_37 rfl ?_
  refine zV_newa (kc := 8) (ks := 1055) (i := 67) (k := 12) (t := 0) rfl (by decide) zka_int (by decide) (hfr 67 (by decide)) (by decide) dX7_init_39 ?_
  refine zV_Z (zLs_add _ _ _ _) ?_
  refine zV_putS (i := 60) (j := 67) (ci := 7) (ksl := [-1, -1, 63, 64, 65, 66, -3, -1, -3, -3, -3, -3, -3, -1, -1, -3, -1, -3, -3]) (Z' := zLs [(60, .inl (7, [-1, -1, 63, 64, 65, 66, 67, -1, -3, -3, -3, -3, -3, -1, -1, -3, -1, -3, -3])), (67, .inr (0, 12)), (66, .inr (0, 12)), (65, .inr (0, 12)), (64, .inr (0, 12)), (63, .inr (0, 12))] Z) rfl (by decide) zf_X7_6 zkf_X7_24 (by decide) dX7_init_41 rfl rfl (fun _ => ⟨rfl, rfl⟩) (zLs_set _ _ _ _) ?_
  refine zV_aload_n 0 dX7_init_44 rfl rfl ?_
  refine zV_bipush (v := 8) dX7_init_45 rfl ?_
  refine zV_newa (kc := 7) (ks := 1047) (i := 69) (k := 8) (t := 0) rfl (by decide) zka_int (by decide) (hfr 69 (by decide)) (by decide) dX7_init_47 ?_
  refine zV_Z (zLs_add _ _ _ _) ?_
  refine zV_putS (i := 60) (j := 69) (ci := 7) (ksl := [-1, -1, 63, 64, 65, 66, 67, -1, -3, -3, -3, -3, -3, -1, -1, -3, -1, -3, -3]) (Z' := zLs [(60, .inl (7, [-1, -1, 63, 64, 65, 66, 67, -1, 69, -3, -3, -3, -3, -1, -1, -3, -1, -3, -3])), (69, .inr (0, 8)), (67, .inr (0, 12)), (66, .inr (0, 12)), (65, .inr (0, 12)), (64, .inr (0, 12)), (63, .inr (0, 12))] Z) rfl (by decide) zf_X7_8 zkf_X7_27 (by decide) dX7_init_49 rfl rfl (fun _ => ⟨rfl, rfl⟩) (zLs_set _ _ _ _) ?_
  refine zV_aload_n 0 dX7_init_52 rfl rfl ?_
  refine zV_bipush (v := 8) dX7_init_53 rfl ?_
  refine zV_newa (kc := 6) (ks := 1039) (i := 70) (k := 8) (t := 0) rfl (by decide) zka_int (by decide) (hfr 70 (by decide)) (by decide) dX7_init_55 ?_
  refine zV_Z (zLs_add _ _ _ _) ?_
  refine zV_putS (i := 60) (j := 70) (ci := 7) (ksl := [-1, -1, 63, 64, 65, 66, 67, -1, 69, -3, -3, -3, -3, -1, -1, -3, -1, -3, -3]) (Z' := zLs [(60, .inl (7, [-1, -1, 63, 64, 65, 66, 67, -1, 69, 70, -3, -3, -3, -1, -1, -3, -1, -3, -3])), (70, .inr (0, 8)), (69, .inr (0, 8)), (67, .inr (0, 12)), (66, .inr (0, 12)), (65, .inr (0, 12)), (64, .inr (0, 12)), (63, .inr (0, 12))] Z) rfl (by decide) zf_X7_9 zkf_X7_30 (by decide) dX7_init_57 rfl rfl (fun _ => ⟨rfl, rfl⟩) (zLs_set _ _ _ _) ?_
  refine zV_aload_n 0 dX7_init_60 rfl rfl ?_
  refine zV_bipush (v := 8) dX7_init_61 rfl ?_
  refine zV_newa (kc := 5) (ks := 1031) (i := 71) (k := 8) (t := 0) rfl (by decide) zka_int (by decide) (hfr 71 (by decide)) (by decide) dX7_init_63 ?_
  refine zV_Z (zLs_add _ _ _ _) ?_
  refine zV_putS (i := 60) (j := 71) (ci := 7) (ksl := [-1, -1, 63, 64, 65, 66, 67, -1, 69, 70, -3, -3, -3, -1, -1, -3, -1, -3, -3]) (Z' := zLs [(60, .inl (7, [-1, -1, 63, 64, 65, 66, 67, -1, 69, 70, 71, -3, -3, -1, -1, -3, -1, -3, -3])), (71, .inr (0, 8)), (70, .inr (0, 8)), (69, .inr (0, 8)), (67, .inr (0, 12)), (66, .inr (0, 12)), (65, .inr (0, 12)), (64, .inr (0, 12)), (63, .inr (0, 12))] Z) rfl (by decide) zf_X7_10 zkf_X7_33 (by decide) dX7_init_65 rfl rfl (fun _ => ⟨rfl, rfl⟩) (zLs_set _ _ _ _) ?_
  refine zV_aload_n 0 dX7_init_68 rfl rfl ?_
  refine zV_bipush (v := 8) dX7_init_69 rfl ?_
  refine zV_newa (kc := 4) (ks := 1023) (i := 72) (k := 8) (t := 0) rfl (by decide) zka_int (by decide) (hfr 72 (by decide)) (by decide) dX7_init_71 ?_
  refine zV_Z (zLs_add _ _ _ _) ?_
  refine zV_putS (i := 60) (j := 72) (ci := 7) (ksl := [-1, -1, 63, 64, 65, 66, 67, -1, 69, 70, 71, -3, -3, -1, -1, -3, -1, -3, -3]) (Z' := zLs [(60, .inl (7, [-1, -1, 63, 64, 65, 66, 67, -1, 69, 70, 71, 72, -3, -1, -1, -3, -1, -3, -3])), (72, .inr (0, 8)), (71, .inr (0, 8)), (70, .inr (0, 8)), (69, .inr (0, 8)), (67, .inr (0, 12)), (66, .inr (0, 12)), (65, .inr (0, 12)), (64, .inr (0, 12)), (63, .inr (0, 12))] Z) rfl (by decide) zf_X7_11 zkf_X7_36 (by decide) dX7_init_73 rfl rfl (fun _ => ⟨rfl, rfl⟩) (zLs_set _ _ _ _) ?_
  refine zV_aload_n 0 dX7_init_76 rfl rfl ?_
  refine zV_bipush (v := 8) dX7_init_77 rfl ?_
  refine zV_newa (kc := 3) (ks := 1015) (i := 73) (k := 8) (t := 0) rfl (by decide) zka_int (by decide) (hfr 73 (by decide)) (by decide) dX7_init_79 ?_
  refine zV_Z (zLs_add _ _ _ _) ?_
  refine zV_putS (i := 60) (j := 73) (ci := 7) (ksl := [-1, -1, 63, 64, 65, 66, 67, -1, 69, 70, 71, 72, -3, -1, -1, -3, -1, -3, -3]) (Z' := zLs [(60, .inl (7, [-1, -1, 63, 64, 65, 66, 67, -1, 69, 70, 71, 72, 73, -1, -1, -3, -1, -3, -3])), (73, .inr (0, 8)), (72, .inr (0, 8)), (71, .inr (0, 8)), (70, .inr (0, 8)), (69, .inr (0, 8)), (67, .inr (0, 12)), (66, .inr (0, 12)), (65, .inr (0, 12)), (64, .inr (0, 12)), (63, .inr (0, 12))] Z) rfl (by decide) zf_X7_12 zkf_X7_39 (by decide) dX7_init_81 rfl rfl (fun _ => ⟨rfl, rfl⟩) (zLs_set _ _ _ _) ?_
  refine zV_aload_n 0 dX7_init_84 rfl rfl ?_
  refine zV_sipush (v := 1000) dX7_init_85 rfl ?_
  refine zV_newa (kc := 2) (ks := 15) (i := 76) (k := 1000) (t := 0) rfl (by decide) zka_int (by decide) (hfr 76 (by decide)) (by decide) dX7_init_88 ?_
  refine zV_Z (zLs_add _ _ _ _) ?_
  refine zV_putS (i := 60) (j := 76) (ci := 7) (ksl := [-1, -1, 63, 64, 65, 66, 67, -1, 69, 70, 71, 72, 73, -1, -1, -3, -1, -3, -3]) (Z' := zLs ((60, .inl (7, [-1, -1, 63, 64, 65, 66, 67, -1, 69, 70, 71, 72, 73, -1, -1, 76, -1, -3, -3])) :: (76, .inr (0, 1000)) :: (73, .inr (0, 8)) :: (72, .inr (0, 8)) :: (71, .inr (0, 8)) :: (70, .inr (0, 8)) :: (69, .inr (0, 8)) :: (67, .inr (0, 12)) :: (66, .inr (0, 12)) :: (65, .inr (0, 12)) :: (64, .inr (0, 12)) :: (63, .inr (0, 12)) :: []) Z) rfl (by decide) zf_X7_15 zkf_X7_42 (by decide) dX7_init_90 rfl rfl (fun _ => ⟨rfl, rfl⟩) (zLs_set _ _ _ _) ?_
  refine zV_aload_n 0 dX7_init_93 rfl rfl ?_
  refine zV_iconst (v := 4) dX7_init_94 rfl ?_
  refine zV_newa (kc := 1) (ks := 11) (i := 78) (k := 4) (t := 0) rfl (by decide) zka_int (by decide) (hfr 78 (by decide)) (by decide) dX7_init_95 ?_
  refine zV_Z (zLs_add _ _ _ _) ?_
  refine zV_putS (i := 60) (j := 78) (ci := 7) (ksl := [-1, -1, 63, 64, 65, 66, 67, -1, 69, 70, 71, 72, 73, -1, -1, 76, -1, -3, -3]) (Z' := zLs ((60, .inl (7, [-1, -1, 63, 64, 65, 66, 67, -1, 69, 70, 71, 72, 73, -1, -1, 76, -1, 78, -3])) :: (78, .inr (0, 4)) :: (76, .inr (0, 1000)) :: (73, .inr (0, 8)) :: (72, .inr (0, 8)) :: (71, .inr (0, 8)) :: (70, .inr (0, 8)) :: (69, .inr (0, 8)) :: (67, .inr (0, 12)) :: (66, .inr (0, 12)) :: (65, .inr (0, 12)) :: (64, .inr (0, 12)) :: (63, .inr (0, 12)) :: []) Z) rfl (by decide) zf_X7_17 zkf_X7_45 (by decide) dX7_init_97 rfl rfl (fun _ => ⟨rfl, rfl⟩) (zLs_set _ _ _ _) ?_
  refine zV_aload_n 0 dX7_init_100 rfl rfl ?_
  refine zV_gets (i := 1000) zgs_X7_48 (by decide) (show (Z 1000).isSome = true by rw [hU]; rfl) dX7_init_101 ?_
  refine zV_clone (kc := 0) (ks := 0) (i := 79) zcw_clone zcw_cast (show Z 1000 = _ from hU) (by decide) (hfr 79 (by decide)) dX7_init_104 dX7_init_107 (by omega) (Nat.le_of_ble_eq_true rfl) ?_
  refine zV_Z (zLs_add _ _ _ _) ?_
  refine zV_putS (i := 60) (j := 79) (ci := 7) (ksl := [-1, -1, 63, 64, 65, 66, 67, -1, 69, 70, 71, 72, 73, -1, -1, 76, -1, 78, -3]) (Z' := zLs ((60, .inl (7, [-1, -1, 63, 64, 65, 66, 67, -1, 69, 70, 71, 72, 73, -1, -1, 76, -1, 78, 79])) :: (79, .inr (0, 11)) :: (78, .inr (0, 4)) :: (76, .inr (0, 1000)) :: (73, .inr (0, 8)) :: (72, .inr (0, 8)) :: (71, .inr (0, 8)) :: (70, .inr (0, 8)) :: (69, .inr (0, 8)) :: (67, .inr (0, 12)) :: (66, .inr (0, 12)) :: (65, .inr (0, 12)) :: (64, .inr (0, 12)) :: (63, .inr (0, 12)) :: []) Z) rfl (by decide) zf_X7_18 zkf_X7_56 (by decide) dX7_init_110 rfl rfl (fun _ => ⟨rfl, rfl⟩) (zLs_set _ _ _ _) ?_
  exact zV_vret dX7_init_113 rfl h
def zmI_X6_30 (M : zMem) : zMem := (zfr M 32 0)
set_option maxRecDepth 100000 in
set_option maxHeartbeats 4000000 in
theorem zcI_X6_30 {Z : zZ} (hfr : ∀ i ∈ (32 :: [] : List Nat), Z i = none) {n : Nat} (hn : 1 ≤ n) {M : zMem} {Q : Option zAV → zMem → zZ → Prop} (h : Q none (zmI_X6_30 M) (zLs [(30, .inl (6, [20, 60, 32, -1, -1, -1])), (32, .inr (0, 12))] Z)) : zV zmX6_init n 1 12 (zLs [(30, .inl (6, [-3, -3, -3, -1, -1, -1]))] Z) 0 [(0, zR 30), (1, zR 20), (2, zR 60)] [] M Q := by
  unfold zmI_X6_30 at h
  refine zV_aload_n 0 dX6_init_0 rfl rfl ?_
  refine zV_objI zoi_X6 dX6_init_1 (by omega) (Nat.le_of_ble_eq_true rfl) ?_
  refine zV_aload_n 0 dX6_init_4 rfl rfl ?_
  refine zV_bipush (v := 12) dX6_init_5 rfl ?_
  refine zV_newa (kc := 0) (ks := 0) (i := 32) (k := 12) (t := 0) rfl (by decide) zka_int (by decide) (hfr 32 (by decide)) (by decide) dX6_init_7 ?_
  refine zV_Z (zLs_add _ _ _ _) ?_
  refine zV_putS (i := 30) (j := 32) (ci := 6) (ksl := [-3, -3, -3, -1, -1, -1]) (Z' := zLs [(30, .inl (6, [-3, -3, 32, -1, -1, -1])), (32, .inr (0, 12))] Z) rfl (by decide) zf_X6_2 zkf_X6_9 (by decide) dX6_init_9 rfl rfl (fun _ => ⟨rfl, rfl⟩) (zLs_set _ _ _ _) ?_
  refine zV_aload_n 0 dX6_init_12 rfl rfl ?_
  refine zV_aload_n 1 dX6_init_13 rfl rfl ?_
  refine zV_putS (i := 30) (j := 20) (ci := 6) (ksl := [-3, -3, 32, -1, -1, -1]) (Z' := zLs [(30, .inl (6, [20, -3, 32, -1, -1, -1])), (32, .inr (0, 12))] Z) rfl (by decide) zf_X6_0 zkf_X6_15 (by decide) dX6_init_14 rfl rfl (fun _ => ⟨rfl, rfl⟩) (zLs_set _ _ _ _) ?_
  refine zV_aload_n 0 dX6_init_17 rfl rfl ?_
  refine zV_aload_n 2 dX6_init_18 rfl rfl ?_
  refine zV_putS (i := 30) (j := 60) (ci := 6) (ksl := [20, -3, 32, -1, -1, -1]) (Z' := zLs [(30, .inl (6, [20, 60, 32, -1, -1, -1])), (32, .inr (0, 12))] Z) rfl (by decide) zf_X6_1 zkf_X6_19 (by decide) dX6_init_19 rfl rfl (fun _ => ⟨rfl, rfl⟩) (zLs_set _ _ _ _) ?_
  exact zV_vret dX6_init_22 rfl h
def zmI_X5_80 (M : zMem) : zMem := (zfr (zfr (zfr (zfr (zfr M 82 0) 83 0) 84 0) 85 0) 86 0)
set_option maxRecDepth 100000 in
set_option maxHeartbeats 4000000 in
theorem zcI_X5_80 {Z : zZ} (hfr : ∀ i ∈ (82 :: 83 :: 84 :: 85 :: 86 :: [] : List Nat), Z i = none) {n : Nat} (hn : 1 ≤ n) {M : zMem} {Q : Option zAV → zMem → zZ → Prop} (h : Q none (zmI_X5_80 M) (zLs [(80, .inl (5, [-1, 82, 83, 84, 85, 86])), (86, .inr (0, 24)), (85, .inr (0, 24)), (84, .inr (0, 24)), (83, .inr (0, 24)), (82, .inr (0, 24))] Z)) : zV zmX5_init n 5 120 (zLs [(80, .inl (5, [-1, -3, -3, -3, -3, -3]))] Z) 0 [(0, zR 80)] [] M Q := by
  unfold zmI_X5_80 at h
  refine zV_aload_n 0 dX5_init_0 rfl rfl ?_
  refine zV_objI zoi_X5 dX5_init_1 (by omega) (Nat.le_of_ble_eq_true rfl) ?_
  refine zV_aload_n 0 dX5_init_4 rfl rfl ?_
  refine zV_bipush (v := 24) dX5_init_5 rfl ?_
  refine zV_newa (kc := 4) (ks := 96) (i := 82) (k := 24) (t := 0) rfl (by decide) zka_int (by decide) (hfr 82 (by decide)) (by decide) dX5_init_7 ?_
  refine zV_Z (zLs_add _ _ _ _) ?_
  refine zV_putS (i := 80) (j := 82) (ci := 5) (ksl := [-1, -3, -3, -3, -3, -3]) (Z' := zLs [(80, .inl (5, [-1, 82, -3, -3, -3, -3])), (82, .inr (0, 24))] Z) rfl (by decide) zf_X5_1 zkf_X5_9 (by decide) dX5_init_9 rfl rfl (fun _ => ⟨rfl, rfl⟩) (zLs_set _ _ _ _) ?_
  refine zV_aload_n 0 dX5_init_12 rfl rfl ?_
  refine zV_bipush (v := 24) dX5_init_13 rfl ?_
  refine zV_newa (kc := 3) (ks := 72) (i := 83) (k := 24) (t := 0) rfl (by decide) zka_int (by decide) (hfr 83 (by decide)) (by decide) dX5_init_15 ?_
  refine zV_Z (zLs_add _ _ _ _) ?_
  refine zV_putS (i := 80) (j := 83) (ci := 5) (ksl := [-1, 82, -3, -3, -3, -3]) (Z' := zLs [(80, .inl (5, [-1, 82, 83, -3, -3, -3])), (83, .inr (0, 24)), (82, .inr (0, 24))] Z) rfl (by decide) zf_X5_2 zkf_X5_15 (by decide) dX5_init_17 rfl rfl (fun _ => ⟨rfl, rfl⟩) (zLs_set _ _ _ _) ?_
  refine zV_aload_n 0 dX5_init_20 rfl rfl ?_
  refine zV_bipush (v := 24) dX5_init_21 rfl ?_
  refine zV_newa (kc := 2) (ks := 48) (i := 84) (k := 24) (t := 0) rfl (by decide) zka_int (by decide) (hfr 84 (by decide)) (by decide) dX5_init_23 ?_
  refine zV_Z (zLs_add _ _ _ _) ?_
  refine zV_putS (i := 80) (j := 84) (ci := 5) (ksl := [-1, 82, 83, -3, -3, -3]) (Z' := zLs [(80, .inl (5, [-1, 82, 83, 84, -3, -3])), (84, .inr (0, 24)), (83, .inr (0, 24)), (82, .inr (0, 24))] Z) rfl (by decide) zf_X5_3 zkf_X5_18 (by decide) dX5_init_25 rfl rfl (fun _ => ⟨rfl, rfl⟩) (zLs_set _ _ _ _) ?_
  refine zV_aload_n 0 dX5_init_28 rfl rfl ?_
  refine zV_bipush (v := 24) dX5_init_29 rfl ?_
  refine zV_newa (kc := 1) (ks := 24) (i := 85) (k := 24) (t := 0) rfl (by decide) zka_int (by decide) (hfr 85 (by decide)) (by decide) dX5_init_31 ?_
  refine zV_Z (zLs_add _ _ _ _) ?_
  refine zV_putS (i := 80) (j := 85) (ci := 5) (ksl := [-1, 82, 83, 84, -3, -3]) (Z' := zLs [(80, .inl (5, [-1, 82, 83, 84, 85, -3])), (85, .inr (0, 24)), (84, .inr (0, 24)), (83, .inr (0, 24)), (82, .inr (0, 24))] Z) rfl (by decide) zf_X5_4 zkf_X5_21 (by decide) dX5_init_33 rfl rfl (fun _ => ⟨rfl, rfl⟩) (zLs_set _ _ _ _) ?_
  refine zV_aload_n 0 dX5_init_36 rfl rfl ?_
  refine zV_bipush (v := 24) dX5_init_37 rfl ?_
  refine zV_newa (kc := 0) (ks := 0) (i := 86) (k := 24) (t := 0) rfl (by decide) zka_int (by decide) (hfr 86 (by decide)) (by decide) dX5_init_39 ?_
  refine zV_Z (zLs_add _ _ _ _) ?_
  refine zV_putS (i := 80) (j := 86) (ci := 5) (ksl := [-1, 82, 83, 84, 85, -3]) (Z' := zLs [(80, .inl (5, [-1, 82, 83, 84, 85, 86])), (86, .inr (0, 24)), (85, .inr (0, 24)), (84, .inr (0, 24)), (83, .inr (0, 24)), (82, .inr (0, 24))] Z) rfl (by decide) zf_X5_5 zkf_X5_24 (by decide) dX5_init_41 rfl rfl (fun _ => ⟨rfl, rfl⟩) (zLs_set _ _ _ _) ?_
  exact zV_vret dX5_init_44 rfl h
def zmI_X10_90 (M : zMem) : zMem := (zfr (zfr (zfr M 93 0) 94 0) 95 0)
set_option maxRecDepth 100000 in
set_option maxHeartbeats 4000000 in
theorem zcI_X10_90 {Z : zZ} (hfr : ∀ i ∈ (93 :: 94 :: 95 :: [] : List Nat), Z i = none) {n : Nat} (hn : 1 ≤ n) {M : zMem} {Q : Option zAV → zMem → zZ → Prop} (h : Q none (zmI_X10_90 M) (zLs [(90, .inl (10, [40, 80, 93, 94, 95, -1])), (95, .inr (0, 12)), (94, .inr (0, 2400)), (93, .inr (0, 200))] Z)) : zV zmX10_init n 3 2612 (zLs [(90, .inl (10, [-3, -3, -3, -3, -3, -1]))] Z) 0 [(0, zR 90), (1, zR 40), (2, zR 80)] [] M Q := by
  unfold zmI_X10_90 at h
  refine zV_aload_n 0 dX10_init_0 rfl rfl ?_
  refine zV_objI zoi_X10 dX10_init_1 (by omega) (Nat.le_of_ble_eq_true rfl) ?_
  refine zV_aload_n 0 dX10_init_4 rfl rfl ?_
  refine zV_sipush (v := 200) dX10_init_5 rfl ?_
  refine zV_newa (kc := 2) (ks := 2412) (i := 93) (k := 200) (t := 0) rfl (by decide) zka_int (by decide) (hfr 93 (by decide)) (by decide) dX10_init_8 ?_
  refine zV_Z (zLs_add _ _ _ _) ?_
  refine zV_putS (i := 90) (j := 93) (ci := 10) (ksl := [-3, -3, -3, -3, -3, -1]) (Z' := zLs [(90, .inl (10, [-3, -3, 93, -3, -3, -1])), (93, .inr (0, 200))] Z) rfl (by decide) zf_X10_2 zkf_X10_9 (by decide) dX10_init_10 rfl rfl (fun _ => ⟨rfl, rfl⟩) (zLs_set _ _ _ _) ?_
  refine zV_aload_n 0 dX10_init_13 rfl rfl ?_
  refine zV_sipush (v := 2400) dX10_init_14 rfl ?_
  refine zV_newa (kc := 1) (ks := 12) (i := 94) (k := 2400) (t := 0) rfl (by decide) zka_int (by decide) (hfr 94 (by decide)) (by decide) dX10_init_17 ?_
  refine zV_Z (zLs_add _ _ _ _) ?_
  refine zV_putS (i := 90) (j := 94) (ci := 10) (ksl := [-3, -3, 93, -3, -3, -1]) (Z' := zLs [(90, .inl (10, [-3, -3, 93, 94, -3, -1])), (94, .inr (0, 2400)), (93, .inr (0, 200))] Z) rfl (by decide) zf_X10_3 zkf_X10_15 (by decide) dX10_init_19 rfl rfl (fun _ => ⟨rfl, rfl⟩) (zLs_set _ _ _ _) ?_
  refine zV_aload_n 0 dX10_init_22 rfl rfl ?_
  refine zV_bipush (v := 12) dX10_init_23 rfl ?_
  refine zV_newa (kc := 0) (ks := 0) (i := 95) (k := 12) (t := 0) rfl (by decide) zka_int (by decide) (hfr 95 (by decide)) (by decide) dX10_init_25 ?_
  refine zV_Z (zLs_add _ _ _ _) ?_
  refine zV_putS (i := 90) (j := 95) (ci := 10) (ksl := [-3, -3, 93, 94, -3, -1]) (Z' := zLs [(90, .inl (10, [-3, -3, 93, 94, 95, -1])), (95, .inr (0, 12)), (94, .inr (0, 2400)), (93, .inr (0, 200))] Z) rfl (by decide) zf_X10_4 zkf_X10_18 (by decide) dX10_init_27 rfl rfl (fun _ => ⟨rfl, rfl⟩) (zLs_set _ _ _ _) ?_
  refine zV_aload_n 0 dX10_init_30 rfl rfl ?_
  refine zV_aload_n 1 dX10_init_31 rfl rfl ?_
  refine zV_putS (i := 90) (j := 40) (ci := 10) (ksl := [-3, -3, 93, 94, 95, -1]) (Z' := zLs [(90, .inl (10, [40, -3, 93, 94, 95, -1])), (95, .inr (0, 12)), (94, .inr (0, 2400)), (93, .inr (0, 200))] Z) rfl (by decide) zf_X10_0 zkf_X10_21 (by decide) dX10_init_32 rfl rfl (fun _ => ⟨rfl, rfl⟩) (zLs_set _ _ _ _) ?_
  refine zV_aload_n 0 dX10_init_35 rfl rfl ?_
  refine zV_aload_n 2 dX10_init_36 rfl rfl ?_
  refine zV_putS (i := 90) (j := 80) (ci := 10) (ksl := [40, -3, 93, 94, 95, -1]) (Z' := zLs [(90, .inl (10, [40, 80, 93, 94, 95, -1])), (95, .inr (0, 12)), (94, .inr (0, 2400)), (93, .inr (0, 200))] Z) rfl (by decide) zf_X10_1 zkf_X10_25 (by decide) dX10_init_37 rfl rfl (fun _ => ⟨rfl, rfl⟩) (zLs_set _ _ _ _) ?_
  exact zV_vret dX10_init_40 rfl h
def zmI_X2_100 (M : zMem) : zMem := M
set_option maxRecDepth 100000 in
set_option maxHeartbeats 4000000 in
theorem zcI_X2_100 {Z : zZ} (hfr : ∀ i ∈ ([] : List Nat), Z i = none) {n : Nat} (hn : 1 ≤ n) {M : zMem} {Q : Option zAV → zMem → zZ → Prop} (h : Q none (zmI_X2_100 M) (zLs [(100, .inl (2, [40, 80]))] Z)) : zV zmX2_init n 0 0 (zLs [(100, .inl (2, [-3, -3]))] Z) 0 [(0, zR 100), (1, zR 40), (2, zR 80)] [] M Q := by
  unfold zmI_X2_100 at h
  refine zV_aload_n 0 dX2_init_0 rfl rfl ?_
  refine zV_objI zoi_X2 dX2_init_1 (by omega) (Nat.le_of_ble_eq_true rfl) ?_
  refine zV_aload_n 0 dX2_init_4 rfl rfl ?_
  refine zV_aload_n 1 dX2_init_5 rfl rfl ?_
  refine zV_putS (i := 100) (j := 40) (ci := 2) (ksl := [-3, -3]) (Z' := zLs [(100, .inl (2, [40, -3]))] Z) rfl (by decide) zf_X2_0 zkf_X2_9 (by decide) dX2_init_6 rfl rfl (fun _ => ⟨rfl, rfl⟩) (zLs_set _ _ _ _) ?_
  refine zV_aload_n 0 dX2_init_9 rfl rfl ?_
  refine zV_aload_n 2 dX2_init_10 rfl rfl ?_
  refine zV_putS (i := 100) (j := 80) (ci := 2) (ksl := [40, -3]) (Z' := zLs [(100, .inl (2, [40, 80]))] Z) rfl (by decide) zf_X2_1 zkf_X2_15 (by decide) dX2_init_11 rfl rfl (fun _ => ⟨rfl, rfl⟩) (zLs_set _ _ _ _) ?_
  exact zV_vret dX2_init_14 rfl h
def zmI_X3_120 (M : zMem) : zMem := (zfr (zfr M 122 0) 123 0)
set_option maxRecDepth 100000 in
set_option maxHeartbeats 4000000 in
theorem zcI_X3_120 {Z : zZ} (hfr : ∀ i ∈ (122 :: 123 :: [] : List Nat), Z i = none) (hs : zBs Z) {n : Nat} (hn : 6 ≤ n) {M : zMem} {Q : Option zAV → zMem → zZ → Prop} (h : Q none (zmI_X3_120 M) (zLs [(120, .inl (3, [40, 122, 123])), (123, .inr (0, 29)), (122, .inr (0, 32))] Z)) : zV zmX3_init n 2 61 (zLs [(120, .inl (3, [-3, -3, -3]))] Z) 0 [(0, zR 120), (1, zR 40)] [] M Q := by
  unfold zmI_X3_120 at h
  refine zV_aload_n 0 dX3_init_0 rfl rfl ?_
  refine zV_objI zoi_X3 dX3_init_1 (by omega) (Nat.le_of_ble_eq_true rfl) ?_
  refine zV_aload_n 0 dX3_init_4 rfl rfl ?_
  refine zV_bipush (v := 32) dX3_init_5 rfl ?_
  refine zV_newa (kc := 1) (ks := 29) (i := 122) (k := 32) (t := 0) rfl (by decide) zka_int (by decide) (hfr 122 (by decide)) (by decide) dX3_init_7 ?_
  refine zV_Z (zLs_add _ _ _ _) ?_
  refine zV_putS (i := 120) (j := 122) (ci := 3) (ksl := [-3, -3, -3]) (Z' := zLs [(120, .inl (3, [-3, 122, -3])), (122, .inr (0, 32))] Z) rfl (by decide) zf_X3_1 zkf_X3_9 (by decide) dX3_init_9 rfl rfl (fun _ => ⟨rfl, rfl⟩) (zLs_set _ _ _ _) ?_
  refine zV_aload_n 0 dX3_init_12 rfl rfl ?_
  refine zV_ldS (i := 1010) (by decide) (show (Z 1010).isSome = true from hs.1) dX3_init_13 ?_
  refine zV_slen zc_X3_17 (show zBs (zLs [(120, .inl (3, [-3, 122, -3])), (122, .inr (0, 32))] Z) from hs) (by omega) (Nat.le_of_ble_eq_true rfl) dX3_init_15 ?_
  refine zV_bipush (v := 8) dX3_init_18 rfl ?_
  refine zV_idiv dX3_init_20 ⟨by decide, by decide⟩ (by decide) ?_
  refine zV_cst (show zdiv 232 8 = 29 by decide +kernel) ?_
  refine zV_newa (kc := 0) (ks := 0) (i := 123) (k := 29) (t := 0) rfl (by decide) zka_int (by decide) (hfr 123 (by decide)) (by decide) dX3_init_21 ?_
  refine zV_Z (zLs_add _ _ _ _) ?_
  refine zV_putS (i := 120) (j := 123) (ci := 3) (ksl := [-3, 122, -3]) (Z' := zLs [(120, .inl (3, [-3, 122, 123])), (123, .inr (0, 29)), (122, .inr (0, 32))] Z) rfl (by decide) zf_X3_2 zkf_X3_23 (by decide) dX3_init_23 rfl rfl (fun _ => ⟨rfl, rfl⟩) (zLs_set _ _ _ _) ?_
  refine zV_aload_n 0 dX3_init_26 rfl rfl ?_
  refine zV_aload_n 1 dX3_init_27 rfl rfl ?_
  refine zV_putS (i := 120) (j := 40) (ci := 3) (ksl := [-3, 122, 123]) (Z' := zLs [(120, .inl (3, [40, 122, 123])), (123, .inr (0, 29)), (122, .inr (0, 32))] Z) rfl (by decide) zf_X3_0 zkf_X3_26 (by decide) dX3_init_28 rfl rfl (fun _ => ⟨rfl, rfl⟩) (zLs_set _ _ _ _) ?_
  exact zV_vret dX3_init_31 rfl h
def zmI_X9_110 (M : zMem) : zMem := (zmI_X3_120 (zno (zfr (zfr M 116 0) 117 0) 120 [-3, -3, -3]))
set_option maxRecDepth 100000 in
set_option maxHeartbeats 4000000 in
theorem zcI_X9_110 {Z : zZ} (hfr : ∀ i ∈ (116 :: 117 :: 120 :: 122 :: 123 :: [] : List Nat), Z i = none) (hs : zBs Z) {n : Nat} (hn : 7 ≤ n) {M : zMem} {Q : Option zAV → zMem → zZ → Prop} (h : Q none (zmI_X9_110 M) (zLs [(110, .inl (9, [40, 80, 90, 100, 120, 116, 117, -1])), (120, .inl (3, [40, 122, 123])), (123, .inr (0, 29)), (122, .inr (0, 32)), (117, .inr (0, 100)), (116, .inr (0, 960))] Z)) : zV zmX9_init n 5 1124 (zLs [(110, .inl (9, [-3, -3, -3, -3, -3, -3, -3, -1]))] Z) 0 [(0, zR 110), (1, zR 40), (2, zR 80), (3, zR 90), (4, zR 100)] [] M Q := by
  unfold zmI_X9_110 at h
  refine zV_aload_n 0 dX9_init_0 rfl rfl ?_
  refine zV_objI zoi_X9 dX9_init_1 (by omega) (Nat.le_of_ble_eq_true rfl) ?_
  refine zV_aload_n 0 dX9_init_4 rfl rfl ?_
  refine zV_sipush (v := 960) dX9_init_5 rfl ?_
  refine zV_newa (kc := 4) (ks := 164) (i := 116) (k := 960) (t := 0) rfl (by decide) zka_int (by decide) (hfr 116 (by decide)) (by decide) dX9_init_8 ?_
  refine zV_Z (zLs_add _ _ _ _) ?_
  refine zV_putS (i := 110) (j := 116) (ci := 9) (ksl := [-3, -3, -3, -3, -3, -3, -3, -1]) (Z' := zLs [(110, .inl (9, [-3, -3, -3, -3, -3, 116, -3, -1])), (116, .inr (0, 960))] Z) rfl (by decide) zf_X9_5 zkf_X9_9 (by decide) dX9_init_10 rfl rfl (fun _ => ⟨rfl, rfl⟩) (zLs_set _ _ _ _) ?_
  refine zV_aload_n 0 dX9_init_13 rfl rfl ?_
  refine zV_bipush (v := 100) dX9_init_14 rfl ?_
  refine zV_newa (kc := 3) (ks := 64) (i := 117) (k := 100) (t := 0) rfl (by decide) zka_int (by decide) (hfr 117 (by decide)) (by decide) dX9_init_16 ?_
  refine zV_Z (zLs_add _ _ _ _) ?_
  refine zV_putS (i := 110) (j := 117) (ci := 9) (ksl := [-3, -3, -3, -3, -3, 116, -3, -1]) (Z' := zLs [(110, .inl (9, [-3, -3, -3, -3, -3, 116, 117, -1])), (117, .inr (0, 100)), (116, .inr (0, 960))] Z) rfl (by decide) zf_X9_6 zkf_X9_15 (by decide) dX9_init_18 rfl rfl (fun _ => ⟨rfl, rfl⟩) (zLs_set _ _ _ _) ?_
  refine zV_aload_n 0 dX9_init_21 rfl rfl ?_
  refine zV_aload_n 1 dX9_init_22 rfl rfl ?_
  refine zV_putS (i := 110) (j := 40) (ci := 9) (ksl := [-3, -3, -3, -3, -3, 116, 117, -1]) (Z' := zLs [(110, .inl (9, [40, -3, -3, -3, -3, 116, 117, -1])), (117, .inr (0, 100)), (116, .inr (0, 960))] Z) rfl (by decide) zf_X9_0 zkf_X9_18 (by decide) dX9_init_23 rfl rfl (fun _ => ⟨rfl, rfl⟩) (zLs_set _ _ _ _) ?_
  refine zV_aload_n 0 dX9_init_26 rfl rfl ?_
  refine zV_aload_n 2 dX9_init_27 rfl rfl ?_
  refine zV_putS (i := 110) (j := 80) (ci := 9) (ksl := [40, -3, -3, -3, -3, 116, 117, -1]) (Z' := zLs [(110, .inl (9, [40, 80, -3, -3, -3, 116, 117, -1])), (117, .inr (0, 100)), (116, .inr (0, 960))] Z) rfl (by decide) zf_X9_1 zkf_X9_22 (by decide) dX9_init_28 rfl rfl (fun _ => ⟨rfl, rfl⟩) (zLs_set _ _ _ _) ?_
  refine zV_aload_n 0 dX9_init_31 rfl rfl ?_
  refine zV_aload_n 3 dX9_init_32 rfl rfl ?_
  refine zV_putS (i := 110) (j := 90) (ci := 9) (ksl := [40, 80, -3, -3, -3, 116, 117, -1]) (Z' := zLs [(110, .inl (9, [40, 80, 90, -3, -3, 116, 117, -1])), (117, .inr (0, 100)), (116, .inr (0, 960))] Z) rfl (by decide) zf_X9_2 zkf_X9_26 (by decide) dX9_init_33 rfl rfl (fun _ => ⟨rfl, rfl⟩) (zLs_set _ _ _ _) ?_
  refine zV_aload_n 0 dX9_init_36 rfl rfl ?_
  refine zV_aload 4 dX9_init_37 rfl ?_
  refine zV_putS (i := 110) (j := 100) (ci := 9) (ksl := [40, 80, 90, -3, -3, 116, 117, -1]) (Z' := zLs [(110, .inl (9, [40, 80, 90, 100, -3, 116, 117, -1])), (117, .inr (0, 100)), (116, .inr (0, 960))] Z) rfl (by decide) zf_X9_3 zkf_X9_30 (by decide) dX9_init_39 rfl rfl (fun _ => ⟨rfl, rfl⟩) (zLs_set _ _ _ _) ?_
  refine zV_aload_n 0 dX9_init_42 rfl rfl ?_
  refine zV_newo (kc := 2) (ks := 61) (i := 120) (ci := 3) (N := 3) (raw := [-3, -3, -3]) (M' := zno (zfr (zfr M 116 0) 117 0) 120 [-3, -3, -3]) rfl zinX3 tyX3_ok zkx_X9_34 zkb_X3 zki_X3 (by decide) (hfr 120 (by decide)) rfl (zno_r_X3_120 _) (zno_k_X3_120 _ _) (fun a b h => zno_ne h) dX9_init_43 ?_
  refine zV_Z (zLs_add _ _ _ _) ?_
  refine zV_dup dX9_init_46 rfl ?_
  refine zV_aload_n 1 dX9_init_47 rfl rfl ?_
  refine zV_Z (zLs_app [(120, .inl (3, [-3, -3, -3]))] [(110, .inl (9, [40, 80, 90, 100, -3, 116, 117, -1])), (117, .inr (0, 100)), (116, .inr (0, 960))] Z) ?_
  refine zV_callI (kc := 0) (ks := 0) (mc := 2) (ms := 61) (n' := 6) (As := [zR 40]) (Q' := fun r M1 Z1 => r = none ∧ M1 = (zmI_X3_120 (zno (zfr (zfr M 116 0) 117 0) 120 [-3, -3, -3])) ∧ Z1 = zLs [(120, .inl (3, [40, 122, 123])), (123, .inr (0, 29)), (122, .inr (0, 32))] (zLs [(110, .inl (9, [40, 80, 90, 100, -3, 116, 117, -1])), (117, .inr (0, 100)), (116, .inr (0, 960))] Z)) zc_X9_36 dX9_init_48 (by omega) rfl (Nat.le_of_ble_eq_true rfl) (Nat.le_of_ble_eq_true rfl) rfl (zcI_X3_120 (Z := zLs [(110, .inl (9, [40, 80, 90, 100, -3, 116, 117, -1])), (117, .inr (0, 100)), (116, .inr (0, 960))] Z) (List.forall_mem_cons.mpr ⟨(hfr 122 (by decide) : Z 122 = none), List.forall_mem_cons.mpr ⟨(hfr 123 (by decide) : Z 123 = none), fun _ h => nomatch h⟩⟩) (show zBs (zLs [(110, .inl (9, [40, 80, 90, 100, -3, 116, 117, -1])), (117, .inr (0, 100)), (116, .inr (0, 960))] Z) from hs) (Nat.le_refl _) ⟨rfl, rfl, rfl⟩) ?_
  rintro _ _ _ _ ⟨rfl, rfl, rfl⟩
  refine zV_Z (zLs_app [(120, .inl (3, [40, 122, 123])), (123, .inr (0, 29)), (122, .inr (0, 32))] [(110, .inl (9, [40, 80, 90, 100, -3, 116, 117, -1])), (117, .inr (0, 100)), (116, .inr (0, 960))] Z).symm ?_
  refine zV_putS (i := 110) (j := 120) (ci := 9) (ksl := [40, 80, 90, 100, -3, 116, 117, -1]) (Z' := zLs [(110, .inl (9, [40, 80, 90, 100, 120, 116, 117, -1])), (120, .inl (3, [40, 122, 123])), (123, .inr (0, 29)), (122, .inr (0, 32)), (117, .inr (0, 100)), (116, .inr (0, 960))] Z) rfl (by decide) zf_X9_4 zkf_X9_39 (by decide) dX9_init_51 rfl rfl (fun _ => ⟨rfl, rfl⟩) (zLs_set _ _ _ _) ?_
  exact zV_vret dX9_init_54 rfl h
def zmI_X0_130 (M : zMem) : zMem := (zfr (zfr (zfr (zfr M 134 0) 135 0) 136 0) 137 0)
set_option maxRecDepth 100000 in
set_option maxHeartbeats 4000000 in
theorem zcI_X0_130 {Z : zZ} (hfr : ∀ i ∈ (134 :: 135 :: 136 :: 137 :: [] : List Nat), Z i = none) {n : Nat} (hn : 1 ≤ n) {M : zMem} {Q : Option zAV → zMem → zZ → Prop} (h : Q none (zmI_X0_130 M) (zLs [(130, .inl (0, [40, 80, 100, 134, 135, 136, 137, -1, -1, -1, -1])), (137, .inr (0, 8)), (136, .inr (0, 9)), (135, .inr (0, 8)), (134, .inr (0, 8))] Z)) : zV zmX0_init n 4 33 (zLs [(130, .inl (0, [-3, -3, -3, -3, -3, -3, -3, -1, -1, -1, -1]))] Z) 0 [(0, zR 130), (1, zR 40), (2, zR 80), (3, zR 100)] [] M Q := by
  unfold zmI_X0_130 at h
  refine zV_aload_n 0 dX0_init_0 rfl rfl ?_
  refine zV_objI zoi_X0 dX0_init_1 (by omega) (Nat.le_of_ble_eq_true rfl) ?_
  refine zV_aload_n 0 dX0_init_4 rfl rfl ?_
  refine zV_bipush (v := 8) dX0_init_5 rfl ?_
  refine zV_newa (kc := 3) (ks := 25) (i := 134) (k := 8) (t := 0) rfl (by decide) zka_int (by decide) (hfr 134 (by decide)) (by decide) dX0_init_7 ?_
  refine zV_Z (zLs_add _ _ _ _) ?_
  refine zV_putS (i := 130) (j := 134) (ci := 0) (ksl := [-3, -3, -3, -3, -3, -3, -3, -1, -1, -1, -1]) (Z' := zLs [(130, .inl (0, [-3, -3, -3, 134, -3, -3, -3, -1, -1, -1, -1])), (134, .inr (0, 8))] Z) rfl (by decide) zf_X0_3 zkf_X0_9 (by decide) dX0_init_9 rfl rfl (fun _ => ⟨rfl, rfl⟩) (zLs_set _ _ _ _) ?_
  refine zV_aload_n 0 dX0_init_12 rfl rfl ?_
  refine zV_bipush (v := 8) dX0_init_13 rfl ?_
  refine zV_newa (kc := 2) (ks := 17) (i := 135) (k := 8) (t := 0) rfl (by decide) zka_int (by decide) (hfr 135 (by decide)) (by decide) dX0_init_15 ?_
  refine zV_Z (zLs_add _ _ _ _) ?_
  refine zV_putS (i := 130) (j := 135) (ci := 0) (ksl := [-3, -3, -3, 134, -3, -3, -3, -1, -1, -1, -1]) (Z' := zLs [(130, .inl (0, [-3, -3, -3, 134, 135, -3, -3, -1, -1, -1, -1])), (135, .inr (0, 8)), (134, .inr (0, 8))] Z) rfl (by decide) zf_X0_4 zkf_X0_15 (by decide) dX0_init_17 rfl rfl (fun _ => ⟨rfl, rfl⟩) (zLs_set _ _ _ _) ?_
  refine zV_aload_n 0 dX0_init_20 rfl rfl ?_
  refine zV_bipush (v := 9) dX0_init_21 rfl ?_
  refine zV_newa (kc := 1) (ks := 8) (i := 136) (k := 9) (t := 0) rfl (by decide) zka_int (by decide) (hfr 136 (by decide)) (by decide) dX0_init_23 ?_
  refine zV_Z (zLs_add _ _ _ _) ?_
  refine zV_putS (i := 130) (j := 136) (ci := 0) (ksl := [-3, -3, -3, 134, 135, -3, -3, -1, -1, -1, -1]) (Z' := zLs [(130, .inl (0, [-3, -3, -3, 134, 135, 136, -3, -1, -1, -1, -1])), (136, .inr (0, 9)), (135, .inr (0, 8)), (134, .inr (0, 8))] Z) rfl (by decide) zf_X0_5 zkf_X0_18 (by decide) dX0_init_25 rfl rfl (fun _ => ⟨rfl, rfl⟩) (zLs_set _ _ _ _) ?_
  refine zV_aload_n 0 dX0_init_28 rfl rfl ?_
  refine zV_bipush (v := 8) dX0_init_29 rfl ?_
  refine zV_newa (kc := 0) (ks := 0) (i := 137) (k := 8) (t := 0) rfl (by decide) zka_int (by decide) (hfr 137 (by decide)) (by decide) dX0_init_31 ?_
  refine zV_Z (zLs_add _ _ _ _) ?_
  refine zV_putS (i := 130) (j := 137) (ci := 0) (ksl := [-3, -3, -3, 134, 135, 136, -3, -1, -1, -1, -1]) (Z' := zLs [(130, .inl (0, [-3, -3, -3, 134, 135, 136, 137, -1, -1, -1, -1])), (137, .inr (0, 8)), (136, .inr (0, 9)), (135, .inr (0, 8)), (134, .inr (0, 8))] Z) rfl (by decide) zf_X0_6 zkf_X0_21 (by decide) dX0_init_33 rfl rfl (fun _ => ⟨rfl, rfl⟩) (zLs_set _ _ _ _) ?_
  refine zV_aload_n 0 dX0_init_36 rfl rfl ?_
  refine zV_aload_n 1 dX0_init_37 rfl rfl ?_
  refine zV_putS (i := 130) (j := 40) (ci := 0) (ksl := [-3, -3, -3, 134, 135, 136, 137, -1, -1, -1, -1]) (Z' := zLs [(130, .inl (0, [40, -3, -3, 134, 135, 136, 137, -1, -1, -1, -1])), (137, .inr (0, 8)), (136, .inr (0, 9)), (135, .inr (0, 8)), (134, .inr (0, 8))] Z) rfl (by decide) zf_X0_0 zkf_X0_24 (by decide) dX0_init_38 rfl rfl (fun _ => ⟨rfl, rfl⟩) (zLs_set _ _ _ _) ?_
  refine zV_aload_n 0 dX0_init_41 rfl rfl ?_
  refine zV_aload_n 2 dX0_init_42 rfl rfl ?_
  refine zV_putS (i := 130) (j := 80) (ci := 0) (ksl := [40, -3, -3, 134, 135, 136, 137, -1, -1, -1, -1]) (Z' := zLs [(130, .inl (0, [40, 80, -3, 134, 135, 136, 137, -1, -1, -1, -1])), (137, .inr (0, 8)), (136, .inr (0, 9)), (135, .inr (0, 8)), (134, .inr (0, 8))] Z) rfl (by decide) zf_X0_1 zkf_X0_28 (by decide) dX0_init_43 rfl rfl (fun _ => ⟨rfl, rfl⟩) (zLs_set _ _ _ _) ?_
  refine zV_aload_n 0 dX0_init_46 rfl rfl ?_
  refine zV_aload_n 3 dX0_init_47 rfl rfl ?_
  refine zV_putS (i := 130) (j := 100) (ci := 0) (ksl := [40, 80, -3, 134, 135, 136, 137, -1, -1, -1, -1]) (Z' := zLs [(130, .inl (0, [40, 80, 100, 134, 135, 136, 137, -1, -1, -1, -1])), (137, .inr (0, 8)), (136, .inr (0, 9)), (135, .inr (0, 8)), (134, .inr (0, 8))] Z) rfl (by decide) zf_X0_2 zkf_X0_32 (by decide) dX0_init_48 rfl rfl (fun _ => ⟨rfl, rfl⟩) (zLs_set _ _ _ _) ?_
  exact zV_vret dX0_init_51 rfl h
def zmI_X1_150 (M : zMem) : zMem := (zfr (zfr (zfr (zfr (zfr (zfr (zfr M 152 0) 153 0) 155 0) 156 0) 157 0) 158 0) 160 0)
set_option maxRecDepth 100000 in
set_option maxHeartbeats 4000000 in
theorem zcI_X1_150 {Z : zZ} (hfr : ∀ i ∈ (152 :: 153 :: 155 :: 156 :: 157 :: 158 :: 160 :: [] : List Nat), Z i = none) {n : Nat} (hn : 1 ≤ n) {M : zMem} {Q : Option zAV → zMem → zZ → Prop} (h : Q none (zmI_X1_150 M) (zLs [(150, .inl (1, [40, 152, 153, -1, 155, 156, 157, 158, -1, 160, -1, -1, -2, -1])), (160, .inr (0, 8)), (158, .inr (0, 8)), (157, .inr (3, 743)), (156, .inr (0, 8)), (155, .inr (0, 8)), (153, .inr (0, 12)), (152, .inr (0, 8))] Z)) : zV zmX1_init n 7 795 (zLs [(150, .inl (1, [-3, -3, -3, -1, -3, -3, -3, -3, -1, -3, -1, -1, -2, -1]))] Z) 0 [(0, zR 150), (1, zR 40)] [] M Q := by
  unfold zmI_X1_150 at h
  refine zV_aload_n 0 dX1_init_0 rfl rfl ?_
  refine zV_objI zoi_X1 dX1_init_1 (by omega) (Nat.le_of_ble_eq_true rfl) ?_
  refine zV_aload_n 0 dX1_init_4 rfl rfl ?_
  refine zV_bipush (v := 8) dX1_init_5 rfl ?_
  refine zV_newa (kc := 6) (ks := 787) (i := 152) (k := 8) (t := 0) rfl (by decide) zka_int (by decide) (hfr 152 (by decide)) (by decide) dX1_init_7 ?_
  refine zV_Z (zLs_add _ _ _ _) ?_
  refine zV_putS (i := 150) (j := 152) (ci := 1) (ksl := [-3, -3, -3, -1, -3, -3, -3, -3, -1, -3, -1, -1, -2, -1]) (Z' := zLs [(150, .inl (1, [-3, 152, -3, -1, -3, -3, -3, -3, -1, -3, -1, -1, -2, -1])), (152, .inr (0, 8))] Z) rfl (by decide) zf_X1_1 zkf_X1_9 (by decide) dX1_init_9 rfl rfl (fun _ => ⟨rfl, rfl⟩) (zLs_set _ _ _ _) ?_
  refine zV_aload_n 0 dX1_init_12 rfl rfl ?_
  refine zV_bipush (v := 12) dX1_init_13 rfl ?_
  refine zV_newa (kc := 5) (ks := 775) (i := 153) (k := 12) (t := 0) rfl (by decide) zka_int (by decide) (hfr 153 (by decide)) (by decide) dX1_init_15 ?_
  refine zV_Z (zLs_add _ _ _ _) ?_
  refine zV_putS (i := 150) (j := 153) (ci := 1) (ksl := [-3, 152, -3, -1, -3, -3, -3, -3, -1, -3, -1, -1, -2, -1]) (Z' := zLs [(150, .inl (1, [-3, 152, 153, -1, -3, -3, -3, -3, -1, -3, -1, -1, -2, -1])), (153, .inr (0, 12)), (152, .inr (0, 8))] Z) rfl (by decide) zf_X1_2 zkf_X1_15 (by decide) dX1_init_17 rfl rfl (fun _ => ⟨rfl, rfl⟩) (zLs_set _ _ _ _) ?_
  refine zV_aload_n 0 dX1_init_20 rfl rfl ?_
  refine zV_bipush (v := 8) dX1_init_21 rfl ?_
  refine zV_newa (kc := 4) (ks := 767) (i := 155) (k := 8) (t := 0) rfl (by decide) zka_int (by decide) (hfr 155 (by decide)) (by decide) dX1_init_23 ?_
  refine zV_Z (zLs_add _ _ _ _) ?_
  refine zV_putS (i := 150) (j := 155) (ci := 1) (ksl := [-3, 152, 153, -1, -3, -3, -3, -3, -1, -3, -1, -1, -2, -1]) (Z' := zLs [(150, .inl (1, [-3, 152, 153, -1, 155, -3, -3, -3, -1, -3, -1, -1, -2, -1])), (155, .inr (0, 8)), (153, .inr (0, 12)), (152, .inr (0, 8))] Z) rfl (by decide) zf_X1_4 zkf_X1_18 (by decide) dX1_init_25 rfl rfl (fun _ => ⟨rfl, rfl⟩) (zLs_set _ _ _ _) ?_
  refine zV_aload_n 0 dX1_init_28 rfl rfl ?_
  refine zV_bipush (v := 8) dX1_init_29 rfl ?_
  refine zV_newa (kc := 3) (ks := 759) (i := 156) (k := 8) (t := 0) rfl (by decide) zka_int (by decide) (hfr 156 (by decide)) (by decide) dX1_init_31 ?_
  refine zV_Z (zLs_add _ _ _ _) ?_
  refine zV_putS (i := 150) (j := 156) (ci := 1) (ksl := [-3, 152, 153, -1, 155, -3, -3, -3, -1, -3, -1, -1, -2, -1]) (Z' := zLs [(150, .inl (1, [-3, 152, 153, -1, 155, 156, -3, -3, -1, -3, -1, -1, -2, -1])), (156, .inr (0, 8)), (155, .inr (0, 8)), (153, .inr (0, 12)), (152, .inr (0, 8))] Z) rfl (by decide) zf_X1_5 zkf_X1_21 (by decide) dX1_init_33 rfl rfl (fun _ => ⟨rfl, rfl⟩) (zLs_set _ _ _ _) ?_
  refine zV_aload_n 0 dX1_init_36 rfl rfl ?_
  refine zV_sipush (v := 743) dX1_init_37 rfl ?_
  refine zV_newa (kc := 2) (ks := 16) (i := 157) (k := 743) (t := 3) rfl (by decide) zka_long (by decide) (hfr 157 (by decide)) (by decide) dX1_init_40 ?_
  refine zV_Z (zLs_add _ _ _ _) ?_
  refine zV_putS (i := 150) (j := 157) (ci := 1) (ksl := [-3, 152, 153, -1, 155, 156, -3, -3, -1, -3, -1, -1, -2, -1]) (Z' := zLs [(150, .inl (1, [-3, 152, 153, -1, 155, 156, 157, -3, -1, -3, -1, -1, -2, -1])), (157, .inr (3, 743)), (156, .inr (0, 8)), (155, .inr (0, 8)), (153, .inr (0, 12)), (152, .inr (0, 8))] Z) rfl (by decide) zf_X1_6 zkf_X1_24 (by decide) dX1_init_42 rfl rfl (fun _ => ⟨rfl, rfl⟩) (zLs_set _ _ _ _) ?_
  refine zV_aload_n 0 dX1_init_45 rfl rfl ?_
  refine zV_bipush (v := 8) dX1_init_46 rfl ?_
  refine zV_newa (kc := 1) (ks := 8) (i := 158) (k := 8) (t := 0) rfl (by decide) zka_int (by decide) (hfr 158 (by decide)) (by decide) dX1_init_48 ?_
  refine zV_Z (zLs_add _ _ _ _) ?_
  refine zV_putS (i := 150) (j := 158) (ci := 1) (ksl := [-3, 152, 153, -1, 155, 156, 157, -3, -1, -3, -1, -1, -2, -1]) (Z' := zLs [(150, .inl (1, [-3, 152, 153, -1, 155, 156, 157, 158, -1, -3, -1, -1, -2, -1])), (158, .inr (0, 8)), (157, .inr (3, 743)), (156, .inr (0, 8)), (155, .inr (0, 8)), (153, .inr (0, 12)), (152, .inr (0, 8))] Z) rfl (by decide) zf_X1_7 zkf_X1_28 (by decide) dX1_init_50 rfl rfl (fun _ => ⟨rfl, rfl⟩) (zLs_set _ _ _ _) ?_
  refine zV_aload_n 0 dX1_init_53 rfl rfl ?_
  refine zV_bipush (v := 8) dX1_init_54 rfl ?_
  refine zV_newa (kc := 0) (ks := 0) (i := 160) (k := 8) (t := 0) rfl (by decide) zka_int (by decide) (hfr 160 (by decide)) (by decide) dX1_init_56 ?_
  refine zV_Z (zLs_add _ _ _ _) ?_
  refine zV_putS (i := 150) (j := 160) (ci := 1) (ksl := [-3, 152, 153, -1, 155, 156, 157, 158, -1, -3, -1, -1, -2, -1]) (Z' := zLs [(150, .inl (1, [-3, 152, 153, -1, 155, 156, 157, 158, -1, 160, -1, -1, -2, -1])), (160, .inr (0, 8)), (158, .inr (0, 8)), (157, .inr (3, 743)), (156, .inr (0, 8)), (155, .inr (0, 8)), (153, .inr (0, 12)), (152, .inr (0, 8))] Z) rfl (by decide) zf_X1_9 zkf_X1_31 (by decide) dX1_init_58 rfl rfl (fun _ => ⟨rfl, rfl⟩) (zLs_set _ _ _ _) ?_
  refine zV_aload_n 0 dX1_init_61 rfl rfl ?_
  refine zV_aload_n 1 dX1_init_62 rfl rfl ?_
  refine zV_putS (i := 150) (j := 40) (ci := 1) (ksl := [-3, 152, 153, -1, 155, 156, 157, 158, -1, 160, -1, -1, -2, -1]) (Z' := zLs [(150, .inl (1, [40, 152, 153, -1, 155, 156, 157, 158, -1, 160, -1, -1, -2, -1])), (160, .inr (0, 8)), (158, .inr (0, 8)), (157, .inr (3, 743)), (156, .inr (0, 8)), (155, .inr (0, 8)), (153, .inr (0, 12)), (152, .inr (0, 8))] Z) rfl (by decide) zf_X1_0 zkf_X1_34 (by decide) dX1_init_63 rfl rfl (fun _ => ⟨rfl, rfl⟩) (zLs_set _ _ _ _) ?_
  exact zV_vret dX1_init_66 rfl h
def zmI_X4_170 (M : zMem) : zMem := (zfr (zfr (zfr (zfr M 173 0) 174 0) 176 0) 177 0)
set_option maxRecDepth 100000 in
set_option maxHeartbeats 4000000 in
theorem zcI_X4_170 {Z : zZ} (hfr : ∀ i ∈ (173 :: 174 :: 176 :: 177 :: [] : List Nat), Z i = none) {n : Nat} (hn : 1 ≤ n) {M : zMem} {Q : Option zAV → zMem → zZ → Prop} (h : Q none (zmI_X4_170 M) (zLs [(170, .inl (4, [40, 80, 173, 174, -1, 176, 177, -1])), (177, .inr (0, 8)), (176, .inr (0, 256)), (174, .inr (0, 24)), (173, .inr (0, 8))] Z)) : zV zmX4_init n 4 296 (zLs [(170, .inl (4, [-3, -3, -3, -3, -1, -3, -3, -1]))] Z) 0 [(0, zR 170), (1, zR 40), (2, zR 80)] [] M Q := by
  unfold zmI_X4_170 at h
  refine zV_aload_n 0 dX4_init_0 rfl rfl ?_
  refine zV_objI zoi_X4 dX4_init_1 (by omega) (Nat.le_of_ble_eq_true rfl) ?_
  refine zV_aload_n 0 dX4_init_4 rfl rfl ?_
  refine zV_bipush (v := 8) dX4_init_5 rfl ?_
  refine zV_newa (kc := 3) (ks := 288) (i := 173) (k := 8) (t := 0) rfl (by decide) zka_int (by decide) (hfr 173 (by decide)) (by decide) dX4_init_7 ?_
  refine zV_Z (zLs_add _ _ _ _) ?_
  refine zV_putS (i := 170) (j := 173) (ci := 4) (ksl := [-3, -3, -3, -3, -1, -3, -3, -1]) (Z' := zLs [(170, .inl (4, [-3, -3, 173, -3, -1, -3, -3, -1])), (173, .inr (0, 8))] Z) rfl (by decide) zf_X4_2 zkf_X4_9 (by decide) dX4_init_9 rfl rfl (fun _ => ⟨rfl, rfl⟩) (zLs_set _ _ _ _) ?_
  refine zV_aload_n 0 dX4_init_12 rfl rfl ?_
  refine zV_bipush (v := 24) dX4_init_13 rfl ?_
  refine zV_newa (kc := 2) (ks := 264) (i := 174) (k := 24) (t := 0) rfl (by decide) zka_int (by decide) (hfr 174 (by decide)) (by decide) dX4_init_15 ?_
  refine zV_Z (zLs_add _ _ _ _) ?_
  refine zV_putS (i := 170) (j := 174) (ci := 4) (ksl := [-3, -3, 173, -3, -1, -3, -3, -1]) (Z' := zLs [(170, .inl (4, [-3, -3, 173, 174, -1, -3, -3, -1])), (174, .inr (0, 24)), (173, .inr (0, 8))] Z) rfl (by decide) zf_X4_3 zkf_X4_15 (by decide) dX4_init_17 rfl rfl (fun _ => ⟨rfl, rfl⟩) (zLs_set _ _ _ _) ?_
  refine zV_aload_n 0 dX4_init_20 rfl rfl ?_
  refine zV_sipush (v := 256) dX4_init_21 rfl ?_
  refine zV_newa (kc := 1) (ks := 8) (i := 176) (k := 256) (t := 0) rfl (by decide) zka_int (by decide) (hfr 176 (by decide)) (by decide) dX4_init_24 ?_
  refine zV_Z (zLs_add _ _ _ _) ?_
  refine zV_putS (i := 170) (j := 176) (ci := 4) (ksl := [-3, -3, 173, 174, -1, -3, -3, -1]) (Z' := zLs [(170, .inl (4, [-3, -3, 173, 174, -1, 176, -3, -1])), (176, .inr (0, 256)), (174, .inr (0, 24)), (173, .inr (0, 8))] Z) rfl (by decide) zf_X4_5 zkf_X4_18 (by decide) dX4_init_26 rfl rfl (fun _ => ⟨rfl, rfl⟩) (zLs_set _ _ _ _) ?_
  refine zV_aload_n 0 dX4_init_29 rfl rfl ?_
  refine zV_bipush (v := 8) dX4_init_30 rfl ?_
  refine zV_newa (kc := 0) (ks := 0) (i := 177) (k := 8) (t := 0) rfl (by decide) zka_int (by decide) (hfr 177 (by decide)) (by decide) dX4_init_32 ?_
  refine zV_Z (zLs_add _ _ _ _) ?_
  refine zV_putS (i := 170) (j := 177) (ci := 4) (ksl := [-3, -3, 173, 174, -1, 176, -3, -1]) (Z' := zLs [(170, .inl (4, [-3, -3, 173, 174, -1, 176, 177, -1])), (177, .inr (0, 8)), (176, .inr (0, 256)), (174, .inr (0, 24)), (173, .inr (0, 8))] Z) rfl (by decide) zf_X4_6 zkf_X4_21 (by decide) dX4_init_34 rfl rfl (fun _ => ⟨rfl, rfl⟩) (zLs_set _ _ _ _) ?_
  refine zV_aload_n 0 dX4_init_37 rfl rfl ?_
  refine zV_aload_n 1 dX4_init_38 rfl rfl ?_
  refine zV_putS (i := 170) (j := 40) (ci := 4) (ksl := [-3, -3, 173, 174, -1, 176, 177, -1]) (Z' := zLs [(170, .inl (4, [40, -3, 173, 174, -1, 176, 177, -1])), (177, .inr (0, 8)), (176, .inr (0, 256)), (174, .inr (0, 24)), (173, .inr (0, 8))] Z) rfl (by decide) zf_X4_0 zkf_X4_24 (by decide) dX4_init_39 rfl rfl (fun _ => ⟨rfl, rfl⟩) (zLs_set _ _ _ _) ?_
  refine zV_aload_n 0 dX4_init_42 rfl rfl ?_
  refine zV_aload_n 2 dX4_init_43 rfl rfl ?_
  refine zV_putS (i := 170) (j := 80) (ci := 4) (ksl := [40, -3, 173, 174, -1, 176, 177, -1]) (Z' := zLs [(170, .inl (4, [40, 80, 173, 174, -1, 176, 177, -1])), (177, .inr (0, 8)), (176, .inr (0, 256)), (174, .inr (0, 24)), (173, .inr (0, 8))] Z) rfl (by decide) zf_X4_1 zkf_X4_28 (by decide) dX4_init_44 rfl rfl (fun _ => ⟨rfl, rfl⟩) (zLs_set _ _ _ _) ?_
  exact zV_vret dX4_init_47 rfl h
