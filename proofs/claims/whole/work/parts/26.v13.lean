/-- the texts' cells are there -/
def zBs (Z : zZ) : Prop := (Z 1010).isSome = true ∧ (Z 1011).isSome = true ∧ (Z 1020).isSome = true ∧ (Z 1021).isSome = true ∧ (Z 1030).isSome = true
theorem zBs_1020 {Z : zZ} (h : zBs Z) : (Z 1020).isSome = true := h.2.2.1
theorem zBs_1021 {Z : zZ} (h : zBs Z) : (Z 1021).isSome = true := h.2.2.2.1
theorem zBs_1030 {Z : zZ} (h : zBs Z) : (Z 1030).isSome = true := h.2.2.2.2
theorem zBs_of {Z : zZ} (hZ : zB Z) : zBs Z := ⟨by rw [zq_1010 hZ]; rfl, by rw [zq_1011 hZ]; rfl, by rw [zq_1020 hZ]; rfl, by rw [zq_1021 hZ]; rfl, by rw [zq_1030 hZ]; rfl⟩
theorem zkc_J0_length_8abf5 : Cond.code yJ0_length_8abf5 cJ0_length_8abf5 1 (some .int) ∈ zT := zT_inc (i := 69) zL_2 rfl rfl
theorem zki_J0 : Cond.initialized RJ0 ∈ zT := zT_inc (i := 10) zL_1 rfl rfl
theorem zkc_J0_coder_7d493 : Cond.code yJ0_coder_7d493 cJ0_coder_7d493 1 (some .byte) ∈ zT := zT_inc (i := 73) zL_2 rfl rfl
theorem zkc_J0_isLatin1_aae02 : Cond.code yJ0_isLatin1_aae02 cJ0_isLatin1_aae02 1 (some .boolean) ∈ zT := zT_inc (i := 97) zL_3 rfl rfl
theorem zkc_J0_charAt_5068e : Cond.code yJ0_charAt_5068e cJ0_charAt_5068e 2 (some .char) ∈ zT := zT_inc (i := 93) zL_3 rfl rfl
theorem zkc_J1_charAt_3b067 : Cond.code yJ1_charAt_3b067 cJ1_charAt_3b067 2 (some .char) ∈ zT := zT_inc (i := 100) zL_3 rfl rfl
theorem zki_J1 : Cond.initialized RJ1 ∈ zT := zT_inc (i := 16) zL_1 rfl rfl
theorem zkc_J0_checkIndex_df160 : Cond.code yJ0_checkIndex_df160 cJ0_checkIndex_df160 2 none ∈ zT := zT_inc (i := 103) zL_3 rfl rfl
theorem zkc_J3_checkIndex_8e157 : Cond.code yJ3_checkIndex_8e157 cJ3_checkIndex_8e157 3 (some .int) ∈ zT := zT_inc (i := 108) zL_3 rfl rfl
theorem zki_J3 : Cond.initialized RJ3 ∈ zT := zT_inc (i := 17) zL_1 rfl rfl
theorem zkc_J0_indexOf_0f7a4 : Cond.code yJ0_indexOf_0f7a4 cJ0_indexOf_0f7a4 2 (some .int) ∈ zT := zT_inc (i := 136) zL_3 rfl rfl
theorem zkc_J0_indexOf_7cf53 : Cond.code yJ0_indexOf_7cf53 cJ0_indexOf_7cf53 3 (some .int) ∈ zT := zT_inc (i := 140) zL_3 rfl rfl
theorem zkc_J1_indexOf_4cfef : Cond.code yJ1_indexOf_4cfef cJ1_indexOf_4cfef 4 (some .int) ∈ zT := zT_inc (i := 144) zL_3 rfl rfl
theorem zkc_J1_canEncode_9a6ad : Cond.code yJ1_canEncode_9a6ad cJ1_canEncode_9a6ad 1 (some .boolean) ∈ zT := zT_inc (i := 147) zL_3 rfl rfl
theorem zkc_J1_indexOfChar_4cfef : Cond.code yJ1_indexOfChar_4cfef cJ1_indexOfChar_4cfef 6 (some .int) ∈ zT := zT_inc (i := 156) zL_3 rfl rfl
theorem zkm_J0_335 : Cond.methodLink RJ0 335 yJ0_coder_7d493 ∈ zT := zT_inc (i := 70) zL_2 rfl rfl
theorem zkn_J0_coder_7d493 : Cond.instanceMethod yJ0_coder_7d493 ∈ zT := zT_inc (i := 71) zL_2 rfl rfl
theorem zks_J0_coder_7d493 : Cond.selects RJ0 yJ0_coder_7d493 yJ0_coder_7d493 ∈ zT := zT_inc (i := 72) zL_2 rfl rfl
theorem zkm_J0_492 : Cond.methodLink RJ0 492 yJ0_isLatin1_aae02 ∈ zT := zT_inc (i := 94) zL_3 rfl rfl
theorem zkn_J0_isLatin1_aae02 : Cond.instanceMethod yJ0_isLatin1_aae02 ∈ zT := zT_inc (i := 95) zL_3 rfl rfl
theorem zks_J0_isLatin1_aae02 : Cond.selects RJ0 yJ0_isLatin1_aae02 yJ0_isLatin1_aae02 ∈ zT := zT_inc (i := 96) zL_3 rfl rfl
theorem zkm_J0_633 : Cond.methodLink RJ0 633 yJ0_indexOf_7cf53 ∈ zT := zT_inc (i := 137) zL_3 rfl rfl
theorem zkn_J0_indexOf_7cf53 : Cond.instanceMethod yJ0_indexOf_7cf53 ∈ zT := zT_inc (i := 138) zL_3 rfl rfl
theorem zks_J0_indexOf_7cf53 : Cond.selects RJ0 yJ0_indexOf_7cf53 yJ0_indexOf_7cf53 ∈ zT := zT_inc (i := 139) zL_3 rfl rfl
theorem zkm_J0_505 : Cond.methodLink RJ0 505 yJ0_length_8abf5 ∈ zT := zT_inc (i := 141) zL_3 rfl rfl
theorem zkn_J0_length_8abf5 : Cond.instanceMethod yJ0_length_8abf5 ∈ zT := zT_inc (i := 67) zL_2 rfl rfl
theorem zks_J0_length_8abf5 : Cond.selects RJ0 yJ0_length_8abf5 yJ0_length_8abf5 ∈ zT := zT_inc (i := 68) zL_2 rfl rfl
theorem zkm_J0_495 : Cond.methodLink RJ0 495 yJ1_charAt_3b067 ∈ zT := zT_inc (i := 98) zL_3 rfl rfl
theorem zkt_J1_charAt_3b067 : Cond.static yJ1_charAt_3b067 ∈ zT := zT_inc (i := 99) zL_3 rfl rfl
theorem zkm_J1_9 : Cond.methodLink RJ1 9 yJ0_checkIndex_df160 ∈ zT := zT_inc (i := 101) zL_3 rfl rfl
theorem zkt_J0_checkIndex_df160 : Cond.static yJ0_checkIndex_df160 ∈ zT := zT_inc (i := 102) zL_3 rfl rfl
theorem zkm_J0_1059 : Cond.methodLink RJ0 1059 yJ3_checkIndex_8e157 ∈ zT := zT_inc (i := 106) zL_3 rfl rfl
theorem zkt_J3_checkIndex_8e157 : Cond.static yJ3_checkIndex_8e157 ∈ zT := zT_inc (i := 107) zL_3 rfl rfl
theorem zkm_J0_637 : Cond.methodLink RJ0 637 yJ1_indexOf_4cfef ∈ zT := zT_inc (i := 142) zL_3 rfl rfl
theorem zkt_J1_indexOf_4cfef : Cond.static yJ1_indexOf_4cfef ∈ zT := zT_inc (i := 143) zL_3 rfl rfl
theorem zkm_J1_88 : Cond.methodLink RJ1 88 yJ1_canEncode_9a6ad ∈ zT := zT_inc (i := 145) zL_3 rfl rfl
theorem zkt_J1_canEncode_9a6ad : Cond.static yJ1_canEncode_9a6ad ∈ zT := zT_inc (i := 146) zL_3 rfl rfl
theorem zkm_J1_95 : Cond.methodLink RJ1 95 yJ1_indexOfChar_4cfef ∈ zT := zT_inc (i := 154) zL_3 rfl rfl
theorem zkt_J1_indexOfChar_4cfef : Cond.static yJ1_indexOfChar_4cfef ∈ zT := zT_inc (i := 155) zL_3 rfl rfl
theorem zkm_J1_92 : Cond.methodLink RJ1 92 Lib.Math.max.name ∈ zT := zT_inc (i := 148) zL_3 rfl rfl
theorem zkm_J1_38 : Cond.methodLink RJ1 38 Lib.Math.min.name ∈ zT := zT_inc (i := 151) zL_3 rfl rfl
theorem zkf_J0_9 : Cond.fieldLink RJ0 9 "java/lang/String" "value" "[B" ∈ zT := zT_inc (i := 104) zL_9 rfl rfl
theorem zkf_J0_15 : Cond.fieldLink RJ0 15 "java/lang/String" "coder" "B" ∈ zT := zT_inc (i := 105) zL_9 rfl rfl
theorem zkf_J0_38 : Cond.fieldLink RJ0 38 "java/lang/String" "COMPACT_STRINGS" "Z" ∈ zT := zT_inc (i := 74) zL_2 rfl rfl
theorem zkf_J0_1053 : Cond.fieldLink RJ0 1053 "jdk/internal/util/Preconditions" "SIOOBE_FORMATTER" "Ljava/util/function/BiFunction;" ∈ zT := zT_inc (i := 104) zL_3 rfl rfl
abbrev zmJ0_length_8abf5 : zMI := (yJ0_length_8abf5, cJ0_length_8abf5, 1, (some .int))
abbrev zmJ0_coder_7d493 : zMI := (yJ0_coder_7d493, cJ0_coder_7d493, 1, (some .byte))
abbrev zmJ0_isLatin1_aae02 : zMI := (yJ0_isLatin1_aae02, cJ0_isLatin1_aae02, 1, (some .boolean))
abbrev zmJ0_charAt_5068e : zMI := (yJ0_charAt_5068e, cJ0_charAt_5068e, 2, (some .char))
abbrev zmJ1_charAt_3b067 : zMI := (yJ1_charAt_3b067, cJ1_charAt_3b067, 2, (some .char))
abbrev zmJ0_checkIndex_df160 : zMI := (yJ0_checkIndex_df160, cJ0_checkIndex_df160, 2, none)
abbrev zmJ3_checkIndex_8e157 : zMI := (yJ3_checkIndex_8e157, cJ3_checkIndex_8e157, 3, (some .int))
abbrev zmJ0_indexOf_0f7a4 : zMI := (yJ0_indexOf_0f7a4, cJ0_indexOf_0f7a4, 2, (some .int))
abbrev zmJ0_indexOf_7cf53 : zMI := (yJ0_indexOf_7cf53, cJ0_indexOf_7cf53, 3, (some .int))
abbrev zmJ1_indexOf_4cfef : zMI := (yJ1_indexOf_4cfef, cJ1_indexOf_4cfef, 4, (some .int))
abbrev zmJ1_canEncode_9a6ad : zMI := (yJ1_canEncode_9a6ad, cJ1_canEncode_9a6ad, 1, (some .boolean))
abbrev zmJ1_indexOfChar_4cfef : zMI := (yJ1_indexOfChar_4cfef, cJ1_indexOfChar_4cfef, 6, (some .int))
theorem zmw_J0_length_8abf5 : zMW zmJ0_length_8abf5 0 := ⟨zkc_J0_length_8abf5, zki_J0, by decide +kernel, by decide +kernel, by decide⟩
theorem zmw_J0_coder_7d493 : zMW zmJ0_coder_7d493 0 := ⟨zkc_J0_coder_7d493, zki_J0, by decide +kernel, by decide +kernel, by decide⟩
theorem zmw_J0_isLatin1_aae02 : zMW zmJ0_isLatin1_aae02 0 := ⟨zkc_J0_isLatin1_aae02, zki_J0, by decide +kernel, by decide +kernel, by decide⟩
theorem zmw_J0_charAt_5068e : zMW zmJ0_charAt_5068e 1 := ⟨zkc_J0_charAt_5068e, zki_J0, by decide +kernel, by decide +kernel, by decide⟩
theorem zmw_J1_charAt_3b067 : zMW zmJ1_charAt_3b067 2 := ⟨zkc_J1_charAt_3b067, zki_J1, by decide +kernel, by decide +kernel, by decide⟩
theorem zmw_J0_checkIndex_df160 : zMW zmJ0_checkIndex_df160 2 := ⟨zkc_J0_checkIndex_df160, zki_J0, by decide +kernel, by decide +kernel, by decide⟩
theorem zmw_J3_checkIndex_8e157 : zMW zmJ3_checkIndex_8e157 3 := ⟨zkc_J3_checkIndex_8e157, zki_J3, by decide +kernel, by decide +kernel, by decide⟩
theorem zmw_J0_indexOf_0f7a4 : zMW zmJ0_indexOf_0f7a4 1 := ⟨zkc_J0_indexOf_0f7a4, zki_J0, by decide +kernel, by decide +kernel, by decide⟩
theorem zmw_J0_indexOf_7cf53 : zMW zmJ0_indexOf_7cf53 2 := ⟨zkc_J0_indexOf_7cf53, zki_J0, by decide +kernel, by decide +kernel, by decide⟩
theorem zmw_J1_indexOf_4cfef : zMW zmJ1_indexOf_4cfef 4 := ⟨zkc_J1_indexOf_4cfef, zki_J1, by decide +kernel, by decide +kernel, by decide⟩
theorem zmw_J1_canEncode_9a6ad : zMW zmJ1_canEncode_9a6ad 1 := ⟨zkc_J1_canEncode_9a6ad, zki_J1, by decide +kernel, by decide +kernel, by decide⟩
theorem zmw_J1_indexOfChar_4cfef : zMW zmJ1_indexOfChar_4cfef 4 := ⟨zkc_J1_indexOfChar_4cfef, zki_J1, by decide +kernel, by decide +kernel, by decide⟩
theorem zc_J0_335 : zCV RJ0 335 zmJ0_coder_7d493 0 := ⟨zkm_J0_335, zkn_J0_coder_7d493, zks_J0_coder_7d493, zmw_J0_coder_7d493⟩
theorem zc_J0_492 : zCV RJ0 492 zmJ0_isLatin1_aae02 0 := ⟨zkm_J0_492, zkn_J0_isLatin1_aae02, zks_J0_isLatin1_aae02, zmw_J0_isLatin1_aae02⟩
theorem zc_J0_633 : zCV RJ0 633 zmJ0_indexOf_7cf53 2 := ⟨zkm_J0_633, zkn_J0_indexOf_7cf53, zks_J0_indexOf_7cf53, zmw_J0_indexOf_7cf53⟩
theorem zc_J0_505 : zCV RJ0 505 zmJ0_length_8abf5 0 := ⟨zkm_J0_505, zkn_J0_length_8abf5, zks_J0_length_8abf5, zmw_J0_length_8abf5⟩
theorem zc_J0_495 : zCS RJ0 495 zmJ1_charAt_3b067 2 := ⟨zkm_J0_495, zkt_J1_charAt_3b067, zmw_J1_charAt_3b067⟩
theorem zc_J1_9 : zCS RJ1 9 zmJ0_checkIndex_df160 2 := ⟨zkm_J1_9, zkt_J0_checkIndex_df160, zmw_J0_checkIndex_df160⟩
theorem zc_J0_1059 : zCS RJ0 1059 zmJ3_checkIndex_8e157 3 := ⟨zkm_J0_1059, zkt_J3_checkIndex_8e157, zmw_J3_checkIndex_8e157⟩
theorem zc_J0_637 : zCS RJ0 637 zmJ1_indexOf_4cfef 4 := ⟨zkm_J0_637, zkt_J1_indexOf_4cfef, zmw_J1_indexOf_4cfef⟩
theorem zc_J1_88 : zCS RJ1 88 zmJ1_canEncode_9a6ad 1 := ⟨zkm_J1_88, zkt_J1_canEncode_9a6ad, zmw_J1_canEncode_9a6ad⟩
theorem zc_J1_95 : zCS RJ1 95 zmJ1_indexOfChar_4cfef 4 := ⟨zkm_J1_95, zkt_J1_indexOfChar_4cfef, zmw_J1_indexOfChar_4cfef⟩
theorem zml_J1_92 : zML RJ1 92 Lib.Math.max.name Lib.Math.max.code 2 .int := ⟨zkm_J1_92, zkt_Lib_Math_max_name, zki_Math, zkc_Lib_Math_max_name⟩
theorem zml_J1_38 : zML RJ1 38 Lib.Math.min.name Lib.Math.min.code 2 .int := ⟨zkm_J1_38, zkt_Lib_Math_min_name, zki_Math, zkc_Lib_Math_min_name⟩
set_option maxRecDepth 100000 in
theorem zJ_coder0 {Z : zZ} (hZ : zBs Z) {M : zMem} {Q : Option zAV → zMem → zZ → Prop} {n : Nat} (h : Q (some (zI 0)) M Z) : zV zmJ0_coder_7d493 n 0 0 Z 0 [(0, zR 1010)] [] M Q := by
  refine zV_kcmp zkf_J0_38 dJ0_coder_7d493_0 ?_
  refine zV_if_eq 13 dJ0_coder_7d493_3 (by decide) ⟨by decide, by decide⟩ (fun q => absurd q (by decide)) (fun _ => ?_)
  refine zV_aload_n 0 dJ0_coder_7d493_6 rfl rfl ?_
  refine zV_kcod (k := 0) (by decide) zkf_J0_15 dJ0_coder_7d493_7 ?_
  refine zV_goto 14 dJ0_coder_7d493_10 (by decide) ?_
  exact zV_iret dJ0_coder_7d493_14 rfl rfl z32_0 h
set_option maxRecDepth 100000 in
theorem zJ_lat0 {Z : zZ} (hZ : zBs Z) {M : zMem} {Q : Option zAV → zMem → zZ → Prop} {n : Nat} (h : Q (some (zI 1)) M Z) : zV zmJ0_isLatin1_aae02 n 0 0 Z 0 [(0, zR 1010)] [] M Q := by
  refine zV_kcmp zkf_J0_38 dJ0_isLatin1_aae02_0 ?_
  refine zV_if_eq 17 dJ0_isLatin1_aae02_3 (by decide) ⟨by decide, by decide⟩ (fun q => absurd q (by decide)) (fun _ => ?_)
  refine zV_aload_n 0 dJ0_isLatin1_aae02_6 rfl rfl ?_
  refine zV_kcod (k := 0) (by decide) zkf_J0_15 dJ0_isLatin1_aae02_7 ?_
  refine zV_if_ne 17 dJ0_isLatin1_aae02_10 (by decide) z32_0 (fun q => absurd rfl q) (fun _ => ?_)
  refine zV_iconst (v := 1) dJ0_isLatin1_aae02_13 rfl ?_
  refine zV_goto 18 dJ0_isLatin1_aae02_14 (by decide) ?_
  exact zV_iretb dJ0_isLatin1_aae02_18 rfl (Or.inr rfl) h
set_option maxRecDepth 100000 in
theorem zJ_len0 {Z : zZ} (hZ : zBs Z) {M : zMem} {Q : Option zAV → zMem → zZ → Prop} {n : Nat} (hn : 1 ≤ n) (h : Q (some (zI 232)) M Z) : zV zmJ0_length_8abf5 n 0 0 Z 0 [(0, zR 1010)] [] M Q := by
  refine zV_aload_n 0 dJ0_length_8abf5_0 rfl rfl ?_
  refine zV_kval (k := 0) (by decide) zkf_J0_9 (zBs_1020 hZ) dJ0_length_8abf5_1 ?_
  refine zV_klen (k := 0) (v := 232) (by decide) rfl dJ0_length_8abf5_4 ?_
  refine zV_aload_n 0 dJ0_length_8abf5_5 rfl rfl ?_
  refine zV_callK (k := 0) (n' := 0) (As := []) (Q' := fun r M' Z' => r = some (zI 0) ∧ M = M' ∧ Z = Z') zc_J0_335 (by decide) rfl dJ0_length_8abf5_6 hn rfl (Nat.le_of_ble_eq_true rfl) (Nat.le_of_ble_eq_true rfl) rfl (zJ_coder0 hZ ⟨rfl, rfl, rfl⟩) ?_
  rintro _ _ _ hc ⟨rfl, rfl, rfl⟩
  refine zV_ishr dJ0_length_8abf5_9 ?_
  exact zV_ireti dJ0_length_8abf5_10 rfl (z32_i _) (by rw [show zshr 232 0 = 232 by decide +kernel]; exact h)
set_option maxRecDepth 100000 in
theorem zJ_coder1 {Z : zZ} (hZ : zBs Z) {M : zMem} {Q : Option zAV → zMem → zZ → Prop} {n : Nat} (h : Q (some (zI 0)) M Z) : zV zmJ0_coder_7d493 n 0 0 Z 0 [(0, zR 1011)] [] M Q := by
  refine zV_kcmp zkf_J0_38 dJ0_coder_7d493_0 ?_
  refine zV_if_eq 13 dJ0_coder_7d493_3 (by decide) ⟨by decide, by decide⟩ (fun q => absurd q (by decide)) (fun _ => ?_)
  refine zV_aload_n 0 dJ0_coder_7d493_6 rfl rfl ?_
  refine zV_kcod (k := 1) (by decide) zkf_J0_15 dJ0_coder_7d493_7 ?_
  refine zV_goto 14 dJ0_coder_7d493_10 (by decide) ?_
  exact zV_iret dJ0_coder_7d493_14 rfl rfl z32_0 h
set_option maxRecDepth 100000 in
theorem zJ_lat1 {Z : zZ} (hZ : zBs Z) {M : zMem} {Q : Option zAV → zMem → zZ → Prop} {n : Nat} (h : Q (some (zI 1)) M Z) : zV zmJ0_isLatin1_aae02 n 0 0 Z 0 [(0, zR 1011)] [] M Q := by
  refine zV_kcmp zkf_J0_38 dJ0_isLatin1_aae02_0 ?_
  refine zV_if_eq 17 dJ0_isLatin1_aae02_3 (by decide) ⟨by decide, by decide⟩ (fun q => absurd q (by decide)) (fun _ => ?_)
  refine zV_aload_n 0 dJ0_isLatin1_aae02_6 rfl rfl ?_
  refine zV_kcod (k := 1) (by decide) zkf_J0_15 dJ0_isLatin1_aae02_7 ?_
  refine zV_if_ne 17 dJ0_isLatin1_aae02_10 (by decide) z32_0 (fun q => absurd rfl q) (fun _ => ?_)
  refine zV_iconst (v := 1) dJ0_isLatin1_aae02_13 rfl ?_
  refine zV_goto 18 dJ0_isLatin1_aae02_14 (by decide) ?_
  exact zV_iretb dJ0_isLatin1_aae02_18 rfl (Or.inr rfl) h
set_option maxRecDepth 100000 in
theorem zJ_len1 {Z : zZ} (hZ : zBs Z) {M : zMem} {Q : Option zAV → zMem → zZ → Prop} {n : Nat} (hn : 1 ≤ n) (h : Q (some (zI 8)) M Z) : zV zmJ0_length_8abf5 n 0 0 Z 0 [(0, zR 1011)] [] M Q := by
  refine zV_aload_n 0 dJ0_length_8abf5_0 rfl rfl ?_
  refine zV_kval (k := 1) (by decide) zkf_J0_9 (zBs_1021 hZ) dJ0_length_8abf5_1 ?_
  refine zV_klen (k := 1) (v := 8) (by decide) rfl dJ0_length_8abf5_4 ?_
  refine zV_aload_n 0 dJ0_length_8abf5_5 rfl rfl ?_
  refine zV_callK (k := 1) (n' := 0) (As := []) (Q' := fun r M' Z' => r = some (zI 0) ∧ M = M' ∧ Z = Z') zc_J0_335 (by decide) rfl dJ0_length_8abf5_6 hn rfl (Nat.le_of_ble_eq_true rfl) (Nat.le_of_ble_eq_true rfl) rfl (zJ_coder1 hZ ⟨rfl, rfl, rfl⟩) ?_
  rintro _ _ _ hc ⟨rfl, rfl, rfl⟩
  refine zV_ishr dJ0_length_8abf5_9 ?_
  exact zV_ireti dJ0_length_8abf5_10 rfl (z32_i _) (by rw [show zshr 8 0 = 8 by decide +kernel]; exact h)
set_option maxRecDepth 100000 in
theorem zJ_chka {Z : zZ} (hZ : zBs Z) {M : zMem} {Q : Option zAV → zMem → zZ → Prop} {n : Nat} {i l : Int} (hi : z32 i) (hl : z32 l) (h0 : 0 ≤ i) (h1 : i < l) (h : Q (some (zI i)) M Z) : zV zmJ3_checkIndex_8e157 n 0 0 Z 0 [(0, zI i), (1, zI l), (2, zN)] [] M Q := by
  refine zV_iload_n 0 dJ3_checkIndex_8e157_0 rfl rfl ?_
  refine zV_if_lt 9 dJ3_checkIndex_8e157_1 (by decide) hi (fun q => by omega) (fun _ => ?_)
  refine zV_iload_n 0 dJ3_checkIndex_8e157_4 rfl rfl ?_
  refine zV_iload_n 1 dJ3_checkIndex_8e157_5 rfl rfl ?_
  refine zV_icmp_lt 16 dJ3_checkIndex_8e157_6 (by decide) hi hl (fun _ => ?_) (fun q => by omega)
  refine zV_iload_n 0 dJ3_checkIndex_8e157_16 rfl rfl ?_
  exact zV_ireti dJ3_checkIndex_8e157_17 rfl hi h
set_option maxRecDepth 100000 in
theorem zJ_chkb {Z : zZ} (hZ : zBs Z) {M : zMem} {Q : Option zAV → zMem → zZ → Prop} {n : Nat} {i l : Int} (hi : z32 i) (hl : z32 l) (h0 : 0 ≤ i) (h1 : i < l) (h : Q (some (zI i)) M Z) : zV zmJ3_checkIndex_8e157 n 0 0 Z 0 [(0, zI i), (1, zI l), (2, zR 1030)] [] M Q := by
  refine zV_iload_n 0 dJ3_checkIndex_8e157_0 rfl rfl ?_
  refine zV_if_lt 9 dJ3_checkIndex_8e157_1 (by decide) hi (fun q => by omega) (fun _ => ?_)
  refine zV_iload_n 0 dJ3_checkIndex_8e157_4 rfl rfl ?_
  refine zV_iload_n 1 dJ3_checkIndex_8e157_5 rfl rfl ?_
  refine zV_icmp_lt 16 dJ3_checkIndex_8e157_6 (by decide) hi hl (fun _ => ?_) (fun q => by omega)
  refine zV_iload_n 0 dJ3_checkIndex_8e157_16 rfl rfl ?_
  exact zV_ireti dJ3_checkIndex_8e157_17 rfl hi h
set_option maxRecDepth 100000 in
theorem zJ_chks {Z : zZ} (hZ : zBs Z) {M : zMem} {Q : Option zAV → zMem → zZ → Prop} {n : Nat} (hn : 1 ≤ n) {i l : Int} (hi : z32 i) (hl : z32 l) (h0 : 0 ≤ i) (h1 : i < l) (h : Q none M Z) : zV zmJ0_checkIndex_df160 n 0 0 Z 0 [(0, zI i), (1, zI l)] [] M Q := by
  refine zV_iload_n 0 dJ0_checkIndex_df160_0 rfl rfl ?_
  refine zV_iload_n 1 dJ0_checkIndex_df160_1 rfl rfl ?_
  refine zV_kfmt zkf_J0_1053 (zBs_1030 hZ) dJ0_checkIndex_df160_2 ?_ ?_
  · refine zV_callS (kc := 0) (ks := 0) (mc := 0) (ms := 0) (n' := 0) (As := [zI i, zI l, zN]) (Q' := fun r M' Z' => r = some (zI i) ∧ M = M' ∧ Z = Z') zc_J0_1059 dJ0_checkIndex_df160_5 hn rfl (Nat.le_of_ble_eq_true rfl) (Nat.le_of_ble_eq_true rfl) rfl (zJ_chka hZ hi hl h0 h1 ⟨rfl, rfl, rfl⟩) ?_
    rintro _ _ _ hc ⟨rfl, rfl, rfl⟩
    refine zV_pop dJ0_checkIndex_df160_8 rfl ?_
    exact zV_vret dJ0_checkIndex_df160_9 rfl h
  · refine zV_callS (kc := 0) (ks := 0) (mc := 0) (ms := 0) (n' := 0) (As := [zI i, zI l, zR 1030]) (Q' := fun r M' Z' => r = some (zI i) ∧ M = M' ∧ Z = Z') zc_J0_1059 dJ0_checkIndex_df160_5 hn rfl (Nat.le_of_ble_eq_true rfl) (Nat.le_of_ble_eq_true rfl) rfl (zJ_chkb hZ hi hl h0 h1 ⟨rfl, rfl, rfl⟩) ?_
    rintro _ _ _ hc ⟨rfl, rfl, rfl⟩
    refine zV_pop dJ0_checkIndex_df160_8 rfl ?_
    exact zV_vret dJ0_checkIndex_df160_9 rfl h
def zTx (j : Int) : Int := zchr (zand (zBy 0 j) 255)
theorem z32_tx (j : Int) : z32 (zTx j) := z32_i _
set_option maxRecDepth 100000 in
theorem zJ_chr1 {Z : zZ} (hZ : zBs Z) {M : zMem} {Q : Option zAV → zMem → zZ → Prop} {n : Nat} (hn : 2 ≤ n) {j : Int} (hj : z32 j) (h0 : 0 ≤ j) (h1 : j < 232) (h : Q (some (zI (zTx j))) M Z) : zV zmJ1_charAt_3b067 n 0 0 Z 0 [(0, zR 1020), (1, zI j)] [] M Q := by
  refine zV_iload_n 1 dJ1_charAt_3b067_0 rfl rfl ?_
  refine zV_aload_n 0 dJ1_charAt_3b067_1 rfl rfl ?_
  refine zV_klen (k := 0) (v := 232) (by decide) rfl dJ1_charAt_3b067_2 ?_
  refine zV_callS (kc := 0) (ks := 0) (mc := 0) (ms := 0) (n' := 1) (As := [zI j, zI 232]) (Q' := fun r M' Z' => r = none ∧ M = M' ∧ Z = Z') zc_J1_9 dJ1_charAt_3b067_3 hn rfl (Nat.le_of_ble_eq_true rfl) (Nat.le_of_ble_eq_true rfl) rfl (zJ_chks hZ (Nat.le_refl _) hj ⟨by decide, by decide⟩ h0 h1 ⟨rfl, rfl, rfl⟩) ?_
  rintro _ _ _ hc ⟨rfl, rfl, rfl⟩
  refine zV_aload_n 0 dJ1_charAt_3b067_6 rfl rfl ?_
  refine zV_iload_n 1 dJ1_charAt_3b067_7 rfl rfl ?_
  refine zV_kbyt (k := 0) (by decide) ⟨h0, h1⟩ dJ1_charAt_3b067_8 ?_
  refine zV_sipush (v := 255) dJ1_charAt_3b067_9 rfl ?_
  refine zV_iand dJ1_charAt_3b067_12 ?_
  refine zV_i2c dJ1_charAt_3b067_13 ?_
  exact zV_iretc dJ1_charAt_3b067_14 rfl (zchr_r _) h
set_option maxRecDepth 100000 in
theorem zJ_chr {Z : zZ} (hZ : zBs Z) {M : zMem} {Q : Option zAV → zMem → zZ → Prop} {n : Nat} (hn : 3 ≤ n) {j : Int} (hj : z32 j) (h0 : 0 ≤ j) (h1 : j < 232) (h : Q (some (zI (zTx j))) M Z) : zV zmJ0_charAt_5068e n 0 0 Z 0 [(0, zR 1010), (1, zI j)] [] M Q := by
  refine zV_aload_n 0 dJ0_charAt_5068e_0 rfl rfl ?_
  refine zV_callK (k := 0) (n' := 0) (As := []) (Q' := fun r M' Z' => r = some (zI 1) ∧ M = M' ∧ Z = Z') zc_J0_492 (by decide) rfl dJ0_charAt_5068e_1 (by omega) rfl (Nat.le_of_ble_eq_true rfl) (Nat.le_of_ble_eq_true rfl) rfl (zJ_lat0 hZ ⟨rfl, rfl, rfl⟩) ?_
  rintro _ _ _ hc ⟨rfl, rfl, rfl⟩
  refine zV_if_eq 16 dJ0_charAt_5068e_4 (by decide) ⟨by decide, by decide⟩ (fun q => absurd q (by decide)) (fun _ => ?_)
  refine zV_aload_n 0 dJ0_charAt_5068e_7 rfl rfl ?_
  refine zV_kval (k := 0) (by decide) zkf_J0_9 (zBs_1020 hZ) dJ0_charAt_5068e_8 ?_
  refine zV_iload_n 1 dJ0_charAt_5068e_11 rfl rfl ?_
  refine zV_callS (kc := 0) (ks := 0) (mc := 0) (ms := 0) (n' := 2) (As := [zR 1020, zI j]) (Q' := fun r M' Z' => r = some (zI (zTx j)) ∧ M = M' ∧ Z = Z') zc_J0_495 dJ0_charAt_5068e_12 hn rfl (Nat.le_of_ble_eq_true rfl) (Nat.le_of_ble_eq_true rfl) rfl (zJ_chr1 hZ (Nat.le_refl _) hj h0 h1 ⟨rfl, rfl, rfl⟩) ?_
  rintro _ _ _ hc ⟨rfl, rfl, rfl⟩
  exact zV_iretc dJ0_charAt_5068e_15 rfl (zchr_r _) h
set_option maxRecDepth 100000 in
theorem zJ_can {Z : zZ} (hZ : zBs Z) {M : zMem} {Q : Option zAV → zMem → zZ → Prop} {n : Nat} {c : Int} (hc : z32 c) (h : Q (some (zI (if 0 ≤ c ∧ c ≤ 255 then 1 else 0))) M Z) : zV zmJ1_canEncode_9a6ad n 0 0 Z 0 [(0, zI c)] [] M Q := by
  refine zV_iload_n 0 dJ1_canEncode_9a6ad_0 rfl rfl ?_
  refine zV_if_lt 15 dJ1_canEncode_9a6ad_1 (by decide) hc (fun q => ?_) (fun q => ?_)
  · rw [if_neg (by omega)] at h
    refine zV_iconst (v := 0) dJ1_canEncode_9a6ad_15 rfl ?_
    exact zV_iretb dJ1_canEncode_9a6ad_16 rfl (Or.inl rfl) h
  · refine zV_iload_n 0 dJ1_canEncode_9a6ad_4 rfl rfl ?_
    refine zV_sipush (v := 255) dJ1_canEncode_9a6ad_5 rfl ?_
    refine zV_icmp_gt 15 dJ1_canEncode_9a6ad_8 (by decide) hc ⟨by decide, by decide⟩ (fun q2 => ?_) (fun q2 => ?_)
    · rw [if_neg (by omega)] at h
      refine zV_iconst (v := 0) dJ1_canEncode_9a6ad_15 rfl ?_
      exact zV_iretb dJ1_canEncode_9a6ad_16 rfl (Or.inl rfl) h
    · rw [if_pos (by omega)] at h
      refine zV_iconst (v := 1) dJ1_canEncode_9a6ad_11 rfl ?_
      refine zV_goto 16 dJ1_canEncode_9a6ad_12 (by decide) ?_
      exact zV_iretb dJ1_canEncode_9a6ad_16 rfl (Or.inr rfl) h
/-- where a sign stands in the second text, from place i on -/
def zSi (c : Int) : Nat → Int → Int
  | 0, _ => -1
  | f + 1, i => if zBy 1 i = c then i else zSi c f (i + 1)
theorem z32_si (c : Int) : ∀ (f : Nat) (i : Int), 0 ≤ i → i + f ≤ 8 → z32 (zSi c f i)
  | 0, _, _, _ => ⟨by show (-2147483648 : Int) ≤ -1; decide, by show (-1 : Int) ≤ 2147483647; decide⟩
  | f + 1, i, h0, h1 => by
    unfold zSi
    split
    · exact ⟨by omega, by omega⟩
    · exact z32_si c f (i + 1) (by omega) (by omega)
set_option maxRecDepth 100000 in
theorem zJ_ioc_l {Z : zZ} (hZ : zBs Z) {M : zMem} {Q : Option zAV → zMem → zZ → Prop} {n : Nat} {x c : Int} (hx : z32 x) (hc : z32 c) : ∀ (f : Nat) (i : Int), 0 ≤ i → i + f = 8 → Q (some (zI (zSi c f i))) M Z → zV zmJ1_indexOfChar_4cfef n 0 0 Z 7 [(0, zR 1021), (1, zI x), (2, zI 0), (3, zI 8), (4, zI c), (5, zI i)] [] M Q
  | 0, i, h0, h1, h => by
    refine zV_iload 5 dJ1_indexOfChar_4cfef_7 rfl ?_
    refine zV_iload_n 3 dJ1_indexOfChar_4cfef_9 rfl rfl ?_
    refine zV_icmp_ge 31 dJ1_indexOfChar_4cfef_10 (by decide) ⟨by omega, by omega⟩ ⟨by decide, by decide⟩ (fun _ => ?_) (fun q => by omega)
    refine zV_iconst (v := -1) dJ1_indexOfChar_4cfef_31 rfl ?_
    exact zV_ireti dJ1_indexOfChar_4cfef_32 rfl ⟨by decide, by decide⟩ h
  | f + 1, i, h0, h1, h => by
    refine zV_iload 5 dJ1_indexOfChar_4cfef_7 rfl ?_
    refine zV_iload_n 3 dJ1_indexOfChar_4cfef_9 rfl rfl ?_
    refine zV_icmp_ge 31 dJ1_indexOfChar_4cfef_10 (by decide) ⟨by omega, by omega⟩ ⟨by decide, by decide⟩ (fun q => by omega) (fun _ => ?_)
    refine zV_aload_n 0 dJ1_indexOfChar_4cfef_13 rfl rfl ?_
    refine zV_iload 5 dJ1_indexOfChar_4cfef_14 rfl ?_
    refine zV_kbyt (k := 1) (by decide) ⟨h0, by show i < ((8 : Nat) : Int); omega⟩ dJ1_indexOfChar_4cfef_16 ?_
    refine zV_iload 4 dJ1_indexOfChar_4cfef_17 rfl ?_
    unfold zSi at h
    refine zV_icmp_ne 25 dJ1_indexOfChar_4cfef_19 (by decide) (z32_i _) hc (fun q => ?_) (fun q => ?_)
    · rw [if_neg q] at h
      refine zV_iinc 5 (v := i + 1) [(5, zI (i + 1)), (0, zR 1021), (1, zI x), (2, zI 0), (3, zI 8), (4, zI c)] dJ1_indexOfChar_4cfef_25 rfl (zw_id ⟨by omega, by omega⟩) (by decide) rfl ?_
      refine zV_goto 7 dJ1_indexOfChar_4cfef_28 (by decide) ?_
      refine zV_ls [1, 2, 3, 4, 5, 0] rfl ?_
      exact zJ_ioc_l hZ hx hc f (i + 1) (by omega) (by omega) h
    · rw [if_pos q] at h
      refine zV_iload 5 dJ1_indexOfChar_4cfef_22 rfl ?_
      exact zV_ireti dJ1_indexOfChar_4cfef_24 rfl ⟨by omega, by omega⟩ h
def zSo (c : Int) : Int := if 0 ≤ c ∧ c ≤ 255 then zSi ((Int32.ofInt c).toInt8.toInt32.toInt) 8 0 else -1
theorem z32_so (c : Int) : z32 (zSo c) := by
  unfold zSo
  split
  · exact z32_si _ 8 0 (by decide) (by decide)
  · exact ⟨by decide, by decide⟩
set_option maxRecDepth 100000 in
theorem zJ_ioc {Z : zZ} (hZ : zBs Z) {M : zMem} {Q : Option zAV → zMem → zZ → Prop} {n : Nat} {c : Int} (hc : z32 c) (h : Q (some (zI (zSi ((Int32.ofInt c).toInt8.toInt32.toInt) 8 0))) M Z) : zV zmJ1_indexOfChar_4cfef n 0 0 Z 0 [(0, zR 1021), (1, zI c), (2, zI 0), (3, zI 8)] [] M Q := by
  refine zV_iload_n 1 dJ1_indexOfChar_4cfef_0 rfl rfl ?_
  refine zV_i2b dJ1_indexOfChar_4cfef_1 ?_
  refine zV_istore [(4, zI ((Int32.ofInt c).toInt8.toInt32.toInt)), (0, zR 1021), (1, zI c), (2, zI 0), (3, zI 8)] dJ1_indexOfChar_4cfef_2 (by decide) rfl ?_
  refine zV_iload_n 3 dJ1_indexOfChar_4cfef_4 rfl rfl ?_
  refine zV_istore [(5, zI 0), (4, zI ((Int32.ofInt c).toInt8.toInt32.toInt)), (0, zR 1021), (1, zI c), (2, zI 0), (3, zI 8)] dJ1_indexOfChar_4cfef_5 (by decide) rfl ?_
  refine zV_ls [2, 3, 4, 5, 1, 0] rfl ?_
  exact zJ_ioc_l hZ hc (z32_i _) 8 0 (by decide) (by decide) h
set_option maxRecDepth 100000 in
theorem zJ_io1 {Z : zZ} (hZ : zBs Z) {M : zMem} {Q : Option zAV → zMem → zZ → Prop} {n : Nat} (hn : 1 ≤ n) {c : Int} (hc : z32 c) (h : Q (some (zI (zSo c))) M Z) : zV zmJ1_indexOf_4cfef n 0 0 Z 0 [(0, zR 1021), (1, zI c), (2, zI 0), (3, zI 8)] [] M Q := by
  refine zV_iload_n 1 dJ1_indexOf_4cfef_0 rfl rfl ?_
  refine zV_callS (kc := 0) (ks := 0) (mc := 0) (ms := 0) (n' := 0) (As := [zI c]) (Q' := fun r M' Z' => r = some (zI (if 0 ≤ c ∧ c ≤ 255 then 1 else 0)) ∧ M = M' ∧ Z = Z') zc_J1_88 dJ1_indexOf_4cfef_1 hn rfl (Nat.le_of_ble_eq_true rfl) (Nat.le_of_ble_eq_true rfl) rfl (zJ_can hZ hc ⟨rfl, rfl, rfl⟩) ?_
  rintro _ _ _ hcc ⟨rfl, rfl, rfl⟩
  unfold zSo at h
  by_cases hcan : 0 ≤ c ∧ c ≤ 255
  · rw [if_pos hcan] at h ⊢
    refine zV_if_ne 9 dJ1_indexOf_4cfef_4 (by decide) ⟨by decide, by decide⟩ (fun _ => ?_) (fun q => absurd q (by decide))
    refine zV_iload_n 2 dJ1_indexOf_4cfef_9 rfl rfl ?_
    refine zV_iconst (v := 0) dJ1_indexOf_4cfef_10 rfl ?_
    refine zV_mmax zml_J1_92 dJ1_indexOf_4cfef_11 hn (Nat.le_of_ble_eq_true rfl) z32_0 z32_0 ?_
    refine zV_istore_n [(2, zI 0), (0, zR 1021), (1, zI c), (3, zI 8)] dJ1_indexOf_4cfef_14 rfl (by decide) rfl ?_
    refine zV_iload_n 3 dJ1_indexOf_4cfef_15 rfl rfl ?_
    refine zV_aload_n 1 dJ1_indexOf_4cfef_16 rfl rfl ?_
    refine zV_klen (k := 1) (v := 8) (by decide) rfl dJ1_indexOf_4cfef_17 ?_
    refine zV_mmin zml_J1_38 dJ1_indexOf_4cfef_18 hn (Nat.le_of_ble_eq_true rfl) ⟨by decide, by decide⟩ ⟨by decide, by decide⟩ ?_
    refine zV_istore_n [(3, zI 8), (2, zI 0), (0, zR 1021), (1, zI c)] dJ1_indexOf_4cfef_21 rfl (by decide) rfl ?_
    refine zV_iload_n 1 dJ1_indexOf_4cfef_22 rfl rfl ?_
    refine zV_iload_n 0 dJ1_indexOf_4cfef_23 rfl rfl ?_
    refine zV_icmp_lt 29 dJ1_indexOf_4cfef_24 (by decide) z32_0 ⟨by decide, by decide⟩ (fun _ => ?_) (fun q => absurd q (by decide))
    refine zV_aload_n 2 dJ1_indexOf_4cfef_29 rfl rfl ?_
    refine zV_iload_n 3 dJ1_indexOf_4cfef_30 rfl rfl ?_
    refine zV_iload_n 1 dJ1_indexOf_4cfef_31 rfl rfl ?_
    refine zV_iload_n 0 dJ1_indexOf_4cfef_32 rfl rfl ?_
    refine zV_callS (kc := 0) (ks := 0) (mc := 0) (ms := 0) (n' := 0) (As := [zR 1021, zI c, zI 0, zI 8]) (Q' := fun r M' Z' => r = some (zI (zSi ((Int32.ofInt c).toInt8.toInt32.toInt) 8 0)) ∧ M = M' ∧ Z = Z') zc_J1_95 dJ1_indexOf_4cfef_33 hn rfl (Nat.le_of_ble_eq_true rfl) (Nat.le_of_ble_eq_true rfl) rfl (zJ_ioc hZ hc ⟨rfl, rfl, rfl⟩) ?_
    rintro _ _ _ hcc2 ⟨rfl, rfl, rfl⟩
    exact zV_ireti dJ1_indexOf_4cfef_36 rfl hcc2.1 h
  · rw [if_neg hcan] at h ⊢
    refine zV_if_ne 9 dJ1_indexOf_4cfef_4 (by decide) z32_0 (fun q => absurd rfl q) (fun _ => ?_)
    refine zV_iconst (v := -1) dJ1_indexOf_4cfef_7 rfl ?_
    exact zV_ireti dJ1_indexOf_4cfef_8 rfl ⟨by decide, by decide⟩ h
set_option maxRecDepth 100000 in
theorem zJ_io2 {Z : zZ} (hZ : zBs Z) {M : zMem} {Q : Option zAV → zMem → zZ → Prop} {n : Nat} (hn : 2 ≤ n) {c : Int} (hc : z32 c) (h : Q (some (zI (zSo c))) M Z) : zV zmJ0_indexOf_7cf53 n 0 0 Z 0 [(0, zR 1011), (1, zI c), (2, zI 0)] [] M Q := by
  refine zV_aload_n 0 dJ0_indexOf_7cf53_0 rfl rfl ?_
  refine zV_callK (k := 1) (n' := 0) (As := []) (Q' := fun r M' Z' => r = some (zI 1) ∧ M = M' ∧ Z = Z') zc_J0_492 (by decide) rfl dJ0_indexOf_7cf53_1 (by omega) rfl (Nat.le_of_ble_eq_true rfl) (Nat.le_of_ble_eq_true rfl) rfl (zJ_lat1 hZ ⟨rfl, rfl, rfl⟩) ?_
  rintro _ _ _ hcc ⟨rfl, rfl, rfl⟩
  refine zV_if_eq 23 dJ0_indexOf_7cf53_4 (by decide) ⟨by decide, by decide⟩ (fun q => absurd q (by decide)) (fun _ => ?_)
  refine zV_aload_n 0 dJ0_indexOf_7cf53_7 rfl rfl ?_
  refine zV_kval (k := 1) (by decide) zkf_J0_9 (zBs_1021 hZ) dJ0_indexOf_7cf53_8 ?_
  refine zV_iload_n 1 dJ0_indexOf_7cf53_11 rfl rfl ?_
  refine zV_iload_n 2 dJ0_indexOf_7cf53_12 rfl rfl ?_
  refine zV_aload_n 0 dJ0_indexOf_7cf53_13 rfl rfl ?_
  refine zV_callK (k := 1) (n' := 1) (As := []) (Q' := fun r M' Z' => r = some (zI 8) ∧ M = M' ∧ Z = Z') zc_J0_505 (by decide) rfl dJ0_indexOf_7cf53_14 hn rfl (Nat.le_of_ble_eq_true rfl) (Nat.le_of_ble_eq_true rfl) rfl (zJ_len1 hZ (Nat.le_refl _) ⟨rfl, rfl, rfl⟩) ?_
  rintro _ _ _ hcc2 ⟨rfl, rfl, rfl⟩
  refine zV_callS (kc := 0) (ks := 0) (mc := 0) (ms := 0) (n' := 1) (As := [zR 1021, zI c, zI 0, zI 8]) (Q' := fun r M' Z' => r = some (zI (zSo c)) ∧ M = M' ∧ Z = Z') zc_J0_637 dJ0_indexOf_7cf53_17 hn rfl (Nat.le_of_ble_eq_true rfl) (Nat.le_of_ble_eq_true rfl) rfl (zJ_io1 hZ (Nat.le_refl _) hc ⟨rfl, rfl, rfl⟩) ?_
  rintro _ _ _ hcc3 ⟨rfl, rfl, rfl⟩
  refine zV_goto 36 dJ0_indexOf_7cf53_20 (by decide) ?_
  exact zV_ireti dJ0_indexOf_7cf53_36 rfl hcc3.1 h
set_option maxRecDepth 100000 in
theorem zJ_io {Z : zZ} (hZ : zBs Z) {M : zMem} {Q : Option zAV → zMem → zZ → Prop} {n : Nat} (hn : 3 ≤ n) {c : Int} (hc : z32 c) (h : Q (some (zI (zSo c))) M Z) : zV zmJ0_indexOf_0f7a4 n 0 0 Z 0 [(0, zR 1011), (1, zI c)] [] M Q := by
  refine zV_aload_n 0 dJ0_indexOf_0f7a4_0 rfl rfl ?_
  refine zV_iload_n 1 dJ0_indexOf_0f7a4_1 rfl rfl ?_
  refine zV_iconst (v := 0) dJ0_indexOf_0f7a4_2 rfl ?_
  refine zV_callK (k := 1) (n' := 2) (As := [zI c, zI 0]) (Q' := fun r M' Z' => r = some (zI (zSo c)) ∧ M = M' ∧ Z = Z') zc_J0_633 (by decide) rfl dJ0_indexOf_0f7a4_3 hn rfl (Nat.le_of_ble_eq_true rfl) (Nat.le_of_ble_eq_true rfl) rfl (zJ_io2 hZ (Nat.le_refl _) hc ⟨rfl, rfl, rfl⟩) ?_
  rintro _ _ _ hcc ⟨rfl, rfl, rfl⟩
  exact zV_ireti dJ0_indexOf_0f7a4_6 rfl hcc.1 h
section ZW
variable {y : zMI} {n kc ks : Nat} {Z : zZ} {pc : Nat} {ls : List (Nat × zAV)} {st : List zAV} {M : zMem} {Q : Option zAV → zMem → zZ → Prop}
abbrev zSx (c : Int) : Int := zSo c
theorem z32_sx (c : Int) : z32 (zSx c) := z32_so c
theorem zV_slen {idx : Nat} (hw : zCV y.1.cls idx zmJ0_length_8abf5 0) (hZ : zBs Z) (hn : 6 ≤ n) (hst : (st.map zcat).sum ≤ 8) (hd : decode y.2.1 pc = .ok (.invokevirtual idx, 3)) (k : zV y n kc ks Z (pc + 3) ls (zI 232 :: st) M Q) : zV y n kc ks Z pc ls (zR 1010 :: st) M Q := by
  refine zV_callK (k := 0) (n' := 1) (As := []) (Q' := fun r M' Z' => r = some (zI 232) ∧ M = M' ∧ Z = Z') hw (by decide) rfl hd (by omega) rfl (Nat.le_of_ble_eq_true rfl) hst rfl (zJ_len0 hZ (Nat.le_refl _) ⟨rfl, rfl, rfl⟩) ?_
  rintro _ _ _ hcc ⟨rfl, rfl, rfl⟩
  exact k
theorem zV_schr {idx : Nat} {j : Int} (hw : zCV y.1.cls idx zmJ0_charAt_5068e 1) (hZ : zBs Z) (hn : 6 ≤ n) (hst : (st.map zcat).sum ≤ 8) (hd : decode y.2.1 pc = .ok (.invokevirtual idx, 3)) (hj : z32 j) (hg : 0 ≤ j ∧ j < 232) (k : zV y n kc ks Z (pc + 3) ls (zI (zTx j) :: st) M Q) : zV y n kc ks Z pc ls (zI j :: zR 1010 :: st) M Q := by
  refine zV_callK (k := 0) (n' := 3) (As := [zI j]) (Q' := fun r M' Z' => r = some (zI (zTx j)) ∧ M = M' ∧ Z = Z') hw (by decide) rfl hd (by omega) rfl (Nat.le_of_ble_eq_true rfl) hst rfl (zJ_chr hZ (Nat.le_refl _) hj hg.1 hg.2 ⟨rfl, rfl, rfl⟩) ?_
  rintro _ _ _ hcc ⟨rfl, rfl, rfl⟩
  exact k
theorem zV_sidx {idx : Nat} {j : Int} (hw : zCV y.1.cls idx zmJ0_indexOf_0f7a4 1) (hZ : zBs Z) (hn : 6 ≤ n) (hst : (st.map zcat).sum ≤ 8) (hd : decode y.2.1 pc = .ok (.invokevirtual idx, 3)) (hj : z32 j) (k : zV y n kc ks Z (pc + 3) ls (zI (zSx j) :: st) M Q) : zV y n kc ks Z pc ls (zI j :: zR 1011 :: st) M Q := by
  refine zV_callK (k := 1) (n' := 3) (As := [zI j]) (Q' := fun r M' Z' => r = some (zI (zSo j)) ∧ M = M' ∧ Z = Z') hw (by decide) rfl hd (by omega) rfl (Nat.le_of_ble_eq_true rfl) hst rfl (zJ_io hZ (Nat.le_refl _) hj ⟨rfl, rfl, rfl⟩) ?_
  rintro _ _ _ hcc ⟨rfl, rfl, rfl⟩
  exact k
end ZW
theorem zkm_X8_65 : Cond.methodLink RX8 65 yJ0_length_8abf5 ∈ zT := zT_inc (i := 85) zL_3 rfl rfl
theorem zkm_X8_72 : Cond.methodLink RX8 72 yJ0_charAt_5068e ∈ zT := zT_inc (i := 90) zL_3 rfl rfl
theorem zkn_J0_charAt_5068e : Cond.instanceMethod yJ0_charAt_5068e ∈ zT := zT_inc (i := 91) zL_3 rfl rfl
theorem zks_J0_charAt_5068e : Cond.selects RJ0 yJ0_charAt_5068e yJ0_charAt_5068e ∈ zT := zT_inc (i := 92) zL_3 rfl rfl
theorem zkm_X8_58 : Cond.methodLink RX8 58 yJ0_indexOf_0f7a4 ∈ zT := zT_inc (i := 133) zL_3 rfl rfl
theorem zkn_J0_indexOf_0f7a4 : Cond.instanceMethod yJ0_indexOf_0f7a4 ∈ zT := zT_inc (i := 134) zL_3 rfl rfl
theorem zks_J0_indexOf_0f7a4 : Cond.selects RJ0 yJ0_indexOf_0f7a4 yJ0_indexOf_0f7a4 ∈ zT := zT_inc (i := 135) zL_3 rfl rfl
theorem zkm_X3_17 : Cond.methodLink RX3 17 yJ0_length_8abf5 ∈ zT := zT_inc (i := 66) zL_2 rfl rfl
theorem zc_X8_65 : zCV RX8 65 zmJ0_length_8abf5 0 := ⟨zkm_X8_65, zkn_J0_length_8abf5, zks_J0_length_8abf5, zmw_J0_length_8abf5⟩
theorem zc_X8_72 : zCV RX8 72 zmJ0_charAt_5068e 1 := ⟨zkm_X8_72, zkn_J0_charAt_5068e, zks_J0_charAt_5068e, zmw_J0_charAt_5068e⟩
theorem zc_X8_58 : zCV RX8 58 zmJ0_indexOf_0f7a4 1 := ⟨zkm_X8_58, zkn_J0_indexOf_0f7a4, zks_J0_indexOf_0f7a4, zmw_J0_indexOf_0f7a4⟩
theorem zc_X3_17 : zCV RX3 17 zmJ0_length_8abf5 0 := ⟨zkm_X3_17, zkn_J0_length_8abf5, zks_J0_length_8abf5, zmw_J0_length_8abf5⟩
