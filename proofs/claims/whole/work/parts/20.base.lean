theorem zinX0 : ∀ w ∈ wsX00, w ∈ zT := by decide +kernel
theorem zinX1 : ∀ w ∈ wsX10, w ∈ zT := by decide +kernel
theorem zinX2 : ∀ w ∈ wsX20, w ∈ zT := by decide +kernel
theorem zinX3 : ∀ w ∈ wsX30, w ∈ zT := by decide +kernel
theorem zinX4 : ∀ w ∈ wsX40, w ∈ zT := by decide +kernel
theorem zinX5 : ∀ w ∈ wsX50, w ∈ zT := by decide +kernel
theorem zinX6 : ∀ w ∈ wsX60, w ∈ zT := by decide +kernel
theorem zinX7 : ∀ w ∈ wsX70, w ∈ zT := by decide +kernel
theorem zinX8 : ∀ w ∈ wsX80, w ∈ zT := by decide +kernel
theorem zinX9 : ∀ w ∈ wsX90, w ∈ zT := by decide +kernel
theorem zinX10 : ∀ w ∈ wsX100, w ∈ zT := by decide +kernel
theorem zinX11 : ∀ w ∈ wsX110, w ∈ zT := by decide +kernel
theorem zinX12 : ∀ w ∈ wsX120, w ∈ zT := by decide +kernel
theorem zi_0 : z32 0 := ⟨by decide, by decide⟩
theorem zi_1 : z32 1 := ⟨by decide, by decide⟩
theorem zi_10 : z32 10 := ⟨by decide, by decide⟩
theorem zi_100 : z32 100 := ⟨by decide, by decide⟩
theorem zi_1000 : z32 1000 := ⟨by decide, by decide⟩
theorem zi_100000000 : z32 100000000 := ⟨by decide, by decide⟩
theorem zi_101 : z32 101 := ⟨by decide, by decide⟩
theorem zi_102 : z32 102 := ⟨by decide, by decide⟩
theorem zi_1024 : z32 1024 := ⟨by decide, by decide⟩
theorem zi_103 : z32 103 := ⟨by decide, by decide⟩
theorem zi_104 : z32 104 := ⟨by decide, by decide⟩
theorem zi_106 : z32 106 := ⟨by decide, by decide⟩
theorem zi_108 : z32 108 := ⟨by decide, by decide⟩
theorem zi_11 : z32 11 := ⟨by decide, by decide⟩
theorem zi_111 : z32 111 := ⟨by decide, by decide⟩
theorem zi_114 : z32 114 := ⟨by decide, by decide⟩
theorem zi_12 : z32 12 := ⟨by decide, by decide⟩
theorem zi_122 : z32 122 := ⟨by decide, by decide⟩
theorem zi_125 : z32 125 := ⟨by decide, by decide⟩
theorem zi_126 : z32 126 := ⟨by decide, by decide⟩
theorem zi_128 : z32 128 := ⟨by decide, by decide⟩
theorem zi_1431655765 : z32 1431655765 := ⟨by decide, by decide⟩
theorem zi_16 : z32 16 := ⟨by decide, by decide⟩
theorem zi_2 : z32 2 := ⟨by decide, by decide⟩
theorem zi_20 : z32 20 := ⟨by decide, by decide⟩
theorem zi_200 : z32 200 := ⟨by decide, by decide⟩
theorem zi_21 : z32 21 := ⟨by decide, by decide⟩
theorem zi_22 : z32 22 := ⟨by decide, by decide⟩
theorem zi_232 : z32 232 := ⟨by decide, by decide⟩
theorem zi_24 : z32 24 := ⟨by decide, by decide⟩
theorem zi_25 : z32 25 := ⟨by decide, by decide⟩
theorem zi_252645135 : z32 252645135 := ⟨by decide, by decide⟩
theorem zi_255 : z32 255 := ⟨by decide, by decide⟩
theorem zi_26 : z32 26 := ⟨by decide, by decide⟩
theorem zi_27 : z32 27 := ⟨by decide, by decide⟩
theorem zi_28 : z32 28 := ⟨by decide, by decide⟩
theorem zi_29 : z32 29 := ⟨by decide, by decide⟩
theorem zi_3 : z32 3 := ⟨by decide, by decide⟩
theorem zi_30 : z32 30 := ⟨by decide, by decide⟩
theorem zi_32 : z32 32 := ⟨by decide, by decide⟩
theorem zi_4 : z32 4 := ⟨by decide, by decide⟩
theorem zi_40 : z32 40 := ⟨by decide, by decide⟩
theorem zi_41 : z32 41 := ⟨by decide, by decide⟩
theorem zi_42 : z32 42 := ⟨by decide, by decide⟩
theorem zi_43 : z32 43 := ⟨by decide, by decide⟩
theorem zi_45 : z32 45 := ⟨by decide, by decide⟩
theorem zi_46 : z32 46 := ⟨by decide, by decide⟩
theorem zi_48 : z32 48 := ⟨by decide, by decide⟩
theorem zi_5 : z32 5 := ⟨by decide, by decide⟩
theorem zi_56 : z32 56 := ⟨by decide, by decide⟩
theorem zi_57 : z32 57 := ⟨by decide, by decide⟩
theorem zi_59 : z32 59 := ⟨by decide, by decide⟩
theorem zi_6 : z32 6 := ⟨by decide, by decide⟩
theorem zi_60 : z32 60 := ⟨by decide, by decide⟩
theorem zi_61 : z32 61 := ⟨by decide, by decide⟩
theorem zi_63 : z32 63 := ⟨by decide, by decide⟩
theorem zi_7 : z32 7 := ⟨by decide, by decide⟩
theorem zi_743 : z32 743 := ⟨by decide, by decide⟩
theorem zi_8 : z32 8 := ⟨by decide, by decide⟩
theorem zi_858993459 : z32 858993459 := ⟨by decide, by decide⟩
theorem zi_9 : z32 9 := ⟨by decide, by decide⟩
theorem zi_97 : z32 97 := ⟨by decide, by decide⟩
theorem zi_99 : z32 99 := ⟨by decide, by decide⟩
theorem zi_999 : z32 999 := ⟨by decide, by decide⟩
theorem zi_9999 : z32 9999 := ⟨by decide, by decide⟩
theorem zi_n1 : z32 (-1) := ⟨by decide, by decide⟩
theorem zi_n103 : z32 (-103) := ⟨by decide, by decide⟩
theorem zi_n111 : z32 (-111) := ⟨by decide, by decide⟩
theorem zi_n125 : z32 (-125) := ⟨by decide, by decide⟩
theorem zi_n128 : z32 (-128) := ⟨by decide, by decide⟩
theorem zj_0 : z64 0 := ⟨by decide, by decide⟩
theorem zj_1 : z64 1 := ⟨by decide, by decide⟩
theorem zj_1000000000000000 : z64 1000000000000000 := ⟨by decide, by decide⟩
theorem zj_10413527 : z64 10413527 := ⟨by decide, by decide⟩
theorem zj_10415990 : z64 10415990 := ⟨by decide, by decide⟩
theorem zj_10416091 : z64 10416091 := ⟨by decide, by decide⟩
theorem zj_10631 : z64 10631 := ⟨by decide, by decide⟩
theorem zj_10939463 : z64 10939463 := ⟨by decide, by decide⟩
theorem zj_1111 : z64 1111 := ⟨by decide, by decide⟩
theorem zj_14006 : z64 14006 := ⟨by decide, by decide⟩
theorem zj_144686 : z64 144686 := ⟨by decide, by decide⟩
theorem zj_161156 : z64 161156 := ⟨by decide, by decide⟩
theorem zj_1949438 : z64 1949438 := ⟨by decide, by decide⟩
theorem zj_2461245202 : z64 2461245202 := ⟨by decide, by decide⟩
theorem zj_255 : z64 255 := ⟨by decide, by decide⟩
theorem zj_263328790 : z64 263328790 := ⟨by decide, by decide⟩
theorem zj_27 : z64 27 := ⟨by decide, by decide⟩
theorem zj_315918 : z64 315918 := ⟨by decide, by decide⟩
theorem zj_3175 : z64 3175 := ⟨by decide, by decide⟩
theorem zj_335207579 : z64 335207579 := ⟨by decide, by decide⟩
theorem zj_3427 : z64 3427 := ⟨by decide, by decide⟩
theorem zj_381245 : z64 381245 := ⟨by decide, by decide⟩
theorem zj_385331 : z64 385331 := ⟨by decide, by decide⟩
theorem zj_404978 : z64 404978 := ⟨by decide, by decide⟩
theorem zj_4081324 : z64 4081324 := ⟨by decide, by decide⟩
theorem zj_423 : z64 423 := ⟨by decide, by decide⟩
theorem zj_453774 : z64 453774 := ⟨by decide, by decide⟩
theorem zj_453937 : z64 453937 := ⟨by decide, by decide⟩
theorem zj_50934 : z64 50934 := ⟨by decide, by decide⟩
theorem zj_5764801 : z64 5764801 := ⟨by decide, by decide⟩
theorem zj_7 : z64 7 := ⟨by decide, by decide⟩
theorem zj_70401 : z64 70401 := ⟨by decide, by decide⟩
theorem zj_778957 : z64 778957 := ⟨by decide, by decide⟩
theorem zj_8009370239 : z64 8009370239 := ⟨by decide, by decide⟩
theorem zj_8861527 : z64 8861527 := ⟨by decide, by decide⟩
theorem zj_96 : z64 96 := ⟨by decide, by decide⟩
theorem zj_9665171 : z64 9665171 := ⟨by decide, by decide⟩
theorem zkf_X11_10 : Cond.fieldLink RX11 10 "GlassSpindle" "tape" "LGlassSpindle$Tape;" ∈ zT := zT_inc (i := 237) zL_2 rfl rfl
theorem zkc_X8_addBytes : Cond.code yX8_addBytes cX8_addBytes 6 none ∈ zT := zT_inc (i := 44) zL_3 rfl rfl
theorem zki_X8 : Cond.initialized RX8 ∈ zT := zT_inc (i := 2) zL_1 rfl rfl
theorem zkm_X11_100 : Cond.methodLink RX11 100 yX8_addBytes ∈ zT := zT_inc (i := 41) zL_3 rfl rfl
theorem zkn_X8_addBytes : Cond.instanceMethod yX8_addBytes ∈ zT := zT_inc (i := 42) zL_3 rfl rfl
theorem zks_X8_addBytes : Cond.selects RX8 yX8_addBytes yX8_addBytes ∈ zT := zT_inc (i := 43) zL_3 rfl rfl
theorem zkf_X11_104 : Cond.fieldLink RX11 104 "GlassSpindle$Tape" "length" "I" ∈ zT := zT_inc (i := 42) zL_1 rfl rfl
theorem zkf_X11_31 : Cond.fieldLink RX11 31 "GlassSpindle" "reader" "LGlassSpindle$Reader;" ∈ zT := zT_inc (i := 238) zL_2 rfl rfl
theorem zkc_X6_read : Cond.code yX6_read cX6_read 3 (some .int) ∈ zT := zT_inc (i := 52) zL_3 rfl rfl
theorem zki_X6 : Cond.initialized RX6 ∈ zT := zT_inc (i := 4) zL_1 rfl rfl
theorem zkm_X11_108 : Cond.methodLink RX11 108 yX6_read ∈ zT := zT_inc (i := 49) zL_3 rfl rfl
theorem zkn_X6_read : Cond.instanceMethod yX6_read ∈ zT := zT_inc (i := 50) zL_3 rfl rfl
theorem zks_X6_read : Cond.selects RX6 yX6_read yX6_read ∈ zT := zT_inc (i := 51) zL_3 rfl rfl
theorem zkf_X11_19 : Cond.fieldLink RX11 19 "GlassSpindle" "setup" "LGlassSpindle$Setup;" ∈ zT := zT_inc (i := 239) zL_2 rfl rfl
theorem zkf_X11_23 : Cond.fieldLink RX11 23 "GlassSpindle" "draft" "LGlassSpindle$Setup;" ∈ zT := zT_inc (i := 0) zL_3 rfl rfl
theorem zkc_X7_copy : Cond.code yX7_copy cX7_copy 2 none ∈ zT := zT_inc (i := 59) zL_4 rfl rfl
theorem zki_X7 : Cond.initialized RX7 ∈ zT := zT_inc (i := 3) zL_1 rfl rfl
theorem zkm_X11_112 : Cond.methodLink RX11 112 yX7_copy ∈ zT := zT_inc (i := 56) zL_4 rfl rfl
theorem zkn_X7_copy : Cond.instanceMethod yX7_copy ∈ zT := zT_inc (i := 57) zL_4 rfl rfl
theorem zks_X7_copy : Cond.selects RX7 yX7_copy yX7_copy ∈ zT := zT_inc (i := 58) zL_4 rfl rfl
theorem zkf_X11_38 : Cond.fieldLink RX11 38 "GlassSpindle" "piece" "LGlassSpindle$Piece;" ∈ zT := zT_inc (i := 1) zL_3 rfl rfl
theorem zkf_X11_115 : Cond.fieldLink RX11 115 "GlassSpindle$Piece" "notes" "I" ∈ zT := zT_inc (i := 212) zL_1 rfl rfl
theorem zkc_X11_forgetAll : Cond.code yX11_forgetAll cX11_forgetAll 1 none ∈ zT := zT_inc (i := 63) zL_4 rfl rfl
theorem zki_X11 : Cond.initialized RX11 ∈ zT := zT_inc (i := 1) zL_1 rfl rfl
theorem zkm_X11_118 : Cond.methodLink RX11 118 yX11_forgetAll ∈ zT := zT_inc (i := 60) zL_4 rfl rfl
theorem zkn_X11_forgetAll : Cond.instanceMethod yX11_forgetAll ∈ zT := zT_inc (i := 62) zL_4 rfl rfl
theorem zks_X11_forgetAll : Cond.selects RX11 yX11_forgetAll yX11_forgetAll ∈ zT := zT_inc (i := 25) zL_0 (by decide +kernel) rfl
theorem zkc_X7_hasBowl : Cond.code yX7_hasBowl cX7_hasBowl 2 (some .boolean) ∈ zT := zT_inc (i := 75) zL_4 rfl rfl
theorem zkm_X11_121 : Cond.methodLink RX11 121 yX7_hasBowl ∈ zT := zT_inc (i := 72) zL_4 rfl rfl
theorem zkn_X7_hasBowl : Cond.instanceMethod yX7_hasBowl ∈ zT := zT_inc (i := 73) zL_4 rfl rfl
theorem zks_X7_hasBowl : Cond.selects RX7 yX7_hasBowl yX7_hasBowl ∈ zT := zT_inc (i := 74) zL_4 rfl rfl
theorem zkf_X11_125 : Cond.fieldLink RX11 125 "GlassSpindle$Setup" "tone" "[I" ∈ zT := zT_inc (i := 83) zL_1 rfl rfl
theorem zkf_X11_129 : Cond.fieldLink RX11 129 "GlassSpindle$Setup" "size" "[I" ∈ zT := zT_inc (i := 87) zL_1 rfl rfl
theorem zkf_X11_132 : Cond.fieldLink RX11 132 "GlassSpindle$Setup" "wall" "[I" ∈ zT := zT_inc (i := 92) zL_1 rfl rfl
theorem zkf_X11_135 : Cond.fieldLink RX11 135 "GlassSpindle$Setup" "kind" "[I" ∈ zT := zT_inc (i := 97) zL_1 rfl rfl
theorem zkf_X11_138 : Cond.fieldLink RX11 138 "GlassSpindle$Setup" "place" "[I" ∈ zT := zT_inc (i := 102) zL_1 rfl rfl
theorem zkc_X7_hasPlace : Cond.code yX7_hasPlace cX7_hasPlace 2 (some .boolean) ∈ zT := zT_inc (i := 83) zL_4 rfl rfl
theorem zkm_X11_141 : Cond.methodLink RX11 141 yX7_hasPlace ∈ zT := zT_inc (i := 80) zL_4 rfl rfl
theorem zkn_X7_hasPlace : Cond.instanceMethod yX7_hasPlace ∈ zT := zT_inc (i := 81) zL_4 rfl rfl
theorem zks_X7_hasPlace : Cond.selects RX7 yX7_hasPlace yX7_hasPlace ∈ zT := zT_inc (i := 82) zL_4 rfl rfl
theorem zkc_X5_add : Cond.code yX5_add cX5_add 6 none ∈ zT := zT_inc (i := 96) zL_4 rfl rfl
theorem zki_X5 : Cond.initialized RX5 ∈ zT := zT_inc (i := 5) zL_1 rfl rfl
theorem zkm_X11_151 : Cond.methodLink RX11 151 yX5_add ∈ zT := zT_inc (i := 93) zL_4 rfl rfl
theorem zkn_X5_add : Cond.instanceMethod yX5_add ∈ zT := zT_inc (i := 94) zL_4 rfl rfl
theorem zks_X5_add : Cond.selects RX5 yX5_add yX5_add ∈ zT := zT_inc (i := 95) zL_4 rfl rfl
theorem zkc_X11_forgetPlaying : Cond.code yX11_forgetPlaying cX11_forgetPlaying 1 none ∈ zT := zT_inc (i := 67) zL_4 rfl rfl
theorem zkm_X11_155 : Cond.methodLink RX11 155 yX11_forgetPlaying ∈ zT := zT_inc (i := 64) zL_4 rfl rfl
theorem zkn_X11_forgetPlaying : Cond.instanceMethod yX11_forgetPlaying ∈ zT := zT_inc (i := 66) zL_4 rfl rfl
theorem zks_X11_forgetPlaying : Cond.selects RX11 yX11_forgetPlaying yX11_forgetPlaying ∈ zT := zT_inc (i := 26) zL_0 (by decide +kernel) rfl
theorem zkc_X5_takes : Cond.code yX5_takes cX5_takes 4 (some .boolean) ∈ zT := zT_inc (i := 88) zL_4 rfl rfl
theorem zkm_X11_144 : Cond.methodLink RX11 144 yX5_takes ∈ zT := zT_inc (i := 85) zL_4 rfl rfl
theorem zkn_X5_takes : Cond.instanceMethod yX5_takes ∈ zT := zT_inc (i := 86) zL_4 rfl rfl
theorem zks_X5_takes : Cond.selects RX5 yX5_takes yX5_takes ∈ zT := zT_inc (i := 87) zL_4 rfl rfl
theorem zkc_X7_hasFinger : Cond.code yX7_hasFinger cX7_hasFinger 2 (some .boolean) ∈ zT := zT_inc (i := 92) zL_4 rfl rfl
theorem zkm_X11_148 : Cond.methodLink RX11 148 yX7_hasFinger ∈ zT := zT_inc (i := 89) zL_4 rfl rfl
theorem zkn_X7_hasFinger : Cond.instanceMethod yX7_hasFinger ∈ zT := zT_inc (i := 90) zL_4 rfl rfl
theorem zks_X7_hasFinger : Cond.selects RX7 yX7_hasFinger yX7_hasFinger ∈ zT := zT_inc (i := 91) zL_4 rfl rfl
theorem zkc_X5_has : Cond.code yX5_has cX5_has 2 (some .boolean) ∈ zT := zT_inc (i := 108) zL_4 rfl rfl
theorem zkm_X11_158 : Cond.methodLink RX11 158 yX5_has ∈ zT := zT_inc (i := 105) zL_4 rfl rfl
theorem zkn_X5_has : Cond.instanceMethod yX5_has ∈ zT := zT_inc (i := 106) zL_4 rfl rfl
theorem zks_X5_has : Cond.selects RX5 yX5_has yX5_has ∈ zT := zT_inc (i := 107) zL_4 rfl rfl
theorem zkf_X11_161 : Cond.fieldLink RX11 161 "GlassSpindle$Piece" "finger" "[I" ∈ zT := zT_inc (i := 238) zL_1 rfl rfl
theorem zkf_X11_71 : Cond.fieldLink RX11 71 "GlassSpindle" "voice" "LGlassSpindle$Voice;" ∈ zT := zT_inc (i := 6) zL_3 rfl rfl
theorem zkf_X11_164 : Cond.fieldLink RX11 164 "GlassSpindle$Voice" "known" "Z" ∈ zT := zT_inc (i := 95) zL_2 rfl rfl
theorem zkf_X11_168 : Cond.fieldLink RX11 168 "GlassSpindle$Piece" "bowl" "[I" ∈ zT := zT_inc (i := 222) zL_1 rfl rfl
theorem zkf_X11_171 : Cond.fieldLink RX11 171 "GlassSpindle$Piece" "from" "[I" ∈ zT := zT_inc (i := 227) zL_1 rfl rfl
theorem zkf_X11_174 : Cond.fieldLink RX11 174 "GlassSpindle$Piece" "length" "[I" ∈ zT := zT_inc (i := 231) zL_1 rfl rfl
theorem zkf_X11_176 : Cond.fieldLink RX11 176 "GlassSpindle$Piece" "press" "[I" ∈ zT := zT_inc (i := 235) zL_1 rfl rfl
theorem zkc_X11_isBeat : Cond.code yX11_isBeat cX11_isBeat 1 (some .boolean) ∈ zT := zT_inc (i := 119) zL_4 rfl rfl
theorem zkm_X11_179 : Cond.methodLink RX11 179 yX11_isBeat ∈ zT := zT_inc (i := 117) zL_4 rfl rfl
theorem zkt_X11_isBeat : Cond.static yX11_isBeat ∈ zT := zT_inc (i := 118) zL_4 rfl rfl
theorem zkc_X5_pressOn : Cond.code yX5_pressOn cX5_pressOn 5 (some .int) ∈ zT := zT_inc (i := 123) zL_4 rfl rfl
theorem zkm_X11_182 : Cond.methodLink RX11 182 yX5_pressOn ∈ zT := zT_inc (i := 120) zL_4 rfl rfl
theorem zkn_X5_pressOn : Cond.instanceMethod yX5_pressOn ∈ zT := zT_inc (i := 121) zL_4 rfl rfl
theorem zks_X5_pressOn : Cond.selects RX5 yX5_pressOn yX5_pressOn ∈ zT := zT_inc (i := 122) zL_4 rfl rfl
theorem zkf_X11_55 : Cond.fieldLink RX11 55 "GlassSpindle" "warming" "LGlassSpindle$Warming;" ∈ zT := zT_inc (i := 4) zL_3 rfl rfl
theorem zkc_X10_learn : Cond.code yX10_learn cX10_learn 2 none ∈ zT := zT_inc (i := 140) zL_4 rfl rfl
theorem zki_X10 : Cond.initialized RX10 ∈ zT := zT_inc (i := 6) zL_1 rfl rfl
theorem zkm_X11_186 : Cond.methodLink RX11 186 yX10_learn ∈ zT := zT_inc (i := 137) zL_4 rfl rfl
theorem zkn_X10_learn : Cond.instanceMethod yX10_learn ∈ zT := zT_inc (i := 138) zL_4 rfl rfl
theorem zks_X10_learn : Cond.selects RX10 yX10_learn yX10_learn ∈ zT := zT_inc (i := 139) zL_4 rfl rfl
theorem zkc_X10_heatOf : Cond.code yX10_heatOf cX10_heatOf 3 (some .int) ∈ zT := zT_inc (i := 157) zL_4 rfl rfl
theorem zkm_X11_189 : Cond.methodLink RX11 189 yX10_heatOf ∈ zT := zT_inc (i := 154) zL_4 rfl rfl
theorem zkn_X10_heatOf : Cond.instanceMethod yX10_heatOf ∈ zT := zT_inc (i := 155) zL_4 rfl rfl
theorem zks_X10_heatOf : Cond.selects RX10 yX10_heatOf yX10_heatOf ∈ zT := zT_inc (i := 156) zL_4 rfl rfl
theorem zkc_X10_crackOf : Cond.code yX10_crackOf cX10_crackOf 2 (some .int) ∈ zT := zT_inc (i := 165) zL_4 rfl rfl
theorem zkm_X11_192 : Cond.methodLink RX11 192 yX10_crackOf ∈ zT := zT_inc (i := 162) zL_4 rfl rfl
theorem zkn_X10_crackOf : Cond.instanceMethod yX10_crackOf ∈ zT := zT_inc (i := 163) zL_4 rfl rfl
theorem zks_X10_crackOf : Cond.selects RX10 yX10_crackOf yX10_crackOf ∈ zT := zT_inc (i := 164) zL_4 rfl rfl
theorem zkc_X5_lasts : Cond.code yX5_lasts cX5_lasts 3 (some .boolean) ∈ zT := zT_inc (i := 127) zL_4 rfl rfl
theorem zkm_X11_196 : Cond.methodLink RX11 196 yX5_lasts ∈ zT := zT_inc (i := 126) zL_6 rfl rfl
theorem zkn_X5_lasts : Cond.instanceMethod yX5_lasts ∈ zT := zT_inc (i := 125) zL_4 rfl rfl
theorem zks_X5_lasts : Cond.selects RX5 yX5_lasts yX5_lasts ∈ zT := zT_inc (i := 126) zL_4 rfl rfl
theorem zkc_X9_reasonOf : Cond.code yX9_reasonOf cX9_reasonOf 3 (some .int) ∈ zT := zT_inc (i := 37) zL_5 rfl rfl
theorem zki_X9 : Cond.initialized RX9 ∈ zT := zT_inc (i := 8) zL_1 rfl rfl
theorem zkm_X11_206 : Cond.methodLink RX11 206 yX9_reasonOf ∈ zT := zT_inc (i := 34) zL_5 rfl rfl
theorem zkn_X9_reasonOf : Cond.instanceMethod yX9_reasonOf ∈ zT := zT_inc (i := 35) zL_5 rfl rfl
theorem zks_X9_reasonOf : Cond.selects RX9 yX9_reasonOf yX9_reasonOf ∈ zT := zT_inc (i := 36) zL_5 rfl rfl
theorem zkc_X9_spokenBy : Cond.code yX9_spokenBy cX9_spokenBy 4 (some .int) ∈ zT := zT_inc (i := 173) zL_4 rfl rfl
theorem zkm_X11_209 : Cond.methodLink RX11 209 yX9_spokenBy ∈ zT := zT_inc (i := 170) zL_4 rfl rfl
theorem zkn_X9_spokenBy : Cond.instanceMethod yX9_spokenBy ∈ zT := zT_inc (i := 171) zL_4 rfl rfl
theorem zks_X9_spokenBy : Cond.selects RX9 yX9_spokenBy yX9_spokenBy ∈ zT := zT_inc (i := 172) zL_4 rfl rfl
theorem zkc_X9_speakingIn : Cond.code yX9_speakingIn cX9_speakingIn 4 (some .int) ∈ zT := zT_inc (i := 237) zL_4 rfl rfl
theorem zkm_X11_212 : Cond.methodLink RX11 212 yX9_speakingIn ∈ zT := zT_inc (i := 234) zL_4 rfl rfl
theorem zkn_X9_speakingIn : Cond.instanceMethod yX9_speakingIn ∈ zT := zT_inc (i := 235) zL_4 rfl rfl
theorem zks_X9_speakingIn : Cond.selects RX9 yX9_speakingIn yX9_speakingIn ∈ zT := zT_inc (i := 236) zL_4 rfl rfl
theorem zkc_X9_ringingIn : Cond.code yX9_ringingIn cX9_ringingIn 6 (some .int) ∈ zT := zT_inc (i := 5) zL_5 rfl rfl
theorem zkm_X11_215 : Cond.methodLink RX11 215 yX9_ringingIn ∈ zT := zT_inc (i := 2) zL_5 rfl rfl
theorem zkn_X9_ringingIn : Cond.instanceMethod yX9_ringingIn ∈ zT := zT_inc (i := 3) zL_5 rfl rfl
theorem zks_X9_ringingIn : Cond.selects RX9 yX9_ringingIn yX9_ringingIn ∈ zT := zT_inc (i := 4) zL_5 rfl rfl
theorem zkc_X5_firstIn : Cond.code yX5_firstIn cX5_firstIn 3 (some .int) ∈ zT := zT_inc (i := 32) zL_5 rfl rfl
theorem zkm_X11_221 : Cond.methodLink RX11 221 yX5_firstIn ∈ zT := zT_inc (i := 33) zL_5 rfl rfl
theorem zkn_X5_firstIn : Cond.instanceMethod yX5_firstIn ∈ zT := zT_inc (i := 30) zL_5 rfl rfl
theorem zks_X5_firstIn : Cond.selects RX5 yX5_firstIn yX5_firstIn ∈ zT := zT_inc (i := 31) zL_5 rfl rfl
theorem zkc_X9_silentFrom : Cond.code yX9_silentFrom cX9_silentFrom 3 (some .int) ∈ zT := zT_inc (i := 28) zL_5 rfl rfl
theorem zkm_X11_218 : Cond.methodLink RX11 218 yX9_silentFrom ∈ zT := zT_inc (i := 25) zL_5 rfl rfl
theorem zkn_X9_silentFrom : Cond.instanceMethod yX9_silentFrom ∈ zT := zT_inc (i := 26) zL_5 rfl rfl
theorem zks_X9_silentFrom : Cond.selects RX9 yX9_silentFrom yX9_silentFrom ∈ zT := zT_inc (i := 27) zL_5 rfl rfl
theorem zkc_X9_spokenAt : Cond.code yX9_spokenAt cX9_spokenAt 5 (some .int) ∈ zT := zT_inc (i := 46) zL_5 rfl rfl
theorem zkm_X11_224 : Cond.methodLink RX11 224 yX9_spokenAt ∈ zT := zT_inc (i := 43) zL_5 rfl rfl
theorem zkn_X9_spokenAt : Cond.instanceMethod yX9_spokenAt ∈ zT := zT_inc (i := 44) zL_5 rfl rfl
theorem zks_X9_spokenAt : Cond.selects RX9 yX9_spokenAt yX9_spokenAt ∈ zT := zT_inc (i := 45) zL_5 rfl rfl
theorem zkf_X11_62 : Cond.fieldLink RX11 62 "GlassSpindle" "hands" "LGlassSpindle$Hands;" ∈ zT := zT_inc (i := 5) zL_3 rfl rfl
theorem zkc_X2_faultOf : Cond.code yX2_faultOf cX2_faultOf 5 (some .int) ∈ zT := zT_inc (i := 62) zL_5 rfl rfl
theorem zki_X2 : Cond.initialized RX2 ∈ zT := zT_inc (i := 7) zL_1 rfl rfl
theorem zkm_X11_227 : Cond.methodLink RX11 227 yX2_faultOf ∈ zT := zT_inc (i := 59) zL_5 rfl rfl
theorem zkn_X2_faultOf : Cond.instanceMethod yX2_faultOf ∈ zT := zT_inc (i := 60) zL_5 rfl rfl
theorem zks_X2_faultOf : Cond.selects RX2 yX2_faultOf yX2_faultOf ∈ zT := zT_inc (i := 61) zL_5 rfl rfl
theorem zkc_X2_liftsAt : Cond.code yX2_liftsAt cX2_liftsAt 4 (some .boolean) ∈ zT := zT_inc (i := 92) zL_5 rfl rfl
theorem zkm_X11_231 : Cond.methodLink RX11 231 yX2_liftsAt ∈ zT := zT_inc (i := 89) zL_5 rfl rfl
theorem zkn_X2_liftsAt : Cond.instanceMethod yX2_liftsAt ∈ zT := zT_inc (i := 90) zL_5 rfl rfl
theorem zks_X2_liftsAt : Cond.selects RX2 yX2_liftsAt yX2_liftsAt ∈ zT := zT_inc (i := 91) zL_5 rfl rfl
theorem zkf_X11_80 : Cond.fieldLink RX11 80 "GlassSpindle" "fingering" "LGlassSpindle$Fingering;" ∈ zT := zT_inc (i := 7) zL_3 rfl rfl
theorem zkc_X0_fewestLifts : Cond.code yX0_fewestLifts cX0_fewestLifts 1 (some .int) ∈ zT := zT_inc (i := 104) zL_5 rfl rfl
theorem zki_X0 : Cond.initialized RX0 ∈ zT := zT_inc (i := 11) zL_1 rfl rfl
theorem zkm_X11_235 : Cond.methodLink RX11 235 yX0_fewestLifts ∈ zT := zT_inc (i := 101) zL_5 rfl rfl
theorem zkn_X0_fewestLifts : Cond.instanceMethod yX0_fewestLifts ∈ zT := zT_inc (i := 102) zL_5 rfl rfl
theorem zks_X0_fewestLifts : Cond.selects RX0 yX0_fewestLifts yX0_fewestLifts ∈ zT := zT_inc (i := 103) zL_5 rfl rfl
theorem zkc_X0_fingerOf : Cond.code yX0_fingerOf cX0_fingerOf 2 (some .int) ∈ zT := zT_inc (i := 156) zL_5 rfl rfl
theorem zkm_X11_238 : Cond.methodLink RX11 238 yX0_fingerOf ∈ zT := zT_inc (i := 153) zL_5 rfl rfl
theorem zkn_X0_fingerOf : Cond.instanceMethod yX0_fingerOf ∈ zT := zT_inc (i := 154) zL_5 rfl rfl
theorem zks_X0_fingerOf : Cond.selects RX0 yX0_fingerOf yX0_fingerOf ∈ zT := zT_inc (i := 155) zL_5 rfl rfl
theorem zkc_X0_farthest : Cond.code yX0_farthest cX0_farthest 1 (some .int) ∈ zT := zT_inc (i := 165) zL_5 rfl rfl
theorem zkm_X11_241 : Cond.methodLink RX11 241 yX0_farthest ∈ zT := zT_inc (i := 162) zL_5 rfl rfl
theorem zkn_X0_farthest : Cond.instanceMethod yX0_farthest ∈ zT := zT_inc (i := 163) zL_5 rfl rfl
theorem zks_X0_farthest : Cond.selects RX0 yX0_farthest yX0_farthest ∈ zT := zT_inc (i := 164) zL_5 rfl rfl
theorem zkc_X7_hasPair : Cond.code yX7_hasPair cX7_hasPair 2 (some .boolean) ∈ zT := zT_inc (i := 173) zL_5 rfl rfl
theorem zkm_X11_244 : Cond.methodLink RX11 244 yX7_hasPair ∈ zT := zT_inc (i := 170) zL_5 rfl rfl
theorem zkn_X7_hasPair : Cond.instanceMethod yX7_hasPair ∈ zT := zT_inc (i := 171) zL_5 rfl rfl
theorem zks_X7_hasPair : Cond.selects RX7 yX7_hasPair yX7_hasPair ∈ zT := zT_inc (i := 172) zL_5 rfl rfl
theorem zkc_X7_speedOf : Cond.code yX7_speedOf cX7_speedOf 2 (some .int) ∈ zT := zT_inc (i := 177) zL_5 rfl rfl
theorem zkm_X11_247 : Cond.methodLink RX11 247 yX7_speedOf ∈ zT := zT_inc (i := 174) zL_5 rfl rfl
theorem zkn_X7_speedOf : Cond.instanceMethod yX7_speedOf ∈ zT := zT_inc (i := 175) zL_5 rfl rfl
theorem zks_X7_speedOf : Cond.selects RX7 yX7_speedOf yX7_speedOf ∈ zT := zT_inc (i := 176) zL_5 rfl rfl
theorem zkf_X11_250 : Cond.fieldLink RX11 250 "GlassSpindle$Setup" "pairs" "I" ∈ zT := zT_inc (i := 107) zL_1 rfl rfl
theorem zkf_X11_253 : Cond.fieldLink RX11 253 "GlassSpindle$Setup" "within" "[I" ∈ zT := zT_inc (i := 121) zL_1 rfl rfl
theorem zkf_X11_89 : Cond.fieldLink RX11 89 "GlassSpindle" "grinding" "LGlassSpindle$Grinding;" ∈ zT := zT_inc (i := 8) zL_3 rfl rfl
theorem zkc_X1_leastGlass : Cond.code yX1_leastGlass cX1_leastGlass 1 (some .int) ∈ zT := zT_inc (i := 193) zL_5 rfl rfl
theorem zki_X1 : Cond.initialized RX1 ∈ zT := zT_inc (i := 12) zL_1 rfl rfl
theorem zkm_X11_256 : Cond.methodLink RX11 256 yX1_leastGlass ∈ zT := zT_inc (i := 190) zL_5 rfl rfl
theorem zkn_X1_leastGlass : Cond.instanceMethod yX1_leastGlass ∈ zT := zT_inc (i := 191) zL_5 rfl rfl
theorem zks_X1_leastGlass : Cond.selects RX1 yX1_leastGlass yX1_leastGlass ∈ zT := zT_inc (i := 192) zL_5 rfl rfl
theorem zkc_X7_nearestSpare : Cond.code yX7_nearestSpare cX7_nearestSpare 4 (some .int) ∈ zT := zT_inc (i := 39) zL_6 rfl rfl
theorem zkm_X11_264 : Cond.methodLink RX11 264 yX7_nearestSpare ∈ zT := zT_inc (i := 36) zL_6 rfl rfl
theorem zkn_X7_nearestSpare : Cond.instanceMethod yX7_nearestSpare ∈ zT := zT_inc (i := 37) zL_6 rfl rfl
theorem zks_X7_nearestSpare : Cond.selects RX7 yX7_nearestSpare yX7_nearestSpare ∈ zT := zT_inc (i := 38) zL_6 rfl rfl
theorem zkc_X7_swap : Cond.code yX7_swap cX7_swap 3 none ∈ zT := zT_inc (i := 48) zL_6 rfl rfl
theorem zkm_X11_267 : Cond.methodLink RX11 267 yX7_swap ∈ zT := zT_inc (i := 45) zL_6 rfl rfl
theorem zkn_X7_swap : Cond.instanceMethod yX7_swap ∈ zT := zT_inc (i := 46) zL_6 rfl rfl
theorem zks_X7_swap : Cond.selects RX7 yX7_swap yX7_swap ∈ zT := zT_inc (i := 47) zL_6 rfl rfl
theorem zkc_X5_rename : Cond.code yX5_rename cX5_rename 4 none ∈ zT := zT_inc (i := 52) zL_6 rfl rfl
theorem zkm_X11_271 : Cond.methodLink RX11 271 yX5_rename ∈ zT := zT_inc (i := 49) zL_6 rfl rfl
theorem zkn_X5_rename : Cond.instanceMethod yX5_rename ∈ zT := zT_inc (i := 50) zL_6 rfl rfl
theorem zks_X5_rename : Cond.selects RX5 yX5_rename yX5_rename ∈ zT := zT_inc (i := 51) zL_6 rfl rfl
theorem zkc_X2_placeOf : Cond.code yX2_placeOf cX2_placeOf 2 (some .int) ∈ zT := zT_inc (i := 74) zL_5 rfl rfl
theorem zkm_X11_274 : Cond.methodLink RX11 274 yX2_placeOf ∈ zT := zT_inc (i := 57) zL_6 rfl rfl
theorem zkn_X2_placeOf : Cond.instanceMethod yX2_placeOf ∈ zT := zT_inc (i := 72) zL_5 rfl rfl
theorem zks_X2_placeOf : Cond.selects RX2 yX2_placeOf yX2_placeOf ∈ zT := zT_inc (i := 73) zL_5 rfl rfl
theorem zkm_X11_277 : Cond.methodLink RX11 277 Lib.Math.abs.name ∈ zT := zT_inc (i := 58) zL_6 rfl rfl
theorem zkt_Lib_Math_abs_name : Cond.static Lib.Math.abs.name ∈ zT := zT_inc (i := 14) zL_5 rfl rfl
theorem zki_Math : Cond.initialized "java/lang/Math" ∈ zT := zT_inc (i := 19) zL_1 rfl rfl
theorem zkc_Lib_Math_abs_name : Cond.code Lib.Math.abs.name Lib.Math.abs.code 1 (some .int) ∈ zT := zT_inc (i := 15) zL_5 rfl rfl
theorem zkf_X11_96 : Cond.fieldLink RX11 96 "GlassSpindle" "ordering" "LGlassSpindle$Ordering;" ∈ zT := zT_inc (i := 9) zL_3 rfl rfl
theorem zkc_X4_leastMoved : Cond.code yX4_leastMoved cX4_leastMoved 1 (some .int) ∈ zT := zT_inc (i := 66) zL_6 rfl rfl
theorem zki_X4 : Cond.initialized RX4 ∈ zT := zT_inc (i := 13) zL_1 rfl rfl
theorem zkm_X11_282 : Cond.methodLink RX11 282 yX4_leastMoved ∈ zT := zT_inc (i := 63) zL_6 rfl rfl
theorem zkn_X4_leastMoved : Cond.instanceMethod yX4_leastMoved ∈ zT := zT_inc (i := 64) zL_6 rfl rfl
theorem zks_X4_leastMoved : Cond.selects RX4 yX4_leastMoved yX4_leastMoved ∈ zT := zT_inc (i := 65) zL_6 rfl rfl
theorem zkc_X4_bowlAt : Cond.code yX4_bowlAt cX4_bowlAt 2 (some .int) ∈ zT := zT_inc (i := 96) zL_6 rfl rfl
theorem zkm_X11_285 : Cond.methodLink RX11 285 yX4_bowlAt ∈ zT := zT_inc (i := 93) zL_6 rfl rfl
theorem zkn_X4_bowlAt : Cond.instanceMethod yX4_bowlAt ∈ zT := zT_inc (i := 94) zL_6 rfl rfl
theorem zks_X4_bowlAt : Cond.selects RX4 yX4_bowlAt yX4_bowlAt ∈ zT := zT_inc (i := 95) zL_6 rfl rfl
theorem zkf_X11_297 : Cond.fieldLink RX11 297 "GlassSpindle$Setup" "bowls" "I" ∈ zT := zT_inc (i := 78) zL_1 rfl rfl
theorem zkf_X11_300 : Cond.fieldLink RX11 300 "GlassSpindle$Setup" "places" "I" ∈ zT := zT_inc (i := 81) zL_1 rfl rfl
theorem zkf_X11_303 : Cond.fieldLink RX11 303 "GlassSpindle$Setup" "speaks" "I" ∈ zT := zT_inc (i := 125) zL_1 rfl rfl
theorem zkf_X11_294 : Cond.fieldLink RX11 294 "GlassSpindle$Setup" "settings" "[I" ∈ zT := zT_inc (i := 140) zL_1 rfl rfl
theorem zkf_X11_42 : Cond.fieldLink RX11 42 "GlassSpindle" "markedSetups" "[LGlassSpindle$Setup;" ∈ zT := zT_inc (i := 2) zL_3 rfl rfl
theorem zkf_X11_46 : Cond.fieldLink RX11 46 "GlassSpindle" "markedPieces" "[LGlassSpindle$Piece;" ∈ zT := zT_inc (i := 3) zL_3 rfl rfl
theorem zkc_X5_copy : Cond.code yX5_copy cX5_copy 2 none ∈ zT := zT_inc (i := 108) zL_6 rfl rfl
theorem zkm_X11_306 : Cond.methodLink RX11 306 yX5_copy ∈ zT := zT_inc (i := 105) zL_6 rfl rfl
theorem zkn_X5_copy : Cond.instanceMethod yX5_copy ∈ zT := zT_inc (i := 106) zL_6 rfl rfl
theorem zks_X5_copy : Cond.selects RX5 yX5_copy yX5_copy ∈ zT := zT_inc (i := 107) zL_6 rfl rfl
theorem zkf_X11_309 : Cond.fieldLink RX11 309 "GlassSpindle$Warming" "known" "Z" ∈ zT := zT_inc (i := 26) zL_2 rfl rfl
theorem zkf_X11_310 : Cond.fieldLink RX11 310 "GlassSpindle$Fingering" "known" "Z" ∈ zT := zT_inc (i := 130) zL_2 rfl rfl
theorem zkf_X11_311 : Cond.fieldLink RX11 311 "GlassSpindle$Ordering" "known" "Z" ∈ zT := zT_inc (i := 219) zL_2 rfl rfl
theorem zkf_X11_312 : Cond.fieldLink RX11 312 "GlassSpindle$Grinding" "known" "Z" ∈ zT := zT_inc (i := 174) zL_2 rfl rfl
theorem zkf_X12_157 : Cond.fieldLink RX12 157 "GlassSpindleModel" "thrown" "I" ∈ zT := zT_inc (i := 213) zL_6 rfl rfl
theorem zkl_X12_161 : Cond.constantLong RX12 161 255 ∈ zT := zT_inc (i := 172) zL_7 (by decide +kernel) rfl
theorem zkf_X12_163 : Cond.fieldLink RX12 163 "GlassSpindleModel" "taped" "I" ∈ zT := zT_inc (i := 214) zL_6 rfl rfl
theorem zkf_X12_7 : Cond.fieldLink RX12 7 "GlassSpindleModel" "tape" "[I" ∈ zT := zT_inc (i := 215) zL_6 rfl rfl
theorem zkf_X12_166 : Cond.fieldLink RX12 166 "GlassSpindleModel" "size" "I" ∈ zT := zT_inc (i := 216) zL_6 rfl rfl
theorem zkf_X12_169 : Cond.fieldLink RX12 169 "GlassSpindleModel" "place" "I" ∈ zT := zT_inc (i := 217) zL_6 rfl rfl
theorem zkf_X12_172 : Cond.fieldLink RX12 172 "GlassSpindleModel" "begin" "I" ∈ zT := zT_inc (i := 218) zL_6 rfl rfl
theorem zkf_X12_175 : Cond.fieldLink RX12 175 "GlassSpindleModel" "word" "J" ∈ zT := zT_inc (i := 220) zL_6 rfl rfl
theorem zkf_X12_179 : Cond.fieldLink RX12 179 "GlassSpindleModel" "told" "I" ∈ zT := zT_inc (i := 221) zL_6 rfl rfl
theorem zkf_X12_182 : Cond.fieldLink RX12 182 "GlassSpindleModel" "token" "I" ∈ zT := zT_inc (i := 219) zL_6 rfl rfl
theorem zkc_X12_signAt : Cond.code yX12_signAt cX12_signAt 2 (some .int) ∈ zT := zT_inc (i := 188) zL_7 rfl rfl
theorem zki_X12 : Cond.initialized RX12 ∈ zT := zT_inc (i := 14) zL_1 rfl rfl
theorem zkm_X12_185 : Cond.methodLink RX12 185 yX12_signAt ∈ zT := zT_inc (i := 185) zL_7 rfl rfl
theorem zkn_X12_signAt : Cond.instanceMethod yX12_signAt ∈ zT := zT_inc (i := 187) zL_7 rfl rfl
theorem zks_X12_signAt : Cond.selects RX12 yX12_signAt yX12_signAt ∈ zT := zT_inc (i := 73) zL_0 (by decide +kernel) rfl
theorem zkl_X12_188 : Cond.constantLong RX12 188 27 ∈ zT := zT_inc (i := 189) zL_7 (by decide +kernel) rfl
theorem zkl_X12_190 : Cond.constantLong RX12 190 96 ∈ zT := zT_inc (i := 190) zL_7 (by decide +kernel) rfl
theorem zkf_X12_192 : Cond.fieldLink RX12 192 "GlassSpindleModel" "wrong" "I" ∈ zT := zT_inc (i := 222) zL_6 rfl rfl
theorem zkf_X12_69 : Cond.fieldLink RX12 69 "GlassSpindleModel" "codes" "[I" ∈ zT := zT_inc (i := 1) zL_7 rfl rfl
theorem zkf_X12_195 : Cond.fieldLink RX12 195 "GlassSpindleModel" "code" "I" ∈ zT := zT_inc (i := 2) zL_7 rfl rfl
theorem zkl_X12_198 : Cond.constantLong RX12 198 10416091 ∈ zT := zT_inc (i := 31) zL_8 (by decide +kernel) rfl
theorem zkl_X12_200 : Cond.constantLong RX12 200 8861527 ∈ zT := zT_inc (i := 32) zL_8 (by decide +kernel) rfl
theorem zkl_X12_202 : Cond.constantLong RX12 202 161156 ∈ zT := zT_inc (i := 33) zL_8 (by decide +kernel) rfl
theorem zkl_X12_204 : Cond.constantLong RX12 204 10939463 ∈ zT := zT_inc (i := 34) zL_8 (by decide +kernel) rfl
theorem zkl_X12_206 : Cond.constantLong RX12 206 453774 ∈ zT := zT_inc (i := 210) zL_7 (by decide +kernel) rfl
theorem zkf_X12_75 : Cond.fieldLink RX12 75 "GlassSpindleModel" "compared" "[Z" ∈ zT := zT_inc (i := 4) zL_7 rfl rfl
theorem zkc_X12_isSign : Cond.code yX12_isSign cX12_isSign 2 (some .boolean) ∈ zT := zT_inc (i := 14) zL_8 rfl rfl
theorem zkm_X12_218 : Cond.methodLink RX12 218 yX12_isSign ∈ zT := zT_inc (i := 11) zL_8 rfl rfl
theorem zkn_X12_isSign : Cond.instanceMethod yX12_isSign ∈ zT := zT_inc (i := 13) zL_8 rfl rfl
theorem zks_X12_isSign : Cond.selects RX12 yX12_isSign yX12_isSign ∈ zT := zT_inc (i := 82) zL_0 (by decide +kernel) rfl
theorem zkc_X12_puts : Cond.code yX12_puts cX12_puts 2 none ∈ zT := zT_inc (i := 38) zL_8 rfl rfl
theorem zkm_X12_225 : Cond.methodLink RX12 225 yX12_puts ∈ zT := zT_inc (i := 35) zL_8 rfl rfl
theorem zkn_X12_puts : Cond.instanceMethod yX12_puts ∈ zT := zT_inc (i := 37) zL_8 rfl rfl
theorem zks_X12_puts : Cond.selects RX12 yX12_puts yX12_puts ∈ zT := zT_inc (i := 87) zL_0 (by decide +kernel) rfl
theorem zkc_X12_nextToken : Cond.code yX12_nextToken cX12_nextToken 2 none ∈ zT := zT_inc (i := 184) zL_7 rfl rfl
theorem zkm_X12_229 : Cond.methodLink RX12 229 yX12_nextToken ∈ zT := zT_inc (i := 181) zL_7 rfl rfl
theorem zkn_X12_nextToken : Cond.instanceMethod yX12_nextToken ∈ zT := zT_inc (i := 183) zL_7 rfl rfl
theorem zks_X12_nextToken : Cond.selects RX12 yX12_nextToken yX12_nextToken ∈ zT := zT_inc (i := 72) zL_0 (by decide +kernel) rfl
theorem zkl_X12_232 : Cond.constantLong RX12 232 1111 ∈ zT := zT_inc (i := 230) zL_7 (by decide +kernel) rfl
theorem zkc_X12_isWord : Cond.code yX12_isWord cX12_isWord 3 (some .boolean) ∈ zT := zT_inc (i := 195) zL_7 rfl rfl
theorem zkm_X12_214 : Cond.methodLink RX12 214 yX12_isWord ∈ zT := zT_inc (i := 192) zL_7 rfl rfl
theorem zkn_X12_isWord : Cond.instanceMethod yX12_isWord ∈ zT := zT_inc (i := 194) zL_7 rfl rfl
theorem zks_X12_isWord : Cond.selects RX12 yX12_isWord yX12_isWord ∈ zT := zT_inc (i := 74) zL_0 (by decide +kernel) rfl
theorem zkl_X12_234 : Cond.constantLong RX12 234 423 ∈ zT := zT_inc (i := 231) zL_7 (by decide +kernel) rfl
theorem zkc_X12_fails : Cond.code yX12_fails cX12_fails 2 (some .boolean) ∈ zT := zT_inc (i := 203) zL_7 rfl rfl
theorem zkm_X12_222 : Cond.methodLink RX12 222 yX12_fails ∈ zT := zT_inc (i := 200) zL_7 rfl rfl
theorem zkn_X12_fails : Cond.instanceMethod yX12_fails ∈ zT := zT_inc (i := 202) zL_7 rfl rfl
theorem zks_X12_fails : Cond.selects RX12 yX12_fails yX12_fails ∈ zT := zT_inc (i := 76) zL_0 (by decide +kernel) rfl
theorem zkf_X12_72 : Cond.fieldLink RX12 72 "GlassSpindleModel" "opened" "[I" ∈ zT := zT_inc (i := 3) zL_7 rfl rfl
theorem zkc_X12_fact : Cond.code yX12_fact cX12_fact 1 (some .int) ∈ zT := zT_inc (i := 30) zL_8 rfl rfl
theorem zkm_X12_208 : Cond.methodLink RX12 208 yX12_fact ∈ zT := zT_inc (i := 27) zL_8 rfl rfl
theorem zkn_X12_fact : Cond.instanceMethod yX12_fact ∈ zT := zT_inc (i := 29) zL_8 rfl rfl
theorem zks_X12_fact : Cond.selects RX12 yX12_fact yX12_fact ∈ zT := zT_inc (i := 86) zL_0 (by decide +kernel) rfl
theorem zkl_X12_212 : Cond.constantLong RX12 212 10631 ∈ zT := zT_inc (i := 229) zL_7 (by decide +kernel) rfl
theorem zkf_X12_81 : Cond.fieldLink RX12 81 "GlassSpindleModel" "keptBy" "[I" ∈ zT := zT_inc (i := 6) zL_7 rfl rfl
theorem zkf_X12_87 : Cond.fieldLink RX12 87 "GlassSpindleModel" "against" "[I" ∈ zT := zT_inc (i := 8) zL_7 rfl rfl
theorem zkf_X12_90 : Cond.fieldLink RX12 90 "GlassSpindleModel" "sum" "[I" ∈ zT := zT_inc (i := 9) zL_7 rfl rfl
theorem zkf_X12_93 : Cond.fieldLink RX12 93 "GlassSpindleModel" "sumBy" "[I" ∈ zT := zT_inc (i := 10) zL_7 rfl rfl
theorem zkf_X12_99 : Cond.fieldLink RX12 99 "GlassSpindleModel" "termBy" "[I" ∈ zT := zT_inc (i := 12) zL_7 rfl rfl
theorem zkf_X12_96 : Cond.fieldLink RX12 96 "GlassSpindleModel" "term" "[I" ∈ zT := zT_inc (i := 11) zL_7 rfl rfl
theorem zkc_X12_sums : Cond.code yX12_sums cX12_sums 2 none ∈ zT := zT_inc (i := 153) zL_8 rfl rfl
theorem zkm_X12_236 : Cond.methodLink RX12 236 yX12_sums ∈ zT := zT_inc (i := 150) zL_8 rfl rfl
theorem zkn_X12_sums : Cond.instanceMethod yX12_sums ∈ zT := zT_inc (i := 152) zL_8 rfl rfl
theorem zks_X12_sums : Cond.selects RX12 yX12_sums yX12_sums ∈ zT := zT_inc (i := 104) zL_0 (by decide +kernel) rfl
theorem zkf_X12_78 : Cond.fieldLink RX12 78 "GlassSpindleModel" "kept" "[I" ∈ zT := zT_inc (i := 5) zL_7 rfl rfl
theorem zkf_X12_84 : Cond.fieldLink RX12 84 "GlassSpindleModel" "ahead" "[I" ∈ zT := zT_inc (i := 7) zL_7 rfl rfl
theorem zkc_X12_opens : Cond.code yX12_opens cX12_opens 2 none ∈ zT := zT_inc (i := 149) zL_8 rfl rfl
theorem zkm_X12_239 : Cond.methodLink RX12 239 yX12_opens ∈ zT := zT_inc (i := 146) zL_8 rfl rfl
theorem zkn_X12_opens : Cond.instanceMethod yX12_opens ∈ zT := zT_inc (i := 148) zL_8 rfl rfl
theorem zks_X12_opens : Cond.selects RX12 yX12_opens yX12_opens ∈ zT := zT_inc (i := 103) zL_0 (by decide +kernel) rfl
theorem zkf_X12_63 : Cond.fieldLink RX12 63 "GlassSpindleModel" "lineFrom" "[I" ∈ zT := zT_inc (i := 239) zL_6 rfl rfl
theorem zkf_X12_66 : Cond.fieldLink RX12 66 "GlassSpindleModel" "lineTo" "[I" ∈ zT := zT_inc (i := 0) zL_7 rfl rfl
theorem zkf_X12_102 : Cond.fieldLink RX12 102 "GlassSpindleModel" "byNot" "[I" ∈ zT := zT_inc (i := 13) zL_7 rfl rfl
theorem zkc_X12_tests : Cond.code yX12_tests cX12_tests 3 none ∈ zT := zT_inc (i := 157) zL_8 rfl rfl
theorem zkm_X12_242 : Cond.methodLink RX12 242 yX12_tests ∈ zT := zT_inc (i := 154) zL_8 rfl rfl
theorem zkn_X12_tests : Cond.instanceMethod yX12_tests ∈ zT := zT_inc (i := 156) zL_8 rfl rfl
theorem zks_X12_tests : Cond.selects RX12 yX12_tests yX12_tests ∈ zT := zT_inc (i := 105) zL_0 (by decide +kernel) rfl
theorem zkf_X12_105 : Cond.fieldLink RX12 105 "GlassSpindleModel" "valueOf" "[I" ∈ zT := zT_inc (i := 14) zL_7 rfl rfl
theorem zkl_X12_245 : Cond.constantLong RX12 245 50934 ∈ zT := zT_inc (i := 191) zL_7 (by decide +kernel) rfl
theorem zkl_X12_247 : Cond.constantLong RX12 247 404978 ∈ zT := zT_inc (i := 208) zL_7 (by decide +kernel) rfl
theorem zkl_X12_249 : Cond.constantLong RX12 249 381245 ∈ zT := zT_inc (i := 209) zL_7 (by decide +kernel) rfl
theorem zkl_X12_251 : Cond.constantLong RX12 251 263328790 ∈ zT := zT_inc (i := 211) zL_7 (by decide +kernel) rfl
theorem zkl_X12_253 : Cond.constantLong RX12 253 144686 ∈ zT := zT_inc (i := 212) zL_7 (by decide +kernel) rfl
theorem zkl_X12_255 : Cond.constantLong RX12 255 10413527 ∈ zT := zT_inc (i := 213) zL_7 (by decide +kernel) rfl
theorem zkl_X12_257 : Cond.constantLong RX12 257 315918 ∈ zT := zT_inc (i := 214) zL_7 (by decide +kernel) rfl
theorem zkl_X12_259 : Cond.constantLong RX12 259 335207579 ∈ zT := zT_inc (i := 215) zL_7 (by decide +kernel) rfl
theorem zkl_X12_261 : Cond.constantLong RX12 261 10415990 ∈ zT := zT_inc (i := 216) zL_7 (by decide +kernel) rfl
theorem zkl_X12_263 : Cond.constantLong RX12 263 14006 ∈ zT := zT_inc (i := 217) zL_7 (by decide +kernel) rfl
theorem zkl_X12_265 : Cond.constantLong RX12 265 8009370239 ∈ zT := zT_inc (i := 218) zL_7 (by decide +kernel) rfl
theorem zkl_X12_267 : Cond.constantLong RX12 267 2461245202 ∈ zT := zT_inc (i := 219) zL_7 (by decide +kernel) rfl
theorem zkl_X12_269 : Cond.constantLong RX12 269 9665171 ∈ zT := zT_inc (i := 220) zL_7 (by decide +kernel) rfl
theorem zkl_X12_271 : Cond.constantLong RX12 271 385331 ∈ zT := zT_inc (i := 221) zL_7 (by decide +kernel) rfl
theorem zkl_X12_273 : Cond.constantLong RX12 273 3427 ∈ zT := zT_inc (i := 222) zL_7 (by decide +kernel) rfl
theorem zkl_X12_275 : Cond.constantLong RX12 275 3175 ∈ zT := zT_inc (i := 223) zL_7 (by decide +kernel) rfl
theorem zkl_X12_277 : Cond.constantLong RX12 277 453937 ∈ zT := zT_inc (i := 224) zL_7 (by decide +kernel) rfl
theorem zkl_X12_279 : Cond.constantLong RX12 279 70401 ∈ zT := zT_inc (i := 225) zL_7 (by decide +kernel) rfl
theorem zkl_X12_281 : Cond.constantLong RX12 281 1949438 ∈ zT := zT_inc (i := 226) zL_7 (by decide +kernel) rfl
theorem zkl_X12_283 : Cond.constantLong RX12 283 778957 ∈ zT := zT_inc (i := 227) zL_7 (by decide +kernel) rfl
theorem zkl_X12_285 : Cond.constantLong RX12 285 4081324 ∈ zT := zT_inc (i := 228) zL_7 (by decide +kernel) rfl
theorem zkc_X12_isFrom : Cond.code yX12_isFrom cX12_isFrom 3 (some .boolean) ∈ zT := zT_inc (i := 6) zL_8 rfl rfl
theorem zkm_X12_287 : Cond.methodLink RX12 287 yX12_isFrom ∈ zT := zT_inc (i := 4) zL_8 rfl rfl
theorem zkt_X12_isFrom : Cond.static yX12_isFrom ∈ zT := zT_inc (i := 5) zL_8 rfl rfl
theorem zkc_X12_needsNumber : Cond.code yX12_needsNumber cX12_needsNumber 3 (some .boolean) ∈ zT := zT_inc (i := 3) zL_8 rfl rfl
theorem zkm_X12_291 : Cond.methodLink RX12 291 yX12_needsNumber ∈ zT := zT_inc (i := 0) zL_8 rfl rfl
theorem zkn_X12_needsNumber : Cond.instanceMethod yX12_needsNumber ∈ zT := zT_inc (i := 2) zL_8 rfl rfl
theorem zks_X12_needsNumber : Cond.selects RX12 yX12_needsNumber yX12_needsNumber ∈ zT := zT_inc (i := 80) zL_0 (by decide +kernel) rfl
theorem zkf_X12_295 : Cond.fieldLink RX12 295 "GlassSpindleModel" "number" "I" ∈ zT := zT_inc (i := 15) zL_7 rfl rfl
theorem zkf_X12_13 : Cond.fieldLink RX12 13 "GlassSpindleModel" "bowls" "[I" ∈ zT := zT_inc (i := 223) zL_6 rfl rfl
theorem zkf_X12_22 : Cond.fieldLink RX12 22 "GlassSpindleModel" "names" "[J" ∈ zT := zT_inc (i := 226) zL_6 rfl rfl
theorem zkc_X12_isKept : Cond.code yX12_isKept cX12_isKept 1 (some .boolean) ∈ zT := zT_inc (i := 207) zL_7 rfl rfl
theorem zkm_X12_298 : Cond.methodLink RX12 298 yX12_isKept ∈ zT := zT_inc (i := 204) zL_7 rfl rfl
theorem zkn_X12_isKept : Cond.instanceMethod yX12_isKept ∈ zT := zT_inc (i := 206) zL_7 rfl rfl
theorem zks_X12_isKept : Cond.selects RX12 yX12_isKept yX12_isKept ∈ zT := zT_inc (i := 77) zL_0 (by decide +kernel) rfl
theorem zkc_X12_bowlOf : Cond.code yX12_bowlOf cX12_bowlOf 2 (some .int) ∈ zT := zT_inc (i := 235) zL_7 rfl rfl
theorem zkm_X12_302 : Cond.methodLink RX12 302 yX12_bowlOf ∈ zT := zT_inc (i := 232) zL_7 rfl rfl
theorem zkn_X12_bowlOf : Cond.instanceMethod yX12_bowlOf ∈ zT := zT_inc (i := 234) zL_7 rfl rfl
theorem zks_X12_bowlOf : Cond.selects RX12 yX12_bowlOf yX12_bowlOf ∈ zT := zT_inc (i := 78) zL_0 (by decide +kernel) rfl
theorem zkc_X12_needs : Cond.code yX12_needs cX12_needs 5 (some .boolean) ∈ zT := zT_inc (i := 239) zL_7 rfl rfl
theorem zkm_X12_305 : Cond.methodLink RX12 305 yX12_needs ∈ zT := zT_inc (i := 236) zL_7 rfl rfl
theorem zkn_X12_needs : Cond.instanceMethod yX12_needs ∈ zT := zT_inc (i := 238) zL_7 rfl rfl
theorem zks_X12_needs : Cond.selects RX12 yX12_needs yX12_needs ∈ zT := zT_inc (i := 79) zL_0 (by decide +kernel) rfl
theorem zkf_X12_26 : Cond.fieldLink RX12 26 "GlassSpindleModel" "tone" "[I" ∈ zT := zT_inc (i := 227) zL_6 rfl rfl
theorem zkf_X12_29 : Cond.fieldLink RX12 29 "GlassSpindleModel" "sizeOf" "[I" ∈ zT := zT_inc (i := 228) zL_6 rfl rfl
theorem zkf_X12_32 : Cond.fieldLink RX12 32 "GlassSpindleModel" "wall" "[I" ∈ zT := zT_inc (i := 229) zL_6 rfl rfl
theorem zkf_X12_35 : Cond.fieldLink RX12 35 "GlassSpindleModel" "kind" "[I" ∈ zT := zT_inc (i := 230) zL_6 rfl rfl
theorem zkc_X12_ends : Cond.code yX12_ends cX12_ends 1 (some .boolean) ∈ zT := zT_inc (i := 10) zL_8 rfl rfl
theorem zkm_X12_309 : Cond.methodLink RX12 309 yX12_ends ∈ zT := zT_inc (i := 7) zL_8 rfl rfl
theorem zkn_X12_ends : Cond.instanceMethod yX12_ends ∈ zT := zT_inc (i := 9) zL_8 rfl rfl
theorem zks_X12_ends : Cond.selects RX12 yX12_ends yX12_ends ∈ zT := zT_inc (i := 81) zL_0 (by decide +kernel) rfl
theorem zkf_X12_16 : Cond.fieldLink RX12 16 "GlassSpindleModel" "pairs" "[I" ∈ zT := zT_inc (i := 224) zL_6 rfl rfl
theorem zkf_X12_41 : Cond.fieldLink RX12 41 "GlassSpindleModel" "pairA" "[I" ∈ zT := zT_inc (i := 232) zL_6 rfl rfl
theorem zkf_X12_44 : Cond.fieldLink RX12 44 "GlassSpindleModel" "pairP" "[I" ∈ zT := zT_inc (i := 233) zL_6 rfl rfl
theorem zkf_X12_47 : Cond.fieldLink RX12 47 "GlassSpindleModel" "pairB" "[I" ∈ zT := zT_inc (i := 234) zL_6 rfl rfl
theorem zkf_X12_50 : Cond.fieldLink RX12 50 "GlassSpindleModel" "pairQ" "[I" ∈ zT := zT_inc (i := 235) zL_6 rfl rfl
theorem zkf_X12_53 : Cond.fieldLink RX12 53 "GlassSpindleModel" "pairWithin" "[I" ∈ zT := zT_inc (i := 236) zL_6 rfl rfl
theorem zkf_X12_19 : Cond.fieldLink RX12 19 "GlassSpindleModel" "speaks" "[I" ∈ zT := zT_inc (i := 225) zL_6 rfl rfl
theorem zkc_X12_reads : Cond.code yX12_reads cX12_reads 6 (some .boolean) ∈ zT := zT_inc (i := 26) zL_8 rfl rfl
theorem zkm_X12_312 : Cond.methodLink RX12 312 yX12_reads ∈ zT := zT_inc (i := 23) zL_8 rfl rfl
theorem zkn_X12_reads : Cond.instanceMethod yX12_reads ∈ zT := zT_inc (i := 25) zL_8 rfl rfl
theorem zks_X12_reads : Cond.selects RX12 yX12_reads yX12_reads ∈ zT := zT_inc (i := 85) zL_0 (by decide +kernel) rfl
theorem zkc_X12_what : Cond.code yX12_what cX12_what 1 (some .int) ∈ zT := zT_inc (i := 46) zL_8 rfl rfl
theorem zkm_X12_315 : Cond.methodLink RX12 315 yX12_what ∈ zT := zT_inc (i := 43) zL_8 rfl rfl
theorem zkn_X12_what : Cond.instanceMethod yX12_what ∈ zT := zT_inc (i := 45) zL_8 rfl rfl
theorem zks_X12_what : Cond.selects RX12 yX12_what yX12_what ∈ zT := zT_inc (i := 89) zL_0 (by decide +kernel) rfl
theorem zkf_X12_59 : Cond.fieldLink RX12 59 "GlassSpindleModel" "isSet" "[Z" ∈ zT := zT_inc (i := 238) zL_6 rfl rfl
theorem zkc_X12_least : Cond.code yX12_least cX12_least 1 (some .int) ∈ zT := zT_inc (i := 49) zL_8 rfl rfl
theorem zkm_X12_318 : Cond.methodLink RX12 318 yX12_least ∈ zT := zT_inc (i := 47) zL_8 rfl rfl
theorem zkt_X12_least : Cond.static yX12_least ∈ zT := zT_inc (i := 48) zL_8 rfl rfl
theorem zkc_X12_most : Cond.code yX12_most cX12_most 1 (some .int) ∈ zT := zT_inc (i := 52) zL_8 rfl rfl
theorem zkm_X12_321 : Cond.methodLink RX12 321 yX12_most ∈ zT := zT_inc (i := 50) zL_8 rfl rfl
theorem zkt_X12_most : Cond.static yX12_most ∈ zT := zT_inc (i := 51) zL_8 rfl rfl
theorem zkf_X12_56 : Cond.fieldLink RX12 56 "GlassSpindleModel" "sets" "[I" ∈ zT := zT_inc (i := 237) zL_6 rfl rfl
theorem zkc_X12_without : Cond.code yX12_without cX12_without 1 (some .int) ∈ zT := zT_inc (i := 212) zL_6 rfl rfl
theorem zkm_X12_153 : Cond.methodLink RX12 153 yX12_without ∈ zT := zT_inc (i := 210) zL_6 rfl rfl
theorem zkt_X12_without : Cond.static yX12_without ∈ zT := zT_inc (i := 211) zL_6 rfl rfl
theorem zkc_X12_readsSet : Cond.code yX12_readsSet cX12_readsSet 2 (some .boolean) ∈ zT := zT_inc (i := 42) zL_8 rfl rfl
theorem zkm_X12_333 : Cond.methodLink RX12 333 yX12_readsSet ∈ zT := zT_inc (i := 39) zL_8 rfl rfl
theorem zkn_X12_readsSet : Cond.instanceMethod yX12_readsSet ∈ zT := zT_inc (i := 41) zL_8 rfl rfl
theorem zks_X12_readsSet : Cond.selects RX12 yX12_readsSet yX12_readsSet ∈ zT := zT_inc (i := 88) zL_0 (by decide +kernel) rfl
theorem zkc_X12_readsSpeak : Cond.code yX12_readsSpeak cX12_readsSpeak 1 (some .boolean) ∈ zT := zT_inc (i := 22) zL_8 rfl rfl
theorem zkm_X12_330 : Cond.methodLink RX12 330 yX12_readsSpeak ∈ zT := zT_inc (i := 19) zL_8 rfl rfl
theorem zkn_X12_readsSpeak : Cond.instanceMethod yX12_readsSpeak ∈ zT := zT_inc (i := 21) zL_8 rfl rfl
theorem zks_X12_readsSpeak : Cond.selects RX12 yX12_readsSpeak yX12_readsSpeak ∈ zT := zT_inc (i := 84) zL_0 (by decide +kernel) rfl
theorem zkc_X12_readsPair : Cond.code yX12_readsPair cX12_readsPair 2 (some .boolean) ∈ zT := zT_inc (i := 18) zL_8 rfl rfl
theorem zkm_X12_327 : Cond.methodLink RX12 327 yX12_readsPair ∈ zT := zT_inc (i := 15) zL_8 rfl rfl
theorem zkn_X12_readsPair : Cond.instanceMethod yX12_readsPair ∈ zT := zT_inc (i := 17) zL_8 rfl rfl
theorem zks_X12_readsPair : Cond.selects RX12 yX12_readsPair yX12_readsPair ∈ zT := zT_inc (i := 83) zL_0 (by decide +kernel) rfl
theorem zkc_X12_readsBowl : Cond.code yX12_readsBowl cX12_readsBowl 2 (some .boolean) ∈ zT := zT_inc (i := 199) zL_7 rfl rfl
theorem zkm_X12_324 : Cond.methodLink RX12 324 yX12_readsBowl ∈ zT := zT_inc (i := 196) zL_7 rfl rfl
theorem zkn_X12_readsBowl : Cond.instanceMethod yX12_readsBowl ∈ zT := zT_inc (i := 198) zL_7 rfl rfl
theorem zks_X12_readsBowl : Cond.selects RX12 yX12_readsBowl yX12_readsBowl ∈ zT := zT_inc (i := 75) zL_0 (by decide +kernel) rfl
theorem zkf_X12_38 : Cond.fieldLink RX12 38 "GlassSpindleModel" "placeOf" "[I" ∈ zT := zT_inc (i := 231) zL_6 rfl rfl
theorem zkc_X12_readsAll : Cond.code yX12_readsAll cX12_readsAll 2 (some .boolean) ∈ zT := zT_inc (i := 180) zL_7 rfl rfl
theorem zkm_X12_336 : Cond.methodLink RX12 336 yX12_readsAll ∈ zT := zT_inc (i := 177) zL_7 rfl rfl
theorem zkn_X12_readsAll : Cond.instanceMethod yX12_readsAll ∈ zT := zT_inc (i := 179) zL_7 rfl rfl
theorem zks_X12_readsAll : Cond.selects RX12 yX12_readsAll yX12_readsAll ∈ zT := zT_inc (i := 71) zL_0 (by decide +kernel) rfl
theorem zkc_X12_lays : Cond.code yX12_lays cX12_lays 4 none ∈ zT := zT_inc (i := 56) zL_8 rfl rfl
theorem zkm_X12_339 : Cond.methodLink RX12 339 yX12_lays ∈ zT := zT_inc (i := 53) zL_8 rfl rfl
theorem zkn_X12_lays : Cond.instanceMethod yX12_lays ∈ zT := zT_inc (i := 55) zL_8 rfl rfl
theorem zks_X12_lays : Cond.selects RX12 yX12_lays yX12_lays ∈ zT := zT_inc (i := 90) zL_0 (by decide +kernel) rfl
theorem zkf_X12_343 : Cond.fieldLink RX12 343 "GlassSpindleModel" "notes" "I" ∈ zT := zT_inc (i := 16) zL_7 rfl rfl
theorem zkc_X12_isBowl : Cond.code yX12_isBowl cX12_isBowl 2 (some .boolean) ∈ zT := zT_inc (i := 64) zL_8 rfl rfl
theorem zkm_X12_346 : Cond.methodLink RX12 346 yX12_isBowl ∈ zT := zT_inc (i := 61) zL_8 rfl rfl
theorem zkn_X12_isBowl : Cond.instanceMethod yX12_isBowl ∈ zT := zT_inc (i := 63) zL_8 rfl rfl
theorem zks_X12_isBowl : Cond.selects RX12 yX12_isBowl yX12_isBowl ∈ zT := zT_inc (i := 91) zL_0 (by decide +kernel) rfl
theorem zkf_X12_111 : Cond.fieldLink RX12 111 "GlassSpindleModel" "noteFrom" "[I" ∈ zT := zT_inc (i := 18) zL_7 rfl rfl
theorem zkf_X12_114 : Cond.fieldLink RX12 114 "GlassSpindleModel" "noteLong" "[I" ∈ zT := zT_inc (i := 19) zL_7 rfl rfl
theorem zkc_X12_endOf : Cond.code yX12_endOf cX12_endOf 2 (some .int) ∈ zT := zT_inc (i := 111) zL_8 rfl rfl
theorem zkm_X12_349 : Cond.methodLink RX12 349 yX12_endOf ∈ zT := zT_inc (i := 108) zL_8 rfl rfl
theorem zkn_X12_endOf : Cond.instanceMethod yX12_endOf ∈ zT := zT_inc (i := 110) zL_8 rfl rfl
theorem zks_X12_endOf : Cond.selects RX12 yX12_endOf yX12_endOf ∈ zT := zT_inc (i := 97) zL_0 (by decide +kernel) rfl
theorem zkc_X12_isPlaced : Cond.code yX12_isPlaced cX12_isPlaced 2 (some .boolean) ∈ zT := zT_inc (i := 72) zL_8 rfl rfl
theorem zkm_X12_352 : Cond.methodLink RX12 352 yX12_isPlaced ∈ zT := zT_inc (i := 69) zL_8 rfl rfl
theorem zkn_X12_isPlaced : Cond.instanceMethod yX12_isPlaced ∈ zT := zT_inc (i := 71) zL_8 rfl rfl
theorem zks_X12_isPlaced : Cond.selects RX12 yX12_isPlaced yX12_isPlaced ∈ zT := zT_inc (i := 92) zL_0 (by decide +kernel) rfl
theorem zkc_X12_isBeat : Cond.code yX12_isBeat cX12_isBeat 1 (some .boolean) ∈ zT := zT_inc (i := 75) zL_8 rfl rfl
theorem zkm_X12_355 : Cond.methodLink RX12 355 yX12_isBeat ∈ zT := zT_inc (i := 73) zL_8 rfl rfl
theorem zkt_X12_isBeat : Cond.static yX12_isBeat ∈ zT := zT_inc (i := 74) zL_8 rfl rfl
theorem zkc_X12_isFinger : Cond.code yX12_isFinger cX12_isFinger 2 (some .boolean) ∈ zT := zT_inc (i := 79) zL_8 rfl rfl
theorem zkm_X12_358 : Cond.methodLink RX12 358 yX12_isFinger ∈ zT := zT_inc (i := 76) zL_8 rfl rfl
theorem zkn_X12_isFinger : Cond.instanceMethod yX12_isFinger ∈ zT := zT_inc (i := 78) zL_8 rfl rfl
theorem zks_X12_isFinger : Cond.selects RX12 yX12_isFinger yX12_isFinger ∈ zT := zT_inc (i := 93) zL_0 (by decide +kernel) rfl
theorem zkf_X12_108 : Cond.fieldLink RX12 108 "GlassSpindleModel" "noteBowl" "[I" ∈ zT := zT_inc (i := 17) zL_7 rfl rfl
theorem zkf_X12_117 : Cond.fieldLink RX12 117 "GlassSpindleModel" "notePress" "[I" ∈ zT := zT_inc (i := 20) zL_7 rfl rfl
theorem zkf_X12_120 : Cond.fieldLink RX12 120 "GlassSpindleModel" "noteFinger" "[I" ∈ zT := zT_inc (i := 21) zL_7 rfl rfl
theorem zkc_X12_isNote : Cond.code yX12_isNote cX12_isNote 2 (some .boolean) ∈ zT := zT_inc (i := 91) zL_8 rfl rfl
theorem zkm_X12_361 : Cond.methodLink RX12 361 yX12_isNote ∈ zT := zT_inc (i := 88) zL_8 rfl rfl
theorem zkn_X12_isNote : Cond.instanceMethod yX12_isNote ∈ zT := zT_inc (i := 90) zL_8 rfl rfl
theorem zks_X12_isNote : Cond.selects RX12 yX12_isNote yX12_isNote ∈ zT := zT_inc (i := 94) zL_0 (by decide +kernel) rfl
theorem zkc_X12_lasts : Cond.code yX12_lasts cX12_lasts 3 (some .boolean) ∈ zT := zT_inc (i := 107) zL_8 rfl rfl
theorem zkm_X12_364 : Cond.methodLink RX12 364 yX12_lasts ∈ zT := zT_inc (i := 104) zL_8 rfl rfl
theorem zkn_X12_lasts : Cond.instanceMethod yX12_lasts ∈ zT := zT_inc (i := 106) zL_8 rfl rfl
theorem zks_X12_lasts : Cond.selects RX12 yX12_lasts yX12_lasts ∈ zT := zT_inc (i := 96) zL_0 (by decide +kernel) rfl
theorem zkc_X12_touchedIn : Cond.code yX12_touchedIn cX12_touchedIn 5 (some .int) ∈ zT := zT_inc (i := 103) zL_8 rfl rfl
theorem zkm_X12_367 : Cond.methodLink RX12 367 yX12_touchedIn ∈ zT := zT_inc (i := 100) zL_8 rfl rfl
theorem zkn_X12_touchedIn : Cond.instanceMethod yX12_touchedIn ∈ zT := zT_inc (i := 102) zL_8 rfl rfl
theorem zks_X12_touchedIn : Cond.selects RX12 yX12_touchedIn yX12_touchedIn ∈ zT := zT_inc (i := 95) zL_0 (by decide +kernel) rfl
theorem zkf_X12_126 : Cond.fieldLink RX12 126 "GlassSpindleModel" "crackAt" "[I" ∈ zT := zT_inc (i := 23) zL_7 rfl rfl
theorem zko_X12_371 : Cond.constant RX12 371 100000000 ∈ zT := zT_inc (i := 120) zL_8 (by decide +kernel) rfl
theorem zkf_X12_123 : Cond.fieldLink RX12 123 "GlassSpindleModel" "warmth" "[I" ∈ zT := zT_inc (i := 22) zL_7 rfl rfl
theorem zkm_X12_372 : Cond.methodLink RX12 372 Lib.Math.max.name ∈ zT := zT_inc (i := 121) zL_8 rfl rfl
theorem zkt_Lib_Math_max_name : Cond.static Lib.Math.max.name ∈ zT := zT_inc (i := 149) zL_3 rfl rfl
theorem zkc_Lib_Math_max_name : Cond.code Lib.Math.max.name Lib.Math.max.code 2 (some .int) ∈ zT := zT_inc (i := 150) zL_3 rfl rfl
theorem zkc_X12_warms : Cond.code yX12_warms cX12_warms 6 none ∈ zT := zT_inc (i := 119) zL_8 rfl rfl
theorem zkm_X12_377 : Cond.methodLink RX12 377 yX12_warms ∈ zT := zT_inc (i := 116) zL_8 rfl rfl
theorem zkn_X12_warms : Cond.instanceMethod yX12_warms ∈ zT := zT_inc (i := 118) zL_8 rfl rfl
theorem zks_X12_warms : Cond.selects RX12 yX12_warms yX12_warms ∈ zT := zT_inc (i := 98) zL_0 (by decide +kernel) rfl
theorem zkc_X12_worn : Cond.code yX12_worn cX12_worn 5 (some .int) ∈ zT := zT_inc (i := 141) zL_8 rfl rfl
theorem zkm_X12_380 : Cond.methodLink RX12 380 yX12_worn ∈ zT := zT_inc (i := 138) zL_8 rfl rfl
theorem zkn_X12_worn : Cond.instanceMethod yX12_worn ∈ zT := zT_inc (i := 140) zL_8 rfl rfl
theorem zks_X12_worn : Cond.selects RX12 yX12_worn yX12_worn ∈ zT := zT_inc (i := 101) zL_0 (by decide +kernel) rfl
theorem zkc_X12_isDry : Cond.code yX12_isDry cX12_isDry 3 (some .boolean) ∈ zT := zT_inc (i := 137) zL_8 rfl rfl
theorem zkm_X12_383 : Cond.methodLink RX12 383 yX12_isDry ∈ zT := zT_inc (i := 134) zL_8 rfl rfl
theorem zkn_X12_isDry : Cond.instanceMethod yX12_isDry ∈ zT := zT_inc (i := 136) zL_8 rfl rfl
theorem zks_X12_isDry : Cond.selects RX12 yX12_isDry yX12_isDry ∈ zT := zT_inc (i := 100) zL_0 (by decide +kernel) rfl
theorem zkc_X12_worked : Cond.code yX12_worked cX12_worked 6 (some .int) ∈ zT := zT_inc (i := 145) zL_8 rfl rfl
theorem zkm_X12_386 : Cond.methodLink RX12 386 yX12_worked ∈ zT := zT_inc (i := 142) zL_8 rfl rfl
theorem zkn_X12_worked : Cond.instanceMethod yX12_worked ∈ zT := zT_inc (i := 144) zL_8 rfl rfl
theorem zks_X12_worked : Cond.selects RX12 yX12_worked yX12_worked ∈ zT := zT_inc (i := 102) zL_0 (by decide +kernel) rfl
theorem zkc_X12_whyIn : Cond.code yX12_whyIn cX12_whyIn 6 (some .int) ∈ zT := zT_inc (i := 133) zL_8 rfl rfl
theorem zkm_X12_389 : Cond.methodLink RX12 389 yX12_whyIn ∈ zT := zT_inc (i := 130) zL_8 rfl rfl
theorem zkn_X12_whyIn : Cond.instanceMethod yX12_whyIn ∈ zT := zT_inc (i := 132) zL_8 rfl rfl
theorem zks_X12_whyIn : Cond.selects RX12 yX12_whyIn yX12_whyIn ∈ zT := zT_inc (i := 99) zL_0 (by decide +kernel) rfl
theorem zkc_X12_speaksFor : Cond.code yX12_speaksFor cX12_speaksFor 5 (some .int) ∈ zT := zT_inc (i := 165) zL_8 rfl rfl
theorem zkm_X12_393 : Cond.methodLink RX12 393 yX12_speaksFor ∈ zT := zT_inc (i := 162) zL_8 rfl rfl
theorem zkn_X12_speaksFor : Cond.instanceMethod yX12_speaksFor ∈ zT := zT_inc (i := 164) zL_8 rfl rfl
theorem zks_X12_speaksFor : Cond.selects RX12 yX12_speaksFor yX12_speaksFor ∈ zT := zT_inc (i := 106) zL_0 (by decide +kernel) rfl
theorem zkc_X12_soundsIn : Cond.code yX12_soundsIn cX12_soundsIn 4 (some .int) ∈ zT := zT_inc (i := 173) zL_8 rfl rfl
theorem zkm_X12_396 : Cond.methodLink RX12 396 yX12_soundsIn ∈ zT := zT_inc (i := 170) zL_8 rfl rfl
theorem zkn_X12_soundsIn : Cond.instanceMethod yX12_soundsIn ∈ zT := zT_inc (i := 172) zL_8 rfl rfl
theorem zks_X12_soundsIn : Cond.selects RX12 yX12_soundsIn yX12_soundsIn ∈ zT := zT_inc (i := 107) zL_0 (by decide +kernel) rfl
theorem zkc_X12_away : Cond.code yX12_away cX12_away 2 (some .int) ∈ zT := zT_inc (i := 180) zL_8 rfl rfl
theorem zkm_X12_399 : Cond.methodLink RX12 399 yX12_away ∈ zT := zT_inc (i := 178) zL_8 rfl rfl
theorem zkt_X12_away : Cond.static yX12_away ∈ zT := zT_inc (i := 179) zL_8 rfl rfl
theorem zkc_X12_allAt : Cond.code yX12_allAt cX12_allAt 4 (some .int) ∈ zT := zT_inc (i := 192) zL_8 rfl rfl
theorem zkm_X12_402 : Cond.methodLink RX12 402 yX12_allAt ∈ zT := zT_inc (i := 189) zL_8 rfl rfl
theorem zkn_X12_allAt : Cond.instanceMethod yX12_allAt ∈ zT := zT_inc (i := 191) zL_8 rfl rfl
theorem zks_X12_allAt : Cond.selects RX12 yX12_allAt yX12_allAt ∈ zT := zT_inc (i := 108) zL_0 (by decide +kernel) rfl
theorem zkc_X12_meet : Cond.code yX12_meet cX12_meet 3 (some .boolean) ∈ zT := zT_inc (i := 208) zL_8 rfl rfl
theorem zkm_X12_405 : Cond.methodLink RX12 405 yX12_meet ∈ zT := zT_inc (i := 205) zL_8 rfl rfl
theorem zkn_X12_meet : Cond.instanceMethod yX12_meet ∈ zT := zT_inc (i := 207) zL_8 rfl rfl
theorem zks_X12_meet : Cond.selects RX12 yX12_meet yX12_meet ∈ zT := zT_inc (i := 110) zL_0 (by decide +kernel) rfl
theorem zkc_X12_at : Cond.code yX12_at cX12_at 2 (some .int) ∈ zT := zT_inc (i := 213) zL_8 rfl rfl
theorem zkm_X12_411 : Cond.methodLink RX12 411 yX12_at ∈ zT := zT_inc (i := 210) zL_8 rfl rfl
theorem zkn_X12_at : Cond.instanceMethod yX12_at ∈ zT := zT_inc (i := 212) zL_8 rfl rfl
theorem zks_X12_at : Cond.selects RX12 yX12_at yX12_at ∈ zT := zT_inc (i := 111) zL_0 (by decide +kernel) rfl
theorem zkm_X12_408 : Cond.methodLink RX12 408 Lib.Math.min.name ∈ zT := zT_inc (i := 209) zL_8 rfl rfl
theorem zkt_Lib_Math_min_name : Cond.static Lib.Math.min.name ∈ zT := zT_inc (i := 152) zL_3 rfl rfl
theorem zkc_Lib_Math_min_name : Cond.code Lib.Math.min.name Lib.Math.min.code 2 (some .int) ∈ zT := zT_inc (i := 153) zL_3 rfl rfl
theorem zkc_X12_wrongIs : Cond.code yX12_wrongIs cX12_wrongIs 6 (some .int) ∈ zT := zT_inc (i := 204) zL_8 rfl rfl
theorem zkm_X12_414 : Cond.methodLink RX12 414 yX12_wrongIs ∈ zT := zT_inc (i := 201) zL_8 rfl rfl
theorem zkn_X12_wrongIs : Cond.instanceMethod yX12_wrongIs ∈ zT := zT_inc (i := 203) zL_8 rfl rfl
theorem zks_X12_wrongIs : Cond.selects RX12 yX12_wrongIs yX12_wrongIs ∈ zT := zT_inc (i := 109) zL_0 (by decide +kernel) rfl
theorem zkc_X12_stays : Cond.code yX12_stays cX12_stays 3 (some .boolean) ∈ zT := zT_inc (i := 225) zL_8 rfl rfl
theorem zkm_X12_417 : Cond.methodLink RX12 417 yX12_stays ∈ zT := zT_inc (i := 222) zL_8 rfl rfl
theorem zkn_X12_stays : Cond.instanceMethod yX12_stays ∈ zT := zT_inc (i := 224) zL_8 rfl rfl
theorem zks_X12_stays : Cond.selects RX12 yX12_stays yX12_stays ∈ zT := zT_inc (i := 112) zL_0 (by decide +kernel) rfl
theorem zkf_X12_420 : Cond.fieldLink RX12 420 "GlassSpindleModel" "farthest" "I" ∈ zT := zT_inc (i := 27) zL_7 rfl rfl
theorem zkf_X12_423 : Cond.fieldLink RX12 423 "GlassSpindleModel" "fewest" "I" ∈ zT := zT_inc (i := 26) zL_7 rfl rfl
theorem zkc_X12_tries : Cond.code yX12_tries cX12_tries 4 none ∈ zT := zT_inc (i := 237) zL_8 rfl rfl
theorem zkm_X12_426 : Cond.methodLink RX12 426 yX12_tries ∈ zT := zT_inc (i := 234) zL_8 rfl rfl
theorem zkn_X12_tries : Cond.instanceMethod yX12_tries ∈ zT := zT_inc (i := 236) zL_8 rfl rfl
theorem zks_X12_tries : Cond.selects RX12 yX12_tries yX12_tries ∈ zT := zT_inc (i := 114) zL_0 (by decide +kernel) rfl
theorem zkf_X12_132 : Cond.fieldLink RX12 132 "GlassSpindleModel" "best" "[I" ∈ zT := zT_inc (i := 25) zL_7 rfl rfl
theorem zkf_X12_129 : Cond.fieldLink RX12 129 "GlassSpindleModel" "told0" "[I" ∈ zT := zT_inc (i := 24) zL_7 rfl rfl
theorem zkc_X12_hasTried : Cond.code yX12_hasTried cX12_hasTried 2 (some .boolean) ∈ zT := zT_inc (i := 233) zL_8 rfl rfl
theorem zkm_X12_429 : Cond.methodLink RX12 429 yX12_hasTried ∈ zT := zT_inc (i := 230) zL_8 rfl rfl
theorem zkn_X12_hasTried : Cond.instanceMethod yX12_hasTried ∈ zT := zT_inc (i := 232) zL_8 rfl rfl
theorem zks_X12_hasTried : Cond.selects RX12 yX12_hasTried yX12_hasTried ∈ zT := zT_inc (i := 113) zL_0 (by decide +kernel) rfl
theorem zkc_X12_beats : Cond.code yX12_beats cX12_beats 4 (some .int) ∈ zT := zT_inc (i := 13) zL_9 rfl rfl
theorem zkm_X12_432 : Cond.methodLink RX12 432 yX12_beats ∈ zT := zT_inc (i := 10) zL_9 rfl rfl
theorem zkn_X12_beats : Cond.instanceMethod yX12_beats ∈ zT := zT_inc (i := 12) zL_9 rfl rfl
theorem zks_X12_beats : Cond.selects RX12 yX12_beats yX12_beats ∈ zT := zT_inc (i := 115) zL_0 (by decide +kernel) rfl
theorem zkf_X12_135 : Cond.fieldLink RX12 135 "GlassSpindleModel" "grinds" "[I" ∈ zT := zT_inc (i := 28) zL_7 rfl rfl
theorem zkf_X12_435 : Cond.fieldLink RX12 435 "GlassSpindleModel" "glass" "I" ∈ zT := zT_inc (i := 30) zL_7 rfl rfl
theorem zkc_X12_isPaired : Cond.code yX12_isPaired cX12_isPaired 3 (some .boolean) ∈ zT := zT_inc (i := 29) zL_9 rfl rfl
theorem zkm_X12_438 : Cond.methodLink RX12 438 yX12_isPaired ∈ zT := zT_inc (i := 26) zL_9 rfl rfl
theorem zkn_X12_isPaired : Cond.instanceMethod yX12_isPaired ∈ zT := zT_inc (i := 28) zL_9 rfl rfl
theorem zks_X12_isPaired : Cond.selects RX12 yX12_isPaired yX12_isPaired ∈ zT := zT_inc (i := 117) zL_0 (by decide +kernel) rfl
theorem zkc_X12_goes : Cond.code yX12_goes cX12_goes 3 (some .boolean) ∈ zT := zT_inc (i := 37) zL_9 rfl rfl
theorem zkm_X12_441 : Cond.methodLink RX12 441 yX12_goes ∈ zT := zT_inc (i := 34) zL_9 rfl rfl
theorem zkn_X12_goes : Cond.instanceMethod yX12_goes ∈ zT := zT_inc (i := 36) zL_9 rfl rfl
theorem zks_X12_goes : Cond.selects RX12 yX12_goes yX12_goes ∈ zT := zT_inc (i := 119) zL_0 (by decide +kernel) rfl
theorem zkc_X12_grinds : Cond.code yX12_grinds cX12_grinds 5 none ∈ zT := zT_inc (i := 33) zL_9 rfl rfl
theorem zkm_X12_444 : Cond.methodLink RX12 444 yX12_grinds ∈ zT := zT_inc (i := 30) zL_9 rfl rfl
theorem zkn_X12_grinds : Cond.instanceMethod yX12_grinds ∈ zT := zT_inc (i := 32) zL_9 rfl rfl
theorem zks_X12_grinds : Cond.selects RX12 yX12_grinds yX12_grinds ∈ zT := zT_inc (i := 118) zL_0 (by decide +kernel) rfl
theorem zkf_X12_138 : Cond.fieldLink RX12 138 "GlassSpindleModel" "bestGrinds" "[I" ∈ zT := zT_inc (i := 29) zL_7 rfl rfl
theorem zkc_X12_isGround : Cond.code yX12_isGround cX12_isGround 3 (some .boolean) ∈ zT := zT_inc (i := 25) zL_9 rfl rfl
theorem zkm_X12_446 : Cond.methodLink RX12 446 yX12_isGround ∈ zT := zT_inc (i := 22) zL_9 rfl rfl
theorem zkn_X12_isGround : Cond.instanceMethod yX12_isGround ∈ zT := zT_inc (i := 24) zL_9 rfl rfl
theorem zks_X12_isGround : Cond.selects RX12 yX12_isGround yX12_isGround ∈ zT := zT_inc (i := 116) zL_0 (by decide +kernel) rfl
theorem zkf_X12_141 : Cond.fieldLink RX12 141 "GlassSpindleModel" "spot" "[I" ∈ zT := zT_inc (i := 31) zL_7 rfl rfl
theorem zkf_X12_449 : Cond.fieldLink RX12 449 "GlassSpindleModel" "least" "I" ∈ zT := zT_inc (i := 33) zL_7 rfl rfl
theorem zkc_X12_lines : Cond.code yX12_lines cX12_lines 5 none ∈ zT := zT_inc (i := 69) zL_9 rfl rfl
theorem zkm_X12_451 : Cond.methodLink RX12 451 yX12_lines ∈ zT := zT_inc (i := 66) zL_9 rfl rfl
theorem zkn_X12_lines : Cond.instanceMethod yX12_lines ∈ zT := zT_inc (i := 68) zL_9 rfl rfl
theorem zks_X12_lines : Cond.selects RX12 yX12_lines yX12_lines ∈ zT := zT_inc (i := 122) zL_0 (by decide +kernel) rfl
theorem zkf_X12_144 : Cond.fieldLink RX12 144 "GlassSpindleModel" "bestSpot" "[I" ∈ zT := zT_inc (i := 32) zL_7 rfl rfl
theorem zkc_X12_placed : Cond.code yX12_placed cX12_placed 3 (some .int) ∈ zT := zT_inc (i := 65) zL_9 rfl rfl
theorem zkm_X12_454 : Cond.methodLink RX12 454 yX12_placed ∈ zT := zT_inc (i := 62) zL_9 rfl rfl
theorem zkn_X12_placed : Cond.instanceMethod yX12_placed ∈ zT := zT_inc (i := 64) zL_9 rfl rfl
theorem zks_X12_placed : Cond.selects RX12 yX12_placed yX12_placed ∈ zT := zT_inc (i := 121) zL_0 (by decide +kernel) rfl
theorem zkc_X12_hasLines : Cond.code yX12_hasLines cX12_hasLines 3 (some .boolean) ∈ zT := zT_inc (i := 61) zL_9 rfl rfl
theorem zkm_X12_457 : Cond.methodLink RX12 457 yX12_hasLines ∈ zT := zT_inc (i := 58) zL_9 rfl rfl
theorem zkn_X12_hasLines : Cond.instanceMethod yX12_hasLines ∈ zT := zT_inc (i := 60) zL_9 rfl rfl
theorem zks_X12_hasLines : Cond.selects RX12 yX12_hasLines yX12_hasLines ∈ zT := zT_inc (i := 120) zL_0 (by decide +kernel) rfl
theorem zkf_X12_147 : Cond.fieldLink RX12 147 "GlassSpindleModel" "isLaid" "[Z" ∈ zT := zT_inc (i := 34) zL_7 rfl rfl
theorem zkf_X12_150 : Cond.fieldLink RX12 150 "GlassSpindleModel" "markNotes" "[I" ∈ zT := zT_inc (i := 35) zL_7 rfl rfl
theorem zkc_X12_keeps : Cond.code yX12_keeps cX12_keeps 5 none ∈ zT := zT_inc (i := 81) zL_9 rfl rfl
theorem zkm_X12_460 : Cond.methodLink RX12 460 yX12_keeps ∈ zT := zT_inc (i := 78) zL_9 rfl rfl
theorem zkn_X12_keeps : Cond.instanceMethod yX12_keeps ∈ zT := zT_inc (i := 80) zL_9 rfl rfl
theorem zks_X12_keeps : Cond.selects RX12 yX12_keeps yX12_keeps ∈ zT := zT_inc (i := 123) zL_0 (by decide +kernel) rfl
theorem zkc_X0_learn : Cond.code yX0_learn cX0_learn 1 (some .boolean) ∈ zT := zT_inc (i := 108) zL_5 rfl rfl
theorem zkm_X0_36 : Cond.methodLink RX0 36 yX0_learn ∈ zT := zT_inc (i := 105) zL_5 rfl rfl
theorem zkn_X0_learn : Cond.instanceMethod yX0_learn ∈ zT := zT_inc (i := 107) zL_5 rfl rfl
theorem zks_X0_learn : Cond.selects RX0 yX0_learn yX0_learn ∈ zT := zT_inc (i := 39) zL_0 (by decide +kernel) rfl
theorem zkf_X0_40 : Cond.fieldLink RX0 40 "GlassSpindle$Fingering" "fewest" "I" ∈ zT := zT_inc (i := 127) zL_2 rfl rfl
theorem zkf_X0_44 : Cond.fieldLink RX0 44 "GlassSpindle$Fingering" "far" "I" ∈ zT := zT_inc (i := 128) zL_2 rfl rfl
theorem zkf_X0_28 : Cond.fieldLink RX0 28 "GlassSpindle$Fingering" "piece" "LGlassSpindle$Piece;" ∈ zT := zT_inc (i := 120) zL_2 rfl rfl
theorem zkm_X0_47 : Cond.methodLink RX0 47 yX5_has ∈ zT := zT_inc (i := 157) zL_5 rfl rfl
theorem zkf_X0_15 : Cond.fieldLink RX0 15 "GlassSpindle$Fingering" "kept" "[I" ∈ zT := zT_inc (i := 123) zL_2 rfl rfl
theorem zkf_X0_53 : Cond.fieldLink RX0 53 "GlassSpindle$Piece" "notes" "I" ∈ zT := zT_inc (i := 213) zL_1 rfl rfl
theorem zkf_X0_56 : Cond.fieldLink RX0 56 "GlassSpindle$Fingering" "known" "Z" ∈ zT := zT_inc (i := 129) zL_2 rfl rfl
theorem zkc_X0_countSure : Cond.code yX0_countSure cX0_countSure 2 none ∈ zT := zT_inc (i := 112) zL_5 rfl rfl
theorem zkm_X0_60 : Cond.methodLink RX0 60 yX0_countSure ∈ zT := zT_inc (i := 109) zL_5 rfl rfl
theorem zkn_X0_countSure : Cond.instanceMethod yX0_countSure ∈ zT := zT_inc (i := 111) zL_5 rfl rfl
theorem zks_X0_countSure : Cond.selects RX0 yX0_countSure yX0_countSure ∈ zT := zT_inc (i := 40) zL_0 (by decide +kernel) rfl
theorem zkc_X0_countPlayable : Cond.code yX0_countPlayable cX0_countPlayable 1 none ∈ zT := zT_inc (i := 125) zL_5 rfl rfl
theorem zkm_X0_63 : Cond.methodLink RX0 63 yX0_countPlayable ∈ zT := zT_inc (i := 122) zL_5 rfl rfl
theorem zkn_X0_countPlayable : Cond.instanceMethod yX0_countPlayable ∈ zT := zT_inc (i := 124) zL_5 rfl rfl
theorem zks_X0_countPlayable : Cond.selects RX0 yX0_countPlayable yX0_countPlayable ∈ zT := zT_inc (i := 43) zL_0 (by decide +kernel) rfl
theorem zkc_X0_search : Cond.code yX0_search cX0_search 5 none ∈ zT := zT_inc (i := 141) zL_5 rfl rfl
theorem zkm_X0_66 : Cond.methodLink RX0 66 yX0_search ∈ zT := zT_inc (i := 138) zL_5 rfl rfl
theorem zkn_X0_search : Cond.instanceMethod yX0_search ∈ zT := zT_inc (i := 140) zL_5 rfl rfl
theorem zks_X0_search : Cond.selects RX0 yX0_search yX0_search ∈ zT := zT_inc (i := 46) zL_0 (by decide +kernel) rfl
theorem zkf_X0_18 : Cond.fieldLink RX0 18 "GlassSpindle$Fingering" "sure" "[I" ∈ zT := zT_inc (i := 124) zL_2 rfl rfl
theorem zkc_X0_sureFrom : Cond.code yX0_sureFrom cX0_sureFrom 7 (some .int) ∈ zT := zT_inc (i := 116) zL_5 rfl rfl
theorem zkm_X0_70 : Cond.methodLink RX0 70 yX0_sureFrom ∈ zT := zT_inc (i := 113) zL_5 rfl rfl
theorem zkn_X0_sureFrom : Cond.instanceMethod yX0_sureFrom ∈ zT := zT_inc (i := 115) zL_5 rfl rfl
theorem zks_X0_sureFrom : Cond.selects RX0 yX0_sureFrom yX0_sureFrom ∈ zT := zT_inc (i := 41) zL_0 (by decide +kernel) rfl
theorem zkc_X0_followed : Cond.code yX0_followed cX0_followed 3 (some .int) ∈ zT := zT_inc (i := 120) zL_5 rfl rfl
theorem zkm_X0_74 : Cond.methodLink RX0 74 yX0_followed ∈ zT := zT_inc (i := 117) zL_5 rfl rfl
theorem zkn_X0_followed : Cond.instanceMethod yX0_followed ∈ zT := zT_inc (i := 119) zL_5 rfl rfl
theorem zks_X0_followed : Cond.selects RX0 yX0_followed yX0_followed ∈ zT := zT_inc (i := 42) zL_0 (by decide +kernel) rfl
theorem zkf_X0_21 : Cond.fieldLink RX0 21 "GlassSpindle$Fingering" "touching" "[I" ∈ zT := zT_inc (i := 125) zL_2 rfl rfl
theorem zkf_X0_77 : Cond.fieldLink RX0 77 "GlassSpindle$Piece" "length" "[I" ∈ zT := zT_inc (i := 230) zL_1 rfl rfl
theorem zkf_X0_24 : Cond.fieldLink RX0 24 "GlassSpindle$Fingering" "setup" "LGlassSpindle$Setup;" ∈ zT := zT_inc (i := 119) zL_2 rfl rfl
theorem zkf_X0_80 : Cond.fieldLink RX0 80 "GlassSpindle$Setup" "settings" "[I" ∈ zT := zT_inc (i := 137) zL_1 rfl rfl
theorem zkc_X5_follows : Cond.code yX5_follows cX5_follows 3 (some .boolean) ∈ zT := zT_inc (i := 96) zL_5 rfl rfl
theorem zkm_X0_85 : Cond.methodLink RX0 85 yX5_follows ∈ zT := zT_inc (i := 121) zL_5 rfl rfl
theorem zkn_X5_follows : Cond.instanceMethod yX5_follows ∈ zT := zT_inc (i := 94) zL_5 rfl rfl
theorem zks_X5_follows : Cond.selects RX5 yX5_follows yX5_follows ∈ zT := zT_inc (i := 95) zL_5 rfl rfl
theorem zkf_X0_89 : Cond.fieldLink RX0 89 "GlassSpindle$Fingering" "playable" "I" ∈ zT := zT_inc (i := 126) zL_2 rfl rfl
theorem zkc_X0_isHopeless : Cond.code yX0_isHopeless cX0_isHopeless 3 (some .boolean) ∈ zT := zT_inc (i := 129) zL_5 rfl rfl
theorem zkm_X0_92 : Cond.methodLink RX0 92 yX0_isHopeless ∈ zT := zT_inc (i := 126) zL_5 rfl rfl
theorem zkn_X0_isHopeless : Cond.instanceMethod yX0_isHopeless ∈ zT := zT_inc (i := 128) zL_5 rfl rfl
theorem zks_X0_isHopeless : Cond.selects RX0 yX0_isHopeless yX0_isHopeless ∈ zT := zT_inc (i := 44) zL_0 (by decide +kernel) rfl
theorem zkc_X0_handHolds : Cond.code yX0_handHolds cX0_handHolds 10 (some .boolean) ∈ zT := zT_inc (i := 133) zL_5 rfl rfl
theorem zkm_X0_95 : Cond.methodLink RX0 95 yX0_handHolds ∈ zT := zT_inc (i := 130) zL_5 rfl rfl
theorem zkn_X0_handHolds : Cond.instanceMethod yX0_handHolds ∈ zT := zT_inc (i := 132) zL_5 rfl rfl
theorem zks_X0_handHolds : Cond.selects RX0 yX0_handHolds yX0_handHolds ∈ zT := zT_inc (i := 45) zL_0 (by decide +kernel) rfl
theorem zkf_X0_32 : Cond.fieldLink RX0 32 "GlassSpindle$Fingering" "hands" "LGlassSpindle$Hands;" ∈ zT := zT_inc (i := 121) zL_2 rfl rfl
theorem zkm_X0_99 : Cond.methodLink RX0 99 yX2_placeOf ∈ zT := zT_inc (i := 134) zL_5 rfl rfl
theorem zkc_X5_overlap : Cond.code yX5_overlap cX5_overlap 3 (some .boolean) ∈ zT := zT_inc (i := 66) zL_5 rfl rfl
theorem zkm_X0_104 : Cond.methodLink RX0 104 yX5_overlap ∈ zT := zT_inc (i := 135) zL_5 rfl rfl
theorem zkn_X5_overlap : Cond.instanceMethod yX5_overlap ∈ zT := zT_inc (i := 64) zL_5 rfl rfl
theorem zks_X5_overlap : Cond.selects RX5 yX5_overlap yX5_overlap ∈ zT := zT_inc (i := 65) zL_5 rfl rfl
theorem zkm_X0_107 : Cond.methodLink RX0 107 Lib.Math.min.name ∈ zT := zT_inc (i := 136) zL_5 rfl rfl
theorem zkm_X0_113 : Cond.methodLink RX0 113 Lib.Math.max.name ∈ zT := zT_inc (i := 137) zL_5 rfl rfl
theorem zkc_X0_isSettled : Cond.code yX0_isSettled cX0_isSettled 1 (some .boolean) ∈ zT := zT_inc (i := 146) zL_5 rfl rfl
theorem zkm_X0_122 : Cond.methodLink RX0 122 yX0_isSettled ∈ zT := zT_inc (i := 143) zL_5 rfl rfl
theorem zkn_X0_isSettled : Cond.instanceMethod yX0_isSettled ∈ zT := zT_inc (i := 145) zL_5 rfl rfl
theorem zks_X0_isSettled : Cond.selects RX0 yX0_isSettled yX0_isSettled ∈ zT := zT_inc (i := 47) zL_0 (by decide +kernel) rfl
theorem zkf_X0_9 : Cond.fieldLink RX0 9 "GlassSpindle$Fingering" "trial" "[I" ∈ zT := zT_inc (i := 122) zL_2 rfl rfl
theorem zkm_X0_125 : Cond.methodLink RX0 125 yX2_faultOf ∈ zT := zT_inc (i := 147) zL_5 rfl rfl
theorem zkm_X0_129 : Cond.methodLink RX0 129 yX2_liftsAt ∈ zT := zT_inc (i := 148) zL_5 rfl rfl
theorem zkm_X0_116 : Cond.methodLink RX0 116 arraycopyName ∈ zT := zT_inc (i := 142) zL_5 rfl rfl
theorem zka_n : Cond.native arraycopyName ∈ zT := zT_inc (i := 59) zL_3 rfl rfl
theorem zka_s : Cond.static arraycopyName ∈ zT := zT_inc (i := 58) zL_3 rfl rfl
theorem zki_System : Cond.initialized "java/lang/System" ∈ zT := zT_inc (i := 15) zL_1 rfl rfl
theorem zkc_X1_learn : Cond.code yX1_learn cX1_learn 2 none ∈ zT := zT_inc (i := 197) zL_5 rfl rfl
theorem zkm_X1_38 : Cond.methodLink RX1 38 yX1_learn ∈ zT := zT_inc (i := 194) zL_5 rfl rfl
theorem zkn_X1_learn : Cond.instanceMethod yX1_learn ∈ zT := zT_inc (i := 196) zL_5 rfl rfl
theorem zks_X1_learn : Cond.selects RX1 yX1_learn yX1_learn ∈ zT := zT_inc (i := 48) zL_0 (by decide +kernel) rfl
theorem zkf_X1_41 : Cond.fieldLink RX1 41 "GlassSpindle$Grinding" "least" "J" ∈ zT := zT_inc (i := 172) zL_2 rfl rfl
theorem zkl_X1_45 : Cond.constantLong RX1 45 1000000000000000 ∈ zT := zT_inc (i := 198) zL_5 (by decide +kernel) rfl
theorem zkl_X1_47 : Cond.constantLong RX1 47 5764801 ∈ zT := zT_inc (i := 12) zL_6 (by decide +kernel) rfl
theorem zkf_X1_15 : Cond.fieldLink RX1 15 "GlassSpindle$Grinding" "nodeOf" "[I" ∈ zT := zT_inc (i := 162) zL_2 rfl rfl
theorem zkc_X1_weightOf : Cond.code yX1_weightOf cX1_weightOf 5 (some .long) ∈ zT := zT_inc (i := 16) zL_6 rfl rfl
theorem zkm_X1_49 : Cond.methodLink RX1 49 yX1_weightOf ∈ zT := zT_inc (i := 13) zL_6 rfl rfl
theorem zkn_X1_weightOf : Cond.instanceMethod yX1_weightOf ∈ zT := zT_inc (i := 15) zL_6 rfl rfl
theorem zks_X1_weightOf : Cond.selects RX1 yX1_weightOf yX1_weightOf ∈ zT := zT_inc (i := 60) zL_0 (by decide +kernel) rfl
theorem zkl_X1_53 : Cond.constantLong RX1 53 7 ∈ zT := zT_inc (i := 17) zL_6 (by decide +kernel) rfl
theorem zkf_X1_55 : Cond.fieldLink RX1 55 "GlassSpindle$Grinding" "known" "Z" ∈ zT := zT_inc (i := 173) zL_2 rfl rfl
theorem zkc_X1_listNodes : Cond.code yX1_listNodes cX1_listNodes 2 (some .boolean) ∈ zT := zT_inc (i := 202) zL_5 rfl rfl
theorem zkm_X1_59 : Cond.methodLink RX1 59 yX1_listNodes ∈ zT := zT_inc (i := 199) zL_5 rfl rfl
theorem zkn_X1_listNodes : Cond.instanceMethod yX1_listNodes ∈ zT := zT_inc (i := 201) zL_5 rfl rfl
theorem zks_X1_listNodes : Cond.selects RX1 yX1_listNodes yX1_listNodes ∈ zT := zT_inc (i := 49) zL_0 (by decide +kernel) rfl
theorem zkc_X1_listNeighbours : Cond.code yX1_listNeighbours cX1_listNeighbours 4 none ∈ zT := zT_inc (i := 211) zL_5 rfl rfl
theorem zkm_X1_63 : Cond.methodLink RX1 63 yX1_listNeighbours ∈ zT := zT_inc (i := 208) zL_5 rfl rfl
theorem zkn_X1_listNeighbours : Cond.instanceMethod yX1_listNeighbours ∈ zT := zT_inc (i := 210) zL_5 rfl rfl
theorem zks_X1_listNeighbours : Cond.selects RX1 yX1_listNeighbours yX1_listNeighbours ∈ zT := zT_inc (i := 51) zL_0 (by decide +kernel) rfl
theorem zkf_X1_66 : Cond.fieldLink RX1 66 "GlassSpindle$Grinding" "nodes" "I" ∈ zT := zT_inc (i := 163) zL_2 rfl rfl
theorem zkc_X1_nextNode : Cond.code yX1_nextNode cX1_nextNode 4 (some .int) ∈ zT := zT_inc (i := 215) zL_5 rfl rfl
theorem zkm_X1_70 : Cond.methodLink RX1 70 yX1_nextNode ∈ zT := zT_inc (i := 212) zL_5 rfl rfl
theorem zkn_X1_nextNode : Cond.instanceMethod yX1_nextNode ∈ zT := zT_inc (i := 214) zL_5 rfl rfl
theorem zks_X1_nextNode : Cond.selects RX1 yX1_nextNode yX1_nextNode ∈ zT := zT_inc (i := 52) zL_0 (by decide +kernel) rfl
theorem zkc_X1_takeOut : Cond.code yX1_takeOut cX1_takeOut 4 none ∈ zT := zT_inc (i := 225) zL_5 rfl rfl
theorem zkm_X1_74 : Cond.methodLink RX1 74 yX1_takeOut ∈ zT := zT_inc (i := 222) zL_5 rfl rfl
theorem zkn_X1_takeOut : Cond.instanceMethod yX1_takeOut ∈ zT := zT_inc (i := 224) zL_5 rfl rfl
theorem zks_X1_takeOut : Cond.selects RX1 yX1_takeOut yX1_takeOut ∈ zT := zT_inc (i := 53) zL_0 (by decide +kernel) rfl
theorem zkc_J7_fill_53178 : Cond.code yJ7_fill_53178 cJ7_fill_53178 4 none ∈ zT := zT_inc (i := 147) zL_4 rfl rfl
theorem zki_J7 : Cond.initialized RJ7 ∈ zT := zT_inc (i := 21) zL_1 rfl rfl
theorem zkm_X1_78 : Cond.methodLink RX1 78 yJ7_fill_53178 ∈ zT := zT_inc (i := 203) zL_5 rfl rfl
theorem zkt_J7_fill_53178 : Cond.static yJ7_fill_53178 ∈ zT := zT_inc (i := 146) zL_4 rfl rfl
theorem zkf_X1_34 : Cond.fieldLink RX1 34 "GlassSpindle$Grinding" "setup" "LGlassSpindle$Setup;" ∈ zT := zT_inc (i := 160) zL_2 rfl rfl
theorem zkf_X1_84 : Cond.fieldLink RX1 84 "GlassSpindle$Setup" "bowls" "I" ∈ zT := zT_inc (i := 75) zL_1 rfl rfl
theorem zkc_X1_isPaired : Cond.code yX1_isPaired cX1_isPaired 3 (some .boolean) ∈ zT := zT_inc (i := 207) zL_5 rfl rfl
theorem zkm_X1_89 : Cond.methodLink RX1 89 yX1_isPaired ∈ zT := zT_inc (i := 204) zL_5 rfl rfl
theorem zkn_X1_isPaired : Cond.instanceMethod yX1_isPaired ∈ zT := zT_inc (i := 206) zL_5 rfl rfl
theorem zks_X1_isPaired : Cond.selects RX1 yX1_isPaired yX1_isPaired ∈ zT := zT_inc (i := 50) zL_0 (by decide +kernel) rfl
theorem zkf_X1_9 : Cond.fieldLink RX1 9 "GlassSpindle$Grinding" "bowlOf" "[I" ∈ zT := zT_inc (i := 161) zL_2 rfl rfl
theorem zkf_X1_93 : Cond.fieldLink RX1 93 "GlassSpindle$Setup" "pairs" "I" ∈ zT := zT_inc (i := 105) zL_1 rfl rfl
theorem zkf_X1_96 : Cond.fieldLink RX1 96 "GlassSpindle$Setup" "first" "[I" ∈ zT := zT_inc (i := 109) zL_1 rfl rfl
theorem zkf_X1_99 : Cond.fieldLink RX1 99 "GlassSpindle$Setup" "second" "[I" ∈ zT := zT_inc (i := 114) zL_1 rfl rfl
theorem zkf_X1_102 : Cond.fieldLink RX1 102 "GlassSpindle$Grinding" "gone" "I" ∈ zT := zT_inc (i := 170) zL_2 rfl rfl
theorem zkf_X1_105 : Cond.fieldLink RX1 105 "GlassSpindle$Grinding" "waiting" "I" ∈ zT := zT_inc (i := 171) zL_2 rfl rfl
theorem zkf_X1_108 : Cond.fieldLink RX1 108 "GlassSpindle$Grinding" "used" "I" ∈ zT := zT_inc (i := 168) zL_2 rfl rfl
theorem zkf_X1_18 : Cond.fieldLink RX1 18 "GlassSpindle$Grinding" "near" "[I" ∈ zT := zT_inc (i := 164) zL_2 rfl rfl
theorem zkc_J6_bitCount_0f7a4 : Cond.code yJ6_bitCount_0f7a4 cJ6_bitCount_0f7a4 1 (some .int) ∈ zT := zT_inc (i := 218) zL_5 rfl rfl
theorem zki_J6 : Cond.initialized RJ6 ∈ zT := zT_inc (i := 26) zL_1 rfl rfl
theorem zkm_X1_111 : Cond.methodLink RX1 111 yJ6_bitCount_0f7a4 ∈ zT := zT_inc (i := 216) zL_5 rfl rfl
theorem zkt_J6_bitCount_0f7a4 : Cond.static yJ6_bitCount_0f7a4 ∈ zT := zT_inc (i := 217) zL_5 rfl rfl
theorem zkf_X1_21 : Cond.fieldLink RX1 21 "GlassSpindle$Grinding" "scope" "[I" ∈ zT := zT_inc (i := 165) zL_2 rfl rfl
theorem zkf_X1_28 : Cond.fieldLink RX1 28 "GlassSpindle$Grinding" "start" "[I" ∈ zT := zT_inc (i := 167) zL_2 rfl rfl
theorem zkc_X1_waysOf : Cond.code yX1_waysOf cX1_waysOf 4 (some .int) ∈ zT := zT_inc (i := 229) zL_5 rfl rfl
theorem zkm_X1_117 : Cond.methodLink RX1 117 yX1_waysOf ∈ zT := zT_inc (i := 226) zL_5 rfl rfl
theorem zkn_X1_waysOf : Cond.instanceMethod yX1_waysOf ∈ zT := zT_inc (i := 228) zL_5 rfl rfl
theorem zks_X1_waysOf : Cond.selects RX1 yX1_waysOf yX1_waysOf ∈ zT := zT_inc (i := 54) zL_0 (by decide +kernel) rfl
theorem zkc_X1_spread : Cond.code yX1_spread cX1_spread 5 none ∈ zT := zT_inc (i := 233) zL_5 rfl rfl
theorem zkm_X1_120 : Cond.methodLink RX1 120 yX1_spread ∈ zT := zT_inc (i := 230) zL_5 rfl rfl
theorem zkn_X1_spread : Cond.instanceMethod yX1_spread ∈ zT := zT_inc (i := 232) zL_5 rfl rfl
theorem zks_X1_spread : Cond.selects RX1 yX1_spread yX1_spread ∈ zT := zT_inc (i := 55) zL_0 (by decide +kernel) rfl
theorem zkf_X1_24 : Cond.fieldLink RX1 24 "GlassSpindle$Grinding" "table" "[J" ∈ zT := zT_inc (i := 166) zL_2 rfl rfl
theorem zkc_X1_bestStep : Cond.code yX1_bestStep cX1_bestStep 5 (some .long) ∈ zT := zT_inc (i := 237) zL_5 rfl rfl
theorem zkm_X1_124 : Cond.methodLink RX1 124 yX1_bestStep ∈ zT := zT_inc (i := 234) zL_5 rfl rfl
theorem zkn_X1_bestStep : Cond.instanceMethod yX1_bestStep ∈ zT := zT_inc (i := 236) zL_5 rfl rfl
theorem zks_X1_bestStep : Cond.selects RX1 yX1_bestStep yX1_bestStep ∈ zT := zT_inc (i := 56) zL_0 (by decide +kernel) rfl
theorem zkc_X1_leave : Cond.code yX1_leave cX1_leave 4 none ∈ zT := zT_inc (i := 31) zL_6 rfl rfl
theorem zkm_X1_127 : Cond.methodLink RX1 127 yX1_leave ∈ zT := zT_inc (i := 28) zL_6 rfl rfl
theorem zkn_X1_leave : Cond.instanceMethod yX1_leave ∈ zT := zT_inc (i := 30) zL_6 rfl rfl
theorem zks_X1_leave : Cond.selects RX1 yX1_leave yX1_leave ∈ zT := zT_inc (i := 62) zL_0 (by decide +kernel) rfl
theorem zkm_X1_130 : Cond.methodLink RX1 130 Lib.MathLoose.min_long.x ∈ zT := zT_inc (i := 25) zL_6 rfl rfl
theorem zkt_Lib_MathLoose_min_long_x : Cond.static Lib.MathLoose.min_long.x ∈ zT := zT_inc (i := 26) zL_6 rfl rfl
theorem zkc_Lib_MathLoose_min_long_x : Cond.code Lib.MathLoose.min_long.x Lib.MathLoose.min_long.code 4 (some .long) ∈ zT := zT_inc (i := 27) zL_6 rfl rfl
theorem zkf_X1_31 : Cond.fieldLink RX1 31 "GlassSpindle$Grinding" "step" "[I" ∈ zT := zT_inc (i := 169) zL_2 rfl rfl
theorem zkc_X1_fits : Cond.code yX1_fits cX1_fits 6 (some .boolean) ∈ zT := zT_inc (i := 1) zL_6 rfl rfl
theorem zkm_X1_136 : Cond.methodLink RX1 136 yX1_fits ∈ zT := zT_inc (i := 238) zL_5 rfl rfl
theorem zkn_X1_fits : Cond.instanceMethod yX1_fits ∈ zT := zT_inc (i := 0) zL_6 rfl rfl
theorem zks_X1_fits : Cond.selects RX1 yX1_fits yX1_fits ∈ zT := zT_inc (i := 57) zL_0 (by decide +kernel) rfl
theorem zkc_X1_costOf : Cond.code yX1_costOf cX1_costOf 8 (some .long) ∈ zT := zT_inc (i := 10) zL_6 rfl rfl
theorem zkm_X1_139 : Cond.methodLink RX1 139 yX1_costOf ∈ zT := zT_inc (i := 7) zL_6 rfl rfl
theorem zkn_X1_costOf : Cond.instanceMethod yX1_costOf ∈ zT := zT_inc (i := 9) zL_6 rfl rfl
theorem zks_X1_costOf : Cond.selects RX1 yX1_costOf yX1_costOf ∈ zT := zT_inc (i := 59) zL_0 (by decide +kernel) rfl
theorem zkf_X1_142 : Cond.fieldLink RX1 142 "GlassSpindle$Setup" "tone" "[I" ∈ zT := zT_inc (i := 85) zL_1 rfl rfl
theorem zkf_X1_145 : Cond.fieldLink RX1 145 "GlassSpindle$Setup" "settings" "[I" ∈ zT := zT_inc (i := 138) zL_1 rfl rfl
theorem zkc_X1_toneOf : Cond.code yX1_toneOf cX1_toneOf 2 (some .int) ∈ zT := zT_inc (i := 5) zL_6 rfl rfl
theorem zkm_X1_148 : Cond.methodLink RX1 148 yX1_toneOf ∈ zT := zT_inc (i := 2) zL_6 rfl rfl
theorem zkn_X1_toneOf : Cond.instanceMethod yX1_toneOf ∈ zT := zT_inc (i := 4) zL_6 rfl rfl
theorem zks_X1_toneOf : Cond.selects RX1 yX1_toneOf yX1_toneOf ∈ zT := zT_inc (i := 58) zL_0 (by decide +kernel) rfl
theorem zkc_X7_speedAt : Cond.code yX7_speedAt cX7_speedAt 4 (some .int) ∈ zT := zT_inc (i := 181) zL_5 rfl rfl
theorem zkm_X1_151 : Cond.methodLink RX1 151 yX7_speedAt ∈ zT := zT_inc (i := 6) zL_6 rfl rfl
theorem zkn_X7_speedAt : Cond.instanceMethod yX7_speedAt ∈ zT := zT_inc (i := 179) zL_5 rfl rfl
theorem zks_X7_speedAt : Cond.selects RX7 yX7_speedAt yX7_speedAt ∈ zT := zT_inc (i := 180) zL_5 rfl rfl
theorem zkf_X1_155 : Cond.fieldLink RX1 155 "GlassSpindle$Setup" "within" "[I" ∈ zT := zT_inc (i := 120) zL_1 rfl rfl
theorem zkm_X1_158 : Cond.methodLink RX1 158 Lib.Math.abs.name ∈ zT := zT_inc (i := 11) zL_6 rfl rfl
theorem zkf_X1_161 : Cond.fieldLink RX1 161 "GlassSpindle$Setup" "size" "[I" ∈ zT := zT_inc (i := 90) zL_1 rfl rfl
theorem zkc_X1_wayOf : Cond.code yX1_wayOf cX1_wayOf 4 (some .int) ∈ zT := zT_inc (i := 24) zL_6 rfl rfl
theorem zkm_X1_164 : Cond.methodLink RX1 164 yX1_wayOf ∈ zT := zT_inc (i := 21) zL_6 rfl rfl
theorem zkn_X1_wayOf : Cond.instanceMethod yX1_wayOf ∈ zT := zT_inc (i := 23) zL_6 rfl rfl
theorem zks_X1_wayOf : Cond.selects RX1 yX1_wayOf yX1_wayOf ∈ zT := zT_inc (i := 61) zL_0 (by decide +kernel) rfl
theorem zkm_X1_167 : Cond.methodLink RX1 167 Lib.MathLoose.max_long.x ∈ zT := zT_inc (i := 18) zL_6 rfl rfl
theorem zkt_Lib_MathLoose_max_long_x : Cond.static Lib.MathLoose.max_long.x ∈ zT := zT_inc (i := 19) zL_6 rfl rfl
theorem zkc_Lib_MathLoose_max_long_x : Cond.code Lib.MathLoose.max_long.x Lib.MathLoose.max_long.code 4 (some .long) ∈ zT := zT_inc (i := 20) zL_6 rfl rfl
theorem zkf_X2_9 : Cond.fieldLink RX2 9 "GlassSpindle$Hands" "setup" "LGlassSpindle$Setup;" ∈ zT := zT_inc (i := 46) zL_2 rfl rfl
theorem zkf_X2_19 : Cond.fieldLink RX2 19 "GlassSpindle$Setup" "place" "[I" ∈ zT := zT_inc (i := 101) zL_1 rfl rfl
theorem zkf_X2_15 : Cond.fieldLink RX2 15 "GlassSpindle$Hands" "piece" "LGlassSpindle$Piece;" ∈ zT := zT_inc (i := 47) zL_2 rfl rfl
theorem zkf_X2_25 : Cond.fieldLink RX2 25 "GlassSpindle$Piece" "bowl" "[I" ∈ zT := zT_inc (i := 218) zL_1 rfl rfl
theorem zkm_X2_30 : Cond.methodLink RX2 30 yX5_overlap ∈ zT := zT_inc (i := 63) zL_5 rfl rfl
theorem zkc_X2_clash : Cond.code yX2_clash cX2_clash 8 (some .int) ∈ zT := zT_inc (i := 70) zL_5 rfl rfl
theorem zkm_X2_34 : Cond.methodLink RX2 34 yX2_clash ∈ zT := zT_inc (i := 67) zL_5 rfl rfl
theorem zkn_X2_clash : Cond.instanceMethod yX2_clash ∈ zT := zT_inc (i := 69) zL_5 rfl rfl
theorem zks_X2_clash : Cond.selects RX2 yX2_clash yX2_clash ∈ zT := zT_inc (i := 38) zL_0 (by decide +kernel) rfl
theorem zkm_X2_38 : Cond.methodLink RX2 38 Lib.Math.min.name ∈ zT := zT_inc (i := 80) zL_5 rfl rfl
theorem zkc_X2_wornBefore : Cond.code yX2_wornBefore cX2_wornBefore 6 (some .int) ∈ zT := zT_inc (i := 201) zL_4 rfl rfl
theorem zkm_X2_44 : Cond.methodLink RX2 44 yX2_wornBefore ∈ zT := zT_inc (i := 198) zL_4 rfl rfl
theorem zkn_X2_wornBefore : Cond.instanceMethod yX2_wornBefore ∈ zT := zT_inc (i := 200) zL_4 rfl rfl
theorem zks_X2_wornBefore : Cond.selects RX2 yX2_wornBefore yX2_wornBefore ∈ zT := zT_inc (i := 32) zL_0 (by decide +kernel) rfl
theorem zkf_X2_48 : Cond.fieldLink RX2 48 "GlassSpindle$Piece" "length" "[I" ∈ zT := zT_inc (i := 229) zL_1 rfl rfl
theorem zkf_X2_51 : Cond.fieldLink RX2 51 "GlassSpindle$Setup" "settings" "[I" ∈ zT := zT_inc (i := 134) zL_1 rfl rfl
theorem zkm_X2_54 : Cond.methodLink RX2 54 yX2_placeOf ∈ zT := zT_inc (i := 71) zL_5 rfl rfl
theorem zkc_X7_leftHand : Cond.code yX7_leftHand cX7_leftHand 2 (some .boolean) ∈ zT := zT_inc (i := 78) zL_5 rfl rfl
theorem zkm_X2_58 : Cond.methodLink RX2 58 yX7_leftHand ∈ zT := zT_inc (i := 75) zL_5 rfl rfl
theorem zkn_X7_leftHand : Cond.instanceMethod yX7_leftHand ∈ zT := zT_inc (i := 76) zL_5 rfl rfl
theorem zks_X7_leftHand : Cond.selects RX7 yX7_leftHand yX7_leftHand ∈ zT := zT_inc (i := 77) zL_5 rfl rfl
theorem zkm_X2_62 : Cond.methodLink RX2 62 Lib.Math.abs.name ∈ zT := zT_inc (i := 79) zL_5 rfl rfl
theorem zkc_X5_endOf : Cond.code yX5_endOf cX5_endOf 2 (some .int) ∈ zT := zT_inc (i := 132) zL_4 rfl rfl
theorem zkm_X2_68 : Cond.methodLink RX2 68 yX5_endOf ∈ zT := zT_inc (i := 202) zL_4 rfl rfl
theorem zkn_X5_endOf : Cond.instanceMethod yX5_endOf ∈ zT := zT_inc (i := 130) zL_4 rfl rfl
theorem zks_X5_endOf : Cond.selects RX5 yX5_endOf yX5_endOf ∈ zT := zT_inc (i := 131) zL_4 rfl rfl
theorem zkf_X2_65 : Cond.fieldLink RX2 65 "GlassSpindle$Piece" "from" "[I" ∈ zT := zT_inc (i := 225) zL_1 rfl rfl
theorem zkf_X2_71 : Cond.fieldLink RX2 71 "GlassSpindle$Piece" "finger" "[I" ∈ zT := zT_inc (i := 237) zL_1 rfl rfl
theorem zkm_X2_74 : Cond.methodLink RX2 74 yX5_follows ∈ zT := zT_inc (i := 93) zL_5 rfl rfl
theorem zkf_X3_23 : Cond.fieldLink RX3 23 "GlassSpindle$Law" "facts" "[I" ∈ zT := zT_inc (i := 78) zL_2 rfl rfl
theorem zkf_X3_26 : Cond.fieldLink RX3 26 "GlassSpindle$Law" "setup" "LGlassSpindle$Setup;" ∈ zT := zT_inc (i := 76) zL_2 rfl rfl
theorem zkf_X3_30 : Cond.fieldLink RX3 30 "GlassSpindle$Setup" "speaks" "I" ∈ zT := zT_inc (i := 123) zL_1 rfl rfl
theorem zkc_X3_valueOf : Cond.code yX3_valueOf cX3_valueOf 6 (some .int) ∈ zT := zT_inc (i := 223) zL_4 rfl rfl
theorem zki_X3 : Cond.initialized RX3 ∈ zT := zT_inc (i := 9) zL_1 rfl rfl
theorem zkm_X3_36 : Cond.methodLink RX3 36 yX3_valueOf ∈ zT := zT_inc (i := 220) zL_4 rfl rfl
theorem zkn_X3_valueOf : Cond.instanceMethod yX3_valueOf ∈ zT := zT_inc (i := 222) zL_4 rfl rfl
theorem zks_X3_valueOf : Cond.selects RX3 yX3_valueOf yX3_valueOf ∈ zT := zT_inc (i := 35) zL_0 (by decide +kernel) rfl
theorem zkf_X3_40 : Cond.fieldLink RX3 40 "GlassSpindle$Setup" "codeEnd" "[I" ∈ zT := zT_inc (i := 132) zL_1 rfl rfl
theorem zkf_X3_43 : Cond.fieldLink RX3 43 "GlassSpindle$Setup" "code" "[I" ∈ zT := zT_inc (i := 129) zL_1 rfl rfl
theorem zkc_X3_isOperand : Cond.code yX3_isOperand cX3_isOperand 1 (some .boolean) ∈ zT := zT_inc (i := 226) zL_4 rfl rfl
theorem zkm_X3_46 : Cond.methodLink RX3 46 yX3_isOperand ∈ zT := zT_inc (i := 224) zL_4 rfl rfl
theorem zkt_X3_isOperand : Cond.static yX3_isOperand ∈ zT := zT_inc (i := 225) zL_4 rfl rfl
theorem zkf_X3_9 : Cond.fieldLink RX3 9 "GlassSpindle$Law" "stack" "[I" ∈ zT := zT_inc (i := 77) zL_2 rfl rfl
theorem zkc_X3_joined : Cond.code yX3_joined cX3_joined 3 (some .int) ∈ zT := zT_inc (i := 229) zL_4 rfl rfl
theorem zkm_X3_50 : Cond.methodLink RX3 50 yX3_joined ∈ zT := zT_inc (i := 227) zL_4 rfl rfl
theorem zkt_X3_joined : Cond.static yX3_joined ∈ zT := zT_inc (i := 228) zL_4 rfl rfl
theorem zkc_X4_learn : Cond.code yX4_learn cX4_learn 3 (some .boolean) ∈ zT := zT_inc (i := 70) zL_6 rfl rfl
theorem zkm_X4_32 : Cond.methodLink RX4 32 yX4_learn ∈ zT := zT_inc (i := 67) zL_6 rfl rfl
theorem zkn_X4_learn : Cond.instanceMethod yX4_learn ∈ zT := zT_inc (i := 69) zL_6 rfl rfl
theorem zks_X4_learn : Cond.selects RX4 yX4_learn yX4_learn ∈ zT := zT_inc (i := 63) zL_0 (by decide +kernel) rfl
theorem zkf_X4_18 : Cond.fieldLink RX4 18 "GlassSpindle$Ordering" "least" "[I" ∈ zT := zT_inc (i := 216) zL_2 rfl rfl
theorem zkf_X4_24 : Cond.fieldLink RX4 24 "GlassSpindle$Ordering" "setup" "LGlassSpindle$Setup;" ∈ zT := zT_inc (i := 211) zL_2 rfl rfl
theorem zkf_X4_36 : Cond.fieldLink RX4 36 "GlassSpindle$Setup" "places" "I" ∈ zT := zT_inc (i := 80) zL_1 rfl rfl
theorem zkf_X4_21 : Cond.fieldLink RX4 21 "GlassSpindle$Ordering" "found" "[I" ∈ zT := zT_inc (i := 217) zL_2 rfl rfl
theorem zkf_X4_42 : Cond.fieldLink RX4 42 "GlassSpindle$Ordering" "known" "Z" ∈ zT := zT_inc (i := 218) zL_2 rfl rfl
theorem zkc_X4_listNodes : Cond.code yX4_listNodes cX4_listNodes 3 none ∈ zT := zT_inc (i := 74) zL_6 rfl rfl
theorem zkm_X4_46 : Cond.methodLink RX4 46 yX4_listNodes ∈ zT := zT_inc (i := 71) zL_6 rfl rfl
theorem zkn_X4_listNodes : Cond.instanceMethod yX4_listNodes ∈ zT := zT_inc (i := 73) zL_6 rfl rfl
theorem zks_X4_listNodes : Cond.selects RX4 yX4_listNodes yX4_listNodes ∈ zT := zT_inc (i := 64) zL_0 (by decide +kernel) rfl
theorem zkf_X4_49 : Cond.fieldLink RX4 49 "GlassSpindle$Ordering" "nodes" "I" ∈ zT := zT_inc (i := 215) zL_2 rfl rfl
theorem zkc_X4_passes : Cond.code yX4_passes cX4_passes 4 (some .int) ∈ zT := zT_inc (i := 79) zL_6 rfl rfl
theorem zkm_X4_52 : Cond.methodLink RX4 52 yX4_passes ∈ zT := zT_inc (i := 76) zL_6 rfl rfl
theorem zkn_X4_passes : Cond.instanceMethod yX4_passes ∈ zT := zT_inc (i := 78) zL_6 rfl rfl
theorem zks_X4_passes : Cond.selects RX4 yX4_passes yX4_passes ∈ zT := zT_inc (i := 65) zL_0 (by decide +kernel) rfl
theorem zkc_X4_nextOf : Cond.code yX4_nextOf cX4_nextOf 5 (some .int) ∈ zT := zT_inc (i := 83) zL_6 rfl rfl
theorem zkm_X4_56 : Cond.methodLink RX4 56 yX4_nextOf ∈ zT := zT_inc (i := 80) zL_6 rfl rfl
theorem zkn_X4_nextOf : Cond.instanceMethod yX4_nextOf ∈ zT := zT_inc (i := 82) zL_6 rfl rfl
theorem zks_X4_nextOf : Cond.selects RX4 yX4_nextOf yX4_nextOf ∈ zT := zT_inc (i := 66) zL_0 (by decide +kernel) rfl
theorem zkc_X4_follow : Cond.code yX4_follow cX4_follow 4 none ∈ zT := zT_inc (i := 88) zL_6 rfl rfl
theorem zkm_X4_59 : Cond.methodLink RX4 59 yX4_follow ∈ zT := zT_inc (i := 85) zL_6 rfl rfl
theorem zkn_X4_follow : Cond.instanceMethod yX4_follow ∈ zT := zT_inc (i := 87) zL_6 rfl rfl
theorem zks_X4_follow : Cond.selects RX4 yX4_follow yX4_follow ∈ zT := zT_inc (i := 67) zL_0 (by decide +kernel) rfl
theorem zkf_X4_62 : Cond.fieldLink RX4 62 "GlassSpindle$Setup" "bowls" "I" ∈ zT := zT_inc (i := 74) zL_1 rfl rfl
theorem zkm_X4_65 : Cond.methodLink RX4 65 yX7_hasPlace ∈ zT := zT_inc (i := 75) zL_6 rfl rfl
theorem zkf_X4_9 : Cond.fieldLink RX4 9 "GlassSpindle$Ordering" "bowlOf" "[I" ∈ zT := zT_inc (i := 213) zL_2 rfl rfl
theorem zkf_X4_28 : Cond.fieldLink RX4 28 "GlassSpindle$Ordering" "piece" "LGlassSpindle$Piece;" ∈ zT := zT_inc (i := 212) zL_2 rfl rfl
theorem zkf_X4_69 : Cond.fieldLink RX4 69 "GlassSpindle$Piece" "notes" "I" ∈ zT := zT_inc (i := 214) zL_1 rfl rfl
theorem zkf_X4_74 : Cond.fieldLink RX4 74 "GlassSpindle$Piece" "bowl" "[I" ∈ zT := zT_inc (i := 220) zL_1 rfl rfl
theorem zkf_X4_15 : Cond.fieldLink RX4 15 "GlassSpindle$Ordering" "nodeOf" "[I" ∈ zT := zT_inc (i := 214) zL_2 rfl rfl
theorem zkm_X4_77 : Cond.methodLink RX4 77 Lib.Math.max.name ∈ zT := zT_inc (i := 84) zL_6 rfl rfl
theorem zkf_X5_27 : Cond.fieldLink RX5 27 "GlassSpindle$Piece" "notes" "I" ∈ zT := zT_inc (i := 211) zL_1 rfl rfl
theorem zkf_X5_9 : Cond.fieldLink RX5 9 "GlassSpindle$Piece" "bowl" "[I" ∈ zT := zT_inc (i := 217) zL_1 rfl rfl
theorem zkm_X5_31 : Cond.methodLink RX5 31 arraycopyName ∈ zT := zT_inc (i := 109) zL_6 rfl rfl
theorem zkf_X5_15 : Cond.fieldLink RX5 15 "GlassSpindle$Piece" "from" "[I" ∈ zT := zT_inc (i := 223) zL_1 rfl rfl
theorem zkf_X5_18 : Cond.fieldLink RX5 18 "GlassSpindle$Piece" "length" "[I" ∈ zT := zT_inc (i := 228) zL_1 rfl rfl
theorem zkf_X5_21 : Cond.fieldLink RX5 21 "GlassSpindle$Piece" "press" "[I" ∈ zT := zT_inc (i := 232) zL_1 rfl rfl
theorem zkf_X5_24 : Cond.fieldLink RX5 24 "GlassSpindle$Piece" "finger" "[I" ∈ zT := zT_inc (i := 236) zL_1 rfl rfl
theorem zkm_X5_37 : Cond.methodLink RX5 37 yX5_has ∈ zT := zT_inc (i := 128) zL_4 rfl rfl
theorem zkm_X5_41 : Cond.methodLink RX5 41 yX5_endOf ∈ zT := zT_inc (i := 129) zL_4 rfl rfl
theorem zkm_X5_45 : Cond.methodLink RX5 45 yX5_lasts ∈ zT := zT_inc (i := 124) zL_4 rfl rfl
theorem zkf_X6_19 : Cond.fieldLink RX6 19 "GlassSpindle$Reader" "out" "LGlassSpindle$Setup;" ∈ zT := zT_inc (i := 187) zL_1 rfl rfl
theorem zkc_X7_clear : Cond.code yX7_clear cX7_clear 1 none ∈ zT := zT_inc (i := 56) zL_3 rfl rfl
theorem zkm_X6_23 : Cond.methodLink RX6 23 yX7_clear ∈ zT := zT_inc (i := 53) zL_3 rfl rfl
theorem zkn_X7_clear : Cond.instanceMethod yX7_clear ∈ zT := zT_inc (i := 54) zL_3 rfl rfl
theorem zks_X7_clear : Cond.selects RX7 yX7_clear yX7_clear ∈ zT := zT_inc (i := 55) zL_3 rfl rfl
theorem zkf_X6_28 : Cond.fieldLink RX6 28 "GlassSpindle$Reader" "at" "I" ∈ zT := zT_inc (i := 189) zL_1 rfl rfl
theorem zkf_X6_32 : Cond.fieldLink RX6 32 "GlassSpindle$Reader" "told" "I" ∈ zT := zT_inc (i := 190) zL_1 rfl rfl
theorem zkf_X6_35 : Cond.fieldLink RX6 35 "GlassSpindle$Reader" "fault" "I" ∈ zT := zT_inc (i := 191) zL_1 rfl rfl
theorem zkf_X6_15 : Cond.fieldLink RX6 15 "GlassSpindle$Reader" "tape" "LGlassSpindle$Tape;" ∈ zT := zT_inc (i := 186) zL_1 rfl rfl
theorem zkc_X8_split : Cond.code yX8_split cX8_split 4 none ∈ zT := zT_inc (i := 63) zL_3 rfl rfl
theorem zkm_X6_38 : Cond.methodLink RX6 38 yX8_split ∈ zT := zT_inc (i := 60) zL_3 rfl rfl
theorem zkn_X8_split : Cond.instanceMethod yX8_split ∈ zT := zT_inc (i := 61) zL_3 rfl rfl
theorem zks_X8_split : Cond.selects RX8 yX8_split yX8_split ∈ zT := zT_inc (i := 62) zL_3 rfl rfl
theorem zkc_X6_seen : Cond.code yX6_seen cX6_seen 1 (some .int) ∈ zT := zT_inc (i := 200) zL_3 rfl rfl
theorem zkm_X6_43 : Cond.methodLink RX6 43 yX6_seen ∈ zT := zT_inc (i := 197) zL_3 rfl rfl
theorem zkn_X6_seen : Cond.instanceMethod yX6_seen ∈ zT := zT_inc (i := 199) zL_3 rfl rfl
theorem zks_X6_seen : Cond.selects RX6 yX6_seen yX6_seen ∈ zT := zT_inc (i := 8) zL_0 (by decide +kernel) rfl
theorem zkc_X6_line : Cond.code yX6_line cX6_line 1 (some .boolean) ∈ zT := zT_inc (i := 208) zL_3 rfl rfl
theorem zkm_X6_47 : Cond.methodLink RX6 47 yX6_line ∈ zT := zT_inc (i := 205) zL_3 rfl rfl
theorem zkn_X6_line : Cond.instanceMethod yX6_line ∈ zT := zT_inc (i := 207) zL_3 rfl rfl
theorem zks_X6_line : Cond.selects RX6 yX6_line yX6_line ∈ zT := zT_inc (i := 9) zL_0 (by decide +kernel) rfl
theorem zkc_X6_placeSeen : Cond.code yX6_placeSeen cX6_placeSeen 1 (some .int) ∈ zT := zT_inc (i := 232) zL_3 rfl rfl
theorem zkm_X6_51 : Cond.methodLink RX6 51 yX6_placeSeen ∈ zT := zT_inc (i := 229) zL_3 rfl rfl
theorem zkn_X6_placeSeen : Cond.instanceMethod yX6_placeSeen ∈ zT := zT_inc (i := 231) zL_3 rfl rfl
theorem zks_X6_placeSeen : Cond.selects RX6 yX6_placeSeen yX6_placeSeen ∈ zT := zT_inc (i := 15) zL_0 (by decide +kernel) rfl
theorem zkc_X8_tokenAt : Cond.code yX8_tokenAt cX8_tokenAt 2 (some .int) ∈ zT := zT_inc (i := 204) zL_3 rfl rfl
theorem zkm_X6_54 : Cond.methodLink RX6 54 yX8_tokenAt ∈ zT := zT_inc (i := 201) zL_3 rfl rfl
theorem zkn_X8_tokenAt : Cond.instanceMethod yX8_tokenAt ∈ zT := zT_inc (i := 202) zL_3 rfl rfl
theorem zks_X8_tokenAt : Cond.selects RX8 yX8_tokenAt yX8_tokenAt ∈ zT := zT_inc (i := 203) zL_3 rfl rfl
theorem zkc_X8_placeAt : Cond.code yX8_placeAt cX8_placeAt 2 (some .int) ∈ zT := zT_inc (i := 236) zL_3 rfl rfl
theorem zkm_X6_58 : Cond.methodLink RX6 58 yX8_placeAt ∈ zT := zT_inc (i := 233) zL_3 rfl rfl
theorem zkn_X8_placeAt : Cond.instanceMethod yX8_placeAt ∈ zT := zT_inc (i := 234) zL_3 rfl rfl
theorem zks_X8_placeAt : Cond.selects RX8 yX8_placeAt yX8_placeAt ∈ zT := zT_inc (i := 235) zL_3 rfl rfl
theorem zkc_X6_refuse : Cond.code yX6_refuse cX6_refuse 2 (some .boolean) ∈ zT := zT_inc (i := 224) zL_3 rfl rfl
theorem zkm_X6_61 : Cond.methodLink RX6 61 yX6_refuse ∈ zT := zT_inc (i := 221) zL_3 rfl rfl
theorem zkn_X6_refuse : Cond.instanceMethod yX6_refuse ∈ zT := zT_inc (i := 223) zL_3 rfl rfl
theorem zks_X6_refuse : Cond.selects RX6 yX6_refuse yX6_refuse ∈ zT := zT_inc (i := 13) zL_0 (by decide +kernel) rfl
theorem zkf_X6_65 : Cond.fieldLink RX6 65 "GlassSpindle$Setup" "bowls" "I" ∈ zT := zT_inc (i := 76) zL_1 rfl rfl
theorem zkc_X6_bowlLine : Cond.code yX6_bowlLine cX6_bowlLine 4 (some .boolean) ∈ zT := zT_inc (i := 212) zL_3 rfl rfl
theorem zkm_X6_68 : Cond.methodLink RX6 68 yX6_bowlLine ∈ zT := zT_inc (i := 209) zL_3 rfl rfl
theorem zkn_X6_bowlLine : Cond.instanceMethod yX6_bowlLine ∈ zT := zT_inc (i := 211) zL_3 rfl rfl
theorem zks_X6_bowlLine : Cond.selects RX6 yX6_bowlLine yX6_bowlLine ∈ zT := zT_inc (i := 10) zL_0 (by decide +kernel) rfl
theorem zkf_X6_71 : Cond.fieldLink RX6 71 "GlassSpindle$Setup" "pairs" "I" ∈ zT := zT_inc (i := 106) zL_1 rfl rfl
theorem zkc_X6_pairLine : Cond.code yX6_pairLine cX6_pairLine 3 (some .boolean) ∈ zT := zT_inc (i := 20) zL_4 rfl rfl
theorem zkm_X6_74 : Cond.methodLink RX6 74 yX6_pairLine ∈ zT := zT_inc (i := 17) zL_4 rfl rfl
theorem zkn_X6_pairLine : Cond.instanceMethod yX6_pairLine ∈ zT := zT_inc (i := 19) zL_4 rfl rfl
theorem zks_X6_pairLine : Cond.selects RX6 yX6_pairLine yX6_pairLine ∈ zT := zT_inc (i := 19) zL_0 (by decide +kernel) rfl
theorem zkf_X6_77 : Cond.fieldLink RX6 77 "GlassSpindle$Setup" "speaks" "I" ∈ zT := zT_inc (i := 124) zL_1 rfl rfl
theorem zkc_X6_speakLine : Cond.code yX6_speakLine cX6_speakLine 1 (some .boolean) ∈ zT := zT_inc (i := 28) zL_4 rfl rfl
theorem zkm_X6_80 : Cond.methodLink RX6 80 yX6_speakLine ∈ zT := zT_inc (i := 25) zL_4 rfl rfl
theorem zkn_X6_speakLine : Cond.instanceMethod yX6_speakLine ∈ zT := zT_inc (i := 27) zL_4 rfl rfl
theorem zks_X6_speakLine : Cond.selects RX6 yX6_speakLine yX6_speakLine ∈ zT := zT_inc (i := 21) zL_0 (by decide +kernel) rfl
theorem zkc_X6_setLine : Cond.code yX6_setLine cX6_setLine 2 (some .boolean) ∈ zT := zT_inc (i := 51) zL_4 rfl rfl
theorem zkm_X6_83 : Cond.methodLink RX6 83 yX6_setLine ∈ zT := zT_inc (i := 48) zL_4 rfl rfl
theorem zkn_X6_setLine : Cond.instanceMethod yX6_setLine ∈ zT := zT_inc (i := 50) zL_4 rfl rfl
theorem zks_X6_setLine : Cond.selects RX6 yX6_setLine yX6_setLine ∈ zT := zT_inc (i := 24) zL_0 (by decide +kernel) rfl
theorem zkc_X6_newName : Cond.code yX6_newName cX6_newName 2 (some .boolean) ∈ zT := zT_inc (i := 216) zL_3 rfl rfl
theorem zkm_X6_86 : Cond.methodLink RX6 86 yX6_newName ∈ zT := zT_inc (i := 213) zL_3 rfl rfl
theorem zkn_X6_newName : Cond.instanceMethod yX6_newName ∈ zT := zT_inc (i := 215) zL_3 rfl rfl
theorem zks_X6_newName : Cond.selects RX6 yX6_newName yX6_newName ∈ zT := zT_inc (i := 11) zL_0 (by decide +kernel) rfl
theorem zkc_X6_take : Cond.code yX6_take cX6_take 2 (some .boolean) ∈ zT := zT_inc (i := 8) zL_4 rfl rfl
theorem zkm_X6_89 : Cond.methodLink RX6 89 yX6_take ∈ zT := zT_inc (i := 5) zL_4 rfl rfl
theorem zkn_X6_take : Cond.instanceMethod yX6_take ∈ zT := zT_inc (i := 7) zL_4 rfl rfl
theorem zks_X6_take : Cond.selects RX6 yX6_take yX6_take ∈ zT := zT_inc (i := 17) zL_0 (by decide +kernel) rfl
theorem zkc_X7_putBowl : Cond.code yX7_putBowl cX7_putBowl 2 none ∈ zT := zT_inc (i := 16) zL_4 rfl rfl
theorem zkm_X6_105 : Cond.methodLink RX6 105 yX7_putBowl ∈ zT := zT_inc (i := 13) zL_4 rfl rfl
theorem zkn_X7_putBowl : Cond.instanceMethod yX7_putBowl ∈ zT := zT_inc (i := 14) zL_4 rfl rfl
theorem zks_X7_putBowl : Cond.selects RX7 yX7_putBowl yX7_putBowl ∈ zT := zT_inc (i := 15) zL_4 rfl rfl
theorem zkf_X6_92 : Cond.fieldLink RX6 92 "GlassSpindle$Setup" "tone" "[I" ∈ zT := zT_inc (i := 84) zL_1 rfl rfl
theorem zkc_X6_number : Cond.code yX6_number cX6_number 6 (some .boolean) ∈ zT := zT_inc (i := 12) zL_4 rfl rfl
theorem zkm_X6_95 : Cond.methodLink RX6 95 yX6_number ∈ zT := zT_inc (i := 9) zL_4 rfl rfl
theorem zkn_X6_number : Cond.instanceMethod yX6_number ∈ zT := zT_inc (i := 11) zL_4 rfl rfl
theorem zks_X6_number : Cond.selects RX6 yX6_number yX6_number ∈ zT := zT_inc (i := 18) zL_0 (by decide +kernel) rfl
theorem zkf_X6_99 : Cond.fieldLink RX6 99 "GlassSpindle$Setup" "size" "[I" ∈ zT := zT_inc (i := 89) zL_1 rfl rfl
theorem zkf_X6_102 : Cond.fieldLink RX6 102 "GlassSpindle$Setup" "wall" "[I" ∈ zT := zT_inc (i := 95) zL_1 rfl rfl
theorem zkf_X6_9 : Cond.fieldLink RX6 9 "GlassSpindle$Reader" "names" "[I" ∈ zT := zT_inc (i := 188) zL_1 rfl rfl
theorem zkc_X8_sameWord : Cond.code yX8_sameWord cX8_sameWord 6 (some .boolean) ∈ zT := zT_inc (i := 0) zL_4 rfl rfl
theorem zkm_X6_109 : Cond.methodLink RX6 109 yX8_sameWord ∈ zT := zT_inc (i := 237) zL_3 rfl rfl
theorem zkn_X8_sameWord : Cond.instanceMethod yX8_sameWord ∈ zT := zT_inc (i := 238) zL_3 rfl rfl
theorem zks_X8_sameWord : Cond.selects RX8 yX8_sameWord yX8_sameWord ∈ zT := zT_inc (i := 239) zL_3 rfl rfl
theorem zkc_X6_isName : Cond.code yX6_isName cX6_isName 1 (some .boolean) ∈ zT := zT_inc (i := 220) zL_3 rfl rfl
theorem zkm_X6_113 : Cond.methodLink RX6 113 yX6_isName ∈ zT := zT_inc (i := 217) zL_3 rfl rfl
theorem zkn_X6_isName : Cond.instanceMethod yX6_isName ∈ zT := zT_inc (i := 219) zL_3 rfl rfl
theorem zks_X6_isName : Cond.selects RX6 yX6_isName yX6_isName ∈ zT := zT_inc (i := 12) zL_0 (by decide +kernel) rfl
theorem zkc_X6_bowlSeen : Cond.code yX6_bowlSeen cX6_bowlSeen 2 (some .int) ∈ zT := zT_inc (i := 228) zL_3 rfl rfl
theorem zkm_X6_116 : Cond.methodLink RX6 116 yX6_bowlSeen ∈ zT := zT_inc (i := 225) zL_3 rfl rfl
theorem zkn_X6_bowlSeen : Cond.instanceMethod yX6_bowlSeen ∈ zT := zT_inc (i := 227) zL_3 rfl rfl
theorem zks_X6_bowlSeen : Cond.selects RX6 yX6_bowlSeen yX6_bowlSeen ∈ zT := zT_inc (i := 14) zL_0 (by decide +kernel) rfl
theorem zkf_X6_119 : Cond.fieldLink RX6 119 "GlassSpindle$Setup" "first" "[I" ∈ zT := zT_inc (i := 110) zL_1 rfl rfl
theorem zkc_X6_toldName : Cond.code yX6_toldName cX6_toldName 5 (some .boolean) ∈ zT := zT_inc (i := 24) zL_4 rfl rfl
theorem zkm_X6_122 : Cond.methodLink RX6 122 yX6_toldName ∈ zT := zT_inc (i := 21) zL_4 rfl rfl
theorem zkn_X6_toldName : Cond.instanceMethod yX6_toldName ∈ zT := zT_inc (i := 23) zL_4 rfl rfl
theorem zks_X6_toldName : Cond.selects RX6 yX6_toldName yX6_toldName ∈ zT := zT_inc (i := 20) zL_0 (by decide +kernel) rfl
theorem zkf_X6_126 : Cond.fieldLink RX6 126 "GlassSpindle$Setup" "firstNumber" "[I" ∈ zT := zT_inc (i := 112) zL_1 rfl rfl
theorem zkf_X6_129 : Cond.fieldLink RX6 129 "GlassSpindle$Setup" "second" "[I" ∈ zT := zT_inc (i := 115) zL_1 rfl rfl
theorem zkf_X6_132 : Cond.fieldLink RX6 132 "GlassSpindle$Setup" "secondNumber" "[I" ∈ zT := zT_inc (i := 117) zL_1 rfl rfl
theorem zkf_X6_135 : Cond.fieldLink RX6 135 "GlassSpindle$Setup" "within" "[I" ∈ zT := zT_inc (i := 119) zL_1 rfl rfl
theorem zkf_X6_138 : Cond.fieldLink RX6 138 "GlassSpindle$Setup" "settings" "[I" ∈ zT := zT_inc (i := 139) zL_1 rfl rfl
theorem zkc_X6_chain : Cond.code yX6_chain cX6_chain 6 (some .boolean) ∈ zT := zT_inc (i := 32) zL_4 rfl rfl
theorem zkm_X6_147 : Cond.methodLink RX6 147 yX6_chain ∈ zT := zT_inc (i := 29) zL_4 rfl rfl
theorem zkn_X6_chain : Cond.instanceMethod yX6_chain ∈ zT := zT_inc (i := 31) zL_4 rfl rfl
theorem zks_X6_chain : Cond.selects RX6 yX6_chain yX6_chain ∈ zT := zT_inc (i := 22) zL_0 (by decide +kernel) rfl
theorem zkc_X7_endSpeak : Cond.code yX7_endSpeak cX7_endSpeak 1 none ∈ zT := zT_inc (i := 47) zL_4 rfl rfl
theorem zkm_X6_150 : Cond.methodLink RX6 150 yX7_endSpeak ∈ zT := zT_inc (i := 44) zL_4 rfl rfl
theorem zkn_X7_endSpeak : Cond.instanceMethod yX7_endSpeak ∈ zT := zT_inc (i := 45) zL_4 rfl rfl
theorem zks_X7_endSpeak : Cond.selects RX7 yX7_endSpeak yX7_endSpeak ∈ zT := zT_inc (i := 46) zL_4 rfl rfl
theorem zkc_X6_levelOf : Cond.code yX6_levelOf cX6_levelOf 1 (some .int) ∈ zT := zT_inc (i := 43) zL_4 rfl rfl
theorem zkm_X6_156 : Cond.methodLink RX6 156 yX6_levelOf ∈ zT := zT_inc (i := 41) zL_4 rfl rfl
theorem zkt_X6_levelOf : Cond.static yX6_levelOf ∈ zT := zT_inc (i := 42) zL_4 rfl rfl
theorem zkc_X7_putCode : Cond.code yX7_putCode cX7_putCode 2 none ∈ zT := zT_inc (i := 40) zL_4 rfl rfl
theorem zkm_X6_159 : Cond.methodLink RX6 159 yX7_putCode ∈ zT := zT_inc (i := 37) zL_4 rfl rfl
theorem zkn_X7_putCode : Cond.instanceMethod yX7_putCode ∈ zT := zT_inc (i := 38) zL_4 rfl rfl
theorem zks_X7_putCode : Cond.selects RX7 yX7_putCode yX7_putCode ∈ zT := zT_inc (i := 39) zL_4 rfl rfl
theorem zkc_X6_part : Cond.code yX6_part cX6_part 5 (some .boolean) ∈ zT := zT_inc (i := 36) zL_4 rfl rfl
theorem zkm_X6_153 : Cond.methodLink RX6 153 yX6_part ∈ zT := zT_inc (i := 33) zL_4 rfl rfl
theorem zkn_X6_part : Cond.instanceMethod yX6_part ∈ zT := zT_inc (i := 35) zL_4 rfl rfl
theorem zks_X6_part : Cond.selects RX6 yX6_part yX6_part ∈ zT := zT_inc (i := 23) zL_0 (by decide +kernel) rfl
theorem zkf_X7_59 : Cond.fieldLink RX7 59 "GlassSpindle$Setup" "bowls" "I" ∈ zT := zT_inc (i := 72) zL_1 rfl rfl
theorem zkf_X7_63 : Cond.fieldLink RX7 63 "GlassSpindle$Setup" "places" "I" ∈ zT := zT_inc (i := 79) zL_1 rfl rfl
theorem zkf_X7_66 : Cond.fieldLink RX7 66 "GlassSpindle$Setup" "pairs" "I" ∈ zT := zT_inc (i := 104) zL_1 rfl rfl
theorem zkf_X7_69 : Cond.fieldLink RX7 69 "GlassSpindle$Setup" "speaks" "I" ∈ zT := zT_inc (i := 122) zL_1 rfl rfl
theorem zkf_X7_72 : Cond.fieldLink RX7 72 "GlassSpindle$Setup" "swift" "I" ∈ zT := zT_inc (i := 126) zL_1 rfl rfl
theorem zkf_X7_75 : Cond.fieldLink RX7 75 "GlassSpindle$Setup" "codes" "I" ∈ zT := zT_inc (i := 130) zL_1 rfl rfl
theorem zkf_X7_56 : Cond.fieldLink RX7 56 "GlassSpindle$Setup" "settings" "[I" ∈ zT := zT_inc (i := 133) zL_1 rfl rfl
theorem zkm_X7_78 : Cond.methodLink RX7 78 arraycopyName ∈ zT := zT_inc (i := 57) zL_3 rfl rfl
theorem zkf_X7_9 : Cond.fieldLink RX7 9 "GlassSpindle$Setup" "tone" "[I" ∈ zT := zT_inc (i := 82) zL_1 rfl rfl
theorem zkf_X7_15 : Cond.fieldLink RX7 15 "GlassSpindle$Setup" "size" "[I" ∈ zT := zT_inc (i := 86) zL_1 rfl rfl
theorem zkf_X7_18 : Cond.fieldLink RX7 18 "GlassSpindle$Setup" "wall" "[I" ∈ zT := zT_inc (i := 91) zL_1 rfl rfl
theorem zkf_X7_21 : Cond.fieldLink RX7 21 "GlassSpindle$Setup" "kind" "[I" ∈ zT := zT_inc (i := 96) zL_1 rfl rfl
theorem zkf_X7_24 : Cond.fieldLink RX7 24 "GlassSpindle$Setup" "place" "[I" ∈ zT := zT_inc (i := 100) zL_1 rfl rfl
theorem zkf_X7_27 : Cond.fieldLink RX7 27 "GlassSpindle$Setup" "first" "[I" ∈ zT := zT_inc (i := 108) zL_1 rfl rfl
theorem zkf_X7_30 : Cond.fieldLink RX7 30 "GlassSpindle$Setup" "firstNumber" "[I" ∈ zT := zT_inc (i := 111) zL_1 rfl rfl
theorem zkf_X7_33 : Cond.fieldLink RX7 33 "GlassSpindle$Setup" "second" "[I" ∈ zT := zT_inc (i := 113) zL_1 rfl rfl
theorem zkf_X7_36 : Cond.fieldLink RX7 36 "GlassSpindle$Setup" "secondNumber" "[I" ∈ zT := zT_inc (i := 116) zL_1 rfl rfl
theorem zkf_X7_39 : Cond.fieldLink RX7 39 "GlassSpindle$Setup" "within" "[I" ∈ zT := zT_inc (i := 118) zL_1 rfl rfl
theorem zkf_X7_42 : Cond.fieldLink RX7 42 "GlassSpindle$Setup" "code" "[I" ∈ zT := zT_inc (i := 128) zL_1 rfl rfl
theorem zkf_X7_45 : Cond.fieldLink RX7 45 "GlassSpindle$Setup" "codeEnd" "[I" ∈ zT := zT_inc (i := 131) zL_1 rfl rfl
theorem zkm_X7_84 : Cond.methodLink RX7 84 yX7_hasBowl ∈ zT := zT_inc (i := 84) zL_4 rfl rfl
theorem zkm_X7_88 : Cond.methodLink RX7 88 yX7_speedAt ∈ zT := zT_inc (i := 178) zL_5 rfl rfl
theorem zkm_X7_92 : Cond.methodLink RX7 92 Lib.Math.abs.name ∈ zT := zT_inc (i := 20) zL_5 rfl rfl
theorem zkc_X7_apart : Cond.code yX7_apart cX7_apart 3 (some .int) ∈ zT := zT_inc (i := 19) zL_5 rfl rfl
theorem zkm_X7_98 : Cond.methodLink RX7 98 yX7_apart ∈ zT := zT_inc (i := 40) zL_6 rfl rfl
theorem zkn_X7_apart : Cond.instanceMethod yX7_apart ∈ zT := zT_inc (i := 17) zL_5 rfl rfl
theorem zks_X7_apart : Cond.selects RX7 yX7_apart yX7_apart ∈ zT := zT_inc (i := 18) zL_5 rfl rfl
theorem zkf_X8_19 : Cond.fieldLink RX8 19 "GlassSpindle$Tape" "length" "I" ∈ zT := zT_inc (i := 43) zL_1 rfl rfl
theorem zkf_X8_9 : Cond.fieldLink RX8 9 "GlassSpindle$Tape" "signs" "[C" ∈ zT := zT_inc (i := 41) zL_1 rfl rfl
theorem zkf_X8_23 : Cond.fieldLink RX8 23 "GlassSpindle$Tape" "tokens" "I" ∈ zT := zT_inc (i := 45) zL_1 rfl rfl
theorem zkc_X8_endOf : Cond.code yX8_endOf cX8_endOf 3 (some .int) ∈ zT := zT_inc (i := 67) zL_3 rfl rfl
theorem zkm_X8_26 : Cond.methodLink RX8 26 yX8_endOf ∈ zT := zT_inc (i := 64) zL_3 rfl rfl
theorem zkn_X8_endOf : Cond.instanceMethod yX8_endOf ∈ zT := zT_inc (i := 66) zL_3 rfl rfl
theorem zks_X8_endOf : Cond.selects RX8 yX8_endOf yX8_endOf ∈ zT := zT_inc (i := 0) zL_0 (by decide +kernel) rfl
theorem zkc_X8_tokenFrom : Cond.code yX8_tokenFrom cX8_tokenFrom 3 (some .int) ∈ zT := zT_inc (i := 79) zL_3 rfl rfl
theorem zkm_X8_30 : Cond.methodLink RX8 30 yX8_tokenFrom ∈ zT := zT_inc (i := 76) zL_3 rfl rfl
theorem zkn_X8_tokenFrom : Cond.instanceMethod yX8_tokenFrom ∈ zT := zT_inc (i := 78) zL_3 rfl rfl
theorem zks_X8_tokenFrom : Cond.selects RX8 yX8_tokenFrom yX8_tokenFrom ∈ zT := zT_inc (i := 3) zL_0 (by decide +kernel) rfl
theorem zkc_X8_put : Cond.code yX8_put cX8_put 3 none ∈ zT := zT_inc (i := 195) zL_3 rfl rfl
theorem zkm_X8_34 : Cond.methodLink RX8 34 yX8_put ∈ zT := zT_inc (i := 192) zL_3 rfl rfl
theorem zkn_X8_put : Cond.instanceMethod yX8_put ∈ zT := zT_inc (i := 194) zL_3 rfl rfl
theorem zks_X8_put : Cond.selects RX8 yX8_put yX8_put ∈ zT := zT_inc (i := 7) zL_0 (by decide +kernel) rfl
theorem zkm_X8_38 : Cond.methodLink RX8 38 Lib.Math.max.name ∈ zT := zT_inc (i := 196) zL_3 rfl rfl
theorem zkf_X8_15 : Cond.fieldLink RX8 15 "GlassSpindle$Tape" "row" "[I" ∈ zT := zT_inc (i := 44) zL_1 rfl rfl
theorem zkc_X8_isLetter : Cond.code yX8_isLetter cX8_isLetter 2 (some .boolean) ∈ zT := zT_inc (i := 71) zL_3 rfl rfl
theorem zkm_X8_43 : Cond.methodLink RX8 43 yX8_isLetter ∈ zT := zT_inc (i := 68) zL_3 rfl rfl
theorem zkn_X8_isLetter : Cond.instanceMethod yX8_isLetter ∈ zT := zT_inc (i := 70) zL_3 rfl rfl
theorem zks_X8_isLetter : Cond.selects RX8 yX8_isLetter yX8_isLetter ∈ zT := zT_inc (i := 1) zL_0 (by decide +kernel) rfl
theorem zkc_X8_isDigit : Cond.code yX8_isDigit cX8_isDigit 2 (some .boolean) ∈ zT := zT_inc (i := 75) zL_3 rfl rfl
theorem zkm_X8_47 : Cond.methodLink RX8 47 yX8_isDigit ∈ zT := zT_inc (i := 72) zL_3 rfl rfl
theorem zkn_X8_isDigit : Cond.instanceMethod yX8_isDigit ∈ zT := zT_inc (i := 74) zL_3 rfl rfl
theorem zks_X8_isDigit : Cond.selects RX8 yX8_isDigit yX8_isDigit ∈ zT := zT_inc (i := 2) zL_0 (by decide +kernel) rfl
theorem zkc_X8_valueFrom : Cond.code yX8_valueFrom cX8_valueFrom 5 (some .int) ∈ zT := zT_inc (i := 131) zL_3 rfl rfl
theorem zkm_X8_53 : Cond.methodLink RX8 53 yX8_valueFrom ∈ zT := zT_inc (i := 128) zL_3 rfl rfl
theorem zkn_X8_valueFrom : Cond.instanceMethod yX8_valueFrom ∈ zT := zT_inc (i := 130) zL_3 rfl rfl
theorem zks_X8_valueFrom : Cond.selects RX8 yX8_valueFrom yX8_valueFrom ∈ zT := zT_inc (i := 6) zL_0 (by decide +kernel) rfl
theorem zkc_X8_wordFrom : Cond.code yX8_wordFrom cX8_wordFrom 4 (some .int) ∈ zT := zT_inc (i := 83) zL_3 rfl rfl
theorem zkm_X8_50 : Cond.methodLink RX8 50 yX8_wordFrom ∈ zT := zT_inc (i := 80) zL_3 rfl rfl
theorem zkn_X8_wordFrom : Cond.instanceMethod yX8_wordFrom ∈ zT := zT_inc (i := 82) zL_3 rfl rfl
theorem zks_X8_wordFrom : Cond.selects RX8 yX8_wordFrom yX8_wordFrom ∈ zT := zT_inc (i := 4) zL_0 (by decide +kernel) rfl
theorem zkc_X8_fills : Cond.code yX8_fills cX8_fills 6 (some .boolean) ∈ zT := zT_inc (i := 89) zL_3 rfl rfl
theorem zkm_X8_68 : Cond.methodLink RX8 68 yX8_fills ∈ zT := zT_inc (i := 86) zL_3 rfl rfl
theorem zkn_X8_fills : Cond.instanceMethod yX8_fills ∈ zT := zT_inc (i := 88) zL_3 rfl rfl
theorem zks_X8_fills : Cond.selects RX8 yX8_fills yX8_fills ∈ zT := zT_inc (i := 5) zL_0 (by decide +kernel) rfl
theorem zkc_X8_letterAt : Cond.code yX8_letterAt cX8_letterAt 3 (some .char) ∈ zT := zT_inc (i := 4) zL_4 rfl rfl
theorem zkm_X8_76 : Cond.methodLink RX8 76 yX8_letterAt ∈ zT := zT_inc (i := 1) zL_4 rfl rfl
theorem zkn_X8_letterAt : Cond.instanceMethod yX8_letterAt ∈ zT := zT_inc (i := 3) zL_4 rfl rfl
theorem zks_X8_letterAt : Cond.selects RX8 yX8_letterAt yX8_letterAt ∈ zT := zT_inc (i := 16) zL_0 (by decide +kernel) rfl
theorem zkf_X9_43 : Cond.fieldLink RX9 43 "GlassSpindle$Voice" "known" "Z" ∈ zT := zT_inc (i := 94) zL_2 rfl rfl
theorem zkf_X9_26 : Cond.fieldLink RX9 26 "GlassSpindle$Voice" "warming" "LGlassSpindle$Warming;" ∈ zT := zT_inc (i := 89) zL_2 rfl rfl
theorem zkm_X9_47 : Cond.methodLink RX9 47 yX10_learn ∈ zT := zT_inc (i := 184) zL_4 rfl rfl
theorem zkf_X9_15 : Cond.fieldLink RX9 15 "GlassSpindle$Voice" "spoken" "[I" ∈ zT := zT_inc (i := 93) zL_2 rfl rfl
theorem zkm_X9_52 : Cond.methodLink RX9 52 yJ7_fill_53178 ∈ zT := zT_inc (i := 185) zL_4 rfl rfl
theorem zkf_X9_9 : Cond.fieldLink RX9 9 "GlassSpindle$Voice" "reasons" "[I" ∈ zT := zT_inc (i := 92) zL_2 rfl rfl
theorem zkc_X9_reasonKept : Cond.code yX9_reasonKept cX9_reasonKept 4 (some .int) ∈ zT := zT_inc (i := 178) zL_4 rfl rfl
theorem zkm_X9_58 : Cond.methodLink RX9 58 yX9_reasonKept ∈ zT := zT_inc (i := 175) zL_4 rfl rfl
theorem zkn_X9_reasonKept : Cond.instanceMethod yX9_reasonKept ∈ zT := zT_inc (i := 177) zL_4 rfl rfl
theorem zks_X9_reasonKept : Cond.selects RX9 yX9_reasonKept yX9_reasonKept ∈ zT := zT_inc (i := 29) zL_0 (by decide +kernel) rfl
theorem zkm_X9_62 : Cond.methodLink RX9 62 Lib.Math.min.name ∈ zT := zT_inc (i := 38) zL_5 rfl rfl
theorem zkf_X9_22 : Cond.fieldLink RX9 22 "GlassSpindle$Voice" "piece" "LGlassSpindle$Piece;" ∈ zT := zT_inc (i := 88) zL_2 rfl rfl
theorem zkm_X9_67 : Cond.methodLink RX9 67 yX5_lasts ∈ zT := zT_inc (i := 179) zL_4 rfl rfl
theorem zkc_X9_learn : Cond.code yX9_learn cX9_learn 1 none ∈ zT := zT_inc (i := 183) zL_4 rfl rfl
theorem zkm_X9_73 : Cond.methodLink RX9 73 yX9_learn ∈ zT := zT_inc (i := 180) zL_4 rfl rfl
theorem zkn_X9_learn : Cond.instanceMethod yX9_learn ∈ zT := zT_inc (i := 182) zL_4 rfl rfl
theorem zks_X9_learn : Cond.selects RX9 yX9_learn yX9_learn ∈ zT := zT_inc (i := 30) zL_0 (by decide +kernel) rfl
theorem zkf_X9_74 : Cond.fieldLink RX9 74 "GlassSpindle$Piece" "from" "[I" ∈ zT := zT_inc (i := 224) zL_1 rfl rfl
theorem zkc_X9_reasonFound : Cond.code yX9_reasonFound cX9_reasonFound 5 (some .int) ∈ zT := zT_inc (i := 189) zL_4 rfl rfl
theorem zkm_X9_77 : Cond.methodLink RX9 77 yX9_reasonFound ∈ zT := zT_inc (i := 186) zL_4 rfl rfl
theorem zkn_X9_reasonFound : Cond.instanceMethod yX9_reasonFound ∈ zT := zT_inc (i := 188) zL_4 rfl rfl
theorem zks_X9_reasonFound : Cond.selects RX9 yX9_reasonFound yX9_reasonFound ∈ zT := zT_inc (i := 31) zL_0 (by decide +kernel) rfl
theorem zkf_X9_18 : Cond.fieldLink RX9 18 "GlassSpindle$Voice" "setup" "LGlassSpindle$Setup;" ∈ zT := zT_inc (i := 87) zL_2 rfl rfl
theorem zkf_X9_80 : Cond.fieldLink RX9 80 "GlassSpindle$Setup" "settings" "[I" ∈ zT := zT_inc (i := 135) zL_1 rfl rfl
theorem zkf_X9_85 : Cond.fieldLink RX9 85 "GlassSpindle$Piece" "bowl" "[I" ∈ zT := zT_inc (i := 219) zL_1 rfl rfl
theorem zkc_X10_isCracked : Cond.code yX10_isCracked cX10_isCracked 3 (some .boolean) ∈ zT := zT_inc (i := 193) zL_4 rfl rfl
theorem zkm_X9_88 : Cond.methodLink RX9 88 yX10_isCracked ∈ zT := zT_inc (i := 190) zL_4 rfl rfl
theorem zkn_X10_isCracked : Cond.instanceMethod yX10_isCracked ∈ zT := zT_inc (i := 191) zL_4 rfl rfl
theorem zks_X10_isCracked : Cond.selects RX10 yX10_isCracked yX10_isCracked ∈ zT := zT_inc (i := 192) zL_4 rfl rfl
theorem zkf_X9_30 : Cond.fieldLink RX9 30 "GlassSpindle$Voice" "hands" "LGlassSpindle$Hands;" ∈ zT := zT_inc (i := 90) zL_2 rfl rfl
theorem zkc_X2_driesIn : Cond.code yX2_driesIn cX2_driesIn 3 (some .boolean) ∈ zT := zT_inc (i := 197) zL_4 rfl rfl
theorem zkm_X9_91 : Cond.methodLink RX9 91 yX2_driesIn ∈ zT := zT_inc (i := 194) zL_4 rfl rfl
theorem zkn_X2_driesIn : Cond.instanceMethod yX2_driesIn ∈ zT := zT_inc (i := 195) zL_4 rfl rfl
theorem zks_X2_driesIn : Cond.selects RX2 yX2_driesIn yX2_driesIn ∈ zT := zT_inc (i := 196) zL_4 rfl rfl
theorem zkc_X9_tellLaw : Cond.code yX9_tellLaw cX9_tellLaw 5 none ∈ zT := zT_inc (i := 206) zL_4 rfl rfl
theorem zkm_X9_96 : Cond.methodLink RX9 96 yX9_tellLaw ∈ zT := zT_inc (i := 203) zL_4 rfl rfl
theorem zkn_X9_tellLaw : Cond.instanceMethod yX9_tellLaw ∈ zT := zT_inc (i := 205) zL_4 rfl rfl
theorem zks_X9_tellLaw : Cond.selects RX9 yX9_tellLaw yX9_tellLaw ∈ zT := zT_inc (i := 33) zL_0 (by decide +kernel) rfl
theorem zkc_X9_speedOf : Cond.code yX9_speedOf cX9_speedOf 3 (some .int) ∈ zT := zT_inc (i := 215) zL_4 rfl rfl
theorem zkm_X9_100 : Cond.methodLink RX9 100 yX9_speedOf ∈ zT := zT_inc (i := 212) zL_4 rfl rfl
theorem zkn_X9_speedOf : Cond.instanceMethod yX9_speedOf ∈ zT := zT_inc (i := 214) zL_4 rfl rfl
theorem zks_X9_speedOf : Cond.selects RX9 yX9_speedOf yX9_speedOf ∈ zT := zT_inc (i := 34) zL_0 (by decide +kernel) rfl
theorem zkf_X9_39 : Cond.fieldLink RX9 39 "GlassSpindle$Voice" "law" "LGlassSpindle$Law;" ∈ zT := zT_inc (i := 91) zL_2 rfl rfl
theorem zkf_X9_103 : Cond.fieldLink RX9 103 "GlassSpindle$Setup" "swift" "I" ∈ zT := zT_inc (i := 127) zL_1 rfl rfl
theorem zkc_X3_allows : Cond.code yX3_allows cX3_allows 4 (some .boolean) ∈ zT := zT_inc (i := 219) zL_4 rfl rfl
theorem zkm_X9_107 : Cond.methodLink RX9 107 yX3_allows ∈ zT := zT_inc (i := 216) zL_4 rfl rfl
theorem zkn_X3_allows : Cond.instanceMethod yX3_allows ∈ zT := zT_inc (i := 217) zL_4 rfl rfl
theorem zks_X3_allows : Cond.selects RX3 yX3_allows yX3_allows ∈ zT := zT_inc (i := 218) zL_4 rfl rfl
theorem zkf_X9_110 : Cond.fieldLink RX9 110 "GlassSpindle$Piece" "press" "[I" ∈ zT := zT_inc (i := 233) zL_1 rfl rfl
theorem zkf_X9_113 : Cond.fieldLink RX9 113 "GlassSpindle$Setup" "kind" "[I" ∈ zT := zT_inc (i := 98) zL_1 rfl rfl
theorem zkm_X9_116 : Cond.methodLink RX9 116 yX10_heatOf ∈ zT := zT_inc (i := 207) zL_4 rfl rfl
theorem zkf_X9_119 : Cond.fieldLink RX9 119 "GlassSpindle$Setup" "wall" "[I" ∈ zT := zT_inc (i := 93) zL_1 rfl rfl
theorem zkc_X3_tell : Cond.code yX3_tell cX3_tell 5 none ∈ zT := zT_inc (i := 211) zL_4 rfl rfl
theorem zkm_X9_122 : Cond.methodLink RX9 122 yX3_tell ∈ zT := zT_inc (i := 208) zL_4 rfl rfl
theorem zkn_X3_tell : Cond.instanceMethod yX3_tell ∈ zT := zT_inc (i := 209) zL_4 rfl rfl
theorem zks_X3_tell : Cond.selects RX3 yX3_tell yX3_tell ∈ zT := zT_inc (i := 210) zL_4 rfl rfl
theorem zkf_X9_126 : Cond.fieldLink RX9 126 "GlassSpindle$Setup" "size" "[I" ∈ zT := zT_inc (i := 88) zL_1 rfl rfl
theorem zkm_X9_129 : Cond.methodLink RX9 129 yX5_endOf ∈ zT := zT_inc (i := 174) zL_4 rfl rfl
theorem zkf_X9_133 : Cond.fieldLink RX9 133 "GlassSpindle$Piece" "notes" "I" ∈ zT := zT_inc (i := 216) zL_1 rfl rfl
theorem zkc_X9_speaksAt : Cond.code yX9_speaksAt cX9_speaksAt 5 (some .boolean) ∈ zT := zT_inc (i := 50) zL_5 rfl rfl
theorem zkm_X9_136 : Cond.methodLink RX9 136 yX9_speaksAt ∈ zT := zT_inc (i := 47) zL_5 rfl rfl
theorem zkn_X9_speaksAt : Cond.instanceMethod yX9_speaksAt ∈ zT := zT_inc (i := 49) zL_5 rfl rfl
theorem zks_X9_speaksAt : Cond.selects RX9 yX9_speaksAt yX9_speaksAt ∈ zT := zT_inc (i := 37) zL_0 (by decide +kernel) rfl
theorem zkm_X9_140 : Cond.methodLink RX9 140 yX9_speakingIn ∈ zT := zT_inc (i := 6) zL_5 rfl rfl
theorem zkf_X9_143 : Cond.fieldLink RX9 143 "GlassSpindle$Setup" "bowls" "I" ∈ zT := zT_inc (i := 77) zL_1 rfl rfl
theorem zkm_X9_146 : Cond.methodLink RX9 146 yX7_hasPlace ∈ zT := zT_inc (i := 7) zL_5 rfl rfl
theorem zkc_X9_isRoused : Cond.code yX9_isRoused cX9_isRoused 6 (some .boolean) ∈ zT := zT_inc (i := 12) zL_5 rfl rfl
theorem zkm_X9_153 : Cond.methodLink RX9 153 yX9_isRoused ∈ zT := zT_inc (i := 9) zL_5 rfl rfl
theorem zkn_X9_isRoused : Cond.instanceMethod yX9_isRoused ∈ zT := zT_inc (i := 11) zL_5 rfl rfl
theorem zks_X9_isRoused : Cond.selects RX9 yX9_isRoused yX9_isRoused ∈ zT := zT_inc (i := 36) zL_0 (by decide +kernel) rfl
theorem zkm_X9_150 : Cond.methodLink RX9 150 yX5_pressOn ∈ zT := zT_inc (i := 8) zL_5 rfl rfl
theorem zkf_X9_156 : Cond.fieldLink RX9 156 "GlassSpindle$Setup" "place" "[I" ∈ zT := zT_inc (i := 103) zL_1 rfl rfl
theorem zkm_X9_159 : Cond.methodLink RX9 159 Lib.Math.abs.name ∈ zT := zT_inc (i := 13) zL_5 rfl rfl
theorem zkm_X9_162 : Cond.methodLink RX9 162 yX7_apart ∈ zT := zT_inc (i := 16) zL_5 rfl rfl
theorem zkm_X9_165 : Cond.methodLink RX9 165 yX5_firstIn ∈ zT := zT_inc (i := 29) zL_5 rfl rfl
theorem zkf_X10_29 : Cond.fieldLink RX10 29 "GlassSpindle$Warming" "known" "Z" ∈ zT := zT_inc (i := 25) zL_2 rfl rfl
theorem zkf_X10_21 : Cond.fieldLink RX10 21 "GlassSpindle$Warming" "setup" "LGlassSpindle$Setup;" ∈ zT := zT_inc (i := 20) zL_2 rfl rfl
theorem zkf_X10_33 : Cond.fieldLink RX10 33 "GlassSpindle$Setup" "bowls" "I" ∈ zT := zT_inc (i := 73) zL_1 rfl rfl
theorem zkc_X10_press : Cond.code yX10_press cX10_press 4 none ∈ zT := zT_inc (i := 144) zL_4 rfl rfl
theorem zkm_X10_39 : Cond.methodLink RX10 39 yX10_press ∈ zT := zT_inc (i := 141) zL_4 rfl rfl
theorem zkn_X10_press : Cond.instanceMethod yX10_press ∈ zT := zT_inc (i := 143) zL_4 rfl rfl
theorem zks_X10_press : Cond.selects RX10 yX10_press yX10_press ∈ zT := zT_inc (i := 27) zL_0 (by decide +kernel) rfl
theorem zkc_X10_warm : Cond.code yX10_warm cX10_warm 6 none ∈ zT := zT_inc (i := 152) zL_4 rfl rfl
theorem zkm_X10_43 : Cond.methodLink RX10 43 yX10_warm ∈ zT := zT_inc (i := 149) zL_4 rfl rfl
theorem zkn_X10_warm : Cond.instanceMethod yX10_warm ∈ zT := zT_inc (i := 151) zL_4 rfl rfl
theorem zks_X10_warm : Cond.selects RX10 yX10_warm yX10_warm ∈ zT := zT_inc (i := 28) zL_0 (by decide +kernel) rfl
theorem zkf_X10_15 : Cond.fieldLink RX10 15 "GlassSpindle$Warming" "heat" "[I" ∈ zT := zT_inc (i := 23) zL_2 rfl rfl
theorem zkf_X10_18 : Cond.fieldLink RX10 18 "GlassSpindle$Warming" "crackFrom" "[I" ∈ zT := zT_inc (i := 24) zL_2 rfl rfl
theorem zkf_X10_9 : Cond.fieldLink RX10 9 "GlassSpindle$Warming" "presses" "[I" ∈ zT := zT_inc (i := 22) zL_2 rfl rfl
theorem zkm_X10_46 : Cond.methodLink RX10 46 yJ7_fill_53178 ∈ zT := zT_inc (i := 145) zL_4 rfl rfl
theorem zkf_X10_25 : Cond.fieldLink RX10 25 "GlassSpindle$Warming" "piece" "LGlassSpindle$Piece;" ∈ zT := zT_inc (i := 21) zL_2 rfl rfl
theorem zkf_X10_52 : Cond.fieldLink RX10 52 "GlassSpindle$Piece" "notes" "I" ∈ zT := zT_inc (i := 215) zL_1 rfl rfl
theorem zkf_X10_57 : Cond.fieldLink RX10 57 "GlassSpindle$Piece" "bowl" "[I" ∈ zT := zT_inc (i := 221) zL_1 rfl rfl
theorem zkf_X10_60 : Cond.fieldLink RX10 60 "GlassSpindle$Piece" "from" "[I" ∈ zT := zT_inc (i := 226) zL_1 rfl rfl
theorem zkm_X10_63 : Cond.methodLink RX10 63 yX5_endOf ∈ zT := zT_inc (i := 148) zL_4 rfl rfl
theorem zkf_X10_67 : Cond.fieldLink RX10 67 "GlassSpindle$Piece" "press" "[I" ∈ zT := zT_inc (i := 234) zL_1 rfl rfl
theorem zkf_X10_69 : Cond.fieldLink RX10 69 "GlassSpindle$Setup" "wall" "[I" ∈ zT := zT_inc (i := 94) zL_1 rfl rfl
theorem zkf_X10_72 : Cond.fieldLink RX10 72 "GlassSpindle$Setup" "settings" "[I" ∈ zT := zT_inc (i := 136) zL_1 rfl rfl
theorem zkm_X10_78 : Cond.methodLink RX10 78 Lib.Math.max.name ∈ zT := zT_inc (i := 153) zL_4 rfl rfl
theorem zkf_X10_75 : Cond.fieldLink RX10 75 "GlassSpindle$Setup" "kind" "[I" ∈ zT := zT_inc (i := 99) zL_1 rfl rfl
theorem zko_J6_265 : Cond.constant RJ6 265 1431655765 ∈ zT := zT_inc (i := 219) zL_5 (by decide +kernel) rfl
theorem zko_J6_266 : Cond.constant RJ6 266 858993459 ∈ zT := zT_inc (i := 220) zL_5 (by decide +kernel) rfl
theorem zko_J6_267 : Cond.constant RJ6 267 252645135 ∈ zT := zT_inc (i := 221) zL_5 (by decide +kernel) rfl
theorem zf_X11_0 : zFld 11 0 "GlassSpindle" "tape" "LGlassSpindle$Tape;" true (.object "GlassSpindle$Tape") := ⟨TX11, 13, tyX11, rfl, by decide, rfl, by decide +kernel, zinX11, tyX11_ok, nmX11⟩
theorem zf_X8_1 : zFld 8 1 "GlassSpindle$Tape" "length" "I" false (.int) := ⟨TX8, 4, tyX8, rfl, by decide, rfl, by decide +kernel, zinX8, tyX8_ok, nmX8⟩
theorem zf_X11_1 : zFld 11 1 "GlassSpindle" "reader" "LGlassSpindle$Reader;" true (.object "GlassSpindle$Reader") := ⟨TX11, 13, tyX11, rfl, by decide, rfl, by decide +kernel, zinX11, tyX11_ok, nmX11⟩
theorem zf_X11_2 : zFld 11 2 "GlassSpindle" "setup" "LGlassSpindle$Setup;" true (.object "GlassSpindle$Setup") := ⟨TX11, 13, tyX11, rfl, by decide, rfl, by decide +kernel, zinX11, tyX11_ok, nmX11⟩
theorem zf_X11_3 : zFld 11 3 "GlassSpindle" "draft" "LGlassSpindle$Setup;" true (.object "GlassSpindle$Setup") := ⟨TX11, 13, tyX11, rfl, by decide, rfl, by decide +kernel, zinX11, tyX11_ok, nmX11⟩
theorem zf_X11_4 : zFld 11 4 "GlassSpindle" "piece" "LGlassSpindle$Piece;" true (.object "GlassSpindle$Piece") := ⟨TX11, 13, tyX11, rfl, by decide, rfl, by decide +kernel, zinX11, tyX11_ok, nmX11⟩
theorem zf_X5_0 : zFld 5 0 "GlassSpindle$Piece" "notes" "I" false (.int) := ⟨TX5, 6, tyX5, rfl, by decide, rfl, by decide +kernel, zinX5, tyX5_ok, nmX5⟩
theorem zf_X7_2 : zFld 7 2 "GlassSpindle$Setup" "tone" "[I" true (.array .int) := ⟨TX7, 19, tyX7, rfl, by decide, rfl, by decide +kernel, zinX7, tyX7_ok, nmX7⟩
theorem zf_X7_3 : zFld 7 3 "GlassSpindle$Setup" "size" "[I" true (.array .int) := ⟨TX7, 19, tyX7, rfl, by decide, rfl, by decide +kernel, zinX7, tyX7_ok, nmX7⟩
theorem zf_X7_4 : zFld 7 4 "GlassSpindle$Setup" "wall" "[I" true (.array .int) := ⟨TX7, 19, tyX7, rfl, by decide, rfl, by decide +kernel, zinX7, tyX7_ok, nmX7⟩
theorem zf_X7_5 : zFld 7 5 "GlassSpindle$Setup" "kind" "[I" true (.array .int) := ⟨TX7, 19, tyX7, rfl, by decide, rfl, by decide +kernel, zinX7, tyX7_ok, nmX7⟩
theorem zf_X7_6 : zFld 7 6 "GlassSpindle$Setup" "place" "[I" true (.array .int) := ⟨TX7, 19, tyX7, rfl, by decide, rfl, by decide +kernel, zinX7, tyX7_ok, nmX7⟩
theorem zf_X5_5 : zFld 5 5 "GlassSpindle$Piece" "finger" "[I" true (.array .int) := ⟨TX5, 6, tyX5, rfl, by decide, rfl, by decide +kernel, zinX5, tyX5_ok, nmX5⟩
theorem zf_X11_9 : zFld 11 9 "GlassSpindle" "voice" "LGlassSpindle$Voice;" true (.object "GlassSpindle$Voice") := ⟨TX11, 13, tyX11, rfl, by decide, rfl, by decide +kernel, zinX11, tyX11_ok, nmX11⟩
theorem zf_X9_7 : zFld 9 7 "GlassSpindle$Voice" "known" "Z" false (.boolean) := ⟨TX9, 8, tyX9, rfl, by decide, rfl, by decide +kernel, zinX9, tyX9_ok, nmX9⟩
theorem zf_X5_1 : zFld 5 1 "GlassSpindle$Piece" "bowl" "[I" true (.array .int) := ⟨TX5, 6, tyX5, rfl, by decide, rfl, by decide +kernel, zinX5, tyX5_ok, nmX5⟩
theorem zf_X5_2 : zFld 5 2 "GlassSpindle$Piece" "from" "[I" true (.array .int) := ⟨TX5, 6, tyX5, rfl, by decide, rfl, by decide +kernel, zinX5, tyX5_ok, nmX5⟩
theorem zf_X5_3 : zFld 5 3 "GlassSpindle$Piece" "length" "[I" true (.array .int) := ⟨TX5, 6, tyX5, rfl, by decide, rfl, by decide +kernel, zinX5, tyX5_ok, nmX5⟩
theorem zf_X5_4 : zFld 5 4 "GlassSpindle$Piece" "press" "[I" true (.array .int) := ⟨TX5, 6, tyX5, rfl, by decide, rfl, by decide +kernel, zinX5, tyX5_ok, nmX5⟩
theorem zf_X11_7 : zFld 11 7 "GlassSpindle" "warming" "LGlassSpindle$Warming;" true (.object "GlassSpindle$Warming") := ⟨TX11, 13, tyX11, rfl, by decide, rfl, by decide +kernel, zinX11, tyX11_ok, nmX11⟩
theorem zf_X11_8 : zFld 11 8 "GlassSpindle" "hands" "LGlassSpindle$Hands;" true (.object "GlassSpindle$Hands") := ⟨TX11, 13, tyX11, rfl, by decide, rfl, by decide +kernel, zinX11, tyX11_ok, nmX11⟩
theorem zf_X11_10 : zFld 11 10 "GlassSpindle" "fingering" "LGlassSpindle$Fingering;" true (.object "GlassSpindle$Fingering") := ⟨TX11, 13, tyX11, rfl, by decide, rfl, by decide +kernel, zinX11, tyX11_ok, nmX11⟩
theorem zf_X7_7 : zFld 7 7 "GlassSpindle$Setup" "pairs" "I" false (.int) := ⟨TX7, 19, tyX7, rfl, by decide, rfl, by decide +kernel, zinX7, tyX7_ok, nmX7⟩
theorem zf_X7_12 : zFld 7 12 "GlassSpindle$Setup" "within" "[I" true (.array .int) := ⟨TX7, 19, tyX7, rfl, by decide, rfl, by decide +kernel, zinX7, tyX7_ok, nmX7⟩
theorem zf_X11_11 : zFld 11 11 "GlassSpindle" "grinding" "LGlassSpindle$Grinding;" true (.object "GlassSpindle$Grinding") := ⟨TX11, 13, tyX11, rfl, by decide, rfl, by decide +kernel, zinX11, tyX11_ok, nmX11⟩
theorem zf_X11_12 : zFld 11 12 "GlassSpindle" "ordering" "LGlassSpindle$Ordering;" true (.object "GlassSpindle$Ordering") := ⟨TX11, 13, tyX11, rfl, by decide, rfl, by decide +kernel, zinX11, tyX11_ok, nmX11⟩
theorem zf_X7_0 : zFld 7 0 "GlassSpindle$Setup" "bowls" "I" false (.int) := ⟨TX7, 19, tyX7, rfl, by decide, rfl, by decide +kernel, zinX7, tyX7_ok, nmX7⟩
theorem zf_X7_1 : zFld 7 1 "GlassSpindle$Setup" "places" "I" false (.int) := ⟨TX7, 19, tyX7, rfl, by decide, rfl, by decide +kernel, zinX7, tyX7_ok, nmX7⟩
theorem zf_X7_13 : zFld 7 13 "GlassSpindle$Setup" "speaks" "I" false (.int) := ⟨TX7, 19, tyX7, rfl, by decide, rfl, by decide +kernel, zinX7, tyX7_ok, nmX7⟩
theorem zf_X7_18 : zFld 7 18 "GlassSpindle$Setup" "settings" "[I" true (.array .int) := ⟨TX7, 19, tyX7, rfl, by decide, rfl, by decide +kernel, zinX7, tyX7_ok, nmX7⟩
theorem zf_X11_5 : zFld 11 5 "GlassSpindle" "markedSetups" "[LGlassSpindle$Setup;" true (.array (.object "GlassSpindle$Setup")) := ⟨TX11, 13, tyX11, rfl, by decide, rfl, by decide +kernel, zinX11, tyX11_ok, nmX11⟩
theorem zf_X11_6 : zFld 11 6 "GlassSpindle" "markedPieces" "[LGlassSpindle$Piece;" true (.array (.object "GlassSpindle$Piece")) := ⟨TX11, 13, tyX11, rfl, by decide, rfl, by decide +kernel, zinX11, tyX11_ok, nmX11⟩
theorem zf_X10_5 : zFld 10 5 "GlassSpindle$Warming" "known" "Z" false (.boolean) := ⟨TX10, 6, tyX10, rfl, by decide, rfl, by decide +kernel, zinX10, tyX10_ok, nmX10⟩
theorem zf_X0_10 : zFld 0 10 "GlassSpindle$Fingering" "known" "Z" false (.boolean) := ⟨TX0, 11, tyX0, rfl, by decide, rfl, by decide +kernel, zinX0, tyX0_ok, nmX0⟩
theorem zf_X4_7 : zFld 4 7 "GlassSpindle$Ordering" "known" "Z" false (.boolean) := ⟨TX4, 8, tyX4, rfl, by decide, rfl, by decide +kernel, zinX4, tyX4_ok, nmX4⟩
theorem zf_X1_13 : zFld 1 13 "GlassSpindle$Grinding" "known" "Z" false (.boolean) := ⟨TX1, 14, tyX1, rfl, by decide, rfl, by decide +kernel, zinX1, tyX1_ok, nmX1⟩
theorem zf_X12_0 : zFld 12 0 "GlassSpindleModel" "thrown" "I" false (.int) := ⟨TX12, 63, tyX12, rfl, by decide, rfl, by decide +kernel, zinX12, tyX12_ok, nmX12⟩
theorem zf_X12_1 : zFld 12 1 "GlassSpindleModel" "taped" "I" false (.int) := ⟨TX12, 63, tyX12, rfl, by decide, rfl, by decide +kernel, zinX12, tyX12_ok, nmX12⟩
theorem zf_X12_2 : zFld 12 2 "GlassSpindleModel" "tape" "[I" true (.array .int) := ⟨TX12, 63, tyX12, rfl, by decide, rfl, by decide +kernel, zinX12, tyX12_ok, nmX12⟩
theorem zf_X12_3 : zFld 12 3 "GlassSpindleModel" "size" "I" false (.int) := ⟨TX12, 63, tyX12, rfl, by decide, rfl, by decide +kernel, zinX12, tyX12_ok, nmX12⟩
theorem zf_X12_4 : zFld 12 4 "GlassSpindleModel" "place" "I" false (.int) := ⟨TX12, 63, tyX12, rfl, by decide, rfl, by decide +kernel, zinX12, tyX12_ok, nmX12⟩
theorem zf_X12_5 : zFld 12 5 "GlassSpindleModel" "begin" "I" false (.int) := ⟨TX12, 63, tyX12, rfl, by decide, rfl, by decide +kernel, zinX12, tyX12_ok, nmX12⟩
theorem zf_X12_7 : zFld 12 7 "GlassSpindleModel" "word" "J" false (.long) := ⟨TX12, 63, tyX12, rfl, by decide, rfl, by decide +kernel, zinX12, tyX12_ok, nmX12⟩
theorem zf_X12_8 : zFld 12 8 "GlassSpindleModel" "told" "I" false (.int) := ⟨TX12, 63, tyX12, rfl, by decide, rfl, by decide +kernel, zinX12, tyX12_ok, nmX12⟩
theorem zf_X12_6 : zFld 12 6 "GlassSpindleModel" "token" "I" false (.int) := ⟨TX12, 63, tyX12, rfl, by decide, rfl, by decide +kernel, zinX12, tyX12_ok, nmX12⟩
theorem zf_X12_9 : zFld 12 9 "GlassSpindleModel" "wrong" "I" false (.int) := ⟨TX12, 63, tyX12, rfl, by decide, rfl, by decide +kernel, zinX12, tyX12_ok, nmX12⟩
theorem zf_X12_28 : zFld 12 28 "GlassSpindleModel" "codes" "[I" true (.array .int) := ⟨TX12, 63, tyX12, rfl, by decide, rfl, by decide +kernel, zinX12, tyX12_ok, nmX12⟩
theorem zf_X12_29 : zFld 12 29 "GlassSpindleModel" "code" "I" false (.int) := ⟨TX12, 63, tyX12, rfl, by decide, rfl, by decide +kernel, zinX12, tyX12_ok, nmX12⟩
theorem zf_X12_31 : zFld 12 31 "GlassSpindleModel" "compared" "[Z" true (.array .boolean) := ⟨TX12, 63, tyX12, rfl, by decide, rfl, by decide +kernel, zinX12, tyX12_ok, nmX12⟩
theorem zf_X12_30 : zFld 12 30 "GlassSpindleModel" "opened" "[I" true (.array .int) := ⟨TX12, 63, tyX12, rfl, by decide, rfl, by decide +kernel, zinX12, tyX12_ok, nmX12⟩
theorem zf_X12_33 : zFld 12 33 "GlassSpindleModel" "keptBy" "[I" true (.array .int) := ⟨TX12, 63, tyX12, rfl, by decide, rfl, by decide +kernel, zinX12, tyX12_ok, nmX12⟩
theorem zf_X12_35 : zFld 12 35 "GlassSpindleModel" "against" "[I" true (.array .int) := ⟨TX12, 63, tyX12, rfl, by decide, rfl, by decide +kernel, zinX12, tyX12_ok, nmX12⟩
theorem zf_X12_36 : zFld 12 36 "GlassSpindleModel" "sum" "[I" true (.array .int) := ⟨TX12, 63, tyX12, rfl, by decide, rfl, by decide +kernel, zinX12, tyX12_ok, nmX12⟩
theorem zf_X12_37 : zFld 12 37 "GlassSpindleModel" "sumBy" "[I" true (.array .int) := ⟨TX12, 63, tyX12, rfl, by decide, rfl, by decide +kernel, zinX12, tyX12_ok, nmX12⟩
theorem zf_X12_39 : zFld 12 39 "GlassSpindleModel" "termBy" "[I" true (.array .int) := ⟨TX12, 63, tyX12, rfl, by decide, rfl, by decide +kernel, zinX12, tyX12_ok, nmX12⟩
theorem zf_X12_38 : zFld 12 38 "GlassSpindleModel" "term" "[I" true (.array .int) := ⟨TX12, 63, tyX12, rfl, by decide, rfl, by decide +kernel, zinX12, tyX12_ok, nmX12⟩
theorem zf_X12_32 : zFld 12 32 "GlassSpindleModel" "kept" "[I" true (.array .int) := ⟨TX12, 63, tyX12, rfl, by decide, rfl, by decide +kernel, zinX12, tyX12_ok, nmX12⟩
theorem zf_X12_34 : zFld 12 34 "GlassSpindleModel" "ahead" "[I" true (.array .int) := ⟨TX12, 63, tyX12, rfl, by decide, rfl, by decide +kernel, zinX12, tyX12_ok, nmX12⟩
theorem zf_X12_26 : zFld 12 26 "GlassSpindleModel" "lineFrom" "[I" true (.array .int) := ⟨TX12, 63, tyX12, rfl, by decide, rfl, by decide +kernel, zinX12, tyX12_ok, nmX12⟩
theorem zf_X12_27 : zFld 12 27 "GlassSpindleModel" "lineTo" "[I" true (.array .int) := ⟨TX12, 63, tyX12, rfl, by decide, rfl, by decide +kernel, zinX12, tyX12_ok, nmX12⟩
theorem zf_X12_40 : zFld 12 40 "GlassSpindleModel" "byNot" "[I" true (.array .int) := ⟨TX12, 63, tyX12, rfl, by decide, rfl, by decide +kernel, zinX12, tyX12_ok, nmX12⟩
theorem zf_X12_41 : zFld 12 41 "GlassSpindleModel" "valueOf" "[I" true (.array .int) := ⟨TX12, 63, tyX12, rfl, by decide, rfl, by decide +kernel, zinX12, tyX12_ok, nmX12⟩
theorem zf_X12_42 : zFld 12 42 "GlassSpindleModel" "number" "I" false (.int) := ⟨TX12, 63, tyX12, rfl, by decide, rfl, by decide +kernel, zinX12, tyX12_ok, nmX12⟩
theorem zf_X12_10 : zFld 12 10 "GlassSpindleModel" "bowls" "[I" true (.array .int) := ⟨TX12, 63, tyX12, rfl, by decide, rfl, by decide +kernel, zinX12, tyX12_ok, nmX12⟩
theorem zf_X12_13 : zFld 12 13 "GlassSpindleModel" "names" "[J" true (.array .long) := ⟨TX12, 63, tyX12, rfl, by decide, rfl, by decide +kernel, zinX12, tyX12_ok, nmX12⟩
theorem zf_X12_14 : zFld 12 14 "GlassSpindleModel" "tone" "[I" true (.array .int) := ⟨TX12, 63, tyX12, rfl, by decide, rfl, by decide +kernel, zinX12, tyX12_ok, nmX12⟩
theorem zf_X12_15 : zFld 12 15 "GlassSpindleModel" "sizeOf" "[I" true (.array .int) := ⟨TX12, 63, tyX12, rfl, by decide, rfl, by decide +kernel, zinX12, tyX12_ok, nmX12⟩
theorem zf_X12_16 : zFld 12 16 "GlassSpindleModel" "wall" "[I" true (.array .int) := ⟨TX12, 63, tyX12, rfl, by decide, rfl, by decide +kernel, zinX12, tyX12_ok, nmX12⟩
theorem zf_X12_17 : zFld 12 17 "GlassSpindleModel" "kind" "[I" true (.array .int) := ⟨TX12, 63, tyX12, rfl, by decide, rfl, by decide +kernel, zinX12, tyX12_ok, nmX12⟩
theorem zf_X12_11 : zFld 12 11 "GlassSpindleModel" "pairs" "[I" true (.array .int) := ⟨TX12, 63, tyX12, rfl, by decide, rfl, by decide +kernel, zinX12, tyX12_ok, nmX12⟩
theorem zf_X12_19 : zFld 12 19 "GlassSpindleModel" "pairA" "[I" true (.array .int) := ⟨TX12, 63, tyX12, rfl, by decide, rfl, by decide +kernel, zinX12, tyX12_ok, nmX12⟩
theorem zf_X12_20 : zFld 12 20 "GlassSpindleModel" "pairP" "[I" true (.array .int) := ⟨TX12, 63, tyX12, rfl, by decide, rfl, by decide +kernel, zinX12, tyX12_ok, nmX12⟩
theorem zf_X12_21 : zFld 12 21 "GlassSpindleModel" "pairB" "[I" true (.array .int) := ⟨TX12, 63, tyX12, rfl, by decide, rfl, by decide +kernel, zinX12, tyX12_ok, nmX12⟩
theorem zf_X12_22 : zFld 12 22 "GlassSpindleModel" "pairQ" "[I" true (.array .int) := ⟨TX12, 63, tyX12, rfl, by decide, rfl, by decide +kernel, zinX12, tyX12_ok, nmX12⟩
theorem zf_X12_23 : zFld 12 23 "GlassSpindleModel" "pairWithin" "[I" true (.array .int) := ⟨TX12, 63, tyX12, rfl, by decide, rfl, by decide +kernel, zinX12, tyX12_ok, nmX12⟩
theorem zf_X12_12 : zFld 12 12 "GlassSpindleModel" "speaks" "[I" true (.array .int) := ⟨TX12, 63, tyX12, rfl, by decide, rfl, by decide +kernel, zinX12, tyX12_ok, nmX12⟩
theorem zf_X12_25 : zFld 12 25 "GlassSpindleModel" "isSet" "[Z" true (.array .boolean) := ⟨TX12, 63, tyX12, rfl, by decide, rfl, by decide +kernel, zinX12, tyX12_ok, nmX12⟩
theorem zf_X12_24 : zFld 12 24 "GlassSpindleModel" "sets" "[I" true (.array .int) := ⟨TX12, 63, tyX12, rfl, by decide, rfl, by decide +kernel, zinX12, tyX12_ok, nmX12⟩
theorem zf_X12_18 : zFld 12 18 "GlassSpindleModel" "placeOf" "[I" true (.array .int) := ⟨TX12, 63, tyX12, rfl, by decide, rfl, by decide +kernel, zinX12, tyX12_ok, nmX12⟩
theorem zf_X12_43 : zFld 12 43 "GlassSpindleModel" "notes" "I" false (.int) := ⟨TX12, 63, tyX12, rfl, by decide, rfl, by decide +kernel, zinX12, tyX12_ok, nmX12⟩
theorem zf_X12_45 : zFld 12 45 "GlassSpindleModel" "noteFrom" "[I" true (.array .int) := ⟨TX12, 63, tyX12, rfl, by decide, rfl, by decide +kernel, zinX12, tyX12_ok, nmX12⟩
theorem zf_X12_46 : zFld 12 46 "GlassSpindleModel" "noteLong" "[I" true (.array .int) := ⟨TX12, 63, tyX12, rfl, by decide, rfl, by decide +kernel, zinX12, tyX12_ok, nmX12⟩
theorem zf_X12_44 : zFld 12 44 "GlassSpindleModel" "noteBowl" "[I" true (.array .int) := ⟨TX12, 63, tyX12, rfl, by decide, rfl, by decide +kernel, zinX12, tyX12_ok, nmX12⟩
theorem zf_X12_47 : zFld 12 47 "GlassSpindleModel" "notePress" "[I" true (.array .int) := ⟨TX12, 63, tyX12, rfl, by decide, rfl, by decide +kernel, zinX12, tyX12_ok, nmX12⟩
theorem zf_X12_48 : zFld 12 48 "GlassSpindleModel" "noteFinger" "[I" true (.array .int) := ⟨TX12, 63, tyX12, rfl, by decide, rfl, by decide +kernel, zinX12, tyX12_ok, nmX12⟩
theorem zf_X12_50 : zFld 12 50 "GlassSpindleModel" "crackAt" "[I" true (.array .int) := ⟨TX12, 63, tyX12, rfl, by decide, rfl, by decide +kernel, zinX12, tyX12_ok, nmX12⟩
theorem zf_X12_49 : zFld 12 49 "GlassSpindleModel" "warmth" "[I" true (.array .int) := ⟨TX12, 63, tyX12, rfl, by decide, rfl, by decide +kernel, zinX12, tyX12_ok, nmX12⟩
theorem zf_X12_54 : zFld 12 54 "GlassSpindleModel" "farthest" "I" false (.int) := ⟨TX12, 63, tyX12, rfl, by decide, rfl, by decide +kernel, zinX12, tyX12_ok, nmX12⟩
theorem zf_X12_53 : zFld 12 53 "GlassSpindleModel" "fewest" "I" false (.int) := ⟨TX12, 63, tyX12, rfl, by decide, rfl, by decide +kernel, zinX12, tyX12_ok, nmX12⟩
theorem zf_X12_52 : zFld 12 52 "GlassSpindleModel" "best" "[I" true (.array .int) := ⟨TX12, 63, tyX12, rfl, by decide, rfl, by decide +kernel, zinX12, tyX12_ok, nmX12⟩
theorem zf_X12_51 : zFld 12 51 "GlassSpindleModel" "told0" "[I" true (.array .int) := ⟨TX12, 63, tyX12, rfl, by decide, rfl, by decide +kernel, zinX12, tyX12_ok, nmX12⟩
theorem zf_X12_55 : zFld 12 55 "GlassSpindleModel" "grinds" "[I" true (.array .int) := ⟨TX12, 63, tyX12, rfl, by decide, rfl, by decide +kernel, zinX12, tyX12_ok, nmX12⟩
theorem zf_X12_57 : zFld 12 57 "GlassSpindleModel" "glass" "I" false (.int) := ⟨TX12, 63, tyX12, rfl, by decide, rfl, by decide +kernel, zinX12, tyX12_ok, nmX12⟩
theorem zf_X12_56 : zFld 12 56 "GlassSpindleModel" "bestGrinds" "[I" true (.array .int) := ⟨TX12, 63, tyX12, rfl, by decide, rfl, by decide +kernel, zinX12, tyX12_ok, nmX12⟩
theorem zf_X12_58 : zFld 12 58 "GlassSpindleModel" "spot" "[I" true (.array .int) := ⟨TX12, 63, tyX12, rfl, by decide, rfl, by decide +kernel, zinX12, tyX12_ok, nmX12⟩
theorem zf_X12_60 : zFld 12 60 "GlassSpindleModel" "least" "I" false (.int) := ⟨TX12, 63, tyX12, rfl, by decide, rfl, by decide +kernel, zinX12, tyX12_ok, nmX12⟩
theorem zf_X12_59 : zFld 12 59 "GlassSpindleModel" "bestSpot" "[I" true (.array .int) := ⟨TX12, 63, tyX12, rfl, by decide, rfl, by decide +kernel, zinX12, tyX12_ok, nmX12⟩
theorem zf_X12_61 : zFld 12 61 "GlassSpindleModel" "isLaid" "[Z" true (.array .boolean) := ⟨TX12, 63, tyX12, rfl, by decide, rfl, by decide +kernel, zinX12, tyX12_ok, nmX12⟩
theorem zf_X12_62 : zFld 12 62 "GlassSpindleModel" "markNotes" "[I" true (.array .int) := ⟨TX12, 63, tyX12, rfl, by decide, rfl, by decide +kernel, zinX12, tyX12_ok, nmX12⟩
theorem zf_X0_8 : zFld 0 8 "GlassSpindle$Fingering" "fewest" "I" false (.int) := ⟨TX0, 11, tyX0, rfl, by decide, rfl, by decide +kernel, zinX0, tyX0_ok, nmX0⟩
theorem zf_X0_9 : zFld 0 9 "GlassSpindle$Fingering" "far" "I" false (.int) := ⟨TX0, 11, tyX0, rfl, by decide, rfl, by decide +kernel, zinX0, tyX0_ok, nmX0⟩
theorem zf_X0_1 : zFld 0 1 "GlassSpindle$Fingering" "piece" "LGlassSpindle$Piece;" true (.object "GlassSpindle$Piece") := ⟨TX0, 11, tyX0, rfl, by decide, rfl, by decide +kernel, zinX0, tyX0_ok, nmX0⟩
theorem zf_X0_4 : zFld 0 4 "GlassSpindle$Fingering" "kept" "[I" true (.array .int) := ⟨TX0, 11, tyX0, rfl, by decide, rfl, by decide +kernel, zinX0, tyX0_ok, nmX0⟩
theorem zf_X0_5 : zFld 0 5 "GlassSpindle$Fingering" "sure" "[I" true (.array .int) := ⟨TX0, 11, tyX0, rfl, by decide, rfl, by decide +kernel, zinX0, tyX0_ok, nmX0⟩
theorem zf_X0_6 : zFld 0 6 "GlassSpindle$Fingering" "touching" "[I" true (.array .int) := ⟨TX0, 11, tyX0, rfl, by decide, rfl, by decide +kernel, zinX0, tyX0_ok, nmX0⟩
theorem zf_X0_0 : zFld 0 0 "GlassSpindle$Fingering" "setup" "LGlassSpindle$Setup;" true (.object "GlassSpindle$Setup") := ⟨TX0, 11, tyX0, rfl, by decide, rfl, by decide +kernel, zinX0, tyX0_ok, nmX0⟩
theorem zf_X0_7 : zFld 0 7 "GlassSpindle$Fingering" "playable" "I" false (.int) := ⟨TX0, 11, tyX0, rfl, by decide, rfl, by decide +kernel, zinX0, tyX0_ok, nmX0⟩
theorem zf_X0_2 : zFld 0 2 "GlassSpindle$Fingering" "hands" "LGlassSpindle$Hands;" true (.object "GlassSpindle$Hands") := ⟨TX0, 11, tyX0, rfl, by decide, rfl, by decide +kernel, zinX0, tyX0_ok, nmX0⟩
theorem zf_X0_3 : zFld 0 3 "GlassSpindle$Fingering" "trial" "[I" true (.array .int) := ⟨TX0, 11, tyX0, rfl, by decide, rfl, by decide +kernel, zinX0, tyX0_ok, nmX0⟩
theorem zf_X1_12 : zFld 1 12 "GlassSpindle$Grinding" "least" "J" false (.long) := ⟨TX1, 14, tyX1, rfl, by decide, rfl, by decide +kernel, zinX1, tyX1_ok, nmX1⟩
theorem zf_X1_2 : zFld 1 2 "GlassSpindle$Grinding" "nodeOf" "[I" true (.array .int) := ⟨TX1, 14, tyX1, rfl, by decide, rfl, by decide +kernel, zinX1, tyX1_ok, nmX1⟩
theorem zf_X1_3 : zFld 1 3 "GlassSpindle$Grinding" "nodes" "I" false (.int) := ⟨TX1, 14, tyX1, rfl, by decide, rfl, by decide +kernel, zinX1, tyX1_ok, nmX1⟩
theorem zf_X1_0 : zFld 1 0 "GlassSpindle$Grinding" "setup" "LGlassSpindle$Setup;" true (.object "GlassSpindle$Setup") := ⟨TX1, 14, tyX1, rfl, by decide, rfl, by decide +kernel, zinX1, tyX1_ok, nmX1⟩
theorem zf_X1_1 : zFld 1 1 "GlassSpindle$Grinding" "bowlOf" "[I" true (.array .int) := ⟨TX1, 14, tyX1, rfl, by decide, rfl, by decide +kernel, zinX1, tyX1_ok, nmX1⟩
theorem zf_X7_8 : zFld 7 8 "GlassSpindle$Setup" "first" "[I" true (.array .int) := ⟨TX7, 19, tyX7, rfl, by decide, rfl, by decide +kernel, zinX7, tyX7_ok, nmX7⟩
theorem zf_X7_10 : zFld 7 10 "GlassSpindle$Setup" "second" "[I" true (.array .int) := ⟨TX7, 19, tyX7, rfl, by decide, rfl, by decide +kernel, zinX7, tyX7_ok, nmX7⟩
theorem zf_X1_10 : zFld 1 10 "GlassSpindle$Grinding" "gone" "I" false (.int) := ⟨TX1, 14, tyX1, rfl, by decide, rfl, by decide +kernel, zinX1, tyX1_ok, nmX1⟩
theorem zf_X1_11 : zFld 1 11 "GlassSpindle$Grinding" "waiting" "I" false (.int) := ⟨TX1, 14, tyX1, rfl, by decide, rfl, by decide +kernel, zinX1, tyX1_ok, nmX1⟩
theorem zf_X1_8 : zFld 1 8 "GlassSpindle$Grinding" "used" "I" false (.int) := ⟨TX1, 14, tyX1, rfl, by decide, rfl, by decide +kernel, zinX1, tyX1_ok, nmX1⟩
theorem zf_X1_4 : zFld 1 4 "GlassSpindle$Grinding" "near" "[I" true (.array .int) := ⟨TX1, 14, tyX1, rfl, by decide, rfl, by decide +kernel, zinX1, tyX1_ok, nmX1⟩
theorem zf_X1_5 : zFld 1 5 "GlassSpindle$Grinding" "scope" "[I" true (.array .int) := ⟨TX1, 14, tyX1, rfl, by decide, rfl, by decide +kernel, zinX1, tyX1_ok, nmX1⟩
theorem zf_X1_7 : zFld 1 7 "GlassSpindle$Grinding" "start" "[I" true (.array .int) := ⟨TX1, 14, tyX1, rfl, by decide, rfl, by decide +kernel, zinX1, tyX1_ok, nmX1⟩
theorem zf_X1_6 : zFld 1 6 "GlassSpindle$Grinding" "table" "[J" true (.array .long) := ⟨TX1, 14, tyX1, rfl, by decide, rfl, by decide +kernel, zinX1, tyX1_ok, nmX1⟩
theorem zf_X1_9 : zFld 1 9 "GlassSpindle$Grinding" "step" "[I" true (.array .int) := ⟨TX1, 14, tyX1, rfl, by decide, rfl, by decide +kernel, zinX1, tyX1_ok, nmX1⟩
theorem zf_X2_0 : zFld 2 0 "GlassSpindle$Hands" "setup" "LGlassSpindle$Setup;" true (.object "GlassSpindle$Setup") := ⟨TX2, 2, tyX2, rfl, by decide, rfl, by decide +kernel, zinX2, tyX2_ok, nmX2⟩
theorem zf_X2_1 : zFld 2 1 "GlassSpindle$Hands" "piece" "LGlassSpindle$Piece;" true (.object "GlassSpindle$Piece") := ⟨TX2, 2, tyX2, rfl, by decide, rfl, by decide +kernel, zinX2, tyX2_ok, nmX2⟩
theorem zf_X3_2 : zFld 3 2 "GlassSpindle$Law" "facts" "[I" true (.array .int) := ⟨TX3, 3, tyX3, rfl, by decide, rfl, by decide +kernel, zinX3, tyX3_ok, nmX3⟩
theorem zf_X3_0 : zFld 3 0 "GlassSpindle$Law" "setup" "LGlassSpindle$Setup;" true (.object "GlassSpindle$Setup") := ⟨TX3, 3, tyX3, rfl, by decide, rfl, by decide +kernel, zinX3, tyX3_ok, nmX3⟩
theorem zf_X7_17 : zFld 7 17 "GlassSpindle$Setup" "codeEnd" "[I" true (.array .int) := ⟨TX7, 19, tyX7, rfl, by decide, rfl, by decide +kernel, zinX7, tyX7_ok, nmX7⟩
theorem zf_X7_15 : zFld 7 15 "GlassSpindle$Setup" "code" "[I" true (.array .int) := ⟨TX7, 19, tyX7, rfl, by decide, rfl, by decide +kernel, zinX7, tyX7_ok, nmX7⟩
theorem zf_X3_1 : zFld 3 1 "GlassSpindle$Law" "stack" "[I" true (.array .int) := ⟨TX3, 3, tyX3, rfl, by decide, rfl, by decide +kernel, zinX3, tyX3_ok, nmX3⟩
theorem zf_X4_5 : zFld 4 5 "GlassSpindle$Ordering" "least" "[I" true (.array .int) := ⟨TX4, 8, tyX4, rfl, by decide, rfl, by decide +kernel, zinX4, tyX4_ok, nmX4⟩
theorem zf_X4_0 : zFld 4 0 "GlassSpindle$Ordering" "setup" "LGlassSpindle$Setup;" true (.object "GlassSpindle$Setup") := ⟨TX4, 8, tyX4, rfl, by decide, rfl, by decide +kernel, zinX4, tyX4_ok, nmX4⟩
theorem zf_X4_6 : zFld 4 6 "GlassSpindle$Ordering" "found" "[I" true (.array .int) := ⟨TX4, 8, tyX4, rfl, by decide, rfl, by decide +kernel, zinX4, tyX4_ok, nmX4⟩
theorem zf_X4_4 : zFld 4 4 "GlassSpindle$Ordering" "nodes" "I" false (.int) := ⟨TX4, 8, tyX4, rfl, by decide, rfl, by decide +kernel, zinX4, tyX4_ok, nmX4⟩
theorem zf_X4_2 : zFld 4 2 "GlassSpindle$Ordering" "bowlOf" "[I" true (.array .int) := ⟨TX4, 8, tyX4, rfl, by decide, rfl, by decide +kernel, zinX4, tyX4_ok, nmX4⟩
theorem zf_X4_1 : zFld 4 1 "GlassSpindle$Ordering" "piece" "LGlassSpindle$Piece;" true (.object "GlassSpindle$Piece") := ⟨TX4, 8, tyX4, rfl, by decide, rfl, by decide +kernel, zinX4, tyX4_ok, nmX4⟩
theorem zf_X4_3 : zFld 4 3 "GlassSpindle$Ordering" "nodeOf" "[I" true (.array .int) := ⟨TX4, 8, tyX4, rfl, by decide, rfl, by decide +kernel, zinX4, tyX4_ok, nmX4⟩
theorem zf_X6_1 : zFld 6 1 "GlassSpindle$Reader" "out" "LGlassSpindle$Setup;" true (.object "GlassSpindle$Setup") := ⟨TX6, 6, tyX6, rfl, by decide, rfl, by decide +kernel, zinX6, tyX6_ok, nmX6⟩
theorem zf_X6_3 : zFld 6 3 "GlassSpindle$Reader" "at" "I" false (.int) := ⟨TX6, 6, tyX6, rfl, by decide, rfl, by decide +kernel, zinX6, tyX6_ok, nmX6⟩
theorem zf_X6_4 : zFld 6 4 "GlassSpindle$Reader" "told" "I" false (.int) := ⟨TX6, 6, tyX6, rfl, by decide, rfl, by decide +kernel, zinX6, tyX6_ok, nmX6⟩
theorem zf_X6_5 : zFld 6 5 "GlassSpindle$Reader" "fault" "I" false (.int) := ⟨TX6, 6, tyX6, rfl, by decide, rfl, by decide +kernel, zinX6, tyX6_ok, nmX6⟩
theorem zf_X6_0 : zFld 6 0 "GlassSpindle$Reader" "tape" "LGlassSpindle$Tape;" true (.object "GlassSpindle$Tape") := ⟨TX6, 6, tyX6, rfl, by decide, rfl, by decide +kernel, zinX6, tyX6_ok, nmX6⟩
theorem zf_X6_2 : zFld 6 2 "GlassSpindle$Reader" "names" "[I" true (.array .int) := ⟨TX6, 6, tyX6, rfl, by decide, rfl, by decide +kernel, zinX6, tyX6_ok, nmX6⟩
theorem zf_X7_9 : zFld 7 9 "GlassSpindle$Setup" "firstNumber" "[I" true (.array .int) := ⟨TX7, 19, tyX7, rfl, by decide, rfl, by decide +kernel, zinX7, tyX7_ok, nmX7⟩
theorem zf_X7_11 : zFld 7 11 "GlassSpindle$Setup" "secondNumber" "[I" true (.array .int) := ⟨TX7, 19, tyX7, rfl, by decide, rfl, by decide +kernel, zinX7, tyX7_ok, nmX7⟩
theorem zf_X7_14 : zFld 7 14 "GlassSpindle$Setup" "swift" "I" false (.int) := ⟨TX7, 19, tyX7, rfl, by decide, rfl, by decide +kernel, zinX7, tyX7_ok, nmX7⟩
theorem zf_X7_16 : zFld 7 16 "GlassSpindle$Setup" "codes" "I" false (.int) := ⟨TX7, 19, tyX7, rfl, by decide, rfl, by decide +kernel, zinX7, tyX7_ok, nmX7⟩
theorem zf_X8_0 : zFld 8 0 "GlassSpindle$Tape" "signs" "[C" true (.array .char) := ⟨TX8, 4, tyX8, rfl, by decide, rfl, by decide +kernel, zinX8, tyX8_ok, nmX8⟩
theorem zf_X8_3 : zFld 8 3 "GlassSpindle$Tape" "tokens" "I" false (.int) := ⟨TX8, 4, tyX8, rfl, by decide, rfl, by decide +kernel, zinX8, tyX8_ok, nmX8⟩
theorem zf_X8_2 : zFld 8 2 "GlassSpindle$Tape" "row" "[I" true (.array .int) := ⟨TX8, 4, tyX8, rfl, by decide, rfl, by decide +kernel, zinX8, tyX8_ok, nmX8⟩
theorem zf_X9_2 : zFld 9 2 "GlassSpindle$Voice" "warming" "LGlassSpindle$Warming;" true (.object "GlassSpindle$Warming") := ⟨TX9, 8, tyX9, rfl, by decide, rfl, by decide +kernel, zinX9, tyX9_ok, nmX9⟩
theorem zf_X9_6 : zFld 9 6 "GlassSpindle$Voice" "spoken" "[I" true (.array .int) := ⟨TX9, 8, tyX9, rfl, by decide, rfl, by decide +kernel, zinX9, tyX9_ok, nmX9⟩
theorem zf_X9_5 : zFld 9 5 "GlassSpindle$Voice" "reasons" "[I" true (.array .int) := ⟨TX9, 8, tyX9, rfl, by decide, rfl, by decide +kernel, zinX9, tyX9_ok, nmX9⟩
theorem zf_X9_1 : zFld 9 1 "GlassSpindle$Voice" "piece" "LGlassSpindle$Piece;" true (.object "GlassSpindle$Piece") := ⟨TX9, 8, tyX9, rfl, by decide, rfl, by decide +kernel, zinX9, tyX9_ok, nmX9⟩
theorem zf_X9_0 : zFld 9 0 "GlassSpindle$Voice" "setup" "LGlassSpindle$Setup;" true (.object "GlassSpindle$Setup") := ⟨TX9, 8, tyX9, rfl, by decide, rfl, by decide +kernel, zinX9, tyX9_ok, nmX9⟩
theorem zf_X9_3 : zFld 9 3 "GlassSpindle$Voice" "hands" "LGlassSpindle$Hands;" true (.object "GlassSpindle$Hands") := ⟨TX9, 8, tyX9, rfl, by decide, rfl, by decide +kernel, zinX9, tyX9_ok, nmX9⟩
theorem zf_X9_4 : zFld 9 4 "GlassSpindle$Voice" "law" "LGlassSpindle$Law;" true (.object "GlassSpindle$Law") := ⟨TX9, 8, tyX9, rfl, by decide, rfl, by decide +kernel, zinX9, tyX9_ok, nmX9⟩
theorem zf_X10_0 : zFld 10 0 "GlassSpindle$Warming" "setup" "LGlassSpindle$Setup;" true (.object "GlassSpindle$Setup") := ⟨TX10, 6, tyX10, rfl, by decide, rfl, by decide +kernel, zinX10, tyX10_ok, nmX10⟩
theorem zf_X10_3 : zFld 10 3 "GlassSpindle$Warming" "heat" "[I" true (.array .int) := ⟨TX10, 6, tyX10, rfl, by decide, rfl, by decide +kernel, zinX10, tyX10_ok, nmX10⟩
theorem zf_X10_4 : zFld 10 4 "GlassSpindle$Warming" "crackFrom" "[I" true (.array .int) := ⟨TX10, 6, tyX10, rfl, by decide, rfl, by decide +kernel, zinX10, tyX10_ok, nmX10⟩
theorem zf_X10_2 : zFld 10 2 "GlassSpindle$Warming" "presses" "[I" true (.array .int) := ⟨TX10, 6, tyX10, rfl, by decide, rfl, by decide +kernel, zinX10, tyX10_ok, nmX10⟩
theorem zf_X10_1 : zFld 10 1 "GlassSpindle$Warming" "piece" "LGlassSpindle$Piece;" true (.object "GlassSpindle$Piece") := ⟨TX10, 6, tyX10, rfl, by decide, rfl, by decide +kernel, zinX10, tyX10_ok, nmX10⟩
abbrev zmX11_feed : zMI := (yX11_feed, cX11_feed, 7, (some .int))
abbrev zmX8_addBytes : zMI := (yX8_addBytes, cX8_addBytes, 6, none)
abbrev zmX11_spindle : zMI := (yX11_spindle, cX11_spindle, 2, (some .int))
abbrev zmX6_read : zMI := (yX6_read, cX6_read, 3, (some .int))
abbrev zmX7_copy : zMI := (yX7_copy, cX7_copy, 2, none)
abbrev zmX11_forgetAll : zMI := (yX11_forgetAll, cX11_forgetAll, 1, none)
abbrev zmX11_bowl : zMI := (yX11_bowl, cX11_bowl, 3, (some .int))
abbrev zmX7_hasBowl : zMI := (yX7_hasBowl, cX7_hasBowl, 2, (some .boolean))
abbrev zmX11_note : zMI := (yX11_note, cX11_note, 7, (some .int))
abbrev zmX7_hasPlace : zMI := (yX7_hasPlace, cX7_hasPlace, 2, (some .boolean))
abbrev zmX5_add : zMI := (yX5_add, cX5_add, 6, none)
abbrev zmX11_forgetPlaying : zMI := (yX11_forgetPlaying, cX11_forgetPlaying, 1, none)
abbrev zmX5_takes : zMI := (yX5_takes, cX5_takes, 4, (some .boolean))
abbrev zmX7_hasFinger : zMI := (yX7_hasFinger, cX7_hasFinger, 2, (some .boolean))
abbrev zmX11_drop : zMI := (yX11_drop, cX11_drop, 1, (some .boolean))
abbrev zmX11_finger : zMI := (yX11_finger, cX11_finger, 3, (some .boolean))
abbrev zmX5_has : zMI := (yX5_has, cX5_has, 2, (some .boolean))
abbrev zmX11_noteOf : zMI := (yX11_noteOf, cX11_noteOf, 3, (some .int))
abbrev zmX11_touched : zMI := (yX11_touched, cX11_touched, 3, (some .int))
abbrev zmX11_isBeat : zMI := (yX11_isBeat, cX11_isBeat, 1, (some .boolean))
abbrev zmX5_pressOn : zMI := (yX5_pressOn, cX5_pressOn, 5, (some .int))
abbrev zmX11_warmth : zMI := (yX11_warmth, cX11_warmth, 3, (some .int))
abbrev zmX10_learn : zMI := (yX10_learn, cX10_learn, 2, none)
abbrev zmX10_heatOf : zMI := (yX10_heatOf, cX10_heatOf, 3, (some .int))
abbrev zmX11_cracked : zMI := (yX11_cracked, cX11_cracked, 2, (some .int))
abbrev zmX10_crackOf : zMI := (yX10_crackOf, cX10_crackOf, 2, (some .int))
abbrev zmX11_why : zMI := (yX11_why, cX11_why, 3, (some .int))
abbrev zmX5_lasts : zMI := (yX5_lasts, cX5_lasts, 3, (some .boolean))
abbrev zmX9_reasonOf : zMI := (yX9_reasonOf, cX9_reasonOf, 3, (some .int))
abbrev zmX11_speaks : zMI := (yX11_speaks, cX11_speaks, 2, (some .int))
abbrev zmX9_spokenBy : zMI := (yX9_spokenBy, cX9_spokenBy, 4, (some .int))
abbrev zmX11_sounds : zMI := (yX11_sounds, cX11_sounds, 2, (some .int))
abbrev zmX9_speakingIn : zMI := (yX9_speakingIn, cX9_speakingIn, 4, (some .int))
abbrev zmX11_along : zMI := (yX11_along, cX11_along, 2, (some .int))
abbrev zmX9_ringingIn : zMI := (yX9_ringingIn, cX9_ringingIn, 6, (some .int))
abbrev zmX11_silence : zMI := (yX11_silence, cX11_silence, 5, (some .int))
abbrev zmX5_firstIn : zMI := (yX5_firstIn, cX5_firstIn, 3, (some .int))
abbrev zmX9_silentFrom : zMI := (yX9_silentFrom, cX9_silentFrom, 3, (some .int))
abbrev zmX11_best : zMI := (yX11_best, cX11_best, 4, (some .int))
abbrev zmX9_spokenAt : zMI := (yX9_spokenAt, cX9_spokenAt, 5, (some .int))
abbrev zmX11_atTreadle : zMI := (yX11_atTreadle, cX11_atTreadle, 2, (some .int))
abbrev zmX11_wrong : zMI := (yX11_wrong, cX11_wrong, 2, (some .int))
abbrev zmX2_faultOf : zMI := (yX2_faultOf, cX2_faultOf, 5, (some .int))
abbrev zmX11_judged : zMI := (yX11_judged, cX11_judged, 2, (some .int))
abbrev zmX11_lifts : zMI := (yX11_lifts, cX11_lifts, 3, (some .int))
abbrev zmX2_liftsAt : zMI := (yX2_liftsAt, cX2_liftsAt, 4, (some .boolean))
abbrev zmX11_fewest : zMI := (yX11_fewest, cX11_fewest, 1, (some .int))
abbrev zmX0_fewestLifts : zMI := (yX0_fewestLifts, cX0_fewestLifts, 1, (some .int))
abbrev zmX11_fingered : zMI := (yX11_fingered, cX11_fingered, 2, (some .int))
abbrev zmX0_fingerOf : zMI := (yX0_fingerOf, cX0_fingerOf, 2, (some .int))
abbrev zmX11_far : zMI := (yX11_far, cX11_far, 1, (some .int))
abbrev zmX0_farthest : zMI := (yX0_farthest, cX0_farthest, 1, (some .int))
abbrev zmX11_beating : zMI := (yX11_beating, cX11_beating, 2, (some .int))
abbrev zmX7_hasPair : zMI := (yX7_hasPair, cX7_hasPair, 2, (some .boolean))
abbrev zmX7_speedOf : zMI := (yX7_speedOf, cX7_speedOf, 2, (some .int))
abbrev zmX11_within : zMI := (yX11_within, cX11_within, 3, (some .int))
abbrev zmX11_ground : zMI := (yX11_ground, cX11_ground, 1, (some .int))
abbrev zmX1_leastGlass : zMI := (yX1_leastGlass, cX1_leastGlass, 1, (some .int))
abbrev zmX11_groundOf : zMI := (yX11_groundOf, cX11_groundOf, 2, (some .int))
abbrev zmX11_spare : zMI := (yX11_spare, cX11_spare, 2, (some .int))
abbrev zmX7_nearestSpare : zMI := (yX7_nearestSpare, cX7_nearestSpare, 4, (some .int))
abbrev zmX11_exchange : zMI := (yX11_exchange, cX11_exchange, 3, (some .boolean))
abbrev zmX7_swap : zMI := (yX7_swap, cX7_swap, 3, none)
abbrev zmX5_rename : zMI := (yX5_rename, cX5_rename, 4, none)
abbrev zmX11_moved : zMI := (yX11_moved, cX11_moved, 3, (some .int))
abbrev zmX2_placeOf : zMI := (yX2_placeOf, cX2_placeOf, 2, (some .int))
abbrev zmX11_order : zMI := (yX11_order, cX11_order, 1, (some .int))
abbrev zmX4_leastMoved : zMI := (yX4_leastMoved, cX4_leastMoved, 1, (some .int))
abbrev zmX11_ordered : zMI := (yX11_ordered, cX11_ordered, 2, (some .int))
abbrev zmX4_bowlAt : zMI := (yX4_bowlAt, cX4_bowlAt, 2, (some .int))
abbrev zmX11_count : zMI := (yX11_count, cX11_count, 2, (some .int))
abbrev zmX11_lay : zMI := (yX11_lay, cX11_lay, 2, (some .boolean))
abbrev zmX5_copy : zMI := (yX5_copy, cX5_copy, 2, none)
abbrev zmX11_goBack : zMI := (yX11_goBack, cX11_goBack, 2, (some .boolean))
abbrev zmX12_thrown : zMI := (yX12_thrown, cX12_thrown, 1, (some .int))
abbrev zmX12_isFrom : zMI := (yX12_isFrom, cX12_isFrom, 3, (some .boolean))
abbrev zmX12_away : zMI := (yX12_away, cX12_away, 2, (some .int))
abbrev zmX12_feed : zMI := (yX12_feed, cX12_feed, 11, (some .int))
abbrev zmX12_signAt : zMI := (yX12_signAt, cX12_signAt, 2, (some .int))
abbrev zmX12_nextToken : zMI := (yX12_nextToken, cX12_nextToken, 2, none)
abbrev zmX12_isWord : zMI := (yX12_isWord, cX12_isWord, 3, (some .boolean))
abbrev zmX12_isSign : zMI := (yX12_isSign, cX12_isSign, 2, (some .boolean))
abbrev zmX12_fails : zMI := (yX12_fails, cX12_fails, 2, (some .boolean))
abbrev zmX12_puts : zMI := (yX12_puts, cX12_puts, 2, none)
abbrev zmX12_fact : zMI := (yX12_fact, cX12_fact, 1, (some .int))
abbrev zmX12_reads : zMI := (yX12_reads, cX12_reads, 6, (some .boolean))
abbrev zmX12_opens : zMI := (yX12_opens, cX12_opens, 2, none)
abbrev zmX12_sums : zMI := (yX12_sums, cX12_sums, 2, none)
abbrev zmX12_tests : zMI := (yX12_tests, cX12_tests, 3, none)
abbrev zmX12_worked : zMI := (yX12_worked, cX12_worked, 6, (some .int))
abbrev zmX12_isKept : zMI := (yX12_isKept, cX12_isKept, 1, (some .boolean))
abbrev zmX12_needsNumber : zMI := (yX12_needsNumber, cX12_needsNumber, 3, (some .boolean))
abbrev zmX12_needs : zMI := (yX12_needs, cX12_needs, 5, (some .boolean))
abbrev zmX12_ends : zMI := (yX12_ends, cX12_ends, 1, (some .boolean))
abbrev zmX12_bowlOf : zMI := (yX12_bowlOf, cX12_bowlOf, 2, (some .int))
abbrev zmX12_readsBowl : zMI := (yX12_readsBowl, cX12_readsBowl, 2, (some .boolean))
abbrev zmX12_readsPair : zMI := (yX12_readsPair, cX12_readsPair, 2, (some .boolean))
abbrev zmX12_readsSpeak : zMI := (yX12_readsSpeak, cX12_readsSpeak, 1, (some .boolean))
abbrev zmX12_what : zMI := (yX12_what, cX12_what, 1, (some .int))
abbrev zmX12_without : zMI := (yX12_without, cX12_without, 1, (some .int))
abbrev zmX12_least : zMI := (yX12_least, cX12_least, 1, (some .int))
abbrev zmX12_most : zMI := (yX12_most, cX12_most, 1, (some .int))
abbrev zmX12_readsSet : zMI := (yX12_readsSet, cX12_readsSet, 2, (some .boolean))
abbrev zmX12_readsAll : zMI := (yX12_readsAll, cX12_readsAll, 2, (some .boolean))
abbrev zmX12_lays : zMI := (yX12_lays, cX12_lays, 4, none)
abbrev zmX12_spindle : zMI := (yX12_spindle, cX12_spindle, 3, (some .int))
abbrev zmX12_isBowl : zMI := (yX12_isBowl, cX12_isBowl, 2, (some .boolean))
abbrev zmX12_isPlaced : zMI := (yX12_isPlaced, cX12_isPlaced, 2, (some .boolean))
abbrev zmX12_placed : zMI := (yX12_placed, cX12_placed, 3, (some .int))
abbrev zmX12_bowl : zMI := (yX12_bowl, cX12_bowl, 3, (some .int))
abbrev zmX12_isNote : zMI := (yX12_isNote, cX12_isNote, 2, (some .boolean))
abbrev zmX12_isBeat : zMI := (yX12_isBeat, cX12_isBeat, 1, (some .boolean))
abbrev zmX12_isFinger : zMI := (yX12_isFinger, cX12_isFinger, 2, (some .boolean))
abbrev zmX12_endOf : zMI := (yX12_endOf, cX12_endOf, 2, (some .int))
abbrev zmX12_lasts : zMI := (yX12_lasts, cX12_lasts, 3, (some .boolean))
abbrev zmX12_note : zMI := (yX12_note, cX12_note, 6, (some .int))
abbrev zmX12_drop : zMI := (yX12_drop, cX12_drop, 1, (some .boolean))
abbrev zmX12_finger : zMI := (yX12_finger, cX12_finger, 3, (some .boolean))
abbrev zmX12_noteOf : zMI := (yX12_noteOf, cX12_noteOf, 3, (some .int))
abbrev zmX12_touchedIn : zMI := (yX12_touchedIn, cX12_touchedIn, 5, (some .int))
abbrev zmX12_touched : zMI := (yX12_touched, cX12_touched, 3, (some .int))
abbrev zmX12_warms : zMI := (yX12_warms, cX12_warms, 6, none)
abbrev zmX12_warmth : zMI := (yX12_warmth, cX12_warmth, 3, (some .int))
abbrev zmX12_cracked : zMI := (yX12_cracked, cX12_cracked, 2, (some .int))
abbrev zmX12_worn : zMI := (yX12_worn, cX12_worn, 5, (some .int))
abbrev zmX12_isDry : zMI := (yX12_isDry, cX12_isDry, 3, (some .boolean))
abbrev zmX12_whyIn : zMI := (yX12_whyIn, cX12_whyIn, 6, (some .int))
abbrev zmX12_why : zMI := (yX12_why, cX12_why, 3, (some .int))
abbrev zmX12_speaksFor : zMI := (yX12_speaksFor, cX12_speaksFor, 5, (some .int))
abbrev zmX12_speaks : zMI := (yX12_speaks, cX12_speaks, 2, (some .int))
abbrev zmX12_soundsIn : zMI := (yX12_soundsIn, cX12_soundsIn, 4, (some .int))
abbrev zmX12_sounds : zMI := (yX12_sounds, cX12_sounds, 2, (some .int))
abbrev zmX12_along : zMI := (yX12_along, cX12_along, 7, (some .int))
abbrev zmX12_silence : zMI := (yX12_silence, cX12_silence, 6, (some .int))
abbrev zmX12_allAt : zMI := (yX12_allAt, cX12_allAt, 4, (some .int))
abbrev zmX12_best : zMI := (yX12_best, cX12_best, 6, (some .int))
abbrev zmX12_atTreadle : zMI := (yX12_atTreadle, cX12_atTreadle, 2, (some .int))
abbrev zmX12_meet : zMI := (yX12_meet, cX12_meet, 3, (some .boolean))
abbrev zmX12_at : zMI := (yX12_at, cX12_at, 2, (some .int))
abbrev zmX12_wrongIs : zMI := (yX12_wrongIs, cX12_wrongIs, 6, (some .int))
abbrev zmX12_wrong : zMI := (yX12_wrong, cX12_wrong, 2, (some .int))
abbrev zmX12_judged : zMI := (yX12_judged, cX12_judged, 2, (some .int))
abbrev zmX12_stays : zMI := (yX12_stays, cX12_stays, 3, (some .boolean))
abbrev zmX12_lifts : zMI := (yX12_lifts, cX12_lifts, 3, (some .int))
abbrev zmX12_tries : zMI := (yX12_tries, cX12_tries, 4, none)
abbrev zmX12_hasTried : zMI := (yX12_hasTried, cX12_hasTried, 2, (some .boolean))
abbrev zmX12_fewest : zMI := (yX12_fewest, cX12_fewest, 1, (some .int))
abbrev zmX12_fingered : zMI := (yX12_fingered, cX12_fingered, 2, (some .int))
abbrev zmX12_far : zMI := (yX12_far, cX12_far, 1, (some .int))
abbrev zmX12_beats : zMI := (yX12_beats, cX12_beats, 4, (some .int))
abbrev zmX12_beating : zMI := (yX12_beating, cX12_beating, 2, (some .int))
abbrev zmX12_within : zMI := (yX12_within, cX12_within, 3, (some .int))
abbrev zmX12_isPaired : zMI := (yX12_isPaired, cX12_isPaired, 3, (some .boolean))
abbrev zmX12_goes : zMI := (yX12_goes, cX12_goes, 3, (some .boolean))
abbrev zmX12_grinds : zMI := (yX12_grinds, cX12_grinds, 5, none)
abbrev zmX12_isGround : zMI := (yX12_isGround, cX12_isGround, 3, (some .boolean))
abbrev zmX12_ground : zMI := (yX12_ground, cX12_ground, 1, (some .int))
abbrev zmX12_groundOf : zMI := (yX12_groundOf, cX12_groundOf, 2, (some .int))
abbrev zmX12_spare : zMI := (yX12_spare, cX12_spare, 4, (some .int))
abbrev zmX12_exchange : zMI := (yX12_exchange, cX12_exchange, 4, (some .boolean))
abbrev zmX12_moved : zMI := (yX12_moved, cX12_moved, 3, (some .int))
abbrev zmX12_lines : zMI := (yX12_lines, cX12_lines, 5, none)
abbrev zmX12_hasLines : zMI := (yX12_hasLines, cX12_hasLines, 3, (some .boolean))
abbrev zmX12_order : zMI := (yX12_order, cX12_order, 1, (some .int))
abbrev zmX12_ordered : zMI := (yX12_ordered, cX12_ordered, 3, (some .int))
abbrev zmX12_keeps : zMI := (yX12_keeps, cX12_keeps, 5, none)
abbrev zmX12_mark : zMI := (yX12_mark, cX12_mark, 3, (some .boolean))
abbrev zmX12_count : zMI := (yX12_count, cX12_count, 2, (some .int))
abbrev zmX0_learn : zMI := (yX0_learn, cX0_learn, 1, (some .boolean))
abbrev zmX0_countSure : zMI := (yX0_countSure, cX0_countSure, 2, none)
abbrev zmX0_countPlayable : zMI := (yX0_countPlayable, cX0_countPlayable, 1, none)
abbrev zmX0_search : zMI := (yX0_search, cX0_search, 5, none)
abbrev zmX0_sureFrom : zMI := (yX0_sureFrom, cX0_sureFrom, 7, (some .int))
abbrev zmX0_followed : zMI := (yX0_followed, cX0_followed, 3, (some .int))
abbrev zmX5_follows : zMI := (yX5_follows, cX5_follows, 3, (some .boolean))
abbrev zmX0_isHopeless : zMI := (yX0_isHopeless, cX0_isHopeless, 3, (some .boolean))
abbrev zmX0_handHolds : zMI := (yX0_handHolds, cX0_handHolds, 10, (some .boolean))
abbrev zmX5_overlap : zMI := (yX5_overlap, cX5_overlap, 3, (some .boolean))
abbrev zmX0_isSettled : zMI := (yX0_isSettled, cX0_isSettled, 1, (some .boolean))
abbrev zmX1_learn : zMI := (yX1_learn, cX1_learn, 2, none)
abbrev zmX1_stepOf : zMI := (yX1_stepOf, cX1_stepOf, 3, (some .int))
abbrev zmX1_weightOf : zMI := (yX1_weightOf, cX1_weightOf, 5, (some .long))
abbrev zmX1_listNodes : zMI := (yX1_listNodes, cX1_listNodes, 2, (some .boolean))
abbrev zmX1_listNeighbours : zMI := (yX1_listNeighbours, cX1_listNeighbours, 4, none)
abbrev zmX1_nextNode : zMI := (yX1_nextNode, cX1_nextNode, 4, (some .int))
abbrev zmX1_takeOut : zMI := (yX1_takeOut, cX1_takeOut, 4, none)
abbrev zmJ7_fill_53178 : zMI := (yJ7_fill_53178, cJ7_fill_53178, 4, none)
abbrev zmX1_isPaired : zMI := (yX1_isPaired, cX1_isPaired, 3, (some .boolean))
abbrev zmJ6_bitCount_0f7a4 : zMI := (yJ6_bitCount_0f7a4, cJ6_bitCount_0f7a4, 1, (some .int))
abbrev zmX1_waysOf : zMI := (yX1_waysOf, cX1_waysOf, 4, (some .int))
abbrev zmX1_spread : zMI := (yX1_spread, cX1_spread, 5, none)
abbrev zmX1_bestStep : zMI := (yX1_bestStep, cX1_bestStep, 5, (some .long))
abbrev zmX1_leave : zMI := (yX1_leave, cX1_leave, 4, none)
abbrev zmX1_wayOf : zMI := (yX1_wayOf, cX1_wayOf, 4, (some .int))
abbrev zmX1_fits : zMI := (yX1_fits, cX1_fits, 6, (some .boolean))
abbrev zmX1_costOf : zMI := (yX1_costOf, cX1_costOf, 8, (some .long))
abbrev zmX1_toneOf : zMI := (yX1_toneOf, cX1_toneOf, 2, (some .int))
abbrev zmX7_speedAt : zMI := (yX7_speedAt, cX7_speedAt, 4, (some .int))
abbrev zmX2_clash : zMI := (yX2_clash, cX2_clash, 8, (some .int))
abbrev zmX2_wornBefore : zMI := (yX2_wornBefore, cX2_wornBefore, 6, (some .int))
abbrev zmX7_leftHand : zMI := (yX7_leftHand, cX7_leftHand, 2, (some .boolean))
abbrev zmX5_endOf : zMI := (yX5_endOf, cX5_endOf, 2, (some .int))
abbrev zmX2_driesIn : zMI := (yX2_driesIn, cX2_driesIn, 3, (some .boolean))
abbrev zmX3_tell : zMI := (yX3_tell, cX3_tell, 5, none)
abbrev zmX3_allows : zMI := (yX3_allows, cX3_allows, 4, (some .boolean))
abbrev zmX3_valueOf : zMI := (yX3_valueOf, cX3_valueOf, 6, (some .int))
abbrev zmX3_isOperand : zMI := (yX3_isOperand, cX3_isOperand, 1, (some .boolean))
abbrev zmX3_joined : zMI := (yX3_joined, cX3_joined, 3, (some .int))
abbrev zmX4_learn : zMI := (yX4_learn, cX4_learn, 3, (some .boolean))
abbrev zmX4_listNodes : zMI := (yX4_listNodes, cX4_listNodes, 3, none)
abbrev zmX4_passes : zMI := (yX4_passes, cX4_passes, 4, (some .int))
abbrev zmX4_nextOf : zMI := (yX4_nextOf, cX4_nextOf, 5, (some .int))
abbrev zmX4_follow : zMI := (yX4_follow, cX4_follow, 4, none)
abbrev zmX7_clear : zMI := (yX7_clear, cX7_clear, 1, none)
abbrev zmX8_split : zMI := (yX8_split, cX8_split, 4, none)
abbrev zmX6_seen : zMI := (yX6_seen, cX6_seen, 1, (some .int))
abbrev zmX6_line : zMI := (yX6_line, cX6_line, 1, (some .boolean))
abbrev zmX6_placeSeen : zMI := (yX6_placeSeen, cX6_placeSeen, 1, (some .int))
abbrev zmX8_tokenAt : zMI := (yX8_tokenAt, cX8_tokenAt, 2, (some .int))
abbrev zmX8_placeAt : zMI := (yX8_placeAt, cX8_placeAt, 2, (some .int))
abbrev zmX6_refuse : zMI := (yX6_refuse, cX6_refuse, 2, (some .boolean))
abbrev zmX6_take : zMI := (yX6_take, cX6_take, 2, (some .boolean))
abbrev zmX6_number : zMI := (yX6_number, cX6_number, 6, (some .boolean))
abbrev zmX6_bowlLine : zMI := (yX6_bowlLine, cX6_bowlLine, 4, (some .boolean))
abbrev zmX6_pairLine : zMI := (yX6_pairLine, cX6_pairLine, 3, (some .boolean))
abbrev zmX6_speakLine : zMI := (yX6_speakLine, cX6_speakLine, 1, (some .boolean))
abbrev zmX6_setLine : zMI := (yX6_setLine, cX6_setLine, 2, (some .boolean))
abbrev zmX6_newName : zMI := (yX6_newName, cX6_newName, 2, (some .boolean))
abbrev zmX7_putBowl : zMI := (yX7_putBowl, cX7_putBowl, 2, none)
abbrev zmX6_isName : zMI := (yX6_isName, cX6_isName, 1, (some .boolean))
abbrev zmX6_bowlSeen : zMI := (yX6_bowlSeen, cX6_bowlSeen, 2, (some .int))
abbrev zmX8_sameWord : zMI := (yX8_sameWord, cX8_sameWord, 6, (some .boolean))
abbrev zmX6_toldName : zMI := (yX6_toldName, cX6_toldName, 5, (some .boolean))
abbrev zmX6_chain : zMI := (yX6_chain, cX6_chain, 6, (some .boolean))
abbrev zmX7_endSpeak : zMI := (yX7_endSpeak, cX7_endSpeak, 1, none)
abbrev zmX6_levelOf : zMI := (yX6_levelOf, cX6_levelOf, 1, (some .int))
abbrev zmX7_putCode : zMI := (yX7_putCode, cX7_putCode, 2, none)
abbrev zmX6_part : zMI := (yX6_part, cX6_part, 5, (some .boolean))
abbrev zmX7_apart : zMI := (yX7_apart, cX7_apart, 3, (some .int))
abbrev zmX8_endOf : zMI := (yX8_endOf, cX8_endOf, 3, (some .int))
abbrev zmX8_tokenFrom : zMI := (yX8_tokenFrom, cX8_tokenFrom, 3, (some .int))
abbrev zmX8_put : zMI := (yX8_put, cX8_put, 3, none)
abbrev zmX8_isLetter : zMI := (yX8_isLetter, cX8_isLetter, 2, (some .boolean))
abbrev zmX8_isDigit : zMI := (yX8_isDigit, cX8_isDigit, 2, (some .boolean))
abbrev zmX8_valueFrom : zMI := (yX8_valueFrom, cX8_valueFrom, 5, (some .int))
abbrev zmX8_wordFrom : zMI := (yX8_wordFrom, cX8_wordFrom, 4, (some .int))
abbrev zmX8_fills : zMI := (yX8_fills, cX8_fills, 6, (some .boolean))
abbrev zmX8_letterAt : zMI := (yX8_letterAt, cX8_letterAt, 3, (some .char))
abbrev zmX9_learn : zMI := (yX9_learn, cX9_learn, 1, none)
abbrev zmX9_reasonKept : zMI := (yX9_reasonKept, cX9_reasonKept, 4, (some .int))
abbrev zmX9_reasonFound : zMI := (yX9_reasonFound, cX9_reasonFound, 5, (some .int))
abbrev zmX10_isCracked : zMI := (yX10_isCracked, cX10_isCracked, 3, (some .boolean))
abbrev zmX9_tellLaw : zMI := (yX9_tellLaw, cX9_tellLaw, 5, none)
abbrev zmX9_speedOf : zMI := (yX9_speedOf, cX9_speedOf, 3, (some .int))
abbrev zmX9_speaksAt : zMI := (yX9_speaksAt, cX9_speaksAt, 5, (some .boolean))
abbrev zmX9_isRoused : zMI := (yX9_isRoused, cX9_isRoused, 6, (some .boolean))
abbrev zmX10_press : zMI := (yX10_press, cX10_press, 4, none)
abbrev zmX10_warm : zMI := (yX10_warm, cX10_warm, 6, none)
theorem zmw_X8_addBytes : zMW zmX8_addBytes 1 := ⟨zkc_X8_addBytes, zki_X8, by decide +kernel, by decide +kernel, by decide⟩
theorem zmw_X6_read : zMW zmX6_read 0 := ⟨zkc_X6_read, zki_X6, by decide +kernel, by decide +kernel, by decide⟩
theorem zmw_X7_copy : zMW zmX7_copy 1 := ⟨zkc_X7_copy, zki_X7, by decide +kernel, by decide +kernel, by decide⟩
theorem zmw_X11_forgetAll : zMW zmX11_forgetAll 0 := ⟨zkc_X11_forgetAll, zki_X11, by decide +kernel, by decide +kernel, by decide⟩
theorem zmw_X7_hasBowl : zMW zmX7_hasBowl 1 := ⟨zkc_X7_hasBowl, zki_X7, by decide +kernel, by decide +kernel, by decide⟩
theorem zmw_X7_hasPlace : zMW zmX7_hasPlace 1 := ⟨zkc_X7_hasPlace, zki_X7, by decide +kernel, by decide +kernel, by decide⟩
theorem zmw_X5_add : zMW zmX5_add 5 := ⟨zkc_X5_add, zki_X5, by decide +kernel, by decide +kernel, by decide⟩
theorem zmw_X11_forgetPlaying : zMW zmX11_forgetPlaying 0 := ⟨zkc_X11_forgetPlaying, zki_X11, by decide +kernel, by decide +kernel, by decide⟩
theorem zmw_X5_takes : zMW zmX5_takes 2 := ⟨zkc_X5_takes, zki_X5, by decide +kernel, by decide +kernel, by decide⟩
theorem zmw_X7_hasFinger : zMW zmX7_hasFinger 1 := ⟨zkc_X7_hasFinger, zki_X7, by decide +kernel, by decide +kernel, by decide⟩
theorem zmw_X5_has : zMW zmX5_has 1 := ⟨zkc_X5_has, zki_X5, by decide +kernel, by decide +kernel, by decide⟩
theorem zmw_X11_isBeat : zMW zmX11_isBeat 1 := ⟨zkc_X11_isBeat, zki_X11, by decide +kernel, by decide +kernel, by decide⟩
theorem zmw_X5_pressOn : zMW zmX5_pressOn 2 := ⟨zkc_X5_pressOn, zki_X5, by decide +kernel, by decide +kernel, by decide⟩
theorem zmw_X10_learn : zMW zmX10_learn 0 := ⟨zkc_X10_learn, zki_X10, by decide +kernel, by decide +kernel, by decide⟩
theorem zmw_X10_heatOf : zMW zmX10_heatOf 2 := ⟨zkc_X10_heatOf, zki_X10, by decide +kernel, by decide +kernel, by decide⟩
theorem zmw_X10_crackOf : zMW zmX10_crackOf 1 := ⟨zkc_X10_crackOf, zki_X10, by decide +kernel, by decide +kernel, by decide⟩
theorem zmw_X5_lasts : zMW zmX5_lasts 2 := ⟨zkc_X5_lasts, zki_X5, by decide +kernel, by decide +kernel, by decide⟩
theorem zmw_X9_reasonOf : zMW zmX9_reasonOf 2 := ⟨zkc_X9_reasonOf, zki_X9, by decide +kernel, by decide +kernel, by decide⟩
theorem zmw_X9_spokenBy : zMW zmX9_spokenBy 1 := ⟨zkc_X9_spokenBy, zki_X9, by decide +kernel, by decide +kernel, by decide⟩
theorem zmw_X9_speakingIn : zMW zmX9_speakingIn 1 := ⟨zkc_X9_speakingIn, zki_X9, by decide +kernel, by decide +kernel, by decide⟩
theorem zmw_X9_ringingIn : zMW zmX9_ringingIn 1 := ⟨zkc_X9_ringingIn, zki_X9, by decide +kernel, by decide +kernel, by decide⟩
theorem zmw_X5_firstIn : zMW zmX5_firstIn 1 := ⟨zkc_X5_firstIn, zki_X5, by decide +kernel, by decide +kernel, by decide⟩
theorem zmw_X9_silentFrom : zMW zmX9_silentFrom 1 := ⟨zkc_X9_silentFrom, zki_X9, by decide +kernel, by decide +kernel, by decide⟩
theorem zmw_X9_spokenAt : zMW zmX9_spokenAt 1 := ⟨zkc_X9_spokenAt, zki_X9, by decide +kernel, by decide +kernel, by decide⟩
theorem zmw_X2_faultOf : zMW zmX2_faultOf 2 := ⟨zkc_X2_faultOf, zki_X2, by decide +kernel, by decide +kernel, by decide⟩
theorem zmw_X2_liftsAt : zMW zmX2_liftsAt 2 := ⟨zkc_X2_liftsAt, zki_X2, by decide +kernel, by decide +kernel, by decide⟩
theorem zmw_X0_fewestLifts : zMW zmX0_fewestLifts 0 := ⟨zkc_X0_fewestLifts, zki_X0, by decide +kernel, by decide +kernel, by decide⟩
theorem zmw_X0_fingerOf : zMW zmX0_fingerOf 1 := ⟨zkc_X0_fingerOf, zki_X0, by decide +kernel, by decide +kernel, by decide⟩
theorem zmw_X0_farthest : zMW zmX0_farthest 0 := ⟨zkc_X0_farthest, zki_X0, by decide +kernel, by decide +kernel, by decide⟩
theorem zmw_X7_hasPair : zMW zmX7_hasPair 1 := ⟨zkc_X7_hasPair, zki_X7, by decide +kernel, by decide +kernel, by decide⟩
theorem zmw_X7_speedOf : zMW zmX7_speedOf 1 := ⟨zkc_X7_speedOf, zki_X7, by decide +kernel, by decide +kernel, by decide⟩
theorem zmw_X1_leastGlass : zMW zmX1_leastGlass 0 := ⟨zkc_X1_leastGlass, zki_X1, by decide +kernel, by decide +kernel, by decide⟩
theorem zmw_X7_nearestSpare : zMW zmX7_nearestSpare 1 := ⟨zkc_X7_nearestSpare, zki_X7, by decide +kernel, by decide +kernel, by decide⟩
theorem zmw_X7_swap : zMW zmX7_swap 2 := ⟨zkc_X7_swap, zki_X7, by decide +kernel, by decide +kernel, by decide⟩
theorem zmw_X5_rename : zMW zmX5_rename 2 := ⟨zkc_X5_rename, zki_X5, by decide +kernel, by decide +kernel, by decide⟩
theorem zmw_X2_placeOf : zMW zmX2_placeOf 1 := ⟨zkc_X2_placeOf, zki_X2, by decide +kernel, by decide +kernel, by decide⟩
theorem zmw_X4_leastMoved : zMW zmX4_leastMoved 0 := ⟨zkc_X4_leastMoved, zki_X4, by decide +kernel, by decide +kernel, by decide⟩
theorem zmw_X4_bowlAt : zMW zmX4_bowlAt 1 := ⟨zkc_X4_bowlAt, zki_X4, by decide +kernel, by decide +kernel, by decide⟩
theorem zmw_X5_copy : zMW zmX5_copy 1 := ⟨zkc_X5_copy, zki_X5, by decide +kernel, by decide +kernel, by decide⟩
theorem zmw_X12_signAt : zMW zmX12_signAt 1 := ⟨zkc_X12_signAt, zki_X12, by decide +kernel, by decide +kernel, by decide⟩
theorem zmw_X12_isSign : zMW zmX12_isSign 1 := ⟨zkc_X12_isSign, zki_X12, by decide +kernel, by decide +kernel, by decide⟩
theorem zmw_X12_puts : zMW zmX12_puts 1 := ⟨zkc_X12_puts, zki_X12, by decide +kernel, by decide +kernel, by decide⟩
theorem zmw_X12_nextToken : zMW zmX12_nextToken 0 := ⟨zkc_X12_nextToken, zki_X12, by decide +kernel, by decide +kernel, by decide⟩
theorem zmw_X12_isWord : zMW zmX12_isWord 1 := ⟨zkc_X12_isWord, zki_X12, by decide +kernel, by decide +kernel, by decide⟩
theorem zmw_X12_fails : zMW zmX12_fails 1 := ⟨zkc_X12_fails, zki_X12, by decide +kernel, by decide +kernel, by decide⟩
theorem zmw_X12_fact : zMW zmX12_fact 0 := ⟨zkc_X12_fact, zki_X12, by decide +kernel, by decide +kernel, by decide⟩
theorem zmw_X12_sums : zMW zmX12_sums 1 := ⟨zkc_X12_sums, zki_X12, by decide +kernel, by decide +kernel, by decide⟩
theorem zmw_X12_opens : zMW zmX12_opens 1 := ⟨zkc_X12_opens, zki_X12, by decide +kernel, by decide +kernel, by decide⟩
theorem zmw_X12_tests : zMW zmX12_tests 1 := ⟨zkc_X12_tests, zki_X12, by decide +kernel, by decide +kernel, by decide⟩
theorem zmw_X12_isFrom : zMW zmX12_isFrom 3 := ⟨zkc_X12_isFrom, zki_X12, by decide +kernel, by decide +kernel, by decide⟩
theorem zmw_X12_needsNumber : zMW zmX12_needsNumber 2 := ⟨zkc_X12_needsNumber, zki_X12, by decide +kernel, by decide +kernel, by decide⟩
theorem zmw_X12_isKept : zMW zmX12_isKept 0 := ⟨zkc_X12_isKept, zki_X12, by decide +kernel, by decide +kernel, by decide⟩
theorem zmw_X12_bowlOf : zMW zmX12_bowlOf 0 := ⟨zkc_X12_bowlOf, zki_X12, by decide +kernel, by decide +kernel, by decide⟩
theorem zmw_X12_needs : zMW zmX12_needs 3 := ⟨zkc_X12_needs, zki_X12, by decide +kernel, by decide +kernel, by decide⟩
theorem zmw_X12_ends : zMW zmX12_ends 0 := ⟨zkc_X12_ends, zki_X12, by decide +kernel, by decide +kernel, by decide⟩
theorem zmw_X12_reads : zMW zmX12_reads 0 := ⟨zkc_X12_reads, zki_X12, by decide +kernel, by decide +kernel, by decide⟩
theorem zmw_X12_what : zMW zmX12_what 0 := ⟨zkc_X12_what, zki_X12, by decide +kernel, by decide +kernel, by decide⟩
theorem zmw_X12_least : zMW zmX12_least 1 := ⟨zkc_X12_least, zki_X12, by decide +kernel, by decide +kernel, by decide⟩
theorem zmw_X12_most : zMW zmX12_most 1 := ⟨zkc_X12_most, zki_X12, by decide +kernel, by decide +kernel, by decide⟩
theorem zmw_X12_without : zMW zmX12_without 1 := ⟨zkc_X12_without, zki_X12, by decide +kernel, by decide +kernel, by decide⟩
theorem zmw_X12_readsSet : zMW zmX12_readsSet 0 := ⟨zkc_X12_readsSet, zki_X12, by decide +kernel, by decide +kernel, by decide⟩
theorem zmw_X12_readsSpeak : zMW zmX12_readsSpeak 0 := ⟨zkc_X12_readsSpeak, zki_X12, by decide +kernel, by decide +kernel, by decide⟩
theorem zmw_X12_readsPair : zMW zmX12_readsPair 0 := ⟨zkc_X12_readsPair, zki_X12, by decide +kernel, by decide +kernel, by decide⟩
theorem zmw_X12_readsBowl : zMW zmX12_readsBowl 0 := ⟨zkc_X12_readsBowl, zki_X12, by decide +kernel, by decide +kernel, by decide⟩
theorem zmw_X12_readsAll : zMW zmX12_readsAll 0 := ⟨zkc_X12_readsAll, zki_X12, by decide +kernel, by decide +kernel, by decide⟩
theorem zmw_X12_lays : zMW zmX12_lays 2 := ⟨zkc_X12_lays, zki_X12, by decide +kernel, by decide +kernel, by decide⟩
theorem zmw_X12_isBowl : zMW zmX12_isBowl 1 := ⟨zkc_X12_isBowl, zki_X12, by decide +kernel, by decide +kernel, by decide⟩
theorem zmw_X12_endOf : zMW zmX12_endOf 1 := ⟨zkc_X12_endOf, zki_X12, by decide +kernel, by decide +kernel, by decide⟩
theorem zmw_X12_isPlaced : zMW zmX12_isPlaced 1 := ⟨zkc_X12_isPlaced, zki_X12, by decide +kernel, by decide +kernel, by decide⟩
theorem zmw_X12_isBeat : zMW zmX12_isBeat 1 := ⟨zkc_X12_isBeat, zki_X12, by decide +kernel, by decide +kernel, by decide⟩
theorem zmw_X12_isFinger : zMW zmX12_isFinger 1 := ⟨zkc_X12_isFinger, zki_X12, by decide +kernel, by decide +kernel, by decide⟩
theorem zmw_X12_isNote : zMW zmX12_isNote 1 := ⟨zkc_X12_isNote, zki_X12, by decide +kernel, by decide +kernel, by decide⟩
theorem zmw_X12_lasts : zMW zmX12_lasts 2 := ⟨zkc_X12_lasts, zki_X12, by decide +kernel, by decide +kernel, by decide⟩
theorem zmw_X12_touchedIn : zMW zmX12_touchedIn 2 := ⟨zkc_X12_touchedIn, zki_X12, by decide +kernel, by decide +kernel, by decide⟩
theorem zmw_X12_warms : zMW zmX12_warms 0 := ⟨zkc_X12_warms, zki_X12, by decide +kernel, by decide +kernel, by decide⟩
theorem zmw_X12_worn : zMW zmX12_worn 1 := ⟨zkc_X12_worn, zki_X12, by decide +kernel, by decide +kernel, by decide⟩
theorem zmw_X12_isDry : zMW zmX12_isDry 2 := ⟨zkc_X12_isDry, zki_X12, by decide +kernel, by decide +kernel, by decide⟩
theorem zmw_X12_worked : zMW zmX12_worked 1 := ⟨zkc_X12_worked, zki_X12, by decide +kernel, by decide +kernel, by decide⟩
theorem zmw_X12_whyIn : zMW zmX12_whyIn 3 := ⟨zkc_X12_whyIn, zki_X12, by decide +kernel, by decide +kernel, by decide⟩
theorem zmw_X12_speaksFor : zMW zmX12_speaksFor 2 := ⟨zkc_X12_speaksFor, zki_X12, by decide +kernel, by decide +kernel, by decide⟩
theorem zmw_X12_soundsIn : zMW zmX12_soundsIn 1 := ⟨zkc_X12_soundsIn, zki_X12, by decide +kernel, by decide +kernel, by decide⟩
theorem zmw_X12_away : zMW zmX12_away 2 := ⟨zkc_X12_away, zki_X12, by decide +kernel, by decide +kernel, by decide⟩
theorem zmw_X12_allAt : zMW zmX12_allAt 1 := ⟨zkc_X12_allAt, zki_X12, by decide +kernel, by decide +kernel, by decide⟩
theorem zmw_X12_meet : zMW zmX12_meet 2 := ⟨zkc_X12_meet, zki_X12, by decide +kernel, by decide +kernel, by decide⟩
theorem zmw_X12_at : zMW zmX12_at 1 := ⟨zkc_X12_at, zki_X12, by decide +kernel, by decide +kernel, by decide⟩
theorem zmw_X12_wrongIs : zMW zmX12_wrongIs 1 := ⟨zkc_X12_wrongIs, zki_X12, by decide +kernel, by decide +kernel, by decide⟩
theorem zmw_X12_stays : zMW zmX12_stays 1 := ⟨zkc_X12_stays, zki_X12, by decide +kernel, by decide +kernel, by decide⟩
theorem zmw_X12_tries : zMW zmX12_tries 2 := ⟨zkc_X12_tries, zki_X12, by decide +kernel, by decide +kernel, by decide⟩
theorem zmw_X12_hasTried : zMW zmX12_hasTried 0 := ⟨zkc_X12_hasTried, zki_X12, by decide +kernel, by decide +kernel, by decide⟩
theorem zmw_X12_beats : zMW zmX12_beats 3 := ⟨zkc_X12_beats, zki_X12, by decide +kernel, by decide +kernel, by decide⟩
theorem zmw_X12_isPaired : zMW zmX12_isPaired 1 := ⟨zkc_X12_isPaired, zki_X12, by decide +kernel, by decide +kernel, by decide⟩
theorem zmw_X12_goes : zMW zmX12_goes 1 := ⟨zkc_X12_goes, zki_X12, by decide +kernel, by decide +kernel, by decide⟩
theorem zmw_X12_grinds : zMW zmX12_grinds 2 := ⟨zkc_X12_grinds, zki_X12, by decide +kernel, by decide +kernel, by decide⟩
theorem zmw_X12_isGround : zMW zmX12_isGround 0 := ⟨zkc_X12_isGround, zki_X12, by decide +kernel, by decide +kernel, by decide⟩
theorem zmw_X12_lines : zMW zmX12_lines 2 := ⟨zkc_X12_lines, zki_X12, by decide +kernel, by decide +kernel, by decide⟩
theorem zmw_X12_placed : zMW zmX12_placed 0 := ⟨zkc_X12_placed, zki_X12, by decide +kernel, by decide +kernel, by decide⟩
theorem zmw_X12_hasLines : zMW zmX12_hasLines 0 := ⟨zkc_X12_hasLines, zki_X12, by decide +kernel, by decide +kernel, by decide⟩
theorem zmw_X12_keeps : zMW zmX12_keeps 3 := ⟨zkc_X12_keeps, zki_X12, by decide +kernel, by decide +kernel, by decide⟩
theorem zmw_X0_learn : zMW zmX0_learn 0 := ⟨zkc_X0_learn, zki_X0, by decide +kernel, by decide +kernel, by decide⟩
theorem zmw_X0_countSure : zMW zmX0_countSure 0 := ⟨zkc_X0_countSure, zki_X0, by decide +kernel, by decide +kernel, by decide⟩
theorem zmw_X0_countPlayable : zMW zmX0_countPlayable 0 := ⟨zkc_X0_countPlayable, zki_X0, by decide +kernel, by decide +kernel, by decide⟩
theorem zmw_X0_search : zMW zmX0_search 2 := ⟨zkc_X0_search, zki_X0, by decide +kernel, by decide +kernel, by decide⟩
theorem zmw_X0_sureFrom : zMW zmX0_sureFrom 1 := ⟨zkc_X0_sureFrom, zki_X0, by decide +kernel, by decide +kernel, by decide⟩
theorem zmw_X0_followed : zMW zmX0_followed 1 := ⟨zkc_X0_followed, zki_X0, by decide +kernel, by decide +kernel, by decide⟩
theorem zmw_X5_follows : zMW zmX5_follows 2 := ⟨zkc_X5_follows, zki_X5, by decide +kernel, by decide +kernel, by decide⟩
theorem zmw_X0_isHopeless : zMW zmX0_isHopeless 1 := ⟨zkc_X0_isHopeless, zki_X0, by decide +kernel, by decide +kernel, by decide⟩
theorem zmw_X0_handHolds : zMW zmX0_handHolds 3 := ⟨zkc_X0_handHolds, zki_X0, by decide +kernel, by decide +kernel, by decide⟩
theorem zmw_X5_overlap : zMW zmX5_overlap 2 := ⟨zkc_X5_overlap, zki_X5, by decide +kernel, by decide +kernel, by decide⟩
theorem zmw_X0_isSettled : zMW zmX0_isSettled 0 := ⟨zkc_X0_isSettled, zki_X0, by decide +kernel, by decide +kernel, by decide⟩
theorem zmw_X1_learn : zMW zmX1_learn 0 := ⟨zkc_X1_learn, zki_X1, by decide +kernel, by decide +kernel, by decide⟩
theorem zmw_X1_weightOf : zMW zmX1_weightOf 1 := ⟨zkc_X1_weightOf, zki_X1, by decide +kernel, by decide +kernel, by decide⟩
theorem zmw_X1_listNodes : zMW zmX1_listNodes 0 := ⟨zkc_X1_listNodes, zki_X1, by decide +kernel, by decide +kernel, by decide⟩
theorem zmw_X1_listNeighbours : zMW zmX1_listNeighbours 0 := ⟨zkc_X1_listNeighbours, zki_X1, by decide +kernel, by decide +kernel, by decide⟩
theorem zmw_X1_nextNode : zMW zmX1_nextNode 0 := ⟨zkc_X1_nextNode, zki_X1, by decide +kernel, by decide +kernel, by decide⟩
theorem zmw_X1_takeOut : zMW zmX1_takeOut 1 := ⟨zkc_X1_takeOut, zki_X1, by decide +kernel, by decide +kernel, by decide⟩
theorem zmw_J7_fill_53178 : zMW zmJ7_fill_53178 2 := ⟨zkc_J7_fill_53178, zki_J7, by decide +kernel, by decide +kernel, by decide⟩
theorem zmw_X1_isPaired : zMW zmX1_isPaired 1 := ⟨zkc_X1_isPaired, zki_X1, by decide +kernel, by decide +kernel, by decide⟩
theorem zmw_J6_bitCount_0f7a4 : zMW zmJ6_bitCount_0f7a4 1 := ⟨zkc_J6_bitCount_0f7a4, zki_J6, by decide +kernel, by decide +kernel, by decide⟩
theorem zmw_X1_waysOf : zMW zmX1_waysOf 1 := ⟨zkc_X1_waysOf, zki_X1, by decide +kernel, by decide +kernel, by decide⟩
theorem zmw_X1_spread : zMW zmX1_spread 2 := ⟨zkc_X1_spread, zki_X1, by decide +kernel, by decide +kernel, by decide⟩
theorem zmw_X1_bestStep : zMW zmX1_bestStep 1 := ⟨zkc_X1_bestStep, zki_X1, by decide +kernel, by decide +kernel, by decide⟩
theorem zmw_X1_leave : zMW zmX1_leave 1 := ⟨zkc_X1_leave, zki_X1, by decide +kernel, by decide +kernel, by decide⟩
theorem zmw_X1_fits : zMW zmX1_fits 1 := ⟨zkc_X1_fits, zki_X1, by decide +kernel, by decide +kernel, by decide⟩
theorem zmw_X1_costOf : zMW zmX1_costOf 1 := ⟨zkc_X1_costOf, zki_X1, by decide +kernel, by decide +kernel, by decide⟩
theorem zmw_X1_toneOf : zMW zmX1_toneOf 1 := ⟨zkc_X1_toneOf, zki_X1, by decide +kernel, by decide +kernel, by decide⟩
theorem zmw_X7_speedAt : zMW zmX7_speedAt 3 := ⟨zkc_X7_speedAt, zki_X7, by decide +kernel, by decide +kernel, by decide⟩
theorem zmw_X1_wayOf : zMW zmX1_wayOf 1 := ⟨zkc_X1_wayOf, zki_X1, by decide +kernel, by decide +kernel, by decide⟩
theorem zmw_X2_clash : zMW zmX2_clash 3 := ⟨zkc_X2_clash, zki_X2, by decide +kernel, by decide +kernel, by decide⟩
theorem zmw_X2_wornBefore : zMW zmX2_wornBefore 2 := ⟨zkc_X2_wornBefore, zki_X2, by decide +kernel, by decide +kernel, by decide⟩
theorem zmw_X7_leftHand : zMW zmX7_leftHand 1 := ⟨zkc_X7_leftHand, zki_X7, by decide +kernel, by decide +kernel, by decide⟩
theorem zmw_X5_endOf : zMW zmX5_endOf 1 := ⟨zkc_X5_endOf, zki_X5, by decide +kernel, by decide +kernel, by decide⟩
theorem zmw_X3_valueOf : zMW zmX3_valueOf 1 := ⟨zkc_X3_valueOf, zki_X3, by decide +kernel, by decide +kernel, by decide⟩
theorem zmw_X3_isOperand : zMW zmX3_isOperand 1 := ⟨zkc_X3_isOperand, zki_X3, by decide +kernel, by decide +kernel, by decide⟩
theorem zmw_X3_joined : zMW zmX3_joined 3 := ⟨zkc_X3_joined, zki_X3, by decide +kernel, by decide +kernel, by decide⟩
theorem zmw_X4_learn : zMW zmX4_learn 0 := ⟨zkc_X4_learn, zki_X4, by decide +kernel, by decide +kernel, by decide⟩
theorem zmw_X4_listNodes : zMW zmX4_listNodes 0 := ⟨zkc_X4_listNodes, zki_X4, by decide +kernel, by decide +kernel, by decide⟩
theorem zmw_X4_passes : zMW zmX4_passes 1 := ⟨zkc_X4_passes, zki_X4, by decide +kernel, by decide +kernel, by decide⟩
theorem zmw_X4_nextOf : zMW zmX4_nextOf 1 := ⟨zkc_X4_nextOf, zki_X4, by decide +kernel, by decide +kernel, by decide⟩
theorem zmw_X4_follow : zMW zmX4_follow 0 := ⟨zkc_X4_follow, zki_X4, by decide +kernel, by decide +kernel, by decide⟩
theorem zmw_X7_clear : zMW zmX7_clear 0 := ⟨zkc_X7_clear, zki_X7, by decide +kernel, by decide +kernel, by decide⟩
theorem zmw_X8_split : zMW zmX8_split 0 := ⟨zkc_X8_split, zki_X8, by decide +kernel, by decide +kernel, by decide⟩
theorem zmw_X6_seen : zMW zmX6_seen 0 := ⟨zkc_X6_seen, zki_X6, by decide +kernel, by decide +kernel, by decide⟩
theorem zmw_X6_line : zMW zmX6_line 0 := ⟨zkc_X6_line, zki_X6, by decide +kernel, by decide +kernel, by decide⟩
theorem zmw_X6_placeSeen : zMW zmX6_placeSeen 0 := ⟨zkc_X6_placeSeen, zki_X6, by decide +kernel, by decide +kernel, by decide⟩
theorem zmw_X8_tokenAt : zMW zmX8_tokenAt 1 := ⟨zkc_X8_tokenAt, zki_X8, by decide +kernel, by decide +kernel, by decide⟩
theorem zmw_X8_placeAt : zMW zmX8_placeAt 1 := ⟨zkc_X8_placeAt, zki_X8, by decide +kernel, by decide +kernel, by decide⟩
theorem zmw_X6_refuse : zMW zmX6_refuse 1 := ⟨zkc_X6_refuse, zki_X6, by decide +kernel, by decide +kernel, by decide⟩
theorem zmw_X6_bowlLine : zMW zmX6_bowlLine 0 := ⟨zkc_X6_bowlLine, zki_X6, by decide +kernel, by decide +kernel, by decide⟩
theorem zmw_X6_pairLine : zMW zmX6_pairLine 0 := ⟨zkc_X6_pairLine, zki_X6, by decide +kernel, by decide +kernel, by decide⟩
theorem zmw_X6_speakLine : zMW zmX6_speakLine 0 := ⟨zkc_X6_speakLine, zki_X6, by decide +kernel, by decide +kernel, by decide⟩
theorem zmw_X6_setLine : zMW zmX6_setLine 0 := ⟨zkc_X6_setLine, zki_X6, by decide +kernel, by decide +kernel, by decide⟩
theorem zmw_X6_newName : zMW zmX6_newName 1 := ⟨zkc_X6_newName, zki_X6, by decide +kernel, by decide +kernel, by decide⟩
theorem zmw_X6_take : zMW zmX6_take 1 := ⟨zkc_X6_take, zki_X6, by decide +kernel, by decide +kernel, by decide⟩
theorem zmw_X7_putBowl : zMW zmX7_putBowl 1 := ⟨zkc_X7_putBowl, zki_X7, by decide +kernel, by decide +kernel, by decide⟩
theorem zmw_X6_number : zMW zmX6_number 4 := ⟨zkc_X6_number, zki_X6, by decide +kernel, by decide +kernel, by decide⟩
theorem zmw_X8_sameWord : zMW zmX8_sameWord 2 := ⟨zkc_X8_sameWord, zki_X8, by decide +kernel, by decide +kernel, by decide⟩
theorem zmw_X6_isName : zMW zmX6_isName 0 := ⟨zkc_X6_isName, zki_X6, by decide +kernel, by decide +kernel, by decide⟩
theorem zmw_X6_bowlSeen : zMW zmX6_bowlSeen 0 := ⟨zkc_X6_bowlSeen, zki_X6, by decide +kernel, by decide +kernel, by decide⟩
theorem zmw_X6_toldName : zMW zmX6_toldName 3 := ⟨zkc_X6_toldName, zki_X6, by decide +kernel, by decide +kernel, by decide⟩
theorem zmw_X6_chain : zMW zmX6_chain 2 := ⟨zkc_X6_chain, zki_X6, by decide +kernel, by decide +kernel, by decide⟩
theorem zmw_X7_endSpeak : zMW zmX7_endSpeak 0 := ⟨zkc_X7_endSpeak, zki_X7, by decide +kernel, by decide +kernel, by decide⟩
theorem zmw_X6_levelOf : zMW zmX6_levelOf 1 := ⟨zkc_X6_levelOf, zki_X6, by decide +kernel, by decide +kernel, by decide⟩
theorem zmw_X7_putCode : zMW zmX7_putCode 1 := ⟨zkc_X7_putCode, zki_X7, by decide +kernel, by decide +kernel, by decide⟩
theorem zmw_X6_part : zMW zmX6_part 1 := ⟨zkc_X6_part, zki_X6, by decide +kernel, by decide +kernel, by decide⟩
theorem zmw_X7_apart : zMW zmX7_apart 2 := ⟨zkc_X7_apart, zki_X7, by decide +kernel, by decide +kernel, by decide⟩
theorem zmw_X8_endOf : zMW zmX8_endOf 1 := ⟨zkc_X8_endOf, zki_X8, by decide +kernel, by decide +kernel, by decide⟩
theorem zmw_X8_tokenFrom : zMW zmX8_tokenFrom 2 := ⟨zkc_X8_tokenFrom, zki_X8, by decide +kernel, by decide +kernel, by decide⟩
theorem zmw_X8_put : zMW zmX8_put 2 := ⟨zkc_X8_put, zki_X8, by decide +kernel, by decide +kernel, by decide⟩
theorem zmw_X8_isLetter : zMW zmX8_isLetter 1 := ⟨zkc_X8_isLetter, zki_X8, by decide +kernel, by decide +kernel, by decide⟩
theorem zmw_X8_isDigit : zMW zmX8_isDigit 1 := ⟨zkc_X8_isDigit, zki_X8, by decide +kernel, by decide +kernel, by decide⟩
theorem zmw_X8_valueFrom : zMW zmX8_valueFrom 2 := ⟨zkc_X8_valueFrom, zki_X8, by decide +kernel, by decide +kernel, by decide⟩
theorem zmw_X8_wordFrom : zMW zmX8_wordFrom 2 := ⟨zkc_X8_wordFrom, zki_X8, by decide +kernel, by decide +kernel, by decide⟩
theorem zmw_X8_fills : zMW zmX8_fills 3 := ⟨zkc_X8_fills, zki_X8, by decide +kernel, by decide +kernel, by decide⟩
theorem zmw_X8_letterAt : zMW zmX8_letterAt 1 := ⟨zkc_X8_letterAt, zki_X8, by decide +kernel, by decide +kernel, by decide⟩
theorem zmw_X9_reasonKept : zMW zmX9_reasonKept 2 := ⟨zkc_X9_reasonKept, zki_X9, by decide +kernel, by decide +kernel, by decide⟩
theorem zmw_X9_learn : zMW zmX9_learn 0 := ⟨zkc_X9_learn, zki_X9, by decide +kernel, by decide +kernel, by decide⟩
theorem zmw_X9_reasonFound : zMW zmX9_reasonFound 2 := ⟨zkc_X9_reasonFound, zki_X9, by decide +kernel, by decide +kernel, by decide⟩
theorem zmw_X10_isCracked : zMW zmX10_isCracked 2 := ⟨zkc_X10_isCracked, zki_X10, by decide +kernel, by decide +kernel, by decide⟩
theorem zmw_X2_driesIn : zMW zmX2_driesIn 2 := ⟨zkc_X2_driesIn, zki_X2, by decide +kernel, by decide +kernel, by decide⟩
theorem zmw_X9_tellLaw : zMW zmX9_tellLaw 2 := ⟨zkc_X9_tellLaw, zki_X9, by decide +kernel, by decide +kernel, by decide⟩
theorem zmw_X9_speedOf : zMW zmX9_speedOf 2 := ⟨zkc_X9_speedOf, zki_X9, by decide +kernel, by decide +kernel, by decide⟩
theorem zmw_X3_allows : zMW zmX3_allows 2 := ⟨zkc_X3_allows, zki_X3, by decide +kernel, by decide +kernel, by decide⟩
theorem zmw_X3_tell : zMW zmX3_tell 4 := ⟨zkc_X3_tell, zki_X3, by decide +kernel, by decide +kernel, by decide⟩
theorem zmw_X9_speaksAt : zMW zmX9_speaksAt 3 := ⟨zkc_X9_speaksAt, zki_X9, by decide +kernel, by decide +kernel, by decide⟩
theorem zmw_X9_isRoused : zMW zmX9_isRoused 2 := ⟨zkc_X9_isRoused, zki_X9, by decide +kernel, by decide +kernel, by decide⟩
theorem zmw_X10_press : zMW zmX10_press 1 := ⟨zkc_X10_press, zki_X10, by decide +kernel, by decide +kernel, by decide⟩
theorem zmw_X10_warm : zMW zmX10_warm 1 := ⟨zkc_X10_warm, zki_X10, by decide +kernel, by decide +kernel, by decide⟩
theorem zc_X11_100 : zCV RX11 100 zmX8_addBytes 1 := ⟨zkm_X11_100, zkn_X8_addBytes, zks_X8_addBytes, zmw_X8_addBytes⟩
theorem zc_X11_108 : zCV RX11 108 zmX6_read 0 := ⟨zkm_X11_108, zkn_X6_read, zks_X6_read, zmw_X6_read⟩
theorem zc_X11_112 : zCV RX11 112 zmX7_copy 1 := ⟨zkm_X11_112, zkn_X7_copy, zks_X7_copy, zmw_X7_copy⟩
theorem zc_X11_118 : zCV RX11 118 zmX11_forgetAll 0 := ⟨zkm_X11_118, zkn_X11_forgetAll, zks_X11_forgetAll, zmw_X11_forgetAll⟩
theorem zc_X11_121 : zCV RX11 121 zmX7_hasBowl 1 := ⟨zkm_X11_121, zkn_X7_hasBowl, zks_X7_hasBowl, zmw_X7_hasBowl⟩
theorem zc_X11_141 : zCV RX11 141 zmX7_hasPlace 1 := ⟨zkm_X11_141, zkn_X7_hasPlace, zks_X7_hasPlace, zmw_X7_hasPlace⟩
theorem zc_X11_151 : zCV RX11 151 zmX5_add 5 := ⟨zkm_X11_151, zkn_X5_add, zks_X5_add, zmw_X5_add⟩
theorem zc_X11_155 : zCV RX11 155 zmX11_forgetPlaying 0 := ⟨zkm_X11_155, zkn_X11_forgetPlaying, zks_X11_forgetPlaying, zmw_X11_forgetPlaying⟩
theorem zc_X11_144 : zCV RX11 144 zmX5_takes 2 := ⟨zkm_X11_144, zkn_X5_takes, zks_X5_takes, zmw_X5_takes⟩
theorem zc_X11_148 : zCV RX11 148 zmX7_hasFinger 1 := ⟨zkm_X11_148, zkn_X7_hasFinger, zks_X7_hasFinger, zmw_X7_hasFinger⟩
theorem zc_X11_158 : zCV RX11 158 zmX5_has 1 := ⟨zkm_X11_158, zkn_X5_has, zks_X5_has, zmw_X5_has⟩
theorem zc_X11_179 : zCS RX11 179 zmX11_isBeat 1 := ⟨zkm_X11_179, zkt_X11_isBeat, zmw_X11_isBeat⟩
theorem zc_X11_182 : zCV RX11 182 zmX5_pressOn 2 := ⟨zkm_X11_182, zkn_X5_pressOn, zks_X5_pressOn, zmw_X5_pressOn⟩
theorem zc_X11_186 : zCV RX11 186 zmX10_learn 0 := ⟨zkm_X11_186, zkn_X10_learn, zks_X10_learn, zmw_X10_learn⟩
theorem zc_X11_189 : zCV RX11 189 zmX10_heatOf 2 := ⟨zkm_X11_189, zkn_X10_heatOf, zks_X10_heatOf, zmw_X10_heatOf⟩
theorem zc_X11_192 : zCV RX11 192 zmX10_crackOf 1 := ⟨zkm_X11_192, zkn_X10_crackOf, zks_X10_crackOf, zmw_X10_crackOf⟩
theorem zc_X11_196 : zCV RX11 196 zmX5_lasts 2 := ⟨zkm_X11_196, zkn_X5_lasts, zks_X5_lasts, zmw_X5_lasts⟩
theorem zc_X11_206 : zCV RX11 206 zmX9_reasonOf 2 := ⟨zkm_X11_206, zkn_X9_reasonOf, zks_X9_reasonOf, zmw_X9_reasonOf⟩
theorem zc_X11_209 : zCV RX11 209 zmX9_spokenBy 1 := ⟨zkm_X11_209, zkn_X9_spokenBy, zks_X9_spokenBy, zmw_X9_spokenBy⟩
theorem zc_X11_212 : zCV RX11 212 zmX9_speakingIn 1 := ⟨zkm_X11_212, zkn_X9_speakingIn, zks_X9_speakingIn, zmw_X9_speakingIn⟩
theorem zc_X11_215 : zCV RX11 215 zmX9_ringingIn 1 := ⟨zkm_X11_215, zkn_X9_ringingIn, zks_X9_ringingIn, zmw_X9_ringingIn⟩
theorem zc_X11_221 : zCV RX11 221 zmX5_firstIn 1 := ⟨zkm_X11_221, zkn_X5_firstIn, zks_X5_firstIn, zmw_X5_firstIn⟩
theorem zc_X11_218 : zCV RX11 218 zmX9_silentFrom 1 := ⟨zkm_X11_218, zkn_X9_silentFrom, zks_X9_silentFrom, zmw_X9_silentFrom⟩
theorem zc_X11_224 : zCV RX11 224 zmX9_spokenAt 1 := ⟨zkm_X11_224, zkn_X9_spokenAt, zks_X9_spokenAt, zmw_X9_spokenAt⟩
theorem zc_X11_227 : zCV RX11 227 zmX2_faultOf 2 := ⟨zkm_X11_227, zkn_X2_faultOf, zks_X2_faultOf, zmw_X2_faultOf⟩
theorem zc_X11_231 : zCV RX11 231 zmX2_liftsAt 2 := ⟨zkm_X11_231, zkn_X2_liftsAt, zks_X2_liftsAt, zmw_X2_liftsAt⟩
theorem zc_X11_235 : zCV RX11 235 zmX0_fewestLifts 0 := ⟨zkm_X11_235, zkn_X0_fewestLifts, zks_X0_fewestLifts, zmw_X0_fewestLifts⟩
theorem zc_X11_238 : zCV RX11 238 zmX0_fingerOf 1 := ⟨zkm_X11_238, zkn_X0_fingerOf, zks_X0_fingerOf, zmw_X0_fingerOf⟩
theorem zc_X11_241 : zCV RX11 241 zmX0_farthest 0 := ⟨zkm_X11_241, zkn_X0_farthest, zks_X0_farthest, zmw_X0_farthest⟩
theorem zc_X11_244 : zCV RX11 244 zmX7_hasPair 1 := ⟨zkm_X11_244, zkn_X7_hasPair, zks_X7_hasPair, zmw_X7_hasPair⟩
theorem zc_X11_247 : zCV RX11 247 zmX7_speedOf 1 := ⟨zkm_X11_247, zkn_X7_speedOf, zks_X7_speedOf, zmw_X7_speedOf⟩
theorem zc_X11_256 : zCV RX11 256 zmX1_leastGlass 0 := ⟨zkm_X11_256, zkn_X1_leastGlass, zks_X1_leastGlass, zmw_X1_leastGlass⟩
theorem zc_X11_264 : zCV RX11 264 zmX7_nearestSpare 1 := ⟨zkm_X11_264, zkn_X7_nearestSpare, zks_X7_nearestSpare, zmw_X7_nearestSpare⟩
theorem zc_X11_267 : zCV RX11 267 zmX7_swap 2 := ⟨zkm_X11_267, zkn_X7_swap, zks_X7_swap, zmw_X7_swap⟩
theorem zc_X11_271 : zCV RX11 271 zmX5_rename 2 := ⟨zkm_X11_271, zkn_X5_rename, zks_X5_rename, zmw_X5_rename⟩
theorem zc_X11_274 : zCV RX11 274 zmX2_placeOf 1 := ⟨zkm_X11_274, zkn_X2_placeOf, zks_X2_placeOf, zmw_X2_placeOf⟩
theorem zc_X11_282 : zCV RX11 282 zmX4_leastMoved 0 := ⟨zkm_X11_282, zkn_X4_leastMoved, zks_X4_leastMoved, zmw_X4_leastMoved⟩
theorem zc_X11_285 : zCV RX11 285 zmX4_bowlAt 1 := ⟨zkm_X11_285, zkn_X4_bowlAt, zks_X4_bowlAt, zmw_X4_bowlAt⟩
theorem zc_X11_306 : zCV RX11 306 zmX5_copy 1 := ⟨zkm_X11_306, zkn_X5_copy, zks_X5_copy, zmw_X5_copy⟩
theorem zc_X12_185 : zCV RX12 185 zmX12_signAt 1 := ⟨zkm_X12_185, zkn_X12_signAt, zks_X12_signAt, zmw_X12_signAt⟩
theorem zc_X12_218 : zCV RX12 218 zmX12_isSign 1 := ⟨zkm_X12_218, zkn_X12_isSign, zks_X12_isSign, zmw_X12_isSign⟩
theorem zc_X12_225 : zCV RX12 225 zmX12_puts 1 := ⟨zkm_X12_225, zkn_X12_puts, zks_X12_puts, zmw_X12_puts⟩
theorem zc_X12_229 : zCV RX12 229 zmX12_nextToken 0 := ⟨zkm_X12_229, zkn_X12_nextToken, zks_X12_nextToken, zmw_X12_nextToken⟩
theorem zc_X12_214 : zCV RX12 214 zmX12_isWord 1 := ⟨zkm_X12_214, zkn_X12_isWord, zks_X12_isWord, zmw_X12_isWord⟩
theorem zc_X12_222 : zCV RX12 222 zmX12_fails 1 := ⟨zkm_X12_222, zkn_X12_fails, zks_X12_fails, zmw_X12_fails⟩
theorem zc_X12_208 : zCV RX12 208 zmX12_fact 0 := ⟨zkm_X12_208, zkn_X12_fact, zks_X12_fact, zmw_X12_fact⟩
theorem zc_X12_236 : zCV RX12 236 zmX12_sums 1 := ⟨zkm_X12_236, zkn_X12_sums, zks_X12_sums, zmw_X12_sums⟩
theorem zc_X12_239 : zCV RX12 239 zmX12_opens 1 := ⟨zkm_X12_239, zkn_X12_opens, zks_X12_opens, zmw_X12_opens⟩
theorem zc_X12_242 : zCV RX12 242 zmX12_tests 1 := ⟨zkm_X12_242, zkn_X12_tests, zks_X12_tests, zmw_X12_tests⟩
theorem zc_X12_287 : zCS RX12 287 zmX12_isFrom 3 := ⟨zkm_X12_287, zkt_X12_isFrom, zmw_X12_isFrom⟩
theorem zc_X12_291 : zCV RX12 291 zmX12_needsNumber 2 := ⟨zkm_X12_291, zkn_X12_needsNumber, zks_X12_needsNumber, zmw_X12_needsNumber⟩
theorem zc_X12_298 : zCV RX12 298 zmX12_isKept 0 := ⟨zkm_X12_298, zkn_X12_isKept, zks_X12_isKept, zmw_X12_isKept⟩
theorem zc_X12_302 : zCV RX12 302 zmX12_bowlOf 0 := ⟨zkm_X12_302, zkn_X12_bowlOf, zks_X12_bowlOf, zmw_X12_bowlOf⟩
theorem zc_X12_305 : zCV RX12 305 zmX12_needs 3 := ⟨zkm_X12_305, zkn_X12_needs, zks_X12_needs, zmw_X12_needs⟩
theorem zc_X12_309 : zCV RX12 309 zmX12_ends 0 := ⟨zkm_X12_309, zkn_X12_ends, zks_X12_ends, zmw_X12_ends⟩
theorem zc_X12_312 : zCV RX12 312 zmX12_reads 0 := ⟨zkm_X12_312, zkn_X12_reads, zks_X12_reads, zmw_X12_reads⟩
theorem zc_X12_315 : zCV RX12 315 zmX12_what 0 := ⟨zkm_X12_315, zkn_X12_what, zks_X12_what, zmw_X12_what⟩
theorem zc_X12_318 : zCS RX12 318 zmX12_least 1 := ⟨zkm_X12_318, zkt_X12_least, zmw_X12_least⟩
theorem zc_X12_321 : zCS RX12 321 zmX12_most 1 := ⟨zkm_X12_321, zkt_X12_most, zmw_X12_most⟩
theorem zc_X12_153 : zCS RX12 153 zmX12_without 1 := ⟨zkm_X12_153, zkt_X12_without, zmw_X12_without⟩
theorem zc_X12_333 : zCV RX12 333 zmX12_readsSet 0 := ⟨zkm_X12_333, zkn_X12_readsSet, zks_X12_readsSet, zmw_X12_readsSet⟩
theorem zc_X12_330 : zCV RX12 330 zmX12_readsSpeak 0 := ⟨zkm_X12_330, zkn_X12_readsSpeak, zks_X12_readsSpeak, zmw_X12_readsSpeak⟩
theorem zc_X12_327 : zCV RX12 327 zmX12_readsPair 0 := ⟨zkm_X12_327, zkn_X12_readsPair, zks_X12_readsPair, zmw_X12_readsPair⟩
theorem zc_X12_324 : zCV RX12 324 zmX12_readsBowl 0 := ⟨zkm_X12_324, zkn_X12_readsBowl, zks_X12_readsBowl, zmw_X12_readsBowl⟩
theorem zc_X12_336 : zCV RX12 336 zmX12_readsAll 0 := ⟨zkm_X12_336, zkn_X12_readsAll, zks_X12_readsAll, zmw_X12_readsAll⟩
theorem zc_X12_339 : zCV RX12 339 zmX12_lays 2 := ⟨zkm_X12_339, zkn_X12_lays, zks_X12_lays, zmw_X12_lays⟩
theorem zc_X12_346 : zCV RX12 346 zmX12_isBowl 1 := ⟨zkm_X12_346, zkn_X12_isBowl, zks_X12_isBowl, zmw_X12_isBowl⟩
theorem zc_X12_349 : zCV RX12 349 zmX12_endOf 1 := ⟨zkm_X12_349, zkn_X12_endOf, zks_X12_endOf, zmw_X12_endOf⟩
theorem zc_X12_352 : zCV RX12 352 zmX12_isPlaced 1 := ⟨zkm_X12_352, zkn_X12_isPlaced, zks_X12_isPlaced, zmw_X12_isPlaced⟩
theorem zc_X12_355 : zCS RX12 355 zmX12_isBeat 1 := ⟨zkm_X12_355, zkt_X12_isBeat, zmw_X12_isBeat⟩
theorem zc_X12_358 : zCV RX12 358 zmX12_isFinger 1 := ⟨zkm_X12_358, zkn_X12_isFinger, zks_X12_isFinger, zmw_X12_isFinger⟩
theorem zc_X12_361 : zCV RX12 361 zmX12_isNote 1 := ⟨zkm_X12_361, zkn_X12_isNote, zks_X12_isNote, zmw_X12_isNote⟩
theorem zc_X12_364 : zCV RX12 364 zmX12_lasts 2 := ⟨zkm_X12_364, zkn_X12_lasts, zks_X12_lasts, zmw_X12_lasts⟩
theorem zc_X12_367 : zCV RX12 367 zmX12_touchedIn 2 := ⟨zkm_X12_367, zkn_X12_touchedIn, zks_X12_touchedIn, zmw_X12_touchedIn⟩
theorem zc_X12_377 : zCV RX12 377 zmX12_warms 0 := ⟨zkm_X12_377, zkn_X12_warms, zks_X12_warms, zmw_X12_warms⟩
theorem zc_X12_380 : zCV RX12 380 zmX12_worn 1 := ⟨zkm_X12_380, zkn_X12_worn, zks_X12_worn, zmw_X12_worn⟩
theorem zc_X12_383 : zCV RX12 383 zmX12_isDry 2 := ⟨zkm_X12_383, zkn_X12_isDry, zks_X12_isDry, zmw_X12_isDry⟩
theorem zc_X12_386 : zCV RX12 386 zmX12_worked 1 := ⟨zkm_X12_386, zkn_X12_worked, zks_X12_worked, zmw_X12_worked⟩
theorem zc_X12_389 : zCV RX12 389 zmX12_whyIn 3 := ⟨zkm_X12_389, zkn_X12_whyIn, zks_X12_whyIn, zmw_X12_whyIn⟩
theorem zc_X12_393 : zCV RX12 393 zmX12_speaksFor 2 := ⟨zkm_X12_393, zkn_X12_speaksFor, zks_X12_speaksFor, zmw_X12_speaksFor⟩
theorem zc_X12_396 : zCV RX12 396 zmX12_soundsIn 1 := ⟨zkm_X12_396, zkn_X12_soundsIn, zks_X12_soundsIn, zmw_X12_soundsIn⟩
theorem zc_X12_399 : zCS RX12 399 zmX12_away 2 := ⟨zkm_X12_399, zkt_X12_away, zmw_X12_away⟩
theorem zc_X12_402 : zCV RX12 402 zmX12_allAt 1 := ⟨zkm_X12_402, zkn_X12_allAt, zks_X12_allAt, zmw_X12_allAt⟩
theorem zc_X12_405 : zCV RX12 405 zmX12_meet 2 := ⟨zkm_X12_405, zkn_X12_meet, zks_X12_meet, zmw_X12_meet⟩
theorem zc_X12_411 : zCV RX12 411 zmX12_at 1 := ⟨zkm_X12_411, zkn_X12_at, zks_X12_at, zmw_X12_at⟩
theorem zc_X12_414 : zCV RX12 414 zmX12_wrongIs 1 := ⟨zkm_X12_414, zkn_X12_wrongIs, zks_X12_wrongIs, zmw_X12_wrongIs⟩
theorem zc_X12_417 : zCV RX12 417 zmX12_stays 1 := ⟨zkm_X12_417, zkn_X12_stays, zks_X12_stays, zmw_X12_stays⟩
theorem zc_X12_426 : zCV RX12 426 zmX12_tries 2 := ⟨zkm_X12_426, zkn_X12_tries, zks_X12_tries, zmw_X12_tries⟩
theorem zc_X12_429 : zCV RX12 429 zmX12_hasTried 0 := ⟨zkm_X12_429, zkn_X12_hasTried, zks_X12_hasTried, zmw_X12_hasTried⟩
theorem zc_X12_432 : zCV RX12 432 zmX12_beats 3 := ⟨zkm_X12_432, zkn_X12_beats, zks_X12_beats, zmw_X12_beats⟩
theorem zc_X12_438 : zCV RX12 438 zmX12_isPaired 1 := ⟨zkm_X12_438, zkn_X12_isPaired, zks_X12_isPaired, zmw_X12_isPaired⟩
theorem zc_X12_441 : zCV RX12 441 zmX12_goes 1 := ⟨zkm_X12_441, zkn_X12_goes, zks_X12_goes, zmw_X12_goes⟩
theorem zc_X12_444 : zCV RX12 444 zmX12_grinds 2 := ⟨zkm_X12_444, zkn_X12_grinds, zks_X12_grinds, zmw_X12_grinds⟩
theorem zc_X12_446 : zCV RX12 446 zmX12_isGround 0 := ⟨zkm_X12_446, zkn_X12_isGround, zks_X12_isGround, zmw_X12_isGround⟩
theorem zc_X12_451 : zCV RX12 451 zmX12_lines 2 := ⟨zkm_X12_451, zkn_X12_lines, zks_X12_lines, zmw_X12_lines⟩
theorem zc_X12_454 : zCV RX12 454 zmX12_placed 0 := ⟨zkm_X12_454, zkn_X12_placed, zks_X12_placed, zmw_X12_placed⟩
theorem zc_X12_457 : zCV RX12 457 zmX12_hasLines 0 := ⟨zkm_X12_457, zkn_X12_hasLines, zks_X12_hasLines, zmw_X12_hasLines⟩
theorem zc_X12_460 : zCV RX12 460 zmX12_keeps 3 := ⟨zkm_X12_460, zkn_X12_keeps, zks_X12_keeps, zmw_X12_keeps⟩
theorem zc_X0_36 : zCV RX0 36 zmX0_learn 0 := ⟨zkm_X0_36, zkn_X0_learn, zks_X0_learn, zmw_X0_learn⟩
theorem zc_X0_47 : zCV RX0 47 zmX5_has 1 := ⟨zkm_X0_47, zkn_X5_has, zks_X5_has, zmw_X5_has⟩
theorem zc_X0_60 : zCV RX0 60 zmX0_countSure 0 := ⟨zkm_X0_60, zkn_X0_countSure, zks_X0_countSure, zmw_X0_countSure⟩
theorem zc_X0_63 : zCV RX0 63 zmX0_countPlayable 0 := ⟨zkm_X0_63, zkn_X0_countPlayable, zks_X0_countPlayable, zmw_X0_countPlayable⟩
theorem zc_X0_66 : zCV RX0 66 zmX0_search 2 := ⟨zkm_X0_66, zkn_X0_search, zks_X0_search, zmw_X0_search⟩
theorem zc_X0_70 : zCV RX0 70 zmX0_sureFrom 1 := ⟨zkm_X0_70, zkn_X0_sureFrom, zks_X0_sureFrom, zmw_X0_sureFrom⟩
theorem zc_X0_74 : zCV RX0 74 zmX0_followed 1 := ⟨zkm_X0_74, zkn_X0_followed, zks_X0_followed, zmw_X0_followed⟩
theorem zc_X0_85 : zCV RX0 85 zmX5_follows 2 := ⟨zkm_X0_85, zkn_X5_follows, zks_X5_follows, zmw_X5_follows⟩
theorem zc_X0_92 : zCV RX0 92 zmX0_isHopeless 1 := ⟨zkm_X0_92, zkn_X0_isHopeless, zks_X0_isHopeless, zmw_X0_isHopeless⟩
theorem zc_X0_95 : zCV RX0 95 zmX0_handHolds 3 := ⟨zkm_X0_95, zkn_X0_handHolds, zks_X0_handHolds, zmw_X0_handHolds⟩
theorem zc_X0_99 : zCV RX0 99 zmX2_placeOf 1 := ⟨zkm_X0_99, zkn_X2_placeOf, zks_X2_placeOf, zmw_X2_placeOf⟩
theorem zc_X0_104 : zCV RX0 104 zmX5_overlap 2 := ⟨zkm_X0_104, zkn_X5_overlap, zks_X5_overlap, zmw_X5_overlap⟩
theorem zc_X0_122 : zCV RX0 122 zmX0_isSettled 0 := ⟨zkm_X0_122, zkn_X0_isSettled, zks_X0_isSettled, zmw_X0_isSettled⟩
theorem zc_X0_125 : zCV RX0 125 zmX2_faultOf 2 := ⟨zkm_X0_125, zkn_X2_faultOf, zks_X2_faultOf, zmw_X2_faultOf⟩
theorem zc_X0_129 : zCV RX0 129 zmX2_liftsAt 2 := ⟨zkm_X0_129, zkn_X2_liftsAt, zks_X2_liftsAt, zmw_X2_liftsAt⟩
theorem zc_X1_38 : zCV RX1 38 zmX1_learn 0 := ⟨zkm_X1_38, zkn_X1_learn, zks_X1_learn, zmw_X1_learn⟩
theorem zc_X1_49 : zCV RX1 49 zmX1_weightOf 1 := ⟨zkm_X1_49, zkn_X1_weightOf, zks_X1_weightOf, zmw_X1_weightOf⟩
theorem zc_X1_59 : zCV RX1 59 zmX1_listNodes 0 := ⟨zkm_X1_59, zkn_X1_listNodes, zks_X1_listNodes, zmw_X1_listNodes⟩
theorem zc_X1_63 : zCV RX1 63 zmX1_listNeighbours 0 := ⟨zkm_X1_63, zkn_X1_listNeighbours, zks_X1_listNeighbours, zmw_X1_listNeighbours⟩
theorem zc_X1_70 : zCV RX1 70 zmX1_nextNode 0 := ⟨zkm_X1_70, zkn_X1_nextNode, zks_X1_nextNode, zmw_X1_nextNode⟩
theorem zc_X1_74 : zCV RX1 74 zmX1_takeOut 1 := ⟨zkm_X1_74, zkn_X1_takeOut, zks_X1_takeOut, zmw_X1_takeOut⟩
theorem zc_X1_78 : zCS RX1 78 zmJ7_fill_53178 2 := ⟨zkm_X1_78, zkt_J7_fill_53178, zmw_J7_fill_53178⟩
theorem zc_X1_89 : zCV RX1 89 zmX1_isPaired 1 := ⟨zkm_X1_89, zkn_X1_isPaired, zks_X1_isPaired, zmw_X1_isPaired⟩
theorem zc_X1_111 : zCS RX1 111 zmJ6_bitCount_0f7a4 1 := ⟨zkm_X1_111, zkt_J6_bitCount_0f7a4, zmw_J6_bitCount_0f7a4⟩
theorem zc_X1_117 : zCV RX1 117 zmX1_waysOf 1 := ⟨zkm_X1_117, zkn_X1_waysOf, zks_X1_waysOf, zmw_X1_waysOf⟩
theorem zc_X1_120 : zCV RX1 120 zmX1_spread 2 := ⟨zkm_X1_120, zkn_X1_spread, zks_X1_spread, zmw_X1_spread⟩
theorem zc_X1_124 : zCV RX1 124 zmX1_bestStep 1 := ⟨zkm_X1_124, zkn_X1_bestStep, zks_X1_bestStep, zmw_X1_bestStep⟩
theorem zc_X1_127 : zCV RX1 127 zmX1_leave 1 := ⟨zkm_X1_127, zkn_X1_leave, zks_X1_leave, zmw_X1_leave⟩
theorem zc_X1_136 : zCV RX1 136 zmX1_fits 1 := ⟨zkm_X1_136, zkn_X1_fits, zks_X1_fits, zmw_X1_fits⟩
theorem zc_X1_139 : zCV RX1 139 zmX1_costOf 1 := ⟨zkm_X1_139, zkn_X1_costOf, zks_X1_costOf, zmw_X1_costOf⟩
theorem zc_X1_148 : zCV RX1 148 zmX1_toneOf 1 := ⟨zkm_X1_148, zkn_X1_toneOf, zks_X1_toneOf, zmw_X1_toneOf⟩
theorem zc_X1_151 : zCV RX1 151 zmX7_speedAt 3 := ⟨zkm_X1_151, zkn_X7_speedAt, zks_X7_speedAt, zmw_X7_speedAt⟩
theorem zc_X1_164 : zCV RX1 164 zmX1_wayOf 1 := ⟨zkm_X1_164, zkn_X1_wayOf, zks_X1_wayOf, zmw_X1_wayOf⟩
theorem zc_X2_30 : zCV RX2 30 zmX5_overlap 2 := ⟨zkm_X2_30, zkn_X5_overlap, zks_X5_overlap, zmw_X5_overlap⟩
theorem zc_X2_34 : zCV RX2 34 zmX2_clash 3 := ⟨zkm_X2_34, zkn_X2_clash, zks_X2_clash, zmw_X2_clash⟩
theorem zc_X2_44 : zCV RX2 44 zmX2_wornBefore 2 := ⟨zkm_X2_44, zkn_X2_wornBefore, zks_X2_wornBefore, zmw_X2_wornBefore⟩
theorem zc_X2_54 : zCV RX2 54 zmX2_placeOf 1 := ⟨zkm_X2_54, zkn_X2_placeOf, zks_X2_placeOf, zmw_X2_placeOf⟩
theorem zc_X2_58 : zCV RX2 58 zmX7_leftHand 1 := ⟨zkm_X2_58, zkn_X7_leftHand, zks_X7_leftHand, zmw_X7_leftHand⟩
theorem zc_X2_68 : zCV RX2 68 zmX5_endOf 1 := ⟨zkm_X2_68, zkn_X5_endOf, zks_X5_endOf, zmw_X5_endOf⟩
theorem zc_X2_74 : zCV RX2 74 zmX5_follows 2 := ⟨zkm_X2_74, zkn_X5_follows, zks_X5_follows, zmw_X5_follows⟩
theorem zc_X3_36 : zCV RX3 36 zmX3_valueOf 1 := ⟨zkm_X3_36, zkn_X3_valueOf, zks_X3_valueOf, zmw_X3_valueOf⟩
theorem zc_X3_46 : zCS RX3 46 zmX3_isOperand 1 := ⟨zkm_X3_46, zkt_X3_isOperand, zmw_X3_isOperand⟩
theorem zc_X3_50 : zCS RX3 50 zmX3_joined 3 := ⟨zkm_X3_50, zkt_X3_joined, zmw_X3_joined⟩
theorem zc_X4_32 : zCV RX4 32 zmX4_learn 0 := ⟨zkm_X4_32, zkn_X4_learn, zks_X4_learn, zmw_X4_learn⟩
theorem zc_X4_46 : zCV RX4 46 zmX4_listNodes 0 := ⟨zkm_X4_46, zkn_X4_listNodes, zks_X4_listNodes, zmw_X4_listNodes⟩
theorem zc_X4_52 : zCV RX4 52 zmX4_passes 1 := ⟨zkm_X4_52, zkn_X4_passes, zks_X4_passes, zmw_X4_passes⟩
theorem zc_X4_56 : zCV RX4 56 zmX4_nextOf 1 := ⟨zkm_X4_56, zkn_X4_nextOf, zks_X4_nextOf, zmw_X4_nextOf⟩
theorem zc_X4_59 : zCV RX4 59 zmX4_follow 0 := ⟨zkm_X4_59, zkn_X4_follow, zks_X4_follow, zmw_X4_follow⟩
theorem zc_X4_65 : zCV RX4 65 zmX7_hasPlace 1 := ⟨zkm_X4_65, zkn_X7_hasPlace, zks_X7_hasPlace, zmw_X7_hasPlace⟩
theorem zc_X5_37 : zCV RX5 37 zmX5_has 1 := ⟨zkm_X5_37, zkn_X5_has, zks_X5_has, zmw_X5_has⟩
theorem zc_X5_41 : zCV RX5 41 zmX5_endOf 1 := ⟨zkm_X5_41, zkn_X5_endOf, zks_X5_endOf, zmw_X5_endOf⟩
theorem zc_X5_45 : zCV RX5 45 zmX5_lasts 2 := ⟨zkm_X5_45, zkn_X5_lasts, zks_X5_lasts, zmw_X5_lasts⟩
theorem zc_X6_23 : zCV RX6 23 zmX7_clear 0 := ⟨zkm_X6_23, zkn_X7_clear, zks_X7_clear, zmw_X7_clear⟩
theorem zc_X6_38 : zCV RX6 38 zmX8_split 0 := ⟨zkm_X6_38, zkn_X8_split, zks_X8_split, zmw_X8_split⟩
theorem zc_X6_43 : zCV RX6 43 zmX6_seen 0 := ⟨zkm_X6_43, zkn_X6_seen, zks_X6_seen, zmw_X6_seen⟩
theorem zc_X6_47 : zCV RX6 47 zmX6_line 0 := ⟨zkm_X6_47, zkn_X6_line, zks_X6_line, zmw_X6_line⟩
theorem zc_X6_51 : zCV RX6 51 zmX6_placeSeen 0 := ⟨zkm_X6_51, zkn_X6_placeSeen, zks_X6_placeSeen, zmw_X6_placeSeen⟩
theorem zc_X6_54 : zCV RX6 54 zmX8_tokenAt 1 := ⟨zkm_X6_54, zkn_X8_tokenAt, zks_X8_tokenAt, zmw_X8_tokenAt⟩
theorem zc_X6_58 : zCV RX6 58 zmX8_placeAt 1 := ⟨zkm_X6_58, zkn_X8_placeAt, zks_X8_placeAt, zmw_X8_placeAt⟩
theorem zc_X6_61 : zCV RX6 61 zmX6_refuse 1 := ⟨zkm_X6_61, zkn_X6_refuse, zks_X6_refuse, zmw_X6_refuse⟩
theorem zc_X6_68 : zCV RX6 68 zmX6_bowlLine 0 := ⟨zkm_X6_68, zkn_X6_bowlLine, zks_X6_bowlLine, zmw_X6_bowlLine⟩
theorem zc_X6_74 : zCV RX6 74 zmX6_pairLine 0 := ⟨zkm_X6_74, zkn_X6_pairLine, zks_X6_pairLine, zmw_X6_pairLine⟩
theorem zc_X6_80 : zCV RX6 80 zmX6_speakLine 0 := ⟨zkm_X6_80, zkn_X6_speakLine, zks_X6_speakLine, zmw_X6_speakLine⟩
theorem zc_X6_83 : zCV RX6 83 zmX6_setLine 0 := ⟨zkm_X6_83, zkn_X6_setLine, zks_X6_setLine, zmw_X6_setLine⟩
theorem zc_X6_86 : zCV RX6 86 zmX6_newName 1 := ⟨zkm_X6_86, zkn_X6_newName, zks_X6_newName, zmw_X6_newName⟩
theorem zc_X6_89 : zCV RX6 89 zmX6_take 1 := ⟨zkm_X6_89, zkn_X6_take, zks_X6_take, zmw_X6_take⟩
theorem zc_X6_105 : zCV RX6 105 zmX7_putBowl 1 := ⟨zkm_X6_105, zkn_X7_putBowl, zks_X7_putBowl, zmw_X7_putBowl⟩
theorem zc_X6_95 : zCV RX6 95 zmX6_number 4 := ⟨zkm_X6_95, zkn_X6_number, zks_X6_number, zmw_X6_number⟩
theorem zc_X6_109 : zCV RX6 109 zmX8_sameWord 2 := ⟨zkm_X6_109, zkn_X8_sameWord, zks_X8_sameWord, zmw_X8_sameWord⟩
theorem zc_X6_113 : zCV RX6 113 zmX6_isName 0 := ⟨zkm_X6_113, zkn_X6_isName, zks_X6_isName, zmw_X6_isName⟩
theorem zc_X6_116 : zCV RX6 116 zmX6_bowlSeen 0 := ⟨zkm_X6_116, zkn_X6_bowlSeen, zks_X6_bowlSeen, zmw_X6_bowlSeen⟩
theorem zc_X6_122 : zCV RX6 122 zmX6_toldName 3 := ⟨zkm_X6_122, zkn_X6_toldName, zks_X6_toldName, zmw_X6_toldName⟩
theorem zc_X6_147 : zCV RX6 147 zmX6_chain 2 := ⟨zkm_X6_147, zkn_X6_chain, zks_X6_chain, zmw_X6_chain⟩
theorem zc_X6_150 : zCV RX6 150 zmX7_endSpeak 0 := ⟨zkm_X6_150, zkn_X7_endSpeak, zks_X7_endSpeak, zmw_X7_endSpeak⟩
theorem zc_X6_156 : zCS RX6 156 zmX6_levelOf 1 := ⟨zkm_X6_156, zkt_X6_levelOf, zmw_X6_levelOf⟩
theorem zc_X6_159 : zCV RX6 159 zmX7_putCode 1 := ⟨zkm_X6_159, zkn_X7_putCode, zks_X7_putCode, zmw_X7_putCode⟩
theorem zc_X6_153 : zCV RX6 153 zmX6_part 1 := ⟨zkm_X6_153, zkn_X6_part, zks_X6_part, zmw_X6_part⟩
theorem zc_X7_84 : zCV RX7 84 zmX7_hasBowl 1 := ⟨zkm_X7_84, zkn_X7_hasBowl, zks_X7_hasBowl, zmw_X7_hasBowl⟩
theorem zc_X7_88 : zCV RX7 88 zmX7_speedAt 3 := ⟨zkm_X7_88, zkn_X7_speedAt, zks_X7_speedAt, zmw_X7_speedAt⟩
theorem zc_X7_98 : zCV RX7 98 zmX7_apart 2 := ⟨zkm_X7_98, zkn_X7_apart, zks_X7_apart, zmw_X7_apart⟩
theorem zc_X8_26 : zCV RX8 26 zmX8_endOf 1 := ⟨zkm_X8_26, zkn_X8_endOf, zks_X8_endOf, zmw_X8_endOf⟩
theorem zc_X8_30 : zCV RX8 30 zmX8_tokenFrom 2 := ⟨zkm_X8_30, zkn_X8_tokenFrom, zks_X8_tokenFrom, zmw_X8_tokenFrom⟩
theorem zc_X8_34 : zCV RX8 34 zmX8_put 2 := ⟨zkm_X8_34, zkn_X8_put, zks_X8_put, zmw_X8_put⟩
theorem zc_X8_43 : zCV RX8 43 zmX8_isLetter 1 := ⟨zkm_X8_43, zkn_X8_isLetter, zks_X8_isLetter, zmw_X8_isLetter⟩
theorem zc_X8_47 : zCV RX8 47 zmX8_isDigit 1 := ⟨zkm_X8_47, zkn_X8_isDigit, zks_X8_isDigit, zmw_X8_isDigit⟩
theorem zc_X8_53 : zCV RX8 53 zmX8_valueFrom 2 := ⟨zkm_X8_53, zkn_X8_valueFrom, zks_X8_valueFrom, zmw_X8_valueFrom⟩
theorem zc_X8_50 : zCV RX8 50 zmX8_wordFrom 2 := ⟨zkm_X8_50, zkn_X8_wordFrom, zks_X8_wordFrom, zmw_X8_wordFrom⟩
theorem zc_X8_68 : zCV RX8 68 zmX8_fills 3 := ⟨zkm_X8_68, zkn_X8_fills, zks_X8_fills, zmw_X8_fills⟩
theorem zc_X8_76 : zCV RX8 76 zmX8_letterAt 1 := ⟨zkm_X8_76, zkn_X8_letterAt, zks_X8_letterAt, zmw_X8_letterAt⟩
theorem zc_X9_47 : zCV RX9 47 zmX10_learn 0 := ⟨zkm_X9_47, zkn_X10_learn, zks_X10_learn, zmw_X10_learn⟩
theorem zc_X9_52 : zCS RX9 52 zmJ7_fill_53178 2 := ⟨zkm_X9_52, zkt_J7_fill_53178, zmw_J7_fill_53178⟩
theorem zc_X9_58 : zCV RX9 58 zmX9_reasonKept 2 := ⟨zkm_X9_58, zkn_X9_reasonKept, zks_X9_reasonKept, zmw_X9_reasonKept⟩
theorem zc_X9_67 : zCV RX9 67 zmX5_lasts 2 := ⟨zkm_X9_67, zkn_X5_lasts, zks_X5_lasts, zmw_X5_lasts⟩
theorem zc_X9_73 : zCV RX9 73 zmX9_learn 0 := ⟨zkm_X9_73, zkn_X9_learn, zks_X9_learn, zmw_X9_learn⟩
theorem zc_X9_77 : zCV RX9 77 zmX9_reasonFound 2 := ⟨zkm_X9_77, zkn_X9_reasonFound, zks_X9_reasonFound, zmw_X9_reasonFound⟩
theorem zc_X9_88 : zCV RX9 88 zmX10_isCracked 2 := ⟨zkm_X9_88, zkn_X10_isCracked, zks_X10_isCracked, zmw_X10_isCracked⟩
theorem zc_X9_91 : zCV RX9 91 zmX2_driesIn 2 := ⟨zkm_X9_91, zkn_X2_driesIn, zks_X2_driesIn, zmw_X2_driesIn⟩
theorem zc_X9_96 : zCV RX9 96 zmX9_tellLaw 2 := ⟨zkm_X9_96, zkn_X9_tellLaw, zks_X9_tellLaw, zmw_X9_tellLaw⟩
theorem zc_X9_100 : zCV RX9 100 zmX9_speedOf 2 := ⟨zkm_X9_100, zkn_X9_speedOf, zks_X9_speedOf, zmw_X9_speedOf⟩
theorem zc_X9_107 : zCV RX9 107 zmX3_allows 2 := ⟨zkm_X9_107, zkn_X3_allows, zks_X3_allows, zmw_X3_allows⟩
theorem zc_X9_116 : zCV RX9 116 zmX10_heatOf 2 := ⟨zkm_X9_116, zkn_X10_heatOf, zks_X10_heatOf, zmw_X10_heatOf⟩
theorem zc_X9_122 : zCV RX9 122 zmX3_tell 4 := ⟨zkm_X9_122, zkn_X3_tell, zks_X3_tell, zmw_X3_tell⟩
theorem zc_X9_129 : zCV RX9 129 zmX5_endOf 1 := ⟨zkm_X9_129, zkn_X5_endOf, zks_X5_endOf, zmw_X5_endOf⟩
theorem zc_X9_136 : zCV RX9 136 zmX9_speaksAt 3 := ⟨zkm_X9_136, zkn_X9_speaksAt, zks_X9_speaksAt, zmw_X9_speaksAt⟩
theorem zc_X9_140 : zCV RX9 140 zmX9_speakingIn 1 := ⟨zkm_X9_140, zkn_X9_speakingIn, zks_X9_speakingIn, zmw_X9_speakingIn⟩
theorem zc_X9_146 : zCV RX9 146 zmX7_hasPlace 1 := ⟨zkm_X9_146, zkn_X7_hasPlace, zks_X7_hasPlace, zmw_X7_hasPlace⟩
theorem zc_X9_153 : zCV RX9 153 zmX9_isRoused 2 := ⟨zkm_X9_153, zkn_X9_isRoused, zks_X9_isRoused, zmw_X9_isRoused⟩
theorem zc_X9_150 : zCV RX9 150 zmX5_pressOn 2 := ⟨zkm_X9_150, zkn_X5_pressOn, zks_X5_pressOn, zmw_X5_pressOn⟩
theorem zc_X9_162 : zCV RX9 162 zmX7_apart 2 := ⟨zkm_X9_162, zkn_X7_apart, zks_X7_apart, zmw_X7_apart⟩
theorem zc_X9_165 : zCV RX9 165 zmX5_firstIn 1 := ⟨zkm_X9_165, zkn_X5_firstIn, zks_X5_firstIn, zmw_X5_firstIn⟩
theorem zc_X10_39 : zCV RX10 39 zmX10_press 1 := ⟨zkm_X10_39, zkn_X10_press, zks_X10_press, zmw_X10_press⟩
theorem zc_X10_43 : zCV RX10 43 zmX10_warm 1 := ⟨zkm_X10_43, zkn_X10_warm, zks_X10_warm, zmw_X10_warm⟩
theorem zc_X10_46 : zCS RX10 46 zmJ7_fill_53178 2 := ⟨zkm_X10_46, zkt_J7_fill_53178, zmw_J7_fill_53178⟩
theorem zc_X10_63 : zCV RX10 63 zmX5_endOf 1 := ⟨zkm_X10_63, zkn_X5_endOf, zks_X5_endOf, zmw_X5_endOf⟩
theorem zml_X11_277 : zML RX11 277 Lib.Math.abs.name Lib.Math.abs.code 1 .int := ⟨zkm_X11_277, zkt_Lib_Math_abs_name, zki_Math, zkc_Lib_Math_abs_name⟩
theorem zml_X12_372 : zML RX12 372 Lib.Math.max.name Lib.Math.max.code 2 .int := ⟨zkm_X12_372, zkt_Lib_Math_max_name, zki_Math, zkc_Lib_Math_max_name⟩
theorem zml_X12_408 : zML RX12 408 Lib.Math.min.name Lib.Math.min.code 2 .int := ⟨zkm_X12_408, zkt_Lib_Math_min_name, zki_Math, zkc_Lib_Math_min_name⟩
theorem zml_X0_107 : zML RX0 107 Lib.Math.min.name Lib.Math.min.code 2 .int := ⟨zkm_X0_107, zkt_Lib_Math_min_name, zki_Math, zkc_Lib_Math_min_name⟩
theorem zml_X0_113 : zML RX0 113 Lib.Math.max.name Lib.Math.max.code 2 .int := ⟨zkm_X0_113, zkt_Lib_Math_max_name, zki_Math, zkc_Lib_Math_max_name⟩
theorem zac_X0_116 : Cond.methodLink RX0 116 arraycopyName ∈ zT ∧ Cond.native arraycopyName ∈ zT ∧ Cond.static arraycopyName ∈ zT ∧ Cond.initialized "java/lang/System" ∈ zT := ⟨zkm_X0_116, zka_n, zka_s, zki_System⟩
theorem zml_X1_130 : zML RX1 130 Lib.MathLoose.min_long.x Lib.MathLoose.min_long.code 4 .long := ⟨zkm_X1_130, zkt_Lib_MathLoose_min_long_x, zki_Math, zkc_Lib_MathLoose_min_long_x⟩
theorem zml_X1_158 : zML RX1 158 Lib.Math.abs.name Lib.Math.abs.code 1 .int := ⟨zkm_X1_158, zkt_Lib_Math_abs_name, zki_Math, zkc_Lib_Math_abs_name⟩
theorem zml_X1_167 : zML RX1 167 Lib.MathLoose.max_long.x Lib.MathLoose.max_long.code 4 .long := ⟨zkm_X1_167, zkt_Lib_MathLoose_max_long_x, zki_Math, zkc_Lib_MathLoose_max_long_x⟩
theorem zml_X2_38 : zML RX2 38 Lib.Math.min.name Lib.Math.min.code 2 .int := ⟨zkm_X2_38, zkt_Lib_Math_min_name, zki_Math, zkc_Lib_Math_min_name⟩
theorem zml_X2_62 : zML RX2 62 Lib.Math.abs.name Lib.Math.abs.code 1 .int := ⟨zkm_X2_62, zkt_Lib_Math_abs_name, zki_Math, zkc_Lib_Math_abs_name⟩
theorem zml_X4_77 : zML RX4 77 Lib.Math.max.name Lib.Math.max.code 2 .int := ⟨zkm_X4_77, zkt_Lib_Math_max_name, zki_Math, zkc_Lib_Math_max_name⟩
theorem zac_X5_31 : Cond.methodLink RX5 31 arraycopyName ∈ zT ∧ Cond.native arraycopyName ∈ zT ∧ Cond.static arraycopyName ∈ zT ∧ Cond.initialized "java/lang/System" ∈ zT := ⟨zkm_X5_31, zka_n, zka_s, zki_System⟩
theorem zgs_X6_141 : Cond.fieldLinkNest RX6 141 "GlassSpindle" "SETTING_LEAST" "[I" "GlassSpindle" ∈ lw_tbl := zL_4 _ (List.mem_of_getElem? (i := 52) rfl)
theorem zgs_X6_144 : Cond.fieldLinkNest RX6 144 "GlassSpindle" "SETTING_MOST" "[I" "GlassSpindle" ∈ lw_tbl := zL_4 _ (List.mem_of_getElem? (i := 54) rfl)
theorem zgs_X7_48 : Cond.fieldLinkNest RX7 48 "GlassSpindle" "SETTING_UNTOLD" "[I" "GlassSpindle" ∈ lw_tbl := zL_1 _ (List.mem_of_getElem? (i := 63) rfl)
theorem zac_X7_78 : Cond.methodLink RX7 78 arraycopyName ∈ zT ∧ Cond.native arraycopyName ∈ zT ∧ Cond.static arraycopyName ∈ zT ∧ Cond.initialized "java/lang/System" ∈ zT := ⟨zkm_X7_78, zka_n, zka_s, zki_System⟩
theorem zml_X7_92 : zML RX7 92 Lib.Math.abs.name Lib.Math.abs.code 1 .int := ⟨zkm_X7_92, zkt_Lib_Math_abs_name, zki_Math, zkc_Lib_Math_abs_name⟩
theorem zml_X8_38 : zML RX8 38 Lib.Math.max.name Lib.Math.max.code 2 .int := ⟨zkm_X8_38, zkt_Lib_Math_max_name, zki_Math, zkc_Lib_Math_max_name⟩
theorem zml_X9_62 : zML RX9 62 Lib.Math.min.name Lib.Math.min.code 2 .int := ⟨zkm_X9_62, zkt_Lib_Math_min_name, zki_Math, zkc_Lib_Math_min_name⟩
theorem zml_X9_159 : zML RX9 159 Lib.Math.abs.name Lib.Math.abs.code 1 .int := ⟨zkm_X9_159, zkt_Lib_Math_abs_name, zki_Math, zkc_Lib_Math_abs_name⟩
theorem zml_X10_78 : zML RX10 78 Lib.Math.max.name Lib.Math.max.code 2 .int := ⟨zkm_X10_78, zkt_Lib_Math_max_name, zki_Math, zkc_Lib_Math_max_name⟩
