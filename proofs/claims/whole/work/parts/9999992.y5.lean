/-! MACHINE ROWS, 87: the law's cases (printed by gen/part_c.py) -/
theorem zkc_X11_feed : Cond.code yX11_feed cX11_feed 7 (some .int) ∈ zT := zT_inc (i := 40) zL_3 rfl rfl
theorem zkm_L_25 : Cond.methodLink RL 25 yX11_feed ∈ zT := zT_inc (i := 37) zL_3 rfl rfl
theorem zkn_X11_feed : Cond.instanceMethod yX11_feed ∈ zT := zT_inc (i := 38) zL_3 rfl rfl
theorem zks_X11_feed : Cond.selects RX11 yX11_feed yX11_feed ∈ zT := zT_inc (i := 39) zL_3 rfl rfl
theorem zkc_X12_feed : Cond.code yX12_feed cX12_feed 11 (some .int) ∈ zT := zT_inc (i := 171) zL_7 rfl rfl
theorem zkm_L_29 : Cond.methodLink RL 29 yX12_feed ∈ zT := zT_inc (i := 168) zL_7 rfl rfl
theorem zkn_X12_feed : Cond.instanceMethod yX12_feed ∈ zT := zT_inc (i := 169) zL_7 rfl rfl
theorem zks_X12_feed : Cond.selects RX12 yX12_feed yX12_feed ∈ zT := zT_inc (i := 170) zL_7 rfl rfl
theorem zkc_X11_spindle : Cond.code yX11_spindle cX11_spindle 2 (some .int) ∈ zT := zT_inc (i := 48) zL_3 rfl rfl
theorem zkm_L_30 : Cond.methodLink RL 30 yX11_spindle ∈ zT := zT_inc (i := 45) zL_3 rfl rfl
theorem zkn_X11_spindle : Cond.instanceMethod yX11_spindle ∈ zT := zT_inc (i := 46) zL_3 rfl rfl
theorem zks_X11_spindle : Cond.selects RX11 yX11_spindle yX11_spindle ∈ zT := zT_inc (i := 47) zL_3 rfl rfl
theorem zkc_X12_spindle : Cond.code yX12_spindle cX12_spindle 3 (some .int) ∈ zT := zT_inc (i := 176) zL_7 rfl rfl
theorem zkm_L_34 : Cond.methodLink RL 34 yX12_spindle ∈ zT := zT_inc (i := 173) zL_7 rfl rfl
theorem zkn_X12_spindle : Cond.instanceMethod yX12_spindle ∈ zT := zT_inc (i := 174) zL_7 rfl rfl
theorem zks_X12_spindle : Cond.selects RX12 yX12_spindle yX12_spindle ∈ zT := zT_inc (i := 175) zL_7 rfl rfl
theorem zkc_X11_bowl : Cond.code yX11_bowl cX11_bowl 3 (some .int) ∈ zT := zT_inc (i := 71) zL_4 rfl rfl
theorem zkm_L_35 : Cond.methodLink RL 35 yX11_bowl ∈ zT := zT_inc (i := 68) zL_4 rfl rfl
theorem zkn_X11_bowl : Cond.instanceMethod yX11_bowl ∈ zT := zT_inc (i := 69) zL_4 rfl rfl
theorem zks_X11_bowl : Cond.selects RX11 yX11_bowl yX11_bowl ∈ zT := zT_inc (i := 70) zL_4 rfl rfl
theorem zkc_X12_bowl : Cond.code yX12_bowl cX12_bowl 3 (some .int) ∈ zT := zT_inc (i := 60) zL_8 rfl rfl
theorem zkm_L_38 : Cond.methodLink RL 38 yX12_bowl ∈ zT := zT_inc (i := 57) zL_8 rfl rfl
theorem zkn_X12_bowl : Cond.instanceMethod yX12_bowl ∈ zT := zT_inc (i := 58) zL_8 rfl rfl
theorem zks_X12_bowl : Cond.selects RX12 yX12_bowl yX12_bowl ∈ zT := zT_inc (i := 59) zL_8 rfl rfl
theorem zkc_X11_note : Cond.code yX11_note cX11_note 7 (some .int) ∈ zT := zT_inc (i := 79) zL_4 rfl rfl
theorem zkm_L_39 : Cond.methodLink RL 39 yX11_note ∈ zT := zT_inc (i := 76) zL_4 rfl rfl
theorem zkn_X11_note : Cond.instanceMethod yX11_note ∈ zT := zT_inc (i := 77) zL_4 rfl rfl
theorem zks_X11_note : Cond.selects RX11 yX11_note yX11_note ∈ zT := zT_inc (i := 78) zL_4 rfl rfl
theorem zkc_X12_note : Cond.code yX12_note cX12_note 6 (some .int) ∈ zT := zT_inc (i := 68) zL_8 rfl rfl
theorem zkm_L_43 : Cond.methodLink RL 43 yX12_note ∈ zT := zT_inc (i := 65) zL_8 rfl rfl
theorem zkn_X12_note : Cond.instanceMethod yX12_note ∈ zT := zT_inc (i := 66) zL_8 rfl rfl
theorem zks_X12_note : Cond.selects RX12 yX12_note yX12_note ∈ zT := zT_inc (i := 67) zL_8 rfl rfl
theorem zkc_X11_drop : Cond.code yX11_drop cX11_drop 1 (some .boolean) ∈ zT := zT_inc (i := 100) zL_4 rfl rfl
theorem zkm_L_44 : Cond.methodLink RL 44 yX11_drop ∈ zT := zT_inc (i := 97) zL_4 rfl rfl
theorem zkn_X11_drop : Cond.instanceMethod yX11_drop ∈ zT := zT_inc (i := 98) zL_4 rfl rfl
theorem zks_X11_drop : Cond.selects RX11 yX11_drop yX11_drop ∈ zT := zT_inc (i := 99) zL_4 rfl rfl
theorem zkc_X12_drop : Cond.code yX12_drop cX12_drop 1 (some .boolean) ∈ zT := zT_inc (i := 83) zL_8 rfl rfl
theorem zkm_L_48 : Cond.methodLink RL 48 yX12_drop ∈ zT := zT_inc (i := 80) zL_8 rfl rfl
theorem zkn_X12_drop : Cond.instanceMethod yX12_drop ∈ zT := zT_inc (i := 81) zL_8 rfl rfl
theorem zks_X12_drop : Cond.selects RX12 yX12_drop yX12_drop ∈ zT := zT_inc (i := 82) zL_8 rfl rfl
theorem zkc_X11_finger : Cond.code yX11_finger cX11_finger 3 (some .boolean) ∈ zT := zT_inc (i := 104) zL_4 rfl rfl
theorem zkm_L_49 : Cond.methodLink RL 49 yX11_finger ∈ zT := zT_inc (i := 101) zL_4 rfl rfl
theorem zkn_X11_finger : Cond.instanceMethod yX11_finger ∈ zT := zT_inc (i := 102) zL_4 rfl rfl
theorem zks_X11_finger : Cond.selects RX11 yX11_finger yX11_finger ∈ zT := zT_inc (i := 103) zL_4 rfl rfl
theorem zkc_X12_finger : Cond.code yX12_finger cX12_finger 3 (some .boolean) ∈ zT := zT_inc (i := 87) zL_8 rfl rfl
theorem zkm_L_53 : Cond.methodLink RL 53 yX12_finger ∈ zT := zT_inc (i := 84) zL_8 rfl rfl
theorem zkn_X12_finger : Cond.instanceMethod yX12_finger ∈ zT := zT_inc (i := 85) zL_8 rfl rfl
theorem zks_X12_finger : Cond.selects RX12 yX12_finger yX12_finger ∈ zT := zT_inc (i := 86) zL_8 rfl rfl
theorem zkc_X11_noteOf : Cond.code yX11_noteOf cX11_noteOf 3 (some .int) ∈ zT := zT_inc (i := 112) zL_4 rfl rfl
theorem zkm_L_54 : Cond.methodLink RL 54 yX11_noteOf ∈ zT := zT_inc (i := 109) zL_4 rfl rfl
theorem zkn_X11_noteOf : Cond.instanceMethod yX11_noteOf ∈ zT := zT_inc (i := 110) zL_4 rfl rfl
theorem zks_X11_noteOf : Cond.selects RX11 yX11_noteOf yX11_noteOf ∈ zT := zT_inc (i := 111) zL_4 rfl rfl
theorem zkc_X12_noteOf : Cond.code yX12_noteOf cX12_noteOf 3 (some .int) ∈ zT := zT_inc (i := 95) zL_8 rfl rfl
theorem zkm_L_57 : Cond.methodLink RL 57 yX12_noteOf ∈ zT := zT_inc (i := 92) zL_8 rfl rfl
theorem zkn_X12_noteOf : Cond.instanceMethod yX12_noteOf ∈ zT := zT_inc (i := 93) zL_8 rfl rfl
theorem zks_X12_noteOf : Cond.selects RX12 yX12_noteOf yX12_noteOf ∈ zT := zT_inc (i := 94) zL_8 rfl rfl
theorem zkc_X11_touched : Cond.code yX11_touched cX11_touched 3 (some .int) ∈ zT := zT_inc (i := 116) zL_4 rfl rfl
theorem zkm_L_58 : Cond.methodLink RL 58 yX11_touched ∈ zT := zT_inc (i := 113) zL_4 rfl rfl
theorem zkn_X11_touched : Cond.instanceMethod yX11_touched ∈ zT := zT_inc (i := 114) zL_4 rfl rfl
theorem zks_X11_touched : Cond.selects RX11 yX11_touched yX11_touched ∈ zT := zT_inc (i := 115) zL_4 rfl rfl
theorem zkc_X12_touched : Cond.code yX12_touched cX12_touched 3 (some .int) ∈ zT := zT_inc (i := 99) zL_8 rfl rfl
theorem zkm_L_61 : Cond.methodLink RL 61 yX12_touched ∈ zT := zT_inc (i := 96) zL_8 rfl rfl
theorem zkn_X12_touched : Cond.instanceMethod yX12_touched ∈ zT := zT_inc (i := 97) zL_8 rfl rfl
theorem zks_X12_touched : Cond.selects RX12 yX12_touched yX12_touched ∈ zT := zT_inc (i := 98) zL_8 rfl rfl
theorem zkc_X11_warmth : Cond.code yX11_warmth cX11_warmth 3 (some .int) ∈ zT := zT_inc (i := 136) zL_4 rfl rfl
theorem zkm_L_62 : Cond.methodLink RL 62 yX11_warmth ∈ zT := zT_inc (i := 133) zL_4 rfl rfl
theorem zkn_X11_warmth : Cond.instanceMethod yX11_warmth ∈ zT := zT_inc (i := 134) zL_4 rfl rfl
theorem zks_X11_warmth : Cond.selects RX11 yX11_warmth yX11_warmth ∈ zT := zT_inc (i := 135) zL_4 rfl rfl
theorem zkc_X12_warmth : Cond.code yX12_warmth cX12_warmth 3 (some .int) ∈ zT := zT_inc (i := 115) zL_8 rfl rfl
theorem zkm_L_65 : Cond.methodLink RL 65 yX12_warmth ∈ zT := zT_inc (i := 112) zL_8 rfl rfl
theorem zkn_X12_warmth : Cond.instanceMethod yX12_warmth ∈ zT := zT_inc (i := 113) zL_8 rfl rfl
theorem zks_X12_warmth : Cond.selects RX12 yX12_warmth yX12_warmth ∈ zT := zT_inc (i := 114) zL_8 rfl rfl
theorem zkc_X11_cracked : Cond.code yX11_cracked cX11_cracked 2 (some .int) ∈ zT := zT_inc (i := 161) zL_4 rfl rfl
theorem zkm_L_66 : Cond.methodLink RL 66 yX11_cracked ∈ zT := zT_inc (i := 158) zL_4 rfl rfl
theorem zkn_X11_cracked : Cond.instanceMethod yX11_cracked ∈ zT := zT_inc (i := 159) zL_4 rfl rfl
theorem zks_X11_cracked : Cond.selects RX11 yX11_cracked yX11_cracked ∈ zT := zT_inc (i := 160) zL_4 rfl rfl
theorem zkc_X12_cracked : Cond.code yX12_cracked cX12_cracked 2 (some .int) ∈ zT := zT_inc (i := 125) zL_8 rfl rfl
theorem zkm_L_69 : Cond.methodLink RL 69 yX12_cracked ∈ zT := zT_inc (i := 122) zL_8 rfl rfl
theorem zkn_X12_cracked : Cond.instanceMethod yX12_cracked ∈ zT := zT_inc (i := 123) zL_8 rfl rfl
theorem zks_X12_cracked : Cond.selects RX12 yX12_cracked yX12_cracked ∈ zT := zT_inc (i := 124) zL_8 rfl rfl
theorem zkc_X12_why : Cond.code yX12_why cX12_why 3 (some .int) ∈ zT := zT_inc (i := 129) zL_8 rfl rfl
theorem zkm_L_75 : Cond.methodLink RL 75 yX12_why ∈ zT := zT_inc (i := 126) zL_8 rfl rfl
theorem zkn_X12_why : Cond.instanceMethod yX12_why ∈ zT := zT_inc (i := 127) zL_8 rfl rfl
theorem zks_X12_why : Cond.selects RX12 yX12_why yX12_why ∈ zT := zT_inc (i := 128) zL_8 rfl rfl
theorem zkc_X12_thrown : Cond.code yX12_thrown cX12_thrown 1 (some .int) ∈ zT := zT_inc (i := 167) zL_7 rfl rfl
theorem zkm_L_76 : Cond.methodLink RL 76 yX12_thrown ∈ zT := zT_inc (i := 164) zL_7 rfl rfl
theorem zkn_X12_thrown : Cond.instanceMethod yX12_thrown ∈ zT := zT_inc (i := 165) zL_7 rfl rfl
theorem zks_X12_thrown : Cond.selects RX12 yX12_thrown yX12_thrown ∈ zT := zT_inc (i := 166) zL_7 rfl rfl
theorem zkc_X11_speaks : Cond.code yX11_speaks cX11_speaks 2 (some .int) ∈ zT := zT_inc (i := 169) zL_4 rfl rfl
theorem zkm_L_79 : Cond.methodLink RL 79 yX11_speaks ∈ zT := zT_inc (i := 166) zL_4 rfl rfl
theorem zkn_X11_speaks : Cond.instanceMethod yX11_speaks ∈ zT := zT_inc (i := 167) zL_4 rfl rfl
theorem zks_X11_speaks : Cond.selects RX11 yX11_speaks yX11_speaks ∈ zT := zT_inc (i := 168) zL_4 rfl rfl
theorem zkc_X12_speaks : Cond.code yX12_speaks cX12_speaks 2 (some .int) ∈ zT := zT_inc (i := 161) zL_8 rfl rfl
theorem zkm_L_82 : Cond.methodLink RL 82 yX12_speaks ∈ zT := zT_inc (i := 158) zL_8 rfl rfl
theorem zkn_X12_speaks : Cond.instanceMethod yX12_speaks ∈ zT := zT_inc (i := 159) zL_8 rfl rfl
theorem zks_X12_speaks : Cond.selects RX12 yX12_speaks yX12_speaks ∈ zT := zT_inc (i := 160) zL_8 rfl rfl
theorem zkc_X11_sounds : Cond.code yX11_sounds cX11_sounds 2 (some .int) ∈ zT := zT_inc (i := 233) zL_4 rfl rfl
theorem zkm_L_83 : Cond.methodLink RL 83 yX11_sounds ∈ zT := zT_inc (i := 230) zL_4 rfl rfl
theorem zkn_X11_sounds : Cond.instanceMethod yX11_sounds ∈ zT := zT_inc (i := 231) zL_4 rfl rfl
theorem zks_X11_sounds : Cond.selects RX11 yX11_sounds yX11_sounds ∈ zT := zT_inc (i := 232) zL_4 rfl rfl
theorem zkc_X12_sounds : Cond.code yX12_sounds cX12_sounds 2 (some .int) ∈ zT := zT_inc (i := 169) zL_8 rfl rfl
theorem zkm_L_86 : Cond.methodLink RL 86 yX12_sounds ∈ zT := zT_inc (i := 166) zL_8 rfl rfl
theorem zkn_X12_sounds : Cond.instanceMethod yX12_sounds ∈ zT := zT_inc (i := 167) zL_8 rfl rfl
theorem zks_X12_sounds : Cond.selects RX12 yX12_sounds yX12_sounds ∈ zT := zT_inc (i := 168) zL_8 rfl rfl
theorem zkc_X11_along : Cond.code yX11_along cX11_along 2 (some .int) ∈ zT := zT_inc (i := 1) zL_5 rfl rfl
theorem zkm_L_87 : Cond.methodLink RL 87 yX11_along ∈ zT := zT_inc (i := 238) zL_4 rfl rfl
theorem zkn_X11_along : Cond.instanceMethod yX11_along ∈ zT := zT_inc (i := 239) zL_4 rfl rfl
theorem zks_X11_along : Cond.selects RX11 yX11_along yX11_along ∈ zT := zT_inc (i := 0) zL_5 rfl rfl
theorem zkc_X12_along : Cond.code yX12_along cX12_along 7 (some .int) ∈ zT := zT_inc (i := 177) zL_8 rfl rfl
theorem zkm_L_90 : Cond.methodLink RL 90 yX12_along ∈ zT := zT_inc (i := 174) zL_8 rfl rfl
theorem zkn_X12_along : Cond.instanceMethod yX12_along ∈ zT := zT_inc (i := 175) zL_8 rfl rfl
theorem zks_X12_along : Cond.selects RX12 yX12_along yX12_along ∈ zT := zT_inc (i := 176) zL_8 rfl rfl
theorem zkc_X11_silence : Cond.code yX11_silence cX11_silence 5 (some .int) ∈ zT := zT_inc (i := 24) zL_5 rfl rfl
theorem zkm_L_91 : Cond.methodLink RL 91 yX11_silence ∈ zT := zT_inc (i := 21) zL_5 rfl rfl
theorem zkn_X11_silence : Cond.instanceMethod yX11_silence ∈ zT := zT_inc (i := 22) zL_5 rfl rfl
theorem zks_X11_silence : Cond.selects RX11 yX11_silence yX11_silence ∈ zT := zT_inc (i := 23) zL_5 rfl rfl
theorem zkc_X12_silence : Cond.code yX12_silence cX12_silence 6 (some .int) ∈ zT := zT_inc (i := 184) zL_8 rfl rfl
theorem zkm_L_94 : Cond.methodLink RL 94 yX12_silence ∈ zT := zT_inc (i := 181) zL_8 rfl rfl
theorem zkn_X12_silence : Cond.instanceMethod yX12_silence ∈ zT := zT_inc (i := 182) zL_8 rfl rfl
theorem zks_X12_silence : Cond.selects RX12 yX12_silence yX12_silence ∈ zT := zT_inc (i := 183) zL_8 rfl rfl
theorem zkc_X11_best : Cond.code yX11_best cX11_best 4 (some .int) ∈ zT := zT_inc (i := 42) zL_5 rfl rfl
theorem zkm_L_95 : Cond.methodLink RL 95 yX11_best ∈ zT := zT_inc (i := 39) zL_5 rfl rfl
theorem zkn_X11_best : Cond.instanceMethod yX11_best ∈ zT := zT_inc (i := 40) zL_5 rfl rfl
theorem zks_X11_best : Cond.selects RX11 yX11_best yX11_best ∈ zT := zT_inc (i := 41) zL_5 rfl rfl
theorem zkc_X12_best : Cond.code yX12_best cX12_best 6 (some .int) ∈ zT := zT_inc (i := 188) zL_8 rfl rfl
theorem zkm_L_98 : Cond.methodLink RL 98 yX12_best ∈ zT := zT_inc (i := 185) zL_8 rfl rfl
theorem zkn_X12_best : Cond.instanceMethod yX12_best ∈ zT := zT_inc (i := 186) zL_8 rfl rfl
theorem zks_X12_best : Cond.selects RX12 yX12_best yX12_best ∈ zT := zT_inc (i := 187) zL_8 rfl rfl
theorem zkc_X11_atTreadle : Cond.code yX11_atTreadle cX11_atTreadle 2 (some .int) ∈ zT := zT_inc (i := 54) zL_5 rfl rfl
theorem zkm_L_99 : Cond.methodLink RL 99 yX11_atTreadle ∈ zT := zT_inc (i := 51) zL_5 rfl rfl
theorem zkn_X11_atTreadle : Cond.instanceMethod yX11_atTreadle ∈ zT := zT_inc (i := 52) zL_5 rfl rfl
theorem zks_X11_atTreadle : Cond.selects RX11 yX11_atTreadle yX11_atTreadle ∈ zT := zT_inc (i := 53) zL_5 rfl rfl
theorem zkc_X12_atTreadle : Cond.code yX12_atTreadle cX12_atTreadle 2 (some .int) ∈ zT := zT_inc (i := 196) zL_8 rfl rfl
theorem zkm_L_102 : Cond.methodLink RL 102 yX12_atTreadle ∈ zT := zT_inc (i := 193) zL_8 rfl rfl
theorem zkn_X12_atTreadle : Cond.instanceMethod yX12_atTreadle ∈ zT := zT_inc (i := 194) zL_8 rfl rfl
theorem zks_X12_atTreadle : Cond.selects RX12 yX12_atTreadle yX12_atTreadle ∈ zT := zT_inc (i := 195) zL_8 rfl rfl
theorem zkc_X11_wrong : Cond.code yX11_wrong cX11_wrong 2 (some .int) ∈ zT := zT_inc (i := 58) zL_5 rfl rfl
theorem zkm_L_103 : Cond.methodLink RL 103 yX11_wrong ∈ zT := zT_inc (i := 55) zL_5 rfl rfl
theorem zkn_X11_wrong : Cond.instanceMethod yX11_wrong ∈ zT := zT_inc (i := 56) zL_5 rfl rfl
theorem zks_X11_wrong : Cond.selects RX11 yX11_wrong yX11_wrong ∈ zT := zT_inc (i := 57) zL_5 rfl rfl
theorem zkc_X12_wrong : Cond.code yX12_wrong cX12_wrong 2 (some .int) ∈ zT := zT_inc (i := 200) zL_8 rfl rfl
theorem zkm_L_106 : Cond.methodLink RL 106 yX12_wrong ∈ zT := zT_inc (i := 197) zL_8 rfl rfl
theorem zkn_X12_wrong : Cond.instanceMethod yX12_wrong ∈ zT := zT_inc (i := 198) zL_8 rfl rfl
theorem zks_X12_wrong : Cond.selects RX12 yX12_wrong yX12_wrong ∈ zT := zT_inc (i := 199) zL_8 rfl rfl
theorem zkc_X11_judged : Cond.code yX11_judged cX11_judged 2 (some .int) ∈ zT := zT_inc (i := 84) zL_5 rfl rfl
theorem zkm_L_107 : Cond.methodLink RL 107 yX11_judged ∈ zT := zT_inc (i := 81) zL_5 rfl rfl
theorem zkn_X11_judged : Cond.instanceMethod yX11_judged ∈ zT := zT_inc (i := 82) zL_5 rfl rfl
theorem zks_X11_judged : Cond.selects RX11 yX11_judged yX11_judged ∈ zT := zT_inc (i := 83) zL_5 rfl rfl
theorem zkc_X12_judged : Cond.code yX12_judged cX12_judged 2 (some .int) ∈ zT := zT_inc (i := 217) zL_8 rfl rfl
theorem zkm_L_110 : Cond.methodLink RL 110 yX12_judged ∈ zT := zT_inc (i := 214) zL_8 rfl rfl
theorem zkn_X12_judged : Cond.instanceMethod yX12_judged ∈ zT := zT_inc (i := 215) zL_8 rfl rfl
theorem zks_X12_judged : Cond.selects RX12 yX12_judged yX12_judged ∈ zT := zT_inc (i := 216) zL_8 rfl rfl
theorem zkc_X11_lifts : Cond.code yX11_lifts cX11_lifts 3 (some .int) ∈ zT := zT_inc (i := 88) zL_5 rfl rfl
theorem zkm_L_111 : Cond.methodLink RL 111 yX11_lifts ∈ zT := zT_inc (i := 85) zL_5 rfl rfl
theorem zkn_X11_lifts : Cond.instanceMethod yX11_lifts ∈ zT := zT_inc (i := 86) zL_5 rfl rfl
theorem zks_X11_lifts : Cond.selects RX11 yX11_lifts yX11_lifts ∈ zT := zT_inc (i := 87) zL_5 rfl rfl
theorem zkc_X12_lifts : Cond.code yX12_lifts cX12_lifts 3 (some .int) ∈ zT := zT_inc (i := 221) zL_8 rfl rfl
theorem zkm_L_114 : Cond.methodLink RL 114 yX12_lifts ∈ zT := zT_inc (i := 218) zL_8 rfl rfl
theorem zkn_X12_lifts : Cond.instanceMethod yX12_lifts ∈ zT := zT_inc (i := 219) zL_8 rfl rfl
theorem zks_X12_lifts : Cond.selects RX12 yX12_lifts yX12_lifts ∈ zT := zT_inc (i := 220) zL_8 rfl rfl
theorem zkc_X11_fewest : Cond.code yX11_fewest cX11_fewest 1 (some .int) ∈ zT := zT_inc (i := 100) zL_5 rfl rfl
theorem zkm_L_115 : Cond.methodLink RL 115 yX11_fewest ∈ zT := zT_inc (i := 97) zL_5 rfl rfl
theorem zkn_X11_fewest : Cond.instanceMethod yX11_fewest ∈ zT := zT_inc (i := 98) zL_5 rfl rfl
theorem zks_X11_fewest : Cond.selects RX11 yX11_fewest yX11_fewest ∈ zT := zT_inc (i := 99) zL_5 rfl rfl
theorem zkc_X12_fewest : Cond.code yX12_fewest cX12_fewest 1 (some .int) ∈ zT := zT_inc (i := 229) zL_8 rfl rfl
theorem zkm_L_118 : Cond.methodLink RL 118 yX12_fewest ∈ zT := zT_inc (i := 226) zL_8 rfl rfl
theorem zkn_X12_fewest : Cond.instanceMethod yX12_fewest ∈ zT := zT_inc (i := 227) zL_8 rfl rfl
theorem zks_X12_fewest : Cond.selects RX12 yX12_fewest yX12_fewest ∈ zT := zT_inc (i := 228) zL_8 rfl rfl
theorem zkc_X11_fingered : Cond.code yX11_fingered cX11_fingered 2 (some .int) ∈ zT := zT_inc (i := 152) zL_5 rfl rfl
theorem zkm_L_119 : Cond.methodLink RL 119 yX11_fingered ∈ zT := zT_inc (i := 149) zL_5 rfl rfl
theorem zkn_X11_fingered : Cond.instanceMethod yX11_fingered ∈ zT := zT_inc (i := 150) zL_5 rfl rfl
theorem zks_X11_fingered : Cond.selects RX11 yX11_fingered yX11_fingered ∈ zT := zT_inc (i := 151) zL_5 rfl rfl
theorem zkc_X12_fingered : Cond.code yX12_fingered cX12_fingered 2 (some .int) ∈ zT := zT_inc (i := 1) zL_9 rfl rfl
theorem zkm_L_122 : Cond.methodLink RL 122 yX12_fingered ∈ zT := zT_inc (i := 238) zL_8 rfl rfl
theorem zkn_X12_fingered : Cond.instanceMethod yX12_fingered ∈ zT := zT_inc (i := 239) zL_8 rfl rfl
theorem zks_X12_fingered : Cond.selects RX12 yX12_fingered yX12_fingered ∈ zT := zT_inc (i := 0) zL_9 rfl rfl
theorem zkc_X11_far : Cond.code yX11_far cX11_far 1 (some .int) ∈ zT := zT_inc (i := 161) zL_5 rfl rfl
theorem zkm_L_123 : Cond.methodLink RL 123 yX11_far ∈ zT := zT_inc (i := 158) zL_5 rfl rfl
theorem zkn_X11_far : Cond.instanceMethod yX11_far ∈ zT := zT_inc (i := 159) zL_5 rfl rfl
theorem zks_X11_far : Cond.selects RX11 yX11_far yX11_far ∈ zT := zT_inc (i := 160) zL_5 rfl rfl
theorem zkc_X12_far : Cond.code yX12_far cX12_far 1 (some .int) ∈ zT := zT_inc (i := 5) zL_9 rfl rfl
theorem zkm_L_126 : Cond.methodLink RL 126 yX12_far ∈ zT := zT_inc (i := 2) zL_9 rfl rfl
theorem zkn_X12_far : Cond.instanceMethod yX12_far ∈ zT := zT_inc (i := 3) zL_9 rfl rfl
theorem zks_X12_far : Cond.selects RX12 yX12_far yX12_far ∈ zT := zT_inc (i := 4) zL_9 rfl rfl
theorem zkc_X11_beating : Cond.code yX11_beating cX11_beating 2 (some .int) ∈ zT := zT_inc (i := 169) zL_5 rfl rfl
theorem zkm_L_127 : Cond.methodLink RL 127 yX11_beating ∈ zT := zT_inc (i := 166) zL_5 rfl rfl
theorem zkn_X11_beating : Cond.instanceMethod yX11_beating ∈ zT := zT_inc (i := 167) zL_5 rfl rfl
theorem zks_X11_beating : Cond.selects RX11 yX11_beating yX11_beating ∈ zT := zT_inc (i := 168) zL_5 rfl rfl
theorem zkc_X12_beating : Cond.code yX12_beating cX12_beating 2 (some .int) ∈ zT := zT_inc (i := 9) zL_9 rfl rfl
theorem zkm_L_130 : Cond.methodLink RL 130 yX12_beating ∈ zT := zT_inc (i := 6) zL_9 rfl rfl
theorem zkn_X12_beating : Cond.instanceMethod yX12_beating ∈ zT := zT_inc (i := 7) zL_9 rfl rfl
theorem zks_X12_beating : Cond.selects RX12 yX12_beating yX12_beating ∈ zT := zT_inc (i := 8) zL_9 rfl rfl
theorem zkc_X11_within : Cond.code yX11_within cX11_within 3 (some .int) ∈ zT := zT_inc (i := 185) zL_5 rfl rfl
theorem zkm_L_131 : Cond.methodLink RL 131 yX11_within ∈ zT := zT_inc (i := 182) zL_5 rfl rfl
theorem zkn_X11_within : Cond.instanceMethod yX11_within ∈ zT := zT_inc (i := 183) zL_5 rfl rfl
theorem zks_X11_within : Cond.selects RX11 yX11_within yX11_within ∈ zT := zT_inc (i := 184) zL_5 rfl rfl
theorem zkc_X12_within : Cond.code yX12_within cX12_within 3 (some .int) ∈ zT := zT_inc (i := 17) zL_9 rfl rfl
theorem zkm_L_134 : Cond.methodLink RL 134 yX12_within ∈ zT := zT_inc (i := 14) zL_9 rfl rfl
theorem zkn_X12_within : Cond.instanceMethod yX12_within ∈ zT := zT_inc (i := 15) zL_9 rfl rfl
theorem zks_X12_within : Cond.selects RX12 yX12_within yX12_within ∈ zT := zT_inc (i := 16) zL_9 rfl rfl
theorem zkc_X11_ground : Cond.code yX11_ground cX11_ground 1 (some .int) ∈ zT := zT_inc (i := 189) zL_5 rfl rfl
theorem zkm_L_135 : Cond.methodLink RL 135 yX11_ground ∈ zT := zT_inc (i := 186) zL_5 rfl rfl
theorem zkn_X11_ground : Cond.instanceMethod yX11_ground ∈ zT := zT_inc (i := 187) zL_5 rfl rfl
theorem zks_X11_ground : Cond.selects RX11 yX11_ground yX11_ground ∈ zT := zT_inc (i := 188) zL_5 rfl rfl
theorem zkc_X12_ground : Cond.code yX12_ground cX12_ground 1 (some .int) ∈ zT := zT_inc (i := 21) zL_9 rfl rfl
theorem zkm_L_138 : Cond.methodLink RL 138 yX12_ground ∈ zT := zT_inc (i := 18) zL_9 rfl rfl
theorem zkn_X12_ground : Cond.instanceMethod yX12_ground ∈ zT := zT_inc (i := 19) zL_9 rfl rfl
theorem zks_X12_ground : Cond.selects RX12 yX12_ground yX12_ground ∈ zT := zT_inc (i := 20) zL_9 rfl rfl
theorem zkc_X12_groundOf : Cond.code yX12_groundOf cX12_groundOf 2 (some .int) ∈ zT := zT_inc (i := 41) zL_9 rfl rfl
theorem zkm_L_142 : Cond.methodLink RL 142 yX12_groundOf ∈ zT := zT_inc (i := 38) zL_9 rfl rfl
theorem zkn_X12_groundOf : Cond.instanceMethod yX12_groundOf ∈ zT := zT_inc (i := 39) zL_9 rfl rfl
theorem zks_X12_groundOf : Cond.selects RX12 yX12_groundOf yX12_groundOf ∈ zT := zT_inc (i := 40) zL_9 rfl rfl
theorem zkc_X11_spare : Cond.code yX11_spare cX11_spare 2 (some .int) ∈ zT := zT_inc (i := 35) zL_6 rfl rfl
theorem zkm_L_143 : Cond.methodLink RL 143 yX11_spare ∈ zT := zT_inc (i := 32) zL_6 rfl rfl
theorem zkn_X11_spare : Cond.instanceMethod yX11_spare ∈ zT := zT_inc (i := 33) zL_6 rfl rfl
theorem zks_X11_spare : Cond.selects RX11 yX11_spare yX11_spare ∈ zT := zT_inc (i := 34) zL_6 rfl rfl
theorem zkc_X12_spare : Cond.code yX12_spare cX12_spare 4 (some .int) ∈ zT := zT_inc (i := 45) zL_9 rfl rfl
theorem zkm_L_146 : Cond.methodLink RL 146 yX12_spare ∈ zT := zT_inc (i := 42) zL_9 rfl rfl
theorem zkn_X12_spare : Cond.instanceMethod yX12_spare ∈ zT := zT_inc (i := 43) zL_9 rfl rfl
theorem zks_X12_spare : Cond.selects RX12 yX12_spare yX12_spare ∈ zT := zT_inc (i := 44) zL_9 rfl rfl
theorem zkc_X11_exchange : Cond.code yX11_exchange cX11_exchange 3 (some .boolean) ∈ zT := zT_inc (i := 44) zL_6 rfl rfl
theorem zkm_L_147 : Cond.methodLink RL 147 yX11_exchange ∈ zT := zT_inc (i := 41) zL_6 rfl rfl
theorem zkn_X11_exchange : Cond.instanceMethod yX11_exchange ∈ zT := zT_inc (i := 42) zL_6 rfl rfl
theorem zks_X11_exchange : Cond.selects RX11 yX11_exchange yX11_exchange ∈ zT := zT_inc (i := 43) zL_6 rfl rfl
theorem zkc_X12_exchange : Cond.code yX12_exchange cX12_exchange 4 (some .boolean) ∈ zT := zT_inc (i := 49) zL_9 rfl rfl
theorem zkm_L_150 : Cond.methodLink RL 150 yX12_exchange ∈ zT := zT_inc (i := 46) zL_9 rfl rfl
theorem zkn_X12_exchange : Cond.instanceMethod yX12_exchange ∈ zT := zT_inc (i := 47) zL_9 rfl rfl
theorem zks_X12_exchange : Cond.selects RX12 yX12_exchange yX12_exchange ∈ zT := zT_inc (i := 48) zL_9 rfl rfl
theorem zkc_X11_moved : Cond.code yX11_moved cX11_moved 3 (some .int) ∈ zT := zT_inc (i := 56) zL_6 rfl rfl
theorem zkm_L_151 : Cond.methodLink RL 151 yX11_moved ∈ zT := zT_inc (i := 53) zL_6 rfl rfl
theorem zkn_X11_moved : Cond.instanceMethod yX11_moved ∈ zT := zT_inc (i := 54) zL_6 rfl rfl
theorem zks_X11_moved : Cond.selects RX11 yX11_moved yX11_moved ∈ zT := zT_inc (i := 55) zL_6 rfl rfl
theorem zkc_X12_moved : Cond.code yX12_moved cX12_moved 3 (some .int) ∈ zT := zT_inc (i := 53) zL_9 rfl rfl
theorem zkm_L_154 : Cond.methodLink RL 154 yX12_moved ∈ zT := zT_inc (i := 50) zL_9 rfl rfl
theorem zkn_X12_moved : Cond.instanceMethod yX12_moved ∈ zT := zT_inc (i := 51) zL_9 rfl rfl
theorem zks_X12_moved : Cond.selects RX12 yX12_moved yX12_moved ∈ zT := zT_inc (i := 52) zL_9 rfl rfl
theorem zkc_X11_order : Cond.code yX11_order cX11_order 1 (some .int) ∈ zT := zT_inc (i := 62) zL_6 rfl rfl
theorem zkm_L_155 : Cond.methodLink RL 155 yX11_order ∈ zT := zT_inc (i := 59) zL_6 rfl rfl
theorem zkn_X11_order : Cond.instanceMethod yX11_order ∈ zT := zT_inc (i := 60) zL_6 rfl rfl
theorem zks_X11_order : Cond.selects RX11 yX11_order yX11_order ∈ zT := zT_inc (i := 61) zL_6 rfl rfl
theorem zkc_X12_order : Cond.code yX12_order cX12_order 1 (some .int) ∈ zT := zT_inc (i := 57) zL_9 rfl rfl
theorem zkm_L_158 : Cond.methodLink RL 158 yX12_order ∈ zT := zT_inc (i := 54) zL_9 rfl rfl
theorem zkn_X12_order : Cond.instanceMethod yX12_order ∈ zT := zT_inc (i := 55) zL_9 rfl rfl
theorem zks_X12_order : Cond.selects RX12 yX12_order yX12_order ∈ zT := zT_inc (i := 56) zL_9 rfl rfl
theorem zkc_X11_ordered : Cond.code yX11_ordered cX11_ordered 2 (some .int) ∈ zT := zT_inc (i := 92) zL_6 rfl rfl
theorem zkm_L_159 : Cond.methodLink RL 159 yX11_ordered ∈ zT := zT_inc (i := 89) zL_6 rfl rfl
theorem zkn_X11_ordered : Cond.instanceMethod yX11_ordered ∈ zT := zT_inc (i := 90) zL_6 rfl rfl
theorem zks_X11_ordered : Cond.selects RX11 yX11_ordered yX11_ordered ∈ zT := zT_inc (i := 91) zL_6 rfl rfl
theorem zkc_X12_ordered : Cond.code yX12_ordered cX12_ordered 3 (some .int) ∈ zT := zT_inc (i := 73) zL_9 rfl rfl
theorem zkm_L_162 : Cond.methodLink RL 162 yX12_ordered ∈ zT := zT_inc (i := 70) zL_9 rfl rfl
theorem zkn_X12_ordered : Cond.instanceMethod yX12_ordered ∈ zT := zT_inc (i := 71) zL_9 rfl rfl
theorem zks_X12_ordered : Cond.selects RX12 yX12_ordered yX12_ordered ∈ zT := zT_inc (i := 72) zL_9 rfl rfl
theorem zkm_L_163 : Cond.methodLink RL 163 yX11_mark ∈ zT := zT_inc (i := 97) zL_6 rfl rfl
theorem zkn_X11_mark : Cond.instanceMethod yX11_mark ∈ zT := zT_inc (i := 98) zL_6 rfl rfl
theorem zks_X11_mark : Cond.selects RX11 yX11_mark yX11_mark ∈ zT := zT_inc (i := 99) zL_6 rfl rfl
theorem zkc_X12_mark : Cond.code yX12_mark cX12_mark 3 (some .boolean) ∈ zT := zT_inc (i := 77) zL_9 rfl rfl
theorem zkm_L_167 : Cond.methodLink RL 167 yX12_mark ∈ zT := zT_inc (i := 74) zL_9 rfl rfl
theorem zkn_X12_mark : Cond.instanceMethod yX12_mark ∈ zT := zT_inc (i := 75) zL_9 rfl rfl
theorem zks_X12_mark : Cond.selects RX12 yX12_mark yX12_mark ∈ zT := zT_inc (i := 76) zL_9 rfl rfl
theorem zkc_X11_count : Cond.code yX11_count cX11_count 2 (some .int) ∈ zT := zT_inc (i := 117) zL_6 rfl rfl
theorem zkm_L_168 : Cond.methodLink RL 168 yX11_count ∈ zT := zT_inc (i := 114) zL_6 rfl rfl
theorem zkn_X11_count : Cond.instanceMethod yX11_count ∈ zT := zT_inc (i := 115) zL_6 rfl rfl
theorem zks_X11_count : Cond.selects RX11 yX11_count yX11_count ∈ zT := zT_inc (i := 116) zL_6 rfl rfl
theorem zkc_X12_count : Cond.code yX12_count cX12_count 2 (some .int) ∈ zT := zT_inc (i := 85) zL_9 rfl rfl
theorem zkm_L_171 : Cond.methodLink RL 171 yX12_count ∈ zT := zT_inc (i := 82) zL_9 rfl rfl
theorem zkn_X12_count : Cond.instanceMethod yX12_count ∈ zT := zT_inc (i := 83) zL_9 rfl rfl
theorem zks_X12_count : Cond.selects RX12 yX12_count yX12_count ∈ zT := zT_inc (i := 84) zL_9 rfl rfl
theorem zkl_L_23 : Cond.constantLong RL 23 4294967295 ∈ zT := zT_inc (i := 86) zL_9 (by decide +kernel) rfl
theorem zmw_X11_feed : zMW zmX11_feed 3 := ⟨zkc_X11_feed, zki_X11, by decide +kernel, by decide +kernel, by decide⟩
theorem zmw_X12_feed : zMW zmX12_feed 3 := ⟨zkc_X12_feed, zki_X12, by decide +kernel, by decide +kernel, by decide⟩
theorem zmw_X11_spindle : zMW zmX11_spindle 0 := ⟨zkc_X11_spindle, zki_X11, by decide +kernel, by decide +kernel, by decide⟩
theorem zmw_X12_spindle : zMW zmX12_spindle 0 := ⟨zkc_X12_spindle, zki_X12, by decide +kernel, by decide +kernel, by decide⟩
theorem zmw_X11_bowl : zMW zmX11_bowl 2 := ⟨zkc_X11_bowl, zki_X11, by decide +kernel, by decide +kernel, by decide⟩
theorem zmw_X12_bowl : zMW zmX12_bowl 2 := ⟨zkc_X12_bowl, zki_X12, by decide +kernel, by decide +kernel, by decide⟩
theorem zmw_X11_note : zMW zmX11_note 5 := ⟨zkc_X11_note, zki_X11, by decide +kernel, by decide +kernel, by decide⟩
theorem zmw_X12_note : zMW zmX12_note 5 := ⟨zkc_X12_note, zki_X12, by decide +kernel, by decide +kernel, by decide⟩
theorem zmw_X11_drop : zMW zmX11_drop 0 := ⟨zkc_X11_drop, zki_X11, by decide +kernel, by decide +kernel, by decide⟩
theorem zmw_X12_drop : zMW zmX12_drop 0 := ⟨zkc_X12_drop, zki_X12, by decide +kernel, by decide +kernel, by decide⟩
theorem zmw_X11_finger : zMW zmX11_finger 2 := ⟨zkc_X11_finger, zki_X11, by decide +kernel, by decide +kernel, by decide⟩
theorem zmw_X12_finger : zMW zmX12_finger 2 := ⟨zkc_X12_finger, zki_X12, by decide +kernel, by decide +kernel, by decide⟩
theorem zmw_X11_noteOf : zMW zmX11_noteOf 2 := ⟨zkc_X11_noteOf, zki_X11, by decide +kernel, by decide +kernel, by decide⟩
theorem zmw_X12_noteOf : zMW zmX12_noteOf 2 := ⟨zkc_X12_noteOf, zki_X12, by decide +kernel, by decide +kernel, by decide⟩
theorem zmw_X11_touched : zMW zmX11_touched 2 := ⟨zkc_X11_touched, zki_X11, by decide +kernel, by decide +kernel, by decide⟩
theorem zmw_X12_touched : zMW zmX12_touched 2 := ⟨zkc_X12_touched, zki_X12, by decide +kernel, by decide +kernel, by decide⟩
theorem zmw_X11_warmth : zMW zmX11_warmth 2 := ⟨zkc_X11_warmth, zki_X11, by decide +kernel, by decide +kernel, by decide⟩
theorem zmw_X12_warmth : zMW zmX12_warmth 2 := ⟨zkc_X12_warmth, zki_X12, by decide +kernel, by decide +kernel, by decide⟩
theorem zmw_X11_cracked : zMW zmX11_cracked 1 := ⟨zkc_X11_cracked, zki_X11, by decide +kernel, by decide +kernel, by decide⟩
theorem zmw_X12_cracked : zMW zmX12_cracked 1 := ⟨zkc_X12_cracked, zki_X12, by decide +kernel, by decide +kernel, by decide⟩
theorem zmw_X12_why : zMW zmX12_why 2 := ⟨zkc_X12_why, zki_X12, by decide +kernel, by decide +kernel, by decide⟩
theorem zmw_X12_thrown : zMW zmX12_thrown 0 := ⟨zkc_X12_thrown, zki_X12, by decide +kernel, by decide +kernel, by decide⟩
theorem zmw_X11_speaks : zMW zmX11_speaks 1 := ⟨zkc_X11_speaks, zki_X11, by decide +kernel, by decide +kernel, by decide⟩
theorem zmw_X12_speaks : zMW zmX12_speaks 1 := ⟨zkc_X12_speaks, zki_X12, by decide +kernel, by decide +kernel, by decide⟩
theorem zmw_X11_sounds : zMW zmX11_sounds 1 := ⟨zkc_X11_sounds, zki_X11, by decide +kernel, by decide +kernel, by decide⟩
theorem zmw_X12_sounds : zMW zmX12_sounds 1 := ⟨zkc_X12_sounds, zki_X12, by decide +kernel, by decide +kernel, by decide⟩
theorem zmw_X11_along : zMW zmX11_along 1 := ⟨zkc_X11_along, zki_X11, by decide +kernel, by decide +kernel, by decide⟩
theorem zmw_X12_along : zMW zmX12_along 1 := ⟨zkc_X12_along, zki_X12, by decide +kernel, by decide +kernel, by decide⟩
theorem zmw_X11_silence : zMW zmX11_silence 2 := ⟨zkc_X11_silence, zki_X11, by decide +kernel, by decide +kernel, by decide⟩
theorem zmw_X12_silence : zMW zmX12_silence 2 := ⟨zkc_X12_silence, zki_X12, by decide +kernel, by decide +kernel, by decide⟩
theorem zmw_X11_best : zMW zmX11_best 1 := ⟨zkc_X11_best, zki_X11, by decide +kernel, by decide +kernel, by decide⟩
theorem zmw_X12_best : zMW zmX12_best 1 := ⟨zkc_X12_best, zki_X12, by decide +kernel, by decide +kernel, by decide⟩
theorem zmw_X11_atTreadle : zMW zmX11_atTreadle 1 := ⟨zkc_X11_atTreadle, zki_X11, by decide +kernel, by decide +kernel, by decide⟩
theorem zmw_X12_atTreadle : zMW zmX12_atTreadle 1 := ⟨zkc_X12_atTreadle, zki_X12, by decide +kernel, by decide +kernel, by decide⟩
theorem zmw_X11_wrong : zMW zmX11_wrong 1 := ⟨zkc_X11_wrong, zki_X11, by decide +kernel, by decide +kernel, by decide⟩
theorem zmw_X12_wrong : zMW zmX12_wrong 1 := ⟨zkc_X12_wrong, zki_X12, by decide +kernel, by decide +kernel, by decide⟩
theorem zmw_X11_judged : zMW zmX11_judged 0 := ⟨zkc_X11_judged, zki_X11, by decide +kernel, by decide +kernel, by decide⟩
theorem zmw_X12_judged : zMW zmX12_judged 0 := ⟨zkc_X12_judged, zki_X12, by decide +kernel, by decide +kernel, by decide⟩
theorem zmw_X11_lifts : zMW zmX11_lifts 0 := ⟨zkc_X11_lifts, zki_X11, by decide +kernel, by decide +kernel, by decide⟩
theorem zmw_X12_lifts : zMW zmX12_lifts 0 := ⟨zkc_X12_lifts, zki_X12, by decide +kernel, by decide +kernel, by decide⟩
theorem zmw_X11_fewest : zMW zmX11_fewest 0 := ⟨zkc_X11_fewest, zki_X11, by decide +kernel, by decide +kernel, by decide⟩
theorem zmw_X12_fewest : zMW zmX12_fewest 0 := ⟨zkc_X12_fewest, zki_X12, by decide +kernel, by decide +kernel, by decide⟩
theorem zmw_X11_fingered : zMW zmX11_fingered 1 := ⟨zkc_X11_fingered, zki_X11, by decide +kernel, by decide +kernel, by decide⟩
theorem zmw_X12_fingered : zMW zmX12_fingered 1 := ⟨zkc_X12_fingered, zki_X12, by decide +kernel, by decide +kernel, by decide⟩
theorem zmw_X11_far : zMW zmX11_far 0 := ⟨zkc_X11_far, zki_X11, by decide +kernel, by decide +kernel, by decide⟩
theorem zmw_X12_far : zMW zmX12_far 0 := ⟨zkc_X12_far, zki_X12, by decide +kernel, by decide +kernel, by decide⟩
theorem zmw_X11_beating : zMW zmX11_beating 1 := ⟨zkc_X11_beating, zki_X11, by decide +kernel, by decide +kernel, by decide⟩
theorem zmw_X12_beating : zMW zmX12_beating 1 := ⟨zkc_X12_beating, zki_X12, by decide +kernel, by decide +kernel, by decide⟩
theorem zmw_X11_within : zMW zmX11_within 0 := ⟨zkc_X11_within, zki_X11, by decide +kernel, by decide +kernel, by decide⟩
theorem zmw_X12_within : zMW zmX12_within 0 := ⟨zkc_X12_within, zki_X12, by decide +kernel, by decide +kernel, by decide⟩
theorem zmw_X11_ground : zMW zmX11_ground 0 := ⟨zkc_X11_ground, zki_X11, by decide +kernel, by decide +kernel, by decide⟩
theorem zmw_X12_ground : zMW zmX12_ground 0 := ⟨zkc_X12_ground, zki_X12, by decide +kernel, by decide +kernel, by decide⟩
theorem zmw_X12_groundOf : zMW zmX12_groundOf 1 := ⟨zkc_X12_groundOf, zki_X12, by decide +kernel, by decide +kernel, by decide⟩
theorem zmw_X11_spare : zMW zmX11_spare 1 := ⟨zkc_X11_spare, zki_X11, by decide +kernel, by decide +kernel, by decide⟩
theorem zmw_X12_spare : zMW zmX12_spare 1 := ⟨zkc_X12_spare, zki_X12, by decide +kernel, by decide +kernel, by decide⟩
theorem zmw_X11_exchange : zMW zmX11_exchange 2 := ⟨zkc_X11_exchange, zki_X11, by decide +kernel, by decide +kernel, by decide⟩
theorem zmw_X12_exchange : zMW zmX12_exchange 2 := ⟨zkc_X12_exchange, zki_X12, by decide +kernel, by decide +kernel, by decide⟩
theorem zmw_X11_moved : zMW zmX11_moved 0 := ⟨zkc_X11_moved, zki_X11, by decide +kernel, by decide +kernel, by decide⟩
theorem zmw_X12_moved : zMW zmX12_moved 0 := ⟨zkc_X12_moved, zki_X12, by decide +kernel, by decide +kernel, by decide⟩
theorem zmw_X11_order : zMW zmX11_order 0 := ⟨zkc_X11_order, zki_X11, by decide +kernel, by decide +kernel, by decide⟩
theorem zmw_X12_order : zMW zmX12_order 0 := ⟨zkc_X12_order, zki_X12, by decide +kernel, by decide +kernel, by decide⟩
theorem zmw_X11_ordered : zMW zmX11_ordered 1 := ⟨zkc_X11_ordered, zki_X11, by decide +kernel, by decide +kernel, by decide⟩
theorem zmw_X12_ordered : zMW zmX12_ordered 1 := ⟨zkc_X12_ordered, zki_X12, by decide +kernel, by decide +kernel, by decide⟩
theorem zmw_X12_mark : zMW zmX12_mark 2 := ⟨zkc_X12_mark, zki_X12, by decide +kernel, by decide +kernel, by decide⟩
theorem zmw_X11_count : zMW zmX11_count 1 := ⟨zkc_X11_count, zki_X11, by decide +kernel, by decide +kernel, by decide⟩
theorem zmw_X12_count : zMW zmX12_count 1 := ⟨zkc_X12_count, zki_X12, by decide +kernel, by decide +kernel, by decide⟩
theorem zc_L_25 : zCV RL 25 zmX11_feed 3 := ⟨zkm_L_25, zkn_X11_feed, zks_X11_feed, zmw_X11_feed⟩
theorem zc_L_29 : zCV RL 29 zmX12_feed 3 := ⟨zkm_L_29, zkn_X12_feed, zks_X12_feed, zmw_X12_feed⟩
theorem zc_L_30 : zCV RL 30 zmX11_spindle 0 := ⟨zkm_L_30, zkn_X11_spindle, zks_X11_spindle, zmw_X11_spindle⟩
theorem zc_L_34 : zCV RL 34 zmX12_spindle 0 := ⟨zkm_L_34, zkn_X12_spindle, zks_X12_spindle, zmw_X12_spindle⟩
theorem zc_L_35 : zCV RL 35 zmX11_bowl 2 := ⟨zkm_L_35, zkn_X11_bowl, zks_X11_bowl, zmw_X11_bowl⟩
theorem zc_L_38 : zCV RL 38 zmX12_bowl 2 := ⟨zkm_L_38, zkn_X12_bowl, zks_X12_bowl, zmw_X12_bowl⟩
theorem zc_L_39 : zCV RL 39 zmX11_note 5 := ⟨zkm_L_39, zkn_X11_note, zks_X11_note, zmw_X11_note⟩
theorem zc_L_43 : zCV RL 43 zmX12_note 5 := ⟨zkm_L_43, zkn_X12_note, zks_X12_note, zmw_X12_note⟩
theorem zc_L_44 : zCV RL 44 zmX11_drop 0 := ⟨zkm_L_44, zkn_X11_drop, zks_X11_drop, zmw_X11_drop⟩
theorem zc_L_48 : zCV RL 48 zmX12_drop 0 := ⟨zkm_L_48, zkn_X12_drop, zks_X12_drop, zmw_X12_drop⟩
theorem zc_L_49 : zCV RL 49 zmX11_finger 2 := ⟨zkm_L_49, zkn_X11_finger, zks_X11_finger, zmw_X11_finger⟩
theorem zc_L_53 : zCV RL 53 zmX12_finger 2 := ⟨zkm_L_53, zkn_X12_finger, zks_X12_finger, zmw_X12_finger⟩
theorem zc_L_54 : zCV RL 54 zmX11_noteOf 2 := ⟨zkm_L_54, zkn_X11_noteOf, zks_X11_noteOf, zmw_X11_noteOf⟩
theorem zc_L_57 : zCV RL 57 zmX12_noteOf 2 := ⟨zkm_L_57, zkn_X12_noteOf, zks_X12_noteOf, zmw_X12_noteOf⟩
theorem zc_L_58 : zCV RL 58 zmX11_touched 2 := ⟨zkm_L_58, zkn_X11_touched, zks_X11_touched, zmw_X11_touched⟩
theorem zc_L_61 : zCV RL 61 zmX12_touched 2 := ⟨zkm_L_61, zkn_X12_touched, zks_X12_touched, zmw_X12_touched⟩
theorem zc_L_62 : zCV RL 62 zmX11_warmth 2 := ⟨zkm_L_62, zkn_X11_warmth, zks_X11_warmth, zmw_X11_warmth⟩
theorem zc_L_65 : zCV RL 65 zmX12_warmth 2 := ⟨zkm_L_65, zkn_X12_warmth, zks_X12_warmth, zmw_X12_warmth⟩
theorem zc_L_66 : zCV RL 66 zmX11_cracked 1 := ⟨zkm_L_66, zkn_X11_cracked, zks_X11_cracked, zmw_X11_cracked⟩
theorem zc_L_69 : zCV RL 69 zmX12_cracked 1 := ⟨zkm_L_69, zkn_X12_cracked, zks_X12_cracked, zmw_X12_cracked⟩
theorem zc_L_75 : zCV RL 75 zmX12_why 2 := ⟨zkm_L_75, zkn_X12_why, zks_X12_why, zmw_X12_why⟩
theorem zc_L_76 : zCV RL 76 zmX12_thrown 0 := ⟨zkm_L_76, zkn_X12_thrown, zks_X12_thrown, zmw_X12_thrown⟩
theorem zc_L_79 : zCV RL 79 zmX11_speaks 1 := ⟨zkm_L_79, zkn_X11_speaks, zks_X11_speaks, zmw_X11_speaks⟩
theorem zc_L_82 : zCV RL 82 zmX12_speaks 1 := ⟨zkm_L_82, zkn_X12_speaks, zks_X12_speaks, zmw_X12_speaks⟩
theorem zc_L_83 : zCV RL 83 zmX11_sounds 1 := ⟨zkm_L_83, zkn_X11_sounds, zks_X11_sounds, zmw_X11_sounds⟩
theorem zc_L_86 : zCV RL 86 zmX12_sounds 1 := ⟨zkm_L_86, zkn_X12_sounds, zks_X12_sounds, zmw_X12_sounds⟩
theorem zc_L_87 : zCV RL 87 zmX11_along 1 := ⟨zkm_L_87, zkn_X11_along, zks_X11_along, zmw_X11_along⟩
theorem zc_L_90 : zCV RL 90 zmX12_along 1 := ⟨zkm_L_90, zkn_X12_along, zks_X12_along, zmw_X12_along⟩
theorem zc_L_91 : zCV RL 91 zmX11_silence 2 := ⟨zkm_L_91, zkn_X11_silence, zks_X11_silence, zmw_X11_silence⟩
theorem zc_L_94 : zCV RL 94 zmX12_silence 2 := ⟨zkm_L_94, zkn_X12_silence, zks_X12_silence, zmw_X12_silence⟩
theorem zc_L_95 : zCV RL 95 zmX11_best 1 := ⟨zkm_L_95, zkn_X11_best, zks_X11_best, zmw_X11_best⟩
theorem zc_L_98 : zCV RL 98 zmX12_best 1 := ⟨zkm_L_98, zkn_X12_best, zks_X12_best, zmw_X12_best⟩
theorem zc_L_99 : zCV RL 99 zmX11_atTreadle 1 := ⟨zkm_L_99, zkn_X11_atTreadle, zks_X11_atTreadle, zmw_X11_atTreadle⟩
theorem zc_L_102 : zCV RL 102 zmX12_atTreadle 1 := ⟨zkm_L_102, zkn_X12_atTreadle, zks_X12_atTreadle, zmw_X12_atTreadle⟩
theorem zc_L_103 : zCV RL 103 zmX11_wrong 1 := ⟨zkm_L_103, zkn_X11_wrong, zks_X11_wrong, zmw_X11_wrong⟩
theorem zc_L_106 : zCV RL 106 zmX12_wrong 1 := ⟨zkm_L_106, zkn_X12_wrong, zks_X12_wrong, zmw_X12_wrong⟩
theorem zc_L_107 : zCV RL 107 zmX11_judged 0 := ⟨zkm_L_107, zkn_X11_judged, zks_X11_judged, zmw_X11_judged⟩
theorem zc_L_110 : zCV RL 110 zmX12_judged 0 := ⟨zkm_L_110, zkn_X12_judged, zks_X12_judged, zmw_X12_judged⟩
theorem zc_L_111 : zCV RL 111 zmX11_lifts 0 := ⟨zkm_L_111, zkn_X11_lifts, zks_X11_lifts, zmw_X11_lifts⟩
theorem zc_L_114 : zCV RL 114 zmX12_lifts 0 := ⟨zkm_L_114, zkn_X12_lifts, zks_X12_lifts, zmw_X12_lifts⟩
theorem zc_L_115 : zCV RL 115 zmX11_fewest 0 := ⟨zkm_L_115, zkn_X11_fewest, zks_X11_fewest, zmw_X11_fewest⟩
theorem zc_L_118 : zCV RL 118 zmX12_fewest 0 := ⟨zkm_L_118, zkn_X12_fewest, zks_X12_fewest, zmw_X12_fewest⟩
theorem zc_L_119 : zCV RL 119 zmX11_fingered 1 := ⟨zkm_L_119, zkn_X11_fingered, zks_X11_fingered, zmw_X11_fingered⟩
theorem zc_L_122 : zCV RL 122 zmX12_fingered 1 := ⟨zkm_L_122, zkn_X12_fingered, zks_X12_fingered, zmw_X12_fingered⟩
theorem zc_L_123 : zCV RL 123 zmX11_far 0 := ⟨zkm_L_123, zkn_X11_far, zks_X11_far, zmw_X11_far⟩
theorem zc_L_126 : zCV RL 126 zmX12_far 0 := ⟨zkm_L_126, zkn_X12_far, zks_X12_far, zmw_X12_far⟩
theorem zc_L_127 : zCV RL 127 zmX11_beating 1 := ⟨zkm_L_127, zkn_X11_beating, zks_X11_beating, zmw_X11_beating⟩
theorem zc_L_130 : zCV RL 130 zmX12_beating 1 := ⟨zkm_L_130, zkn_X12_beating, zks_X12_beating, zmw_X12_beating⟩
theorem zc_L_131 : zCV RL 131 zmX11_within 0 := ⟨zkm_L_131, zkn_X11_within, zks_X11_within, zmw_X11_within⟩
theorem zc_L_134 : zCV RL 134 zmX12_within 0 := ⟨zkm_L_134, zkn_X12_within, zks_X12_within, zmw_X12_within⟩
theorem zc_L_135 : zCV RL 135 zmX11_ground 0 := ⟨zkm_L_135, zkn_X11_ground, zks_X11_ground, zmw_X11_ground⟩
theorem zc_L_138 : zCV RL 138 zmX12_ground 0 := ⟨zkm_L_138, zkn_X12_ground, zks_X12_ground, zmw_X12_ground⟩
theorem zc_L_142 : zCV RL 142 zmX12_groundOf 1 := ⟨zkm_L_142, zkn_X12_groundOf, zks_X12_groundOf, zmw_X12_groundOf⟩
theorem zc_L_143 : zCV RL 143 zmX11_spare 1 := ⟨zkm_L_143, zkn_X11_spare, zks_X11_spare, zmw_X11_spare⟩
theorem zc_L_146 : zCV RL 146 zmX12_spare 1 := ⟨zkm_L_146, zkn_X12_spare, zks_X12_spare, zmw_X12_spare⟩
theorem zc_L_147 : zCV RL 147 zmX11_exchange 2 := ⟨zkm_L_147, zkn_X11_exchange, zks_X11_exchange, zmw_X11_exchange⟩
theorem zc_L_150 : zCV RL 150 zmX12_exchange 2 := ⟨zkm_L_150, zkn_X12_exchange, zks_X12_exchange, zmw_X12_exchange⟩
theorem zc_L_151 : zCV RL 151 zmX11_moved 0 := ⟨zkm_L_151, zkn_X11_moved, zks_X11_moved, zmw_X11_moved⟩
theorem zc_L_154 : zCV RL 154 zmX12_moved 0 := ⟨zkm_L_154, zkn_X12_moved, zks_X12_moved, zmw_X12_moved⟩
theorem zc_L_155 : zCV RL 155 zmX11_order 0 := ⟨zkm_L_155, zkn_X11_order, zks_X11_order, zmw_X11_order⟩
theorem zc_L_158 : zCV RL 158 zmX12_order 0 := ⟨zkm_L_158, zkn_X12_order, zks_X12_order, zmw_X12_order⟩
theorem zc_L_159 : zCV RL 159 zmX11_ordered 1 := ⟨zkm_L_159, zkn_X11_ordered, zks_X11_ordered, zmw_X11_ordered⟩
theorem zc_L_162 : zCV RL 162 zmX12_ordered 1 := ⟨zkm_L_162, zkn_X12_ordered, zks_X12_ordered, zmw_X12_ordered⟩
theorem zc_L_163 : zCV RL 163 zmX11_mark 2 := ⟨zkm_L_163, zkn_X11_mark, zks_X11_mark, zmw_X11_mark⟩
theorem zc_L_167 : zCV RL 167 zmX12_mark 2 := ⟨zkm_L_167, zkn_X12_mark, zks_X12_mark, zmw_X12_mark⟩
theorem zc_L_168 : zCV RL 168 zmX11_count 1 := ⟨zkm_L_168, zkn_X11_count, zks_X11_count, zmw_X11_count⟩
theorem zc_L_171 : zCV RL 171 zmX12_count 1 := ⟨zkm_L_171, zkn_X12_count, zks_X12_count, zmw_X12_count⟩
abbrev zmL (nm : String) : zMI := (⟨RL, nm, "([I)Z"⟩, cL_law, 7, some .boolean)
/-- what holds between two calls -/
def zLaw (L : Nat) (Z : zZ) (M : zMem) : Prop := zB Z ∧ Z 1003 = some (.inr (0, L)) ∧ (∃ Pk : zMem, Inv Pk M) ∧ zMz Z M
abbrev zll (i : Int) : List (Nat × zAV) := [(4, zI i), (3, zR 300), (2, zR 200), (1, zR 0), (0, zR 1003)]
theorem zMz.pk {Pk M N : zMem} {Z : zZ} (h : zMz Z M) (hI : Inv Pk M) (hJ : Inv Pk N) : zMz Z N := h.same fun q => by rw [(r_pk hJ q).1, (r_pk hI q).1]
theorem zAl_p {Pk M : zMem} {o : Option Int} {g : zMem → Option (Int × zMem)} (h : zAlike Pk (zbd o fun r => some (r, M)) g) : zSat o (fun r => zSat (g M) (fun e' => e'.1 = r ∧ Inv Pk e'.2)) := zS_bd.mp h
section LC
variable {Ex : zEx} {nm : String} {kc ks sb sL : Nat} {sx : Nat → Int32} {i : Int} {Q : Option zAV → zMem → zZ → Prop}
/-- the script is read -/
theorem zY_sld {y : zMI} {n : Nat} {Z : zZ} {pc : Nat} {ls : List (Nat × zAV)} {st : List zAV} {M : zMem} {j : Int} (hz : Z 1003 = some (.inr (0, sL))) (hj : 0 ≤ j ∧ j < sL) (hd : decode y.2.1 pc = .ok (.iaload, 1)) (kk : zY (zXl sb sL sx) Ex y n kc ks Z (pc + 1) ls (zI (sx j.toNat).toInt :: st) M Q) : zY (zXl sb sL sx) Ex y n kc ks Z pc ls (zI j :: zR 1003 :: st) M Q := by
  intro p l e R s m args below meth c H locs cells slots A D ad la Qf E Wd S hl h1 h2 hr
  obtain ⟨-, -, -, -, -, -, -, -, -, -, -, -, -, -, -, x16, x17, x18, scr, c1, c2, c3, c4, c5⟩ := id E
  have e0 : M 1003 j = (sx j.toNat).toInt := by
    obtain ⟨⟨cell, g1, g2, g3, g4, g5, g6⟩, g7, g8⟩ := Wd.1 1003 _ hz (by decide)
    have b0 : ad 1003 = sb := x16
    rw [b0, S.2.1 sb x18 x17, c1] at g1
    cases g1
    have q1 := g6 j.toNat (by omega)
    have q2 := c5 j.toNat (by omega)
    have q3 := g8 j.toNat (by omega)
    rw [q2, show ((j.toNat : Nat) : Int) = j by omega] at q1
    rw [show ((j.toNat : Nat) : Int) = j by omega] at q3
    have q4 : Value.int (sx j.toNat) = Value.int (Int32.ofInt (M 1003 j)) := Option.some.inj q1
    injection q4 with q4
    rw [q4]
    exact (zw_id q3).symm
  exact zY_iald hz hj hd (fun _ => by rw [e0]; exact kk) p l e R s m args below meth c H locs cells slots A D ad la Qf E Wd S hl h1 h2 hr
theorem L_0 {Z : zZ} {M : zMem} (hi : 0 ≤ i ∧ i + 7 ≤ sL) (hL : zLaw sL Z M) (nx : ∀ (Z' : zZ) (M' : zMem), zLaw sL Z' M' → zY (zXl sb sL sx) Ex (zmL nm) 100 kc ks Z' 1278 (zll i) [] M' Q) : zY (zXl sb sL sx) Ex (zmL nm) 100 (kc + 20) (ks + 1260) Z 192 (zll i) [] M Q := by
  obtain ⟨hZ, hS, ⟨Pk, hI⟩, hM⟩ := hL
  refine zY_le (kc' := kc) (ks' := ks) (by omega) (by omega) ?_
  refine zY_aload_n 3 dL_law_192 rfl rfl ?_
  refine zY_aload_n 4 dL_law_193 rfl rfl ?_
  refine zY_iload 0 dL_law_194 rfl ?_
  refine zY_iconst (v := 1) dL_law_196 rfl ?_
  refine zY_iadd dL_law_197 ?_
  refine zY_sld hS ⟨by omega, by omega⟩ dL_law_198 ?_
  refine zY_i2l dL_law_199 (z32_i _) ?_
  refine zY_bipush (v := 32) dL_law_200 rfl ?_
  refine zY_lshl dL_law_202 ?_
  refine zY_aload_n 4 dL_law_203 rfl rfl ?_
  refine zY_iload 0 dL_law_204 rfl ?_
  refine zY_iconst (v := 2) dL_law_206 rfl ?_
  refine zY_iadd dL_law_207 ?_
  refine zY_sld hS ⟨by omega, by omega⟩ dL_law_208 ?_
  refine zY_i2l dL_law_209 (z32_i _) ?_
  refine zY_ldc2 (v := 4294967295) zkl_L_23 rfl dL_law_210 ?_
  refine zY_land dL_law_213 ?_
  refine zY_lor dL_law_214 ?_
  refine zY_aload_n 4 dL_law_215 rfl rfl ?_
  refine zY_iload 0 dL_law_216 rfl ?_
  refine zY_iconst (v := 3) dL_law_218 rfl ?_
  refine zY_iadd dL_law_219 ?_
  refine zY_sld hS ⟨by omega, by omega⟩ dL_law_220 ?_
  refine zY_i2l dL_law_221 (z32_i _) ?_
  refine zY_bipush (v := 32) dL_law_222 rfl ?_
  refine zY_lshl dL_law_224 ?_
  refine zY_aload_n 4 dL_law_225 rfl rfl ?_
  refine zY_iload 0 dL_law_226 rfl ?_
  refine zY_iconst (v := 4) dL_law_228 rfl ?_
  refine zY_iadd dL_law_229 ?_
  refine zY_sld hS ⟨by omega, by omega⟩ dL_law_230 ?_
  refine zY_i2l dL_law_231 (z32_i _) ?_
  refine zY_ldc2 (v := 4294967295) zkl_L_23 rfl dL_law_232 ?_
  refine zY_land dL_law_235 ?_
  refine zY_lor dL_law_236 ?_
  refine zY_aload_n 4 dL_law_237 rfl rfl ?_
  refine zY_iload 0 dL_law_238 rfl ?_
  refine zY_iconst (v := 5) dL_law_240 rfl ?_
  refine zY_iadd dL_law_241 ?_
  refine zY_sld hS ⟨by omega, by omega⟩ dL_law_242 ?_
  refine zY_i2l dL_law_243 (z32_i _) ?_
  refine zY_bipush (v := 32) dL_law_244 rfl ?_
  refine zY_lshl dL_law_246 ?_
  refine zY_aload_n 4 dL_law_247 rfl rfl ?_
  refine zY_iload 0 dL_law_248 rfl ?_
  refine zY_bipush (v := 6) dL_law_250 rfl ?_
  refine zY_iadd dL_law_252 ?_
  refine zY_sld hS ⟨by omega, by omega⟩ dL_law_253 ?_
  refine zY_i2l dL_law_254 (z32_i _) ?_
  refine zY_ldc2 (v := 4294967295) zkl_L_23 rfl dL_law_255 ?_
  refine zY_land dL_law_258 ?_
  refine zY_lor dL_law_259 ?_
  refine zY_callV (kc := kc) (ks := ks) (mc := 0) (ms := 0) (n' := 1) (As := [zL (zlor (zlshl (sx (i + 1).toNat).toInt 32) (zland (sx (i + 2).toNat).toInt 4294967295)), zL (zlor (zlshl (sx (i + 3).toNat).toInt 32) (zland (sx (i + 4).toNat).toInt 4294967295)), zL (zlor (zlshl (sx (i + 5).toNat).toInt 32) (zland (sx (i + 6).toNat).toInt 4294967295))]) (Q' := fun r M' Z' => Z = Z' ∧ ∃ b : Int, r = some (zI b) ∧ zSat (fX12_feed ((zlor (zlshl (sx (i + 1).toNat).toInt 32) (zland (sx (i + 2).toNat).toInt 4294967295))) ((zlor (zlshl (sx (i + 3).toNat).toInt 32) (zland (sx (i + 4).toNat).toInt 4294967295))) ((zlor (zlshl (sx (i + 5).toNat).toInt 32) (zland (sx (i + 6).toNat).toInt 4294967295))) M') (fun e' => e'.1 = b ∧ Inv Pk e'.2)) zc_L_25 (zq_0 hZ) rfl dL_law_260 (by decide) rfl (Nat.le_of_ble_eq_true rfl) (Nat.le_of_ble_eq_true rfl) rfl (fX11_feed_ok hZ (Nat.le_refl _) (z64_i _) (z64_i _) (z64_i _) (zs_m (c_feed hI) fun e he => ⟨rfl, e.1, rfl, he⟩)) ?_
  rintro r M1 Z' hc ⟨rfl, b, rfl, hb⟩
  refine zY_aload_n 2 dL_law_263 rfl rfl ?_
  refine zY_aload_n 4 dL_law_264 rfl rfl ?_
  refine zY_iload 0 dL_law_265 rfl ?_
  refine zY_iconst (v := 1) dL_law_267 rfl ?_
  refine zY_iadd dL_law_268 ?_
  refine zY_sld hS ⟨by omega, by omega⟩ dL_law_269 ?_
  refine zY_i2l dL_law_270 (z32_i _) ?_
  refine zY_bipush (v := 32) dL_law_271 rfl ?_
  refine zY_lshl dL_law_273 ?_
  refine zY_aload_n 4 dL_law_274 rfl rfl ?_
  refine zY_iload 0 dL_law_275 rfl ?_
  refine zY_iconst (v := 2) dL_law_277 rfl ?_
  refine zY_iadd dL_law_278 ?_
  refine zY_sld hS ⟨by omega, by omega⟩ dL_law_279 ?_
  refine zY_i2l dL_law_280 (z32_i _) ?_
  refine zY_ldc2 (v := 4294967295) zkl_L_23 rfl dL_law_281 ?_
  refine zY_land dL_law_284 ?_
  refine zY_lor dL_law_285 ?_
  refine zY_aload_n 4 dL_law_286 rfl rfl ?_
  refine zY_iload 0 dL_law_287 rfl ?_
  refine zY_iconst (v := 3) dL_law_289 rfl ?_
  refine zY_iadd dL_law_290 ?_
  refine zY_sld hS ⟨by omega, by omega⟩ dL_law_291 ?_
  refine zY_i2l dL_law_292 (z32_i _) ?_
  refine zY_bipush (v := 32) dL_law_293 rfl ?_
  refine zY_lshl dL_law_295 ?_
  refine zY_aload_n 4 dL_law_296 rfl rfl ?_
  refine zY_iload 0 dL_law_297 rfl ?_
  refine zY_iconst (v := 4) dL_law_299 rfl ?_
  refine zY_iadd dL_law_300 ?_
  refine zY_sld hS ⟨by omega, by omega⟩ dL_law_301 ?_
  refine zY_i2l dL_law_302 (z32_i _) ?_
  refine zY_ldc2 (v := 4294967295) zkl_L_23 rfl dL_law_303 ?_
  refine zY_land dL_law_306 ?_
  refine zY_lor dL_law_307 ?_
  refine zY_aload_n 4 dL_law_308 rfl rfl ?_
  refine zY_iload 0 dL_law_309 rfl ?_
  refine zY_iconst (v := 5) dL_law_311 rfl ?_
  refine zY_iadd dL_law_312 ?_
  refine zY_sld hS ⟨by omega, by omega⟩ dL_law_313 ?_
  refine zY_i2l dL_law_314 (z32_i _) ?_
  refine zY_bipush (v := 32) dL_law_315 rfl ?_
  refine zY_lshl dL_law_317 ?_
  refine zY_aload_n 4 dL_law_318 rfl rfl ?_
  refine zY_iload 0 dL_law_319 rfl ?_
  refine zY_bipush (v := 6) dL_law_321 rfl ?_
  refine zY_iadd dL_law_323 ?_
  refine zY_sld hS ⟨by omega, by omega⟩ dL_law_324 ?_
  refine zY_i2l dL_law_325 (z32_i _) ?_
  refine zY_ldc2 (v := 4294967295) zkl_L_23 rfl dL_law_326 ?_
  refine zY_land dL_law_329 ?_
  refine zY_lor dL_law_330 ?_
  refine zY_callV (kc := kc) (ks := ks) (mc := 0) (ms := 0) (n' := 0) (As := [zL (zlor (zlshl (sx (i + 1).toNat).toInt 32) (zland (sx (i + 2).toNat).toInt 4294967295)), zL (zlor (zlshl (sx (i + 3).toNat).toInt 32) (zland (sx (i + 4).toNat).toInt 4294967295)), zL (zlor (zlshl (sx (i + 5).toNat).toInt 32) (zland (sx (i + 6).toNat).toInt 4294967295))]) (Q' := fun r M' Z' => Z = Z' ∧ r = some (zI b) ∧ Inv Pk M') zc_L_29 (zq_200 hZ) rfl dL_law_331 (by decide) rfl (Nat.le_of_ble_eq_true rfl) (Nat.le_of_ble_eq_true rfl) rfl (fX12_feed_ok hZ (Nat.le_refl _) (z64_i _) (z64_i _) (z64_i _) (zs_m hb fun e he => ⟨rfl, by rw [he.1], he.2⟩)) ?_
  rintro r M2 Z' hc2 ⟨rfl, rfl, hI2⟩
  exact zY_icmp_eq 1278 dL_law_334 (by decide) hc2.1 hc2.1 (fun _ => nx _ _ ⟨hZ, hS, ⟨Pk, hI2⟩, hM.pk hI hI2⟩) (fun c => absurd rfl c)
theorem L_1 {Z : zZ} {M : zMem} (hi : 0 ≤ i ∧ i + 7 ≤ sL) (hL : zLaw sL Z M) (nx : ∀ (Z' : zZ) (M' : zMem), zLaw sL Z' M' → zY (zXl sb sL sx) Ex (zmL nm) 100 kc ks Z' 1278 (zll i) [] M' Q) : zY (zXl sb sL sx) Ex (zmL nm) 100 (kc + 20) (ks + 1260) Z 339 (zll i) [] M Q := by
  obtain ⟨hZ, hS, ⟨Pk, hI⟩, hM⟩ := hL
  refine zY_le (kc' := kc) (ks' := ks) (by omega) (by omega) ?_
  refine zY_aload_n 3 dL_law_339 rfl rfl ?_
  refine zY_callV (kc := kc) (ks := ks) (mc := 0) (ms := 0) (n' := 89) (As := []) (Q' := fun r M' Z' => Z = Z' ∧ ∃ b : Int, r = some (zI b) ∧ zSat (fX12_spindle M') (fun e' => e'.1 = b ∧ Inv Pk e'.2)) zc_L_30 (zq_0 hZ) rfl dL_law_340 (by decide) rfl (Nat.le_of_ble_eq_true rfl) (Nat.le_of_ble_eq_true rfl) rfl (fX11_spindle_ok hZ (Nat.le_refl _)  (zs_m (c_spindle hI) fun e he => ⟨rfl, e.1, rfl, he⟩)) ?_
  rintro r M1 Z' hc ⟨rfl, b, rfl, hb⟩
  refine zY_aload_n 2 dL_law_343 rfl rfl ?_
  refine zY_callV (kc := kc) (ks := ks) (mc := 0) (ms := 0) (n' := 5) (As := []) (Q' := fun r M' Z' => Z = Z' ∧ r = some (zI b) ∧ Inv Pk M') zc_L_34 (zq_200 hZ) rfl dL_law_344 (by decide) rfl (Nat.le_of_ble_eq_true rfl) (Nat.le_of_ble_eq_true rfl) rfl (fX12_spindle_ok hZ (Nat.le_refl _)  (zs_m hb fun e he => ⟨rfl, by rw [he.1], he.2⟩)) ?_
  rintro r M2 Z' hc2 ⟨rfl, rfl, hI2⟩
  exact zY_icmp_eq 1278 dL_law_347 (by decide) hc2.1 hc2.1 (fun _ => nx _ _ ⟨hZ, hS, ⟨Pk, hI2⟩, hM.pk hI hI2⟩) (fun c => absurd rfl c)
theorem L_2 {Z : zZ} {M : zMem} (hi : 0 ≤ i ∧ i + 7 ≤ sL) (hL : zLaw sL Z M) (nx : ∀ (Z' : zZ) (M' : zMem), zLaw sL Z' M' → zY (zXl sb sL sx) Ex (zmL nm) 100 kc ks Z' 1278 (zll i) [] M' Q) : zY (zXl sb sL sx) Ex (zmL nm) 100 (kc + 20) (ks + 1260) Z 352 (zll i) [] M Q := by
  obtain ⟨hZ, hS, ⟨Pk, hI⟩, hM⟩ := hL
  refine zY_le (kc' := kc) (ks' := ks) (by omega) (by omega) ?_
  refine zY_aload_n 3 dL_law_352 rfl rfl ?_
  refine zY_aload_n 4 dL_law_353 rfl rfl ?_
  refine zY_iload 0 dL_law_354 rfl ?_
  refine zY_iconst (v := 1) dL_law_356 rfl ?_
  refine zY_iadd dL_law_357 ?_
  refine zY_sld hS ⟨by omega, by omega⟩ dL_law_358 ?_
  refine zY_aload_n 4 dL_law_359 rfl rfl ?_
  refine zY_iload 0 dL_law_360 rfl ?_
  refine zY_iconst (v := 2) dL_law_362 rfl ?_
  refine zY_iadd dL_law_363 ?_
  refine zY_sld hS ⟨by omega, by omega⟩ dL_law_364 ?_
  refine zY_callV (kc := kc) (ks := ks) (mc := 0) (ms := 0) (n' := 1) (As := [zI (sx (i + 1).toNat).toInt, zI (sx (i + 2).toNat).toInt]) (Q' := fun r M' Z' => Z = Z' ∧ ∃ b : Int, r = some (zI b) ∧ zSat (fX12_bowl ((sx (i + 1).toNat).toInt) ((sx (i + 2).toNat).toInt) M') (fun e' => e'.1 = b ∧ Inv Pk e'.2)) zc_L_35 (zq_0 hZ) rfl dL_law_365 (by decide) rfl (Nat.le_of_ble_eq_true rfl) (Nat.le_of_ble_eq_true rfl) rfl (fX11_bowl_ok hZ (Nat.le_refl _) (z32_i _) (z32_i _) (zs_m (zAl_p (c_bowl hI)) fun e he => ⟨rfl, e, rfl, he⟩)) ?_
  rintro r M1 Z' hc ⟨rfl, b, rfl, hb⟩
  refine zY_aload_n 2 dL_law_368 rfl rfl ?_
  refine zY_aload_n 4 dL_law_369 rfl rfl ?_
  refine zY_iload 0 dL_law_370 rfl ?_
  refine zY_iconst (v := 1) dL_law_372 rfl ?_
  refine zY_iadd dL_law_373 ?_
  refine zY_sld hS ⟨by omega, by omega⟩ dL_law_374 ?_
  refine zY_aload_n 4 dL_law_375 rfl rfl ?_
  refine zY_iload 0 dL_law_376 rfl ?_
  refine zY_iconst (v := 2) dL_law_378 rfl ?_
  refine zY_iadd dL_law_379 ?_
  refine zY_sld hS ⟨by omega, by omega⟩ dL_law_380 ?_
  refine zY_callV (kc := kc) (ks := ks) (mc := 0) (ms := 0) (n' := 1) (As := [zI (sx (i + 1).toNat).toInt, zI (sx (i + 2).toNat).toInt]) (Q' := fun r M' Z' => Z = Z' ∧ r = some (zI b) ∧ Inv Pk M') zc_L_38 (zq_200 hZ) rfl dL_law_381 (by decide) rfl (Nat.le_of_ble_eq_true rfl) (Nat.le_of_ble_eq_true rfl) rfl (fX12_bowl_ok hZ (Nat.le_refl _) (z32_i _) (z32_i _) (zs_m hb fun e he => ⟨rfl, by rw [he.1], he.2⟩)) ?_
  rintro r M2 Z' hc2 ⟨rfl, rfl, hI2⟩
  exact zY_icmp_eq 1278 dL_law_384 (by decide) hc2.1 hc2.1 (fun _ => nx _ _ ⟨hZ, hS, ⟨Pk, hI2⟩, hM.pk hI hI2⟩) (fun c => absurd rfl c)
theorem L_3 {Z : zZ} {M : zMem} (hi : 0 ≤ i ∧ i + 7 ≤ sL) (hL : zLaw sL Z M) (nx : ∀ (Z' : zZ) (M' : zMem), zLaw sL Z' M' → zY (zXl sb sL sx) Ex (zmL nm) 100 kc ks Z' 1278 (zll i) [] M' Q) : zY (zXl sb sL sx) Ex (zmL nm) 100 (kc + 20) (ks + 1260) Z 389 (zll i) [] M Q := by
  obtain ⟨hZ, hS, ⟨Pk, hI⟩, hM⟩ := hL
  refine zY_le (kc' := kc) (ks' := ks) (by omega) (by omega) ?_
  refine zY_aload_n 3 dL_law_389 rfl rfl ?_
  refine zY_aload_n 4 dL_law_390 rfl rfl ?_
  refine zY_iload 0 dL_law_391 rfl ?_
  refine zY_iconst (v := 1) dL_law_393 rfl ?_
  refine zY_iadd dL_law_394 ?_
  refine zY_sld hS ⟨by omega, by omega⟩ dL_law_395 ?_
  refine zY_aload_n 4 dL_law_396 rfl rfl ?_
  refine zY_iload 0 dL_law_397 rfl ?_
  refine zY_iconst (v := 2) dL_law_399 rfl ?_
  refine zY_iadd dL_law_400 ?_
  refine zY_sld hS ⟨by omega, by omega⟩ dL_law_401 ?_
  refine zY_aload_n 4 dL_law_402 rfl rfl ?_
  refine zY_iload 0 dL_law_403 rfl ?_
  refine zY_iconst (v := 3) dL_law_405 rfl ?_
  refine zY_iadd dL_law_406 ?_
  refine zY_sld hS ⟨by omega, by omega⟩ dL_law_407 ?_
  refine zY_aload_n 4 dL_law_408 rfl rfl ?_
  refine zY_iload 0 dL_law_409 rfl ?_
  refine zY_iconst (v := 4) dL_law_411 rfl ?_
  refine zY_iadd dL_law_412 ?_
  refine zY_sld hS ⟨by omega, by omega⟩ dL_law_413 ?_
  refine zY_aload_n 4 dL_law_414 rfl rfl ?_
  refine zY_iload 0 dL_law_415 rfl ?_
  refine zY_iconst (v := 5) dL_law_417 rfl ?_
  refine zY_iadd dL_law_418 ?_
  refine zY_sld hS ⟨by omega, by omega⟩ dL_law_419 ?_
  refine zY_callV (kc := kc) (ks := ks) (mc := 0) (ms := 0) (n' := 2) (As := [zI (sx (i + 1).toNat).toInt, zI (sx (i + 2).toNat).toInt, zI (sx (i + 3).toNat).toInt, zI (sx (i + 4).toNat).toInt, zI (sx (i + 5).toNat).toInt]) (Q' := fun r M' Z' => Z = Z' ∧ ∃ b : Int, r = some (zI b) ∧ zSat (fX12_note ((sx (i + 1).toNat).toInt) ((sx (i + 2).toNat).toInt) ((sx (i + 3).toNat).toInt) ((sx (i + 4).toNat).toInt) ((sx (i + 5).toNat).toInt) M') (fun e' => e'.1 = b ∧ Inv Pk e'.2)) zc_L_39 (zq_0 hZ) rfl dL_law_420 (by decide) rfl (Nat.le_of_ble_eq_true rfl) (Nat.le_of_ble_eq_true rfl) rfl (fX11_note_ok hZ (Nat.le_refl _) (z32_i _) (z32_i _) (z32_i _) (z32_i _) (z32_i _) (zs_m (c_note hI (z32_i _) (z32_i _)) fun e he => ⟨rfl, e.1, rfl, he⟩)) ?_
  rintro r M1 Z' hc ⟨rfl, b, rfl, hb⟩
  refine zY_aload_n 2 dL_law_423 rfl rfl ?_
  refine zY_aload_n 4 dL_law_424 rfl rfl ?_
  refine zY_iload 0 dL_law_425 rfl ?_
  refine zY_iconst (v := 1) dL_law_427 rfl ?_
  refine zY_iadd dL_law_428 ?_
  refine zY_sld hS ⟨by omega, by omega⟩ dL_law_429 ?_
  refine zY_aload_n 4 dL_law_430 rfl rfl ?_
  refine zY_iload 0 dL_law_431 rfl ?_
  refine zY_iconst (v := 2) dL_law_433 rfl ?_
  refine zY_iadd dL_law_434 ?_
  refine zY_sld hS ⟨by omega, by omega⟩ dL_law_435 ?_
  refine zY_aload_n 4 dL_law_436 rfl rfl ?_
  refine zY_iload 0 dL_law_437 rfl ?_
  refine zY_iconst (v := 3) dL_law_439 rfl ?_
  refine zY_iadd dL_law_440 ?_
  refine zY_sld hS ⟨by omega, by omega⟩ dL_law_441 ?_
  refine zY_aload_n 4 dL_law_442 rfl rfl ?_
  refine zY_iload 0 dL_law_443 rfl ?_
  refine zY_iconst (v := 4) dL_law_445 rfl ?_
  refine zY_iadd dL_law_446 ?_
  refine zY_sld hS ⟨by omega, by omega⟩ dL_law_447 ?_
  refine zY_aload_n 4 dL_law_448 rfl rfl ?_
  refine zY_iload 0 dL_law_449 rfl ?_
  refine zY_iconst (v := 5) dL_law_451 rfl ?_
  refine zY_iadd dL_law_452 ?_
  refine zY_sld hS ⟨by omega, by omega⟩ dL_law_453 ?_
  refine zY_callV (kc := kc) (ks := ks) (mc := 0) (ms := 0) (n' := 2) (As := [zI (sx (i + 1).toNat).toInt, zI (sx (i + 2).toNat).toInt, zI (sx (i + 3).toNat).toInt, zI (sx (i + 4).toNat).toInt, zI (sx (i + 5).toNat).toInt]) (Q' := fun r M' Z' => Z = Z' ∧ r = some (zI b) ∧ Inv Pk M') zc_L_43 (zq_200 hZ) rfl dL_law_454 (by decide) rfl (Nat.le_of_ble_eq_true rfl) (Nat.le_of_ble_eq_true rfl) rfl (fX12_note_ok hZ (Nat.le_refl _) (z32_i _) (z32_i _) (z32_i _) (z32_i _) (z32_i _) (zs_m hb fun e he => ⟨rfl, by rw [he.1], he.2⟩)) ?_
  rintro r M2 Z' hc2 ⟨rfl, rfl, hI2⟩
  exact zY_icmp_eq 1278 dL_law_457 (by decide) hc2.1 hc2.1 (fun _ => nx _ _ ⟨hZ, hS, ⟨Pk, hI2⟩, hM.pk hI hI2⟩) (fun c => absurd rfl c)
theorem L_4 {Z : zZ} {M : zMem} (hi : 0 ≤ i ∧ i + 7 ≤ sL) (hL : zLaw sL Z M) (nx : ∀ (Z' : zZ) (M' : zMem), zLaw sL Z' M' → zY (zXl sb sL sx) Ex (zmL nm) 100 kc ks Z' 1278 (zll i) [] M' Q) : zY (zXl sb sL sx) Ex (zmL nm) 100 (kc + 20) (ks + 1260) Z 462 (zll i) [] M Q := by
  obtain ⟨hZ, hS, ⟨Pk, hI⟩, hM⟩ := hL
  refine zY_le (kc' := kc) (ks' := ks) (by omega) (by omega) ?_
  refine zY_aload_n 3 dL_law_462 rfl rfl ?_
  refine zY_callV (kc := kc) (ks := ks) (mc := 0) (ms := 0) (n' := 1) (As := []) (Q' := fun r M' Z' => Z = Z' ∧ ∃ b : Int, r = some (zI b) ∧ zSat (fX12_drop M') (fun e' => e'.1 = b ∧ Inv Pk e'.2)) zc_L_44 (zq_0 hZ) rfl dL_law_463 (by decide) rfl (Nat.le_of_ble_eq_true rfl) (Nat.le_of_ble_eq_true rfl) rfl (fX11_drop_ok hZ (Nat.le_refl _)  (zs_m (c_drop hI) fun e he => ⟨rfl, e.1, rfl, he⟩)) ?_
  rintro r M1 Z' hc ⟨rfl, b, rfl, hb⟩
  refine zY_aload_n 2 dL_law_466 rfl rfl ?_
  refine zY_callV (kc := kc) (ks := ks) (mc := 0) (ms := 0) (n' := 0) (As := []) (Q' := fun r M' Z' => Z = Z' ∧ r = some (zI b) ∧ Inv Pk M') zc_L_48 (zq_200 hZ) rfl dL_law_467 (by decide) rfl (Nat.le_of_ble_eq_true rfl) (Nat.le_of_ble_eq_true rfl) rfl (fX12_drop_ok hZ (Nat.le_refl _)  (zs_m hb fun e he => ⟨rfl, by rw [he.1], he.2⟩)) ?_
  rintro r M2 Z' hc2 ⟨rfl, rfl, hI2⟩
  exact zY_icmp_eq 1278 dL_law_470 (by decide) hc2.1 hc2.1 (fun _ => nx _ _ ⟨hZ, hS, ⟨Pk, hI2⟩, hM.pk hI hI2⟩) (fun c => absurd rfl c)
theorem L_5 {Z : zZ} {M : zMem} (hi : 0 ≤ i ∧ i + 7 ≤ sL) (hL : zLaw sL Z M) (nx : ∀ (Z' : zZ) (M' : zMem), zLaw sL Z' M' → zY (zXl sb sL sx) Ex (zmL nm) 100 kc ks Z' 1278 (zll i) [] M' Q) : zY (zXl sb sL sx) Ex (zmL nm) 100 (kc + 20) (ks + 1260) Z 475 (zll i) [] M Q := by
  obtain ⟨hZ, hS, ⟨Pk, hI⟩, hM⟩ := hL
  refine zY_le (kc' := kc) (ks' := ks) (by omega) (by omega) ?_
  refine zY_aload_n 3 dL_law_475 rfl rfl ?_
  refine zY_aload_n 4 dL_law_476 rfl rfl ?_
  refine zY_iload 0 dL_law_477 rfl ?_
  refine zY_iconst (v := 1) dL_law_479 rfl ?_
  refine zY_iadd dL_law_480 ?_
  refine zY_sld hS ⟨by omega, by omega⟩ dL_law_481 ?_
  refine zY_aload_n 4 dL_law_482 rfl rfl ?_
  refine zY_iload 0 dL_law_483 rfl ?_
  refine zY_iconst (v := 2) dL_law_485 rfl ?_
  refine zY_iadd dL_law_486 ?_
  refine zY_sld hS ⟨by omega, by omega⟩ dL_law_487 ?_
  refine zY_callV (kc := kc) (ks := ks) (mc := 0) (ms := 0) (n' := 1) (As := [zI (sx (i + 1).toNat).toInt, zI (sx (i + 2).toNat).toInt]) (Q' := fun r M' Z' => Z = Z' ∧ ∃ b : Int, r = some (zI b) ∧ zSat (fX12_finger ((sx (i + 1).toNat).toInt) ((sx (i + 2).toNat).toInt) M') (fun e' => e'.1 = b ∧ Inv Pk e'.2)) zc_L_49 (zq_0 hZ) rfl dL_law_488 (by decide) rfl (Nat.le_of_ble_eq_true rfl) (Nat.le_of_ble_eq_true rfl) rfl (fX11_finger_ok hZ (Nat.le_refl _) (z32_i _) (z32_i _) (zs_m (c_finger hI) fun e he => ⟨rfl, e.1, rfl, he⟩)) ?_
  rintro r M1 Z' hc ⟨rfl, b, rfl, hb⟩
  refine zY_aload_n 2 dL_law_491 rfl rfl ?_
  refine zY_aload_n 4 dL_law_492 rfl rfl ?_
  refine zY_iload 0 dL_law_493 rfl ?_
  refine zY_iconst (v := 1) dL_law_495 rfl ?_
  refine zY_iadd dL_law_496 ?_
  refine zY_sld hS ⟨by omega, by omega⟩ dL_law_497 ?_
  refine zY_aload_n 4 dL_law_498 rfl rfl ?_
  refine zY_iload 0 dL_law_499 rfl ?_
  refine zY_iconst (v := 2) dL_law_501 rfl ?_
  refine zY_iadd dL_law_502 ?_
  refine zY_sld hS ⟨by omega, by omega⟩ dL_law_503 ?_
  refine zY_callV (kc := kc) (ks := ks) (mc := 0) (ms := 0) (n' := 1) (As := [zI (sx (i + 1).toNat).toInt, zI (sx (i + 2).toNat).toInt]) (Q' := fun r M' Z' => Z = Z' ∧ r = some (zI b) ∧ Inv Pk M') zc_L_53 (zq_200 hZ) rfl dL_law_504 (by decide) rfl (Nat.le_of_ble_eq_true rfl) (Nat.le_of_ble_eq_true rfl) rfl (fX12_finger_ok hZ (Nat.le_refl _) (z32_i _) (z32_i _) (zs_m hb fun e he => ⟨rfl, by rw [he.1], he.2⟩)) ?_
  rintro r M2 Z' hc2 ⟨rfl, rfl, hI2⟩
  exact zY_icmp_eq 1278 dL_law_507 (by decide) hc2.1 hc2.1 (fun _ => nx _ _ ⟨hZ, hS, ⟨Pk, hI2⟩, hM.pk hI hI2⟩) (fun c => absurd rfl c)
theorem L_6 {Z : zZ} {M : zMem} (hi : 0 ≤ i ∧ i + 7 ≤ sL) (hL : zLaw sL Z M) (nx : ∀ (Z' : zZ) (M' : zMem), zLaw sL Z' M' → zY (zXl sb sL sx) Ex (zmL nm) 100 kc ks Z' 1278 (zll i) [] M' Q) : zY (zXl sb sL sx) Ex (zmL nm) 100 (kc + 20) (ks + 1260) Z 512 (zll i) [] M Q := by
  obtain ⟨hZ, hS, ⟨Pk, hI⟩, hM⟩ := hL
  refine zY_le (kc' := kc) (ks' := ks) (by omega) (by omega) ?_
  refine zY_aload_n 3 dL_law_512 rfl rfl ?_
  refine zY_aload_n 4 dL_law_513 rfl rfl ?_
  refine zY_iload 0 dL_law_514 rfl ?_
  refine zY_iconst (v := 1) dL_law_516 rfl ?_
  refine zY_iadd dL_law_517 ?_
  refine zY_sld hS ⟨by omega, by omega⟩ dL_law_518 ?_
  refine zY_aload_n 4 dL_law_519 rfl rfl ?_
  refine zY_iload 0 dL_law_520 rfl ?_
  refine zY_iconst (v := 2) dL_law_522 rfl ?_
  refine zY_iadd dL_law_523 ?_
  refine zY_sld hS ⟨by omega, by omega⟩ dL_law_524 ?_
  refine zY_callV (kc := kc) (ks := ks) (mc := 0) (ms := 0) (n' := 1) (As := [zI (sx (i + 1).toNat).toInt, zI (sx (i + 2).toNat).toInt]) (Q' := fun r M' Z' => Z = Z' ∧ ∃ b : Int, r = some (zI b) ∧ zSat (fX12_noteOf ((sx (i + 1).toNat).toInt) ((sx (i + 2).toNat).toInt) M') (fun e' => e'.1 = b ∧ Inv Pk e'.2)) zc_L_54 (zq_0 hZ) rfl dL_law_525 (by decide) rfl (Nat.le_of_ble_eq_true rfl) (Nat.le_of_ble_eq_true rfl) rfl (fX11_noteOf_ok hZ (Nat.le_refl _) (z32_i _) (z32_i _) (zs_m (zAl_p (c_noteOf hI)) fun e he => ⟨rfl, e, rfl, he⟩)) ?_
  rintro r M1 Z' hc ⟨rfl, b, rfl, hb⟩
  refine zY_aload_n 2 dL_law_528 rfl rfl ?_
  refine zY_aload_n 4 dL_law_529 rfl rfl ?_
  refine zY_iload 0 dL_law_530 rfl ?_
  refine zY_iconst (v := 1) dL_law_532 rfl ?_
  refine zY_iadd dL_law_533 ?_
  refine zY_sld hS ⟨by omega, by omega⟩ dL_law_534 ?_
  refine zY_aload_n 4 dL_law_535 rfl rfl ?_
  refine zY_iload 0 dL_law_536 rfl ?_
  refine zY_iconst (v := 2) dL_law_538 rfl ?_
  refine zY_iadd dL_law_539 ?_
  refine zY_sld hS ⟨by omega, by omega⟩ dL_law_540 ?_
  refine zY_callV (kc := kc) (ks := ks) (mc := 0) (ms := 0) (n' := 1) (As := [zI (sx (i + 1).toNat).toInt, zI (sx (i + 2).toNat).toInt]) (Q' := fun r M' Z' => Z = Z' ∧ r = some (zI b) ∧ Inv Pk M') zc_L_57 (zq_200 hZ) rfl dL_law_541 (by decide) rfl (Nat.le_of_ble_eq_true rfl) (Nat.le_of_ble_eq_true rfl) rfl (fX12_noteOf_ok hZ (Nat.le_refl _) (z32_i _) (z32_i _) (zs_m hb fun e he => ⟨rfl, by rw [he.1], he.2⟩)) ?_
  rintro r M2 Z' hc2 ⟨rfl, rfl, hI2⟩
  exact zY_icmp_eq 1278 dL_law_544 (by decide) hc2.1 hc2.1 (fun _ => nx _ _ ⟨hZ, hS, ⟨Pk, hI2⟩, hM.pk hI hI2⟩) (fun c => absurd rfl c)
theorem L_7 {Z : zZ} {M : zMem} (hi : 0 ≤ i ∧ i + 7 ≤ sL) (hL : zLaw sL Z M) (nx : ∀ (Z' : zZ) (M' : zMem), zLaw sL Z' M' → zY (zXl sb sL sx) Ex (zmL nm) 100 kc ks Z' 1278 (zll i) [] M' Q) : zY (zXl sb sL sx) Ex (zmL nm) 100 (kc + 20) (ks + 1260) Z 549 (zll i) [] M Q := by
  obtain ⟨hZ, hS, ⟨Pk, hI⟩, hM⟩ := hL
  refine zY_le (kc' := kc) (ks' := ks) (by omega) (by omega) ?_
  refine zY_aload_n 3 dL_law_549 rfl rfl ?_
  refine zY_aload_n 4 dL_law_550 rfl rfl ?_
  refine zY_iload 0 dL_law_551 rfl ?_
  refine zY_iconst (v := 1) dL_law_553 rfl ?_
  refine zY_iadd dL_law_554 ?_
  refine zY_sld hS ⟨by omega, by omega⟩ dL_law_555 ?_
  refine zY_aload_n 4 dL_law_556 rfl rfl ?_
  refine zY_iload 0 dL_law_557 rfl ?_
  refine zY_iconst (v := 2) dL_law_559 rfl ?_
  refine zY_iadd dL_law_560 ?_
  refine zY_sld hS ⟨by omega, by omega⟩ dL_law_561 ?_
  refine zY_callV (kc := kc) (ks := ks) (mc := 0) (ms := 0) (n' := 3) (As := [zI (sx (i + 1).toNat).toInt, zI (sx (i + 2).toNat).toInt]) (Q' := fun r M' Z' => Z = Z' ∧ ∃ b : Int, r = some (zI b) ∧ zSat (fX12_touched ((sx (i + 1).toNat).toInt) ((sx (i + 2).toNat).toInt) M') (fun e' => e'.1 = b ∧ Inv Pk e'.2)) zc_L_58 (zq_0 hZ) rfl dL_law_562 (by decide) rfl (Nat.le_of_ble_eq_true rfl) (Nat.le_of_ble_eq_true rfl) rfl (fX11_touched_ok hZ (Nat.le_refl _) (z32_i _) (z32_i _) (zs_m (zAl_p (c_touched hI)) fun e he => ⟨rfl, e, rfl, he⟩)) ?_
  rintro r M1 Z' hc ⟨rfl, b, rfl, hb⟩
  refine zY_aload_n 2 dL_law_565 rfl rfl ?_
  refine zY_aload_n 4 dL_law_566 rfl rfl ?_
  refine zY_iload 0 dL_law_567 rfl ?_
  refine zY_iconst (v := 1) dL_law_569 rfl ?_
  refine zY_iadd dL_law_570 ?_
  refine zY_sld hS ⟨by omega, by omega⟩ dL_law_571 ?_
  refine zY_aload_n 4 dL_law_572 rfl rfl ?_
  refine zY_iload 0 dL_law_573 rfl ?_
  refine zY_iconst (v := 2) dL_law_575 rfl ?_
  refine zY_iadd dL_law_576 ?_
  refine zY_sld hS ⟨by omega, by omega⟩ dL_law_577 ?_
  refine zY_callV (kc := kc) (ks := ks) (mc := 0) (ms := 0) (n' := 3) (As := [zI (sx (i + 1).toNat).toInt, zI (sx (i + 2).toNat).toInt]) (Q' := fun r M' Z' => Z = Z' ∧ r = some (zI b) ∧ Inv Pk M') zc_L_61 (zq_200 hZ) rfl dL_law_578 (by decide) rfl (Nat.le_of_ble_eq_true rfl) (Nat.le_of_ble_eq_true rfl) rfl (fX12_touched_ok hZ (Nat.le_refl _) (z32_i _) (z32_i _) (zs_m hb fun e he => ⟨rfl, by rw [he.1], he.2⟩)) ?_
  rintro r M2 Z' hc2 ⟨rfl, rfl, hI2⟩
  exact zY_icmp_eq 1278 dL_law_581 (by decide) hc2.1 hc2.1 (fun _ => nx _ _ ⟨hZ, hS, ⟨Pk, hI2⟩, hM.pk hI hI2⟩) (fun c => absurd rfl c)
theorem L_8 {Z : zZ} {M : zMem} (hi : 0 ≤ i ∧ i + 7 ≤ sL) (hL : zLaw sL Z M) (nx : ∀ (Z' : zZ) (M' : zMem), zLaw sL Z' M' → zY (zXl sb sL sx) Ex (zmL nm) 100 kc ks Z' 1278 (zll i) [] M' Q) : zY (zXl sb sL sx) Ex (zmL nm) 100 (kc + 20) (ks + 1260) Z 586 (zll i) [] M Q := by
  obtain ⟨hZ, hS, ⟨Pk, hI⟩, hM⟩ := hL
  refine zY_le (kc' := kc) (ks' := ks) (by omega) (by omega) ?_
  refine zY_aload_n 3 dL_law_586 rfl rfl ?_
  refine zY_aload_n 4 dL_law_587 rfl rfl ?_
  refine zY_iload 0 dL_law_588 rfl ?_
  refine zY_iconst (v := 1) dL_law_590 rfl ?_
  refine zY_iadd dL_law_591 ?_
  refine zY_sld hS ⟨by omega, by omega⟩ dL_law_592 ?_
  refine zY_aload_n 4 dL_law_593 rfl rfl ?_
  refine zY_iload 0 dL_law_594 rfl ?_
  refine zY_iconst (v := 2) dL_law_596 rfl ?_
  refine zY_iadd dL_law_597 ?_
  refine zY_sld hS ⟨by omega, by omega⟩ dL_law_598 ?_
  refine zY_callV (kc := kc) (ks := ks) (mc := 0) (ms := 0) (n' := 3) (As := [zI (sx (i + 1).toNat).toInt, zI (sx (i + 2).toNat).toInt]) (Q' := fun r M' Z' => Z = Z' ∧ ∃ b : Int, r = some (zI b) ∧ zSat (fX12_warmth ((sx (i + 1).toNat).toInt) ((sx (i + 2).toNat).toInt) M') (fun e' => e'.1 = b ∧ Inv Pk e'.2)) zc_L_62 (zq_0 hZ) rfl dL_law_599 (by decide) rfl (Nat.le_of_ble_eq_true rfl) (Nat.le_of_ble_eq_true rfl) rfl (fX11_warmth_ok hZ (Nat.le_refl _) (z32_i _) (z32_i _) (zs_m (c_warmth hI) fun e he => ⟨rfl, e.1, rfl, he⟩)) ?_
  rintro r M1 Z' hc ⟨rfl, b, rfl, hb⟩
  refine zY_aload_n 2 dL_law_602 rfl rfl ?_
  refine zY_aload_n 4 dL_law_603 rfl rfl ?_
  refine zY_iload 0 dL_law_604 rfl ?_
  refine zY_iconst (v := 1) dL_law_606 rfl ?_
  refine zY_iadd dL_law_607 ?_
  refine zY_sld hS ⟨by omega, by omega⟩ dL_law_608 ?_
  refine zY_aload_n 4 dL_law_609 rfl rfl ?_
  refine zY_iload 0 dL_law_610 rfl ?_
  refine zY_iconst (v := 2) dL_law_612 rfl ?_
  refine zY_iadd dL_law_613 ?_
  refine zY_sld hS ⟨by omega, by omega⟩ dL_law_614 ?_
  refine zY_callV (kc := kc) (ks := ks) (mc := 0) (ms := 0) (n' := 4) (As := [zI (sx (i + 1).toNat).toInt, zI (sx (i + 2).toNat).toInt]) (Q' := fun r M' Z' => Z = Z' ∧ r = some (zI b) ∧ Inv Pk M') zc_L_65 (zq_200 hZ) rfl dL_law_615 (by decide) rfl (Nat.le_of_ble_eq_true rfl) (Nat.le_of_ble_eq_true rfl) rfl (fX12_warmth_ok hZ (Nat.le_refl _) (z32_i _) (z32_i _) (zs_m hb fun e he => ⟨rfl, by rw [he.1], he.2⟩)) ?_
  rintro r M2 Z' hc2 ⟨rfl, rfl, hI2⟩
  exact zY_icmp_eq 1278 dL_law_618 (by decide) hc2.1 hc2.1 (fun _ => nx _ _ ⟨hZ, hS, ⟨Pk, hI2⟩, hM.pk hI hI2⟩) (fun c => absurd rfl c)
theorem L_9 {Z : zZ} {M : zMem} (hi : 0 ≤ i ∧ i + 7 ≤ sL) (hL : zLaw sL Z M) (nx : ∀ (Z' : zZ) (M' : zMem), zLaw sL Z' M' → zY (zXl sb sL sx) Ex (zmL nm) 100 kc ks Z' 1278 (zll i) [] M' Q) : zY (zXl sb sL sx) Ex (zmL nm) 100 (kc + 20) (ks + 1260) Z 623 (zll i) [] M Q := by
  obtain ⟨hZ, hS, ⟨Pk, hI⟩, hM⟩ := hL
  refine zY_le (kc' := kc) (ks' := ks) (by omega) (by omega) ?_
  refine zY_aload_n 3 dL_law_623 rfl rfl ?_
  refine zY_aload_n 4 dL_law_624 rfl rfl ?_
  refine zY_iload 0 dL_law_625 rfl ?_
  refine zY_iconst (v := 1) dL_law_627 rfl ?_
  refine zY_iadd dL_law_628 ?_
  refine zY_sld hS ⟨by omega, by omega⟩ dL_law_629 ?_
  refine zY_callV (kc := kc) (ks := ks) (mc := 0) (ms := 0) (n' := 3) (As := [zI (sx (i + 1).toNat).toInt]) (Q' := fun r M' Z' => Z = Z' ∧ ∃ b : Int, r = some (zI b) ∧ zSat (fX12_cracked ((sx (i + 1).toNat).toInt) M') (fun e' => e'.1 = b ∧ Inv Pk e'.2)) zc_L_66 (zq_0 hZ) rfl dL_law_630 (by decide) rfl (Nat.le_of_ble_eq_true rfl) (Nat.le_of_ble_eq_true rfl) rfl (fX11_cracked_ok hZ (Nat.le_refl _) (z32_i _) (zs_m (c_cracked hI) fun e he => ⟨rfl, e.1, rfl, he⟩)) ?_
  rintro r M1 Z' hc ⟨rfl, b, rfl, hb⟩
  refine zY_aload_n 2 dL_law_633 rfl rfl ?_
  refine zY_aload_n 4 dL_law_634 rfl rfl ?_
  refine zY_iload 0 dL_law_635 rfl ?_
  refine zY_iconst (v := 1) dL_law_637 rfl ?_
  refine zY_iadd dL_law_638 ?_
  refine zY_sld hS ⟨by omega, by omega⟩ dL_law_639 ?_
  refine zY_callV (kc := kc) (ks := ks) (mc := 0) (ms := 0) (n' := 4) (As := [zI (sx (i + 1).toNat).toInt]) (Q' := fun r M' Z' => Z = Z' ∧ r = some (zI b) ∧ Inv Pk M') zc_L_69 (zq_200 hZ) rfl dL_law_640 (by decide) rfl (Nat.le_of_ble_eq_true rfl) (Nat.le_of_ble_eq_true rfl) rfl (fX12_cracked_ok hZ (Nat.le_refl _) (z32_i _) (zs_m hb fun e he => ⟨rfl, by rw [he.1], he.2⟩)) ?_
  rintro r M2 Z' hc2 ⟨rfl, rfl, hI2⟩
  exact zY_icmp_eq 1278 dL_law_643 (by decide) hc2.1 hc2.1 (fun _ => nx _ _ ⟨hZ, hS, ⟨Pk, hI2⟩, hM.pk hI hI2⟩) (fun c => absurd rfl c)
theorem L_11 {Z : zZ} {M : zMem} (hi : 0 ≤ i ∧ i + 7 ≤ sL) (hL : zLaw sL Z M) (nx : ∀ (Z' : zZ) (M' : zMem), zLaw sL Z' M' → zY (zXl sb sL sx) Ex (zmL nm) 100 kc ks Z' 1278 (zll i) [] M' Q) : zY (zXl sb sL sx) Ex (zmL nm) 100 (kc + 20) (ks + 1260) Z 716 (zll i) [] M Q := by
  obtain ⟨hZ, hS, ⟨Pk, hI⟩, hM⟩ := hL
  refine zY_le (kc' := kc) (ks' := ks) (by omega) (by omega) ?_
  refine zY_aload_n 3 dL_law_716 rfl rfl ?_
  refine zY_aload_n 4 dL_law_717 rfl rfl ?_
  refine zY_iload 0 dL_law_718 rfl ?_
  refine zY_iconst (v := 1) dL_law_720 rfl ?_
  refine zY_iadd dL_law_721 ?_
  refine zY_sld hS ⟨by omega, by omega⟩ dL_law_722 ?_
  refine zY_callV (kc := kc) (ks := ks) (mc := 0) (ms := 0) (n' := 6) (As := [zI (sx (i + 1).toNat).toInt]) (Q' := fun r M' Z' => Z = Z' ∧ ∃ b : Int, r = some (zI b) ∧ zSat (fX12_speaks ((sx (i + 1).toNat).toInt) M') (fun e' => e'.1 = b ∧ Inv Pk e'.2)) zc_L_79 (zq_0 hZ) rfl dL_law_723 (by decide) rfl (Nat.le_of_ble_eq_true rfl) (Nat.le_of_ble_eq_true rfl) rfl (fX11_speaks_ok hZ (Nat.le_refl _) (z32_i _) (zs_m (c_speaks hI) fun e he => ⟨rfl, e.1, rfl, he⟩)) ?_
  rintro r M1 Z' hc ⟨rfl, b, rfl, hb⟩
  refine zY_aload_n 2 dL_law_726 rfl rfl ?_
  refine zY_aload_n 4 dL_law_727 rfl rfl ?_
  refine zY_iload 0 dL_law_728 rfl ?_
  refine zY_iconst (v := 1) dL_law_730 rfl ?_
  refine zY_iadd dL_law_731 ?_
  refine zY_sld hS ⟨by omega, by omega⟩ dL_law_732 ?_
  refine zY_callV (kc := kc) (ks := ks) (mc := 0) (ms := 0) (n' := 5) (As := [zI (sx (i + 1).toNat).toInt]) (Q' := fun r M' Z' => Z = Z' ∧ r = some (zI b) ∧ Inv Pk M') zc_L_82 (zq_200 hZ) rfl dL_law_733 (by decide) rfl (Nat.le_of_ble_eq_true rfl) (Nat.le_of_ble_eq_true rfl) rfl (fX12_speaks_ok hZ (Nat.le_refl _) (z32_i _) (zs_m hb fun e he => ⟨rfl, by rw [he.1], he.2⟩)) ?_
  rintro r M2 Z' hc2 ⟨rfl, rfl, hI2⟩
  exact zY_icmp_eq 1278 dL_law_736 (by decide) hc2.1 hc2.1 (fun _ => nx _ _ ⟨hZ, hS, ⟨Pk, hI2⟩, hM.pk hI hI2⟩) (fun c => absurd rfl c)
theorem L_12 {Z : zZ} {M : zMem} (hi : 0 ≤ i ∧ i + 7 ≤ sL) (hL : zLaw sL Z M) (nx : ∀ (Z' : zZ) (M' : zMem), zLaw sL Z' M' → zY (zXl sb sL sx) Ex (zmL nm) 100 kc ks Z' 1278 (zll i) [] M' Q) : zY (zXl sb sL sx) Ex (zmL nm) 100 (kc + 20) (ks + 1260) Z 741 (zll i) [] M Q := by
  obtain ⟨hZ, hS, ⟨Pk, hI⟩, hM⟩ := hL
  refine zY_le (kc' := kc) (ks' := ks) (by omega) (by omega) ?_
  refine zY_aload_n 3 dL_law_741 rfl rfl ?_
  refine zY_aload_n 4 dL_law_742 rfl rfl ?_
  refine zY_iload 0 dL_law_743 rfl ?_
  refine zY_iconst (v := 1) dL_law_745 rfl ?_
  refine zY_iadd dL_law_746 ?_
  refine zY_sld hS ⟨by omega, by omega⟩ dL_law_747 ?_
  refine zY_callV (kc := kc) (ks := ks) (mc := 0) (ms := 0) (n' := 6) (As := [zI (sx (i + 1).toNat).toInt]) (Q' := fun r M' Z' => Z = Z' ∧ ∃ b : Int, r = some (zI b) ∧ zSat (fX12_sounds ((sx (i + 1).toNat).toInt) M') (fun e' => e'.1 = b ∧ Inv Pk e'.2)) zc_L_83 (zq_0 hZ) rfl dL_law_748 (by decide) rfl (Nat.le_of_ble_eq_true rfl) (Nat.le_of_ble_eq_true rfl) rfl (fX11_sounds_ok hZ (Nat.le_refl _) (z32_i _) (zs_m (c_sounds hI) fun e he => ⟨rfl, e.1, rfl, he⟩)) ?_
  rintro r M1 Z' hc ⟨rfl, b, rfl, hb⟩
  refine zY_aload_n 2 dL_law_751 rfl rfl ?_
  refine zY_aload_n 4 dL_law_752 rfl rfl ?_
  refine zY_iload 0 dL_law_753 rfl ?_
  refine zY_iconst (v := 1) dL_law_755 rfl ?_
  refine zY_iadd dL_law_756 ?_
  refine zY_sld hS ⟨by omega, by omega⟩ dL_law_757 ?_
  refine zY_callV (kc := kc) (ks := ks) (mc := 0) (ms := 0) (n' := 5) (As := [zI (sx (i + 1).toNat).toInt]) (Q' := fun r M' Z' => Z = Z' ∧ r = some (zI b) ∧ Inv Pk M') zc_L_86 (zq_200 hZ) rfl dL_law_758 (by decide) rfl (Nat.le_of_ble_eq_true rfl) (Nat.le_of_ble_eq_true rfl) rfl (fX12_sounds_ok hZ (Nat.le_refl _) (z32_i _) (zs_m hb fun e he => ⟨rfl, by rw [he.1], he.2⟩)) ?_
  rintro r M2 Z' hc2 ⟨rfl, rfl, hI2⟩
  exact zY_icmp_eq 1278 dL_law_761 (by decide) hc2.1 hc2.1 (fun _ => nx _ _ ⟨hZ, hS, ⟨Pk, hI2⟩, hM.pk hI hI2⟩) (fun c => absurd rfl c)
theorem L_13 {Z : zZ} {M : zMem} (hi : 0 ≤ i ∧ i + 7 ≤ sL) (hL : zLaw sL Z M) (nx : ∀ (Z' : zZ) (M' : zMem), zLaw sL Z' M' → zY (zXl sb sL sx) Ex (zmL nm) 100 kc ks Z' 1278 (zll i) [] M' Q) : zY (zXl sb sL sx) Ex (zmL nm) 100 (kc + 20) (ks + 1260) Z 766 (zll i) [] M Q := by
  obtain ⟨hZ, hS, ⟨Pk, hI⟩, hM⟩ := hL
  refine zY_le (kc' := kc) (ks' := ks) (by omega) (by omega) ?_
  refine zY_aload_n 3 dL_law_766 rfl rfl ?_
  refine zY_aload_n 4 dL_law_767 rfl rfl ?_
  refine zY_iload 0 dL_law_768 rfl ?_
  refine zY_iconst (v := 1) dL_law_770 rfl ?_
  refine zY_iadd dL_law_771 ?_
  refine zY_sld hS ⟨by omega, by omega⟩ dL_law_772 ?_
  refine zY_callV (kc := kc) (ks := ks) (mc := 0) (ms := 0) (n' := 7) (As := [zI (sx (i + 1).toNat).toInt]) (Q' := fun r M' Z' => Z = Z' ∧ ∃ b : Int, r = some (zI b) ∧ zSat (fX12_along ((sx (i + 1).toNat).toInt) M') (fun e' => e'.1 = b ∧ Inv Pk e'.2)) zc_L_87 (zq_0 hZ) rfl dL_law_773 (by decide) rfl (Nat.le_of_ble_eq_true rfl) (Nat.le_of_ble_eq_true rfl) rfl (fX11_along_ok hZ (Nat.le_refl _) (z32_i _) (zs_m (c_along hI) fun e he => ⟨rfl, e.1, rfl, he⟩)) ?_
  rintro r M1 Z' hc ⟨rfl, b, rfl, hb⟩
  refine zY_aload_n 2 dL_law_776 rfl rfl ?_
  refine zY_aload_n 4 dL_law_777 rfl rfl ?_
  refine zY_iload 0 dL_law_778 rfl ?_
  refine zY_iconst (v := 1) dL_law_780 rfl ?_
  refine zY_iadd dL_law_781 ?_
  refine zY_sld hS ⟨by omega, by omega⟩ dL_law_782 ?_
  refine zY_callV (kc := kc) (ks := ks) (mc := 0) (ms := 0) (n' := 5) (As := [zI (sx (i + 1).toNat).toInt]) (Q' := fun r M' Z' => Z = Z' ∧ r = some (zI b) ∧ Inv Pk M') zc_L_90 (zq_200 hZ) rfl dL_law_783 (by decide) rfl (Nat.le_of_ble_eq_true rfl) (Nat.le_of_ble_eq_true rfl) rfl (fX12_along_ok hZ (Nat.le_refl _) (z32_i _) (zs_m hb fun e he => ⟨rfl, by rw [he.1], he.2⟩)) ?_
  rintro r M2 Z' hc2 ⟨rfl, rfl, hI2⟩
  exact zY_icmp_eq 1278 dL_law_786 (by decide) hc2.1 hc2.1 (fun _ => nx _ _ ⟨hZ, hS, ⟨Pk, hI2⟩, hM.pk hI hI2⟩) (fun c => absurd rfl c)
theorem L_14 {Z : zZ} {M : zMem} (hi : 0 ≤ i ∧ i + 7 ≤ sL) (hL : zLaw sL Z M) (nx : ∀ (Z' : zZ) (M' : zMem), zLaw sL Z' M' → zY (zXl sb sL sx) Ex (zmL nm) 100 kc ks Z' 1278 (zll i) [] M' Q) : zY (zXl sb sL sx) Ex (zmL nm) 100 (kc + 20) (ks + 1260) Z 791 (zll i) [] M Q := by
  obtain ⟨hZ, hS, ⟨Pk, hI⟩, hM⟩ := hL
  refine zY_le (kc' := kc) (ks' := ks) (by omega) (by omega) ?_
  refine zY_aload_n 3 dL_law_791 rfl rfl ?_
  refine zY_aload_n 4 dL_law_792 rfl rfl ?_
  refine zY_iload 0 dL_law_793 rfl ?_
  refine zY_iconst (v := 1) dL_law_795 rfl ?_
  refine zY_iadd dL_law_796 ?_
  refine zY_sld hS ⟨by omega, by omega⟩ dL_law_797 ?_
  refine zY_aload_n 4 dL_law_798 rfl rfl ?_
  refine zY_iload 0 dL_law_799 rfl ?_
  refine zY_iconst (v := 2) dL_law_801 rfl ?_
  refine zY_iadd dL_law_802 ?_
  refine zY_sld hS ⟨by omega, by omega⟩ dL_law_803 ?_
  refine zY_callV (kc := kc) (ks := ks) (mc := 0) (ms := 0) (n' := 7) (As := [zI (sx (i + 1).toNat).toInt, zI (sx (i + 2).toNat).toInt]) (Q' := fun r M' Z' => Z = Z' ∧ ∃ b : Int, r = some (zI b) ∧ zSat (fX12_silence ((sx (i + 1).toNat).toInt) ((sx (i + 2).toNat).toInt) M') (fun e' => e'.1 = b ∧ Inv Pk e'.2)) zc_L_91 (zq_0 hZ) rfl dL_law_804 (by decide) rfl (Nat.le_of_ble_eq_true rfl) (Nat.le_of_ble_eq_true rfl) rfl (fX11_silence_ok hZ (Nat.le_refl _) (z32_i _) (z32_i _) (zs_m (c_silence hI) fun e he => ⟨rfl, e.1, rfl, he⟩)) ?_
  rintro r M1 Z' hc ⟨rfl, b, rfl, hb⟩
  refine zY_aload_n 2 dL_law_807 rfl rfl ?_
  refine zY_aload_n 4 dL_law_808 rfl rfl ?_
  refine zY_iload 0 dL_law_809 rfl ?_
  refine zY_iconst (v := 1) dL_law_811 rfl ?_
  refine zY_iadd dL_law_812 ?_
  refine zY_sld hS ⟨by omega, by omega⟩ dL_law_813 ?_
  refine zY_aload_n 4 dL_law_814 rfl rfl ?_
  refine zY_iload 0 dL_law_815 rfl ?_
  refine zY_iconst (v := 2) dL_law_817 rfl ?_
  refine zY_iadd dL_law_818 ?_
  refine zY_sld hS ⟨by omega, by omega⟩ dL_law_819 ?_
  refine zY_callV (kc := kc) (ks := ks) (mc := 0) (ms := 0) (n' := 5) (As := [zI (sx (i + 1).toNat).toInt, zI (sx (i + 2).toNat).toInt]) (Q' := fun r M' Z' => Z = Z' ∧ r = some (zI b) ∧ Inv Pk M') zc_L_94 (zq_200 hZ) rfl dL_law_820 (by decide) rfl (Nat.le_of_ble_eq_true rfl) (Nat.le_of_ble_eq_true rfl) rfl (fX12_silence_ok hZ (Nat.le_refl _) (z32_i _) (z32_i _) (zs_m hb fun e he => ⟨rfl, by rw [he.1], he.2⟩)) ?_
  rintro r M2 Z' hc2 ⟨rfl, rfl, hI2⟩
  exact zY_icmp_eq 1278 dL_law_823 (by decide) hc2.1 hc2.1 (fun _ => nx _ _ ⟨hZ, hS, ⟨Pk, hI2⟩, hM.pk hI hI2⟩) (fun c => absurd rfl c)
theorem L_15 {Z : zZ} {M : zMem} (hi : 0 ≤ i ∧ i + 7 ≤ sL) (hL : zLaw sL Z M) (nx : ∀ (Z' : zZ) (M' : zMem), zLaw sL Z' M' → zY (zXl sb sL sx) Ex (zmL nm) 100 kc ks Z' 1278 (zll i) [] M' Q) : zY (zXl sb sL sx) Ex (zmL nm) 100 (kc + 20) (ks + 1260) Z 828 (zll i) [] M Q := by
  obtain ⟨hZ, hS, ⟨Pk, hI⟩, hM⟩ := hL
  refine zY_le (kc' := kc) (ks' := ks) (by omega) (by omega) ?_
  refine zY_aload_n 3 dL_law_828 rfl rfl ?_
  refine zY_aload_n 4 dL_law_829 rfl rfl ?_
  refine zY_iload 0 dL_law_830 rfl ?_
  refine zY_iconst (v := 1) dL_law_832 rfl ?_
  refine zY_iadd dL_law_833 ?_
  refine zY_sld hS ⟨by omega, by omega⟩ dL_law_834 ?_
  refine zY_callV (kc := kc) (ks := ks) (mc := 0) (ms := 0) (n' := 7) (As := [zI (sx (i + 1).toNat).toInt]) (Q' := fun r M' Z' => Z = Z' ∧ ∃ b : Int, r = some (zI b) ∧ zSat (fX12_best ((sx (i + 1).toNat).toInt) M') (fun e' => e'.1 = b ∧ Inv Pk e'.2)) zc_L_95 (zq_0 hZ) rfl dL_law_835 (by decide) rfl (Nat.le_of_ble_eq_true rfl) (Nat.le_of_ble_eq_true rfl) rfl (fX11_best_ok hZ (Nat.le_refl _) (z32_i _) (zs_m (c_best hI) fun e he => ⟨rfl, e.1, rfl, he⟩)) ?_
  rintro r M1 Z' hc ⟨rfl, b, rfl, hb⟩
  refine zY_aload_n 2 dL_law_838 rfl rfl ?_
  refine zY_aload_n 4 dL_law_839 rfl rfl ?_
  refine zY_iload 0 dL_law_840 rfl ?_
  refine zY_iconst (v := 1) dL_law_842 rfl ?_
  refine zY_iadd dL_law_843 ?_
  refine zY_sld hS ⟨by omega, by omega⟩ dL_law_844 ?_
  refine zY_callV (kc := kc) (ks := ks) (mc := 0) (ms := 0) (n' := 6) (As := [zI (sx (i + 1).toNat).toInt]) (Q' := fun r M' Z' => Z = Z' ∧ r = some (zI b) ∧ Inv Pk M') zc_L_98 (zq_200 hZ) rfl dL_law_845 (by decide) rfl (Nat.le_of_ble_eq_true rfl) (Nat.le_of_ble_eq_true rfl) rfl (fX12_best_ok hZ (Nat.le_refl _) (z32_i _) (zs_m hb fun e he => ⟨rfl, by rw [he.1], he.2⟩)) ?_
  rintro r M2 Z' hc2 ⟨rfl, rfl, hI2⟩
  exact zY_icmp_eq 1278 dL_law_848 (by decide) hc2.1 hc2.1 (fun _ => nx _ _ ⟨hZ, hS, ⟨Pk, hI2⟩, hM.pk hI hI2⟩) (fun c => absurd rfl c)
theorem L_16 {Z : zZ} {M : zMem} (hi : 0 ≤ i ∧ i + 7 ≤ sL) (hL : zLaw sL Z M) (nx : ∀ (Z' : zZ) (M' : zMem), zLaw sL Z' M' → zY (zXl sb sL sx) Ex (zmL nm) 100 kc ks Z' 1278 (zll i) [] M' Q) : zY (zXl sb sL sx) Ex (zmL nm) 100 (kc + 20) (ks + 1260) Z 853 (zll i) [] M Q := by
  obtain ⟨hZ, hS, ⟨Pk, hI⟩, hM⟩ := hL
  refine zY_le (kc' := kc) (ks' := ks) (by omega) (by omega) ?_
  refine zY_aload_n 3 dL_law_853 rfl rfl ?_
  refine zY_aload_n 4 dL_law_854 rfl rfl ?_
  refine zY_iload 0 dL_law_855 rfl ?_
  refine zY_iconst (v := 1) dL_law_857 rfl ?_
  refine zY_iadd dL_law_858 ?_
  refine zY_sld hS ⟨by omega, by omega⟩ dL_law_859 ?_
  refine zY_callV (kc := kc) (ks := ks) (mc := 0) (ms := 0) (n' := 7) (As := [zI (sx (i + 1).toNat).toInt]) (Q' := fun r M' Z' => Z = Z' ∧ ∃ b : Int, r = some (zI b) ∧ zSat (fX12_atTreadle ((sx (i + 1).toNat).toInt) M') (fun e' => e'.1 = b ∧ Inv Pk e'.2)) zc_L_99 (zq_0 hZ) rfl dL_law_860 (by decide) rfl (Nat.le_of_ble_eq_true rfl) (Nat.le_of_ble_eq_true rfl) rfl (fX11_atTreadle_ok hZ (Nat.le_refl _) (z32_i _) (zs_m (c_atTreadle hI) fun e he => ⟨rfl, e.1, rfl, he⟩)) ?_
  rintro r M1 Z' hc ⟨rfl, b, rfl, hb⟩
  refine zY_aload_n 2 dL_law_863 rfl rfl ?_
  refine zY_aload_n 4 dL_law_864 rfl rfl ?_
  refine zY_iload 0 dL_law_865 rfl ?_
  refine zY_iconst (v := 1) dL_law_867 rfl ?_
  refine zY_iadd dL_law_868 ?_
  refine zY_sld hS ⟨by omega, by omega⟩ dL_law_869 ?_
  refine zY_callV (kc := kc) (ks := ks) (mc := 0) (ms := 0) (n' := 6) (As := [zI (sx (i + 1).toNat).toInt]) (Q' := fun r M' Z' => Z = Z' ∧ r = some (zI b) ∧ Inv Pk M') zc_L_102 (zq_200 hZ) rfl dL_law_870 (by decide) rfl (Nat.le_of_ble_eq_true rfl) (Nat.le_of_ble_eq_true rfl) rfl (fX12_atTreadle_ok hZ (Nat.le_refl _) (z32_i _) (zs_m hb fun e he => ⟨rfl, by rw [he.1], he.2⟩)) ?_
  rintro r M2 Z' hc2 ⟨rfl, rfl, hI2⟩
  exact zY_icmp_eq 1278 dL_law_873 (by decide) hc2.1 hc2.1 (fun _ => nx _ _ ⟨hZ, hS, ⟨Pk, hI2⟩, hM.pk hI hI2⟩) (fun c => absurd rfl c)
theorem L_17 {Z : zZ} {M : zMem} (hi : 0 ≤ i ∧ i + 7 ≤ sL) (hL : zLaw sL Z M) (nx : ∀ (Z' : zZ) (M' : zMem), zLaw sL Z' M' → zY (zXl sb sL sx) Ex (zmL nm) 100 kc ks Z' 1278 (zll i) [] M' Q) : zY (zXl sb sL sx) Ex (zmL nm) 100 (kc + 20) (ks + 1260) Z 878 (zll i) [] M Q := by
  obtain ⟨hZ, hS, ⟨Pk, hI⟩, hM⟩ := hL
  refine zY_le (kc' := kc) (ks' := ks) (by omega) (by omega) ?_
  refine zY_aload_n 3 dL_law_878 rfl rfl ?_
  refine zY_aload_n 4 dL_law_879 rfl rfl ?_
  refine zY_iload 0 dL_law_880 rfl ?_
  refine zY_iconst (v := 1) dL_law_882 rfl ?_
  refine zY_iadd dL_law_883 ?_
  refine zY_sld hS ⟨by omega, by omega⟩ dL_law_884 ?_
  refine zY_callV (kc := kc) (ks := ks) (mc := 0) (ms := 0) (n' := 3) (As := [zI (sx (i + 1).toNat).toInt]) (Q' := fun r M' Z' => Z = Z' ∧ ∃ b : Int, r = some (zI b) ∧ zSat (fX12_wrong ((sx (i + 1).toNat).toInt) M') (fun e' => e'.1 = b ∧ Inv Pk e'.2)) zc_L_103 (zq_0 hZ) rfl dL_law_885 (by decide) rfl (Nat.le_of_ble_eq_true rfl) (Nat.le_of_ble_eq_true rfl) rfl (fX11_wrong_ok hZ (Nat.le_refl _) (z32_i _) (zs_m (zAl_p (c_wrong hI)) fun e he => ⟨rfl, e, rfl, he⟩)) ?_
  rintro r M1 Z' hc ⟨rfl, b, rfl, hb⟩
  refine zY_aload_n 2 dL_law_888 rfl rfl ?_
  refine zY_aload_n 4 dL_law_889 rfl rfl ?_
  refine zY_iload 0 dL_law_890 rfl ?_
  refine zY_iconst (v := 1) dL_law_892 rfl ?_
  refine zY_iadd dL_law_893 ?_
  refine zY_sld hS ⟨by omega, by omega⟩ dL_law_894 ?_
  refine zY_callV (kc := kc) (ks := ks) (mc := 0) (ms := 0) (n' := 4) (As := [zI (sx (i + 1).toNat).toInt]) (Q' := fun r M' Z' => Z = Z' ∧ r = some (zI b) ∧ Inv Pk M') zc_L_106 (zq_200 hZ) rfl dL_law_895 (by decide) rfl (Nat.le_of_ble_eq_true rfl) (Nat.le_of_ble_eq_true rfl) rfl (fX12_wrong_ok hZ (Nat.le_refl _) (z32_i _) (zs_m hb fun e he => ⟨rfl, by rw [he.1], he.2⟩)) ?_
  rintro r M2 Z' hc2 ⟨rfl, rfl, hI2⟩
  exact zY_icmp_eq 1278 dL_law_898 (by decide) hc2.1 hc2.1 (fun _ => nx _ _ ⟨hZ, hS, ⟨Pk, hI2⟩, hM.pk hI hI2⟩) (fun c => absurd rfl c)
theorem L_18 {Z : zZ} {M : zMem} (hi : 0 ≤ i ∧ i + 7 ≤ sL) (hL : zLaw sL Z M) (nx : ∀ (Z' : zZ) (M' : zMem), zLaw sL Z' M' → zY (zXl sb sL sx) Ex (zmL nm) 100 kc ks Z' 1278 (zll i) [] M' Q) : zY (zXl sb sL sx) Ex (zmL nm) 100 (kc + 20) (ks + 1260) Z 903 (zll i) [] M Q := by
  obtain ⟨hZ, hS, ⟨Pk, hI⟩, hM⟩ := hL
  refine zY_le (kc' := kc) (ks' := ks) (by omega) (by omega) ?_
  refine zY_aload_n 3 dL_law_903 rfl rfl ?_
  refine zY_callV (kc := kc) (ks := ks) (mc := 0) (ms := 0) (n' := 3) (As := []) (Q' := fun r M' Z' => Z = Z' ∧ ∃ b : Int, r = some (zI b) ∧ zSat (fX12_judged M') (fun e' => e'.1 = b ∧ Inv Pk e'.2)) zc_L_107 (zq_0 hZ) rfl dL_law_904 (by decide) rfl (Nat.le_of_ble_eq_true rfl) (Nat.le_of_ble_eq_true rfl) rfl (fX11_judged_ok hZ (Nat.le_refl _)  (zs_m (zAl_p (c_judged hI)) fun e he => ⟨rfl, e, rfl, he⟩)) ?_
  rintro r M1 Z' hc ⟨rfl, b, rfl, hb⟩
  refine zY_aload_n 2 dL_law_907 rfl rfl ?_
  refine zY_callV (kc := kc) (ks := ks) (mc := 0) (ms := 0) (n' := 4) (As := []) (Q' := fun r M' Z' => Z = Z' ∧ r = some (zI b) ∧ Inv Pk M') zc_L_110 (zq_200 hZ) rfl dL_law_908 (by decide) rfl (Nat.le_of_ble_eq_true rfl) (Nat.le_of_ble_eq_true rfl) rfl (fX12_judged_ok hZ (Nat.le_refl _)  (zs_m hb fun e he => ⟨rfl, by rw [he.1], he.2⟩)) ?_
  rintro r M2 Z' hc2 ⟨rfl, rfl, hI2⟩
  exact zY_icmp_eq 1278 dL_law_911 (by decide) hc2.1 hc2.1 (fun _ => nx _ _ ⟨hZ, hS, ⟨Pk, hI2⟩, hM.pk hI hI2⟩) (fun c => absurd rfl c)
theorem L_19 {Z : zZ} {M : zMem} (hi : 0 ≤ i ∧ i + 7 ≤ sL) (hL : zLaw sL Z M) (nx : ∀ (Z' : zZ) (M' : zMem), zLaw sL Z' M' → zY (zXl sb sL sx) Ex (zmL nm) 100 kc ks Z' 1278 (zll i) [] M' Q) : zY (zXl sb sL sx) Ex (zmL nm) 100 (kc + 20) (ks + 1260) Z 916 (zll i) [] M Q := by
  obtain ⟨hZ, hS, ⟨Pk, hI⟩, hM⟩ := hL
  refine zY_le (kc' := kc) (ks' := ks) (by omega) (by omega) ?_
  refine zY_aload_n 3 dL_law_916 rfl rfl ?_
  refine zY_callV (kc := kc) (ks := ks) (mc := 0) (ms := 0) (n' := 3) (As := []) (Q' := fun r M' Z' => Z = Z' ∧ ∃ b : Int, r = some (zI b) ∧ zSat (fX12_lifts M') (fun e' => e'.1 = b ∧ Inv Pk e'.2)) zc_L_111 (zq_0 hZ) rfl dL_law_917 (by decide) rfl (Nat.le_of_ble_eq_true rfl) (Nat.le_of_ble_eq_true rfl) rfl (fX11_lifts_ok hZ (Nat.le_refl _)  (zs_m (zAl_p (c_lifts hI)) fun e he => ⟨rfl, e, rfl, he⟩)) ?_
  rintro r M1 Z' hc ⟨rfl, b, rfl, hb⟩
  refine zY_aload_n 2 dL_law_920 rfl rfl ?_
  refine zY_callV (kc := kc) (ks := ks) (mc := 0) (ms := 0) (n' := 2) (As := []) (Q' := fun r M' Z' => Z = Z' ∧ r = some (zI b) ∧ Inv Pk M') zc_L_114 (zq_200 hZ) rfl dL_law_921 (by decide) rfl (Nat.le_of_ble_eq_true rfl) (Nat.le_of_ble_eq_true rfl) rfl (fX12_lifts_ok hZ (Nat.le_refl _)  (zs_m hb fun e he => ⟨rfl, by rw [he.1], he.2⟩)) ?_
  rintro r M2 Z' hc2 ⟨rfl, rfl, hI2⟩
  exact zY_icmp_eq 1278 dL_law_924 (by decide) hc2.1 hc2.1 (fun _ => nx _ _ ⟨hZ, hS, ⟨Pk, hI2⟩, hM.pk hI hI2⟩) (fun c => absurd rfl c)
theorem L_20 {Z : zZ} {M : zMem} (hi : 0 ≤ i ∧ i + 7 ≤ sL) (hL : zLaw sL Z M) (nx : ∀ (Z' : zZ) (M' : zMem), zLaw sL Z' M' → zY (zXl sb sL sx) Ex (zmL nm) 100 kc ks Z' 1278 (zll i) [] M' Q) : zY (zXl sb sL sx) Ex (zmL nm) 100 (kc + 20) (ks + 1260) Z 929 (zll i) [] M Q := by
  obtain ⟨hZ, hS, ⟨Pk, hI⟩, hM⟩ := hL
  refine zY_le (kc' := kc) (ks' := ks) (by omega) (by omega) ?_
  refine zY_aload_n 3 dL_law_929 rfl rfl ?_
  refine zY_callV (kc := kc) (ks := ks) (mc := 0) (ms := 0) (n' := 26) (As := []) (Q' := fun r M' Z' => Z = Z' ∧ ∃ b : Int, r = some (zI b) ∧ zSat (fX12_fewest M') (fun e' => e'.1 = b ∧ Inv Pk e'.2)) zc_L_115 (zq_0 hZ) rfl dL_law_930 (by decide) rfl (Nat.le_of_ble_eq_true rfl) (Nat.le_of_ble_eq_true rfl) rfl (fX11_fewest_ok hZ (Nat.le_refl _)  (zs_m (c_fewest hI) fun e he => ⟨rfl, e.1, rfl, he⟩)) ?_
  rintro r M1 Z' hc ⟨rfl, b, rfl, hb⟩
  refine zY_aload_n 2 dL_law_933 rfl rfl ?_
  refine zY_callV (kc := kc) (ks := ks) (mc := 0) (ms := 0) (n' := 26) (As := []) (Q' := fun r M' Z' => Z = Z' ∧ r = some (zI b) ∧ Inv Pk M') zc_L_118 (zq_200 hZ) rfl dL_law_934 (by decide) rfl (Nat.le_of_ble_eq_true rfl) (Nat.le_of_ble_eq_true rfl) rfl (fX12_fewest_ok hZ (Nat.le_refl _)  (zs_m hb fun e he => ⟨rfl, by rw [he.1], he.2⟩)) ?_
  rintro r M2 Z' hc2 ⟨rfl, rfl, hI2⟩
  exact zY_icmp_eq 1278 dL_law_937 (by decide) hc2.1 hc2.1 (fun _ => nx _ _ ⟨hZ, hS, ⟨Pk, hI2⟩, hM.pk hI hI2⟩) (fun c => absurd rfl c)
theorem L_21 {Z : zZ} {M : zMem} (hi : 0 ≤ i ∧ i + 7 ≤ sL) (hL : zLaw sL Z M) (nx : ∀ (Z' : zZ) (M' : zMem), zLaw sL Z' M' → zY (zXl sb sL sx) Ex (zmL nm) 100 kc ks Z' 1278 (zll i) [] M' Q) : zY (zXl sb sL sx) Ex (zmL nm) 100 (kc + 20) (ks + 1260) Z 942 (zll i) [] M Q := by
  obtain ⟨hZ, hS, ⟨Pk, hI⟩, hM⟩ := hL
  refine zY_le (kc' := kc) (ks' := ks) (by omega) (by omega) ?_
  refine zY_aload_n 3 dL_law_942 rfl rfl ?_
  refine zY_aload_n 4 dL_law_943 rfl rfl ?_
  refine zY_iload 0 dL_law_944 rfl ?_
  refine zY_iconst (v := 1) dL_law_946 rfl ?_
  refine zY_iadd dL_law_947 ?_
  refine zY_sld hS ⟨by omega, by omega⟩ dL_law_948 ?_
  refine zY_callV (kc := kc) (ks := ks) (mc := 0) (ms := 0) (n' := 26) (As := [zI (sx (i + 1).toNat).toInt]) (Q' := fun r M' Z' => Z = Z' ∧ ∃ b : Int, r = some (zI b) ∧ zSat (fX12_fingered ((sx (i + 1).toNat).toInt) M') (fun e' => e'.1 = b ∧ Inv Pk e'.2)) zc_L_119 (zq_0 hZ) rfl dL_law_949 (by decide) rfl (Nat.le_of_ble_eq_true rfl) (Nat.le_of_ble_eq_true rfl) rfl (fX11_fingered_ok hZ (Nat.le_refl _) (z32_i _) (zs_m (c_fingered hI) fun e he => ⟨rfl, e.1, rfl, he⟩)) ?_
  rintro r M1 Z' hc ⟨rfl, b, rfl, hb⟩
  refine zY_aload_n 2 dL_law_952 rfl rfl ?_
  refine zY_aload_n 4 dL_law_953 rfl rfl ?_
  refine zY_iload 0 dL_law_954 rfl ?_
  refine zY_iconst (v := 1) dL_law_956 rfl ?_
  refine zY_iadd dL_law_957 ?_
  refine zY_sld hS ⟨by omega, by omega⟩ dL_law_958 ?_
  refine zY_callV (kc := kc) (ks := ks) (mc := 0) (ms := 0) (n' := 26) (As := [zI (sx (i + 1).toNat).toInt]) (Q' := fun r M' Z' => Z = Z' ∧ r = some (zI b) ∧ Inv Pk M') zc_L_122 (zq_200 hZ) rfl dL_law_959 (by decide) rfl (Nat.le_of_ble_eq_true rfl) (Nat.le_of_ble_eq_true rfl) rfl (fX12_fingered_ok hZ (Nat.le_refl _) (z32_i _) (zs_m hb fun e he => ⟨rfl, by rw [he.1], he.2⟩)) ?_
  rintro r M2 Z' hc2 ⟨rfl, rfl, hI2⟩
  exact zY_icmp_eq 1278 dL_law_962 (by decide) hc2.1 hc2.1 (fun _ => nx _ _ ⟨hZ, hS, ⟨Pk, hI2⟩, hM.pk hI hI2⟩) (fun c => absurd rfl c)
theorem L_22 {Z : zZ} {M : zMem} (hi : 0 ≤ i ∧ i + 7 ≤ sL) (hL : zLaw sL Z M) (nx : ∀ (Z' : zZ) (M' : zMem), zLaw sL Z' M' → zY (zXl sb sL sx) Ex (zmL nm) 100 kc ks Z' 1278 (zll i) [] M' Q) : zY (zXl sb sL sx) Ex (zmL nm) 100 (kc + 20) (ks + 1260) Z 967 (zll i) [] M Q := by
  obtain ⟨hZ, hS, ⟨Pk, hI⟩, hM⟩ := hL
  refine zY_le (kc' := kc) (ks' := ks) (by omega) (by omega) ?_
  refine zY_aload_n 3 dL_law_967 rfl rfl ?_
  refine zY_callV (kc := kc) (ks := ks) (mc := 0) (ms := 0) (n' := 26) (As := []) (Q' := fun r M' Z' => Z = Z' ∧ ∃ b : Int, r = some (zI b) ∧ zSat (fX12_far M') (fun e' => e'.1 = b ∧ Inv Pk e'.2)) zc_L_123 (zq_0 hZ) rfl dL_law_968 (by decide) rfl (Nat.le_of_ble_eq_true rfl) (Nat.le_of_ble_eq_true rfl) rfl (fX11_far_ok hZ (Nat.le_refl _)  (zs_m (c_far hI) fun e he => ⟨rfl, e.1, rfl, he⟩)) ?_
  rintro r M1 Z' hc ⟨rfl, b, rfl, hb⟩
  refine zY_aload_n 2 dL_law_971 rfl rfl ?_
  refine zY_callV (kc := kc) (ks := ks) (mc := 0) (ms := 0) (n' := 26) (As := []) (Q' := fun r M' Z' => Z = Z' ∧ r = some (zI b) ∧ Inv Pk M') zc_L_126 (zq_200 hZ) rfl dL_law_972 (by decide) rfl (Nat.le_of_ble_eq_true rfl) (Nat.le_of_ble_eq_true rfl) rfl (fX12_far_ok hZ (Nat.le_refl _)  (zs_m hb fun e he => ⟨rfl, by rw [he.1], he.2⟩)) ?_
  rintro r M2 Z' hc2 ⟨rfl, rfl, hI2⟩
  exact zY_icmp_eq 1278 dL_law_975 (by decide) hc2.1 hc2.1 (fun _ => nx _ _ ⟨hZ, hS, ⟨Pk, hI2⟩, hM.pk hI hI2⟩) (fun c => absurd rfl c)
theorem L_23 {Z : zZ} {M : zMem} (hi : 0 ≤ i ∧ i + 7 ≤ sL) (hL : zLaw sL Z M) (nx : ∀ (Z' : zZ) (M' : zMem), zLaw sL Z' M' → zY (zXl sb sL sx) Ex (zmL nm) 100 kc ks Z' 1278 (zll i) [] M' Q) : zY (zXl sb sL sx) Ex (zmL nm) 100 (kc + 20) (ks + 1260) Z 980 (zll i) [] M Q := by
  obtain ⟨hZ, hS, ⟨Pk, hI⟩, hM⟩ := hL
  refine zY_le (kc' := kc) (ks' := ks) (by omega) (by omega) ?_
  refine zY_aload_n 3 dL_law_980 rfl rfl ?_
  refine zY_aload_n 4 dL_law_981 rfl rfl ?_
  refine zY_iload 0 dL_law_982 rfl ?_
  refine zY_iconst (v := 1) dL_law_984 rfl ?_
  refine zY_iadd dL_law_985 ?_
  refine zY_sld hS ⟨by omega, by omega⟩ dL_law_986 ?_
  refine zY_callV (kc := kc) (ks := ks) (mc := 0) (ms := 0) (n' := 3) (As := [zI (sx (i + 1).toNat).toInt]) (Q' := fun r M' Z' => Z = Z' ∧ ∃ b : Int, r = some (zI b) ∧ zSat (fX12_beating ((sx (i + 1).toNat).toInt) M') (fun e' => e'.1 = b ∧ Inv Pk e'.2)) zc_L_127 (zq_0 hZ) rfl dL_law_987 (by decide) rfl (Nat.le_of_ble_eq_true rfl) (Nat.le_of_ble_eq_true rfl) rfl (fX11_beating_ok hZ (Nat.le_refl _) (z32_i _) (zs_m (zAl_p (c_beating hI)) fun e he => ⟨rfl, e, rfl, he⟩)) ?_
  rintro r M1 Z' hc ⟨rfl, b, rfl, hb⟩
  refine zY_aload_n 2 dL_law_990 rfl rfl ?_
  refine zY_aload_n 4 dL_law_991 rfl rfl ?_
  refine zY_iload 0 dL_law_992 rfl ?_
  refine zY_iconst (v := 1) dL_law_994 rfl ?_
  refine zY_iadd dL_law_995 ?_
  refine zY_sld hS ⟨by omega, by omega⟩ dL_law_996 ?_
  refine zY_callV (kc := kc) (ks := ks) (mc := 0) (ms := 0) (n' := 2) (As := [zI (sx (i + 1).toNat).toInt]) (Q' := fun r M' Z' => Z = Z' ∧ r = some (zI b) ∧ Inv Pk M') zc_L_130 (zq_200 hZ) rfl dL_law_997 (by decide) rfl (Nat.le_of_ble_eq_true rfl) (Nat.le_of_ble_eq_true rfl) rfl (fX12_beating_ok hZ (Nat.le_refl _) (z32_i _) (zs_m hb fun e he => ⟨rfl, by rw [he.1], he.2⟩)) ?_
  rintro r M2 Z' hc2 ⟨rfl, rfl, hI2⟩
  exact zY_icmp_eq 1278 dL_law_1000 (by decide) hc2.1 hc2.1 (fun _ => nx _ _ ⟨hZ, hS, ⟨Pk, hI2⟩, hM.pk hI hI2⟩) (fun c => absurd rfl c)
theorem L_24 {Z : zZ} {M : zMem} (hi : 0 ≤ i ∧ i + 7 ≤ sL) (hL : zLaw sL Z M) (nx : ∀ (Z' : zZ) (M' : zMem), zLaw sL Z' M' → zY (zXl sb sL sx) Ex (zmL nm) 100 kc ks Z' 1278 (zll i) [] M' Q) : zY (zXl sb sL sx) Ex (zmL nm) 100 (kc + 20) (ks + 1260) Z 1005 (zll i) [] M Q := by
  obtain ⟨hZ, hS, ⟨Pk, hI⟩, hM⟩ := hL
  refine zY_le (kc' := kc) (ks' := ks) (by omega) (by omega) ?_
  refine zY_aload_n 3 dL_law_1005 rfl rfl ?_
  refine zY_callV (kc := kc) (ks := ks) (mc := 0) (ms := 0) (n' := 3) (As := []) (Q' := fun r M' Z' => Z = Z' ∧ ∃ b : Int, r = some (zI b) ∧ zSat (fX12_within M') (fun e' => e'.1 = b ∧ Inv Pk e'.2)) zc_L_131 (zq_0 hZ) rfl dL_law_1006 (by decide) rfl (Nat.le_of_ble_eq_true rfl) (Nat.le_of_ble_eq_true rfl) rfl (fX11_within_ok hZ (Nat.le_refl _)  (zs_m (zAl_p (c_within hI)) fun e he => ⟨rfl, e, rfl, he⟩)) ?_
  rintro r M1 Z' hc ⟨rfl, b, rfl, hb⟩
  refine zY_aload_n 2 dL_law_1009 rfl rfl ?_
  refine zY_callV (kc := kc) (ks := ks) (mc := 0) (ms := 0) (n' := 2) (As := []) (Q' := fun r M' Z' => Z = Z' ∧ r = some (zI b) ∧ Inv Pk M') zc_L_134 (zq_200 hZ) rfl dL_law_1010 (by decide) rfl (Nat.le_of_ble_eq_true rfl) (Nat.le_of_ble_eq_true rfl) rfl (fX12_within_ok hZ (Nat.le_refl _)  (zs_m hb fun e he => ⟨rfl, by rw [he.1], he.2⟩)) ?_
  rintro r M2 Z' hc2 ⟨rfl, rfl, hI2⟩
  exact zY_icmp_eq 1278 dL_law_1013 (by decide) hc2.1 hc2.1 (fun _ => nx _ _ ⟨hZ, hS, ⟨Pk, hI2⟩, hM.pk hI hI2⟩) (fun c => absurd rfl c)
theorem L_25 {Z : zZ} {M : zMem} (hi : 0 ≤ i ∧ i + 7 ≤ sL) (hL : zLaw sL Z M) (nx : ∀ (Z' : zZ) (M' : zMem), zLaw sL Z' M' → zY (zXl sb sL sx) Ex (zmL nm) 100 kc ks Z' 1278 (zll i) [] M' Q) : zY (zXl sb sL sx) Ex (zmL nm) 100 (kc + 20) (ks + 1260) Z 1018 (zll i) [] M Q := by
  obtain ⟨hZ, hS, ⟨Pk, hI⟩, hM⟩ := hL
  refine zY_le (kc' := kc) (ks' := ks) (by omega) (by omega) ?_
  refine zY_aload_n 3 dL_law_1018 rfl rfl ?_
  refine zY_callV (kc := kc) (ks := ks) (mc := 0) (ms := 0) (n' := 7) (As := []) (Q' := fun r M' Z' => Z = Z' ∧ ∃ b : Int, r = some (zI b) ∧ zSat (fX12_ground M') (fun e' => e'.1 = b ∧ Inv Pk e'.2)) zc_L_135 (zq_0 hZ) rfl dL_law_1019 (by decide) rfl (Nat.le_of_ble_eq_true rfl) (Nat.le_of_ble_eq_true rfl) rfl (fX11_ground_ok hZ (Nat.le_refl _)  (zs_m (c_ground zGL_ok hI) fun e he => ⟨rfl, e.1, rfl, he⟩)) ?_
  rintro r M1 Z' hc ⟨rfl, b, rfl, hb⟩
  refine zY_aload_n 2 dL_law_1022 rfl rfl ?_
  refine zY_callV (kc := kc) (ks := ks) (mc := 0) (ms := 0) (n' := 25) (As := []) (Q' := fun r M' Z' => Z = Z' ∧ r = some (zI b) ∧ Inv Pk M') zc_L_138 (zq_200 hZ) rfl dL_law_1023 (by decide) rfl (Nat.le_of_ble_eq_true rfl) (Nat.le_of_ble_eq_true rfl) rfl (fX12_ground_ok hZ (Nat.le_refl _)  (zs_m hb fun e he => ⟨rfl, by rw [he.1], he.2⟩)) ?_
  rintro r M2 Z' hc2 ⟨rfl, rfl, hI2⟩
  exact zY_icmp_eq 1278 dL_law_1026 (by decide) hc2.1 hc2.1 (fun _ => nx _ _ ⟨hZ, hS, ⟨Pk, hI2⟩, hM.pk hI hI2⟩) (fun c => absurd rfl c)
theorem L_27 {Z : zZ} {M : zMem} (hi : 0 ≤ i ∧ i + 7 ≤ sL) (hL : zLaw sL Z M) (nx : ∀ (Z' : zZ) (M' : zMem), zLaw sL Z' M' → zY (zXl sb sL sx) Ex (zmL nm) 100 kc ks Z' 1278 (zll i) [] M' Q) : zY (zXl sb sL sx) Ex (zmL nm) 100 (kc + 20) (ks + 1260) Z 1087 (zll i) [] M Q := by
  obtain ⟨hZ, hS, ⟨Pk, hI⟩, hM⟩ := hL
  refine zY_le (kc' := kc) (ks' := ks) (by omega) (by omega) ?_
  refine zY_aload_n 3 dL_law_1087 rfl rfl ?_
  refine zY_aload_n 4 dL_law_1088 rfl rfl ?_
  refine zY_iload 0 dL_law_1089 rfl ?_
  refine zY_iconst (v := 1) dL_law_1091 rfl ?_
  refine zY_iadd dL_law_1092 ?_
  refine zY_sld hS ⟨by omega, by omega⟩ dL_law_1093 ?_
  refine zY_callV (kc := kc) (ks := ks) (mc := 0) (ms := 0) (n' := 3) (As := [zI (sx (i + 1).toNat).toInt]) (Q' := fun r M' Z' => Z = Z' ∧ ∃ b : Int, r = some (zI b) ∧ zSat (fX12_spare ((sx (i + 1).toNat).toInt) M') (fun e' => e'.1 = b ∧ Inv Pk e'.2)) zc_L_143 (zq_0 hZ) rfl dL_law_1094 (by decide) rfl (Nat.le_of_ble_eq_true rfl) (Nat.le_of_ble_eq_true rfl) rfl (fX11_spare_ok hZ (Nat.le_refl _) (z32_i _) (zs_m (zAl_p (c_spare hI)) fun e he => ⟨rfl, e, rfl, he⟩)) ?_
  rintro r M1 Z' hc ⟨rfl, b, rfl, hb⟩
  refine zY_aload_n 2 dL_law_1097 rfl rfl ?_
  refine zY_aload_n 4 dL_law_1098 rfl rfl ?_
  refine zY_iload 0 dL_law_1099 rfl ?_
  refine zY_iconst (v := 1) dL_law_1101 rfl ?_
  refine zY_iadd dL_law_1102 ?_
  refine zY_sld hS ⟨by omega, by omega⟩ dL_law_1103 ?_
  refine zY_callV (kc := kc) (ks := ks) (mc := 0) (ms := 0) (n' := 2) (As := [zI (sx (i + 1).toNat).toInt]) (Q' := fun r M' Z' => Z = Z' ∧ r = some (zI b) ∧ Inv Pk M') zc_L_146 (zq_200 hZ) rfl dL_law_1104 (by decide) rfl (Nat.le_of_ble_eq_true rfl) (Nat.le_of_ble_eq_true rfl) rfl (fX12_spare_ok hZ (Nat.le_refl _) (z32_i _) (zs_m hb fun e he => ⟨rfl, by rw [he.1], he.2⟩)) ?_
  rintro r M2 Z' hc2 ⟨rfl, rfl, hI2⟩
  exact zY_icmp_eq 1278 dL_law_1107 (by decide) hc2.1 hc2.1 (fun _ => nx _ _ ⟨hZ, hS, ⟨Pk, hI2⟩, hM.pk hI hI2⟩) (fun c => absurd rfl c)
theorem L_28 {Z : zZ} {M : zMem} (hi : 0 ≤ i ∧ i + 7 ≤ sL) (hL : zLaw sL Z M) (nx : ∀ (Z' : zZ) (M' : zMem), zLaw sL Z' M' → zY (zXl sb sL sx) Ex (zmL nm) 100 kc ks Z' 1278 (zll i) [] M' Q) : zY (zXl sb sL sx) Ex (zmL nm) 100 (kc + 20) (ks + 1260) Z 1112 (zll i) [] M Q := by
  obtain ⟨hZ, hS, ⟨Pk, hI⟩, hM⟩ := hL
  refine zY_le (kc' := kc) (ks' := ks) (by omega) (by omega) ?_
  refine zY_aload_n 3 dL_law_1112 rfl rfl ?_
  refine zY_aload_n 4 dL_law_1113 rfl rfl ?_
  refine zY_iload 0 dL_law_1114 rfl ?_
  refine zY_iconst (v := 1) dL_law_1116 rfl ?_
  refine zY_iadd dL_law_1117 ?_
  refine zY_sld hS ⟨by omega, by omega⟩ dL_law_1118 ?_
  refine zY_aload_n 4 dL_law_1119 rfl rfl ?_
  refine zY_iload 0 dL_law_1120 rfl ?_
  refine zY_iconst (v := 2) dL_law_1122 rfl ?_
  refine zY_iadd dL_law_1123 ?_
  refine zY_sld hS ⟨by omega, by omega⟩ dL_law_1124 ?_
  refine zY_callV (kc := kc) (ks := ks) (mc := 0) (ms := 0) (n' := 2) (As := [zI (sx (i + 1).toNat).toInt, zI (sx (i + 2).toNat).toInt]) (Q' := fun r M' Z' => Z = Z' ∧ ∃ b : Int, r = some (zI b) ∧ zSat (fX12_exchange ((sx (i + 1).toNat).toInt) ((sx (i + 2).toNat).toInt) M') (fun e' => e'.1 = b ∧ Inv Pk e'.2)) zc_L_147 (zq_0 hZ) rfl dL_law_1125 (by decide) rfl (Nat.le_of_ble_eq_true rfl) (Nat.le_of_ble_eq_true rfl) rfl (fX11_exchange_ok hZ (Nat.le_refl _) (z32_i _) (z32_i _) (zs_m (c_exchange hI) fun e he => ⟨rfl, e.1, rfl, he⟩)) ?_
  rintro r M1 Z' hc ⟨rfl, b, rfl, hb⟩
  refine zY_aload_n 2 dL_law_1128 rfl rfl ?_
  refine zY_aload_n 4 dL_law_1129 rfl rfl ?_
  refine zY_iload 0 dL_law_1130 rfl ?_
  refine zY_iconst (v := 1) dL_law_1132 rfl ?_
  refine zY_iadd dL_law_1133 ?_
  refine zY_sld hS ⟨by omega, by omega⟩ dL_law_1134 ?_
  refine zY_aload_n 4 dL_law_1135 rfl rfl ?_
  refine zY_iload 0 dL_law_1136 rfl ?_
  refine zY_iconst (v := 2) dL_law_1138 rfl ?_
  refine zY_iadd dL_law_1139 ?_
  refine zY_sld hS ⟨by omega, by omega⟩ dL_law_1140 ?_
  refine zY_callV (kc := kc) (ks := ks) (mc := 0) (ms := 0) (n' := 2) (As := [zI (sx (i + 1).toNat).toInt, zI (sx (i + 2).toNat).toInt]) (Q' := fun r M' Z' => Z = Z' ∧ r = some (zI b) ∧ Inv Pk M') zc_L_150 (zq_200 hZ) rfl dL_law_1141 (by decide) rfl (Nat.le_of_ble_eq_true rfl) (Nat.le_of_ble_eq_true rfl) rfl (fX12_exchange_ok hZ (Nat.le_refl _) (z32_i _) (z32_i _) (zs_m hb fun e he => ⟨rfl, by rw [he.1], he.2⟩)) ?_
  rintro r M2 Z' hc2 ⟨rfl, rfl, hI2⟩
  exact zY_icmp_eq 1278 dL_law_1144 (by decide) hc2.1 hc2.1 (fun _ => nx _ _ ⟨hZ, hS, ⟨Pk, hI2⟩, hM.pk hI hI2⟩) (fun c => absurd rfl c)
theorem L_29 {Z : zZ} {M : zMem} (hi : 0 ≤ i ∧ i + 7 ≤ sL) (hL : zLaw sL Z M) (nx : ∀ (Z' : zZ) (M' : zMem), zLaw sL Z' M' → zY (zXl sb sL sx) Ex (zmL nm) 100 kc ks Z' 1278 (zll i) [] M' Q) : zY (zXl sb sL sx) Ex (zmL nm) 100 (kc + 20) (ks + 1260) Z 1149 (zll i) [] M Q := by
  obtain ⟨hZ, hS, ⟨Pk, hI⟩, hM⟩ := hL
  refine zY_le (kc' := kc) (ks' := ks) (by omega) (by omega) ?_
  refine zY_aload_n 3 dL_law_1149 rfl rfl ?_
  refine zY_callV (kc := kc) (ks := ks) (mc := 0) (ms := 0) (n' := 1) (As := []) (Q' := fun r M' Z' => Z = Z' ∧ ∃ b : Int, r = some (zI b) ∧ zSat (fX12_moved M') (fun e' => e'.1 = b ∧ Inv Pk e'.2)) zc_L_151 (zq_0 hZ) rfl dL_law_1150 (by decide) rfl (Nat.le_of_ble_eq_true rfl) (Nat.le_of_ble_eq_true rfl) rfl (fX11_moved_ok hZ (Nat.le_refl _)  (zs_m (zAl_p (c_moved hI)) fun e he => ⟨rfl, e, rfl, he⟩)) ?_
  rintro r M1 Z' hc ⟨rfl, b, rfl, hb⟩
  refine zY_aload_n 2 dL_law_1153 rfl rfl ?_
  refine zY_callV (kc := kc) (ks := ks) (mc := 0) (ms := 0) (n' := 1) (As := []) (Q' := fun r M' Z' => Z = Z' ∧ r = some (zI b) ∧ Inv Pk M') zc_L_154 (zq_200 hZ) rfl dL_law_1154 (by decide) rfl (Nat.le_of_ble_eq_true rfl) (Nat.le_of_ble_eq_true rfl) rfl (fX12_moved_ok hZ (Nat.le_refl _)  (zs_m hb fun e he => ⟨rfl, by rw [he.1], he.2⟩)) ?_
  rintro r M2 Z' hc2 ⟨rfl, rfl, hI2⟩
  exact zY_icmp_eq 1278 dL_law_1157 (by decide) hc2.1 hc2.1 (fun _ => nx _ _ ⟨hZ, hS, ⟨Pk, hI2⟩, hM.pk hI hI2⟩) (fun c => absurd rfl c)
theorem L_30 {Z : zZ} {M : zMem} (hi : 0 ≤ i ∧ i + 7 ≤ sL) (hL : zLaw sL Z M) (nx : ∀ (Z' : zZ) (M' : zMem), zLaw sL Z' M' → zY (zXl sb sL sx) Ex (zmL nm) 100 kc ks Z' 1278 (zll i) [] M' Q) : zY (zXl sb sL sx) Ex (zmL nm) 100 (kc + 20) (ks + 1260) Z 1162 (zll i) [] M Q := by
  obtain ⟨hZ, hS, ⟨Pk, hI⟩, hM⟩ := hL
  refine zY_le (kc' := kc) (ks' := ks) (by omega) (by omega) ?_
  refine zY_aload_n 3 dL_law_1162 rfl rfl ?_
  refine zY_callV (kc := kc) (ks := ks) (mc := 0) (ms := 0) (n' := 5) (As := []) (Q' := fun r M' Z' => Z = Z' ∧ ∃ b : Int, r = some (zI b) ∧ zSat (fX12_order M') (fun e' => e'.1 = b ∧ Inv Pk e'.2)) zc_L_155 (zq_0 hZ) rfl dL_law_1163 (by decide) rfl (Nat.le_of_ble_eq_true rfl) (Nat.le_of_ble_eq_true rfl) rfl (fX11_order_ok hZ (Nat.le_refl _)  (zs_m (c_order hI) fun e he => ⟨rfl, e.1, rfl, he⟩)) ?_
  rintro r M1 Z' hc ⟨rfl, b, rfl, hb⟩
  refine zY_aload_n 2 dL_law_1166 rfl rfl ?_
  refine zY_callV (kc := kc) (ks := ks) (mc := 0) (ms := 0) (n' := 23) (As := []) (Q' := fun r M' Z' => Z = Z' ∧ r = some (zI b) ∧ Inv Pk M') zc_L_158 (zq_200 hZ) rfl dL_law_1167 (by decide) rfl (Nat.le_of_ble_eq_true rfl) (Nat.le_of_ble_eq_true rfl) rfl (fX12_order_ok hZ (Nat.le_refl _)  (zs_m hb fun e he => ⟨rfl, by rw [he.1], he.2⟩)) ?_
  rintro r M2 Z' hc2 ⟨rfl, rfl, hI2⟩
  exact zY_icmp_eq 1278 dL_law_1170 (by decide) hc2.1 hc2.1 (fun _ => nx _ _ ⟨hZ, hS, ⟨Pk, hI2⟩, hM.pk hI hI2⟩) (fun c => absurd rfl c)
theorem L_31 {Z : zZ} {M : zMem} (hi : 0 ≤ i ∧ i + 7 ≤ sL) (hL : zLaw sL Z M) (nx : ∀ (Z' : zZ) (M' : zMem), zLaw sL Z' M' → zY (zXl sb sL sx) Ex (zmL nm) 100 kc ks Z' 1278 (zll i) [] M' Q) : zY (zXl sb sL sx) Ex (zmL nm) 100 (kc + 20) (ks + 1260) Z 1175 (zll i) [] M Q := by
  obtain ⟨hZ, hS, ⟨Pk, hI⟩, hM⟩ := hL
  refine zY_le (kc' := kc) (ks' := ks) (by omega) (by omega) ?_
  refine zY_aload_n 3 dL_law_1175 rfl rfl ?_
  refine zY_aload_n 4 dL_law_1176 rfl rfl ?_
  refine zY_iload 0 dL_law_1177 rfl ?_
  refine zY_iconst (v := 1) dL_law_1179 rfl ?_
  refine zY_iadd dL_law_1180 ?_
  refine zY_sld hS ⟨by omega, by omega⟩ dL_law_1181 ?_
  refine zY_callV (kc := kc) (ks := ks) (mc := 0) (ms := 0) (n' := 5) (As := [zI (sx (i + 1).toNat).toInt]) (Q' := fun r M' Z' => Z = Z' ∧ ∃ b : Int, r = some (zI b) ∧ zSat (fX12_ordered ((sx (i + 1).toNat).toInt) M') (fun e' => e'.1 = b ∧ Inv Pk e'.2)) zc_L_159 (zq_0 hZ) rfl dL_law_1182 (by decide) rfl (Nat.le_of_ble_eq_true rfl) (Nat.le_of_ble_eq_true rfl) rfl (fX11_ordered_ok hZ (Nat.le_refl _) (z32_i _) (zs_m (c_ordered hI) fun e he => ⟨rfl, e.1, rfl, he⟩)) ?_
  rintro r M1 Z' hc ⟨rfl, b, rfl, hb⟩
  refine zY_aload_n 2 dL_law_1185 rfl rfl ?_
  refine zY_aload_n 4 dL_law_1186 rfl rfl ?_
  refine zY_iload 0 dL_law_1187 rfl ?_
  refine zY_iconst (v := 1) dL_law_1189 rfl ?_
  refine zY_iadd dL_law_1190 ?_
  refine zY_sld hS ⟨by omega, by omega⟩ dL_law_1191 ?_
  refine zY_callV (kc := kc) (ks := ks) (mc := 0) (ms := 0) (n' := 23) (As := [zI (sx (i + 1).toNat).toInt]) (Q' := fun r M' Z' => Z = Z' ∧ r = some (zI b) ∧ Inv Pk M') zc_L_162 (zq_200 hZ) rfl dL_law_1192 (by decide) rfl (Nat.le_of_ble_eq_true rfl) (Nat.le_of_ble_eq_true rfl) rfl (fX12_ordered_ok hZ (Nat.le_refl _) (z32_i _) (zs_m hb fun e he => ⟨rfl, by rw [he.1], he.2⟩)) ?_
  rintro r M2 Z' hc2 ⟨rfl, rfl, hI2⟩
  exact zY_icmp_eq 1278 dL_law_1195 (by decide) hc2.1 hc2.1 (fun _ => nx _ _ ⟨hZ, hS, ⟨Pk, hI2⟩, hM.pk hI hI2⟩) (fun c => absurd rfl c)
theorem L_33 {Z : zZ} {M : zMem} (hi : 0 ≤ i ∧ i + 7 ≤ sL) (hL : zLaw sL Z M) (nx : ∀ (Z' : zZ) (M' : zMem), zLaw sL Z' M' → zY (zXl sb sL sx) Ex (zmL nm) 100 kc ks Z' 1278 (zll i) [] M' Q) : zY (zXl sb sL sx) Ex (zmL nm) 100 (kc + 20) (ks + 1260) Z 1253 (zll i) [] M Q := by
  obtain ⟨hZ, hS, ⟨Pk, hI⟩, hM⟩ := hL
  refine zY_le (kc' := kc) (ks' := ks) (by omega) (by omega) ?_
  refine zY_aload_n 3 dL_law_1253 rfl rfl ?_
  refine zY_aload_n 4 dL_law_1254 rfl rfl ?_
  refine zY_iload 0 dL_law_1255 rfl ?_
  refine zY_iconst (v := 1) dL_law_1257 rfl ?_
  refine zY_iadd dL_law_1258 ?_
  refine zY_sld hS ⟨by omega, by omega⟩ dL_law_1259 ?_
  refine zY_callV (kc := kc) (ks := ks) (mc := 0) (ms := 0) (n' := 0) (As := [zI (sx (i + 1).toNat).toInt]) (Q' := fun r M' Z' => Z = Z' ∧ ∃ b : Int, r = some (zI b) ∧ zSat (fX12_count ((sx (i + 1).toNat).toInt) M') (fun e' => e'.1 = b ∧ Inv Pk e'.2)) zc_L_168 (zq_0 hZ) rfl dL_law_1260 (by decide) rfl (Nat.le_of_ble_eq_true rfl) (Nat.le_of_ble_eq_true rfl) rfl (fX11_count_ok hZ (Nat.le_refl _) (z32_i _) (zs_m (zAl_p (c_count hI)) fun e he => ⟨rfl, e, rfl, he⟩)) ?_
  rintro r M1 Z' hc ⟨rfl, b, rfl, hb⟩
  refine zY_aload_n 2 dL_law_1263 rfl rfl ?_
  refine zY_aload_n 4 dL_law_1264 rfl rfl ?_
  refine zY_iload 0 dL_law_1265 rfl ?_
  refine zY_iconst (v := 1) dL_law_1267 rfl ?_
  refine zY_iadd dL_law_1268 ?_
  refine zY_sld hS ⟨by omega, by omega⟩ dL_law_1269 ?_
  refine zY_callV (kc := kc) (ks := ks) (mc := 0) (ms := 0) (n' := 1) (As := [zI (sx (i + 1).toNat).toInt]) (Q' := fun r M' Z' => Z = Z' ∧ r = some (zI b) ∧ Inv Pk M') zc_L_171 (zq_200 hZ) rfl dL_law_1270 (by decide) rfl (Nat.le_of_ble_eq_true rfl) (Nat.le_of_ble_eq_true rfl) rfl (fX12_count_ok hZ (Nat.le_refl _) (z32_i _) (zs_m hb fun e he => ⟨rfl, by rw [he.1], he.2⟩)) ?_
  rintro r M2 Z' hc2 ⟨rfl, rfl, hI2⟩
  exact zY_icmp_eq 1278 dL_law_1273 (by decide) hc2.1 hc2.1 (fun _ => nx _ _ ⟨hZ, hS, ⟨Pk, hI2⟩, hM.pk hI hI2⟩) (fun c => absurd rfl c)
theorem L_32 {Z : zZ} {M : zMem} (hi : 0 ≤ i ∧ i + 7 ≤ sL) (hL : zLaw sL Z M) (nx : ∀ (Z' : zZ) (M' : zMem), zLaw sL Z' M' → zY (zXl sb sL sx) Ex (zmL nm) 100 kc ks Z' 1278 (zll i) [] M' Q) : zY (zXl sb sL sx) Ex (zmL nm) 100 (kc + 20) (ks + 1260) Z 1200 (zll i) [] M Q := by
  obtain ⟨hZ, hS, ⟨Pk, hI⟩, hM⟩ := hL
  refine zY_aload_n 3 dL_law_1200 rfl rfl ?_
  refine zY_aload_n 4 dL_law_1201 rfl rfl ?_
  refine zY_iload 0 dL_law_1202 rfl ?_
  refine zY_iconst (v := 1) dL_law_1204 rfl ?_
  refine zY_iadd dL_law_1205 ?_
  refine zY_sld hS ⟨by omega, by omega⟩ dL_law_1206 ?_
  refine zY_aload_n 4 dL_law_1207 rfl rfl ?_
  refine zY_iload 0 dL_law_1208 rfl ?_
  refine zY_iconst (v := 2) dL_law_1210 rfl ?_
  refine zY_iadd dL_law_1211 ?_
  refine zY_sld hS ⟨by omega, by omega⟩ dL_law_1212 ?_
  refine zY_if_eq 1220 dL_law_1213 (by decide) (z32_i _) (fun c0 => ?_) (fun c0 => ?_)
  · have hx2 : (0 : Int) = 0 ∨ (0 : Int) = 1 := by decide
    refine zY_iconst (v := 0) dL_law_1220 rfl ?_
    refine zY_callV (kc := kc) (ks := ks) (mc := 20) (ms := 1260) (n' := 4) (As := [zI (sx (i + 1).toNat).toInt, zI 0]) (Q' := zQm Z (sx (i + 1).toNat).toInt 0) zc_L_163 (zq_0 hZ) rfl dL_law_1221 (by decide) rfl (Nat.le_of_ble_eq_true rfl) (Nat.le_of_ble_eq_true rfl) rfl (v_mark hZ (Nat.le_refl _) hI hM (z32_i _) hx2) ?_
    rintro r M1 Z1 hc ⟨b, rfl, hb, hZ1, e30, e13, hq⟩
    have hS := e13.trans hS
    refine zY_aload_n 2 dL_law_1224 rfl rfl ?_
    refine zY_aload_n 4 dL_law_1225 rfl rfl ?_
    refine zY_iload 0 dL_law_1226 rfl ?_
    refine zY_iconst (v := 1) dL_law_1228 rfl ?_
    refine zY_iadd dL_law_1229 ?_
    refine zY_sld hS ⟨by omega, by omega⟩ dL_law_1230 ?_
    refine zY_aload_n 4 dL_law_1231 rfl rfl ?_
    refine zY_iload 0 dL_law_1232 rfl ?_
    refine zY_iconst (v := 2) dL_law_1234 rfl ?_
    refine zY_iadd dL_law_1235 ?_
    refine zY_sld hS ⟨by omega, by omega⟩ dL_law_1236 ?_
    refine zY_if_eq 1244 dL_law_1237 (by decide) (z32_i _) (fun c1 => ?_) (fun c1 => ?_)
    rotate_left
    · exact absurd c0 c1
    refine zY_iconst (v := 0) dL_law_1244 rfl ?_
    refine zY_callV (kc := kc) (ks := ks) (mc := 0) (ms := 0) (n' := 1) (As := [zI (sx (i + 1).toNat).toInt, zI 0]) (Q' := fun r M' Z' => Z1 = Z' ∧ r = some (zI b) ∧ (∃ P : zMem, Inv P M') ∧ zMz Z1 M') zc_L_167 (zq_200 hZ1) rfl dL_law_1245 (by decide) rfl (Nat.le_of_ble_eq_true rfl) (Nat.le_of_ble_eq_true rfl) rfl (fX12_mark_ok hZ1 (Nat.le_refl _) (z32_i _) (z32_01 hx2) hx2 (zs_m hq fun e he => ⟨rfl, by rw [he.1], he.2⟩)) ?_
    rintro r M2 Z' hc2 ⟨rfl, rfl, hI2, hM2⟩
    exact zY_icmp_eq 1278 dL_law_1248 (by decide) hc2.1 hc2.1 (fun _ => nx _ _ ⟨hZ1, hS, hI2, hM2⟩) (fun c => absurd rfl c)
  · have hx2 : (1 : Int) = 0 ∨ (1 : Int) = 1 := by decide
    refine zY_iconst (v := 1) dL_law_1216 rfl ?_
    refine zY_goto 1221 dL_law_1217 (by decide) ?_
    refine zY_callV (kc := kc) (ks := ks) (mc := 20) (ms := 1260) (n' := 4) (As := [zI (sx (i + 1).toNat).toInt, zI 1]) (Q' := zQm Z (sx (i + 1).toNat).toInt 1) zc_L_163 (zq_0 hZ) rfl dL_law_1221 (by decide) rfl (Nat.le_of_ble_eq_true rfl) (Nat.le_of_ble_eq_true rfl) rfl (v_mark hZ (Nat.le_refl _) hI hM (z32_i _) hx2) ?_
    rintro r M1 Z1 hc ⟨b, rfl, hb, hZ1, e30, e13, hq⟩
    have hS := e13.trans hS
    refine zY_aload_n 2 dL_law_1224 rfl rfl ?_
    refine zY_aload_n 4 dL_law_1225 rfl rfl ?_
    refine zY_iload 0 dL_law_1226 rfl ?_
    refine zY_iconst (v := 1) dL_law_1228 rfl ?_
    refine zY_iadd dL_law_1229 ?_
    refine zY_sld hS ⟨by omega, by omega⟩ dL_law_1230 ?_
    refine zY_aload_n 4 dL_law_1231 rfl rfl ?_
    refine zY_iload 0 dL_law_1232 rfl ?_
    refine zY_iconst (v := 2) dL_law_1234 rfl ?_
    refine zY_iadd dL_law_1235 ?_
    refine zY_sld hS ⟨by omega, by omega⟩ dL_law_1236 ?_
    refine zY_if_eq 1244 dL_law_1237 (by decide) (z32_i _) (fun c1 => ?_) (fun c1 => ?_)
    · exact absurd c1 c0
    refine zY_iconst (v := 1) dL_law_1240 rfl ?_
    refine zY_goto 1245 dL_law_1241 (by decide) ?_
    refine zY_callV (kc := kc) (ks := ks) (mc := 0) (ms := 0) (n' := 1) (As := [zI (sx (i + 1).toNat).toInt, zI 1]) (Q' := fun r M' Z' => Z1 = Z' ∧ r = some (zI b) ∧ (∃ P : zMem, Inv P M') ∧ zMz Z1 M') zc_L_167 (zq_200 hZ1) rfl dL_law_1245 (by decide) rfl (Nat.le_of_ble_eq_true rfl) (Nat.le_of_ble_eq_true rfl) rfl (fX12_mark_ok hZ1 (Nat.le_refl _) (z32_i _) (z32_01 hx2) hx2 (zs_m hq fun e he => ⟨rfl, by rw [he.1], he.2⟩)) ?_
    rintro r M2 Z' hc2 ⟨rfl, rfl, hI2, hM2⟩
    exact zY_icmp_eq 1278 dL_law_1248 (by decide) hc2.1 hc2.1 (fun _ => nx _ _ ⟨hZ1, hS, hI2, hM2⟩) (fun c => absurd rfl c)
theorem L_10 {Z : zZ} {M : zMem} (hi : 0 ≤ i ∧ i + 7 ≤ sL) (hL : zLaw sL Z M) (nx : ∀ (Z' : zZ) (M' : zMem), zLaw sL Z' M' → zY (zXl sb sL sx) Ex (zmL nm) 100 kc ks Z' 1278 (zll i) [] M' Q) : zY (zXl sb sL sx) Ex (zmL nm) 100 (kc + 20) (ks + 1260) Z 648 (zll i) [] M Q := by
  obtain ⟨hZ, hS, ⟨Pk, hI⟩, hM⟩ := hL
  refine zY_le (kc' := kc + 1) (ks' := ks + 6) (by omega) (by omega) ?_
  refine zY_aload_n 3 dL_law_648 rfl rfl ?_
  refine zY_aload_n 4 dL_law_649 rfl rfl ?_
  refine zY_iload 0 dL_law_650 rfl ?_
  refine zY_iconst (v := 1) dL_law_652 rfl ?_
  refine zY_iadd dL_law_653 ?_
  refine zY_sld hS ⟨by omega, by omega⟩ dL_law_654 ?_
  refine zY_aload_n 4 dL_law_655 rfl rfl ?_
  refine zY_iload 0 dL_law_656 rfl ?_
  refine zY_iconst (v := 2) dL_law_658 rfl ?_
  refine zY_iadd dL_law_659 ?_
  refine zY_sld hS ⟨by omega, by omega⟩ dL_law_660 ?_
  refine zY_aload_n 1 dL_law_661 rfl rfl ?_
  refine zY_callSW (y' := zmL_why) (hh := [(0, 10, 13, 13)]) (kc := kc) (ks := ks) (mc := 1) (ms := 6) (n' := 7) (na := 4) (As := [zR 0, zI (sx (i + 1).toNat).toInt, zI (sx (i + 2).toNat).toInt, zR 300]) (Q' := zQk Pk (fX12_why ((sx (i + 1).toNat).toInt) ((sx (i + 2).toNat).toInt)) Z) zkm_L_70 zkt_L_why zkw_L_why zki_L (by decide +kernel) (by decide +kernel) (by decide) dL_law_662 (by decide) rfl (Nat.le_of_ble_eq_true rfl) (Nat.le_of_ble_eq_true rfl) rfl (v_Lwhy hZ hI (z32_i _) (z32_i _)) ?_
  rintro r M1 Z' hc ⟨rfl, k, rfl, hk⟩
  refine zY_istore [(5, zI k), (4, zI i), (3, zR 300), (2, zR 200), (1, zR 0), (0, zR 1003)] dL_law_665 (Nat.le_of_ble_eq_true rfl) rfl ?_
  refine zY_aload_n 3 dL_law_667 rfl rfl ?_
  refine zY_aload_n 5 dL_law_668 rfl rfl ?_
  refine zY_iload 1 dL_law_669 rfl ?_
  refine zY_iconst (v := 1) dL_law_671 rfl ?_
  refine zY_iadd dL_law_672 ?_
  refine zY_sld hS ⟨by omega, by omega⟩ dL_law_673 ?_
  refine zY_aload_n 5 dL_law_674 rfl rfl ?_
  refine zY_iload 1 dL_law_675 rfl ?_
  refine zY_iconst (v := 2) dL_law_677 rfl ?_
  refine zY_iadd dL_law_678 ?_
  refine zY_sld hS ⟨by omega, by omega⟩ dL_law_679 ?_
  have hk' : zSat (fX12_why ((sx (i + 1).toNat).toInt) ((sx (i + 2).toNat).toInt) M1) (fun e' => e'.2 200 0 = k ∧ (k = 0 ∨ k = 1) ∧ (k = 0 → e'.2 300 0 = e'.1) ∧ Inv Pk e'.2) := by
    rcases hk with ⟨rfl, h⟩ | ⟨rfl, h⟩
    · exact zs_m h fun e he => ⟨he.1, Or.inl rfl, fun _ => he.2.1, he.2.2⟩
    · exact zs_m h fun e he => ⟨he.1, Or.inr rfl, fun q => absurd q (by decide), he.2⟩
  refine zY_callV (kc := kc) (ks := ks) (mc := 0) (ms := 0) (n' := 4) (As := [zI (sx (i + 1).toNat).toInt, zI (sx (i + 2).toNat).toInt]) (Q' := fun r M' Z' => Z = Z' ∧ ∃ b : Int, r = some (zI b) ∧ M' 200 0 = k ∧ (k = 0 ∨ k = 1) ∧ (k = 0 → M' 300 0 = b) ∧ Inv Pk M') zc_L_75 (zq_200 hZ) rfl dL_law_680 (by decide) rfl (Nat.le_of_ble_eq_true rfl) (Nat.le_of_ble_eq_true rfl) rfl (fX12_why_ok hZ (Nat.le_refl _) (z32_i _) (z32_i _) (zs_m hk' fun e he => ⟨rfl, e.1, rfl, he⟩)) ?_
  rintro r M2 Z' hc2 ⟨rfl, b, rfl, ht, hk0, ho, hI2⟩
  refine zY_istore [(6, zI b), (5, zI k), (4, zI i), (3, zR 300), (2, zR 200), (1, zR 0), (0, zR 1003)] dL_law_683 (Nat.le_of_ble_eq_true rfl) rfl ?_
  refine zY_aload_n 4 dL_law_685 rfl rfl ?_
  refine zY_callV (kc := kc) (ks := ks) (mc := 0) (ms := 0) (n' := 0) (As := []) (Q' := fun r M' Z' => M2 = M' ∧ Z = Z' ∧ r = some (zI k)) zc_L_76 (zq_200 hZ) rfl dL_law_686 (by decide) rfl (Nat.le_of_ble_eq_true rfl) (Nat.le_of_ble_eq_true rfl) rfl (fX12_thrown_ok hZ (Nat.le_refl _) (zOk1 ⟨rfl, rfl, by rw [ht]⟩)) ?_
  rintro r M3 Z' hc3 ⟨rfl, rfl, rfl⟩
  refine zY_iload 1 dL_law_689 rfl ?_
  refine zY_icmp_eq 696 dL_law_691 (by decide) hc3.1 hc3.1 (fun _ => ?_) (fun c => absurd rfl c)
  refine zY_iload 1 dL_law_696 rfl ?_
  have fin : zY (zXl sb sL sx) Ex (zmL nm) 100 kc ks Z 713 [(6, zI b), (5, zI k), (4, zI i), (3, zR 300), (2, zR 200), (1, zR 0), (0, zR 1003)] [] M2 Q := by
    refine zY_goto 1278 dL_law_713 (by decide) ?_
    refine zY_ls [2, 3, 4, 5, 6] rfl ?_
    exact nx _ _ ⟨hZ, hS, ⟨Pk, hI2⟩, hM.pk hI hI2⟩
  refine zY_if_ne 713 dL_law_698 (by decide) hc3.1 (fun _ => fin) (fun c => ?_)
  refine zY_aload_n 3 dL_law_701 rfl rfl ?_
  refine zY_iconst (v := 0) dL_law_702 rfl ?_
  refine zY_lald (zq_300 hZ) ⟨by decide, by decide⟩ dL_law_703 (fun h64 => ?_)
  refine zY_iload 0 dL_law_704 rfl ?_
  refine zY_i2l dL_law_706 hc2.1 ?_
  refine zY_lcmp dL_law_707 h64 (z64_32 hc2.1) ?_
  exact zY_lifeq 713 dL_law_708 (by decide) (fun _ => fin) (fun q => absurd (ho c) q)
theorem L_26 {Z : zZ} {M : zMem} (hi : 0 ≤ i ∧ i + 7 ≤ sL) (hL : zLaw sL Z M) (nx : ∀ (Z' : zZ) (M' : zMem), zLaw sL Z' M' → zY (zXl sb sL sx) Ex (zmL nm) 100 kc ks Z' 1278 (zll i) [] M' Q) : zY (zXl sb sL sx) Ex (zmL nm) 100 (kc + 20) (ks + 1260) Z 1031 (zll i) [] M Q := by
  obtain ⟨hZ, hS, ⟨Pk, hI⟩, hM⟩ := hL
  refine zY_le (kc' := kc + 1) (ks' := ks + 6) (by omega) (by omega) ?_
  refine zY_aload_n 3 dL_law_1031 rfl rfl ?_
  refine zY_aload_n 4 dL_law_1032 rfl rfl ?_
  refine zY_iload 0 dL_law_1033 rfl ?_
  refine zY_iconst (v := 1) dL_law_1035 rfl ?_
  refine zY_iadd dL_law_1036 ?_
  refine zY_sld hS ⟨by omega, by omega⟩ dL_law_1037 ?_
  refine zY_aload_n 1 dL_law_1038 rfl rfl ?_
  refine zY_callSW (y' := zmL_groundOf) (hh := [(0, 9, 12, 13)]) (kc := kc) (ks := ks) (mc := 1) (ms := 6) (n' := 8) (na := 3) (As := [zR 0, zI (sx (i + 1).toNat).toInt, zR 300]) (Q' := zQk Pk (fX12_groundOf ((sx (i + 1).toNat).toInt)) Z) zkm_L_139 zkt_L_groundOf zkw_L_groundOf zki_L (by decide +kernel) (by decide +kernel) (by decide) dL_law_1039 (by decide) rfl (Nat.le_of_ble_eq_true rfl) (Nat.le_of_ble_eq_true rfl) rfl (v_LgroundOf hZ hI (z32_i _)) ?_
  rintro r M1 Z' hc ⟨rfl, k, rfl, hk⟩
  refine zY_istore [(5, zI k), (4, zI i), (3, zR 300), (2, zR 200), (1, zR 0), (0, zR 1003)] dL_law_1042 (Nat.le_of_ble_eq_true rfl) rfl ?_
  refine zY_aload_n 3 dL_law_1044 rfl rfl ?_
  refine zY_aload_n 5 dL_law_1045 rfl rfl ?_
  refine zY_iload 1 dL_law_1046 rfl ?_
  refine zY_iconst (v := 1) dL_law_1048 rfl ?_
  refine zY_iadd dL_law_1049 ?_
  refine zY_sld hS ⟨by omega, by omega⟩ dL_law_1050 ?_
  have hk' : zSat (fX12_groundOf ((sx (i + 1).toNat).toInt) M1) (fun e' => e'.2 200 0 = k ∧ (k = 0 ∨ k = 1) ∧ (k = 0 → e'.2 300 0 = e'.1) ∧ Inv Pk e'.2) := by
    rcases hk with ⟨rfl, h⟩ | ⟨rfl, h⟩
    · exact zs_m h fun e he => ⟨he.1, Or.inl rfl, fun _ => he.2.1, he.2.2⟩
    · exact zs_m h fun e he => ⟨he.1, Or.inr rfl, fun q => absurd q (by decide), he.2⟩
  refine zY_callV (kc := kc) (ks := ks) (mc := 0) (ms := 0) (n' := 25) (As := [zI (sx (i + 1).toNat).toInt]) (Q' := fun r M' Z' => Z = Z' ∧ ∃ b : Int, r = some (zI b) ∧ M' 200 0 = k ∧ (k = 0 ∨ k = 1) ∧ (k = 0 → M' 300 0 = b) ∧ Inv Pk M') zc_L_142 (zq_200 hZ) rfl dL_law_1051 (by decide) rfl (Nat.le_of_ble_eq_true rfl) (Nat.le_of_ble_eq_true rfl) rfl (fX12_groundOf_ok hZ (Nat.le_refl _) (z32_i _) (zs_m hk' fun e he => ⟨rfl, e.1, rfl, he⟩)) ?_
  rintro r M2 Z' hc2 ⟨rfl, b, rfl, ht, hk0, ho, hI2⟩
  refine zY_istore [(6, zI b), (5, zI k), (4, zI i), (3, zR 300), (2, zR 200), (1, zR 0), (0, zR 1003)] dL_law_1054 (Nat.le_of_ble_eq_true rfl) rfl ?_
  refine zY_aload_n 4 dL_law_1056 rfl rfl ?_
  refine zY_callV (kc := kc) (ks := ks) (mc := 0) (ms := 0) (n' := 0) (As := []) (Q' := fun r M' Z' => M2 = M' ∧ Z = Z' ∧ r = some (zI k)) zc_L_76 (zq_200 hZ) rfl dL_law_1057 (by decide) rfl (Nat.le_of_ble_eq_true rfl) (Nat.le_of_ble_eq_true rfl) rfl (fX12_thrown_ok hZ (Nat.le_refl _) (zOk1 ⟨rfl, rfl, by rw [ht]⟩)) ?_
  rintro r M3 Z' hc3 ⟨rfl, rfl, rfl⟩
  refine zY_iload 1 dL_law_1060 rfl ?_
  refine zY_icmp_eq 1067 dL_law_1062 (by decide) hc3.1 hc3.1 (fun _ => ?_) (fun c => absurd rfl c)
  refine zY_iload 1 dL_law_1067 rfl ?_
  have fin : zY (zXl sb sL sx) Ex (zmL nm) 100 kc ks Z 1084 [(6, zI b), (5, zI k), (4, zI i), (3, zR 300), (2, zR 200), (1, zR 0), (0, zR 1003)] [] M2 Q := by
    refine zY_goto 1278 dL_law_1084 (by decide) ?_
    refine zY_ls [2, 3, 4, 5, 6] rfl ?_
    exact nx _ _ ⟨hZ, hS, ⟨Pk, hI2⟩, hM.pk hI hI2⟩
  refine zY_if_ne 1084 dL_law_1069 (by decide) hc3.1 (fun _ => fin) (fun c => ?_)
  refine zY_aload_n 3 dL_law_1072 rfl rfl ?_
  refine zY_iconst (v := 0) dL_law_1073 rfl ?_
  refine zY_lald (zq_300 hZ) ⟨by decide, by decide⟩ dL_law_1074 (fun h64 => ?_)
  refine zY_iload 0 dL_law_1075 rfl ?_
  refine zY_i2l dL_law_1077 hc2.1 ?_
  refine zY_lcmp dL_law_1078 h64 (z64_32 hc2.1) ?_
  exact zY_lifeq 1084 dL_law_1079 (by decide) (fun _ => fin) (fun q => absurd (ho c) q)
end LC
