theorem dX0_init_0 : decode cX0_init 0 = .ok (.aload_n 0, 1) := by decide +kernel
theorem dX0_init_1 : decode cX0_init 1 = .ok (.invokespecial 3, 3) := by decide +kernel
theorem dX0_init_4 : decode cX0_init 4 = .ok (.aload_n 0, 1) := by decide +kernel
theorem dX0_init_5 : decode cX0_init 5 = .ok (.bipush 8, 2) := by decide +kernel
theorem dX0_init_7 : decode cX0_init 7 = .ok (.newarray .int, 2) := by decide +kernel
theorem dX0_init_9 : decode cX0_init 9 = .ok (.putfield 9, 3) := by decide +kernel
theorem dX0_init_12 : decode cX0_init 12 = .ok (.aload_n 0, 1) := by decide +kernel
theorem dX0_init_13 : decode cX0_init 13 = .ok (.bipush 8, 2) := by decide +kernel
theorem dX0_init_15 : decode cX0_init 15 = .ok (.newarray .int, 2) := by decide +kernel
theorem dX0_init_17 : decode cX0_init 17 = .ok (.putfield 15, 3) := by decide +kernel
theorem dX0_init_20 : decode cX0_init 20 = .ok (.aload_n 0, 1) := by decide +kernel
theorem dX0_init_21 : decode cX0_init 21 = .ok (.bipush 9, 2) := by decide +kernel
theorem dX0_init_23 : decode cX0_init 23 = .ok (.newarray .int, 2) := by decide +kernel
theorem dX0_init_25 : decode cX0_init 25 = .ok (.putfield 18, 3) := by decide +kernel
theorem dX0_init_28 : decode cX0_init 28 = .ok (.aload_n 0, 1) := by decide +kernel
theorem dX0_init_29 : decode cX0_init 29 = .ok (.bipush 8, 2) := by decide +kernel
theorem dX0_init_31 : decode cX0_init 31 = .ok (.newarray .int, 2) := by decide +kernel
theorem dX0_init_33 : decode cX0_init 33 = .ok (.putfield 21, 3) := by decide +kernel
theorem dX0_init_36 : decode cX0_init 36 = .ok (.aload_n 0, 1) := by decide +kernel
theorem dX0_init_37 : decode cX0_init 37 = .ok (.aload_n 1, 1) := by decide +kernel
theorem dX0_init_38 : decode cX0_init 38 = .ok (.putfield 24, 3) := by decide +kernel
theorem dX0_init_41 : decode cX0_init 41 = .ok (.aload_n 0, 1) := by decide +kernel
theorem dX0_init_42 : decode cX0_init 42 = .ok (.aload_n 2, 1) := by decide +kernel
theorem dX0_init_43 : decode cX0_init 43 = .ok (.putfield 28, 3) := by decide +kernel
theorem dX0_init_46 : decode cX0_init 46 = .ok (.aload_n 0, 1) := by decide +kernel
theorem dX0_init_47 : decode cX0_init 47 = .ok (.aload_n 3, 1) := by decide +kernel
theorem dX0_init_48 : decode cX0_init 48 = .ok (.putfield 32, 3) := by decide +kernel
theorem dX0_init_51 : decode cX0_init 51 = .ok (.return_, 1) := by decide +kernel
theorem dX0_fewestLifts_0 : decode cX0_fewestLifts 0 = .ok (.aload_n 0, 1) := by decide +kernel
theorem dX0_fewestLifts_1 : decode cX0_fewestLifts 1 = .ok (.invokevirtual 36, 3) := by decide +kernel
theorem dX0_fewestLifts_4 : decode cX0_fewestLifts 4 = .ok (.ifCond .eq 20, 3) := by decide +kernel
theorem dX0_fewestLifts_7 : decode cX0_fewestLifts 7 = .ok (.aload_n 0, 1) := by decide +kernel
theorem dX0_fewestLifts_8 : decode cX0_fewestLifts 8 = .ok (.getfield 40, 3) := by decide +kernel
theorem dX0_fewestLifts_11 : decode cX0_fewestLifts 11 = .ok (.sipush 1000, 3) := by decide +kernel
theorem dX0_fewestLifts_14 : decode cX0_fewestLifts 14 = .ok (.if_icmp .ge 10, 3) := by decide +kernel
theorem dX0_fewestLifts_17 : decode cX0_fewestLifts 17 = .ok (.aload_n 0, 1) := by decide +kernel
theorem dX0_fewestLifts_18 : decode cX0_fewestLifts 18 = .ok (.getfield 40, 3) := by decide +kernel
theorem dX0_fewestLifts_21 : decode cX0_fewestLifts 21 = .ok (.goto 4, 3) := by decide +kernel
theorem dX0_fewestLifts_24 : decode cX0_fewestLifts 24 = .ok (.iconst (-1), 1) := by decide +kernel
theorem dX0_fewestLifts_25 : decode cX0_fewestLifts 25 = .ok (.ireturn, 1) := by decide +kernel
theorem dX0_farthest_0 : decode cX0_farthest 0 = .ok (.aload_n 0, 1) := by decide +kernel
theorem dX0_farthest_1 : decode cX0_farthest 1 = .ok (.invokevirtual 36, 3) := by decide +kernel
theorem dX0_farthest_4 : decode cX0_farthest 4 = .ok (.ifCond .eq 10, 3) := by decide +kernel
theorem dX0_farthest_7 : decode cX0_farthest 7 = .ok (.aload_n 0, 1) := by decide +kernel
theorem dX0_farthest_8 : decode cX0_farthest 8 = .ok (.getfield 44, 3) := by decide +kernel
theorem dX0_farthest_11 : decode cX0_farthest 11 = .ok (.goto 4, 3) := by decide +kernel
theorem dX0_farthest_14 : decode cX0_farthest 14 = .ok (.iconst (-1), 1) := by decide +kernel
theorem dX0_farthest_15 : decode cX0_farthest 15 = .ok (.ireturn, 1) := by decide +kernel
theorem dX0_fingerOf_0 : decode cX0_fingerOf 0 = .ok (.aload_n 0, 1) := by decide +kernel
theorem dX0_fingerOf_1 : decode cX0_fingerOf 1 = .ok (.invokevirtual 36, 3) := by decide +kernel
theorem dX0_fingerOf_4 : decode cX0_fingerOf 4 = .ok (.ifCond .eq 33, 3) := by decide +kernel
theorem dX0_fingerOf_7 : decode cX0_fingerOf 7 = .ok (.aload_n 0, 1) := by decide +kernel
theorem dX0_fingerOf_8 : decode cX0_fingerOf 8 = .ok (.getfield 40, 3) := by decide +kernel
theorem dX0_fingerOf_11 : decode cX0_fingerOf 11 = .ok (.sipush 1000, 3) := by decide +kernel
theorem dX0_fingerOf_14 : decode cX0_fingerOf 14 = .ok (.if_icmp .ge 23, 3) := by decide +kernel
theorem dX0_fingerOf_17 : decode cX0_fingerOf 17 = .ok (.aload_n 0, 1) := by decide +kernel
theorem dX0_fingerOf_18 : decode cX0_fingerOf 18 = .ok (.getfield 28, 3) := by decide +kernel
theorem dX0_fingerOf_21 : decode cX0_fingerOf 21 = .ok (.iload_n 1, 1) := by decide +kernel
theorem dX0_fingerOf_22 : decode cX0_fingerOf 22 = .ok (.invokevirtual 47, 3) := by decide +kernel
theorem dX0_fingerOf_25 : decode cX0_fingerOf 25 = .ok (.ifCond .eq 12, 3) := by decide +kernel
theorem dX0_fingerOf_28 : decode cX0_fingerOf 28 = .ok (.aload_n 0, 1) := by decide +kernel
theorem dX0_fingerOf_29 : decode cX0_fingerOf 29 = .ok (.getfield 15, 3) := by decide +kernel
theorem dX0_fingerOf_32 : decode cX0_fingerOf 32 = .ok (.iload_n 1, 1) := by decide +kernel
theorem dX0_fingerOf_33 : decode cX0_fingerOf 33 = .ok (.iaload, 1) := by decide +kernel
theorem dX0_fingerOf_34 : decode cX0_fingerOf 34 = .ok (.goto 4, 3) := by decide +kernel
theorem dX0_fingerOf_37 : decode cX0_fingerOf 37 = .ok (.iconst (-1), 1) := by decide +kernel
theorem dX0_fingerOf_38 : decode cX0_fingerOf 38 = .ok (.ireturn, 1) := by decide +kernel
theorem dX0_learn_0 : decode cX0_learn 0 = .ok (.aload_n 0, 1) := by decide +kernel
theorem dX0_learn_1 : decode cX0_learn 1 = .ok (.getfield 28, 3) := by decide +kernel
theorem dX0_learn_4 : decode cX0_learn 4 = .ok (.getfield 53, 3) := by decide +kernel
theorem dX0_learn_7 : decode cX0_learn 7 = .ok (.bipush 8, 2) := by decide +kernel
theorem dX0_learn_9 : decode cX0_learn 9 = .ok (.if_icmp .le 5, 3) := by decide +kernel
theorem dX0_learn_12 : decode cX0_learn 12 = .ok (.iconst 0, 1) := by decide +kernel
theorem dX0_learn_13 : decode cX0_learn 13 = .ok (.ireturn, 1) := by decide +kernel
theorem dX0_learn_14 : decode cX0_learn 14 = .ok (.aload_n 0, 1) := by decide +kernel
theorem dX0_learn_15 : decode cX0_learn 15 = .ok (.getfield 56, 3) := by decide +kernel
theorem dX0_learn_18 : decode cX0_learn 18 = .ok (.ifCond .ne 34, 3) := by decide +kernel
theorem dX0_learn_21 : decode cX0_learn 21 = .ok (.aload_n 0, 1) := by decide +kernel
theorem dX0_learn_22 : decode cX0_learn 22 = .ok (.iconst 1, 1) := by decide +kernel
theorem dX0_learn_23 : decode cX0_learn 23 = .ok (.putfield 56, 3) := by decide +kernel
theorem dX0_learn_26 : decode cX0_learn 26 = .ok (.aload_n 0, 1) := by decide +kernel
theorem dX0_learn_27 : decode cX0_learn 27 = .ok (.sipush 1000, 3) := by decide +kernel
theorem dX0_learn_30 : decode cX0_learn 30 = .ok (.putfield 40, 3) := by decide +kernel
theorem dX0_learn_33 : decode cX0_learn 33 = .ok (.aload_n 0, 1) := by decide +kernel
theorem dX0_learn_34 : decode cX0_learn 34 = .ok (.iconst 0, 1) := by decide +kernel
theorem dX0_learn_35 : decode cX0_learn 35 = .ok (.putfield 44, 3) := by decide +kernel
theorem dX0_learn_38 : decode cX0_learn 38 = .ok (.aload_n 0, 1) := by decide +kernel
theorem dX0_learn_39 : decode cX0_learn 39 = .ok (.invokevirtual 60, 3) := by decide +kernel
theorem dX0_learn_42 : decode cX0_learn 42 = .ok (.aload_n 0, 1) := by decide +kernel
theorem dX0_learn_43 : decode cX0_learn 43 = .ok (.invokevirtual 63, 3) := by decide +kernel
theorem dX0_learn_46 : decode cX0_learn 46 = .ok (.aload_n 0, 1) := by decide +kernel
theorem dX0_learn_47 : decode cX0_learn 47 = .ok (.iconst 0, 1) := by decide +kernel
theorem dX0_learn_48 : decode cX0_learn 48 = .ok (.iconst 0, 1) := by decide +kernel
theorem dX0_learn_49 : decode cX0_learn 49 = .ok (.invokevirtual 66, 3) := by decide +kernel
theorem dX0_learn_52 : decode cX0_learn 52 = .ok (.iconst 1, 1) := by decide +kernel
theorem dX0_learn_53 : decode cX0_learn 53 = .ok (.ireturn, 1) := by decide +kernel
theorem dX0_countSure_0 : decode cX0_countSure 0 = .ok (.aload_n 0, 1) := by decide +kernel
theorem dX0_countSure_1 : decode cX0_countSure 1 = .ok (.getfield 18, 3) := by decide +kernel
theorem dX0_countSure_4 : decode cX0_countSure 4 = .ok (.aload_n 0, 1) := by decide +kernel
theorem dX0_countSure_5 : decode cX0_countSure 5 = .ok (.getfield 28, 3) := by decide +kernel
theorem dX0_countSure_8 : decode cX0_countSure 8 = .ok (.getfield 53, 3) := by decide +kernel
theorem dX0_countSure_11 : decode cX0_countSure 11 = .ok (.iconst 0, 1) := by decide +kernel
theorem dX0_countSure_12 : decode cX0_countSure 12 = .ok (.iastore, 1) := by decide +kernel
theorem dX0_countSure_13 : decode cX0_countSure 13 = .ok (.aload_n 0, 1) := by decide +kernel
theorem dX0_countSure_14 : decode cX0_countSure 14 = .ok (.getfield 28, 3) := by decide +kernel
theorem dX0_countSure_17 : decode cX0_countSure 17 = .ok (.getfield 53, 3) := by decide +kernel
theorem dX0_countSure_20 : decode cX0_countSure 20 = .ok (.iconst 1, 1) := by decide +kernel
theorem dX0_countSure_21 : decode cX0_countSure 21 = .ok (.isub, 1) := by decide +kernel
theorem dX0_countSure_22 : decode cX0_countSure 22 = .ok (.istore_n 1, 1) := by decide +kernel
theorem dX0_countSure_23 : decode cX0_countSure 23 = .ok (.iload_n 1, 1) := by decide +kernel
theorem dX0_countSure_24 : decode cX0_countSure 24 = .ok (.ifCond .lt 20, 3) := by decide +kernel
theorem dX0_countSure_27 : decode cX0_countSure 27 = .ok (.aload_n 0, 1) := by decide +kernel
theorem dX0_countSure_28 : decode cX0_countSure 28 = .ok (.getfield 18, 3) := by decide +kernel
theorem dX0_countSure_31 : decode cX0_countSure 31 = .ok (.iload_n 1, 1) := by decide +kernel
theorem dX0_countSure_32 : decode cX0_countSure 32 = .ok (.aload_n 0, 1) := by decide +kernel
theorem dX0_countSure_33 : decode cX0_countSure 33 = .ok (.iload_n 1, 1) := by decide +kernel
theorem dX0_countSure_34 : decode cX0_countSure 34 = .ok (.invokevirtual 70, 3) := by decide +kernel
theorem dX0_countSure_37 : decode cX0_countSure 37 = .ok (.iastore, 1) := by decide +kernel
theorem dX0_countSure_38 : decode cX0_countSure 38 = .ok (.iinc 1 (-1), 3) := by decide +kernel
theorem dX0_countSure_41 : decode cX0_countSure 41 = .ok (.goto (-18), 3) := by decide +kernel
theorem dX0_countSure_44 : decode cX0_countSure 44 = .ok (.return_, 1) := by decide +kernel
theorem dX0_sureFrom_0 : decode cX0_sureFrom 0 = .ok (.iconst 0, 1) := by decide +kernel
theorem dX0_sureFrom_1 : decode cX0_sureFrom 1 = .ok (.istore_n 2, 1) := by decide +kernel
theorem dX0_sureFrom_2 : decode cX0_sureFrom 2 = .ok (.iconst 0, 1) := by decide +kernel
theorem dX0_sureFrom_3 : decode cX0_sureFrom 3 = .ok (.istore_n 3, 1) := by decide +kernel
theorem dX0_sureFrom_4 : decode cX0_sureFrom 4 = .ok (.iload_n 3, 1) := by decide +kernel
theorem dX0_sureFrom_5 : decode cX0_sureFrom 5 = .ok (.aload_n 0, 1) := by decide +kernel
theorem dX0_sureFrom_6 : decode cX0_sureFrom 6 = .ok (.getfield 28, 3) := by decide +kernel
theorem dX0_sureFrom_9 : decode cX0_sureFrom 9 = .ok (.getfield 53, 3) := by decide +kernel
theorem dX0_sureFrom_12 : decode cX0_sureFrom 12 = .ok (.if_icmp .ge 124, 3) := by decide +kernel
theorem dX0_sureFrom_15 : decode cX0_sureFrom 15 = .ok (.iload_n 3, 1) := by decide +kernel
theorem dX0_sureFrom_16 : decode cX0_sureFrom 16 = .ok (.iload_n 1, 1) := by decide +kernel
theorem dX0_sureFrom_17 : decode cX0_sureFrom 17 = .ok (.if_icmp .ge 7, 3) := by decide +kernel
theorem dX0_sureFrom_20 : decode cX0_sureFrom 20 = .ok (.iconst (-1), 1) := by decide +kernel
theorem dX0_sureFrom_21 : decode cX0_sureFrom 21 = .ok (.goto 8, 3) := by decide +kernel
theorem dX0_sureFrom_24 : decode cX0_sureFrom 24 = .ok (.aload_n 0, 1) := by decide +kernel
theorem dX0_sureFrom_25 : decode cX0_sureFrom 25 = .ok (.iload_n 3, 1) := by decide +kernel
theorem dX0_sureFrom_26 : decode cX0_sureFrom 26 = .ok (.invokevirtual 74, 3) := by decide +kernel
theorem dX0_sureFrom_29 : decode cX0_sureFrom 29 = .ok (.istore 4, 2) := by decide +kernel
theorem dX0_sureFrom_31 : decode cX0_sureFrom 31 = .ok (.iload 4, 2) := by decide +kernel
theorem dX0_sureFrom_33 : decode cX0_sureFrom 33 = .ok (.iconst (-1), 1) := by decide +kernel
theorem dX0_sureFrom_34 : decode cX0_sureFrom 34 = .ok (.if_icmp .ne 7, 3) := by decide +kernel
theorem dX0_sureFrom_37 : decode cX0_sureFrom 37 = .ok (.iconst 0, 1) := by decide +kernel
theorem dX0_sureFrom_38 : decode cX0_sureFrom 38 = .ok (.goto 20, 3) := by decide +kernel
theorem dX0_sureFrom_41 : decode cX0_sureFrom 41 = .ok (.aload_n 0, 1) := by decide +kernel
theorem dX0_sureFrom_42 : decode cX0_sureFrom 42 = .ok (.getfield 21, 3) := by decide +kernel
theorem dX0_sureFrom_45 : decode cX0_sureFrom 45 = .ok (.iload 4, 2) := by decide +kernel
theorem dX0_sureFrom_47 : decode cX0_sureFrom 47 = .ok (.iaload, 1) := by decide +kernel
theorem dX0_sureFrom_48 : decode cX0_sureFrom 48 = .ok (.aload_n 0, 1) := by decide +kernel
theorem dX0_sureFrom_49 : decode cX0_sureFrom 49 = .ok (.getfield 28, 3) := by decide +kernel
theorem dX0_sureFrom_52 : decode cX0_sureFrom 52 = .ok (.getfield 77, 3) := by decide +kernel
theorem dX0_sureFrom_55 : decode cX0_sureFrom 55 = .ok (.iload_n 3, 1) := by decide +kernel
theorem dX0_sureFrom_56 : decode cX0_sureFrom 56 = .ok (.iaload, 1) := by decide +kernel
theorem dX0_sureFrom_57 : decode cX0_sureFrom 57 = .ok (.iadd, 1) := by decide +kernel
theorem dX0_sureFrom_58 : decode cX0_sureFrom 58 = .ok (.istore 5, 2) := by decide +kernel
theorem dX0_sureFrom_60 : decode cX0_sureFrom 60 = .ok (.iload 4, 2) := by decide +kernel
theorem dX0_sureFrom_62 : decode cX0_sureFrom 62 = .ok (.iconst (-1), 1) := by decide +kernel
theorem dX0_sureFrom_63 : decode cX0_sureFrom 63 = .ok (.if_icmp .eq 21, 3) := by decide +kernel
theorem dX0_sureFrom_66 : decode cX0_sureFrom 66 = .ok (.iload 5, 2) := by decide +kernel
theorem dX0_sureFrom_68 : decode cX0_sureFrom 68 = .ok (.aload_n 0, 1) := by decide +kernel
theorem dX0_sureFrom_69 : decode cX0_sureFrom 69 = .ok (.getfield 24, 3) := by decide +kernel
theorem dX0_sureFrom_72 : decode cX0_sureFrom 72 = .ok (.getfield 80, 3) := by decide +kernel
theorem dX0_sureFrom_75 : decode cX0_sureFrom 75 = .ok (.iconst 4, 1) := by decide +kernel
theorem dX0_sureFrom_76 : decode cX0_sureFrom 76 = .ok (.iaload, 1) := by decide +kernel
theorem dX0_sureFrom_77 : decode cX0_sureFrom 77 = .ok (.if_icmp .gt 7, 3) := by decide +kernel
theorem dX0_sureFrom_80 : decode cX0_sureFrom 80 = .ok (.iconst 1, 1) := by decide +kernel
theorem dX0_sureFrom_81 : decode cX0_sureFrom 81 = .ok (.goto 4, 3) := by decide +kernel
theorem dX0_sureFrom_84 : decode cX0_sureFrom 84 = .ok (.iconst 0, 1) := by decide +kernel
theorem dX0_sureFrom_85 : decode cX0_sureFrom 85 = .ok (.istore 6, 2) := by decide +kernel
theorem dX0_sureFrom_87 : decode cX0_sureFrom 87 = .ok (.aload_n 0, 1) := by decide +kernel
theorem dX0_sureFrom_88 : decode cX0_sureFrom 88 = .ok (.getfield 21, 3) := by decide +kernel
theorem dX0_sureFrom_91 : decode cX0_sureFrom 91 = .ok (.iload_n 3, 1) := by decide +kernel
theorem dX0_sureFrom_92 : decode cX0_sureFrom 92 = .ok (.iload 6, 2) := by decide +kernel
theorem dX0_sureFrom_94 : decode cX0_sureFrom 94 = .ok (.ifCond .eq 8, 3) := by decide +kernel
theorem dX0_sureFrom_97 : decode cX0_sureFrom 97 = .ok (.iload 5, 2) := by decide +kernel
theorem dX0_sureFrom_99 : decode cX0_sureFrom 99 = .ok (.goto 12, 3) := by decide +kernel
theorem dX0_sureFrom_102 : decode cX0_sureFrom 102 = .ok (.aload_n 0, 1) := by decide +kernel
theorem dX0_sureFrom_103 : decode cX0_sureFrom 103 = .ok (.getfield 28, 3) := by decide +kernel
theorem dX0_sureFrom_106 : decode cX0_sureFrom 106 = .ok (.getfield 77, 3) := by decide +kernel
theorem dX0_sureFrom_109 : decode cX0_sureFrom 109 = .ok (.iload_n 3, 1) := by decide +kernel
theorem dX0_sureFrom_110 : decode cX0_sureFrom 110 = .ok (.iaload, 1) := by decide +kernel
theorem dX0_sureFrom_111 : decode cX0_sureFrom 111 = .ok (.iastore, 1) := by decide +kernel
theorem dX0_sureFrom_112 : decode cX0_sureFrom 112 = .ok (.iload_n 2, 1) := by decide +kernel
theorem dX0_sureFrom_113 : decode cX0_sureFrom 113 = .ok (.iload_n 3, 1) := by decide +kernel
theorem dX0_sureFrom_114 : decode cX0_sureFrom 114 = .ok (.iload_n 1, 1) := by decide +kernel
theorem dX0_sureFrom_115 : decode cX0_sureFrom 115 = .ok (.if_icmp .lt 8, 3) := by decide +kernel
theorem dX0_sureFrom_118 : decode cX0_sureFrom 118 = .ok (.iload 6, 2) := by decide +kernel
theorem dX0_sureFrom_120 : decode cX0_sureFrom 120 = .ok (.ifCond .eq 7, 3) := by decide +kernel
theorem dX0_sureFrom_123 : decode cX0_sureFrom 123 = .ok (.iconst 0, 1) := by decide +kernel
theorem dX0_sureFrom_124 : decode cX0_sureFrom 124 = .ok (.goto 4, 3) := by decide +kernel
theorem dX0_sureFrom_127 : decode cX0_sureFrom 127 = .ok (.iconst 1, 1) := by decide +kernel
theorem dX0_sureFrom_128 : decode cX0_sureFrom 128 = .ok (.iadd, 1) := by decide +kernel
theorem dX0_sureFrom_129 : decode cX0_sureFrom 129 = .ok (.istore_n 2, 1) := by decide +kernel
theorem dX0_sureFrom_130 : decode cX0_sureFrom 130 = .ok (.iinc 3 1, 3) := by decide +kernel
theorem dX0_sureFrom_133 : decode cX0_sureFrom 133 = .ok (.goto (-129), 3) := by decide +kernel
theorem dX0_sureFrom_136 : decode cX0_sureFrom 136 = .ok (.iload_n 2, 1) := by decide +kernel
theorem dX0_sureFrom_137 : decode cX0_sureFrom 137 = .ok (.ireturn, 1) := by decide +kernel
theorem dX0_followed_0 : decode cX0_followed 0 = .ok (.iconst 0, 1) := by decide +kernel
theorem dX0_followed_1 : decode cX0_followed 1 = .ok (.istore_n 2, 1) := by decide +kernel
theorem dX0_followed_2 : decode cX0_followed 2 = .ok (.iload_n 2, 1) := by decide +kernel
theorem dX0_followed_3 : decode cX0_followed 3 = .ok (.iload_n 1, 1) := by decide +kernel
theorem dX0_followed_4 : decode cX0_followed 4 = .ok (.if_icmp .ge 23, 3) := by decide +kernel
theorem dX0_followed_7 : decode cX0_followed 7 = .ok (.aload_n 0, 1) := by decide +kernel
theorem dX0_followed_8 : decode cX0_followed 8 = .ok (.getfield 28, 3) := by decide +kernel
theorem dX0_followed_11 : decode cX0_followed 11 = .ok (.iload_n 2, 1) := by decide +kernel
theorem dX0_followed_12 : decode cX0_followed 12 = .ok (.iload_n 1, 1) := by decide +kernel
theorem dX0_followed_13 : decode cX0_followed 13 = .ok (.invokevirtual 85, 3) := by decide +kernel
theorem dX0_followed_16 : decode cX0_followed 16 = .ok (.ifCond .eq 5, 3) := by decide +kernel
theorem dX0_followed_19 : decode cX0_followed 19 = .ok (.iload_n 2, 1) := by decide +kernel
theorem dX0_followed_20 : decode cX0_followed 20 = .ok (.ireturn, 1) := by decide +kernel
theorem dX0_followed_21 : decode cX0_followed 21 = .ok (.iinc 2 1, 3) := by decide +kernel
theorem dX0_followed_24 : decode cX0_followed 24 = .ok (.goto (-22), 3) := by decide +kernel
theorem dX0_followed_27 : decode cX0_followed 27 = .ok (.iconst (-1), 1) := by decide +kernel
theorem dX0_followed_28 : decode cX0_followed 28 = .ok (.ireturn, 1) := by decide +kernel
theorem dX0_countPlayable_0 : decode cX0_countPlayable 0 = .ok (.aload_n 0, 1) := by decide +kernel
theorem dX0_countPlayable_1 : decode cX0_countPlayable 1 = .ok (.iconst 0, 1) := by decide +kernel
theorem dX0_countPlayable_2 : decode cX0_countPlayable 2 = .ok (.putfield 89, 3) := by decide +kernel
theorem dX0_countPlayable_5 : decode cX0_countPlayable 5 = .ok (.aload_n 0, 1) := by decide +kernel
theorem dX0_countPlayable_6 : decode cX0_countPlayable 6 = .ok (.getfield 89, 3) := by decide +kernel
theorem dX0_countPlayable_9 : decode cX0_countPlayable 9 = .ok (.aload_n 0, 1) := by decide +kernel
theorem dX0_countPlayable_10 : decode cX0_countPlayable 10 = .ok (.getfield 28, 3) := by decide +kernel
theorem dX0_countPlayable_13 : decode cX0_countPlayable 13 = .ok (.getfield 53, 3) := by decide +kernel
theorem dX0_countPlayable_16 : decode cX0_countPlayable 16 = .ok (.if_icmp .ge 27, 3) := by decide +kernel
theorem dX0_countPlayable_19 : decode cX0_countPlayable 19 = .ok (.aload_n 0, 1) := by decide +kernel
theorem dX0_countPlayable_20 : decode cX0_countPlayable 20 = .ok (.aload_n 0, 1) := by decide +kernel
theorem dX0_countPlayable_21 : decode cX0_countPlayable 21 = .ok (.getfield 89, 3) := by decide +kernel
theorem dX0_countPlayable_24 : decode cX0_countPlayable 24 = .ok (.invokevirtual 92, 3) := by decide +kernel
theorem dX0_countPlayable_27 : decode cX0_countPlayable 27 = .ok (.ifCond .ne 16, 3) := by decide +kernel
theorem dX0_countPlayable_30 : decode cX0_countPlayable 30 = .ok (.aload_n 0, 1) := by decide +kernel
theorem dX0_countPlayable_31 : decode cX0_countPlayable 31 = .ok (.dup, 1) := by decide +kernel
theorem dX0_countPlayable_32 : decode cX0_countPlayable 32 = .ok (.getfield 89, 3) := by decide +kernel
theorem dX0_countPlayable_35 : decode cX0_countPlayable 35 = .ok (.iconst 1, 1) := by decide +kernel
theorem dX0_countPlayable_36 : decode cX0_countPlayable 36 = .ok (.iadd, 1) := by decide +kernel
theorem dX0_countPlayable_37 : decode cX0_countPlayable 37 = .ok (.putfield 89, 3) := by decide +kernel
theorem dX0_countPlayable_40 : decode cX0_countPlayable 40 = .ok (.goto (-35), 3) := by decide +kernel
theorem dX0_countPlayable_43 : decode cX0_countPlayable 43 = .ok (.return_, 1) := by decide +kernel
theorem dX0_isHopeless_0 : decode cX0_isHopeless 0 = .ok (.aload_n 0, 1) := by decide +kernel
theorem dX0_isHopeless_1 : decode cX0_isHopeless 1 = .ok (.getfield 28, 3) := by decide +kernel
theorem dX0_isHopeless_4 : decode cX0_isHopeless 4 = .ok (.getfield 77, 3) := by decide +kernel
theorem dX0_isHopeless_7 : decode cX0_isHopeless 7 = .ok (.iload_n 1, 1) := by decide +kernel
theorem dX0_isHopeless_8 : decode cX0_isHopeless 8 = .ok (.iaload, 1) := by decide +kernel
theorem dX0_isHopeless_9 : decode cX0_isHopeless 9 = .ok (.aload_n 0, 1) := by decide +kernel
theorem dX0_isHopeless_10 : decode cX0_isHopeless 10 = .ok (.getfield 24, 3) := by decide +kernel
theorem dX0_isHopeless_13 : decode cX0_isHopeless 13 = .ok (.getfield 80, 3) := by decide +kernel
theorem dX0_isHopeless_16 : decode cX0_isHopeless 16 = .ok (.iconst 4, 1) := by decide +kernel
theorem dX0_isHopeless_17 : decode cX0_isHopeless 17 = .ok (.iaload, 1) := by decide +kernel
theorem dX0_isHopeless_18 : decode cX0_isHopeless 18 = .ok (.if_icmp .le 5, 3) := by decide +kernel
theorem dX0_isHopeless_21 : decode cX0_isHopeless 21 = .ok (.iconst 1, 1) := by decide +kernel
theorem dX0_isHopeless_22 : decode cX0_isHopeless 22 = .ok (.ireturn, 1) := by decide +kernel
theorem dX0_isHopeless_23 : decode cX0_isHopeless 23 = .ok (.iconst 0, 1) := by decide +kernel
theorem dX0_isHopeless_24 : decode cX0_isHopeless 24 = .ok (.istore_n 2, 1) := by decide +kernel
theorem dX0_isHopeless_25 : decode cX0_isHopeless 25 = .ok (.iload_n 2, 1) := by decide +kernel
theorem dX0_isHopeless_26 : decode cX0_isHopeless 26 = .ok (.bipush 12, 2) := by decide +kernel
theorem dX0_isHopeless_28 : decode cX0_isHopeless 28 = .ok (.if_icmp .gt 32, 3) := by decide +kernel
theorem dX0_isHopeless_31 : decode cX0_isHopeless 31 = .ok (.aload_n 0, 1) := by decide +kernel
theorem dX0_isHopeless_32 : decode cX0_isHopeless 32 = .ok (.iload_n 1, 1) := by decide +kernel
theorem dX0_isHopeless_33 : decode cX0_isHopeless 33 = .ok (.iconst 0, 1) := by decide +kernel
theorem dX0_isHopeless_34 : decode cX0_isHopeless 34 = .ok (.iload_n 2, 1) := by decide +kernel
theorem dX0_isHopeless_35 : decode cX0_isHopeless 35 = .ok (.invokevirtual 95, 3) := by decide +kernel
theorem dX0_isHopeless_38 : decode cX0_isHopeless 38 = .ok (.ifCond .eq 16, 3) := by decide +kernel
theorem dX0_isHopeless_41 : decode cX0_isHopeless 41 = .ok (.aload_n 0, 1) := by decide +kernel
theorem dX0_isHopeless_42 : decode cX0_isHopeless 42 = .ok (.iload_n 1, 1) := by decide +kernel
theorem dX0_isHopeless_43 : decode cX0_isHopeless 43 = .ok (.iload_n 2, 1) := by decide +kernel
theorem dX0_isHopeless_44 : decode cX0_isHopeless 44 = .ok (.bipush 12, 2) := by decide +kernel
theorem dX0_isHopeless_46 : decode cX0_isHopeless 46 = .ok (.invokevirtual 95, 3) := by decide +kernel
theorem dX0_isHopeless_49 : decode cX0_isHopeless 49 = .ok (.ifCond .eq 5, 3) := by decide +kernel
theorem dX0_isHopeless_52 : decode cX0_isHopeless 52 = .ok (.iconst 0, 1) := by decide +kernel
theorem dX0_isHopeless_53 : decode cX0_isHopeless 53 = .ok (.ireturn, 1) := by decide +kernel
theorem dX0_isHopeless_54 : decode cX0_isHopeless 54 = .ok (.iinc 2 1, 3) := by decide +kernel
theorem dX0_isHopeless_57 : decode cX0_isHopeless 57 = .ok (.goto (-32), 3) := by decide +kernel
theorem dX0_isHopeless_60 : decode cX0_isHopeless 60 = .ok (.iconst 1, 1) := by decide +kernel
theorem dX0_isHopeless_61 : decode cX0_isHopeless 61 = .ok (.ireturn, 1) := by decide +kernel
theorem dX0_handHolds_0 : decode cX0_handHolds 0 = .ok (.iconst 0, 1) := by decide +kernel
theorem dX0_handHolds_1 : decode cX0_handHolds 1 = .ok (.istore 4, 2) := by decide +kernel
theorem dX0_handHolds_3 : decode cX0_handHolds 3 = .ok (.iconst 0, 1) := by decide +kernel
theorem dX0_handHolds_4 : decode cX0_handHolds 4 = .ok (.istore 5, 2) := by decide +kernel
theorem dX0_handHolds_6 : decode cX0_handHolds 6 = .ok (.iload_n 3, 1) := by decide +kernel
theorem dX0_handHolds_7 : decode cX0_handHolds 7 = .ok (.istore 6, 2) := by decide +kernel
theorem dX0_handHolds_9 : decode cX0_handHolds 9 = .ok (.iload_n 2, 1) := by decide +kernel
theorem dX0_handHolds_10 : decode cX0_handHolds 10 = .ok (.istore 7, 2) := by decide +kernel
theorem dX0_handHolds_12 : decode cX0_handHolds 12 = .ok (.iconst 0, 1) := by decide +kernel
theorem dX0_handHolds_13 : decode cX0_handHolds 13 = .ok (.istore 8, 2) := by decide +kernel
theorem dX0_handHolds_15 : decode cX0_handHolds 15 = .ok (.iload 8, 2) := by decide +kernel
theorem dX0_handHolds_17 : decode cX0_handHolds 17 = .ok (.iload_n 1, 1) := by decide +kernel
theorem dX0_handHolds_18 : decode cX0_handHolds 18 = .ok (.if_icmp .gt 87, 3) := by decide +kernel
theorem dX0_handHolds_21 : decode cX0_handHolds 21 = .ok (.aload_n 0, 1) := by decide +kernel
theorem dX0_handHolds_22 : decode cX0_handHolds 22 = .ok (.getfield 32, 3) := by decide +kernel
theorem dX0_handHolds_25 : decode cX0_handHolds 25 = .ok (.iload 8, 2) := by decide +kernel
theorem dX0_handHolds_27 : decode cX0_handHolds 27 = .ok (.invokevirtual 99, 3) := by decide +kernel
theorem dX0_handHolds_30 : decode cX0_handHolds 30 = .ok (.istore 9, 2) := by decide +kernel
theorem dX0_handHolds_32 : decode cX0_handHolds 32 = .ok (.aload_n 0, 1) := by decide +kernel
theorem dX0_handHolds_33 : decode cX0_handHolds 33 = .ok (.getfield 28, 3) := by decide +kernel
theorem dX0_handHolds_36 : decode cX0_handHolds 36 = .ok (.iload 8, 2) := by decide +kernel
theorem dX0_handHolds_38 : decode cX0_handHolds 38 = .ok (.iload_n 1, 1) := by decide +kernel
theorem dX0_handHolds_39 : decode cX0_handHolds 39 = .ok (.invokevirtual 104, 3) := by decide +kernel
theorem dX0_handHolds_42 : decode cX0_handHolds 42 = .ok (.ifCond .eq 57, 3) := by decide +kernel
theorem dX0_handHolds_45 : decode cX0_handHolds 45 = .ok (.iload 9, 2) := by decide +kernel
theorem dX0_handHolds_47 : decode cX0_handHolds 47 = .ok (.iload_n 2, 1) := by decide +kernel
theorem dX0_handHolds_48 : decode cX0_handHolds 48 = .ok (.if_icmp .lt 51, 3) := by decide +kernel
theorem dX0_handHolds_51 : decode cX0_handHolds 51 = .ok (.iload 9, 2) := by decide +kernel
theorem dX0_handHolds_53 : decode cX0_handHolds 53 = .ok (.iload_n 3, 1) := by decide +kernel
theorem dX0_handHolds_54 : decode cX0_handHolds 54 = .ok (.if_icmp .ge 45, 3) := by decide +kernel
theorem dX0_handHolds_57 : decode cX0_handHolds 57 = .ok (.iload 5, 2) := by decide +kernel
theorem dX0_handHolds_59 : decode cX0_handHolds 59 = .ok (.iload 9, 2) := by decide +kernel
theorem dX0_handHolds_61 : decode cX0_handHolds 61 = .ok (.ishr, 1) := by decide +kernel
theorem dX0_handHolds_62 : decode cX0_handHolds 62 = .ok (.iconst 1, 1) := by decide +kernel
theorem dX0_handHolds_63 : decode cX0_handHolds 63 = .ok (.iand, 1) := by decide +kernel
theorem dX0_handHolds_64 : decode cX0_handHolds 64 = .ok (.ifCond .eq 5, 3) := by decide +kernel
theorem dX0_handHolds_67 : decode cX0_handHolds 67 = .ok (.iconst 0, 1) := by decide +kernel
theorem dX0_handHolds_68 : decode cX0_handHolds 68 = .ok (.ireturn, 1) := by decide +kernel
theorem dX0_handHolds_69 : decode cX0_handHolds 69 = .ok (.iload 5, 2) := by decide +kernel
theorem dX0_handHolds_71 : decode cX0_handHolds 71 = .ok (.iconst 1, 1) := by decide +kernel
theorem dX0_handHolds_72 : decode cX0_handHolds 72 = .ok (.iload 9, 2) := by decide +kernel
theorem dX0_handHolds_74 : decode cX0_handHolds 74 = .ok (.ishl, 1) := by decide +kernel
theorem dX0_handHolds_75 : decode cX0_handHolds 75 = .ok (.ior, 1) := by decide +kernel
theorem dX0_handHolds_76 : decode cX0_handHolds 76 = .ok (.istore 5, 2) := by decide +kernel
theorem dX0_handHolds_78 : decode cX0_handHolds 78 = .ok (.iinc 4 1, 3) := by decide +kernel
theorem dX0_handHolds_81 : decode cX0_handHolds 81 = .ok (.iload 6, 2) := by decide +kernel
theorem dX0_handHolds_83 : decode cX0_handHolds 83 = .ok (.iload 9, 2) := by decide +kernel
theorem dX0_handHolds_85 : decode cX0_handHolds 85 = .ok (.invokestatic 107, 3) := by decide +kernel
theorem dX0_handHolds_88 : decode cX0_handHolds 88 = .ok (.istore 6, 2) := by decide +kernel
theorem dX0_handHolds_90 : decode cX0_handHolds 90 = .ok (.iload 7, 2) := by decide +kernel
theorem dX0_handHolds_92 : decode cX0_handHolds 92 = .ok (.iload 9, 2) := by decide +kernel
theorem dX0_handHolds_94 : decode cX0_handHolds 94 = .ok (.invokestatic 113, 3) := by decide +kernel
theorem dX0_handHolds_97 : decode cX0_handHolds 97 = .ok (.istore 7, 2) := by decide +kernel
theorem dX0_handHolds_99 : decode cX0_handHolds 99 = .ok (.iinc 8 1, 3) := by decide +kernel
theorem dX0_handHolds_102 : decode cX0_handHolds 102 = .ok (.goto (-87), 3) := by decide +kernel
theorem dX0_handHolds_105 : decode cX0_handHolds 105 = .ok (.iload 4, 2) := by decide +kernel
theorem dX0_handHolds_107 : decode cX0_handHolds 107 = .ok (.aload_n 0, 1) := by decide +kernel
theorem dX0_handHolds_108 : decode cX0_handHolds 108 = .ok (.getfield 24, 3) := by decide +kernel
theorem dX0_handHolds_111 : decode cX0_handHolds 111 = .ok (.getfield 80, 3) := by decide +kernel
theorem dX0_handHolds_114 : decode cX0_handHolds 114 = .ok (.iconst 1, 1) := by decide +kernel
theorem dX0_handHolds_115 : decode cX0_handHolds 115 = .ok (.iaload, 1) := by decide +kernel
theorem dX0_handHolds_116 : decode cX0_handHolds 116 = .ok (.if_icmp .gt 24, 3) := by decide +kernel
theorem dX0_handHolds_119 : decode cX0_handHolds 119 = .ok (.iload 7, 2) := by decide +kernel
theorem dX0_handHolds_121 : decode cX0_handHolds 121 = .ok (.iload 6, 2) := by decide +kernel
theorem dX0_handHolds_123 : decode cX0_handHolds 123 = .ok (.isub, 1) := by decide +kernel
theorem dX0_handHolds_124 : decode cX0_handHolds 124 = .ok (.aload_n 0, 1) := by decide +kernel
theorem dX0_handHolds_125 : decode cX0_handHolds 125 = .ok (.getfield 24, 3) := by decide +kernel
theorem dX0_handHolds_128 : decode cX0_handHolds 128 = .ok (.getfield 80, 3) := by decide +kernel
theorem dX0_handHolds_131 : decode cX0_handHolds 131 = .ok (.iconst 2, 1) := by decide +kernel
theorem dX0_handHolds_132 : decode cX0_handHolds 132 = .ok (.iaload, 1) := by decide +kernel
theorem dX0_handHolds_133 : decode cX0_handHolds 133 = .ok (.if_icmp .gt 7, 3) := by decide +kernel
theorem dX0_handHolds_136 : decode cX0_handHolds 136 = .ok (.iconst 1, 1) := by decide +kernel
theorem dX0_handHolds_137 : decode cX0_handHolds 137 = .ok (.goto 4, 3) := by decide +kernel
theorem dX0_handHolds_140 : decode cX0_handHolds 140 = .ok (.iconst 0, 1) := by decide +kernel
theorem dX0_handHolds_141 : decode cX0_handHolds 141 = .ok (.ireturn, 1) := by decide +kernel
theorem dX0_search_0 : decode cX0_search 0 = .ok (.aload_n 0, 1) := by decide +kernel
theorem dX0_search_1 : decode cX0_search 1 = .ok (.aload_n 0, 1) := by decide +kernel
theorem dX0_search_2 : decode cX0_search 2 = .ok (.getfield 44, 3) := by decide +kernel
theorem dX0_search_5 : decode cX0_search 5 = .ok (.iload_n 1, 1) := by decide +kernel
theorem dX0_search_6 : decode cX0_search 6 = .ok (.invokestatic 113, 3) := by decide +kernel
theorem dX0_search_9 : decode cX0_search 9 = .ok (.putfield 44, 3) := by decide +kernel
theorem dX0_search_12 : decode cX0_search 12 = .ok (.iload_n 1, 1) := by decide +kernel
theorem dX0_search_13 : decode cX0_search 13 = .ok (.aload_n 0, 1) := by decide +kernel
theorem dX0_search_14 : decode cX0_search 14 = .ok (.getfield 89, 3) := by decide +kernel
theorem dX0_search_17 : decode cX0_search 17 = .ok (.if_icmp .lt 35, 3) := by decide +kernel
theorem dX0_search_20 : decode cX0_search 20 = .ok (.iload_n 1, 1) := by decide +kernel
theorem dX0_search_21 : decode cX0_search 21 = .ok (.aload_n 0, 1) := by decide +kernel
theorem dX0_search_22 : decode cX0_search 22 = .ok (.getfield 28, 3) := by decide +kernel
theorem dX0_search_25 : decode cX0_search 25 = .ok (.getfield 53, 3) := by decide +kernel
theorem dX0_search_28 : decode cX0_search 28 = .ok (.if_icmp .ne 23, 3) := by decide +kernel
theorem dX0_search_31 : decode cX0_search 31 = .ok (.aload_n 0, 1) := by decide +kernel
theorem dX0_search_32 : decode cX0_search 32 = .ok (.iload_n 2, 1) := by decide +kernel
theorem dX0_search_33 : decode cX0_search 33 = .ok (.putfield 40, 3) := by decide +kernel
theorem dX0_search_36 : decode cX0_search 36 = .ok (.aload_n 0, 1) := by decide +kernel
theorem dX0_search_37 : decode cX0_search 37 = .ok (.getfield 9, 3) := by decide +kernel
theorem dX0_search_40 : decode cX0_search 40 = .ok (.iconst 0, 1) := by decide +kernel
theorem dX0_search_41 : decode cX0_search 41 = .ok (.aload_n 0, 1) := by decide +kernel
theorem dX0_search_42 : decode cX0_search 42 = .ok (.getfield 15, 3) := by decide +kernel
theorem dX0_search_45 : decode cX0_search 45 = .ok (.iconst 0, 1) := by decide +kernel
theorem dX0_search_46 : decode cX0_search 46 = .ok (.bipush 8, 2) := by decide +kernel
theorem dX0_search_48 : decode cX0_search 48 = .ok (.invokestatic 116, 3) := by decide +kernel
theorem dX0_search_51 : decode cX0_search 51 = .ok (.return_, 1) := by decide +kernel
theorem dX0_search_52 : decode cX0_search 52 = .ok (.iconst 0, 1) := by decide +kernel
theorem dX0_search_53 : decode cX0_search 53 = .ok (.istore_n 3, 1) := by decide +kernel
theorem dX0_search_54 : decode cX0_search 54 = .ok (.iload_n 3, 1) := by decide +kernel
theorem dX0_search_55 : decode cX0_search 55 = .ok (.iconst 2, 1) := by decide +kernel
theorem dX0_search_56 : decode cX0_search 56 = .ok (.aload_n 0, 1) := by decide +kernel
theorem dX0_search_57 : decode cX0_search 57 = .ok (.getfield 24, 3) := by decide +kernel
theorem dX0_search_60 : decode cX0_search 60 = .ok (.getfield 80, 3) := by decide +kernel
theorem dX0_search_63 : decode cX0_search 63 = .ok (.iconst 1, 1) := by decide +kernel
theorem dX0_search_64 : decode cX0_search 64 = .ok (.iaload, 1) := by decide +kernel
theorem dX0_search_65 : decode cX0_search 65 = .ok (.imul, 1) := by decide +kernel
theorem dX0_search_66 : decode cX0_search 66 = .ok (.if_icmp .ge 89, 3) := by decide +kernel
theorem dX0_search_69 : decode cX0_search 69 = .ok (.aload_n 0, 1) := by decide +kernel
theorem dX0_search_70 : decode cX0_search 70 = .ok (.invokevirtual 122, 3) := by decide +kernel
theorem dX0_search_73 : decode cX0_search 73 = .ok (.ifCond .ne 82, 3) := by decide +kernel
theorem dX0_search_76 : decode cX0_search 76 = .ok (.aload_n 0, 1) := by decide +kernel
theorem dX0_search_77 : decode cX0_search 77 = .ok (.getfield 9, 3) := by decide +kernel
theorem dX0_search_80 : decode cX0_search 80 = .ok (.iload_n 1, 1) := by decide +kernel
theorem dX0_search_81 : decode cX0_search 81 = .ok (.iload_n 3, 1) := by decide +kernel
theorem dX0_search_82 : decode cX0_search 82 = .ok (.iastore, 1) := by decide +kernel
theorem dX0_search_83 : decode cX0_search 83 = .ok (.aload_n 0, 1) := by decide +kernel
theorem dX0_search_84 : decode cX0_search 84 = .ok (.getfield 32, 3) := by decide +kernel
theorem dX0_search_87 : decode cX0_search 87 = .ok (.aload_n 0, 1) := by decide +kernel
theorem dX0_search_88 : decode cX0_search 88 = .ok (.getfield 9, 3) := by decide +kernel
theorem dX0_search_91 : decode cX0_search 91 = .ok (.iload_n 1, 1) := by decide +kernel
theorem dX0_search_92 : decode cX0_search 92 = .ok (.invokevirtual 125, 3) := by decide +kernel
theorem dX0_search_95 : decode cX0_search 95 = .ok (.ifCond .ne 54, 3) := by decide +kernel
theorem dX0_search_98 : decode cX0_search 98 = .ok (.iload_n 2, 1) := by decide +kernel
theorem dX0_search_99 : decode cX0_search 99 = .ok (.aload_n 0, 1) := by decide +kernel
theorem dX0_search_100 : decode cX0_search 100 = .ok (.getfield 32, 3) := by decide +kernel
theorem dX0_search_103 : decode cX0_search 103 = .ok (.aload_n 0, 1) := by decide +kernel
theorem dX0_search_104 : decode cX0_search 104 = .ok (.getfield 9, 3) := by decide +kernel
theorem dX0_search_107 : decode cX0_search 107 = .ok (.iload_n 1, 1) := by decide +kernel
theorem dX0_search_108 : decode cX0_search 108 = .ok (.invokevirtual 129, 3) := by decide +kernel
theorem dX0_search_111 : decode cX0_search 111 = .ok (.ifCond .eq 7, 3) := by decide +kernel
theorem dX0_search_114 : decode cX0_search 114 = .ok (.iconst 1, 1) := by decide +kernel
theorem dX0_search_115 : decode cX0_search 115 = .ok (.goto 4, 3) := by decide +kernel
theorem dX0_search_118 : decode cX0_search 118 = .ok (.iconst 0, 1) := by decide +kernel
theorem dX0_search_119 : decode cX0_search 119 = .ok (.iadd, 1) := by decide +kernel
theorem dX0_search_120 : decode cX0_search 120 = .ok (.istore 4, 2) := by decide +kernel
theorem dX0_search_122 : decode cX0_search 122 = .ok (.iload 4, 2) := by decide +kernel
theorem dX0_search_124 : decode cX0_search 124 = .ok (.aload_n 0, 1) := by decide +kernel
theorem dX0_search_125 : decode cX0_search 125 = .ok (.getfield 18, 3) := by decide +kernel
theorem dX0_search_128 : decode cX0_search 128 = .ok (.iload_n 1, 1) := by decide +kernel
theorem dX0_search_129 : decode cX0_search 129 = .ok (.iconst 1, 1) := by decide +kernel
theorem dX0_search_130 : decode cX0_search 130 = .ok (.iadd, 1) := by decide +kernel
theorem dX0_search_131 : decode cX0_search 131 = .ok (.iaload, 1) := by decide +kernel
theorem dX0_search_132 : decode cX0_search 132 = .ok (.iadd, 1) := by decide +kernel
theorem dX0_search_133 : decode cX0_search 133 = .ok (.aload_n 0, 1) := by decide +kernel
theorem dX0_search_134 : decode cX0_search 134 = .ok (.getfield 40, 3) := by decide +kernel
theorem dX0_search_137 : decode cX0_search 137 = .ok (.if_icmp .ge 12, 3) := by decide +kernel
theorem dX0_search_140 : decode cX0_search 140 = .ok (.aload_n 0, 1) := by decide +kernel
theorem dX0_search_141 : decode cX0_search 141 = .ok (.iload_n 1, 1) := by decide +kernel
theorem dX0_search_142 : decode cX0_search 142 = .ok (.iconst 1, 1) := by decide +kernel
theorem dX0_search_143 : decode cX0_search 143 = .ok (.iadd, 1) := by decide +kernel
theorem dX0_search_144 : decode cX0_search 144 = .ok (.iload 4, 2) := by decide +kernel
theorem dX0_search_146 : decode cX0_search 146 = .ok (.invokevirtual 66, 3) := by decide +kernel
theorem dX0_search_149 : decode cX0_search 149 = .ok (.iinc 3 1, 3) := by decide +kernel
theorem dX0_search_152 : decode cX0_search 152 = .ok (.goto (-98), 3) := by decide +kernel
theorem dX0_search_155 : decode cX0_search 155 = .ok (.return_, 1) := by decide +kernel
theorem dX0_isSettled_0 : decode cX0_isSettled 0 = .ok (.aload_n 0, 1) := by decide +kernel
theorem dX0_isSettled_1 : decode cX0_isSettled 1 = .ok (.getfield 40, 3) := by decide +kernel
theorem dX0_isSettled_4 : decode cX0_isSettled 4 = .ok (.aload_n 0, 1) := by decide +kernel
theorem dX0_isSettled_5 : decode cX0_isSettled 5 = .ok (.getfield 18, 3) := by decide +kernel
theorem dX0_isSettled_8 : decode cX0_isSettled 8 = .ok (.iconst 0, 1) := by decide +kernel
theorem dX0_isSettled_9 : decode cX0_isSettled 9 = .ok (.iaload, 1) := by decide +kernel
theorem dX0_isSettled_10 : decode cX0_isSettled 10 = .ok (.if_icmp .le 28, 3) := by decide +kernel
theorem dX0_isSettled_13 : decode cX0_isSettled 13 = .ok (.aload_n 0, 1) := by decide +kernel
theorem dX0_isSettled_14 : decode cX0_isSettled 14 = .ok (.getfield 89, 3) := by decide +kernel
theorem dX0_isSettled_17 : decode cX0_isSettled 17 = .ok (.aload_n 0, 1) := by decide +kernel
theorem dX0_isSettled_18 : decode cX0_isSettled 18 = .ok (.getfield 28, 3) := by decide +kernel
theorem dX0_isSettled_21 : decode cX0_isSettled 21 = .ok (.getfield 53, 3) := by decide +kernel
theorem dX0_isSettled_24 : decode cX0_isSettled 24 = .ok (.if_icmp .ge 18, 3) := by decide +kernel
theorem dX0_isSettled_27 : decode cX0_isSettled 27 = .ok (.aload_n 0, 1) := by decide +kernel
theorem dX0_isSettled_28 : decode cX0_isSettled 28 = .ok (.getfield 44, 3) := by decide +kernel
theorem dX0_isSettled_31 : decode cX0_isSettled 31 = .ok (.aload_n 0, 1) := by decide +kernel
theorem dX0_isSettled_32 : decode cX0_isSettled 32 = .ok (.getfield 89, 3) := by decide +kernel
theorem dX0_isSettled_35 : decode cX0_isSettled 35 = .ok (.if_icmp .lt 7, 3) := by decide +kernel
theorem dX0_isSettled_38 : decode cX0_isSettled 38 = .ok (.iconst 1, 1) := by decide +kernel
theorem dX0_isSettled_39 : decode cX0_isSettled 39 = .ok (.goto 4, 3) := by decide +kernel
theorem dX0_isSettled_42 : decode cX0_isSettled 42 = .ok (.iconst 0, 1) := by decide +kernel
theorem dX0_isSettled_43 : decode cX0_isSettled 43 = .ok (.ireturn, 1) := by decide +kernel
theorem dX1_init_0 : decode cX1_init 0 = .ok (.aload_n 0, 1) := by decide +kernel
theorem dX1_init_1 : decode cX1_init 1 = .ok (.invokespecial 3, 3) := by decide +kernel
theorem dX1_init_4 : decode cX1_init 4 = .ok (.aload_n 0, 1) := by decide +kernel
theorem dX1_init_5 : decode cX1_init 5 = .ok (.bipush 8, 2) := by decide +kernel
theorem dX1_init_7 : decode cX1_init 7 = .ok (.newarray .int, 2) := by decide +kernel
theorem dX1_init_9 : decode cX1_init 9 = .ok (.putfield 9, 3) := by decide +kernel
theorem dX1_init_12 : decode cX1_init 12 = .ok (.aload_n 0, 1) := by decide +kernel
theorem dX1_init_13 : decode cX1_init 13 = .ok (.bipush 12, 2) := by decide +kernel
theorem dX1_init_15 : decode cX1_init 15 = .ok (.newarray .int, 2) := by decide +kernel
theorem dX1_init_17 : decode cX1_init 17 = .ok (.putfield 15, 3) := by decide +kernel
theorem dX1_init_20 : decode cX1_init 20 = .ok (.aload_n 0, 1) := by decide +kernel
theorem dX1_init_21 : decode cX1_init 21 = .ok (.bipush 8, 2) := by decide +kernel
theorem dX1_init_23 : decode cX1_init 23 = .ok (.newarray .int, 2) := by decide +kernel
theorem dX1_init_25 : decode cX1_init 25 = .ok (.putfield 18, 3) := by decide +kernel
theorem dX1_init_28 : decode cX1_init 28 = .ok (.aload_n 0, 1) := by decide +kernel
theorem dX1_init_29 : decode cX1_init 29 = .ok (.bipush 8, 2) := by decide +kernel
theorem dX1_init_31 : decode cX1_init 31 = .ok (.newarray .int, 2) := by decide +kernel
theorem dX1_init_33 : decode cX1_init 33 = .ok (.putfield 21, 3) := by decide +kernel
theorem dX1_init_36 : decode cX1_init 36 = .ok (.aload_n 0, 1) := by decide +kernel
theorem dX1_init_37 : decode cX1_init 37 = .ok (.sipush 743, 3) := by decide +kernel
theorem dX1_init_40 : decode cX1_init 40 = .ok (.newarray .long, 2) := by decide +kernel
theorem dX1_init_42 : decode cX1_init 42 = .ok (.putfield 24, 3) := by decide +kernel
theorem dX1_init_45 : decode cX1_init 45 = .ok (.aload_n 0, 1) := by decide +kernel
theorem dX1_init_46 : decode cX1_init 46 = .ok (.bipush 8, 2) := by decide +kernel
theorem dX1_init_48 : decode cX1_init 48 = .ok (.newarray .int, 2) := by decide +kernel
theorem dX1_init_50 : decode cX1_init 50 = .ok (.putfield 28, 3) := by decide +kernel
theorem dX1_init_53 : decode cX1_init 53 = .ok (.aload_n 0, 1) := by decide +kernel
theorem dX1_init_54 : decode cX1_init 54 = .ok (.bipush 8, 2) := by decide +kernel
theorem dX1_init_56 : decode cX1_init 56 = .ok (.newarray .int, 2) := by decide +kernel
theorem dX1_init_58 : decode cX1_init 58 = .ok (.putfield 31, 3) := by decide +kernel
theorem dX1_init_61 : decode cX1_init 61 = .ok (.aload_n 0, 1) := by decide +kernel
theorem dX1_init_62 : decode cX1_init 62 = .ok (.aload_n 1, 1) := by decide +kernel
theorem dX1_init_63 : decode cX1_init 63 = .ok (.putfield 34, 3) := by decide +kernel
theorem dX1_init_66 : decode cX1_init 66 = .ok (.return_, 1) := by decide +kernel
theorem dX1_leastGlass_0 : decode cX1_leastGlass 0 = .ok (.aload_n 0, 1) := by decide +kernel
theorem dX1_leastGlass_1 : decode cX1_leastGlass 1 = .ok (.invokevirtual 38, 3) := by decide +kernel
theorem dX1_leastGlass_4 : decode cX1_leastGlass 4 = .ok (.aload_n 0, 1) := by decide +kernel
theorem dX1_leastGlass_5 : decode cX1_leastGlass 5 = .ok (.getfield 41, 3) := by decide +kernel
theorem dX1_leastGlass_8 : decode cX1_leastGlass 8 = .ok (.ldc2_w 45, 3) := by decide +kernel
theorem dX1_leastGlass_11 : decode cX1_leastGlass 11 = .ok (.lcmp, 1) := by decide +kernel
theorem dX1_leastGlass_12 : decode cX1_leastGlass 12 = .ok (.ifCond .lt 7, 3) := by decide +kernel
theorem dX1_leastGlass_15 : decode cX1_leastGlass 15 = .ok (.iconst (-1), 1) := by decide +kernel
theorem dX1_leastGlass_16 : decode cX1_leastGlass 16 = .ok (.goto 12, 3) := by decide +kernel
theorem dX1_leastGlass_19 : decode cX1_leastGlass 19 = .ok (.aload_n 0, 1) := by decide +kernel
theorem dX1_leastGlass_20 : decode cX1_leastGlass 20 = .ok (.getfield 41, 3) := by decide +kernel
theorem dX1_leastGlass_23 : decode cX1_leastGlass 23 = .ok (.ldc2_w 47, 3) := by decide +kernel
theorem dX1_leastGlass_26 : decode cX1_leastGlass 26 = .ok (.ldiv, 1) := by decide +kernel
theorem dX1_leastGlass_27 : decode cX1_leastGlass 27 = .ok (.l2i, 1) := by decide +kernel
theorem dX1_leastGlass_28 : decode cX1_leastGlass 28 = .ok (.ireturn, 1) := by decide +kernel
theorem dX1_stepOf_0 : decode cX1_stepOf 0 = .ok (.aload_n 0, 1) := by decide +kernel
theorem dX1_stepOf_1 : decode cX1_stepOf 1 = .ok (.invokevirtual 38, 3) := by decide +kernel
theorem dX1_stepOf_4 : decode cX1_stepOf 4 = .ok (.aload_n 0, 1) := by decide +kernel
theorem dX1_stepOf_5 : decode cX1_stepOf 5 = .ok (.getfield 15, 3) := by decide +kernel
theorem dX1_stepOf_8 : decode cX1_stepOf 8 = .ok (.iload_n 1, 1) := by decide +kernel
theorem dX1_stepOf_9 : decode cX1_stepOf 9 = .ok (.iaload, 1) := by decide +kernel
theorem dX1_stepOf_10 : decode cX1_stepOf 10 = .ok (.istore_n 2, 1) := by decide +kernel
theorem dX1_stepOf_11 : decode cX1_stepOf 11 = .ok (.iload_n 2, 1) := by decide +kernel
theorem dX1_stepOf_12 : decode cX1_stepOf 12 = .ok (.iconst (-1), 1) := by decide +kernel
theorem dX1_stepOf_13 : decode cX1_stepOf 13 = .ok (.if_icmp .ne 5, 3) := by decide +kernel
theorem dX1_stepOf_16 : decode cX1_stepOf 16 = .ok (.iconst 0, 1) := by decide +kernel
theorem dX1_stepOf_17 : decode cX1_stepOf 17 = .ok (.ireturn, 1) := by decide +kernel
theorem dX1_stepOf_18 : decode cX1_stepOf 18 = .ok (.aload_n 0, 1) := by decide +kernel
theorem dX1_stepOf_19 : decode cX1_stepOf 19 = .ok (.getfield 41, 3) := by decide +kernel
theorem dX1_stepOf_22 : decode cX1_stepOf 22 = .ok (.aload_n 0, 1) := by decide +kernel
theorem dX1_stepOf_23 : decode cX1_stepOf 23 = .ok (.iload_n 2, 1) := by decide +kernel
theorem dX1_stepOf_24 : decode cX1_stepOf 24 = .ok (.invokevirtual 49, 3) := by decide +kernel
theorem dX1_stepOf_27 : decode cX1_stepOf 27 = .ok (.ldiv, 1) := by decide +kernel
theorem dX1_stepOf_28 : decode cX1_stepOf 28 = .ok (.ldc2_w 53, 3) := by decide +kernel
theorem dX1_stepOf_31 : decode cX1_stepOf 31 = .ok (.lrem, 1) := by decide +kernel
theorem dX1_stepOf_32 : decode cX1_stepOf 32 = .ok (.l2i, 1) := by decide +kernel
theorem dX1_stepOf_33 : decode cX1_stepOf 33 = .ok (.iconst 3, 1) := by decide +kernel
theorem dX1_stepOf_34 : decode cX1_stepOf 34 = .ok (.isub, 1) := by decide +kernel
theorem dX1_stepOf_35 : decode cX1_stepOf 35 = .ok (.ireturn, 1) := by decide +kernel
theorem dX1_learn_0 : decode cX1_learn 0 = .ok (.aload_n 0, 1) := by decide +kernel
theorem dX1_learn_1 : decode cX1_learn 1 = .ok (.getfield 55, 3) := by decide +kernel
theorem dX1_learn_4 : decode cX1_learn 4 = .ok (.ifCond .eq 4, 3) := by decide +kernel
theorem dX1_learn_7 : decode cX1_learn 7 = .ok (.return_, 1) := by decide +kernel
theorem dX1_learn_8 : decode cX1_learn 8 = .ok (.aload_n 0, 1) := by decide +kernel
theorem dX1_learn_9 : decode cX1_learn 9 = .ok (.iconst 1, 1) := by decide +kernel
theorem dX1_learn_10 : decode cX1_learn 10 = .ok (.putfield 55, 3) := by decide +kernel
theorem dX1_learn_13 : decode cX1_learn 13 = .ok (.aload_n 0, 1) := by decide +kernel
theorem dX1_learn_14 : decode cX1_learn 14 = .ok (.ldc2_w 45, 3) := by decide +kernel
theorem dX1_learn_17 : decode cX1_learn 17 = .ok (.putfield 41, 3) := by decide +kernel
theorem dX1_learn_20 : decode cX1_learn 20 = .ok (.aload_n 0, 1) := by decide +kernel
theorem dX1_learn_21 : decode cX1_learn 21 = .ok (.invokevirtual 59, 3) := by decide +kernel
theorem dX1_learn_24 : decode cX1_learn 24 = .ok (.ifCond .eq 36, 3) := by decide +kernel
theorem dX1_learn_27 : decode cX1_learn 27 = .ok (.aload_n 0, 1) := by decide +kernel
theorem dX1_learn_28 : decode cX1_learn 28 = .ok (.invokevirtual 63, 3) := by decide +kernel
theorem dX1_learn_31 : decode cX1_learn 31 = .ok (.aload_n 0, 1) := by decide +kernel
theorem dX1_learn_32 : decode cX1_learn 32 = .ok (.lconst 0, 1) := by decide +kernel
theorem dX1_learn_33 : decode cX1_learn 33 = .ok (.putfield 41, 3) := by decide +kernel
theorem dX1_learn_36 : decode cX1_learn 36 = .ok (.iconst 0, 1) := by decide +kernel
theorem dX1_learn_37 : decode cX1_learn 37 = .ok (.istore_n 1, 1) := by decide +kernel
theorem dX1_learn_38 : decode cX1_learn 38 = .ok (.iload_n 1, 1) := by decide +kernel
theorem dX1_learn_39 : decode cX1_learn 39 = .ok (.aload_n 0, 1) := by decide +kernel
theorem dX1_learn_40 : decode cX1_learn 40 = .ok (.getfield 66, 3) := by decide +kernel
theorem dX1_learn_43 : decode cX1_learn 43 = .ok (.if_icmp .ge 17, 3) := by decide +kernel
theorem dX1_learn_46 : decode cX1_learn 46 = .ok (.aload_n 0, 1) := by decide +kernel
theorem dX1_learn_47 : decode cX1_learn 47 = .ok (.aload_n 0, 1) := by decide +kernel
theorem dX1_learn_48 : decode cX1_learn 48 = .ok (.invokevirtual 70, 3) := by decide +kernel
theorem dX1_learn_51 : decode cX1_learn 51 = .ok (.invokevirtual 74, 3) := by decide +kernel
theorem dX1_learn_54 : decode cX1_learn 54 = .ok (.iinc 1 1, 3) := by decide +kernel
theorem dX1_learn_57 : decode cX1_learn 57 = .ok (.goto (-19), 3) := by decide +kernel
theorem dX1_learn_60 : decode cX1_learn 60 = .ok (.return_, 1) := by decide +kernel
theorem dX1_listNodes_0 : decode cX1_listNodes 0 = .ok (.aload_n 0, 1) := by decide +kernel
theorem dX1_listNodes_1 : decode cX1_listNodes 1 = .ok (.iconst 0, 1) := by decide +kernel
theorem dX1_listNodes_2 : decode cX1_listNodes 2 = .ok (.putfield 66, 3) := by decide +kernel
theorem dX1_listNodes_5 : decode cX1_listNodes 5 = .ok (.aload_n 0, 1) := by decide +kernel
theorem dX1_listNodes_6 : decode cX1_listNodes 6 = .ok (.getfield 15, 3) := by decide +kernel
theorem dX1_listNodes_9 : decode cX1_listNodes 9 = .ok (.iconst (-1), 1) := by decide +kernel
theorem dX1_listNodes_10 : decode cX1_listNodes 10 = .ok (.invokestatic 78, 3) := by decide +kernel
theorem dX1_listNodes_13 : decode cX1_listNodes 13 = .ok (.iconst 0, 1) := by decide +kernel
theorem dX1_listNodes_14 : decode cX1_listNodes 14 = .ok (.istore_n 1, 1) := by decide +kernel
theorem dX1_listNodes_15 : decode cX1_listNodes 15 = .ok (.iload_n 1, 1) := by decide +kernel
theorem dX1_listNodes_16 : decode cX1_listNodes 16 = .ok (.aload_n 0, 1) := by decide +kernel
theorem dX1_listNodes_17 : decode cX1_listNodes 17 = .ok (.getfield 34, 3) := by decide +kernel
theorem dX1_listNodes_20 : decode cX1_listNodes 20 = .ok (.getfield 84, 3) := by decide +kernel
theorem dX1_listNodes_23 : decode cX1_listNodes 23 = .ok (.if_icmp .ge 58, 3) := by decide +kernel
theorem dX1_listNodes_26 : decode cX1_listNodes 26 = .ok (.aload_n 0, 1) := by decide +kernel
theorem dX1_listNodes_27 : decode cX1_listNodes 27 = .ok (.iload_n 1, 1) := by decide +kernel
theorem dX1_listNodes_28 : decode cX1_listNodes 28 = .ok (.invokevirtual 89, 3) := by decide +kernel
theorem dX1_listNodes_31 : decode cX1_listNodes 31 = .ok (.ifCond .eq 44, 3) := by decide +kernel
theorem dX1_listNodes_34 : decode cX1_listNodes 34 = .ok (.aload_n 0, 1) := by decide +kernel
theorem dX1_listNodes_35 : decode cX1_listNodes 35 = .ok (.getfield 66, 3) := by decide +kernel
theorem dX1_listNodes_38 : decode cX1_listNodes 38 = .ok (.bipush 8, 2) := by decide +kernel
theorem dX1_listNodes_40 : decode cX1_listNodes 40 = .ok (.if_icmp .lt 5, 3) := by decide +kernel
theorem dX1_listNodes_43 : decode cX1_listNodes 43 = .ok (.iconst 0, 1) := by decide +kernel
theorem dX1_listNodes_44 : decode cX1_listNodes 44 = .ok (.ireturn, 1) := by decide +kernel
theorem dX1_listNodes_45 : decode cX1_listNodes 45 = .ok (.aload_n 0, 1) := by decide +kernel
theorem dX1_listNodes_46 : decode cX1_listNodes 46 = .ok (.getfield 9, 3) := by decide +kernel
theorem dX1_listNodes_49 : decode cX1_listNodes 49 = .ok (.aload_n 0, 1) := by decide +kernel
theorem dX1_listNodes_50 : decode cX1_listNodes 50 = .ok (.getfield 66, 3) := by decide +kernel
theorem dX1_listNodes_53 : decode cX1_listNodes 53 = .ok (.iload_n 1, 1) := by decide +kernel
theorem dX1_listNodes_54 : decode cX1_listNodes 54 = .ok (.iastore, 1) := by decide +kernel
theorem dX1_listNodes_55 : decode cX1_listNodes 55 = .ok (.aload_n 0, 1) := by decide +kernel
theorem dX1_listNodes_56 : decode cX1_listNodes 56 = .ok (.getfield 15, 3) := by decide +kernel
theorem dX1_listNodes_59 : decode cX1_listNodes 59 = .ok (.iload_n 1, 1) := by decide +kernel
theorem dX1_listNodes_60 : decode cX1_listNodes 60 = .ok (.aload_n 0, 1) := by decide +kernel
theorem dX1_listNodes_61 : decode cX1_listNodes 61 = .ok (.getfield 66, 3) := by decide +kernel
theorem dX1_listNodes_64 : decode cX1_listNodes 64 = .ok (.iastore, 1) := by decide +kernel
theorem dX1_listNodes_65 : decode cX1_listNodes 65 = .ok (.aload_n 0, 1) := by decide +kernel
theorem dX1_listNodes_66 : decode cX1_listNodes 66 = .ok (.dup, 1) := by decide +kernel
theorem dX1_listNodes_67 : decode cX1_listNodes 67 = .ok (.getfield 66, 3) := by decide +kernel
theorem dX1_listNodes_70 : decode cX1_listNodes 70 = .ok (.iconst 1, 1) := by decide +kernel
theorem dX1_listNodes_71 : decode cX1_listNodes 71 = .ok (.iadd, 1) := by decide +kernel
theorem dX1_listNodes_72 : decode cX1_listNodes 72 = .ok (.putfield 66, 3) := by decide +kernel
theorem dX1_listNodes_75 : decode cX1_listNodes 75 = .ok (.iinc 1 1, 3) := by decide +kernel
theorem dX1_listNodes_78 : decode cX1_listNodes 78 = .ok (.goto (-63), 3) := by decide +kernel
theorem dX1_listNodes_81 : decode cX1_listNodes 81 = .ok (.iconst 1, 1) := by decide +kernel
theorem dX1_listNodes_82 : decode cX1_listNodes 82 = .ok (.ireturn, 1) := by decide +kernel
theorem dX1_isPaired_0 : decode cX1_isPaired 0 = .ok (.iconst 0, 1) := by decide +kernel
theorem dX1_isPaired_1 : decode cX1_isPaired 1 = .ok (.istore_n 2, 1) := by decide +kernel
theorem dX1_isPaired_2 : decode cX1_isPaired 2 = .ok (.iload_n 2, 1) := by decide +kernel
theorem dX1_isPaired_3 : decode cX1_isPaired 3 = .ok (.aload_n 0, 1) := by decide +kernel
theorem dX1_isPaired_4 : decode cX1_isPaired 4 = .ok (.getfield 34, 3) := by decide +kernel
theorem dX1_isPaired_7 : decode cX1_isPaired 7 = .ok (.getfield 93, 3) := by decide +kernel
theorem dX1_isPaired_10 : decode cX1_isPaired 10 = .ok (.if_icmp .ge 37, 3) := by decide +kernel
theorem dX1_isPaired_13 : decode cX1_isPaired 13 = .ok (.aload_n 0, 1) := by decide +kernel
theorem dX1_isPaired_14 : decode cX1_isPaired 14 = .ok (.getfield 34, 3) := by decide +kernel
theorem dX1_isPaired_17 : decode cX1_isPaired 17 = .ok (.getfield 96, 3) := by decide +kernel
theorem dX1_isPaired_20 : decode cX1_isPaired 20 = .ok (.iload_n 2, 1) := by decide +kernel
theorem dX1_isPaired_21 : decode cX1_isPaired 21 = .ok (.iaload, 1) := by decide +kernel
theorem dX1_isPaired_22 : decode cX1_isPaired 22 = .ok (.iload_n 1, 1) := by decide +kernel
theorem dX1_isPaired_23 : decode cX1_isPaired 23 = .ok (.if_icmp .eq 16, 3) := by decide +kernel
theorem dX1_isPaired_26 : decode cX1_isPaired 26 = .ok (.aload_n 0, 1) := by decide +kernel
theorem dX1_isPaired_27 : decode cX1_isPaired 27 = .ok (.getfield 34, 3) := by decide +kernel
theorem dX1_isPaired_30 : decode cX1_isPaired 30 = .ok (.getfield 99, 3) := by decide +kernel
theorem dX1_isPaired_33 : decode cX1_isPaired 33 = .ok (.iload_n 2, 1) := by decide +kernel
theorem dX1_isPaired_34 : decode cX1_isPaired 34 = .ok (.iaload, 1) := by decide +kernel
theorem dX1_isPaired_35 : decode cX1_isPaired 35 = .ok (.iload_n 1, 1) := by decide +kernel
theorem dX1_isPaired_36 : decode cX1_isPaired 36 = .ok (.if_icmp .ne 5, 3) := by decide +kernel
theorem dX1_isPaired_39 : decode cX1_isPaired 39 = .ok (.iconst 1, 1) := by decide +kernel
theorem dX1_isPaired_40 : decode cX1_isPaired 40 = .ok (.ireturn, 1) := by decide +kernel
theorem dX1_isPaired_41 : decode cX1_isPaired 41 = .ok (.iinc 2 1, 3) := by decide +kernel
theorem dX1_isPaired_44 : decode cX1_isPaired 44 = .ok (.goto (-42), 3) := by decide +kernel
theorem dX1_isPaired_47 : decode cX1_isPaired 47 = .ok (.iconst 0, 1) := by decide +kernel
theorem dX1_isPaired_48 : decode cX1_isPaired 48 = .ok (.ireturn, 1) := by decide +kernel
theorem dX1_listNeighbours_0 : decode cX1_listNeighbours 0 = .ok (.aload_n 0, 1) := by decide +kernel
theorem dX1_listNeighbours_1 : decode cX1_listNeighbours 1 = .ok (.iconst 0, 1) := by decide +kernel
theorem dX1_listNeighbours_2 : decode cX1_listNeighbours 2 = .ok (.putfield 102, 3) := by decide +kernel
theorem dX1_listNeighbours_5 : decode cX1_listNeighbours 5 = .ok (.aload_n 0, 1) := by decide +kernel
theorem dX1_listNeighbours_6 : decode cX1_listNeighbours 6 = .ok (.iconst 0, 1) := by decide +kernel
theorem dX1_listNeighbours_7 : decode cX1_listNeighbours 7 = .ok (.putfield 105, 3) := by decide +kernel
theorem dX1_listNeighbours_10 : decode cX1_listNeighbours 10 = .ok (.aload_n 0, 1) := by decide +kernel
theorem dX1_listNeighbours_11 : decode cX1_listNeighbours 11 = .ok (.iconst 0, 1) := by decide +kernel
theorem dX1_listNeighbours_12 : decode cX1_listNeighbours 12 = .ok (.putfield 108, 3) := by decide +kernel
theorem dX1_listNeighbours_15 : decode cX1_listNeighbours 15 = .ok (.aload_n 0, 1) := by decide +kernel
theorem dX1_listNeighbours_16 : decode cX1_listNeighbours 16 = .ok (.getfield 18, 3) := by decide +kernel
theorem dX1_listNeighbours_19 : decode cX1_listNeighbours 19 = .ok (.iconst 0, 1) := by decide +kernel
theorem dX1_listNeighbours_20 : decode cX1_listNeighbours 20 = .ok (.invokestatic 78, 3) := by decide +kernel
theorem dX1_listNeighbours_23 : decode cX1_listNeighbours 23 = .ok (.iconst 0, 1) := by decide +kernel
theorem dX1_listNeighbours_24 : decode cX1_listNeighbours 24 = .ok (.istore_n 1, 1) := by decide +kernel
theorem dX1_listNeighbours_25 : decode cX1_listNeighbours 25 = .ok (.iload_n 1, 1) := by decide +kernel
theorem dX1_listNeighbours_26 : decode cX1_listNeighbours 26 = .ok (.aload_n 0, 1) := by decide +kernel
theorem dX1_listNeighbours_27 : decode cX1_listNeighbours 27 = .ok (.getfield 34, 3) := by decide +kernel
theorem dX1_listNeighbours_30 : decode cX1_listNeighbours 30 = .ok (.getfield 93, 3) := by decide +kernel
theorem dX1_listNeighbours_33 : decode cX1_listNeighbours 33 = .ok (.if_icmp .ge 63, 3) := by decide +kernel
theorem dX1_listNeighbours_36 : decode cX1_listNeighbours 36 = .ok (.aload_n 0, 1) := by decide +kernel
theorem dX1_listNeighbours_37 : decode cX1_listNeighbours 37 = .ok (.getfield 15, 3) := by decide +kernel
theorem dX1_listNeighbours_40 : decode cX1_listNeighbours 40 = .ok (.aload_n 0, 1) := by decide +kernel
theorem dX1_listNeighbours_41 : decode cX1_listNeighbours 41 = .ok (.getfield 34, 3) := by decide +kernel
theorem dX1_listNeighbours_44 : decode cX1_listNeighbours 44 = .ok (.getfield 96, 3) := by decide +kernel
theorem dX1_listNeighbours_47 : decode cX1_listNeighbours 47 = .ok (.iload_n 1, 1) := by decide +kernel
theorem dX1_listNeighbours_48 : decode cX1_listNeighbours 48 = .ok (.iaload, 1) := by decide +kernel
theorem dX1_listNeighbours_49 : decode cX1_listNeighbours 49 = .ok (.iaload, 1) := by decide +kernel
theorem dX1_listNeighbours_50 : decode cX1_listNeighbours 50 = .ok (.istore_n 2, 1) := by decide +kernel
theorem dX1_listNeighbours_51 : decode cX1_listNeighbours 51 = .ok (.aload_n 0, 1) := by decide +kernel
theorem dX1_listNeighbours_52 : decode cX1_listNeighbours 52 = .ok (.getfield 15, 3) := by decide +kernel
theorem dX1_listNeighbours_55 : decode cX1_listNeighbours 55 = .ok (.aload_n 0, 1) := by decide +kernel
theorem dX1_listNeighbours_56 : decode cX1_listNeighbours 56 = .ok (.getfield 34, 3) := by decide +kernel
theorem dX1_listNeighbours_59 : decode cX1_listNeighbours 59 = .ok (.getfield 99, 3) := by decide +kernel
theorem dX1_listNeighbours_62 : decode cX1_listNeighbours 62 = .ok (.iload_n 1, 1) := by decide +kernel
theorem dX1_listNeighbours_63 : decode cX1_listNeighbours 63 = .ok (.iaload, 1) := by decide +kernel
theorem dX1_listNeighbours_64 : decode cX1_listNeighbours 64 = .ok (.iaload, 1) := by decide +kernel
theorem dX1_listNeighbours_65 : decode cX1_listNeighbours 65 = .ok (.istore_n 3, 1) := by decide +kernel
theorem dX1_listNeighbours_66 : decode cX1_listNeighbours 66 = .ok (.aload_n 0, 1) := by decide +kernel
theorem dX1_listNeighbours_67 : decode cX1_listNeighbours 67 = .ok (.getfield 18, 3) := by decide +kernel
theorem dX1_listNeighbours_70 : decode cX1_listNeighbours 70 = .ok (.iload_n 2, 1) := by decide +kernel
theorem dX1_listNeighbours_71 : decode cX1_listNeighbours 71 = .ok (.dup2, 1) := by decide +kernel
theorem dX1_listNeighbours_72 : decode cX1_listNeighbours 72 = .ok (.iaload, 1) := by decide +kernel
theorem dX1_listNeighbours_73 : decode cX1_listNeighbours 73 = .ok (.iconst 1, 1) := by decide +kernel
theorem dX1_listNeighbours_74 : decode cX1_listNeighbours 74 = .ok (.iload_n 3, 1) := by decide +kernel
theorem dX1_listNeighbours_75 : decode cX1_listNeighbours 75 = .ok (.ishl, 1) := by decide +kernel
theorem dX1_listNeighbours_76 : decode cX1_listNeighbours 76 = .ok (.ior, 1) := by decide +kernel
theorem dX1_listNeighbours_77 : decode cX1_listNeighbours 77 = .ok (.iastore, 1) := by decide +kernel
theorem dX1_listNeighbours_78 : decode cX1_listNeighbours 78 = .ok (.aload_n 0, 1) := by decide +kernel
theorem dX1_listNeighbours_79 : decode cX1_listNeighbours 79 = .ok (.getfield 18, 3) := by decide +kernel
theorem dX1_listNeighbours_82 : decode cX1_listNeighbours 82 = .ok (.iload_n 3, 1) := by decide +kernel
theorem dX1_listNeighbours_83 : decode cX1_listNeighbours 83 = .ok (.dup2, 1) := by decide +kernel
theorem dX1_listNeighbours_84 : decode cX1_listNeighbours 84 = .ok (.iaload, 1) := by decide +kernel
theorem dX1_listNeighbours_85 : decode cX1_listNeighbours 85 = .ok (.iconst 1, 1) := by decide +kernel
theorem dX1_listNeighbours_86 : decode cX1_listNeighbours 86 = .ok (.iload_n 2, 1) := by decide +kernel
theorem dX1_listNeighbours_87 : decode cX1_listNeighbours 87 = .ok (.ishl, 1) := by decide +kernel
theorem dX1_listNeighbours_88 : decode cX1_listNeighbours 88 = .ok (.ior, 1) := by decide +kernel
theorem dX1_listNeighbours_89 : decode cX1_listNeighbours 89 = .ok (.iastore, 1) := by decide +kernel
theorem dX1_listNeighbours_90 : decode cX1_listNeighbours 90 = .ok (.iinc 1 1, 3) := by decide +kernel
theorem dX1_listNeighbours_93 : decode cX1_listNeighbours 93 = .ok (.goto (-68), 3) := by decide +kernel
theorem dX1_listNeighbours_96 : decode cX1_listNeighbours 96 = .ok (.return_, 1) := by decide +kernel
theorem dX1_nextNode_0 : decode cX1_nextNode 0 = .ok (.iconst (-1), 1) := by decide +kernel
theorem dX1_nextNode_1 : decode cX1_nextNode 1 = .ok (.istore_n 1, 1) := by decide +kernel
theorem dX1_nextNode_2 : decode cX1_nextNode 2 = .ok (.iconst 0, 1) := by decide +kernel
theorem dX1_nextNode_3 : decode cX1_nextNode 3 = .ok (.istore_n 2, 1) := by decide +kernel
theorem dX1_nextNode_4 : decode cX1_nextNode 4 = .ok (.iload_n 2, 1) := by decide +kernel
theorem dX1_nextNode_5 : decode cX1_nextNode 5 = .ok (.aload_n 0, 1) := by decide +kernel
theorem dX1_nextNode_6 : decode cX1_nextNode 6 = .ok (.getfield 66, 3) := by decide +kernel
theorem dX1_nextNode_9 : decode cX1_nextNode 9 = .ok (.if_icmp .ge 58, 3) := by decide +kernel
theorem dX1_nextNode_12 : decode cX1_nextNode 12 = .ok (.aload_n 0, 1) := by decide +kernel
theorem dX1_nextNode_13 : decode cX1_nextNode 13 = .ok (.getfield 102, 3) := by decide +kernel
theorem dX1_nextNode_16 : decode cX1_nextNode 16 = .ok (.iload_n 2, 1) := by decide +kernel
theorem dX1_nextNode_17 : decode cX1_nextNode 17 = .ok (.ishr, 1) := by decide +kernel
theorem dX1_nextNode_18 : decode cX1_nextNode 18 = .ok (.iconst 1, 1) := by decide +kernel
theorem dX1_nextNode_19 : decode cX1_nextNode 19 = .ok (.iand, 1) := by decide +kernel
theorem dX1_nextNode_20 : decode cX1_nextNode 20 = .ok (.ifCond .ne 7, 3) := by decide +kernel
theorem dX1_nextNode_23 : decode cX1_nextNode 23 = .ok (.iconst 1, 1) := by decide +kernel
theorem dX1_nextNode_24 : decode cX1_nextNode 24 = .ok (.goto 4, 3) := by decide +kernel
theorem dX1_nextNode_27 : decode cX1_nextNode 27 = .ok (.iconst 0, 1) := by decide +kernel
theorem dX1_nextNode_28 : decode cX1_nextNode 28 = .ok (.istore_n 3, 1) := by decide +kernel
theorem dX1_nextNode_29 : decode cX1_nextNode 29 = .ok (.iload_n 3, 1) := by decide +kernel
theorem dX1_nextNode_30 : decode cX1_nextNode 30 = .ok (.ifCond .eq 31, 3) := by decide +kernel
theorem dX1_nextNode_33 : decode cX1_nextNode 33 = .ok (.iload_n 1, 1) := by decide +kernel
theorem dX1_nextNode_34 : decode cX1_nextNode 34 = .ok (.iconst (-1), 1) := by decide +kernel
theorem dX1_nextNode_35 : decode cX1_nextNode 35 = .ok (.if_icmp .eq 24, 3) := by decide +kernel
theorem dX1_nextNode_38 : decode cX1_nextNode 38 = .ok (.aload_n 0, 1) := by decide +kernel
theorem dX1_nextNode_39 : decode cX1_nextNode 39 = .ok (.getfield 18, 3) := by decide +kernel
theorem dX1_nextNode_42 : decode cX1_nextNode 42 = .ok (.iload_n 2, 1) := by decide +kernel
theorem dX1_nextNode_43 : decode cX1_nextNode 43 = .ok (.iaload, 1) := by decide +kernel
theorem dX1_nextNode_44 : decode cX1_nextNode 44 = .ok (.invokestatic 111, 3) := by decide +kernel
theorem dX1_nextNode_47 : decode cX1_nextNode 47 = .ok (.aload_n 0, 1) := by decide +kernel
theorem dX1_nextNode_48 : decode cX1_nextNode 48 = .ok (.getfield 18, 3) := by decide +kernel
theorem dX1_nextNode_51 : decode cX1_nextNode 51 = .ok (.iload_n 1, 1) := by decide +kernel
theorem dX1_nextNode_52 : decode cX1_nextNode 52 = .ok (.iaload, 1) := by decide +kernel
theorem dX1_nextNode_53 : decode cX1_nextNode 53 = .ok (.invokestatic 111, 3) := by decide +kernel
theorem dX1_nextNode_56 : decode cX1_nextNode 56 = .ok (.if_icmp .ge 5, 3) := by decide +kernel
theorem dX1_nextNode_59 : decode cX1_nextNode 59 = .ok (.iload_n 2, 1) := by decide +kernel
theorem dX1_nextNode_60 : decode cX1_nextNode 60 = .ok (.istore_n 1, 1) := by decide +kernel
theorem dX1_nextNode_61 : decode cX1_nextNode 61 = .ok (.iinc 2 1, 3) := by decide +kernel
theorem dX1_nextNode_64 : decode cX1_nextNode 64 = .ok (.goto (-60), 3) := by decide +kernel
theorem dX1_nextNode_67 : decode cX1_nextNode 67 = .ok (.iload_n 1, 1) := by decide +kernel
theorem dX1_nextNode_68 : decode cX1_nextNode 68 = .ok (.ireturn, 1) := by decide +kernel
theorem dX1_takeOut_0 : decode cX1_takeOut 0 = .ok (.iload_n 1, 1) := by decide +kernel
theorem dX1_takeOut_1 : decode cX1_takeOut 1 = .ok (.iconst (-1), 1) := by decide +kernel
theorem dX1_takeOut_2 : decode cX1_takeOut 2 = .ok (.if_icmp .eq 16, 3) := by decide +kernel
theorem dX1_takeOut_5 : decode cX1_takeOut 5 = .ok (.aload_n 0, 1) := by decide +kernel
theorem dX1_takeOut_6 : decode cX1_takeOut 6 = .ok (.getfield 18, 3) := by decide +kernel
theorem dX1_takeOut_9 : decode cX1_takeOut 9 = .ok (.iload_n 1, 1) := by decide +kernel
theorem dX1_takeOut_10 : decode cX1_takeOut 10 = .ok (.iaload, 1) := by decide +kernel
theorem dX1_takeOut_11 : decode cX1_takeOut 11 = .ok (.invokestatic 111, 3) := by decide +kernel
theorem dX1_takeOut_14 : decode cX1_takeOut 14 = .ok (.iconst 3, 1) := by decide +kernel
theorem dX1_takeOut_15 : decode cX1_takeOut 15 = .ok (.if_icmp .le 11, 3) := by decide +kernel
theorem dX1_takeOut_18 : decode cX1_takeOut 18 = .ok (.aload_n 0, 1) := by decide +kernel
theorem dX1_takeOut_19 : decode cX1_takeOut 19 = .ok (.ldc2_w 45, 3) := by decide +kernel
theorem dX1_takeOut_22 : decode cX1_takeOut 22 = .ok (.putfield 41, 3) := by decide +kernel
theorem dX1_takeOut_25 : decode cX1_takeOut 25 = .ok (.return_, 1) := by decide +kernel
theorem dX1_takeOut_26 : decode cX1_takeOut 26 = .ok (.aload_n 0, 1) := by decide +kernel
theorem dX1_takeOut_27 : decode cX1_takeOut 27 = .ok (.getfield 21, 3) := by decide +kernel
theorem dX1_takeOut_30 : decode cX1_takeOut 30 = .ok (.iload_n 1, 1) := by decide +kernel
theorem dX1_takeOut_31 : decode cX1_takeOut 31 = .ok (.aload_n 0, 1) := by decide +kernel
theorem dX1_takeOut_32 : decode cX1_takeOut 32 = .ok (.getfield 18, 3) := by decide +kernel
theorem dX1_takeOut_35 : decode cX1_takeOut 35 = .ok (.iload_n 1, 1) := by decide +kernel
theorem dX1_takeOut_36 : decode cX1_takeOut 36 = .ok (.iaload, 1) := by decide +kernel
theorem dX1_takeOut_37 : decode cX1_takeOut 37 = .ok (.iastore, 1) := by decide +kernel
theorem dX1_takeOut_38 : decode cX1_takeOut 38 = .ok (.aload_n 0, 1) := by decide +kernel
theorem dX1_takeOut_39 : decode cX1_takeOut 39 = .ok (.getfield 28, 3) := by decide +kernel
theorem dX1_takeOut_42 : decode cX1_takeOut 42 = .ok (.iload_n 1, 1) := by decide +kernel
theorem dX1_takeOut_43 : decode cX1_takeOut 43 = .ok (.aload_n 0, 1) := by decide +kernel
theorem dX1_takeOut_44 : decode cX1_takeOut 44 = .ok (.getfield 108, 3) := by decide +kernel
theorem dX1_takeOut_47 : decode cX1_takeOut 47 = .ok (.iastore, 1) := by decide +kernel
theorem dX1_takeOut_48 : decode cX1_takeOut 48 = .ok (.aload_n 0, 1) := by decide +kernel
theorem dX1_takeOut_49 : decode cX1_takeOut 49 = .ok (.aload_n 0, 1) := by decide +kernel
theorem dX1_takeOut_50 : decode cX1_takeOut 50 = .ok (.getfield 21, 3) := by decide +kernel
theorem dX1_takeOut_53 : decode cX1_takeOut 53 = .ok (.iload_n 1, 1) := by decide +kernel
theorem dX1_takeOut_54 : decode cX1_takeOut 54 = .ok (.iaload, 1) := by decide +kernel
theorem dX1_takeOut_55 : decode cX1_takeOut 55 = .ok (.invokevirtual 117, 3) := by decide +kernel
theorem dX1_takeOut_58 : decode cX1_takeOut 58 = .ok (.istore_n 2, 1) := by decide +kernel
theorem dX1_takeOut_59 : decode cX1_takeOut 59 = .ok (.iconst 0, 1) := by decide +kernel
theorem dX1_takeOut_60 : decode cX1_takeOut 60 = .ok (.istore_n 3, 1) := by decide +kernel
theorem dX1_takeOut_61 : decode cX1_takeOut 61 = .ok (.iload_n 3, 1) := by decide +kernel
theorem dX1_takeOut_62 : decode cX1_takeOut 62 = .ok (.iload_n 2, 1) := by decide +kernel
theorem dX1_takeOut_63 : decode cX1_takeOut 63 = .ok (.if_icmp .ge 54, 3) := by decide +kernel
theorem dX1_takeOut_66 : decode cX1_takeOut 66 = .ok (.aload_n 0, 1) := by decide +kernel
theorem dX1_takeOut_67 : decode cX1_takeOut 67 = .ok (.getfield 108, 3) := by decide +kernel
theorem dX1_takeOut_70 : decode cX1_takeOut 70 = .ok (.sipush 743, 3) := by decide +kernel
theorem dX1_takeOut_73 : decode cX1_takeOut 73 = .ok (.if_icmp .ge 44, 3) := by decide +kernel
theorem dX1_takeOut_76 : decode cX1_takeOut 76 = .ok (.aload_n 0, 1) := by decide +kernel
theorem dX1_takeOut_77 : decode cX1_takeOut 77 = .ok (.aload_n 0, 1) := by decide +kernel
theorem dX1_takeOut_78 : decode cX1_takeOut 78 = .ok (.getfield 21, 3) := by decide +kernel
theorem dX1_takeOut_81 : decode cX1_takeOut 81 = .ok (.iload_n 1, 1) := by decide +kernel
theorem dX1_takeOut_82 : decode cX1_takeOut 82 = .ok (.iaload, 1) := by decide +kernel
theorem dX1_takeOut_83 : decode cX1_takeOut 83 = .ok (.iload_n 3, 1) := by decide +kernel
theorem dX1_takeOut_84 : decode cX1_takeOut 84 = .ok (.invokevirtual 120, 3) := by decide +kernel
theorem dX1_takeOut_87 : decode cX1_takeOut 87 = .ok (.aload_n 0, 1) := by decide +kernel
theorem dX1_takeOut_88 : decode cX1_takeOut 88 = .ok (.getfield 24, 3) := by decide +kernel
theorem dX1_takeOut_91 : decode cX1_takeOut 91 = .ok (.aload_n 0, 1) := by decide +kernel
theorem dX1_takeOut_92 : decode cX1_takeOut 92 = .ok (.getfield 108, 3) := by decide +kernel
theorem dX1_takeOut_95 : decode cX1_takeOut 95 = .ok (.aload_n 0, 1) := by decide +kernel
theorem dX1_takeOut_96 : decode cX1_takeOut 96 = .ok (.iload_n 1, 1) := by decide +kernel
theorem dX1_takeOut_97 : decode cX1_takeOut 97 = .ok (.invokevirtual 124, 3) := by decide +kernel
theorem dX1_takeOut_100 : decode cX1_takeOut 100 = .ok (.lastore, 1) := by decide +kernel
theorem dX1_takeOut_101 : decode cX1_takeOut 101 = .ok (.aload_n 0, 1) := by decide +kernel
theorem dX1_takeOut_102 : decode cX1_takeOut 102 = .ok (.dup, 1) := by decide +kernel
theorem dX1_takeOut_103 : decode cX1_takeOut 103 = .ok (.getfield 108, 3) := by decide +kernel
theorem dX1_takeOut_106 : decode cX1_takeOut 106 = .ok (.iconst 1, 1) := by decide +kernel
theorem dX1_takeOut_107 : decode cX1_takeOut 107 = .ok (.iadd, 1) := by decide +kernel
theorem dX1_takeOut_108 : decode cX1_takeOut 108 = .ok (.putfield 108, 3) := by decide +kernel
theorem dX1_takeOut_111 : decode cX1_takeOut 111 = .ok (.iinc 3 1, 3) := by decide +kernel
theorem dX1_takeOut_114 : decode cX1_takeOut 114 = .ok (.goto (-53), 3) := by decide +kernel
theorem dX1_takeOut_117 : decode cX1_takeOut 117 = .ok (.aload_n 0, 1) := by decide +kernel
theorem dX1_takeOut_118 : decode cX1_takeOut 118 = .ok (.iload_n 1, 1) := by decide +kernel
theorem dX1_takeOut_119 : decode cX1_takeOut 119 = .ok (.invokevirtual 127, 3) := by decide +kernel
theorem dX1_takeOut_122 : decode cX1_takeOut 122 = .ok (.aload_n 0, 1) := by decide +kernel
theorem dX1_takeOut_123 : decode cX1_takeOut 123 = .ok (.getfield 21, 3) := by decide +kernel
theorem dX1_takeOut_126 : decode cX1_takeOut 126 = .ok (.iload_n 1, 1) := by decide +kernel
theorem dX1_takeOut_127 : decode cX1_takeOut 127 = .ok (.iaload, 1) := by decide +kernel
theorem dX1_takeOut_128 : decode cX1_takeOut 128 = .ok (.ifCond .ne 29, 3) := by decide +kernel
theorem dX1_takeOut_131 : decode cX1_takeOut 131 = .ok (.aload_n 0, 1) := by decide +kernel
theorem dX1_takeOut_132 : decode cX1_takeOut 132 = .ok (.ldc2_w 45, 3) := by decide +kernel
theorem dX1_takeOut_135 : decode cX1_takeOut 135 = .ok (.aload_n 0, 1) := by decide +kernel
theorem dX1_takeOut_136 : decode cX1_takeOut 136 = .ok (.getfield 41, 3) := by decide +kernel
theorem dX1_takeOut_139 : decode cX1_takeOut 139 = .ok (.aload_n 0, 1) := by decide +kernel
theorem dX1_takeOut_140 : decode cX1_takeOut 140 = .ok (.getfield 24, 3) := by decide +kernel
theorem dX1_takeOut_143 : decode cX1_takeOut 143 = .ok (.aload_n 0, 1) := by decide +kernel
theorem dX1_takeOut_144 : decode cX1_takeOut 144 = .ok (.getfield 28, 3) := by decide +kernel
theorem dX1_takeOut_147 : decode cX1_takeOut 147 = .ok (.iload_n 1, 1) := by decide +kernel
theorem dX1_takeOut_148 : decode cX1_takeOut 148 = .ok (.iaload, 1) := by decide +kernel
theorem dX1_takeOut_149 : decode cX1_takeOut 149 = .ok (.laload, 1) := by decide +kernel
theorem dX1_takeOut_150 : decode cX1_takeOut 150 = .ok (.ladd, 1) := by decide +kernel
theorem dX1_takeOut_151 : decode cX1_takeOut 151 = .ok (.invokestatic 130, 3) := by decide +kernel
theorem dX1_takeOut_154 : decode cX1_takeOut 154 = .ok (.putfield 41, 3) := by decide +kernel
theorem dX1_takeOut_157 : decode cX1_takeOut 157 = .ok (.return_, 1) := by decide +kernel
theorem dX1_waysOf_0 : decode cX1_waysOf 0 = .ok (.iconst 1, 1) := by decide +kernel
theorem dX1_waysOf_1 : decode cX1_waysOf 1 = .ok (.istore_n 2, 1) := by decide +kernel
theorem dX1_waysOf_2 : decode cX1_waysOf 2 = .ok (.iconst 0, 1) := by decide +kernel
theorem dX1_waysOf_3 : decode cX1_waysOf 3 = .ok (.istore_n 3, 1) := by decide +kernel
theorem dX1_waysOf_4 : decode cX1_waysOf 4 = .ok (.iload_n 3, 1) := by decide +kernel
theorem dX1_waysOf_5 : decode cX1_waysOf 5 = .ok (.iload_n 1, 1) := by decide +kernel
theorem dX1_waysOf_6 : decode cX1_waysOf 6 = .ok (.invokestatic 111, 3) := by decide +kernel
theorem dX1_waysOf_9 : decode cX1_waysOf 9 = .ok (.if_icmp .ge 14, 3) := by decide +kernel
theorem dX1_waysOf_12 : decode cX1_waysOf 12 = .ok (.iload_n 2, 1) := by decide +kernel
theorem dX1_waysOf_13 : decode cX1_waysOf 13 = .ok (.bipush 7, 2) := by decide +kernel
theorem dX1_waysOf_15 : decode cX1_waysOf 15 = .ok (.imul, 1) := by decide +kernel
theorem dX1_waysOf_16 : decode cX1_waysOf 16 = .ok (.istore_n 2, 1) := by decide +kernel
theorem dX1_waysOf_17 : decode cX1_waysOf 17 = .ok (.iinc 3 1, 3) := by decide +kernel
theorem dX1_waysOf_20 : decode cX1_waysOf 20 = .ok (.goto (-16), 3) := by decide +kernel
theorem dX1_waysOf_23 : decode cX1_waysOf 23 = .ok (.iload_n 2, 1) := by decide +kernel
theorem dX1_waysOf_24 : decode cX1_waysOf 24 = .ok (.ireturn, 1) := by decide +kernel
theorem dX1_spread_0 : decode cX1_spread 0 = .ok (.iload_n 2, 1) := by decide +kernel
theorem dX1_spread_1 : decode cX1_spread 1 = .ok (.istore_n 3, 1) := by decide +kernel
theorem dX1_spread_2 : decode cX1_spread 2 = .ok (.iconst 0, 1) := by decide +kernel
theorem dX1_spread_3 : decode cX1_spread 3 = .ok (.istore 4, 2) := by decide +kernel
theorem dX1_spread_5 : decode cX1_spread 5 = .ok (.iload 4, 2) := by decide +kernel
theorem dX1_spread_7 : decode cX1_spread 7 = .ok (.aload_n 0, 1) := by decide +kernel
theorem dX1_spread_8 : decode cX1_spread 8 = .ok (.getfield 66, 3) := by decide +kernel
theorem dX1_spread_11 : decode cX1_spread 11 = .ok (.if_icmp .ge 34, 3) := by decide +kernel
theorem dX1_spread_14 : decode cX1_spread 14 = .ok (.iload_n 1, 1) := by decide +kernel
theorem dX1_spread_15 : decode cX1_spread 15 = .ok (.iload 4, 2) := by decide +kernel
theorem dX1_spread_17 : decode cX1_spread 17 = .ok (.ishr, 1) := by decide +kernel
theorem dX1_spread_18 : decode cX1_spread 18 = .ok (.iconst 1, 1) := by decide +kernel
theorem dX1_spread_19 : decode cX1_spread 19 = .ok (.iand, 1) := by decide +kernel
theorem dX1_spread_20 : decode cX1_spread 20 = .ok (.ifCond .eq 19, 3) := by decide +kernel
theorem dX1_spread_23 : decode cX1_spread 23 = .ok (.aload_n 0, 1) := by decide +kernel
theorem dX1_spread_24 : decode cX1_spread 24 = .ok (.getfield 31, 3) := by decide +kernel
theorem dX1_spread_27 : decode cX1_spread 27 = .ok (.iload 4, 2) := by decide +kernel
theorem dX1_spread_29 : decode cX1_spread 29 = .ok (.iload_n 3, 1) := by decide +kernel
theorem dX1_spread_30 : decode cX1_spread 30 = .ok (.bipush 7, 2) := by decide +kernel
theorem dX1_spread_32 : decode cX1_spread 32 = .ok (.irem, 1) := by decide +kernel
theorem dX1_spread_33 : decode cX1_spread 33 = .ok (.iastore, 1) := by decide +kernel
theorem dX1_spread_34 : decode cX1_spread 34 = .ok (.iload_n 3, 1) := by decide +kernel
theorem dX1_spread_35 : decode cX1_spread 35 = .ok (.bipush 7, 2) := by decide +kernel
theorem dX1_spread_37 : decode cX1_spread 37 = .ok (.idiv, 1) := by decide +kernel
theorem dX1_spread_38 : decode cX1_spread 38 = .ok (.istore_n 3, 1) := by decide +kernel
theorem dX1_spread_39 : decode cX1_spread 39 = .ok (.iinc 4 1, 3) := by decide +kernel
theorem dX1_spread_42 : decode cX1_spread 42 = .ok (.goto (-37), 3) := by decide +kernel
theorem dX1_spread_45 : decode cX1_spread 45 = .ok (.return_, 1) := by decide +kernel
theorem dX1_wayOf_0 : decode cX1_wayOf 0 = .ok (.iconst 0, 1) := by decide +kernel
theorem dX1_wayOf_1 : decode cX1_wayOf 1 = .ok (.istore_n 2, 1) := by decide +kernel
theorem dX1_wayOf_2 : decode cX1_wayOf 2 = .ok (.aload_n 0, 1) := by decide +kernel
theorem dX1_wayOf_3 : decode cX1_wayOf 3 = .ok (.getfield 66, 3) := by decide +kernel
theorem dX1_wayOf_6 : decode cX1_wayOf 6 = .ok (.iconst 1, 1) := by decide +kernel
theorem dX1_wayOf_7 : decode cX1_wayOf 7 = .ok (.isub, 1) := by decide +kernel
theorem dX1_wayOf_8 : decode cX1_wayOf 8 = .ok (.istore_n 3, 1) := by decide +kernel
theorem dX1_wayOf_9 : decode cX1_wayOf 9 = .ok (.iload_n 3, 1) := by decide +kernel
theorem dX1_wayOf_10 : decode cX1_wayOf 10 = .ok (.ifCond .lt 29, 3) := by decide +kernel
theorem dX1_wayOf_13 : decode cX1_wayOf 13 = .ok (.iload_n 1, 1) := by decide +kernel
theorem dX1_wayOf_14 : decode cX1_wayOf 14 = .ok (.iload_n 3, 1) := by decide +kernel
theorem dX1_wayOf_15 : decode cX1_wayOf 15 = .ok (.ishr, 1) := by decide +kernel
theorem dX1_wayOf_16 : decode cX1_wayOf 16 = .ok (.iconst 1, 1) := by decide +kernel
theorem dX1_wayOf_17 : decode cX1_wayOf 17 = .ok (.iand, 1) := by decide +kernel
theorem dX1_wayOf_18 : decode cX1_wayOf 18 = .ok (.ifCond .eq 15, 3) := by decide +kernel
theorem dX1_wayOf_21 : decode cX1_wayOf 21 = .ok (.iload_n 2, 1) := by decide +kernel
theorem dX1_wayOf_22 : decode cX1_wayOf 22 = .ok (.bipush 7, 2) := by decide +kernel
theorem dX1_wayOf_24 : decode cX1_wayOf 24 = .ok (.imul, 1) := by decide +kernel
theorem dX1_wayOf_25 : decode cX1_wayOf 25 = .ok (.aload_n 0, 1) := by decide +kernel
theorem dX1_wayOf_26 : decode cX1_wayOf 26 = .ok (.getfield 31, 3) := by decide +kernel
theorem dX1_wayOf_29 : decode cX1_wayOf 29 = .ok (.iload_n 3, 1) := by decide +kernel
theorem dX1_wayOf_30 : decode cX1_wayOf 30 = .ok (.iaload, 1) := by decide +kernel
theorem dX1_wayOf_31 : decode cX1_wayOf 31 = .ok (.iadd, 1) := by decide +kernel
theorem dX1_wayOf_32 : decode cX1_wayOf 32 = .ok (.istore_n 2, 1) := by decide +kernel
theorem dX1_wayOf_33 : decode cX1_wayOf 33 = .ok (.iinc 3 (-1), 3) := by decide +kernel
theorem dX1_wayOf_36 : decode cX1_wayOf 36 = .ok (.goto (-27), 3) := by decide +kernel
theorem dX1_wayOf_39 : decode cX1_wayOf 39 = .ok (.iload_n 2, 1) := by decide +kernel
theorem dX1_wayOf_40 : decode cX1_wayOf 40 = .ok (.ireturn, 1) := by decide +kernel
theorem dX1_bestStep_0 : decode cX1_bestStep 0 = .ok (.ldc2_w 45, 3) := by decide +kernel
theorem dX1_bestStep_3 : decode cX1_bestStep 3 = .ok (.lstore_n 2, 1) := by decide +kernel
theorem dX1_bestStep_4 : decode cX1_bestStep 4 = .ok (.iconst 0, 1) := by decide +kernel
theorem dX1_bestStep_5 : decode cX1_bestStep 5 = .ok (.istore 4, 2) := by decide +kernel
theorem dX1_bestStep_7 : decode cX1_bestStep 7 = .ok (.iload 4, 2) := by decide +kernel
theorem dX1_bestStep_9 : decode cX1_bestStep 9 = .ok (.bipush 7, 2) := by decide +kernel
theorem dX1_bestStep_11 : decode cX1_bestStep 11 = .ok (.if_icmp .ge 35, 3) := by decide +kernel
theorem dX1_bestStep_14 : decode cX1_bestStep 14 = .ok (.aload_n 0, 1) := by decide +kernel
theorem dX1_bestStep_15 : decode cX1_bestStep 15 = .ok (.getfield 31, 3) := by decide +kernel
theorem dX1_bestStep_18 : decode cX1_bestStep 18 = .ok (.iload_n 1, 1) := by decide +kernel
theorem dX1_bestStep_19 : decode cX1_bestStep 19 = .ok (.iload 4, 2) := by decide +kernel
theorem dX1_bestStep_21 : decode cX1_bestStep 21 = .ok (.iastore, 1) := by decide +kernel
theorem dX1_bestStep_22 : decode cX1_bestStep 22 = .ok (.aload_n 0, 1) := by decide +kernel
theorem dX1_bestStep_23 : decode cX1_bestStep 23 = .ok (.iload_n 1, 1) := by decide +kernel
theorem dX1_bestStep_24 : decode cX1_bestStep 24 = .ok (.invokevirtual 136, 3) := by decide +kernel
theorem dX1_bestStep_27 : decode cX1_bestStep 27 = .ok (.ifCond .eq 13, 3) := by decide +kernel
theorem dX1_bestStep_30 : decode cX1_bestStep 30 = .ok (.lload_n 2, 1) := by decide +kernel
theorem dX1_bestStep_31 : decode cX1_bestStep 31 = .ok (.aload_n 0, 1) := by decide +kernel
theorem dX1_bestStep_32 : decode cX1_bestStep 32 = .ok (.iload_n 1, 1) := by decide +kernel
theorem dX1_bestStep_33 : decode cX1_bestStep 33 = .ok (.invokevirtual 139, 3) := by decide +kernel
theorem dX1_bestStep_36 : decode cX1_bestStep 36 = .ok (.invokestatic 130, 3) := by decide +kernel
theorem dX1_bestStep_39 : decode cX1_bestStep 39 = .ok (.lstore_n 2, 1) := by decide +kernel
theorem dX1_bestStep_40 : decode cX1_bestStep 40 = .ok (.iinc 4 1, 3) := by decide +kernel
theorem dX1_bestStep_43 : decode cX1_bestStep 43 = .ok (.goto (-36), 3) := by decide +kernel
theorem dX1_bestStep_46 : decode cX1_bestStep 46 = .ok (.lload_n 2, 1) := by decide +kernel
theorem dX1_bestStep_47 : decode cX1_bestStep 47 = .ok (.lreturn, 1) := by decide +kernel
theorem dX1_toneOf_0 : decode cX1_toneOf 0 = .ok (.aload_n 0, 1) := by decide +kernel
theorem dX1_toneOf_1 : decode cX1_toneOf 1 = .ok (.getfield 34, 3) := by decide +kernel
theorem dX1_toneOf_4 : decode cX1_toneOf 4 = .ok (.getfield 142, 3) := by decide +kernel
theorem dX1_toneOf_7 : decode cX1_toneOf 7 = .ok (.aload_n 0, 1) := by decide +kernel
theorem dX1_toneOf_8 : decode cX1_toneOf 8 = .ok (.getfield 9, 3) := by decide +kernel
theorem dX1_toneOf_11 : decode cX1_toneOf 11 = .ok (.iload_n 1, 1) := by decide +kernel
theorem dX1_toneOf_12 : decode cX1_toneOf 12 = .ok (.iaload, 1) := by decide +kernel
theorem dX1_toneOf_13 : decode cX1_toneOf 13 = .ok (.iaload, 1) := by decide +kernel
theorem dX1_toneOf_14 : decode cX1_toneOf 14 = .ok (.aload_n 0, 1) := by decide +kernel
theorem dX1_toneOf_15 : decode cX1_toneOf 15 = .ok (.getfield 31, 3) := by decide +kernel
theorem dX1_toneOf_18 : decode cX1_toneOf 18 = .ok (.iload_n 1, 1) := by decide +kernel
theorem dX1_toneOf_19 : decode cX1_toneOf 19 = .ok (.iaload, 1) := by decide +kernel
theorem dX1_toneOf_20 : decode cX1_toneOf 20 = .ok (.iconst 3, 1) := by decide +kernel
theorem dX1_toneOf_21 : decode cX1_toneOf 21 = .ok (.isub, 1) := by decide +kernel
theorem dX1_toneOf_22 : decode cX1_toneOf 22 = .ok (.aload_n 0, 1) := by decide +kernel
theorem dX1_toneOf_23 : decode cX1_toneOf 23 = .ok (.getfield 34, 3) := by decide +kernel
theorem dX1_toneOf_26 : decode cX1_toneOf 26 = .ok (.getfield 145, 3) := by decide +kernel
theorem dX1_toneOf_29 : decode cX1_toneOf 29 = .ok (.bipush 10, 2) := by decide +kernel
theorem dX1_toneOf_31 : decode cX1_toneOf 31 = .ok (.iaload, 1) := by decide +kernel
theorem dX1_toneOf_32 : decode cX1_toneOf 32 = .ok (.imul, 1) := by decide +kernel
theorem dX1_toneOf_33 : decode cX1_toneOf 33 = .ok (.iadd, 1) := by decide +kernel
theorem dX1_toneOf_34 : decode cX1_toneOf 34 = .ok (.ireturn, 1) := by decide +kernel
theorem dX1_fits_0 : decode cX1_fits 0 = .ok (.aload_n 0, 1) := by decide +kernel
theorem dX1_fits_1 : decode cX1_fits 1 = .ok (.iload_n 1, 1) := by decide +kernel
theorem dX1_fits_2 : decode cX1_fits 2 = .ok (.invokevirtual 148, 3) := by decide +kernel
theorem dX1_fits_5 : decode cX1_fits 5 = .ok (.iconst 1, 1) := by decide +kernel
theorem dX1_fits_6 : decode cX1_fits 6 = .ok (.if_icmp .lt 14, 3) := by decide +kernel
theorem dX1_fits_9 : decode cX1_fits 9 = .ok (.aload_n 0, 1) := by decide +kernel
theorem dX1_fits_10 : decode cX1_fits 10 = .ok (.iload_n 1, 1) := by decide +kernel
theorem dX1_fits_11 : decode cX1_fits 11 = .ok (.invokevirtual 148, 3) := by decide +kernel
theorem dX1_fits_14 : decode cX1_fits 14 = .ok (.sipush 9999, 3) := by decide +kernel
theorem dX1_fits_17 : decode cX1_fits 17 = .ok (.if_icmp .le 5, 3) := by decide +kernel
theorem dX1_fits_20 : decode cX1_fits 20 = .ok (.iconst 0, 1) := by decide +kernel
theorem dX1_fits_21 : decode cX1_fits 21 = .ok (.ireturn, 1) := by decide +kernel
theorem dX1_fits_22 : decode cX1_fits 22 = .ok (.iconst 0, 1) := by decide +kernel
theorem dX1_fits_23 : decode cX1_fits 23 = .ok (.istore_n 2, 1) := by decide +kernel
theorem dX1_fits_24 : decode cX1_fits 24 = .ok (.iload_n 2, 1) := by decide +kernel
theorem dX1_fits_25 : decode cX1_fits 25 = .ok (.aload_n 0, 1) := by decide +kernel
theorem dX1_fits_26 : decode cX1_fits 26 = .ok (.getfield 34, 3) := by decide +kernel
theorem dX1_fits_29 : decode cX1_fits 29 = .ok (.getfield 93, 3) := by decide +kernel
theorem dX1_fits_32 : decode cX1_fits 32 = .ok (.if_icmp .ge 119, 3) := by decide +kernel
theorem dX1_fits_35 : decode cX1_fits 35 = .ok (.aload_n 0, 1) := by decide +kernel
theorem dX1_fits_36 : decode cX1_fits 36 = .ok (.getfield 15, 3) := by decide +kernel
theorem dX1_fits_39 : decode cX1_fits 39 = .ok (.aload_n 0, 1) := by decide +kernel
theorem dX1_fits_40 : decode cX1_fits 40 = .ok (.getfield 34, 3) := by decide +kernel
theorem dX1_fits_43 : decode cX1_fits 43 = .ok (.getfield 96, 3) := by decide +kernel
theorem dX1_fits_46 : decode cX1_fits 46 = .ok (.iload_n 2, 1) := by decide +kernel
theorem dX1_fits_47 : decode cX1_fits 47 = .ok (.iaload, 1) := by decide +kernel
theorem dX1_fits_48 : decode cX1_fits 48 = .ok (.iaload, 1) := by decide +kernel
theorem dX1_fits_49 : decode cX1_fits 49 = .ok (.istore_n 3, 1) := by decide +kernel
theorem dX1_fits_50 : decode cX1_fits 50 = .ok (.aload_n 0, 1) := by decide +kernel
theorem dX1_fits_51 : decode cX1_fits 51 = .ok (.getfield 15, 3) := by decide +kernel
theorem dX1_fits_54 : decode cX1_fits 54 = .ok (.aload_n 0, 1) := by decide +kernel
theorem dX1_fits_55 : decode cX1_fits 55 = .ok (.getfield 34, 3) := by decide +kernel
theorem dX1_fits_58 : decode cX1_fits 58 = .ok (.getfield 99, 3) := by decide +kernel
theorem dX1_fits_61 : decode cX1_fits 61 = .ok (.iload_n 2, 1) := by decide +kernel
theorem dX1_fits_62 : decode cX1_fits 62 = .ok (.iaload, 1) := by decide +kernel
theorem dX1_fits_63 : decode cX1_fits 63 = .ok (.iaload, 1) := by decide +kernel
theorem dX1_fits_64 : decode cX1_fits 64 = .ok (.istore 4, 2) := by decide +kernel
theorem dX1_fits_66 : decode cX1_fits 66 = .ok (.iload_n 3, 1) := by decide +kernel
theorem dX1_fits_67 : decode cX1_fits 67 = .ok (.iload_n 1, 1) := by decide +kernel
theorem dX1_fits_68 : decode cX1_fits 68 = .ok (.if_icmp .eq 9, 3) := by decide +kernel
theorem dX1_fits_71 : decode cX1_fits 71 = .ok (.iload 4, 2) := by decide +kernel
theorem dX1_fits_73 : decode cX1_fits 73 = .ok (.iload_n 1, 1) := by decide +kernel
theorem dX1_fits_74 : decode cX1_fits 74 = .ok (.if_icmp .ne 7, 3) := by decide +kernel
theorem dX1_fits_77 : decode cX1_fits 77 = .ok (.iconst 1, 1) := by decide +kernel
theorem dX1_fits_78 : decode cX1_fits 78 = .ok (.goto 4, 3) := by decide +kernel
theorem dX1_fits_81 : decode cX1_fits 81 = .ok (.iconst 0, 1) := by decide +kernel
theorem dX1_fits_82 : decode cX1_fits 82 = .ok (.istore 5, 2) := by decide +kernel
theorem dX1_fits_84 : decode cX1_fits 84 = .ok (.iload 5, 2) := by decide +kernel
theorem dX1_fits_86 : decode cX1_fits 86 = .ok (.ifCond .eq 59, 3) := by decide +kernel
theorem dX1_fits_89 : decode cX1_fits 89 = .ok (.aload_n 0, 1) := by decide +kernel
theorem dX1_fits_90 : decode cX1_fits 90 = .ok (.getfield 102, 3) := by decide +kernel
theorem dX1_fits_93 : decode cX1_fits 93 = .ok (.iload_n 3, 1) := by decide +kernel
theorem dX1_fits_94 : decode cX1_fits 94 = .ok (.ishr, 1) := by decide +kernel
theorem dX1_fits_95 : decode cX1_fits 95 = .ok (.iconst 1, 1) := by decide +kernel
theorem dX1_fits_96 : decode cX1_fits 96 = .ok (.iand, 1) := by decide +kernel
theorem dX1_fits_97 : decode cX1_fits 97 = .ok (.ifCond .ne 48, 3) := by decide +kernel
theorem dX1_fits_100 : decode cX1_fits 100 = .ok (.aload_n 0, 1) := by decide +kernel
theorem dX1_fits_101 : decode cX1_fits 101 = .ok (.getfield 102, 3) := by decide +kernel
theorem dX1_fits_104 : decode cX1_fits 104 = .ok (.iload 4, 2) := by decide +kernel
theorem dX1_fits_106 : decode cX1_fits 106 = .ok (.ishr, 1) := by decide +kernel
theorem dX1_fits_107 : decode cX1_fits 107 = .ok (.iconst 1, 1) := by decide +kernel
theorem dX1_fits_108 : decode cX1_fits 108 = .ok (.iand, 1) := by decide +kernel
theorem dX1_fits_109 : decode cX1_fits 109 = .ok (.ifCond .ne 36, 3) := by decide +kernel
theorem dX1_fits_112 : decode cX1_fits 112 = .ok (.aload_n 0, 1) := by decide +kernel
theorem dX1_fits_113 : decode cX1_fits 113 = .ok (.getfield 34, 3) := by decide +kernel
theorem dX1_fits_116 : decode cX1_fits 116 = .ok (.iload_n 2, 1) := by decide +kernel
theorem dX1_fits_117 : decode cX1_fits 117 = .ok (.aload_n 0, 1) := by decide +kernel
theorem dX1_fits_118 : decode cX1_fits 118 = .ok (.iload_n 3, 1) := by decide +kernel
theorem dX1_fits_119 : decode cX1_fits 119 = .ok (.invokevirtual 148, 3) := by decide +kernel
theorem dX1_fits_122 : decode cX1_fits 122 = .ok (.aload_n 0, 1) := by decide +kernel
theorem dX1_fits_123 : decode cX1_fits 123 = .ok (.iload 4, 2) := by decide +kernel
theorem dX1_fits_125 : decode cX1_fits 125 = .ok (.invokevirtual 148, 3) := by decide +kernel
theorem dX1_fits_128 : decode cX1_fits 128 = .ok (.invokevirtual 151, 3) := by decide +kernel
theorem dX1_fits_131 : decode cX1_fits 131 = .ok (.aload_n 0, 1) := by decide +kernel
theorem dX1_fits_132 : decode cX1_fits 132 = .ok (.getfield 34, 3) := by decide +kernel
theorem dX1_fits_135 : decode cX1_fits 135 = .ok (.getfield 155, 3) := by decide +kernel
theorem dX1_fits_138 : decode cX1_fits 138 = .ok (.iload_n 2, 1) := by decide +kernel
theorem dX1_fits_139 : decode cX1_fits 139 = .ok (.iaload, 1) := by decide +kernel
theorem dX1_fits_140 : decode cX1_fits 140 = .ok (.if_icmp .le 5, 3) := by decide +kernel
theorem dX1_fits_143 : decode cX1_fits 143 = .ok (.iconst 0, 1) := by decide +kernel
theorem dX1_fits_144 : decode cX1_fits 144 = .ok (.ireturn, 1) := by decide +kernel
theorem dX1_fits_145 : decode cX1_fits 145 = .ok (.iinc 2 1, 3) := by decide +kernel
theorem dX1_fits_148 : decode cX1_fits 148 = .ok (.goto (-124), 3) := by decide +kernel
theorem dX1_fits_151 : decode cX1_fits 151 = .ok (.iconst 1, 1) := by decide +kernel
theorem dX1_fits_152 : decode cX1_fits 152 = .ok (.ireturn, 1) := by decide +kernel
theorem dX1_costOf_0 : decode cX1_costOf 0 = .ok (.aload_n 0, 1) := by decide +kernel
theorem dX1_costOf_1 : decode cX1_costOf 1 = .ok (.getfield 31, 3) := by decide +kernel
theorem dX1_costOf_4 : decode cX1_costOf 4 = .ok (.iload_n 1, 1) := by decide +kernel
theorem dX1_costOf_5 : decode cX1_costOf 5 = .ok (.iaload, 1) := by decide +kernel
theorem dX1_costOf_6 : decode cX1_costOf 6 = .ok (.iconst 3, 1) := by decide +kernel
theorem dX1_costOf_7 : decode cX1_costOf 7 = .ok (.isub, 1) := by decide +kernel
theorem dX1_costOf_8 : decode cX1_costOf 8 = .ok (.invokestatic 158, 3) := by decide +kernel
theorem dX1_costOf_11 : decode cX1_costOf 11 = .ok (.aload_n 0, 1) := by decide +kernel
theorem dX1_costOf_12 : decode cX1_costOf 12 = .ok (.getfield 34, 3) := by decide +kernel
theorem dX1_costOf_15 : decode cX1_costOf 15 = .ok (.getfield 161, 3) := by decide +kernel
theorem dX1_costOf_18 : decode cX1_costOf 18 = .ok (.aload_n 0, 1) := by decide +kernel
theorem dX1_costOf_19 : decode cX1_costOf 19 = .ok (.getfield 9, 3) := by decide +kernel
theorem dX1_costOf_22 : decode cX1_costOf 22 = .ok (.iload_n 1, 1) := by decide +kernel
theorem dX1_costOf_23 : decode cX1_costOf 23 = .ok (.iaload, 1) := by decide +kernel
theorem dX1_costOf_24 : decode cX1_costOf 24 = .ok (.iaload, 1) := by decide +kernel
theorem dX1_costOf_25 : decode cX1_costOf 25 = .ok (.imul, 1) := by decide +kernel
theorem dX1_costOf_26 : decode cX1_costOf 26 = .ok (.i2l, 1) := by decide +kernel
theorem dX1_costOf_27 : decode cX1_costOf 27 = .ok (.lstore_n 2, 1) := by decide +kernel
theorem dX1_costOf_28 : decode cX1_costOf 28 = .ok (.lload_n 2, 1) := by decide +kernel
theorem dX1_costOf_29 : decode cX1_costOf 29 = .ok (.ldc2_w 47, 3) := by decide +kernel
theorem dX1_costOf_32 : decode cX1_costOf 32 = .ok (.lmul, 1) := by decide +kernel
theorem dX1_costOf_33 : decode cX1_costOf 33 = .ok (.aload_n 0, 1) := by decide +kernel
theorem dX1_costOf_34 : decode cX1_costOf 34 = .ok (.getfield 31, 3) := by decide +kernel
theorem dX1_costOf_37 : decode cX1_costOf 37 = .ok (.iload_n 1, 1) := by decide +kernel
theorem dX1_costOf_38 : decode cX1_costOf 38 = .ok (.iaload, 1) := by decide +kernel
theorem dX1_costOf_39 : decode cX1_costOf 39 = .ok (.i2l, 1) := by decide +kernel
theorem dX1_costOf_40 : decode cX1_costOf 40 = .ok (.aload_n 0, 1) := by decide +kernel
theorem dX1_costOf_41 : decode cX1_costOf 41 = .ok (.iload_n 1, 1) := by decide +kernel
theorem dX1_costOf_42 : decode cX1_costOf 42 = .ok (.invokevirtual 49, 3) := by decide +kernel
theorem dX1_costOf_45 : decode cX1_costOf 45 = .ok (.lmul, 1) := by decide +kernel
theorem dX1_costOf_46 : decode cX1_costOf 46 = .ok (.ladd, 1) := by decide +kernel
theorem dX1_costOf_47 : decode cX1_costOf 47 = .ok (.lstore 4, 2) := by decide +kernel
theorem dX1_costOf_49 : decode cX1_costOf 49 = .ok (.iconst 0, 1) := by decide +kernel
theorem dX1_costOf_50 : decode cX1_costOf 50 = .ok (.istore 6, 2) := by decide +kernel
theorem dX1_costOf_52 : decode cX1_costOf 52 = .ok (.iload 6, 2) := by decide +kernel
theorem dX1_costOf_54 : decode cX1_costOf 54 = .ok (.aload_n 0, 1) := by decide +kernel
theorem dX1_costOf_55 : decode cX1_costOf 55 = .ok (.getfield 66, 3) := by decide +kernel
theorem dX1_costOf_58 : decode cX1_costOf 58 = .ok (.if_icmp .ge 76, 3) := by decide +kernel
theorem dX1_costOf_61 : decode cX1_costOf 61 = .ok (.aload_n 0, 1) := by decide +kernel
theorem dX1_costOf_62 : decode cX1_costOf 62 = .ok (.getfield 105, 3) := by decide +kernel
theorem dX1_costOf_65 : decode cX1_costOf 65 = .ok (.iload 6, 2) := by decide +kernel
theorem dX1_costOf_67 : decode cX1_costOf 67 = .ok (.ishr, 1) := by decide +kernel
theorem dX1_costOf_68 : decode cX1_costOf 68 = .ok (.iconst 1, 1) := by decide +kernel
theorem dX1_costOf_69 : decode cX1_costOf 69 = .ok (.iand, 1) := by decide +kernel
theorem dX1_costOf_70 : decode cX1_costOf 70 = .ok (.ifCond .eq 21, 3) := by decide +kernel
theorem dX1_costOf_73 : decode cX1_costOf 73 = .ok (.aload_n 0, 1) := by decide +kernel
theorem dX1_costOf_74 : decode cX1_costOf 74 = .ok (.getfield 21, 3) := by decide +kernel
theorem dX1_costOf_77 : decode cX1_costOf 77 = .ok (.iload 6, 2) := by decide +kernel
theorem dX1_costOf_79 : decode cX1_costOf 79 = .ok (.iaload, 1) := by decide +kernel
theorem dX1_costOf_80 : decode cX1_costOf 80 = .ok (.iload_n 1, 1) := by decide +kernel
theorem dX1_costOf_81 : decode cX1_costOf 81 = .ok (.ishr, 1) := by decide +kernel
theorem dX1_costOf_82 : decode cX1_costOf 82 = .ok (.iconst 1, 1) := by decide +kernel
theorem dX1_costOf_83 : decode cX1_costOf 83 = .ok (.iand, 1) := by decide +kernel
theorem dX1_costOf_84 : decode cX1_costOf 84 = .ok (.ifCond .eq 7, 3) := by decide +kernel
theorem dX1_costOf_87 : decode cX1_costOf 87 = .ok (.iconst 1, 1) := by decide +kernel
theorem dX1_costOf_88 : decode cX1_costOf 88 = .ok (.goto 4, 3) := by decide +kernel
theorem dX1_costOf_91 : decode cX1_costOf 91 = .ok (.iconst 0, 1) := by decide +kernel
theorem dX1_costOf_92 : decode cX1_costOf 92 = .ok (.istore 7, 2) := by decide +kernel
theorem dX1_costOf_94 : decode cX1_costOf 94 = .ok (.iload 7, 2) := by decide +kernel
theorem dX1_costOf_96 : decode cX1_costOf 96 = .ok (.ifCond .eq 32, 3) := by decide +kernel
theorem dX1_costOf_99 : decode cX1_costOf 99 = .ok (.lload 4, 2) := by decide +kernel
theorem dX1_costOf_101 : decode cX1_costOf 101 = .ok (.aload_n 0, 1) := by decide +kernel
theorem dX1_costOf_102 : decode cX1_costOf 102 = .ok (.getfield 24, 3) := by decide +kernel
theorem dX1_costOf_105 : decode cX1_costOf 105 = .ok (.aload_n 0, 1) := by decide +kernel
theorem dX1_costOf_106 : decode cX1_costOf 106 = .ok (.getfield 28, 3) := by decide +kernel
theorem dX1_costOf_109 : decode cX1_costOf 109 = .ok (.iload 6, 2) := by decide +kernel
theorem dX1_costOf_111 : decode cX1_costOf 111 = .ok (.iaload, 1) := by decide +kernel
theorem dX1_costOf_112 : decode cX1_costOf 112 = .ok (.aload_n 0, 1) := by decide +kernel
theorem dX1_costOf_113 : decode cX1_costOf 113 = .ok (.aload_n 0, 1) := by decide +kernel
theorem dX1_costOf_114 : decode cX1_costOf 114 = .ok (.getfield 21, 3) := by decide +kernel
theorem dX1_costOf_117 : decode cX1_costOf 117 = .ok (.iload 6, 2) := by decide +kernel
theorem dX1_costOf_119 : decode cX1_costOf 119 = .ok (.iaload, 1) := by decide +kernel
theorem dX1_costOf_120 : decode cX1_costOf 120 = .ok (.invokevirtual 164, 3) := by decide +kernel
theorem dX1_costOf_123 : decode cX1_costOf 123 = .ok (.iadd, 1) := by decide +kernel
theorem dX1_costOf_124 : decode cX1_costOf 124 = .ok (.laload, 1) := by decide +kernel
theorem dX1_costOf_125 : decode cX1_costOf 125 = .ok (.ladd, 1) := by decide +kernel
theorem dX1_costOf_126 : decode cX1_costOf 126 = .ok (.lstore 4, 2) := by decide +kernel
theorem dX1_costOf_128 : decode cX1_costOf 128 = .ok (.iinc 6 1, 3) := by decide +kernel
theorem dX1_costOf_131 : decode cX1_costOf 131 = .ok (.goto (-79), 3) := by decide +kernel
theorem dX1_costOf_134 : decode cX1_costOf 134 = .ok (.lload 4, 2) := by decide +kernel
theorem dX1_costOf_136 : decode cX1_costOf 136 = .ok (.ldc2_w 45, 3) := by decide +kernel
theorem dX1_costOf_139 : decode cX1_costOf 139 = .ok (.invokestatic 130, 3) := by decide +kernel
theorem dX1_costOf_142 : decode cX1_costOf 142 = .ok (.lreturn, 1) := by decide +kernel
theorem dX1_weightOf_0 : decode cX1_weightOf 0 = .ok (.ldc2_w 47, 3) := by decide +kernel
theorem dX1_weightOf_3 : decode cX1_weightOf 3 = .ok (.lstore_n 2, 1) := by decide +kernel
theorem dX1_weightOf_4 : decode cX1_weightOf 4 = .ok (.iconst 0, 1) := by decide +kernel
theorem dX1_weightOf_5 : decode cX1_weightOf 5 = .ok (.istore 4, 2) := by decide +kernel
theorem dX1_weightOf_7 : decode cX1_weightOf 7 = .ok (.iload 4, 2) := by decide +kernel
theorem dX1_weightOf_9 : decode cX1_weightOf 9 = .ok (.iload_n 1, 1) := by decide +kernel
theorem dX1_weightOf_10 : decode cX1_weightOf 10 = .ok (.if_icmp .gt 15, 3) := by decide +kernel
theorem dX1_weightOf_13 : decode cX1_weightOf 13 = .ok (.lload_n 2, 1) := by decide +kernel
theorem dX1_weightOf_14 : decode cX1_weightOf 14 = .ok (.ldc2_w 53, 3) := by decide +kernel
theorem dX1_weightOf_17 : decode cX1_weightOf 17 = .ok (.ldiv, 1) := by decide +kernel
theorem dX1_weightOf_18 : decode cX1_weightOf 18 = .ok (.lstore_n 2, 1) := by decide +kernel
theorem dX1_weightOf_19 : decode cX1_weightOf 19 = .ok (.iinc 4 1, 3) := by decide +kernel
theorem dX1_weightOf_22 : decode cX1_weightOf 22 = .ok (.goto (-15), 3) := by decide +kernel
theorem dX1_weightOf_25 : decode cX1_weightOf 25 = .ok (.lconst 1, 1) := by decide +kernel
theorem dX1_weightOf_26 : decode cX1_weightOf 26 = .ok (.lload_n 2, 1) := by decide +kernel
theorem dX1_weightOf_27 : decode cX1_weightOf 27 = .ok (.invokestatic 167, 3) := by decide +kernel
theorem dX1_weightOf_30 : decode cX1_weightOf 30 = .ok (.lreturn, 1) := by decide +kernel
theorem dX1_leave_0 : decode cX1_leave 0 = .ok (.iconst 1, 1) := by decide +kernel
theorem dX1_leave_1 : decode cX1_leave 1 = .ok (.iload_n 1, 1) := by decide +kernel
theorem dX1_leave_2 : decode cX1_leave 2 = .ok (.ishl, 1) := by decide +kernel
theorem dX1_leave_3 : decode cX1_leave 3 = .ok (.istore_n 2, 1) := by decide +kernel
theorem dX1_leave_4 : decode cX1_leave 4 = .ok (.aload_n 0, 1) := by decide +kernel
theorem dX1_leave_5 : decode cX1_leave 5 = .ok (.dup, 1) := by decide +kernel
theorem dX1_leave_6 : decode cX1_leave 6 = .ok (.getfield 102, 3) := by decide +kernel
theorem dX1_leave_9 : decode cX1_leave 9 = .ok (.iload_n 2, 1) := by decide +kernel
theorem dX1_leave_10 : decode cX1_leave 10 = .ok (.ior, 1) := by decide +kernel
theorem dX1_leave_11 : decode cX1_leave 11 = .ok (.putfield 102, 3) := by decide +kernel
theorem dX1_leave_14 : decode cX1_leave 14 = .ok (.iconst 0, 1) := by decide +kernel
theorem dX1_leave_15 : decode cX1_leave 15 = .ok (.istore_n 3, 1) := by decide +kernel
theorem dX1_leave_16 : decode cX1_leave 16 = .ok (.iload_n 3, 1) := by decide +kernel
theorem dX1_leave_17 : decode cX1_leave 17 = .ok (.aload_n 0, 1) := by decide +kernel
theorem dX1_leave_18 : decode cX1_leave 18 = .ok (.getfield 66, 3) := by decide +kernel
theorem dX1_leave_21 : decode cX1_leave 21 = .ok (.if_icmp .ge 87, 3) := by decide +kernel
theorem dX1_leave_24 : decode cX1_leave 24 = .ok (.aload_n 0, 1) := by decide +kernel
theorem dX1_leave_25 : decode cX1_leave 25 = .ok (.getfield 105, 3) := by decide +kernel
theorem dX1_leave_28 : decode cX1_leave 28 = .ok (.iload_n 3, 1) := by decide +kernel
theorem dX1_leave_29 : decode cX1_leave 29 = .ok (.ishr, 1) := by decide +kernel
theorem dX1_leave_30 : decode cX1_leave 30 = .ok (.iconst 1, 1) := by decide +kernel
theorem dX1_leave_31 : decode cX1_leave 31 = .ok (.iand, 1) := by decide +kernel
theorem dX1_leave_32 : decode cX1_leave 32 = .ok (.ifCond .eq 28, 3) := by decide +kernel
theorem dX1_leave_35 : decode cX1_leave 35 = .ok (.aload_n 0, 1) := by decide +kernel
theorem dX1_leave_36 : decode cX1_leave 36 = .ok (.getfield 21, 3) := by decide +kernel
theorem dX1_leave_39 : decode cX1_leave 39 = .ok (.iload_n 3, 1) := by decide +kernel
theorem dX1_leave_40 : decode cX1_leave 40 = .ok (.iaload, 1) := by decide +kernel
theorem dX1_leave_41 : decode cX1_leave 41 = .ok (.iload_n 2, 1) := by decide +kernel
theorem dX1_leave_42 : decode cX1_leave 42 = .ok (.iand, 1) := by decide +kernel
theorem dX1_leave_43 : decode cX1_leave 43 = .ok (.ifCond .eq 17, 3) := by decide +kernel
theorem dX1_leave_46 : decode cX1_leave 46 = .ok (.aload_n 0, 1) := by decide +kernel
theorem dX1_leave_47 : decode cX1_leave 47 = .ok (.dup, 1) := by decide +kernel
theorem dX1_leave_48 : decode cX1_leave 48 = .ok (.getfield 105, 3) := by decide +kernel
theorem dX1_leave_51 : decode cX1_leave 51 = .ok (.iconst 1, 1) := by decide +kernel
theorem dX1_leave_52 : decode cX1_leave 52 = .ok (.iload_n 3, 1) := by decide +kernel
theorem dX1_leave_53 : decode cX1_leave 53 = .ok (.ishl, 1) := by decide +kernel
theorem dX1_leave_54 : decode cX1_leave 54 = .ok (.iconst (-1), 1) := by decide +kernel
theorem dX1_leave_55 : decode cX1_leave 55 = .ok (.ixor, 1) := by decide +kernel
theorem dX1_leave_56 : decode cX1_leave 56 = .ok (.iand, 1) := by decide +kernel
theorem dX1_leave_57 : decode cX1_leave 57 = .ok (.putfield 105, 3) := by decide +kernel
theorem dX1_leave_60 : decode cX1_leave 60 = .ok (.aload_n 0, 1) := by decide +kernel
theorem dX1_leave_61 : decode cX1_leave 61 = .ok (.getfield 18, 3) := by decide +kernel
theorem dX1_leave_64 : decode cX1_leave 64 = .ok (.iload_n 1, 1) := by decide +kernel
theorem dX1_leave_65 : decode cX1_leave 65 = .ok (.iaload, 1) := by decide +kernel
theorem dX1_leave_66 : decode cX1_leave 66 = .ok (.iload_n 3, 1) := by decide +kernel
theorem dX1_leave_67 : decode cX1_leave 67 = .ok (.ishr, 1) := by decide +kernel
theorem dX1_leave_68 : decode cX1_leave 68 = .ok (.iconst 1, 1) := by decide +kernel
theorem dX1_leave_69 : decode cX1_leave 69 = .ok (.iand, 1) := by decide +kernel
theorem dX1_leave_70 : decode cX1_leave 70 = .ok (.ifCond .eq 32, 3) := by decide +kernel
theorem dX1_leave_73 : decode cX1_leave 73 = .ok (.aload_n 0, 1) := by decide +kernel
theorem dX1_leave_74 : decode cX1_leave 74 = .ok (.getfield 18, 3) := by decide +kernel
theorem dX1_leave_77 : decode cX1_leave 77 = .ok (.iload_n 3, 1) := by decide +kernel
theorem dX1_leave_78 : decode cX1_leave 78 = .ok (.aload_n 0, 1) := by decide +kernel
theorem dX1_leave_79 : decode cX1_leave 79 = .ok (.getfield 18, 3) := by decide +kernel
theorem dX1_leave_82 : decode cX1_leave 82 = .ok (.iload_n 3, 1) := by decide +kernel
theorem dX1_leave_83 : decode cX1_leave 83 = .ok (.iaload, 1) := by decide +kernel
theorem dX1_leave_84 : decode cX1_leave 84 = .ok (.aload_n 0, 1) := by decide +kernel
theorem dX1_leave_85 : decode cX1_leave 85 = .ok (.getfield 18, 3) := by decide +kernel
theorem dX1_leave_88 : decode cX1_leave 88 = .ok (.iload_n 1, 1) := by decide +kernel
theorem dX1_leave_89 : decode cX1_leave 89 = .ok (.iaload, 1) := by decide +kernel
theorem dX1_leave_90 : decode cX1_leave 90 = .ok (.ior, 1) := by decide +kernel
theorem dX1_leave_91 : decode cX1_leave 91 = .ok (.iload_n 2, 1) := by decide +kernel
theorem dX1_leave_92 : decode cX1_leave 92 = .ok (.iconst (-1), 1) := by decide +kernel
theorem dX1_leave_93 : decode cX1_leave 93 = .ok (.ixor, 1) := by decide +kernel
theorem dX1_leave_94 : decode cX1_leave 94 = .ok (.iand, 1) := by decide +kernel
theorem dX1_leave_95 : decode cX1_leave 95 = .ok (.iconst 1, 1) := by decide +kernel
theorem dX1_leave_96 : decode cX1_leave 96 = .ok (.iload_n 3, 1) := by decide +kernel
theorem dX1_leave_97 : decode cX1_leave 97 = .ok (.ishl, 1) := by decide +kernel
theorem dX1_leave_98 : decode cX1_leave 98 = .ok (.iconst (-1), 1) := by decide +kernel
theorem dX1_leave_99 : decode cX1_leave 99 = .ok (.ixor, 1) := by decide +kernel
theorem dX1_leave_100 : decode cX1_leave 100 = .ok (.iand, 1) := by decide +kernel
theorem dX1_leave_101 : decode cX1_leave 101 = .ok (.iastore, 1) := by decide +kernel
theorem dX1_leave_102 : decode cX1_leave 102 = .ok (.iinc 3 1, 3) := by decide +kernel
theorem dX1_leave_105 : decode cX1_leave 105 = .ok (.goto (-89), 3) := by decide +kernel
theorem dX1_leave_108 : decode cX1_leave 108 = .ok (.aload_n 0, 1) := by decide +kernel
theorem dX1_leave_109 : decode cX1_leave 109 = .ok (.dup, 1) := by decide +kernel
theorem dX1_leave_110 : decode cX1_leave 110 = .ok (.getfield 105, 3) := by decide +kernel
theorem dX1_leave_113 : decode cX1_leave 113 = .ok (.aload_n 0, 1) := by decide +kernel
theorem dX1_leave_114 : decode cX1_leave 114 = .ok (.getfield 21, 3) := by decide +kernel
theorem dX1_leave_117 : decode cX1_leave 117 = .ok (.iload_n 1, 1) := by decide +kernel
theorem dX1_leave_118 : decode cX1_leave 118 = .ok (.iaload, 1) := by decide +kernel
theorem dX1_leave_119 : decode cX1_leave 119 = .ok (.ifCond .ne 7, 3) := by decide +kernel
theorem dX1_leave_122 : decode cX1_leave 122 = .ok (.iconst 0, 1) := by decide +kernel
theorem dX1_leave_123 : decode cX1_leave 123 = .ok (.goto 4, 3) := by decide +kernel
theorem dX1_leave_126 : decode cX1_leave 126 = .ok (.iload_n 2, 1) := by decide +kernel
theorem dX1_leave_127 : decode cX1_leave 127 = .ok (.ior, 1) := by decide +kernel
theorem dX1_leave_128 : decode cX1_leave 128 = .ok (.putfield 105, 3) := by decide +kernel
theorem dX1_leave_131 : decode cX1_leave 131 = .ok (.return_, 1) := by decide +kernel
theorem dX2_init_0 : decode cX2_init 0 = .ok (.aload_n 0, 1) := by decide +kernel
theorem dX2_init_1 : decode cX2_init 1 = .ok (.invokespecial 3, 3) := by decide +kernel
theorem dX2_init_4 : decode cX2_init 4 = .ok (.aload_n 0, 1) := by decide +kernel
theorem dX2_init_5 : decode cX2_init 5 = .ok (.aload_n 1, 1) := by decide +kernel
theorem dX2_init_6 : decode cX2_init 6 = .ok (.putfield 9, 3) := by decide +kernel
theorem dX2_init_9 : decode cX2_init 9 = .ok (.aload_n 0, 1) := by decide +kernel
theorem dX2_init_10 : decode cX2_init 10 = .ok (.aload_n 2, 1) := by decide +kernel
theorem dX2_init_11 : decode cX2_init 11 = .ok (.putfield 15, 3) := by decide +kernel
theorem dX2_init_14 : decode cX2_init 14 = .ok (.return_, 1) := by decide +kernel
theorem dX2_placeOf_0 : decode cX2_placeOf 0 = .ok (.aload_n 0, 1) := by decide +kernel
theorem dX2_placeOf_1 : decode cX2_placeOf 1 = .ok (.getfield 9, 3) := by decide +kernel
theorem dX2_placeOf_4 : decode cX2_placeOf 4 = .ok (.getfield 19, 3) := by decide +kernel
theorem dX2_placeOf_7 : decode cX2_placeOf 7 = .ok (.aload_n 0, 1) := by decide +kernel
theorem dX2_placeOf_8 : decode cX2_placeOf 8 = .ok (.getfield 15, 3) := by decide +kernel
theorem dX2_placeOf_11 : decode cX2_placeOf 11 = .ok (.getfield 25, 3) := by decide +kernel
theorem dX2_placeOf_14 : decode cX2_placeOf 14 = .ok (.iload_n 1, 1) := by decide +kernel
theorem dX2_placeOf_15 : decode cX2_placeOf 15 = .ok (.iaload, 1) := by decide +kernel
theorem dX2_placeOf_16 : decode cX2_placeOf 16 = .ok (.iaload, 1) := by decide +kernel
theorem dX2_placeOf_17 : decode cX2_placeOf 17 = .ok (.ireturn, 1) := by decide +kernel
theorem dX2_faultOf_0 : decode cX2_faultOf 0 = .ok (.aload_n 1, 1) := by decide +kernel
theorem dX2_faultOf_1 : decode cX2_faultOf 1 = .ok (.iload_n 2, 1) := by decide +kernel
theorem dX2_faultOf_2 : decode cX2_faultOf 2 = .ok (.iaload, 1) := by decide +kernel
theorem dX2_faultOf_3 : decode cX2_faultOf 3 = .ok (.iconst (-1), 1) := by decide +kernel
theorem dX2_faultOf_4 : decode cX2_faultOf 4 = .ok (.if_icmp .ne 5, 3) := by decide +kernel
theorem dX2_faultOf_7 : decode cX2_faultOf 7 = .ok (.iconst 1, 1) := by decide +kernel
theorem dX2_faultOf_8 : decode cX2_faultOf 8 = .ok (.ireturn, 1) := by decide +kernel
theorem dX2_faultOf_9 : decode cX2_faultOf 9 = .ok (.bipush 6, 2) := by decide +kernel
theorem dX2_faultOf_11 : decode cX2_faultOf 11 = .ok (.istore_n 3, 1) := by decide +kernel
theorem dX2_faultOf_12 : decode cX2_faultOf 12 = .ok (.iconst 0, 1) := by decide +kernel
theorem dX2_faultOf_13 : decode cX2_faultOf 13 = .ok (.istore 4, 2) := by decide +kernel
theorem dX2_faultOf_15 : decode cX2_faultOf 15 = .ok (.iload 4, 2) := by decide +kernel
theorem dX2_faultOf_17 : decode cX2_faultOf 17 = .ok (.iload_n 2, 1) := by decide +kernel
theorem dX2_faultOf_18 : decode cX2_faultOf 18 = .ok (.if_icmp .ge 43, 3) := by decide +kernel
theorem dX2_faultOf_21 : decode cX2_faultOf 21 = .ok (.aload_n 1, 1) := by decide +kernel
theorem dX2_faultOf_22 : decode cX2_faultOf 22 = .ok (.iload 4, 2) := by decide +kernel
theorem dX2_faultOf_24 : decode cX2_faultOf 24 = .ok (.iaload, 1) := by decide +kernel
theorem dX2_faultOf_25 : decode cX2_faultOf 25 = .ok (.iconst (-1), 1) := by decide +kernel
theorem dX2_faultOf_26 : decode cX2_faultOf 26 = .ok (.if_icmp .eq 29, 3) := by decide +kernel
theorem dX2_faultOf_29 : decode cX2_faultOf 29 = .ok (.aload_n 0, 1) := by decide +kernel
theorem dX2_faultOf_30 : decode cX2_faultOf 30 = .ok (.getfield 15, 3) := by decide +kernel
theorem dX2_faultOf_33 : decode cX2_faultOf 33 = .ok (.iload 4, 2) := by decide +kernel
theorem dX2_faultOf_35 : decode cX2_faultOf 35 = .ok (.iload_n 2, 1) := by decide +kernel
theorem dX2_faultOf_36 : decode cX2_faultOf 36 = .ok (.invokevirtual 30, 3) := by decide +kernel
theorem dX2_faultOf_39 : decode cX2_faultOf 39 = .ok (.ifCond .eq 16, 3) := by decide +kernel
theorem dX2_faultOf_42 : decode cX2_faultOf 42 = .ok (.iload_n 3, 1) := by decide +kernel
theorem dX2_faultOf_43 : decode cX2_faultOf 43 = .ok (.aload_n 0, 1) := by decide +kernel
theorem dX2_faultOf_44 : decode cX2_faultOf 44 = .ok (.aload_n 1, 1) := by decide +kernel
theorem dX2_faultOf_45 : decode cX2_faultOf 45 = .ok (.iload 4, 2) := by decide +kernel
theorem dX2_faultOf_47 : decode cX2_faultOf 47 = .ok (.iload_n 2, 1) := by decide +kernel
theorem dX2_faultOf_48 : decode cX2_faultOf 48 = .ok (.invokevirtual 34, 3) := by decide +kernel
theorem dX2_faultOf_51 : decode cX2_faultOf 51 = .ok (.invokestatic 38, 3) := by decide +kernel
theorem dX2_faultOf_54 : decode cX2_faultOf 54 = .ok (.istore_n 3, 1) := by decide +kernel
theorem dX2_faultOf_55 : decode cX2_faultOf 55 = .ok (.iinc 4 1, 3) := by decide +kernel
theorem dX2_faultOf_58 : decode cX2_faultOf 58 = .ok (.goto (-43), 3) := by decide +kernel
theorem dX2_faultOf_61 : decode cX2_faultOf 61 = .ok (.iload_n 3, 1) := by decide +kernel
theorem dX2_faultOf_62 : decode cX2_faultOf 62 = .ok (.iconst 5, 1) := by decide +kernel
theorem dX2_faultOf_63 : decode cX2_faultOf 63 = .ok (.if_icmp .gt 5, 3) := by decide +kernel
theorem dX2_faultOf_66 : decode cX2_faultOf 66 = .ok (.iload_n 3, 1) := by decide +kernel
theorem dX2_faultOf_67 : decode cX2_faultOf 67 = .ok (.ireturn, 1) := by decide +kernel
theorem dX2_faultOf_68 : decode cX2_faultOf 68 = .ok (.aload_n 0, 1) := by decide +kernel
theorem dX2_faultOf_69 : decode cX2_faultOf 69 = .ok (.aload_n 1, 1) := by decide +kernel
theorem dX2_faultOf_70 : decode cX2_faultOf 70 = .ok (.iload_n 2, 1) := by decide +kernel
theorem dX2_faultOf_71 : decode cX2_faultOf 71 = .ok (.invokevirtual 44, 3) := by decide +kernel
theorem dX2_faultOf_74 : decode cX2_faultOf 74 = .ok (.aload_n 0, 1) := by decide +kernel
theorem dX2_faultOf_75 : decode cX2_faultOf 75 = .ok (.getfield 15, 3) := by decide +kernel
theorem dX2_faultOf_78 : decode cX2_faultOf 78 = .ok (.getfield 48, 3) := by decide +kernel
theorem dX2_faultOf_81 : decode cX2_faultOf 81 = .ok (.iload_n 2, 1) := by decide +kernel
theorem dX2_faultOf_82 : decode cX2_faultOf 82 = .ok (.iaload, 1) := by decide +kernel
theorem dX2_faultOf_83 : decode cX2_faultOf 83 = .ok (.iadd, 1) := by decide +kernel
theorem dX2_faultOf_84 : decode cX2_faultOf 84 = .ok (.aload_n 0, 1) := by decide +kernel
theorem dX2_faultOf_85 : decode cX2_faultOf 85 = .ok (.getfield 9, 3) := by decide +kernel
theorem dX2_faultOf_88 : decode cX2_faultOf 88 = .ok (.getfield 51, 3) := by decide +kernel
theorem dX2_faultOf_91 : decode cX2_faultOf 91 = .ok (.iconst 4, 1) := by decide +kernel
theorem dX2_faultOf_92 : decode cX2_faultOf 92 = .ok (.iaload, 1) := by decide +kernel
theorem dX2_faultOf_93 : decode cX2_faultOf 93 = .ok (.if_icmp .le 7, 3) := by decide +kernel
theorem dX2_faultOf_96 : decode cX2_faultOf 96 = .ok (.iconst 5, 1) := by decide +kernel
theorem dX2_faultOf_97 : decode cX2_faultOf 97 = .ok (.goto 4, 3) := by decide +kernel
theorem dX2_faultOf_100 : decode cX2_faultOf 100 = .ok (.iconst 0, 1) := by decide +kernel
theorem dX2_faultOf_101 : decode cX2_faultOf 101 = .ok (.ireturn, 1) := by decide +kernel
theorem dX2_clash_0 : decode cX2_clash 0 = .ok (.aload_n 1, 1) := by decide +kernel
theorem dX2_clash_1 : decode cX2_clash 1 = .ok (.iload_n 3, 1) := by decide +kernel
theorem dX2_clash_2 : decode cX2_clash 2 = .ok (.iaload, 1) := by decide +kernel
theorem dX2_clash_3 : decode cX2_clash 3 = .ok (.istore 4, 2) := by decide +kernel
theorem dX2_clash_5 : decode cX2_clash 5 = .ok (.aload_n 1, 1) := by decide +kernel
theorem dX2_clash_6 : decode cX2_clash 6 = .ok (.iload_n 2, 1) := by decide +kernel
theorem dX2_clash_7 : decode cX2_clash 7 = .ok (.iaload, 1) := by decide +kernel
theorem dX2_clash_8 : decode cX2_clash 8 = .ok (.istore 5, 2) := by decide +kernel
theorem dX2_clash_10 : decode cX2_clash 10 = .ok (.iload 4, 2) := by decide +kernel
theorem dX2_clash_12 : decode cX2_clash 12 = .ok (.iload 5, 2) := by decide +kernel
theorem dX2_clash_14 : decode cX2_clash 14 = .ok (.if_icmp .ne 5, 3) := by decide +kernel
theorem dX2_clash_17 : decode cX2_clash 17 = .ok (.iconst 2, 1) := by decide +kernel
theorem dX2_clash_18 : decode cX2_clash 18 = .ok (.ireturn, 1) := by decide +kernel
theorem dX2_clash_19 : decode cX2_clash 19 = .ok (.aload_n 0, 1) := by decide +kernel
theorem dX2_clash_20 : decode cX2_clash 20 = .ok (.iload_n 3, 1) := by decide +kernel
theorem dX2_clash_21 : decode cX2_clash 21 = .ok (.invokevirtual 54, 3) := by decide +kernel
theorem dX2_clash_24 : decode cX2_clash 24 = .ok (.aload_n 0, 1) := by decide +kernel
theorem dX2_clash_25 : decode cX2_clash 25 = .ok (.iload_n 2, 1) := by decide +kernel
theorem dX2_clash_26 : decode cX2_clash 26 = .ok (.invokevirtual 54, 3) := by decide +kernel
theorem dX2_clash_29 : decode cX2_clash 29 = .ok (.isub, 1) := by decide +kernel
theorem dX2_clash_30 : decode cX2_clash 30 = .ok (.istore 6, 2) := by decide +kernel
theorem dX2_clash_32 : decode cX2_clash 32 = .ok (.iload 5, 2) := by decide +kernel
theorem dX2_clash_34 : decode cX2_clash 34 = .ok (.iload 4, 2) := by decide +kernel
theorem dX2_clash_36 : decode cX2_clash 36 = .ok (.if_icmp .ge 11, 3) := by decide +kernel
theorem dX2_clash_39 : decode cX2_clash 39 = .ok (.iload 6, 2) := by decide +kernel
theorem dX2_clash_41 : decode cX2_clash 41 = .ok (.ifCond .gt 13, 3) := by decide +kernel
theorem dX2_clash_44 : decode cX2_clash 44 = .ok (.goto 8, 3) := by decide +kernel
theorem dX2_clash_47 : decode cX2_clash 47 = .ok (.iload 6, 2) := by decide +kernel
theorem dX2_clash_49 : decode cX2_clash 49 = .ok (.ifCond .lt 5, 3) := by decide +kernel
theorem dX2_clash_52 : decode cX2_clash 52 = .ok (.iconst 3, 1) := by decide +kernel
theorem dX2_clash_53 : decode cX2_clash 53 = .ok (.ireturn, 1) := by decide +kernel
theorem dX2_clash_54 : decode cX2_clash 54 = .ok (.aload_n 0, 1) := by decide +kernel
theorem dX2_clash_55 : decode cX2_clash 55 = .ok (.getfield 9, 3) := by decide +kernel
theorem dX2_clash_58 : decode cX2_clash 58 = .ok (.iload 4, 2) := by decide +kernel
theorem dX2_clash_60 : decode cX2_clash 60 = .ok (.invokevirtual 58, 3) := by decide +kernel
theorem dX2_clash_63 : decode cX2_clash 63 = .ok (.aload_n 0, 1) := by decide +kernel
theorem dX2_clash_64 : decode cX2_clash 64 = .ok (.getfield 9, 3) := by decide +kernel
theorem dX2_clash_67 : decode cX2_clash 67 = .ok (.iload 5, 2) := by decide +kernel
theorem dX2_clash_69 : decode cX2_clash 69 = .ok (.invokevirtual 58, 3) := by decide +kernel
theorem dX2_clash_72 : decode cX2_clash 72 = .ok (.if_icmp .ne 7, 3) := by decide +kernel
theorem dX2_clash_75 : decode cX2_clash 75 = .ok (.iconst 1, 1) := by decide +kernel
theorem dX2_clash_76 : decode cX2_clash 76 = .ok (.goto 4, 3) := by decide +kernel
theorem dX2_clash_79 : decode cX2_clash 79 = .ok (.iconst 0, 1) := by decide +kernel
theorem dX2_clash_80 : decode cX2_clash 80 = .ok (.istore 7, 2) := by decide +kernel
theorem dX2_clash_82 : decode cX2_clash 82 = .ok (.iload 7, 2) := by decide +kernel
theorem dX2_clash_84 : decode cX2_clash 84 = .ok (.ifCond .eq 24, 3) := by decide +kernel
theorem dX2_clash_87 : decode cX2_clash 87 = .ok (.iload 6, 2) := by decide +kernel
theorem dX2_clash_89 : decode cX2_clash 89 = .ok (.invokestatic 62, 3) := by decide +kernel
theorem dX2_clash_92 : decode cX2_clash 92 = .ok (.aload_n 0, 1) := by decide +kernel
theorem dX2_clash_93 : decode cX2_clash 93 = .ok (.getfield 9, 3) := by decide +kernel
theorem dX2_clash_96 : decode cX2_clash 96 = .ok (.getfield 51, 3) := by decide +kernel
theorem dX2_clash_99 : decode cX2_clash 99 = .ok (.iconst 2, 1) := by decide +kernel
theorem dX2_clash_100 : decode cX2_clash 100 = .ok (.iaload, 1) := by decide +kernel
theorem dX2_clash_101 : decode cX2_clash 101 = .ok (.if_icmp .le 7, 3) := by decide +kernel
theorem dX2_clash_104 : decode cX2_clash 104 = .ok (.iconst 4, 1) := by decide +kernel
theorem dX2_clash_105 : decode cX2_clash 105 = .ok (.goto 5, 3) := by decide +kernel
theorem dX2_clash_108 : decode cX2_clash 108 = .ok (.bipush 6, 2) := by decide +kernel
theorem dX2_clash_110 : decode cX2_clash 110 = .ok (.ireturn, 1) := by decide +kernel
theorem dX2_wornBefore_0 : decode cX2_wornBefore 0 = .ok (.iconst 0, 1) := by decide +kernel
theorem dX2_wornBefore_1 : decode cX2_wornBefore 1 = .ok (.istore_n 3, 1) := by decide +kernel
theorem dX2_wornBefore_2 : decode cX2_wornBefore 2 = .ok (.iconst (-1), 1) := by decide +kernel
theorem dX2_wornBefore_3 : decode cX2_wornBefore 3 = .ok (.istore 4, 2) := by decide +kernel
theorem dX2_wornBefore_5 : decode cX2_wornBefore 5 = .ok (.iconst 0, 1) := by decide +kernel
theorem dX2_wornBefore_6 : decode cX2_wornBefore 6 = .ok (.istore 5, 2) := by decide +kernel
theorem dX2_wornBefore_8 : decode cX2_wornBefore 8 = .ok (.iload 5, 2) := by decide +kernel
theorem dX2_wornBefore_10 : decode cX2_wornBefore 10 = .ok (.iload_n 2, 1) := by decide +kernel
theorem dX2_wornBefore_11 : decode cX2_wornBefore 11 = .ok (.if_icmp .gt 76, 3) := by decide +kernel
theorem dX2_wornBefore_14 : decode cX2_wornBefore 14 = .ok (.aload_n 1, 1) := by decide +kernel
theorem dX2_wornBefore_15 : decode cX2_wornBefore 15 = .ok (.iload 5, 2) := by decide +kernel
theorem dX2_wornBefore_17 : decode cX2_wornBefore 17 = .ok (.iaload, 1) := by decide +kernel
theorem dX2_wornBefore_18 : decode cX2_wornBefore 18 = .ok (.aload_n 1, 1) := by decide +kernel
theorem dX2_wornBefore_19 : decode cX2_wornBefore 19 = .ok (.iload_n 2, 1) := by decide +kernel
theorem dX2_wornBefore_20 : decode cX2_wornBefore 20 = .ok (.iaload, 1) := by decide +kernel
theorem dX2_wornBefore_21 : decode cX2_wornBefore 21 = .ok (.if_icmp .ne 60, 3) := by decide +kernel
theorem dX2_wornBefore_24 : decode cX2_wornBefore 24 = .ok (.iload 4, 2) := by decide +kernel
theorem dX2_wornBefore_26 : decode cX2_wornBefore 26 = .ok (.iconst (-1), 1) := by decide +kernel
theorem dX2_wornBefore_27 : decode cX2_wornBefore 27 = .ok (.if_icmp .eq 30, 3) := by decide +kernel
theorem dX2_wornBefore_30 : decode cX2_wornBefore 30 = .ok (.aload_n 0, 1) := by decide +kernel
theorem dX2_wornBefore_31 : decode cX2_wornBefore 31 = .ok (.getfield 15, 3) := by decide +kernel
theorem dX2_wornBefore_34 : decode cX2_wornBefore 34 = .ok (.getfield 65, 3) := by decide +kernel
theorem dX2_wornBefore_37 : decode cX2_wornBefore 37 = .ok (.iload 5, 2) := by decide +kernel
theorem dX2_wornBefore_39 : decode cX2_wornBefore 39 = .ok (.iaload, 1) := by decide +kernel
theorem dX2_wornBefore_40 : decode cX2_wornBefore 40 = .ok (.iload 4, 2) := by decide +kernel
theorem dX2_wornBefore_42 : decode cX2_wornBefore 42 = .ok (.isub, 1) := by decide +kernel
theorem dX2_wornBefore_43 : decode cX2_wornBefore 43 = .ok (.aload_n 0, 1) := by decide +kernel
theorem dX2_wornBefore_44 : decode cX2_wornBefore 44 = .ok (.getfield 9, 3) := by decide +kernel
theorem dX2_wornBefore_47 : decode cX2_wornBefore 47 = .ok (.getfield 51, 3) := by decide +kernel
theorem dX2_wornBefore_50 : decode cX2_wornBefore 50 = .ok (.iconst 5, 1) := by decide +kernel
theorem dX2_wornBefore_51 : decode cX2_wornBefore 51 = .ok (.iaload, 1) := by decide +kernel
theorem dX2_wornBefore_52 : decode cX2_wornBefore 52 = .ok (.if_icmp .lt 5, 3) := by decide +kernel
theorem dX2_wornBefore_55 : decode cX2_wornBefore 55 = .ok (.iconst 0, 1) := by decide +kernel
theorem dX2_wornBefore_56 : decode cX2_wornBefore 56 = .ok (.istore_n 3, 1) := by decide +kernel
theorem dX2_wornBefore_57 : decode cX2_wornBefore 57 = .ok (.iload_n 3, 1) := by decide +kernel
theorem dX2_wornBefore_58 : decode cX2_wornBefore 58 = .ok (.aload_n 0, 1) := by decide +kernel
theorem dX2_wornBefore_59 : decode cX2_wornBefore 59 = .ok (.getfield 15, 3) := by decide +kernel
theorem dX2_wornBefore_62 : decode cX2_wornBefore 62 = .ok (.getfield 48, 3) := by decide +kernel
theorem dX2_wornBefore_65 : decode cX2_wornBefore 65 = .ok (.iload 5, 2) := by decide +kernel
theorem dX2_wornBefore_67 : decode cX2_wornBefore 67 = .ok (.iaload, 1) := by decide +kernel
theorem dX2_wornBefore_68 : decode cX2_wornBefore 68 = .ok (.iadd, 1) := by decide +kernel
theorem dX2_wornBefore_69 : decode cX2_wornBefore 69 = .ok (.istore_n 3, 1) := by decide +kernel
theorem dX2_wornBefore_70 : decode cX2_wornBefore 70 = .ok (.aload_n 0, 1) := by decide +kernel
theorem dX2_wornBefore_71 : decode cX2_wornBefore 71 = .ok (.getfield 15, 3) := by decide +kernel
theorem dX2_wornBefore_74 : decode cX2_wornBefore 74 = .ok (.iload 5, 2) := by decide +kernel
theorem dX2_wornBefore_76 : decode cX2_wornBefore 76 = .ok (.invokevirtual 68, 3) := by decide +kernel
theorem dX2_wornBefore_79 : decode cX2_wornBefore 79 = .ok (.istore 4, 2) := by decide +kernel
theorem dX2_wornBefore_81 : decode cX2_wornBefore 81 = .ok (.iinc 5 1, 3) := by decide +kernel
theorem dX2_wornBefore_84 : decode cX2_wornBefore 84 = .ok (.goto (-76), 3) := by decide +kernel
theorem dX2_wornBefore_87 : decode cX2_wornBefore 87 = .ok (.iload_n 3, 1) := by decide +kernel
theorem dX2_wornBefore_88 : decode cX2_wornBefore 88 = .ok (.aload_n 0, 1) := by decide +kernel
theorem dX2_wornBefore_89 : decode cX2_wornBefore 89 = .ok (.getfield 15, 3) := by decide +kernel
theorem dX2_wornBefore_92 : decode cX2_wornBefore 92 = .ok (.getfield 48, 3) := by decide +kernel
theorem dX2_wornBefore_95 : decode cX2_wornBefore 95 = .ok (.iload_n 2, 1) := by decide +kernel
theorem dX2_wornBefore_96 : decode cX2_wornBefore 96 = .ok (.iaload, 1) := by decide +kernel
theorem dX2_wornBefore_97 : decode cX2_wornBefore 97 = .ok (.isub, 1) := by decide +kernel
theorem dX2_wornBefore_98 : decode cX2_wornBefore 98 = .ok (.ireturn, 1) := by decide +kernel
theorem dX2_driesIn_0 : decode cX2_driesIn 0 = .ok (.aload_n 0, 1) := by decide +kernel
theorem dX2_driesIn_1 : decode cX2_driesIn 1 = .ok (.getfield 15, 3) := by decide +kernel
theorem dX2_driesIn_4 : decode cX2_driesIn 4 = .ok (.getfield 71, 3) := by decide +kernel
theorem dX2_driesIn_7 : decode cX2_driesIn 7 = .ok (.iload_n 1, 1) := by decide +kernel
theorem dX2_driesIn_8 : decode cX2_driesIn 8 = .ok (.iaload, 1) := by decide +kernel
theorem dX2_driesIn_9 : decode cX2_driesIn 9 = .ok (.iconst (-1), 1) := by decide +kernel
theorem dX2_driesIn_10 : decode cX2_driesIn 10 = .ok (.if_icmp .eq 33, 3) := by decide +kernel
theorem dX2_driesIn_13 : decode cX2_driesIn 13 = .ok (.aload_n 0, 1) := by decide +kernel
theorem dX2_driesIn_14 : decode cX2_driesIn 14 = .ok (.aload_n 0, 1) := by decide +kernel
theorem dX2_driesIn_15 : decode cX2_driesIn 15 = .ok (.getfield 15, 3) := by decide +kernel
theorem dX2_driesIn_18 : decode cX2_driesIn 18 = .ok (.getfield 71, 3) := by decide +kernel
theorem dX2_driesIn_21 : decode cX2_driesIn 21 = .ok (.iload_n 1, 1) := by decide +kernel
theorem dX2_driesIn_22 : decode cX2_driesIn 22 = .ok (.invokevirtual 44, 3) := by decide +kernel
theorem dX2_driesIn_25 : decode cX2_driesIn 25 = .ok (.iload_n 2, 1) := by decide +kernel
theorem dX2_driesIn_26 : decode cX2_driesIn 26 = .ok (.iadd, 1) := by decide +kernel
theorem dX2_driesIn_27 : decode cX2_driesIn 27 = .ok (.aload_n 0, 1) := by decide +kernel
theorem dX2_driesIn_28 : decode cX2_driesIn 28 = .ok (.getfield 9, 3) := by decide +kernel
theorem dX2_driesIn_31 : decode cX2_driesIn 31 = .ok (.getfield 51, 3) := by decide +kernel
theorem dX2_driesIn_34 : decode cX2_driesIn 34 = .ok (.iconst 4, 1) := by decide +kernel
theorem dX2_driesIn_35 : decode cX2_driesIn 35 = .ok (.iaload, 1) := by decide +kernel
theorem dX2_driesIn_36 : decode cX2_driesIn 36 = .ok (.if_icmp .lt 7, 3) := by decide +kernel
theorem dX2_driesIn_39 : decode cX2_driesIn 39 = .ok (.iconst 1, 1) := by decide +kernel
theorem dX2_driesIn_40 : decode cX2_driesIn 40 = .ok (.goto 4, 3) := by decide +kernel
theorem dX2_driesIn_43 : decode cX2_driesIn 43 = .ok (.iconst 0, 1) := by decide +kernel
theorem dX2_driesIn_44 : decode cX2_driesIn 44 = .ok (.ireturn, 1) := by decide +kernel
theorem dX2_liftsAt_0 : decode cX2_liftsAt 0 = .ok (.aload_n 1, 1) := by decide +kernel
theorem dX2_liftsAt_1 : decode cX2_liftsAt 1 = .ok (.iload_n 2, 1) := by decide +kernel
theorem dX2_liftsAt_2 : decode cX2_liftsAt 2 = .ok (.iaload, 1) := by decide +kernel
theorem dX2_liftsAt_3 : decode cX2_liftsAt 3 = .ok (.iconst (-1), 1) := by decide +kernel
theorem dX2_liftsAt_4 : decode cX2_liftsAt 4 = .ok (.if_icmp .ne 5, 3) := by decide +kernel
theorem dX2_liftsAt_7 : decode cX2_liftsAt 7 = .ok (.iconst 1, 1) := by decide +kernel
theorem dX2_liftsAt_8 : decode cX2_liftsAt 8 = .ok (.ireturn, 1) := by decide +kernel
theorem dX2_liftsAt_9 : decode cX2_liftsAt 9 = .ok (.iload_n 2, 1) := by decide +kernel
theorem dX2_liftsAt_10 : decode cX2_liftsAt 10 = .ok (.iconst 1, 1) := by decide +kernel
theorem dX2_liftsAt_11 : decode cX2_liftsAt 11 = .ok (.isub, 1) := by decide +kernel
theorem dX2_liftsAt_12 : decode cX2_liftsAt 12 = .ok (.istore_n 3, 1) := by decide +kernel
theorem dX2_liftsAt_13 : decode cX2_liftsAt 13 = .ok (.iload_n 3, 1) := by decide +kernel
theorem dX2_liftsAt_14 : decode cX2_liftsAt 14 = .ok (.ifCond .lt 36, 3) := by decide +kernel
theorem dX2_liftsAt_17 : decode cX2_liftsAt 17 = .ok (.aload_n 1, 1) := by decide +kernel
theorem dX2_liftsAt_18 : decode cX2_liftsAt 18 = .ok (.iload_n 3, 1) := by decide +kernel
theorem dX2_liftsAt_19 : decode cX2_liftsAt 19 = .ok (.iaload, 1) := by decide +kernel
theorem dX2_liftsAt_20 : decode cX2_liftsAt 20 = .ok (.aload_n 1, 1) := by decide +kernel
theorem dX2_liftsAt_21 : decode cX2_liftsAt 21 = .ok (.iload_n 2, 1) := by decide +kernel
theorem dX2_liftsAt_22 : decode cX2_liftsAt 22 = .ok (.iaload, 1) := by decide +kernel
theorem dX2_liftsAt_23 : decode cX2_liftsAt 23 = .ok (.if_icmp .ne 21, 3) := by decide +kernel
theorem dX2_liftsAt_26 : decode cX2_liftsAt 26 = .ok (.aload_n 0, 1) := by decide +kernel
theorem dX2_liftsAt_27 : decode cX2_liftsAt 27 = .ok (.getfield 15, 3) := by decide +kernel
theorem dX2_liftsAt_30 : decode cX2_liftsAt 30 = .ok (.iload_n 3, 1) := by decide +kernel
theorem dX2_liftsAt_31 : decode cX2_liftsAt 31 = .ok (.iload_n 2, 1) := by decide +kernel
theorem dX2_liftsAt_32 : decode cX2_liftsAt 32 = .ok (.invokevirtual 74, 3) := by decide +kernel
theorem dX2_liftsAt_35 : decode cX2_liftsAt 35 = .ok (.ifCond .ne 7, 3) := by decide +kernel
theorem dX2_liftsAt_38 : decode cX2_liftsAt 38 = .ok (.iconst 1, 1) := by decide +kernel
theorem dX2_liftsAt_39 : decode cX2_liftsAt 39 = .ok (.goto 4, 3) := by decide +kernel
theorem dX2_liftsAt_42 : decode cX2_liftsAt 42 = .ok (.iconst 0, 1) := by decide +kernel
theorem dX2_liftsAt_43 : decode cX2_liftsAt 43 = .ok (.ireturn, 1) := by decide +kernel
theorem dX2_liftsAt_44 : decode cX2_liftsAt 44 = .ok (.iinc 3 (-1), 3) := by decide +kernel
theorem dX2_liftsAt_47 : decode cX2_liftsAt 47 = .ok (.goto (-34), 3) := by decide +kernel
theorem dX2_liftsAt_50 : decode cX2_liftsAt 50 = .ok (.iconst 1, 1) := by decide +kernel
theorem dX2_liftsAt_51 : decode cX2_liftsAt 51 = .ok (.ireturn, 1) := by decide +kernel
theorem dX3_init_0 : decode cX3_init 0 = .ok (.aload_n 0, 1) := by decide +kernel
theorem dX3_init_1 : decode cX3_init 1 = .ok (.invokespecial 3, 3) := by decide +kernel
theorem dX3_init_4 : decode cX3_init 4 = .ok (.aload_n 0, 1) := by decide +kernel
theorem dX3_init_5 : decode cX3_init 5 = .ok (.bipush 32, 2) := by decide +kernel
theorem dX3_init_7 : decode cX3_init 7 = .ok (.newarray .int, 2) := by decide +kernel
theorem dX3_init_9 : decode cX3_init 9 = .ok (.putfield 9, 3) := by decide +kernel
theorem dX3_init_12 : decode cX3_init 12 = .ok (.aload_n 0, 1) := by decide +kernel
theorem dX3_init_13 : decode cX3_init 13 = .ok (.ldc 15, 2) := by decide +kernel
theorem dX3_init_15 : decode cX3_init 15 = .ok (.invokevirtual 17, 3) := by decide +kernel
theorem dX3_init_18 : decode cX3_init 18 = .ok (.bipush 8, 2) := by decide +kernel
theorem dX3_init_20 : decode cX3_init 20 = .ok (.idiv, 1) := by decide +kernel
theorem dX3_init_21 : decode cX3_init 21 = .ok (.newarray .int, 2) := by decide +kernel
theorem dX3_init_23 : decode cX3_init 23 = .ok (.putfield 23, 3) := by decide +kernel
theorem dX3_init_26 : decode cX3_init 26 = .ok (.aload_n 0, 1) := by decide +kernel
theorem dX3_init_27 : decode cX3_init 27 = .ok (.aload_n 1, 1) := by decide +kernel
theorem dX3_init_28 : decode cX3_init 28 = .ok (.putfield 26, 3) := by decide +kernel
theorem dX3_init_31 : decode cX3_init 31 = .ok (.return_, 1) := by decide +kernel
theorem dX3_tell_0 : decode cX3_tell 0 = .ok (.aload_n 0, 1) := by decide +kernel
theorem dX3_tell_1 : decode cX3_tell 1 = .ok (.getfield 23, 3) := by decide +kernel
theorem dX3_tell_4 : decode cX3_tell 4 = .ok (.bipush 26, 2) := by decide +kernel
theorem dX3_tell_6 : decode cX3_tell 6 = .ok (.iload_n 1, 1) := by decide +kernel
theorem dX3_tell_7 : decode cX3_tell 7 = .ok (.iastore, 1) := by decide +kernel
theorem dX3_tell_8 : decode cX3_tell 8 = .ok (.aload_n 0, 1) := by decide +kernel
theorem dX3_tell_9 : decode cX3_tell 9 = .ok (.getfield 23, 3) := by decide +kernel
theorem dX3_tell_12 : decode cX3_tell 12 = .ok (.bipush 27, 2) := by decide +kernel
theorem dX3_tell_14 : decode cX3_tell 14 = .ok (.iload_n 2, 1) := by decide +kernel
theorem dX3_tell_15 : decode cX3_tell 15 = .ok (.iastore, 1) := by decide +kernel
theorem dX3_tell_16 : decode cX3_tell 16 = .ok (.aload_n 0, 1) := by decide +kernel
theorem dX3_tell_17 : decode cX3_tell 17 = .ok (.getfield 23, 3) := by decide +kernel
theorem dX3_tell_20 : decode cX3_tell 20 = .ok (.bipush 28, 2) := by decide +kernel
theorem dX3_tell_22 : decode cX3_tell 22 = .ok (.iload_n 3, 1) := by decide +kernel
theorem dX3_tell_23 : decode cX3_tell 23 = .ok (.iastore, 1) := by decide +kernel
theorem dX3_tell_24 : decode cX3_tell 24 = .ok (.aload_n 0, 1) := by decide +kernel
theorem dX3_tell_25 : decode cX3_tell 25 = .ok (.getfield 23, 3) := by decide +kernel
theorem dX3_tell_28 : decode cX3_tell 28 = .ok (.iconst 3, 1) := by decide +kernel
theorem dX3_tell_29 : decode cX3_tell 29 = .ok (.iload 4, 2) := by decide +kernel
theorem dX3_tell_31 : decode cX3_tell 31 = .ok (.iastore, 1) := by decide +kernel
theorem dX3_tell_32 : decode cX3_tell 32 = .ok (.return_, 1) := by decide +kernel
theorem dX3_allows_0 : decode cX3_allows 0 = .ok (.aload_n 0, 1) := by decide +kernel
theorem dX3_allows_1 : decode cX3_allows 1 = .ok (.getfield 23, 3) := by decide +kernel
theorem dX3_allows_4 : decode cX3_allows 4 = .ok (.bipush 25, 2) := by decide +kernel
theorem dX3_allows_6 : decode cX3_allows 6 = .ok (.iload_n 2, 1) := by decide +kernel
theorem dX3_allows_7 : decode cX3_allows 7 = .ok (.iastore, 1) := by decide +kernel
theorem dX3_allows_8 : decode cX3_allows 8 = .ok (.iconst 0, 1) := by decide +kernel
theorem dX3_allows_9 : decode cX3_allows 9 = .ok (.istore_n 3, 1) := by decide +kernel
theorem dX3_allows_10 : decode cX3_allows 10 = .ok (.iload_n 3, 1) := by decide +kernel
theorem dX3_allows_11 : decode cX3_allows 11 = .ok (.aload_n 0, 1) := by decide +kernel
theorem dX3_allows_12 : decode cX3_allows 12 = .ok (.getfield 26, 3) := by decide +kernel
theorem dX3_allows_15 : decode cX3_allows 15 = .ok (.getfield 30, 3) := by decide +kernel
theorem dX3_allows_18 : decode cX3_allows 18 = .ok (.if_icmp .ge 27, 3) := by decide +kernel
theorem dX3_allows_21 : decode cX3_allows 21 = .ok (.iload_n 1, 1) := by decide +kernel
theorem dX3_allows_22 : decode cX3_allows 22 = .ok (.iload_n 3, 1) := by decide +kernel
theorem dX3_allows_23 : decode cX3_allows 23 = .ok (.ishr, 1) := by decide +kernel
theorem dX3_allows_24 : decode cX3_allows 24 = .ok (.iconst 1, 1) := by decide +kernel
theorem dX3_allows_25 : decode cX3_allows 25 = .ok (.iand, 1) := by decide +kernel
theorem dX3_allows_26 : decode cX3_allows 26 = .ok (.ifCond .eq 13, 3) := by decide +kernel
theorem dX3_allows_29 : decode cX3_allows 29 = .ok (.aload_n 0, 1) := by decide +kernel
theorem dX3_allows_30 : decode cX3_allows 30 = .ok (.iload_n 3, 1) := by decide +kernel
theorem dX3_allows_31 : decode cX3_allows 31 = .ok (.invokevirtual 36, 3) := by decide +kernel
theorem dX3_allows_34 : decode cX3_allows 34 = .ok (.ifCond .ne 5, 3) := by decide +kernel
theorem dX3_allows_37 : decode cX3_allows 37 = .ok (.iconst 0, 1) := by decide +kernel
theorem dX3_allows_38 : decode cX3_allows 38 = .ok (.ireturn, 1) := by decide +kernel
theorem dX3_allows_39 : decode cX3_allows 39 = .ok (.iinc 3 1, 3) := by decide +kernel
theorem dX3_allows_42 : decode cX3_allows 42 = .ok (.goto (-32), 3) := by decide +kernel
theorem dX3_allows_45 : decode cX3_allows 45 = .ok (.iconst 1, 1) := by decide +kernel
theorem dX3_allows_46 : decode cX3_allows 46 = .ok (.ireturn, 1) := by decide +kernel
theorem dX3_valueOf_0 : decode cX3_valueOf 0 = .ok (.iconst 0, 1) := by decide +kernel
theorem dX3_valueOf_1 : decode cX3_valueOf 1 = .ok (.istore_n 2, 1) := by decide +kernel
theorem dX3_valueOf_2 : decode cX3_valueOf 2 = .ok (.aload_n 0, 1) := by decide +kernel
theorem dX3_valueOf_3 : decode cX3_valueOf 3 = .ok (.getfield 26, 3) := by decide +kernel
theorem dX3_valueOf_6 : decode cX3_valueOf 6 = .ok (.getfield 40, 3) := by decide +kernel
theorem dX3_valueOf_9 : decode cX3_valueOf 9 = .ok (.iload_n 1, 1) := by decide +kernel
theorem dX3_valueOf_10 : decode cX3_valueOf 10 = .ok (.iaload, 1) := by decide +kernel
theorem dX3_valueOf_11 : decode cX3_valueOf 11 = .ok (.istore_n 3, 1) := by decide +kernel
theorem dX3_valueOf_12 : decode cX3_valueOf 12 = .ok (.iload_n 1, 1) := by decide +kernel
theorem dX3_valueOf_13 : decode cX3_valueOf 13 = .ok (.ifCond .ne 7, 3) := by decide +kernel
theorem dX3_valueOf_16 : decode cX3_valueOf 16 = .ok (.iconst 0, 1) := by decide +kernel
theorem dX3_valueOf_17 : decode cX3_valueOf 17 = .ok (.goto 14, 3) := by decide +kernel
theorem dX3_valueOf_20 : decode cX3_valueOf 20 = .ok (.aload_n 0, 1) := by decide +kernel
theorem dX3_valueOf_21 : decode cX3_valueOf 21 = .ok (.getfield 26, 3) := by decide +kernel
theorem dX3_valueOf_24 : decode cX3_valueOf 24 = .ok (.getfield 40, 3) := by decide +kernel
theorem dX3_valueOf_27 : decode cX3_valueOf 27 = .ok (.iload_n 1, 1) := by decide +kernel
theorem dX3_valueOf_28 : decode cX3_valueOf 28 = .ok (.iconst 1, 1) := by decide +kernel
theorem dX3_valueOf_29 : decode cX3_valueOf 29 = .ok (.isub, 1) := by decide +kernel
theorem dX3_valueOf_30 : decode cX3_valueOf 30 = .ok (.iaload, 1) := by decide +kernel
theorem dX3_valueOf_31 : decode cX3_valueOf 31 = .ok (.istore 4, 2) := by decide +kernel
theorem dX3_valueOf_33 : decode cX3_valueOf 33 = .ok (.iload 4, 2) := by decide +kernel
theorem dX3_valueOf_35 : decode cX3_valueOf 35 = .ok (.iload_n 3, 1) := by decide +kernel
theorem dX3_valueOf_36 : decode cX3_valueOf 36 = .ok (.if_icmp .ge 146, 3) := by decide +kernel
theorem dX3_valueOf_39 : decode cX3_valueOf 39 = .ok (.aload_n 0, 1) := by decide +kernel
theorem dX3_valueOf_40 : decode cX3_valueOf 40 = .ok (.getfield 26, 3) := by decide +kernel
theorem dX3_valueOf_43 : decode cX3_valueOf 43 = .ok (.getfield 43, 3) := by decide +kernel
theorem dX3_valueOf_46 : decode cX3_valueOf 46 = .ok (.iload 4, 2) := by decide +kernel
theorem dX3_valueOf_48 : decode cX3_valueOf 48 = .ok (.iaload, 1) := by decide +kernel
theorem dX3_valueOf_49 : decode cX3_valueOf 49 = .ok (.istore 5, 2) := by decide +kernel
theorem dX3_valueOf_51 : decode cX3_valueOf 51 = .ok (.iload 5, 2) := by decide +kernel
theorem dX3_valueOf_53 : decode cX3_valueOf 53 = .ok (.invokestatic 46, 3) := by decide +kernel
theorem dX3_valueOf_56 : decode cX3_valueOf 56 = .ok (.ifCond .eq 45, 3) := by decide +kernel
theorem dX3_valueOf_59 : decode cX3_valueOf 59 = .ok (.iload_n 2, 1) := by decide +kernel
theorem dX3_valueOf_60 : decode cX3_valueOf 60 = .ok (.aload_n 0, 1) := by decide +kernel
theorem dX3_valueOf_61 : decode cX3_valueOf 61 = .ok (.getfield 9, 3) := by decide +kernel
theorem dX3_valueOf_64 : decode cX3_valueOf 64 = .ok (.arraylength, 1) := by decide +kernel
theorem dX3_valueOf_65 : decode cX3_valueOf 65 = .ok (.if_icmp .ge 111, 3) := by decide +kernel
theorem dX3_valueOf_68 : decode cX3_valueOf 68 = .ok (.aload_n 0, 1) := by decide +kernel
theorem dX3_valueOf_69 : decode cX3_valueOf 69 = .ok (.getfield 9, 3) := by decide +kernel
theorem dX3_valueOf_72 : decode cX3_valueOf 72 = .ok (.iload_n 2, 1) := by decide +kernel
theorem dX3_valueOf_73 : decode cX3_valueOf 73 = .ok (.iload 5, 2) := by decide +kernel
theorem dX3_valueOf_75 : decode cX3_valueOf 75 = .ok (.ifCond .lt 8, 3) := by decide +kernel
theorem dX3_valueOf_78 : decode cX3_valueOf 78 = .ok (.iload 5, 2) := by decide +kernel
theorem dX3_valueOf_80 : decode cX3_valueOf 80 = .ok (.goto 14, 3) := by decide +kernel
theorem dX3_valueOf_83 : decode cX3_valueOf 83 = .ok (.aload_n 0, 1) := by decide +kernel
theorem dX3_valueOf_84 : decode cX3_valueOf 84 = .ok (.getfield 23, 3) := by decide +kernel
theorem dX3_valueOf_87 : decode cX3_valueOf 87 = .ok (.iload 5, 2) := by decide +kernel
theorem dX3_valueOf_89 : decode cX3_valueOf 89 = .ok (.ineg, 1) := by decide +kernel
theorem dX3_valueOf_90 : decode cX3_valueOf 90 = .ok (.bipush 100, 2) := by decide +kernel
theorem dX3_valueOf_92 : decode cX3_valueOf 92 = .ok (.isub, 1) := by decide +kernel
theorem dX3_valueOf_93 : decode cX3_valueOf 93 = .ok (.iaload, 1) := by decide +kernel
theorem dX3_valueOf_94 : decode cX3_valueOf 94 = .ok (.iastore, 1) := by decide +kernel
theorem dX3_valueOf_95 : decode cX3_valueOf 95 = .ok (.iinc 2 1, 3) := by decide +kernel
theorem dX3_valueOf_98 : decode cX3_valueOf 98 = .ok (.goto 78, 3) := by decide +kernel
theorem dX3_valueOf_101 : decode cX3_valueOf 101 = .ok (.iload 5, 2) := by decide +kernel
theorem dX3_valueOf_103 : decode cX3_valueOf 103 = .ok (.bipush (-111), 2) := by decide +kernel
theorem dX3_valueOf_105 : decode cX3_valueOf 105 = .ok (.if_icmp .ne 35, 3) := by decide +kernel
theorem dX3_valueOf_108 : decode cX3_valueOf 108 = .ok (.iload_n 2, 1) := by decide +kernel
theorem dX3_valueOf_109 : decode cX3_valueOf 109 = .ok (.iconst 1, 1) := by decide +kernel
theorem dX3_valueOf_110 : decode cX3_valueOf 110 = .ok (.if_icmp .lt 66, 3) := by decide +kernel
theorem dX3_valueOf_113 : decode cX3_valueOf 113 = .ok (.aload_n 0, 1) := by decide +kernel
theorem dX3_valueOf_114 : decode cX3_valueOf 114 = .ok (.getfield 9, 3) := by decide +kernel
theorem dX3_valueOf_117 : decode cX3_valueOf 117 = .ok (.iload_n 2, 1) := by decide +kernel
theorem dX3_valueOf_118 : decode cX3_valueOf 118 = .ok (.iconst 1, 1) := by decide +kernel
theorem dX3_valueOf_119 : decode cX3_valueOf 119 = .ok (.isub, 1) := by decide +kernel
theorem dX3_valueOf_120 : decode cX3_valueOf 120 = .ok (.aload_n 0, 1) := by decide +kernel
theorem dX3_valueOf_121 : decode cX3_valueOf 121 = .ok (.getfield 9, 3) := by decide +kernel
theorem dX3_valueOf_124 : decode cX3_valueOf 124 = .ok (.iload_n 2, 1) := by decide +kernel
theorem dX3_valueOf_125 : decode cX3_valueOf 125 = .ok (.iconst 1, 1) := by decide +kernel
theorem dX3_valueOf_126 : decode cX3_valueOf 126 = .ok (.isub, 1) := by decide +kernel
theorem dX3_valueOf_127 : decode cX3_valueOf 127 = .ok (.iaload, 1) := by decide +kernel
theorem dX3_valueOf_128 : decode cX3_valueOf 128 = .ok (.ifCond .ne 7, 3) := by decide +kernel
theorem dX3_valueOf_131 : decode cX3_valueOf 131 = .ok (.iconst 1, 1) := by decide +kernel
theorem dX3_valueOf_132 : decode cX3_valueOf 132 = .ok (.goto 4, 3) := by decide +kernel
theorem dX3_valueOf_135 : decode cX3_valueOf 135 = .ok (.iconst 0, 1) := by decide +kernel
theorem dX3_valueOf_136 : decode cX3_valueOf 136 = .ok (.iastore, 1) := by decide +kernel
theorem dX3_valueOf_137 : decode cX3_valueOf 137 = .ok (.goto 39, 3) := by decide +kernel
theorem dX3_valueOf_140 : decode cX3_valueOf 140 = .ok (.iload_n 2, 1) := by decide +kernel
theorem dX3_valueOf_141 : decode cX3_valueOf 141 = .ok (.iconst 2, 1) := by decide +kernel
theorem dX3_valueOf_142 : decode cX3_valueOf 142 = .ok (.if_icmp .lt 34, 3) := by decide +kernel
theorem dX3_valueOf_145 : decode cX3_valueOf 145 = .ok (.iinc 2 (-1), 3) := by decide +kernel
theorem dX3_valueOf_148 : decode cX3_valueOf 148 = .ok (.aload_n 0, 1) := by decide +kernel
theorem dX3_valueOf_149 : decode cX3_valueOf 149 = .ok (.getfield 9, 3) := by decide +kernel
theorem dX3_valueOf_152 : decode cX3_valueOf 152 = .ok (.iload_n 2, 1) := by decide +kernel
theorem dX3_valueOf_153 : decode cX3_valueOf 153 = .ok (.iconst 1, 1) := by decide +kernel
theorem dX3_valueOf_154 : decode cX3_valueOf 154 = .ok (.isub, 1) := by decide +kernel
theorem dX3_valueOf_155 : decode cX3_valueOf 155 = .ok (.iload 5, 2) := by decide +kernel
theorem dX3_valueOf_157 : decode cX3_valueOf 157 = .ok (.ineg, 1) := by decide +kernel
theorem dX3_valueOf_158 : decode cX3_valueOf 158 = .ok (.aload_n 0, 1) := by decide +kernel
theorem dX3_valueOf_159 : decode cX3_valueOf 159 = .ok (.getfield 9, 3) := by decide +kernel
theorem dX3_valueOf_162 : decode cX3_valueOf 162 = .ok (.iload_n 2, 1) := by decide +kernel
theorem dX3_valueOf_163 : decode cX3_valueOf 163 = .ok (.iconst 1, 1) := by decide +kernel
theorem dX3_valueOf_164 : decode cX3_valueOf 164 = .ok (.isub, 1) := by decide +kernel
theorem dX3_valueOf_165 : decode cX3_valueOf 165 = .ok (.iaload, 1) := by decide +kernel
theorem dX3_valueOf_166 : decode cX3_valueOf 166 = .ok (.aload_n 0, 1) := by decide +kernel
theorem dX3_valueOf_167 : decode cX3_valueOf 167 = .ok (.getfield 9, 3) := by decide +kernel
theorem dX3_valueOf_170 : decode cX3_valueOf 170 = .ok (.iload_n 2, 1) := by decide +kernel
theorem dX3_valueOf_171 : decode cX3_valueOf 171 = .ok (.iaload, 1) := by decide +kernel
theorem dX3_valueOf_172 : decode cX3_valueOf 172 = .ok (.invokestatic 50, 3) := by decide +kernel
theorem dX3_valueOf_175 : decode cX3_valueOf 175 = .ok (.iastore, 1) := by decide +kernel
theorem dX3_valueOf_176 : decode cX3_valueOf 176 = .ok (.iinc 4 1, 3) := by decide +kernel
theorem dX3_valueOf_179 : decode cX3_valueOf 179 = .ok (.goto (-146), 3) := by decide +kernel
theorem dX3_valueOf_182 : decode cX3_valueOf 182 = .ok (.aload_n 0, 1) := by decide +kernel
theorem dX3_valueOf_183 : decode cX3_valueOf 183 = .ok (.getfield 9, 3) := by decide +kernel
theorem dX3_valueOf_186 : decode cX3_valueOf 186 = .ok (.iconst 0, 1) := by decide +kernel
theorem dX3_valueOf_187 : decode cX3_valueOf 187 = .ok (.iaload, 1) := by decide +kernel
theorem dX3_valueOf_188 : decode cX3_valueOf 188 = .ok (.ireturn, 1) := by decide +kernel
theorem dX3_isOperand_0 : decode cX3_isOperand 0 = .ok (.iload_n 0, 1) := by decide +kernel
theorem dX3_isOperand_1 : decode cX3_isOperand 1 = .ok (.ifCond .ge 21, 3) := by decide +kernel
theorem dX3_isOperand_4 : decode cX3_isOperand 4 = .ok (.iload_n 0, 1) := by decide +kernel
theorem dX3_isOperand_5 : decode cX3_isOperand 5 = .ok (.bipush (-103), 2) := by decide +kernel
theorem dX3_isOperand_7 : decode cX3_isOperand 7 = .ok (.if_icmp .eq 15, 3) := by decide +kernel
theorem dX3_isOperand_10 : decode cX3_isOperand 10 = .ok (.iload_n 0, 1) := by decide +kernel
theorem dX3_isOperand_11 : decode cX3_isOperand 11 = .ok (.bipush (-125), 2) := by decide +kernel
theorem dX3_isOperand_13 : decode cX3_isOperand 13 = .ok (.if_icmp .gt 13, 3) := by decide +kernel
theorem dX3_isOperand_16 : decode cX3_isOperand 16 = .ok (.iload_n 0, 1) := by decide +kernel
theorem dX3_isOperand_17 : decode cX3_isOperand 17 = .ok (.bipush (-128), 2) := by decide +kernel
theorem dX3_isOperand_19 : decode cX3_isOperand 19 = .ok (.if_icmp .lt 7, 3) := by decide +kernel
theorem dX3_isOperand_22 : decode cX3_isOperand 22 = .ok (.iconst 1, 1) := by decide +kernel
theorem dX3_isOperand_23 : decode cX3_isOperand 23 = .ok (.goto 4, 3) := by decide +kernel
theorem dX3_isOperand_26 : decode cX3_isOperand 26 = .ok (.iconst 0, 1) := by decide +kernel
theorem dX3_isOperand_27 : decode cX3_isOperand 27 = .ok (.ireturn, 1) := by decide +kernel
theorem dX3_joined_0 : decode cX3_joined 0 = .ok (.iload_n 0, 1) := by decide +kernel
theorem dX3_joined_1 : decode cX3_joined 1 = .ok (.lookupswitch 107 #[(42, 67), (43, 59), (45, 63), (60, 71), (61, 82), (112, 93)], 59) := by decide +kernel
theorem dX3_joined_60 : decode cX3_joined 60 = .ok (.iload_n 1, 1) := by decide +kernel
theorem dX3_joined_61 : decode cX3_joined 61 = .ok (.iload_n 2, 1) := by decide +kernel
theorem dX3_joined_62 : decode cX3_joined 62 = .ok (.iadd, 1) := by decide +kernel
theorem dX3_joined_63 : decode cX3_joined 63 = .ok (.ireturn, 1) := by decide +kernel
theorem dX3_joined_64 : decode cX3_joined 64 = .ok (.iload_n 1, 1) := by decide +kernel
theorem dX3_joined_65 : decode cX3_joined 65 = .ok (.iload_n 2, 1) := by decide +kernel
theorem dX3_joined_66 : decode cX3_joined 66 = .ok (.isub, 1) := by decide +kernel
theorem dX3_joined_67 : decode cX3_joined 67 = .ok (.ireturn, 1) := by decide +kernel
theorem dX3_joined_68 : decode cX3_joined 68 = .ok (.iload_n 1, 1) := by decide +kernel
theorem dX3_joined_69 : decode cX3_joined 69 = .ok (.iload_n 2, 1) := by decide +kernel
theorem dX3_joined_70 : decode cX3_joined 70 = .ok (.imul, 1) := by decide +kernel
theorem dX3_joined_71 : decode cX3_joined 71 = .ok (.ireturn, 1) := by decide +kernel
theorem dX3_joined_72 : decode cX3_joined 72 = .ok (.iload_n 1, 1) := by decide +kernel
theorem dX3_joined_73 : decode cX3_joined 73 = .ok (.iload_n 2, 1) := by decide +kernel
theorem dX3_joined_74 : decode cX3_joined 74 = .ok (.if_icmp .ge 7, 3) := by decide +kernel
theorem dX3_joined_77 : decode cX3_joined 77 = .ok (.iconst 1, 1) := by decide +kernel
theorem dX3_joined_78 : decode cX3_joined 78 = .ok (.goto 4, 3) := by decide +kernel
theorem dX3_joined_81 : decode cX3_joined 81 = .ok (.iconst 0, 1) := by decide +kernel
theorem dX3_joined_82 : decode cX3_joined 82 = .ok (.ireturn, 1) := by decide +kernel
theorem dX3_joined_83 : decode cX3_joined 83 = .ok (.iload_n 1, 1) := by decide +kernel
theorem dX3_joined_84 : decode cX3_joined 84 = .ok (.iload_n 2, 1) := by decide +kernel
theorem dX3_joined_85 : decode cX3_joined 85 = .ok (.if_icmp .ne 7, 3) := by decide +kernel
theorem dX3_joined_88 : decode cX3_joined 88 = .ok (.iconst 1, 1) := by decide +kernel
theorem dX3_joined_89 : decode cX3_joined 89 = .ok (.goto 4, 3) := by decide +kernel
theorem dX3_joined_92 : decode cX3_joined 92 = .ok (.iconst 0, 1) := by decide +kernel
theorem dX3_joined_93 : decode cX3_joined 93 = .ok (.ireturn, 1) := by decide +kernel
theorem dX3_joined_94 : decode cX3_joined 94 = .ok (.iload_n 1, 1) := by decide +kernel
theorem dX3_joined_95 : decode cX3_joined 95 = .ok (.ifCond .eq 11, 3) := by decide +kernel
theorem dX3_joined_98 : decode cX3_joined 98 = .ok (.iload_n 2, 1) := by decide +kernel
theorem dX3_joined_99 : decode cX3_joined 99 = .ok (.ifCond .eq 7, 3) := by decide +kernel
theorem dX3_joined_102 : decode cX3_joined 102 = .ok (.iconst 1, 1) := by decide +kernel
theorem dX3_joined_103 : decode cX3_joined 103 = .ok (.goto 4, 3) := by decide +kernel
theorem dX3_joined_106 : decode cX3_joined 106 = .ok (.iconst 0, 1) := by decide +kernel
theorem dX3_joined_107 : decode cX3_joined 107 = .ok (.ireturn, 1) := by decide +kernel
theorem dX3_joined_108 : decode cX3_joined 108 = .ok (.iload_n 1, 1) := by decide +kernel
theorem dX3_joined_109 : decode cX3_joined 109 = .ok (.ifCond .ne 7, 3) := by decide +kernel
theorem dX3_joined_112 : decode cX3_joined 112 = .ok (.iload_n 2, 1) := by decide +kernel
theorem dX3_joined_113 : decode cX3_joined 113 = .ok (.ifCond .eq 7, 3) := by decide +kernel
theorem dX3_joined_116 : decode cX3_joined 116 = .ok (.iconst 1, 1) := by decide +kernel
theorem dX3_joined_117 : decode cX3_joined 117 = .ok (.goto 4, 3) := by decide +kernel
theorem dX3_joined_120 : decode cX3_joined 120 = .ok (.iconst 0, 1) := by decide +kernel
theorem dX3_joined_121 : decode cX3_joined 121 = .ok (.ireturn, 1) := by decide +kernel
theorem dX4_init_0 : decode cX4_init 0 = .ok (.aload_n 0, 1) := by decide +kernel
theorem dX4_init_1 : decode cX4_init 1 = .ok (.invokespecial 3, 3) := by decide +kernel
theorem dX4_init_4 : decode cX4_init 4 = .ok (.aload_n 0, 1) := by decide +kernel
theorem dX4_init_5 : decode cX4_init 5 = .ok (.bipush 8, 2) := by decide +kernel
theorem dX4_init_7 : decode cX4_init 7 = .ok (.newarray .int, 2) := by decide +kernel
theorem dX4_init_9 : decode cX4_init 9 = .ok (.putfield 9, 3) := by decide +kernel
theorem dX4_init_12 : decode cX4_init 12 = .ok (.aload_n 0, 1) := by decide +kernel
theorem dX4_init_13 : decode cX4_init 13 = .ok (.bipush 24, 2) := by decide +kernel
theorem dX4_init_15 : decode cX4_init 15 = .ok (.newarray .int, 2) := by decide +kernel
theorem dX4_init_17 : decode cX4_init 17 = .ok (.putfield 15, 3) := by decide +kernel
theorem dX4_init_20 : decode cX4_init 20 = .ok (.aload_n 0, 1) := by decide +kernel
theorem dX4_init_21 : decode cX4_init 21 = .ok (.sipush 256, 3) := by decide +kernel
theorem dX4_init_24 : decode cX4_init 24 = .ok (.newarray .int, 2) := by decide +kernel
theorem dX4_init_26 : decode cX4_init 26 = .ok (.putfield 18, 3) := by decide +kernel
theorem dX4_init_29 : decode cX4_init 29 = .ok (.aload_n 0, 1) := by decide +kernel
theorem dX4_init_30 : decode cX4_init 30 = .ok (.bipush 8, 2) := by decide +kernel
theorem dX4_init_32 : decode cX4_init 32 = .ok (.newarray .int, 2) := by decide +kernel
theorem dX4_init_34 : decode cX4_init 34 = .ok (.putfield 21, 3) := by decide +kernel
theorem dX4_init_37 : decode cX4_init 37 = .ok (.aload_n 0, 1) := by decide +kernel
theorem dX4_init_38 : decode cX4_init 38 = .ok (.aload_n 1, 1) := by decide +kernel
theorem dX4_init_39 : decode cX4_init 39 = .ok (.putfield 24, 3) := by decide +kernel
theorem dX4_init_42 : decode cX4_init 42 = .ok (.aload_n 0, 1) := by decide +kernel
theorem dX4_init_43 : decode cX4_init 43 = .ok (.aload_n 2, 1) := by decide +kernel
theorem dX4_init_44 : decode cX4_init 44 = .ok (.putfield 28, 3) := by decide +kernel
theorem dX4_init_47 : decode cX4_init 47 = .ok (.return_, 1) := by decide +kernel
theorem dX4_leastMoved_0 : decode cX4_leastMoved 0 = .ok (.aload_n 0, 1) := by decide +kernel
theorem dX4_leastMoved_1 : decode cX4_leastMoved 1 = .ok (.invokevirtual 32, 3) := by decide +kernel
theorem dX4_leastMoved_4 : decode cX4_leastMoved 4 = .ok (.ifCond .eq 12, 3) := by decide +kernel
theorem dX4_leastMoved_7 : decode cX4_leastMoved 7 = .ok (.aload_n 0, 1) := by decide +kernel
theorem dX4_leastMoved_8 : decode cX4_leastMoved 8 = .ok (.getfield 18, 3) := by decide +kernel
theorem dX4_leastMoved_11 : decode cX4_leastMoved 11 = .ok (.iconst 0, 1) := by decide +kernel
theorem dX4_leastMoved_12 : decode cX4_leastMoved 12 = .ok (.iaload, 1) := by decide +kernel
theorem dX4_leastMoved_13 : decode cX4_leastMoved 13 = .ok (.goto 4, 3) := by decide +kernel
theorem dX4_leastMoved_16 : decode cX4_leastMoved 16 = .ok (.iconst (-1), 1) := by decide +kernel
theorem dX4_leastMoved_17 : decode cX4_leastMoved 17 = .ok (.ireturn, 1) := by decide +kernel
theorem dX4_bowlAt_0 : decode cX4_bowlAt 0 = .ok (.iload_n 1, 1) := by decide +kernel
theorem dX4_bowlAt_1 : decode cX4_bowlAt 1 = .ok (.ifCond .lt 30, 3) := by decide +kernel
theorem dX4_bowlAt_4 : decode cX4_bowlAt 4 = .ok (.iload_n 1, 1) := by decide +kernel
theorem dX4_bowlAt_5 : decode cX4_bowlAt 5 = .ok (.aload_n 0, 1) := by decide +kernel
theorem dX4_bowlAt_6 : decode cX4_bowlAt 6 = .ok (.getfield 24, 3) := by decide +kernel
theorem dX4_bowlAt_9 : decode cX4_bowlAt 9 = .ok (.getfield 36, 3) := by decide +kernel
theorem dX4_bowlAt_12 : decode cX4_bowlAt 12 = .ok (.if_icmp .ge 19, 3) := by decide +kernel
theorem dX4_bowlAt_15 : decode cX4_bowlAt 15 = .ok (.aload_n 0, 1) := by decide +kernel
theorem dX4_bowlAt_16 : decode cX4_bowlAt 16 = .ok (.invokevirtual 32, 3) := by decide +kernel
theorem dX4_bowlAt_19 : decode cX4_bowlAt 19 = .ok (.ifCond .eq 12, 3) := by decide +kernel
theorem dX4_bowlAt_22 : decode cX4_bowlAt 22 = .ok (.aload_n 0, 1) := by decide +kernel
theorem dX4_bowlAt_23 : decode cX4_bowlAt 23 = .ok (.getfield 21, 3) := by decide +kernel
theorem dX4_bowlAt_26 : decode cX4_bowlAt 26 = .ok (.iload_n 1, 1) := by decide +kernel
theorem dX4_bowlAt_27 : decode cX4_bowlAt 27 = .ok (.iaload, 1) := by decide +kernel
theorem dX4_bowlAt_28 : decode cX4_bowlAt 28 = .ok (.goto 4, 3) := by decide +kernel
theorem dX4_bowlAt_31 : decode cX4_bowlAt 31 = .ok (.iconst (-1), 1) := by decide +kernel
theorem dX4_bowlAt_32 : decode cX4_bowlAt 32 = .ok (.ireturn, 1) := by decide +kernel
theorem dX4_learn_0 : decode cX4_learn 0 = .ok (.aload_n 0, 1) := by decide +kernel
theorem dX4_learn_1 : decode cX4_learn 1 = .ok (.getfield 24, 3) := by decide +kernel
theorem dX4_learn_4 : decode cX4_learn 4 = .ok (.getfield 36, 3) := by decide +kernel
theorem dX4_learn_7 : decode cX4_learn 7 = .ok (.bipush 8, 2) := by decide +kernel
theorem dX4_learn_9 : decode cX4_learn 9 = .ok (.if_icmp .le 5, 3) := by decide +kernel
theorem dX4_learn_12 : decode cX4_learn 12 = .ok (.iconst 0, 1) := by decide +kernel
theorem dX4_learn_13 : decode cX4_learn 13 = .ok (.ireturn, 1) := by decide +kernel
theorem dX4_learn_14 : decode cX4_learn 14 = .ok (.aload_n 0, 1) := by decide +kernel
theorem dX4_learn_15 : decode cX4_learn 15 = .ok (.getfield 42, 3) := by decide +kernel
theorem dX4_learn_18 : decode cX4_learn 18 = .ok (.ifCond .ne 72, 3) := by decide +kernel
theorem dX4_learn_21 : decode cX4_learn 21 = .ok (.aload_n 0, 1) := by decide +kernel
theorem dX4_learn_22 : decode cX4_learn 22 = .ok (.iconst 1, 1) := by decide +kernel
theorem dX4_learn_23 : decode cX4_learn 23 = .ok (.putfield 42, 3) := by decide +kernel
theorem dX4_learn_26 : decode cX4_learn 26 = .ok (.aload_n 0, 1) := by decide +kernel
theorem dX4_learn_27 : decode cX4_learn 27 = .ok (.invokevirtual 46, 3) := by decide +kernel
theorem dX4_learn_30 : decode cX4_learn 30 = .ok (.iconst 1, 1) := by decide +kernel
theorem dX4_learn_31 : decode cX4_learn 31 = .ok (.aload_n 0, 1) := by decide +kernel
theorem dX4_learn_32 : decode cX4_learn 32 = .ok (.getfield 49, 3) := by decide +kernel
theorem dX4_learn_35 : decode cX4_learn 35 = .ok (.ishl, 1) := by decide +kernel
theorem dX4_learn_36 : decode cX4_learn 36 = .ok (.iconst 1, 1) := by decide +kernel
theorem dX4_learn_37 : decode cX4_learn 37 = .ok (.isub, 1) := by decide +kernel
theorem dX4_learn_38 : decode cX4_learn 38 = .ok (.istore_n 1, 1) := by decide +kernel
theorem dX4_learn_39 : decode cX4_learn 39 = .ok (.aload_n 0, 1) := by decide +kernel
theorem dX4_learn_40 : decode cX4_learn 40 = .ok (.getfield 18, 3) := by decide +kernel
theorem dX4_learn_43 : decode cX4_learn 43 = .ok (.iload_n 1, 1) := by decide +kernel
theorem dX4_learn_44 : decode cX4_learn 44 = .ok (.iconst 0, 1) := by decide +kernel
theorem dX4_learn_45 : decode cX4_learn 45 = .ok (.iastore, 1) := by decide +kernel
theorem dX4_learn_46 : decode cX4_learn 46 = .ok (.iload_n 1, 1) := by decide +kernel
theorem dX4_learn_47 : decode cX4_learn 47 = .ok (.iconst 1, 1) := by decide +kernel
theorem dX4_learn_48 : decode cX4_learn 48 = .ok (.isub, 1) := by decide +kernel
theorem dX4_learn_49 : decode cX4_learn 49 = .ok (.istore_n 2, 1) := by decide +kernel
theorem dX4_learn_50 : decode cX4_learn 50 = .ok (.iload_n 2, 1) := by decide +kernel
theorem dX4_learn_51 : decode cX4_learn 51 = .ok (.ifCond .lt 35, 3) := by decide +kernel
theorem dX4_learn_54 : decode cX4_learn 54 = .ok (.aload_n 0, 1) := by decide +kernel
theorem dX4_learn_55 : decode cX4_learn 55 = .ok (.getfield 18, 3) := by decide +kernel
theorem dX4_learn_58 : decode cX4_learn 58 = .ok (.iload_n 2, 1) := by decide +kernel
theorem dX4_learn_59 : decode cX4_learn 59 = .ok (.aload_n 0, 1) := by decide +kernel
theorem dX4_learn_60 : decode cX4_learn 60 = .ok (.iload_n 2, 1) := by decide +kernel
theorem dX4_learn_61 : decode cX4_learn 61 = .ok (.invokevirtual 52, 3) := by decide +kernel
theorem dX4_learn_64 : decode cX4_learn 64 = .ok (.aload_n 0, 1) := by decide +kernel
theorem dX4_learn_65 : decode cX4_learn 65 = .ok (.getfield 18, 3) := by decide +kernel
theorem dX4_learn_68 : decode cX4_learn 68 = .ok (.iload_n 2, 1) := by decide +kernel
theorem dX4_learn_69 : decode cX4_learn 69 = .ok (.iconst 1, 1) := by decide +kernel
theorem dX4_learn_70 : decode cX4_learn 70 = .ok (.aload_n 0, 1) := by decide +kernel
theorem dX4_learn_71 : decode cX4_learn 71 = .ok (.iload_n 2, 1) := by decide +kernel
theorem dX4_learn_72 : decode cX4_learn 72 = .ok (.invokevirtual 56, 3) := by decide +kernel
theorem dX4_learn_75 : decode cX4_learn 75 = .ok (.ishl, 1) := by decide +kernel
theorem dX4_learn_76 : decode cX4_learn 76 = .ok (.ior, 1) := by decide +kernel
theorem dX4_learn_77 : decode cX4_learn 77 = .ok (.iaload, 1) := by decide +kernel
theorem dX4_learn_78 : decode cX4_learn 78 = .ok (.iadd, 1) := by decide +kernel
theorem dX4_learn_79 : decode cX4_learn 79 = .ok (.iastore, 1) := by decide +kernel
theorem dX4_learn_80 : decode cX4_learn 80 = .ok (.iinc 2 (-1), 3) := by decide +kernel
theorem dX4_learn_83 : decode cX4_learn 83 = .ok (.goto (-33), 3) := by decide +kernel
theorem dX4_learn_86 : decode cX4_learn 86 = .ok (.aload_n 0, 1) := by decide +kernel
theorem dX4_learn_87 : decode cX4_learn 87 = .ok (.invokevirtual 59, 3) := by decide +kernel
theorem dX4_learn_90 : decode cX4_learn 90 = .ok (.iconst 1, 1) := by decide +kernel
theorem dX4_learn_91 : decode cX4_learn 91 = .ok (.ireturn, 1) := by decide +kernel
theorem dX4_listNodes_0 : decode cX4_listNodes 0 = .ok (.aload_n 0, 1) := by decide +kernel
theorem dX4_listNodes_1 : decode cX4_listNodes 1 = .ok (.iconst 0, 1) := by decide +kernel
theorem dX4_listNodes_2 : decode cX4_listNodes 2 = .ok (.putfield 49, 3) := by decide +kernel
theorem dX4_listNodes_5 : decode cX4_listNodes 5 = .ok (.iconst 0, 1) := by decide +kernel
theorem dX4_listNodes_6 : decode cX4_listNodes 6 = .ok (.istore_n 1, 1) := by decide +kernel
theorem dX4_listNodes_7 : decode cX4_listNodes 7 = .ok (.iload_n 1, 1) := by decide +kernel
theorem dX4_listNodes_8 : decode cX4_listNodes 8 = .ok (.aload_n 0, 1) := by decide +kernel
theorem dX4_listNodes_9 : decode cX4_listNodes 9 = .ok (.getfield 24, 3) := by decide +kernel
theorem dX4_listNodes_12 : decode cX4_listNodes 12 = .ok (.getfield 62, 3) := by decide +kernel
theorem dX4_listNodes_15 : decode cX4_listNodes 15 = .ok (.if_icmp .ge 91, 3) := by decide +kernel
theorem dX4_listNodes_18 : decode cX4_listNodes 18 = .ok (.aload_n 0, 1) := by decide +kernel
theorem dX4_listNodes_19 : decode cX4_listNodes 19 = .ok (.getfield 24, 3) := by decide +kernel
theorem dX4_listNodes_22 : decode cX4_listNodes 22 = .ok (.iload_n 1, 1) := by decide +kernel
theorem dX4_listNodes_23 : decode cX4_listNodes 23 = .ok (.invokevirtual 65, 3) := by decide +kernel
theorem dX4_listNodes_26 : decode cX4_listNodes 26 = .ok (.ifCond .eq 74, 3) := by decide +kernel
theorem dX4_listNodes_29 : decode cX4_listNodes 29 = .ok (.aload_n 0, 1) := by decide +kernel
theorem dX4_listNodes_30 : decode cX4_listNodes 30 = .ok (.getfield 49, 3) := by decide +kernel
theorem dX4_listNodes_33 : decode cX4_listNodes 33 = .ok (.bipush 8, 2) := by decide +kernel
theorem dX4_listNodes_35 : decode cX4_listNodes 35 = .ok (.if_icmp .ge 65, 3) := by decide +kernel
theorem dX4_listNodes_38 : decode cX4_listNodes 38 = .ok (.aload_n 0, 1) := by decide +kernel
theorem dX4_listNodes_39 : decode cX4_listNodes 39 = .ok (.getfield 9, 3) := by decide +kernel
theorem dX4_listNodes_42 : decode cX4_listNodes 42 = .ok (.aload_n 0, 1) := by decide +kernel
theorem dX4_listNodes_43 : decode cX4_listNodes 43 = .ok (.getfield 49, 3) := by decide +kernel
theorem dX4_listNodes_46 : decode cX4_listNodes 46 = .ok (.iload_n 1, 1) := by decide +kernel
theorem dX4_listNodes_47 : decode cX4_listNodes 47 = .ok (.iastore, 1) := by decide +kernel
theorem dX4_listNodes_48 : decode cX4_listNodes 48 = .ok (.iconst 0, 1) := by decide +kernel
theorem dX4_listNodes_49 : decode cX4_listNodes 49 = .ok (.istore_n 2, 1) := by decide +kernel
theorem dX4_listNodes_50 : decode cX4_listNodes 50 = .ok (.iload_n 2, 1) := by decide +kernel
theorem dX4_listNodes_51 : decode cX4_listNodes 51 = .ok (.aload_n 0, 1) := by decide +kernel
theorem dX4_listNodes_52 : decode cX4_listNodes 52 = .ok (.getfield 28, 3) := by decide +kernel
theorem dX4_listNodes_55 : decode cX4_listNodes 55 = .ok (.getfield 69, 3) := by decide +kernel
theorem dX4_listNodes_58 : decode cX4_listNodes 58 = .ok (.if_icmp .ge 32, 3) := by decide +kernel
theorem dX4_listNodes_61 : decode cX4_listNodes 61 = .ok (.aload_n 0, 1) := by decide +kernel
theorem dX4_listNodes_62 : decode cX4_listNodes 62 = .ok (.getfield 28, 3) := by decide +kernel
theorem dX4_listNodes_65 : decode cX4_listNodes 65 = .ok (.getfield 74, 3) := by decide +kernel
theorem dX4_listNodes_68 : decode cX4_listNodes 68 = .ok (.iload_n 2, 1) := by decide +kernel
theorem dX4_listNodes_69 : decode cX4_listNodes 69 = .ok (.iaload, 1) := by decide +kernel
theorem dX4_listNodes_70 : decode cX4_listNodes 70 = .ok (.iload_n 1, 1) := by decide +kernel
theorem dX4_listNodes_71 : decode cX4_listNodes 71 = .ok (.if_icmp .ne 13, 3) := by decide +kernel
theorem dX4_listNodes_74 : decode cX4_listNodes 74 = .ok (.aload_n 0, 1) := by decide +kernel
theorem dX4_listNodes_75 : decode cX4_listNodes 75 = .ok (.getfield 15, 3) := by decide +kernel
theorem dX4_listNodes_78 : decode cX4_listNodes 78 = .ok (.iload_n 2, 1) := by decide +kernel
theorem dX4_listNodes_79 : decode cX4_listNodes 79 = .ok (.aload_n 0, 1) := by decide +kernel
theorem dX4_listNodes_80 : decode cX4_listNodes 80 = .ok (.getfield 49, 3) := by decide +kernel
theorem dX4_listNodes_83 : decode cX4_listNodes 83 = .ok (.iastore, 1) := by decide +kernel
theorem dX4_listNodes_84 : decode cX4_listNodes 84 = .ok (.iinc 2 1, 3) := by decide +kernel
theorem dX4_listNodes_87 : decode cX4_listNodes 87 = .ok (.goto (-37), 3) := by decide +kernel
theorem dX4_listNodes_90 : decode cX4_listNodes 90 = .ok (.aload_n 0, 1) := by decide +kernel
theorem dX4_listNodes_91 : decode cX4_listNodes 91 = .ok (.dup, 1) := by decide +kernel
theorem dX4_listNodes_92 : decode cX4_listNodes 92 = .ok (.getfield 49, 3) := by decide +kernel
theorem dX4_listNodes_95 : decode cX4_listNodes 95 = .ok (.iconst 1, 1) := by decide +kernel
theorem dX4_listNodes_96 : decode cX4_listNodes 96 = .ok (.iadd, 1) := by decide +kernel
theorem dX4_listNodes_97 : decode cX4_listNodes 97 = .ok (.putfield 49, 3) := by decide +kernel
theorem dX4_listNodes_100 : decode cX4_listNodes 100 = .ok (.iinc 1 1, 3) := by decide +kernel
theorem dX4_listNodes_103 : decode cX4_listNodes 103 = .ok (.goto (-96), 3) := by decide +kernel
theorem dX4_listNodes_106 : decode cX4_listNodes 106 = .ok (.return_, 1) := by decide +kernel
theorem dX4_passes_0 : decode cX4_passes 0 = .ok (.iconst 0, 1) := by decide +kernel
theorem dX4_passes_1 : decode cX4_passes 1 = .ok (.istore_n 2, 1) := by decide +kernel
theorem dX4_passes_2 : decode cX4_passes 2 = .ok (.iconst 1, 1) := by decide +kernel
theorem dX4_passes_3 : decode cX4_passes 3 = .ok (.istore_n 3, 1) := by decide +kernel
theorem dX4_passes_4 : decode cX4_passes 4 = .ok (.iload_n 3, 1) := by decide +kernel
theorem dX4_passes_5 : decode cX4_passes 5 = .ok (.aload_n 0, 1) := by decide +kernel
theorem dX4_passes_6 : decode cX4_passes 6 = .ok (.getfield 28, 3) := by decide +kernel
theorem dX4_passes_9 : decode cX4_passes 9 = .ok (.getfield 69, 3) := by decide +kernel
theorem dX4_passes_12 : decode cX4_passes 12 = .ok (.if_icmp .ge 33, 3) := by decide +kernel
theorem dX4_passes_15 : decode cX4_passes 15 = .ok (.iload_n 2, 1) := by decide +kernel
theorem dX4_passes_16 : decode cX4_passes 16 = .ok (.iload_n 1, 1) := by decide +kernel
theorem dX4_passes_17 : decode cX4_passes 17 = .ok (.aload_n 0, 1) := by decide +kernel
theorem dX4_passes_18 : decode cX4_passes 18 = .ok (.getfield 15, 3) := by decide +kernel
theorem dX4_passes_21 : decode cX4_passes 21 = .ok (.iload_n 3, 1) := by decide +kernel
theorem dX4_passes_22 : decode cX4_passes 22 = .ok (.iaload, 1) := by decide +kernel
theorem dX4_passes_23 : decode cX4_passes 23 = .ok (.ishr, 1) := by decide +kernel
theorem dX4_passes_24 : decode cX4_passes 24 = .ok (.iload_n 1, 1) := by decide +kernel
theorem dX4_passes_25 : decode cX4_passes 25 = .ok (.aload_n 0, 1) := by decide +kernel
theorem dX4_passes_26 : decode cX4_passes 26 = .ok (.getfield 15, 3) := by decide +kernel
theorem dX4_passes_29 : decode cX4_passes 29 = .ok (.iload_n 3, 1) := by decide +kernel
theorem dX4_passes_30 : decode cX4_passes 30 = .ok (.iconst 1, 1) := by decide +kernel
theorem dX4_passes_31 : decode cX4_passes 31 = .ok (.isub, 1) := by decide +kernel
theorem dX4_passes_32 : decode cX4_passes 32 = .ok (.iaload, 1) := by decide +kernel
theorem dX4_passes_33 : decode cX4_passes 33 = .ok (.ishr, 1) := by decide +kernel
theorem dX4_passes_34 : decode cX4_passes 34 = .ok (.ixor, 1) := by decide +kernel
theorem dX4_passes_35 : decode cX4_passes 35 = .ok (.iconst 1, 1) := by decide +kernel
theorem dX4_passes_36 : decode cX4_passes 36 = .ok (.iand, 1) := by decide +kernel
theorem dX4_passes_37 : decode cX4_passes 37 = .ok (.iadd, 1) := by decide +kernel
theorem dX4_passes_38 : decode cX4_passes 38 = .ok (.istore_n 2, 1) := by decide +kernel
theorem dX4_passes_39 : decode cX4_passes 39 = .ok (.iinc 3 1, 3) := by decide +kernel
theorem dX4_passes_42 : decode cX4_passes 42 = .ok (.goto (-38), 3) := by decide +kernel
theorem dX4_passes_45 : decode cX4_passes 45 = .ok (.iload_n 2, 1) := by decide +kernel
theorem dX4_passes_46 : decode cX4_passes 46 = .ok (.ireturn, 1) := by decide +kernel
theorem dX4_nextOf_0 : decode cX4_nextOf 0 = .ok (.iconst (-1), 1) := by decide +kernel
theorem dX4_nextOf_1 : decode cX4_nextOf 1 = .ok (.istore_n 2, 1) := by decide +kernel
theorem dX4_nextOf_2 : decode cX4_nextOf 2 = .ok (.iconst 0, 1) := by decide +kernel
theorem dX4_nextOf_3 : decode cX4_nextOf 3 = .ok (.istore_n 3, 1) := by decide +kernel
theorem dX4_nextOf_4 : decode cX4_nextOf 4 = .ok (.iload_n 3, 1) := by decide +kernel
theorem dX4_nextOf_5 : decode cX4_nextOf 5 = .ok (.aload_n 0, 1) := by decide +kernel
theorem dX4_nextOf_6 : decode cX4_nextOf 6 = .ok (.getfield 49, 3) := by decide +kernel
theorem dX4_nextOf_9 : decode cX4_nextOf 9 = .ok (.if_icmp .ge 59, 3) := by decide +kernel
theorem dX4_nextOf_12 : decode cX4_nextOf 12 = .ok (.iload_n 1, 1) := by decide +kernel
theorem dX4_nextOf_13 : decode cX4_nextOf 13 = .ok (.iload_n 3, 1) := by decide +kernel
theorem dX4_nextOf_14 : decode cX4_nextOf 14 = .ok (.ishr, 1) := by decide +kernel
theorem dX4_nextOf_15 : decode cX4_nextOf 15 = .ok (.iconst 1, 1) := by decide +kernel
theorem dX4_nextOf_16 : decode cX4_nextOf 16 = .ok (.iand, 1) := by decide +kernel
theorem dX4_nextOf_17 : decode cX4_nextOf 17 = .ok (.ifCond .ne 7, 3) := by decide +kernel
theorem dX4_nextOf_20 : decode cX4_nextOf 20 = .ok (.iconst 1, 1) := by decide +kernel
theorem dX4_nextOf_21 : decode cX4_nextOf 21 = .ok (.goto 4, 3) := by decide +kernel
theorem dX4_nextOf_24 : decode cX4_nextOf 24 = .ok (.iconst 0, 1) := by decide +kernel
theorem dX4_nextOf_25 : decode cX4_nextOf 25 = .ok (.istore 4, 2) := by decide +kernel
theorem dX4_nextOf_27 : decode cX4_nextOf 27 = .ok (.iload 4, 2) := by decide +kernel
theorem dX4_nextOf_29 : decode cX4_nextOf 29 = .ok (.ifCond .eq 33, 3) := by decide +kernel
theorem dX4_nextOf_32 : decode cX4_nextOf 32 = .ok (.iload_n 2, 1) := by decide +kernel
theorem dX4_nextOf_33 : decode cX4_nextOf 33 = .ok (.iconst (-1), 1) := by decide +kernel
theorem dX4_nextOf_34 : decode cX4_nextOf 34 = .ok (.if_icmp .eq 26, 3) := by decide +kernel
theorem dX4_nextOf_37 : decode cX4_nextOf 37 = .ok (.aload_n 0, 1) := by decide +kernel
theorem dX4_nextOf_38 : decode cX4_nextOf 38 = .ok (.getfield 18, 3) := by decide +kernel
theorem dX4_nextOf_41 : decode cX4_nextOf 41 = .ok (.iload_n 1, 1) := by decide +kernel
theorem dX4_nextOf_42 : decode cX4_nextOf 42 = .ok (.iconst 1, 1) := by decide +kernel
theorem dX4_nextOf_43 : decode cX4_nextOf 43 = .ok (.iload_n 3, 1) := by decide +kernel
theorem dX4_nextOf_44 : decode cX4_nextOf 44 = .ok (.ishl, 1) := by decide +kernel
theorem dX4_nextOf_45 : decode cX4_nextOf 45 = .ok (.ior, 1) := by decide +kernel
theorem dX4_nextOf_46 : decode cX4_nextOf 46 = .ok (.iaload, 1) := by decide +kernel
theorem dX4_nextOf_47 : decode cX4_nextOf 47 = .ok (.aload_n 0, 1) := by decide +kernel
theorem dX4_nextOf_48 : decode cX4_nextOf 48 = .ok (.getfield 18, 3) := by decide +kernel
theorem dX4_nextOf_51 : decode cX4_nextOf 51 = .ok (.iload_n 1, 1) := by decide +kernel
theorem dX4_nextOf_52 : decode cX4_nextOf 52 = .ok (.iconst 1, 1) := by decide +kernel
theorem dX4_nextOf_53 : decode cX4_nextOf 53 = .ok (.iload_n 2, 1) := by decide +kernel
theorem dX4_nextOf_54 : decode cX4_nextOf 54 = .ok (.ishl, 1) := by decide +kernel
theorem dX4_nextOf_55 : decode cX4_nextOf 55 = .ok (.ior, 1) := by decide +kernel
theorem dX4_nextOf_56 : decode cX4_nextOf 56 = .ok (.iaload, 1) := by decide +kernel
theorem dX4_nextOf_57 : decode cX4_nextOf 57 = .ok (.if_icmp .ge 5, 3) := by decide +kernel
theorem dX4_nextOf_60 : decode cX4_nextOf 60 = .ok (.iload_n 3, 1) := by decide +kernel
theorem dX4_nextOf_61 : decode cX4_nextOf 61 = .ok (.istore_n 2, 1) := by decide +kernel
theorem dX4_nextOf_62 : decode cX4_nextOf 62 = .ok (.iinc 3 1, 3) := by decide +kernel
theorem dX4_nextOf_65 : decode cX4_nextOf 65 = .ok (.goto (-61), 3) := by decide +kernel
theorem dX4_nextOf_68 : decode cX4_nextOf 68 = .ok (.iconst 0, 1) := by decide +kernel
theorem dX4_nextOf_69 : decode cX4_nextOf 69 = .ok (.iload_n 2, 1) := by decide +kernel
theorem dX4_nextOf_70 : decode cX4_nextOf 70 = .ok (.invokestatic 77, 3) := by decide +kernel
theorem dX4_nextOf_73 : decode cX4_nextOf 73 = .ok (.ireturn, 1) := by decide +kernel
theorem dX4_follow_0 : decode cX4_follow 0 = .ok (.iconst 0, 1) := by decide +kernel
theorem dX4_follow_1 : decode cX4_follow 1 = .ok (.istore_n 1, 1) := by decide +kernel
theorem dX4_follow_2 : decode cX4_follow 2 = .ok (.iconst 0, 1) := by decide +kernel
theorem dX4_follow_3 : decode cX4_follow 3 = .ok (.istore_n 2, 1) := by decide +kernel
theorem dX4_follow_4 : decode cX4_follow 4 = .ok (.iload_n 2, 1) := by decide +kernel
theorem dX4_follow_5 : decode cX4_follow 5 = .ok (.aload_n 0, 1) := by decide +kernel
theorem dX4_follow_6 : decode cX4_follow 6 = .ok (.getfield 49, 3) := by decide +kernel
theorem dX4_follow_9 : decode cX4_follow 9 = .ok (.if_icmp .ge 33, 3) := by decide +kernel
theorem dX4_follow_12 : decode cX4_follow 12 = .ok (.aload_n 0, 1) := by decide +kernel
theorem dX4_follow_13 : decode cX4_follow 13 = .ok (.iload_n 1, 1) := by decide +kernel
theorem dX4_follow_14 : decode cX4_follow 14 = .ok (.invokevirtual 56, 3) := by decide +kernel
theorem dX4_follow_17 : decode cX4_follow 17 = .ok (.istore_n 3, 1) := by decide +kernel
theorem dX4_follow_18 : decode cX4_follow 18 = .ok (.aload_n 0, 1) := by decide +kernel
theorem dX4_follow_19 : decode cX4_follow 19 = .ok (.getfield 21, 3) := by decide +kernel
theorem dX4_follow_22 : decode cX4_follow 22 = .ok (.iload_n 2, 1) := by decide +kernel
theorem dX4_follow_23 : decode cX4_follow 23 = .ok (.aload_n 0, 1) := by decide +kernel
theorem dX4_follow_24 : decode cX4_follow 24 = .ok (.getfield 9, 3) := by decide +kernel
theorem dX4_follow_27 : decode cX4_follow 27 = .ok (.iload_n 3, 1) := by decide +kernel
theorem dX4_follow_28 : decode cX4_follow 28 = .ok (.iaload, 1) := by decide +kernel
theorem dX4_follow_29 : decode cX4_follow 29 = .ok (.iastore, 1) := by decide +kernel
theorem dX4_follow_30 : decode cX4_follow 30 = .ok (.iload_n 1, 1) := by decide +kernel
theorem dX4_follow_31 : decode cX4_follow 31 = .ok (.iconst 1, 1) := by decide +kernel
theorem dX4_follow_32 : decode cX4_follow 32 = .ok (.iload_n 3, 1) := by decide +kernel
theorem dX4_follow_33 : decode cX4_follow 33 = .ok (.ishl, 1) := by decide +kernel
theorem dX4_follow_34 : decode cX4_follow 34 = .ok (.ior, 1) := by decide +kernel
theorem dX4_follow_35 : decode cX4_follow 35 = .ok (.istore_n 1, 1) := by decide +kernel
theorem dX4_follow_36 : decode cX4_follow 36 = .ok (.iinc 2 1, 3) := by decide +kernel
theorem dX4_follow_39 : decode cX4_follow 39 = .ok (.goto (-35), 3) := by decide +kernel
theorem dX4_follow_42 : decode cX4_follow 42 = .ok (.return_, 1) := by decide +kernel
theorem dX5_init_0 : decode cX5_init 0 = .ok (.aload_n 0, 1) := by decide +kernel
theorem dX5_init_1 : decode cX5_init 1 = .ok (.invokespecial 3, 3) := by decide +kernel
theorem dX5_init_4 : decode cX5_init 4 = .ok (.aload_n 0, 1) := by decide +kernel
theorem dX5_init_5 : decode cX5_init 5 = .ok (.bipush 24, 2) := by decide +kernel
theorem dX5_init_7 : decode cX5_init 7 = .ok (.newarray .int, 2) := by decide +kernel
theorem dX5_init_9 : decode cX5_init 9 = .ok (.putfield 9, 3) := by decide +kernel
theorem dX5_init_12 : decode cX5_init 12 = .ok (.aload_n 0, 1) := by decide +kernel
theorem dX5_init_13 : decode cX5_init 13 = .ok (.bipush 24, 2) := by decide +kernel
theorem dX5_init_15 : decode cX5_init 15 = .ok (.newarray .int, 2) := by decide +kernel
theorem dX5_init_17 : decode cX5_init 17 = .ok (.putfield 15, 3) := by decide +kernel
theorem dX5_init_20 : decode cX5_init 20 = .ok (.aload_n 0, 1) := by decide +kernel
theorem dX5_init_21 : decode cX5_init 21 = .ok (.bipush 24, 2) := by decide +kernel
theorem dX5_init_23 : decode cX5_init 23 = .ok (.newarray .int, 2) := by decide +kernel
theorem dX5_init_25 : decode cX5_init 25 = .ok (.putfield 18, 3) := by decide +kernel
theorem dX5_init_28 : decode cX5_init 28 = .ok (.aload_n 0, 1) := by decide +kernel
theorem dX5_init_29 : decode cX5_init 29 = .ok (.bipush 24, 2) := by decide +kernel
theorem dX5_init_31 : decode cX5_init 31 = .ok (.newarray .int, 2) := by decide +kernel
theorem dX5_init_33 : decode cX5_init 33 = .ok (.putfield 21, 3) := by decide +kernel
theorem dX5_init_36 : decode cX5_init 36 = .ok (.aload_n 0, 1) := by decide +kernel
theorem dX5_init_37 : decode cX5_init 37 = .ok (.bipush 24, 2) := by decide +kernel
theorem dX5_init_39 : decode cX5_init 39 = .ok (.newarray .int, 2) := by decide +kernel
theorem dX5_init_41 : decode cX5_init 41 = .ok (.putfield 24, 3) := by decide +kernel
theorem dX5_init_44 : decode cX5_init 44 = .ok (.return_, 1) := by decide +kernel
theorem dX5_copy_0 : decode cX5_copy 0 = .ok (.aload_n 0, 1) := by decide +kernel
theorem dX5_copy_1 : decode cX5_copy 1 = .ok (.aload_n 1, 1) := by decide +kernel
theorem dX5_copy_2 : decode cX5_copy 2 = .ok (.getfield 27, 3) := by decide +kernel
theorem dX5_copy_5 : decode cX5_copy 5 = .ok (.putfield 27, 3) := by decide +kernel
theorem dX5_copy_8 : decode cX5_copy 8 = .ok (.aload_n 1, 1) := by decide +kernel
theorem dX5_copy_9 : decode cX5_copy 9 = .ok (.getfield 9, 3) := by decide +kernel
theorem dX5_copy_12 : decode cX5_copy 12 = .ok (.iconst 0, 1) := by decide +kernel
theorem dX5_copy_13 : decode cX5_copy 13 = .ok (.aload_n 0, 1) := by decide +kernel
theorem dX5_copy_14 : decode cX5_copy 14 = .ok (.getfield 9, 3) := by decide +kernel
theorem dX5_copy_17 : decode cX5_copy 17 = .ok (.iconst 0, 1) := by decide +kernel
theorem dX5_copy_18 : decode cX5_copy 18 = .ok (.bipush 24, 2) := by decide +kernel
theorem dX5_copy_20 : decode cX5_copy 20 = .ok (.invokestatic 31, 3) := by decide +kernel
theorem dX5_copy_23 : decode cX5_copy 23 = .ok (.aload_n 1, 1) := by decide +kernel
theorem dX5_copy_24 : decode cX5_copy 24 = .ok (.getfield 15, 3) := by decide +kernel
theorem dX5_copy_27 : decode cX5_copy 27 = .ok (.iconst 0, 1) := by decide +kernel
theorem dX5_copy_28 : decode cX5_copy 28 = .ok (.aload_n 0, 1) := by decide +kernel
theorem dX5_copy_29 : decode cX5_copy 29 = .ok (.getfield 15, 3) := by decide +kernel
theorem dX5_copy_32 : decode cX5_copy 32 = .ok (.iconst 0, 1) := by decide +kernel
theorem dX5_copy_33 : decode cX5_copy 33 = .ok (.bipush 24, 2) := by decide +kernel
theorem dX5_copy_35 : decode cX5_copy 35 = .ok (.invokestatic 31, 3) := by decide +kernel
theorem dX5_copy_38 : decode cX5_copy 38 = .ok (.aload_n 1, 1) := by decide +kernel
theorem dX5_copy_39 : decode cX5_copy 39 = .ok (.getfield 18, 3) := by decide +kernel
theorem dX5_copy_42 : decode cX5_copy 42 = .ok (.iconst 0, 1) := by decide +kernel
theorem dX5_copy_43 : decode cX5_copy 43 = .ok (.aload_n 0, 1) := by decide +kernel
theorem dX5_copy_44 : decode cX5_copy 44 = .ok (.getfield 18, 3) := by decide +kernel
theorem dX5_copy_47 : decode cX5_copy 47 = .ok (.iconst 0, 1) := by decide +kernel
theorem dX5_copy_48 : decode cX5_copy 48 = .ok (.bipush 24, 2) := by decide +kernel
theorem dX5_copy_50 : decode cX5_copy 50 = .ok (.invokestatic 31, 3) := by decide +kernel
theorem dX5_copy_53 : decode cX5_copy 53 = .ok (.aload_n 1, 1) := by decide +kernel
theorem dX5_copy_54 : decode cX5_copy 54 = .ok (.getfield 21, 3) := by decide +kernel
theorem dX5_copy_57 : decode cX5_copy 57 = .ok (.iconst 0, 1) := by decide +kernel
theorem dX5_copy_58 : decode cX5_copy 58 = .ok (.aload_n 0, 1) := by decide +kernel
theorem dX5_copy_59 : decode cX5_copy 59 = .ok (.getfield 21, 3) := by decide +kernel
theorem dX5_copy_62 : decode cX5_copy 62 = .ok (.iconst 0, 1) := by decide +kernel
theorem dX5_copy_63 : decode cX5_copy 63 = .ok (.bipush 24, 2) := by decide +kernel
theorem dX5_copy_65 : decode cX5_copy 65 = .ok (.invokestatic 31, 3) := by decide +kernel
theorem dX5_copy_68 : decode cX5_copy 68 = .ok (.aload_n 1, 1) := by decide +kernel
theorem dX5_copy_69 : decode cX5_copy 69 = .ok (.getfield 24, 3) := by decide +kernel
theorem dX5_copy_72 : decode cX5_copy 72 = .ok (.iconst 0, 1) := by decide +kernel
theorem dX5_copy_73 : decode cX5_copy 73 = .ok (.aload_n 0, 1) := by decide +kernel
theorem dX5_copy_74 : decode cX5_copy 74 = .ok (.getfield 24, 3) := by decide +kernel
theorem dX5_copy_77 : decode cX5_copy 77 = .ok (.iconst 0, 1) := by decide +kernel
theorem dX5_copy_78 : decode cX5_copy 78 = .ok (.bipush 24, 2) := by decide +kernel
theorem dX5_copy_80 : decode cX5_copy 80 = .ok (.invokestatic 31, 3) := by decide +kernel
theorem dX5_copy_83 : decode cX5_copy 83 = .ok (.return_, 1) := by decide +kernel
theorem dX5_has_0 : decode cX5_has 0 = .ok (.iload_n 1, 1) := by decide +kernel
theorem dX5_has_1 : decode cX5_has 1 = .ok (.ifCond .lt 15, 3) := by decide +kernel
theorem dX5_has_4 : decode cX5_has 4 = .ok (.iload_n 1, 1) := by decide +kernel
theorem dX5_has_5 : decode cX5_has 5 = .ok (.aload_n 0, 1) := by decide +kernel
theorem dX5_has_6 : decode cX5_has 6 = .ok (.getfield 27, 3) := by decide +kernel
theorem dX5_has_9 : decode cX5_has 9 = .ok (.if_icmp .ge 7, 3) := by decide +kernel
theorem dX5_has_12 : decode cX5_has 12 = .ok (.iconst 1, 1) := by decide +kernel
theorem dX5_has_13 : decode cX5_has 13 = .ok (.goto 4, 3) := by decide +kernel
theorem dX5_has_16 : decode cX5_has 16 = .ok (.iconst 0, 1) := by decide +kernel
theorem dX5_has_17 : decode cX5_has 17 = .ok (.ireturn, 1) := by decide +kernel
theorem dX5_takes_0 : decode cX5_takes 0 = .ok (.aload_n 0, 1) := by decide +kernel
theorem dX5_takes_1 : decode cX5_takes 1 = .ok (.getfield 27, 3) := by decide +kernel
theorem dX5_takes_4 : decode cX5_takes 4 = .ok (.bipush 24, 2) := by decide +kernel
theorem dX5_takes_6 : decode cX5_takes 6 = .ok (.if_icmp .ge 33, 3) := by decide +kernel
theorem dX5_takes_9 : decode cX5_takes 9 = .ok (.iload_n 1, 1) := by decide +kernel
theorem dX5_takes_10 : decode cX5_takes 10 = .ok (.aload_n 0, 1) := by decide +kernel
theorem dX5_takes_11 : decode cX5_takes 11 = .ok (.getfield 27, 3) := by decide +kernel
theorem dX5_takes_14 : decode cX5_takes 14 = .ok (.ifCond .ne 7, 3) := by decide +kernel
theorem dX5_takes_17 : decode cX5_takes 17 = .ok (.iconst 0, 1) := by decide +kernel
theorem dX5_takes_18 : decode cX5_takes 18 = .ok (.goto 14, 3) := by decide +kernel
theorem dX5_takes_21 : decode cX5_takes 21 = .ok (.aload_n 0, 1) := by decide +kernel
theorem dX5_takes_22 : decode cX5_takes 22 = .ok (.getfield 15, 3) := by decide +kernel
theorem dX5_takes_25 : decode cX5_takes 25 = .ok (.aload_n 0, 1) := by decide +kernel
theorem dX5_takes_26 : decode cX5_takes 26 = .ok (.getfield 27, 3) := by decide +kernel
theorem dX5_takes_29 : decode cX5_takes 29 = .ok (.iconst 1, 1) := by decide +kernel
theorem dX5_takes_30 : decode cX5_takes 30 = .ok (.isub, 1) := by decide +kernel
theorem dX5_takes_31 : decode cX5_takes 31 = .ok (.iaload, 1) := by decide +kernel
theorem dX5_takes_32 : decode cX5_takes 32 = .ok (.if_icmp .lt 7, 3) := by decide +kernel
theorem dX5_takes_35 : decode cX5_takes 35 = .ok (.iconst 1, 1) := by decide +kernel
theorem dX5_takes_36 : decode cX5_takes 36 = .ok (.goto 4, 3) := by decide +kernel
theorem dX5_takes_39 : decode cX5_takes 39 = .ok (.iconst 0, 1) := by decide +kernel
theorem dX5_takes_40 : decode cX5_takes 40 = .ok (.istore_n 3, 1) := by decide +kernel
theorem dX5_takes_41 : decode cX5_takes 41 = .ok (.iload_n 3, 1) := by decide +kernel
theorem dX5_takes_42 : decode cX5_takes 42 = .ok (.ifCond .eq 34, 3) := by decide +kernel
theorem dX5_takes_45 : decode cX5_takes 45 = .ok (.iload_n 1, 1) := by decide +kernel
theorem dX5_takes_46 : decode cX5_takes 46 = .ok (.sipush 200, 3) := by decide +kernel
theorem dX5_takes_49 : decode cX5_takes 49 = .ok (.if_icmp .ge 27, 3) := by decide +kernel
theorem dX5_takes_52 : decode cX5_takes 52 = .ok (.iload_n 2, 1) := by decide +kernel
theorem dX5_takes_53 : decode cX5_takes 53 = .ok (.iconst 1, 1) := by decide +kernel
theorem dX5_takes_54 : decode cX5_takes 54 = .ok (.if_icmp .lt 22, 3) := by decide +kernel
theorem dX5_takes_57 : decode cX5_takes 57 = .ok (.iload_n 2, 1) := by decide +kernel
theorem dX5_takes_58 : decode cX5_takes 58 = .ok (.bipush 40, 2) := by decide +kernel
theorem dX5_takes_60 : decode cX5_takes 60 = .ok (.if_icmp .gt 16, 3) := by decide +kernel
theorem dX5_takes_63 : decode cX5_takes 63 = .ok (.iload_n 1, 1) := by decide +kernel
theorem dX5_takes_64 : decode cX5_takes 64 = .ok (.iload_n 2, 1) := by decide +kernel
theorem dX5_takes_65 : decode cX5_takes 65 = .ok (.iadd, 1) := by decide +kernel
theorem dX5_takes_66 : decode cX5_takes 66 = .ok (.sipush 200, 3) := by decide +kernel
theorem dX5_takes_69 : decode cX5_takes 69 = .ok (.if_icmp .gt 7, 3) := by decide +kernel
theorem dX5_takes_72 : decode cX5_takes 72 = .ok (.iconst 1, 1) := by decide +kernel
theorem dX5_takes_73 : decode cX5_takes 73 = .ok (.goto 4, 3) := by decide +kernel
theorem dX5_takes_76 : decode cX5_takes 76 = .ok (.iconst 0, 1) := by decide +kernel
theorem dX5_takes_77 : decode cX5_takes 77 = .ok (.ireturn, 1) := by decide +kernel
theorem dX5_add_0 : decode cX5_add 0 = .ok (.aload_n 0, 1) := by decide +kernel
theorem dX5_add_1 : decode cX5_add 1 = .ok (.getfield 9, 3) := by decide +kernel
theorem dX5_add_4 : decode cX5_add 4 = .ok (.aload_n 0, 1) := by decide +kernel
theorem dX5_add_5 : decode cX5_add 5 = .ok (.getfield 27, 3) := by decide +kernel
theorem dX5_add_8 : decode cX5_add 8 = .ok (.iload_n 1, 1) := by decide +kernel
theorem dX5_add_9 : decode cX5_add 9 = .ok (.iastore, 1) := by decide +kernel
theorem dX5_add_10 : decode cX5_add 10 = .ok (.aload_n 0, 1) := by decide +kernel
theorem dX5_add_11 : decode cX5_add 11 = .ok (.getfield 15, 3) := by decide +kernel
theorem dX5_add_14 : decode cX5_add 14 = .ok (.aload_n 0, 1) := by decide +kernel
theorem dX5_add_15 : decode cX5_add 15 = .ok (.getfield 27, 3) := by decide +kernel
theorem dX5_add_18 : decode cX5_add 18 = .ok (.iload_n 2, 1) := by decide +kernel
theorem dX5_add_19 : decode cX5_add 19 = .ok (.iastore, 1) := by decide +kernel
theorem dX5_add_20 : decode cX5_add 20 = .ok (.aload_n 0, 1) := by decide +kernel
theorem dX5_add_21 : decode cX5_add 21 = .ok (.getfield 18, 3) := by decide +kernel
theorem dX5_add_24 : decode cX5_add 24 = .ok (.aload_n 0, 1) := by decide +kernel
theorem dX5_add_25 : decode cX5_add 25 = .ok (.getfield 27, 3) := by decide +kernel
theorem dX5_add_28 : decode cX5_add 28 = .ok (.iload_n 3, 1) := by decide +kernel
theorem dX5_add_29 : decode cX5_add 29 = .ok (.iastore, 1) := by decide +kernel
theorem dX5_add_30 : decode cX5_add 30 = .ok (.aload_n 0, 1) := by decide +kernel
theorem dX5_add_31 : decode cX5_add 31 = .ok (.getfield 21, 3) := by decide +kernel
theorem dX5_add_34 : decode cX5_add 34 = .ok (.aload_n 0, 1) := by decide +kernel
theorem dX5_add_35 : decode cX5_add 35 = .ok (.getfield 27, 3) := by decide +kernel
theorem dX5_add_38 : decode cX5_add 38 = .ok (.iload 4, 2) := by decide +kernel
theorem dX5_add_40 : decode cX5_add 40 = .ok (.iastore, 1) := by decide +kernel
theorem dX5_add_41 : decode cX5_add 41 = .ok (.aload_n 0, 1) := by decide +kernel
theorem dX5_add_42 : decode cX5_add 42 = .ok (.getfield 24, 3) := by decide +kernel
theorem dX5_add_45 : decode cX5_add 45 = .ok (.aload_n 0, 1) := by decide +kernel
theorem dX5_add_46 : decode cX5_add 46 = .ok (.getfield 27, 3) := by decide +kernel
theorem dX5_add_49 : decode cX5_add 49 = .ok (.iload 5, 2) := by decide +kernel
theorem dX5_add_51 : decode cX5_add 51 = .ok (.iastore, 1) := by decide +kernel
theorem dX5_add_52 : decode cX5_add 52 = .ok (.aload_n 0, 1) := by decide +kernel
theorem dX5_add_53 : decode cX5_add 53 = .ok (.dup, 1) := by decide +kernel
theorem dX5_add_54 : decode cX5_add 54 = .ok (.getfield 27, 3) := by decide +kernel
theorem dX5_add_57 : decode cX5_add 57 = .ok (.iconst 1, 1) := by decide +kernel
theorem dX5_add_58 : decode cX5_add 58 = .ok (.iadd, 1) := by decide +kernel
theorem dX5_add_59 : decode cX5_add 59 = .ok (.putfield 27, 3) := by decide +kernel
theorem dX5_add_62 : decode cX5_add 62 = .ok (.return_, 1) := by decide +kernel
theorem dX5_rename_0 : decode cX5_rename 0 = .ok (.iconst 0, 1) := by decide +kernel
theorem dX5_rename_1 : decode cX5_rename 1 = .ok (.istore_n 3, 1) := by decide +kernel
theorem dX5_rename_2 : decode cX5_rename 2 = .ok (.iload_n 3, 1) := by decide +kernel
theorem dX5_rename_3 : decode cX5_rename 3 = .ok (.aload_n 0, 1) := by decide +kernel
theorem dX5_rename_4 : decode cX5_rename 4 = .ok (.getfield 27, 3) := by decide +kernel
theorem dX5_rename_7 : decode cX5_rename 7 = .ok (.if_icmp .ge 26, 3) := by decide +kernel
theorem dX5_rename_10 : decode cX5_rename 10 = .ok (.aload_n 0, 1) := by decide +kernel
theorem dX5_rename_11 : decode cX5_rename 11 = .ok (.getfield 9, 3) := by decide +kernel
theorem dX5_rename_14 : decode cX5_rename 14 = .ok (.iload_n 3, 1) := by decide +kernel
theorem dX5_rename_15 : decode cX5_rename 15 = .ok (.iaload, 1) := by decide +kernel
theorem dX5_rename_16 : decode cX5_rename 16 = .ok (.iload_n 1, 1) := by decide +kernel
theorem dX5_rename_17 : decode cX5_rename 17 = .ok (.if_icmp .ne 10, 3) := by decide +kernel
theorem dX5_rename_20 : decode cX5_rename 20 = .ok (.aload_n 0, 1) := by decide +kernel
theorem dX5_rename_21 : decode cX5_rename 21 = .ok (.getfield 9, 3) := by decide +kernel
theorem dX5_rename_24 : decode cX5_rename 24 = .ok (.iload_n 3, 1) := by decide +kernel
theorem dX5_rename_25 : decode cX5_rename 25 = .ok (.iload_n 2, 1) := by decide +kernel
theorem dX5_rename_26 : decode cX5_rename 26 = .ok (.iastore, 1) := by decide +kernel
theorem dX5_rename_27 : decode cX5_rename 27 = .ok (.iinc 3 1, 3) := by decide +kernel
theorem dX5_rename_30 : decode cX5_rename 30 = .ok (.goto (-28), 3) := by decide +kernel
theorem dX5_rename_33 : decode cX5_rename 33 = .ok (.return_, 1) := by decide +kernel
theorem dX5_endOf_0 : decode cX5_endOf 0 = .ok (.aload_n 0, 1) := by decide +kernel
theorem dX5_endOf_1 : decode cX5_endOf 1 = .ok (.getfield 15, 3) := by decide +kernel
theorem dX5_endOf_4 : decode cX5_endOf 4 = .ok (.iload_n 1, 1) := by decide +kernel
theorem dX5_endOf_5 : decode cX5_endOf 5 = .ok (.iaload, 1) := by decide +kernel
theorem dX5_endOf_6 : decode cX5_endOf 6 = .ok (.aload_n 0, 1) := by decide +kernel
theorem dX5_endOf_7 : decode cX5_endOf 7 = .ok (.getfield 18, 3) := by decide +kernel
theorem dX5_endOf_10 : decode cX5_endOf 10 = .ok (.iload_n 1, 1) := by decide +kernel
theorem dX5_endOf_11 : decode cX5_endOf 11 = .ok (.iaload, 1) := by decide +kernel
theorem dX5_endOf_12 : decode cX5_endOf 12 = .ok (.iadd, 1) := by decide +kernel
theorem dX5_endOf_13 : decode cX5_endOf 13 = .ok (.ireturn, 1) := by decide +kernel
theorem dX5_lasts_0 : decode cX5_lasts 0 = .ok (.aload_n 0, 1) := by decide +kernel
theorem dX5_lasts_1 : decode cX5_lasts 1 = .ok (.iload_n 1, 1) := by decide +kernel
theorem dX5_lasts_2 : decode cX5_lasts 2 = .ok (.invokevirtual 37, 3) := by decide +kernel
theorem dX5_lasts_5 : decode cX5_lasts 5 = .ok (.ifCond .eq 26, 3) := by decide +kernel
theorem dX5_lasts_8 : decode cX5_lasts 8 = .ok (.iload_n 2, 1) := by decide +kernel
theorem dX5_lasts_9 : decode cX5_lasts 9 = .ok (.aload_n 0, 1) := by decide +kernel
theorem dX5_lasts_10 : decode cX5_lasts 10 = .ok (.getfield 15, 3) := by decide +kernel
theorem dX5_lasts_13 : decode cX5_lasts 13 = .ok (.iload_n 1, 1) := by decide +kernel
theorem dX5_lasts_14 : decode cX5_lasts 14 = .ok (.iaload, 1) := by decide +kernel
theorem dX5_lasts_15 : decode cX5_lasts 15 = .ok (.if_icmp .lt 16, 3) := by decide +kernel
theorem dX5_lasts_18 : decode cX5_lasts 18 = .ok (.iload_n 2, 1) := by decide +kernel
theorem dX5_lasts_19 : decode cX5_lasts 19 = .ok (.aload_n 0, 1) := by decide +kernel
theorem dX5_lasts_20 : decode cX5_lasts 20 = .ok (.iload_n 1, 1) := by decide +kernel
theorem dX5_lasts_21 : decode cX5_lasts 21 = .ok (.invokevirtual 41, 3) := by decide +kernel
theorem dX5_lasts_24 : decode cX5_lasts 24 = .ok (.if_icmp .ge 7, 3) := by decide +kernel
theorem dX5_lasts_27 : decode cX5_lasts 27 = .ok (.iconst 1, 1) := by decide +kernel
theorem dX5_lasts_28 : decode cX5_lasts 28 = .ok (.goto 4, 3) := by decide +kernel
theorem dX5_lasts_31 : decode cX5_lasts 31 = .ok (.iconst 0, 1) := by decide +kernel
theorem dX5_lasts_32 : decode cX5_lasts 32 = .ok (.ireturn, 1) := by decide +kernel
theorem dX5_overlap_0 : decode cX5_overlap 0 = .ok (.aload_n 0, 1) := by decide +kernel
theorem dX5_overlap_1 : decode cX5_overlap 1 = .ok (.getfield 15, 3) := by decide +kernel
theorem dX5_overlap_4 : decode cX5_overlap 4 = .ok (.iload_n 1, 1) := by decide +kernel
theorem dX5_overlap_5 : decode cX5_overlap 5 = .ok (.iaload, 1) := by decide +kernel
theorem dX5_overlap_6 : decode cX5_overlap 6 = .ok (.aload_n 0, 1) := by decide +kernel
theorem dX5_overlap_7 : decode cX5_overlap 7 = .ok (.iload_n 2, 1) := by decide +kernel
theorem dX5_overlap_8 : decode cX5_overlap 8 = .ok (.invokevirtual 41, 3) := by decide +kernel
theorem dX5_overlap_11 : decode cX5_overlap 11 = .ok (.if_icmp .ge 21, 3) := by decide +kernel
theorem dX5_overlap_14 : decode cX5_overlap 14 = .ok (.aload_n 0, 1) := by decide +kernel
theorem dX5_overlap_15 : decode cX5_overlap 15 = .ok (.getfield 15, 3) := by decide +kernel
theorem dX5_overlap_18 : decode cX5_overlap 18 = .ok (.iload_n 2, 1) := by decide +kernel
theorem dX5_overlap_19 : decode cX5_overlap 19 = .ok (.iaload, 1) := by decide +kernel
theorem dX5_overlap_20 : decode cX5_overlap 20 = .ok (.aload_n 0, 1) := by decide +kernel
theorem dX5_overlap_21 : decode cX5_overlap 21 = .ok (.iload_n 1, 1) := by decide +kernel
theorem dX5_overlap_22 : decode cX5_overlap 22 = .ok (.invokevirtual 41, 3) := by decide +kernel
theorem dX5_overlap_25 : decode cX5_overlap 25 = .ok (.if_icmp .ge 7, 3) := by decide +kernel
theorem dX5_overlap_28 : decode cX5_overlap 28 = .ok (.iconst 1, 1) := by decide +kernel
theorem dX5_overlap_29 : decode cX5_overlap 29 = .ok (.goto 4, 3) := by decide +kernel
theorem dX5_overlap_32 : decode cX5_overlap 32 = .ok (.iconst 0, 1) := by decide +kernel
theorem dX5_overlap_33 : decode cX5_overlap 33 = .ok (.ireturn, 1) := by decide +kernel
theorem dX5_follows_0 : decode cX5_follows 0 = .ok (.aload_n 0, 1) := by decide +kernel
theorem dX5_follows_1 : decode cX5_follows 1 = .ok (.getfield 9, 3) := by decide +kernel
theorem dX5_follows_4 : decode cX5_follows 4 = .ok (.iload_n 1, 1) := by decide +kernel
theorem dX5_follows_5 : decode cX5_follows 5 = .ok (.iaload, 1) := by decide +kernel
theorem dX5_follows_6 : decode cX5_follows 6 = .ok (.aload_n 0, 1) := by decide +kernel
theorem dX5_follows_7 : decode cX5_follows 7 = .ok (.getfield 9, 3) := by decide +kernel
theorem dX5_follows_10 : decode cX5_follows 10 = .ok (.iload_n 2, 1) := by decide +kernel
theorem dX5_follows_11 : decode cX5_follows 11 = .ok (.iaload, 1) := by decide +kernel
theorem dX5_follows_12 : decode cX5_follows 12 = .ok (.if_icmp .ne 21, 3) := by decide +kernel
theorem dX5_follows_15 : decode cX5_follows 15 = .ok (.aload_n 0, 1) := by decide +kernel
theorem dX5_follows_16 : decode cX5_follows 16 = .ok (.iload_n 1, 1) := by decide +kernel
theorem dX5_follows_17 : decode cX5_follows 17 = .ok (.invokevirtual 41, 3) := by decide +kernel
theorem dX5_follows_20 : decode cX5_follows 20 = .ok (.aload_n 0, 1) := by decide +kernel
theorem dX5_follows_21 : decode cX5_follows 21 = .ok (.getfield 15, 3) := by decide +kernel
theorem dX5_follows_24 : decode cX5_follows 24 = .ok (.iload_n 2, 1) := by decide +kernel
theorem dX5_follows_25 : decode cX5_follows 25 = .ok (.iaload, 1) := by decide +kernel
theorem dX5_follows_26 : decode cX5_follows 26 = .ok (.if_icmp .ne 7, 3) := by decide +kernel
theorem dX5_follows_29 : decode cX5_follows 29 = .ok (.iconst 1, 1) := by decide +kernel
theorem dX5_follows_30 : decode cX5_follows 30 = .ok (.goto 4, 3) := by decide +kernel
theorem dX5_follows_33 : decode cX5_follows 33 = .ok (.iconst 0, 1) := by decide +kernel
theorem dX5_follows_34 : decode cX5_follows 34 = .ok (.ireturn, 1) := by decide +kernel
theorem dX5_pressOn_0 : decode cX5_pressOn 0 = .ok (.iconst 0, 1) := by decide +kernel
theorem dX5_pressOn_1 : decode cX5_pressOn 1 = .ok (.istore_n 3, 1) := by decide +kernel
theorem dX5_pressOn_2 : decode cX5_pressOn 2 = .ok (.iconst 0, 1) := by decide +kernel
theorem dX5_pressOn_3 : decode cX5_pressOn 3 = .ok (.istore 4, 2) := by decide +kernel
theorem dX5_pressOn_5 : decode cX5_pressOn 5 = .ok (.iload 4, 2) := by decide +kernel
theorem dX5_pressOn_7 : decode cX5_pressOn 7 = .ok (.aload_n 0, 1) := by decide +kernel
theorem dX5_pressOn_8 : decode cX5_pressOn 8 = .ok (.getfield 27, 3) := by decide +kernel
theorem dX5_pressOn_11 : decode cX5_pressOn 11 = .ok (.if_icmp .ge 40, 3) := by decide +kernel
theorem dX5_pressOn_14 : decode cX5_pressOn 14 = .ok (.aload_n 0, 1) := by decide +kernel
theorem dX5_pressOn_15 : decode cX5_pressOn 15 = .ok (.getfield 9, 3) := by decide +kernel
theorem dX5_pressOn_18 : decode cX5_pressOn 18 = .ok (.iload 4, 2) := by decide +kernel
theorem dX5_pressOn_20 : decode cX5_pressOn 20 = .ok (.iaload, 1) := by decide +kernel
theorem dX5_pressOn_21 : decode cX5_pressOn 21 = .ok (.iload_n 1, 1) := by decide +kernel
theorem dX5_pressOn_22 : decode cX5_pressOn 22 = .ok (.if_icmp .ne 23, 3) := by decide +kernel
theorem dX5_pressOn_25 : decode cX5_pressOn 25 = .ok (.aload_n 0, 1) := by decide +kernel
theorem dX5_pressOn_26 : decode cX5_pressOn 26 = .ok (.iload 4, 2) := by decide +kernel
theorem dX5_pressOn_28 : decode cX5_pressOn 28 = .ok (.iload_n 2, 1) := by decide +kernel
theorem dX5_pressOn_29 : decode cX5_pressOn 29 = .ok (.invokevirtual 45, 3) := by decide +kernel
theorem dX5_pressOn_32 : decode cX5_pressOn 32 = .ok (.ifCond .eq 13, 3) := by decide +kernel
theorem dX5_pressOn_35 : decode cX5_pressOn 35 = .ok (.iload_n 3, 1) := by decide +kernel
theorem dX5_pressOn_36 : decode cX5_pressOn 36 = .ok (.aload_n 0, 1) := by decide +kernel
theorem dX5_pressOn_37 : decode cX5_pressOn 37 = .ok (.getfield 21, 3) := by decide +kernel
theorem dX5_pressOn_40 : decode cX5_pressOn 40 = .ok (.iload 4, 2) := by decide +kernel
theorem dX5_pressOn_42 : decode cX5_pressOn 42 = .ok (.iaload, 1) := by decide +kernel
theorem dX5_pressOn_43 : decode cX5_pressOn 43 = .ok (.iadd, 1) := by decide +kernel
theorem dX5_pressOn_44 : decode cX5_pressOn 44 = .ok (.istore_n 3, 1) := by decide +kernel
theorem dX5_pressOn_45 : decode cX5_pressOn 45 = .ok (.iinc 4 1, 3) := by decide +kernel
theorem dX5_pressOn_48 : decode cX5_pressOn 48 = .ok (.goto (-43), 3) := by decide +kernel
theorem dX5_pressOn_51 : decode cX5_pressOn 51 = .ok (.iload_n 3, 1) := by decide +kernel
theorem dX5_pressOn_52 : decode cX5_pressOn 52 = .ok (.ireturn, 1) := by decide +kernel
theorem dX5_firstIn_0 : decode cX5_firstIn 0 = .ok (.iconst 0, 1) := by decide +kernel
theorem dX5_firstIn_1 : decode cX5_firstIn 1 = .ok (.istore_n 2, 1) := by decide +kernel
theorem dX5_firstIn_2 : decode cX5_firstIn 2 = .ok (.iload_n 2, 1) := by decide +kernel
theorem dX5_firstIn_3 : decode cX5_firstIn 3 = .ok (.aload_n 0, 1) := by decide +kernel
theorem dX5_firstIn_4 : decode cX5_firstIn 4 = .ok (.getfield 27, 3) := by decide +kernel
theorem dX5_firstIn_7 : decode cX5_firstIn 7 = .ok (.if_icmp .ge 20, 3) := by decide +kernel
theorem dX5_firstIn_10 : decode cX5_firstIn 10 = .ok (.aload_n 0, 1) := by decide +kernel
theorem dX5_firstIn_11 : decode cX5_firstIn 11 = .ok (.iload_n 2, 1) := by decide +kernel
theorem dX5_firstIn_12 : decode cX5_firstIn 12 = .ok (.iload_n 1, 1) := by decide +kernel
theorem dX5_firstIn_13 : decode cX5_firstIn 13 = .ok (.invokevirtual 45, 3) := by decide +kernel
theorem dX5_firstIn_16 : decode cX5_firstIn 16 = .ok (.ifCond .eq 5, 3) := by decide +kernel
theorem dX5_firstIn_19 : decode cX5_firstIn 19 = .ok (.iload_n 2, 1) := by decide +kernel
theorem dX5_firstIn_20 : decode cX5_firstIn 20 = .ok (.ireturn, 1) := by decide +kernel
theorem dX5_firstIn_21 : decode cX5_firstIn 21 = .ok (.iinc 2 1, 3) := by decide +kernel
theorem dX5_firstIn_24 : decode cX5_firstIn 24 = .ok (.goto (-22), 3) := by decide +kernel
theorem dX5_firstIn_27 : decode cX5_firstIn 27 = .ok (.iconst (-1), 1) := by decide +kernel
theorem dX5_firstIn_28 : decode cX5_firstIn 28 = .ok (.ireturn, 1) := by decide +kernel
theorem dX6_init_0 : decode cX6_init 0 = .ok (.aload_n 0, 1) := by decide +kernel
theorem dX6_init_1 : decode cX6_init 1 = .ok (.invokespecial 3, 3) := by decide +kernel
theorem dX6_init_4 : decode cX6_init 4 = .ok (.aload_n 0, 1) := by decide +kernel
theorem dX6_init_5 : decode cX6_init 5 = .ok (.bipush 12, 2) := by decide +kernel
theorem dX6_init_7 : decode cX6_init 7 = .ok (.newarray .int, 2) := by decide +kernel
theorem dX6_init_9 : decode cX6_init 9 = .ok (.putfield 9, 3) := by decide +kernel
theorem dX6_init_12 : decode cX6_init 12 = .ok (.aload_n 0, 1) := by decide +kernel
theorem dX6_init_13 : decode cX6_init 13 = .ok (.aload_n 1, 1) := by decide +kernel
theorem dX6_init_14 : decode cX6_init 14 = .ok (.putfield 15, 3) := by decide +kernel
theorem dX6_init_17 : decode cX6_init 17 = .ok (.aload_n 0, 1) := by decide +kernel
theorem dX6_init_18 : decode cX6_init 18 = .ok (.aload_n 2, 1) := by decide +kernel
theorem dX6_init_19 : decode cX6_init 19 = .ok (.putfield 19, 3) := by decide +kernel
theorem dX6_init_22 : decode cX6_init 22 = .ok (.return_, 1) := by decide +kernel
theorem dX6_read_0 : decode cX6_read 0 = .ok (.aload_n 0, 1) := by decide +kernel
theorem dX6_read_1 : decode cX6_read 1 = .ok (.getfield 19, 3) := by decide +kernel
theorem dX6_read_4 : decode cX6_read 4 = .ok (.invokevirtual 23, 3) := by decide +kernel
theorem dX6_read_7 : decode cX6_read 7 = .ok (.aload_n 0, 1) := by decide +kernel
theorem dX6_read_8 : decode cX6_read 8 = .ok (.iconst 0, 1) := by decide +kernel
theorem dX6_read_9 : decode cX6_read 9 = .ok (.putfield 28, 3) := by decide +kernel
theorem dX6_read_12 : decode cX6_read 12 = .ok (.aload_n 0, 1) := by decide +kernel
theorem dX6_read_13 : decode cX6_read 13 = .ok (.iconst 0, 1) := by decide +kernel
theorem dX6_read_14 : decode cX6_read 14 = .ok (.putfield 32, 3) := by decide +kernel
theorem dX6_read_17 : decode cX6_read 17 = .ok (.aload_n 0, 1) := by decide +kernel
theorem dX6_read_18 : decode cX6_read 18 = .ok (.iconst 0, 1) := by decide +kernel
theorem dX6_read_19 : decode cX6_read 19 = .ok (.putfield 35, 3) := by decide +kernel
theorem dX6_read_22 : decode cX6_read 22 = .ok (.aload_n 0, 1) := by decide +kernel
theorem dX6_read_23 : decode cX6_read 23 = .ok (.getfield 15, 3) := by decide +kernel
theorem dX6_read_26 : decode cX6_read 26 = .ok (.invokevirtual 38, 3) := by decide +kernel
theorem dX6_read_29 : decode cX6_read 29 = .ok (.iconst 1, 1) := by decide +kernel
