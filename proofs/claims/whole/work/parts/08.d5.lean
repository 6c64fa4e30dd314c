theorem dX12_tries_66 : decode cX12_tries 66 = .ok (.getfield 56, 3) := by decide +kernel
theorem dX12_tries_69 : decode cX12_tries 69 = .ok (.iconst 1, 1) := by decide +kernel
theorem dX12_tries_70 : decode cX12_tries 70 = .ok (.iaload, 1) := by decide +kernel
theorem dX12_tries_71 : decode cX12_tries 71 = .ok (.imul, 1) := by decide +kernel
theorem dX12_tries_72 : decode cX12_tries 72 = .ok (.if_icmp .ge 46, 3) := by decide +kernel
theorem dX12_tries_75 : decode cX12_tries 75 = .ok (.aload_n 0, 1) := by decide +kernel
theorem dX12_tries_76 : decode cX12_tries 76 = .ok (.getfield 120, 3) := by decide +kernel
theorem dX12_tries_79 : decode cX12_tries 79 = .ok (.iload_n 1, 1) := by decide +kernel
theorem dX12_tries_80 : decode cX12_tries 80 = .ok (.iload_n 3, 1) := by decide +kernel
theorem dX12_tries_81 : decode cX12_tries 81 = .ok (.iastore, 1) := by decide +kernel
theorem dX12_tries_82 : decode cX12_tries 82 = .ok (.aload_n 0, 1) := by decide +kernel
theorem dX12_tries_83 : decode cX12_tries 83 = .ok (.iload_n 1, 1) := by decide +kernel
theorem dX12_tries_84 : decode cX12_tries 84 = .ok (.invokevirtual 414, 3) := by decide +kernel
theorem dX12_tries_87 : decode cX12_tries 87 = .ok (.ifCond .ne 25, 3) := by decide +kernel
theorem dX12_tries_90 : decode cX12_tries 90 = .ok (.aload_n 0, 1) := by decide +kernel
theorem dX12_tries_91 : decode cX12_tries 91 = .ok (.iload_n 1, 1) := by decide +kernel
theorem dX12_tries_92 : decode cX12_tries 92 = .ok (.iconst 1, 1) := by decide +kernel
theorem dX12_tries_93 : decode cX12_tries 93 = .ok (.iadd, 1) := by decide +kernel
theorem dX12_tries_94 : decode cX12_tries 94 = .ok (.iload_n 2, 1) := by decide +kernel
theorem dX12_tries_95 : decode cX12_tries 95 = .ok (.aload_n 0, 1) := by decide +kernel
theorem dX12_tries_96 : decode cX12_tries 96 = .ok (.iload_n 1, 1) := by decide +kernel
theorem dX12_tries_97 : decode cX12_tries 97 = .ok (.invokevirtual 417, 3) := by decide +kernel
theorem dX12_tries_100 : decode cX12_tries 100 = .ok (.ifCond .eq 7, 3) := by decide +kernel
theorem dX12_tries_103 : decode cX12_tries 103 = .ok (.iconst 0, 1) := by decide +kernel
theorem dX12_tries_104 : decode cX12_tries 104 = .ok (.goto 4, 3) := by decide +kernel
theorem dX12_tries_107 : decode cX12_tries 107 = .ok (.iconst 1, 1) := by decide +kernel
theorem dX12_tries_108 : decode cX12_tries 108 = .ok (.iadd, 1) := by decide +kernel
theorem dX12_tries_109 : decode cX12_tries 109 = .ok (.invokevirtual 426, 3) := by decide +kernel
theorem dX12_tries_112 : decode cX12_tries 112 = .ok (.iinc 3 1, 3) := by decide +kernel
theorem dX12_tries_115 : decode cX12_tries 115 = .ok (.goto (-52), 3) := by decide +kernel
theorem dX12_tries_118 : decode cX12_tries 118 = .ok (.return_, 1) := by decide +kernel
theorem dX12_hasTried_0 : decode cX12_hasTried 0 = .ok (.aload_n 0, 1) := by decide +kernel
theorem dX12_hasTried_1 : decode cX12_hasTried 1 = .ok (.getfield 343, 3) := by decide +kernel
theorem dX12_hasTried_4 : decode cX12_hasTried 4 = .ok (.bipush 8, 2) := by decide +kernel
theorem dX12_hasTried_6 : decode cX12_hasTried 6 = .ok (.if_icmp .le 5, 3) := by decide +kernel
theorem dX12_hasTried_9 : decode cX12_hasTried 9 = .ok (.iconst 0, 1) := by decide +kernel
theorem dX12_hasTried_10 : decode cX12_hasTried 10 = .ok (.ireturn, 1) := by decide +kernel
theorem dX12_hasTried_11 : decode cX12_hasTried 11 = .ok (.iconst 0, 1) := by decide +kernel
theorem dX12_hasTried_12 : decode cX12_hasTried 12 = .ok (.istore_n 1, 1) := by decide +kernel
theorem dX12_hasTried_13 : decode cX12_hasTried 13 = .ok (.iload_n 1, 1) := by decide +kernel
theorem dX12_hasTried_14 : decode cX12_hasTried 14 = .ok (.bipush 24, 2) := by decide +kernel
theorem dX12_hasTried_16 : decode cX12_hasTried 16 = .ok (.if_icmp .ge 21, 3) := by decide +kernel
theorem dX12_hasTried_19 : decode cX12_hasTried 19 = .ok (.aload_n 0, 1) := by decide +kernel
theorem dX12_hasTried_20 : decode cX12_hasTried 20 = .ok (.getfield 129, 3) := by decide +kernel
theorem dX12_hasTried_23 : decode cX12_hasTried 23 = .ok (.iload_n 1, 1) := by decide +kernel
theorem dX12_hasTried_24 : decode cX12_hasTried 24 = .ok (.aload_n 0, 1) := by decide +kernel
theorem dX12_hasTried_25 : decode cX12_hasTried 25 = .ok (.getfield 120, 3) := by decide +kernel
theorem dX12_hasTried_28 : decode cX12_hasTried 28 = .ok (.iload_n 1, 1) := by decide +kernel
theorem dX12_hasTried_29 : decode cX12_hasTried 29 = .ok (.iaload, 1) := by decide +kernel
theorem dX12_hasTried_30 : decode cX12_hasTried 30 = .ok (.iastore, 1) := by decide +kernel
theorem dX12_hasTried_31 : decode cX12_hasTried 31 = .ok (.iinc 1 1, 3) := by decide +kernel
theorem dX12_hasTried_34 : decode cX12_hasTried 34 = .ok (.goto (-21), 3) := by decide +kernel
theorem dX12_hasTried_37 : decode cX12_hasTried 37 = .ok (.aload_n 0, 1) := by decide +kernel
theorem dX12_hasTried_38 : decode cX12_hasTried 38 = .ok (.ldc_w 371, 3) := by decide +kernel
theorem dX12_hasTried_41 : decode cX12_hasTried 41 = .ok (.putfield 423, 3) := by decide +kernel
theorem dX12_hasTried_44 : decode cX12_hasTried 44 = .ok (.aload_n 0, 1) := by decide +kernel
theorem dX12_hasTried_45 : decode cX12_hasTried 45 = .ok (.iconst 0, 1) := by decide +kernel
theorem dX12_hasTried_46 : decode cX12_hasTried 46 = .ok (.putfield 420, 3) := by decide +kernel
theorem dX12_hasTried_49 : decode cX12_hasTried 49 = .ok (.aload_n 0, 1) := by decide +kernel
theorem dX12_hasTried_50 : decode cX12_hasTried 50 = .ok (.iconst 0, 1) := by decide +kernel
theorem dX12_hasTried_51 : decode cX12_hasTried 51 = .ok (.iconst 0, 1) := by decide +kernel
theorem dX12_hasTried_52 : decode cX12_hasTried 52 = .ok (.invokevirtual 426, 3) := by decide +kernel
theorem dX12_hasTried_55 : decode cX12_hasTried 55 = .ok (.iconst 0, 1) := by decide +kernel
theorem dX12_hasTried_56 : decode cX12_hasTried 56 = .ok (.istore_n 1, 1) := by decide +kernel
theorem dX12_hasTried_57 : decode cX12_hasTried 57 = .ok (.iload_n 1, 1) := by decide +kernel
theorem dX12_hasTried_58 : decode cX12_hasTried 58 = .ok (.bipush 24, 2) := by decide +kernel
theorem dX12_hasTried_60 : decode cX12_hasTried 60 = .ok (.if_icmp .ge 21, 3) := by decide +kernel
theorem dX12_hasTried_63 : decode cX12_hasTried 63 = .ok (.aload_n 0, 1) := by decide +kernel
theorem dX12_hasTried_64 : decode cX12_hasTried 64 = .ok (.getfield 120, 3) := by decide +kernel
theorem dX12_hasTried_67 : decode cX12_hasTried 67 = .ok (.iload_n 1, 1) := by decide +kernel
theorem dX12_hasTried_68 : decode cX12_hasTried 68 = .ok (.aload_n 0, 1) := by decide +kernel
theorem dX12_hasTried_69 : decode cX12_hasTried 69 = .ok (.getfield 129, 3) := by decide +kernel
theorem dX12_hasTried_72 : decode cX12_hasTried 72 = .ok (.iload_n 1, 1) := by decide +kernel
theorem dX12_hasTried_73 : decode cX12_hasTried 73 = .ok (.iaload, 1) := by decide +kernel
theorem dX12_hasTried_74 : decode cX12_hasTried 74 = .ok (.iastore, 1) := by decide +kernel
theorem dX12_hasTried_75 : decode cX12_hasTried 75 = .ok (.iinc 1 1, 3) := by decide +kernel
theorem dX12_hasTried_78 : decode cX12_hasTried 78 = .ok (.goto (-21), 3) := by decide +kernel
theorem dX12_hasTried_81 : decode cX12_hasTried 81 = .ok (.iconst 1, 1) := by decide +kernel
theorem dX12_hasTried_82 : decode cX12_hasTried 82 = .ok (.ireturn, 1) := by decide +kernel
theorem dX12_fewest_0 : decode cX12_fewest 0 = .ok (.aload_n 0, 1) := by decide +kernel
theorem dX12_fewest_1 : decode cX12_fewest 1 = .ok (.iconst 0, 1) := by decide +kernel
theorem dX12_fewest_2 : decode cX12_fewest 2 = .ok (.putfield 157, 3) := by decide +kernel
theorem dX12_fewest_5 : decode cX12_fewest 5 = .ok (.aload_n 0, 1) := by decide +kernel
theorem dX12_fewest_6 : decode cX12_fewest 6 = .ok (.invokevirtual 429, 3) := by decide +kernel
theorem dX12_fewest_9 : decode cX12_fewest 9 = .ok (.ifCond .eq 20, 3) := by decide +kernel
theorem dX12_fewest_12 : decode cX12_fewest 12 = .ok (.aload_n 0, 1) := by decide +kernel
theorem dX12_fewest_13 : decode cX12_fewest 13 = .ok (.getfield 423, 3) := by decide +kernel
theorem dX12_fewest_16 : decode cX12_fewest 16 = .ok (.ldc_w 371, 3) := by decide +kernel
theorem dX12_fewest_19 : decode cX12_fewest 19 = .ok (.if_icmp .ge 10, 3) := by decide +kernel
theorem dX12_fewest_22 : decode cX12_fewest 22 = .ok (.aload_n 0, 1) := by decide +kernel
theorem dX12_fewest_23 : decode cX12_fewest 23 = .ok (.getfield 423, 3) := by decide +kernel
theorem dX12_fewest_26 : decode cX12_fewest 26 = .ok (.goto 4, 3) := by decide +kernel
theorem dX12_fewest_29 : decode cX12_fewest 29 = .ok (.iconst (-1), 1) := by decide +kernel
theorem dX12_fewest_30 : decode cX12_fewest 30 = .ok (.ireturn, 1) := by decide +kernel
theorem dX12_fingered_0 : decode cX12_fingered 0 = .ok (.aload_n 0, 1) := by decide +kernel
theorem dX12_fingered_1 : decode cX12_fingered 1 = .ok (.iconst 0, 1) := by decide +kernel
theorem dX12_fingered_2 : decode cX12_fingered 2 = .ok (.putfield 157, 3) := by decide +kernel
theorem dX12_fingered_5 : decode cX12_fingered 5 = .ok (.aload_n 0, 1) := by decide +kernel
theorem dX12_fingered_6 : decode cX12_fingered 6 = .ok (.iload_n 1, 1) := by decide +kernel
theorem dX12_fingered_7 : decode cX12_fingered 7 = .ok (.invokevirtual 361, 3) := by decide +kernel
theorem dX12_fingered_10 : decode cX12_fingered 10 = .ok (.ifCond .eq 29, 3) := by decide +kernel
theorem dX12_fingered_13 : decode cX12_fingered 13 = .ok (.aload_n 0, 1) := by decide +kernel
theorem dX12_fingered_14 : decode cX12_fingered 14 = .ok (.invokevirtual 429, 3) := by decide +kernel
theorem dX12_fingered_17 : decode cX12_fingered 17 = .ok (.ifCond .eq 22, 3) := by decide +kernel
theorem dX12_fingered_20 : decode cX12_fingered 20 = .ok (.aload_n 0, 1) := by decide +kernel
theorem dX12_fingered_21 : decode cX12_fingered 21 = .ok (.getfield 423, 3) := by decide +kernel
theorem dX12_fingered_24 : decode cX12_fingered 24 = .ok (.ldc_w 371, 3) := by decide +kernel
theorem dX12_fingered_27 : decode cX12_fingered 27 = .ok (.if_icmp .ge 12, 3) := by decide +kernel
theorem dX12_fingered_30 : decode cX12_fingered 30 = .ok (.aload_n 0, 1) := by decide +kernel
theorem dX12_fingered_31 : decode cX12_fingered 31 = .ok (.getfield 132, 3) := by decide +kernel
theorem dX12_fingered_34 : decode cX12_fingered 34 = .ok (.iload_n 1, 1) := by decide +kernel
theorem dX12_fingered_35 : decode cX12_fingered 35 = .ok (.iaload, 1) := by decide +kernel
theorem dX12_fingered_36 : decode cX12_fingered 36 = .ok (.goto 4, 3) := by decide +kernel
theorem dX12_fingered_39 : decode cX12_fingered 39 = .ok (.iconst (-1), 1) := by decide +kernel
theorem dX12_fingered_40 : decode cX12_fingered 40 = .ok (.ireturn, 1) := by decide +kernel
theorem dX12_far_0 : decode cX12_far 0 = .ok (.aload_n 0, 1) := by decide +kernel
theorem dX12_far_1 : decode cX12_far 1 = .ok (.iconst 0, 1) := by decide +kernel
theorem dX12_far_2 : decode cX12_far 2 = .ok (.putfield 157, 3) := by decide +kernel
theorem dX12_far_5 : decode cX12_far 5 = .ok (.aload_n 0, 1) := by decide +kernel
theorem dX12_far_6 : decode cX12_far 6 = .ok (.invokevirtual 429, 3) := by decide +kernel
theorem dX12_far_9 : decode cX12_far 9 = .ok (.ifCond .eq 10, 3) := by decide +kernel
theorem dX12_far_12 : decode cX12_far 12 = .ok (.aload_n 0, 1) := by decide +kernel
theorem dX12_far_13 : decode cX12_far 13 = .ok (.getfield 420, 3) := by decide +kernel
theorem dX12_far_16 : decode cX12_far 16 = .ok (.goto 4, 3) := by decide +kernel
theorem dX12_far_19 : decode cX12_far 19 = .ok (.iconst (-1), 1) := by decide +kernel
theorem dX12_far_20 : decode cX12_far 20 = .ok (.ireturn, 1) := by decide +kernel
theorem dX12_beats_0 : decode cX12_beats 0 = .ok (.aload_n 0, 1) := by decide +kernel
theorem dX12_beats_1 : decode cX12_beats 1 = .ok (.getfield 26, 3) := by decide +kernel
theorem dX12_beats_4 : decode cX12_beats 4 = .ok (.aload_n 0, 1) := by decide +kernel
theorem dX12_beats_5 : decode cX12_beats 5 = .ok (.getfield 41, 3) := by decide +kernel
theorem dX12_beats_8 : decode cX12_beats 8 = .ok (.iload_n 1, 1) := by decide +kernel
theorem dX12_beats_9 : decode cX12_beats 9 = .ok (.iaload, 1) := by decide +kernel
theorem dX12_beats_10 : decode cX12_beats 10 = .ok (.iaload, 1) := by decide +kernel
theorem dX12_beats_11 : decode cX12_beats 11 = .ok (.iload_n 2, 1) := by decide +kernel
theorem dX12_beats_12 : decode cX12_beats 12 = .ok (.iadd, 1) := by decide +kernel
theorem dX12_beats_13 : decode cX12_beats 13 = .ok (.aload_n 0, 1) := by decide +kernel
theorem dX12_beats_14 : decode cX12_beats 14 = .ok (.getfield 50, 3) := by decide +kernel
theorem dX12_beats_17 : decode cX12_beats 17 = .ok (.iload_n 1, 1) := by decide +kernel
theorem dX12_beats_18 : decode cX12_beats 18 = .ok (.iaload, 1) := by decide +kernel
theorem dX12_beats_19 : decode cX12_beats 19 = .ok (.imul, 1) := by decide +kernel
theorem dX12_beats_20 : decode cX12_beats 20 = .ok (.aload_n 0, 1) := by decide +kernel
theorem dX12_beats_21 : decode cX12_beats 21 = .ok (.getfield 26, 3) := by decide +kernel
theorem dX12_beats_24 : decode cX12_beats 24 = .ok (.aload_n 0, 1) := by decide +kernel
theorem dX12_beats_25 : decode cX12_beats 25 = .ok (.getfield 47, 3) := by decide +kernel
theorem dX12_beats_28 : decode cX12_beats 28 = .ok (.iload_n 1, 1) := by decide +kernel
theorem dX12_beats_29 : decode cX12_beats 29 = .ok (.iaload, 1) := by decide +kernel
theorem dX12_beats_30 : decode cX12_beats 30 = .ok (.iaload, 1) := by decide +kernel
theorem dX12_beats_31 : decode cX12_beats 31 = .ok (.iload_n 3, 1) := by decide +kernel
theorem dX12_beats_32 : decode cX12_beats 32 = .ok (.iadd, 1) := by decide +kernel
theorem dX12_beats_33 : decode cX12_beats 33 = .ok (.aload_n 0, 1) := by decide +kernel
theorem dX12_beats_34 : decode cX12_beats 34 = .ok (.getfield 44, 3) := by decide +kernel
theorem dX12_beats_37 : decode cX12_beats 37 = .ok (.iload_n 1, 1) := by decide +kernel
theorem dX12_beats_38 : decode cX12_beats 38 = .ok (.iaload, 1) := by decide +kernel
theorem dX12_beats_39 : decode cX12_beats 39 = .ok (.imul, 1) := by decide +kernel
theorem dX12_beats_40 : decode cX12_beats 40 = .ok (.invokestatic 399, 3) := by decide +kernel
theorem dX12_beats_43 : decode cX12_beats 43 = .ok (.ireturn, 1) := by decide +kernel
theorem dX12_beating_0 : decode cX12_beating 0 = .ok (.aload_n 0, 1) := by decide +kernel
theorem dX12_beating_1 : decode cX12_beating 1 = .ok (.iconst 0, 1) := by decide +kernel
theorem dX12_beating_2 : decode cX12_beating 2 = .ok (.putfield 157, 3) := by decide +kernel
theorem dX12_beating_5 : decode cX12_beating 5 = .ok (.iload_n 1, 1) := by decide +kernel
theorem dX12_beating_6 : decode cX12_beating 6 = .ok (.ifCond .lt 23, 3) := by decide +kernel
theorem dX12_beating_9 : decode cX12_beating 9 = .ok (.iload_n 1, 1) := by decide +kernel
theorem dX12_beating_10 : decode cX12_beating 10 = .ok (.aload_n 0, 1) := by decide +kernel
theorem dX12_beating_11 : decode cX12_beating 11 = .ok (.getfield 16, 3) := by decide +kernel
theorem dX12_beating_14 : decode cX12_beating 14 = .ok (.iconst 0, 1) := by decide +kernel
theorem dX12_beating_15 : decode cX12_beating 15 = .ok (.iaload, 1) := by decide +kernel
theorem dX12_beating_16 : decode cX12_beating 16 = .ok (.if_icmp .ge 13, 3) := by decide +kernel
theorem dX12_beating_19 : decode cX12_beating 19 = .ok (.aload_n 0, 1) := by decide +kernel
theorem dX12_beating_20 : decode cX12_beating 20 = .ok (.iload_n 1, 1) := by decide +kernel
theorem dX12_beating_21 : decode cX12_beating 21 = .ok (.iconst 0, 1) := by decide +kernel
theorem dX12_beating_22 : decode cX12_beating 22 = .ok (.iconst 0, 1) := by decide +kernel
theorem dX12_beating_23 : decode cX12_beating 23 = .ok (.invokevirtual 432, 3) := by decide +kernel
theorem dX12_beating_26 : decode cX12_beating 26 = .ok (.goto 4, 3) := by decide +kernel
theorem dX12_beating_29 : decode cX12_beating 29 = .ok (.iconst (-1), 1) := by decide +kernel
theorem dX12_beating_30 : decode cX12_beating 30 = .ok (.ireturn, 1) := by decide +kernel
theorem dX12_within_0 : decode cX12_within 0 = .ok (.aload_n 0, 1) := by decide +kernel
theorem dX12_within_1 : decode cX12_within 1 = .ok (.iconst 0, 1) := by decide +kernel
theorem dX12_within_2 : decode cX12_within 2 = .ok (.putfield 157, 3) := by decide +kernel
theorem dX12_within_5 : decode cX12_within 5 = .ok (.iconst 0, 1) := by decide +kernel
theorem dX12_within_6 : decode cX12_within 6 = .ok (.istore_n 1, 1) := by decide +kernel
theorem dX12_within_7 : decode cX12_within 7 = .ok (.iconst 0, 1) := by decide +kernel
theorem dX12_within_8 : decode cX12_within 8 = .ok (.istore_n 2, 1) := by decide +kernel
theorem dX12_within_9 : decode cX12_within 9 = .ok (.iload_n 2, 1) := by decide +kernel
theorem dX12_within_10 : decode cX12_within 10 = .ok (.aload_n 0, 1) := by decide +kernel
theorem dX12_within_11 : decode cX12_within 11 = .ok (.getfield 16, 3) := by decide +kernel
theorem dX12_within_14 : decode cX12_within 14 = .ok (.iconst 0, 1) := by decide +kernel
theorem dX12_within_15 : decode cX12_within 15 = .ok (.iaload, 1) := by decide +kernel
theorem dX12_within_16 : decode cX12_within 16 = .ok (.if_icmp .ge 35, 3) := by decide +kernel
theorem dX12_within_19 : decode cX12_within 19 = .ok (.iload_n 1, 1) := by decide +kernel
theorem dX12_within_20 : decode cX12_within 20 = .ok (.aload_n 0, 1) := by decide +kernel
theorem dX12_within_21 : decode cX12_within 21 = .ok (.iload_n 2, 1) := by decide +kernel
theorem dX12_within_22 : decode cX12_within 22 = .ok (.iconst 0, 1) := by decide +kernel
theorem dX12_within_23 : decode cX12_within 23 = .ok (.iconst 0, 1) := by decide +kernel
theorem dX12_within_24 : decode cX12_within 24 = .ok (.invokevirtual 432, 3) := by decide +kernel
theorem dX12_within_27 : decode cX12_within 27 = .ok (.aload_n 0, 1) := by decide +kernel
theorem dX12_within_28 : decode cX12_within 28 = .ok (.getfield 53, 3) := by decide +kernel
theorem dX12_within_31 : decode cX12_within 31 = .ok (.iload_n 2, 1) := by decide +kernel
theorem dX12_within_32 : decode cX12_within 32 = .ok (.iaload, 1) := by decide +kernel
theorem dX12_within_33 : decode cX12_within 33 = .ok (.if_icmp .gt 9, 3) := by decide +kernel
theorem dX12_within_36 : decode cX12_within 36 = .ok (.iconst 1, 1) := by decide +kernel
theorem dX12_within_37 : decode cX12_within 37 = .ok (.iload_n 2, 1) := by decide +kernel
theorem dX12_within_38 : decode cX12_within 38 = .ok (.ishl, 1) := by decide +kernel
theorem dX12_within_39 : decode cX12_within 39 = .ok (.goto 4, 3) := by decide +kernel
theorem dX12_within_42 : decode cX12_within 42 = .ok (.iconst 0, 1) := by decide +kernel
theorem dX12_within_43 : decode cX12_within 43 = .ok (.ior, 1) := by decide +kernel
theorem dX12_within_44 : decode cX12_within 44 = .ok (.istore_n 1, 1) := by decide +kernel
theorem dX12_within_45 : decode cX12_within 45 = .ok (.iinc 2 1, 3) := by decide +kernel
theorem dX12_within_48 : decode cX12_within 48 = .ok (.goto (-39), 3) := by decide +kernel
theorem dX12_within_51 : decode cX12_within 51 = .ok (.iload_n 1, 1) := by decide +kernel
theorem dX12_within_52 : decode cX12_within 52 = .ok (.ireturn, 1) := by decide +kernel
theorem dX12_isPaired_0 : decode cX12_isPaired 0 = .ok (.iconst 0, 1) := by decide +kernel
theorem dX12_isPaired_1 : decode cX12_isPaired 1 = .ok (.istore_n 2, 1) := by decide +kernel
theorem dX12_isPaired_2 : decode cX12_isPaired 2 = .ok (.iload_n 2, 1) := by decide +kernel
theorem dX12_isPaired_3 : decode cX12_isPaired 3 = .ok (.aload_n 0, 1) := by decide +kernel
theorem dX12_isPaired_4 : decode cX12_isPaired 4 = .ok (.getfield 16, 3) := by decide +kernel
theorem dX12_isPaired_7 : decode cX12_isPaired 7 = .ok (.iconst 0, 1) := by decide +kernel
theorem dX12_isPaired_8 : decode cX12_isPaired 8 = .ok (.iaload, 1) := by decide +kernel
theorem dX12_isPaired_9 : decode cX12_isPaired 9 = .ok (.if_icmp .ge 31, 3) := by decide +kernel
theorem dX12_isPaired_12 : decode cX12_isPaired 12 = .ok (.aload_n 0, 1) := by decide +kernel
theorem dX12_isPaired_13 : decode cX12_isPaired 13 = .ok (.getfield 41, 3) := by decide +kernel
theorem dX12_isPaired_16 : decode cX12_isPaired 16 = .ok (.iload_n 2, 1) := by decide +kernel
theorem dX12_isPaired_17 : decode cX12_isPaired 17 = .ok (.iaload, 1) := by decide +kernel
theorem dX12_isPaired_18 : decode cX12_isPaired 18 = .ok (.iload_n 1, 1) := by decide +kernel
theorem dX12_isPaired_19 : decode cX12_isPaired 19 = .ok (.if_icmp .eq 13, 3) := by decide +kernel
theorem dX12_isPaired_22 : decode cX12_isPaired 22 = .ok (.aload_n 0, 1) := by decide +kernel
theorem dX12_isPaired_23 : decode cX12_isPaired 23 = .ok (.getfield 47, 3) := by decide +kernel
theorem dX12_isPaired_26 : decode cX12_isPaired 26 = .ok (.iload_n 2, 1) := by decide +kernel
theorem dX12_isPaired_27 : decode cX12_isPaired 27 = .ok (.iaload, 1) := by decide +kernel
theorem dX12_isPaired_28 : decode cX12_isPaired 28 = .ok (.iload_n 1, 1) := by decide +kernel
theorem dX12_isPaired_29 : decode cX12_isPaired 29 = .ok (.if_icmp .ne 5, 3) := by decide +kernel
theorem dX12_isPaired_32 : decode cX12_isPaired 32 = .ok (.iconst 1, 1) := by decide +kernel
theorem dX12_isPaired_33 : decode cX12_isPaired 33 = .ok (.ireturn, 1) := by decide +kernel
theorem dX12_isPaired_34 : decode cX12_isPaired 34 = .ok (.iinc 2 1, 3) := by decide +kernel
theorem dX12_isPaired_37 : decode cX12_isPaired 37 = .ok (.goto (-35), 3) := by decide +kernel
theorem dX12_isPaired_40 : decode cX12_isPaired 40 = .ok (.iconst 0, 1) := by decide +kernel
theorem dX12_isPaired_41 : decode cX12_isPaired 41 = .ok (.ireturn, 1) := by decide +kernel
theorem dX12_goes_0 : decode cX12_goes 0 = .ok (.iconst 0, 1) := by decide +kernel
theorem dX12_goes_1 : decode cX12_goes 1 = .ok (.istore_n 2, 1) := by decide +kernel
theorem dX12_goes_2 : decode cX12_goes 2 = .ok (.iload_n 2, 1) := by decide +kernel
theorem dX12_goes_3 : decode cX12_goes 3 = .ok (.aload_n 0, 1) := by decide +kernel
theorem dX12_goes_4 : decode cX12_goes 4 = .ok (.getfield 16, 3) := by decide +kernel
theorem dX12_goes_7 : decode cX12_goes 7 = .ok (.iconst 0, 1) := by decide +kernel
theorem dX12_goes_8 : decode cX12_goes 8 = .ok (.iaload, 1) := by decide +kernel
theorem dX12_goes_9 : decode cX12_goes 9 = .ok (.if_icmp .ge 85, 3) := by decide +kernel
theorem dX12_goes_12 : decode cX12_goes 12 = .ok (.aload_n 0, 1) := by decide +kernel
theorem dX12_goes_13 : decode cX12_goes 13 = .ok (.getfield 41, 3) := by decide +kernel
theorem dX12_goes_16 : decode cX12_goes 16 = .ok (.iload_n 2, 1) := by decide +kernel
theorem dX12_goes_17 : decode cX12_goes 17 = .ok (.iaload, 1) := by decide +kernel
theorem dX12_goes_18 : decode cX12_goes 18 = .ok (.aload_n 0, 1) := by decide +kernel
theorem dX12_goes_19 : decode cX12_goes 19 = .ok (.getfield 47, 3) := by decide +kernel
theorem dX12_goes_22 : decode cX12_goes 22 = .ok (.iload_n 2, 1) := by decide +kernel
theorem dX12_goes_23 : decode cX12_goes 23 = .ok (.iaload, 1) := by decide +kernel
theorem dX12_goes_24 : decode cX12_goes 24 = .ok (.invokestatic 372, 3) := by decide +kernel
theorem dX12_goes_27 : decode cX12_goes 27 = .ok (.iload_n 1, 1) := by decide +kernel
theorem dX12_goes_28 : decode cX12_goes 28 = .ok (.if_icmp .eq 6, 3) := by decide +kernel
theorem dX12_goes_31 : decode cX12_goes 31 = .ok (.goto 57, 3) := by decide +kernel
theorem dX12_goes_34 : decode cX12_goes 34 = .ok (.aload_n 0, 1) := by decide +kernel
theorem dX12_goes_35 : decode cX12_goes 35 = .ok (.iload_n 2, 1) := by decide +kernel
theorem dX12_goes_36 : decode cX12_goes 36 = .ok (.aload_n 0, 1) := by decide +kernel
theorem dX12_goes_37 : decode cX12_goes 37 = .ok (.getfield 135, 3) := by decide +kernel
theorem dX12_goes_40 : decode cX12_goes 40 = .ok (.aload_n 0, 1) := by decide +kernel
theorem dX12_goes_41 : decode cX12_goes 41 = .ok (.getfield 41, 3) := by decide +kernel
theorem dX12_goes_44 : decode cX12_goes 44 = .ok (.iload_n 2, 1) := by decide +kernel
theorem dX12_goes_45 : decode cX12_goes 45 = .ok (.iaload, 1) := by decide +kernel
theorem dX12_goes_46 : decode cX12_goes 46 = .ok (.iaload, 1) := by decide +kernel
theorem dX12_goes_47 : decode cX12_goes 47 = .ok (.aload_n 0, 1) := by decide +kernel
theorem dX12_goes_48 : decode cX12_goes 48 = .ok (.getfield 56, 3) := by decide +kernel
theorem dX12_goes_51 : decode cX12_goes 51 = .ok (.bipush 10, 2) := by decide +kernel
theorem dX12_goes_53 : decode cX12_goes 53 = .ok (.iaload, 1) := by decide +kernel
theorem dX12_goes_54 : decode cX12_goes 54 = .ok (.imul, 1) := by decide +kernel
theorem dX12_goes_55 : decode cX12_goes 55 = .ok (.aload_n 0, 1) := by decide +kernel
theorem dX12_goes_56 : decode cX12_goes 56 = .ok (.getfield 135, 3) := by decide +kernel
theorem dX12_goes_59 : decode cX12_goes 59 = .ok (.aload_n 0, 1) := by decide +kernel
theorem dX12_goes_60 : decode cX12_goes 60 = .ok (.getfield 47, 3) := by decide +kernel
theorem dX12_goes_63 : decode cX12_goes 63 = .ok (.iload_n 2, 1) := by decide +kernel
theorem dX12_goes_64 : decode cX12_goes 64 = .ok (.iaload, 1) := by decide +kernel
theorem dX12_goes_65 : decode cX12_goes 65 = .ok (.iaload, 1) := by decide +kernel
theorem dX12_goes_66 : decode cX12_goes 66 = .ok (.aload_n 0, 1) := by decide +kernel
theorem dX12_goes_67 : decode cX12_goes 67 = .ok (.getfield 56, 3) := by decide +kernel
theorem dX12_goes_70 : decode cX12_goes 70 = .ok (.bipush 10, 2) := by decide +kernel
theorem dX12_goes_72 : decode cX12_goes 72 = .ok (.iaload, 1) := by decide +kernel
theorem dX12_goes_73 : decode cX12_goes 73 = .ok (.imul, 1) := by decide +kernel
theorem dX12_goes_74 : decode cX12_goes 74 = .ok (.invokevirtual 432, 3) := by decide +kernel
theorem dX12_goes_77 : decode cX12_goes 77 = .ok (.aload_n 0, 1) := by decide +kernel
theorem dX12_goes_78 : decode cX12_goes 78 = .ok (.getfield 53, 3) := by decide +kernel
theorem dX12_goes_81 : decode cX12_goes 81 = .ok (.iload_n 2, 1) := by decide +kernel
theorem dX12_goes_82 : decode cX12_goes 82 = .ok (.iaload, 1) := by decide +kernel
theorem dX12_goes_83 : decode cX12_goes 83 = .ok (.if_icmp .le 5, 3) := by decide +kernel
theorem dX12_goes_86 : decode cX12_goes 86 = .ok (.iconst 0, 1) := by decide +kernel
theorem dX12_goes_87 : decode cX12_goes 87 = .ok (.ireturn, 1) := by decide +kernel
theorem dX12_goes_88 : decode cX12_goes 88 = .ok (.iinc 2 1, 3) := by decide +kernel
theorem dX12_goes_91 : decode cX12_goes 91 = .ok (.goto (-89), 3) := by decide +kernel
theorem dX12_goes_94 : decode cX12_goes 94 = .ok (.iconst 1, 1) := by decide +kernel
theorem dX12_goes_95 : decode cX12_goes 95 = .ok (.ireturn, 1) := by decide +kernel
theorem dX12_grinds_0 : decode cX12_grinds 0 = .ok (.iload_n 2, 1) := by decide +kernel
theorem dX12_grinds_1 : decode cX12_grinds 1 = .ok (.aload_n 0, 1) := by decide +kernel
theorem dX12_grinds_2 : decode cX12_grinds 2 = .ok (.getfield 435, 3) := by decide +kernel
theorem dX12_grinds_5 : decode cX12_grinds 5 = .ok (.if_icmp .lt 4, 3) := by decide +kernel
theorem dX12_grinds_8 : decode cX12_grinds 8 = .ok (.return_, 1) := by decide +kernel
theorem dX12_grinds_9 : decode cX12_grinds 9 = .ok (.iload_n 1, 1) := by decide +kernel
theorem dX12_grinds_10 : decode cX12_grinds 10 = .ok (.aload_n 0, 1) := by decide +kernel
theorem dX12_grinds_11 : decode cX12_grinds 11 = .ok (.getfield 13, 3) := by decide +kernel
theorem dX12_grinds_14 : decode cX12_grinds 14 = .ok (.iconst 0, 1) := by decide +kernel
theorem dX12_grinds_15 : decode cX12_grinds 15 = .ok (.iaload, 1) := by decide +kernel
theorem dX12_grinds_16 : decode cX12_grinds 16 = .ok (.if_icmp .ne 35, 3) := by decide +kernel
theorem dX12_grinds_19 : decode cX12_grinds 19 = .ok (.aload_n 0, 1) := by decide +kernel
theorem dX12_grinds_20 : decode cX12_grinds 20 = .ok (.iload_n 2, 1) := by decide +kernel
theorem dX12_grinds_21 : decode cX12_grinds 21 = .ok (.putfield 435, 3) := by decide +kernel
theorem dX12_grinds_24 : decode cX12_grinds 24 = .ok (.iconst 0, 1) := by decide +kernel
theorem dX12_grinds_25 : decode cX12_grinds 25 = .ok (.istore_n 3, 1) := by decide +kernel
theorem dX12_grinds_26 : decode cX12_grinds 26 = .ok (.iload_n 3, 1) := by decide +kernel
theorem dX12_grinds_27 : decode cX12_grinds 27 = .ok (.bipush 12, 2) := by decide +kernel
theorem dX12_grinds_29 : decode cX12_grinds 29 = .ok (.if_icmp .ge 21, 3) := by decide +kernel
theorem dX12_grinds_32 : decode cX12_grinds 32 = .ok (.aload_n 0, 1) := by decide +kernel
theorem dX12_grinds_33 : decode cX12_grinds 33 = .ok (.getfield 138, 3) := by decide +kernel
theorem dX12_grinds_36 : decode cX12_grinds 36 = .ok (.iload_n 3, 1) := by decide +kernel
theorem dX12_grinds_37 : decode cX12_grinds 37 = .ok (.aload_n 0, 1) := by decide +kernel
theorem dX12_grinds_38 : decode cX12_grinds 38 = .ok (.getfield 135, 3) := by decide +kernel
theorem dX12_grinds_41 : decode cX12_grinds 41 = .ok (.iload_n 3, 1) := by decide +kernel
theorem dX12_grinds_42 : decode cX12_grinds 42 = .ok (.iaload, 1) := by decide +kernel
theorem dX12_grinds_43 : decode cX12_grinds 43 = .ok (.iastore, 1) := by decide +kernel
theorem dX12_grinds_44 : decode cX12_grinds 44 = .ok (.iinc 3 1, 3) := by decide +kernel
theorem dX12_grinds_47 : decode cX12_grinds 47 = .ok (.goto (-21), 3) := by decide +kernel
theorem dX12_grinds_50 : decode cX12_grinds 50 = .ok (.return_, 1) := by decide +kernel
theorem dX12_grinds_51 : decode cX12_grinds 51 = .ok (.aload_n 0, 1) := by decide +kernel
theorem dX12_grinds_52 : decode cX12_grinds 52 = .ok (.iload_n 1, 1) := by decide +kernel
theorem dX12_grinds_53 : decode cX12_grinds 53 = .ok (.invokevirtual 438, 3) := by decide +kernel
theorem dX12_grinds_56 : decode cX12_grinds 56 = .ok (.ifCond .eq 7, 3) := by decide +kernel
theorem dX12_grinds_59 : decode cX12_grinds 59 = .ok (.iconst 3, 1) := by decide +kernel
theorem dX12_grinds_60 : decode cX12_grinds 60 = .ok (.goto 4, 3) := by decide +kernel
theorem dX12_grinds_63 : decode cX12_grinds 63 = .ok (.iconst 0, 1) := by decide +kernel
theorem dX12_grinds_64 : decode cX12_grinds 64 = .ok (.istore_n 3, 1) := by decide +kernel
theorem dX12_grinds_65 : decode cX12_grinds 65 = .ok (.iload_n 3, 1) := by decide +kernel
theorem dX12_grinds_66 : decode cX12_grinds 66 = .ok (.ineg, 1) := by decide +kernel
theorem dX12_grinds_67 : decode cX12_grinds 67 = .ok (.istore 4, 2) := by decide +kernel
theorem dX12_grinds_69 : decode cX12_grinds 69 = .ok (.iload 4, 2) := by decide +kernel
theorem dX12_grinds_71 : decode cX12_grinds 71 = .ok (.iload_n 3, 1) := by decide +kernel
theorem dX12_grinds_72 : decode cX12_grinds 72 = .ok (.if_icmp .gt 81, 3) := by decide +kernel
theorem dX12_grinds_75 : decode cX12_grinds 75 = .ok (.aload_n 0, 1) := by decide +kernel
theorem dX12_grinds_76 : decode cX12_grinds 76 = .ok (.getfield 135, 3) := by decide +kernel
theorem dX12_grinds_79 : decode cX12_grinds 79 = .ok (.iload_n 1, 1) := by decide +kernel
theorem dX12_grinds_80 : decode cX12_grinds 80 = .ok (.iload 4, 2) := by decide +kernel
theorem dX12_grinds_82 : decode cX12_grinds 82 = .ok (.iastore, 1) := by decide +kernel
theorem dX12_grinds_83 : decode cX12_grinds 83 = .ok (.aload_n 0, 1) := by decide +kernel
theorem dX12_grinds_84 : decode cX12_grinds 84 = .ok (.getfield 26, 3) := by decide +kernel
theorem dX12_grinds_87 : decode cX12_grinds 87 = .ok (.iload_n 1, 1) := by decide +kernel
theorem dX12_grinds_88 : decode cX12_grinds 88 = .ok (.iaload, 1) := by decide +kernel
theorem dX12_grinds_89 : decode cX12_grinds 89 = .ok (.iload 4, 2) := by decide +kernel
theorem dX12_grinds_91 : decode cX12_grinds 91 = .ok (.aload_n 0, 1) := by decide +kernel
theorem dX12_grinds_92 : decode cX12_grinds 92 = .ok (.getfield 56, 3) := by decide +kernel
theorem dX12_grinds_95 : decode cX12_grinds 95 = .ok (.bipush 10, 2) := by decide +kernel
theorem dX12_grinds_97 : decode cX12_grinds 97 = .ok (.iaload, 1) := by decide +kernel
theorem dX12_grinds_98 : decode cX12_grinds 98 = .ok (.imul, 1) := by decide +kernel
theorem dX12_grinds_99 : decode cX12_grinds 99 = .ok (.iadd, 1) := by decide +kernel
theorem dX12_grinds_100 : decode cX12_grinds 100 = .ok (.iconst 1, 1) := by decide +kernel
theorem dX12_grinds_101 : decode cX12_grinds 101 = .ok (.sipush 9999, 3) := by decide +kernel
theorem dX12_grinds_104 : decode cX12_grinds 104 = .ok (.invokestatic 287, 3) := by decide +kernel
theorem dX12_grinds_107 : decode cX12_grinds 107 = .ok (.ifCond .eq 40, 3) := by decide +kernel
theorem dX12_grinds_110 : decode cX12_grinds 110 = .ok (.aload_n 0, 1) := by decide +kernel
theorem dX12_grinds_111 : decode cX12_grinds 111 = .ok (.iload_n 1, 1) := by decide +kernel
theorem dX12_grinds_112 : decode cX12_grinds 112 = .ok (.invokevirtual 441, 3) := by decide +kernel
theorem dX12_grinds_115 : decode cX12_grinds 115 = .ok (.ifCond .eq 32, 3) := by decide +kernel
theorem dX12_grinds_118 : decode cX12_grinds 118 = .ok (.aload_n 0, 1) := by decide +kernel
theorem dX12_grinds_119 : decode cX12_grinds 119 = .ok (.iload_n 1, 1) := by decide +kernel
theorem dX12_grinds_120 : decode cX12_grinds 120 = .ok (.iconst 1, 1) := by decide +kernel
theorem dX12_grinds_121 : decode cX12_grinds 121 = .ok (.iadd, 1) := by decide +kernel
theorem dX12_grinds_122 : decode cX12_grinds 122 = .ok (.iload_n 2, 1) := by decide +kernel
theorem dX12_grinds_123 : decode cX12_grinds 123 = .ok (.iload 4, 2) := by decide +kernel
theorem dX12_grinds_125 : decode cX12_grinds 125 = .ok (.ifCond .ge 9, 3) := by decide +kernel
theorem dX12_grinds_128 : decode cX12_grinds 128 = .ok (.iload 4, 2) := by decide +kernel
theorem dX12_grinds_130 : decode cX12_grinds 130 = .ok (.ineg, 1) := by decide +kernel
theorem dX12_grinds_131 : decode cX12_grinds 131 = .ok (.goto 5, 3) := by decide +kernel
theorem dX12_grinds_134 : decode cX12_grinds 134 = .ok (.iload 4, 2) := by decide +kernel
theorem dX12_grinds_136 : decode cX12_grinds 136 = .ok (.aload_n 0, 1) := by decide +kernel
theorem dX12_grinds_137 : decode cX12_grinds 137 = .ok (.getfield 29, 3) := by decide +kernel
theorem dX12_grinds_140 : decode cX12_grinds 140 = .ok (.iload_n 1, 1) := by decide +kernel
theorem dX12_grinds_141 : decode cX12_grinds 141 = .ok (.iaload, 1) := by decide +kernel
theorem dX12_grinds_142 : decode cX12_grinds 142 = .ok (.imul, 1) := by decide +kernel
theorem dX12_grinds_143 : decode cX12_grinds 143 = .ok (.iadd, 1) := by decide +kernel
theorem dX12_grinds_144 : decode cX12_grinds 144 = .ok (.invokevirtual 444, 3) := by decide +kernel
theorem dX12_grinds_147 : decode cX12_grinds 147 = .ok (.iinc 4 1, 3) := by decide +kernel
theorem dX12_grinds_150 : decode cX12_grinds 150 = .ok (.goto (-81), 3) := by decide +kernel
theorem dX12_grinds_153 : decode cX12_grinds 153 = .ok (.return_, 1) := by decide +kernel
theorem dX12_isGround_0 : decode cX12_isGround 0 = .ok (.iconst 0, 1) := by decide +kernel
theorem dX12_isGround_1 : decode cX12_isGround 1 = .ok (.istore_n 1, 1) := by decide +kernel
theorem dX12_isGround_2 : decode cX12_isGround 2 = .ok (.iconst 0, 1) := by decide +kernel
theorem dX12_isGround_3 : decode cX12_isGround 3 = .ok (.istore_n 2, 1) := by decide +kernel
theorem dX12_isGround_4 : decode cX12_isGround 4 = .ok (.iload_n 2, 1) := by decide +kernel
theorem dX12_isGround_5 : decode cX12_isGround 5 = .ok (.aload_n 0, 1) := by decide +kernel
theorem dX12_isGround_6 : decode cX12_isGround 6 = .ok (.getfield 13, 3) := by decide +kernel
theorem dX12_isGround_9 : decode cX12_isGround 9 = .ok (.iconst 0, 1) := by decide +kernel
theorem dX12_isGround_10 : decode cX12_isGround 10 = .ok (.iaload, 1) := by decide +kernel
theorem dX12_isGround_11 : decode cX12_isGround 11 = .ok (.if_icmp .ge 25, 3) := by decide +kernel
theorem dX12_isGround_14 : decode cX12_isGround 14 = .ok (.iload_n 1, 1) := by decide +kernel
theorem dX12_isGround_15 : decode cX12_isGround 15 = .ok (.aload_n 0, 1) := by decide +kernel
theorem dX12_isGround_16 : decode cX12_isGround 16 = .ok (.iload_n 2, 1) := by decide +kernel
theorem dX12_isGround_17 : decode cX12_isGround 17 = .ok (.invokevirtual 438, 3) := by decide +kernel
theorem dX12_isGround_20 : decode cX12_isGround 20 = .ok (.ifCond .eq 7, 3) := by decide +kernel
theorem dX12_isGround_23 : decode cX12_isGround 23 = .ok (.iconst 1, 1) := by decide +kernel
theorem dX12_isGround_24 : decode cX12_isGround 24 = .ok (.goto 4, 3) := by decide +kernel
theorem dX12_isGround_27 : decode cX12_isGround 27 = .ok (.iconst 0, 1) := by decide +kernel
theorem dX12_isGround_28 : decode cX12_isGround 28 = .ok (.iadd, 1) := by decide +kernel
theorem dX12_isGround_29 : decode cX12_isGround 29 = .ok (.istore_n 1, 1) := by decide +kernel
theorem dX12_isGround_30 : decode cX12_isGround 30 = .ok (.iinc 2 1, 3) := by decide +kernel
theorem dX12_isGround_33 : decode cX12_isGround 33 = .ok (.goto (-29), 3) := by decide +kernel
theorem dX12_isGround_36 : decode cX12_isGround 36 = .ok (.iload_n 1, 1) := by decide +kernel
theorem dX12_isGround_37 : decode cX12_isGround 37 = .ok (.bipush 8, 2) := by decide +kernel
theorem dX12_isGround_39 : decode cX12_isGround 39 = .ok (.if_icmp .le 5, 3) := by decide +kernel
theorem dX12_isGround_42 : decode cX12_isGround 42 = .ok (.iconst 0, 1) := by decide +kernel
theorem dX12_isGround_43 : decode cX12_isGround 43 = .ok (.ireturn, 1) := by decide +kernel
theorem dX12_isGround_44 : decode cX12_isGround 44 = .ok (.aload_n 0, 1) := by decide +kernel
theorem dX12_isGround_45 : decode cX12_isGround 45 = .ok (.ldc_w 371, 3) := by decide +kernel
theorem dX12_isGround_48 : decode cX12_isGround 48 = .ok (.putfield 435, 3) := by decide +kernel
theorem dX12_isGround_51 : decode cX12_isGround 51 = .ok (.aload_n 0, 1) := by decide +kernel
theorem dX12_isGround_52 : decode cX12_isGround 52 = .ok (.iconst 0, 1) := by decide +kernel
theorem dX12_isGround_53 : decode cX12_isGround 53 = .ok (.iconst 0, 1) := by decide +kernel
theorem dX12_isGround_54 : decode cX12_isGround 54 = .ok (.invokevirtual 444, 3) := by decide +kernel
theorem dX12_isGround_57 : decode cX12_isGround 57 = .ok (.aload_n 0, 1) := by decide +kernel
theorem dX12_isGround_58 : decode cX12_isGround 58 = .ok (.getfield 435, 3) := by decide +kernel
theorem dX12_isGround_61 : decode cX12_isGround 61 = .ok (.ldc_w 371, 3) := by decide +kernel
theorem dX12_isGround_64 : decode cX12_isGround 64 = .ok (.if_icmp .ge 7, 3) := by decide +kernel
theorem dX12_isGround_67 : decode cX12_isGround 67 = .ok (.iconst 1, 1) := by decide +kernel
theorem dX12_isGround_68 : decode cX12_isGround 68 = .ok (.goto 4, 3) := by decide +kernel
theorem dX12_isGround_71 : decode cX12_isGround 71 = .ok (.iconst 0, 1) := by decide +kernel
theorem dX12_isGround_72 : decode cX12_isGround 72 = .ok (.ireturn, 1) := by decide +kernel
theorem dX12_ground_0 : decode cX12_ground 0 = .ok (.aload_n 0, 1) := by decide +kernel
theorem dX12_ground_1 : decode cX12_ground 1 = .ok (.iconst 0, 1) := by decide +kernel
theorem dX12_ground_2 : decode cX12_ground 2 = .ok (.putfield 157, 3) := by decide +kernel
theorem dX12_ground_5 : decode cX12_ground 5 = .ok (.aload_n 0, 1) := by decide +kernel
theorem dX12_ground_6 : decode cX12_ground 6 = .ok (.invokevirtual 446, 3) := by decide +kernel
theorem dX12_ground_9 : decode cX12_ground 9 = .ok (.ifCond .eq 10, 3) := by decide +kernel
theorem dX12_ground_12 : decode cX12_ground 12 = .ok (.aload_n 0, 1) := by decide +kernel
theorem dX12_ground_13 : decode cX12_ground 13 = .ok (.getfield 435, 3) := by decide +kernel
theorem dX12_ground_16 : decode cX12_ground 16 = .ok (.goto 4, 3) := by decide +kernel
theorem dX12_ground_19 : decode cX12_ground 19 = .ok (.iconst (-1), 1) := by decide +kernel
theorem dX12_ground_20 : decode cX12_ground 20 = .ok (.ireturn, 1) := by decide +kernel
theorem dX12_groundOf_0 : decode cX12_groundOf 0 = .ok (.aload_n 0, 1) := by decide +kernel
theorem dX12_groundOf_1 : decode cX12_groundOf 1 = .ok (.aload_n 0, 1) := by decide +kernel
theorem dX12_groundOf_2 : decode cX12_groundOf 2 = .ok (.iload_n 1, 1) := by decide +kernel
theorem dX12_groundOf_3 : decode cX12_groundOf 3 = .ok (.invokevirtual 346, 3) := by decide +kernel
theorem dX12_groundOf_6 : decode cX12_groundOf 6 = .ok (.ifCond .eq 14, 3) := by decide +kernel
theorem dX12_groundOf_9 : decode cX12_groundOf 9 = .ok (.aload_n 0, 1) := by decide +kernel
theorem dX12_groundOf_10 : decode cX12_groundOf 10 = .ok (.invokevirtual 446, 3) := by decide +kernel
theorem dX12_groundOf_13 : decode cX12_groundOf 13 = .ok (.ifCond .eq 7, 3) := by decide +kernel
theorem dX12_groundOf_16 : decode cX12_groundOf 16 = .ok (.iconst 0, 1) := by decide +kernel
theorem dX12_groundOf_17 : decode cX12_groundOf 17 = .ok (.goto 4, 3) := by decide +kernel
theorem dX12_groundOf_20 : decode cX12_groundOf 20 = .ok (.iconst 1, 1) := by decide +kernel
theorem dX12_groundOf_21 : decode cX12_groundOf 21 = .ok (.putfield 157, 3) := by decide +kernel
theorem dX12_groundOf_24 : decode cX12_groundOf 24 = .ok (.aload_n 0, 1) := by decide +kernel
theorem dX12_groundOf_25 : decode cX12_groundOf 25 = .ok (.getfield 157, 3) := by decide +kernel
theorem dX12_groundOf_28 : decode cX12_groundOf 28 = .ok (.iconst 1, 1) := by decide +kernel
theorem dX12_groundOf_29 : decode cX12_groundOf 29 = .ok (.if_icmp .ne 7, 3) := by decide +kernel
theorem dX12_groundOf_32 : decode cX12_groundOf 32 = .ok (.iconst 0, 1) := by decide +kernel
theorem dX12_groundOf_33 : decode cX12_groundOf 33 = .ok (.goto 9, 3) := by decide +kernel
theorem dX12_groundOf_36 : decode cX12_groundOf 36 = .ok (.aload_n 0, 1) := by decide +kernel
theorem dX12_groundOf_37 : decode cX12_groundOf 37 = .ok (.getfield 138, 3) := by decide +kernel
theorem dX12_groundOf_40 : decode cX12_groundOf 40 = .ok (.iload_n 1, 1) := by decide +kernel
theorem dX12_groundOf_41 : decode cX12_groundOf 41 = .ok (.iaload, 1) := by decide +kernel
theorem dX12_groundOf_42 : decode cX12_groundOf 42 = .ok (.ireturn, 1) := by decide +kernel
theorem dX12_spare_0 : decode cX12_spare 0 = .ok (.aload_n 0, 1) := by decide +kernel
theorem dX12_spare_1 : decode cX12_spare 1 = .ok (.iconst 0, 1) := by decide +kernel
theorem dX12_spare_2 : decode cX12_spare 2 = .ok (.putfield 157, 3) := by decide +kernel
theorem dX12_spare_5 : decode cX12_spare 5 = .ok (.aload_n 0, 1) := by decide +kernel
theorem dX12_spare_6 : decode cX12_spare 6 = .ok (.iload_n 1, 1) := by decide +kernel
theorem dX12_spare_7 : decode cX12_spare 7 = .ok (.invokevirtual 352, 3) := by decide +kernel
theorem dX12_spare_10 : decode cX12_spare 10 = .ok (.ifCond .ne 5, 3) := by decide +kernel
theorem dX12_spare_13 : decode cX12_spare 13 = .ok (.iconst (-1), 1) := by decide +kernel
theorem dX12_spare_14 : decode cX12_spare 14 = .ok (.ireturn, 1) := by decide +kernel
theorem dX12_spare_15 : decode cX12_spare 15 = .ok (.iconst (-1), 1) := by decide +kernel
theorem dX12_spare_16 : decode cX12_spare 16 = .ok (.istore_n 2, 1) := by decide +kernel
theorem dX12_spare_17 : decode cX12_spare 17 = .ok (.iconst 0, 1) := by decide +kernel
theorem dX12_spare_18 : decode cX12_spare 18 = .ok (.istore_n 3, 1) := by decide +kernel
theorem dX12_spare_19 : decode cX12_spare 19 = .ok (.iload_n 3, 1) := by decide +kernel
theorem dX12_spare_20 : decode cX12_spare 20 = .ok (.aload_n 0, 1) := by decide +kernel
theorem dX12_spare_21 : decode cX12_spare 21 = .ok (.getfield 13, 3) := by decide +kernel
theorem dX12_spare_24 : decode cX12_spare 24 = .ok (.iconst 0, 1) := by decide +kernel
theorem dX12_spare_25 : decode cX12_spare 25 = .ok (.iaload, 1) := by decide +kernel
theorem dX12_spare_26 : decode cX12_spare 26 = .ok (.if_icmp .ge 60, 3) := by decide +kernel
theorem dX12_spare_29 : decode cX12_spare 29 = .ok (.aload_n 0, 1) := by decide +kernel
theorem dX12_spare_30 : decode cX12_spare 30 = .ok (.getfield 38, 3) := by decide +kernel
theorem dX12_spare_33 : decode cX12_spare 33 = .ok (.iload_n 3, 1) := by decide +kernel
theorem dX12_spare_34 : decode cX12_spare 34 = .ok (.iaload, 1) := by decide +kernel
theorem dX12_spare_35 : decode cX12_spare 35 = .ok (.ifCond .ge 45, 3) := by decide +kernel
theorem dX12_spare_38 : decode cX12_spare 38 = .ok (.iload_n 2, 1) := by decide +kernel
theorem dX12_spare_39 : decode cX12_spare 39 = .ok (.ifCond .lt 39, 3) := by decide +kernel
theorem dX12_spare_42 : decode cX12_spare 42 = .ok (.aload_n 0, 1) := by decide +kernel
theorem dX12_spare_43 : decode cX12_spare 43 = .ok (.getfield 26, 3) := by decide +kernel
theorem dX12_spare_46 : decode cX12_spare 46 = .ok (.iload_n 3, 1) := by decide +kernel
theorem dX12_spare_47 : decode cX12_spare 47 = .ok (.iaload, 1) := by decide +kernel
theorem dX12_spare_48 : decode cX12_spare 48 = .ok (.aload_n 0, 1) := by decide +kernel
theorem dX12_spare_49 : decode cX12_spare 49 = .ok (.getfield 26, 3) := by decide +kernel
theorem dX12_spare_52 : decode cX12_spare 52 = .ok (.iload_n 1, 1) := by decide +kernel
theorem dX12_spare_53 : decode cX12_spare 53 = .ok (.iaload, 1) := by decide +kernel
theorem dX12_spare_54 : decode cX12_spare 54 = .ok (.invokestatic 399, 3) := by decide +kernel
theorem dX12_spare_57 : decode cX12_spare 57 = .ok (.aload_n 0, 1) := by decide +kernel
theorem dX12_spare_58 : decode cX12_spare 58 = .ok (.getfield 26, 3) := by decide +kernel
theorem dX12_spare_61 : decode cX12_spare 61 = .ok (.iload_n 2, 1) := by decide +kernel
theorem dX12_spare_62 : decode cX12_spare 62 = .ok (.iaload, 1) := by decide +kernel
theorem dX12_spare_63 : decode cX12_spare 63 = .ok (.aload_n 0, 1) := by decide +kernel
theorem dX12_spare_64 : decode cX12_spare 64 = .ok (.getfield 26, 3) := by decide +kernel
theorem dX12_spare_67 : decode cX12_spare 67 = .ok (.iload_n 1, 1) := by decide +kernel
theorem dX12_spare_68 : decode cX12_spare 68 = .ok (.iaload, 1) := by decide +kernel
theorem dX12_spare_69 : decode cX12_spare 69 = .ok (.invokestatic 399, 3) := by decide +kernel
theorem dX12_spare_72 : decode cX12_spare 72 = .ok (.if_icmp .lt 6, 3) := by decide +kernel
theorem dX12_spare_75 : decode cX12_spare 75 = .ok (.goto 5, 3) := by decide +kernel
theorem dX12_spare_78 : decode cX12_spare 78 = .ok (.iload_n 3, 1) := by decide +kernel
theorem dX12_spare_79 : decode cX12_spare 79 = .ok (.istore_n 2, 1) := by decide +kernel
theorem dX12_spare_80 : decode cX12_spare 80 = .ok (.iinc 3 1, 3) := by decide +kernel
theorem dX12_spare_83 : decode cX12_spare 83 = .ok (.goto (-64), 3) := by decide +kernel
theorem dX12_spare_86 : decode cX12_spare 86 = .ok (.iload_n 2, 1) := by decide +kernel
theorem dX12_spare_87 : decode cX12_spare 87 = .ok (.ireturn, 1) := by decide +kernel
theorem dX12_exchange_0 : decode cX12_exchange 0 = .ok (.aload_n 0, 1) := by decide +kernel
theorem dX12_exchange_1 : decode cX12_exchange 1 = .ok (.iconst 0, 1) := by decide +kernel
theorem dX12_exchange_2 : decode cX12_exchange 2 = .ok (.putfield 157, 3) := by decide +kernel
theorem dX12_exchange_5 : decode cX12_exchange 5 = .ok (.aload_n 0, 1) := by decide +kernel
theorem dX12_exchange_6 : decode cX12_exchange 6 = .ok (.iload_n 1, 1) := by decide +kernel
theorem dX12_exchange_7 : decode cX12_exchange 7 = .ok (.invokevirtual 352, 3) := by decide +kernel
theorem dX12_exchange_10 : decode cX12_exchange 10 = .ok (.ifCond .eq 20, 3) := by decide +kernel
theorem dX12_exchange_13 : decode cX12_exchange 13 = .ok (.aload_n 0, 1) := by decide +kernel
theorem dX12_exchange_14 : decode cX12_exchange 14 = .ok (.iload_n 2, 1) := by decide +kernel
theorem dX12_exchange_15 : decode cX12_exchange 15 = .ok (.invokevirtual 346, 3) := by decide +kernel
theorem dX12_exchange_18 : decode cX12_exchange 18 = .ok (.ifCond .eq 12, 3) := by decide +kernel
theorem dX12_exchange_21 : decode cX12_exchange 21 = .ok (.aload_n 0, 1) := by decide +kernel
theorem dX12_exchange_22 : decode cX12_exchange 22 = .ok (.getfield 38, 3) := by decide +kernel
theorem dX12_exchange_25 : decode cX12_exchange 25 = .ok (.iload_n 2, 1) := by decide +kernel
theorem dX12_exchange_26 : decode cX12_exchange 26 = .ok (.iaload, 1) := by decide +kernel
theorem dX12_exchange_27 : decode cX12_exchange 27 = .ok (.ifCond .lt 5, 3) := by decide +kernel
theorem dX12_exchange_30 : decode cX12_exchange 30 = .ok (.iconst 0, 1) := by decide +kernel
theorem dX12_exchange_31 : decode cX12_exchange 31 = .ok (.ireturn, 1) := by decide +kernel
theorem dX12_exchange_32 : decode cX12_exchange 32 = .ok (.aload_n 0, 1) := by decide +kernel
theorem dX12_exchange_33 : decode cX12_exchange 33 = .ok (.getfield 38, 3) := by decide +kernel
theorem dX12_exchange_36 : decode cX12_exchange 36 = .ok (.iload_n 2, 1) := by decide +kernel
theorem dX12_exchange_37 : decode cX12_exchange 37 = .ok (.aload_n 0, 1) := by decide +kernel
theorem dX12_exchange_38 : decode cX12_exchange 38 = .ok (.getfield 38, 3) := by decide +kernel
theorem dX12_exchange_41 : decode cX12_exchange 41 = .ok (.iload_n 1, 1) := by decide +kernel
theorem dX12_exchange_42 : decode cX12_exchange 42 = .ok (.iaload, 1) := by decide +kernel
theorem dX12_exchange_43 : decode cX12_exchange 43 = .ok (.iastore, 1) := by decide +kernel
theorem dX12_exchange_44 : decode cX12_exchange 44 = .ok (.aload_n 0, 1) := by decide +kernel
theorem dX12_exchange_45 : decode cX12_exchange 45 = .ok (.getfield 38, 3) := by decide +kernel
theorem dX12_exchange_48 : decode cX12_exchange 48 = .ok (.iload_n 1, 1) := by decide +kernel
theorem dX12_exchange_49 : decode cX12_exchange 49 = .ok (.iconst (-1), 1) := by decide +kernel
theorem dX12_exchange_50 : decode cX12_exchange 50 = .ok (.iastore, 1) := by decide +kernel
theorem dX12_exchange_51 : decode cX12_exchange 51 = .ok (.aload_n 0, 1) := by decide +kernel
theorem dX12_exchange_52 : decode cX12_exchange 52 = .ok (.getfield 35, 3) := by decide +kernel
theorem dX12_exchange_55 : decode cX12_exchange 55 = .ok (.iload_n 2, 1) := by decide +kernel
theorem dX12_exchange_56 : decode cX12_exchange 56 = .ok (.iconst 0, 1) := by decide +kernel
theorem dX12_exchange_57 : decode cX12_exchange 57 = .ok (.iastore, 1) := by decide +kernel
theorem dX12_exchange_58 : decode cX12_exchange 58 = .ok (.aload_n 0, 1) := by decide +kernel
theorem dX12_exchange_59 : decode cX12_exchange 59 = .ok (.getfield 35, 3) := by decide +kernel
theorem dX12_exchange_62 : decode cX12_exchange 62 = .ok (.iload_n 1, 1) := by decide +kernel
theorem dX12_exchange_63 : decode cX12_exchange 63 = .ok (.iconst 3, 1) := by decide +kernel
theorem dX12_exchange_64 : decode cX12_exchange 64 = .ok (.iastore, 1) := by decide +kernel
theorem dX12_exchange_65 : decode cX12_exchange 65 = .ok (.iconst 0, 1) := by decide +kernel
theorem dX12_exchange_66 : decode cX12_exchange 66 = .ok (.istore_n 3, 1) := by decide +kernel
theorem dX12_exchange_67 : decode cX12_exchange 67 = .ok (.iload_n 3, 1) := by decide +kernel
theorem dX12_exchange_68 : decode cX12_exchange 68 = .ok (.aload_n 0, 1) := by decide +kernel
theorem dX12_exchange_69 : decode cX12_exchange 69 = .ok (.getfield 343, 3) := by decide +kernel
theorem dX12_exchange_72 : decode cX12_exchange 72 = .ok (.if_icmp .ge 35, 3) := by decide +kernel
theorem dX12_exchange_75 : decode cX12_exchange 75 = .ok (.aload_n 0, 1) := by decide +kernel
theorem dX12_exchange_76 : decode cX12_exchange 76 = .ok (.getfield 108, 3) := by decide +kernel
theorem dX12_exchange_79 : decode cX12_exchange 79 = .ok (.iload_n 3, 1) := by decide +kernel
theorem dX12_exchange_80 : decode cX12_exchange 80 = .ok (.aload_n 0, 1) := by decide +kernel
theorem dX12_exchange_81 : decode cX12_exchange 81 = .ok (.getfield 108, 3) := by decide +kernel
theorem dX12_exchange_84 : decode cX12_exchange 84 = .ok (.iload_n 3, 1) := by decide +kernel
theorem dX12_exchange_85 : decode cX12_exchange 85 = .ok (.iaload, 1) := by decide +kernel
theorem dX12_exchange_86 : decode cX12_exchange 86 = .ok (.iload_n 1, 1) := by decide +kernel
theorem dX12_exchange_87 : decode cX12_exchange 87 = .ok (.if_icmp .ne 7, 3) := by decide +kernel
theorem dX12_exchange_90 : decode cX12_exchange 90 = .ok (.iload_n 2, 1) := by decide +kernel
theorem dX12_exchange_91 : decode cX12_exchange 91 = .ok (.goto 9, 3) := by decide +kernel
theorem dX12_exchange_94 : decode cX12_exchange 94 = .ok (.aload_n 0, 1) := by decide +kernel
theorem dX12_exchange_95 : decode cX12_exchange 95 = .ok (.getfield 108, 3) := by decide +kernel
theorem dX12_exchange_98 : decode cX12_exchange 98 = .ok (.iload_n 3, 1) := by decide +kernel
theorem dX12_exchange_99 : decode cX12_exchange 99 = .ok (.iaload, 1) := by decide +kernel
theorem dX12_exchange_100 : decode cX12_exchange 100 = .ok (.iastore, 1) := by decide +kernel
theorem dX12_exchange_101 : decode cX12_exchange 101 = .ok (.iinc 3 1, 3) := by decide +kernel
theorem dX12_exchange_104 : decode cX12_exchange 104 = .ok (.goto (-37), 3) := by decide +kernel
theorem dX12_exchange_107 : decode cX12_exchange 107 = .ok (.iconst 1, 1) := by decide +kernel
theorem dX12_exchange_108 : decode cX12_exchange 108 = .ok (.ireturn, 1) := by decide +kernel
theorem dX12_moved_0 : decode cX12_moved 0 = .ok (.aload_n 0, 1) := by decide +kernel
theorem dX12_moved_1 : decode cX12_moved 1 = .ok (.iconst 0, 1) := by decide +kernel
theorem dX12_moved_2 : decode cX12_moved 2 = .ok (.putfield 157, 3) := by decide +kernel
theorem dX12_moved_5 : decode cX12_moved 5 = .ok (.iconst 0, 1) := by decide +kernel
theorem dX12_moved_6 : decode cX12_moved 6 = .ok (.istore_n 1, 1) := by decide +kernel
theorem dX12_moved_7 : decode cX12_moved 7 = .ok (.iconst 1, 1) := by decide +kernel
theorem dX12_moved_8 : decode cX12_moved 8 = .ok (.istore_n 2, 1) := by decide +kernel
theorem dX12_moved_9 : decode cX12_moved 9 = .ok (.iload_n 2, 1) := by decide +kernel
theorem dX12_moved_10 : decode cX12_moved 10 = .ok (.aload_n 0, 1) := by decide +kernel
theorem dX12_moved_11 : decode cX12_moved 11 = .ok (.getfield 343, 3) := by decide +kernel
theorem dX12_moved_14 : decode cX12_moved 14 = .ok (.if_icmp .ge 27, 3) := by decide +kernel
theorem dX12_moved_17 : decode cX12_moved 17 = .ok (.iload_n 1, 1) := by decide +kernel
theorem dX12_moved_18 : decode cX12_moved 18 = .ok (.aload_n 0, 1) := by decide +kernel
theorem dX12_moved_19 : decode cX12_moved 19 = .ok (.iload_n 2, 1) := by decide +kernel
theorem dX12_moved_20 : decode cX12_moved 20 = .ok (.invokevirtual 411, 3) := by decide +kernel
theorem dX12_moved_23 : decode cX12_moved 23 = .ok (.aload_n 0, 1) := by decide +kernel
theorem dX12_moved_24 : decode cX12_moved 24 = .ok (.iload_n 2, 1) := by decide +kernel
theorem dX12_moved_25 : decode cX12_moved 25 = .ok (.iconst 1, 1) := by decide +kernel
theorem dX12_moved_26 : decode cX12_moved 26 = .ok (.isub, 1) := by decide +kernel
theorem dX12_moved_27 : decode cX12_moved 27 = .ok (.invokevirtual 411, 3) := by decide +kernel
theorem dX12_moved_30 : decode cX12_moved 30 = .ok (.invokestatic 399, 3) := by decide +kernel
theorem dX12_moved_33 : decode cX12_moved 33 = .ok (.iadd, 1) := by decide +kernel
theorem dX12_moved_34 : decode cX12_moved 34 = .ok (.istore_n 1, 1) := by decide +kernel
theorem dX12_moved_35 : decode cX12_moved 35 = .ok (.iinc 2 1, 3) := by decide +kernel
theorem dX12_moved_38 : decode cX12_moved 38 = .ok (.goto (-29), 3) := by decide +kernel
theorem dX12_moved_41 : decode cX12_moved 41 = .ok (.iload_n 1, 1) := by decide +kernel
theorem dX12_moved_42 : decode cX12_moved 42 = .ok (.ireturn, 1) := by decide +kernel
theorem dX12_lines_0 : decode cX12_lines 0 = .ok (.iconst 0, 1) := by decide +kernel
theorem dX12_lines_1 : decode cX12_lines 1 = .ok (.istore_n 3, 1) := by decide +kernel
theorem dX12_lines_2 : decode cX12_lines 2 = .ok (.iconst 1, 1) := by decide +kernel
theorem dX12_lines_3 : decode cX12_lines 3 = .ok (.istore 4, 2) := by decide +kernel
theorem dX12_lines_5 : decode cX12_lines 5 = .ok (.iload 4, 2) := by decide +kernel
theorem dX12_lines_7 : decode cX12_lines 7 = .ok (.aload_n 0, 1) := by decide +kernel
theorem dX12_lines_8 : decode cX12_lines 8 = .ok (.getfield 343, 3) := by decide +kernel
theorem dX12_lines_11 : decode cX12_lines 11 = .ok (.if_icmp .ge 77, 3) := by decide +kernel
theorem dX12_lines_14 : decode cX12_lines 14 = .ok (.iload_n 3, 1) := by decide +kernel
theorem dX12_lines_15 : decode cX12_lines 15 = .ok (.aload_n 0, 1) := by decide +kernel
theorem dX12_lines_16 : decode cX12_lines 16 = .ok (.getfield 141, 3) := by decide +kernel
theorem dX12_lines_19 : decode cX12_lines 19 = .ok (.aload_n 0, 1) := by decide +kernel
theorem dX12_lines_20 : decode cX12_lines 20 = .ok (.getfield 108, 3) := by decide +kernel
theorem dX12_lines_23 : decode cX12_lines 23 = .ok (.iload 4, 2) := by decide +kernel
theorem dX12_lines_25 : decode cX12_lines 25 = .ok (.iaload, 1) := by decide +kernel
theorem dX12_lines_26 : decode cX12_lines 26 = .ok (.iaload, 1) := by decide +kernel
theorem dX12_lines_27 : decode cX12_lines 27 = .ok (.ifCond .lt 52, 3) := by decide +kernel
theorem dX12_lines_30 : decode cX12_lines 30 = .ok (.aload_n 0, 1) := by decide +kernel
theorem dX12_lines_31 : decode cX12_lines 31 = .ok (.getfield 141, 3) := by decide +kernel
theorem dX12_lines_34 : decode cX12_lines 34 = .ok (.aload_n 0, 1) := by decide +kernel
theorem dX12_lines_35 : decode cX12_lines 35 = .ok (.getfield 108, 3) := by decide +kernel
theorem dX12_lines_38 : decode cX12_lines 38 = .ok (.iload 4, 2) := by decide +kernel
theorem dX12_lines_40 : decode cX12_lines 40 = .ok (.iconst 1, 1) := by decide +kernel
theorem dX12_lines_41 : decode cX12_lines 41 = .ok (.isub, 1) := by decide +kernel
theorem dX12_lines_42 : decode cX12_lines 42 = .ok (.iaload, 1) := by decide +kernel
theorem dX12_lines_43 : decode cX12_lines 43 = .ok (.iaload, 1) := by decide +kernel
theorem dX12_lines_44 : decode cX12_lines 44 = .ok (.ifCond .lt 35, 3) := by decide +kernel
theorem dX12_lines_47 : decode cX12_lines 47 = .ok (.aload_n 0, 1) := by decide +kernel
theorem dX12_lines_48 : decode cX12_lines 48 = .ok (.getfield 141, 3) := by decide +kernel
theorem dX12_lines_51 : decode cX12_lines 51 = .ok (.aload_n 0, 1) := by decide +kernel
theorem dX12_lines_52 : decode cX12_lines 52 = .ok (.getfield 108, 3) := by decide +kernel
theorem dX12_lines_55 : decode cX12_lines 55 = .ok (.iload 4, 2) := by decide +kernel
theorem dX12_lines_57 : decode cX12_lines 57 = .ok (.iaload, 1) := by decide +kernel
theorem dX12_lines_58 : decode cX12_lines 58 = .ok (.iaload, 1) := by decide +kernel
theorem dX12_lines_59 : decode cX12_lines 59 = .ok (.aload_n 0, 1) := by decide +kernel
theorem dX12_lines_60 : decode cX12_lines 60 = .ok (.getfield 141, 3) := by decide +kernel
theorem dX12_lines_63 : decode cX12_lines 63 = .ok (.aload_n 0, 1) := by decide +kernel
theorem dX12_lines_64 : decode cX12_lines 64 = .ok (.getfield 108, 3) := by decide +kernel
theorem dX12_lines_67 : decode cX12_lines 67 = .ok (.iload 4, 2) := by decide +kernel
theorem dX12_lines_69 : decode cX12_lines 69 = .ok (.iconst 1, 1) := by decide +kernel
theorem dX12_lines_70 : decode cX12_lines 70 = .ok (.isub, 1) := by decide +kernel
theorem dX12_lines_71 : decode cX12_lines 71 = .ok (.iaload, 1) := by decide +kernel
theorem dX12_lines_72 : decode cX12_lines 72 = .ok (.iaload, 1) := by decide +kernel
theorem dX12_lines_73 : decode cX12_lines 73 = .ok (.invokestatic 399, 3) := by decide +kernel
theorem dX12_lines_76 : decode cX12_lines 76 = .ok (.goto 4, 3) := by decide +kernel
theorem dX12_lines_79 : decode cX12_lines 79 = .ok (.iconst 0, 1) := by decide +kernel
theorem dX12_lines_80 : decode cX12_lines 80 = .ok (.iadd, 1) := by decide +kernel
theorem dX12_lines_81 : decode cX12_lines 81 = .ok (.istore_n 3, 1) := by decide +kernel
theorem dX12_lines_82 : decode cX12_lines 82 = .ok (.iinc 4 1, 3) := by decide +kernel
theorem dX12_lines_85 : decode cX12_lines 85 = .ok (.goto (-80), 3) := by decide +kernel
theorem dX12_lines_88 : decode cX12_lines 88 = .ok (.iload_n 3, 1) := by decide +kernel
theorem dX12_lines_89 : decode cX12_lines 89 = .ok (.aload_n 0, 1) := by decide +kernel
theorem dX12_lines_90 : decode cX12_lines 90 = .ok (.getfield 449, 3) := by decide +kernel
theorem dX12_lines_93 : decode cX12_lines 93 = .ok (.if_icmp .lt 4, 3) := by decide +kernel
theorem dX12_lines_96 : decode cX12_lines 96 = .ok (.return_, 1) := by decide +kernel
theorem dX12_lines_97 : decode cX12_lines 97 = .ok (.iload_n 1, 1) := by decide +kernel
theorem dX12_lines_98 : decode cX12_lines 98 = .ok (.iload_n 2, 1) := by decide +kernel
theorem dX12_lines_99 : decode cX12_lines 99 = .ok (.if_icmp .ne 39, 3) := by decide +kernel
theorem dX12_lines_102 : decode cX12_lines 102 = .ok (.aload_n 0, 1) := by decide +kernel
theorem dX12_lines_103 : decode cX12_lines 103 = .ok (.iload_n 3, 1) := by decide +kernel
theorem dX12_lines_104 : decode cX12_lines 104 = .ok (.putfield 449, 3) := by decide +kernel
theorem dX12_lines_107 : decode cX12_lines 107 = .ok (.iconst 0, 1) := by decide +kernel
theorem dX12_lines_108 : decode cX12_lines 108 = .ok (.istore 4, 2) := by decide +kernel
theorem dX12_lines_110 : decode cX12_lines 110 = .ok (.iload 4, 2) := by decide +kernel
theorem dX12_lines_112 : decode cX12_lines 112 = .ok (.bipush 12, 2) := by decide +kernel
theorem dX12_lines_114 : decode cX12_lines 114 = .ok (.if_icmp .ge 23, 3) := by decide +kernel
theorem dX12_lines_117 : decode cX12_lines 117 = .ok (.aload_n 0, 1) := by decide +kernel
theorem dX12_lines_118 : decode cX12_lines 118 = .ok (.getfield 144, 3) := by decide +kernel
theorem dX12_lines_121 : decode cX12_lines 121 = .ok (.iload 4, 2) := by decide +kernel
theorem dX12_lines_123 : decode cX12_lines 123 = .ok (.aload_n 0, 1) := by decide +kernel
theorem dX12_lines_124 : decode cX12_lines 124 = .ok (.getfield 141, 3) := by decide +kernel
theorem dX12_lines_127 : decode cX12_lines 127 = .ok (.iload 4, 2) := by decide +kernel
theorem dX12_lines_129 : decode cX12_lines 129 = .ok (.iaload, 1) := by decide +kernel
theorem dX12_lines_130 : decode cX12_lines 130 = .ok (.iastore, 1) := by decide +kernel
theorem dX12_lines_131 : decode cX12_lines 131 = .ok (.iinc 4 1, 3) := by decide +kernel
theorem dX12_lines_134 : decode cX12_lines 134 = .ok (.goto (-24), 3) := by decide +kernel
theorem dX12_lines_137 : decode cX12_lines 137 = .ok (.return_, 1) := by decide +kernel
theorem dX12_lines_138 : decode cX12_lines 138 = .ok (.iconst 0, 1) := by decide +kernel
theorem dX12_lines_139 : decode cX12_lines 139 = .ok (.istore 4, 2) := by decide +kernel
theorem dX12_lines_141 : decode cX12_lines 141 = .ok (.iload 4, 2) := by decide +kernel
theorem dX12_lines_143 : decode cX12_lines 143 = .ok (.aload_n 0, 1) := by decide +kernel
theorem dX12_lines_144 : decode cX12_lines 144 = .ok (.getfield 13, 3) := by decide +kernel
theorem dX12_lines_147 : decode cX12_lines 147 = .ok (.iconst 0, 1) := by decide +kernel
theorem dX12_lines_148 : decode cX12_lines 148 = .ok (.iaload, 1) := by decide +kernel
theorem dX12_lines_149 : decode cX12_lines 149 = .ok (.if_icmp .ge 56, 3) := by decide +kernel
theorem dX12_lines_152 : decode cX12_lines 152 = .ok (.aload_n 0, 1) := by decide +kernel
theorem dX12_lines_153 : decode cX12_lines 153 = .ok (.getfield 38, 3) := by decide +kernel
theorem dX12_lines_156 : decode cX12_lines 156 = .ok (.iload 4, 2) := by decide +kernel
theorem dX12_lines_158 : decode cX12_lines 158 = .ok (.iaload, 1) := by decide +kernel
theorem dX12_lines_159 : decode cX12_lines 159 = .ok (.ifCond .lt 40, 3) := by decide +kernel
theorem dX12_lines_162 : decode cX12_lines 162 = .ok (.aload_n 0, 1) := by decide +kernel
theorem dX12_lines_163 : decode cX12_lines 163 = .ok (.getfield 141, 3) := by decide +kernel
theorem dX12_lines_166 : decode cX12_lines 166 = .ok (.iload 4, 2) := by decide +kernel
theorem dX12_lines_168 : decode cX12_lines 168 = .ok (.iaload, 1) := by decide +kernel
theorem dX12_lines_169 : decode cX12_lines 169 = .ok (.ifCond .lt 6, 3) := by decide +kernel
theorem dX12_lines_172 : decode cX12_lines 172 = .ok (.goto 27, 3) := by decide +kernel
theorem dX12_lines_175 : decode cX12_lines 175 = .ok (.aload_n 0, 1) := by decide +kernel
theorem dX12_lines_176 : decode cX12_lines 176 = .ok (.getfield 141, 3) := by decide +kernel
theorem dX12_lines_179 : decode cX12_lines 179 = .ok (.iload 4, 2) := by decide +kernel
theorem dX12_lines_181 : decode cX12_lines 181 = .ok (.iload_n 1, 1) := by decide +kernel
theorem dX12_lines_182 : decode cX12_lines 182 = .ok (.iastore, 1) := by decide +kernel
theorem dX12_lines_183 : decode cX12_lines 183 = .ok (.aload_n 0, 1) := by decide +kernel
theorem dX12_lines_184 : decode cX12_lines 184 = .ok (.iload_n 1, 1) := by decide +kernel
theorem dX12_lines_185 : decode cX12_lines 185 = .ok (.iconst 1, 1) := by decide +kernel
theorem dX12_lines_186 : decode cX12_lines 186 = .ok (.iadd, 1) := by decide +kernel
theorem dX12_lines_187 : decode cX12_lines 187 = .ok (.iload_n 2, 1) := by decide +kernel
theorem dX12_lines_188 : decode cX12_lines 188 = .ok (.invokevirtual 451, 3) := by decide +kernel
theorem dX12_lines_191 : decode cX12_lines 191 = .ok (.aload_n 0, 1) := by decide +kernel
theorem dX12_lines_192 : decode cX12_lines 192 = .ok (.getfield 141, 3) := by decide +kernel
theorem dX12_lines_195 : decode cX12_lines 195 = .ok (.iload 4, 2) := by decide +kernel
theorem dX12_lines_197 : decode cX12_lines 197 = .ok (.iconst (-1), 1) := by decide +kernel
theorem dX12_lines_198 : decode cX12_lines 198 = .ok (.iastore, 1) := by decide +kernel
theorem dX12_lines_199 : decode cX12_lines 199 = .ok (.iinc 4 1, 3) := by decide +kernel
theorem dX12_lines_202 : decode cX12_lines 202 = .ok (.goto (-61), 3) := by decide +kernel
theorem dX12_lines_205 : decode cX12_lines 205 = .ok (.return_, 1) := by decide +kernel
theorem dX12_hasLines_0 : decode cX12_hasLines 0 = .ok (.aload_n 0, 1) := by decide +kernel
theorem dX12_hasLines_1 : decode cX12_hasLines 1 = .ok (.invokevirtual 454, 3) := by decide +kernel
theorem dX12_hasLines_4 : decode cX12_hasLines 4 = .ok (.istore_n 1, 1) := by decide +kernel
theorem dX12_hasLines_5 : decode cX12_hasLines 5 = .ok (.iload_n 1, 1) := by decide +kernel
theorem dX12_hasLines_6 : decode cX12_hasLines 6 = .ok (.bipush 8, 2) := by decide +kernel
theorem dX12_hasLines_8 : decode cX12_hasLines 8 = .ok (.if_icmp .le 5, 3) := by decide +kernel
theorem dX12_hasLines_11 : decode cX12_hasLines 11 = .ok (.iconst 0, 1) := by decide +kernel
theorem dX12_hasLines_12 : decode cX12_hasLines 12 = .ok (.ireturn, 1) := by decide +kernel
theorem dX12_hasLines_13 : decode cX12_hasLines 13 = .ok (.aload_n 0, 1) := by decide +kernel
theorem dX12_hasLines_14 : decode cX12_hasLines 14 = .ok (.ldc_w 371, 3) := by decide +kernel
theorem dX12_hasLines_17 : decode cX12_hasLines 17 = .ok (.putfield 449, 3) := by decide +kernel
theorem dX12_hasLines_20 : decode cX12_hasLines 20 = .ok (.iconst 0, 1) := by decide +kernel
theorem dX12_hasLines_21 : decode cX12_hasLines 21 = .ok (.istore_n 2, 1) := by decide +kernel
theorem dX12_hasLines_22 : decode cX12_hasLines 22 = .ok (.iload_n 2, 1) := by decide +kernel
theorem dX12_hasLines_23 : decode cX12_hasLines 23 = .ok (.bipush 12, 2) := by decide +kernel
theorem dX12_hasLines_25 : decode cX12_hasLines 25 = .ok (.if_icmp .ge 16, 3) := by decide +kernel
theorem dX12_hasLines_28 : decode cX12_hasLines 28 = .ok (.aload_n 0, 1) := by decide +kernel
theorem dX12_hasLines_29 : decode cX12_hasLines 29 = .ok (.getfield 141, 3) := by decide +kernel
theorem dX12_hasLines_32 : decode cX12_hasLines 32 = .ok (.iload_n 2, 1) := by decide +kernel
theorem dX12_hasLines_33 : decode cX12_hasLines 33 = .ok (.iconst (-1), 1) := by decide +kernel
theorem dX12_hasLines_34 : decode cX12_hasLines 34 = .ok (.iastore, 1) := by decide +kernel
theorem dX12_hasLines_35 : decode cX12_hasLines 35 = .ok (.iinc 2 1, 3) := by decide +kernel
theorem dX12_hasLines_38 : decode cX12_hasLines 38 = .ok (.goto (-16), 3) := by decide +kernel
theorem dX12_hasLines_41 : decode cX12_hasLines 41 = .ok (.aload_n 0, 1) := by decide +kernel
theorem dX12_hasLines_42 : decode cX12_hasLines 42 = .ok (.iconst 0, 1) := by decide +kernel
theorem dX12_hasLines_43 : decode cX12_hasLines 43 = .ok (.iload_n 1, 1) := by decide +kernel
theorem dX12_hasLines_44 : decode cX12_hasLines 44 = .ok (.invokevirtual 451, 3) := by decide +kernel
theorem dX12_hasLines_47 : decode cX12_hasLines 47 = .ok (.iconst 1, 1) := by decide +kernel
theorem dX12_hasLines_48 : decode cX12_hasLines 48 = .ok (.ireturn, 1) := by decide +kernel
theorem dX12_order_0 : decode cX12_order 0 = .ok (.aload_n 0, 1) := by decide +kernel
theorem dX12_order_1 : decode cX12_order 1 = .ok (.iconst 0, 1) := by decide +kernel
theorem dX12_order_2 : decode cX12_order 2 = .ok (.putfield 157, 3) := by decide +kernel
theorem dX12_order_5 : decode cX12_order 5 = .ok (.aload_n 0, 1) := by decide +kernel
theorem dX12_order_6 : decode cX12_order 6 = .ok (.invokevirtual 457, 3) := by decide +kernel
theorem dX12_order_9 : decode cX12_order 9 = .ok (.ifCond .eq 10, 3) := by decide +kernel
theorem dX12_order_12 : decode cX12_order 12 = .ok (.aload_n 0, 1) := by decide +kernel
theorem dX12_order_13 : decode cX12_order 13 = .ok (.getfield 449, 3) := by decide +kernel
theorem dX12_order_16 : decode cX12_order 16 = .ok (.goto 4, 3) := by decide +kernel
theorem dX12_order_19 : decode cX12_order 19 = .ok (.iconst (-1), 1) := by decide +kernel
theorem dX12_order_20 : decode cX12_order 20 = .ok (.ireturn, 1) := by decide +kernel
theorem dX12_ordered_0 : decode cX12_ordered 0 = .ok (.aload_n 0, 1) := by decide +kernel
theorem dX12_ordered_1 : decode cX12_ordered 1 = .ok (.iconst 0, 1) := by decide +kernel
theorem dX12_ordered_2 : decode cX12_ordered 2 = .ok (.putfield 157, 3) := by decide +kernel
theorem dX12_ordered_5 : decode cX12_ordered 5 = .ok (.iload_n 1, 1) := by decide +kernel
theorem dX12_ordered_6 : decode cX12_ordered 6 = .ok (.ifCond .lt 10, 3) := by decide +kernel
theorem dX12_ordered_9 : decode cX12_ordered 9 = .ok (.aload_n 0, 1) := by decide +kernel
theorem dX12_ordered_10 : decode cX12_ordered 10 = .ok (.invokevirtual 457, 3) := by decide +kernel
theorem dX12_ordered_13 : decode cX12_ordered 13 = .ok (.ifCond .ne 5, 3) := by decide +kernel
theorem dX12_ordered_16 : decode cX12_ordered 16 = .ok (.iconst (-1), 1) := by decide +kernel
theorem dX12_ordered_17 : decode cX12_ordered 17 = .ok (.ireturn, 1) := by decide +kernel
theorem dX12_ordered_18 : decode cX12_ordered 18 = .ok (.iconst 0, 1) := by decide +kernel
theorem dX12_ordered_19 : decode cX12_ordered 19 = .ok (.istore_n 2, 1) := by decide +kernel
theorem dX12_ordered_20 : decode cX12_ordered 20 = .ok (.iload_n 2, 1) := by decide +kernel
theorem dX12_ordered_21 : decode cX12_ordered 21 = .ok (.bipush 12, 2) := by decide +kernel
theorem dX12_ordered_23 : decode cX12_ordered 23 = .ok (.if_icmp .ge 21, 3) := by decide +kernel
theorem dX12_ordered_26 : decode cX12_ordered 26 = .ok (.aload_n 0, 1) := by decide +kernel
theorem dX12_ordered_27 : decode cX12_ordered 27 = .ok (.getfield 144, 3) := by decide +kernel
theorem dX12_ordered_30 : decode cX12_ordered 30 = .ok (.iload_n 2, 1) := by decide +kernel
theorem dX12_ordered_31 : decode cX12_ordered 31 = .ok (.iaload, 1) := by decide +kernel
theorem dX12_ordered_32 : decode cX12_ordered 32 = .ok (.iload_n 1, 1) := by decide +kernel
theorem dX12_ordered_33 : decode cX12_ordered 33 = .ok (.if_icmp .ne 5, 3) := by decide +kernel
theorem dX12_ordered_36 : decode cX12_ordered 36 = .ok (.iload_n 2, 1) := by decide +kernel
theorem dX12_ordered_37 : decode cX12_ordered 37 = .ok (.ireturn, 1) := by decide +kernel
theorem dX12_ordered_38 : decode cX12_ordered 38 = .ok (.iinc 2 1, 3) := by decide +kernel
theorem dX12_ordered_41 : decode cX12_ordered 41 = .ok (.goto (-21), 3) := by decide +kernel
theorem dX12_ordered_44 : decode cX12_ordered 44 = .ok (.iconst (-1), 1) := by decide +kernel
theorem dX12_ordered_45 : decode cX12_ordered 45 = .ok (.ireturn, 1) := by decide +kernel
theorem dX12_keeps_0 : decode cX12_keeps 0 = .ok (.iconst 0, 1) := by decide +kernel
theorem dX12_keeps_1 : decode cX12_keeps 1 = .ok (.istore 4, 2) := by decide +kernel
theorem dX12_keeps_3 : decode cX12_keeps 3 = .ok (.iload 4, 2) := by decide +kernel
theorem dX12_keeps_5 : decode cX12_keeps 5 = .ok (.bipush 24, 2) := by decide +kernel
theorem dX12_keeps_7 : decode cX12_keeps 7 = .ok (.if_icmp .ge 48, 3) := by decide +kernel
theorem dX12_keeps_10 : decode cX12_keeps 10 = .ok (.iload_n 3, 1) := by decide +kernel
theorem dX12_keeps_11 : decode cX12_keeps 11 = .ok (.ifCond .eq 22, 3) := by decide +kernel
theorem dX12_keeps_14 : decode cX12_keeps 14 = .ok (.aload_n 1, 1) := by decide +kernel
theorem dX12_keeps_15 : decode cX12_keeps 15 = .ok (.iload 4, 2) := by decide +kernel
theorem dX12_keeps_17 : decode cX12_keeps 17 = .ok (.aload_n 1, 1) := by decide +kernel
theorem dX12_keeps_18 : decode cX12_keeps 18 = .ok (.bipush 24, 2) := by decide +kernel
theorem dX12_keeps_20 : decode cX12_keeps 20 = .ok (.bipush 24, 2) := by decide +kernel
theorem dX12_keeps_22 : decode cX12_keeps 22 = .ok (.iload_n 2, 1) := by decide +kernel
theorem dX12_keeps_23 : decode cX12_keeps 23 = .ok (.imul, 1) := by decide +kernel
theorem dX12_keeps_24 : decode cX12_keeps 24 = .ok (.iadd, 1) := by decide +kernel
theorem dX12_keeps_25 : decode cX12_keeps 25 = .ok (.iload 4, 2) := by decide +kernel
theorem dX12_keeps_27 : decode cX12_keeps 27 = .ok (.iadd, 1) := by decide +kernel
theorem dX12_keeps_28 : decode cX12_keeps 28 = .ok (.iaload, 1) := by decide +kernel
theorem dX12_keeps_29 : decode cX12_keeps 29 = .ok (.iastore, 1) := by decide +kernel
theorem dX12_keeps_30 : decode cX12_keeps 30 = .ok (.goto 19, 3) := by decide +kernel
theorem dX12_keeps_33 : decode cX12_keeps 33 = .ok (.aload_n 1, 1) := by decide +kernel
theorem dX12_keeps_34 : decode cX12_keeps 34 = .ok (.bipush 24, 2) := by decide +kernel
theorem dX12_keeps_36 : decode cX12_keeps 36 = .ok (.bipush 24, 2) := by decide +kernel
theorem dX12_keeps_38 : decode cX12_keeps 38 = .ok (.iload_n 2, 1) := by decide +kernel
theorem dX12_keeps_39 : decode cX12_keeps 39 = .ok (.imul, 1) := by decide +kernel
theorem dX12_keeps_40 : decode cX12_keeps 40 = .ok (.iadd, 1) := by decide +kernel
theorem dX12_keeps_41 : decode cX12_keeps 41 = .ok (.iload 4, 2) := by decide +kernel
theorem dX12_keeps_43 : decode cX12_keeps 43 = .ok (.iadd, 1) := by decide +kernel
theorem dX12_keeps_44 : decode cX12_keeps 44 = .ok (.aload_n 1, 1) := by decide +kernel
theorem dX12_keeps_45 : decode cX12_keeps 45 = .ok (.iload 4, 2) := by decide +kernel
theorem dX12_keeps_47 : decode cX12_keeps 47 = .ok (.iaload, 1) := by decide +kernel
theorem dX12_keeps_48 : decode cX12_keeps 48 = .ok (.iastore, 1) := by decide +kernel
theorem dX12_keeps_49 : decode cX12_keeps 49 = .ok (.iinc 4 1, 3) := by decide +kernel
theorem dX12_keeps_52 : decode cX12_keeps 52 = .ok (.goto (-49), 3) := by decide +kernel
theorem dX12_keeps_55 : decode cX12_keeps 55 = .ok (.return_, 1) := by decide +kernel
theorem dX12_mark_0 : decode cX12_mark 0 = .ok (.aload_n 0, 1) := by decide +kernel
theorem dX12_mark_1 : decode cX12_mark 1 = .ok (.iconst 0, 1) := by decide +kernel
theorem dX12_mark_2 : decode cX12_mark 2 = .ok (.putfield 157, 3) := by decide +kernel
theorem dX12_mark_5 : decode cX12_mark 5 = .ok (.iload_n 1, 1) := by decide +kernel
theorem dX12_mark_6 : decode cX12_mark 6 = .ok (.iconst 0, 1) := by decide +kernel
theorem dX12_mark_7 : decode cX12_mark 7 = .ok (.iconst 3, 1) := by decide +kernel
theorem dX12_mark_8 : decode cX12_mark 8 = .ok (.invokestatic 287, 3) := by decide +kernel
theorem dX12_mark_11 : decode cX12_mark 11 = .ok (.ifCond .eq 16, 3) := by decide +kernel
theorem dX12_mark_14 : decode cX12_mark 14 = .ok (.iload_n 2, 1) := by decide +kernel
theorem dX12_mark_15 : decode cX12_mark 15 = .ok (.ifCond .eq 14, 3) := by decide +kernel
theorem dX12_mark_18 : decode cX12_mark 18 = .ok (.aload_n 0, 1) := by decide +kernel
theorem dX12_mark_19 : decode cX12_mark 19 = .ok (.getfield 147, 3) := by decide +kernel
theorem dX12_mark_22 : decode cX12_mark 22 = .ok (.iload_n 1, 1) := by decide +kernel
theorem dX12_mark_23 : decode cX12_mark 23 = .ok (.baload, 1) := by decide +kernel
theorem dX12_mark_24 : decode cX12_mark 24 = .ok (.ifCond .ne 5, 3) := by decide +kernel
theorem dX12_mark_27 : decode cX12_mark 27 = .ok (.iconst 0, 1) := by decide +kernel
theorem dX12_mark_28 : decode cX12_mark 28 = .ok (.ireturn, 1) := by decide +kernel
theorem dX12_mark_29 : decode cX12_mark 29 = .ok (.aload_n 0, 1) := by decide +kernel
theorem dX12_mark_30 : decode cX12_mark 30 = .ok (.getfield 147, 3) := by decide +kernel
theorem dX12_mark_33 : decode cX12_mark 33 = .ok (.iload_n 1, 1) := by decide +kernel
theorem dX12_mark_34 : decode cX12_mark 34 = .ok (.iconst 1, 1) := by decide +kernel
theorem dX12_mark_35 : decode cX12_mark 35 = .ok (.bastore, 1) := by decide +kernel
theorem dX12_mark_36 : decode cX12_mark 36 = .ok (.iload_n 2, 1) := by decide +kernel
theorem dX12_mark_37 : decode cX12_mark 37 = .ok (.ifCond .eq 24, 3) := by decide +kernel
theorem dX12_mark_40 : decode cX12_mark 40 = .ok (.aload_n 0, 1) := by decide +kernel
theorem dX12_mark_41 : decode cX12_mark 41 = .ok (.iconst 2, 1) := by decide +kernel
theorem dX12_mark_42 : decode cX12_mark 42 = .ok (.iload_n 1, 1) := by decide +kernel
theorem dX12_mark_43 : decode cX12_mark 43 = .ok (.iadd, 1) := by decide +kernel
theorem dX12_mark_44 : decode cX12_mark 44 = .ok (.iconst 0, 1) := by decide +kernel
theorem dX12_mark_45 : decode cX12_mark 45 = .ok (.invokevirtual 339, 3) := by decide +kernel
theorem dX12_mark_48 : decode cX12_mark 48 = .ok (.aload_n 0, 1) := by decide +kernel
theorem dX12_mark_49 : decode cX12_mark 49 = .ok (.aload_n 0, 1) := by decide +kernel
theorem dX12_mark_50 : decode cX12_mark 50 = .ok (.getfield 150, 3) := by decide +kernel
theorem dX12_mark_53 : decode cX12_mark 53 = .ok (.iload_n 1, 1) := by decide +kernel
theorem dX12_mark_54 : decode cX12_mark 54 = .ok (.iaload, 1) := by decide +kernel
theorem dX12_mark_55 : decode cX12_mark 55 = .ok (.putfield 343, 3) := by decide +kernel
theorem dX12_mark_58 : decode cX12_mark 58 = .ok (.goto 21, 3) := by decide +kernel
theorem dX12_mark_61 : decode cX12_mark 61 = .ok (.aload_n 0, 1) := by decide +kernel
theorem dX12_mark_62 : decode cX12_mark 62 = .ok (.iconst 0, 1) := by decide +kernel
theorem dX12_mark_63 : decode cX12_mark 63 = .ok (.iconst 2, 1) := by decide +kernel
theorem dX12_mark_64 : decode cX12_mark 64 = .ok (.iload_n 1, 1) := by decide +kernel
theorem dX12_mark_65 : decode cX12_mark 65 = .ok (.iadd, 1) := by decide +kernel
theorem dX12_mark_66 : decode cX12_mark 66 = .ok (.invokevirtual 339, 3) := by decide +kernel
theorem dX12_mark_69 : decode cX12_mark 69 = .ok (.aload_n 0, 1) := by decide +kernel
theorem dX12_mark_70 : decode cX12_mark 70 = .ok (.getfield 150, 3) := by decide +kernel
theorem dX12_mark_73 : decode cX12_mark 73 = .ok (.iload_n 1, 1) := by decide +kernel
theorem dX12_mark_74 : decode cX12_mark 74 = .ok (.aload_n 0, 1) := by decide +kernel
theorem dX12_mark_75 : decode cX12_mark 75 = .ok (.getfield 343, 3) := by decide +kernel
theorem dX12_mark_78 : decode cX12_mark 78 = .ok (.iastore, 1) := by decide +kernel
theorem dX12_mark_79 : decode cX12_mark 79 = .ok (.aload_n 0, 1) := by decide +kernel
theorem dX12_mark_80 : decode cX12_mark 80 = .ok (.aload_n 0, 1) := by decide +kernel
theorem dX12_mark_81 : decode cX12_mark 81 = .ok (.getfield 108, 3) := by decide +kernel
theorem dX12_mark_84 : decode cX12_mark 84 = .ok (.iload_n 1, 1) := by decide +kernel
theorem dX12_mark_85 : decode cX12_mark 85 = .ok (.iload_n 2, 1) := by decide +kernel
theorem dX12_mark_86 : decode cX12_mark 86 = .ok (.invokevirtual 460, 3) := by decide +kernel
theorem dX12_mark_89 : decode cX12_mark 89 = .ok (.aload_n 0, 1) := by decide +kernel
theorem dX12_mark_90 : decode cX12_mark 90 = .ok (.aload_n 0, 1) := by decide +kernel
theorem dX12_mark_91 : decode cX12_mark 91 = .ok (.getfield 111, 3) := by decide +kernel
theorem dX12_mark_94 : decode cX12_mark 94 = .ok (.iload_n 1, 1) := by decide +kernel
theorem dX12_mark_95 : decode cX12_mark 95 = .ok (.iload_n 2, 1) := by decide +kernel
theorem dX12_mark_96 : decode cX12_mark 96 = .ok (.invokevirtual 460, 3) := by decide +kernel
theorem dX12_mark_99 : decode cX12_mark 99 = .ok (.aload_n 0, 1) := by decide +kernel
theorem dX12_mark_100 : decode cX12_mark 100 = .ok (.aload_n 0, 1) := by decide +kernel
theorem dX12_mark_101 : decode cX12_mark 101 = .ok (.getfield 114, 3) := by decide +kernel
theorem dX12_mark_104 : decode cX12_mark 104 = .ok (.iload_n 1, 1) := by decide +kernel
theorem dX12_mark_105 : decode cX12_mark 105 = .ok (.iload_n 2, 1) := by decide +kernel
theorem dX12_mark_106 : decode cX12_mark 106 = .ok (.invokevirtual 460, 3) := by decide +kernel
theorem dX12_mark_109 : decode cX12_mark 109 = .ok (.aload_n 0, 1) := by decide +kernel
theorem dX12_mark_110 : decode cX12_mark 110 = .ok (.aload_n 0, 1) := by decide +kernel
theorem dX12_mark_111 : decode cX12_mark 111 = .ok (.getfield 117, 3) := by decide +kernel
theorem dX12_mark_114 : decode cX12_mark 114 = .ok (.iload_n 1, 1) := by decide +kernel
theorem dX12_mark_115 : decode cX12_mark 115 = .ok (.iload_n 2, 1) := by decide +kernel
theorem dX12_mark_116 : decode cX12_mark 116 = .ok (.invokevirtual 460, 3) := by decide +kernel
theorem dX12_mark_119 : decode cX12_mark 119 = .ok (.aload_n 0, 1) := by decide +kernel
theorem dX12_mark_120 : decode cX12_mark 120 = .ok (.aload_n 0, 1) := by decide +kernel
theorem dX12_mark_121 : decode cX12_mark 121 = .ok (.getfield 120, 3) := by decide +kernel
theorem dX12_mark_124 : decode cX12_mark 124 = .ok (.iload_n 1, 1) := by decide +kernel
theorem dX12_mark_125 : decode cX12_mark 125 = .ok (.iload_n 2, 1) := by decide +kernel
theorem dX12_mark_126 : decode cX12_mark 126 = .ok (.invokevirtual 460, 3) := by decide +kernel
theorem dX12_mark_129 : decode cX12_mark 129 = .ok (.iconst 1, 1) := by decide +kernel
theorem dX12_mark_130 : decode cX12_mark 130 = .ok (.ireturn, 1) := by decide +kernel
theorem dX12_count_0 : decode cX12_count 0 = .ok (.aload_n 0, 1) := by decide +kernel
theorem dX12_count_1 : decode cX12_count 1 = .ok (.iconst 0, 1) := by decide +kernel
theorem dX12_count_2 : decode cX12_count 2 = .ok (.putfield 157, 3) := by decide +kernel
theorem dX12_count_5 : decode cX12_count 5 = .ok (.iload_n 1, 1) := by decide +kernel
theorem dX12_count_6 : decode cX12_count 6 = .ok (.iconst 0, 1) := by decide +kernel
theorem dX12_count_7 : decode cX12_count 7 = .ok (.bipush 16, 2) := by decide +kernel
theorem dX12_count_9 : decode cX12_count 9 = .ok (.invokestatic 287, 3) := by decide +kernel
theorem dX12_count_12 : decode cX12_count 12 = .ok (.ifCond .ne 5, 3) := by decide +kernel
theorem dX12_count_15 : decode cX12_count 15 = .ok (.iconst (-1), 1) := by decide +kernel
theorem dX12_count_16 : decode cX12_count 16 = .ok (.ireturn, 1) := by decide +kernel
theorem dX12_count_17 : decode cX12_count 17 = .ok (.iload_n 1, 1) := by decide +kernel
theorem dX12_count_18 : decode cX12_count 18 = .ok (.iconst 4, 1) := by decide +kernel
theorem dX12_count_19 : decode cX12_count 19 = .ok (.if_icmp .le 25, 3) := by decide +kernel
theorem dX12_count_22 : decode cX12_count 22 = .ok (.iload_n 1, 1) := by decide +kernel
theorem dX12_count_23 : decode cX12_count 23 = .ok (.bipush 16, 2) := by decide +kernel
theorem dX12_count_25 : decode cX12_count 25 = .ok (.if_icmp .ne 10, 3) := by decide +kernel
theorem dX12_count_28 : decode cX12_count 28 = .ok (.aload_n 0, 1) := by decide +kernel
theorem dX12_count_29 : decode cX12_count 29 = .ok (.getfield 163, 3) := by decide +kernel
theorem dX12_count_32 : decode cX12_count 32 = .ok (.goto 11, 3) := by decide +kernel
theorem dX12_count_35 : decode cX12_count 35 = .ok (.aload_n 0, 1) := by decide +kernel
theorem dX12_count_36 : decode cX12_count 36 = .ok (.getfield 56, 3) := by decide +kernel
theorem dX12_count_39 : decode cX12_count 39 = .ok (.iload_n 1, 1) := by decide +kernel
theorem dX12_count_40 : decode cX12_count 40 = .ok (.iconst 5, 1) := by decide +kernel
theorem dX12_count_41 : decode cX12_count 41 = .ok (.isub, 1) := by decide +kernel
theorem dX12_count_42 : decode cX12_count 42 = .ok (.iaload, 1) := by decide +kernel
theorem dX12_count_43 : decode cX12_count 43 = .ok (.ireturn, 1) := by decide +kernel
theorem dX12_count_44 : decode cX12_count 44 = .ok (.iload_n 1, 1) := by decide +kernel
theorem dX12_count_45 : decode cX12_count 45 = .ok (.ifCond .ne 12, 3) := by decide +kernel
theorem dX12_count_48 : decode cX12_count 48 = .ok (.aload_n 0, 1) := by decide +kernel
theorem dX12_count_49 : decode cX12_count 49 = .ok (.getfield 13, 3) := by decide +kernel
theorem dX12_count_52 : decode cX12_count 52 = .ok (.iconst 0, 1) := by decide +kernel
theorem dX12_count_53 : decode cX12_count 53 = .ok (.iaload, 1) := by decide +kernel
theorem dX12_count_54 : decode cX12_count 54 = .ok (.goto 47, 3) := by decide +kernel
theorem dX12_count_57 : decode cX12_count 57 = .ok (.iload_n 1, 1) := by decide +kernel
theorem dX12_count_58 : decode cX12_count 58 = .ok (.iconst 1, 1) := by decide +kernel
theorem dX12_count_59 : decode cX12_count 59 = .ok (.if_icmp .ne 10, 3) := by decide +kernel
theorem dX12_count_62 : decode cX12_count 62 = .ok (.aload_n 0, 1) := by decide +kernel
theorem dX12_count_63 : decode cX12_count 63 = .ok (.invokevirtual 454, 3) := by decide +kernel
theorem dX12_count_66 : decode cX12_count 66 = .ok (.goto 35, 3) := by decide +kernel
theorem dX12_count_69 : decode cX12_count 69 = .ok (.iload_n 1, 1) := by decide +kernel
theorem dX12_count_70 : decode cX12_count 70 = .ok (.iconst 2, 1) := by decide +kernel
theorem dX12_count_71 : decode cX12_count 71 = .ok (.if_icmp .ne 12, 3) := by decide +kernel
theorem dX12_count_74 : decode cX12_count 74 = .ok (.aload_n 0, 1) := by decide +kernel
theorem dX12_count_75 : decode cX12_count 75 = .ok (.getfield 16, 3) := by decide +kernel
theorem dX12_count_78 : decode cX12_count 78 = .ok (.iconst 0, 1) := by decide +kernel
theorem dX12_count_79 : decode cX12_count 79 = .ok (.iaload, 1) := by decide +kernel
theorem dX12_count_80 : decode cX12_count 80 = .ok (.goto 21, 3) := by decide +kernel
theorem dX12_count_83 : decode cX12_count 83 = .ok (.iload_n 1, 1) := by decide +kernel
theorem dX12_count_84 : decode cX12_count 84 = .ok (.iconst 3, 1) := by decide +kernel
theorem dX12_count_85 : decode cX12_count 85 = .ok (.if_icmp .ne 12, 3) := by decide +kernel
theorem dX12_count_88 : decode cX12_count 88 = .ok (.aload_n 0, 1) := by decide +kernel
theorem dX12_count_89 : decode cX12_count 89 = .ok (.getfield 19, 3) := by decide +kernel
theorem dX12_count_92 : decode cX12_count 92 = .ok (.iconst 0, 1) := by decide +kernel
theorem dX12_count_93 : decode cX12_count 93 = .ok (.iaload, 1) := by decide +kernel
theorem dX12_count_94 : decode cX12_count 94 = .ok (.goto 7, 3) := by decide +kernel
theorem dX12_count_97 : decode cX12_count 97 = .ok (.aload_n 0, 1) := by decide +kernel
theorem dX12_count_98 : decode cX12_count 98 = .ok (.getfield 343, 3) := by decide +kernel
theorem dX12_count_101 : decode cX12_count 101 = .ok (.ireturn, 1) := by decide +kernel
theorem dJ11_isValidCodePoint_9a6ad_0 : decode cJ11_isValidCodePoint_9a6ad 0 = .ok (.iload_n 0, 1) := by decide +kernel
theorem dJ11_isValidCodePoint_9a6ad_1 : decode cJ11_isValidCodePoint_9a6ad 1 = .ok (.bipush 16, 2) := by decide +kernel
theorem dJ11_isValidCodePoint_9a6ad_3 : decode cJ11_isValidCodePoint_9a6ad 3 = .ok (.iushr, 1) := by decide +kernel
theorem dJ11_isValidCodePoint_9a6ad_4 : decode cJ11_isValidCodePoint_9a6ad 4 = .ok (.istore_n 1, 1) := by decide +kernel
theorem dJ11_isValidCodePoint_9a6ad_5 : decode cJ11_isValidCodePoint_9a6ad 5 = .ok (.iload_n 1, 1) := by decide +kernel
theorem dJ11_isValidCodePoint_9a6ad_6 : decode cJ11_isValidCodePoint_9a6ad 6 = .ok (.bipush 17, 2) := by decide +kernel
theorem dJ11_isValidCodePoint_9a6ad_8 : decode cJ11_isValidCodePoint_9a6ad 8 = .ok (.if_icmp .ge 7, 3) := by decide +kernel
theorem dJ11_isValidCodePoint_9a6ad_11 : decode cJ11_isValidCodePoint_9a6ad 11 = .ok (.iconst 1, 1) := by decide +kernel
theorem dJ11_isValidCodePoint_9a6ad_12 : decode cJ11_isValidCodePoint_9a6ad 12 = .ok (.goto 4, 3) := by decide +kernel
theorem dJ11_isValidCodePoint_9a6ad_15 : decode cJ11_isValidCodePoint_9a6ad 15 = .ok (.iconst 0, 1) := by decide +kernel
theorem dJ11_isValidCodePoint_9a6ad_16 : decode cJ11_isValidCodePoint_9a6ad 16 = .ok (.ireturn, 1) := by decide +kernel
theorem dJ11_highSurrogate_5068e_0 : decode cJ11_highSurrogate_5068e 0 = .ok (.iload_n 0, 1) := by decide +kernel
theorem dJ11_highSurrogate_5068e_1 : decode cJ11_highSurrogate_5068e 1 = .ok (.bipush 10, 2) := by decide +kernel
theorem dJ11_highSurrogate_5068e_3 : decode cJ11_highSurrogate_5068e 3 = .ok (.iushr, 1) := by decide +kernel
theorem dJ11_highSurrogate_5068e_4 : decode cJ11_highSurrogate_5068e 4 = .ok (.ldc 110, 2) := by decide +kernel
theorem dJ11_highSurrogate_5068e_6 : decode cJ11_highSurrogate_5068e 6 = .ok (.iadd, 1) := by decide +kernel
theorem dJ11_highSurrogate_5068e_7 : decode cJ11_highSurrogate_5068e 7 = .ok (.i2c, 1) := by decide +kernel
theorem dJ11_highSurrogate_5068e_8 : decode cJ11_highSurrogate_5068e 8 = .ok (.ireturn, 1) := by decide +kernel
theorem dJ11_lowSurrogate_5068e_0 : decode cJ11_lowSurrogate_5068e 0 = .ok (.iload_n 0, 1) := by decide +kernel
theorem dJ11_lowSurrogate_5068e_1 : decode cJ11_lowSurrogate_5068e 1 = .ok (.sipush 1023, 3) := by decide +kernel
theorem dJ11_lowSurrogate_5068e_4 : decode cJ11_lowSurrogate_5068e 4 = .ok (.iand, 1) := by decide +kernel
theorem dJ11_lowSurrogate_5068e_5 : decode cJ11_lowSurrogate_5068e 5 = .ok (.ldc 76, 2) := by decide +kernel
theorem dJ11_lowSurrogate_5068e_7 : decode cJ11_lowSurrogate_5068e 7 = .ok (.iadd, 1) := by decide +kernel
theorem dJ11_lowSurrogate_5068e_8 : decode cJ11_lowSurrogate_5068e 8 = .ok (.i2c, 1) := by decide +kernel
theorem dJ11_lowSurrogate_5068e_9 : decode cJ11_lowSurrogate_5068e 9 = .ok (.ireturn, 1) := by decide +kernel
theorem dJ6_bitCount_0f7a4_0 : decode cJ6_bitCount_0f7a4 0 = .ok (.iload_n 0, 1) := by decide +kernel
theorem dJ6_bitCount_0f7a4_1 : decode cJ6_bitCount_0f7a4 1 = .ok (.iload_n 0, 1) := by decide +kernel
theorem dJ6_bitCount_0f7a4_2 : decode cJ6_bitCount_0f7a4 2 = .ok (.iconst 1, 1) := by decide +kernel
theorem dJ6_bitCount_0f7a4_3 : decode cJ6_bitCount_0f7a4 3 = .ok (.iushr, 1) := by decide +kernel
theorem dJ6_bitCount_0f7a4_4 : decode cJ6_bitCount_0f7a4 4 = .ok (.ldc_w 265, 3) := by decide +kernel
theorem dJ6_bitCount_0f7a4_7 : decode cJ6_bitCount_0f7a4 7 = .ok (.iand, 1) := by decide +kernel
theorem dJ6_bitCount_0f7a4_8 : decode cJ6_bitCount_0f7a4 8 = .ok (.isub, 1) := by decide +kernel
theorem dJ6_bitCount_0f7a4_9 : decode cJ6_bitCount_0f7a4 9 = .ok (.istore_n 0, 1) := by decide +kernel
theorem dJ6_bitCount_0f7a4_10 : decode cJ6_bitCount_0f7a4 10 = .ok (.iload_n 0, 1) := by decide +kernel
theorem dJ6_bitCount_0f7a4_11 : decode cJ6_bitCount_0f7a4 11 = .ok (.ldc_w 266, 3) := by decide +kernel
theorem dJ6_bitCount_0f7a4_14 : decode cJ6_bitCount_0f7a4 14 = .ok (.iand, 1) := by decide +kernel
theorem dJ6_bitCount_0f7a4_15 : decode cJ6_bitCount_0f7a4 15 = .ok (.iload_n 0, 1) := by decide +kernel
theorem dJ6_bitCount_0f7a4_16 : decode cJ6_bitCount_0f7a4 16 = .ok (.iconst 2, 1) := by decide +kernel
theorem dJ6_bitCount_0f7a4_17 : decode cJ6_bitCount_0f7a4 17 = .ok (.iushr, 1) := by decide +kernel
theorem dJ6_bitCount_0f7a4_18 : decode cJ6_bitCount_0f7a4 18 = .ok (.ldc_w 266, 3) := by decide +kernel
theorem dJ6_bitCount_0f7a4_21 : decode cJ6_bitCount_0f7a4 21 = .ok (.iand, 1) := by decide +kernel
theorem dJ6_bitCount_0f7a4_22 : decode cJ6_bitCount_0f7a4 22 = .ok (.iadd, 1) := by decide +kernel
theorem dJ6_bitCount_0f7a4_23 : decode cJ6_bitCount_0f7a4 23 = .ok (.istore_n 0, 1) := by decide +kernel
theorem dJ6_bitCount_0f7a4_24 : decode cJ6_bitCount_0f7a4 24 = .ok (.iload_n 0, 1) := by decide +kernel
theorem dJ6_bitCount_0f7a4_25 : decode cJ6_bitCount_0f7a4 25 = .ok (.iload_n 0, 1) := by decide +kernel
theorem dJ6_bitCount_0f7a4_26 : decode cJ6_bitCount_0f7a4 26 = .ok (.iconst 4, 1) := by decide +kernel
theorem dJ6_bitCount_0f7a4_27 : decode cJ6_bitCount_0f7a4 27 = .ok (.iushr, 1) := by decide +kernel
theorem dJ6_bitCount_0f7a4_28 : decode cJ6_bitCount_0f7a4 28 = .ok (.iadd, 1) := by decide +kernel
theorem dJ6_bitCount_0f7a4_29 : decode cJ6_bitCount_0f7a4 29 = .ok (.ldc_w 267, 3) := by decide +kernel
theorem dJ6_bitCount_0f7a4_32 : decode cJ6_bitCount_0f7a4 32 = .ok (.iand, 1) := by decide +kernel
theorem dJ6_bitCount_0f7a4_33 : decode cJ6_bitCount_0f7a4 33 = .ok (.istore_n 0, 1) := by decide +kernel
theorem dJ6_bitCount_0f7a4_34 : decode cJ6_bitCount_0f7a4 34 = .ok (.iload_n 0, 1) := by decide +kernel
theorem dJ6_bitCount_0f7a4_35 : decode cJ6_bitCount_0f7a4 35 = .ok (.iload_n 0, 1) := by decide +kernel
theorem dJ6_bitCount_0f7a4_36 : decode cJ6_bitCount_0f7a4 36 = .ok (.bipush 8, 2) := by decide +kernel
theorem dJ6_bitCount_0f7a4_38 : decode cJ6_bitCount_0f7a4 38 = .ok (.iushr, 1) := by decide +kernel
theorem dJ6_bitCount_0f7a4_39 : decode cJ6_bitCount_0f7a4 39 = .ok (.iadd, 1) := by decide +kernel
theorem dJ6_bitCount_0f7a4_40 : decode cJ6_bitCount_0f7a4 40 = .ok (.istore_n 0, 1) := by decide +kernel
theorem dJ6_bitCount_0f7a4_41 : decode cJ6_bitCount_0f7a4 41 = .ok (.iload_n 0, 1) := by decide +kernel
theorem dJ6_bitCount_0f7a4_42 : decode cJ6_bitCount_0f7a4 42 = .ok (.iload_n 0, 1) := by decide +kernel
theorem dJ6_bitCount_0f7a4_43 : decode cJ6_bitCount_0f7a4 43 = .ok (.bipush 16, 2) := by decide +kernel
theorem dJ6_bitCount_0f7a4_45 : decode cJ6_bitCount_0f7a4 45 = .ok (.iushr, 1) := by decide +kernel
theorem dJ6_bitCount_0f7a4_46 : decode cJ6_bitCount_0f7a4 46 = .ok (.iadd, 1) := by decide +kernel
theorem dJ6_bitCount_0f7a4_47 : decode cJ6_bitCount_0f7a4 47 = .ok (.istore_n 0, 1) := by decide +kernel
theorem dJ6_bitCount_0f7a4_48 : decode cJ6_bitCount_0f7a4 48 = .ok (.iload_n 0, 1) := by decide +kernel
theorem dJ6_bitCount_0f7a4_49 : decode cJ6_bitCount_0f7a4 49 = .ok (.bipush 63, 2) := by decide +kernel
theorem dJ6_bitCount_0f7a4_51 : decode cJ6_bitCount_0f7a4 51 = .ok (.iand, 1) := by decide +kernel
theorem dJ6_bitCount_0f7a4_52 : decode cJ6_bitCount_0f7a4 52 = .ok (.ireturn, 1) := by decide +kernel
theorem dJ9_abs_0f7a4_0 : decode cJ9_abs_0f7a4 0 = .ok (.iload_n 0, 1) := by decide +kernel
theorem dJ9_abs_0f7a4_1 : decode cJ9_abs_0f7a4 1 = .ok (.ifCond .ge 8, 3) := by decide +kernel
theorem dJ9_abs_0f7a4_4 : decode cJ9_abs_0f7a4 4 = .ok (.iload_n 0, 1) := by decide +kernel
theorem dJ9_abs_0f7a4_5 : decode cJ9_abs_0f7a4 5 = .ok (.ineg, 1) := by decide +kernel
theorem dJ9_abs_0f7a4_6 : decode cJ9_abs_0f7a4 6 = .ok (.goto 4, 3) := by decide +kernel
theorem dJ9_abs_0f7a4_9 : decode cJ9_abs_0f7a4 9 = .ok (.iload_n 0, 1) := by decide +kernel
theorem dJ9_abs_0f7a4_10 : decode cJ9_abs_0f7a4 10 = .ok (.ireturn, 1) := by decide +kernel
theorem dJ9_max_7cf53_0 : decode cJ9_max_7cf53 0 = .ok (.iload_n 0, 1) := by decide +kernel
theorem dJ9_max_7cf53_1 : decode cJ9_max_7cf53 1 = .ok (.iload_n 1, 1) := by decide +kernel
theorem dJ9_max_7cf53_2 : decode cJ9_max_7cf53 2 = .ok (.if_icmp .lt 7, 3) := by decide +kernel
theorem dJ9_max_7cf53_5 : decode cJ9_max_7cf53 5 = .ok (.iload_n 0, 1) := by decide +kernel
theorem dJ9_max_7cf53_6 : decode cJ9_max_7cf53 6 = .ok (.goto 4, 3) := by decide +kernel
theorem dJ9_max_7cf53_9 : decode cJ9_max_7cf53 9 = .ok (.iload_n 1, 1) := by decide +kernel
theorem dJ9_max_7cf53_10 : decode cJ9_max_7cf53 10 = .ok (.ireturn, 1) := by decide +kernel
theorem dJ9_max_f86c9_0 : decode cJ9_max_f86c9 0 = .ok (.lload_n 0, 1) := by decide +kernel
theorem dJ9_max_f86c9_1 : decode cJ9_max_f86c9 1 = .ok (.lload_n 2, 1) := by decide +kernel
theorem dJ9_max_f86c9_2 : decode cJ9_max_f86c9 2 = .ok (.lcmp, 1) := by decide +kernel
theorem dJ9_max_f86c9_3 : decode cJ9_max_f86c9 3 = .ok (.ifCond .lt 7, 3) := by decide +kernel
theorem dJ9_max_f86c9_6 : decode cJ9_max_f86c9 6 = .ok (.lload_n 0, 1) := by decide +kernel
theorem dJ9_max_f86c9_7 : decode cJ9_max_f86c9 7 = .ok (.goto 4, 3) := by decide +kernel
theorem dJ9_max_f86c9_10 : decode cJ9_max_f86c9 10 = .ok (.lload_n 2, 1) := by decide +kernel
theorem dJ9_max_f86c9_11 : decode cJ9_max_f86c9 11 = .ok (.lreturn, 1) := by decide +kernel
theorem dJ9_min_7cf53_0 : decode cJ9_min_7cf53 0 = .ok (.iload_n 0, 1) := by decide +kernel
theorem dJ9_min_7cf53_1 : decode cJ9_min_7cf53 1 = .ok (.iload_n 1, 1) := by decide +kernel
theorem dJ9_min_7cf53_2 : decode cJ9_min_7cf53 2 = .ok (.if_icmp .gt 7, 3) := by decide +kernel
theorem dJ9_min_7cf53_5 : decode cJ9_min_7cf53 5 = .ok (.iload_n 0, 1) := by decide +kernel
theorem dJ9_min_7cf53_6 : decode cJ9_min_7cf53 6 = .ok (.goto 4, 3) := by decide +kernel
theorem dJ9_min_7cf53_9 : decode cJ9_min_7cf53 9 = .ok (.iload_n 1, 1) := by decide +kernel
theorem dJ9_min_7cf53_10 : decode cJ9_min_7cf53 10 = .ok (.ireturn, 1) := by decide +kernel
theorem dJ9_min_f86c9_0 : decode cJ9_min_f86c9 0 = .ok (.lload_n 0, 1) := by decide +kernel
theorem dJ9_min_f86c9_1 : decode cJ9_min_f86c9 1 = .ok (.lload_n 2, 1) := by decide +kernel
theorem dJ9_min_f86c9_2 : decode cJ9_min_f86c9 2 = .ok (.lcmp, 1) := by decide +kernel
theorem dJ9_min_f86c9_3 : decode cJ9_min_f86c9 3 = .ok (.ifCond .gt 7, 3) := by decide +kernel
theorem dJ9_min_f86c9_6 : decode cJ9_min_f86c9 6 = .ok (.lload_n 0, 1) := by decide +kernel
theorem dJ9_min_f86c9_7 : decode cJ9_min_f86c9 7 = .ok (.goto 4, 3) := by decide +kernel
theorem dJ9_min_f86c9_10 : decode cJ9_min_f86c9 10 = .ok (.lload_n 2, 1) := by decide +kernel
theorem dJ9_min_f86c9_11 : decode cJ9_min_f86c9 11 = .ok (.lreturn, 1) := by decide +kernel
theorem dJ0_length_8abf5_0 : decode cJ0_length_8abf5 0 = .ok (.aload_n 0, 1) := by decide +kernel
theorem dJ0_length_8abf5_1 : decode cJ0_length_8abf5 1 = .ok (.getfield 9, 3) := by decide +kernel
theorem dJ0_length_8abf5_4 : decode cJ0_length_8abf5 4 = .ok (.arraylength, 1) := by decide +kernel
theorem dJ0_length_8abf5_5 : decode cJ0_length_8abf5 5 = .ok (.aload_n 0, 1) := by decide +kernel
theorem dJ0_length_8abf5_6 : decode cJ0_length_8abf5 6 = .ok (.invokevirtual 335, 3) := by decide +kernel
theorem dJ0_length_8abf5_9 : decode cJ0_length_8abf5 9 = .ok (.ishr, 1) := by decide +kernel
theorem dJ0_length_8abf5_10 : decode cJ0_length_8abf5 10 = .ok (.ireturn, 1) := by decide +kernel
theorem dJ0_charAt_5068e_0 : decode cJ0_charAt_5068e 0 = .ok (.aload_n 0, 1) := by decide +kernel
theorem dJ0_charAt_5068e_1 : decode cJ0_charAt_5068e 1 = .ok (.invokevirtual 492, 3) := by decide +kernel
theorem dJ0_charAt_5068e_4 : decode cJ0_charAt_5068e 4 = .ok (.ifCond .eq 12, 3) := by decide +kernel
theorem dJ0_charAt_5068e_7 : decode cJ0_charAt_5068e 7 = .ok (.aload_n 0, 1) := by decide +kernel
theorem dJ0_charAt_5068e_8 : decode cJ0_charAt_5068e 8 = .ok (.getfield 9, 3) := by decide +kernel
theorem dJ0_charAt_5068e_11 : decode cJ0_charAt_5068e 11 = .ok (.iload_n 1, 1) := by decide +kernel
theorem dJ0_charAt_5068e_12 : decode cJ0_charAt_5068e 12 = .ok (.invokestatic 495, 3) := by decide +kernel
theorem dJ0_charAt_5068e_15 : decode cJ0_charAt_5068e 15 = .ok (.ireturn, 1) := by decide +kernel
theorem dJ0_charAt_5068e_16 : decode cJ0_charAt_5068e 16 = .ok (.aload_n 0, 1) := by decide +kernel
theorem dJ0_charAt_5068e_17 : decode cJ0_charAt_5068e 17 = .ok (.getfield 9, 3) := by decide +kernel
theorem dJ0_charAt_5068e_20 : decode cJ0_charAt_5068e 20 = .ok (.iload_n 1, 1) := by decide +kernel
theorem dJ0_charAt_5068e_21 : decode cJ0_charAt_5068e 21 = .ok (.invokestatic 498, 3) := by decide +kernel
theorem dJ0_charAt_5068e_24 : decode cJ0_charAt_5068e 24 = .ok (.ireturn, 1) := by decide +kernel
theorem dJ0_indexOf_0f7a4_0 : decode cJ0_indexOf_0f7a4 0 = .ok (.aload_n 0, 1) := by decide +kernel
theorem dJ0_indexOf_0f7a4_1 : decode cJ0_indexOf_0f7a4 1 = .ok (.iload_n 1, 1) := by decide +kernel
theorem dJ0_indexOf_0f7a4_2 : decode cJ0_indexOf_0f7a4 2 = .ok (.iconst 0, 1) := by decide +kernel
theorem dJ0_indexOf_0f7a4_3 : decode cJ0_indexOf_0f7a4 3 = .ok (.invokevirtual 633, 3) := by decide +kernel
theorem dJ0_indexOf_0f7a4_6 : decode cJ0_indexOf_0f7a4 6 = .ok (.ireturn, 1) := by decide +kernel
theorem dJ0_indexOf_7cf53_0 : decode cJ0_indexOf_7cf53 0 = .ok (.aload_n 0, 1) := by decide +kernel
theorem dJ0_indexOf_7cf53_1 : decode cJ0_indexOf_7cf53 1 = .ok (.invokevirtual 492, 3) := by decide +kernel
theorem dJ0_indexOf_7cf53_4 : decode cJ0_indexOf_7cf53 4 = .ok (.ifCond .eq 19, 3) := by decide +kernel
theorem dJ0_indexOf_7cf53_7 : decode cJ0_indexOf_7cf53 7 = .ok (.aload_n 0, 1) := by decide +kernel
theorem dJ0_indexOf_7cf53_8 : decode cJ0_indexOf_7cf53 8 = .ok (.getfield 9, 3) := by decide +kernel
theorem dJ0_indexOf_7cf53_11 : decode cJ0_indexOf_7cf53 11 = .ok (.iload_n 1, 1) := by decide +kernel
theorem dJ0_indexOf_7cf53_12 : decode cJ0_indexOf_7cf53 12 = .ok (.iload_n 2, 1) := by decide +kernel
theorem dJ0_indexOf_7cf53_13 : decode cJ0_indexOf_7cf53 13 = .ok (.aload_n 0, 1) := by decide +kernel
theorem dJ0_indexOf_7cf53_14 : decode cJ0_indexOf_7cf53 14 = .ok (.invokevirtual 505, 3) := by decide +kernel
theorem dJ0_indexOf_7cf53_17 : decode cJ0_indexOf_7cf53 17 = .ok (.invokestatic 637, 3) := by decide +kernel
theorem dJ0_indexOf_7cf53_20 : decode cJ0_indexOf_7cf53 20 = .ok (.goto 16, 3) := by decide +kernel
theorem dJ0_indexOf_7cf53_23 : decode cJ0_indexOf_7cf53 23 = .ok (.aload_n 0, 1) := by decide +kernel
theorem dJ0_indexOf_7cf53_24 : decode cJ0_indexOf_7cf53 24 = .ok (.getfield 9, 3) := by decide +kernel
theorem dJ0_indexOf_7cf53_27 : decode cJ0_indexOf_7cf53 27 = .ok (.iload_n 1, 1) := by decide +kernel
theorem dJ0_indexOf_7cf53_28 : decode cJ0_indexOf_7cf53 28 = .ok (.iload_n 2, 1) := by decide +kernel
theorem dJ0_indexOf_7cf53_29 : decode cJ0_indexOf_7cf53 29 = .ok (.aload_n 0, 1) := by decide +kernel
theorem dJ0_indexOf_7cf53_30 : decode cJ0_indexOf_7cf53 30 = .ok (.invokevirtual 505, 3) := by decide +kernel
theorem dJ0_indexOf_7cf53_33 : decode cJ0_indexOf_7cf53 33 = .ok (.invokestatic 640, 3) := by decide +kernel
theorem dJ0_indexOf_7cf53_36 : decode cJ0_indexOf_7cf53 36 = .ok (.ireturn, 1) := by decide +kernel
theorem dJ0_coder_7d493_0 : decode cJ0_coder_7d493 0 = .ok (.getstatic 38, 3) := by decide +kernel
theorem dJ0_coder_7d493_3 : decode cJ0_coder_7d493 3 = .ok (.ifCond .eq 10, 3) := by decide +kernel
theorem dJ0_coder_7d493_6 : decode cJ0_coder_7d493 6 = .ok (.aload_n 0, 1) := by decide +kernel
theorem dJ0_coder_7d493_7 : decode cJ0_coder_7d493 7 = .ok (.getfield 15, 3) := by decide +kernel
theorem dJ0_coder_7d493_10 : decode cJ0_coder_7d493 10 = .ok (.goto 4, 3) := by decide +kernel
theorem dJ0_coder_7d493_13 : decode cJ0_coder_7d493 13 = .ok (.iconst 1, 1) := by decide +kernel
theorem dJ0_coder_7d493_14 : decode cJ0_coder_7d493 14 = .ok (.ireturn, 1) := by decide +kernel
theorem dJ0_isLatin1_aae02_0 : decode cJ0_isLatin1_aae02 0 = .ok (.getstatic 38, 3) := by decide +kernel
theorem dJ0_isLatin1_aae02_3 : decode cJ0_isLatin1_aae02 3 = .ok (.ifCond .eq 14, 3) := by decide +kernel
theorem dJ0_isLatin1_aae02_6 : decode cJ0_isLatin1_aae02 6 = .ok (.aload_n 0, 1) := by decide +kernel
theorem dJ0_isLatin1_aae02_7 : decode cJ0_isLatin1_aae02 7 = .ok (.getfield 15, 3) := by decide +kernel
theorem dJ0_isLatin1_aae02_10 : decode cJ0_isLatin1_aae02 10 = .ok (.ifCond .ne 7, 3) := by decide +kernel
theorem dJ0_isLatin1_aae02_13 : decode cJ0_isLatin1_aae02 13 = .ok (.iconst 1, 1) := by decide +kernel
theorem dJ0_isLatin1_aae02_14 : decode cJ0_isLatin1_aae02 14 = .ok (.goto 4, 3) := by decide +kernel
theorem dJ0_isLatin1_aae02_17 : decode cJ0_isLatin1_aae02 17 = .ok (.iconst 0, 1) := by decide +kernel
theorem dJ0_isLatin1_aae02_18 : decode cJ0_isLatin1_aae02 18 = .ok (.ireturn, 1) := by decide +kernel
theorem dJ0_checkIndex_df160_0 : decode cJ0_checkIndex_df160 0 = .ok (.iload_n 0, 1) := by decide +kernel
theorem dJ0_checkIndex_df160_1 : decode cJ0_checkIndex_df160 1 = .ok (.iload_n 1, 1) := by decide +kernel
theorem dJ0_checkIndex_df160_2 : decode cJ0_checkIndex_df160 2 = .ok (.getstatic 1053, 3) := by decide +kernel
theorem dJ0_checkIndex_df160_5 : decode cJ0_checkIndex_df160 5 = .ok (.invokestatic 1059, 3) := by decide +kernel
theorem dJ0_checkIndex_df160_8 : decode cJ0_checkIndex_df160 8 = .ok (.pop, 1) := by decide +kernel
theorem dJ0_checkIndex_df160_9 : decode cJ0_checkIndex_df160 9 = .ok (.return_, 1) := by decide +kernel
theorem dJ0_checkBoundsBeginEnd_23922_0 : decode cJ0_checkBoundsBeginEnd_23922 0 = .ok (.iload_n 0, 1) := by decide +kernel
theorem dJ0_checkBoundsBeginEnd_23922_1 : decode cJ0_checkBoundsBeginEnd_23922 1 = .ok (.iload_n 1, 1) := by decide +kernel
theorem dJ0_checkBoundsBeginEnd_23922_2 : decode cJ0_checkBoundsBeginEnd_23922 2 = .ok (.iload_n 2, 1) := by decide +kernel
theorem dJ0_checkBoundsBeginEnd_23922_3 : decode cJ0_checkBoundsBeginEnd_23922 3 = .ok (.getstatic 1053, 3) := by decide +kernel
theorem dJ0_checkBoundsBeginEnd_23922_6 : decode cJ0_checkBoundsBeginEnd_23922 6 = .ok (.invokestatic 1062, 3) := by decide +kernel
theorem dJ0_checkBoundsBeginEnd_23922_9 : decode cJ0_checkBoundsBeginEnd_23922 9 = .ok (.pop, 1) := by decide +kernel
theorem dJ0_checkBoundsBeginEnd_23922_10 : decode cJ0_checkBoundsBeginEnd_23922 10 = .ok (.return_, 1) := by decide +kernel
theorem dJ1_charAt_3b067_0 : decode cJ1_charAt_3b067 0 = .ok (.iload_n 1, 1) := by decide +kernel
theorem dJ1_charAt_3b067_1 : decode cJ1_charAt_3b067 1 = .ok (.aload_n 0, 1) := by decide +kernel
theorem dJ1_charAt_3b067_2 : decode cJ1_charAt_3b067 2 = .ok (.arraylength, 1) := by decide +kernel
theorem dJ1_charAt_3b067_3 : decode cJ1_charAt_3b067 3 = .ok (.invokestatic 9, 3) := by decide +kernel
theorem dJ1_charAt_3b067_6 : decode cJ1_charAt_3b067 6 = .ok (.aload_n 0, 1) := by decide +kernel
theorem dJ1_charAt_3b067_7 : decode cJ1_charAt_3b067 7 = .ok (.iload_n 1, 1) := by decide +kernel
theorem dJ1_charAt_3b067_8 : decode cJ1_charAt_3b067 8 = .ok (.baload, 1) := by decide +kernel
theorem dJ1_charAt_3b067_9 : decode cJ1_charAt_3b067 9 = .ok (.sipush 255, 3) := by decide +kernel
theorem dJ1_charAt_3b067_12 : decode cJ1_charAt_3b067 12 = .ok (.iand, 1) := by decide +kernel
theorem dJ1_charAt_3b067_13 : decode cJ1_charAt_3b067 13 = .ok (.i2c, 1) := by decide +kernel
theorem dJ1_charAt_3b067_14 : decode cJ1_charAt_3b067 14 = .ok (.ireturn, 1) := by decide +kernel
theorem dJ1_canEncode_9a6ad_0 : decode cJ1_canEncode_9a6ad 0 = .ok (.iload_n 0, 1) := by decide +kernel
theorem dJ1_canEncode_9a6ad_1 : decode cJ1_canEncode_9a6ad 1 = .ok (.ifCond .lt 14, 3) := by decide +kernel
theorem dJ1_canEncode_9a6ad_4 : decode cJ1_canEncode_9a6ad 4 = .ok (.iload_n 0, 1) := by decide +kernel
theorem dJ1_canEncode_9a6ad_5 : decode cJ1_canEncode_9a6ad 5 = .ok (.sipush 255, 3) := by decide +kernel
theorem dJ1_canEncode_9a6ad_8 : decode cJ1_canEncode_9a6ad 8 = .ok (.if_icmp .gt 7, 3) := by decide +kernel
theorem dJ1_canEncode_9a6ad_11 : decode cJ1_canEncode_9a6ad 11 = .ok (.iconst 1, 1) := by decide +kernel
theorem dJ1_canEncode_9a6ad_12 : decode cJ1_canEncode_9a6ad 12 = .ok (.goto 4, 3) := by decide +kernel
theorem dJ1_canEncode_9a6ad_15 : decode cJ1_canEncode_9a6ad 15 = .ok (.iconst 0, 1) := by decide +kernel
theorem dJ1_canEncode_9a6ad_16 : decode cJ1_canEncode_9a6ad 16 = .ok (.ireturn, 1) := by decide +kernel
theorem dJ1_indexOf_4cfef_0 : decode cJ1_indexOf_4cfef 0 = .ok (.iload_n 1, 1) := by decide +kernel
theorem dJ1_indexOf_4cfef_1 : decode cJ1_indexOf_4cfef 1 = .ok (.invokestatic 88, 3) := by decide +kernel
theorem dJ1_indexOf_4cfef_4 : decode cJ1_indexOf_4cfef 4 = .ok (.ifCond .ne 5, 3) := by decide +kernel
theorem dJ1_indexOf_4cfef_7 : decode cJ1_indexOf_4cfef 7 = .ok (.iconst (-1), 1) := by decide +kernel
theorem dJ1_indexOf_4cfef_8 : decode cJ1_indexOf_4cfef 8 = .ok (.ireturn, 1) := by decide +kernel
theorem dJ1_indexOf_4cfef_9 : decode cJ1_indexOf_4cfef 9 = .ok (.iload_n 2, 1) := by decide +kernel
theorem dJ1_indexOf_4cfef_10 : decode cJ1_indexOf_4cfef 10 = .ok (.iconst 0, 1) := by decide +kernel
theorem dJ1_indexOf_4cfef_11 : decode cJ1_indexOf_4cfef 11 = .ok (.invokestatic 92, 3) := by decide +kernel
theorem dJ1_indexOf_4cfef_14 : decode cJ1_indexOf_4cfef 14 = .ok (.istore_n 2, 1) := by decide +kernel
theorem dJ1_indexOf_4cfef_15 : decode cJ1_indexOf_4cfef 15 = .ok (.iload_n 3, 1) := by decide +kernel
theorem dJ1_indexOf_4cfef_16 : decode cJ1_indexOf_4cfef 16 = .ok (.aload_n 0, 1) := by decide +kernel
theorem dJ1_indexOf_4cfef_17 : decode cJ1_indexOf_4cfef 17 = .ok (.arraylength, 1) := by decide +kernel
theorem dJ1_indexOf_4cfef_18 : decode cJ1_indexOf_4cfef 18 = .ok (.invokestatic 38, 3) := by decide +kernel
theorem dJ1_indexOf_4cfef_21 : decode cJ1_indexOf_4cfef 21 = .ok (.istore_n 3, 1) := by decide +kernel
theorem dJ1_indexOf_4cfef_22 : decode cJ1_indexOf_4cfef 22 = .ok (.iload_n 2, 1) := by decide +kernel
theorem dJ1_indexOf_4cfef_23 : decode cJ1_indexOf_4cfef 23 = .ok (.iload_n 3, 1) := by decide +kernel
theorem dJ1_indexOf_4cfef_24 : decode cJ1_indexOf_4cfef 24 = .ok (.if_icmp .lt 5, 3) := by decide +kernel
theorem dJ1_indexOf_4cfef_27 : decode cJ1_indexOf_4cfef 27 = .ok (.iconst (-1), 1) := by decide +kernel
theorem dJ1_indexOf_4cfef_28 : decode cJ1_indexOf_4cfef 28 = .ok (.ireturn, 1) := by decide +kernel
theorem dJ1_indexOf_4cfef_29 : decode cJ1_indexOf_4cfef 29 = .ok (.aload_n 0, 1) := by decide +kernel
theorem dJ1_indexOf_4cfef_30 : decode cJ1_indexOf_4cfef 30 = .ok (.iload_n 1, 1) := by decide +kernel
theorem dJ1_indexOf_4cfef_31 : decode cJ1_indexOf_4cfef 31 = .ok (.iload_n 2, 1) := by decide +kernel
theorem dJ1_indexOf_4cfef_32 : decode cJ1_indexOf_4cfef 32 = .ok (.iload_n 3, 1) := by decide +kernel
theorem dJ1_indexOf_4cfef_33 : decode cJ1_indexOf_4cfef 33 = .ok (.invokestatic 95, 3) := by decide +kernel
theorem dJ1_indexOf_4cfef_36 : decode cJ1_indexOf_4cfef 36 = .ok (.ireturn, 1) := by decide +kernel
theorem dJ1_indexOfChar_4cfef_0 : decode cJ1_indexOfChar_4cfef 0 = .ok (.iload_n 1, 1) := by decide +kernel
theorem dJ1_indexOfChar_4cfef_1 : decode cJ1_indexOfChar_4cfef 1 = .ok (.i2b, 1) := by decide +kernel
theorem dJ1_indexOfChar_4cfef_2 : decode cJ1_indexOfChar_4cfef 2 = .ok (.istore 4, 2) := by decide +kernel
theorem dJ1_indexOfChar_4cfef_4 : decode cJ1_indexOfChar_4cfef 4 = .ok (.iload_n 2, 1) := by decide +kernel
theorem dJ1_indexOfChar_4cfef_5 : decode cJ1_indexOfChar_4cfef 5 = .ok (.istore 5, 2) := by decide +kernel
theorem dJ1_indexOfChar_4cfef_7 : decode cJ1_indexOfChar_4cfef 7 = .ok (.iload 5, 2) := by decide +kernel
theorem dJ1_indexOfChar_4cfef_9 : decode cJ1_indexOfChar_4cfef 9 = .ok (.iload_n 3, 1) := by decide +kernel
theorem dJ1_indexOfChar_4cfef_10 : decode cJ1_indexOfChar_4cfef 10 = .ok (.if_icmp .ge 21, 3) := by decide +kernel
theorem dJ1_indexOfChar_4cfef_13 : decode cJ1_indexOfChar_4cfef 13 = .ok (.aload_n 0, 1) := by decide +kernel
theorem dJ1_indexOfChar_4cfef_14 : decode cJ1_indexOfChar_4cfef 14 = .ok (.iload 5, 2) := by decide +kernel
theorem dJ1_indexOfChar_4cfef_16 : decode cJ1_indexOfChar_4cfef 16 = .ok (.baload, 1) := by decide +kernel
theorem dJ1_indexOfChar_4cfef_17 : decode cJ1_indexOfChar_4cfef 17 = .ok (.iload 4, 2) := by decide +kernel
theorem dJ1_indexOfChar_4cfef_19 : decode cJ1_indexOfChar_4cfef 19 = .ok (.if_icmp .ne 6, 3) := by decide +kernel
theorem dJ1_indexOfChar_4cfef_22 : decode cJ1_indexOfChar_4cfef 22 = .ok (.iload 5, 2) := by decide +kernel
theorem dJ1_indexOfChar_4cfef_24 : decode cJ1_indexOfChar_4cfef 24 = .ok (.ireturn, 1) := by decide +kernel
theorem dJ1_indexOfChar_4cfef_25 : decode cJ1_indexOfChar_4cfef 25 = .ok (.iinc 5 1, 3) := by decide +kernel
theorem dJ1_indexOfChar_4cfef_28 : decode cJ1_indexOfChar_4cfef 28 = .ok (.goto (-21), 3) := by decide +kernel
theorem dJ1_indexOfChar_4cfef_31 : decode cJ1_indexOfChar_4cfef 31 = .ok (.iconst (-1), 1) := by decide +kernel
theorem dJ1_indexOfChar_4cfef_32 : decode cJ1_indexOfChar_4cfef 32 = .ok (.ireturn, 1) := by decide +kernel
theorem dJ2_getChar_3b067_0 : decode cJ2_getChar_3b067 0 = .ok (.getstatic 44, 3) := by decide +kernel
theorem dJ2_getChar_3b067_3 : decode cJ2_getChar_3b067 3 = .ok (.ifCond .ne 25, 3) := by decide +kernel
theorem dJ2_getChar_3b067_6 : decode cJ2_getChar_3b067 6 = .ok (.iload_n 1, 1) := by decide +kernel
theorem dJ2_getChar_3b067_7 : decode cJ2_getChar_3b067 7 = .ok (.ifCond .lt 11, 3) := by decide +kernel
theorem dJ2_getChar_3b067_10 : decode cJ2_getChar_3b067 10 = .ok (.iload_n 1, 1) := by decide +kernel
theorem dJ2_getChar_3b067_11 : decode cJ2_getChar_3b067 11 = .ok (.aload_n 0, 1) := by decide +kernel
theorem dJ2_getChar_3b067_12 : decode cJ2_getChar_3b067 12 = .ok (.invokestatic 48, 3) := by decide +kernel
theorem dJ2_getChar_3b067_15 : decode cJ2_getChar_3b067 15 = .ok (.if_icmp .lt 13, 3) := by decide +kernel
theorem dJ2_getChar_3b067_18 : decode cJ2_getChar_3b067 18 = .ok (.new 52, 3) := by decide +kernel
theorem dJ2_getChar_3b067_21 : decode cJ2_getChar_3b067 21 = .ok (.dup, 1) := by decide +kernel
theorem dJ2_getChar_3b067_22 : decode cJ2_getChar_3b067 22 = .ok (.ldc 54, 2) := by decide +kernel
theorem dJ2_getChar_3b067_24 : decode cJ2_getChar_3b067 24 = .ok (.invokespecial 56, 3) := by decide +kernel
theorem dJ2_getChar_3b067_27 : decode cJ2_getChar_3b067 27 = .ok (.athrow, 1) := by decide +kernel
theorem dJ2_getChar_3b067_28 : decode cJ2_getChar_3b067 28 = .ok (.iload_n 1, 1) := by decide +kernel
theorem dJ2_getChar_3b067_29 : decode cJ2_getChar_3b067 29 = .ok (.iconst 1, 1) := by decide +kernel
theorem dJ2_getChar_3b067_30 : decode cJ2_getChar_3b067 30 = .ok (.ishl, 1) := by decide +kernel
theorem dJ2_getChar_3b067_31 : decode cJ2_getChar_3b067 31 = .ok (.istore_n 1, 1) := by decide +kernel
theorem dJ2_getChar_3b067_32 : decode cJ2_getChar_3b067 32 = .ok (.aload_n 0, 1) := by decide +kernel
theorem dJ2_getChar_3b067_33 : decode cJ2_getChar_3b067 33 = .ok (.iload_n 1, 1) := by decide +kernel
theorem dJ2_getChar_3b067_34 : decode cJ2_getChar_3b067 34 = .ok (.iinc 1 1, 3) := by decide +kernel
theorem dJ2_getChar_3b067_37 : decode cJ2_getChar_3b067 37 = .ok (.baload, 1) := by decide +kernel
theorem dJ2_getChar_3b067_38 : decode cJ2_getChar_3b067 38 = .ok (.sipush 255, 3) := by decide +kernel
theorem dJ2_getChar_3b067_41 : decode cJ2_getChar_3b067 41 = .ok (.iand, 1) := by decide +kernel
theorem dJ2_getChar_3b067_42 : decode cJ2_getChar_3b067 42 = .ok (.getstatic 59, 3) := by decide +kernel
theorem dJ2_getChar_3b067_45 : decode cJ2_getChar_3b067 45 = .ok (.ishl, 1) := by decide +kernel
theorem dJ2_getChar_3b067_46 : decode cJ2_getChar_3b067 46 = .ok (.aload_n 0, 1) := by decide +kernel
theorem dJ2_getChar_3b067_47 : decode cJ2_getChar_3b067 47 = .ok (.iload_n 1, 1) := by decide +kernel
theorem dJ2_getChar_3b067_48 : decode cJ2_getChar_3b067 48 = .ok (.baload, 1) := by decide +kernel
theorem dJ2_getChar_3b067_49 : decode cJ2_getChar_3b067 49 = .ok (.sipush 255, 3) := by decide +kernel
theorem dJ2_getChar_3b067_52 : decode cJ2_getChar_3b067 52 = .ok (.iand, 1) := by decide +kernel
theorem dJ2_getChar_3b067_53 : decode cJ2_getChar_3b067 53 = .ok (.getstatic 63, 3) := by decide +kernel
theorem dJ2_getChar_3b067_56 : decode cJ2_getChar_3b067 56 = .ok (.ishl, 1) := by decide +kernel
theorem dJ2_getChar_3b067_57 : decode cJ2_getChar_3b067 57 = .ok (.ior, 1) := by decide +kernel
theorem dJ2_getChar_3b067_58 : decode cJ2_getChar_3b067 58 = .ok (.i2c, 1) := by decide +kernel
theorem dJ2_getChar_3b067_59 : decode cJ2_getChar_3b067 59 = .ok (.ireturn, 1) := by decide +kernel
theorem dJ2_length_9d52b_0 : decode cJ2_length_9d52b 0 = .ok (.aload_n 0, 1) := by decide +kernel
theorem dJ2_length_9d52b_1 : decode cJ2_length_9d52b 1 = .ok (.arraylength, 1) := by decide +kernel
theorem dJ2_length_9d52b_2 : decode cJ2_length_9d52b 2 = .ok (.iconst 1, 1) := by decide +kernel
theorem dJ2_length_9d52b_3 : decode cJ2_length_9d52b 3 = .ok (.ishr, 1) := by decide +kernel
theorem dJ2_length_9d52b_4 : decode cJ2_length_9d52b 4 = .ok (.ireturn, 1) := by decide +kernel
theorem dJ2_indexOf_4cfef_0 : decode cJ2_indexOf_4cfef 0 = .ok (.iload_n 2, 1) := by decide +kernel
theorem dJ2_indexOf_4cfef_1 : decode cJ2_indexOf_4cfef 1 = .ok (.iconst 0, 1) := by decide +kernel
theorem dJ2_indexOf_4cfef_2 : decode cJ2_indexOf_4cfef 2 = .ok (.invokestatic 224, 3) := by decide +kernel
theorem dJ2_indexOf_4cfef_5 : decode cJ2_indexOf_4cfef 5 = .ok (.istore_n 2, 1) := by decide +kernel
theorem dJ2_indexOf_4cfef_6 : decode cJ2_indexOf_4cfef 6 = .ok (.iload_n 3, 1) := by decide +kernel
theorem dJ2_indexOf_4cfef_7 : decode cJ2_indexOf_4cfef 7 = .ok (.aload_n 0, 1) := by decide +kernel
theorem dJ2_indexOf_4cfef_8 : decode cJ2_indexOf_4cfef 8 = .ok (.arraylength, 1) := by decide +kernel
theorem dJ2_indexOf_4cfef_9 : decode cJ2_indexOf_4cfef 9 = .ok (.iconst 1, 1) := by decide +kernel
theorem dJ2_indexOf_4cfef_10 : decode cJ2_indexOf_4cfef 10 = .ok (.ishr, 1) := by decide +kernel
theorem dJ2_indexOf_4cfef_11 : decode cJ2_indexOf_4cfef 11 = .ok (.invokestatic 183, 3) := by decide +kernel
theorem dJ2_indexOf_4cfef_14 : decode cJ2_indexOf_4cfef 14 = .ok (.istore_n 3, 1) := by decide +kernel
theorem dJ2_indexOf_4cfef_15 : decode cJ2_indexOf_4cfef 15 = .ok (.iload_n 2, 1) := by decide +kernel
theorem dJ2_indexOf_4cfef_16 : decode cJ2_indexOf_4cfef 16 = .ok (.iload_n 3, 1) := by decide +kernel
theorem dJ2_indexOf_4cfef_17 : decode cJ2_indexOf_4cfef 17 = .ok (.if_icmp .lt 5, 3) := by decide +kernel
theorem dJ2_indexOf_4cfef_20 : decode cJ2_indexOf_4cfef 20 = .ok (.iconst (-1), 1) := by decide +kernel
theorem dJ2_indexOf_4cfef_21 : decode cJ2_indexOf_4cfef 21 = .ok (.ireturn, 1) := by decide +kernel
theorem dJ2_indexOf_4cfef_22 : decode cJ2_indexOf_4cfef 22 = .ok (.iload_n 1, 1) := by decide +kernel
theorem dJ2_indexOf_4cfef_23 : decode cJ2_indexOf_4cfef 23 = .ok (.ldc 227, 2) := by decide +kernel
theorem dJ2_indexOf_4cfef_25 : decode cJ2_indexOf_4cfef 25 = .ok (.if_icmp .ge 11, 3) := by decide +kernel
theorem dJ2_indexOf_4cfef_28 : decode cJ2_indexOf_4cfef 28 = .ok (.aload_n 0, 1) := by decide +kernel
theorem dJ2_indexOf_4cfef_29 : decode cJ2_indexOf_4cfef 29 = .ok (.iload_n 1, 1) := by decide +kernel
theorem dJ2_indexOf_4cfef_30 : decode cJ2_indexOf_4cfef 30 = .ok (.iload_n 2, 1) := by decide +kernel
theorem dJ2_indexOf_4cfef_31 : decode cJ2_indexOf_4cfef 31 = .ok (.iload_n 3, 1) := by decide +kernel
theorem dJ2_indexOf_4cfef_32 : decode cJ2_indexOf_4cfef 32 = .ok (.invokestatic 228, 3) := by decide +kernel
theorem dJ2_indexOf_4cfef_35 : decode cJ2_indexOf_4cfef 35 = .ok (.ireturn, 1) := by decide +kernel
theorem dJ2_indexOf_4cfef_36 : decode cJ2_indexOf_4cfef 36 = .ok (.aload_n 0, 1) := by decide +kernel
theorem dJ2_indexOf_4cfef_37 : decode cJ2_indexOf_4cfef 37 = .ok (.iload_n 1, 1) := by decide +kernel
theorem dJ2_indexOf_4cfef_38 : decode cJ2_indexOf_4cfef 38 = .ok (.iload_n 2, 1) := by decide +kernel
theorem dJ2_indexOf_4cfef_39 : decode cJ2_indexOf_4cfef 39 = .ok (.iload_n 3, 1) := by decide +kernel
theorem dJ2_indexOf_4cfef_40 : decode cJ2_indexOf_4cfef 40 = .ok (.invokestatic 232, 3) := by decide +kernel
theorem dJ2_indexOf_4cfef_43 : decode cJ2_indexOf_4cfef 43 = .ok (.ireturn, 1) := by decide +kernel
theorem dJ2_indexOfChar_4cfef_0 : decode cJ2_indexOfChar_4cfef 0 = .ok (.iload_n 2, 1) := by decide +kernel
theorem dJ2_indexOfChar_4cfef_1 : decode cJ2_indexOfChar_4cfef 1 = .ok (.iload_n 3, 1) := by decide +kernel
theorem dJ2_indexOfChar_4cfef_2 : decode cJ2_indexOfChar_4cfef 2 = .ok (.aload_n 0, 1) := by decide +kernel
theorem dJ2_indexOfChar_4cfef_3 : decode cJ2_indexOfChar_4cfef 3 = .ok (.invokestatic 96, 3) := by decide +kernel
theorem dJ2_indexOfChar_4cfef_6 : decode cJ2_indexOfChar_4cfef 6 = .ok (.aload_n 0, 1) := by decide +kernel
theorem dJ2_indexOfChar_4cfef_7 : decode cJ2_indexOfChar_4cfef 7 = .ok (.iload_n 1, 1) := by decide +kernel
theorem dJ2_indexOfChar_4cfef_8 : decode cJ2_indexOfChar_4cfef 8 = .ok (.iload_n 2, 1) := by decide +kernel
theorem dJ2_indexOfChar_4cfef_9 : decode cJ2_indexOfChar_4cfef 9 = .ok (.iload_n 3, 1) := by decide +kernel
theorem dJ2_indexOfChar_4cfef_10 : decode cJ2_indexOfChar_4cfef 10 = .ok (.invokestatic 244, 3) := by decide +kernel
theorem dJ2_indexOfChar_4cfef_13 : decode cJ2_indexOfChar_4cfef 13 = .ok (.ireturn, 1) := by decide +kernel
theorem dJ2_indexOfCharUnsafe_4cfef_0 : decode cJ2_indexOfCharUnsafe_4cfef 0 = .ok (.iload_n 2, 1) := by decide +kernel
theorem dJ2_indexOfCharUnsafe_4cfef_1 : decode cJ2_indexOfCharUnsafe_4cfef 1 = .ok (.istore 4, 2) := by decide +kernel
theorem dJ2_indexOfCharUnsafe_4cfef_3 : decode cJ2_indexOfCharUnsafe_4cfef 3 = .ok (.iload 4, 2) := by decide +kernel
theorem dJ2_indexOfCharUnsafe_4cfef_5 : decode cJ2_indexOfCharUnsafe_4cfef 5 = .ok (.iload_n 3, 1) := by decide +kernel
theorem dJ2_indexOfCharUnsafe_4cfef_6 : decode cJ2_indexOfCharUnsafe_4cfef 6 = .ok (.if_icmp .ge 22, 3) := by decide +kernel
theorem dJ2_indexOfCharUnsafe_4cfef_9 : decode cJ2_indexOfCharUnsafe_4cfef 9 = .ok (.aload_n 0, 1) := by decide +kernel
theorem dJ2_indexOfCharUnsafe_4cfef_10 : decode cJ2_indexOfCharUnsafe_4cfef 10 = .ok (.iload 4, 2) := by decide +kernel
theorem dJ2_indexOfCharUnsafe_4cfef_12 : decode cJ2_indexOfCharUnsafe_4cfef 12 = .ok (.invokestatic 71, 3) := by decide +kernel
theorem dJ2_indexOfCharUnsafe_4cfef_15 : decode cJ2_indexOfCharUnsafe_4cfef 15 = .ok (.iload_n 1, 1) := by decide +kernel
theorem dJ2_indexOfCharUnsafe_4cfef_16 : decode cJ2_indexOfCharUnsafe_4cfef 16 = .ok (.if_icmp .ne 6, 3) := by decide +kernel
theorem dJ2_indexOfCharUnsafe_4cfef_19 : decode cJ2_indexOfCharUnsafe_4cfef 19 = .ok (.iload 4, 2) := by decide +kernel
theorem dJ2_indexOfCharUnsafe_4cfef_21 : decode cJ2_indexOfCharUnsafe_4cfef 21 = .ok (.ireturn, 1) := by decide +kernel
theorem dJ2_indexOfCharUnsafe_4cfef_22 : decode cJ2_indexOfCharUnsafe_4cfef 22 = .ok (.iinc 4 1, 3) := by decide +kernel
theorem dJ2_indexOfCharUnsafe_4cfef_25 : decode cJ2_indexOfCharUnsafe_4cfef 25 = .ok (.goto (-22), 3) := by decide +kernel
theorem dJ2_indexOfCharUnsafe_4cfef_28 : decode cJ2_indexOfCharUnsafe_4cfef 28 = .ok (.iconst (-1), 1) := by decide +kernel
theorem dJ2_indexOfCharUnsafe_4cfef_29 : decode cJ2_indexOfCharUnsafe_4cfef 29 = .ok (.ireturn, 1) := by decide +kernel
theorem dJ2_indexOfSupplementary_4cfef_0 : decode cJ2_indexOfSupplementary_4cfef 0 = .ok (.iload_n 1, 1) := by decide +kernel
theorem dJ2_indexOfSupplementary_4cfef_1 : decode cJ2_indexOfSupplementary_4cfef 1 = .ok (.invokestatic 164, 3) := by decide +kernel
theorem dJ2_indexOfSupplementary_4cfef_4 : decode cJ2_indexOfSupplementary_4cfef 4 = .ok (.ifCond .eq 65, 3) := by decide +kernel
theorem dJ2_indexOfSupplementary_4cfef_7 : decode cJ2_indexOfSupplementary_4cfef 7 = .ok (.iload_n 1, 1) := by decide +kernel
theorem dJ2_indexOfSupplementary_4cfef_8 : decode cJ2_indexOfSupplementary_4cfef 8 = .ok (.invokestatic 157, 3) := by decide +kernel
theorem dJ2_indexOfSupplementary_4cfef_11 : decode cJ2_indexOfSupplementary_4cfef 11 = .ok (.istore 4, 2) := by decide +kernel
theorem dJ2_indexOfSupplementary_4cfef_13 : decode cJ2_indexOfSupplementary_4cfef 13 = .ok (.iload_n 1, 1) := by decide +kernel
theorem dJ2_indexOfSupplementary_4cfef_14 : decode cJ2_indexOfSupplementary_4cfef 14 = .ok (.invokestatic 161, 3) := by decide +kernel
theorem dJ2_indexOfSupplementary_4cfef_17 : decode cJ2_indexOfSupplementary_4cfef 17 = .ok (.istore 5, 2) := by decide +kernel
theorem dJ2_indexOfSupplementary_4cfef_19 : decode cJ2_indexOfSupplementary_4cfef 19 = .ok (.iload_n 2, 1) := by decide +kernel
theorem dJ2_indexOfSupplementary_4cfef_20 : decode cJ2_indexOfSupplementary_4cfef 20 = .ok (.iload_n 3, 1) := by decide +kernel
theorem dJ2_indexOfSupplementary_4cfef_21 : decode cJ2_indexOfSupplementary_4cfef 21 = .ok (.aload_n 0, 1) := by decide +kernel
theorem dJ2_indexOfSupplementary_4cfef_22 : decode cJ2_indexOfSupplementary_4cfef 22 = .ok (.invokestatic 96, 3) := by decide +kernel
theorem dJ2_indexOfSupplementary_4cfef_25 : decode cJ2_indexOfSupplementary_4cfef 25 = .ok (.iload_n 2, 1) := by decide +kernel
theorem dJ2_indexOfSupplementary_4cfef_26 : decode cJ2_indexOfSupplementary_4cfef 26 = .ok (.istore 6, 2) := by decide +kernel
theorem dJ2_indexOfSupplementary_4cfef_28 : decode cJ2_indexOfSupplementary_4cfef 28 = .ok (.iload 6, 2) := by decide +kernel
theorem dJ2_indexOfSupplementary_4cfef_30 : decode cJ2_indexOfSupplementary_4cfef 30 = .ok (.iload_n 3, 1) := by decide +kernel
theorem dJ2_indexOfSupplementary_4cfef_31 : decode cJ2_indexOfSupplementary_4cfef 31 = .ok (.iconst 1, 1) := by decide +kernel
theorem dJ2_indexOfSupplementary_4cfef_32 : decode cJ2_indexOfSupplementary_4cfef 32 = .ok (.isub, 1) := by decide +kernel
theorem dJ2_indexOfSupplementary_4cfef_33 : decode cJ2_indexOfSupplementary_4cfef 33 = .ok (.if_icmp .ge 36, 3) := by decide +kernel
theorem dJ2_indexOfSupplementary_4cfef_36 : decode cJ2_indexOfSupplementary_4cfef 36 = .ok (.aload_n 0, 1) := by decide +kernel
theorem dJ2_indexOfSupplementary_4cfef_37 : decode cJ2_indexOfSupplementary_4cfef 37 = .ok (.iload 6, 2) := by decide +kernel
theorem dJ2_indexOfSupplementary_4cfef_39 : decode cJ2_indexOfSupplementary_4cfef 39 = .ok (.invokestatic 71, 3) := by decide +kernel
theorem dJ2_indexOfSupplementary_4cfef_42 : decode cJ2_indexOfSupplementary_4cfef 42 = .ok (.iload 4, 2) := by decide +kernel
theorem dJ2_indexOfSupplementary_4cfef_44 : decode cJ2_indexOfSupplementary_4cfef 44 = .ok (.if_icmp .ne 19, 3) := by decide +kernel
theorem dJ2_indexOfSupplementary_4cfef_47 : decode cJ2_indexOfSupplementary_4cfef 47 = .ok (.aload_n 0, 1) := by decide +kernel
theorem dJ2_indexOfSupplementary_4cfef_48 : decode cJ2_indexOfSupplementary_4cfef 48 = .ok (.iload 6, 2) := by decide +kernel
theorem dJ2_indexOfSupplementary_4cfef_50 : decode cJ2_indexOfSupplementary_4cfef 50 = .ok (.iconst 1, 1) := by decide +kernel
theorem dJ2_indexOfSupplementary_4cfef_51 : decode cJ2_indexOfSupplementary_4cfef 51 = .ok (.iadd, 1) := by decide +kernel
theorem dJ2_indexOfSupplementary_4cfef_52 : decode cJ2_indexOfSupplementary_4cfef 52 = .ok (.invokestatic 71, 3) := by decide +kernel
theorem dJ2_indexOfSupplementary_4cfef_55 : decode cJ2_indexOfSupplementary_4cfef 55 = .ok (.iload 5, 2) := by decide +kernel
theorem dJ2_indexOfSupplementary_4cfef_57 : decode cJ2_indexOfSupplementary_4cfef 57 = .ok (.if_icmp .ne 6, 3) := by decide +kernel
theorem dJ2_indexOfSupplementary_4cfef_60 : decode cJ2_indexOfSupplementary_4cfef 60 = .ok (.iload 6, 2) := by decide +kernel
theorem dJ2_indexOfSupplementary_4cfef_62 : decode cJ2_indexOfSupplementary_4cfef 62 = .ok (.ireturn, 1) := by decide +kernel
theorem dJ2_indexOfSupplementary_4cfef_63 : decode cJ2_indexOfSupplementary_4cfef 63 = .ok (.iinc 6 1, 3) := by decide +kernel
theorem dJ2_indexOfSupplementary_4cfef_66 : decode cJ2_indexOfSupplementary_4cfef 66 = .ok (.goto (-38), 3) := by decide +kernel
theorem dJ2_indexOfSupplementary_4cfef_69 : decode cJ2_indexOfSupplementary_4cfef 69 = .ok (.iconst (-1), 1) := by decide +kernel
theorem dJ2_indexOfSupplementary_4cfef_70 : decode cJ2_indexOfSupplementary_4cfef 70 = .ok (.ireturn, 1) := by decide +kernel
theorem dJ2_charAt_3b067_0 : decode cJ2_charAt_3b067 0 = .ok (.iload_n 1, 1) := by decide +kernel
theorem dJ2_charAt_3b067_1 : decode cJ2_charAt_3b067 1 = .ok (.aload_n 0, 1) := by decide +kernel
theorem dJ2_charAt_3b067_2 : decode cJ2_charAt_3b067 2 = .ok (.invokestatic 67, 3) := by decide +kernel
theorem dJ2_charAt_3b067_5 : decode cJ2_charAt_3b067 5 = .ok (.aload_n 0, 1) := by decide +kernel
theorem dJ2_charAt_3b067_6 : decode cJ2_charAt_3b067 6 = .ok (.iload_n 1, 1) := by decide +kernel
theorem dJ2_charAt_3b067_7 : decode cJ2_charAt_3b067 7 = .ok (.invokestatic 71, 3) := by decide +kernel
theorem dJ2_charAt_3b067_10 : decode cJ2_charAt_3b067 10 = .ok (.ireturn, 1) := by decide +kernel
theorem dJ2_checkIndex_2214a_0 : decode cJ2_checkIndex_2214a 0 = .ok (.iload_n 0, 1) := by decide +kernel
theorem dJ2_checkIndex_2214a_1 : decode cJ2_checkIndex_2214a 1 = .ok (.aload_n 1, 1) := by decide +kernel
theorem dJ2_checkIndex_2214a_2 : decode cJ2_checkIndex_2214a 2 = .ok (.invokestatic 48, 3) := by decide +kernel
theorem dJ2_checkIndex_2214a_5 : decode cJ2_checkIndex_2214a 5 = .ok (.invokestatic 414, 3) := by decide +kernel
theorem dJ2_checkIndex_2214a_8 : decode cJ2_checkIndex_2214a 8 = .ok (.return_, 1) := by decide +kernel
theorem dJ2_checkBoundsBeginEnd_d044e_0 : decode cJ2_checkBoundsBeginEnd_d044e 0 = .ok (.iload_n 0, 1) := by decide +kernel
theorem dJ2_checkBoundsBeginEnd_d044e_1 : decode cJ2_checkBoundsBeginEnd_d044e 1 = .ok (.iload_n 1, 1) := by decide +kernel
theorem dJ2_checkBoundsBeginEnd_d044e_2 : decode cJ2_checkBoundsBeginEnd_d044e 2 = .ok (.aload_n 2, 1) := by decide +kernel
theorem dJ2_checkBoundsBeginEnd_d044e_3 : decode cJ2_checkBoundsBeginEnd_d044e 3 = .ok (.invokestatic 48, 3) := by decide +kernel
theorem dJ2_checkBoundsBeginEnd_d044e_6 : decode cJ2_checkBoundsBeginEnd_d044e 6 = .ok (.invokestatic 241, 3) := by decide +kernel
theorem dJ2_checkBoundsBeginEnd_d044e_9 : decode cJ2_checkBoundsBeginEnd_d044e 9 = .ok (.return_, 1) := by decide +kernel
theorem dJ7_fill_53178_0 : decode cJ7_fill_53178 0 = .ok (.iconst 0, 1) := by decide +kernel
theorem dJ7_fill_53178_1 : decode cJ7_fill_53178 1 = .ok (.istore_n 2, 1) := by decide +kernel
theorem dJ7_fill_53178_2 : decode cJ7_fill_53178 2 = .ok (.aload_n 0, 1) := by decide +kernel
theorem dJ7_fill_53178_3 : decode cJ7_fill_53178 3 = .ok (.arraylength, 1) := by decide +kernel
theorem dJ7_fill_53178_4 : decode cJ7_fill_53178 4 = .ok (.istore_n 3, 1) := by decide +kernel
theorem dJ7_fill_53178_5 : decode cJ7_fill_53178 5 = .ok (.iload_n 2, 1) := by decide +kernel
theorem dJ7_fill_53178_6 : decode cJ7_fill_53178 6 = .ok (.iload_n 3, 1) := by decide +kernel
theorem dJ7_fill_53178_7 : decode cJ7_fill_53178 7 = .ok (.if_icmp .ge 13, 3) := by decide +kernel
theorem dJ7_fill_53178_10 : decode cJ7_fill_53178 10 = .ok (.aload_n 0, 1) := by decide +kernel
theorem dJ7_fill_53178_11 : decode cJ7_fill_53178 11 = .ok (.iload_n 2, 1) := by decide +kernel
theorem dJ7_fill_53178_12 : decode cJ7_fill_53178 12 = .ok (.iload_n 1, 1) := by decide +kernel
theorem dJ7_fill_53178_13 : decode cJ7_fill_53178 13 = .ok (.iastore, 1) := by decide +kernel
theorem dJ7_fill_53178_14 : decode cJ7_fill_53178 14 = .ok (.iinc 2 1, 3) := by decide +kernel
theorem dJ7_fill_53178_17 : decode cJ7_fill_53178 17 = .ok (.goto (-12), 3) := by decide +kernel
theorem dJ7_fill_53178_20 : decode cJ7_fill_53178 20 = .ok (.return_, 1) := by decide +kernel
theorem dJ3_checkIndex_8e157_0 : decode cJ3_checkIndex_8e157 0 = .ok (.iload_n 0, 1) := by decide +kernel
theorem dJ3_checkIndex_8e157_1 : decode cJ3_checkIndex_8e157 1 = .ok (.ifCond .lt 8, 3) := by decide +kernel
theorem dJ3_checkIndex_8e157_4 : decode cJ3_checkIndex_8e157 4 = .ok (.iload_n 0, 1) := by decide +kernel
theorem dJ3_checkIndex_8e157_5 : decode cJ3_checkIndex_8e157 5 = .ok (.iload_n 1, 1) := by decide +kernel
theorem dJ3_checkIndex_8e157_6 : decode cJ3_checkIndex_8e157 6 = .ok (.if_icmp .lt 10, 3) := by decide +kernel
theorem dJ3_checkIndex_8e157_9 : decode cJ3_checkIndex_8e157 9 = .ok (.aload_n 2, 1) := by decide +kernel
theorem dJ3_checkIndex_8e157_10 : decode cJ3_checkIndex_8e157 10 = .ok (.iload_n 0, 1) := by decide +kernel
theorem dJ3_checkIndex_8e157_11 : decode cJ3_checkIndex_8e157 11 = .ok (.iload_n 1, 1) := by decide +kernel
theorem dJ3_checkIndex_8e157_12 : decode cJ3_checkIndex_8e157 12 = .ok (.invokestatic 95, 3) := by decide +kernel
theorem dJ3_checkIndex_8e157_15 : decode cJ3_checkIndex_8e157 15 = .ok (.athrow, 1) := by decide +kernel
theorem dJ3_checkIndex_8e157_16 : decode cJ3_checkIndex_8e157 16 = .ok (.iload_n 0, 1) := by decide +kernel
theorem dJ3_checkIndex_8e157_17 : decode cJ3_checkIndex_8e157 17 = .ok (.ireturn, 1) := by decide +kernel
theorem dJ3_checkFromToIndex_8c36e_0 : decode cJ3_checkFromToIndex_8c36e 0 = .ok (.iload_n 0, 1) := by decide +kernel
theorem dJ3_checkFromToIndex_8c36e_1 : decode cJ3_checkFromToIndex_8c36e 1 = .ok (.ifCond .lt 13, 3) := by decide +kernel
theorem dJ3_checkFromToIndex_8c36e_4 : decode cJ3_checkFromToIndex_8c36e 4 = .ok (.iload_n 0, 1) := by decide +kernel
theorem dJ3_checkFromToIndex_8c36e_5 : decode cJ3_checkFromToIndex_8c36e 5 = .ok (.iload_n 1, 1) := by decide +kernel
theorem dJ3_checkFromToIndex_8c36e_6 : decode cJ3_checkFromToIndex_8c36e 6 = .ok (.if_icmp .gt 8, 3) := by decide +kernel
theorem dJ3_checkFromToIndex_8c36e_9 : decode cJ3_checkFromToIndex_8c36e 9 = .ok (.iload_n 1, 1) := by decide +kernel
theorem dJ3_checkFromToIndex_8c36e_10 : decode cJ3_checkFromToIndex_8c36e 10 = .ok (.iload_n 2, 1) := by decide +kernel
theorem dJ3_checkFromToIndex_8c36e_11 : decode cJ3_checkFromToIndex_8c36e 11 = .ok (.if_icmp .le 11, 3) := by decide +kernel
theorem dJ3_checkFromToIndex_8c36e_14 : decode cJ3_checkFromToIndex_8c36e 14 = .ok (.aload_n 3, 1) := by decide +kernel
theorem dJ3_checkFromToIndex_8c36e_15 : decode cJ3_checkFromToIndex_8c36e 15 = .ok (.iload_n 0, 1) := by decide +kernel
theorem dJ3_checkFromToIndex_8c36e_16 : decode cJ3_checkFromToIndex_8c36e 16 = .ok (.iload_n 1, 1) := by decide +kernel
theorem dJ3_checkFromToIndex_8c36e_17 : decode cJ3_checkFromToIndex_8c36e 17 = .ok (.iload_n 2, 1) := by decide +kernel
theorem dJ3_checkFromToIndex_8c36e_18 : decode cJ3_checkFromToIndex_8c36e 18 = .ok (.invokestatic 99, 3) := by decide +kernel
theorem dJ3_checkFromToIndex_8c36e_21 : decode cJ3_checkFromToIndex_8c36e 21 = .ok (.athrow, 1) := by decide +kernel
theorem dJ3_checkFromToIndex_8c36e_22 : decode cJ3_checkFromToIndex_8c36e 22 = .ok (.iload_n 0, 1) := by decide +kernel
theorem dJ3_checkFromToIndex_8c36e_23 : decode cJ3_checkFromToIndex_8c36e 23 = .ok (.ireturn, 1) := by decide +kernel
theorem dL_why_0 : decode cL_why 0 = .ok (.aload_n 3, 1) := by decide +kernel
theorem dL_why_1 : decode cL_why 1 = .ok (.iconst 0, 1) := by decide +kernel
theorem dL_why_2 : decode cL_why 2 = .ok (.aload_n 0, 1) := by decide +kernel
theorem dL_why_3 : decode cL_why 3 = .ok (.iload_n 1, 1) := by decide +kernel
theorem dL_why_4 : decode cL_why 4 = .ok (.iload_n 2, 1) := by decide +kernel
theorem dL_why_5 : decode cL_why 5 = .ok (.invokevirtual 7, 3) := by decide +kernel
theorem dL_why_8 : decode cL_why 8 = .ok (.i2l, 1) := by decide +kernel
theorem dL_why_9 : decode cL_why 9 = .ok (.lastore, 1) := by decide +kernel
theorem dL_why_10 : decode cL_why 10 = .ok (.goto 7, 3) := by decide +kernel
theorem dL_why_13 : decode cL_why 13 = .ok (.astore 4, 2) := by decide +kernel
theorem dL_why_15 : decode cL_why 15 = .ok (.iconst 1, 1) := by decide +kernel
theorem dL_why_16 : decode cL_why 16 = .ok (.ireturn, 1) := by decide +kernel
theorem dL_why_17 : decode cL_why 17 = .ok (.iconst 0, 1) := by decide +kernel
theorem dL_why_18 : decode cL_why 18 = .ok (.ireturn, 1) := by decide +kernel
theorem dL_groundOf_0 : decode cL_groundOf 0 = .ok (.aload_n 2, 1) := by decide +kernel
theorem dL_groundOf_1 : decode cL_groundOf 1 = .ok (.iconst 0, 1) := by decide +kernel
theorem dL_groundOf_2 : decode cL_groundOf 2 = .ok (.aload_n 0, 1) := by decide +kernel
theorem dL_groundOf_3 : decode cL_groundOf 3 = .ok (.iload_n 1, 1) := by decide +kernel
theorem dL_groundOf_4 : decode cL_groundOf 4 = .ok (.invokevirtual 15, 3) := by decide +kernel
theorem dL_groundOf_7 : decode cL_groundOf 7 = .ok (.i2l, 1) := by decide +kernel
theorem dL_groundOf_8 : decode cL_groundOf 8 = .ok (.lastore, 1) := by decide +kernel
theorem dL_groundOf_9 : decode cL_groundOf 9 = .ok (.goto 6, 3) := by decide +kernel
theorem dL_groundOf_12 : decode cL_groundOf 12 = .ok (.astore_n 3, 1) := by decide +kernel
theorem dL_groundOf_13 : decode cL_groundOf 13 = .ok (.iconst 1, 1) := by decide +kernel
theorem dL_groundOf_14 : decode cL_groundOf 14 = .ok (.ireturn, 1) := by decide +kernel
theorem dL_groundOf_15 : decode cL_groundOf 15 = .ok (.iconst 0, 1) := by decide +kernel
theorem dL_groundOf_16 : decode cL_groundOf 16 = .ok (.ireturn, 1) := by decide +kernel
theorem dL_law_0 : decode cL_law 0 = .ok (.new 8, 3) := by decide +kernel
theorem dL_law_3 : decode cL_law 3 = .ok (.dup, 1) := by decide +kernel
theorem dL_law_4 : decode cL_law 4 = .ok (.invokespecial 19, 3) := by decide +kernel
theorem dL_law_7 : decode cL_law 7 = .ok (.astore_n 1, 1) := by decide +kernel
theorem dL_law_8 : decode cL_law 8 = .ok (.new 20, 3) := by decide +kernel
theorem dL_law_11 : decode cL_law 11 = .ok (.dup, 1) := by decide +kernel
theorem dL_law_12 : decode cL_law 12 = .ok (.invokespecial 22, 3) := by decide +kernel
theorem dL_law_15 : decode cL_law 15 = .ok (.astore_n 2, 1) := by decide +kernel
theorem dL_law_16 : decode cL_law 16 = .ok (.iconst 1, 1) := by decide +kernel
theorem dL_law_17 : decode cL_law 17 = .ok (.newarray .long, 2) := by decide +kernel
theorem dL_law_19 : decode cL_law 19 = .ok (.astore_n 3, 1) := by decide +kernel
theorem dL_law_20 : decode cL_law 20 = .ok (.iconst 0, 1) := by decide +kernel
theorem dL_law_21 : decode cL_law 21 = .ok (.istore 4, 2) := by decide +kernel
theorem dL_law_23 : decode cL_law 23 = .ok (.iload 4, 2) := by decide +kernel
theorem dL_law_25 : decode cL_law 25 = .ok (.aload_n 0, 1) := by decide +kernel
theorem dL_law_26 : decode cL_law 26 = .ok (.arraylength, 1) := by decide +kernel
theorem dL_law_27 : decode cL_law 27 = .ok (.bipush 7, 2) := by decide +kernel
theorem dL_law_29 : decode cL_law 29 = .ok (.isub, 1) := by decide +kernel
theorem dL_law_30 : decode cL_law 30 = .ok (.if_icmp .gt 1254, 3) := by decide +kernel
theorem dL_law_33 : decode cL_law 33 = .ok (.aload_n 0, 1) := by decide +kernel
theorem dL_law_34 : decode cL_law 34 = .ok (.iload 4, 2) := by decide +kernel
theorem dL_law_36 : decode cL_law 36 = .ok (.iaload, 1) := by decide +kernel
theorem dL_law_37 : decode cL_law 37 = .ok (.bipush 63, 2) := by decide +kernel
theorem dL_law_39 : decode cL_law 39 = .ok (.iand, 1) := by decide +kernel
theorem dL_law_40 : decode cL_law 40 = .ok (.tableswitch 1238 0 33 #[152, 299, 312, 349, 422, 435, 472, 509, 546, 583, 608, 676, 701, 726, 751, 788, 813, 838, 863, 876, 889, 902, 927, 940, 965, 978, 991, 1047, 1072, 1109, 1122, 1135, 1160, 1213], 152) := by decide +kernel
theorem dL_law_192 : decode cL_law 192 = .ok (.aload_n 1, 1) := by decide +kernel
theorem dL_law_193 : decode cL_law 193 = .ok (.aload_n 0, 1) := by decide +kernel
theorem dL_law_194 : decode cL_law 194 = .ok (.iload 4, 2) := by decide +kernel
theorem dL_law_196 : decode cL_law 196 = .ok (.iconst 1, 1) := by decide +kernel
theorem dL_law_197 : decode cL_law 197 = .ok (.iadd, 1) := by decide +kernel
theorem dL_law_198 : decode cL_law 198 = .ok (.iaload, 1) := by decide +kernel
theorem dL_law_199 : decode cL_law 199 = .ok (.i2l, 1) := by decide +kernel
theorem dL_law_200 : decode cL_law 200 = .ok (.bipush 32, 2) := by decide +kernel
theorem dL_law_202 : decode cL_law 202 = .ok (.lshl, 1) := by decide +kernel
theorem dL_law_203 : decode cL_law 203 = .ok (.aload_n 0, 1) := by decide +kernel
theorem dL_law_204 : decode cL_law 204 = .ok (.iload 4, 2) := by decide +kernel
theorem dL_law_206 : decode cL_law 206 = .ok (.iconst 2, 1) := by decide +kernel
theorem dL_law_207 : decode cL_law 207 = .ok (.iadd, 1) := by decide +kernel
theorem dL_law_208 : decode cL_law 208 = .ok (.iaload, 1) := by decide +kernel
theorem dL_law_209 : decode cL_law 209 = .ok (.i2l, 1) := by decide +kernel
theorem dL_law_210 : decode cL_law 210 = .ok (.ldc2_w 23, 3) := by decide +kernel
theorem dL_law_213 : decode cL_law 213 = .ok (.land, 1) := by decide +kernel
theorem dL_law_214 : decode cL_law 214 = .ok (.lor, 1) := by decide +kernel
theorem dL_law_215 : decode cL_law 215 = .ok (.aload_n 0, 1) := by decide +kernel
theorem dL_law_216 : decode cL_law 216 = .ok (.iload 4, 2) := by decide +kernel
theorem dL_law_218 : decode cL_law 218 = .ok (.iconst 3, 1) := by decide +kernel
theorem dL_law_219 : decode cL_law 219 = .ok (.iadd, 1) := by decide +kernel
theorem dL_law_220 : decode cL_law 220 = .ok (.iaload, 1) := by decide +kernel
theorem dL_law_221 : decode cL_law 221 = .ok (.i2l, 1) := by decide +kernel
theorem dL_law_222 : decode cL_law 222 = .ok (.bipush 32, 2) := by decide +kernel
theorem dL_law_224 : decode cL_law 224 = .ok (.lshl, 1) := by decide +kernel
theorem dL_law_225 : decode cL_law 225 = .ok (.aload_n 0, 1) := by decide +kernel
theorem dL_law_226 : decode cL_law 226 = .ok (.iload 4, 2) := by decide +kernel
theorem dL_law_228 : decode cL_law 228 = .ok (.iconst 4, 1) := by decide +kernel
theorem dL_law_229 : decode cL_law 229 = .ok (.iadd, 1) := by decide +kernel
theorem dL_law_230 : decode cL_law 230 = .ok (.iaload, 1) := by decide +kernel
theorem dL_law_231 : decode cL_law 231 = .ok (.i2l, 1) := by decide +kernel
theorem dL_law_232 : decode cL_law 232 = .ok (.ldc2_w 23, 3) := by decide +kernel
theorem dL_law_235 : decode cL_law 235 = .ok (.land, 1) := by decide +kernel
theorem dL_law_236 : decode cL_law 236 = .ok (.lor, 1) := by decide +kernel
theorem dL_law_237 : decode cL_law 237 = .ok (.aload_n 0, 1) := by decide +kernel
theorem dL_law_238 : decode cL_law 238 = .ok (.iload 4, 2) := by decide +kernel
theorem dL_law_240 : decode cL_law 240 = .ok (.iconst 5, 1) := by decide +kernel
theorem dL_law_241 : decode cL_law 241 = .ok (.iadd, 1) := by decide +kernel
theorem dL_law_242 : decode cL_law 242 = .ok (.iaload, 1) := by decide +kernel
theorem dL_law_243 : decode cL_law 243 = .ok (.i2l, 1) := by decide +kernel
theorem dL_law_244 : decode cL_law 244 = .ok (.bipush 32, 2) := by decide +kernel
theorem dL_law_246 : decode cL_law 246 = .ok (.lshl, 1) := by decide +kernel
theorem dL_law_247 : decode cL_law 247 = .ok (.aload_n 0, 1) := by decide +kernel
theorem dL_law_248 : decode cL_law 248 = .ok (.iload 4, 2) := by decide +kernel
theorem dL_law_250 : decode cL_law 250 = .ok (.bipush 6, 2) := by decide +kernel
theorem dL_law_252 : decode cL_law 252 = .ok (.iadd, 1) := by decide +kernel
theorem dL_law_253 : decode cL_law 253 = .ok (.iaload, 1) := by decide +kernel
theorem dL_law_254 : decode cL_law 254 = .ok (.i2l, 1) := by decide +kernel
theorem dL_law_255 : decode cL_law 255 = .ok (.ldc2_w 23, 3) := by decide +kernel
theorem dL_law_258 : decode cL_law 258 = .ok (.land, 1) := by decide +kernel
theorem dL_law_259 : decode cL_law 259 = .ok (.lor, 1) := by decide +kernel
theorem dL_law_260 : decode cL_law 260 = .ok (.invokevirtual 25, 3) := by decide +kernel
theorem dL_law_263 : decode cL_law 263 = .ok (.aload_n 2, 1) := by decide +kernel
theorem dL_law_264 : decode cL_law 264 = .ok (.aload_n 0, 1) := by decide +kernel
theorem dL_law_265 : decode cL_law 265 = .ok (.iload 4, 2) := by decide +kernel
theorem dL_law_267 : decode cL_law 267 = .ok (.iconst 1, 1) := by decide +kernel
theorem dL_law_268 : decode cL_law 268 = .ok (.iadd, 1) := by decide +kernel
theorem dL_law_269 : decode cL_law 269 = .ok (.iaload, 1) := by decide +kernel
theorem dL_law_270 : decode cL_law 270 = .ok (.i2l, 1) := by decide +kernel
theorem dL_law_271 : decode cL_law 271 = .ok (.bipush 32, 2) := by decide +kernel
theorem dL_law_273 : decode cL_law 273 = .ok (.lshl, 1) := by decide +kernel
theorem dL_law_274 : decode cL_law 274 = .ok (.aload_n 0, 1) := by decide +kernel
theorem dL_law_275 : decode cL_law 275 = .ok (.iload 4, 2) := by decide +kernel
theorem dL_law_277 : decode cL_law 277 = .ok (.iconst 2, 1) := by decide +kernel
theorem dL_law_278 : decode cL_law 278 = .ok (.iadd, 1) := by decide +kernel
theorem dL_law_279 : decode cL_law 279 = .ok (.iaload, 1) := by decide +kernel
theorem dL_law_280 : decode cL_law 280 = .ok (.i2l, 1) := by decide +kernel
theorem dL_law_281 : decode cL_law 281 = .ok (.ldc2_w 23, 3) := by decide +kernel
theorem dL_law_284 : decode cL_law 284 = .ok (.land, 1) := by decide +kernel
theorem dL_law_285 : decode cL_law 285 = .ok (.lor, 1) := by decide +kernel
theorem dL_law_286 : decode cL_law 286 = .ok (.aload_n 0, 1) := by decide +kernel
theorem dL_law_287 : decode cL_law 287 = .ok (.iload 4, 2) := by decide +kernel
theorem dL_law_289 : decode cL_law 289 = .ok (.iconst 3, 1) := by decide +kernel
theorem dL_law_290 : decode cL_law 290 = .ok (.iadd, 1) := by decide +kernel
theorem dL_law_291 : decode cL_law 291 = .ok (.iaload, 1) := by decide +kernel
theorem dL_law_292 : decode cL_law 292 = .ok (.i2l, 1) := by decide +kernel
theorem dL_law_293 : decode cL_law 293 = .ok (.bipush 32, 2) := by decide +kernel
theorem dL_law_295 : decode cL_law 295 = .ok (.lshl, 1) := by decide +kernel
theorem dL_law_296 : decode cL_law 296 = .ok (.aload_n 0, 1) := by decide +kernel
theorem dL_law_297 : decode cL_law 297 = .ok (.iload 4, 2) := by decide +kernel
theorem dL_law_299 : decode cL_law 299 = .ok (.iconst 4, 1) := by decide +kernel
theorem dL_law_300 : decode cL_law 300 = .ok (.iadd, 1) := by decide +kernel
theorem dL_law_301 : decode cL_law 301 = .ok (.iaload, 1) := by decide +kernel
theorem dL_law_302 : decode cL_law 302 = .ok (.i2l, 1) := by decide +kernel
theorem dL_law_303 : decode cL_law 303 = .ok (.ldc2_w 23, 3) := by decide +kernel
theorem dL_law_306 : decode cL_law 306 = .ok (.land, 1) := by decide +kernel
theorem dL_law_307 : decode cL_law 307 = .ok (.lor, 1) := by decide +kernel
theorem dL_law_308 : decode cL_law 308 = .ok (.aload_n 0, 1) := by decide +kernel
theorem dL_law_309 : decode cL_law 309 = .ok (.iload 4, 2) := by decide +kernel
theorem dL_law_311 : decode cL_law 311 = .ok (.iconst 5, 1) := by decide +kernel
theorem dL_law_312 : decode cL_law 312 = .ok (.iadd, 1) := by decide +kernel
theorem dL_law_313 : decode cL_law 313 = .ok (.iaload, 1) := by decide +kernel
theorem dL_law_314 : decode cL_law 314 = .ok (.i2l, 1) := by decide +kernel
theorem dL_law_315 : decode cL_law 315 = .ok (.bipush 32, 2) := by decide +kernel
theorem dL_law_317 : decode cL_law 317 = .ok (.lshl, 1) := by decide +kernel
theorem dL_law_318 : decode cL_law 318 = .ok (.aload_n 0, 1) := by decide +kernel
theorem dL_law_319 : decode cL_law 319 = .ok (.iload 4, 2) := by decide +kernel
theorem dL_law_321 : decode cL_law 321 = .ok (.bipush 6, 2) := by decide +kernel
theorem dL_law_323 : decode cL_law 323 = .ok (.iadd, 1) := by decide +kernel
theorem dL_law_324 : decode cL_law 324 = .ok (.iaload, 1) := by decide +kernel
theorem dL_law_325 : decode cL_law 325 = .ok (.i2l, 1) := by decide +kernel
theorem dL_law_326 : decode cL_law 326 = .ok (.ldc2_w 23, 3) := by decide +kernel
theorem dL_law_329 : decode cL_law 329 = .ok (.land, 1) := by decide +kernel
theorem dL_law_330 : decode cL_law 330 = .ok (.lor, 1) := by decide +kernel
theorem dL_law_331 : decode cL_law 331 = .ok (.invokevirtual 29, 3) := by decide +kernel
theorem dL_law_334 : decode cL_law 334 = .ok (.if_icmp .eq 944, 3) := by decide +kernel
theorem dL_law_337 : decode cL_law 337 = .ok (.iconst 0, 1) := by decide +kernel
theorem dL_law_338 : decode cL_law 338 = .ok (.ireturn, 1) := by decide +kernel
theorem dL_law_339 : decode cL_law 339 = .ok (.aload_n 1, 1) := by decide +kernel
theorem dL_law_340 : decode cL_law 340 = .ok (.invokevirtual 30, 3) := by decide +kernel
theorem dL_law_343 : decode cL_law 343 = .ok (.aload_n 2, 1) := by decide +kernel
theorem dL_law_344 : decode cL_law 344 = .ok (.invokevirtual 34, 3) := by decide +kernel
theorem dL_law_347 : decode cL_law 347 = .ok (.if_icmp .eq 931, 3) := by decide +kernel
theorem dL_law_350 : decode cL_law 350 = .ok (.iconst 0, 1) := by decide +kernel
theorem dL_law_351 : decode cL_law 351 = .ok (.ireturn, 1) := by decide +kernel
theorem dL_law_352 : decode cL_law 352 = .ok (.aload_n 1, 1) := by decide +kernel
theorem dL_law_353 : decode cL_law 353 = .ok (.aload_n 0, 1) := by decide +kernel
theorem dL_law_354 : decode cL_law 354 = .ok (.iload 4, 2) := by decide +kernel
theorem dL_law_356 : decode cL_law 356 = .ok (.iconst 1, 1) := by decide +kernel
theorem dL_law_357 : decode cL_law 357 = .ok (.iadd, 1) := by decide +kernel
theorem dL_law_358 : decode cL_law 358 = .ok (.iaload, 1) := by decide +kernel
theorem dL_law_359 : decode cL_law 359 = .ok (.aload_n 0, 1) := by decide +kernel
theorem dL_law_360 : decode cL_law 360 = .ok (.iload 4, 2) := by decide +kernel
theorem dL_law_362 : decode cL_law 362 = .ok (.iconst 2, 1) := by decide +kernel
theorem dL_law_363 : decode cL_law 363 = .ok (.iadd, 1) := by decide +kernel
theorem dL_law_364 : decode cL_law 364 = .ok (.iaload, 1) := by decide +kernel
theorem dL_law_365 : decode cL_law 365 = .ok (.invokevirtual 35, 3) := by decide +kernel
theorem dL_law_368 : decode cL_law 368 = .ok (.aload_n 2, 1) := by decide +kernel
theorem dL_law_369 : decode cL_law 369 = .ok (.aload_n 0, 1) := by decide +kernel
theorem dL_law_370 : decode cL_law 370 = .ok (.iload 4, 2) := by decide +kernel
theorem dL_law_372 : decode cL_law 372 = .ok (.iconst 1, 1) := by decide +kernel
theorem dL_law_373 : decode cL_law 373 = .ok (.iadd, 1) := by decide +kernel
theorem dL_law_374 : decode cL_law 374 = .ok (.iaload, 1) := by decide +kernel
theorem dL_law_375 : decode cL_law 375 = .ok (.aload_n 0, 1) := by decide +kernel
theorem dL_law_376 : decode cL_law 376 = .ok (.iload 4, 2) := by decide +kernel
theorem dL_law_378 : decode cL_law 378 = .ok (.iconst 2, 1) := by decide +kernel
theorem dL_law_379 : decode cL_law 379 = .ok (.iadd, 1) := by decide +kernel
theorem dL_law_380 : decode cL_law 380 = .ok (.iaload, 1) := by decide +kernel
theorem dL_law_381 : decode cL_law 381 = .ok (.invokevirtual 38, 3) := by decide +kernel
theorem dL_law_384 : decode cL_law 384 = .ok (.if_icmp .eq 894, 3) := by decide +kernel
theorem dL_law_387 : decode cL_law 387 = .ok (.iconst 0, 1) := by decide +kernel
theorem dL_law_388 : decode cL_law 388 = .ok (.ireturn, 1) := by decide +kernel
theorem dL_law_389 : decode cL_law 389 = .ok (.aload_n 1, 1) := by decide +kernel
theorem dL_law_390 : decode cL_law 390 = .ok (.aload_n 0, 1) := by decide +kernel
theorem dL_law_391 : decode cL_law 391 = .ok (.iload 4, 2) := by decide +kernel
theorem dL_law_393 : decode cL_law 393 = .ok (.iconst 1, 1) := by decide +kernel
theorem dL_law_394 : decode cL_law 394 = .ok (.iadd, 1) := by decide +kernel
theorem dL_law_395 : decode cL_law 395 = .ok (.iaload, 1) := by decide +kernel
theorem dL_law_396 : decode cL_law 396 = .ok (.aload_n 0, 1) := by decide +kernel
theorem dL_law_397 : decode cL_law 397 = .ok (.iload 4, 2) := by decide +kernel
theorem dL_law_399 : decode cL_law 399 = .ok (.iconst 2, 1) := by decide +kernel
theorem dL_law_400 : decode cL_law 400 = .ok (.iadd, 1) := by decide +kernel
theorem dL_law_401 : decode cL_law 401 = .ok (.iaload, 1) := by decide +kernel
theorem dL_law_402 : decode cL_law 402 = .ok (.aload_n 0, 1) := by decide +kernel
theorem dL_law_403 : decode cL_law 403 = .ok (.iload 4, 2) := by decide +kernel
theorem dL_law_405 : decode cL_law 405 = .ok (.iconst 3, 1) := by decide +kernel
theorem dL_law_406 : decode cL_law 406 = .ok (.iadd, 1) := by decide +kernel
theorem dL_law_407 : decode cL_law 407 = .ok (.iaload, 1) := by decide +kernel
theorem dL_law_408 : decode cL_law 408 = .ok (.aload_n 0, 1) := by decide +kernel
theorem dL_law_409 : decode cL_law 409 = .ok (.iload 4, 2) := by decide +kernel
theorem dL_law_411 : decode cL_law 411 = .ok (.iconst 4, 1) := by decide +kernel
theorem dL_law_412 : decode cL_law 412 = .ok (.iadd, 1) := by decide +kernel
theorem dL_law_413 : decode cL_law 413 = .ok (.iaload, 1) := by decide +kernel
theorem dL_law_414 : decode cL_law 414 = .ok (.aload_n 0, 1) := by decide +kernel
theorem dL_law_415 : decode cL_law 415 = .ok (.iload 4, 2) := by decide +kernel
theorem dL_law_417 : decode cL_law 417 = .ok (.iconst 5, 1) := by decide +kernel
theorem dL_law_418 : decode cL_law 418 = .ok (.iadd, 1) := by decide +kernel
theorem dL_law_419 : decode cL_law 419 = .ok (.iaload, 1) := by decide +kernel
theorem dL_law_420 : decode cL_law 420 = .ok (.invokevirtual 39, 3) := by decide +kernel
theorem dL_law_423 : decode cL_law 423 = .ok (.aload_n 2, 1) := by decide +kernel
theorem dL_law_424 : decode cL_law 424 = .ok (.aload_n 0, 1) := by decide +kernel
theorem dL_law_425 : decode cL_law 425 = .ok (.iload 4, 2) := by decide +kernel
theorem dL_law_427 : decode cL_law 427 = .ok (.iconst 1, 1) := by decide +kernel
theorem dL_law_428 : decode cL_law 428 = .ok (.iadd, 1) := by decide +kernel
theorem dL_law_429 : decode cL_law 429 = .ok (.iaload, 1) := by decide +kernel
theorem dL_law_430 : decode cL_law 430 = .ok (.aload_n 0, 1) := by decide +kernel
theorem dL_law_431 : decode cL_law 431 = .ok (.iload 4, 2) := by decide +kernel
theorem dL_law_433 : decode cL_law 433 = .ok (.iconst 2, 1) := by decide +kernel
theorem dL_law_434 : decode cL_law 434 = .ok (.iadd, 1) := by decide +kernel
theorem dL_law_435 : decode cL_law 435 = .ok (.iaload, 1) := by decide +kernel
theorem dL_law_436 : decode cL_law 436 = .ok (.aload_n 0, 1) := by decide +kernel
theorem dL_law_437 : decode cL_law 437 = .ok (.iload 4, 2) := by decide +kernel
theorem dL_law_439 : decode cL_law 439 = .ok (.iconst 3, 1) := by decide +kernel
theorem dL_law_440 : decode cL_law 440 = .ok (.iadd, 1) := by decide +kernel
theorem dL_law_441 : decode cL_law 441 = .ok (.iaload, 1) := by decide +kernel
theorem dL_law_442 : decode cL_law 442 = .ok (.aload_n 0, 1) := by decide +kernel
theorem dL_law_443 : decode cL_law 443 = .ok (.iload 4, 2) := by decide +kernel
theorem dL_law_445 : decode cL_law 445 = .ok (.iconst 4, 1) := by decide +kernel
theorem dL_law_446 : decode cL_law 446 = .ok (.iadd, 1) := by decide +kernel
theorem dL_law_447 : decode cL_law 447 = .ok (.iaload, 1) := by decide +kernel
theorem dL_law_448 : decode cL_law 448 = .ok (.aload_n 0, 1) := by decide +kernel
theorem dL_law_449 : decode cL_law 449 = .ok (.iload 4, 2) := by decide +kernel
theorem dL_law_451 : decode cL_law 451 = .ok (.iconst 5, 1) := by decide +kernel
theorem dL_law_452 : decode cL_law 452 = .ok (.iadd, 1) := by decide +kernel
theorem dL_law_453 : decode cL_law 453 = .ok (.iaload, 1) := by decide +kernel
theorem dL_law_454 : decode cL_law 454 = .ok (.invokevirtual 43, 3) := by decide +kernel
theorem dL_law_457 : decode cL_law 457 = .ok (.if_icmp .eq 821, 3) := by decide +kernel
theorem dL_law_460 : decode cL_law 460 = .ok (.iconst 0, 1) := by decide +kernel
theorem dL_law_461 : decode cL_law 461 = .ok (.ireturn, 1) := by decide +kernel
theorem dL_law_462 : decode cL_law 462 = .ok (.aload_n 1, 1) := by decide +kernel
theorem dL_law_463 : decode cL_law 463 = .ok (.invokevirtual 44, 3) := by decide +kernel
theorem dL_law_466 : decode cL_law 466 = .ok (.aload_n 2, 1) := by decide +kernel
theorem dL_law_467 : decode cL_law 467 = .ok (.invokevirtual 48, 3) := by decide +kernel
theorem dL_law_470 : decode cL_law 470 = .ok (.if_icmp .eq 808, 3) := by decide +kernel
theorem dL_law_473 : decode cL_law 473 = .ok (.iconst 0, 1) := by decide +kernel
theorem dL_law_474 : decode cL_law 474 = .ok (.ireturn, 1) := by decide +kernel
theorem dL_law_475 : decode cL_law 475 = .ok (.aload_n 1, 1) := by decide +kernel
theorem dL_law_476 : decode cL_law 476 = .ok (.aload_n 0, 1) := by decide +kernel
theorem dL_law_477 : decode cL_law 477 = .ok (.iload 4, 2) := by decide +kernel
theorem dL_law_479 : decode cL_law 479 = .ok (.iconst 1, 1) := by decide +kernel
theorem dL_law_480 : decode cL_law 480 = .ok (.iadd, 1) := by decide +kernel
theorem dL_law_481 : decode cL_law 481 = .ok (.iaload, 1) := by decide +kernel
theorem dL_law_482 : decode cL_law 482 = .ok (.aload_n 0, 1) := by decide +kernel
theorem dL_law_483 : decode cL_law 483 = .ok (.iload 4, 2) := by decide +kernel
theorem dL_law_485 : decode cL_law 485 = .ok (.iconst 2, 1) := by decide +kernel
theorem dL_law_486 : decode cL_law 486 = .ok (.iadd, 1) := by decide +kernel
theorem dL_law_487 : decode cL_law 487 = .ok (.iaload, 1) := by decide +kernel
theorem dL_law_488 : decode cL_law 488 = .ok (.invokevirtual 49, 3) := by decide +kernel
theorem dL_law_491 : decode cL_law 491 = .ok (.aload_n 2, 1) := by decide +kernel
theorem dL_law_492 : decode cL_law 492 = .ok (.aload_n 0, 1) := by decide +kernel
theorem dL_law_493 : decode cL_law 493 = .ok (.iload 4, 2) := by decide +kernel
theorem dL_law_495 : decode cL_law 495 = .ok (.iconst 1, 1) := by decide +kernel
theorem dL_law_496 : decode cL_law 496 = .ok (.iadd, 1) := by decide +kernel
theorem dL_law_497 : decode cL_law 497 = .ok (.iaload, 1) := by decide +kernel
theorem dL_law_498 : decode cL_law 498 = .ok (.aload_n 0, 1) := by decide +kernel
theorem dL_law_499 : decode cL_law 499 = .ok (.iload 4, 2) := by decide +kernel
theorem dL_law_501 : decode cL_law 501 = .ok (.iconst 2, 1) := by decide +kernel
theorem dL_law_502 : decode cL_law 502 = .ok (.iadd, 1) := by decide +kernel
theorem dL_law_503 : decode cL_law 503 = .ok (.iaload, 1) := by decide +kernel
theorem dL_law_504 : decode cL_law 504 = .ok (.invokevirtual 53, 3) := by decide +kernel
theorem dL_law_507 : decode cL_law 507 = .ok (.if_icmp .eq 771, 3) := by decide +kernel
theorem dL_law_510 : decode cL_law 510 = .ok (.iconst 0, 1) := by decide +kernel
theorem dL_law_511 : decode cL_law 511 = .ok (.ireturn, 1) := by decide +kernel
theorem dL_law_512 : decode cL_law 512 = .ok (.aload_n 1, 1) := by decide +kernel
theorem dL_law_513 : decode cL_law 513 = .ok (.aload_n 0, 1) := by decide +kernel
theorem dL_law_514 : decode cL_law 514 = .ok (.iload 4, 2) := by decide +kernel
theorem dL_law_516 : decode cL_law 516 = .ok (.iconst 1, 1) := by decide +kernel
theorem dL_law_517 : decode cL_law 517 = .ok (.iadd, 1) := by decide +kernel
theorem dL_law_518 : decode cL_law 518 = .ok (.iaload, 1) := by decide +kernel
theorem dL_law_519 : decode cL_law 519 = .ok (.aload_n 0, 1) := by decide +kernel
theorem dL_law_520 : decode cL_law 520 = .ok (.iload 4, 2) := by decide +kernel
theorem dL_law_522 : decode cL_law 522 = .ok (.iconst 2, 1) := by decide +kernel
theorem dL_law_523 : decode cL_law 523 = .ok (.iadd, 1) := by decide +kernel
theorem dL_law_524 : decode cL_law 524 = .ok (.iaload, 1) := by decide +kernel
theorem dL_law_525 : decode cL_law 525 = .ok (.invokevirtual 54, 3) := by decide +kernel
theorem dL_law_528 : decode cL_law 528 = .ok (.aload_n 2, 1) := by decide +kernel
theorem dL_law_529 : decode cL_law 529 = .ok (.aload_n 0, 1) := by decide +kernel
theorem dL_law_530 : decode cL_law 530 = .ok (.iload 4, 2) := by decide +kernel
theorem dL_law_532 : decode cL_law 532 = .ok (.iconst 1, 1) := by decide +kernel
theorem dL_law_533 : decode cL_law 533 = .ok (.iadd, 1) := by decide +kernel
theorem dL_law_534 : decode cL_law 534 = .ok (.iaload, 1) := by decide +kernel
theorem dL_law_535 : decode cL_law 535 = .ok (.aload_n 0, 1) := by decide +kernel
theorem dL_law_536 : decode cL_law 536 = .ok (.iload 4, 2) := by decide +kernel
theorem dL_law_538 : decode cL_law 538 = .ok (.iconst 2, 1) := by decide +kernel
theorem dL_law_539 : decode cL_law 539 = .ok (.iadd, 1) := by decide +kernel
theorem dL_law_540 : decode cL_law 540 = .ok (.iaload, 1) := by decide +kernel
theorem dL_law_541 : decode cL_law 541 = .ok (.invokevirtual 57, 3) := by decide +kernel
theorem dL_law_544 : decode cL_law 544 = .ok (.if_icmp .eq 734, 3) := by decide +kernel
theorem dL_law_547 : decode cL_law 547 = .ok (.iconst 0, 1) := by decide +kernel
theorem dL_law_548 : decode cL_law 548 = .ok (.ireturn, 1) := by decide +kernel
theorem dL_law_549 : decode cL_law 549 = .ok (.aload_n 1, 1) := by decide +kernel
theorem dL_law_550 : decode cL_law 550 = .ok (.aload_n 0, 1) := by decide +kernel
theorem dL_law_551 : decode cL_law 551 = .ok (.iload 4, 2) := by decide +kernel
theorem dL_law_553 : decode cL_law 553 = .ok (.iconst 1, 1) := by decide +kernel
theorem dL_law_554 : decode cL_law 554 = .ok (.iadd, 1) := by decide +kernel
theorem dL_law_555 : decode cL_law 555 = .ok (.iaload, 1) := by decide +kernel
theorem dL_law_556 : decode cL_law 556 = .ok (.aload_n 0, 1) := by decide +kernel
theorem dL_law_557 : decode cL_law 557 = .ok (.iload 4, 2) := by decide +kernel
theorem dL_law_559 : decode cL_law 559 = .ok (.iconst 2, 1) := by decide +kernel
theorem dL_law_560 : decode cL_law 560 = .ok (.iadd, 1) := by decide +kernel
theorem dL_law_561 : decode cL_law 561 = .ok (.iaload, 1) := by decide +kernel
theorem dL_law_562 : decode cL_law 562 = .ok (.invokevirtual 58, 3) := by decide +kernel
theorem dL_law_565 : decode cL_law 565 = .ok (.aload_n 2, 1) := by decide +kernel
theorem dL_law_566 : decode cL_law 566 = .ok (.aload_n 0, 1) := by decide +kernel
theorem dL_law_567 : decode cL_law 567 = .ok (.iload 4, 2) := by decide +kernel
theorem dL_law_569 : decode cL_law 569 = .ok (.iconst 1, 1) := by decide +kernel
theorem dL_law_570 : decode cL_law 570 = .ok (.iadd, 1) := by decide +kernel
theorem dL_law_571 : decode cL_law 571 = .ok (.iaload, 1) := by decide +kernel
theorem dL_law_572 : decode cL_law 572 = .ok (.aload_n 0, 1) := by decide +kernel
theorem dL_law_573 : decode cL_law 573 = .ok (.iload 4, 2) := by decide +kernel
theorem dL_law_575 : decode cL_law 575 = .ok (.iconst 2, 1) := by decide +kernel
theorem dL_law_576 : decode cL_law 576 = .ok (.iadd, 1) := by decide +kernel
theorem dL_law_577 : decode cL_law 577 = .ok (.iaload, 1) := by decide +kernel
theorem dL_law_578 : decode cL_law 578 = .ok (.invokevirtual 61, 3) := by decide +kernel
theorem dL_law_581 : decode cL_law 581 = .ok (.if_icmp .eq 697, 3) := by decide +kernel
theorem dL_law_584 : decode cL_law 584 = .ok (.iconst 0, 1) := by decide +kernel
theorem dL_law_585 : decode cL_law 585 = .ok (.ireturn, 1) := by decide +kernel
theorem dL_law_586 : decode cL_law 586 = .ok (.aload_n 1, 1) := by decide +kernel
theorem dL_law_587 : decode cL_law 587 = .ok (.aload_n 0, 1) := by decide +kernel
theorem dL_law_588 : decode cL_law 588 = .ok (.iload 4, 2) := by decide +kernel
theorem dL_law_590 : decode cL_law 590 = .ok (.iconst 1, 1) := by decide +kernel
theorem dL_law_591 : decode cL_law 591 = .ok (.iadd, 1) := by decide +kernel
theorem dL_law_592 : decode cL_law 592 = .ok (.iaload, 1) := by decide +kernel
theorem dL_law_593 : decode cL_law 593 = .ok (.aload_n 0, 1) := by decide +kernel
theorem dL_law_594 : decode cL_law 594 = .ok (.iload 4, 2) := by decide +kernel
theorem dL_law_596 : decode cL_law 596 = .ok (.iconst 2, 1) := by decide +kernel
theorem dL_law_597 : decode cL_law 597 = .ok (.iadd, 1) := by decide +kernel
theorem dL_law_598 : decode cL_law 598 = .ok (.iaload, 1) := by decide +kernel
theorem dL_law_599 : decode cL_law 599 = .ok (.invokevirtual 62, 3) := by decide +kernel
theorem dL_law_602 : decode cL_law 602 = .ok (.aload_n 2, 1) := by decide +kernel
theorem dL_law_603 : decode cL_law 603 = .ok (.aload_n 0, 1) := by decide +kernel
theorem dL_law_604 : decode cL_law 604 = .ok (.iload 4, 2) := by decide +kernel
theorem dL_law_606 : decode cL_law 606 = .ok (.iconst 1, 1) := by decide +kernel
theorem dL_law_607 : decode cL_law 607 = .ok (.iadd, 1) := by decide +kernel
theorem dL_law_608 : decode cL_law 608 = .ok (.iaload, 1) := by decide +kernel
theorem dL_law_609 : decode cL_law 609 = .ok (.aload_n 0, 1) := by decide +kernel
theorem dL_law_610 : decode cL_law 610 = .ok (.iload 4, 2) := by decide +kernel
theorem dL_law_612 : decode cL_law 612 = .ok (.iconst 2, 1) := by decide +kernel
theorem dL_law_613 : decode cL_law 613 = .ok (.iadd, 1) := by decide +kernel
theorem dL_law_614 : decode cL_law 614 = .ok (.iaload, 1) := by decide +kernel
theorem dL_law_615 : decode cL_law 615 = .ok (.invokevirtual 65, 3) := by decide +kernel
theorem dL_law_618 : decode cL_law 618 = .ok (.if_icmp .eq 660, 3) := by decide +kernel
theorem dL_law_621 : decode cL_law 621 = .ok (.iconst 0, 1) := by decide +kernel
theorem dL_law_622 : decode cL_law 622 = .ok (.ireturn, 1) := by decide +kernel
theorem dL_law_623 : decode cL_law 623 = .ok (.aload_n 1, 1) := by decide +kernel
theorem dL_law_624 : decode cL_law 624 = .ok (.aload_n 0, 1) := by decide +kernel
theorem dL_law_625 : decode cL_law 625 = .ok (.iload 4, 2) := by decide +kernel
theorem dL_law_627 : decode cL_law 627 = .ok (.iconst 1, 1) := by decide +kernel
theorem dL_law_628 : decode cL_law 628 = .ok (.iadd, 1) := by decide +kernel
theorem dL_law_629 : decode cL_law 629 = .ok (.iaload, 1) := by decide +kernel
theorem dL_law_630 : decode cL_law 630 = .ok (.invokevirtual 66, 3) := by decide +kernel
theorem dL_law_633 : decode cL_law 633 = .ok (.aload_n 2, 1) := by decide +kernel
theorem dL_law_634 : decode cL_law 634 = .ok (.aload_n 0, 1) := by decide +kernel
theorem dL_law_635 : decode cL_law 635 = .ok (.iload 4, 2) := by decide +kernel
theorem dL_law_637 : decode cL_law 637 = .ok (.iconst 1, 1) := by decide +kernel
theorem dL_law_638 : decode cL_law 638 = .ok (.iadd, 1) := by decide +kernel
theorem dL_law_639 : decode cL_law 639 = .ok (.iaload, 1) := by decide +kernel
theorem dL_law_640 : decode cL_law 640 = .ok (.invokevirtual 69, 3) := by decide +kernel
theorem dL_law_643 : decode cL_law 643 = .ok (.if_icmp .eq 635, 3) := by decide +kernel
theorem dL_law_646 : decode cL_law 646 = .ok (.iconst 0, 1) := by decide +kernel
theorem dL_law_647 : decode cL_law 647 = .ok (.ireturn, 1) := by decide +kernel
theorem dL_law_648 : decode cL_law 648 = .ok (.aload_n 1, 1) := by decide +kernel
theorem dL_law_649 : decode cL_law 649 = .ok (.aload_n 0, 1) := by decide +kernel
theorem dL_law_650 : decode cL_law 650 = .ok (.iload 4, 2) := by decide +kernel
theorem dL_law_652 : decode cL_law 652 = .ok (.iconst 1, 1) := by decide +kernel
theorem dL_law_653 : decode cL_law 653 = .ok (.iadd, 1) := by decide +kernel
theorem dL_law_654 : decode cL_law 654 = .ok (.iaload, 1) := by decide +kernel
theorem dL_law_655 : decode cL_law 655 = .ok (.aload_n 0, 1) := by decide +kernel
theorem dL_law_656 : decode cL_law 656 = .ok (.iload 4, 2) := by decide +kernel
theorem dL_law_658 : decode cL_law 658 = .ok (.iconst 2, 1) := by decide +kernel
theorem dL_law_659 : decode cL_law 659 = .ok (.iadd, 1) := by decide +kernel
theorem dL_law_660 : decode cL_law 660 = .ok (.iaload, 1) := by decide +kernel
theorem dL_law_661 : decode cL_law 661 = .ok (.aload_n 3, 1) := by decide +kernel
theorem dL_law_662 : decode cL_law 662 = .ok (.invokestatic 70, 3) := by decide +kernel
theorem dL_law_665 : decode cL_law 665 = .ok (.istore 5, 2) := by decide +kernel
theorem dL_law_667 : decode cL_law 667 = .ok (.aload_n 2, 1) := by decide +kernel
theorem dL_law_668 : decode cL_law 668 = .ok (.aload_n 0, 1) := by decide +kernel
theorem dL_law_669 : decode cL_law 669 = .ok (.iload 4, 2) := by decide +kernel
theorem dL_law_671 : decode cL_law 671 = .ok (.iconst 1, 1) := by decide +kernel
theorem dL_law_672 : decode cL_law 672 = .ok (.iadd, 1) := by decide +kernel
theorem dL_law_673 : decode cL_law 673 = .ok (.iaload, 1) := by decide +kernel
theorem dL_law_674 : decode cL_law 674 = .ok (.aload_n 0, 1) := by decide +kernel
theorem dL_law_675 : decode cL_law 675 = .ok (.iload 4, 2) := by decide +kernel
theorem dL_law_677 : decode cL_law 677 = .ok (.iconst 2, 1) := by decide +kernel
theorem dL_law_678 : decode cL_law 678 = .ok (.iadd, 1) := by decide +kernel
theorem dL_law_679 : decode cL_law 679 = .ok (.iaload, 1) := by decide +kernel
theorem dL_law_680 : decode cL_law 680 = .ok (.invokevirtual 75, 3) := by decide +kernel
theorem dL_law_683 : decode cL_law 683 = .ok (.istore 6, 2) := by decide +kernel
theorem dL_law_685 : decode cL_law 685 = .ok (.aload_n 2, 1) := by decide +kernel
theorem dL_law_686 : decode cL_law 686 = .ok (.invokevirtual 76, 3) := by decide +kernel
theorem dL_law_689 : decode cL_law 689 = .ok (.iload 5, 2) := by decide +kernel
theorem dL_law_691 : decode cL_law 691 = .ok (.if_icmp .eq 5, 3) := by decide +kernel
theorem dL_law_694 : decode cL_law 694 = .ok (.iconst 0, 1) := by decide +kernel
theorem dL_law_695 : decode cL_law 695 = .ok (.ireturn, 1) := by decide +kernel
theorem dL_law_696 : decode cL_law 696 = .ok (.iload 5, 2) := by decide +kernel
theorem dL_law_698 : decode cL_law 698 = .ok (.ifCond .ne 15, 3) := by decide +kernel
theorem dL_law_701 : decode cL_law 701 = .ok (.aload_n 3, 1) := by decide +kernel
theorem dL_law_702 : decode cL_law 702 = .ok (.iconst 0, 1) := by decide +kernel
theorem dL_law_703 : decode cL_law 703 = .ok (.laload, 1) := by decide +kernel
theorem dL_law_704 : decode cL_law 704 = .ok (.iload 6, 2) := by decide +kernel
theorem dL_law_706 : decode cL_law 706 = .ok (.i2l, 1) := by decide +kernel
theorem dL_law_707 : decode cL_law 707 = .ok (.lcmp, 1) := by decide +kernel
theorem dL_law_708 : decode cL_law 708 = .ok (.ifCond .eq 5, 3) := by decide +kernel
theorem dL_law_711 : decode cL_law 711 = .ok (.iconst 0, 1) := by decide +kernel
theorem dL_law_712 : decode cL_law 712 = .ok (.ireturn, 1) := by decide +kernel
theorem dL_law_713 : decode cL_law 713 = .ok (.goto 565, 3) := by decide +kernel
theorem dL_law_716 : decode cL_law 716 = .ok (.aload_n 1, 1) := by decide +kernel
theorem dL_law_717 : decode cL_law 717 = .ok (.aload_n 0, 1) := by decide +kernel
theorem dL_law_718 : decode cL_law 718 = .ok (.iload 4, 2) := by decide +kernel
theorem dL_law_720 : decode cL_law 720 = .ok (.iconst 1, 1) := by decide +kernel
theorem dL_law_721 : decode cL_law 721 = .ok (.iadd, 1) := by decide +kernel
theorem dL_law_722 : decode cL_law 722 = .ok (.iaload, 1) := by decide +kernel
theorem dL_law_723 : decode cL_law 723 = .ok (.invokevirtual 79, 3) := by decide +kernel
theorem dL_law_726 : decode cL_law 726 = .ok (.aload_n 2, 1) := by decide +kernel
theorem dL_law_727 : decode cL_law 727 = .ok (.aload_n 0, 1) := by decide +kernel
theorem dL_law_728 : decode cL_law 728 = .ok (.iload 4, 2) := by decide +kernel
theorem dL_law_730 : decode cL_law 730 = .ok (.iconst 1, 1) := by decide +kernel
theorem dL_law_731 : decode cL_law 731 = .ok (.iadd, 1) := by decide +kernel
theorem dL_law_732 : decode cL_law 732 = .ok (.iaload, 1) := by decide +kernel
theorem dL_law_733 : decode cL_law 733 = .ok (.invokevirtual 82, 3) := by decide +kernel
theorem dL_law_736 : decode cL_law 736 = .ok (.if_icmp .eq 542, 3) := by decide +kernel
theorem dL_law_739 : decode cL_law 739 = .ok (.iconst 0, 1) := by decide +kernel
theorem dL_law_740 : decode cL_law 740 = .ok (.ireturn, 1) := by decide +kernel
theorem dL_law_741 : decode cL_law 741 = .ok (.aload_n 1, 1) := by decide +kernel
theorem dL_law_742 : decode cL_law 742 = .ok (.aload_n 0, 1) := by decide +kernel
theorem dL_law_743 : decode cL_law 743 = .ok (.iload 4, 2) := by decide +kernel
theorem dL_law_745 : decode cL_law 745 = .ok (.iconst 1, 1) := by decide +kernel
theorem dL_law_746 : decode cL_law 746 = .ok (.iadd, 1) := by decide +kernel
theorem dL_law_747 : decode cL_law 747 = .ok (.iaload, 1) := by decide +kernel
theorem dL_law_748 : decode cL_law 748 = .ok (.invokevirtual 83, 3) := by decide +kernel
theorem dL_law_751 : decode cL_law 751 = .ok (.aload_n 2, 1) := by decide +kernel
theorem dL_law_752 : decode cL_law 752 = .ok (.aload_n 0, 1) := by decide +kernel
theorem dL_law_753 : decode cL_law 753 = .ok (.iload 4, 2) := by decide +kernel
theorem dL_law_755 : decode cL_law 755 = .ok (.iconst 1, 1) := by decide +kernel
theorem dL_law_756 : decode cL_law 756 = .ok (.iadd, 1) := by decide +kernel
theorem dL_law_757 : decode cL_law 757 = .ok (.iaload, 1) := by decide +kernel
theorem dL_law_758 : decode cL_law 758 = .ok (.invokevirtual 86, 3) := by decide +kernel
theorem dL_law_761 : decode cL_law 761 = .ok (.if_icmp .eq 517, 3) := by decide +kernel
theorem dL_law_764 : decode cL_law 764 = .ok (.iconst 0, 1) := by decide +kernel
theorem dL_law_765 : decode cL_law 765 = .ok (.ireturn, 1) := by decide +kernel
theorem dL_law_766 : decode cL_law 766 = .ok (.aload_n 1, 1) := by decide +kernel
theorem dL_law_767 : decode cL_law 767 = .ok (.aload_n 0, 1) := by decide +kernel
theorem dL_law_768 : decode cL_law 768 = .ok (.iload 4, 2) := by decide +kernel
theorem dL_law_770 : decode cL_law 770 = .ok (.iconst 1, 1) := by decide +kernel
theorem dL_law_771 : decode cL_law 771 = .ok (.iadd, 1) := by decide +kernel
theorem dL_law_772 : decode cL_law 772 = .ok (.iaload, 1) := by decide +kernel
theorem dL_law_773 : decode cL_law 773 = .ok (.invokevirtual 87, 3) := by decide +kernel
theorem dL_law_776 : decode cL_law 776 = .ok (.aload_n 2, 1) := by decide +kernel
theorem dL_law_777 : decode cL_law 777 = .ok (.aload_n 0, 1) := by decide +kernel
theorem dL_law_778 : decode cL_law 778 = .ok (.iload 4, 2) := by decide +kernel
theorem dL_law_780 : decode cL_law 780 = .ok (.iconst 1, 1) := by decide +kernel
theorem dL_law_781 : decode cL_law 781 = .ok (.iadd, 1) := by decide +kernel
theorem dL_law_782 : decode cL_law 782 = .ok (.iaload, 1) := by decide +kernel
theorem dL_law_783 : decode cL_law 783 = .ok (.invokevirtual 90, 3) := by decide +kernel
theorem dL_law_786 : decode cL_law 786 = .ok (.if_icmp .eq 492, 3) := by decide +kernel
theorem dL_law_789 : decode cL_law 789 = .ok (.iconst 0, 1) := by decide +kernel
theorem dL_law_790 : decode cL_law 790 = .ok (.ireturn, 1) := by decide +kernel
theorem dL_law_791 : decode cL_law 791 = .ok (.aload_n 1, 1) := by decide +kernel
theorem dL_law_792 : decode cL_law 792 = .ok (.aload_n 0, 1) := by decide +kernel
theorem dL_law_793 : decode cL_law 793 = .ok (.iload 4, 2) := by decide +kernel
theorem dL_law_795 : decode cL_law 795 = .ok (.iconst 1, 1) := by decide +kernel
theorem dL_law_796 : decode cL_law 796 = .ok (.iadd, 1) := by decide +kernel
theorem dL_law_797 : decode cL_law 797 = .ok (.iaload, 1) := by decide +kernel
theorem dL_law_798 : decode cL_law 798 = .ok (.aload_n 0, 1) := by decide +kernel
theorem dL_law_799 : decode cL_law 799 = .ok (.iload 4, 2) := by decide +kernel
theorem dL_law_801 : decode cL_law 801 = .ok (.iconst 2, 1) := by decide +kernel
theorem dL_law_802 : decode cL_law 802 = .ok (.iadd, 1) := by decide +kernel
theorem dL_law_803 : decode cL_law 803 = .ok (.iaload, 1) := by decide +kernel
theorem dL_law_804 : decode cL_law 804 = .ok (.invokevirtual 91, 3) := by decide +kernel
theorem dL_law_807 : decode cL_law 807 = .ok (.aload_n 2, 1) := by decide +kernel
theorem dL_law_808 : decode cL_law 808 = .ok (.aload_n 0, 1) := by decide +kernel
theorem dL_law_809 : decode cL_law 809 = .ok (.iload 4, 2) := by decide +kernel
theorem dL_law_811 : decode cL_law 811 = .ok (.iconst 1, 1) := by decide +kernel
theorem dL_law_812 : decode cL_law 812 = .ok (.iadd, 1) := by decide +kernel
theorem dL_law_813 : decode cL_law 813 = .ok (.iaload, 1) := by decide +kernel
theorem dL_law_814 : decode cL_law 814 = .ok (.aload_n 0, 1) := by decide +kernel
theorem dL_law_815 : decode cL_law 815 = .ok (.iload 4, 2) := by decide +kernel
theorem dL_law_817 : decode cL_law 817 = .ok (.iconst 2, 1) := by decide +kernel
theorem dL_law_818 : decode cL_law 818 = .ok (.iadd, 1) := by decide +kernel
theorem dL_law_819 : decode cL_law 819 = .ok (.iaload, 1) := by decide +kernel
theorem dL_law_820 : decode cL_law 820 = .ok (.invokevirtual 94, 3) := by decide +kernel
theorem dL_law_823 : decode cL_law 823 = .ok (.if_icmp .eq 455, 3) := by decide +kernel
theorem dL_law_826 : decode cL_law 826 = .ok (.iconst 0, 1) := by decide +kernel
theorem dL_law_827 : decode cL_law 827 = .ok (.ireturn, 1) := by decide +kernel
theorem dL_law_828 : decode cL_law 828 = .ok (.aload_n 1, 1) := by decide +kernel
theorem dL_law_829 : decode cL_law 829 = .ok (.aload_n 0, 1) := by decide +kernel
theorem dL_law_830 : decode cL_law 830 = .ok (.iload 4, 2) := by decide +kernel
theorem dL_law_832 : decode cL_law 832 = .ok (.iconst 1, 1) := by decide +kernel
theorem dL_law_833 : decode cL_law 833 = .ok (.iadd, 1) := by decide +kernel
theorem dL_law_834 : decode cL_law 834 = .ok (.iaload, 1) := by decide +kernel
theorem dL_law_835 : decode cL_law 835 = .ok (.invokevirtual 95, 3) := by decide +kernel
theorem dL_law_838 : decode cL_law 838 = .ok (.aload_n 2, 1) := by decide +kernel
theorem dL_law_839 : decode cL_law 839 = .ok (.aload_n 0, 1) := by decide +kernel
theorem dL_law_840 : decode cL_law 840 = .ok (.iload 4, 2) := by decide +kernel
theorem dL_law_842 : decode cL_law 842 = .ok (.iconst 1, 1) := by decide +kernel
theorem dL_law_843 : decode cL_law 843 = .ok (.iadd, 1) := by decide +kernel
theorem dL_law_844 : decode cL_law 844 = .ok (.iaload, 1) := by decide +kernel
theorem dL_law_845 : decode cL_law 845 = .ok (.invokevirtual 98, 3) := by decide +kernel
theorem dL_law_848 : decode cL_law 848 = .ok (.if_icmp .eq 430, 3) := by decide +kernel
theorem dL_law_851 : decode cL_law 851 = .ok (.iconst 0, 1) := by decide +kernel
theorem dL_law_852 : decode cL_law 852 = .ok (.ireturn, 1) := by decide +kernel
theorem dL_law_853 : decode cL_law 853 = .ok (.aload_n 1, 1) := by decide +kernel
theorem dL_law_854 : decode cL_law 854 = .ok (.aload_n 0, 1) := by decide +kernel
theorem dL_law_855 : decode cL_law 855 = .ok (.iload 4, 2) := by decide +kernel
theorem dL_law_857 : decode cL_law 857 = .ok (.iconst 1, 1) := by decide +kernel
theorem dL_law_858 : decode cL_law 858 = .ok (.iadd, 1) := by decide +kernel
theorem dL_law_859 : decode cL_law 859 = .ok (.iaload, 1) := by decide +kernel
theorem dL_law_860 : decode cL_law 860 = .ok (.invokevirtual 99, 3) := by decide +kernel
theorem dL_law_863 : decode cL_law 863 = .ok (.aload_n 2, 1) := by decide +kernel
theorem dL_law_864 : decode cL_law 864 = .ok (.aload_n 0, 1) := by decide +kernel
theorem dL_law_865 : decode cL_law 865 = .ok (.iload 4, 2) := by decide +kernel
theorem dL_law_867 : decode cL_law 867 = .ok (.iconst 1, 1) := by decide +kernel
theorem dL_law_868 : decode cL_law 868 = .ok (.iadd, 1) := by decide +kernel
theorem dL_law_869 : decode cL_law 869 = .ok (.iaload, 1) := by decide +kernel
theorem dL_law_870 : decode cL_law 870 = .ok (.invokevirtual 102, 3) := by decide +kernel
theorem dL_law_873 : decode cL_law 873 = .ok (.if_icmp .eq 405, 3) := by decide +kernel
theorem dL_law_876 : decode cL_law 876 = .ok (.iconst 0, 1) := by decide +kernel
theorem dL_law_877 : decode cL_law 877 = .ok (.ireturn, 1) := by decide +kernel
theorem dL_law_878 : decode cL_law 878 = .ok (.aload_n 1, 1) := by decide +kernel
theorem dL_law_879 : decode cL_law 879 = .ok (.aload_n 0, 1) := by decide +kernel
theorem dL_law_880 : decode cL_law 880 = .ok (.iload 4, 2) := by decide +kernel
theorem dL_law_882 : decode cL_law 882 = .ok (.iconst 1, 1) := by decide +kernel
theorem dL_law_883 : decode cL_law 883 = .ok (.iadd, 1) := by decide +kernel
theorem dL_law_884 : decode cL_law 884 = .ok (.iaload, 1) := by decide +kernel
theorem dL_law_885 : decode cL_law 885 = .ok (.invokevirtual 103, 3) := by decide +kernel
theorem dL_law_888 : decode cL_law 888 = .ok (.aload_n 2, 1) := by decide +kernel
theorem dL_law_889 : decode cL_law 889 = .ok (.aload_n 0, 1) := by decide +kernel
theorem dL_law_890 : decode cL_law 890 = .ok (.iload 4, 2) := by decide +kernel
theorem dL_law_892 : decode cL_law 892 = .ok (.iconst 1, 1) := by decide +kernel
theorem dL_law_893 : decode cL_law 893 = .ok (.iadd, 1) := by decide +kernel
theorem dL_law_894 : decode cL_law 894 = .ok (.iaload, 1) := by decide +kernel
theorem dL_law_895 : decode cL_law 895 = .ok (.invokevirtual 106, 3) := by decide +kernel
theorem dL_law_898 : decode cL_law 898 = .ok (.if_icmp .eq 380, 3) := by decide +kernel
theorem dL_law_901 : decode cL_law 901 = .ok (.iconst 0, 1) := by decide +kernel
theorem dL_law_902 : decode cL_law 902 = .ok (.ireturn, 1) := by decide +kernel
theorem dL_law_903 : decode cL_law 903 = .ok (.aload_n 1, 1) := by decide +kernel
theorem dL_law_904 : decode cL_law 904 = .ok (.invokevirtual 107, 3) := by decide +kernel
theorem dL_law_907 : decode cL_law 907 = .ok (.aload_n 2, 1) := by decide +kernel
theorem dL_law_908 : decode cL_law 908 = .ok (.invokevirtual 110, 3) := by decide +kernel
theorem dL_law_911 : decode cL_law 911 = .ok (.if_icmp .eq 367, 3) := by decide +kernel
theorem dL_law_914 : decode cL_law 914 = .ok (.iconst 0, 1) := by decide +kernel
theorem dL_law_915 : decode cL_law 915 = .ok (.ireturn, 1) := by decide +kernel
theorem dL_law_916 : decode cL_law 916 = .ok (.aload_n 1, 1) := by decide +kernel
theorem dL_law_917 : decode cL_law 917 = .ok (.invokevirtual 111, 3) := by decide +kernel
theorem dL_law_920 : decode cL_law 920 = .ok (.aload_n 2, 1) := by decide +kernel
theorem dL_law_921 : decode cL_law 921 = .ok (.invokevirtual 114, 3) := by decide +kernel
theorem dL_law_924 : decode cL_law 924 = .ok (.if_icmp .eq 354, 3) := by decide +kernel
theorem dL_law_927 : decode cL_law 927 = .ok (.iconst 0, 1) := by decide +kernel
theorem dL_law_928 : decode cL_law 928 = .ok (.ireturn, 1) := by decide +kernel
theorem dL_law_929 : decode cL_law 929 = .ok (.aload_n 1, 1) := by decide +kernel
theorem dL_law_930 : decode cL_law 930 = .ok (.invokevirtual 115, 3) := by decide +kernel
theorem dL_law_933 : decode cL_law 933 = .ok (.aload_n 2, 1) := by decide +kernel
theorem dL_law_934 : decode cL_law 934 = .ok (.invokevirtual 118, 3) := by decide +kernel
theorem dL_law_937 : decode cL_law 937 = .ok (.if_icmp .eq 341, 3) := by decide +kernel
theorem dL_law_940 : decode cL_law 940 = .ok (.iconst 0, 1) := by decide +kernel
theorem dL_law_941 : decode cL_law 941 = .ok (.ireturn, 1) := by decide +kernel
theorem dL_law_942 : decode cL_law 942 = .ok (.aload_n 1, 1) := by decide +kernel
theorem dL_law_943 : decode cL_law 943 = .ok (.aload_n 0, 1) := by decide +kernel
theorem dL_law_944 : decode cL_law 944 = .ok (.iload 4, 2) := by decide +kernel
theorem dL_law_946 : decode cL_law 946 = .ok (.iconst 1, 1) := by decide +kernel
theorem dL_law_947 : decode cL_law 947 = .ok (.iadd, 1) := by decide +kernel
theorem dL_law_948 : decode cL_law 948 = .ok (.iaload, 1) := by decide +kernel
theorem dL_law_949 : decode cL_law 949 = .ok (.invokevirtual 119, 3) := by decide +kernel
theorem dL_law_952 : decode cL_law 952 = .ok (.aload_n 2, 1) := by decide +kernel
theorem dL_law_953 : decode cL_law 953 = .ok (.aload_n 0, 1) := by decide +kernel
theorem dL_law_954 : decode cL_law 954 = .ok (.iload 4, 2) := by decide +kernel
theorem dL_law_956 : decode cL_law 956 = .ok (.iconst 1, 1) := by decide +kernel
theorem dL_law_957 : decode cL_law 957 = .ok (.iadd, 1) := by decide +kernel
theorem dL_law_958 : decode cL_law 958 = .ok (.iaload, 1) := by decide +kernel
theorem dL_law_959 : decode cL_law 959 = .ok (.invokevirtual 122, 3) := by decide +kernel
theorem dL_law_962 : decode cL_law 962 = .ok (.if_icmp .eq 316, 3) := by decide +kernel
theorem dL_law_965 : decode cL_law 965 = .ok (.iconst 0, 1) := by decide +kernel
theorem dL_law_966 : decode cL_law 966 = .ok (.ireturn, 1) := by decide +kernel
theorem dL_law_967 : decode cL_law 967 = .ok (.aload_n 1, 1) := by decide +kernel
theorem dL_law_968 : decode cL_law 968 = .ok (.invokevirtual 123, 3) := by decide +kernel
theorem dL_law_971 : decode cL_law 971 = .ok (.aload_n 2, 1) := by decide +kernel
theorem dL_law_972 : decode cL_law 972 = .ok (.invokevirtual 126, 3) := by decide +kernel
theorem dL_law_975 : decode cL_law 975 = .ok (.if_icmp .eq 303, 3) := by decide +kernel
theorem dL_law_978 : decode cL_law 978 = .ok (.iconst 0, 1) := by decide +kernel
theorem dL_law_979 : decode cL_law 979 = .ok (.ireturn, 1) := by decide +kernel
theorem dL_law_980 : decode cL_law 980 = .ok (.aload_n 1, 1) := by decide +kernel
theorem dL_law_981 : decode cL_law 981 = .ok (.aload_n 0, 1) := by decide +kernel
theorem dL_law_982 : decode cL_law 982 = .ok (.iload 4, 2) := by decide +kernel
theorem dL_law_984 : decode cL_law 984 = .ok (.iconst 1, 1) := by decide +kernel
theorem dL_law_985 : decode cL_law 985 = .ok (.iadd, 1) := by decide +kernel
theorem dL_law_986 : decode cL_law 986 = .ok (.iaload, 1) := by decide +kernel
theorem dL_law_987 : decode cL_law 987 = .ok (.invokevirtual 127, 3) := by decide +kernel
theorem dL_law_990 : decode cL_law 990 = .ok (.aload_n 2, 1) := by decide +kernel
theorem dL_law_991 : decode cL_law 991 = .ok (.aload_n 0, 1) := by decide +kernel
theorem dL_law_992 : decode cL_law 992 = .ok (.iload 4, 2) := by decide +kernel
theorem dL_law_994 : decode cL_law 994 = .ok (.iconst 1, 1) := by decide +kernel
theorem dL_law_995 : decode cL_law 995 = .ok (.iadd, 1) := by decide +kernel
theorem dL_law_996 : decode cL_law 996 = .ok (.iaload, 1) := by decide +kernel
theorem dL_law_997 : decode cL_law 997 = .ok (.invokevirtual 130, 3) := by decide +kernel
theorem dL_law_1000 : decode cL_law 1000 = .ok (.if_icmp .eq 278, 3) := by decide +kernel
theorem dL_law_1003 : decode cL_law 1003 = .ok (.iconst 0, 1) := by decide +kernel
theorem dL_law_1004 : decode cL_law 1004 = .ok (.ireturn, 1) := by decide +kernel
theorem dL_law_1005 : decode cL_law 1005 = .ok (.aload_n 1, 1) := by decide +kernel
theorem dL_law_1006 : decode cL_law 1006 = .ok (.invokevirtual 131, 3) := by decide +kernel
theorem dL_law_1009 : decode cL_law 1009 = .ok (.aload_n 2, 1) := by decide +kernel
theorem dL_law_1010 : decode cL_law 1010 = .ok (.invokevirtual 134, 3) := by decide +kernel
theorem dL_law_1013 : decode cL_law 1013 = .ok (.if_icmp .eq 265, 3) := by decide +kernel
theorem dL_law_1016 : decode cL_law 1016 = .ok (.iconst 0, 1) := by decide +kernel
theorem dL_law_1017 : decode cL_law 1017 = .ok (.ireturn, 1) := by decide +kernel
theorem dL_law_1018 : decode cL_law 1018 = .ok (.aload_n 1, 1) := by decide +kernel
theorem dL_law_1019 : decode cL_law 1019 = .ok (.invokevirtual 135, 3) := by decide +kernel
theorem dL_law_1022 : decode cL_law 1022 = .ok (.aload_n 2, 1) := by decide +kernel
theorem dL_law_1023 : decode cL_law 1023 = .ok (.invokevirtual 138, 3) := by decide +kernel
theorem dL_law_1026 : decode cL_law 1026 = .ok (.if_icmp .eq 252, 3) := by decide +kernel
theorem dL_law_1029 : decode cL_law 1029 = .ok (.iconst 0, 1) := by decide +kernel
theorem dL_law_1030 : decode cL_law 1030 = .ok (.ireturn, 1) := by decide +kernel
theorem dL_law_1031 : decode cL_law 1031 = .ok (.aload_n 1, 1) := by decide +kernel
theorem dL_law_1032 : decode cL_law 1032 = .ok (.aload_n 0, 1) := by decide +kernel
theorem dL_law_1033 : decode cL_law 1033 = .ok (.iload 4, 2) := by decide +kernel
theorem dL_law_1035 : decode cL_law 1035 = .ok (.iconst 1, 1) := by decide +kernel
theorem dL_law_1036 : decode cL_law 1036 = .ok (.iadd, 1) := by decide +kernel
theorem dL_law_1037 : decode cL_law 1037 = .ok (.iaload, 1) := by decide +kernel
theorem dL_law_1038 : decode cL_law 1038 = .ok (.aload_n 3, 1) := by decide +kernel
theorem dL_law_1039 : decode cL_law 1039 = .ok (.invokestatic 139, 3) := by decide +kernel
theorem dL_law_1042 : decode cL_law 1042 = .ok (.istore 5, 2) := by decide +kernel
theorem dL_law_1044 : decode cL_law 1044 = .ok (.aload_n 2, 1) := by decide +kernel
theorem dL_law_1045 : decode cL_law 1045 = .ok (.aload_n 0, 1) := by decide +kernel
theorem dL_law_1046 : decode cL_law 1046 = .ok (.iload 4, 2) := by decide +kernel
theorem dL_law_1048 : decode cL_law 1048 = .ok (.iconst 1, 1) := by decide +kernel
theorem dL_law_1049 : decode cL_law 1049 = .ok (.iadd, 1) := by decide +kernel
theorem dL_law_1050 : decode cL_law 1050 = .ok (.iaload, 1) := by decide +kernel
theorem dL_law_1051 : decode cL_law 1051 = .ok (.invokevirtual 142, 3) := by decide +kernel
theorem dL_law_1054 : decode cL_law 1054 = .ok (.istore 6, 2) := by decide +kernel
theorem dL_law_1056 : decode cL_law 1056 = .ok (.aload_n 2, 1) := by decide +kernel
theorem dL_law_1057 : decode cL_law 1057 = .ok (.invokevirtual 76, 3) := by decide +kernel
theorem dL_law_1060 : decode cL_law 1060 = .ok (.iload 5, 2) := by decide +kernel
theorem dL_law_1062 : decode cL_law 1062 = .ok (.if_icmp .eq 5, 3) := by decide +kernel
theorem dL_law_1065 : decode cL_law 1065 = .ok (.iconst 0, 1) := by decide +kernel
theorem dL_law_1066 : decode cL_law 1066 = .ok (.ireturn, 1) := by decide +kernel
theorem dL_law_1067 : decode cL_law 1067 = .ok (.iload 5, 2) := by decide +kernel
theorem dL_law_1069 : decode cL_law 1069 = .ok (.ifCond .ne 15, 3) := by decide +kernel
theorem dL_law_1072 : decode cL_law 1072 = .ok (.aload_n 3, 1) := by decide +kernel
theorem dL_law_1073 : decode cL_law 1073 = .ok (.iconst 0, 1) := by decide +kernel
theorem dL_law_1074 : decode cL_law 1074 = .ok (.laload, 1) := by decide +kernel
theorem dL_law_1075 : decode cL_law 1075 = .ok (.iload 6, 2) := by decide +kernel
theorem dL_law_1077 : decode cL_law 1077 = .ok (.i2l, 1) := by decide +kernel
theorem dL_law_1078 : decode cL_law 1078 = .ok (.lcmp, 1) := by decide +kernel
theorem dL_law_1079 : decode cL_law 1079 = .ok (.ifCond .eq 5, 3) := by decide +kernel
theorem dL_law_1082 : decode cL_law 1082 = .ok (.iconst 0, 1) := by decide +kernel
theorem dL_law_1083 : decode cL_law 1083 = .ok (.ireturn, 1) := by decide +kernel
theorem dL_law_1084 : decode cL_law 1084 = .ok (.goto 194, 3) := by decide +kernel
theorem dL_law_1087 : decode cL_law 1087 = .ok (.aload_n 1, 1) := by decide +kernel
theorem dL_law_1088 : decode cL_law 1088 = .ok (.aload_n 0, 1) := by decide +kernel
theorem dL_law_1089 : decode cL_law 1089 = .ok (.iload 4, 2) := by decide +kernel
theorem dL_law_1091 : decode cL_law 1091 = .ok (.iconst 1, 1) := by decide +kernel
theorem dL_law_1092 : decode cL_law 1092 = .ok (.iadd, 1) := by decide +kernel
theorem dL_law_1093 : decode cL_law 1093 = .ok (.iaload, 1) := by decide +kernel
theorem dL_law_1094 : decode cL_law 1094 = .ok (.invokevirtual 143, 3) := by decide +kernel
theorem dL_law_1097 : decode cL_law 1097 = .ok (.aload_n 2, 1) := by decide +kernel
theorem dL_law_1098 : decode cL_law 1098 = .ok (.aload_n 0, 1) := by decide +kernel
theorem dL_law_1099 : decode cL_law 1099 = .ok (.iload 4, 2) := by decide +kernel
theorem dL_law_1101 : decode cL_law 1101 = .ok (.iconst 1, 1) := by decide +kernel
theorem dL_law_1102 : decode cL_law 1102 = .ok (.iadd, 1) := by decide +kernel
theorem dL_law_1103 : decode cL_law 1103 = .ok (.iaload, 1) := by decide +kernel
theorem dL_law_1104 : decode cL_law 1104 = .ok (.invokevirtual 146, 3) := by decide +kernel
theorem dL_law_1107 : decode cL_law 1107 = .ok (.if_icmp .eq 171, 3) := by decide +kernel
theorem dL_law_1110 : decode cL_law 1110 = .ok (.iconst 0, 1) := by decide +kernel
theorem dL_law_1111 : decode cL_law 1111 = .ok (.ireturn, 1) := by decide +kernel
theorem dL_law_1112 : decode cL_law 1112 = .ok (.aload_n 1, 1) := by decide +kernel
theorem dL_law_1113 : decode cL_law 1113 = .ok (.aload_n 0, 1) := by decide +kernel
theorem dL_law_1114 : decode cL_law 1114 = .ok (.iload 4, 2) := by decide +kernel
theorem dL_law_1116 : decode cL_law 1116 = .ok (.iconst 1, 1) := by decide +kernel
theorem dL_law_1117 : decode cL_law 1117 = .ok (.iadd, 1) := by decide +kernel
theorem dL_law_1118 : decode cL_law 1118 = .ok (.iaload, 1) := by decide +kernel
theorem dL_law_1119 : decode cL_law 1119 = .ok (.aload_n 0, 1) := by decide +kernel
theorem dL_law_1120 : decode cL_law 1120 = .ok (.iload 4, 2) := by decide +kernel
theorem dL_law_1122 : decode cL_law 1122 = .ok (.iconst 2, 1) := by decide +kernel
theorem dL_law_1123 : decode cL_law 1123 = .ok (.iadd, 1) := by decide +kernel
theorem dL_law_1124 : decode cL_law 1124 = .ok (.iaload, 1) := by decide +kernel
theorem dL_law_1125 : decode cL_law 1125 = .ok (.invokevirtual 147, 3) := by decide +kernel
theorem dL_law_1128 : decode cL_law 1128 = .ok (.aload_n 2, 1) := by decide +kernel
theorem dL_law_1129 : decode cL_law 1129 = .ok (.aload_n 0, 1) := by decide +kernel
theorem dL_law_1130 : decode cL_law 1130 = .ok (.iload 4, 2) := by decide +kernel
theorem dL_law_1132 : decode cL_law 1132 = .ok (.iconst 1, 1) := by decide +kernel
theorem dL_law_1133 : decode cL_law 1133 = .ok (.iadd, 1) := by decide +kernel
theorem dL_law_1134 : decode cL_law 1134 = .ok (.iaload, 1) := by decide +kernel
theorem dL_law_1135 : decode cL_law 1135 = .ok (.aload_n 0, 1) := by decide +kernel
theorem dL_law_1136 : decode cL_law 1136 = .ok (.iload 4, 2) := by decide +kernel
theorem dL_law_1138 : decode cL_law 1138 = .ok (.iconst 2, 1) := by decide +kernel
theorem dL_law_1139 : decode cL_law 1139 = .ok (.iadd, 1) := by decide +kernel
theorem dL_law_1140 : decode cL_law 1140 = .ok (.iaload, 1) := by decide +kernel
theorem dL_law_1141 : decode cL_law 1141 = .ok (.invokevirtual 150, 3) := by decide +kernel
theorem dL_law_1144 : decode cL_law 1144 = .ok (.if_icmp .eq 134, 3) := by decide +kernel
theorem dL_law_1147 : decode cL_law 1147 = .ok (.iconst 0, 1) := by decide +kernel
theorem dL_law_1148 : decode cL_law 1148 = .ok (.ireturn, 1) := by decide +kernel
theorem dL_law_1149 : decode cL_law 1149 = .ok (.aload_n 1, 1) := by decide +kernel
theorem dL_law_1150 : decode cL_law 1150 = .ok (.invokevirtual 151, 3) := by decide +kernel
theorem dL_law_1153 : decode cL_law 1153 = .ok (.aload_n 2, 1) := by decide +kernel
theorem dL_law_1154 : decode cL_law 1154 = .ok (.invokevirtual 154, 3) := by decide +kernel
theorem dL_law_1157 : decode cL_law 1157 = .ok (.if_icmp .eq 121, 3) := by decide +kernel
theorem dL_law_1160 : decode cL_law 1160 = .ok (.iconst 0, 1) := by decide +kernel
theorem dL_law_1161 : decode cL_law 1161 = .ok (.ireturn, 1) := by decide +kernel
theorem dL_law_1162 : decode cL_law 1162 = .ok (.aload_n 1, 1) := by decide +kernel
theorem dL_law_1163 : decode cL_law 1163 = .ok (.invokevirtual 155, 3) := by decide +kernel
theorem dL_law_1166 : decode cL_law 1166 = .ok (.aload_n 2, 1) := by decide +kernel
theorem dL_law_1167 : decode cL_law 1167 = .ok (.invokevirtual 158, 3) := by decide +kernel
theorem dL_law_1170 : decode cL_law 1170 = .ok (.if_icmp .eq 108, 3) := by decide +kernel
theorem dL_law_1173 : decode cL_law 1173 = .ok (.iconst 0, 1) := by decide +kernel
theorem dL_law_1174 : decode cL_law 1174 = .ok (.ireturn, 1) := by decide +kernel
theorem dL_law_1175 : decode cL_law 1175 = .ok (.aload_n 1, 1) := by decide +kernel
theorem dL_law_1176 : decode cL_law 1176 = .ok (.aload_n 0, 1) := by decide +kernel
theorem dL_law_1177 : decode cL_law 1177 = .ok (.iload 4, 2) := by decide +kernel
theorem dL_law_1179 : decode cL_law 1179 = .ok (.iconst 1, 1) := by decide +kernel
theorem dL_law_1180 : decode cL_law 1180 = .ok (.iadd, 1) := by decide +kernel
theorem dL_law_1181 : decode cL_law 1181 = .ok (.iaload, 1) := by decide +kernel
theorem dL_law_1182 : decode cL_law 1182 = .ok (.invokevirtual 159, 3) := by decide +kernel
theorem dL_law_1185 : decode cL_law 1185 = .ok (.aload_n 2, 1) := by decide +kernel
theorem dL_law_1186 : decode cL_law 1186 = .ok (.aload_n 0, 1) := by decide +kernel
theorem dL_law_1187 : decode cL_law 1187 = .ok (.iload 4, 2) := by decide +kernel
theorem dL_law_1189 : decode cL_law 1189 = .ok (.iconst 1, 1) := by decide +kernel
theorem dL_law_1190 : decode cL_law 1190 = .ok (.iadd, 1) := by decide +kernel
theorem dL_law_1191 : decode cL_law 1191 = .ok (.iaload, 1) := by decide +kernel
theorem dL_law_1192 : decode cL_law 1192 = .ok (.invokevirtual 162, 3) := by decide +kernel
theorem dL_law_1195 : decode cL_law 1195 = .ok (.if_icmp .eq 83, 3) := by decide +kernel
theorem dL_law_1198 : decode cL_law 1198 = .ok (.iconst 0, 1) := by decide +kernel
theorem dL_law_1199 : decode cL_law 1199 = .ok (.ireturn, 1) := by decide +kernel
theorem dL_law_1200 : decode cL_law 1200 = .ok (.aload_n 1, 1) := by decide +kernel
theorem dL_law_1201 : decode cL_law 1201 = .ok (.aload_n 0, 1) := by decide +kernel
theorem dL_law_1202 : decode cL_law 1202 = .ok (.iload 4, 2) := by decide +kernel
theorem dL_law_1204 : decode cL_law 1204 = .ok (.iconst 1, 1) := by decide +kernel
theorem dL_law_1205 : decode cL_law 1205 = .ok (.iadd, 1) := by decide +kernel
theorem dL_law_1206 : decode cL_law 1206 = .ok (.iaload, 1) := by decide +kernel
theorem dL_law_1207 : decode cL_law 1207 = .ok (.aload_n 0, 1) := by decide +kernel
theorem dL_law_1208 : decode cL_law 1208 = .ok (.iload 4, 2) := by decide +kernel
theorem dL_law_1210 : decode cL_law 1210 = .ok (.iconst 2, 1) := by decide +kernel
theorem dL_law_1211 : decode cL_law 1211 = .ok (.iadd, 1) := by decide +kernel
theorem dL_law_1212 : decode cL_law 1212 = .ok (.iaload, 1) := by decide +kernel
theorem dL_law_1213 : decode cL_law 1213 = .ok (.ifCond .eq 7, 3) := by decide +kernel
theorem dL_law_1216 : decode cL_law 1216 = .ok (.iconst 1, 1) := by decide +kernel
theorem dL_law_1217 : decode cL_law 1217 = .ok (.goto 4, 3) := by decide +kernel
theorem dL_law_1220 : decode cL_law 1220 = .ok (.iconst 0, 1) := by decide +kernel
theorem dL_law_1221 : decode cL_law 1221 = .ok (.invokevirtual 163, 3) := by decide +kernel
theorem dL_law_1224 : decode cL_law 1224 = .ok (.aload_n 2, 1) := by decide +kernel
theorem dL_law_1225 : decode cL_law 1225 = .ok (.aload_n 0, 1) := by decide +kernel
theorem dL_law_1226 : decode cL_law 1226 = .ok (.iload 4, 2) := by decide +kernel
theorem dL_law_1228 : decode cL_law 1228 = .ok (.iconst 1, 1) := by decide +kernel
theorem dL_law_1229 : decode cL_law 1229 = .ok (.iadd, 1) := by decide +kernel
theorem dL_law_1230 : decode cL_law 1230 = .ok (.iaload, 1) := by decide +kernel
theorem dL_law_1231 : decode cL_law 1231 = .ok (.aload_n 0, 1) := by decide +kernel
theorem dL_law_1232 : decode cL_law 1232 = .ok (.iload 4, 2) := by decide +kernel
theorem dL_law_1234 : decode cL_law 1234 = .ok (.iconst 2, 1) := by decide +kernel
theorem dL_law_1235 : decode cL_law 1235 = .ok (.iadd, 1) := by decide +kernel
theorem dL_law_1236 : decode cL_law 1236 = .ok (.iaload, 1) := by decide +kernel
theorem dL_law_1237 : decode cL_law 1237 = .ok (.ifCond .eq 7, 3) := by decide +kernel
theorem dL_law_1240 : decode cL_law 1240 = .ok (.iconst 1, 1) := by decide +kernel
theorem dL_law_1241 : decode cL_law 1241 = .ok (.goto 4, 3) := by decide +kernel
theorem dL_law_1244 : decode cL_law 1244 = .ok (.iconst 0, 1) := by decide +kernel
theorem dL_law_1245 : decode cL_law 1245 = .ok (.invokevirtual 167, 3) := by decide +kernel
theorem dL_law_1248 : decode cL_law 1248 = .ok (.if_icmp .eq 30, 3) := by decide +kernel
theorem dL_law_1251 : decode cL_law 1251 = .ok (.iconst 0, 1) := by decide +kernel
theorem dL_law_1252 : decode cL_law 1252 = .ok (.ireturn, 1) := by decide +kernel
theorem dL_law_1253 : decode cL_law 1253 = .ok (.aload_n 1, 1) := by decide +kernel
theorem dL_law_1254 : decode cL_law 1254 = .ok (.aload_n 0, 1) := by decide +kernel
theorem dL_law_1255 : decode cL_law 1255 = .ok (.iload 4, 2) := by decide +kernel
theorem dL_law_1257 : decode cL_law 1257 = .ok (.iconst 1, 1) := by decide +kernel
theorem dL_law_1258 : decode cL_law 1258 = .ok (.iadd, 1) := by decide +kernel
theorem dL_law_1259 : decode cL_law 1259 = .ok (.iaload, 1) := by decide +kernel
theorem dL_law_1260 : decode cL_law 1260 = .ok (.invokevirtual 168, 3) := by decide +kernel
theorem dL_law_1263 : decode cL_law 1263 = .ok (.aload_n 2, 1) := by decide +kernel
theorem dL_law_1264 : decode cL_law 1264 = .ok (.aload_n 0, 1) := by decide +kernel
theorem dL_law_1265 : decode cL_law 1265 = .ok (.iload 4, 2) := by decide +kernel
theorem dL_law_1267 : decode cL_law 1267 = .ok (.iconst 1, 1) := by decide +kernel
theorem dL_law_1268 : decode cL_law 1268 = .ok (.iadd, 1) := by decide +kernel
theorem dL_law_1269 : decode cL_law 1269 = .ok (.iaload, 1) := by decide +kernel
theorem dL_law_1270 : decode cL_law 1270 = .ok (.invokevirtual 171, 3) := by decide +kernel
theorem dL_law_1273 : decode cL_law 1273 = .ok (.if_icmp .eq 5, 3) := by decide +kernel
theorem dL_law_1276 : decode cL_law 1276 = .ok (.iconst 0, 1) := by decide +kernel
theorem dL_law_1277 : decode cL_law 1277 = .ok (.ireturn, 1) := by decide +kernel
theorem dL_law_1278 : decode cL_law 1278 = .ok (.iinc 4 7, 3) := by decide +kernel
theorem dL_law_1281 : decode cL_law 1281 = .ok (.goto (-1258), 3) := by decide +kernel
theorem dL_law_1284 : decode cL_law 1284 = .ok (.iconst 1, 1) := by decide +kernel
theorem dL_law_1285 : decode cL_law 1285 = .ok (.ireturn, 1) := by decide +kernel
