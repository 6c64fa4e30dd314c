theorem dX6_read_30 : decode cX6_read 30 = .ok (.istore_n 1, 1) := by decide +kernel
theorem dX6_read_31 : decode cX6_read 31 = .ok (.iconst 0, 1) := by decide +kernel
theorem dX6_read_32 : decode cX6_read 32 = .ok (.istore_n 2, 1) := by decide +kernel
theorem dX6_read_33 : decode cX6_read 33 = .ok (.iload_n 2, 1) := by decide +kernel
theorem dX6_read_34 : decode cX6_read 34 = .ok (.sipush 1000, 3) := by decide +kernel
theorem dX6_read_37 : decode cX6_read 37 = .ok (.if_icmp .gt 25, 3) := by decide +kernel
theorem dX6_read_40 : decode cX6_read 40 = .ok (.iload_n 1, 1) := by decide +kernel
theorem dX6_read_41 : decode cX6_read 41 = .ok (.ifCond .eq 21, 3) := by decide +kernel
theorem dX6_read_44 : decode cX6_read 44 = .ok (.aload_n 0, 1) := by decide +kernel
theorem dX6_read_45 : decode cX6_read 45 = .ok (.invokevirtual 43, 3) := by decide +kernel
theorem dX6_read_48 : decode cX6_read 48 = .ok (.ifCond .eq 14, 3) := by decide +kernel
theorem dX6_read_51 : decode cX6_read 51 = .ok (.aload_n 0, 1) := by decide +kernel
theorem dX6_read_52 : decode cX6_read 52 = .ok (.invokevirtual 47, 3) := by decide +kernel
theorem dX6_read_55 : decode cX6_read 55 = .ok (.istore_n 1, 1) := by decide +kernel
theorem dX6_read_56 : decode cX6_read 56 = .ok (.iinc 2 1, 3) := by decide +kernel
theorem dX6_read_59 : decode cX6_read 59 = .ok (.goto (-26), 3) := by decide +kernel
theorem dX6_read_62 : decode cX6_read 62 = .ok (.aload_n 0, 1) := by decide +kernel
theorem dX6_read_63 : decode cX6_read 63 = .ok (.getfield 35, 3) := by decide +kernel
theorem dX6_read_66 : decode cX6_read 66 = .ok (.ifCond .ne 7, 3) := by decide +kernel
theorem dX6_read_69 : decode cX6_read 69 = .ok (.iconst 0, 1) := by decide +kernel
theorem dX6_read_70 : decode cX6_read 70 = .ok (.goto 15, 3) := by decide +kernel
theorem dX6_read_73 : decode cX6_read 73 = .ok (.aload_n 0, 1) := by decide +kernel
theorem dX6_read_74 : decode cX6_read 74 = .ok (.getfield 35, 3) := by decide +kernel
theorem dX6_read_77 : decode cX6_read 77 = .ok (.bipush 16, 2) := by decide +kernel
theorem dX6_read_79 : decode cX6_read 79 = .ok (.aload_n 0, 1) := by decide +kernel
theorem dX6_read_80 : decode cX6_read 80 = .ok (.invokevirtual 51, 3) := by decide +kernel
theorem dX6_read_83 : decode cX6_read 83 = .ok (.imul, 1) := by decide +kernel
theorem dX6_read_84 : decode cX6_read 84 = .ok (.iadd, 1) := by decide +kernel
theorem dX6_read_85 : decode cX6_read 85 = .ok (.ireturn, 1) := by decide +kernel
theorem dX6_seen_0 : decode cX6_seen 0 = .ok (.aload_n 0, 1) := by decide +kernel
theorem dX6_seen_1 : decode cX6_seen 1 = .ok (.getfield 15, 3) := by decide +kernel
theorem dX6_seen_4 : decode cX6_seen 4 = .ok (.aload_n 0, 1) := by decide +kernel
theorem dX6_seen_5 : decode cX6_seen 5 = .ok (.getfield 28, 3) := by decide +kernel
theorem dX6_seen_8 : decode cX6_seen 8 = .ok (.invokevirtual 54, 3) := by decide +kernel
theorem dX6_seen_11 : decode cX6_seen 11 = .ok (.ireturn, 1) := by decide +kernel
theorem dX6_placeSeen_0 : decode cX6_placeSeen 0 = .ok (.aload_n 0, 1) := by decide +kernel
theorem dX6_placeSeen_1 : decode cX6_placeSeen 1 = .ok (.getfield 15, 3) := by decide +kernel
theorem dX6_placeSeen_4 : decode cX6_placeSeen 4 = .ok (.aload_n 0, 1) := by decide +kernel
theorem dX6_placeSeen_5 : decode cX6_placeSeen 5 = .ok (.getfield 28, 3) := by decide +kernel
theorem dX6_placeSeen_8 : decode cX6_placeSeen 8 = .ok (.invokevirtual 58, 3) := by decide +kernel
theorem dX6_placeSeen_11 : decode cX6_placeSeen 11 = .ok (.ireturn, 1) := by decide +kernel
theorem dX6_refuse_0 : decode cX6_refuse 0 = .ok (.aload_n 0, 1) := by decide +kernel
theorem dX6_refuse_1 : decode cX6_refuse 1 = .ok (.iload_n 1, 1) := by decide +kernel
theorem dX6_refuse_2 : decode cX6_refuse 2 = .ok (.putfield 35, 3) := by decide +kernel
theorem dX6_refuse_5 : decode cX6_refuse 5 = .ok (.iconst 0, 1) := by decide +kernel
theorem dX6_refuse_6 : decode cX6_refuse 6 = .ok (.ireturn, 1) := by decide +kernel
theorem dX6_take_0 : decode cX6_take 0 = .ok (.aload_n 0, 1) := by decide +kernel
theorem dX6_take_1 : decode cX6_take 1 = .ok (.invokevirtual 43, 3) := by decide +kernel
theorem dX6_take_4 : decode cX6_take 4 = .ok (.iload_n 1, 1) := by decide +kernel
theorem dX6_take_5 : decode cX6_take 5 = .ok (.if_icmp .eq 9, 3) := by decide +kernel
theorem dX6_take_8 : decode cX6_take 8 = .ok (.aload_n 0, 1) := by decide +kernel
theorem dX6_take_9 : decode cX6_take 9 = .ok (.iconst 1, 1) := by decide +kernel
theorem dX6_take_10 : decode cX6_take 10 = .ok (.invokevirtual 61, 3) := by decide +kernel
theorem dX6_take_13 : decode cX6_take 13 = .ok (.ireturn, 1) := by decide +kernel
theorem dX6_take_14 : decode cX6_take 14 = .ok (.aload_n 0, 1) := by decide +kernel
theorem dX6_take_15 : decode cX6_take 15 = .ok (.dup, 1) := by decide +kernel
theorem dX6_take_16 : decode cX6_take 16 = .ok (.getfield 28, 3) := by decide +kernel
theorem dX6_take_19 : decode cX6_take 19 = .ok (.iconst 1, 1) := by decide +kernel
theorem dX6_take_20 : decode cX6_take 20 = .ok (.iadd, 1) := by decide +kernel
theorem dX6_take_21 : decode cX6_take 21 = .ok (.putfield 28, 3) := by decide +kernel
theorem dX6_take_24 : decode cX6_take 24 = .ok (.iconst 1, 1) := by decide +kernel
theorem dX6_take_25 : decode cX6_take 25 = .ok (.ireturn, 1) := by decide +kernel
theorem dX6_number_0 : decode cX6_number 0 = .ok (.aload_n 0, 1) := by decide +kernel
theorem dX6_number_1 : decode cX6_number 1 = .ok (.invokevirtual 43, 3) := by decide +kernel
theorem dX6_number_4 : decode cX6_number 4 = .ok (.sipush 1000, 3) := by decide +kernel
theorem dX6_number_7 : decode cX6_number 7 = .ok (.isub, 1) := by decide +kernel
theorem dX6_number_8 : decode cX6_number 8 = .ok (.istore 5, 2) := by decide +kernel
theorem dX6_number_10 : decode cX6_number 10 = .ok (.iload 5, 2) := by decide +kernel
theorem dX6_number_12 : decode cX6_number 12 = .ok (.ifCond .ge 9, 3) := by decide +kernel
theorem dX6_number_15 : decode cX6_number 15 = .ok (.aload_n 0, 1) := by decide +kernel
theorem dX6_number_16 : decode cX6_number 16 = .ok (.iconst 1, 1) := by decide +kernel
theorem dX6_number_17 : decode cX6_number 17 = .ok (.invokevirtual 61, 3) := by decide +kernel
theorem dX6_number_20 : decode cX6_number 20 = .ok (.ireturn, 1) := by decide +kernel
theorem dX6_number_21 : decode cX6_number 21 = .ok (.iload 5, 2) := by decide +kernel
theorem dX6_number_23 : decode cX6_number 23 = .ok (.iload_n 3, 1) := by decide +kernel
theorem dX6_number_24 : decode cX6_number 24 = .ok (.if_icmp .lt 10, 3) := by decide +kernel
theorem dX6_number_27 : decode cX6_number 27 = .ok (.iload 5, 2) := by decide +kernel
theorem dX6_number_29 : decode cX6_number 29 = .ok (.iload 4, 2) := by decide +kernel
theorem dX6_number_31 : decode cX6_number 31 = .ok (.if_icmp .le 9, 3) := by decide +kernel
theorem dX6_number_34 : decode cX6_number 34 = .ok (.aload_n 0, 1) := by decide +kernel
theorem dX6_number_35 : decode cX6_number 35 = .ok (.iconst 4, 1) := by decide +kernel
theorem dX6_number_36 : decode cX6_number 36 = .ok (.invokevirtual 61, 3) := by decide +kernel
theorem dX6_number_39 : decode cX6_number 39 = .ok (.ireturn, 1) := by decide +kernel
theorem dX6_number_40 : decode cX6_number 40 = .ok (.iload_n 2, 1) := by decide +kernel
theorem dX6_number_41 : decode cX6_number 41 = .ok (.ifCond .lt 9, 3) := by decide +kernel
theorem dX6_number_44 : decode cX6_number 44 = .ok (.iload_n 2, 1) := by decide +kernel
theorem dX6_number_45 : decode cX6_number 45 = .ok (.aload_n 1, 1) := by decide +kernel
theorem dX6_number_46 : decode cX6_number 46 = .ok (.arraylength, 1) := by decide +kernel
theorem dX6_number_47 : decode cX6_number 47 = .ok (.if_icmp .lt 9, 3) := by decide +kernel
theorem dX6_number_50 : decode cX6_number 50 = .ok (.aload_n 0, 1) := by decide +kernel
theorem dX6_number_51 : decode cX6_number 51 = .ok (.iconst 5, 1) := by decide +kernel
theorem dX6_number_52 : decode cX6_number 52 = .ok (.invokevirtual 61, 3) := by decide +kernel
theorem dX6_number_55 : decode cX6_number 55 = .ok (.ireturn, 1) := by decide +kernel
theorem dX6_number_56 : decode cX6_number 56 = .ok (.aload_n 1, 1) := by decide +kernel
theorem dX6_number_57 : decode cX6_number 57 = .ok (.iload_n 2, 1) := by decide +kernel
theorem dX6_number_58 : decode cX6_number 58 = .ok (.iload 5, 2) := by decide +kernel
theorem dX6_number_60 : decode cX6_number 60 = .ok (.iastore, 1) := by decide +kernel
theorem dX6_number_61 : decode cX6_number 61 = .ok (.aload_n 0, 1) := by decide +kernel
theorem dX6_number_62 : decode cX6_number 62 = .ok (.dup, 1) := by decide +kernel
theorem dX6_number_63 : decode cX6_number 63 = .ok (.getfield 28, 3) := by decide +kernel
theorem dX6_number_66 : decode cX6_number 66 = .ok (.iconst 1, 1) := by decide +kernel
theorem dX6_number_67 : decode cX6_number 67 = .ok (.iadd, 1) := by decide +kernel
theorem dX6_number_68 : decode cX6_number 68 = .ok (.putfield 28, 3) := by decide +kernel
theorem dX6_number_71 : decode cX6_number 71 = .ok (.iconst 1, 1) := by decide +kernel
theorem dX6_number_72 : decode cX6_number 72 = .ok (.ireturn, 1) := by decide +kernel
theorem dX6_line_0 : decode cX6_line 0 = .ok (.aload_n 0, 1) := by decide +kernel
theorem dX6_line_1 : decode cX6_line 1 = .ok (.invokevirtual 43, 3) := by decide +kernel
theorem dX6_line_4 : decode cX6_line 4 = .ok (.lookupswitch 123 #[(100, 44), (107, 69), (109, 94), (110, 118)], 44) := by decide +kernel
theorem dX6_line_48 : decode cX6_line 48 = .ok (.aload_n 0, 1) := by decide +kernel
theorem dX6_line_49 : decode cX6_line 49 = .ok (.getfield 19, 3) := by decide +kernel
theorem dX6_line_52 : decode cX6_line 52 = .ok (.getfield 65, 3) := by decide +kernel
theorem dX6_line_55 : decode cX6_line 55 = .ok (.bipush 12, 2) := by decide +kernel
theorem dX6_line_57 : decode cX6_line 57 = .ok (.if_icmp .ge 10, 3) := by decide +kernel
theorem dX6_line_60 : decode cX6_line 60 = .ok (.aload_n 0, 1) := by decide +kernel
theorem dX6_line_61 : decode cX6_line 61 = .ok (.invokevirtual 68, 3) := by decide +kernel
theorem dX6_line_64 : decode cX6_line 64 = .ok (.goto 8, 3) := by decide +kernel
theorem dX6_line_67 : decode cX6_line 67 = .ok (.aload_n 0, 1) := by decide +kernel
theorem dX6_line_68 : decode cX6_line 68 = .ok (.iconst 5, 1) := by decide +kernel
theorem dX6_line_69 : decode cX6_line 69 = .ok (.invokevirtual 61, 3) := by decide +kernel
theorem dX6_line_72 : decode cX6_line 72 = .ok (.ireturn, 1) := by decide +kernel
theorem dX6_line_73 : decode cX6_line 73 = .ok (.aload_n 0, 1) := by decide +kernel
theorem dX6_line_74 : decode cX6_line 74 = .ok (.getfield 19, 3) := by decide +kernel
theorem dX6_line_77 : decode cX6_line 77 = .ok (.getfield 71, 3) := by decide +kernel
theorem dX6_line_80 : decode cX6_line 80 = .ok (.bipush 8, 2) := by decide +kernel
theorem dX6_line_82 : decode cX6_line 82 = .ok (.if_icmp .ge 10, 3) := by decide +kernel
theorem dX6_line_85 : decode cX6_line 85 = .ok (.aload_n 0, 1) := by decide +kernel
theorem dX6_line_86 : decode cX6_line 86 = .ok (.invokevirtual 74, 3) := by decide +kernel
theorem dX6_line_89 : decode cX6_line 89 = .ok (.goto 8, 3) := by decide +kernel
theorem dX6_line_92 : decode cX6_line 92 = .ok (.aload_n 0, 1) := by decide +kernel
theorem dX6_line_93 : decode cX6_line 93 = .ok (.iconst 5, 1) := by decide +kernel
theorem dX6_line_94 : decode cX6_line 94 = .ok (.invokevirtual 61, 3) := by decide +kernel
theorem dX6_line_97 : decode cX6_line 97 = .ok (.ireturn, 1) := by decide +kernel
theorem dX6_line_98 : decode cX6_line 98 = .ok (.aload_n 0, 1) := by decide +kernel
theorem dX6_line_99 : decode cX6_line 99 = .ok (.getfield 19, 3) := by decide +kernel
theorem dX6_line_102 : decode cX6_line 102 = .ok (.getfield 77, 3) := by decide +kernel
theorem dX6_line_105 : decode cX6_line 105 = .ok (.iconst 4, 1) := by decide +kernel
theorem dX6_line_106 : decode cX6_line 106 = .ok (.if_icmp .ge 10, 3) := by decide +kernel
theorem dX6_line_109 : decode cX6_line 109 = .ok (.aload_n 0, 1) := by decide +kernel
theorem dX6_line_110 : decode cX6_line 110 = .ok (.invokevirtual 80, 3) := by decide +kernel
theorem dX6_line_113 : decode cX6_line 113 = .ok (.goto 8, 3) := by decide +kernel
theorem dX6_line_116 : decode cX6_line 116 = .ok (.aload_n 0, 1) := by decide +kernel
theorem dX6_line_117 : decode cX6_line 117 = .ok (.iconst 5, 1) := by decide +kernel
theorem dX6_line_118 : decode cX6_line 118 = .ok (.invokevirtual 61, 3) := by decide +kernel
theorem dX6_line_121 : decode cX6_line 121 = .ok (.ireturn, 1) := by decide +kernel
theorem dX6_line_122 : decode cX6_line 122 = .ok (.aload_n 0, 1) := by decide +kernel
theorem dX6_line_123 : decode cX6_line 123 = .ok (.invokevirtual 83, 3) := by decide +kernel
theorem dX6_line_126 : decode cX6_line 126 = .ok (.ireturn, 1) := by decide +kernel
theorem dX6_line_127 : decode cX6_line 127 = .ok (.aload_n 0, 1) := by decide +kernel
theorem dX6_line_128 : decode cX6_line 128 = .ok (.iconst 1, 1) := by decide +kernel
theorem dX6_line_129 : decode cX6_line 129 = .ok (.invokevirtual 61, 3) := by decide +kernel
theorem dX6_line_132 : decode cX6_line 132 = .ok (.ireturn, 1) := by decide +kernel
theorem dX6_bowlLine_0 : decode cX6_bowlLine 0 = .ok (.aload_n 0, 1) := by decide +kernel
theorem dX6_bowlLine_1 : decode cX6_bowlLine 1 = .ok (.getfield 19, 3) := by decide +kernel
theorem dX6_bowlLine_4 : decode cX6_bowlLine 4 = .ok (.getfield 65, 3) := by decide +kernel
theorem dX6_bowlLine_7 : decode cX6_bowlLine 7 = .ok (.istore_n 1, 1) := by decide +kernel
theorem dX6_bowlLine_8 : decode cX6_bowlLine 8 = .ok (.aload_n 0, 1) := by decide +kernel
theorem dX6_bowlLine_9 : decode cX6_bowlLine 9 = .ok (.dup, 1) := by decide +kernel
theorem dX6_bowlLine_10 : decode cX6_bowlLine 10 = .ok (.getfield 28, 3) := by decide +kernel
theorem dX6_bowlLine_13 : decode cX6_bowlLine 13 = .ok (.iconst 1, 1) := by decide +kernel
theorem dX6_bowlLine_14 : decode cX6_bowlLine 14 = .ok (.iadd, 1) := by decide +kernel
theorem dX6_bowlLine_15 : decode cX6_bowlLine 15 = .ok (.putfield 28, 3) := by decide +kernel
theorem dX6_bowlLine_18 : decode cX6_bowlLine 18 = .ok (.aload_n 0, 1) := by decide +kernel
theorem dX6_bowlLine_19 : decode cX6_bowlLine 19 = .ok (.iload_n 1, 1) := by decide +kernel
theorem dX6_bowlLine_20 : decode cX6_bowlLine 20 = .ok (.invokevirtual 86, 3) := by decide +kernel
theorem dX6_bowlLine_23 : decode cX6_bowlLine 23 = .ok (.ifCond .eq 89, 3) := by decide +kernel
theorem dX6_bowlLine_26 : decode cX6_bowlLine 26 = .ok (.aload_n 0, 1) := by decide +kernel
theorem dX6_bowlLine_27 : decode cX6_bowlLine 27 = .ok (.bipush 101, 2) := by decide +kernel
theorem dX6_bowlLine_29 : decode cX6_bowlLine 29 = .ok (.invokevirtual 89, 3) := by decide +kernel
theorem dX6_bowlLine_32 : decode cX6_bowlLine 32 = .ok (.ifCond .eq 80, 3) := by decide +kernel
theorem dX6_bowlLine_35 : decode cX6_bowlLine 35 = .ok (.aload_n 0, 1) := by decide +kernel
theorem dX6_bowlLine_36 : decode cX6_bowlLine 36 = .ok (.aload_n 0, 1) := by decide +kernel
theorem dX6_bowlLine_37 : decode cX6_bowlLine 37 = .ok (.getfield 19, 3) := by decide +kernel
theorem dX6_bowlLine_40 : decode cX6_bowlLine 40 = .ok (.getfield 92, 3) := by decide +kernel
theorem dX6_bowlLine_43 : decode cX6_bowlLine 43 = .ok (.iload_n 1, 1) := by decide +kernel
theorem dX6_bowlLine_44 : decode cX6_bowlLine 44 = .ok (.iconst 1, 1) := by decide +kernel
theorem dX6_bowlLine_45 : decode cX6_bowlLine 45 = .ok (.sipush 9999, 3) := by decide +kernel
theorem dX6_bowlLine_48 : decode cX6_bowlLine 48 = .ok (.invokevirtual 95, 3) := by decide +kernel
theorem dX6_bowlLine_51 : decode cX6_bowlLine 51 = .ok (.ifCond .eq 61, 3) := by decide +kernel
theorem dX6_bowlLine_54 : decode cX6_bowlLine 54 = .ok (.aload_n 0, 1) := by decide +kernel
theorem dX6_bowlLine_55 : decode cX6_bowlLine 55 = .ok (.bipush 102, 2) := by decide +kernel
theorem dX6_bowlLine_57 : decode cX6_bowlLine 57 = .ok (.invokevirtual 89, 3) := by decide +kernel
theorem dX6_bowlLine_60 : decode cX6_bowlLine 60 = .ok (.ifCond .eq 52, 3) := by decide +kernel
theorem dX6_bowlLine_63 : decode cX6_bowlLine 63 = .ok (.aload_n 0, 1) := by decide +kernel
theorem dX6_bowlLine_64 : decode cX6_bowlLine 64 = .ok (.aload_n 0, 1) := by decide +kernel
theorem dX6_bowlLine_65 : decode cX6_bowlLine 65 = .ok (.getfield 19, 3) := by decide +kernel
theorem dX6_bowlLine_68 : decode cX6_bowlLine 68 = .ok (.getfield 99, 3) := by decide +kernel
theorem dX6_bowlLine_71 : decode cX6_bowlLine 71 = .ok (.iload_n 1, 1) := by decide +kernel
theorem dX6_bowlLine_72 : decode cX6_bowlLine 72 = .ok (.iconst 1, 1) := by decide +kernel
theorem dX6_bowlLine_73 : decode cX6_bowlLine 73 = .ok (.bipush 99, 2) := by decide +kernel
theorem dX6_bowlLine_75 : decode cX6_bowlLine 75 = .ok (.invokevirtual 95, 3) := by decide +kernel
theorem dX6_bowlLine_78 : decode cX6_bowlLine 78 = .ok (.ifCond .eq 34, 3) := by decide +kernel
theorem dX6_bowlLine_81 : decode cX6_bowlLine 81 = .ok (.aload_n 0, 1) := by decide +kernel
theorem dX6_bowlLine_82 : decode cX6_bowlLine 82 = .ok (.bipush 103, 2) := by decide +kernel
theorem dX6_bowlLine_84 : decode cX6_bowlLine 84 = .ok (.invokevirtual 89, 3) := by decide +kernel
theorem dX6_bowlLine_87 : decode cX6_bowlLine 87 = .ok (.ifCond .eq 25, 3) := by decide +kernel
theorem dX6_bowlLine_90 : decode cX6_bowlLine 90 = .ok (.aload_n 0, 1) := by decide +kernel
theorem dX6_bowlLine_91 : decode cX6_bowlLine 91 = .ok (.aload_n 0, 1) := by decide +kernel
theorem dX6_bowlLine_92 : decode cX6_bowlLine 92 = .ok (.getfield 19, 3) := by decide +kernel
theorem dX6_bowlLine_95 : decode cX6_bowlLine 95 = .ok (.getfield 102, 3) := by decide +kernel
theorem dX6_bowlLine_98 : decode cX6_bowlLine 98 = .ok (.iload_n 1, 1) := by decide +kernel
theorem dX6_bowlLine_99 : decode cX6_bowlLine 99 = .ok (.iconst 1, 1) := by decide +kernel
theorem dX6_bowlLine_100 : decode cX6_bowlLine 100 = .ok (.bipush 20, 2) := by decide +kernel
theorem dX6_bowlLine_102 : decode cX6_bowlLine 102 = .ok (.invokevirtual 95, 3) := by decide +kernel
theorem dX6_bowlLine_105 : decode cX6_bowlLine 105 = .ok (.ifCond .eq 7, 3) := by decide +kernel
theorem dX6_bowlLine_108 : decode cX6_bowlLine 108 = .ok (.iconst 1, 1) := by decide +kernel
theorem dX6_bowlLine_109 : decode cX6_bowlLine 109 = .ok (.goto 4, 3) := by decide +kernel
theorem dX6_bowlLine_112 : decode cX6_bowlLine 112 = .ok (.iconst 0, 1) := by decide +kernel
theorem dX6_bowlLine_113 : decode cX6_bowlLine 113 = .ok (.istore_n 2, 1) := by decide +kernel
theorem dX6_bowlLine_114 : decode cX6_bowlLine 114 = .ok (.iload_n 2, 1) := by decide +kernel
theorem dX6_bowlLine_115 : decode cX6_bowlLine 115 = .ok (.ifCond .ne 5, 3) := by decide +kernel
theorem dX6_bowlLine_118 : decode cX6_bowlLine 118 = .ok (.iconst 0, 1) := by decide +kernel
theorem dX6_bowlLine_119 : decode cX6_bowlLine 119 = .ok (.ireturn, 1) := by decide +kernel
theorem dX6_bowlLine_120 : decode cX6_bowlLine 120 = .ok (.iconst 0, 1) := by decide +kernel
theorem dX6_bowlLine_121 : decode cX6_bowlLine 121 = .ok (.istore_n 3, 1) := by decide +kernel
theorem dX6_bowlLine_122 : decode cX6_bowlLine 122 = .ok (.aload_n 0, 1) := by decide +kernel
theorem dX6_bowlLine_123 : decode cX6_bowlLine 123 = .ok (.invokevirtual 43, 3) := by decide +kernel
theorem dX6_bowlLine_126 : decode cX6_bowlLine 126 = .ok (.bipush 104, 2) := by decide +kernel
theorem dX6_bowlLine_128 : decode cX6_bowlLine 128 = .ok (.if_icmp .lt 32, 3) := by decide +kernel
theorem dX6_bowlLine_131 : decode cX6_bowlLine 131 = .ok (.aload_n 0, 1) := by decide +kernel
theorem dX6_bowlLine_132 : decode cX6_bowlLine 132 = .ok (.invokevirtual 43, 3) := by decide +kernel
theorem dX6_bowlLine_135 : decode cX6_bowlLine 135 = .ok (.bipush 106, 2) := by decide +kernel
theorem dX6_bowlLine_137 : decode cX6_bowlLine 137 = .ok (.if_icmp .gt 23, 3) := by decide +kernel
theorem dX6_bowlLine_140 : decode cX6_bowlLine 140 = .ok (.aload_n 0, 1) := by decide +kernel
theorem dX6_bowlLine_141 : decode cX6_bowlLine 141 = .ok (.invokevirtual 43, 3) := by decide +kernel
theorem dX6_bowlLine_144 : decode cX6_bowlLine 144 = .ok (.bipush 104, 2) := by decide +kernel
theorem dX6_bowlLine_146 : decode cX6_bowlLine 146 = .ok (.isub, 1) := by decide +kernel
theorem dX6_bowlLine_147 : decode cX6_bowlLine 147 = .ok (.iconst 1, 1) := by decide +kernel
theorem dX6_bowlLine_148 : decode cX6_bowlLine 148 = .ok (.iadd, 1) := by decide +kernel
theorem dX6_bowlLine_149 : decode cX6_bowlLine 149 = .ok (.istore_n 3, 1) := by decide +kernel
theorem dX6_bowlLine_150 : decode cX6_bowlLine 150 = .ok (.aload_n 0, 1) := by decide +kernel
theorem dX6_bowlLine_151 : decode cX6_bowlLine 151 = .ok (.dup, 1) := by decide +kernel
theorem dX6_bowlLine_152 : decode cX6_bowlLine 152 = .ok (.getfield 28, 3) := by decide +kernel
theorem dX6_bowlLine_155 : decode cX6_bowlLine 155 = .ok (.iconst 1, 1) := by decide +kernel
theorem dX6_bowlLine_156 : decode cX6_bowlLine 156 = .ok (.iadd, 1) := by decide +kernel
theorem dX6_bowlLine_157 : decode cX6_bowlLine 157 = .ok (.putfield 28, 3) := by decide +kernel
theorem dX6_bowlLine_160 : decode cX6_bowlLine 160 = .ok (.aload_n 0, 1) := by decide +kernel
theorem dX6_bowlLine_161 : decode cX6_bowlLine 161 = .ok (.bipush 59, 2) := by decide +kernel
theorem dX6_bowlLine_163 : decode cX6_bowlLine 163 = .ok (.invokevirtual 89, 3) := by decide +kernel
theorem dX6_bowlLine_166 : decode cX6_bowlLine 166 = .ok (.ifCond .ne 5, 3) := by decide +kernel
theorem dX6_bowlLine_169 : decode cX6_bowlLine 169 = .ok (.iconst 0, 1) := by decide +kernel
theorem dX6_bowlLine_170 : decode cX6_bowlLine 170 = .ok (.ireturn, 1) := by decide +kernel
theorem dX6_bowlLine_171 : decode cX6_bowlLine 171 = .ok (.aload_n 0, 1) := by decide +kernel
theorem dX6_bowlLine_172 : decode cX6_bowlLine 172 = .ok (.getfield 19, 3) := by decide +kernel
theorem dX6_bowlLine_175 : decode cX6_bowlLine 175 = .ok (.iload_n 3, 1) := by decide +kernel
theorem dX6_bowlLine_176 : decode cX6_bowlLine 176 = .ok (.invokevirtual 105, 3) := by decide +kernel
theorem dX6_bowlLine_179 : decode cX6_bowlLine 179 = .ok (.iconst 1, 1) := by decide +kernel
theorem dX6_bowlLine_180 : decode cX6_bowlLine 180 = .ok (.ireturn, 1) := by decide +kernel
theorem dX6_isName_0 : decode cX6_isName 0 = .ok (.aload_n 0, 1) := by decide +kernel
theorem dX6_isName_1 : decode cX6_isName 1 = .ok (.invokevirtual 43, 3) := by decide +kernel
theorem dX6_isName_4 : decode cX6_isName 4 = .ok (.iconst 2, 1) := by decide +kernel
theorem dX6_isName_5 : decode cX6_isName 5 = .ok (.if_icmp .eq 22, 3) := by decide +kernel
theorem dX6_isName_8 : decode cX6_isName 8 = .ok (.aload_n 0, 1) := by decide +kernel
theorem dX6_isName_9 : decode cX6_isName 9 = .ok (.invokevirtual 43, 3) := by decide +kernel
theorem dX6_isName_12 : decode cX6_isName 12 = .ok (.bipush 125, 2) := by decide +kernel
theorem dX6_isName_14 : decode cX6_isName 14 = .ok (.if_icmp .lt 17, 3) := by decide +kernel
theorem dX6_isName_17 : decode cX6_isName 17 = .ok (.aload_n 0, 1) := by decide +kernel
theorem dX6_isName_18 : decode cX6_isName 18 = .ok (.invokevirtual 43, 3) := by decide +kernel
theorem dX6_isName_21 : decode cX6_isName 21 = .ok (.sipush 128, 3) := by decide +kernel
theorem dX6_isName_24 : decode cX6_isName 24 = .ok (.if_icmp .gt 7, 3) := by decide +kernel
theorem dX6_isName_27 : decode cX6_isName 27 = .ok (.iconst 1, 1) := by decide +kernel
theorem dX6_isName_28 : decode cX6_isName 28 = .ok (.goto 4, 3) := by decide +kernel
theorem dX6_isName_31 : decode cX6_isName 31 = .ok (.iconst 0, 1) := by decide +kernel
theorem dX6_isName_32 : decode cX6_isName 32 = .ok (.ireturn, 1) := by decide +kernel
theorem dX6_bowlSeen_0 : decode cX6_bowlSeen 0 = .ok (.iconst 0, 1) := by decide +kernel
theorem dX6_bowlSeen_1 : decode cX6_bowlSeen 1 = .ok (.istore_n 1, 1) := by decide +kernel
theorem dX6_bowlSeen_2 : decode cX6_bowlSeen 2 = .ok (.iload_n 1, 1) := by decide +kernel
theorem dX6_bowlSeen_3 : decode cX6_bowlSeen 3 = .ok (.aload_n 0, 1) := by decide +kernel
theorem dX6_bowlSeen_4 : decode cX6_bowlSeen 4 = .ok (.getfield 19, 3) := by decide +kernel
theorem dX6_bowlSeen_7 : decode cX6_bowlSeen 7 = .ok (.getfield 65, 3) := by decide +kernel
theorem dX6_bowlSeen_10 : decode cX6_bowlSeen 10 = .ok (.if_icmp .ge 31, 3) := by decide +kernel
theorem dX6_bowlSeen_13 : decode cX6_bowlSeen 13 = .ok (.aload_n 0, 1) := by decide +kernel
theorem dX6_bowlSeen_14 : decode cX6_bowlSeen 14 = .ok (.getfield 15, 3) := by decide +kernel
theorem dX6_bowlSeen_17 : decode cX6_bowlSeen 17 = .ok (.aload_n 0, 1) := by decide +kernel
theorem dX6_bowlSeen_18 : decode cX6_bowlSeen 18 = .ok (.getfield 9, 3) := by decide +kernel
theorem dX6_bowlSeen_21 : decode cX6_bowlSeen 21 = .ok (.iload_n 1, 1) := by decide +kernel
theorem dX6_bowlSeen_22 : decode cX6_bowlSeen 22 = .ok (.iaload, 1) := by decide +kernel
theorem dX6_bowlSeen_23 : decode cX6_bowlSeen 23 = .ok (.aload_n 0, 1) := by decide +kernel
theorem dX6_bowlSeen_24 : decode cX6_bowlSeen 24 = .ok (.invokevirtual 51, 3) := by decide +kernel
theorem dX6_bowlSeen_27 : decode cX6_bowlSeen 27 = .ok (.invokevirtual 109, 3) := by decide +kernel
theorem dX6_bowlSeen_30 : decode cX6_bowlSeen 30 = .ok (.ifCond .eq 5, 3) := by decide +kernel
theorem dX6_bowlSeen_33 : decode cX6_bowlSeen 33 = .ok (.iload_n 1, 1) := by decide +kernel
theorem dX6_bowlSeen_34 : decode cX6_bowlSeen 34 = .ok (.ireturn, 1) := by decide +kernel
theorem dX6_bowlSeen_35 : decode cX6_bowlSeen 35 = .ok (.iinc 1 1, 3) := by decide +kernel
theorem dX6_bowlSeen_38 : decode cX6_bowlSeen 38 = .ok (.goto (-36), 3) := by decide +kernel
theorem dX6_bowlSeen_41 : decode cX6_bowlSeen 41 = .ok (.iconst (-1), 1) := by decide +kernel
theorem dX6_bowlSeen_42 : decode cX6_bowlSeen 42 = .ok (.ireturn, 1) := by decide +kernel
theorem dX6_newName_0 : decode cX6_newName 0 = .ok (.aload_n 0, 1) := by decide +kernel
theorem dX6_newName_1 : decode cX6_newName 1 = .ok (.invokevirtual 113, 3) := by decide +kernel
theorem dX6_newName_4 : decode cX6_newName 4 = .ok (.ifCond .ne 9, 3) := by decide +kernel
theorem dX6_newName_7 : decode cX6_newName 7 = .ok (.aload_n 0, 1) := by decide +kernel
theorem dX6_newName_8 : decode cX6_newName 8 = .ok (.iconst 1, 1) := by decide +kernel
theorem dX6_newName_9 : decode cX6_newName 9 = .ok (.invokevirtual 61, 3) := by decide +kernel
theorem dX6_newName_12 : decode cX6_newName 12 = .ok (.ireturn, 1) := by decide +kernel
theorem dX6_newName_13 : decode cX6_newName 13 = .ok (.aload_n 0, 1) := by decide +kernel
theorem dX6_newName_14 : decode cX6_newName 14 = .ok (.invokevirtual 116, 3) := by decide +kernel
theorem dX6_newName_17 : decode cX6_newName 17 = .ok (.iconst (-1), 1) := by decide +kernel
theorem dX6_newName_18 : decode cX6_newName 18 = .ok (.if_icmp .eq 9, 3) := by decide +kernel
theorem dX6_newName_21 : decode cX6_newName 21 = .ok (.aload_n 0, 1) := by decide +kernel
theorem dX6_newName_22 : decode cX6_newName 22 = .ok (.iconst 3, 1) := by decide +kernel
theorem dX6_newName_23 : decode cX6_newName 23 = .ok (.invokevirtual 61, 3) := by decide +kernel
theorem dX6_newName_26 : decode cX6_newName 26 = .ok (.ireturn, 1) := by decide +kernel
theorem dX6_newName_27 : decode cX6_newName 27 = .ok (.aload_n 0, 1) := by decide +kernel
theorem dX6_newName_28 : decode cX6_newName 28 = .ok (.getfield 9, 3) := by decide +kernel
theorem dX6_newName_31 : decode cX6_newName 31 = .ok (.iload_n 1, 1) := by decide +kernel
theorem dX6_newName_32 : decode cX6_newName 32 = .ok (.aload_n 0, 1) := by decide +kernel
theorem dX6_newName_33 : decode cX6_newName 33 = .ok (.invokevirtual 51, 3) := by decide +kernel
theorem dX6_newName_36 : decode cX6_newName 36 = .ok (.iastore, 1) := by decide +kernel
theorem dX6_newName_37 : decode cX6_newName 37 = .ok (.aload_n 0, 1) := by decide +kernel
theorem dX6_newName_38 : decode cX6_newName 38 = .ok (.dup, 1) := by decide +kernel
theorem dX6_newName_39 : decode cX6_newName 39 = .ok (.getfield 28, 3) := by decide +kernel
theorem dX6_newName_42 : decode cX6_newName 42 = .ok (.iconst 1, 1) := by decide +kernel
theorem dX6_newName_43 : decode cX6_newName 43 = .ok (.iadd, 1) := by decide +kernel
theorem dX6_newName_44 : decode cX6_newName 44 = .ok (.putfield 28, 3) := by decide +kernel
theorem dX6_newName_47 : decode cX6_newName 47 = .ok (.iconst 1, 1) := by decide +kernel
theorem dX6_newName_48 : decode cX6_newName 48 = .ok (.ireturn, 1) := by decide +kernel
theorem dX6_pairLine_0 : decode cX6_pairLine 0 = .ok (.aload_n 0, 1) := by decide +kernel
theorem dX6_pairLine_1 : decode cX6_pairLine 1 = .ok (.getfield 19, 3) := by decide +kernel
theorem dX6_pairLine_4 : decode cX6_pairLine 4 = .ok (.getfield 71, 3) := by decide +kernel
theorem dX6_pairLine_7 : decode cX6_pairLine 7 = .ok (.istore_n 1, 1) := by decide +kernel
theorem dX6_pairLine_8 : decode cX6_pairLine 8 = .ok (.aload_n 0, 1) := by decide +kernel
theorem dX6_pairLine_9 : decode cX6_pairLine 9 = .ok (.dup, 1) := by decide +kernel
theorem dX6_pairLine_10 : decode cX6_pairLine 10 = .ok (.getfield 28, 3) := by decide +kernel
theorem dX6_pairLine_13 : decode cX6_pairLine 13 = .ok (.iconst 1, 1) := by decide +kernel
theorem dX6_pairLine_14 : decode cX6_pairLine 14 = .ok (.iadd, 1) := by decide +kernel
theorem dX6_pairLine_15 : decode cX6_pairLine 15 = .ok (.putfield 28, 3) := by decide +kernel
theorem dX6_pairLine_18 : decode cX6_pairLine 18 = .ok (.aload_n 0, 1) := by decide +kernel
theorem dX6_pairLine_19 : decode cX6_pairLine 19 = .ok (.aload_n 0, 1) := by decide +kernel
theorem dX6_pairLine_20 : decode cX6_pairLine 20 = .ok (.getfield 19, 3) := by decide +kernel
theorem dX6_pairLine_23 : decode cX6_pairLine 23 = .ok (.getfield 119, 3) := by decide +kernel
theorem dX6_pairLine_26 : decode cX6_pairLine 26 = .ok (.iload_n 1, 1) := by decide +kernel
theorem dX6_pairLine_27 : decode cX6_pairLine 27 = .ok (.iconst (-1), 1) := by decide +kernel
theorem dX6_pairLine_28 : decode cX6_pairLine 28 = .ok (.invokevirtual 122, 3) := by decide +kernel
theorem dX6_pairLine_31 : decode cX6_pairLine 31 = .ok (.ifCond .eq 104, 3) := by decide +kernel
theorem dX6_pairLine_34 : decode cX6_pairLine 34 = .ok (.aload_n 0, 1) := by decide +kernel
theorem dX6_pairLine_35 : decode cX6_pairLine 35 = .ok (.aload_n 0, 1) := by decide +kernel
theorem dX6_pairLine_36 : decode cX6_pairLine 36 = .ok (.getfield 19, 3) := by decide +kernel
theorem dX6_pairLine_39 : decode cX6_pairLine 39 = .ok (.getfield 126, 3) := by decide +kernel
theorem dX6_pairLine_42 : decode cX6_pairLine 42 = .ok (.iload_n 1, 1) := by decide +kernel
theorem dX6_pairLine_43 : decode cX6_pairLine 43 = .ok (.iconst 1, 1) := by decide +kernel
theorem dX6_pairLine_44 : decode cX6_pairLine 44 = .ok (.bipush 20, 2) := by decide +kernel
theorem dX6_pairLine_46 : decode cX6_pairLine 46 = .ok (.invokevirtual 95, 3) := by decide +kernel
theorem dX6_pairLine_49 : decode cX6_pairLine 49 = .ok (.ifCond .eq 86, 3) := by decide +kernel
theorem dX6_pairLine_52 : decode cX6_pairLine 52 = .ok (.aload_n 0, 1) := by decide +kernel
theorem dX6_pairLine_53 : decode cX6_pairLine 53 = .ok (.aload_n 0, 1) := by decide +kernel
theorem dX6_pairLine_54 : decode cX6_pairLine 54 = .ok (.getfield 19, 3) := by decide +kernel
theorem dX6_pairLine_57 : decode cX6_pairLine 57 = .ok (.getfield 129, 3) := by decide +kernel
theorem dX6_pairLine_60 : decode cX6_pairLine 60 = .ok (.iload_n 1, 1) := by decide +kernel
theorem dX6_pairLine_61 : decode cX6_pairLine 61 = .ok (.aload_n 0, 1) := by decide +kernel
theorem dX6_pairLine_62 : decode cX6_pairLine 62 = .ok (.getfield 19, 3) := by decide +kernel
theorem dX6_pairLine_65 : decode cX6_pairLine 65 = .ok (.getfield 119, 3) := by decide +kernel
theorem dX6_pairLine_68 : decode cX6_pairLine 68 = .ok (.iload_n 1, 1) := by decide +kernel
theorem dX6_pairLine_69 : decode cX6_pairLine 69 = .ok (.iaload, 1) := by decide +kernel
theorem dX6_pairLine_70 : decode cX6_pairLine 70 = .ok (.invokevirtual 122, 3) := by decide +kernel
theorem dX6_pairLine_73 : decode cX6_pairLine 73 = .ok (.ifCond .eq 62, 3) := by decide +kernel
theorem dX6_pairLine_76 : decode cX6_pairLine 76 = .ok (.aload_n 0, 1) := by decide +kernel
theorem dX6_pairLine_77 : decode cX6_pairLine 77 = .ok (.aload_n 0, 1) := by decide +kernel
theorem dX6_pairLine_78 : decode cX6_pairLine 78 = .ok (.getfield 19, 3) := by decide +kernel
theorem dX6_pairLine_81 : decode cX6_pairLine 81 = .ok (.getfield 132, 3) := by decide +kernel
theorem dX6_pairLine_84 : decode cX6_pairLine 84 = .ok (.iload_n 1, 1) := by decide +kernel
theorem dX6_pairLine_85 : decode cX6_pairLine 85 = .ok (.iconst 1, 1) := by decide +kernel
theorem dX6_pairLine_86 : decode cX6_pairLine 86 = .ok (.bipush 20, 2) := by decide +kernel
theorem dX6_pairLine_88 : decode cX6_pairLine 88 = .ok (.invokevirtual 95, 3) := by decide +kernel
theorem dX6_pairLine_91 : decode cX6_pairLine 91 = .ok (.ifCond .eq 44, 3) := by decide +kernel
theorem dX6_pairLine_94 : decode cX6_pairLine 94 = .ok (.aload_n 0, 1) := by decide +kernel
theorem dX6_pairLine_95 : decode cX6_pairLine 95 = .ok (.bipush 108, 2) := by decide +kernel
theorem dX6_pairLine_97 : decode cX6_pairLine 97 = .ok (.invokevirtual 89, 3) := by decide +kernel
theorem dX6_pairLine_100 : decode cX6_pairLine 100 = .ok (.ifCond .eq 35, 3) := by decide +kernel
theorem dX6_pairLine_103 : decode cX6_pairLine 103 = .ok (.aload_n 0, 1) := by decide +kernel
theorem dX6_pairLine_104 : decode cX6_pairLine 104 = .ok (.aload_n 0, 1) := by decide +kernel
theorem dX6_pairLine_105 : decode cX6_pairLine 105 = .ok (.getfield 19, 3) := by decide +kernel
theorem dX6_pairLine_108 : decode cX6_pairLine 108 = .ok (.getfield 135, 3) := by decide +kernel
theorem dX6_pairLine_111 : decode cX6_pairLine 111 = .ok (.iload_n 1, 1) := by decide +kernel
theorem dX6_pairLine_112 : decode cX6_pairLine 112 = .ok (.iconst 0, 1) := by decide +kernel
theorem dX6_pairLine_113 : decode cX6_pairLine 113 = .ok (.sipush 9999, 3) := by decide +kernel
theorem dX6_pairLine_116 : decode cX6_pairLine 116 = .ok (.invokevirtual 95, 3) := by decide +kernel
theorem dX6_pairLine_119 : decode cX6_pairLine 119 = .ok (.ifCond .eq 16, 3) := by decide +kernel
theorem dX6_pairLine_122 : decode cX6_pairLine 122 = .ok (.aload_n 0, 1) := by decide +kernel
theorem dX6_pairLine_123 : decode cX6_pairLine 123 = .ok (.bipush 59, 2) := by decide +kernel
theorem dX6_pairLine_125 : decode cX6_pairLine 125 = .ok (.invokevirtual 89, 3) := by decide +kernel
theorem dX6_pairLine_128 : decode cX6_pairLine 128 = .ok (.ifCond .eq 7, 3) := by decide +kernel
theorem dX6_pairLine_131 : decode cX6_pairLine 131 = .ok (.iconst 1, 1) := by decide +kernel
theorem dX6_pairLine_132 : decode cX6_pairLine 132 = .ok (.goto 4, 3) := by decide +kernel
theorem dX6_pairLine_135 : decode cX6_pairLine 135 = .ok (.iconst 0, 1) := by decide +kernel
theorem dX6_pairLine_136 : decode cX6_pairLine 136 = .ok (.istore_n 2, 1) := by decide +kernel
theorem dX6_pairLine_137 : decode cX6_pairLine 137 = .ok (.aload_n 0, 1) := by decide +kernel
theorem dX6_pairLine_138 : decode cX6_pairLine 138 = .ok (.getfield 19, 3) := by decide +kernel
theorem dX6_pairLine_141 : decode cX6_pairLine 141 = .ok (.dup, 1) := by decide +kernel
theorem dX6_pairLine_142 : decode cX6_pairLine 142 = .ok (.getfield 71, 3) := by decide +kernel
theorem dX6_pairLine_145 : decode cX6_pairLine 145 = .ok (.iload_n 2, 1) := by decide +kernel
theorem dX6_pairLine_146 : decode cX6_pairLine 146 = .ok (.ifCond .eq 7, 3) := by decide +kernel
theorem dX6_pairLine_149 : decode cX6_pairLine 149 = .ok (.iconst 1, 1) := by decide +kernel
theorem dX6_pairLine_150 : decode cX6_pairLine 150 = .ok (.goto 4, 3) := by decide +kernel
theorem dX6_pairLine_153 : decode cX6_pairLine 153 = .ok (.iconst 0, 1) := by decide +kernel
theorem dX6_pairLine_154 : decode cX6_pairLine 154 = .ok (.iadd, 1) := by decide +kernel
theorem dX6_pairLine_155 : decode cX6_pairLine 155 = .ok (.putfield 71, 3) := by decide +kernel
theorem dX6_pairLine_158 : decode cX6_pairLine 158 = .ok (.iload_n 2, 1) := by decide +kernel
theorem dX6_pairLine_159 : decode cX6_pairLine 159 = .ok (.ireturn, 1) := by decide +kernel
theorem dX6_toldName_0 : decode cX6_toldName 0 = .ok (.aload_n 0, 1) := by decide +kernel
theorem dX6_toldName_1 : decode cX6_toldName 1 = .ok (.invokevirtual 113, 3) := by decide +kernel
theorem dX6_toldName_4 : decode cX6_toldName 4 = .ok (.ifCond .ne 9, 3) := by decide +kernel
theorem dX6_toldName_7 : decode cX6_toldName 7 = .ok (.aload_n 0, 1) := by decide +kernel
theorem dX6_toldName_8 : decode cX6_toldName 8 = .ok (.iconst 1, 1) := by decide +kernel
theorem dX6_toldName_9 : decode cX6_toldName 9 = .ok (.invokevirtual 61, 3) := by decide +kernel
theorem dX6_toldName_12 : decode cX6_toldName 12 = .ok (.ireturn, 1) := by decide +kernel
theorem dX6_toldName_13 : decode cX6_toldName 13 = .ok (.aload_n 0, 1) := by decide +kernel
theorem dX6_toldName_14 : decode cX6_toldName 14 = .ok (.invokevirtual 116, 3) := by decide +kernel
theorem dX6_toldName_17 : decode cX6_toldName 17 = .ok (.istore 4, 2) := by decide +kernel
theorem dX6_toldName_19 : decode cX6_toldName 19 = .ok (.iload 4, 2) := by decide +kernel
theorem dX6_toldName_21 : decode cX6_toldName 21 = .ok (.iconst (-1), 1) := by decide +kernel
theorem dX6_toldName_22 : decode cX6_toldName 22 = .ok (.if_icmp .ne 9, 3) := by decide +kernel
theorem dX6_toldName_25 : decode cX6_toldName 25 = .ok (.aload_n 0, 1) := by decide +kernel
theorem dX6_toldName_26 : decode cX6_toldName 26 = .ok (.iconst 2, 1) := by decide +kernel
theorem dX6_toldName_27 : decode cX6_toldName 27 = .ok (.invokevirtual 61, 3) := by decide +kernel
theorem dX6_toldName_30 : decode cX6_toldName 30 = .ok (.ireturn, 1) := by decide +kernel
theorem dX6_toldName_31 : decode cX6_toldName 31 = .ok (.iload 4, 2) := by decide +kernel
theorem dX6_toldName_33 : decode cX6_toldName 33 = .ok (.iload_n 3, 1) := by decide +kernel
theorem dX6_toldName_34 : decode cX6_toldName 34 = .ok (.if_icmp .ne 9, 3) := by decide +kernel
theorem dX6_toldName_37 : decode cX6_toldName 37 = .ok (.aload_n 0, 1) := by decide +kernel
theorem dX6_toldName_38 : decode cX6_toldName 38 = .ok (.iconst 3, 1) := by decide +kernel
theorem dX6_toldName_39 : decode cX6_toldName 39 = .ok (.invokevirtual 61, 3) := by decide +kernel
theorem dX6_toldName_42 : decode cX6_toldName 42 = .ok (.ireturn, 1) := by decide +kernel
theorem dX6_toldName_43 : decode cX6_toldName 43 = .ok (.aload_n 1, 1) := by decide +kernel
theorem dX6_toldName_44 : decode cX6_toldName 44 = .ok (.iload_n 2, 1) := by decide +kernel
theorem dX6_toldName_45 : decode cX6_toldName 45 = .ok (.iload 4, 2) := by decide +kernel
theorem dX6_toldName_47 : decode cX6_toldName 47 = .ok (.iastore, 1) := by decide +kernel
theorem dX6_toldName_48 : decode cX6_toldName 48 = .ok (.aload_n 0, 1) := by decide +kernel
theorem dX6_toldName_49 : decode cX6_toldName 49 = .ok (.dup, 1) := by decide +kernel
theorem dX6_toldName_50 : decode cX6_toldName 50 = .ok (.getfield 28, 3) := by decide +kernel
theorem dX6_toldName_53 : decode cX6_toldName 53 = .ok (.iconst 1, 1) := by decide +kernel
theorem dX6_toldName_54 : decode cX6_toldName 54 = .ok (.iadd, 1) := by decide +kernel
theorem dX6_toldName_55 : decode cX6_toldName 55 = .ok (.putfield 28, 3) := by decide +kernel
theorem dX6_toldName_58 : decode cX6_toldName 58 = .ok (.iconst 1, 1) := by decide +kernel
theorem dX6_toldName_59 : decode cX6_toldName 59 = .ok (.ireturn, 1) := by decide +kernel
theorem dX6_setLine_0 : decode cX6_setLine 0 = .ok (.aload_n 0, 1) := by decide +kernel
theorem dX6_setLine_1 : decode cX6_setLine 1 = .ok (.dup, 1) := by decide +kernel
theorem dX6_setLine_2 : decode cX6_setLine 2 = .ok (.getfield 28, 3) := by decide +kernel
theorem dX6_setLine_5 : decode cX6_setLine 5 = .ok (.iconst 1, 1) := by decide +kernel
theorem dX6_setLine_6 : decode cX6_setLine 6 = .ok (.iadd, 1) := by decide +kernel
theorem dX6_setLine_7 : decode cX6_setLine 7 = .ok (.putfield 28, 3) := by decide +kernel
theorem dX6_setLine_10 : decode cX6_setLine 10 = .ok (.aload_n 0, 1) := by decide +kernel
theorem dX6_setLine_11 : decode cX6_setLine 11 = .ok (.invokevirtual 43, 3) := by decide +kernel
theorem dX6_setLine_14 : decode cX6_setLine 14 = .ok (.bipush 114, 2) := by decide +kernel
theorem dX6_setLine_16 : decode cX6_setLine 16 = .ok (.isub, 1) := by decide +kernel
theorem dX6_setLine_17 : decode cX6_setLine 17 = .ok (.istore_n 1, 1) := by decide +kernel
theorem dX6_setLine_18 : decode cX6_setLine 18 = .ok (.iload_n 1, 1) := by decide +kernel
theorem dX6_setLine_19 : decode cX6_setLine 19 = .ok (.ifCond .lt 9, 3) := by decide +kernel
theorem dX6_setLine_22 : decode cX6_setLine 22 = .ok (.iload_n 1, 1) := by decide +kernel
theorem dX6_setLine_23 : decode cX6_setLine 23 = .ok (.bipush 11, 2) := by decide +kernel
theorem dX6_setLine_25 : decode cX6_setLine 25 = .ok (.if_icmp .lt 9, 3) := by decide +kernel
theorem dX6_setLine_28 : decode cX6_setLine 28 = .ok (.aload_n 0, 1) := by decide +kernel
theorem dX6_setLine_29 : decode cX6_setLine 29 = .ok (.iconst 1, 1) := by decide +kernel
theorem dX6_setLine_30 : decode cX6_setLine 30 = .ok (.invokevirtual 61, 3) := by decide +kernel
theorem dX6_setLine_33 : decode cX6_setLine 33 = .ok (.ireturn, 1) := by decide +kernel
theorem dX6_setLine_34 : decode cX6_setLine 34 = .ok (.aload_n 0, 1) := by decide +kernel
theorem dX6_setLine_35 : decode cX6_setLine 35 = .ok (.getfield 32, 3) := by decide +kernel
theorem dX6_setLine_38 : decode cX6_setLine 38 = .ok (.iload_n 1, 1) := by decide +kernel
theorem dX6_setLine_39 : decode cX6_setLine 39 = .ok (.ishr, 1) := by decide +kernel
theorem dX6_setLine_40 : decode cX6_setLine 40 = .ok (.iconst 1, 1) := by decide +kernel
theorem dX6_setLine_41 : decode cX6_setLine 41 = .ok (.iand, 1) := by decide +kernel
theorem dX6_setLine_42 : decode cX6_setLine 42 = .ok (.ifCond .eq 9, 3) := by decide +kernel
theorem dX6_setLine_45 : decode cX6_setLine 45 = .ok (.aload_n 0, 1) := by decide +kernel
theorem dX6_setLine_46 : decode cX6_setLine 46 = .ok (.iconst 3, 1) := by decide +kernel
theorem dX6_setLine_47 : decode cX6_setLine 47 = .ok (.invokevirtual 61, 3) := by decide +kernel
theorem dX6_setLine_50 : decode cX6_setLine 50 = .ok (.ireturn, 1) := by decide +kernel
theorem dX6_setLine_51 : decode cX6_setLine 51 = .ok (.aload_n 0, 1) := by decide +kernel
theorem dX6_setLine_52 : decode cX6_setLine 52 = .ok (.dup, 1) := by decide +kernel
theorem dX6_setLine_53 : decode cX6_setLine 53 = .ok (.getfield 32, 3) := by decide +kernel
theorem dX6_setLine_56 : decode cX6_setLine 56 = .ok (.iconst 1, 1) := by decide +kernel
theorem dX6_setLine_57 : decode cX6_setLine 57 = .ok (.iload_n 1, 1) := by decide +kernel
theorem dX6_setLine_58 : decode cX6_setLine 58 = .ok (.ishl, 1) := by decide +kernel
theorem dX6_setLine_59 : decode cX6_setLine 59 = .ok (.ior, 1) := by decide +kernel
theorem dX6_setLine_60 : decode cX6_setLine 60 = .ok (.putfield 32, 3) := by decide +kernel
theorem dX6_setLine_63 : decode cX6_setLine 63 = .ok (.aload_n 0, 1) := by decide +kernel
theorem dX6_setLine_64 : decode cX6_setLine 64 = .ok (.dup, 1) := by decide +kernel
theorem dX6_setLine_65 : decode cX6_setLine 65 = .ok (.getfield 28, 3) := by decide +kernel
theorem dX6_setLine_68 : decode cX6_setLine 68 = .ok (.iconst 1, 1) := by decide +kernel
theorem dX6_setLine_69 : decode cX6_setLine 69 = .ok (.iadd, 1) := by decide +kernel
theorem dX6_setLine_70 : decode cX6_setLine 70 = .ok (.putfield 28, 3) := by decide +kernel
theorem dX6_setLine_73 : decode cX6_setLine 73 = .ok (.aload_n 0, 1) := by decide +kernel
theorem dX6_setLine_74 : decode cX6_setLine 74 = .ok (.aload_n 0, 1) := by decide +kernel
theorem dX6_setLine_75 : decode cX6_setLine 75 = .ok (.getfield 19, 3) := by decide +kernel
theorem dX6_setLine_78 : decode cX6_setLine 78 = .ok (.getfield 138, 3) := by decide +kernel
theorem dX6_setLine_81 : decode cX6_setLine 81 = .ok (.iload_n 1, 1) := by decide +kernel
theorem dX6_setLine_82 : decode cX6_setLine 82 = .ok (.getstatic 141, 3) := by decide +kernel
theorem dX6_setLine_85 : decode cX6_setLine 85 = .ok (.iload_n 1, 1) := by decide +kernel
theorem dX6_setLine_86 : decode cX6_setLine 86 = .ok (.iaload, 1) := by decide +kernel
theorem dX6_setLine_87 : decode cX6_setLine 87 = .ok (.getstatic 144, 3) := by decide +kernel
theorem dX6_setLine_90 : decode cX6_setLine 90 = .ok (.iload_n 1, 1) := by decide +kernel
theorem dX6_setLine_91 : decode cX6_setLine 91 = .ok (.iaload, 1) := by decide +kernel
theorem dX6_setLine_92 : decode cX6_setLine 92 = .ok (.invokevirtual 95, 3) := by decide +kernel
theorem dX6_setLine_95 : decode cX6_setLine 95 = .ok (.ifCond .eq 16, 3) := by decide +kernel
theorem dX6_setLine_98 : decode cX6_setLine 98 = .ok (.aload_n 0, 1) := by decide +kernel
theorem dX6_setLine_99 : decode cX6_setLine 99 = .ok (.bipush 59, 2) := by decide +kernel
theorem dX6_setLine_101 : decode cX6_setLine 101 = .ok (.invokevirtual 89, 3) := by decide +kernel
theorem dX6_setLine_104 : decode cX6_setLine 104 = .ok (.ifCond .eq 7, 3) := by decide +kernel
theorem dX6_setLine_107 : decode cX6_setLine 107 = .ok (.iconst 1, 1) := by decide +kernel
theorem dX6_setLine_108 : decode cX6_setLine 108 = .ok (.goto 4, 3) := by decide +kernel
theorem dX6_setLine_111 : decode cX6_setLine 111 = .ok (.iconst 0, 1) := by decide +kernel
theorem dX6_setLine_112 : decode cX6_setLine 112 = .ok (.ireturn, 1) := by decide +kernel
theorem dX6_speakLine_0 : decode cX6_speakLine 0 = .ok (.aload_n 0, 1) := by decide +kernel
theorem dX6_speakLine_1 : decode cX6_speakLine 1 = .ok (.dup, 1) := by decide +kernel
theorem dX6_speakLine_2 : decode cX6_speakLine 2 = .ok (.getfield 28, 3) := by decide +kernel
theorem dX6_speakLine_5 : decode cX6_speakLine 5 = .ok (.iconst 1, 1) := by decide +kernel
theorem dX6_speakLine_6 : decode cX6_speakLine 6 = .ok (.iadd, 1) := by decide +kernel
theorem dX6_speakLine_7 : decode cX6_speakLine 7 = .ok (.putfield 28, 3) := by decide +kernel
theorem dX6_speakLine_10 : decode cX6_speakLine 10 = .ok (.aload_n 0, 1) := by decide +kernel
theorem dX6_speakLine_11 : decode cX6_speakLine 11 = .ok (.iconst 0, 1) := by decide +kernel
theorem dX6_speakLine_12 : decode cX6_speakLine 12 = .ok (.iconst 0, 1) := by decide +kernel
theorem dX6_speakLine_13 : decode cX6_speakLine 13 = .ok (.invokevirtual 147, 3) := by decide +kernel
theorem dX6_speakLine_16 : decode cX6_speakLine 16 = .ok (.ifCond .eq 12, 3) := by decide +kernel
theorem dX6_speakLine_19 : decode cX6_speakLine 19 = .ok (.aload_n 0, 1) := by decide +kernel
theorem dX6_speakLine_20 : decode cX6_speakLine 20 = .ok (.bipush 59, 2) := by decide +kernel
theorem dX6_speakLine_22 : decode cX6_speakLine 22 = .ok (.invokevirtual 89, 3) := by decide +kernel
theorem dX6_speakLine_25 : decode cX6_speakLine 25 = .ok (.ifCond .ne 5, 3) := by decide +kernel
theorem dX6_speakLine_28 : decode cX6_speakLine 28 = .ok (.iconst 0, 1) := by decide +kernel
theorem dX6_speakLine_29 : decode cX6_speakLine 29 = .ok (.ireturn, 1) := by decide +kernel
theorem dX6_speakLine_30 : decode cX6_speakLine 30 = .ok (.aload_n 0, 1) := by decide +kernel
theorem dX6_speakLine_31 : decode cX6_speakLine 31 = .ok (.getfield 19, 3) := by decide +kernel
theorem dX6_speakLine_34 : decode cX6_speakLine 34 = .ok (.invokevirtual 150, 3) := by decide +kernel
theorem dX6_speakLine_37 : decode cX6_speakLine 37 = .ok (.iconst 1, 1) := by decide +kernel
theorem dX6_speakLine_38 : decode cX6_speakLine 38 = .ok (.ireturn, 1) := by decide +kernel
theorem dX6_chain_0 : decode cX6_chain 0 = .ok (.iload_n 1, 1) := by decide +kernel
theorem dX6_chain_1 : decode cX6_chain 1 = .ok (.iconst 4, 1) := by decide +kernel
theorem dX6_chain_2 : decode cX6_chain 2 = .ok (.if_icmp .lt 9, 3) := by decide +kernel
theorem dX6_chain_5 : decode cX6_chain 5 = .ok (.aload_n 0, 1) := by decide +kernel
theorem dX6_chain_6 : decode cX6_chain 6 = .ok (.iload_n 2, 1) := by decide +kernel
theorem dX6_chain_7 : decode cX6_chain 7 = .ok (.invokevirtual 153, 3) := by decide +kernel
theorem dX6_chain_10 : decode cX6_chain 10 = .ok (.ireturn, 1) := by decide +kernel
theorem dX6_chain_11 : decode cX6_chain 11 = .ok (.aload_n 0, 1) := by decide +kernel
theorem dX6_chain_12 : decode cX6_chain 12 = .ok (.iload_n 1, 1) := by decide +kernel
theorem dX6_chain_13 : decode cX6_chain 13 = .ok (.iconst 1, 1) := by decide +kernel
theorem dX6_chain_14 : decode cX6_chain 14 = .ok (.iadd, 1) := by decide +kernel
theorem dX6_chain_15 : decode cX6_chain 15 = .ok (.iload_n 2, 1) := by decide +kernel
theorem dX6_chain_16 : decode cX6_chain 16 = .ok (.invokevirtual 147, 3) := by decide +kernel
theorem dX6_chain_19 : decode cX6_chain 19 = .ok (.ifCond .ne 5, 3) := by decide +kernel
theorem dX6_chain_22 : decode cX6_chain 22 = .ok (.iconst 0, 1) := by decide +kernel
theorem dX6_chain_23 : decode cX6_chain 23 = .ok (.ireturn, 1) := by decide +kernel
theorem dX6_chain_24 : decode cX6_chain 24 = .ok (.iload_n 1, 1) := by decide +kernel
theorem dX6_chain_25 : decode cX6_chain 25 = .ok (.iconst 1, 1) := by decide +kernel
theorem dX6_chain_26 : decode cX6_chain 26 = .ok (.if_icmp .ne 7, 3) := by decide +kernel
theorem dX6_chain_29 : decode cX6_chain 29 = .ok (.iconst 1, 1) := by decide +kernel
theorem dX6_chain_30 : decode cX6_chain 30 = .ok (.goto 6, 3) := by decide +kernel
theorem dX6_chain_33 : decode cX6_chain 33 = .ok (.sipush 1000, 3) := by decide +kernel
theorem dX6_chain_36 : decode cX6_chain 36 = .ok (.istore_n 3, 1) := by decide +kernel
theorem dX6_chain_37 : decode cX6_chain 37 = .ok (.iconst 0, 1) := by decide +kernel
theorem dX6_chain_38 : decode cX6_chain 38 = .ok (.istore 4, 2) := by decide +kernel
theorem dX6_chain_40 : decode cX6_chain 40 = .ok (.iload 4, 2) := by decide +kernel
theorem dX6_chain_42 : decode cX6_chain 42 = .ok (.iload_n 3, 1) := by decide +kernel
theorem dX6_chain_43 : decode cX6_chain 43 = .ok (.if_icmp .ge 59, 3) := by decide +kernel
theorem dX6_chain_46 : decode cX6_chain 46 = .ok (.aload_n 0, 1) := by decide +kernel
theorem dX6_chain_47 : decode cX6_chain 47 = .ok (.invokevirtual 43, 3) := by decide +kernel
theorem dX6_chain_50 : decode cX6_chain 50 = .ok (.invokestatic 156, 3) := by decide +kernel
theorem dX6_chain_53 : decode cX6_chain 53 = .ok (.iload_n 1, 1) := by decide +kernel
theorem dX6_chain_54 : decode cX6_chain 54 = .ok (.if_icmp .ne 48, 3) := by decide +kernel
theorem dX6_chain_57 : decode cX6_chain 57 = .ok (.aload_n 0, 1) := by decide +kernel
theorem dX6_chain_58 : decode cX6_chain 58 = .ok (.invokevirtual 43, 3) := by decide +kernel
theorem dX6_chain_61 : decode cX6_chain 61 = .ok (.istore 5, 2) := by decide +kernel
theorem dX6_chain_63 : decode cX6_chain 63 = .ok (.aload_n 0, 1) := by decide +kernel
theorem dX6_chain_64 : decode cX6_chain 64 = .ok (.dup, 1) := by decide +kernel
theorem dX6_chain_65 : decode cX6_chain 65 = .ok (.getfield 28, 3) := by decide +kernel
theorem dX6_chain_68 : decode cX6_chain 68 = .ok (.iconst 1, 1) := by decide +kernel
theorem dX6_chain_69 : decode cX6_chain 69 = .ok (.iadd, 1) := by decide +kernel
theorem dX6_chain_70 : decode cX6_chain 70 = .ok (.putfield 28, 3) := by decide +kernel
theorem dX6_chain_73 : decode cX6_chain 73 = .ok (.aload_n 0, 1) := by decide +kernel
theorem dX6_chain_74 : decode cX6_chain 74 = .ok (.iload_n 1, 1) := by decide +kernel
theorem dX6_chain_75 : decode cX6_chain 75 = .ok (.iconst 1, 1) := by decide +kernel
theorem dX6_chain_76 : decode cX6_chain 76 = .ok (.iadd, 1) := by decide +kernel
theorem dX6_chain_77 : decode cX6_chain 77 = .ok (.iload_n 2, 1) := by decide +kernel
theorem dX6_chain_78 : decode cX6_chain 78 = .ok (.invokevirtual 147, 3) := by decide +kernel
theorem dX6_chain_81 : decode cX6_chain 81 = .ok (.ifCond .ne 5, 3) := by decide +kernel
theorem dX6_chain_84 : decode cX6_chain 84 = .ok (.iconst 0, 1) := by decide +kernel
theorem dX6_chain_85 : decode cX6_chain 85 = .ok (.ireturn, 1) := by decide +kernel
theorem dX6_chain_86 : decode cX6_chain 86 = .ok (.aload_n 0, 1) := by decide +kernel
theorem dX6_chain_87 : decode cX6_chain 87 = .ok (.getfield 19, 3) := by decide +kernel
theorem dX6_chain_90 : decode cX6_chain 90 = .ok (.iload 5, 2) := by decide +kernel
theorem dX6_chain_92 : decode cX6_chain 92 = .ok (.ineg, 1) := by decide +kernel
theorem dX6_chain_93 : decode cX6_chain 93 = .ok (.invokevirtual 159, 3) := by decide +kernel
theorem dX6_chain_96 : decode cX6_chain 96 = .ok (.iinc 4 1, 3) := by decide +kernel
theorem dX6_chain_99 : decode cX6_chain 99 = .ok (.goto (-59), 3) := by decide +kernel
theorem dX6_chain_102 : decode cX6_chain 102 = .ok (.iconst 1, 1) := by decide +kernel
theorem dX6_chain_103 : decode cX6_chain 103 = .ok (.ireturn, 1) := by decide +kernel
theorem dX6_levelOf_0 : decode cX6_levelOf 0 = .ok (.iload_n 0, 1) := by decide +kernel
theorem dX6_levelOf_1 : decode cX6_levelOf 1 = .ok (.lookupswitch 75 #[(42, 73), (43, 71), (45, 71), (60, 69), (61, 69), (112, 67), (113, 67)], 67) := by decide +kernel
theorem dX6_levelOf_68 : decode cX6_levelOf 68 = .ok (.iconst 0, 1) := by decide +kernel
theorem dX6_levelOf_69 : decode cX6_levelOf 69 = .ok (.ireturn, 1) := by decide +kernel
theorem dX6_levelOf_70 : decode cX6_levelOf 70 = .ok (.iconst 1, 1) := by decide +kernel
theorem dX6_levelOf_71 : decode cX6_levelOf 71 = .ok (.ireturn, 1) := by decide +kernel
theorem dX6_levelOf_72 : decode cX6_levelOf 72 = .ok (.iconst 2, 1) := by decide +kernel
theorem dX6_levelOf_73 : decode cX6_levelOf 73 = .ok (.ireturn, 1) := by decide +kernel
theorem dX6_levelOf_74 : decode cX6_levelOf 74 = .ok (.iconst 3, 1) := by decide +kernel
theorem dX6_levelOf_75 : decode cX6_levelOf 75 = .ok (.ireturn, 1) := by decide +kernel
theorem dX6_levelOf_76 : decode cX6_levelOf 76 = .ok (.iconst (-1), 1) := by decide +kernel
theorem dX6_levelOf_77 : decode cX6_levelOf 77 = .ok (.ireturn, 1) := by decide +kernel
theorem dX6_part_0 : decode cX6_part 0 = .ok (.aload_n 0, 1) := by decide +kernel
theorem dX6_part_1 : decode cX6_part 1 = .ok (.invokevirtual 43, 3) := by decide +kernel
theorem dX6_part_4 : decode cX6_part 4 = .ok (.istore_n 2, 1) := by decide +kernel
theorem dX6_part_5 : decode cX6_part 5 = .ok (.iload_n 2, 1) := by decide +kernel
theorem dX6_part_6 : decode cX6_part 6 = .ok (.sipush 1000, 3) := by decide +kernel
theorem dX6_part_9 : decode cX6_part 9 = .ok (.if_icmp .lt 7, 3) := by decide +kernel
theorem dX6_part_12 : decode cX6_part 12 = .ok (.iconst 1, 1) := by decide +kernel
theorem dX6_part_13 : decode cX6_part 13 = .ok (.goto 4, 3) := by decide +kernel
theorem dX6_part_16 : decode cX6_part 16 = .ok (.iconst 0, 1) := by decide +kernel
theorem dX6_part_17 : decode cX6_part 17 = .ok (.istore_n 3, 1) := by decide +kernel
theorem dX6_part_18 : decode cX6_part 18 = .ok (.iload_n 2, 1) := by decide +kernel
theorem dX6_part_19 : decode cX6_part 19 = .ok (.bipush 103, 2) := by decide +kernel
theorem dX6_part_21 : decode cX6_part 21 = .ok (.if_icmp .eq 16, 3) := by decide +kernel
theorem dX6_part_24 : decode cX6_part 24 = .ok (.iload_n 2, 1) := by decide +kernel
theorem dX6_part_25 : decode cX6_part 25 = .ok (.bipush 125, 2) := by decide +kernel
theorem dX6_part_27 : decode cX6_part 27 = .ok (.if_icmp .lt 14, 3) := by decide +kernel
theorem dX6_part_30 : decode cX6_part 30 = .ok (.iload_n 2, 1) := by decide +kernel
theorem dX6_part_31 : decode cX6_part 31 = .ok (.sipush 128, 3) := by decide +kernel
theorem dX6_part_34 : decode cX6_part 34 = .ok (.if_icmp .gt 7, 3) := by decide +kernel
theorem dX6_part_37 : decode cX6_part 37 = .ok (.iconst 1, 1) := by decide +kernel
theorem dX6_part_38 : decode cX6_part 38 = .ok (.goto 4, 3) := by decide +kernel
theorem dX6_part_41 : decode cX6_part 41 = .ok (.iconst 0, 1) := by decide +kernel
theorem dX6_part_42 : decode cX6_part 42 = .ok (.istore 4, 2) := by decide +kernel
theorem dX6_part_44 : decode cX6_part 44 = .ok (.iload_n 3, 1) := by decide +kernel
theorem dX6_part_45 : decode cX6_part 45 = .ok (.ifCond .ne 26, 3) := by decide +kernel
theorem dX6_part_48 : decode cX6_part 48 = .ok (.iload 4, 2) := by decide +kernel
theorem dX6_part_50 : decode cX6_part 50 = .ok (.ifCond .ne 21, 3) := by decide +kernel
theorem dX6_part_53 : decode cX6_part 53 = .ok (.iload_n 2, 1) := by decide +kernel
theorem dX6_part_54 : decode cX6_part 54 = .ok (.bipush 111, 2) := by decide +kernel
theorem dX6_part_56 : decode cX6_part 56 = .ok (.if_icmp .eq 15, 3) := by decide +kernel
theorem dX6_part_59 : decode cX6_part 59 = .ok (.iload_n 2, 1) := by decide +kernel
theorem dX6_part_60 : decode cX6_part 60 = .ok (.bipush 40, 2) := by decide +kernel
theorem dX6_part_62 : decode cX6_part 62 = .ok (.if_icmp .eq 9, 3) := by decide +kernel
theorem dX6_part_65 : decode cX6_part 65 = .ok (.aload_n 0, 1) := by decide +kernel
theorem dX6_part_66 : decode cX6_part 66 = .ok (.iconst 1, 1) := by decide +kernel
theorem dX6_part_67 : decode cX6_part 67 = .ok (.invokevirtual 61, 3) := by decide +kernel
theorem dX6_part_70 : decode cX6_part 70 = .ok (.ireturn, 1) := by decide +kernel
theorem dX6_part_71 : decode cX6_part 71 = .ok (.iload_n 1, 1) := by decide +kernel
theorem dX6_part_72 : decode cX6_part 72 = .ok (.iconst 5, 1) := by decide +kernel
theorem dX6_part_73 : decode cX6_part 73 = .ok (.if_icmp .lt 9, 3) := by decide +kernel
theorem dX6_part_76 : decode cX6_part 76 = .ok (.aload_n 0, 1) := by decide +kernel
theorem dX6_part_77 : decode cX6_part 77 = .ok (.iconst 5, 1) := by decide +kernel
theorem dX6_part_78 : decode cX6_part 78 = .ok (.invokevirtual 61, 3) := by decide +kernel
theorem dX6_part_81 : decode cX6_part 81 = .ok (.ireturn, 1) := by decide +kernel
theorem dX6_part_82 : decode cX6_part 82 = .ok (.aload_n 0, 1) := by decide +kernel
theorem dX6_part_83 : decode cX6_part 83 = .ok (.dup, 1) := by decide +kernel
theorem dX6_part_84 : decode cX6_part 84 = .ok (.getfield 28, 3) := by decide +kernel
theorem dX6_part_87 : decode cX6_part 87 = .ok (.iconst 1, 1) := by decide +kernel
theorem dX6_part_88 : decode cX6_part 88 = .ok (.iadd, 1) := by decide +kernel
theorem dX6_part_89 : decode cX6_part 89 = .ok (.putfield 28, 3) := by decide +kernel
theorem dX6_part_92 : decode cX6_part 92 = .ok (.iload_n 2, 1) := by decide +kernel
theorem dX6_part_93 : decode cX6_part 93 = .ok (.bipush 40, 2) := by decide +kernel
theorem dX6_part_95 : decode cX6_part 95 = .ok (.if_icmp .ne 29, 3) := by decide +kernel
theorem dX6_part_98 : decode cX6_part 98 = .ok (.aload_n 0, 1) := by decide +kernel
theorem dX6_part_99 : decode cX6_part 99 = .ok (.iconst 0, 1) := by decide +kernel
theorem dX6_part_100 : decode cX6_part 100 = .ok (.iload_n 1, 1) := by decide +kernel
theorem dX6_part_101 : decode cX6_part 101 = .ok (.iconst 1, 1) := by decide +kernel
theorem dX6_part_102 : decode cX6_part 102 = .ok (.iadd, 1) := by decide +kernel
theorem dX6_part_103 : decode cX6_part 103 = .ok (.invokevirtual 147, 3) := by decide +kernel
theorem dX6_part_106 : decode cX6_part 106 = .ok (.ifCond .eq 16, 3) := by decide +kernel
theorem dX6_part_109 : decode cX6_part 109 = .ok (.aload_n 0, 1) := by decide +kernel
theorem dX6_part_110 : decode cX6_part 110 = .ok (.bipush 41, 2) := by decide +kernel
theorem dX6_part_112 : decode cX6_part 112 = .ok (.invokevirtual 89, 3) := by decide +kernel
theorem dX6_part_115 : decode cX6_part 115 = .ok (.ifCond .eq 7, 3) := by decide +kernel
theorem dX6_part_118 : decode cX6_part 118 = .ok (.iconst 1, 1) := by decide +kernel
theorem dX6_part_119 : decode cX6_part 119 = .ok (.goto 4, 3) := by decide +kernel
theorem dX6_part_122 : decode cX6_part 122 = .ok (.iconst 0, 1) := by decide +kernel
theorem dX6_part_123 : decode cX6_part 123 = .ok (.ireturn, 1) := by decide +kernel
theorem dX6_part_124 : decode cX6_part 124 = .ok (.iload_n 2, 1) := by decide +kernel
theorem dX6_part_125 : decode cX6_part 125 = .ok (.bipush 111, 2) := by decide +kernel
theorem dX6_part_127 : decode cX6_part 127 = .ok (.if_icmp .ne 15, 3) := by decide +kernel
theorem dX6_part_130 : decode cX6_part 130 = .ok (.aload_n 0, 1) := by decide +kernel
theorem dX6_part_131 : decode cX6_part 131 = .ok (.iload_n 1, 1) := by decide +kernel
theorem dX6_part_132 : decode cX6_part 132 = .ok (.iconst 1, 1) := by decide +kernel
theorem dX6_part_133 : decode cX6_part 133 = .ok (.iadd, 1) := by decide +kernel
theorem dX6_part_134 : decode cX6_part 134 = .ok (.invokevirtual 153, 3) := by decide +kernel
theorem dX6_part_137 : decode cX6_part 137 = .ok (.ifCond .ne 5, 3) := by decide +kernel
theorem dX6_part_140 : decode cX6_part 140 = .ok (.iconst 0, 1) := by decide +kernel
theorem dX6_part_141 : decode cX6_part 141 = .ok (.ireturn, 1) := by decide +kernel
theorem dX6_part_142 : decode cX6_part 142 = .ok (.aload_n 0, 1) := by decide +kernel
theorem dX6_part_143 : decode cX6_part 143 = .ok (.getfield 19, 3) := by decide +kernel
theorem dX6_part_146 : decode cX6_part 146 = .ok (.iload_n 3, 1) := by decide +kernel
theorem dX6_part_147 : decode cX6_part 147 = .ok (.ifCond .eq 11, 3) := by decide +kernel
theorem dX6_part_150 : decode cX6_part 150 = .ok (.iload_n 2, 1) := by decide +kernel
theorem dX6_part_151 : decode cX6_part 151 = .ok (.sipush 1000, 3) := by decide +kernel
theorem dX6_part_154 : decode cX6_part 154 = .ok (.isub, 1) := by decide +kernel
theorem dX6_part_155 : decode cX6_part 155 = .ok (.goto 5, 3) := by decide +kernel
theorem dX6_part_158 : decode cX6_part 158 = .ok (.iload_n 2, 1) := by decide +kernel
theorem dX6_part_159 : decode cX6_part 159 = .ok (.ineg, 1) := by decide +kernel
theorem dX6_part_160 : decode cX6_part 160 = .ok (.invokevirtual 159, 3) := by decide +kernel
theorem dX6_part_163 : decode cX6_part 163 = .ok (.iconst 1, 1) := by decide +kernel
theorem dX6_part_164 : decode cX6_part 164 = .ok (.ireturn, 1) := by decide +kernel
theorem dX7_init_0 : decode cX7_init 0 = .ok (.aload_n 0, 1) := by decide +kernel
theorem dX7_init_1 : decode cX7_init 1 = .ok (.invokespecial 3, 3) := by decide +kernel
theorem dX7_init_4 : decode cX7_init 4 = .ok (.aload_n 0, 1) := by decide +kernel
theorem dX7_init_5 : decode cX7_init 5 = .ok (.bipush 12, 2) := by decide +kernel
theorem dX7_init_7 : decode cX7_init 7 = .ok (.newarray .int, 2) := by decide +kernel
theorem dX7_init_9 : decode cX7_init 9 = .ok (.putfield 9, 3) := by decide +kernel
theorem dX7_init_12 : decode cX7_init 12 = .ok (.aload_n 0, 1) := by decide +kernel
theorem dX7_init_13 : decode cX7_init 13 = .ok (.bipush 12, 2) := by decide +kernel
theorem dX7_init_15 : decode cX7_init 15 = .ok (.newarray .int, 2) := by decide +kernel
theorem dX7_init_17 : decode cX7_init 17 = .ok (.putfield 15, 3) := by decide +kernel
theorem dX7_init_20 : decode cX7_init 20 = .ok (.aload_n 0, 1) := by decide +kernel
theorem dX7_init_21 : decode cX7_init 21 = .ok (.bipush 12, 2) := by decide +kernel
theorem dX7_init_23 : decode cX7_init 23 = .ok (.newarray .int, 2) := by decide +kernel
theorem dX7_init_25 : decode cX7_init 25 = .ok (.putfield 18, 3) := by decide +kernel
theorem dX7_init_28 : decode cX7_init 28 = .ok (.aload_n 0, 1) := by decide +kernel
theorem dX7_init_29 : decode cX7_init 29 = .ok (.bipush 12, 2) := by decide +kernel
theorem dX7_init_31 : decode cX7_init 31 = .ok (.newarray .int, 2) := by decide +kernel
theorem dX7_init_33 : decode cX7_init 33 = .ok (.putfield 21, 3) := by decide +kernel
theorem dX7_init_36 : decode cX7_init 36 = .ok (.aload_n 0, 1) := by decide +kernel
theorem dX7_init_37 : decode cX7_init 37 = .ok (.bipush 12, 2) := by decide +kernel
theorem dX7_init_39 : decode cX7_init 39 = .ok (.newarray .int, 2) := by decide +kernel
theorem dX7_init_41 : decode cX7_init 41 = .ok (.putfield 24, 3) := by decide +kernel
theorem dX7_init_44 : decode cX7_init 44 = .ok (.aload_n 0, 1) := by decide +kernel
theorem dX7_init_45 : decode cX7_init 45 = .ok (.bipush 8, 2) := by decide +kernel
theorem dX7_init_47 : decode cX7_init 47 = .ok (.newarray .int, 2) := by decide +kernel
theorem dX7_init_49 : decode cX7_init 49 = .ok (.putfield 27, 3) := by decide +kernel
theorem dX7_init_52 : decode cX7_init 52 = .ok (.aload_n 0, 1) := by decide +kernel
theorem dX7_init_53 : decode cX7_init 53 = .ok (.bipush 8, 2) := by decide +kernel
theorem dX7_init_55 : decode cX7_init 55 = .ok (.newarray .int, 2) := by decide +kernel
theorem dX7_init_57 : decode cX7_init 57 = .ok (.putfield 30, 3) := by decide +kernel
theorem dX7_init_60 : decode cX7_init 60 = .ok (.aload_n 0, 1) := by decide +kernel
theorem dX7_init_61 : decode cX7_init 61 = .ok (.bipush 8, 2) := by decide +kernel
theorem dX7_init_63 : decode cX7_init 63 = .ok (.newarray .int, 2) := by decide +kernel
theorem dX7_init_65 : decode cX7_init 65 = .ok (.putfield 33, 3) := by decide +kernel
theorem dX7_init_68 : decode cX7_init 68 = .ok (.aload_n 0, 1) := by decide +kernel
theorem dX7_init_69 : decode cX7_init 69 = .ok (.bipush 8, 2) := by decide +kernel
theorem dX7_init_71 : decode cX7_init 71 = .ok (.newarray .int, 2) := by decide +kernel
theorem dX7_init_73 : decode cX7_init 73 = .ok (.putfield 36, 3) := by decide +kernel
theorem dX7_init_76 : decode cX7_init 76 = .ok (.aload_n 0, 1) := by decide +kernel
theorem dX7_init_77 : decode cX7_init 77 = .ok (.bipush 8, 2) := by decide +kernel
theorem dX7_init_79 : decode cX7_init 79 = .ok (.newarray .int, 2) := by decide +kernel
theorem dX7_init_81 : decode cX7_init 81 = .ok (.putfield 39, 3) := by decide +kernel
theorem dX7_init_84 : decode cX7_init 84 = .ok (.aload_n 0, 1) := by decide +kernel
theorem dX7_init_85 : decode cX7_init 85 = .ok (.sipush 1000, 3) := by decide +kernel
theorem dX7_init_88 : decode cX7_init 88 = .ok (.newarray .int, 2) := by decide +kernel
theorem dX7_init_90 : decode cX7_init 90 = .ok (.putfield 42, 3) := by decide +kernel
theorem dX7_init_93 : decode cX7_init 93 = .ok (.aload_n 0, 1) := by decide +kernel
theorem dX7_init_94 : decode cX7_init 94 = .ok (.iconst 4, 1) := by decide +kernel
theorem dX7_init_95 : decode cX7_init 95 = .ok (.newarray .int, 2) := by decide +kernel
theorem dX7_init_97 : decode cX7_init 97 = .ok (.putfield 45, 3) := by decide +kernel
theorem dX7_init_100 : decode cX7_init 100 = .ok (.aload_n 0, 1) := by decide +kernel
theorem dX7_init_101 : decode cX7_init 101 = .ok (.getstatic 48, 3) := by decide +kernel
theorem dX7_init_104 : decode cX7_init 104 = .ok (.invokevirtual 51, 3) := by decide +kernel
theorem dX7_init_107 : decode cX7_init 107 = .ok (.checkcast 52, 3) := by decide +kernel
theorem dX7_init_110 : decode cX7_init 110 = .ok (.putfield 56, 3) := by decide +kernel
theorem dX7_init_113 : decode cX7_init 113 = .ok (.return_, 1) := by decide +kernel
theorem dX7_clear_0 : decode cX7_clear 0 = .ok (.aload_n 0, 1) := by decide +kernel
theorem dX7_clear_1 : decode cX7_clear 1 = .ok (.iconst 0, 1) := by decide +kernel
theorem dX7_clear_2 : decode cX7_clear 2 = .ok (.putfield 59, 3) := by decide +kernel
theorem dX7_clear_5 : decode cX7_clear 5 = .ok (.aload_n 0, 1) := by decide +kernel
theorem dX7_clear_6 : decode cX7_clear 6 = .ok (.iconst 0, 1) := by decide +kernel
theorem dX7_clear_7 : decode cX7_clear 7 = .ok (.putfield 63, 3) := by decide +kernel
theorem dX7_clear_10 : decode cX7_clear 10 = .ok (.aload_n 0, 1) := by decide +kernel
theorem dX7_clear_11 : decode cX7_clear 11 = .ok (.iconst 0, 1) := by decide +kernel
theorem dX7_clear_12 : decode cX7_clear 12 = .ok (.putfield 66, 3) := by decide +kernel
theorem dX7_clear_15 : decode cX7_clear 15 = .ok (.aload_n 0, 1) := by decide +kernel
theorem dX7_clear_16 : decode cX7_clear 16 = .ok (.iconst 0, 1) := by decide +kernel
theorem dX7_clear_17 : decode cX7_clear 17 = .ok (.putfield 69, 3) := by decide +kernel
theorem dX7_clear_20 : decode cX7_clear 20 = .ok (.aload_n 0, 1) := by decide +kernel
theorem dX7_clear_21 : decode cX7_clear 21 = .ok (.iconst 0, 1) := by decide +kernel
theorem dX7_clear_22 : decode cX7_clear 22 = .ok (.putfield 72, 3) := by decide +kernel
theorem dX7_clear_25 : decode cX7_clear 25 = .ok (.aload_n 0, 1) := by decide +kernel
theorem dX7_clear_26 : decode cX7_clear 26 = .ok (.iconst 0, 1) := by decide +kernel
theorem dX7_clear_27 : decode cX7_clear 27 = .ok (.putfield 75, 3) := by decide +kernel
theorem dX7_clear_30 : decode cX7_clear 30 = .ok (.getstatic 48, 3) := by decide +kernel
theorem dX7_clear_33 : decode cX7_clear 33 = .ok (.iconst 0, 1) := by decide +kernel
theorem dX7_clear_34 : decode cX7_clear 34 = .ok (.aload_n 0, 1) := by decide +kernel
theorem dX7_clear_35 : decode cX7_clear 35 = .ok (.getfield 56, 3) := by decide +kernel
theorem dX7_clear_38 : decode cX7_clear 38 = .ok (.iconst 0, 1) := by decide +kernel
theorem dX7_clear_39 : decode cX7_clear 39 = .ok (.bipush 11, 2) := by decide +kernel
theorem dX7_clear_41 : decode cX7_clear 41 = .ok (.invokestatic 78, 3) := by decide +kernel
theorem dX7_clear_44 : decode cX7_clear 44 = .ok (.return_, 1) := by decide +kernel
theorem dX7_copy_0 : decode cX7_copy 0 = .ok (.aload_n 0, 1) := by decide +kernel
theorem dX7_copy_1 : decode cX7_copy 1 = .ok (.aload_n 1, 1) := by decide +kernel
theorem dX7_copy_2 : decode cX7_copy 2 = .ok (.getfield 59, 3) := by decide +kernel
theorem dX7_copy_5 : decode cX7_copy 5 = .ok (.putfield 59, 3) := by decide +kernel
theorem dX7_copy_8 : decode cX7_copy 8 = .ok (.aload_n 0, 1) := by decide +kernel
theorem dX7_copy_9 : decode cX7_copy 9 = .ok (.aload_n 1, 1) := by decide +kernel
theorem dX7_copy_10 : decode cX7_copy 10 = .ok (.getfield 63, 3) := by decide +kernel
theorem dX7_copy_13 : decode cX7_copy 13 = .ok (.putfield 63, 3) := by decide +kernel
theorem dX7_copy_16 : decode cX7_copy 16 = .ok (.aload_n 1, 1) := by decide +kernel
theorem dX7_copy_17 : decode cX7_copy 17 = .ok (.getfield 9, 3) := by decide +kernel
theorem dX7_copy_20 : decode cX7_copy 20 = .ok (.iconst 0, 1) := by decide +kernel
theorem dX7_copy_21 : decode cX7_copy 21 = .ok (.aload_n 0, 1) := by decide +kernel
theorem dX7_copy_22 : decode cX7_copy 22 = .ok (.getfield 9, 3) := by decide +kernel
theorem dX7_copy_25 : decode cX7_copy 25 = .ok (.iconst 0, 1) := by decide +kernel
theorem dX7_copy_26 : decode cX7_copy 26 = .ok (.bipush 12, 2) := by decide +kernel
theorem dX7_copy_28 : decode cX7_copy 28 = .ok (.invokestatic 78, 3) := by decide +kernel
theorem dX7_copy_31 : decode cX7_copy 31 = .ok (.aload_n 1, 1) := by decide +kernel
theorem dX7_copy_32 : decode cX7_copy 32 = .ok (.getfield 15, 3) := by decide +kernel
theorem dX7_copy_35 : decode cX7_copy 35 = .ok (.iconst 0, 1) := by decide +kernel
theorem dX7_copy_36 : decode cX7_copy 36 = .ok (.aload_n 0, 1) := by decide +kernel
theorem dX7_copy_37 : decode cX7_copy 37 = .ok (.getfield 15, 3) := by decide +kernel
theorem dX7_copy_40 : decode cX7_copy 40 = .ok (.iconst 0, 1) := by decide +kernel
theorem dX7_copy_41 : decode cX7_copy 41 = .ok (.bipush 12, 2) := by decide +kernel
theorem dX7_copy_43 : decode cX7_copy 43 = .ok (.invokestatic 78, 3) := by decide +kernel
theorem dX7_copy_46 : decode cX7_copy 46 = .ok (.aload_n 1, 1) := by decide +kernel
theorem dX7_copy_47 : decode cX7_copy 47 = .ok (.getfield 18, 3) := by decide +kernel
theorem dX7_copy_50 : decode cX7_copy 50 = .ok (.iconst 0, 1) := by decide +kernel
theorem dX7_copy_51 : decode cX7_copy 51 = .ok (.aload_n 0, 1) := by decide +kernel
theorem dX7_copy_52 : decode cX7_copy 52 = .ok (.getfield 18, 3) := by decide +kernel
theorem dX7_copy_55 : decode cX7_copy 55 = .ok (.iconst 0, 1) := by decide +kernel
theorem dX7_copy_56 : decode cX7_copy 56 = .ok (.bipush 12, 2) := by decide +kernel
theorem dX7_copy_58 : decode cX7_copy 58 = .ok (.invokestatic 78, 3) := by decide +kernel
theorem dX7_copy_61 : decode cX7_copy 61 = .ok (.aload_n 1, 1) := by decide +kernel
theorem dX7_copy_62 : decode cX7_copy 62 = .ok (.getfield 21, 3) := by decide +kernel
theorem dX7_copy_65 : decode cX7_copy 65 = .ok (.iconst 0, 1) := by decide +kernel
theorem dX7_copy_66 : decode cX7_copy 66 = .ok (.aload_n 0, 1) := by decide +kernel
theorem dX7_copy_67 : decode cX7_copy 67 = .ok (.getfield 21, 3) := by decide +kernel
theorem dX7_copy_70 : decode cX7_copy 70 = .ok (.iconst 0, 1) := by decide +kernel
theorem dX7_copy_71 : decode cX7_copy 71 = .ok (.bipush 12, 2) := by decide +kernel
theorem dX7_copy_73 : decode cX7_copy 73 = .ok (.invokestatic 78, 3) := by decide +kernel
theorem dX7_copy_76 : decode cX7_copy 76 = .ok (.aload_n 1, 1) := by decide +kernel
theorem dX7_copy_77 : decode cX7_copy 77 = .ok (.getfield 24, 3) := by decide +kernel
theorem dX7_copy_80 : decode cX7_copy 80 = .ok (.iconst 0, 1) := by decide +kernel
theorem dX7_copy_81 : decode cX7_copy 81 = .ok (.aload_n 0, 1) := by decide +kernel
theorem dX7_copy_82 : decode cX7_copy 82 = .ok (.getfield 24, 3) := by decide +kernel
theorem dX7_copy_85 : decode cX7_copy 85 = .ok (.iconst 0, 1) := by decide +kernel
theorem dX7_copy_86 : decode cX7_copy 86 = .ok (.bipush 12, 2) := by decide +kernel
theorem dX7_copy_88 : decode cX7_copy 88 = .ok (.invokestatic 78, 3) := by decide +kernel
theorem dX7_copy_91 : decode cX7_copy 91 = .ok (.aload_n 0, 1) := by decide +kernel
theorem dX7_copy_92 : decode cX7_copy 92 = .ok (.aload_n 1, 1) := by decide +kernel
theorem dX7_copy_93 : decode cX7_copy 93 = .ok (.getfield 66, 3) := by decide +kernel
theorem dX7_copy_96 : decode cX7_copy 96 = .ok (.putfield 66, 3) := by decide +kernel
theorem dX7_copy_99 : decode cX7_copy 99 = .ok (.aload_n 1, 1) := by decide +kernel
theorem dX7_copy_100 : decode cX7_copy 100 = .ok (.getfield 27, 3) := by decide +kernel
theorem dX7_copy_103 : decode cX7_copy 103 = .ok (.iconst 0, 1) := by decide +kernel
theorem dX7_copy_104 : decode cX7_copy 104 = .ok (.aload_n 0, 1) := by decide +kernel
theorem dX7_copy_105 : decode cX7_copy 105 = .ok (.getfield 27, 3) := by decide +kernel
theorem dX7_copy_108 : decode cX7_copy 108 = .ok (.iconst 0, 1) := by decide +kernel
theorem dX7_copy_109 : decode cX7_copy 109 = .ok (.bipush 8, 2) := by decide +kernel
theorem dX7_copy_111 : decode cX7_copy 111 = .ok (.invokestatic 78, 3) := by decide +kernel
theorem dX7_copy_114 : decode cX7_copy 114 = .ok (.aload_n 1, 1) := by decide +kernel
theorem dX7_copy_115 : decode cX7_copy 115 = .ok (.getfield 30, 3) := by decide +kernel
theorem dX7_copy_118 : decode cX7_copy 118 = .ok (.iconst 0, 1) := by decide +kernel
theorem dX7_copy_119 : decode cX7_copy 119 = .ok (.aload_n 0, 1) := by decide +kernel
theorem dX7_copy_120 : decode cX7_copy 120 = .ok (.getfield 30, 3) := by decide +kernel
theorem dX7_copy_123 : decode cX7_copy 123 = .ok (.iconst 0, 1) := by decide +kernel
theorem dX7_copy_124 : decode cX7_copy 124 = .ok (.bipush 8, 2) := by decide +kernel
theorem dX7_copy_126 : decode cX7_copy 126 = .ok (.invokestatic 78, 3) := by decide +kernel
theorem dX7_copy_129 : decode cX7_copy 129 = .ok (.aload_n 1, 1) := by decide +kernel
theorem dX7_copy_130 : decode cX7_copy 130 = .ok (.getfield 33, 3) := by decide +kernel
theorem dX7_copy_133 : decode cX7_copy 133 = .ok (.iconst 0, 1) := by decide +kernel
theorem dX7_copy_134 : decode cX7_copy 134 = .ok (.aload_n 0, 1) := by decide +kernel
theorem dX7_copy_135 : decode cX7_copy 135 = .ok (.getfield 33, 3) := by decide +kernel
theorem dX7_copy_138 : decode cX7_copy 138 = .ok (.iconst 0, 1) := by decide +kernel
theorem dX7_copy_139 : decode cX7_copy 139 = .ok (.bipush 8, 2) := by decide +kernel
theorem dX7_copy_141 : decode cX7_copy 141 = .ok (.invokestatic 78, 3) := by decide +kernel
theorem dX7_copy_144 : decode cX7_copy 144 = .ok (.aload_n 1, 1) := by decide +kernel
theorem dX7_copy_145 : decode cX7_copy 145 = .ok (.getfield 36, 3) := by decide +kernel
theorem dX7_copy_148 : decode cX7_copy 148 = .ok (.iconst 0, 1) := by decide +kernel
theorem dX7_copy_149 : decode cX7_copy 149 = .ok (.aload_n 0, 1) := by decide +kernel
theorem dX7_copy_150 : decode cX7_copy 150 = .ok (.getfield 36, 3) := by decide +kernel
theorem dX7_copy_153 : decode cX7_copy 153 = .ok (.iconst 0, 1) := by decide +kernel
theorem dX7_copy_154 : decode cX7_copy 154 = .ok (.bipush 8, 2) := by decide +kernel
theorem dX7_copy_156 : decode cX7_copy 156 = .ok (.invokestatic 78, 3) := by decide +kernel
theorem dX7_copy_159 : decode cX7_copy 159 = .ok (.aload_n 1, 1) := by decide +kernel
theorem dX7_copy_160 : decode cX7_copy 160 = .ok (.getfield 39, 3) := by decide +kernel
theorem dX7_copy_163 : decode cX7_copy 163 = .ok (.iconst 0, 1) := by decide +kernel
theorem dX7_copy_164 : decode cX7_copy 164 = .ok (.aload_n 0, 1) := by decide +kernel
theorem dX7_copy_165 : decode cX7_copy 165 = .ok (.getfield 39, 3) := by decide +kernel
theorem dX7_copy_168 : decode cX7_copy 168 = .ok (.iconst 0, 1) := by decide +kernel
theorem dX7_copy_169 : decode cX7_copy 169 = .ok (.bipush 8, 2) := by decide +kernel
theorem dX7_copy_171 : decode cX7_copy 171 = .ok (.invokestatic 78, 3) := by decide +kernel
theorem dX7_copy_174 : decode cX7_copy 174 = .ok (.aload_n 0, 1) := by decide +kernel
theorem dX7_copy_175 : decode cX7_copy 175 = .ok (.aload_n 1, 1) := by decide +kernel
theorem dX7_copy_176 : decode cX7_copy 176 = .ok (.getfield 69, 3) := by decide +kernel
theorem dX7_copy_179 : decode cX7_copy 179 = .ok (.putfield 69, 3) := by decide +kernel
theorem dX7_copy_182 : decode cX7_copy 182 = .ok (.aload_n 0, 1) := by decide +kernel
theorem dX7_copy_183 : decode cX7_copy 183 = .ok (.aload_n 1, 1) := by decide +kernel
theorem dX7_copy_184 : decode cX7_copy 184 = .ok (.getfield 72, 3) := by decide +kernel
theorem dX7_copy_187 : decode cX7_copy 187 = .ok (.putfield 72, 3) := by decide +kernel
theorem dX7_copy_190 : decode cX7_copy 190 = .ok (.aload_n 0, 1) := by decide +kernel
theorem dX7_copy_191 : decode cX7_copy 191 = .ok (.aload_n 1, 1) := by decide +kernel
theorem dX7_copy_192 : decode cX7_copy 192 = .ok (.getfield 75, 3) := by decide +kernel
theorem dX7_copy_195 : decode cX7_copy 195 = .ok (.putfield 75, 3) := by decide +kernel
theorem dX7_copy_198 : decode cX7_copy 198 = .ok (.aload_n 1, 1) := by decide +kernel
theorem dX7_copy_199 : decode cX7_copy 199 = .ok (.getfield 42, 3) := by decide +kernel
theorem dX7_copy_202 : decode cX7_copy 202 = .ok (.iconst 0, 1) := by decide +kernel
theorem dX7_copy_203 : decode cX7_copy 203 = .ok (.aload_n 0, 1) := by decide +kernel
theorem dX7_copy_204 : decode cX7_copy 204 = .ok (.getfield 42, 3) := by decide +kernel
theorem dX7_copy_207 : decode cX7_copy 207 = .ok (.iconst 0, 1) := by decide +kernel
theorem dX7_copy_208 : decode cX7_copy 208 = .ok (.sipush 1000, 3) := by decide +kernel
theorem dX7_copy_211 : decode cX7_copy 211 = .ok (.invokestatic 78, 3) := by decide +kernel
theorem dX7_copy_214 : decode cX7_copy 214 = .ok (.aload_n 1, 1) := by decide +kernel
theorem dX7_copy_215 : decode cX7_copy 215 = .ok (.getfield 45, 3) := by decide +kernel
theorem dX7_copy_218 : decode cX7_copy 218 = .ok (.iconst 0, 1) := by decide +kernel
theorem dX7_copy_219 : decode cX7_copy 219 = .ok (.aload_n 0, 1) := by decide +kernel
theorem dX7_copy_220 : decode cX7_copy 220 = .ok (.getfield 45, 3) := by decide +kernel
theorem dX7_copy_223 : decode cX7_copy 223 = .ok (.iconst 0, 1) := by decide +kernel
theorem dX7_copy_224 : decode cX7_copy 224 = .ok (.iconst 4, 1) := by decide +kernel
theorem dX7_copy_225 : decode cX7_copy 225 = .ok (.invokestatic 78, 3) := by decide +kernel
theorem dX7_copy_228 : decode cX7_copy 228 = .ok (.aload_n 1, 1) := by decide +kernel
theorem dX7_copy_229 : decode cX7_copy 229 = .ok (.getfield 56, 3) := by decide +kernel
theorem dX7_copy_232 : decode cX7_copy 232 = .ok (.iconst 0, 1) := by decide +kernel
theorem dX7_copy_233 : decode cX7_copy 233 = .ok (.aload_n 0, 1) := by decide +kernel
theorem dX7_copy_234 : decode cX7_copy 234 = .ok (.getfield 56, 3) := by decide +kernel
theorem dX7_copy_237 : decode cX7_copy 237 = .ok (.iconst 0, 1) := by decide +kernel
theorem dX7_copy_238 : decode cX7_copy 238 = .ok (.bipush 11, 2) := by decide +kernel
theorem dX7_copy_240 : decode cX7_copy 240 = .ok (.invokestatic 78, 3) := by decide +kernel
theorem dX7_copy_243 : decode cX7_copy 243 = .ok (.return_, 1) := by decide +kernel
theorem dX7_hasBowl_0 : decode cX7_hasBowl 0 = .ok (.iload_n 1, 1) := by decide +kernel
theorem dX7_hasBowl_1 : decode cX7_hasBowl 1 = .ok (.ifCond .lt 15, 3) := by decide +kernel
theorem dX7_hasBowl_4 : decode cX7_hasBowl 4 = .ok (.iload_n 1, 1) := by decide +kernel
theorem dX7_hasBowl_5 : decode cX7_hasBowl 5 = .ok (.aload_n 0, 1) := by decide +kernel
theorem dX7_hasBowl_6 : decode cX7_hasBowl 6 = .ok (.getfield 59, 3) := by decide +kernel
theorem dX7_hasBowl_9 : decode cX7_hasBowl 9 = .ok (.if_icmp .ge 7, 3) := by decide +kernel
theorem dX7_hasBowl_12 : decode cX7_hasBowl 12 = .ok (.iconst 1, 1) := by decide +kernel
theorem dX7_hasBowl_13 : decode cX7_hasBowl 13 = .ok (.goto 4, 3) := by decide +kernel
theorem dX7_hasBowl_16 : decode cX7_hasBowl 16 = .ok (.iconst 0, 1) := by decide +kernel
theorem dX7_hasBowl_17 : decode cX7_hasBowl 17 = .ok (.ireturn, 1) := by decide +kernel
theorem dX7_hasPlace_0 : decode cX7_hasPlace 0 = .ok (.aload_n 0, 1) := by decide +kernel
theorem dX7_hasPlace_1 : decode cX7_hasPlace 1 = .ok (.iload_n 1, 1) := by decide +kernel
theorem dX7_hasPlace_2 : decode cX7_hasPlace 2 = .ok (.invokevirtual 84, 3) := by decide +kernel
theorem dX7_hasPlace_5 : decode cX7_hasPlace 5 = .ok (.ifCond .eq 17, 3) := by decide +kernel
theorem dX7_hasPlace_8 : decode cX7_hasPlace 8 = .ok (.aload_n 0, 1) := by decide +kernel
theorem dX7_hasPlace_9 : decode cX7_hasPlace 9 = .ok (.getfield 21, 3) := by decide +kernel
theorem dX7_hasPlace_12 : decode cX7_hasPlace 12 = .ok (.iload_n 1, 1) := by decide +kernel
theorem dX7_hasPlace_13 : decode cX7_hasPlace 13 = .ok (.iaload, 1) := by decide +kernel
theorem dX7_hasPlace_14 : decode cX7_hasPlace 14 = .ok (.iconst 3, 1) := by decide +kernel
theorem dX7_hasPlace_15 : decode cX7_hasPlace 15 = .ok (.if_icmp .eq 7, 3) := by decide +kernel
theorem dX7_hasPlace_18 : decode cX7_hasPlace 18 = .ok (.iconst 1, 1) := by decide +kernel
theorem dX7_hasPlace_19 : decode cX7_hasPlace 19 = .ok (.goto 4, 3) := by decide +kernel
theorem dX7_hasPlace_22 : decode cX7_hasPlace 22 = .ok (.iconst 0, 1) := by decide +kernel
theorem dX7_hasPlace_23 : decode cX7_hasPlace 23 = .ok (.ireturn, 1) := by decide +kernel
theorem dX7_hasPair_0 : decode cX7_hasPair 0 = .ok (.iload_n 1, 1) := by decide +kernel
theorem dX7_hasPair_1 : decode cX7_hasPair 1 = .ok (.ifCond .lt 15, 3) := by decide +kernel
theorem dX7_hasPair_4 : decode cX7_hasPair 4 = .ok (.iload_n 1, 1) := by decide +kernel
theorem dX7_hasPair_5 : decode cX7_hasPair 5 = .ok (.aload_n 0, 1) := by decide +kernel
theorem dX7_hasPair_6 : decode cX7_hasPair 6 = .ok (.getfield 66, 3) := by decide +kernel
theorem dX7_hasPair_9 : decode cX7_hasPair 9 = .ok (.if_icmp .ge 7, 3) := by decide +kernel
theorem dX7_hasPair_12 : decode cX7_hasPair 12 = .ok (.iconst 1, 1) := by decide +kernel
theorem dX7_hasPair_13 : decode cX7_hasPair 13 = .ok (.goto 4, 3) := by decide +kernel
theorem dX7_hasPair_16 : decode cX7_hasPair 16 = .ok (.iconst 0, 1) := by decide +kernel
theorem dX7_hasPair_17 : decode cX7_hasPair 17 = .ok (.ireturn, 1) := by decide +kernel
theorem dX7_hasFinger_0 : decode cX7_hasFinger 0 = .ok (.iload_n 1, 1) := by decide +kernel
theorem dX7_hasFinger_1 : decode cX7_hasFinger 1 = .ok (.iconst (-1), 1) := by decide +kernel
theorem dX7_hasFinger_2 : decode cX7_hasFinger 2 = .ok (.if_icmp .lt 19, 3) := by decide +kernel
theorem dX7_hasFinger_5 : decode cX7_hasFinger 5 = .ok (.iload_n 1, 1) := by decide +kernel
theorem dX7_hasFinger_6 : decode cX7_hasFinger 6 = .ok (.iconst 2, 1) := by decide +kernel
theorem dX7_hasFinger_7 : decode cX7_hasFinger 7 = .ok (.aload_n 0, 1) := by decide +kernel
theorem dX7_hasFinger_8 : decode cX7_hasFinger 8 = .ok (.getfield 56, 3) := by decide +kernel
theorem dX7_hasFinger_11 : decode cX7_hasFinger 11 = .ok (.iconst 1, 1) := by decide +kernel
theorem dX7_hasFinger_12 : decode cX7_hasFinger 12 = .ok (.iaload, 1) := by decide +kernel
theorem dX7_hasFinger_13 : decode cX7_hasFinger 13 = .ok (.imul, 1) := by decide +kernel
theorem dX7_hasFinger_14 : decode cX7_hasFinger 14 = .ok (.if_icmp .ge 7, 3) := by decide +kernel
theorem dX7_hasFinger_17 : decode cX7_hasFinger 17 = .ok (.iconst 1, 1) := by decide +kernel
theorem dX7_hasFinger_18 : decode cX7_hasFinger 18 = .ok (.goto 4, 3) := by decide +kernel
theorem dX7_hasFinger_21 : decode cX7_hasFinger 21 = .ok (.iconst 0, 1) := by decide +kernel
theorem dX7_hasFinger_22 : decode cX7_hasFinger 22 = .ok (.ireturn, 1) := by decide +kernel
theorem dX7_leftHand_0 : decode cX7_leftHand 0 = .ok (.iload_n 1, 1) := by decide +kernel
theorem dX7_leftHand_1 : decode cX7_leftHand 1 = .ok (.aload_n 0, 1) := by decide +kernel
theorem dX7_leftHand_2 : decode cX7_leftHand 2 = .ok (.getfield 56, 3) := by decide +kernel
theorem dX7_leftHand_5 : decode cX7_leftHand 5 = .ok (.iconst 1, 1) := by decide +kernel
theorem dX7_leftHand_6 : decode cX7_leftHand 6 = .ok (.iaload, 1) := by decide +kernel
theorem dX7_leftHand_7 : decode cX7_leftHand 7 = .ok (.if_icmp .ge 7, 3) := by decide +kernel
theorem dX7_leftHand_10 : decode cX7_leftHand 10 = .ok (.iconst 1, 1) := by decide +kernel
theorem dX7_leftHand_11 : decode cX7_leftHand 11 = .ok (.goto 4, 3) := by decide +kernel
theorem dX7_leftHand_14 : decode cX7_leftHand 14 = .ok (.iconst 0, 1) := by decide +kernel
theorem dX7_leftHand_15 : decode cX7_leftHand 15 = .ok (.ireturn, 1) := by decide +kernel
theorem dX7_putBowl_0 : decode cX7_putBowl 0 = .ok (.aload_n 0, 1) := by decide +kernel
theorem dX7_putBowl_1 : decode cX7_putBowl 1 = .ok (.getfield 21, 3) := by decide +kernel
theorem dX7_putBowl_4 : decode cX7_putBowl 4 = .ok (.aload_n 0, 1) := by decide +kernel
theorem dX7_putBowl_5 : decode cX7_putBowl 5 = .ok (.getfield 59, 3) := by decide +kernel
theorem dX7_putBowl_8 : decode cX7_putBowl 8 = .ok (.iload_n 1, 1) := by decide +kernel
theorem dX7_putBowl_9 : decode cX7_putBowl 9 = .ok (.iastore, 1) := by decide +kernel
theorem dX7_putBowl_10 : decode cX7_putBowl 10 = .ok (.aload_n 0, 1) := by decide +kernel
theorem dX7_putBowl_11 : decode cX7_putBowl 11 = .ok (.getfield 24, 3) := by decide +kernel
theorem dX7_putBowl_14 : decode cX7_putBowl 14 = .ok (.aload_n 0, 1) := by decide +kernel
theorem dX7_putBowl_15 : decode cX7_putBowl 15 = .ok (.getfield 59, 3) := by decide +kernel
theorem dX7_putBowl_18 : decode cX7_putBowl 18 = .ok (.iload_n 1, 1) := by decide +kernel
theorem dX7_putBowl_19 : decode cX7_putBowl 19 = .ok (.iconst 3, 1) := by decide +kernel
theorem dX7_putBowl_20 : decode cX7_putBowl 20 = .ok (.if_icmp .ne 7, 3) := by decide +kernel
theorem dX7_putBowl_23 : decode cX7_putBowl 23 = .ok (.iconst (-1), 1) := by decide +kernel
theorem dX7_putBowl_24 : decode cX7_putBowl 24 = .ok (.goto 7, 3) := by decide +kernel
theorem dX7_putBowl_27 : decode cX7_putBowl 27 = .ok (.aload_n 0, 1) := by decide +kernel
theorem dX7_putBowl_28 : decode cX7_putBowl 28 = .ok (.getfield 63, 3) := by decide +kernel
theorem dX7_putBowl_31 : decode cX7_putBowl 31 = .ok (.iastore, 1) := by decide +kernel
theorem dX7_putBowl_32 : decode cX7_putBowl 32 = .ok (.aload_n 0, 1) := by decide +kernel
theorem dX7_putBowl_33 : decode cX7_putBowl 33 = .ok (.dup, 1) := by decide +kernel
theorem dX7_putBowl_34 : decode cX7_putBowl 34 = .ok (.getfield 63, 3) := by decide +kernel
theorem dX7_putBowl_37 : decode cX7_putBowl 37 = .ok (.iload_n 1, 1) := by decide +kernel
theorem dX7_putBowl_38 : decode cX7_putBowl 38 = .ok (.iconst 3, 1) := by decide +kernel
theorem dX7_putBowl_39 : decode cX7_putBowl 39 = .ok (.if_icmp .ne 7, 3) := by decide +kernel
theorem dX7_putBowl_42 : decode cX7_putBowl 42 = .ok (.iconst 0, 1) := by decide +kernel
theorem dX7_putBowl_43 : decode cX7_putBowl 43 = .ok (.goto 4, 3) := by decide +kernel
theorem dX7_putBowl_46 : decode cX7_putBowl 46 = .ok (.iconst 1, 1) := by decide +kernel
theorem dX7_putBowl_47 : decode cX7_putBowl 47 = .ok (.iadd, 1) := by decide +kernel
theorem dX7_putBowl_48 : decode cX7_putBowl 48 = .ok (.putfield 63, 3) := by decide +kernel
theorem dX7_putBowl_51 : decode cX7_putBowl 51 = .ok (.aload_n 0, 1) := by decide +kernel
theorem dX7_putBowl_52 : decode cX7_putBowl 52 = .ok (.dup, 1) := by decide +kernel
theorem dX7_putBowl_53 : decode cX7_putBowl 53 = .ok (.getfield 59, 3) := by decide +kernel
theorem dX7_putBowl_56 : decode cX7_putBowl 56 = .ok (.iconst 1, 1) := by decide +kernel
theorem dX7_putBowl_57 : decode cX7_putBowl 57 = .ok (.iadd, 1) := by decide +kernel
theorem dX7_putBowl_58 : decode cX7_putBowl 58 = .ok (.putfield 59, 3) := by decide +kernel
theorem dX7_putBowl_61 : decode cX7_putBowl 61 = .ok (.return_, 1) := by decide +kernel
theorem dX7_putCode_0 : decode cX7_putCode 0 = .ok (.aload_n 0, 1) := by decide +kernel
theorem dX7_putCode_1 : decode cX7_putCode 1 = .ok (.getfield 75, 3) := by decide +kernel
theorem dX7_putCode_4 : decode cX7_putCode 4 = .ok (.sipush 1000, 3) := by decide +kernel
theorem dX7_putCode_7 : decode cX7_putCode 7 = .ok (.if_icmp .ge 23, 3) := by decide +kernel
theorem dX7_putCode_10 : decode cX7_putCode 10 = .ok (.aload_n 0, 1) := by decide +kernel
theorem dX7_putCode_11 : decode cX7_putCode 11 = .ok (.getfield 42, 3) := by decide +kernel
theorem dX7_putCode_14 : decode cX7_putCode 14 = .ok (.aload_n 0, 1) := by decide +kernel
theorem dX7_putCode_15 : decode cX7_putCode 15 = .ok (.getfield 75, 3) := by decide +kernel
theorem dX7_putCode_18 : decode cX7_putCode 18 = .ok (.iload_n 1, 1) := by decide +kernel
theorem dX7_putCode_19 : decode cX7_putCode 19 = .ok (.iastore, 1) := by decide +kernel
theorem dX7_putCode_20 : decode cX7_putCode 20 = .ok (.aload_n 0, 1) := by decide +kernel
theorem dX7_putCode_21 : decode cX7_putCode 21 = .ok (.dup, 1) := by decide +kernel
theorem dX7_putCode_22 : decode cX7_putCode 22 = .ok (.getfield 75, 3) := by decide +kernel
theorem dX7_putCode_25 : decode cX7_putCode 25 = .ok (.iconst 1, 1) := by decide +kernel
theorem dX7_putCode_26 : decode cX7_putCode 26 = .ok (.iadd, 1) := by decide +kernel
theorem dX7_putCode_27 : decode cX7_putCode 27 = .ok (.putfield 75, 3) := by decide +kernel
theorem dX7_putCode_30 : decode cX7_putCode 30 = .ok (.iload_n 1, 1) := by decide +kernel
theorem dX7_putCode_31 : decode cX7_putCode 31 = .ok (.bipush (-125), 2) := by decide +kernel
theorem dX7_putCode_33 : decode cX7_putCode 33 = .ok (.if_icmp .ne 18, 3) := by decide +kernel
theorem dX7_putCode_36 : decode cX7_putCode 36 = .ok (.aload_n 0, 1) := by decide +kernel
theorem dX7_putCode_37 : decode cX7_putCode 37 = .ok (.dup, 1) := by decide +kernel
theorem dX7_putCode_38 : decode cX7_putCode 38 = .ok (.getfield 72, 3) := by decide +kernel
theorem dX7_putCode_41 : decode cX7_putCode 41 = .ok (.iconst 1, 1) := by decide +kernel
theorem dX7_putCode_42 : decode cX7_putCode 42 = .ok (.aload_n 0, 1) := by decide +kernel
theorem dX7_putCode_43 : decode cX7_putCode 43 = .ok (.getfield 69, 3) := by decide +kernel
theorem dX7_putCode_46 : decode cX7_putCode 46 = .ok (.ishl, 1) := by decide +kernel
theorem dX7_putCode_47 : decode cX7_putCode 47 = .ok (.ior, 1) := by decide +kernel
theorem dX7_putCode_48 : decode cX7_putCode 48 = .ok (.putfield 72, 3) := by decide +kernel
theorem dX7_putCode_51 : decode cX7_putCode 51 = .ok (.return_, 1) := by decide +kernel
theorem dX7_endSpeak_0 : decode cX7_endSpeak 0 = .ok (.aload_n 0, 1) := by decide +kernel
theorem dX7_endSpeak_1 : decode cX7_endSpeak 1 = .ok (.getfield 69, 3) := by decide +kernel
theorem dX7_endSpeak_4 : decode cX7_endSpeak 4 = .ok (.iconst 4, 1) := by decide +kernel
theorem dX7_endSpeak_5 : decode cX7_endSpeak 5 = .ok (.if_icmp .ge 26, 3) := by decide +kernel
theorem dX7_endSpeak_8 : decode cX7_endSpeak 8 = .ok (.aload_n 0, 1) := by decide +kernel
theorem dX7_endSpeak_9 : decode cX7_endSpeak 9 = .ok (.getfield 45, 3) := by decide +kernel
theorem dX7_endSpeak_12 : decode cX7_endSpeak 12 = .ok (.aload_n 0, 1) := by decide +kernel
theorem dX7_endSpeak_13 : decode cX7_endSpeak 13 = .ok (.getfield 69, 3) := by decide +kernel
theorem dX7_endSpeak_16 : decode cX7_endSpeak 16 = .ok (.aload_n 0, 1) := by decide +kernel
theorem dX7_endSpeak_17 : decode cX7_endSpeak 17 = .ok (.getfield 75, 3) := by decide +kernel
theorem dX7_endSpeak_20 : decode cX7_endSpeak 20 = .ok (.iastore, 1) := by decide +kernel
theorem dX7_endSpeak_21 : decode cX7_endSpeak 21 = .ok (.aload_n 0, 1) := by decide +kernel
theorem dX7_endSpeak_22 : decode cX7_endSpeak 22 = .ok (.dup, 1) := by decide +kernel
theorem dX7_endSpeak_23 : decode cX7_endSpeak 23 = .ok (.getfield 69, 3) := by decide +kernel
theorem dX7_endSpeak_26 : decode cX7_endSpeak 26 = .ok (.iconst 1, 1) := by decide +kernel
theorem dX7_endSpeak_27 : decode cX7_endSpeak 27 = .ok (.iadd, 1) := by decide +kernel
theorem dX7_endSpeak_28 : decode cX7_endSpeak 28 = .ok (.putfield 69, 3) := by decide +kernel
theorem dX7_endSpeak_31 : decode cX7_endSpeak 31 = .ok (.return_, 1) := by decide +kernel
theorem dX7_speedOf_0 : decode cX7_speedOf 0 = .ok (.aload_n 0, 1) := by decide +kernel
theorem dX7_speedOf_1 : decode cX7_speedOf 1 = .ok (.iload_n 1, 1) := by decide +kernel
theorem dX7_speedOf_2 : decode cX7_speedOf 2 = .ok (.aload_n 0, 1) := by decide +kernel
theorem dX7_speedOf_3 : decode cX7_speedOf 3 = .ok (.getfield 9, 3) := by decide +kernel
theorem dX7_speedOf_6 : decode cX7_speedOf 6 = .ok (.aload_n 0, 1) := by decide +kernel
theorem dX7_speedOf_7 : decode cX7_speedOf 7 = .ok (.getfield 27, 3) := by decide +kernel
theorem dX7_speedOf_10 : decode cX7_speedOf 10 = .ok (.iload_n 1, 1) := by decide +kernel
theorem dX7_speedOf_11 : decode cX7_speedOf 11 = .ok (.iaload, 1) := by decide +kernel
theorem dX7_speedOf_12 : decode cX7_speedOf 12 = .ok (.iaload, 1) := by decide +kernel
theorem dX7_speedOf_13 : decode cX7_speedOf 13 = .ok (.aload_n 0, 1) := by decide +kernel
theorem dX7_speedOf_14 : decode cX7_speedOf 14 = .ok (.getfield 9, 3) := by decide +kernel
theorem dX7_speedOf_17 : decode cX7_speedOf 17 = .ok (.aload_n 0, 1) := by decide +kernel
theorem dX7_speedOf_18 : decode cX7_speedOf 18 = .ok (.getfield 33, 3) := by decide +kernel
theorem dX7_speedOf_21 : decode cX7_speedOf 21 = .ok (.iload_n 1, 1) := by decide +kernel
theorem dX7_speedOf_22 : decode cX7_speedOf 22 = .ok (.iaload, 1) := by decide +kernel
theorem dX7_speedOf_23 : decode cX7_speedOf 23 = .ok (.iaload, 1) := by decide +kernel
theorem dX7_speedOf_24 : decode cX7_speedOf 24 = .ok (.invokevirtual 88, 3) := by decide +kernel
theorem dX7_speedOf_27 : decode cX7_speedOf 27 = .ok (.ireturn, 1) := by decide +kernel
theorem dX7_speedAt_0 : decode cX7_speedAt 0 = .ok (.iload_n 2, 1) := by decide +kernel
theorem dX7_speedAt_1 : decode cX7_speedAt 1 = .ok (.aload_n 0, 1) := by decide +kernel
theorem dX7_speedAt_2 : decode cX7_speedAt 2 = .ok (.getfield 36, 3) := by decide +kernel
theorem dX7_speedAt_5 : decode cX7_speedAt 5 = .ok (.iload_n 1, 1) := by decide +kernel
theorem dX7_speedAt_6 : decode cX7_speedAt 6 = .ok (.iaload, 1) := by decide +kernel
theorem dX7_speedAt_7 : decode cX7_speedAt 7 = .ok (.imul, 1) := by decide +kernel
theorem dX7_speedAt_8 : decode cX7_speedAt 8 = .ok (.iload_n 3, 1) := by decide +kernel
theorem dX7_speedAt_9 : decode cX7_speedAt 9 = .ok (.aload_n 0, 1) := by decide +kernel
theorem dX7_speedAt_10 : decode cX7_speedAt 10 = .ok (.getfield 30, 3) := by decide +kernel
theorem dX7_speedAt_13 : decode cX7_speedAt 13 = .ok (.iload_n 1, 1) := by decide +kernel
theorem dX7_speedAt_14 : decode cX7_speedAt 14 = .ok (.iaload, 1) := by decide +kernel
theorem dX7_speedAt_15 : decode cX7_speedAt 15 = .ok (.imul, 1) := by decide +kernel
theorem dX7_speedAt_16 : decode cX7_speedAt 16 = .ok (.isub, 1) := by decide +kernel
theorem dX7_speedAt_17 : decode cX7_speedAt 17 = .ok (.invokestatic 92, 3) := by decide +kernel
theorem dX7_speedAt_20 : decode cX7_speedAt 20 = .ok (.ireturn, 1) := by decide +kernel
theorem dX7_nearestSpare_0 : decode cX7_nearestSpare 0 = .ok (.iconst (-1), 1) := by decide +kernel
theorem dX7_nearestSpare_1 : decode cX7_nearestSpare 1 = .ok (.istore_n 2, 1) := by decide +kernel
theorem dX7_nearestSpare_2 : decode cX7_nearestSpare 2 = .ok (.iconst 0, 1) := by decide +kernel
theorem dX7_nearestSpare_3 : decode cX7_nearestSpare 3 = .ok (.istore_n 3, 1) := by decide +kernel
theorem dX7_nearestSpare_4 : decode cX7_nearestSpare 4 = .ok (.iload_n 3, 1) := by decide +kernel
theorem dX7_nearestSpare_5 : decode cX7_nearestSpare 5 = .ok (.aload_n 0, 1) := by decide +kernel
theorem dX7_nearestSpare_6 : decode cX7_nearestSpare 6 = .ok (.getfield 59, 3) := by decide +kernel
theorem dX7_nearestSpare_9 : decode cX7_nearestSpare 9 = .ok (.if_icmp .ge 41, 3) := by decide +kernel
theorem dX7_nearestSpare_12 : decode cX7_nearestSpare 12 = .ok (.aload_n 0, 1) := by decide +kernel
theorem dX7_nearestSpare_13 : decode cX7_nearestSpare 13 = .ok (.getfield 21, 3) := by decide +kernel
theorem dX7_nearestSpare_16 : decode cX7_nearestSpare 16 = .ok (.iload_n 3, 1) := by decide +kernel
theorem dX7_nearestSpare_17 : decode cX7_nearestSpare 17 = .ok (.iaload, 1) := by decide +kernel
theorem dX7_nearestSpare_18 : decode cX7_nearestSpare 18 = .ok (.iconst 3, 1) := by decide +kernel
theorem dX7_nearestSpare_19 : decode cX7_nearestSpare 19 = .ok (.if_icmp .ne 25, 3) := by decide +kernel
theorem dX7_nearestSpare_22 : decode cX7_nearestSpare 22 = .ok (.iload_n 2, 1) := by decide +kernel
theorem dX7_nearestSpare_23 : decode cX7_nearestSpare 23 = .ok (.iconst (-1), 1) := by decide +kernel
theorem dX7_nearestSpare_24 : decode cX7_nearestSpare 24 = .ok (.if_icmp .eq 18, 3) := by decide +kernel
theorem dX7_nearestSpare_27 : decode cX7_nearestSpare 27 = .ok (.aload_n 0, 1) := by decide +kernel
theorem dX7_nearestSpare_28 : decode cX7_nearestSpare 28 = .ok (.iload_n 3, 1) := by decide +kernel
theorem dX7_nearestSpare_29 : decode cX7_nearestSpare 29 = .ok (.iload_n 1, 1) := by decide +kernel
theorem dX7_nearestSpare_30 : decode cX7_nearestSpare 30 = .ok (.invokevirtual 98, 3) := by decide +kernel
theorem dX7_nearestSpare_33 : decode cX7_nearestSpare 33 = .ok (.aload_n 0, 1) := by decide +kernel
theorem dX7_nearestSpare_34 : decode cX7_nearestSpare 34 = .ok (.iload_n 2, 1) := by decide +kernel
theorem dX7_nearestSpare_35 : decode cX7_nearestSpare 35 = .ok (.iload_n 1, 1) := by decide +kernel
theorem dX7_nearestSpare_36 : decode cX7_nearestSpare 36 = .ok (.invokevirtual 98, 3) := by decide +kernel
theorem dX7_nearestSpare_39 : decode cX7_nearestSpare 39 = .ok (.if_icmp .ge 5, 3) := by decide +kernel
theorem dX7_nearestSpare_42 : decode cX7_nearestSpare 42 = .ok (.iload_n 3, 1) := by decide +kernel
theorem dX7_nearestSpare_43 : decode cX7_nearestSpare 43 = .ok (.istore_n 2, 1) := by decide +kernel
theorem dX7_nearestSpare_44 : decode cX7_nearestSpare 44 = .ok (.iinc 3 1, 3) := by decide +kernel
theorem dX7_nearestSpare_47 : decode cX7_nearestSpare 47 = .ok (.goto (-43), 3) := by decide +kernel
theorem dX7_nearestSpare_50 : decode cX7_nearestSpare 50 = .ok (.iload_n 2, 1) := by decide +kernel
theorem dX7_nearestSpare_51 : decode cX7_nearestSpare 51 = .ok (.ireturn, 1) := by decide +kernel
theorem dX7_apart_0 : decode cX7_apart 0 = .ok (.aload_n 0, 1) := by decide +kernel
theorem dX7_apart_1 : decode cX7_apart 1 = .ok (.getfield 9, 3) := by decide +kernel
theorem dX7_apart_4 : decode cX7_apart 4 = .ok (.iload_n 1, 1) := by decide +kernel
theorem dX7_apart_5 : decode cX7_apart 5 = .ok (.iaload, 1) := by decide +kernel
theorem dX7_apart_6 : decode cX7_apart 6 = .ok (.aload_n 0, 1) := by decide +kernel
theorem dX7_apart_7 : decode cX7_apart 7 = .ok (.getfield 9, 3) := by decide +kernel
theorem dX7_apart_10 : decode cX7_apart 10 = .ok (.iload_n 2, 1) := by decide +kernel
theorem dX7_apart_11 : decode cX7_apart 11 = .ok (.iaload, 1) := by decide +kernel
theorem dX7_apart_12 : decode cX7_apart 12 = .ok (.isub, 1) := by decide +kernel
theorem dX7_apart_13 : decode cX7_apart 13 = .ok (.invokestatic 92, 3) := by decide +kernel
theorem dX7_apart_16 : decode cX7_apart 16 = .ok (.ireturn, 1) := by decide +kernel
theorem dX7_swap_0 : decode cX7_swap 0 = .ok (.aload_n 0, 1) := by decide +kernel
theorem dX7_swap_1 : decode cX7_swap 1 = .ok (.getfield 24, 3) := by decide +kernel
theorem dX7_swap_4 : decode cX7_swap 4 = .ok (.iload_n 2, 1) := by decide +kernel
theorem dX7_swap_5 : decode cX7_swap 5 = .ok (.aload_n 0, 1) := by decide +kernel
theorem dX7_swap_6 : decode cX7_swap 6 = .ok (.getfield 24, 3) := by decide +kernel
theorem dX7_swap_9 : decode cX7_swap 9 = .ok (.iload_n 1, 1) := by decide +kernel
theorem dX7_swap_10 : decode cX7_swap 10 = .ok (.iaload, 1) := by decide +kernel
theorem dX7_swap_11 : decode cX7_swap 11 = .ok (.iastore, 1) := by decide +kernel
theorem dX7_swap_12 : decode cX7_swap 12 = .ok (.aload_n 0, 1) := by decide +kernel
theorem dX7_swap_13 : decode cX7_swap 13 = .ok (.getfield 21, 3) := by decide +kernel
theorem dX7_swap_16 : decode cX7_swap 16 = .ok (.iload_n 2, 1) := by decide +kernel
theorem dX7_swap_17 : decode cX7_swap 17 = .ok (.iconst 0, 1) := by decide +kernel
theorem dX7_swap_18 : decode cX7_swap 18 = .ok (.iastore, 1) := by decide +kernel
theorem dX7_swap_19 : decode cX7_swap 19 = .ok (.aload_n 0, 1) := by decide +kernel
theorem dX7_swap_20 : decode cX7_swap 20 = .ok (.getfield 24, 3) := by decide +kernel
theorem dX7_swap_23 : decode cX7_swap 23 = .ok (.iload_n 1, 1) := by decide +kernel
theorem dX7_swap_24 : decode cX7_swap 24 = .ok (.iconst (-1), 1) := by decide +kernel
theorem dX7_swap_25 : decode cX7_swap 25 = .ok (.iastore, 1) := by decide +kernel
theorem dX7_swap_26 : decode cX7_swap 26 = .ok (.aload_n 0, 1) := by decide +kernel
theorem dX7_swap_27 : decode cX7_swap 27 = .ok (.getfield 21, 3) := by decide +kernel
theorem dX7_swap_30 : decode cX7_swap 30 = .ok (.iload_n 1, 1) := by decide +kernel
theorem dX7_swap_31 : decode cX7_swap 31 = .ok (.iconst 3, 1) := by decide +kernel
theorem dX7_swap_32 : decode cX7_swap 32 = .ok (.iastore, 1) := by decide +kernel
theorem dX7_swap_33 : decode cX7_swap 33 = .ok (.return_, 1) := by decide +kernel
theorem dX8_init_0 : decode cX8_init 0 = .ok (.aload_n 0, 1) := by decide +kernel
theorem dX8_init_1 : decode cX8_init 1 = .ok (.invokespecial 3, 3) := by decide +kernel
theorem dX8_init_4 : decode cX8_init 4 = .ok (.aload_n 0, 1) := by decide +kernel
theorem dX8_init_5 : decode cX8_init 5 = .ok (.sipush 1000, 3) := by decide +kernel
theorem dX8_init_8 : decode cX8_init 8 = .ok (.newarray .char, 2) := by decide +kernel
theorem dX8_init_10 : decode cX8_init 10 = .ok (.putfield 9, 3) := by decide +kernel
theorem dX8_init_13 : decode cX8_init 13 = .ok (.aload_n 0, 1) := by decide +kernel
theorem dX8_init_14 : decode cX8_init 14 = .ok (.sipush 1001, 3) := by decide +kernel
theorem dX8_init_17 : decode cX8_init 17 = .ok (.newarray .int, 2) := by decide +kernel
theorem dX8_init_19 : decode cX8_init 19 = .ok (.putfield 15, 3) := by decide +kernel
theorem dX8_init_22 : decode cX8_init 22 = .ok (.return_, 1) := by decide +kernel
theorem dX8_addBytes_0 : decode cX8_addBytes 0 = .ok (.bipush 56, 2) := by decide +kernel
theorem dX8_addBytes_2 : decode cX8_addBytes 2 = .ok (.istore_n 3, 1) := by decide +kernel
theorem dX8_addBytes_3 : decode cX8_addBytes 3 = .ok (.iload_n 3, 1) := by decide +kernel
theorem dX8_addBytes_4 : decode cX8_addBytes 4 = .ok (.ifCond .lt 84, 3) := by decide +kernel
theorem dX8_addBytes_7 : decode cX8_addBytes 7 = .ok (.lload_n 1, 1) := by decide +kernel
theorem dX8_addBytes_8 : decode cX8_addBytes 8 = .ok (.iload_n 3, 1) := by decide +kernel
theorem dX8_addBytes_9 : decode cX8_addBytes 9 = .ok (.lushr, 1) := by decide +kernel
theorem dX8_addBytes_10 : decode cX8_addBytes 10 = .ok (.l2i, 1) := by decide +kernel
theorem dX8_addBytes_11 : decode cX8_addBytes 11 = .ok (.sipush 255, 3) := by decide +kernel
theorem dX8_addBytes_14 : decode cX8_addBytes 14 = .ok (.iand, 1) := by decide +kernel
theorem dX8_addBytes_15 : decode cX8_addBytes 15 = .ok (.istore 4, 2) := by decide +kernel
theorem dX8_addBytes_17 : decode cX8_addBytes 17 = .ok (.iload 4, 2) := by decide +kernel
theorem dX8_addBytes_19 : decode cX8_addBytes 19 = .ok (.bipush 10, 2) := by decide +kernel
theorem dX8_addBytes_21 : decode cX8_addBytes 21 = .ok (.if_icmp .eq 17, 3) := by decide +kernel
theorem dX8_addBytes_24 : decode cX8_addBytes 24 = .ok (.iload 4, 2) := by decide +kernel
theorem dX8_addBytes_26 : decode cX8_addBytes 26 = .ok (.bipush 32, 2) := by decide +kernel
theorem dX8_addBytes_28 : decode cX8_addBytes 28 = .ok (.if_icmp .lt 14, 3) := by decide +kernel
theorem dX8_addBytes_31 : decode cX8_addBytes 31 = .ok (.iload 4, 2) := by decide +kernel
theorem dX8_addBytes_33 : decode cX8_addBytes 33 = .ok (.bipush 126, 2) := by decide +kernel
theorem dX8_addBytes_35 : decode cX8_addBytes 35 = .ok (.if_icmp .gt 7, 3) := by decide +kernel
theorem dX8_addBytes_38 : decode cX8_addBytes 38 = .ok (.iconst 1, 1) := by decide +kernel
theorem dX8_addBytes_39 : decode cX8_addBytes 39 = .ok (.goto 4, 3) := by decide +kernel
theorem dX8_addBytes_42 : decode cX8_addBytes 42 = .ok (.iconst 0, 1) := by decide +kernel
theorem dX8_addBytes_43 : decode cX8_addBytes 43 = .ok (.istore 5, 2) := by decide +kernel
theorem dX8_addBytes_45 : decode cX8_addBytes 45 = .ok (.iload 5, 2) := by decide +kernel
theorem dX8_addBytes_47 : decode cX8_addBytes 47 = .ok (.ifCond .eq 35, 3) := by decide +kernel
theorem dX8_addBytes_50 : decode cX8_addBytes 50 = .ok (.aload_n 0, 1) := by decide +kernel
theorem dX8_addBytes_51 : decode cX8_addBytes 51 = .ok (.getfield 19, 3) := by decide +kernel
theorem dX8_addBytes_54 : decode cX8_addBytes 54 = .ok (.sipush 1000, 3) := by decide +kernel
theorem dX8_addBytes_57 : decode cX8_addBytes 57 = .ok (.if_icmp .ge 25, 3) := by decide +kernel
theorem dX8_addBytes_60 : decode cX8_addBytes 60 = .ok (.aload_n 0, 1) := by decide +kernel
theorem dX8_addBytes_61 : decode cX8_addBytes 61 = .ok (.getfield 9, 3) := by decide +kernel
theorem dX8_addBytes_64 : decode cX8_addBytes 64 = .ok (.aload_n 0, 1) := by decide +kernel
theorem dX8_addBytes_65 : decode cX8_addBytes 65 = .ok (.getfield 19, 3) := by decide +kernel
theorem dX8_addBytes_68 : decode cX8_addBytes 68 = .ok (.iload 4, 2) := by decide +kernel
theorem dX8_addBytes_70 : decode cX8_addBytes 70 = .ok (.i2c, 1) := by decide +kernel
theorem dX8_addBytes_71 : decode cX8_addBytes 71 = .ok (.castore, 1) := by decide +kernel
theorem dX8_addBytes_72 : decode cX8_addBytes 72 = .ok (.aload_n 0, 1) := by decide +kernel
theorem dX8_addBytes_73 : decode cX8_addBytes 73 = .ok (.dup, 1) := by decide +kernel
theorem dX8_addBytes_74 : decode cX8_addBytes 74 = .ok (.getfield 19, 3) := by decide +kernel
theorem dX8_addBytes_77 : decode cX8_addBytes 77 = .ok (.iconst 1, 1) := by decide +kernel
theorem dX8_addBytes_78 : decode cX8_addBytes 78 = .ok (.iadd, 1) := by decide +kernel
theorem dX8_addBytes_79 : decode cX8_addBytes 79 = .ok (.putfield 19, 3) := by decide +kernel
theorem dX8_addBytes_82 : decode cX8_addBytes 82 = .ok (.iinc 3 (-8), 3) := by decide +kernel
theorem dX8_addBytes_85 : decode cX8_addBytes 85 = .ok (.goto (-82), 3) := by decide +kernel
theorem dX8_addBytes_88 : decode cX8_addBytes 88 = .ok (.return_, 1) := by decide +kernel
theorem dX8_split_0 : decode cX8_split 0 = .ok (.aload_n 0, 1) := by decide +kernel
theorem dX8_split_1 : decode cX8_split 1 = .ok (.iconst 0, 1) := by decide +kernel
theorem dX8_split_2 : decode cX8_split 2 = .ok (.putfield 23, 3) := by decide +kernel
theorem dX8_split_5 : decode cX8_split 5 = .ok (.iconst 2, 1) := by decide +kernel
theorem dX8_split_6 : decode cX8_split 6 = .ok (.istore_n 1, 1) := by decide +kernel
theorem dX8_split_7 : decode cX8_split 7 = .ok (.iconst 0, 1) := by decide +kernel
theorem dX8_split_8 : decode cX8_split 8 = .ok (.istore_n 2, 1) := by decide +kernel
theorem dX8_split_9 : decode cX8_split 9 = .ok (.iload_n 2, 1) := by decide +kernel
theorem dX8_split_10 : decode cX8_split 10 = .ok (.aload_n 0, 1) := by decide +kernel
theorem dX8_split_11 : decode cX8_split 11 = .ok (.getfield 19, 3) := by decide +kernel
theorem dX8_split_14 : decode cX8_split 14 = .ok (.if_icmp .ge 63, 3) := by decide +kernel
theorem dX8_split_17 : decode cX8_split 17 = .ok (.iload_n 1, 1) := by decide +kernel
theorem dX8_split_18 : decode cX8_split 18 = .ok (.iconst 1, 1) := by decide +kernel
theorem dX8_split_19 : decode cX8_split 19 = .ok (.if_icmp .eq 58, 3) := by decide +kernel
theorem dX8_split_22 : decode cX8_split 22 = .ok (.aload_n 0, 1) := by decide +kernel
theorem dX8_split_23 : decode cX8_split 23 = .ok (.getfield 9, 3) := by decide +kernel
theorem dX8_split_26 : decode cX8_split 26 = .ok (.iload_n 2, 1) := by decide +kernel
theorem dX8_split_27 : decode cX8_split 27 = .ok (.caload, 1) := by decide +kernel
theorem dX8_split_28 : decode cX8_split 28 = .ok (.bipush 32, 2) := by decide +kernel
theorem dX8_split_30 : decode cX8_split 30 = .ok (.if_icmp .eq 41, 3) := by decide +kernel
theorem dX8_split_33 : decode cX8_split 33 = .ok (.aload_n 0, 1) := by decide +kernel
theorem dX8_split_34 : decode cX8_split 34 = .ok (.getfield 9, 3) := by decide +kernel
theorem dX8_split_37 : decode cX8_split 37 = .ok (.iload_n 2, 1) := by decide +kernel
theorem dX8_split_38 : decode cX8_split 38 = .ok (.caload, 1) := by decide +kernel
theorem dX8_split_39 : decode cX8_split 39 = .ok (.bipush 10, 2) := by decide +kernel
theorem dX8_split_41 : decode cX8_split 41 = .ok (.if_icmp .eq 30, 3) := by decide +kernel
theorem dX8_split_44 : decode cX8_split 44 = .ok (.aload_n 0, 1) := by decide +kernel
theorem dX8_split_45 : decode cX8_split 45 = .ok (.iload_n 2, 1) := by decide +kernel
theorem dX8_split_46 : decode cX8_split 46 = .ok (.invokevirtual 26, 3) := by decide +kernel
theorem dX8_split_49 : decode cX8_split 49 = .ok (.istore_n 3, 1) := by decide +kernel
theorem dX8_split_50 : decode cX8_split 50 = .ok (.aload_n 0, 1) := by decide +kernel
theorem dX8_split_51 : decode cX8_split 51 = .ok (.iload_n 2, 1) := by decide +kernel
theorem dX8_split_52 : decode cX8_split 52 = .ok (.iload_n 3, 1) := by decide +kernel
theorem dX8_split_53 : decode cX8_split 53 = .ok (.invokevirtual 30, 3) := by decide +kernel
theorem dX8_split_56 : decode cX8_split 56 = .ok (.istore_n 1, 1) := by decide +kernel
theorem dX8_split_57 : decode cX8_split 57 = .ok (.aload_n 0, 1) := by decide +kernel
theorem dX8_split_58 : decode cX8_split 58 = .ok (.iload_n 1, 1) := by decide +kernel
theorem dX8_split_59 : decode cX8_split 59 = .ok (.iload_n 2, 1) := by decide +kernel
theorem dX8_split_60 : decode cX8_split 60 = .ok (.invokevirtual 34, 3) := by decide +kernel
theorem dX8_split_63 : decode cX8_split 63 = .ok (.iload_n 2, 1) := by decide +kernel
theorem dX8_split_64 : decode cX8_split 64 = .ok (.iload_n 3, 1) := by decide +kernel
theorem dX8_split_65 : decode cX8_split 65 = .ok (.iconst 1, 1) := by decide +kernel
theorem dX8_split_66 : decode cX8_split 66 = .ok (.isub, 1) := by decide +kernel
theorem dX8_split_67 : decode cX8_split 67 = .ok (.invokestatic 38, 3) := by decide +kernel
theorem dX8_split_70 : decode cX8_split 70 = .ok (.istore_n 2, 1) := by decide +kernel
theorem dX8_split_71 : decode cX8_split 71 = .ok (.iinc 2 1, 3) := by decide +kernel
theorem dX8_split_74 : decode cX8_split 74 = .ok (.goto (-65), 3) := by decide +kernel
theorem dX8_split_77 : decode cX8_split 77 = .ok (.aload_n 0, 1) := by decide +kernel
theorem dX8_split_78 : decode cX8_split 78 = .ok (.iconst 0, 1) := by decide +kernel
theorem dX8_split_79 : decode cX8_split 79 = .ok (.aload_n 0, 1) := by decide +kernel
theorem dX8_split_80 : decode cX8_split 80 = .ok (.getfield 19, 3) := by decide +kernel
theorem dX8_split_83 : decode cX8_split 83 = .ok (.invokevirtual 34, 3) := by decide +kernel
theorem dX8_split_86 : decode cX8_split 86 = .ok (.return_, 1) := by decide +kernel
theorem dX8_put_0 : decode cX8_put 0 = .ok (.aload_n 0, 1) := by decide +kernel
theorem dX8_put_1 : decode cX8_put 1 = .ok (.getfield 23, 3) := by decide +kernel
theorem dX8_put_4 : decode cX8_put 4 = .ok (.sipush 1000, 3) := by decide +kernel
theorem dX8_put_7 : decode cX8_put 7 = .ok (.if_icmp .gt 29, 3) := by decide +kernel
theorem dX8_put_10 : decode cX8_put 10 = .ok (.aload_n 0, 1) := by decide +kernel
theorem dX8_put_11 : decode cX8_put 11 = .ok (.getfield 15, 3) := by decide +kernel
theorem dX8_put_14 : decode cX8_put 14 = .ok (.aload_n 0, 1) := by decide +kernel
theorem dX8_put_15 : decode cX8_put 15 = .ok (.getfield 23, 3) := by decide +kernel
theorem dX8_put_18 : decode cX8_put 18 = .ok (.iload_n 1, 1) := by decide +kernel
theorem dX8_put_19 : decode cX8_put 19 = .ok (.sipush 1024, 3) := by decide +kernel
theorem dX8_put_22 : decode cX8_put 22 = .ok (.imul, 1) := by decide +kernel
theorem dX8_put_23 : decode cX8_put 23 = .ok (.iload_n 2, 1) := by decide +kernel
theorem dX8_put_24 : decode cX8_put 24 = .ok (.iadd, 1) := by decide +kernel
theorem dX8_put_25 : decode cX8_put 25 = .ok (.iastore, 1) := by decide +kernel
theorem dX8_put_26 : decode cX8_put 26 = .ok (.aload_n 0, 1) := by decide +kernel
theorem dX8_put_27 : decode cX8_put 27 = .ok (.dup, 1) := by decide +kernel
theorem dX8_put_28 : decode cX8_put 28 = .ok (.getfield 23, 3) := by decide +kernel
theorem dX8_put_31 : decode cX8_put 31 = .ok (.iconst 1, 1) := by decide +kernel
theorem dX8_put_32 : decode cX8_put 32 = .ok (.iadd, 1) := by decide +kernel
theorem dX8_put_33 : decode cX8_put 33 = .ok (.putfield 23, 3) := by decide +kernel
theorem dX8_put_36 : decode cX8_put 36 = .ok (.return_, 1) := by decide +kernel
theorem dX8_tokenAt_0 : decode cX8_tokenAt 0 = .ok (.iload_n 1, 1) := by decide +kernel
theorem dX8_tokenAt_1 : decode cX8_tokenAt 1 = .ok (.ifCond .lt 24, 3) := by decide +kernel
theorem dX8_tokenAt_4 : decode cX8_tokenAt 4 = .ok (.iload_n 1, 1) := by decide +kernel
theorem dX8_tokenAt_5 : decode cX8_tokenAt 5 = .ok (.aload_n 0, 1) := by decide +kernel
theorem dX8_tokenAt_6 : decode cX8_tokenAt 6 = .ok (.getfield 23, 3) := by decide +kernel
theorem dX8_tokenAt_9 : decode cX8_tokenAt 9 = .ok (.if_icmp .ge 16, 3) := by decide +kernel
theorem dX8_tokenAt_12 : decode cX8_tokenAt 12 = .ok (.aload_n 0, 1) := by decide +kernel
theorem dX8_tokenAt_13 : decode cX8_tokenAt 13 = .ok (.getfield 15, 3) := by decide +kernel
theorem dX8_tokenAt_16 : decode cX8_tokenAt 16 = .ok (.iload_n 1, 1) := by decide +kernel
theorem dX8_tokenAt_17 : decode cX8_tokenAt 17 = .ok (.iaload, 1) := by decide +kernel
theorem dX8_tokenAt_18 : decode cX8_tokenAt 18 = .ok (.sipush 1024, 3) := by decide +kernel
theorem dX8_tokenAt_21 : decode cX8_tokenAt 21 = .ok (.idiv, 1) := by decide +kernel
theorem dX8_tokenAt_22 : decode cX8_tokenAt 22 = .ok (.goto 4, 3) := by decide +kernel
theorem dX8_tokenAt_25 : decode cX8_tokenAt 25 = .ok (.iconst 0, 1) := by decide +kernel
theorem dX8_tokenAt_26 : decode cX8_tokenAt 26 = .ok (.ireturn, 1) := by decide +kernel
theorem dX8_placeAt_0 : decode cX8_placeAt 0 = .ok (.iload_n 1, 1) := by decide +kernel
theorem dX8_placeAt_1 : decode cX8_placeAt 1 = .ok (.ifCond .lt 24, 3) := by decide +kernel
theorem dX8_placeAt_4 : decode cX8_placeAt 4 = .ok (.iload_n 1, 1) := by decide +kernel
theorem dX8_placeAt_5 : decode cX8_placeAt 5 = .ok (.aload_n 0, 1) := by decide +kernel
theorem dX8_placeAt_6 : decode cX8_placeAt 6 = .ok (.getfield 23, 3) := by decide +kernel
theorem dX8_placeAt_9 : decode cX8_placeAt 9 = .ok (.if_icmp .ge 16, 3) := by decide +kernel
theorem dX8_placeAt_12 : decode cX8_placeAt 12 = .ok (.aload_n 0, 1) := by decide +kernel
theorem dX8_placeAt_13 : decode cX8_placeAt 13 = .ok (.getfield 15, 3) := by decide +kernel
theorem dX8_placeAt_16 : decode cX8_placeAt 16 = .ok (.iload_n 1, 1) := by decide +kernel
theorem dX8_placeAt_17 : decode cX8_placeAt 17 = .ok (.iaload, 1) := by decide +kernel
theorem dX8_placeAt_18 : decode cX8_placeAt 18 = .ok (.sipush 1024, 3) := by decide +kernel
theorem dX8_placeAt_21 : decode cX8_placeAt 21 = .ok (.irem, 1) := by decide +kernel
theorem dX8_placeAt_22 : decode cX8_placeAt 22 = .ok (.goto 7, 3) := by decide +kernel
theorem dX8_placeAt_25 : decode cX8_placeAt 25 = .ok (.aload_n 0, 1) := by decide +kernel
theorem dX8_placeAt_26 : decode cX8_placeAt 26 = .ok (.getfield 19, 3) := by decide +kernel
theorem dX8_placeAt_29 : decode cX8_placeAt 29 = .ok (.ireturn, 1) := by decide +kernel
theorem dX8_endOf_0 : decode cX8_endOf 0 = .ok (.iload_n 1, 1) := by decide +kernel
theorem dX8_endOf_1 : decode cX8_endOf 1 = .ok (.iconst 1, 1) := by decide +kernel
theorem dX8_endOf_2 : decode cX8_endOf 2 = .ok (.iadd, 1) := by decide +kernel
theorem dX8_endOf_3 : decode cX8_endOf 3 = .ok (.istore_n 2, 1) := by decide +kernel
theorem dX8_endOf_4 : decode cX8_endOf 4 = .ok (.aload_n 0, 1) := by decide +kernel
theorem dX8_endOf_5 : decode cX8_endOf 5 = .ok (.iload_n 1, 1) := by decide +kernel
theorem dX8_endOf_6 : decode cX8_endOf 6 = .ok (.invokevirtual 43, 3) := by decide +kernel
theorem dX8_endOf_9 : decode cX8_endOf 9 = .ok (.ifCond .eq 25, 3) := by decide +kernel
theorem dX8_endOf_12 : decode cX8_endOf 12 = .ok (.iload_n 2, 1) := by decide +kernel
theorem dX8_endOf_13 : decode cX8_endOf 13 = .ok (.aload_n 0, 1) := by decide +kernel
theorem dX8_endOf_14 : decode cX8_endOf 14 = .ok (.getfield 19, 3) := by decide +kernel
theorem dX8_endOf_17 : decode cX8_endOf 17 = .ok (.if_icmp .ge 47, 3) := by decide +kernel
theorem dX8_endOf_20 : decode cX8_endOf 20 = .ok (.aload_n 0, 1) := by decide +kernel
theorem dX8_endOf_21 : decode cX8_endOf 21 = .ok (.iload_n 2, 1) := by decide +kernel
theorem dX8_endOf_22 : decode cX8_endOf 22 = .ok (.invokevirtual 43, 3) := by decide +kernel
theorem dX8_endOf_25 : decode cX8_endOf 25 = .ok (.ifCond .eq 39, 3) := by decide +kernel
theorem dX8_endOf_28 : decode cX8_endOf 28 = .ok (.iinc 2 1, 3) := by decide +kernel
theorem dX8_endOf_31 : decode cX8_endOf 31 = .ok (.goto (-19), 3) := by decide +kernel
theorem dX8_endOf_34 : decode cX8_endOf 34 = .ok (.aload_n 0, 1) := by decide +kernel
theorem dX8_endOf_35 : decode cX8_endOf 35 = .ok (.iload_n 1, 1) := by decide +kernel
theorem dX8_endOf_36 : decode cX8_endOf 36 = .ok (.invokevirtual 47, 3) := by decide +kernel
theorem dX8_endOf_39 : decode cX8_endOf 39 = .ok (.ifCond .eq 25, 3) := by decide +kernel
theorem dX8_endOf_42 : decode cX8_endOf 42 = .ok (.iload_n 2, 1) := by decide +kernel
theorem dX8_endOf_43 : decode cX8_endOf 43 = .ok (.aload_n 0, 1) := by decide +kernel
theorem dX8_endOf_44 : decode cX8_endOf 44 = .ok (.getfield 19, 3) := by decide +kernel
theorem dX8_endOf_47 : decode cX8_endOf 47 = .ok (.if_icmp .ge 17, 3) := by decide +kernel
theorem dX8_endOf_50 : decode cX8_endOf 50 = .ok (.aload_n 0, 1) := by decide +kernel
theorem dX8_endOf_51 : decode cX8_endOf 51 = .ok (.iload_n 2, 1) := by decide +kernel
theorem dX8_endOf_52 : decode cX8_endOf 52 = .ok (.invokevirtual 47, 3) := by decide +kernel
theorem dX8_endOf_55 : decode cX8_endOf 55 = .ok (.ifCond .eq 9, 3) := by decide +kernel
theorem dX8_endOf_58 : decode cX8_endOf 58 = .ok (.iinc 2 1, 3) := by decide +kernel
theorem dX8_endOf_61 : decode cX8_endOf 61 = .ok (.goto (-19), 3) := by decide +kernel
theorem dX8_endOf_64 : decode cX8_endOf 64 = .ok (.iload_n 2, 1) := by decide +kernel
theorem dX8_endOf_65 : decode cX8_endOf 65 = .ok (.ireturn, 1) := by decide +kernel
theorem dX8_isLetter_0 : decode cX8_isLetter 0 = .ok (.aload_n 0, 1) := by decide +kernel
theorem dX8_isLetter_1 : decode cX8_isLetter 1 = .ok (.getfield 9, 3) := by decide +kernel
theorem dX8_isLetter_4 : decode cX8_isLetter 4 = .ok (.iload_n 1, 1) := by decide +kernel
theorem dX8_isLetter_5 : decode cX8_isLetter 5 = .ok (.caload, 1) := by decide +kernel
theorem dX8_isLetter_6 : decode cX8_isLetter 6 = .ok (.bipush 97, 2) := by decide +kernel
theorem dX8_isLetter_8 : decode cX8_isLetter 8 = .ok (.if_icmp .lt 18, 3) := by decide +kernel
theorem dX8_isLetter_11 : decode cX8_isLetter 11 = .ok (.aload_n 0, 1) := by decide +kernel
theorem dX8_isLetter_12 : decode cX8_isLetter 12 = .ok (.getfield 9, 3) := by decide +kernel
theorem dX8_isLetter_15 : decode cX8_isLetter 15 = .ok (.iload_n 1, 1) := by decide +kernel
theorem dX8_isLetter_16 : decode cX8_isLetter 16 = .ok (.caload, 1) := by decide +kernel
theorem dX8_isLetter_17 : decode cX8_isLetter 17 = .ok (.bipush 122, 2) := by decide +kernel
theorem dX8_isLetter_19 : decode cX8_isLetter 19 = .ok (.if_icmp .gt 7, 3) := by decide +kernel
theorem dX8_isLetter_22 : decode cX8_isLetter 22 = .ok (.iconst 1, 1) := by decide +kernel
theorem dX8_isLetter_23 : decode cX8_isLetter 23 = .ok (.goto 4, 3) := by decide +kernel
theorem dX8_isLetter_26 : decode cX8_isLetter 26 = .ok (.iconst 0, 1) := by decide +kernel
theorem dX8_isLetter_27 : decode cX8_isLetter 27 = .ok (.ireturn, 1) := by decide +kernel
theorem dX8_isDigit_0 : decode cX8_isDigit 0 = .ok (.aload_n 0, 1) := by decide +kernel
theorem dX8_isDigit_1 : decode cX8_isDigit 1 = .ok (.getfield 9, 3) := by decide +kernel
theorem dX8_isDigit_4 : decode cX8_isDigit 4 = .ok (.iload_n 1, 1) := by decide +kernel
theorem dX8_isDigit_5 : decode cX8_isDigit 5 = .ok (.caload, 1) := by decide +kernel
theorem dX8_isDigit_6 : decode cX8_isDigit 6 = .ok (.bipush 48, 2) := by decide +kernel
theorem dX8_isDigit_8 : decode cX8_isDigit 8 = .ok (.if_icmp .lt 18, 3) := by decide +kernel
theorem dX8_isDigit_11 : decode cX8_isDigit 11 = .ok (.aload_n 0, 1) := by decide +kernel
theorem dX8_isDigit_12 : decode cX8_isDigit 12 = .ok (.getfield 9, 3) := by decide +kernel
theorem dX8_isDigit_15 : decode cX8_isDigit 15 = .ok (.iload_n 1, 1) := by decide +kernel
theorem dX8_isDigit_16 : decode cX8_isDigit 16 = .ok (.caload, 1) := by decide +kernel
theorem dX8_isDigit_17 : decode cX8_isDigit 17 = .ok (.bipush 57, 2) := by decide +kernel
theorem dX8_isDigit_19 : decode cX8_isDigit 19 = .ok (.if_icmp .gt 7, 3) := by decide +kernel
theorem dX8_isDigit_22 : decode cX8_isDigit 22 = .ok (.iconst 1, 1) := by decide +kernel
theorem dX8_isDigit_23 : decode cX8_isDigit 23 = .ok (.goto 4, 3) := by decide +kernel
theorem dX8_isDigit_26 : decode cX8_isDigit 26 = .ok (.iconst 0, 1) := by decide +kernel
theorem dX8_isDigit_27 : decode cX8_isDigit 27 = .ok (.ireturn, 1) := by decide +kernel
theorem dX8_tokenFrom_0 : decode cX8_tokenFrom 0 = .ok (.aload_n 0, 1) := by decide +kernel
theorem dX8_tokenFrom_1 : decode cX8_tokenFrom 1 = .ok (.iload_n 1, 1) := by decide +kernel
theorem dX8_tokenFrom_2 : decode cX8_tokenFrom 2 = .ok (.invokevirtual 43, 3) := by decide +kernel
theorem dX8_tokenFrom_5 : decode cX8_tokenFrom 5 = .ok (.ifCond .eq 22, 3) := by decide +kernel
theorem dX8_tokenFrom_8 : decode cX8_tokenFrom 8 = .ok (.iload_n 2, 1) := by decide +kernel
theorem dX8_tokenFrom_9 : decode cX8_tokenFrom 9 = .ok (.iload_n 1, 1) := by decide +kernel
theorem dX8_tokenFrom_10 : decode cX8_tokenFrom 10 = .ok (.isub, 1) := by decide +kernel
theorem dX8_tokenFrom_11 : decode cX8_tokenFrom 11 = .ok (.bipush 8, 2) := by decide +kernel
theorem dX8_tokenFrom_13 : decode cX8_tokenFrom 13 = .ok (.if_icmp .le 7, 3) := by decide +kernel
theorem dX8_tokenFrom_16 : decode cX8_tokenFrom 16 = .ok (.iconst 1, 1) := by decide +kernel
theorem dX8_tokenFrom_17 : decode cX8_tokenFrom 17 = .ok (.goto 9, 3) := by decide +kernel
theorem dX8_tokenFrom_20 : decode cX8_tokenFrom 20 = .ok (.aload_n 0, 1) := by decide +kernel
theorem dX8_tokenFrom_21 : decode cX8_tokenFrom 21 = .ok (.iload_n 1, 1) := by decide +kernel
theorem dX8_tokenFrom_22 : decode cX8_tokenFrom 22 = .ok (.iload_n 2, 1) := by decide +kernel
theorem dX8_tokenFrom_23 : decode cX8_tokenFrom 23 = .ok (.invokevirtual 50, 3) := by decide +kernel
theorem dX8_tokenFrom_26 : decode cX8_tokenFrom 26 = .ok (.ireturn, 1) := by decide +kernel
theorem dX8_tokenFrom_27 : decode cX8_tokenFrom 27 = .ok (.aload_n 0, 1) := by decide +kernel
theorem dX8_tokenFrom_28 : decode cX8_tokenFrom 28 = .ok (.iload_n 1, 1) := by decide +kernel
theorem dX8_tokenFrom_29 : decode cX8_tokenFrom 29 = .ok (.invokevirtual 47, 3) := by decide +kernel
theorem dX8_tokenFrom_32 : decode cX8_tokenFrom 32 = .ok (.ifCond .eq 25, 3) := by decide +kernel
theorem dX8_tokenFrom_35 : decode cX8_tokenFrom 35 = .ok (.iload_n 2, 1) := by decide +kernel
theorem dX8_tokenFrom_36 : decode cX8_tokenFrom 36 = .ok (.iload_n 1, 1) := by decide +kernel
theorem dX8_tokenFrom_37 : decode cX8_tokenFrom 37 = .ok (.isub, 1) := by decide +kernel
theorem dX8_tokenFrom_38 : decode cX8_tokenFrom 38 = .ok (.iconst 4, 1) := by decide +kernel
theorem dX8_tokenFrom_39 : decode cX8_tokenFrom 39 = .ok (.if_icmp .le 7, 3) := by decide +kernel
theorem dX8_tokenFrom_42 : decode cX8_tokenFrom 42 = .ok (.iconst 1, 1) := by decide +kernel
theorem dX8_tokenFrom_43 : decode cX8_tokenFrom 43 = .ok (.goto 13, 3) := by decide +kernel
theorem dX8_tokenFrom_46 : decode cX8_tokenFrom 46 = .ok (.sipush 1000, 3) := by decide +kernel
theorem dX8_tokenFrom_49 : decode cX8_tokenFrom 49 = .ok (.aload_n 0, 1) := by decide +kernel
theorem dX8_tokenFrom_50 : decode cX8_tokenFrom 50 = .ok (.iload_n 1, 1) := by decide +kernel
theorem dX8_tokenFrom_51 : decode cX8_tokenFrom 51 = .ok (.iload_n 2, 1) := by decide +kernel
theorem dX8_tokenFrom_52 : decode cX8_tokenFrom 52 = .ok (.invokevirtual 53, 3) := by decide +kernel
theorem dX8_tokenFrom_55 : decode cX8_tokenFrom 55 = .ok (.iadd, 1) := by decide +kernel
theorem dX8_tokenFrom_56 : decode cX8_tokenFrom 56 = .ok (.ireturn, 1) := by decide +kernel
theorem dX8_tokenFrom_57 : decode cX8_tokenFrom 57 = .ok (.ldc 56, 2) := by decide +kernel
theorem dX8_tokenFrom_59 : decode cX8_tokenFrom 59 = .ok (.aload_n 0, 1) := by decide +kernel
theorem dX8_tokenFrom_60 : decode cX8_tokenFrom 60 = .ok (.getfield 9, 3) := by decide +kernel
theorem dX8_tokenFrom_63 : decode cX8_tokenFrom 63 = .ok (.iload_n 1, 1) := by decide +kernel
theorem dX8_tokenFrom_64 : decode cX8_tokenFrom 64 = .ok (.caload, 1) := by decide +kernel
theorem dX8_tokenFrom_65 : decode cX8_tokenFrom 65 = .ok (.invokevirtual 58, 3) := by decide +kernel
theorem dX8_tokenFrom_68 : decode cX8_tokenFrom 68 = .ok (.ifCond .lt 12, 3) := by decide +kernel
theorem dX8_tokenFrom_71 : decode cX8_tokenFrom 71 = .ok (.aload_n 0, 1) := by decide +kernel
theorem dX8_tokenFrom_72 : decode cX8_tokenFrom 72 = .ok (.getfield 9, 3) := by decide +kernel
theorem dX8_tokenFrom_75 : decode cX8_tokenFrom 75 = .ok (.iload_n 1, 1) := by decide +kernel
theorem dX8_tokenFrom_76 : decode cX8_tokenFrom 76 = .ok (.caload, 1) := by decide +kernel
theorem dX8_tokenFrom_77 : decode cX8_tokenFrom 77 = .ok (.goto 4, 3) := by decide +kernel
theorem dX8_tokenFrom_80 : decode cX8_tokenFrom 80 = .ok (.iconst 1, 1) := by decide +kernel
theorem dX8_tokenFrom_81 : decode cX8_tokenFrom 81 = .ok (.ireturn, 1) := by decide +kernel
theorem dX8_valueFrom_0 : decode cX8_valueFrom 0 = .ok (.iconst 0, 1) := by decide +kernel
theorem dX8_valueFrom_1 : decode cX8_valueFrom 1 = .ok (.istore_n 3, 1) := by decide +kernel
theorem dX8_valueFrom_2 : decode cX8_valueFrom 2 = .ok (.iload_n 1, 1) := by decide +kernel
theorem dX8_valueFrom_3 : decode cX8_valueFrom 3 = .ok (.istore 4, 2) := by decide +kernel
theorem dX8_valueFrom_5 : decode cX8_valueFrom 5 = .ok (.iload 4, 2) := by decide +kernel
theorem dX8_valueFrom_7 : decode cX8_valueFrom 7 = .ok (.iload_n 2, 1) := by decide +kernel
theorem dX8_valueFrom_8 : decode cX8_valueFrom 8 = .ok (.if_icmp .ge 25, 3) := by decide +kernel
theorem dX8_valueFrom_11 : decode cX8_valueFrom 11 = .ok (.iload_n 3, 1) := by decide +kernel
theorem dX8_valueFrom_12 : decode cX8_valueFrom 12 = .ok (.bipush 10, 2) := by decide +kernel
theorem dX8_valueFrom_14 : decode cX8_valueFrom 14 = .ok (.imul, 1) := by decide +kernel
theorem dX8_valueFrom_15 : decode cX8_valueFrom 15 = .ok (.aload_n 0, 1) := by decide +kernel
theorem dX8_valueFrom_16 : decode cX8_valueFrom 16 = .ok (.getfield 9, 3) := by decide +kernel
theorem dX8_valueFrom_19 : decode cX8_valueFrom 19 = .ok (.iload 4, 2) := by decide +kernel
theorem dX8_valueFrom_21 : decode cX8_valueFrom 21 = .ok (.caload, 1) := by decide +kernel
theorem dX8_valueFrom_22 : decode cX8_valueFrom 22 = .ok (.iadd, 1) := by decide +kernel
theorem dX8_valueFrom_23 : decode cX8_valueFrom 23 = .ok (.bipush 48, 2) := by decide +kernel
theorem dX8_valueFrom_25 : decode cX8_valueFrom 25 = .ok (.isub, 1) := by decide +kernel
theorem dX8_valueFrom_26 : decode cX8_valueFrom 26 = .ok (.istore_n 3, 1) := by decide +kernel
theorem dX8_valueFrom_27 : decode cX8_valueFrom 27 = .ok (.iinc 4 1, 3) := by decide +kernel
theorem dX8_valueFrom_30 : decode cX8_valueFrom 30 = .ok (.goto (-25), 3) := by decide +kernel
theorem dX8_valueFrom_33 : decode cX8_valueFrom 33 = .ok (.iload_n 3, 1) := by decide +kernel
theorem dX8_valueFrom_34 : decode cX8_valueFrom 34 = .ok (.ireturn, 1) := by decide +kernel
theorem dX8_wordFrom_0 : decode cX8_wordFrom 0 = .ok (.iconst 0, 1) := by decide +kernel
theorem dX8_wordFrom_1 : decode cX8_wordFrom 1 = .ok (.istore_n 3, 1) := by decide +kernel
theorem dX8_wordFrom_2 : decode cX8_wordFrom 2 = .ok (.iload_n 3, 1) := by decide +kernel
theorem dX8_wordFrom_3 : decode cX8_wordFrom 3 = .ok (.ldc 63, 2) := by decide +kernel
theorem dX8_wordFrom_5 : decode cX8_wordFrom 5 = .ok (.invokevirtual 65, 3) := by decide +kernel
theorem dX8_wordFrom_8 : decode cX8_wordFrom 8 = .ok (.if_icmp .ge 27, 3) := by decide +kernel
theorem dX8_wordFrom_11 : decode cX8_wordFrom 11 = .ok (.aload_n 0, 1) := by decide +kernel
theorem dX8_wordFrom_12 : decode cX8_wordFrom 12 = .ok (.iload_n 3, 1) := by decide +kernel
theorem dX8_wordFrom_13 : decode cX8_wordFrom 13 = .ok (.iload_n 1, 1) := by decide +kernel
theorem dX8_wordFrom_14 : decode cX8_wordFrom 14 = .ok (.iload_n 2, 1) := by decide +kernel
theorem dX8_wordFrom_15 : decode cX8_wordFrom 15 = .ok (.invokevirtual 68, 3) := by decide +kernel
theorem dX8_wordFrom_18 : decode cX8_wordFrom 18 = .ok (.ifCond .eq 11, 3) := by decide +kernel
theorem dX8_wordFrom_21 : decode cX8_wordFrom 21 = .ok (.bipush 100, 2) := by decide +kernel
theorem dX8_wordFrom_23 : decode cX8_wordFrom 23 = .ok (.iload_n 3, 1) := by decide +kernel
theorem dX8_wordFrom_24 : decode cX8_wordFrom 24 = .ok (.bipush 8, 2) := by decide +kernel
theorem dX8_wordFrom_26 : decode cX8_wordFrom 26 = .ok (.idiv, 1) := by decide +kernel
theorem dX8_wordFrom_27 : decode cX8_wordFrom 27 = .ok (.iadd, 1) := by decide +kernel
theorem dX8_wordFrom_28 : decode cX8_wordFrom 28 = .ok (.ireturn, 1) := by decide +kernel
theorem dX8_wordFrom_29 : decode cX8_wordFrom 29 = .ok (.iinc 3 8, 3) := by decide +kernel
theorem dX8_wordFrom_32 : decode cX8_wordFrom 32 = .ok (.goto (-30), 3) := by decide +kernel
theorem dX8_wordFrom_35 : decode cX8_wordFrom 35 = .ok (.iconst 2, 1) := by decide +kernel
theorem dX8_wordFrom_36 : decode cX8_wordFrom 36 = .ok (.ireturn, 1) := by decide +kernel
theorem dX8_fills_0 : decode cX8_fills 0 = .ok (.iconst 0, 1) := by decide +kernel
theorem dX8_fills_1 : decode cX8_fills 1 = .ok (.istore 4, 2) := by decide +kernel
theorem dX8_fills_3 : decode cX8_fills 3 = .ok (.iload 4, 2) := by decide +kernel
theorem dX8_fills_5 : decode cX8_fills 5 = .ok (.bipush 8, 2) := by decide +kernel
theorem dX8_fills_7 : decode cX8_fills 7 = .ok (.if_icmp .ge 61, 3) := by decide +kernel
theorem dX8_fills_10 : decode cX8_fills 10 = .ok (.iload_n 1, 1) := by decide +kernel
theorem dX8_fills_11 : decode cX8_fills 11 = .ok (.iload 4, 2) := by decide +kernel
theorem dX8_fills_13 : decode cX8_fills 13 = .ok (.iadd, 1) := by decide +kernel
theorem dX8_fills_14 : decode cX8_fills 14 = .ok (.ldc 63, 2) := by decide +kernel
theorem dX8_fills_16 : decode cX8_fills 16 = .ok (.invokevirtual 65, 3) := by decide +kernel
theorem dX8_fills_19 : decode cX8_fills 19 = .ok (.if_icmp .ge 49, 3) := by decide +kernel
theorem dX8_fills_22 : decode cX8_fills 22 = .ok (.iload_n 2, 1) := by decide +kernel
theorem dX8_fills_23 : decode cX8_fills 23 = .ok (.iload 4, 2) := by decide +kernel
theorem dX8_fills_25 : decode cX8_fills 25 = .ok (.iadd, 1) := by decide +kernel
theorem dX8_fills_26 : decode cX8_fills 26 = .ok (.iload_n 3, 1) := by decide +kernel
theorem dX8_fills_27 : decode cX8_fills 27 = .ok (.if_icmp .ge 15, 3) := by decide +kernel
theorem dX8_fills_30 : decode cX8_fills 30 = .ok (.aload_n 0, 1) := by decide +kernel
theorem dX8_fills_31 : decode cX8_fills 31 = .ok (.getfield 9, 3) := by decide +kernel
theorem dX8_fills_34 : decode cX8_fills 34 = .ok (.iload_n 2, 1) := by decide +kernel
theorem dX8_fills_35 : decode cX8_fills 35 = .ok (.iload 4, 2) := by decide +kernel
theorem dX8_fills_37 : decode cX8_fills 37 = .ok (.iadd, 1) := by decide +kernel
theorem dX8_fills_38 : decode cX8_fills 38 = .ok (.caload, 1) := by decide +kernel
theorem dX8_fills_39 : decode cX8_fills 39 = .ok (.goto 5, 3) := by decide +kernel
theorem dX8_fills_42 : decode cX8_fills 42 = .ok (.bipush 46, 2) := by decide +kernel
theorem dX8_fills_44 : decode cX8_fills 44 = .ok (.istore 5, 2) := by decide +kernel
theorem dX8_fills_46 : decode cX8_fills 46 = .ok (.ldc 63, 2) := by decide +kernel
theorem dX8_fills_48 : decode cX8_fills 48 = .ok (.iload_n 1, 1) := by decide +kernel
theorem dX8_fills_49 : decode cX8_fills 49 = .ok (.iload 4, 2) := by decide +kernel
theorem dX8_fills_51 : decode cX8_fills 51 = .ok (.iadd, 1) := by decide +kernel
theorem dX8_fills_52 : decode cX8_fills 52 = .ok (.invokevirtual 72, 3) := by decide +kernel
theorem dX8_fills_55 : decode cX8_fills 55 = .ok (.iload 5, 2) := by decide +kernel
theorem dX8_fills_57 : decode cX8_fills 57 = .ok (.if_icmp .eq 5, 3) := by decide +kernel
theorem dX8_fills_60 : decode cX8_fills 60 = .ok (.iconst 0, 1) := by decide +kernel
theorem dX8_fills_61 : decode cX8_fills 61 = .ok (.ireturn, 1) := by decide +kernel
theorem dX8_fills_62 : decode cX8_fills 62 = .ok (.iinc 4 1, 3) := by decide +kernel
theorem dX8_fills_65 : decode cX8_fills 65 = .ok (.goto (-62), 3) := by decide +kernel
theorem dX8_fills_68 : decode cX8_fills 68 = .ok (.iconst 1, 1) := by decide +kernel
theorem dX8_fills_69 : decode cX8_fills 69 = .ok (.ireturn, 1) := by decide +kernel
theorem dX8_sameWord_0 : decode cX8_sameWord 0 = .ok (.iconst 0, 1) := by decide +kernel
theorem dX8_sameWord_1 : decode cX8_sameWord 1 = .ok (.istore_n 3, 1) := by decide +kernel
theorem dX8_sameWord_2 : decode cX8_sameWord 2 = .ok (.iload_n 3, 1) := by decide +kernel
theorem dX8_sameWord_3 : decode cX8_sameWord 3 = .ok (.bipush 8, 2) := by decide +kernel
theorem dX8_sameWord_5 : decode cX8_sameWord 5 = .ok (.if_icmp .gt 45, 3) := by decide +kernel
theorem dX8_sameWord_8 : decode cX8_sameWord 8 = .ok (.aload_n 0, 1) := by decide +kernel
theorem dX8_sameWord_9 : decode cX8_sameWord 9 = .ok (.iload_n 1, 1) := by decide +kernel
theorem dX8_sameWord_10 : decode cX8_sameWord 10 = .ok (.iload_n 3, 1) := by decide +kernel
theorem dX8_sameWord_11 : decode cX8_sameWord 11 = .ok (.iadd, 1) := by decide +kernel
theorem dX8_sameWord_12 : decode cX8_sameWord 12 = .ok (.invokevirtual 76, 3) := by decide +kernel
theorem dX8_sameWord_15 : decode cX8_sameWord 15 = .ok (.istore 4, 2) := by decide +kernel
theorem dX8_sameWord_17 : decode cX8_sameWord 17 = .ok (.aload_n 0, 1) := by decide +kernel
theorem dX8_sameWord_18 : decode cX8_sameWord 18 = .ok (.iload_n 2, 1) := by decide +kernel
theorem dX8_sameWord_19 : decode cX8_sameWord 19 = .ok (.iload_n 3, 1) := by decide +kernel
theorem dX8_sameWord_20 : decode cX8_sameWord 20 = .ok (.iadd, 1) := by decide +kernel
theorem dX8_sameWord_21 : decode cX8_sameWord 21 = .ok (.invokevirtual 76, 3) := by decide +kernel
theorem dX8_sameWord_24 : decode cX8_sameWord 24 = .ok (.istore 5, 2) := by decide +kernel
theorem dX8_sameWord_26 : decode cX8_sameWord 26 = .ok (.iload 4, 2) := by decide +kernel
theorem dX8_sameWord_28 : decode cX8_sameWord 28 = .ok (.iload 5, 2) := by decide +kernel
theorem dX8_sameWord_30 : decode cX8_sameWord 30 = .ok (.if_icmp .eq 5, 3) := by decide +kernel
theorem dX8_sameWord_33 : decode cX8_sameWord 33 = .ok (.iconst 0, 1) := by decide +kernel
theorem dX8_sameWord_34 : decode cX8_sameWord 34 = .ok (.ireturn, 1) := by decide +kernel
theorem dX8_sameWord_35 : decode cX8_sameWord 35 = .ok (.iload 4, 2) := by decide +kernel
theorem dX8_sameWord_37 : decode cX8_sameWord 37 = .ok (.bipush 32, 2) := by decide +kernel
theorem dX8_sameWord_39 : decode cX8_sameWord 39 = .ok (.if_icmp .ne 5, 3) := by decide +kernel
theorem dX8_sameWord_42 : decode cX8_sameWord 42 = .ok (.iconst 1, 1) := by decide +kernel
theorem dX8_sameWord_43 : decode cX8_sameWord 43 = .ok (.ireturn, 1) := by decide +kernel
theorem dX8_sameWord_44 : decode cX8_sameWord 44 = .ok (.iinc 3 1, 3) := by decide +kernel
theorem dX8_sameWord_47 : decode cX8_sameWord 47 = .ok (.goto (-45), 3) := by decide +kernel
theorem dX8_sameWord_50 : decode cX8_sameWord 50 = .ok (.iconst 1, 1) := by decide +kernel
theorem dX8_sameWord_51 : decode cX8_sameWord 51 = .ok (.ireturn, 1) := by decide +kernel
theorem dX8_letterAt_0 : decode cX8_letterAt 0 = .ok (.iload_n 1, 1) := by decide +kernel
theorem dX8_letterAt_1 : decode cX8_letterAt 1 = .ok (.ifCond .lt 37, 3) := by decide +kernel
theorem dX8_letterAt_4 : decode cX8_letterAt 4 = .ok (.iload_n 1, 1) := by decide +kernel
theorem dX8_letterAt_5 : decode cX8_letterAt 5 = .ok (.aload_n 0, 1) := by decide +kernel
theorem dX8_letterAt_6 : decode cX8_letterAt 6 = .ok (.getfield 19, 3) := by decide +kernel
theorem dX8_letterAt_9 : decode cX8_letterAt 9 = .ok (.if_icmp .ge 29, 3) := by decide +kernel
theorem dX8_letterAt_12 : decode cX8_letterAt 12 = .ok (.aload_n 0, 1) := by decide +kernel
theorem dX8_letterAt_13 : decode cX8_letterAt 13 = .ok (.getfield 9, 3) := by decide +kernel
theorem dX8_letterAt_16 : decode cX8_letterAt 16 = .ok (.iload_n 1, 1) := by decide +kernel
theorem dX8_letterAt_17 : decode cX8_letterAt 17 = .ok (.caload, 1) := by decide +kernel
theorem dX8_letterAt_18 : decode cX8_letterAt 18 = .ok (.bipush 97, 2) := by decide +kernel
theorem dX8_letterAt_20 : decode cX8_letterAt 20 = .ok (.if_icmp .lt 18, 3) := by decide +kernel
theorem dX8_letterAt_23 : decode cX8_letterAt 23 = .ok (.aload_n 0, 1) := by decide +kernel
theorem dX8_letterAt_24 : decode cX8_letterAt 24 = .ok (.getfield 9, 3) := by decide +kernel
theorem dX8_letterAt_27 : decode cX8_letterAt 27 = .ok (.iload_n 1, 1) := by decide +kernel
theorem dX8_letterAt_28 : decode cX8_letterAt 28 = .ok (.caload, 1) := by decide +kernel
theorem dX8_letterAt_29 : decode cX8_letterAt 29 = .ok (.bipush 122, 2) := by decide +kernel
theorem dX8_letterAt_31 : decode cX8_letterAt 31 = .ok (.if_icmp .gt 7, 3) := by decide +kernel
theorem dX8_letterAt_34 : decode cX8_letterAt 34 = .ok (.iconst 1, 1) := by decide +kernel
theorem dX8_letterAt_35 : decode cX8_letterAt 35 = .ok (.goto 4, 3) := by decide +kernel
theorem dX8_letterAt_38 : decode cX8_letterAt 38 = .ok (.iconst 0, 1) := by decide +kernel
theorem dX8_letterAt_39 : decode cX8_letterAt 39 = .ok (.istore_n 2, 1) := by decide +kernel
theorem dX8_letterAt_40 : decode cX8_letterAt 40 = .ok (.iload_n 2, 1) := by decide +kernel
theorem dX8_letterAt_41 : decode cX8_letterAt 41 = .ok (.ifCond .eq 12, 3) := by decide +kernel
theorem dX8_letterAt_44 : decode cX8_letterAt 44 = .ok (.aload_n 0, 1) := by decide +kernel
theorem dX8_letterAt_45 : decode cX8_letterAt 45 = .ok (.getfield 9, 3) := by decide +kernel
theorem dX8_letterAt_48 : decode cX8_letterAt 48 = .ok (.iload_n 1, 1) := by decide +kernel
theorem dX8_letterAt_49 : decode cX8_letterAt 49 = .ok (.caload, 1) := by decide +kernel
theorem dX8_letterAt_50 : decode cX8_letterAt 50 = .ok (.goto 5, 3) := by decide +kernel
theorem dX8_letterAt_53 : decode cX8_letterAt 53 = .ok (.bipush 32, 2) := by decide +kernel
theorem dX8_letterAt_55 : decode cX8_letterAt 55 = .ok (.ireturn, 1) := by decide +kernel
theorem dX9_init_0 : decode cX9_init 0 = .ok (.aload_n 0, 1) := by decide +kernel
theorem dX9_init_1 : decode cX9_init 1 = .ok (.invokespecial 3, 3) := by decide +kernel
theorem dX9_init_4 : decode cX9_init 4 = .ok (.aload_n 0, 1) := by decide +kernel
theorem dX9_init_5 : decode cX9_init 5 = .ok (.sipush 960, 3) := by decide +kernel
theorem dX9_init_8 : decode cX9_init 8 = .ok (.newarray .int, 2) := by decide +kernel
theorem dX9_init_10 : decode cX9_init 10 = .ok (.putfield 9, 3) := by decide +kernel
theorem dX9_init_13 : decode cX9_init 13 = .ok (.aload_n 0, 1) := by decide +kernel
theorem dX9_init_14 : decode cX9_init 14 = .ok (.bipush 100, 2) := by decide +kernel
theorem dX9_init_16 : decode cX9_init 16 = .ok (.newarray .int, 2) := by decide +kernel
theorem dX9_init_18 : decode cX9_init 18 = .ok (.putfield 15, 3) := by decide +kernel
theorem dX9_init_21 : decode cX9_init 21 = .ok (.aload_n 0, 1) := by decide +kernel
theorem dX9_init_22 : decode cX9_init 22 = .ok (.aload_n 1, 1) := by decide +kernel
theorem dX9_init_23 : decode cX9_init 23 = .ok (.putfield 18, 3) := by decide +kernel
theorem dX9_init_26 : decode cX9_init 26 = .ok (.aload_n 0, 1) := by decide +kernel
theorem dX9_init_27 : decode cX9_init 27 = .ok (.aload_n 2, 1) := by decide +kernel
theorem dX9_init_28 : decode cX9_init 28 = .ok (.putfield 22, 3) := by decide +kernel
theorem dX9_init_31 : decode cX9_init 31 = .ok (.aload_n 0, 1) := by decide +kernel
theorem dX9_init_32 : decode cX9_init 32 = .ok (.aload_n 3, 1) := by decide +kernel
theorem dX9_init_33 : decode cX9_init 33 = .ok (.putfield 26, 3) := by decide +kernel
theorem dX9_init_36 : decode cX9_init 36 = .ok (.aload_n 0, 1) := by decide +kernel
theorem dX9_init_37 : decode cX9_init 37 = .ok (.aload 4, 2) := by decide +kernel
theorem dX9_init_39 : decode cX9_init 39 = .ok (.putfield 30, 3) := by decide +kernel
theorem dX9_init_42 : decode cX9_init 42 = .ok (.aload_n 0, 1) := by decide +kernel
theorem dX9_init_43 : decode cX9_init 43 = .ok (.new 34, 3) := by decide +kernel
theorem dX9_init_46 : decode cX9_init 46 = .ok (.dup, 1) := by decide +kernel
theorem dX9_init_47 : decode cX9_init 47 = .ok (.aload_n 1, 1) := by decide +kernel
theorem dX9_init_48 : decode cX9_init 48 = .ok (.invokespecial 36, 3) := by decide +kernel
theorem dX9_init_51 : decode cX9_init 51 = .ok (.putfield 39, 3) := by decide +kernel
theorem dX9_init_54 : decode cX9_init 54 = .ok (.return_, 1) := by decide +kernel
theorem dX9_learn_0 : decode cX9_learn 0 = .ok (.aload_n 0, 1) := by decide +kernel
theorem dX9_learn_1 : decode cX9_learn 1 = .ok (.getfield 43, 3) := by decide +kernel
theorem dX9_learn_4 : decode cX9_learn 4 = .ok (.ifCond .eq 4, 3) := by decide +kernel
theorem dX9_learn_7 : decode cX9_learn 7 = .ok (.return_, 1) := by decide +kernel
theorem dX9_learn_8 : decode cX9_learn 8 = .ok (.aload_n 0, 1) := by decide +kernel
theorem dX9_learn_9 : decode cX9_learn 9 = .ok (.iconst 1, 1) := by decide +kernel
theorem dX9_learn_10 : decode cX9_learn 10 = .ok (.putfield 43, 3) := by decide +kernel
theorem dX9_learn_13 : decode cX9_learn 13 = .ok (.aload_n 0, 1) := by decide +kernel
theorem dX9_learn_14 : decode cX9_learn 14 = .ok (.getfield 26, 3) := by decide +kernel
theorem dX9_learn_17 : decode cX9_learn 17 = .ok (.invokevirtual 47, 3) := by decide +kernel
theorem dX9_learn_20 : decode cX9_learn 20 = .ok (.aload_n 0, 1) := by decide +kernel
theorem dX9_learn_21 : decode cX9_learn 21 = .ok (.getfield 15, 3) := by decide +kernel
theorem dX9_learn_24 : decode cX9_learn 24 = .ok (.iconst (-1), 1) := by decide +kernel
theorem dX9_learn_25 : decode cX9_learn 25 = .ok (.invokestatic 52, 3) := by decide +kernel
theorem dX9_learn_28 : decode cX9_learn 28 = .ok (.aload_n 0, 1) := by decide +kernel
theorem dX9_learn_29 : decode cX9_learn 29 = .ok (.getfield 9, 3) := by decide +kernel
theorem dX9_learn_32 : decode cX9_learn 32 = .ok (.iconst (-1), 1) := by decide +kernel
theorem dX9_learn_33 : decode cX9_learn 33 = .ok (.invokestatic 52, 3) := by decide +kernel
theorem dX9_learn_36 : decode cX9_learn 36 = .ok (.return_, 1) := by decide +kernel
theorem dX9_reasonOf_0 : decode cX9_reasonOf 0 = .ok (.iconst 4, 1) := by decide +kernel
theorem dX9_reasonOf_1 : decode cX9_reasonOf 1 = .ok (.aload_n 0, 1) := by decide +kernel
theorem dX9_reasonOf_2 : decode cX9_reasonOf 2 = .ok (.iload_n 1, 1) := by decide +kernel
theorem dX9_reasonOf_3 : decode cX9_reasonOf 3 = .ok (.iload_n 2, 1) := by decide +kernel
theorem dX9_reasonOf_4 : decode cX9_reasonOf 4 = .ok (.invokevirtual 58, 3) := by decide +kernel
theorem dX9_reasonOf_7 : decode cX9_reasonOf 7 = .ok (.invokestatic 62, 3) := by decide +kernel
theorem dX9_reasonOf_10 : decode cX9_reasonOf 10 = .ok (.ireturn, 1) := by decide +kernel
theorem dX9_reasonKept_0 : decode cX9_reasonKept 0 = .ok (.aload_n 0, 1) := by decide +kernel
theorem dX9_reasonKept_1 : decode cX9_reasonKept 1 = .ok (.getfield 22, 3) := by decide +kernel
theorem dX9_reasonKept_4 : decode cX9_reasonKept 4 = .ok (.iload_n 1, 1) := by decide +kernel
theorem dX9_reasonKept_5 : decode cX9_reasonKept 5 = .ok (.iload_n 2, 1) := by decide +kernel
theorem dX9_reasonKept_6 : decode cX9_reasonKept 6 = .ok (.invokevirtual 67, 3) := by decide +kernel
theorem dX9_reasonKept_9 : decode cX9_reasonKept 9 = .ok (.ifCond .ne 5, 3) := by decide +kernel
theorem dX9_reasonKept_12 : decode cX9_reasonKept 12 = .ok (.iconst 1, 1) := by decide +kernel
theorem dX9_reasonKept_13 : decode cX9_reasonKept 13 = .ok (.ireturn, 1) := by decide +kernel
theorem dX9_reasonKept_14 : decode cX9_reasonKept 14 = .ok (.aload_n 0, 1) := by decide +kernel
theorem dX9_reasonKept_15 : decode cX9_reasonKept 15 = .ok (.invokevirtual 73, 3) := by decide +kernel
theorem dX9_reasonKept_18 : decode cX9_reasonKept 18 = .ok (.iload_n 1, 1) := by decide +kernel
theorem dX9_reasonKept_19 : decode cX9_reasonKept 19 = .ok (.bipush 40, 2) := by decide +kernel
theorem dX9_reasonKept_21 : decode cX9_reasonKept 21 = .ok (.imul, 1) := by decide +kernel
theorem dX9_reasonKept_22 : decode cX9_reasonKept 22 = .ok (.iload_n 2, 1) := by decide +kernel
theorem dX9_reasonKept_23 : decode cX9_reasonKept 23 = .ok (.iadd, 1) := by decide +kernel
theorem dX9_reasonKept_24 : decode cX9_reasonKept 24 = .ok (.aload_n 0, 1) := by decide +kernel
theorem dX9_reasonKept_25 : decode cX9_reasonKept 25 = .ok (.getfield 22, 3) := by decide +kernel
theorem dX9_reasonKept_28 : decode cX9_reasonKept 28 = .ok (.getfield 74, 3) := by decide +kernel
theorem dX9_reasonKept_31 : decode cX9_reasonKept 31 = .ok (.iload_n 1, 1) := by decide +kernel
theorem dX9_reasonKept_32 : decode cX9_reasonKept 32 = .ok (.iaload, 1) := by decide +kernel
theorem dX9_reasonKept_33 : decode cX9_reasonKept 33 = .ok (.isub, 1) := by decide +kernel
theorem dX9_reasonKept_34 : decode cX9_reasonKept 34 = .ok (.istore_n 3, 1) := by decide +kernel
theorem dX9_reasonKept_35 : decode cX9_reasonKept 35 = .ok (.aload_n 0, 1) := by decide +kernel
theorem dX9_reasonKept_36 : decode cX9_reasonKept 36 = .ok (.getfield 9, 3) := by decide +kernel
theorem dX9_reasonKept_39 : decode cX9_reasonKept 39 = .ok (.iload_n 3, 1) := by decide +kernel
theorem dX9_reasonKept_40 : decode cX9_reasonKept 40 = .ok (.iaload, 1) := by decide +kernel
theorem dX9_reasonKept_41 : decode cX9_reasonKept 41 = .ok (.iconst (-1), 1) := by decide +kernel
theorem dX9_reasonKept_42 : decode cX9_reasonKept 42 = .ok (.if_icmp .ne 15, 3) := by decide +kernel
theorem dX9_reasonKept_45 : decode cX9_reasonKept 45 = .ok (.aload_n 0, 1) := by decide +kernel
theorem dX9_reasonKept_46 : decode cX9_reasonKept 46 = .ok (.getfield 9, 3) := by decide +kernel
theorem dX9_reasonKept_49 : decode cX9_reasonKept 49 = .ok (.iload_n 3, 1) := by decide +kernel
theorem dX9_reasonKept_50 : decode cX9_reasonKept 50 = .ok (.aload_n 0, 1) := by decide +kernel
theorem dX9_reasonKept_51 : decode cX9_reasonKept 51 = .ok (.iload_n 1, 1) := by decide +kernel
theorem dX9_reasonKept_52 : decode cX9_reasonKept 52 = .ok (.iload_n 2, 1) := by decide +kernel
theorem dX9_reasonKept_53 : decode cX9_reasonKept 53 = .ok (.invokevirtual 77, 3) := by decide +kernel
theorem dX9_reasonKept_56 : decode cX9_reasonKept 56 = .ok (.iastore, 1) := by decide +kernel
theorem dX9_reasonKept_57 : decode cX9_reasonKept 57 = .ok (.aload_n 0, 1) := by decide +kernel
theorem dX9_reasonKept_58 : decode cX9_reasonKept 58 = .ok (.getfield 9, 3) := by decide +kernel
theorem dX9_reasonKept_61 : decode cX9_reasonKept 61 = .ok (.iload_n 3, 1) := by decide +kernel
theorem dX9_reasonKept_62 : decode cX9_reasonKept 62 = .ok (.iaload, 1) := by decide +kernel
theorem dX9_reasonKept_63 : decode cX9_reasonKept 63 = .ok (.ireturn, 1) := by decide +kernel
theorem dX9_reasonFound_0 : decode cX9_reasonFound 0 = .ok (.iload_n 2, 1) := by decide +kernel
theorem dX9_reasonFound_1 : decode cX9_reasonFound 1 = .ok (.aload_n 0, 1) := by decide +kernel
theorem dX9_reasonFound_2 : decode cX9_reasonFound 2 = .ok (.getfield 22, 3) := by decide +kernel
theorem dX9_reasonFound_5 : decode cX9_reasonFound 5 = .ok (.getfield 74, 3) := by decide +kernel
theorem dX9_reasonFound_8 : decode cX9_reasonFound 8 = .ok (.iload_n 1, 1) := by decide +kernel
theorem dX9_reasonFound_9 : decode cX9_reasonFound 9 = .ok (.iaload, 1) := by decide +kernel
theorem dX9_reasonFound_10 : decode cX9_reasonFound 10 = .ok (.isub, 1) := by decide +kernel
theorem dX9_reasonFound_11 : decode cX9_reasonFound 11 = .ok (.istore_n 3, 1) := by decide +kernel
theorem dX9_reasonFound_12 : decode cX9_reasonFound 12 = .ok (.iload_n 3, 1) := by decide +kernel
theorem dX9_reasonFound_13 : decode cX9_reasonFound 13 = .ok (.aload_n 0, 1) := by decide +kernel
theorem dX9_reasonFound_14 : decode cX9_reasonFound 14 = .ok (.getfield 18, 3) := by decide +kernel
theorem dX9_reasonFound_17 : decode cX9_reasonFound 17 = .ok (.getfield 80, 3) := by decide +kernel
theorem dX9_reasonFound_20 : decode cX9_reasonFound 20 = .ok (.iconst 3, 1) := by decide +kernel
theorem dX9_reasonFound_21 : decode cX9_reasonFound 21 = .ok (.iaload, 1) := by decide +kernel
theorem dX9_reasonFound_22 : decode cX9_reasonFound 22 = .ok (.if_icmp .ge 5, 3) := by decide +kernel
theorem dX9_reasonFound_25 : decode cX9_reasonFound 25 = .ok (.iconst 1, 1) := by decide +kernel
theorem dX9_reasonFound_26 : decode cX9_reasonFound 26 = .ok (.ireturn, 1) := by decide +kernel
theorem dX9_reasonFound_27 : decode cX9_reasonFound 27 = .ok (.aload_n 0, 1) := by decide +kernel
theorem dX9_reasonFound_28 : decode cX9_reasonFound 28 = .ok (.getfield 26, 3) := by decide +kernel
theorem dX9_reasonFound_31 : decode cX9_reasonFound 31 = .ok (.aload_n 0, 1) := by decide +kernel
theorem dX9_reasonFound_32 : decode cX9_reasonFound 32 = .ok (.getfield 22, 3) := by decide +kernel
theorem dX9_reasonFound_35 : decode cX9_reasonFound 35 = .ok (.getfield 85, 3) := by decide +kernel
theorem dX9_reasonFound_38 : decode cX9_reasonFound 38 = .ok (.iload_n 1, 1) := by decide +kernel
theorem dX9_reasonFound_39 : decode cX9_reasonFound 39 = .ok (.iaload, 1) := by decide +kernel
theorem dX9_reasonFound_40 : decode cX9_reasonFound 40 = .ok (.iload_n 2, 1) := by decide +kernel
theorem dX9_reasonFound_41 : decode cX9_reasonFound 41 = .ok (.invokevirtual 88, 3) := by decide +kernel
theorem dX9_reasonFound_44 : decode cX9_reasonFound 44 = .ok (.ifCond .eq 5, 3) := by decide +kernel
theorem dX9_reasonFound_47 : decode cX9_reasonFound 47 = .ok (.iconst 2, 1) := by decide +kernel
theorem dX9_reasonFound_48 : decode cX9_reasonFound 48 = .ok (.ireturn, 1) := by decide +kernel
theorem dX9_reasonFound_49 : decode cX9_reasonFound 49 = .ok (.aload_n 0, 1) := by decide +kernel
theorem dX9_reasonFound_50 : decode cX9_reasonFound 50 = .ok (.getfield 30, 3) := by decide +kernel
theorem dX9_reasonFound_53 : decode cX9_reasonFound 53 = .ok (.iload_n 1, 1) := by decide +kernel
theorem dX9_reasonFound_54 : decode cX9_reasonFound 54 = .ok (.iload_n 3, 1) := by decide +kernel
theorem dX9_reasonFound_55 : decode cX9_reasonFound 55 = .ok (.invokevirtual 91, 3) := by decide +kernel
theorem dX9_reasonFound_58 : decode cX9_reasonFound 58 = .ok (.ifCond .eq 5, 3) := by decide +kernel
theorem dX9_reasonFound_61 : decode cX9_reasonFound 61 = .ok (.iconst 3, 1) := by decide +kernel
theorem dX9_reasonFound_62 : decode cX9_reasonFound 62 = .ok (.ireturn, 1) := by decide +kernel
theorem dX9_reasonFound_63 : decode cX9_reasonFound 63 = .ok (.aload_n 0, 1) := by decide +kernel
theorem dX9_reasonFound_64 : decode cX9_reasonFound 64 = .ok (.iload_n 1, 1) := by decide +kernel
theorem dX9_reasonFound_65 : decode cX9_reasonFound 65 = .ok (.iload_n 2, 1) := by decide +kernel
theorem dX9_reasonFound_66 : decode cX9_reasonFound 66 = .ok (.invokevirtual 96, 3) := by decide +kernel
theorem dX9_reasonFound_69 : decode cX9_reasonFound 69 = .ok (.aload_n 0, 1) := by decide +kernel
theorem dX9_reasonFound_70 : decode cX9_reasonFound 70 = .ok (.iload_n 1, 1) := by decide +kernel
theorem dX9_reasonFound_71 : decode cX9_reasonFound 71 = .ok (.aload_n 0, 1) := by decide +kernel
theorem dX9_reasonFound_72 : decode cX9_reasonFound 72 = .ok (.getfield 18, 3) := by decide +kernel
theorem dX9_reasonFound_75 : decode cX9_reasonFound 75 = .ok (.getfield 80, 3) := by decide +kernel
theorem dX9_reasonFound_78 : decode cX9_reasonFound 78 = .ok (.iconst 0, 1) := by decide +kernel
theorem dX9_reasonFound_79 : decode cX9_reasonFound 79 = .ok (.iaload, 1) := by decide +kernel
theorem dX9_reasonFound_80 : decode cX9_reasonFound 80 = .ok (.invokevirtual 100, 3) := by decide +kernel
theorem dX9_reasonFound_83 : decode cX9_reasonFound 83 = .ok (.istore 4, 2) := by decide +kernel
theorem dX9_reasonFound_85 : decode cX9_reasonFound 85 = .ok (.aload_n 0, 1) := by decide +kernel
theorem dX9_reasonFound_86 : decode cX9_reasonFound 86 = .ok (.getfield 39, 3) := by decide +kernel
theorem dX9_reasonFound_89 : decode cX9_reasonFound 89 = .ok (.aload_n 0, 1) := by decide +kernel
theorem dX9_reasonFound_90 : decode cX9_reasonFound 90 = .ok (.getfield 18, 3) := by decide +kernel
theorem dX9_reasonFound_93 : decode cX9_reasonFound 93 = .ok (.getfield 103, 3) := by decide +kernel
theorem dX9_reasonFound_96 : decode cX9_reasonFound 96 = .ok (.iconst (-1), 1) := by decide +kernel
theorem dX9_reasonFound_97 : decode cX9_reasonFound 97 = .ok (.ixor, 1) := by decide +kernel
theorem dX9_reasonFound_98 : decode cX9_reasonFound 98 = .ok (.iload 4, 2) := by decide +kernel
theorem dX9_reasonFound_100 : decode cX9_reasonFound 100 = .ok (.invokevirtual 107, 3) := by decide +kernel
theorem dX9_reasonFound_103 : decode cX9_reasonFound 103 = .ok (.ifCond .ne 5, 3) := by decide +kernel
theorem dX9_reasonFound_106 : decode cX9_reasonFound 106 = .ok (.iconst 5, 1) := by decide +kernel
theorem dX9_reasonFound_107 : decode cX9_reasonFound 107 = .ok (.ireturn, 1) := by decide +kernel
theorem dX9_reasonFound_108 : decode cX9_reasonFound 108 = .ok (.aload_n 0, 1) := by decide +kernel
theorem dX9_reasonFound_109 : decode cX9_reasonFound 109 = .ok (.getfield 39, 3) := by decide +kernel
theorem dX9_reasonFound_112 : decode cX9_reasonFound 112 = .ok (.aload_n 0, 1) := by decide +kernel
theorem dX9_reasonFound_113 : decode cX9_reasonFound 113 = .ok (.getfield 18, 3) := by decide +kernel
theorem dX9_reasonFound_116 : decode cX9_reasonFound 116 = .ok (.getfield 103, 3) := by decide +kernel
theorem dX9_reasonFound_119 : decode cX9_reasonFound 119 = .ok (.iload 4, 2) := by decide +kernel
theorem dX9_reasonFound_121 : decode cX9_reasonFound 121 = .ok (.invokevirtual 107, 3) := by decide +kernel
theorem dX9_reasonFound_124 : decode cX9_reasonFound 124 = .ok (.ifCond .eq 7, 3) := by decide +kernel
theorem dX9_reasonFound_127 : decode cX9_reasonFound 127 = .ok (.iconst 0, 1) := by decide +kernel
theorem dX9_reasonFound_128 : decode cX9_reasonFound 128 = .ok (.goto 4, 3) := by decide +kernel
theorem dX9_reasonFound_131 : decode cX9_reasonFound 131 = .ok (.iconst 4, 1) := by decide +kernel
theorem dX9_reasonFound_132 : decode cX9_reasonFound 132 = .ok (.ireturn, 1) := by decide +kernel
theorem dX9_tellLaw_0 : decode cX9_tellLaw 0 = .ok (.aload_n 0, 1) := by decide +kernel
theorem dX9_tellLaw_1 : decode cX9_tellLaw 1 = .ok (.getfield 22, 3) := by decide +kernel
theorem dX9_tellLaw_4 : decode cX9_tellLaw 4 = .ok (.getfield 85, 3) := by decide +kernel
theorem dX9_tellLaw_7 : decode cX9_tellLaw 7 = .ok (.iload_n 1, 1) := by decide +kernel
theorem dX9_tellLaw_8 : decode cX9_tellLaw 8 = .ok (.iaload, 1) := by decide +kernel
theorem dX9_tellLaw_9 : decode cX9_tellLaw 9 = .ok (.istore_n 3, 1) := by decide +kernel
theorem dX9_tellLaw_10 : decode cX9_tellLaw 10 = .ok (.aload_n 0, 1) := by decide +kernel
theorem dX9_tellLaw_11 : decode cX9_tellLaw 11 = .ok (.getfield 22, 3) := by decide +kernel
theorem dX9_tellLaw_14 : decode cX9_tellLaw 14 = .ok (.getfield 110, 3) := by decide +kernel
theorem dX9_tellLaw_17 : decode cX9_tellLaw 17 = .ok (.iload_n 1, 1) := by decide +kernel
theorem dX9_tellLaw_18 : decode cX9_tellLaw 18 = .ok (.iaload, 1) := by decide +kernel
theorem dX9_tellLaw_19 : decode cX9_tellLaw 19 = .ok (.aload_n 0, 1) := by decide +kernel
theorem dX9_tellLaw_20 : decode cX9_tellLaw 20 = .ok (.getfield 18, 3) := by decide +kernel
theorem dX9_tellLaw_23 : decode cX9_tellLaw 23 = .ok (.getfield 113, 3) := by decide +kernel
theorem dX9_tellLaw_26 : decode cX9_tellLaw 26 = .ok (.iload_n 3, 1) := by decide +kernel
theorem dX9_tellLaw_27 : decode cX9_tellLaw 27 = .ok (.iaload, 1) := by decide +kernel
theorem dX9_tellLaw_28 : decode cX9_tellLaw 28 = .ok (.iconst 2, 1) := by decide +kernel
theorem dX9_tellLaw_29 : decode cX9_tellLaw 29 = .ok (.if_icmp .ne 7, 3) := by decide +kernel
theorem dX9_tellLaw_32 : decode cX9_tellLaw 32 = .ok (.iconst 1, 1) := by decide +kernel
theorem dX9_tellLaw_33 : decode cX9_tellLaw 33 = .ok (.goto 4, 3) := by decide +kernel
theorem dX9_tellLaw_36 : decode cX9_tellLaw 36 = .ok (.iconst 0, 1) := by decide +kernel
theorem dX9_tellLaw_37 : decode cX9_tellLaw 37 = .ok (.isub, 1) := by decide +kernel
theorem dX9_tellLaw_38 : decode cX9_tellLaw 38 = .ok (.istore 4, 2) := by decide +kernel
theorem dX9_tellLaw_40 : decode cX9_tellLaw 40 = .ok (.aload_n 0, 1) := by decide +kernel
theorem dX9_tellLaw_41 : decode cX9_tellLaw 41 = .ok (.getfield 39, 3) := by decide +kernel
theorem dX9_tellLaw_44 : decode cX9_tellLaw 44 = .ok (.iload 4, 2) := by decide +kernel
theorem dX9_tellLaw_46 : decode cX9_tellLaw 46 = .ok (.aload_n 0, 1) := by decide +kernel
theorem dX9_tellLaw_47 : decode cX9_tellLaw 47 = .ok (.getfield 26, 3) := by decide +kernel
theorem dX9_tellLaw_50 : decode cX9_tellLaw 50 = .ok (.iload_n 3, 1) := by decide +kernel
theorem dX9_tellLaw_51 : decode cX9_tellLaw 51 = .ok (.iload_n 2, 1) := by decide +kernel
theorem dX9_tellLaw_52 : decode cX9_tellLaw 52 = .ok (.invokevirtual 116, 3) := by decide +kernel
theorem dX9_tellLaw_55 : decode cX9_tellLaw 55 = .ok (.iload_n 2, 1) := by decide +kernel
theorem dX9_tellLaw_56 : decode cX9_tellLaw 56 = .ok (.aload_n 0, 1) := by decide +kernel
theorem dX9_tellLaw_57 : decode cX9_tellLaw 57 = .ok (.getfield 22, 3) := by decide +kernel
theorem dX9_tellLaw_60 : decode cX9_tellLaw 60 = .ok (.getfield 74, 3) := by decide +kernel
theorem dX9_tellLaw_63 : decode cX9_tellLaw 63 = .ok (.iload_n 1, 1) := by decide +kernel
theorem dX9_tellLaw_64 : decode cX9_tellLaw 64 = .ok (.iaload, 1) := by decide +kernel
theorem dX9_tellLaw_65 : decode cX9_tellLaw 65 = .ok (.isub, 1) := by decide +kernel
theorem dX9_tellLaw_66 : decode cX9_tellLaw 66 = .ok (.aload_n 0, 1) := by decide +kernel
theorem dX9_tellLaw_67 : decode cX9_tellLaw 67 = .ok (.getfield 18, 3) := by decide +kernel
theorem dX9_tellLaw_70 : decode cX9_tellLaw 70 = .ok (.getfield 119, 3) := by decide +kernel
theorem dX9_tellLaw_73 : decode cX9_tellLaw 73 = .ok (.iload_n 3, 1) := by decide +kernel
theorem dX9_tellLaw_74 : decode cX9_tellLaw 74 = .ok (.iaload, 1) := by decide +kernel
theorem dX9_tellLaw_75 : decode cX9_tellLaw 75 = .ok (.invokevirtual 122, 3) := by decide +kernel
theorem dX9_tellLaw_78 : decode cX9_tellLaw 78 = .ok (.return_, 1) := by decide +kernel
theorem dX9_speedOf_0 : decode cX9_speedOf 0 = .ok (.aload_n 0, 1) := by decide +kernel
theorem dX9_speedOf_1 : decode cX9_speedOf 1 = .ok (.getfield 18, 3) := by decide +kernel
theorem dX9_speedOf_4 : decode cX9_speedOf 4 = .ok (.getfield 126, 3) := by decide +kernel
theorem dX9_speedOf_7 : decode cX9_speedOf 7 = .ok (.aload_n 0, 1) := by decide +kernel
theorem dX9_speedOf_8 : decode cX9_speedOf 8 = .ok (.getfield 22, 3) := by decide +kernel
theorem dX9_speedOf_11 : decode cX9_speedOf 11 = .ok (.getfield 85, 3) := by decide +kernel
theorem dX9_speedOf_14 : decode cX9_speedOf 14 = .ok (.iload_n 1, 1) := by decide +kernel
theorem dX9_speedOf_15 : decode cX9_speedOf 15 = .ok (.iaload, 1) := by decide +kernel
theorem dX9_speedOf_16 : decode cX9_speedOf 16 = .ok (.iaload, 1) := by decide +kernel
theorem dX9_speedOf_17 : decode cX9_speedOf 17 = .ok (.iload_n 2, 1) := by decide +kernel
theorem dX9_speedOf_18 : decode cX9_speedOf 18 = .ok (.imul, 1) := by decide +kernel
theorem dX9_speedOf_19 : decode cX9_speedOf 19 = .ok (.ireturn, 1) := by decide +kernel
theorem dX9_spokenBy_0 : decode cX9_spokenBy 0 = .ok (.iconst 0, 1) := by decide +kernel
theorem dX9_spokenBy_1 : decode cX9_spokenBy 1 = .ok (.istore_n 2, 1) := by decide +kernel
theorem dX9_spokenBy_2 : decode cX9_spokenBy 2 = .ok (.aload_n 0, 1) := by decide +kernel
theorem dX9_spokenBy_3 : decode cX9_spokenBy 3 = .ok (.getfield 22, 3) := by decide +kernel
theorem dX9_spokenBy_6 : decode cX9_spokenBy 6 = .ok (.getfield 74, 3) := by decide +kernel
theorem dX9_spokenBy_9 : decode cX9_spokenBy 9 = .ok (.iload_n 1, 1) := by decide +kernel
theorem dX9_spokenBy_10 : decode cX9_spokenBy 10 = .ok (.iaload, 1) := by decide +kernel
theorem dX9_spokenBy_11 : decode cX9_spokenBy 11 = .ok (.istore_n 3, 1) := by decide +kernel
theorem dX9_spokenBy_12 : decode cX9_spokenBy 12 = .ok (.iload_n 3, 1) := by decide +kernel
theorem dX9_spokenBy_13 : decode cX9_spokenBy 13 = .ok (.aload_n 0, 1) := by decide +kernel
theorem dX9_spokenBy_14 : decode cX9_spokenBy 14 = .ok (.getfield 22, 3) := by decide +kernel
theorem dX9_spokenBy_17 : decode cX9_spokenBy 17 = .ok (.iload_n 1, 1) := by decide +kernel
theorem dX9_spokenBy_18 : decode cX9_spokenBy 18 = .ok (.invokevirtual 129, 3) := by decide +kernel
theorem dX9_spokenBy_21 : decode cX9_spokenBy 21 = .ok (.if_icmp .ge 26, 3) := by decide +kernel
theorem dX9_spokenBy_24 : decode cX9_spokenBy 24 = .ok (.iload_n 2, 1) := by decide +kernel
theorem dX9_spokenBy_25 : decode cX9_spokenBy 25 = .ok (.aload_n 0, 1) := by decide +kernel
theorem dX9_spokenBy_26 : decode cX9_spokenBy 26 = .ok (.iload_n 1, 1) := by decide +kernel
theorem dX9_spokenBy_27 : decode cX9_spokenBy 27 = .ok (.iload_n 3, 1) := by decide +kernel
theorem dX9_spokenBy_28 : decode cX9_spokenBy 28 = .ok (.invokevirtual 58, 3) := by decide +kernel
theorem dX9_spokenBy_31 : decode cX9_spokenBy 31 = .ok (.ifCond .ne 7, 3) := by decide +kernel
theorem dX9_spokenBy_34 : decode cX9_spokenBy 34 = .ok (.iconst 1, 1) := by decide +kernel
theorem dX9_spokenBy_35 : decode cX9_spokenBy 35 = .ok (.goto 4, 3) := by decide +kernel
theorem dX9_spokenBy_38 : decode cX9_spokenBy 38 = .ok (.iconst 0, 1) := by decide +kernel
theorem dX9_spokenBy_39 : decode cX9_spokenBy 39 = .ok (.iadd, 1) := by decide +kernel
theorem dX9_spokenBy_40 : decode cX9_spokenBy 40 = .ok (.istore_n 2, 1) := by decide +kernel
theorem dX9_spokenBy_41 : decode cX9_spokenBy 41 = .ok (.iinc 3 1, 3) := by decide +kernel
theorem dX9_spokenBy_44 : decode cX9_spokenBy 44 = .ok (.goto (-32), 3) := by decide +kernel
theorem dX9_spokenBy_47 : decode cX9_spokenBy 47 = .ok (.iload_n 2, 1) := by decide +kernel
theorem dX9_spokenBy_48 : decode cX9_spokenBy 48 = .ok (.ireturn, 1) := by decide +kernel
theorem dX9_speaksAt_0 : decode cX9_speaksAt 0 = .ok (.aload_n 0, 1) := by decide +kernel
theorem dX9_speaksAt_1 : decode cX9_speaksAt 1 = .ok (.iload_n 1, 1) := by decide +kernel
theorem dX9_speaksAt_2 : decode cX9_speaksAt 2 = .ok (.iload_n 2, 1) := by decide +kernel
theorem dX9_speaksAt_3 : decode cX9_speaksAt 3 = .ok (.invokevirtual 58, 3) := by decide +kernel
theorem dX9_speaksAt_6 : decode cX9_speaksAt 6 = .ok (.istore 4, 2) := by decide +kernel
theorem dX9_speaksAt_8 : decode cX9_speaksAt 8 = .ok (.aload_n 0, 1) := by decide +kernel
theorem dX9_speaksAt_9 : decode cX9_speaksAt 9 = .ok (.getfield 18, 3) := by decide +kernel
theorem dX9_speaksAt_12 : decode cX9_speaksAt 12 = .ok (.getfield 103, 3) := by decide +kernel
theorem dX9_speaksAt_15 : decode cX9_speaksAt 15 = .ok (.ifCond .eq 16, 3) := by decide +kernel
theorem dX9_speaksAt_18 : decode cX9_speaksAt 18 = .ok (.iload_n 3, 1) := by decide +kernel
theorem dX9_speaksAt_19 : decode cX9_speaksAt 19 = .ok (.aload_n 0, 1) := by decide +kernel
theorem dX9_speaksAt_20 : decode cX9_speaksAt 20 = .ok (.getfield 18, 3) := by decide +kernel
theorem dX9_speaksAt_23 : decode cX9_speaksAt 23 = .ok (.getfield 80, 3) := by decide +kernel
theorem dX9_speaksAt_26 : decode cX9_speaksAt 26 = .ok (.iconst 0, 1) := by decide +kernel
theorem dX9_speaksAt_27 : decode cX9_speaksAt 27 = .ok (.iaload, 1) := by decide +kernel
theorem dX9_speaksAt_28 : decode cX9_speaksAt 28 = .ok (.if_icmp .ne 14, 3) := by decide +kernel
theorem dX9_speaksAt_31 : decode cX9_speaksAt 31 = .ok (.iload 4, 2) := by decide +kernel
theorem dX9_speaksAt_33 : decode cX9_speaksAt 33 = .ok (.ifCond .ne 7, 3) := by decide +kernel
theorem dX9_speaksAt_36 : decode cX9_speaksAt 36 = .ok (.iconst 1, 1) := by decide +kernel
theorem dX9_speaksAt_37 : decode cX9_speaksAt 37 = .ok (.goto 4, 3) := by decide +kernel
theorem dX9_speaksAt_40 : decode cX9_speaksAt 40 = .ok (.iconst 0, 1) := by decide +kernel
theorem dX9_speaksAt_41 : decode cX9_speaksAt 41 = .ok (.ireturn, 1) := by decide +kernel
theorem dX9_speaksAt_42 : decode cX9_speaksAt 42 = .ok (.iload 4, 2) := by decide +kernel
theorem dX9_speaksAt_44 : decode cX9_speaksAt 44 = .ok (.ifCond .eq 11, 3) := by decide +kernel
theorem dX9_speaksAt_47 : decode cX9_speaksAt 47 = .ok (.iload 4, 2) := by decide +kernel
theorem dX9_speaksAt_49 : decode cX9_speaksAt 49 = .ok (.iconst 4, 1) := by decide +kernel
theorem dX9_speaksAt_50 : decode cX9_speaksAt 50 = .ok (.if_icmp .eq 5, 3) := by decide +kernel
theorem dX9_speaksAt_53 : decode cX9_speaksAt 53 = .ok (.iconst 0, 1) := by decide +kernel
theorem dX9_speaksAt_54 : decode cX9_speaksAt 54 = .ok (.ireturn, 1) := by decide +kernel
theorem dX9_speaksAt_55 : decode cX9_speaksAt 55 = .ok (.aload_n 0, 1) := by decide +kernel
theorem dX9_speaksAt_56 : decode cX9_speaksAt 56 = .ok (.iload_n 1, 1) := by decide +kernel
theorem dX9_speaksAt_57 : decode cX9_speaksAt 57 = .ok (.iload_n 2, 1) := by decide +kernel
theorem dX9_speaksAt_58 : decode cX9_speaksAt 58 = .ok (.invokevirtual 96, 3) := by decide +kernel
theorem dX9_speaksAt_61 : decode cX9_speaksAt 61 = .ok (.aload_n 0, 1) := by decide +kernel
theorem dX9_speaksAt_62 : decode cX9_speaksAt 62 = .ok (.getfield 39, 3) := by decide +kernel
theorem dX9_speaksAt_65 : decode cX9_speaksAt 65 = .ok (.aload_n 0, 1) := by decide +kernel
theorem dX9_speaksAt_66 : decode cX9_speaksAt 66 = .ok (.getfield 18, 3) := by decide +kernel
theorem dX9_speaksAt_69 : decode cX9_speaksAt 69 = .ok (.getfield 103, 3) := by decide +kernel
theorem dX9_speaksAt_72 : decode cX9_speaksAt 72 = .ok (.aload_n 0, 1) := by decide +kernel
theorem dX9_speaksAt_73 : decode cX9_speaksAt 73 = .ok (.iload_n 1, 1) := by decide +kernel
theorem dX9_speaksAt_74 : decode cX9_speaksAt 74 = .ok (.iload_n 3, 1) := by decide +kernel
theorem dX9_speaksAt_75 : decode cX9_speaksAt 75 = .ok (.invokevirtual 100, 3) := by decide +kernel
theorem dX9_speaksAt_78 : decode cX9_speaksAt 78 = .ok (.invokevirtual 107, 3) := by decide +kernel
theorem dX9_speaksAt_81 : decode cX9_speaksAt 81 = .ok (.ireturn, 1) := by decide +kernel
theorem dX9_spokenAt_0 : decode cX9_spokenAt 0 = .ok (.aload_n 0, 1) := by decide +kernel
theorem dX9_spokenAt_1 : decode cX9_spokenAt 1 = .ok (.invokevirtual 73, 3) := by decide +kernel
theorem dX9_spokenAt_4 : decode cX9_spokenAt 4 = .ok (.aload_n 0, 1) := by decide +kernel
theorem dX9_spokenAt_5 : decode cX9_spokenAt 5 = .ok (.getfield 15, 3) := by decide +kernel
theorem dX9_spokenAt_8 : decode cX9_spokenAt 8 = .ok (.iload_n 1, 1) := by decide +kernel
theorem dX9_spokenAt_9 : decode cX9_spokenAt 9 = .ok (.iaload, 1) := by decide +kernel
theorem dX9_spokenAt_10 : decode cX9_spokenAt 10 = .ok (.iconst (-1), 1) := by decide +kernel
theorem dX9_spokenAt_11 : decode cX9_spokenAt 11 = .ok (.if_icmp .ne 80, 3) := by decide +kernel
theorem dX9_spokenAt_14 : decode cX9_spokenAt 14 = .ok (.iconst 0, 1) := by decide +kernel
theorem dX9_spokenAt_15 : decode cX9_spokenAt 15 = .ok (.istore_n 2, 1) := by decide +kernel
theorem dX9_spokenAt_16 : decode cX9_spokenAt 16 = .ok (.iconst 0, 1) := by decide +kernel
theorem dX9_spokenAt_17 : decode cX9_spokenAt 17 = .ok (.istore_n 3, 1) := by decide +kernel
theorem dX9_spokenAt_18 : decode cX9_spokenAt 18 = .ok (.iload_n 3, 1) := by decide +kernel
theorem dX9_spokenAt_19 : decode cX9_spokenAt 19 = .ok (.aload_n 0, 1) := by decide +kernel
theorem dX9_spokenAt_20 : decode cX9_spokenAt 20 = .ok (.getfield 22, 3) := by decide +kernel
theorem dX9_spokenAt_23 : decode cX9_spokenAt 23 = .ok (.getfield 133, 3) := by decide +kernel
theorem dX9_spokenAt_26 : decode cX9_spokenAt 26 = .ok (.if_icmp .ge 58, 3) := by decide +kernel
theorem dX9_spokenAt_29 : decode cX9_spokenAt 29 = .ok (.aload_n 0, 1) := by decide +kernel
theorem dX9_spokenAt_30 : decode cX9_spokenAt 30 = .ok (.getfield 22, 3) := by decide +kernel
theorem dX9_spokenAt_33 : decode cX9_spokenAt 33 = .ok (.getfield 74, 3) := by decide +kernel
theorem dX9_spokenAt_36 : decode cX9_spokenAt 36 = .ok (.iload_n 3, 1) := by decide +kernel
theorem dX9_spokenAt_37 : decode cX9_spokenAt 37 = .ok (.iaload, 1) := by decide +kernel
theorem dX9_spokenAt_38 : decode cX9_spokenAt 38 = .ok (.istore 4, 2) := by decide +kernel
theorem dX9_spokenAt_40 : decode cX9_spokenAt 40 = .ok (.iload 4, 2) := by decide +kernel
theorem dX9_spokenAt_42 : decode cX9_spokenAt 42 = .ok (.aload_n 0, 1) := by decide +kernel
theorem dX9_spokenAt_43 : decode cX9_spokenAt 43 = .ok (.getfield 22, 3) := by decide +kernel
theorem dX9_spokenAt_46 : decode cX9_spokenAt 46 = .ok (.iload_n 3, 1) := by decide +kernel
theorem dX9_spokenAt_47 : decode cX9_spokenAt 47 = .ok (.invokevirtual 129, 3) := by decide +kernel
theorem dX9_spokenAt_50 : decode cX9_spokenAt 50 = .ok (.if_icmp .ge 28, 3) := by decide +kernel
theorem dX9_spokenAt_53 : decode cX9_spokenAt 53 = .ok (.iload_n 2, 1) := by decide +kernel
theorem dX9_spokenAt_54 : decode cX9_spokenAt 54 = .ok (.aload_n 0, 1) := by decide +kernel
theorem dX9_spokenAt_55 : decode cX9_spokenAt 55 = .ok (.iload_n 3, 1) := by decide +kernel
theorem dX9_spokenAt_56 : decode cX9_spokenAt 56 = .ok (.iload 4, 2) := by decide +kernel
theorem dX9_spokenAt_58 : decode cX9_spokenAt 58 = .ok (.iload_n 1, 1) := by decide +kernel
theorem dX9_spokenAt_59 : decode cX9_spokenAt 59 = .ok (.invokevirtual 136, 3) := by decide +kernel
theorem dX9_spokenAt_62 : decode cX9_spokenAt 62 = .ok (.ifCond .eq 7, 3) := by decide +kernel
theorem dX9_spokenAt_65 : decode cX9_spokenAt 65 = .ok (.iconst 1, 1) := by decide +kernel
theorem dX9_spokenAt_66 : decode cX9_spokenAt 66 = .ok (.goto 4, 3) := by decide +kernel
theorem dX9_spokenAt_69 : decode cX9_spokenAt 69 = .ok (.iconst 0, 1) := by decide +kernel
theorem dX9_spokenAt_70 : decode cX9_spokenAt 70 = .ok (.iadd, 1) := by decide +kernel
theorem dX9_spokenAt_71 : decode cX9_spokenAt 71 = .ok (.istore_n 2, 1) := by decide +kernel
theorem dX9_spokenAt_72 : decode cX9_spokenAt 72 = .ok (.iinc 4 1, 3) := by decide +kernel
theorem dX9_spokenAt_75 : decode cX9_spokenAt 75 = .ok (.goto (-35), 3) := by decide +kernel
theorem dX9_spokenAt_78 : decode cX9_spokenAt 78 = .ok (.iinc 3 1, 3) := by decide +kernel
theorem dX9_spokenAt_81 : decode cX9_spokenAt 81 = .ok (.goto (-63), 3) := by decide +kernel
theorem dX9_spokenAt_84 : decode cX9_spokenAt 84 = .ok (.aload_n 0, 1) := by decide +kernel
theorem dX9_spokenAt_85 : decode cX9_spokenAt 85 = .ok (.getfield 15, 3) := by decide +kernel
theorem dX9_spokenAt_88 : decode cX9_spokenAt 88 = .ok (.iload_n 1, 1) := by decide +kernel
theorem dX9_spokenAt_89 : decode cX9_spokenAt 89 = .ok (.iload_n 2, 1) := by decide +kernel
theorem dX9_spokenAt_90 : decode cX9_spokenAt 90 = .ok (.iastore, 1) := by decide +kernel
theorem dX9_spokenAt_91 : decode cX9_spokenAt 91 = .ok (.aload_n 0, 1) := by decide +kernel
theorem dX9_spokenAt_92 : decode cX9_spokenAt 92 = .ok (.getfield 15, 3) := by decide +kernel
theorem dX9_spokenAt_95 : decode cX9_spokenAt 95 = .ok (.iload_n 1, 1) := by decide +kernel
theorem dX9_spokenAt_96 : decode cX9_spokenAt 96 = .ok (.iaload, 1) := by decide +kernel
theorem dX9_spokenAt_97 : decode cX9_spokenAt 97 = .ok (.ireturn, 1) := by decide +kernel
theorem dX9_speakingIn_0 : decode cX9_speakingIn 0 = .ok (.iconst 0, 1) := by decide +kernel
theorem dX9_speakingIn_1 : decode cX9_speakingIn 1 = .ok (.istore_n 2, 1) := by decide +kernel
theorem dX9_speakingIn_2 : decode cX9_speakingIn 2 = .ok (.iconst 0, 1) := by decide +kernel
theorem dX9_speakingIn_3 : decode cX9_speakingIn 3 = .ok (.istore_n 3, 1) := by decide +kernel
theorem dX9_speakingIn_4 : decode cX9_speakingIn 4 = .ok (.iload_n 3, 1) := by decide +kernel
theorem dX9_speakingIn_5 : decode cX9_speakingIn 5 = .ok (.aload_n 0, 1) := by decide +kernel
theorem dX9_speakingIn_6 : decode cX9_speakingIn 6 = .ok (.getfield 22, 3) := by decide +kernel
theorem dX9_speakingIn_9 : decode cX9_speakingIn 9 = .ok (.getfield 133, 3) := by decide +kernel
theorem dX9_speakingIn_12 : decode cX9_speakingIn 12 = .ok (.if_icmp .ge 36, 3) := by decide +kernel
theorem dX9_speakingIn_15 : decode cX9_speakingIn 15 = .ok (.aload_n 0, 1) := by decide +kernel
theorem dX9_speakingIn_16 : decode cX9_speakingIn 16 = .ok (.getfield 22, 3) := by decide +kernel
theorem dX9_speakingIn_19 : decode cX9_speakingIn 19 = .ok (.iload_n 3, 1) := by decide +kernel
theorem dX9_speakingIn_20 : decode cX9_speakingIn 20 = .ok (.iload_n 1, 1) := by decide +kernel
theorem dX9_speakingIn_21 : decode cX9_speakingIn 21 = .ok (.invokevirtual 67, 3) := by decide +kernel
theorem dX9_speakingIn_24 : decode cX9_speakingIn 24 = .ok (.ifCond .eq 18, 3) := by decide +kernel
theorem dX9_speakingIn_27 : decode cX9_speakingIn 27 = .ok (.aload_n 0, 1) := by decide +kernel
theorem dX9_speakingIn_28 : decode cX9_speakingIn 28 = .ok (.iload_n 3, 1) := by decide +kernel
theorem dX9_speakingIn_29 : decode cX9_speakingIn 29 = .ok (.iload_n 1, 1) := by decide +kernel
theorem dX9_speakingIn_30 : decode cX9_speakingIn 30 = .ok (.invokevirtual 58, 3) := by decide +kernel
theorem dX9_speakingIn_33 : decode cX9_speakingIn 33 = .ok (.ifCond .ne 9, 3) := by decide +kernel
theorem dX9_speakingIn_36 : decode cX9_speakingIn 36 = .ok (.iload_n 2, 1) := by decide +kernel
theorem dX9_speakingIn_37 : decode cX9_speakingIn 37 = .ok (.iconst 1, 1) := by decide +kernel
theorem dX9_speakingIn_38 : decode cX9_speakingIn 38 = .ok (.iload_n 3, 1) := by decide +kernel
theorem dX9_speakingIn_39 : decode cX9_speakingIn 39 = .ok (.ishl, 1) := by decide +kernel
theorem dX9_speakingIn_40 : decode cX9_speakingIn 40 = .ok (.ior, 1) := by decide +kernel
theorem dX9_speakingIn_41 : decode cX9_speakingIn 41 = .ok (.istore_n 2, 1) := by decide +kernel
theorem dX9_speakingIn_42 : decode cX9_speakingIn 42 = .ok (.iinc 3 1, 3) := by decide +kernel
theorem dX9_speakingIn_45 : decode cX9_speakingIn 45 = .ok (.goto (-41), 3) := by decide +kernel
theorem dX9_speakingIn_48 : decode cX9_speakingIn 48 = .ok (.iload_n 2, 1) := by decide +kernel
theorem dX9_speakingIn_49 : decode cX9_speakingIn 49 = .ok (.ireturn, 1) := by decide +kernel
theorem dX9_ringingIn_0 : decode cX9_ringingIn 0 = .ok (.aload_n 0, 1) := by decide +kernel
theorem dX9_ringingIn_1 : decode cX9_ringingIn 1 = .ok (.iload_n 1, 1) := by decide +kernel
theorem dX9_ringingIn_2 : decode cX9_ringingIn 2 = .ok (.invokevirtual 140, 3) := by decide +kernel
theorem dX9_ringingIn_5 : decode cX9_ringingIn 5 = .ok (.istore_n 2, 1) := by decide +kernel
theorem dX9_ringingIn_6 : decode cX9_ringingIn 6 = .ok (.iload_n 2, 1) := by decide +kernel
theorem dX9_ringingIn_7 : decode cX9_ringingIn 7 = .ok (.ifCond .ne 5, 3) := by decide +kernel
theorem dX9_ringingIn_10 : decode cX9_ringingIn 10 = .ok (.iconst 0, 1) := by decide +kernel
theorem dX9_ringingIn_11 : decode cX9_ringingIn 11 = .ok (.ireturn, 1) := by decide +kernel
theorem dX9_ringingIn_12 : decode cX9_ringingIn 12 = .ok (.iconst 0, 1) := by decide +kernel
theorem dX9_ringingIn_13 : decode cX9_ringingIn 13 = .ok (.istore_n 3, 1) := by decide +kernel
theorem dX9_ringingIn_14 : decode cX9_ringingIn 14 = .ok (.iconst 0, 1) := by decide +kernel
theorem dX9_ringingIn_15 : decode cX9_ringingIn 15 = .ok (.istore 4, 2) := by decide +kernel
theorem dX9_ringingIn_17 : decode cX9_ringingIn 17 = .ok (.iload 4, 2) := by decide +kernel
theorem dX9_ringingIn_19 : decode cX9_ringingIn 19 = .ok (.aload_n 0, 1) := by decide +kernel
theorem dX9_ringingIn_20 : decode cX9_ringingIn 20 = .ok (.getfield 18, 3) := by decide +kernel
theorem dX9_ringingIn_23 : decode cX9_ringingIn 23 = .ok (.getfield 143, 3) := by decide +kernel
theorem dX9_ringingIn_26 : decode cX9_ringingIn 26 = .ok (.if_icmp .ge 76, 3) := by decide +kernel
theorem dX9_ringingIn_29 : decode cX9_ringingIn 29 = .ok (.aload_n 0, 1) := by decide +kernel
theorem dX9_ringingIn_30 : decode cX9_ringingIn 30 = .ok (.getfield 18, 3) := by decide +kernel
theorem dX9_ringingIn_33 : decode cX9_ringingIn 33 = .ok (.iload 4, 2) := by decide +kernel
theorem dX9_ringingIn_35 : decode cX9_ringingIn 35 = .ok (.invokevirtual 146, 3) := by decide +kernel
theorem dX9_ringingIn_38 : decode cX9_ringingIn 38 = .ok (.ifCond .eq 33, 3) := by decide +kernel
theorem dX9_ringingIn_41 : decode cX9_ringingIn 41 = .ok (.aload_n 0, 1) := by decide +kernel
theorem dX9_ringingIn_42 : decode cX9_ringingIn 42 = .ok (.getfield 22, 3) := by decide +kernel
theorem dX9_ringingIn_45 : decode cX9_ringingIn 45 = .ok (.iload 4, 2) := by decide +kernel
theorem dX9_ringingIn_47 : decode cX9_ringingIn 47 = .ok (.iload_n 1, 1) := by decide +kernel
theorem dX9_ringingIn_48 : decode cX9_ringingIn 48 = .ok (.invokevirtual 150, 3) := by decide +kernel
theorem dX9_ringingIn_51 : decode cX9_ringingIn 51 = .ok (.ifCond .ne 20, 3) := by decide +kernel
theorem dX9_ringingIn_54 : decode cX9_ringingIn 54 = .ok (.aload_n 0, 1) := by decide +kernel
theorem dX9_ringingIn_55 : decode cX9_ringingIn 55 = .ok (.getfield 26, 3) := by decide +kernel
theorem dX9_ringingIn_58 : decode cX9_ringingIn 58 = .ok (.iload 4, 2) := by decide +kernel
theorem dX9_ringingIn_60 : decode cX9_ringingIn 60 = .ok (.iload_n 1, 1) := by decide +kernel
theorem dX9_ringingIn_61 : decode cX9_ringingIn 61 = .ok (.invokevirtual 88, 3) := by decide +kernel
theorem dX9_ringingIn_64 : decode cX9_ringingIn 64 = .ok (.ifCond .ne 7, 3) := by decide +kernel
theorem dX9_ringingIn_67 : decode cX9_ringingIn 67 = .ok (.iconst 1, 1) := by decide +kernel
theorem dX9_ringingIn_68 : decode cX9_ringingIn 68 = .ok (.goto 4, 3) := by decide +kernel
theorem dX9_ringingIn_71 : decode cX9_ringingIn 71 = .ok (.iconst 0, 1) := by decide +kernel
theorem dX9_ringingIn_72 : decode cX9_ringingIn 72 = .ok (.istore 5, 2) := by decide +kernel
theorem dX9_ringingIn_74 : decode cX9_ringingIn 74 = .ok (.iload 5, 2) := by decide +kernel
theorem dX9_ringingIn_76 : decode cX9_ringingIn 76 = .ok (.ifCond .eq 20, 3) := by decide +kernel
theorem dX9_ringingIn_79 : decode cX9_ringingIn 79 = .ok (.aload_n 0, 1) := by decide +kernel
theorem dX9_ringingIn_80 : decode cX9_ringingIn 80 = .ok (.iload 4, 2) := by decide +kernel
theorem dX9_ringingIn_82 : decode cX9_ringingIn 82 = .ok (.iload_n 2, 1) := by decide +kernel
theorem dX9_ringingIn_83 : decode cX9_ringingIn 83 = .ok (.invokevirtual 153, 3) := by decide +kernel
theorem dX9_ringingIn_86 : decode cX9_ringingIn 86 = .ok (.ifCond .eq 10, 3) := by decide +kernel
theorem dX9_ringingIn_89 : decode cX9_ringingIn 89 = .ok (.iload_n 3, 1) := by decide +kernel
theorem dX9_ringingIn_90 : decode cX9_ringingIn 90 = .ok (.iconst 1, 1) := by decide +kernel
theorem dX9_ringingIn_91 : decode cX9_ringingIn 91 = .ok (.iload 4, 2) := by decide +kernel
theorem dX9_ringingIn_93 : decode cX9_ringingIn 93 = .ok (.ishl, 1) := by decide +kernel
theorem dX9_ringingIn_94 : decode cX9_ringingIn 94 = .ok (.ior, 1) := by decide +kernel
theorem dX9_ringingIn_95 : decode cX9_ringingIn 95 = .ok (.istore_n 3, 1) := by decide +kernel
theorem dX9_ringingIn_96 : decode cX9_ringingIn 96 = .ok (.iinc 4 1, 3) := by decide +kernel
theorem dX9_ringingIn_99 : decode cX9_ringingIn 99 = .ok (.goto (-82), 3) := by decide +kernel
theorem dX9_ringingIn_102 : decode cX9_ringingIn 102 = .ok (.iload_n 3, 1) := by decide +kernel
theorem dX9_ringingIn_103 : decode cX9_ringingIn 103 = .ok (.ireturn, 1) := by decide +kernel
theorem dX9_isRoused_0 : decode cX9_isRoused 0 = .ok (.iconst 0, 1) := by decide +kernel
theorem dX9_isRoused_1 : decode cX9_isRoused 1 = .ok (.istore_n 3, 1) := by decide +kernel
theorem dX9_isRoused_2 : decode cX9_isRoused 2 = .ok (.iload_n 3, 1) := by decide +kernel
theorem dX9_isRoused_3 : decode cX9_isRoused 3 = .ok (.aload_n 0, 1) := by decide +kernel
theorem dX9_isRoused_4 : decode cX9_isRoused 4 = .ok (.getfield 22, 3) := by decide +kernel
theorem dX9_isRoused_7 : decode cX9_isRoused 7 = .ok (.getfield 133, 3) := by decide +kernel
theorem dX9_isRoused_10 : decode cX9_isRoused 10 = .ok (.if_icmp .ge 92, 3) := by decide +kernel
theorem dX9_isRoused_13 : decode cX9_isRoused 13 = .ok (.aload_n 0, 1) := by decide +kernel
theorem dX9_isRoused_14 : decode cX9_isRoused 14 = .ok (.getfield 22, 3) := by decide +kernel
theorem dX9_isRoused_17 : decode cX9_isRoused 17 = .ok (.getfield 85, 3) := by decide +kernel
theorem dX9_isRoused_20 : decode cX9_isRoused 20 = .ok (.iload_n 3, 1) := by decide +kernel
theorem dX9_isRoused_21 : decode cX9_isRoused 21 = .ok (.iaload, 1) := by decide +kernel
theorem dX9_isRoused_22 : decode cX9_isRoused 22 = .ok (.istore 4, 2) := by decide +kernel
theorem dX9_isRoused_24 : decode cX9_isRoused 24 = .ok (.aload_n 0, 1) := by decide +kernel
theorem dX9_isRoused_25 : decode cX9_isRoused 25 = .ok (.getfield 18, 3) := by decide +kernel
theorem dX9_isRoused_28 : decode cX9_isRoused 28 = .ok (.getfield 156, 3) := by decide +kernel
theorem dX9_isRoused_31 : decode cX9_isRoused 31 = .ok (.iload_n 1, 1) := by decide +kernel
theorem dX9_isRoused_32 : decode cX9_isRoused 32 = .ok (.iaload, 1) := by decide +kernel
theorem dX9_isRoused_33 : decode cX9_isRoused 33 = .ok (.aload_n 0, 1) := by decide +kernel
theorem dX9_isRoused_34 : decode cX9_isRoused 34 = .ok (.getfield 18, 3) := by decide +kernel
theorem dX9_isRoused_37 : decode cX9_isRoused 37 = .ok (.getfield 156, 3) := by decide +kernel
theorem dX9_isRoused_40 : decode cX9_isRoused 40 = .ok (.iload 4, 2) := by decide +kernel
theorem dX9_isRoused_42 : decode cX9_isRoused 42 = .ok (.iaload, 1) := by decide +kernel
theorem dX9_isRoused_43 : decode cX9_isRoused 43 = .ok (.isub, 1) := by decide +kernel
theorem dX9_isRoused_44 : decode cX9_isRoused 44 = .ok (.invokestatic 159, 3) := by decide +kernel
theorem dX9_isRoused_47 : decode cX9_isRoused 47 = .ok (.iconst 1, 1) := by decide +kernel
theorem dX9_isRoused_48 : decode cX9_isRoused 48 = .ok (.if_icmp .ne 30, 3) := by decide +kernel
theorem dX9_isRoused_51 : decode cX9_isRoused 51 = .ok (.aload_n 0, 1) := by decide +kernel
theorem dX9_isRoused_52 : decode cX9_isRoused 52 = .ok (.getfield 18, 3) := by decide +kernel
theorem dX9_isRoused_55 : decode cX9_isRoused 55 = .ok (.iload_n 1, 1) := by decide +kernel
theorem dX9_isRoused_56 : decode cX9_isRoused 56 = .ok (.iload 4, 2) := by decide +kernel
theorem dX9_isRoused_58 : decode cX9_isRoused 58 = .ok (.invokevirtual 162, 3) := by decide +kernel
theorem dX9_isRoused_61 : decode cX9_isRoused 61 = .ok (.aload_n 0, 1) := by decide +kernel
theorem dX9_isRoused_62 : decode cX9_isRoused 62 = .ok (.getfield 18, 3) := by decide +kernel
theorem dX9_isRoused_65 : decode cX9_isRoused 65 = .ok (.getfield 80, 3) := by decide +kernel
theorem dX9_isRoused_68 : decode cX9_isRoused 68 = .ok (.bipush 9, 2) := by decide +kernel
theorem dX9_isRoused_70 : decode cX9_isRoused 70 = .ok (.iaload, 1) := by decide +kernel
theorem dX9_isRoused_71 : decode cX9_isRoused 71 = .ok (.if_icmp .gt 7, 3) := by decide +kernel
theorem dX9_isRoused_74 : decode cX9_isRoused 74 = .ok (.iconst 1, 1) := by decide +kernel
theorem dX9_isRoused_75 : decode cX9_isRoused 75 = .ok (.goto 4, 3) := by decide +kernel
theorem dX9_isRoused_78 : decode cX9_isRoused 78 = .ok (.iconst 0, 1) := by decide +kernel
theorem dX9_isRoused_79 : decode cX9_isRoused 79 = .ok (.istore 5, 2) := by decide +kernel
theorem dX9_isRoused_81 : decode cX9_isRoused 81 = .ok (.iload 5, 2) := by decide +kernel
theorem dX9_isRoused_83 : decode cX9_isRoused 83 = .ok (.ifCond .eq 13, 3) := by decide +kernel
theorem dX9_isRoused_86 : decode cX9_isRoused 86 = .ok (.iload_n 2, 1) := by decide +kernel
theorem dX9_isRoused_87 : decode cX9_isRoused 87 = .ok (.iload_n 3, 1) := by decide +kernel
theorem dX9_isRoused_88 : decode cX9_isRoused 88 = .ok (.ishr, 1) := by decide +kernel
theorem dX9_isRoused_89 : decode cX9_isRoused 89 = .ok (.iconst 1, 1) := by decide +kernel
theorem dX9_isRoused_90 : decode cX9_isRoused 90 = .ok (.iand, 1) := by decide +kernel
theorem dX9_isRoused_91 : decode cX9_isRoused 91 = .ok (.ifCond .eq 5, 3) := by decide +kernel
theorem dX9_isRoused_94 : decode cX9_isRoused 94 = .ok (.iconst 1, 1) := by decide +kernel
theorem dX9_isRoused_95 : decode cX9_isRoused 95 = .ok (.ireturn, 1) := by decide +kernel
theorem dX9_isRoused_96 : decode cX9_isRoused 96 = .ok (.iinc 3 1, 3) := by decide +kernel
theorem dX9_isRoused_99 : decode cX9_isRoused 99 = .ok (.goto (-97), 3) := by decide +kernel
theorem dX9_isRoused_102 : decode cX9_isRoused 102 = .ok (.iconst 0, 1) := by decide +kernel
theorem dX9_isRoused_103 : decode cX9_isRoused 103 = .ok (.ireturn, 1) := by decide +kernel
theorem dX9_silentFrom_0 : decode cX9_silentFrom 0 = .ok (.iload_n 1, 1) := by decide +kernel
theorem dX9_silentFrom_1 : decode cX9_silentFrom 1 = .ok (.istore_n 2, 1) := by decide +kernel
theorem dX9_silentFrom_2 : decode cX9_silentFrom 2 = .ok (.iload_n 2, 1) := by decide +kernel
theorem dX9_silentFrom_3 : decode cX9_silentFrom 3 = .ok (.sipush 200, 3) := by decide +kernel
theorem dX9_silentFrom_6 : decode cX9_silentFrom 6 = .ok (.if_icmp .ge 31, 3) := by decide +kernel
theorem dX9_silentFrom_9 : decode cX9_silentFrom 9 = .ok (.aload_n 0, 1) := by decide +kernel
theorem dX9_silentFrom_10 : decode cX9_silentFrom 10 = .ok (.getfield 22, 3) := by decide +kernel
theorem dX9_silentFrom_13 : decode cX9_silentFrom 13 = .ok (.iload_n 2, 1) := by decide +kernel
theorem dX9_silentFrom_14 : decode cX9_silentFrom 14 = .ok (.invokevirtual 165, 3) := by decide +kernel
theorem dX9_silentFrom_17 : decode cX9_silentFrom 17 = .ok (.iconst (-1), 1) := by decide +kernel
theorem dX9_silentFrom_18 : decode cX9_silentFrom 18 = .ok (.if_icmp .eq 13, 3) := by decide +kernel
theorem dX9_silentFrom_21 : decode cX9_silentFrom 21 = .ok (.aload_n 0, 1) := by decide +kernel
theorem dX9_silentFrom_22 : decode cX9_silentFrom 22 = .ok (.iload_n 2, 1) := by decide +kernel
theorem dX9_silentFrom_23 : decode cX9_silentFrom 23 = .ok (.invokevirtual 140, 3) := by decide +kernel
theorem dX9_silentFrom_26 : decode cX9_silentFrom 26 = .ok (.ifCond .ne 5, 3) := by decide +kernel
theorem dX9_silentFrom_29 : decode cX9_silentFrom 29 = .ok (.iload_n 2, 1) := by decide +kernel
theorem dX9_silentFrom_30 : decode cX9_silentFrom 30 = .ok (.ireturn, 1) := by decide +kernel
theorem dX9_silentFrom_31 : decode cX9_silentFrom 31 = .ok (.iinc 2 1, 3) := by decide +kernel
theorem dX9_silentFrom_34 : decode cX9_silentFrom 34 = .ok (.goto (-32), 3) := by decide +kernel
theorem dX9_silentFrom_37 : decode cX9_silentFrom 37 = .ok (.iconst (-1), 1) := by decide +kernel
theorem dX9_silentFrom_38 : decode cX9_silentFrom 38 = .ok (.ireturn, 1) := by decide +kernel
theorem dX10_init_0 : decode cX10_init 0 = .ok (.aload_n 0, 1) := by decide +kernel
theorem dX10_init_1 : decode cX10_init 1 = .ok (.invokespecial 3, 3) := by decide +kernel
theorem dX10_init_4 : decode cX10_init 4 = .ok (.aload_n 0, 1) := by decide +kernel
theorem dX10_init_5 : decode cX10_init 5 = .ok (.sipush 200, 3) := by decide +kernel
theorem dX10_init_8 : decode cX10_init 8 = .ok (.newarray .int, 2) := by decide +kernel
theorem dX10_init_10 : decode cX10_init 10 = .ok (.putfield 9, 3) := by decide +kernel
theorem dX10_init_13 : decode cX10_init 13 = .ok (.aload_n 0, 1) := by decide +kernel
theorem dX10_init_14 : decode cX10_init 14 = .ok (.sipush 2400, 3) := by decide +kernel
theorem dX10_init_17 : decode cX10_init 17 = .ok (.newarray .int, 2) := by decide +kernel
theorem dX10_init_19 : decode cX10_init 19 = .ok (.putfield 15, 3) := by decide +kernel
theorem dX10_init_22 : decode cX10_init 22 = .ok (.aload_n 0, 1) := by decide +kernel
theorem dX10_init_23 : decode cX10_init 23 = .ok (.bipush 12, 2) := by decide +kernel
theorem dX10_init_25 : decode cX10_init 25 = .ok (.newarray .int, 2) := by decide +kernel
theorem dX10_init_27 : decode cX10_init 27 = .ok (.putfield 18, 3) := by decide +kernel
theorem dX10_init_30 : decode cX10_init 30 = .ok (.aload_n 0, 1) := by decide +kernel
theorem dX10_init_31 : decode cX10_init 31 = .ok (.aload_n 1, 1) := by decide +kernel
theorem dX10_init_32 : decode cX10_init 32 = .ok (.putfield 21, 3) := by decide +kernel
theorem dX10_init_35 : decode cX10_init 35 = .ok (.aload_n 0, 1) := by decide +kernel
theorem dX10_init_36 : decode cX10_init 36 = .ok (.aload_n 2, 1) := by decide +kernel
theorem dX10_init_37 : decode cX10_init 37 = .ok (.putfield 25, 3) := by decide +kernel
theorem dX10_init_40 : decode cX10_init 40 = .ok (.return_, 1) := by decide +kernel
theorem dX10_learn_0 : decode cX10_learn 0 = .ok (.aload_n 0, 1) := by decide +kernel
theorem dX10_learn_1 : decode cX10_learn 1 = .ok (.getfield 29, 3) := by decide +kernel
theorem dX10_learn_4 : decode cX10_learn 4 = .ok (.ifCond .eq 4, 3) := by decide +kernel
theorem dX10_learn_7 : decode cX10_learn 7 = .ok (.return_, 1) := by decide +kernel
theorem dX10_learn_8 : decode cX10_learn 8 = .ok (.aload_n 0, 1) := by decide +kernel
theorem dX10_learn_9 : decode cX10_learn 9 = .ok (.iconst 1, 1) := by decide +kernel
theorem dX10_learn_10 : decode cX10_learn 10 = .ok (.putfield 29, 3) := by decide +kernel
theorem dX10_learn_13 : decode cX10_learn 13 = .ok (.iconst 0, 1) := by decide +kernel
theorem dX10_learn_14 : decode cX10_learn 14 = .ok (.istore_n 1, 1) := by decide +kernel
theorem dX10_learn_15 : decode cX10_learn 15 = .ok (.iload_n 1, 1) := by decide +kernel
theorem dX10_learn_16 : decode cX10_learn 16 = .ok (.aload_n 0, 1) := by decide +kernel
theorem dX10_learn_17 : decode cX10_learn 17 = .ok (.getfield 21, 3) := by decide +kernel
theorem dX10_learn_20 : decode cX10_learn 20 = .ok (.getfield 33, 3) := by decide +kernel
theorem dX10_learn_23 : decode cX10_learn 23 = .ok (.if_icmp .ge 19, 3) := by decide +kernel
theorem dX10_learn_26 : decode cX10_learn 26 = .ok (.aload_n 0, 1) := by decide +kernel
theorem dX10_learn_27 : decode cX10_learn 27 = .ok (.iload_n 1, 1) := by decide +kernel
theorem dX10_learn_28 : decode cX10_learn 28 = .ok (.invokevirtual 39, 3) := by decide +kernel
theorem dX10_learn_31 : decode cX10_learn 31 = .ok (.aload_n 0, 1) := by decide +kernel
theorem dX10_learn_32 : decode cX10_learn 32 = .ok (.iload_n 1, 1) := by decide +kernel
theorem dX10_learn_33 : decode cX10_learn 33 = .ok (.invokevirtual 43, 3) := by decide +kernel
theorem dX10_learn_36 : decode cX10_learn 36 = .ok (.iinc 1 1, 3) := by decide +kernel
theorem dX10_learn_39 : decode cX10_learn 39 = .ok (.goto (-24), 3) := by decide +kernel
theorem dX10_learn_42 : decode cX10_learn 42 = .ok (.return_, 1) := by decide +kernel
theorem dX10_heatOf_0 : decode cX10_heatOf 0 = .ok (.aload_n 0, 1) := by decide +kernel
theorem dX10_heatOf_1 : decode cX10_heatOf 1 = .ok (.getfield 15, 3) := by decide +kernel
theorem dX10_heatOf_4 : decode cX10_heatOf 4 = .ok (.iload_n 1, 1) := by decide +kernel
theorem dX10_heatOf_5 : decode cX10_heatOf 5 = .ok (.sipush 200, 3) := by decide +kernel
theorem dX10_heatOf_8 : decode cX10_heatOf 8 = .ok (.imul, 1) := by decide +kernel
theorem dX10_heatOf_9 : decode cX10_heatOf 9 = .ok (.iload_n 2, 1) := by decide +kernel
theorem dX10_heatOf_10 : decode cX10_heatOf 10 = .ok (.iadd, 1) := by decide +kernel
theorem dX10_heatOf_11 : decode cX10_heatOf 11 = .ok (.iaload, 1) := by decide +kernel
theorem dX10_heatOf_12 : decode cX10_heatOf 12 = .ok (.ireturn, 1) := by decide +kernel
theorem dX10_crackOf_0 : decode cX10_crackOf 0 = .ok (.aload_n 0, 1) := by decide +kernel
theorem dX10_crackOf_1 : decode cX10_crackOf 1 = .ok (.getfield 18, 3) := by decide +kernel
theorem dX10_crackOf_4 : decode cX10_crackOf 4 = .ok (.iload_n 1, 1) := by decide +kernel
theorem dX10_crackOf_5 : decode cX10_crackOf 5 = .ok (.iaload, 1) := by decide +kernel
theorem dX10_crackOf_6 : decode cX10_crackOf 6 = .ok (.ireturn, 1) := by decide +kernel
theorem dX10_isCracked_0 : decode cX10_isCracked 0 = .ok (.aload_n 0, 1) := by decide +kernel
theorem dX10_isCracked_1 : decode cX10_isCracked 1 = .ok (.getfield 18, 3) := by decide +kernel
theorem dX10_isCracked_4 : decode cX10_isCracked 4 = .ok (.iload_n 1, 1) := by decide +kernel
theorem dX10_isCracked_5 : decode cX10_isCracked 5 = .ok (.iaload, 1) := by decide +kernel
theorem dX10_isCracked_6 : decode cX10_isCracked 6 = .ok (.iconst (-1), 1) := by decide +kernel
theorem dX10_isCracked_7 : decode cX10_isCracked 7 = .ok (.if_icmp .eq 17, 3) := by decide +kernel
theorem dX10_isCracked_10 : decode cX10_isCracked 10 = .ok (.iload_n 2, 1) := by decide +kernel
theorem dX10_isCracked_11 : decode cX10_isCracked 11 = .ok (.aload_n 0, 1) := by decide +kernel
theorem dX10_isCracked_12 : decode cX10_isCracked 12 = .ok (.getfield 18, 3) := by decide +kernel
theorem dX10_isCracked_15 : decode cX10_isCracked 15 = .ok (.iload_n 1, 1) := by decide +kernel
theorem dX10_isCracked_16 : decode cX10_isCracked 16 = .ok (.iaload, 1) := by decide +kernel
theorem dX10_isCracked_17 : decode cX10_isCracked 17 = .ok (.if_icmp .lt 7, 3) := by decide +kernel
theorem dX10_isCracked_20 : decode cX10_isCracked 20 = .ok (.iconst 1, 1) := by decide +kernel
theorem dX10_isCracked_21 : decode cX10_isCracked 21 = .ok (.goto 4, 3) := by decide +kernel
theorem dX10_isCracked_24 : decode cX10_isCracked 24 = .ok (.iconst 0, 1) := by decide +kernel
theorem dX10_isCracked_25 : decode cX10_isCracked 25 = .ok (.ireturn, 1) := by decide +kernel
theorem dX10_press_0 : decode cX10_press 0 = .ok (.aload_n 0, 1) := by decide +kernel
theorem dX10_press_1 : decode cX10_press 1 = .ok (.getfield 9, 3) := by decide +kernel
theorem dX10_press_4 : decode cX10_press 4 = .ok (.iconst 0, 1) := by decide +kernel
theorem dX10_press_5 : decode cX10_press 5 = .ok (.invokestatic 46, 3) := by decide +kernel
theorem dX10_press_8 : decode cX10_press 8 = .ok (.iconst 0, 1) := by decide +kernel
theorem dX10_press_9 : decode cX10_press 9 = .ok (.istore_n 2, 1) := by decide +kernel
theorem dX10_press_10 : decode cX10_press 10 = .ok (.iload_n 2, 1) := by decide +kernel
theorem dX10_press_11 : decode cX10_press 11 = .ok (.aload_n 0, 1) := by decide +kernel
theorem dX10_press_12 : decode cX10_press 12 = .ok (.getfield 25, 3) := by decide +kernel
theorem dX10_press_15 : decode cX10_press 15 = .ok (.getfield 52, 3) := by decide +kernel
theorem dX10_press_18 : decode cX10_press 18 = .ok (.if_icmp .ge 68, 3) := by decide +kernel
theorem dX10_press_21 : decode cX10_press 21 = .ok (.aload_n 0, 1) := by decide +kernel
theorem dX10_press_22 : decode cX10_press 22 = .ok (.getfield 25, 3) := by decide +kernel
theorem dX10_press_25 : decode cX10_press 25 = .ok (.getfield 57, 3) := by decide +kernel
theorem dX10_press_28 : decode cX10_press 28 = .ok (.iload_n 2, 1) := by decide +kernel
theorem dX10_press_29 : decode cX10_press 29 = .ok (.iaload, 1) := by decide +kernel
theorem dX10_press_30 : decode cX10_press 30 = .ok (.iload_n 1, 1) := by decide +kernel
theorem dX10_press_31 : decode cX10_press 31 = .ok (.if_icmp .ne 49, 3) := by decide +kernel
theorem dX10_press_34 : decode cX10_press 34 = .ok (.aload_n 0, 1) := by decide +kernel
theorem dX10_press_35 : decode cX10_press 35 = .ok (.getfield 25, 3) := by decide +kernel
theorem dX10_press_38 : decode cX10_press 38 = .ok (.getfield 60, 3) := by decide +kernel
theorem dX10_press_41 : decode cX10_press 41 = .ok (.iload_n 2, 1) := by decide +kernel
theorem dX10_press_42 : decode cX10_press 42 = .ok (.iaload, 1) := by decide +kernel
theorem dX10_press_43 : decode cX10_press 43 = .ok (.istore_n 3, 1) := by decide +kernel
theorem dX10_press_44 : decode cX10_press 44 = .ok (.iload_n 3, 1) := by decide +kernel
theorem dX10_press_45 : decode cX10_press 45 = .ok (.aload_n 0, 1) := by decide +kernel
theorem dX10_press_46 : decode cX10_press 46 = .ok (.getfield 25, 3) := by decide +kernel
theorem dX10_press_49 : decode cX10_press 49 = .ok (.iload_n 2, 1) := by decide +kernel
theorem dX10_press_50 : decode cX10_press 50 = .ok (.invokevirtual 63, 3) := by decide +kernel
theorem dX10_press_53 : decode cX10_press 53 = .ok (.if_icmp .ge 27, 3) := by decide +kernel
theorem dX10_press_56 : decode cX10_press 56 = .ok (.aload_n 0, 1) := by decide +kernel
theorem dX10_press_57 : decode cX10_press 57 = .ok (.getfield 9, 3) := by decide +kernel
theorem dX10_press_60 : decode cX10_press 60 = .ok (.iload_n 3, 1) := by decide +kernel
theorem dX10_press_61 : decode cX10_press 61 = .ok (.dup2, 1) := by decide +kernel
theorem dX10_press_62 : decode cX10_press 62 = .ok (.iaload, 1) := by decide +kernel
theorem dX10_press_63 : decode cX10_press 63 = .ok (.aload_n 0, 1) := by decide +kernel
theorem dX10_press_64 : decode cX10_press 64 = .ok (.getfield 25, 3) := by decide +kernel
theorem dX10_press_67 : decode cX10_press 67 = .ok (.getfield 67, 3) := by decide +kernel
theorem dX10_press_70 : decode cX10_press 70 = .ok (.iload_n 2, 1) := by decide +kernel
theorem dX10_press_71 : decode cX10_press 71 = .ok (.iaload, 1) := by decide +kernel
theorem dX10_press_72 : decode cX10_press 72 = .ok (.iadd, 1) := by decide +kernel
theorem dX10_press_73 : decode cX10_press 73 = .ok (.iastore, 1) := by decide +kernel
theorem dX10_press_74 : decode cX10_press 74 = .ok (.iinc 3 1, 3) := by decide +kernel
theorem dX10_press_77 : decode cX10_press 77 = .ok (.goto (-33), 3) := by decide +kernel
theorem dX10_press_80 : decode cX10_press 80 = .ok (.iinc 2 1, 3) := by decide +kernel
theorem dX10_press_83 : decode cX10_press 83 = .ok (.goto (-73), 3) := by decide +kernel
theorem dX10_press_86 : decode cX10_press 86 = .ok (.return_, 1) := by decide +kernel
theorem dX10_warm_0 : decode cX10_warm 0 = .ok (.aload_n 0, 1) := by decide +kernel
theorem dX10_warm_1 : decode cX10_warm 1 = .ok (.getfield 21, 3) := by decide +kernel
theorem dX10_warm_4 : decode cX10_warm 4 = .ok (.getfield 69, 3) := by decide +kernel
theorem dX10_warm_7 : decode cX10_warm 7 = .ok (.iload_n 1, 1) := by decide +kernel
theorem dX10_warm_8 : decode cX10_warm 8 = .ok (.iaload, 1) := by decide +kernel
theorem dX10_warm_9 : decode cX10_warm 9 = .ok (.aload_n 0, 1) := by decide +kernel
theorem dX10_warm_10 : decode cX10_warm 10 = .ok (.getfield 21, 3) := by decide +kernel
theorem dX10_warm_13 : decode cX10_warm 13 = .ok (.getfield 72, 3) := by decide +kernel
theorem dX10_warm_16 : decode cX10_warm 16 = .ok (.bipush 8, 2) := by decide +kernel
theorem dX10_warm_18 : decode cX10_warm 18 = .ok (.iaload, 1) := by decide +kernel
theorem dX10_warm_19 : decode cX10_warm 19 = .ok (.imul, 1) := by decide +kernel
theorem dX10_warm_20 : decode cX10_warm 20 = .ok (.istore_n 2, 1) := by decide +kernel
theorem dX10_warm_21 : decode cX10_warm 21 = .ok (.iconst 0, 1) := by decide +kernel
theorem dX10_warm_22 : decode cX10_warm 22 = .ok (.istore_n 3, 1) := by decide +kernel
theorem dX10_warm_23 : decode cX10_warm 23 = .ok (.aload_n 0, 1) := by decide +kernel
theorem dX10_warm_24 : decode cX10_warm 24 = .ok (.getfield 18, 3) := by decide +kernel
theorem dX10_warm_27 : decode cX10_warm 27 = .ok (.iload_n 1, 1) := by decide +kernel
theorem dX10_warm_28 : decode cX10_warm 28 = .ok (.iconst (-1), 1) := by decide +kernel
theorem dX10_warm_29 : decode cX10_warm 29 = .ok (.iastore, 1) := by decide +kernel
theorem dX10_warm_30 : decode cX10_warm 30 = .ok (.iconst 0, 1) := by decide +kernel
theorem dX10_warm_31 : decode cX10_warm 31 = .ok (.istore 4, 2) := by decide +kernel
theorem dX10_warm_33 : decode cX10_warm 33 = .ok (.iload 4, 2) := by decide +kernel
theorem dX10_warm_35 : decode cX10_warm 35 = .ok (.sipush 200, 3) := by decide +kernel
theorem dX10_warm_38 : decode cX10_warm 38 = .ok (.if_icmp .ge 120, 3) := by decide +kernel
theorem dX10_warm_41 : decode cX10_warm 41 = .ok (.aload_n 0, 1) := by decide +kernel
theorem dX10_warm_42 : decode cX10_warm 42 = .ok (.getfield 15, 3) := by decide +kernel
theorem dX10_warm_45 : decode cX10_warm 45 = .ok (.iload_n 1, 1) := by decide +kernel
theorem dX10_warm_46 : decode cX10_warm 46 = .ok (.sipush 200, 3) := by decide +kernel
theorem dX10_warm_49 : decode cX10_warm 49 = .ok (.imul, 1) := by decide +kernel
theorem dX10_warm_50 : decode cX10_warm 50 = .ok (.iload 4, 2) := by decide +kernel
theorem dX10_warm_52 : decode cX10_warm 52 = .ok (.iadd, 1) := by decide +kernel
theorem dX10_warm_53 : decode cX10_warm 53 = .ok (.iload_n 3, 1) := by decide +kernel
theorem dX10_warm_54 : decode cX10_warm 54 = .ok (.iastore, 1) := by decide +kernel
theorem dX10_warm_55 : decode cX10_warm 55 = .ok (.aload_n 0, 1) := by decide +kernel
theorem dX10_warm_56 : decode cX10_warm 56 = .ok (.getfield 18, 3) := by decide +kernel
theorem dX10_warm_59 : decode cX10_warm 59 = .ok (.iload_n 1, 1) := by decide +kernel
theorem dX10_warm_60 : decode cX10_warm 60 = .ok (.iaload, 1) := by decide +kernel
theorem dX10_warm_61 : decode cX10_warm 61 = .ok (.iconst (-1), 1) := by decide +kernel
theorem dX10_warm_62 : decode cX10_warm 62 = .ok (.if_icmp .ne 16, 3) := by decide +kernel
theorem dX10_warm_65 : decode cX10_warm 65 = .ok (.iload_n 3, 1) := by decide +kernel
theorem dX10_warm_66 : decode cX10_warm 66 = .ok (.iload_n 2, 1) := by decide +kernel
theorem dX10_warm_67 : decode cX10_warm 67 = .ok (.if_icmp .le 11, 3) := by decide +kernel
theorem dX10_warm_70 : decode cX10_warm 70 = .ok (.aload_n 0, 1) := by decide +kernel
theorem dX10_warm_71 : decode cX10_warm 71 = .ok (.getfield 18, 3) := by decide +kernel
theorem dX10_warm_74 : decode cX10_warm 74 = .ok (.iload_n 1, 1) := by decide +kernel
theorem dX10_warm_75 : decode cX10_warm 75 = .ok (.iload 4, 2) := by decide +kernel
theorem dX10_warm_77 : decode cX10_warm 77 = .ok (.iastore, 1) := by decide +kernel
theorem dX10_warm_78 : decode cX10_warm 78 = .ok (.aload_n 0, 1) := by decide +kernel
theorem dX10_warm_79 : decode cX10_warm 79 = .ok (.getfield 9, 3) := by decide +kernel
theorem dX10_warm_82 : decode cX10_warm 82 = .ok (.iload 4, 2) := by decide +kernel
theorem dX10_warm_84 : decode cX10_warm 84 = .ok (.iaload, 1) := by decide +kernel
theorem dX10_warm_85 : decode cX10_warm 85 = .ok (.ifCond .le 50, 3) := by decide +kernel
theorem dX10_warm_88 : decode cX10_warm 88 = .ok (.aload_n 0, 1) := by decide +kernel
theorem dX10_warm_89 : decode cX10_warm 89 = .ok (.getfield 21, 3) := by decide +kernel
theorem dX10_warm_92 : decode cX10_warm 92 = .ok (.getfield 72, 3) := by decide +kernel
theorem dX10_warm_95 : decode cX10_warm 95 = .ok (.bipush 6, 2) := by decide +kernel
theorem dX10_warm_97 : decode cX10_warm 97 = .ok (.iaload, 1) := by decide +kernel
theorem dX10_warm_98 : decode cX10_warm 98 = .ok (.aload_n 0, 1) := by decide +kernel
theorem dX10_warm_99 : decode cX10_warm 99 = .ok (.getfield 9, 3) := by decide +kernel
theorem dX10_warm_102 : decode cX10_warm 102 = .ok (.iload 4, 2) := by decide +kernel
theorem dX10_warm_104 : decode cX10_warm 104 = .ok (.iaload, 1) := by decide +kernel
theorem dX10_warm_105 : decode cX10_warm 105 = .ok (.imul, 1) := by decide +kernel
theorem dX10_warm_106 : decode cX10_warm 106 = .ok (.istore 5, 2) := by decide +kernel
theorem dX10_warm_108 : decode cX10_warm 108 = .ok (.iload_n 3, 1) := by decide +kernel
theorem dX10_warm_109 : decode cX10_warm 109 = .ok (.aload_n 0, 1) := by decide +kernel
theorem dX10_warm_110 : decode cX10_warm 110 = .ok (.getfield 21, 3) := by decide +kernel
theorem dX10_warm_113 : decode cX10_warm 113 = .ok (.getfield 75, 3) := by decide +kernel
theorem dX10_warm_116 : decode cX10_warm 116 = .ok (.iload_n 1, 1) := by decide +kernel
theorem dX10_warm_117 : decode cX10_warm 117 = .ok (.iaload, 1) := by decide +kernel
theorem dX10_warm_118 : decode cX10_warm 118 = .ok (.ifCond .ne 8, 3) := by decide +kernel
theorem dX10_warm_121 : decode cX10_warm 121 = .ok (.iload 5, 2) := by decide +kernel
theorem dX10_warm_123 : decode cX10_warm 123 = .ok (.goto 7, 3) := by decide +kernel
theorem dX10_warm_126 : decode cX10_warm 126 = .ok (.iload 5, 2) := by decide +kernel
theorem dX10_warm_128 : decode cX10_warm 128 = .ok (.iconst 2, 1) := by decide +kernel
theorem dX10_warm_129 : decode cX10_warm 129 = .ok (.idiv, 1) := by decide +kernel
theorem dX10_warm_130 : decode cX10_warm 130 = .ok (.iadd, 1) := by decide +kernel
theorem dX10_warm_131 : decode cX10_warm 131 = .ok (.istore_n 3, 1) := by decide +kernel
theorem dX10_warm_132 : decode cX10_warm 132 = .ok (.goto 20, 3) := by decide +kernel
theorem dX10_warm_135 : decode cX10_warm 135 = .ok (.iconst 0, 1) := by decide +kernel
theorem dX10_warm_136 : decode cX10_warm 136 = .ok (.iload_n 3, 1) := by decide +kernel
theorem dX10_warm_137 : decode cX10_warm 137 = .ok (.aload_n 0, 1) := by decide +kernel
theorem dX10_warm_138 : decode cX10_warm 138 = .ok (.getfield 21, 3) := by decide +kernel
theorem dX10_warm_141 : decode cX10_warm 141 = .ok (.getfield 72, 3) := by decide +kernel
theorem dX10_warm_144 : decode cX10_warm 144 = .ok (.bipush 7, 2) := by decide +kernel
theorem dX10_warm_146 : decode cX10_warm 146 = .ok (.iaload, 1) := by decide +kernel
theorem dX10_warm_147 : decode cX10_warm 147 = .ok (.isub, 1) := by decide +kernel
theorem dX10_warm_148 : decode cX10_warm 148 = .ok (.invokestatic 78, 3) := by decide +kernel
theorem dX10_warm_151 : decode cX10_warm 151 = .ok (.istore_n 3, 1) := by decide +kernel
theorem dX10_warm_152 : decode cX10_warm 152 = .ok (.iinc 4 1, 3) := by decide +kernel
theorem dX10_warm_155 : decode cX10_warm 155 = .ok (.goto (-122), 3) := by decide +kernel
theorem dX10_warm_158 : decode cX10_warm 158 = .ok (.return_, 1) := by decide +kernel
theorem dX11_init_0 : decode cX11_init 0 = .ok (.aload_n 0, 1) := by decide +kernel
theorem dX11_init_1 : decode cX11_init 1 = .ok (.invokespecial 1, 3) := by decide +kernel
theorem dX11_init_4 : decode cX11_init 4 = .ok (.aload_n 0, 1) := by decide +kernel
theorem dX11_init_5 : decode cX11_init 5 = .ok (.new 7, 3) := by decide +kernel
theorem dX11_init_8 : decode cX11_init 8 = .ok (.dup, 1) := by decide +kernel
theorem dX11_init_9 : decode cX11_init 9 = .ok (.invokespecial 9, 3) := by decide +kernel
theorem dX11_init_12 : decode cX11_init 12 = .ok (.putfield 10, 3) := by decide +kernel
theorem dX11_init_15 : decode cX11_init 15 = .ok (.aload_n 0, 1) := by decide +kernel
theorem dX11_init_16 : decode cX11_init 16 = .ok (.new 16, 3) := by decide +kernel
theorem dX11_init_19 : decode cX11_init 19 = .ok (.dup, 1) := by decide +kernel
theorem dX11_init_20 : decode cX11_init 20 = .ok (.invokespecial 18, 3) := by decide +kernel
theorem dX11_init_23 : decode cX11_init 23 = .ok (.putfield 19, 3) := by decide +kernel
theorem dX11_init_26 : decode cX11_init 26 = .ok (.aload_n 0, 1) := by decide +kernel
