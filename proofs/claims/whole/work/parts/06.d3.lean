theorem dX11_init_27 : decode cX11_init 27 = .ok (.new 16, 3) := by decide +kernel
theorem dX11_init_30 : decode cX11_init 30 = .ok (.dup, 1) := by decide +kernel
theorem dX11_init_31 : decode cX11_init 31 = .ok (.invokespecial 18, 3) := by decide +kernel
theorem dX11_init_34 : decode cX11_init 34 = .ok (.putfield 23, 3) := by decide +kernel
theorem dX11_init_37 : decode cX11_init 37 = .ok (.aload_n 0, 1) := by decide +kernel
theorem dX11_init_38 : decode cX11_init 38 = .ok (.new 26, 3) := by decide +kernel
theorem dX11_init_41 : decode cX11_init 41 = .ok (.dup, 1) := by decide +kernel
theorem dX11_init_42 : decode cX11_init 42 = .ok (.aload_n 0, 1) := by decide +kernel
theorem dX11_init_43 : decode cX11_init 43 = .ok (.getfield 10, 3) := by decide +kernel
theorem dX11_init_46 : decode cX11_init 46 = .ok (.aload_n 0, 1) := by decide +kernel
theorem dX11_init_47 : decode cX11_init 47 = .ok (.getfield 23, 3) := by decide +kernel
theorem dX11_init_50 : decode cX11_init 50 = .ok (.invokespecial 28, 3) := by decide +kernel
theorem dX11_init_53 : decode cX11_init 53 = .ok (.putfield 31, 3) := by decide +kernel
theorem dX11_init_56 : decode cX11_init 56 = .ok (.aload_n 0, 1) := by decide +kernel
theorem dX11_init_57 : decode cX11_init 57 = .ok (.new 35, 3) := by decide +kernel
theorem dX11_init_60 : decode cX11_init 60 = .ok (.dup, 1) := by decide +kernel
theorem dX11_init_61 : decode cX11_init 61 = .ok (.invokespecial 37, 3) := by decide +kernel
theorem dX11_init_64 : decode cX11_init 64 = .ok (.putfield 38, 3) := by decide +kernel
theorem dX11_init_67 : decode cX11_init 67 = .ok (.aload_n 0, 1) := by decide +kernel
theorem dX11_init_68 : decode cX11_init 68 = .ok (.iconst 4, 1) := by decide +kernel
theorem dX11_init_69 : decode cX11_init 69 = .ok (.anewarray 16, 3) := by decide +kernel
theorem dX11_init_72 : decode cX11_init 72 = .ok (.putfield 42, 3) := by decide +kernel
theorem dX11_init_75 : decode cX11_init 75 = .ok (.aload_n 0, 1) := by decide +kernel
theorem dX11_init_76 : decode cX11_init 76 = .ok (.iconst 4, 1) := by decide +kernel
theorem dX11_init_77 : decode cX11_init 77 = .ok (.anewarray 35, 3) := by decide +kernel
theorem dX11_init_80 : decode cX11_init 80 = .ok (.putfield 46, 3) := by decide +kernel
theorem dX11_init_83 : decode cX11_init 83 = .ok (.aload_n 0, 1) := by decide +kernel
theorem dX11_init_84 : decode cX11_init 84 = .ok (.new 50, 3) := by decide +kernel
theorem dX11_init_87 : decode cX11_init 87 = .ok (.dup, 1) := by decide +kernel
theorem dX11_init_88 : decode cX11_init 88 = .ok (.aload_n 0, 1) := by decide +kernel
theorem dX11_init_89 : decode cX11_init 89 = .ok (.getfield 19, 3) := by decide +kernel
theorem dX11_init_92 : decode cX11_init 92 = .ok (.aload_n 0, 1) := by decide +kernel
theorem dX11_init_93 : decode cX11_init 93 = .ok (.getfield 38, 3) := by decide +kernel
theorem dX11_init_96 : decode cX11_init 96 = .ok (.invokespecial 52, 3) := by decide +kernel
theorem dX11_init_99 : decode cX11_init 99 = .ok (.putfield 55, 3) := by decide +kernel
theorem dX11_init_102 : decode cX11_init 102 = .ok (.aload_n 0, 1) := by decide +kernel
theorem dX11_init_103 : decode cX11_init 103 = .ok (.new 59, 3) := by decide +kernel
theorem dX11_init_106 : decode cX11_init 106 = .ok (.dup, 1) := by decide +kernel
theorem dX11_init_107 : decode cX11_init 107 = .ok (.aload_n 0, 1) := by decide +kernel
theorem dX11_init_108 : decode cX11_init 108 = .ok (.getfield 19, 3) := by decide +kernel
theorem dX11_init_111 : decode cX11_init 111 = .ok (.aload_n 0, 1) := by decide +kernel
theorem dX11_init_112 : decode cX11_init 112 = .ok (.getfield 38, 3) := by decide +kernel
theorem dX11_init_115 : decode cX11_init 115 = .ok (.invokespecial 61, 3) := by decide +kernel
theorem dX11_init_118 : decode cX11_init 118 = .ok (.putfield 62, 3) := by decide +kernel
theorem dX11_init_121 : decode cX11_init 121 = .ok (.aload_n 0, 1) := by decide +kernel
theorem dX11_init_122 : decode cX11_init 122 = .ok (.new 66, 3) := by decide +kernel
theorem dX11_init_125 : decode cX11_init 125 = .ok (.dup, 1) := by decide +kernel
theorem dX11_init_126 : decode cX11_init 126 = .ok (.aload_n 0, 1) := by decide +kernel
theorem dX11_init_127 : decode cX11_init 127 = .ok (.getfield 19, 3) := by decide +kernel
theorem dX11_init_130 : decode cX11_init 130 = .ok (.aload_n 0, 1) := by decide +kernel
theorem dX11_init_131 : decode cX11_init 131 = .ok (.getfield 38, 3) := by decide +kernel
theorem dX11_init_134 : decode cX11_init 134 = .ok (.aload_n 0, 1) := by decide +kernel
theorem dX11_init_135 : decode cX11_init 135 = .ok (.getfield 55, 3) := by decide +kernel
theorem dX11_init_138 : decode cX11_init 138 = .ok (.aload_n 0, 1) := by decide +kernel
theorem dX11_init_139 : decode cX11_init 139 = .ok (.getfield 62, 3) := by decide +kernel
theorem dX11_init_142 : decode cX11_init 142 = .ok (.invokespecial 68, 3) := by decide +kernel
theorem dX11_init_145 : decode cX11_init 145 = .ok (.putfield 71, 3) := by decide +kernel
theorem dX11_init_148 : decode cX11_init 148 = .ok (.aload_n 0, 1) := by decide +kernel
theorem dX11_init_149 : decode cX11_init 149 = .ok (.new 75, 3) := by decide +kernel
theorem dX11_init_152 : decode cX11_init 152 = .ok (.dup, 1) := by decide +kernel
theorem dX11_init_153 : decode cX11_init 153 = .ok (.aload_n 0, 1) := by decide +kernel
theorem dX11_init_154 : decode cX11_init 154 = .ok (.getfield 19, 3) := by decide +kernel
theorem dX11_init_157 : decode cX11_init 157 = .ok (.aload_n 0, 1) := by decide +kernel
theorem dX11_init_158 : decode cX11_init 158 = .ok (.getfield 38, 3) := by decide +kernel
theorem dX11_init_161 : decode cX11_init 161 = .ok (.aload_n 0, 1) := by decide +kernel
theorem dX11_init_162 : decode cX11_init 162 = .ok (.getfield 62, 3) := by decide +kernel
theorem dX11_init_165 : decode cX11_init 165 = .ok (.invokespecial 77, 3) := by decide +kernel
theorem dX11_init_168 : decode cX11_init 168 = .ok (.putfield 80, 3) := by decide +kernel
theorem dX11_init_171 : decode cX11_init 171 = .ok (.aload_n 0, 1) := by decide +kernel
theorem dX11_init_172 : decode cX11_init 172 = .ok (.new 84, 3) := by decide +kernel
theorem dX11_init_175 : decode cX11_init 175 = .ok (.dup, 1) := by decide +kernel
theorem dX11_init_176 : decode cX11_init 176 = .ok (.aload_n 0, 1) := by decide +kernel
theorem dX11_init_177 : decode cX11_init 177 = .ok (.getfield 19, 3) := by decide +kernel
theorem dX11_init_180 : decode cX11_init 180 = .ok (.invokespecial 86, 3) := by decide +kernel
theorem dX11_init_183 : decode cX11_init 183 = .ok (.putfield 89, 3) := by decide +kernel
theorem dX11_init_186 : decode cX11_init 186 = .ok (.aload_n 0, 1) := by decide +kernel
theorem dX11_init_187 : decode cX11_init 187 = .ok (.new 93, 3) := by decide +kernel
theorem dX11_init_190 : decode cX11_init 190 = .ok (.dup, 1) := by decide +kernel
theorem dX11_init_191 : decode cX11_init 191 = .ok (.aload_n 0, 1) := by decide +kernel
theorem dX11_init_192 : decode cX11_init 192 = .ok (.getfield 19, 3) := by decide +kernel
theorem dX11_init_195 : decode cX11_init 195 = .ok (.aload_n 0, 1) := by decide +kernel
theorem dX11_init_196 : decode cX11_init 196 = .ok (.getfield 38, 3) := by decide +kernel
theorem dX11_init_199 : decode cX11_init 199 = .ok (.invokespecial 95, 3) := by decide +kernel
theorem dX11_init_202 : decode cX11_init 202 = .ok (.putfield 96, 3) := by decide +kernel
theorem dX11_init_205 : decode cX11_init 205 = .ok (.return_, 1) := by decide +kernel
theorem dX11_feed_0 : decode cX11_feed 0 = .ok (.aload_n 0, 1) := by decide +kernel
theorem dX11_feed_1 : decode cX11_feed 1 = .ok (.getfield 10, 3) := by decide +kernel
theorem dX11_feed_4 : decode cX11_feed 4 = .ok (.lload_n 1, 1) := by decide +kernel
theorem dX11_feed_5 : decode cX11_feed 5 = .ok (.invokevirtual 100, 3) := by decide +kernel
theorem dX11_feed_8 : decode cX11_feed 8 = .ok (.aload_n 0, 1) := by decide +kernel
theorem dX11_feed_9 : decode cX11_feed 9 = .ok (.getfield 10, 3) := by decide +kernel
theorem dX11_feed_12 : decode cX11_feed 12 = .ok (.lload_n 3, 1) := by decide +kernel
theorem dX11_feed_13 : decode cX11_feed 13 = .ok (.invokevirtual 100, 3) := by decide +kernel
theorem dX11_feed_16 : decode cX11_feed 16 = .ok (.aload_n 0, 1) := by decide +kernel
theorem dX11_feed_17 : decode cX11_feed 17 = .ok (.getfield 10, 3) := by decide +kernel
theorem dX11_feed_20 : decode cX11_feed 20 = .ok (.lload 5, 2) := by decide +kernel
theorem dX11_feed_22 : decode cX11_feed 22 = .ok (.invokevirtual 100, 3) := by decide +kernel
theorem dX11_feed_25 : decode cX11_feed 25 = .ok (.aload_n 0, 1) := by decide +kernel
theorem dX11_feed_26 : decode cX11_feed 26 = .ok (.getfield 10, 3) := by decide +kernel
theorem dX11_feed_29 : decode cX11_feed 29 = .ok (.getfield 104, 3) := by decide +kernel
theorem dX11_feed_32 : decode cX11_feed 32 = .ok (.ireturn, 1) := by decide +kernel
theorem dX11_spindle_0 : decode cX11_spindle 0 = .ok (.aload_n 0, 1) := by decide +kernel
theorem dX11_spindle_1 : decode cX11_spindle 1 = .ok (.getfield 31, 3) := by decide +kernel
theorem dX11_spindle_4 : decode cX11_spindle 4 = .ok (.invokevirtual 108, 3) := by decide +kernel
theorem dX11_spindle_7 : decode cX11_spindle 7 = .ok (.istore_n 1, 1) := by decide +kernel
theorem dX11_spindle_8 : decode cX11_spindle 8 = .ok (.aload_n 0, 1) := by decide +kernel
theorem dX11_spindle_9 : decode cX11_spindle 9 = .ok (.getfield 10, 3) := by decide +kernel
theorem dX11_spindle_12 : decode cX11_spindle 12 = .ok (.iconst 0, 1) := by decide +kernel
theorem dX11_spindle_13 : decode cX11_spindle 13 = .ok (.putfield 104, 3) := by decide +kernel
theorem dX11_spindle_16 : decode cX11_spindle 16 = .ok (.iload_n 1, 1) := by decide +kernel
theorem dX11_spindle_17 : decode cX11_spindle 17 = .ok (.ifCond .ne 26, 3) := by decide +kernel
theorem dX11_spindle_20 : decode cX11_spindle 20 = .ok (.aload_n 0, 1) := by decide +kernel
theorem dX11_spindle_21 : decode cX11_spindle 21 = .ok (.getfield 19, 3) := by decide +kernel
theorem dX11_spindle_24 : decode cX11_spindle 24 = .ok (.aload_n 0, 1) := by decide +kernel
theorem dX11_spindle_25 : decode cX11_spindle 25 = .ok (.getfield 23, 3) := by decide +kernel
theorem dX11_spindle_28 : decode cX11_spindle 28 = .ok (.invokevirtual 112, 3) := by decide +kernel
theorem dX11_spindle_31 : decode cX11_spindle 31 = .ok (.aload_n 0, 1) := by decide +kernel
theorem dX11_spindle_32 : decode cX11_spindle 32 = .ok (.getfield 38, 3) := by decide +kernel
theorem dX11_spindle_35 : decode cX11_spindle 35 = .ok (.iconst 0, 1) := by decide +kernel
theorem dX11_spindle_36 : decode cX11_spindle 36 = .ok (.putfield 115, 3) := by decide +kernel
theorem dX11_spindle_39 : decode cX11_spindle 39 = .ok (.aload_n 0, 1) := by decide +kernel
theorem dX11_spindle_40 : decode cX11_spindle 40 = .ok (.invokevirtual 118, 3) := by decide +kernel
theorem dX11_spindle_43 : decode cX11_spindle 43 = .ok (.iload_n 1, 1) := by decide +kernel
theorem dX11_spindle_44 : decode cX11_spindle 44 = .ok (.ireturn, 1) := by decide +kernel
theorem dX11_bowl_0 : decode cX11_bowl 0 = .ok (.aload_n 0, 1) := by decide +kernel
theorem dX11_bowl_1 : decode cX11_bowl 1 = .ok (.getfield 19, 3) := by decide +kernel
theorem dX11_bowl_4 : decode cX11_bowl 4 = .ok (.iload_n 1, 1) := by decide +kernel
theorem dX11_bowl_5 : decode cX11_bowl 5 = .ok (.invokevirtual 121, 3) := by decide +kernel
theorem dX11_bowl_8 : decode cX11_bowl 8 = .ok (.ifCond .ne 5, 3) := by decide +kernel
theorem dX11_bowl_11 : decode cX11_bowl 11 = .ok (.iconst (-1), 1) := by decide +kernel
theorem dX11_bowl_12 : decode cX11_bowl 12 = .ok (.ireturn, 1) := by decide +kernel
theorem dX11_bowl_13 : decode cX11_bowl 13 = .ok (.iload_n 2, 1) := by decide +kernel
theorem dX11_bowl_14 : decode cX11_bowl 14 = .ok (.tableswitch 84 0 4 #[34, 44, 54, 64, 74], 34) := by decide +kernel
theorem dX11_bowl_48 : decode cX11_bowl 48 = .ok (.aload_n 0, 1) := by decide +kernel
theorem dX11_bowl_49 : decode cX11_bowl 49 = .ok (.getfield 19, 3) := by decide +kernel
theorem dX11_bowl_52 : decode cX11_bowl 52 = .ok (.getfield 125, 3) := by decide +kernel
theorem dX11_bowl_55 : decode cX11_bowl 55 = .ok (.iload_n 1, 1) := by decide +kernel
theorem dX11_bowl_56 : decode cX11_bowl 56 = .ok (.iaload, 1) := by decide +kernel
theorem dX11_bowl_57 : decode cX11_bowl 57 = .ok (.ireturn, 1) := by decide +kernel
theorem dX11_bowl_58 : decode cX11_bowl 58 = .ok (.aload_n 0, 1) := by decide +kernel
theorem dX11_bowl_59 : decode cX11_bowl 59 = .ok (.getfield 19, 3) := by decide +kernel
theorem dX11_bowl_62 : decode cX11_bowl 62 = .ok (.getfield 129, 3) := by decide +kernel
theorem dX11_bowl_65 : decode cX11_bowl 65 = .ok (.iload_n 1, 1) := by decide +kernel
theorem dX11_bowl_66 : decode cX11_bowl 66 = .ok (.iaload, 1) := by decide +kernel
theorem dX11_bowl_67 : decode cX11_bowl 67 = .ok (.ireturn, 1) := by decide +kernel
theorem dX11_bowl_68 : decode cX11_bowl 68 = .ok (.aload_n 0, 1) := by decide +kernel
theorem dX11_bowl_69 : decode cX11_bowl 69 = .ok (.getfield 19, 3) := by decide +kernel
theorem dX11_bowl_72 : decode cX11_bowl 72 = .ok (.getfield 132, 3) := by decide +kernel
theorem dX11_bowl_75 : decode cX11_bowl 75 = .ok (.iload_n 1, 1) := by decide +kernel
theorem dX11_bowl_76 : decode cX11_bowl 76 = .ok (.iaload, 1) := by decide +kernel
theorem dX11_bowl_77 : decode cX11_bowl 77 = .ok (.ireturn, 1) := by decide +kernel
theorem dX11_bowl_78 : decode cX11_bowl 78 = .ok (.aload_n 0, 1) := by decide +kernel
theorem dX11_bowl_79 : decode cX11_bowl 79 = .ok (.getfield 19, 3) := by decide +kernel
theorem dX11_bowl_82 : decode cX11_bowl 82 = .ok (.getfield 135, 3) := by decide +kernel
theorem dX11_bowl_85 : decode cX11_bowl 85 = .ok (.iload_n 1, 1) := by decide +kernel
theorem dX11_bowl_86 : decode cX11_bowl 86 = .ok (.iaload, 1) := by decide +kernel
theorem dX11_bowl_87 : decode cX11_bowl 87 = .ok (.ireturn, 1) := by decide +kernel
theorem dX11_bowl_88 : decode cX11_bowl 88 = .ok (.aload_n 0, 1) := by decide +kernel
theorem dX11_bowl_89 : decode cX11_bowl 89 = .ok (.getfield 19, 3) := by decide +kernel
theorem dX11_bowl_92 : decode cX11_bowl 92 = .ok (.getfield 138, 3) := by decide +kernel
theorem dX11_bowl_95 : decode cX11_bowl 95 = .ok (.iload_n 1, 1) := by decide +kernel
theorem dX11_bowl_96 : decode cX11_bowl 96 = .ok (.iaload, 1) := by decide +kernel
theorem dX11_bowl_97 : decode cX11_bowl 97 = .ok (.ireturn, 1) := by decide +kernel
theorem dX11_bowl_98 : decode cX11_bowl 98 = .ok (.iconst (-1), 1) := by decide +kernel
theorem dX11_bowl_99 : decode cX11_bowl 99 = .ok (.ireturn, 1) := by decide +kernel
theorem dX11_note_0 : decode cX11_note 0 = .ok (.aload_n 0, 1) := by decide +kernel
theorem dX11_note_1 : decode cX11_note 1 = .ok (.getfield 19, 3) := by decide +kernel
theorem dX11_note_4 : decode cX11_note 4 = .ok (.iload_n 1, 1) := by decide +kernel
theorem dX11_note_5 : decode cX11_note 5 = .ok (.invokevirtual 141, 3) := by decide +kernel
theorem dX11_note_8 : decode cX11_note 8 = .ok (.ifCond .eq 44, 3) := by decide +kernel
theorem dX11_note_11 : decode cX11_note 11 = .ok (.aload_n 0, 1) := by decide +kernel
theorem dX11_note_12 : decode cX11_note 12 = .ok (.getfield 38, 3) := by decide +kernel
theorem dX11_note_15 : decode cX11_note 15 = .ok (.iload_n 2, 1) := by decide +kernel
theorem dX11_note_16 : decode cX11_note 16 = .ok (.iload_n 3, 1) := by decide +kernel
theorem dX11_note_17 : decode cX11_note 17 = .ok (.invokevirtual 144, 3) := by decide +kernel
theorem dX11_note_20 : decode cX11_note 20 = .ok (.ifCond .eq 32, 3) := by decide +kernel
theorem dX11_note_23 : decode cX11_note 23 = .ok (.iload 4, 2) := by decide +kernel
theorem dX11_note_25 : decode cX11_note 25 = .ok (.iconst 1, 1) := by decide +kernel
theorem dX11_note_26 : decode cX11_note 26 = .ok (.if_icmp .lt 26, 3) := by decide +kernel
theorem dX11_note_29 : decode cX11_note 29 = .ok (.iload 4, 2) := by decide +kernel
theorem dX11_note_31 : decode cX11_note 31 = .ok (.bipush 9, 2) := by decide +kernel
theorem dX11_note_33 : decode cX11_note 33 = .ok (.if_icmp .gt 19, 3) := by decide +kernel
theorem dX11_note_36 : decode cX11_note 36 = .ok (.aload_n 0, 1) := by decide +kernel
theorem dX11_note_37 : decode cX11_note 37 = .ok (.getfield 19, 3) := by decide +kernel
theorem dX11_note_40 : decode cX11_note 40 = .ok (.iload 5, 2) := by decide +kernel
theorem dX11_note_42 : decode cX11_note 42 = .ok (.invokevirtual 148, 3) := by decide +kernel
theorem dX11_note_45 : decode cX11_note 45 = .ok (.ifCond .eq 7, 3) := by decide +kernel
theorem dX11_note_48 : decode cX11_note 48 = .ok (.iconst 1, 1) := by decide +kernel
theorem dX11_note_49 : decode cX11_note 49 = .ok (.goto 4, 3) := by decide +kernel
theorem dX11_note_52 : decode cX11_note 52 = .ok (.iconst 0, 1) := by decide +kernel
theorem dX11_note_53 : decode cX11_note 53 = .ok (.istore 6, 2) := by decide +kernel
theorem dX11_note_55 : decode cX11_note 55 = .ok (.iload 6, 2) := by decide +kernel
theorem dX11_note_57 : decode cX11_note 57 = .ok (.ifCond .ne 5, 3) := by decide +kernel
theorem dX11_note_60 : decode cX11_note 60 = .ok (.iconst (-1), 1) := by decide +kernel
theorem dX11_note_61 : decode cX11_note 61 = .ok (.ireturn, 1) := by decide +kernel
theorem dX11_note_62 : decode cX11_note 62 = .ok (.aload_n 0, 1) := by decide +kernel
theorem dX11_note_63 : decode cX11_note 63 = .ok (.getfield 38, 3) := by decide +kernel
theorem dX11_note_66 : decode cX11_note 66 = .ok (.iload_n 1, 1) := by decide +kernel
theorem dX11_note_67 : decode cX11_note 67 = .ok (.iload_n 2, 1) := by decide +kernel
theorem dX11_note_68 : decode cX11_note 68 = .ok (.iload_n 3, 1) := by decide +kernel
theorem dX11_note_69 : decode cX11_note 69 = .ok (.iload 4, 2) := by decide +kernel
theorem dX11_note_71 : decode cX11_note 71 = .ok (.iload 5, 2) := by decide +kernel
theorem dX11_note_73 : decode cX11_note 73 = .ok (.invokevirtual 151, 3) := by decide +kernel
theorem dX11_note_76 : decode cX11_note 76 = .ok (.aload_n 0, 1) := by decide +kernel
theorem dX11_note_77 : decode cX11_note 77 = .ok (.invokevirtual 155, 3) := by decide +kernel
theorem dX11_note_80 : decode cX11_note 80 = .ok (.aload_n 0, 1) := by decide +kernel
theorem dX11_note_81 : decode cX11_note 81 = .ok (.getfield 38, 3) := by decide +kernel
theorem dX11_note_84 : decode cX11_note 84 = .ok (.getfield 115, 3) := by decide +kernel
theorem dX11_note_87 : decode cX11_note 87 = .ok (.iconst 1, 1) := by decide +kernel
theorem dX11_note_88 : decode cX11_note 88 = .ok (.isub, 1) := by decide +kernel
theorem dX11_note_89 : decode cX11_note 89 = .ok (.ireturn, 1) := by decide +kernel
theorem dX11_drop_0 : decode cX11_drop 0 = .ok (.aload_n 0, 1) := by decide +kernel
theorem dX11_drop_1 : decode cX11_drop 1 = .ok (.getfield 38, 3) := by decide +kernel
theorem dX11_drop_4 : decode cX11_drop 4 = .ok (.getfield 115, 3) := by decide +kernel
theorem dX11_drop_7 : decode cX11_drop 7 = .ok (.ifCond .ne 5, 3) := by decide +kernel
theorem dX11_drop_10 : decode cX11_drop 10 = .ok (.iconst 0, 1) := by decide +kernel
theorem dX11_drop_11 : decode cX11_drop 11 = .ok (.ireturn, 1) := by decide +kernel
theorem dX11_drop_12 : decode cX11_drop 12 = .ok (.aload_n 0, 1) := by decide +kernel
theorem dX11_drop_13 : decode cX11_drop 13 = .ok (.getfield 38, 3) := by decide +kernel
theorem dX11_drop_16 : decode cX11_drop 16 = .ok (.dup, 1) := by decide +kernel
theorem dX11_drop_17 : decode cX11_drop 17 = .ok (.getfield 115, 3) := by decide +kernel
theorem dX11_drop_20 : decode cX11_drop 20 = .ok (.iconst 1, 1) := by decide +kernel
theorem dX11_drop_21 : decode cX11_drop 21 = .ok (.isub, 1) := by decide +kernel
theorem dX11_drop_22 : decode cX11_drop 22 = .ok (.putfield 115, 3) := by decide +kernel
theorem dX11_drop_25 : decode cX11_drop 25 = .ok (.aload_n 0, 1) := by decide +kernel
theorem dX11_drop_26 : decode cX11_drop 26 = .ok (.invokevirtual 155, 3) := by decide +kernel
theorem dX11_drop_29 : decode cX11_drop 29 = .ok (.iconst 1, 1) := by decide +kernel
theorem dX11_drop_30 : decode cX11_drop 30 = .ok (.ireturn, 1) := by decide +kernel
theorem dX11_finger_0 : decode cX11_finger 0 = .ok (.aload_n 0, 1) := by decide +kernel
theorem dX11_finger_1 : decode cX11_finger 1 = .ok (.getfield 38, 3) := by decide +kernel
theorem dX11_finger_4 : decode cX11_finger 4 = .ok (.iload_n 1, 1) := by decide +kernel
theorem dX11_finger_5 : decode cX11_finger 5 = .ok (.invokevirtual 158, 3) := by decide +kernel
theorem dX11_finger_8 : decode cX11_finger 8 = .ok (.ifCond .eq 14, 3) := by decide +kernel
theorem dX11_finger_11 : decode cX11_finger 11 = .ok (.aload_n 0, 1) := by decide +kernel
theorem dX11_finger_12 : decode cX11_finger 12 = .ok (.getfield 19, 3) := by decide +kernel
theorem dX11_finger_15 : decode cX11_finger 15 = .ok (.iload_n 2, 1) := by decide +kernel
theorem dX11_finger_16 : decode cX11_finger 16 = .ok (.invokevirtual 148, 3) := by decide +kernel
theorem dX11_finger_19 : decode cX11_finger 19 = .ok (.ifCond .ne 5, 3) := by decide +kernel
theorem dX11_finger_22 : decode cX11_finger 22 = .ok (.iconst 0, 1) := by decide +kernel
theorem dX11_finger_23 : decode cX11_finger 23 = .ok (.ireturn, 1) := by decide +kernel
theorem dX11_finger_24 : decode cX11_finger 24 = .ok (.aload_n 0, 1) := by decide +kernel
theorem dX11_finger_25 : decode cX11_finger 25 = .ok (.getfield 38, 3) := by decide +kernel
theorem dX11_finger_28 : decode cX11_finger 28 = .ok (.getfield 161, 3) := by decide +kernel
theorem dX11_finger_31 : decode cX11_finger 31 = .ok (.iload_n 1, 1) := by decide +kernel
theorem dX11_finger_32 : decode cX11_finger 32 = .ok (.iload_n 2, 1) := by decide +kernel
theorem dX11_finger_33 : decode cX11_finger 33 = .ok (.iastore, 1) := by decide +kernel
theorem dX11_finger_34 : decode cX11_finger 34 = .ok (.aload_n 0, 1) := by decide +kernel
theorem dX11_finger_35 : decode cX11_finger 35 = .ok (.getfield 71, 3) := by decide +kernel
theorem dX11_finger_38 : decode cX11_finger 38 = .ok (.iconst 0, 1) := by decide +kernel
theorem dX11_finger_39 : decode cX11_finger 39 = .ok (.putfield 164, 3) := by decide +kernel
theorem dX11_finger_42 : decode cX11_finger 42 = .ok (.iconst 1, 1) := by decide +kernel
theorem dX11_finger_43 : decode cX11_finger 43 = .ok (.ireturn, 1) := by decide +kernel
theorem dX11_noteOf_0 : decode cX11_noteOf 0 = .ok (.aload_n 0, 1) := by decide +kernel
theorem dX11_noteOf_1 : decode cX11_noteOf 1 = .ok (.getfield 38, 3) := by decide +kernel
theorem dX11_noteOf_4 : decode cX11_noteOf 4 = .ok (.iload_n 1, 1) := by decide +kernel
theorem dX11_noteOf_5 : decode cX11_noteOf 5 = .ok (.invokevirtual 158, 3) := by decide +kernel
theorem dX11_noteOf_8 : decode cX11_noteOf 8 = .ok (.ifCond .ne 5, 3) := by decide +kernel
theorem dX11_noteOf_11 : decode cX11_noteOf 11 = .ok (.iconst (-1), 1) := by decide +kernel
theorem dX11_noteOf_12 : decode cX11_noteOf 12 = .ok (.ireturn, 1) := by decide +kernel
theorem dX11_noteOf_13 : decode cX11_noteOf 13 = .ok (.iload_n 2, 1) := by decide +kernel
theorem dX11_noteOf_14 : decode cX11_noteOf 14 = .ok (.tableswitch 84 0 4 #[34, 44, 54, 64, 74], 34) := by decide +kernel
theorem dX11_noteOf_48 : decode cX11_noteOf 48 = .ok (.aload_n 0, 1) := by decide +kernel
theorem dX11_noteOf_49 : decode cX11_noteOf 49 = .ok (.getfield 38, 3) := by decide +kernel
theorem dX11_noteOf_52 : decode cX11_noteOf 52 = .ok (.getfield 168, 3) := by decide +kernel
theorem dX11_noteOf_55 : decode cX11_noteOf 55 = .ok (.iload_n 1, 1) := by decide +kernel
theorem dX11_noteOf_56 : decode cX11_noteOf 56 = .ok (.iaload, 1) := by decide +kernel
theorem dX11_noteOf_57 : decode cX11_noteOf 57 = .ok (.ireturn, 1) := by decide +kernel
theorem dX11_noteOf_58 : decode cX11_noteOf 58 = .ok (.aload_n 0, 1) := by decide +kernel
theorem dX11_noteOf_59 : decode cX11_noteOf 59 = .ok (.getfield 38, 3) := by decide +kernel
theorem dX11_noteOf_62 : decode cX11_noteOf 62 = .ok (.getfield 171, 3) := by decide +kernel
theorem dX11_noteOf_65 : decode cX11_noteOf 65 = .ok (.iload_n 1, 1) := by decide +kernel
theorem dX11_noteOf_66 : decode cX11_noteOf 66 = .ok (.iaload, 1) := by decide +kernel
theorem dX11_noteOf_67 : decode cX11_noteOf 67 = .ok (.ireturn, 1) := by decide +kernel
theorem dX11_noteOf_68 : decode cX11_noteOf 68 = .ok (.aload_n 0, 1) := by decide +kernel
theorem dX11_noteOf_69 : decode cX11_noteOf 69 = .ok (.getfield 38, 3) := by decide +kernel
theorem dX11_noteOf_72 : decode cX11_noteOf 72 = .ok (.getfield 174, 3) := by decide +kernel
theorem dX11_noteOf_75 : decode cX11_noteOf 75 = .ok (.iload_n 1, 1) := by decide +kernel
theorem dX11_noteOf_76 : decode cX11_noteOf 76 = .ok (.iaload, 1) := by decide +kernel
theorem dX11_noteOf_77 : decode cX11_noteOf 77 = .ok (.ireturn, 1) := by decide +kernel
theorem dX11_noteOf_78 : decode cX11_noteOf 78 = .ok (.aload_n 0, 1) := by decide +kernel
theorem dX11_noteOf_79 : decode cX11_noteOf 79 = .ok (.getfield 38, 3) := by decide +kernel
theorem dX11_noteOf_82 : decode cX11_noteOf 82 = .ok (.getfield 176, 3) := by decide +kernel
theorem dX11_noteOf_85 : decode cX11_noteOf 85 = .ok (.iload_n 1, 1) := by decide +kernel
theorem dX11_noteOf_86 : decode cX11_noteOf 86 = .ok (.iaload, 1) := by decide +kernel
theorem dX11_noteOf_87 : decode cX11_noteOf 87 = .ok (.ireturn, 1) := by decide +kernel
theorem dX11_noteOf_88 : decode cX11_noteOf 88 = .ok (.aload_n 0, 1) := by decide +kernel
theorem dX11_noteOf_89 : decode cX11_noteOf 89 = .ok (.getfield 38, 3) := by decide +kernel
theorem dX11_noteOf_92 : decode cX11_noteOf 92 = .ok (.getfield 161, 3) := by decide +kernel
theorem dX11_noteOf_95 : decode cX11_noteOf 95 = .ok (.iload_n 1, 1) := by decide +kernel
theorem dX11_noteOf_96 : decode cX11_noteOf 96 = .ok (.iaload, 1) := by decide +kernel
theorem dX11_noteOf_97 : decode cX11_noteOf 97 = .ok (.ireturn, 1) := by decide +kernel
theorem dX11_noteOf_98 : decode cX11_noteOf 98 = .ok (.iconst (-1), 1) := by decide +kernel
theorem dX11_noteOf_99 : decode cX11_noteOf 99 = .ok (.ireturn, 1) := by decide +kernel
theorem dX11_touched_0 : decode cX11_touched 0 = .ok (.aload_n 0, 1) := by decide +kernel
theorem dX11_touched_1 : decode cX11_touched 1 = .ok (.getfield 19, 3) := by decide +kernel
theorem dX11_touched_4 : decode cX11_touched 4 = .ok (.iload_n 1, 1) := by decide +kernel
theorem dX11_touched_5 : decode cX11_touched 5 = .ok (.invokevirtual 121, 3) := by decide +kernel
theorem dX11_touched_8 : decode cX11_touched 8 = .ok (.ifCond .eq 22, 3) := by decide +kernel
theorem dX11_touched_11 : decode cX11_touched 11 = .ok (.iload_n 2, 1) := by decide +kernel
theorem dX11_touched_12 : decode cX11_touched 12 = .ok (.invokestatic 179, 3) := by decide +kernel
theorem dX11_touched_15 : decode cX11_touched 15 = .ok (.ifCond .eq 15, 3) := by decide +kernel
theorem dX11_touched_18 : decode cX11_touched 18 = .ok (.aload_n 0, 1) := by decide +kernel
theorem dX11_touched_19 : decode cX11_touched 19 = .ok (.getfield 38, 3) := by decide +kernel
theorem dX11_touched_22 : decode cX11_touched 22 = .ok (.iload_n 1, 1) := by decide +kernel
theorem dX11_touched_23 : decode cX11_touched 23 = .ok (.iload_n 2, 1) := by decide +kernel
theorem dX11_touched_24 : decode cX11_touched 24 = .ok (.invokevirtual 182, 3) := by decide +kernel
theorem dX11_touched_27 : decode cX11_touched 27 = .ok (.goto 4, 3) := by decide +kernel
theorem dX11_touched_30 : decode cX11_touched 30 = .ok (.iconst (-1), 1) := by decide +kernel
theorem dX11_touched_31 : decode cX11_touched 31 = .ok (.ireturn, 1) := by decide +kernel
theorem dX11_warmth_0 : decode cX11_warmth 0 = .ok (.aload_n 0, 1) := by decide +kernel
theorem dX11_warmth_1 : decode cX11_warmth 1 = .ok (.getfield 55, 3) := by decide +kernel
theorem dX11_warmth_4 : decode cX11_warmth 4 = .ok (.invokevirtual 186, 3) := by decide +kernel
theorem dX11_warmth_7 : decode cX11_warmth 7 = .ok (.aload_n 0, 1) := by decide +kernel
theorem dX11_warmth_8 : decode cX11_warmth 8 = .ok (.getfield 19, 3) := by decide +kernel
theorem dX11_warmth_11 : decode cX11_warmth 11 = .ok (.iload_n 1, 1) := by decide +kernel
theorem dX11_warmth_12 : decode cX11_warmth 12 = .ok (.invokevirtual 121, 3) := by decide +kernel
theorem dX11_warmth_15 : decode cX11_warmth 15 = .ok (.ifCond .eq 22, 3) := by decide +kernel
theorem dX11_warmth_18 : decode cX11_warmth 18 = .ok (.iload_n 2, 1) := by decide +kernel
theorem dX11_warmth_19 : decode cX11_warmth 19 = .ok (.invokestatic 179, 3) := by decide +kernel
theorem dX11_warmth_22 : decode cX11_warmth 22 = .ok (.ifCond .eq 15, 3) := by decide +kernel
theorem dX11_warmth_25 : decode cX11_warmth 25 = .ok (.aload_n 0, 1) := by decide +kernel
theorem dX11_warmth_26 : decode cX11_warmth 26 = .ok (.getfield 55, 3) := by decide +kernel
theorem dX11_warmth_29 : decode cX11_warmth 29 = .ok (.iload_n 1, 1) := by decide +kernel
theorem dX11_warmth_30 : decode cX11_warmth 30 = .ok (.iload_n 2, 1) := by decide +kernel
theorem dX11_warmth_31 : decode cX11_warmth 31 = .ok (.invokevirtual 189, 3) := by decide +kernel
theorem dX11_warmth_34 : decode cX11_warmth 34 = .ok (.goto 4, 3) := by decide +kernel
theorem dX11_warmth_37 : decode cX11_warmth 37 = .ok (.iconst (-1), 1) := by decide +kernel
theorem dX11_warmth_38 : decode cX11_warmth 38 = .ok (.ireturn, 1) := by decide +kernel
theorem dX11_cracked_0 : decode cX11_cracked 0 = .ok (.aload_n 0, 1) := by decide +kernel
theorem dX11_cracked_1 : decode cX11_cracked 1 = .ok (.getfield 55, 3) := by decide +kernel
theorem dX11_cracked_4 : decode cX11_cracked 4 = .ok (.invokevirtual 186, 3) := by decide +kernel
theorem dX11_cracked_7 : decode cX11_cracked 7 = .ok (.aload_n 0, 1) := by decide +kernel
theorem dX11_cracked_8 : decode cX11_cracked 8 = .ok (.getfield 19, 3) := by decide +kernel
theorem dX11_cracked_11 : decode cX11_cracked 11 = .ok (.iload_n 1, 1) := by decide +kernel
theorem dX11_cracked_12 : decode cX11_cracked 12 = .ok (.invokevirtual 121, 3) := by decide +kernel
theorem dX11_cracked_15 : decode cX11_cracked 15 = .ok (.ifCond .eq 14, 3) := by decide +kernel
theorem dX11_cracked_18 : decode cX11_cracked 18 = .ok (.aload_n 0, 1) := by decide +kernel
theorem dX11_cracked_19 : decode cX11_cracked 19 = .ok (.getfield 55, 3) := by decide +kernel
theorem dX11_cracked_22 : decode cX11_cracked 22 = .ok (.iload_n 1, 1) := by decide +kernel
theorem dX11_cracked_23 : decode cX11_cracked 23 = .ok (.invokevirtual 192, 3) := by decide +kernel
theorem dX11_cracked_26 : decode cX11_cracked 26 = .ok (.goto 4, 3) := by decide +kernel
theorem dX11_cracked_29 : decode cX11_cracked 29 = .ok (.iconst (-1), 1) := by decide +kernel
theorem dX11_cracked_30 : decode cX11_cracked 30 = .ok (.ireturn, 1) := by decide +kernel
theorem dX11_why_0 : decode cX11_why 0 = .ok (.aload_n 0, 1) := by decide +kernel
theorem dX11_why_1 : decode cX11_why 1 = .ok (.getfield 38, 3) := by decide +kernel
theorem dX11_why_4 : decode cX11_why 4 = .ok (.iload_n 1, 1) := by decide +kernel
theorem dX11_why_5 : decode cX11_why 5 = .ok (.iload_n 2, 1) := by decide +kernel
theorem dX11_why_6 : decode cX11_why 6 = .ok (.invokevirtual 196, 3) := by decide +kernel
theorem dX11_why_9 : decode cX11_why 9 = .ok (.ifCond .ne 13, 3) := by decide +kernel
theorem dX11_why_12 : decode cX11_why 12 = .ok (.new 199, 3) := by decide +kernel
theorem dX11_why_15 : decode cX11_why 15 = .ok (.dup, 1) := by decide +kernel
theorem dX11_why_16 : decode cX11_why 16 = .ok (.ldc 201, 2) := by decide +kernel
theorem dX11_why_18 : decode cX11_why 18 = .ok (.invokespecial 203, 3) := by decide +kernel
theorem dX11_why_21 : decode cX11_why 21 = .ok (.athrow, 1) := by decide +kernel
theorem dX11_why_22 : decode cX11_why 22 = .ok (.aload_n 0, 1) := by decide +kernel
theorem dX11_why_23 : decode cX11_why 23 = .ok (.getfield 71, 3) := by decide +kernel
theorem dX11_why_26 : decode cX11_why 26 = .ok (.iload_n 1, 1) := by decide +kernel
theorem dX11_why_27 : decode cX11_why 27 = .ok (.iload_n 2, 1) := by decide +kernel
theorem dX11_why_28 : decode cX11_why 28 = .ok (.invokevirtual 206, 3) := by decide +kernel
theorem dX11_why_31 : decode cX11_why 31 = .ok (.ireturn, 1) := by decide +kernel
theorem dX11_speaks_0 : decode cX11_speaks 0 = .ok (.aload_n 0, 1) := by decide +kernel
theorem dX11_speaks_1 : decode cX11_speaks 1 = .ok (.getfield 38, 3) := by decide +kernel
theorem dX11_speaks_4 : decode cX11_speaks 4 = .ok (.iload_n 1, 1) := by decide +kernel
theorem dX11_speaks_5 : decode cX11_speaks 5 = .ok (.invokevirtual 158, 3) := by decide +kernel
theorem dX11_speaks_8 : decode cX11_speaks 8 = .ok (.ifCond .eq 14, 3) := by decide +kernel
theorem dX11_speaks_11 : decode cX11_speaks 11 = .ok (.aload_n 0, 1) := by decide +kernel
theorem dX11_speaks_12 : decode cX11_speaks 12 = .ok (.getfield 71, 3) := by decide +kernel
theorem dX11_speaks_15 : decode cX11_speaks 15 = .ok (.iload_n 1, 1) := by decide +kernel
theorem dX11_speaks_16 : decode cX11_speaks 16 = .ok (.invokevirtual 209, 3) := by decide +kernel
theorem dX11_speaks_19 : decode cX11_speaks 19 = .ok (.goto 4, 3) := by decide +kernel
theorem dX11_speaks_22 : decode cX11_speaks 22 = .ok (.iconst (-1), 1) := by decide +kernel
theorem dX11_speaks_23 : decode cX11_speaks 23 = .ok (.ireturn, 1) := by decide +kernel
theorem dX11_sounds_0 : decode cX11_sounds 0 = .ok (.iload_n 1, 1) := by decide +kernel
theorem dX11_sounds_1 : decode cX11_sounds 1 = .ok (.invokestatic 179, 3) := by decide +kernel
theorem dX11_sounds_4 : decode cX11_sounds 4 = .ok (.ifCond .eq 14, 3) := by decide +kernel
theorem dX11_sounds_7 : decode cX11_sounds 7 = .ok (.aload_n 0, 1) := by decide +kernel
theorem dX11_sounds_8 : decode cX11_sounds 8 = .ok (.getfield 71, 3) := by decide +kernel
theorem dX11_sounds_11 : decode cX11_sounds 11 = .ok (.iload_n 1, 1) := by decide +kernel
theorem dX11_sounds_12 : decode cX11_sounds 12 = .ok (.invokevirtual 212, 3) := by decide +kernel
theorem dX11_sounds_15 : decode cX11_sounds 15 = .ok (.goto 4, 3) := by decide +kernel
theorem dX11_sounds_18 : decode cX11_sounds 18 = .ok (.iconst (-1), 1) := by decide +kernel
theorem dX11_sounds_19 : decode cX11_sounds 19 = .ok (.ireturn, 1) := by decide +kernel
theorem dX11_along_0 : decode cX11_along 0 = .ok (.iload_n 1, 1) := by decide +kernel
theorem dX11_along_1 : decode cX11_along 1 = .ok (.invokestatic 179, 3) := by decide +kernel
theorem dX11_along_4 : decode cX11_along 4 = .ok (.ifCond .eq 14, 3) := by decide +kernel
theorem dX11_along_7 : decode cX11_along 7 = .ok (.aload_n 0, 1) := by decide +kernel
theorem dX11_along_8 : decode cX11_along 8 = .ok (.getfield 71, 3) := by decide +kernel
theorem dX11_along_11 : decode cX11_along 11 = .ok (.iload_n 1, 1) := by decide +kernel
theorem dX11_along_12 : decode cX11_along 12 = .ok (.invokevirtual 215, 3) := by decide +kernel
theorem dX11_along_15 : decode cX11_along 15 = .ok (.goto 4, 3) := by decide +kernel
theorem dX11_along_18 : decode cX11_along 18 = .ok (.iconst (-1), 1) := by decide +kernel
theorem dX11_along_19 : decode cX11_along 19 = .ok (.ireturn, 1) := by decide +kernel
theorem dX11_silence_0 : decode cX11_silence 0 = .ok (.iload_n 1, 1) := by decide +kernel
theorem dX11_silence_1 : decode cX11_silence 1 = .ok (.invokestatic 179, 3) := by decide +kernel
theorem dX11_silence_4 : decode cX11_silence 4 = .ok (.ifCond .eq 14, 3) := by decide +kernel
theorem dX11_silence_7 : decode cX11_silence 7 = .ok (.aload_n 0, 1) := by decide +kernel
theorem dX11_silence_8 : decode cX11_silence 8 = .ok (.getfield 71, 3) := by decide +kernel
theorem dX11_silence_11 : decode cX11_silence 11 = .ok (.iload_n 1, 1) := by decide +kernel
theorem dX11_silence_12 : decode cX11_silence 12 = .ok (.invokevirtual 218, 3) := by decide +kernel
theorem dX11_silence_15 : decode cX11_silence 15 = .ok (.goto 4, 3) := by decide +kernel
theorem dX11_silence_18 : decode cX11_silence 18 = .ok (.iconst (-1), 1) := by decide +kernel
theorem dX11_silence_19 : decode cX11_silence 19 = .ok (.istore_n 3, 1) := by decide +kernel
theorem dX11_silence_20 : decode cX11_silence 20 = .ok (.iload_n 3, 1) := by decide +kernel
theorem dX11_silence_21 : decode cX11_silence 21 = .ok (.iconst (-1), 1) := by decide +kernel
theorem dX11_silence_22 : decode cX11_silence 22 = .ok (.if_icmp .ne 5, 3) := by decide +kernel
theorem dX11_silence_25 : decode cX11_silence 25 = .ok (.iconst (-1), 1) := by decide +kernel
theorem dX11_silence_26 : decode cX11_silence 26 = .ok (.ireturn, 1) := by decide +kernel
theorem dX11_silence_27 : decode cX11_silence 27 = .ok (.aload_n 0, 1) := by decide +kernel
theorem dX11_silence_28 : decode cX11_silence 28 = .ok (.getfield 38, 3) := by decide +kernel
theorem dX11_silence_31 : decode cX11_silence 31 = .ok (.iload_n 3, 1) := by decide +kernel
theorem dX11_silence_32 : decode cX11_silence 32 = .ok (.invokevirtual 221, 3) := by decide +kernel
theorem dX11_silence_35 : decode cX11_silence 35 = .ok (.istore 4, 2) := by decide +kernel
theorem dX11_silence_37 : decode cX11_silence 37 = .ok (.iload_n 2, 1) := by decide +kernel
theorem dX11_silence_38 : decode cX11_silence 38 = .ok (.tableswitch 42 0 2 #[26, 28, 31], 26) := by decide +kernel
theorem dX11_silence_64 : decode cX11_silence 64 = .ok (.iload_n 3, 1) := by decide +kernel
theorem dX11_silence_65 : decode cX11_silence 65 = .ok (.ireturn, 1) := by decide +kernel
theorem dX11_silence_66 : decode cX11_silence 66 = .ok (.iload 4, 2) := by decide +kernel
theorem dX11_silence_68 : decode cX11_silence 68 = .ok (.ireturn, 1) := by decide +kernel
theorem dX11_silence_69 : decode cX11_silence 69 = .ok (.aload_n 0, 1) := by decide +kernel
theorem dX11_silence_70 : decode cX11_silence 70 = .ok (.getfield 71, 3) := by decide +kernel
theorem dX11_silence_73 : decode cX11_silence 73 = .ok (.iload 4, 2) := by decide +kernel
theorem dX11_silence_75 : decode cX11_silence 75 = .ok (.iload_n 3, 1) := by decide +kernel
theorem dX11_silence_76 : decode cX11_silence 76 = .ok (.invokevirtual 206, 3) := by decide +kernel
theorem dX11_silence_79 : decode cX11_silence 79 = .ok (.ireturn, 1) := by decide +kernel
theorem dX11_silence_80 : decode cX11_silence 80 = .ok (.iconst (-1), 1) := by decide +kernel
theorem dX11_silence_81 : decode cX11_silence 81 = .ok (.ireturn, 1) := by decide +kernel
theorem dX11_best_0 : decode cX11_best 0 = .ok (.iload_n 1, 1) := by decide +kernel
theorem dX11_best_1 : decode cX11_best 1 = .ok (.ifCond .eq 10, 3) := by decide +kernel
theorem dX11_best_4 : decode cX11_best 4 = .ok (.iload_n 1, 1) := by decide +kernel
theorem dX11_best_5 : decode cX11_best 5 = .ok (.iconst 1, 1) := by decide +kernel
theorem dX11_best_6 : decode cX11_best 6 = .ok (.if_icmp .eq 5, 3) := by decide +kernel
theorem dX11_best_9 : decode cX11_best 9 = .ok (.iconst (-1), 1) := by decide +kernel
theorem dX11_best_10 : decode cX11_best 10 = .ok (.ireturn, 1) := by decide +kernel
theorem dX11_best_11 : decode cX11_best 11 = .ok (.iconst 1, 1) := by decide +kernel
theorem dX11_best_12 : decode cX11_best 12 = .ok (.istore_n 2, 1) := by decide +kernel
theorem dX11_best_13 : decode cX11_best 13 = .ok (.iconst 2, 1) := by decide +kernel
theorem dX11_best_14 : decode cX11_best 14 = .ok (.istore_n 3, 1) := by decide +kernel
theorem dX11_best_15 : decode cX11_best 15 = .ok (.iload_n 3, 1) := by decide +kernel
theorem dX11_best_16 : decode cX11_best 16 = .ok (.bipush 99, 2) := by decide +kernel
theorem dX11_best_18 : decode cX11_best 18 = .ok (.if_icmp .gt 30, 3) := by decide +kernel
theorem dX11_best_21 : decode cX11_best 21 = .ok (.aload_n 0, 1) := by decide +kernel
theorem dX11_best_22 : decode cX11_best 22 = .ok (.getfield 71, 3) := by decide +kernel
theorem dX11_best_25 : decode cX11_best 25 = .ok (.iload_n 3, 1) := by decide +kernel
theorem dX11_best_26 : decode cX11_best 26 = .ok (.invokevirtual 224, 3) := by decide +kernel
theorem dX11_best_29 : decode cX11_best 29 = .ok (.aload_n 0, 1) := by decide +kernel
theorem dX11_best_30 : decode cX11_best 30 = .ok (.getfield 71, 3) := by decide +kernel
theorem dX11_best_33 : decode cX11_best 33 = .ok (.iload_n 2, 1) := by decide +kernel
theorem dX11_best_34 : decode cX11_best 34 = .ok (.invokevirtual 224, 3) := by decide +kernel
theorem dX11_best_37 : decode cX11_best 37 = .ok (.if_icmp .le 5, 3) := by decide +kernel
theorem dX11_best_40 : decode cX11_best 40 = .ok (.iload_n 3, 1) := by decide +kernel
theorem dX11_best_41 : decode cX11_best 41 = .ok (.istore_n 2, 1) := by decide +kernel
theorem dX11_best_42 : decode cX11_best 42 = .ok (.iinc 3 1, 3) := by decide +kernel
theorem dX11_best_45 : decode cX11_best 45 = .ok (.goto (-30), 3) := by decide +kernel
theorem dX11_best_48 : decode cX11_best 48 = .ok (.iload_n 1, 1) := by decide +kernel
theorem dX11_best_49 : decode cX11_best 49 = .ok (.ifCond .ne 7, 3) := by decide +kernel
theorem dX11_best_52 : decode cX11_best 52 = .ok (.iload_n 2, 1) := by decide +kernel
theorem dX11_best_53 : decode cX11_best 53 = .ok (.goto 11, 3) := by decide +kernel
theorem dX11_best_56 : decode cX11_best 56 = .ok (.aload_n 0, 1) := by decide +kernel
theorem dX11_best_57 : decode cX11_best 57 = .ok (.getfield 71, 3) := by decide +kernel
theorem dX11_best_60 : decode cX11_best 60 = .ok (.iload_n 2, 1) := by decide +kernel
theorem dX11_best_61 : decode cX11_best 61 = .ok (.invokevirtual 224, 3) := by decide +kernel
theorem dX11_best_64 : decode cX11_best 64 = .ok (.ireturn, 1) := by decide +kernel
theorem dX11_atTreadle_0 : decode cX11_atTreadle 0 = .ok (.iload_n 1, 1) := by decide +kernel
theorem dX11_atTreadle_1 : decode cX11_atTreadle 1 = .ok (.iconst 1, 1) := by decide +kernel
theorem dX11_atTreadle_2 : decode cX11_atTreadle 2 = .ok (.if_icmp .lt 20, 3) := by decide +kernel
theorem dX11_atTreadle_5 : decode cX11_atTreadle 5 = .ok (.iload_n 1, 1) := by decide +kernel
theorem dX11_atTreadle_6 : decode cX11_atTreadle 6 = .ok (.bipush 99, 2) := by decide +kernel
theorem dX11_atTreadle_8 : decode cX11_atTreadle 8 = .ok (.if_icmp .gt 14, 3) := by decide +kernel
theorem dX11_atTreadle_11 : decode cX11_atTreadle 11 = .ok (.aload_n 0, 1) := by decide +kernel
theorem dX11_atTreadle_12 : decode cX11_atTreadle 12 = .ok (.getfield 71, 3) := by decide +kernel
theorem dX11_atTreadle_15 : decode cX11_atTreadle 15 = .ok (.iload_n 1, 1) := by decide +kernel
theorem dX11_atTreadle_16 : decode cX11_atTreadle 16 = .ok (.invokevirtual 224, 3) := by decide +kernel
theorem dX11_atTreadle_19 : decode cX11_atTreadle 19 = .ok (.goto 4, 3) := by decide +kernel
theorem dX11_atTreadle_22 : decode cX11_atTreadle 22 = .ok (.iconst (-1), 1) := by decide +kernel
theorem dX11_atTreadle_23 : decode cX11_atTreadle 23 = .ok (.ireturn, 1) := by decide +kernel
theorem dX11_wrong_0 : decode cX11_wrong 0 = .ok (.aload_n 0, 1) := by decide +kernel
theorem dX11_wrong_1 : decode cX11_wrong 1 = .ok (.getfield 38, 3) := by decide +kernel
theorem dX11_wrong_4 : decode cX11_wrong 4 = .ok (.iload_n 1, 1) := by decide +kernel
theorem dX11_wrong_5 : decode cX11_wrong 5 = .ok (.invokevirtual 158, 3) := by decide +kernel
theorem dX11_wrong_8 : decode cX11_wrong 8 = .ok (.ifCond .eq 21, 3) := by decide +kernel
theorem dX11_wrong_11 : decode cX11_wrong 11 = .ok (.aload_n 0, 1) := by decide +kernel
theorem dX11_wrong_12 : decode cX11_wrong 12 = .ok (.getfield 62, 3) := by decide +kernel
theorem dX11_wrong_15 : decode cX11_wrong 15 = .ok (.aload_n 0, 1) := by decide +kernel
theorem dX11_wrong_16 : decode cX11_wrong 16 = .ok (.getfield 38, 3) := by decide +kernel
theorem dX11_wrong_19 : decode cX11_wrong 19 = .ok (.getfield 161, 3) := by decide +kernel
theorem dX11_wrong_22 : decode cX11_wrong 22 = .ok (.iload_n 1, 1) := by decide +kernel
theorem dX11_wrong_23 : decode cX11_wrong 23 = .ok (.invokevirtual 227, 3) := by decide +kernel
theorem dX11_wrong_26 : decode cX11_wrong 26 = .ok (.goto 4, 3) := by decide +kernel
theorem dX11_wrong_29 : decode cX11_wrong 29 = .ok (.iconst (-1), 1) := by decide +kernel
theorem dX11_wrong_30 : decode cX11_wrong 30 = .ok (.ireturn, 1) := by decide +kernel
theorem dX11_judged_0 : decode cX11_judged 0 = .ok (.iconst 0, 1) := by decide +kernel
theorem dX11_judged_1 : decode cX11_judged 1 = .ok (.istore_n 1, 1) := by decide +kernel
theorem dX11_judged_2 : decode cX11_judged 2 = .ok (.iload_n 1, 1) := by decide +kernel
theorem dX11_judged_3 : decode cX11_judged 3 = .ok (.aload_n 0, 1) := by decide +kernel
theorem dX11_judged_4 : decode cX11_judged 4 = .ok (.getfield 38, 3) := by decide +kernel
theorem dX11_judged_7 : decode cX11_judged 7 = .ok (.getfield 115, 3) := by decide +kernel
theorem dX11_judged_10 : decode cX11_judged 10 = .ok (.if_icmp .ge 29, 3) := by decide +kernel
theorem dX11_judged_13 : decode cX11_judged 13 = .ok (.aload_n 0, 1) := by decide +kernel
theorem dX11_judged_14 : decode cX11_judged 14 = .ok (.getfield 62, 3) := by decide +kernel
theorem dX11_judged_17 : decode cX11_judged 17 = .ok (.aload_n 0, 1) := by decide +kernel
theorem dX11_judged_18 : decode cX11_judged 18 = .ok (.getfield 38, 3) := by decide +kernel
theorem dX11_judged_21 : decode cX11_judged 21 = .ok (.getfield 161, 3) := by decide +kernel
theorem dX11_judged_24 : decode cX11_judged 24 = .ok (.iload_n 1, 1) := by decide +kernel
theorem dX11_judged_25 : decode cX11_judged 25 = .ok (.invokevirtual 227, 3) := by decide +kernel
theorem dX11_judged_28 : decode cX11_judged 28 = .ok (.ifCond .eq 5, 3) := by decide +kernel
theorem dX11_judged_31 : decode cX11_judged 31 = .ok (.iload_n 1, 1) := by decide +kernel
theorem dX11_judged_32 : decode cX11_judged 32 = .ok (.ireturn, 1) := by decide +kernel
theorem dX11_judged_33 : decode cX11_judged 33 = .ok (.iinc 1 1, 3) := by decide +kernel
theorem dX11_judged_36 : decode cX11_judged 36 = .ok (.goto (-34), 3) := by decide +kernel
theorem dX11_judged_39 : decode cX11_judged 39 = .ok (.iconst (-1), 1) := by decide +kernel
theorem dX11_judged_40 : decode cX11_judged 40 = .ok (.ireturn, 1) := by decide +kernel
theorem dX11_lifts_0 : decode cX11_lifts 0 = .ok (.iconst 0, 1) := by decide +kernel
theorem dX11_lifts_1 : decode cX11_lifts 1 = .ok (.istore_n 1, 1) := by decide +kernel
theorem dX11_lifts_2 : decode cX11_lifts 2 = .ok (.iconst 0, 1) := by decide +kernel
theorem dX11_lifts_3 : decode cX11_lifts 3 = .ok (.istore_n 2, 1) := by decide +kernel
theorem dX11_lifts_4 : decode cX11_lifts 4 = .ok (.iload_n 2, 1) := by decide +kernel
theorem dX11_lifts_5 : decode cX11_lifts 5 = .ok (.aload_n 0, 1) := by decide +kernel
theorem dX11_lifts_6 : decode cX11_lifts 6 = .ok (.getfield 38, 3) := by decide +kernel
theorem dX11_lifts_9 : decode cX11_lifts 9 = .ok (.getfield 115, 3) := by decide +kernel
theorem dX11_lifts_12 : decode cX11_lifts 12 = .ok (.if_icmp .ge 35, 3) := by decide +kernel
theorem dX11_lifts_15 : decode cX11_lifts 15 = .ok (.iload_n 1, 1) := by decide +kernel
theorem dX11_lifts_16 : decode cX11_lifts 16 = .ok (.aload_n 0, 1) := by decide +kernel
theorem dX11_lifts_17 : decode cX11_lifts 17 = .ok (.getfield 62, 3) := by decide +kernel
theorem dX11_lifts_20 : decode cX11_lifts 20 = .ok (.aload_n 0, 1) := by decide +kernel
theorem dX11_lifts_21 : decode cX11_lifts 21 = .ok (.getfield 38, 3) := by decide +kernel
theorem dX11_lifts_24 : decode cX11_lifts 24 = .ok (.getfield 161, 3) := by decide +kernel
theorem dX11_lifts_27 : decode cX11_lifts 27 = .ok (.iload_n 2, 1) := by decide +kernel
theorem dX11_lifts_28 : decode cX11_lifts 28 = .ok (.invokevirtual 231, 3) := by decide +kernel
theorem dX11_lifts_31 : decode cX11_lifts 31 = .ok (.ifCond .eq 7, 3) := by decide +kernel
theorem dX11_lifts_34 : decode cX11_lifts 34 = .ok (.iconst 1, 1) := by decide +kernel
theorem dX11_lifts_35 : decode cX11_lifts 35 = .ok (.goto 4, 3) := by decide +kernel
theorem dX11_lifts_38 : decode cX11_lifts 38 = .ok (.iconst 0, 1) := by decide +kernel
theorem dX11_lifts_39 : decode cX11_lifts 39 = .ok (.iadd, 1) := by decide +kernel
theorem dX11_lifts_40 : decode cX11_lifts 40 = .ok (.istore_n 1, 1) := by decide +kernel
theorem dX11_lifts_41 : decode cX11_lifts 41 = .ok (.iinc 2 1, 3) := by decide +kernel
theorem dX11_lifts_44 : decode cX11_lifts 44 = .ok (.goto (-40), 3) := by decide +kernel
theorem dX11_lifts_47 : decode cX11_lifts 47 = .ok (.iload_n 1, 1) := by decide +kernel
theorem dX11_lifts_48 : decode cX11_lifts 48 = .ok (.ireturn, 1) := by decide +kernel
theorem dX11_fewest_0 : decode cX11_fewest 0 = .ok (.aload_n 0, 1) := by decide +kernel
theorem dX11_fewest_1 : decode cX11_fewest 1 = .ok (.getfield 80, 3) := by decide +kernel
theorem dX11_fewest_4 : decode cX11_fewest 4 = .ok (.invokevirtual 235, 3) := by decide +kernel
theorem dX11_fewest_7 : decode cX11_fewest 7 = .ok (.ireturn, 1) := by decide +kernel
theorem dX11_fingered_0 : decode cX11_fingered 0 = .ok (.aload_n 0, 1) := by decide +kernel
theorem dX11_fingered_1 : decode cX11_fingered 1 = .ok (.getfield 80, 3) := by decide +kernel
theorem dX11_fingered_4 : decode cX11_fingered 4 = .ok (.iload_n 1, 1) := by decide +kernel
theorem dX11_fingered_5 : decode cX11_fingered 5 = .ok (.invokevirtual 238, 3) := by decide +kernel
theorem dX11_fingered_8 : decode cX11_fingered 8 = .ok (.ireturn, 1) := by decide +kernel
theorem dX11_far_0 : decode cX11_far 0 = .ok (.aload_n 0, 1) := by decide +kernel
theorem dX11_far_1 : decode cX11_far 1 = .ok (.getfield 80, 3) := by decide +kernel
theorem dX11_far_4 : decode cX11_far 4 = .ok (.invokevirtual 241, 3) := by decide +kernel
theorem dX11_far_7 : decode cX11_far 7 = .ok (.ireturn, 1) := by decide +kernel
theorem dX11_beating_0 : decode cX11_beating 0 = .ok (.aload_n 0, 1) := by decide +kernel
theorem dX11_beating_1 : decode cX11_beating 1 = .ok (.getfield 19, 3) := by decide +kernel
theorem dX11_beating_4 : decode cX11_beating 4 = .ok (.iload_n 1, 1) := by decide +kernel
theorem dX11_beating_5 : decode cX11_beating 5 = .ok (.invokevirtual 244, 3) := by decide +kernel
theorem dX11_beating_8 : decode cX11_beating 8 = .ok (.ifCond .eq 14, 3) := by decide +kernel
theorem dX11_beating_11 : decode cX11_beating 11 = .ok (.aload_n 0, 1) := by decide +kernel
theorem dX11_beating_12 : decode cX11_beating 12 = .ok (.getfield 19, 3) := by decide +kernel
theorem dX11_beating_15 : decode cX11_beating 15 = .ok (.iload_n 1, 1) := by decide +kernel
theorem dX11_beating_16 : decode cX11_beating 16 = .ok (.invokevirtual 247, 3) := by decide +kernel
theorem dX11_beating_19 : decode cX11_beating 19 = .ok (.goto 4, 3) := by decide +kernel
theorem dX11_beating_22 : decode cX11_beating 22 = .ok (.iconst (-1), 1) := by decide +kernel
theorem dX11_beating_23 : decode cX11_beating 23 = .ok (.ireturn, 1) := by decide +kernel
theorem dX11_within_0 : decode cX11_within 0 = .ok (.iconst 0, 1) := by decide +kernel
theorem dX11_within_1 : decode cX11_within 1 = .ok (.istore_n 1, 1) := by decide +kernel
theorem dX11_within_2 : decode cX11_within 2 = .ok (.iconst 0, 1) := by decide +kernel
theorem dX11_within_3 : decode cX11_within 3 = .ok (.istore_n 2, 1) := by decide +kernel
theorem dX11_within_4 : decode cX11_within 4 = .ok (.iload_n 2, 1) := by decide +kernel
theorem dX11_within_5 : decode cX11_within 5 = .ok (.aload_n 0, 1) := by decide +kernel
theorem dX11_within_6 : decode cX11_within 6 = .ok (.getfield 19, 3) := by decide +kernel
theorem dX11_within_9 : decode cX11_within 9 = .ok (.getfield 250, 3) := by decide +kernel
theorem dX11_within_12 : decode cX11_within 12 = .ok (.if_icmp .ge 35, 3) := by decide +kernel
theorem dX11_within_15 : decode cX11_within 15 = .ok (.aload_n 0, 1) := by decide +kernel
theorem dX11_within_16 : decode cX11_within 16 = .ok (.getfield 19, 3) := by decide +kernel
theorem dX11_within_19 : decode cX11_within 19 = .ok (.iload_n 2, 1) := by decide +kernel
theorem dX11_within_20 : decode cX11_within 20 = .ok (.invokevirtual 247, 3) := by decide +kernel
theorem dX11_within_23 : decode cX11_within 23 = .ok (.aload_n 0, 1) := by decide +kernel
theorem dX11_within_24 : decode cX11_within 24 = .ok (.getfield 19, 3) := by decide +kernel
theorem dX11_within_27 : decode cX11_within 27 = .ok (.getfield 253, 3) := by decide +kernel
theorem dX11_within_30 : decode cX11_within 30 = .ok (.iload_n 2, 1) := by decide +kernel
theorem dX11_within_31 : decode cX11_within 31 = .ok (.iaload, 1) := by decide +kernel
theorem dX11_within_32 : decode cX11_within 32 = .ok (.if_icmp .gt 9, 3) := by decide +kernel
theorem dX11_within_35 : decode cX11_within 35 = .ok (.iload_n 1, 1) := by decide +kernel
theorem dX11_within_36 : decode cX11_within 36 = .ok (.iconst 1, 1) := by decide +kernel
theorem dX11_within_37 : decode cX11_within 37 = .ok (.iload_n 2, 1) := by decide +kernel
theorem dX11_within_38 : decode cX11_within 38 = .ok (.ishl, 1) := by decide +kernel
theorem dX11_within_39 : decode cX11_within 39 = .ok (.ior, 1) := by decide +kernel
theorem dX11_within_40 : decode cX11_within 40 = .ok (.istore_n 1, 1) := by decide +kernel
theorem dX11_within_41 : decode cX11_within 41 = .ok (.iinc 2 1, 3) := by decide +kernel
theorem dX11_within_44 : decode cX11_within 44 = .ok (.goto (-40), 3) := by decide +kernel
theorem dX11_within_47 : decode cX11_within 47 = .ok (.iload_n 1, 1) := by decide +kernel
theorem dX11_within_48 : decode cX11_within 48 = .ok (.ireturn, 1) := by decide +kernel
theorem dX11_ground_0 : decode cX11_ground 0 = .ok (.aload_n 0, 1) := by decide +kernel
theorem dX11_ground_1 : decode cX11_ground 1 = .ok (.getfield 89, 3) := by decide +kernel
theorem dX11_ground_4 : decode cX11_ground 4 = .ok (.invokevirtual 256, 3) := by decide +kernel
theorem dX11_ground_7 : decode cX11_ground 7 = .ok (.ireturn, 1) := by decide +kernel
theorem dX11_groundOf_0 : decode cX11_groundOf 0 = .ok (.aload_n 0, 1) := by decide +kernel
theorem dX11_groundOf_1 : decode cX11_groundOf 1 = .ok (.getfield 19, 3) := by decide +kernel
theorem dX11_groundOf_4 : decode cX11_groundOf 4 = .ok (.iload_n 1, 1) := by decide +kernel
theorem dX11_groundOf_5 : decode cX11_groundOf 5 = .ok (.invokevirtual 121, 3) := by decide +kernel
theorem dX11_groundOf_8 : decode cX11_groundOf 8 = .ok (.ifCond .eq 14, 3) := by decide +kernel
theorem dX11_groundOf_11 : decode cX11_groundOf 11 = .ok (.aload_n 0, 1) := by decide +kernel
theorem dX11_groundOf_12 : decode cX11_groundOf 12 = .ok (.getfield 89, 3) := by decide +kernel
theorem dX11_groundOf_15 : decode cX11_groundOf 15 = .ok (.invokevirtual 256, 3) := by decide +kernel
theorem dX11_groundOf_18 : decode cX11_groundOf 18 = .ok (.iconst (-1), 1) := by decide +kernel
theorem dX11_groundOf_19 : decode cX11_groundOf 19 = .ok (.if_icmp .ne 14, 3) := by decide +kernel
theorem dX11_groundOf_22 : decode cX11_groundOf 22 = .ok (.new 199, 3) := by decide +kernel
theorem dX11_groundOf_25 : decode cX11_groundOf 25 = .ok (.dup, 1) := by decide +kernel
theorem dX11_groundOf_26 : decode cX11_groundOf 26 = .ok (.ldc_w 259, 3) := by decide +kernel
theorem dX11_groundOf_29 : decode cX11_groundOf 29 = .ok (.invokespecial 203, 3) := by decide +kernel
theorem dX11_groundOf_32 : decode cX11_groundOf 32 = .ok (.athrow, 1) := by decide +kernel
theorem dX11_groundOf_33 : decode cX11_groundOf 33 = .ok (.aload_n 0, 1) := by decide +kernel
theorem dX11_groundOf_34 : decode cX11_groundOf 34 = .ok (.getfield 89, 3) := by decide +kernel
theorem dX11_groundOf_37 : decode cX11_groundOf 37 = .ok (.iload_n 1, 1) := by decide +kernel
theorem dX11_groundOf_38 : decode cX11_groundOf 38 = .ok (.invokevirtual 261, 3) := by decide +kernel
theorem dX11_groundOf_41 : decode cX11_groundOf 41 = .ok (.ireturn, 1) := by decide +kernel
theorem dX11_spare_0 : decode cX11_spare 0 = .ok (.aload_n 0, 1) := by decide +kernel
theorem dX11_spare_1 : decode cX11_spare 1 = .ok (.getfield 19, 3) := by decide +kernel
theorem dX11_spare_4 : decode cX11_spare 4 = .ok (.iload_n 1, 1) := by decide +kernel
theorem dX11_spare_5 : decode cX11_spare 5 = .ok (.invokevirtual 141, 3) := by decide +kernel
theorem dX11_spare_8 : decode cX11_spare 8 = .ok (.ifCond .eq 14, 3) := by decide +kernel
theorem dX11_spare_11 : decode cX11_spare 11 = .ok (.aload_n 0, 1) := by decide +kernel
theorem dX11_spare_12 : decode cX11_spare 12 = .ok (.getfield 19, 3) := by decide +kernel
theorem dX11_spare_15 : decode cX11_spare 15 = .ok (.iload_n 1, 1) := by decide +kernel
theorem dX11_spare_16 : decode cX11_spare 16 = .ok (.invokevirtual 264, 3) := by decide +kernel
theorem dX11_spare_19 : decode cX11_spare 19 = .ok (.goto 4, 3) := by decide +kernel
theorem dX11_spare_22 : decode cX11_spare 22 = .ok (.iconst (-1), 1) := by decide +kernel
theorem dX11_spare_23 : decode cX11_spare 23 = .ok (.ireturn, 1) := by decide +kernel
theorem dX11_exchange_0 : decode cX11_exchange 0 = .ok (.aload_n 0, 1) := by decide +kernel
theorem dX11_exchange_1 : decode cX11_exchange 1 = .ok (.getfield 19, 3) := by decide +kernel
theorem dX11_exchange_4 : decode cX11_exchange 4 = .ok (.iload_n 1, 1) := by decide +kernel
theorem dX11_exchange_5 : decode cX11_exchange 5 = .ok (.invokevirtual 141, 3) := by decide +kernel
theorem dX11_exchange_8 : decode cX11_exchange 8 = .ok (.ifCond .eq 25, 3) := by decide +kernel
theorem dX11_exchange_11 : decode cX11_exchange 11 = .ok (.aload_n 0, 1) := by decide +kernel
theorem dX11_exchange_12 : decode cX11_exchange 12 = .ok (.getfield 19, 3) := by decide +kernel
theorem dX11_exchange_15 : decode cX11_exchange 15 = .ok (.iload_n 2, 1) := by decide +kernel
theorem dX11_exchange_16 : decode cX11_exchange 16 = .ok (.invokevirtual 121, 3) := by decide +kernel
theorem dX11_exchange_19 : decode cX11_exchange 19 = .ok (.ifCond .eq 14, 3) := by decide +kernel
theorem dX11_exchange_22 : decode cX11_exchange 22 = .ok (.aload_n 0, 1) := by decide +kernel
theorem dX11_exchange_23 : decode cX11_exchange 23 = .ok (.getfield 19, 3) := by decide +kernel
theorem dX11_exchange_26 : decode cX11_exchange 26 = .ok (.iload_n 2, 1) := by decide +kernel
theorem dX11_exchange_27 : decode cX11_exchange 27 = .ok (.invokevirtual 141, 3) := by decide +kernel
theorem dX11_exchange_30 : decode cX11_exchange 30 = .ok (.ifCond .eq 5, 3) := by decide +kernel
theorem dX11_exchange_33 : decode cX11_exchange 33 = .ok (.iconst 0, 1) := by decide +kernel
theorem dX11_exchange_34 : decode cX11_exchange 34 = .ok (.ireturn, 1) := by decide +kernel
theorem dX11_exchange_35 : decode cX11_exchange 35 = .ok (.aload_n 0, 1) := by decide +kernel
theorem dX11_exchange_36 : decode cX11_exchange 36 = .ok (.getfield 19, 3) := by decide +kernel
theorem dX11_exchange_39 : decode cX11_exchange 39 = .ok (.iload_n 1, 1) := by decide +kernel
theorem dX11_exchange_40 : decode cX11_exchange 40 = .ok (.iload_n 2, 1) := by decide +kernel
theorem dX11_exchange_41 : decode cX11_exchange 41 = .ok (.invokevirtual 267, 3) := by decide +kernel
theorem dX11_exchange_44 : decode cX11_exchange 44 = .ok (.aload_n 0, 1) := by decide +kernel
theorem dX11_exchange_45 : decode cX11_exchange 45 = .ok (.getfield 38, 3) := by decide +kernel
theorem dX11_exchange_48 : decode cX11_exchange 48 = .ok (.iload_n 1, 1) := by decide +kernel
theorem dX11_exchange_49 : decode cX11_exchange 49 = .ok (.iload_n 2, 1) := by decide +kernel
theorem dX11_exchange_50 : decode cX11_exchange 50 = .ok (.invokevirtual 271, 3) := by decide +kernel
theorem dX11_exchange_53 : decode cX11_exchange 53 = .ok (.aload_n 0, 1) := by decide +kernel
theorem dX11_exchange_54 : decode cX11_exchange 54 = .ok (.invokevirtual 155, 3) := by decide +kernel
theorem dX11_exchange_57 : decode cX11_exchange 57 = .ok (.iconst 1, 1) := by decide +kernel
theorem dX11_exchange_58 : decode cX11_exchange 58 = .ok (.ireturn, 1) := by decide +kernel
theorem dX11_moved_0 : decode cX11_moved 0 = .ok (.iconst 0, 1) := by decide +kernel
theorem dX11_moved_1 : decode cX11_moved 1 = .ok (.istore_n 1, 1) := by decide +kernel
theorem dX11_moved_2 : decode cX11_moved 2 = .ok (.iconst 1, 1) := by decide +kernel
theorem dX11_moved_3 : decode cX11_moved 3 = .ok (.istore_n 2, 1) := by decide +kernel
theorem dX11_moved_4 : decode cX11_moved 4 = .ok (.iload_n 2, 1) := by decide +kernel
theorem dX11_moved_5 : decode cX11_moved 5 = .ok (.aload_n 0, 1) := by decide +kernel
theorem dX11_moved_6 : decode cX11_moved 6 = .ok (.getfield 38, 3) := by decide +kernel
theorem dX11_moved_9 : decode cX11_moved 9 = .ok (.getfield 115, 3) := by decide +kernel
theorem dX11_moved_12 : decode cX11_moved 12 = .ok (.if_icmp .ge 34, 3) := by decide +kernel
theorem dX11_moved_15 : decode cX11_moved 15 = .ok (.iload_n 1, 1) := by decide +kernel
theorem dX11_moved_16 : decode cX11_moved 16 = .ok (.aload_n 0, 1) := by decide +kernel
theorem dX11_moved_17 : decode cX11_moved 17 = .ok (.getfield 62, 3) := by decide +kernel
theorem dX11_moved_20 : decode cX11_moved 20 = .ok (.iload_n 2, 1) := by decide +kernel
theorem dX11_moved_21 : decode cX11_moved 21 = .ok (.invokevirtual 274, 3) := by decide +kernel
theorem dX11_moved_24 : decode cX11_moved 24 = .ok (.aload_n 0, 1) := by decide +kernel
theorem dX11_moved_25 : decode cX11_moved 25 = .ok (.getfield 62, 3) := by decide +kernel
theorem dX11_moved_28 : decode cX11_moved 28 = .ok (.iload_n 2, 1) := by decide +kernel
theorem dX11_moved_29 : decode cX11_moved 29 = .ok (.iconst 1, 1) := by decide +kernel
theorem dX11_moved_30 : decode cX11_moved 30 = .ok (.isub, 1) := by decide +kernel
theorem dX11_moved_31 : decode cX11_moved 31 = .ok (.invokevirtual 274, 3) := by decide +kernel
theorem dX11_moved_34 : decode cX11_moved 34 = .ok (.isub, 1) := by decide +kernel
theorem dX11_moved_35 : decode cX11_moved 35 = .ok (.invokestatic 277, 3) := by decide +kernel
theorem dX11_moved_38 : decode cX11_moved 38 = .ok (.iadd, 1) := by decide +kernel
theorem dX11_moved_39 : decode cX11_moved 39 = .ok (.istore_n 1, 1) := by decide +kernel
theorem dX11_moved_40 : decode cX11_moved 40 = .ok (.iinc 2 1, 3) := by decide +kernel
theorem dX11_moved_43 : decode cX11_moved 43 = .ok (.goto (-39), 3) := by decide +kernel
theorem dX11_moved_46 : decode cX11_moved 46 = .ok (.iload_n 1, 1) := by decide +kernel
theorem dX11_moved_47 : decode cX11_moved 47 = .ok (.ireturn, 1) := by decide +kernel
theorem dX11_order_0 : decode cX11_order 0 = .ok (.aload_n 0, 1) := by decide +kernel
theorem dX11_order_1 : decode cX11_order 1 = .ok (.getfield 96, 3) := by decide +kernel
theorem dX11_order_4 : decode cX11_order 4 = .ok (.invokevirtual 282, 3) := by decide +kernel
theorem dX11_order_7 : decode cX11_order 7 = .ok (.ireturn, 1) := by decide +kernel
theorem dX11_ordered_0 : decode cX11_ordered 0 = .ok (.aload_n 0, 1) := by decide +kernel
theorem dX11_ordered_1 : decode cX11_ordered 1 = .ok (.getfield 96, 3) := by decide +kernel
theorem dX11_ordered_4 : decode cX11_ordered 4 = .ok (.iload_n 1, 1) := by decide +kernel
theorem dX11_ordered_5 : decode cX11_ordered 5 = .ok (.invokevirtual 285, 3) := by decide +kernel
theorem dX11_ordered_8 : decode cX11_ordered 8 = .ok (.ireturn, 1) := by decide +kernel
theorem dX11_mark_0 : decode cX11_mark 0 = .ok (.iload_n 1, 1) := by decide +kernel
theorem dX11_mark_1 : decode cX11_mark 1 = .ok (.ifCond .lt 8, 3) := by decide +kernel
theorem dX11_mark_4 : decode cX11_mark 4 = .ok (.iload_n 1, 1) := by decide +kernel
theorem dX11_mark_5 : decode cX11_mark 5 = .ok (.iconst 4, 1) := by decide +kernel
theorem dX11_mark_6 : decode cX11_mark 6 = .ok (.if_icmp .lt 5, 3) := by decide +kernel
theorem dX11_mark_9 : decode cX11_mark 9 = .ok (.iconst 0, 1) := by decide +kernel
theorem dX11_mark_10 : decode cX11_mark 10 = .ok (.ireturn, 1) := by decide +kernel
theorem dX11_mark_11 : decode cX11_mark 11 = .ok (.iload_n 2, 1) := by decide +kernel
theorem dX11_mark_12 : decode cX11_mark 12 = .ok (.ifCond .eq 11, 3) := by decide +kernel
theorem dX11_mark_15 : decode cX11_mark 15 = .ok (.aload_n 0, 1) := by decide +kernel
theorem dX11_mark_16 : decode cX11_mark 16 = .ok (.iload_n 1, 1) := by decide +kernel
theorem dX11_mark_17 : decode cX11_mark 17 = .ok (.invokevirtual 288, 3) := by decide +kernel
theorem dX11_mark_20 : decode cX11_mark 20 = .ok (.goto 8, 3) := by decide +kernel
theorem dX11_mark_23 : decode cX11_mark 23 = .ok (.aload_n 0, 1) := by decide +kernel
theorem dX11_mark_24 : decode cX11_mark 24 = .ok (.iload_n 1, 1) := by decide +kernel
theorem dX11_mark_25 : decode cX11_mark 25 = .ok (.invokevirtual 291, 3) := by decide +kernel
theorem dX11_mark_28 : decode cX11_mark 28 = .ok (.ireturn, 1) := by decide +kernel
theorem dX11_count_0 : decode cX11_count 0 = .ok (.iload_n 1, 1) := by decide +kernel
theorem dX11_count_1 : decode cX11_count 1 = .ok (.iconst 5, 1) := by decide +kernel
theorem dX11_count_2 : decode cX11_count 2 = .ok (.if_icmp .lt 21, 3) := by decide +kernel
theorem dX11_count_5 : decode cX11_count 5 = .ok (.iload_n 1, 1) := by decide +kernel
theorem dX11_count_6 : decode cX11_count 6 = .ok (.bipush 16, 2) := by decide +kernel
theorem dX11_count_8 : decode cX11_count 8 = .ok (.if_icmp .ge 15, 3) := by decide +kernel
theorem dX11_count_11 : decode cX11_count 11 = .ok (.aload_n 0, 1) := by decide +kernel
theorem dX11_count_12 : decode cX11_count 12 = .ok (.getfield 19, 3) := by decide +kernel
theorem dX11_count_15 : decode cX11_count 15 = .ok (.getfield 294, 3) := by decide +kernel
theorem dX11_count_18 : decode cX11_count 18 = .ok (.iload_n 1, 1) := by decide +kernel
theorem dX11_count_19 : decode cX11_count 19 = .ok (.iconst 5, 1) := by decide +kernel
theorem dX11_count_20 : decode cX11_count 20 = .ok (.isub, 1) := by decide +kernel
theorem dX11_count_21 : decode cX11_count 21 = .ok (.iaload, 1) := by decide +kernel
theorem dX11_count_22 : decode cX11_count 22 = .ok (.ireturn, 1) := by decide +kernel
theorem dX11_count_23 : decode cX11_count 23 = .ok (.iload_n 1, 1) := by decide +kernel
theorem dX11_count_24 : decode cX11_count 24 = .ok (.tableswitch 132 0 16 #[84, 92, 100, 108, 116, 132, 132, 132, 132, 132, 132, 132, 132, 132, 132, 132, 124], 84) := by decide +kernel
theorem dX11_count_108 : decode cX11_count 108 = .ok (.aload_n 0, 1) := by decide +kernel
theorem dX11_count_109 : decode cX11_count 109 = .ok (.getfield 19, 3) := by decide +kernel
theorem dX11_count_112 : decode cX11_count 112 = .ok (.getfield 297, 3) := by decide +kernel
theorem dX11_count_115 : decode cX11_count 115 = .ok (.ireturn, 1) := by decide +kernel
theorem dX11_count_116 : decode cX11_count 116 = .ok (.aload_n 0, 1) := by decide +kernel
theorem dX11_count_117 : decode cX11_count 117 = .ok (.getfield 19, 3) := by decide +kernel
theorem dX11_count_120 : decode cX11_count 120 = .ok (.getfield 300, 3) := by decide +kernel
theorem dX11_count_123 : decode cX11_count 123 = .ok (.ireturn, 1) := by decide +kernel
theorem dX11_count_124 : decode cX11_count 124 = .ok (.aload_n 0, 1) := by decide +kernel
theorem dX11_count_125 : decode cX11_count 125 = .ok (.getfield 19, 3) := by decide +kernel
theorem dX11_count_128 : decode cX11_count 128 = .ok (.getfield 250, 3) := by decide +kernel
theorem dX11_count_131 : decode cX11_count 131 = .ok (.ireturn, 1) := by decide +kernel
theorem dX11_count_132 : decode cX11_count 132 = .ok (.aload_n 0, 1) := by decide +kernel
theorem dX11_count_133 : decode cX11_count 133 = .ok (.getfield 19, 3) := by decide +kernel
theorem dX11_count_136 : decode cX11_count 136 = .ok (.getfield 303, 3) := by decide +kernel
theorem dX11_count_139 : decode cX11_count 139 = .ok (.ireturn, 1) := by decide +kernel
theorem dX11_count_140 : decode cX11_count 140 = .ok (.aload_n 0, 1) := by decide +kernel
theorem dX11_count_141 : decode cX11_count 141 = .ok (.getfield 38, 3) := by decide +kernel
theorem dX11_count_144 : decode cX11_count 144 = .ok (.getfield 115, 3) := by decide +kernel
theorem dX11_count_147 : decode cX11_count 147 = .ok (.ireturn, 1) := by decide +kernel
theorem dX11_count_148 : decode cX11_count 148 = .ok (.aload_n 0, 1) := by decide +kernel
theorem dX11_count_149 : decode cX11_count 149 = .ok (.getfield 10, 3) := by decide +kernel
theorem dX11_count_152 : decode cX11_count 152 = .ok (.getfield 104, 3) := by decide +kernel
theorem dX11_count_155 : decode cX11_count 155 = .ok (.ireturn, 1) := by decide +kernel
theorem dX11_count_156 : decode cX11_count 156 = .ok (.iconst (-1), 1) := by decide +kernel
theorem dX11_count_157 : decode cX11_count 157 = .ok (.ireturn, 1) := by decide +kernel
theorem dX11_lay_0 : decode cX11_lay 0 = .ok (.aload_n 0, 1) := by decide +kernel
theorem dX11_lay_1 : decode cX11_lay 1 = .ok (.getfield 42, 3) := by decide +kernel
theorem dX11_lay_4 : decode cX11_lay 4 = .ok (.iload_n 1, 1) := by decide +kernel
theorem dX11_lay_5 : decode cX11_lay 5 = .ok (.aaload, 1) := by decide +kernel
theorem dX11_lay_6 : decode cX11_lay 6 = .ok (.ifnull 12, 3) := by decide +kernel
theorem dX11_lay_9 : decode cX11_lay 9 = .ok (.aload_n 0, 1) := by decide +kernel
theorem dX11_lay_10 : decode cX11_lay 10 = .ok (.getfield 46, 3) := by decide +kernel
theorem dX11_lay_13 : decode cX11_lay 13 = .ok (.iload_n 1, 1) := by decide +kernel
theorem dX11_lay_14 : decode cX11_lay 14 = .ok (.aaload, 1) := by decide +kernel
theorem dX11_lay_15 : decode cX11_lay 15 = .ok (.ifnonnull 29, 3) := by decide +kernel
theorem dX11_lay_18 : decode cX11_lay 18 = .ok (.aload_n 0, 1) := by decide +kernel
theorem dX11_lay_19 : decode cX11_lay 19 = .ok (.getfield 42, 3) := by decide +kernel
theorem dX11_lay_22 : decode cX11_lay 22 = .ok (.iload_n 1, 1) := by decide +kernel
theorem dX11_lay_23 : decode cX11_lay 23 = .ok (.new 16, 3) := by decide +kernel
theorem dX11_lay_26 : decode cX11_lay 26 = .ok (.dup, 1) := by decide +kernel
theorem dX11_lay_27 : decode cX11_lay 27 = .ok (.invokespecial 18, 3) := by decide +kernel
theorem dX11_lay_30 : decode cX11_lay 30 = .ok (.aastore, 1) := by decide +kernel
theorem dX11_lay_31 : decode cX11_lay 31 = .ok (.aload_n 0, 1) := by decide +kernel
theorem dX11_lay_32 : decode cX11_lay 32 = .ok (.getfield 46, 3) := by decide +kernel
theorem dX11_lay_35 : decode cX11_lay 35 = .ok (.iload_n 1, 1) := by decide +kernel
theorem dX11_lay_36 : decode cX11_lay 36 = .ok (.new 35, 3) := by decide +kernel
theorem dX11_lay_39 : decode cX11_lay 39 = .ok (.dup, 1) := by decide +kernel
theorem dX11_lay_40 : decode cX11_lay 40 = .ok (.invokespecial 37, 3) := by decide +kernel
theorem dX11_lay_43 : decode cX11_lay 43 = .ok (.aastore, 1) := by decide +kernel
theorem dX11_lay_44 : decode cX11_lay 44 = .ok (.aload_n 0, 1) := by decide +kernel
theorem dX11_lay_45 : decode cX11_lay 45 = .ok (.getfield 42, 3) := by decide +kernel
theorem dX11_lay_48 : decode cX11_lay 48 = .ok (.iload_n 1, 1) := by decide +kernel
theorem dX11_lay_49 : decode cX11_lay 49 = .ok (.aaload, 1) := by decide +kernel
theorem dX11_lay_50 : decode cX11_lay 50 = .ok (.aload_n 0, 1) := by decide +kernel
theorem dX11_lay_51 : decode cX11_lay 51 = .ok (.getfield 19, 3) := by decide +kernel
theorem dX11_lay_54 : decode cX11_lay 54 = .ok (.invokevirtual 112, 3) := by decide +kernel
theorem dX11_lay_57 : decode cX11_lay 57 = .ok (.aload_n 0, 1) := by decide +kernel
theorem dX11_lay_58 : decode cX11_lay 58 = .ok (.getfield 46, 3) := by decide +kernel
theorem dX11_lay_61 : decode cX11_lay 61 = .ok (.iload_n 1, 1) := by decide +kernel
theorem dX11_lay_62 : decode cX11_lay 62 = .ok (.aaload, 1) := by decide +kernel
theorem dX11_lay_63 : decode cX11_lay 63 = .ok (.aload_n 0, 1) := by decide +kernel
theorem dX11_lay_64 : decode cX11_lay 64 = .ok (.getfield 38, 3) := by decide +kernel
theorem dX11_lay_67 : decode cX11_lay 67 = .ok (.invokevirtual 306, 3) := by decide +kernel
theorem dX11_lay_70 : decode cX11_lay 70 = .ok (.iconst 1, 1) := by decide +kernel
theorem dX11_lay_71 : decode cX11_lay 71 = .ok (.ireturn, 1) := by decide +kernel
theorem dX11_goBack_0 : decode cX11_goBack 0 = .ok (.aload_n 0, 1) := by decide +kernel
theorem dX11_goBack_1 : decode cX11_goBack 1 = .ok (.getfield 42, 3) := by decide +kernel
theorem dX11_goBack_4 : decode cX11_goBack 4 = .ok (.iload_n 1, 1) := by decide +kernel
theorem dX11_goBack_5 : decode cX11_goBack 5 = .ok (.aaload, 1) := by decide +kernel
theorem dX11_goBack_6 : decode cX11_goBack 6 = .ok (.ifnull 12, 3) := by decide +kernel
theorem dX11_goBack_9 : decode cX11_goBack 9 = .ok (.aload_n 0, 1) := by decide +kernel
theorem dX11_goBack_10 : decode cX11_goBack 10 = .ok (.getfield 46, 3) := by decide +kernel
theorem dX11_goBack_13 : decode cX11_goBack 13 = .ok (.iload_n 1, 1) := by decide +kernel
theorem dX11_goBack_14 : decode cX11_goBack 14 = .ok (.aaload, 1) := by decide +kernel
theorem dX11_goBack_15 : decode cX11_goBack 15 = .ok (.ifnonnull 5, 3) := by decide +kernel
theorem dX11_goBack_18 : decode cX11_goBack 18 = .ok (.iconst 0, 1) := by decide +kernel
theorem dX11_goBack_19 : decode cX11_goBack 19 = .ok (.ireturn, 1) := by decide +kernel
theorem dX11_goBack_20 : decode cX11_goBack 20 = .ok (.aload_n 0, 1) := by decide +kernel
theorem dX11_goBack_21 : decode cX11_goBack 21 = .ok (.getfield 19, 3) := by decide +kernel
theorem dX11_goBack_24 : decode cX11_goBack 24 = .ok (.aload_n 0, 1) := by decide +kernel
theorem dX11_goBack_25 : decode cX11_goBack 25 = .ok (.getfield 42, 3) := by decide +kernel
theorem dX11_goBack_28 : decode cX11_goBack 28 = .ok (.iload_n 1, 1) := by decide +kernel
theorem dX11_goBack_29 : decode cX11_goBack 29 = .ok (.aaload, 1) := by decide +kernel
theorem dX11_goBack_30 : decode cX11_goBack 30 = .ok (.invokevirtual 112, 3) := by decide +kernel
theorem dX11_goBack_33 : decode cX11_goBack 33 = .ok (.aload_n 0, 1) := by decide +kernel
theorem dX11_goBack_34 : decode cX11_goBack 34 = .ok (.getfield 38, 3) := by decide +kernel
theorem dX11_goBack_37 : decode cX11_goBack 37 = .ok (.aload_n 0, 1) := by decide +kernel
theorem dX11_goBack_38 : decode cX11_goBack 38 = .ok (.getfield 46, 3) := by decide +kernel
theorem dX11_goBack_41 : decode cX11_goBack 41 = .ok (.iload_n 1, 1) := by decide +kernel
theorem dX11_goBack_42 : decode cX11_goBack 42 = .ok (.aaload, 1) := by decide +kernel
theorem dX11_goBack_43 : decode cX11_goBack 43 = .ok (.invokevirtual 306, 3) := by decide +kernel
theorem dX11_goBack_46 : decode cX11_goBack 46 = .ok (.aload_n 0, 1) := by decide +kernel
theorem dX11_goBack_47 : decode cX11_goBack 47 = .ok (.invokevirtual 118, 3) := by decide +kernel
theorem dX11_goBack_50 : decode cX11_goBack 50 = .ok (.iconst 1, 1) := by decide +kernel
theorem dX11_goBack_51 : decode cX11_goBack 51 = .ok (.ireturn, 1) := by decide +kernel
theorem dX11_forgetPlaying_0 : decode cX11_forgetPlaying 0 = .ok (.aload_n 0, 1) := by decide +kernel
theorem dX11_forgetPlaying_1 : decode cX11_forgetPlaying 1 = .ok (.getfield 55, 3) := by decide +kernel
theorem dX11_forgetPlaying_4 : decode cX11_forgetPlaying 4 = .ok (.iconst 0, 1) := by decide +kernel
theorem dX11_forgetPlaying_5 : decode cX11_forgetPlaying 5 = .ok (.putfield 309, 3) := by decide +kernel
theorem dX11_forgetPlaying_8 : decode cX11_forgetPlaying 8 = .ok (.aload_n 0, 1) := by decide +kernel
theorem dX11_forgetPlaying_9 : decode cX11_forgetPlaying 9 = .ok (.getfield 71, 3) := by decide +kernel
theorem dX11_forgetPlaying_12 : decode cX11_forgetPlaying 12 = .ok (.iconst 0, 1) := by decide +kernel
theorem dX11_forgetPlaying_13 : decode cX11_forgetPlaying 13 = .ok (.putfield 164, 3) := by decide +kernel
theorem dX11_forgetPlaying_16 : decode cX11_forgetPlaying 16 = .ok (.aload_n 0, 1) := by decide +kernel
theorem dX11_forgetPlaying_17 : decode cX11_forgetPlaying 17 = .ok (.getfield 80, 3) := by decide +kernel
theorem dX11_forgetPlaying_20 : decode cX11_forgetPlaying 20 = .ok (.iconst 0, 1) := by decide +kernel
theorem dX11_forgetPlaying_21 : decode cX11_forgetPlaying 21 = .ok (.putfield 310, 3) := by decide +kernel
theorem dX11_forgetPlaying_24 : decode cX11_forgetPlaying 24 = .ok (.aload_n 0, 1) := by decide +kernel
theorem dX11_forgetPlaying_25 : decode cX11_forgetPlaying 25 = .ok (.getfield 96, 3) := by decide +kernel
theorem dX11_forgetPlaying_28 : decode cX11_forgetPlaying 28 = .ok (.iconst 0, 1) := by decide +kernel
theorem dX11_forgetPlaying_29 : decode cX11_forgetPlaying 29 = .ok (.putfield 311, 3) := by decide +kernel
theorem dX11_forgetPlaying_32 : decode cX11_forgetPlaying 32 = .ok (.return_, 1) := by decide +kernel
theorem dX11_forgetAll_0 : decode cX11_forgetAll 0 = .ok (.aload_n 0, 1) := by decide +kernel
theorem dX11_forgetAll_1 : decode cX11_forgetAll 1 = .ok (.invokevirtual 155, 3) := by decide +kernel
theorem dX11_forgetAll_4 : decode cX11_forgetAll 4 = .ok (.aload_n 0, 1) := by decide +kernel
theorem dX11_forgetAll_5 : decode cX11_forgetAll 5 = .ok (.getfield 89, 3) := by decide +kernel
theorem dX11_forgetAll_8 : decode cX11_forgetAll 8 = .ok (.iconst 0, 1) := by decide +kernel
theorem dX11_forgetAll_9 : decode cX11_forgetAll 9 = .ok (.putfield 312, 3) := by decide +kernel
theorem dX11_forgetAll_12 : decode cX11_forgetAll 12 = .ok (.return_, 1) := by decide +kernel
theorem dX11_isBeat_0 : decode cX11_isBeat 0 = .ok (.iload_n 0, 1) := by decide +kernel
theorem dX11_isBeat_1 : decode cX11_isBeat 1 = .ok (.ifCond .lt 14, 3) := by decide +kernel
theorem dX11_isBeat_4 : decode cX11_isBeat 4 = .ok (.iload_n 0, 1) := by decide +kernel
theorem dX11_isBeat_5 : decode cX11_isBeat 5 = .ok (.sipush 200, 3) := by decide +kernel
theorem dX11_isBeat_8 : decode cX11_isBeat 8 = .ok (.if_icmp .ge 7, 3) := by decide +kernel
theorem dX11_isBeat_11 : decode cX11_isBeat 11 = .ok (.iconst 1, 1) := by decide +kernel
theorem dX11_isBeat_12 : decode cX11_isBeat 12 = .ok (.goto 4, 3) := by decide +kernel
theorem dX11_isBeat_15 : decode cX11_isBeat 15 = .ok (.iconst 0, 1) := by decide +kernel
theorem dX11_isBeat_16 : decode cX11_isBeat 16 = .ok (.ireturn, 1) := by decide +kernel
theorem dX12_init_0 : decode cX12_init 0 = .ok (.aload_n 0, 1) := by decide +kernel
theorem dX12_init_1 : decode cX12_init 1 = .ok (.invokespecial 1, 3) := by decide +kernel
theorem dX12_init_4 : decode cX12_init 4 = .ok (.aload_n 0, 1) := by decide +kernel
theorem dX12_init_5 : decode cX12_init 5 = .ok (.sipush 1000, 3) := by decide +kernel
theorem dX12_init_8 : decode cX12_init 8 = .ok (.newarray .int, 2) := by decide +kernel
theorem dX12_init_10 : decode cX12_init 10 = .ok (.putfield 7, 3) := by decide +kernel
theorem dX12_init_13 : decode cX12_init 13 = .ok (.aload_n 0, 1) := by decide +kernel
theorem dX12_init_14 : decode cX12_init 14 = .ok (.bipush 6, 2) := by decide +kernel
theorem dX12_init_16 : decode cX12_init 16 = .ok (.newarray .int, 2) := by decide +kernel
theorem dX12_init_18 : decode cX12_init 18 = .ok (.putfield 13, 3) := by decide +kernel
theorem dX12_init_21 : decode cX12_init 21 = .ok (.aload_n 0, 1) := by decide +kernel
theorem dX12_init_22 : decode cX12_init 22 = .ok (.bipush 6, 2) := by decide +kernel
theorem dX12_init_24 : decode cX12_init 24 = .ok (.newarray .int, 2) := by decide +kernel
theorem dX12_init_26 : decode cX12_init 26 = .ok (.putfield 16, 3) := by decide +kernel
theorem dX12_init_29 : decode cX12_init 29 = .ok (.aload_n 0, 1) := by decide +kernel
theorem dX12_init_30 : decode cX12_init 30 = .ok (.bipush 6, 2) := by decide +kernel
theorem dX12_init_32 : decode cX12_init 32 = .ok (.newarray .int, 2) := by decide +kernel
theorem dX12_init_34 : decode cX12_init 34 = .ok (.putfield 19, 3) := by decide +kernel
theorem dX12_init_37 : decode cX12_init 37 = .ok (.aload_n 0, 1) := by decide +kernel
theorem dX12_init_38 : decode cX12_init 38 = .ok (.bipush 12, 2) := by decide +kernel
theorem dX12_init_40 : decode cX12_init 40 = .ok (.newarray .long, 2) := by decide +kernel
theorem dX12_init_42 : decode cX12_init 42 = .ok (.putfield 22, 3) := by decide +kernel
theorem dX12_init_45 : decode cX12_init 45 = .ok (.aload_n 0, 1) := by decide +kernel
theorem dX12_init_46 : decode cX12_init 46 = .ok (.bipush 72, 2) := by decide +kernel
theorem dX12_init_48 : decode cX12_init 48 = .ok (.newarray .int, 2) := by decide +kernel
theorem dX12_init_50 : decode cX12_init 50 = .ok (.putfield 26, 3) := by decide +kernel
theorem dX12_init_53 : decode cX12_init 53 = .ok (.aload_n 0, 1) := by decide +kernel
theorem dX12_init_54 : decode cX12_init 54 = .ok (.bipush 72, 2) := by decide +kernel
theorem dX12_init_56 : decode cX12_init 56 = .ok (.newarray .int, 2) := by decide +kernel
theorem dX12_init_58 : decode cX12_init 58 = .ok (.putfield 29, 3) := by decide +kernel
theorem dX12_init_61 : decode cX12_init 61 = .ok (.aload_n 0, 1) := by decide +kernel
theorem dX12_init_62 : decode cX12_init 62 = .ok (.bipush 72, 2) := by decide +kernel
theorem dX12_init_64 : decode cX12_init 64 = .ok (.newarray .int, 2) := by decide +kernel
theorem dX12_init_66 : decode cX12_init 66 = .ok (.putfield 32, 3) := by decide +kernel
theorem dX12_init_69 : decode cX12_init 69 = .ok (.aload_n 0, 1) := by decide +kernel
theorem dX12_init_70 : decode cX12_init 70 = .ok (.bipush 72, 2) := by decide +kernel
theorem dX12_init_72 : decode cX12_init 72 = .ok (.newarray .int, 2) := by decide +kernel
theorem dX12_init_74 : decode cX12_init 74 = .ok (.putfield 35, 3) := by decide +kernel
theorem dX12_init_77 : decode cX12_init 77 = .ok (.aload_n 0, 1) := by decide +kernel
theorem dX12_init_78 : decode cX12_init 78 = .ok (.bipush 72, 2) := by decide +kernel
theorem dX12_init_80 : decode cX12_init 80 = .ok (.newarray .int, 2) := by decide +kernel
theorem dX12_init_82 : decode cX12_init 82 = .ok (.putfield 38, 3) := by decide +kernel
theorem dX12_init_85 : decode cX12_init 85 = .ok (.aload_n 0, 1) := by decide +kernel
theorem dX12_init_86 : decode cX12_init 86 = .ok (.bipush 48, 2) := by decide +kernel
theorem dX12_init_88 : decode cX12_init 88 = .ok (.newarray .int, 2) := by decide +kernel
theorem dX12_init_90 : decode cX12_init 90 = .ok (.putfield 41, 3) := by decide +kernel
theorem dX12_init_93 : decode cX12_init 93 = .ok (.aload_n 0, 1) := by decide +kernel
theorem dX12_init_94 : decode cX12_init 94 = .ok (.bipush 48, 2) := by decide +kernel
theorem dX12_init_96 : decode cX12_init 96 = .ok (.newarray .int, 2) := by decide +kernel
theorem dX12_init_98 : decode cX12_init 98 = .ok (.putfield 44, 3) := by decide +kernel
theorem dX12_init_101 : decode cX12_init 101 = .ok (.aload_n 0, 1) := by decide +kernel
theorem dX12_init_102 : decode cX12_init 102 = .ok (.bipush 48, 2) := by decide +kernel
theorem dX12_init_104 : decode cX12_init 104 = .ok (.newarray .int, 2) := by decide +kernel
theorem dX12_init_106 : decode cX12_init 106 = .ok (.putfield 47, 3) := by decide +kernel
theorem dX12_init_109 : decode cX12_init 109 = .ok (.aload_n 0, 1) := by decide +kernel
theorem dX12_init_110 : decode cX12_init 110 = .ok (.bipush 48, 2) := by decide +kernel
theorem dX12_init_112 : decode cX12_init 112 = .ok (.newarray .int, 2) := by decide +kernel
theorem dX12_init_114 : decode cX12_init 114 = .ok (.putfield 50, 3) := by decide +kernel
theorem dX12_init_117 : decode cX12_init 117 = .ok (.aload_n 0, 1) := by decide +kernel
theorem dX12_init_118 : decode cX12_init 118 = .ok (.bipush 48, 2) := by decide +kernel
theorem dX12_init_120 : decode cX12_init 120 = .ok (.newarray .int, 2) := by decide +kernel
theorem dX12_init_122 : decode cX12_init 122 = .ok (.putfield 53, 3) := by decide +kernel
theorem dX12_init_125 : decode cX12_init 125 = .ok (.aload_n 0, 1) := by decide +kernel
theorem dX12_init_126 : decode cX12_init 126 = .ok (.bipush 66, 2) := by decide +kernel
theorem dX12_init_128 : decode cX12_init 128 = .ok (.newarray .int, 2) := by decide +kernel
theorem dX12_init_130 : decode cX12_init 130 = .ok (.putfield 56, 3) := by decide +kernel
theorem dX12_init_133 : decode cX12_init 133 = .ok (.aload_n 0, 1) := by decide +kernel
theorem dX12_init_134 : decode cX12_init 134 = .ok (.bipush 11, 2) := by decide +kernel
theorem dX12_init_136 : decode cX12_init 136 = .ok (.newarray .boolean, 2) := by decide +kernel
theorem dX12_init_138 : decode cX12_init 138 = .ok (.putfield 59, 3) := by decide +kernel
theorem dX12_init_141 : decode cX12_init 141 = .ok (.aload_n 0, 1) := by decide +kernel
theorem dX12_init_142 : decode cX12_init 142 = .ok (.bipush 24, 2) := by decide +kernel
theorem dX12_init_144 : decode cX12_init 144 = .ok (.newarray .int, 2) := by decide +kernel
theorem dX12_init_146 : decode cX12_init 146 = .ok (.putfield 63, 3) := by decide +kernel
theorem dX12_init_149 : decode cX12_init 149 = .ok (.aload_n 0, 1) := by decide +kernel
theorem dX12_init_150 : decode cX12_init 150 = .ok (.bipush 24, 2) := by decide +kernel
theorem dX12_init_152 : decode cX12_init 152 = .ok (.newarray .int, 2) := by decide +kernel
theorem dX12_init_154 : decode cX12_init 154 = .ok (.putfield 66, 3) := by decide +kernel
theorem dX12_init_157 : decode cX12_init 157 = .ok (.aload_n 0, 1) := by decide +kernel
theorem dX12_init_158 : decode cX12_init 158 = .ok (.sipush 6000, 3) := by decide +kernel
theorem dX12_init_161 : decode cX12_init 161 = .ok (.newarray .int, 2) := by decide +kernel
theorem dX12_init_163 : decode cX12_init 163 = .ok (.putfield 69, 3) := by decide +kernel
theorem dX12_init_166 : decode cX12_init 166 = .ok (.aload_n 0, 1) := by decide +kernel
theorem dX12_init_167 : decode cX12_init 167 = .ok (.bipush 7, 2) := by decide +kernel
theorem dX12_init_169 : decode cX12_init 169 = .ok (.newarray .int, 2) := by decide +kernel
theorem dX12_init_171 : decode cX12_init 171 = .ok (.putfield 72, 3) := by decide +kernel
theorem dX12_init_174 : decode cX12_init 174 = .ok (.aload_n 0, 1) := by decide +kernel
theorem dX12_init_175 : decode cX12_init 175 = .ok (.bipush 7, 2) := by decide +kernel
theorem dX12_init_177 : decode cX12_init 177 = .ok (.newarray .boolean, 2) := by decide +kernel
theorem dX12_init_179 : decode cX12_init 179 = .ok (.putfield 75, 3) := by decide +kernel
theorem dX12_init_182 : decode cX12_init 182 = .ok (.aload_n 0, 1) := by decide +kernel
theorem dX12_init_183 : decode cX12_init 183 = .ok (.bipush 7, 2) := by decide +kernel
theorem dX12_init_185 : decode cX12_init 185 = .ok (.newarray .int, 2) := by decide +kernel
theorem dX12_init_187 : decode cX12_init 187 = .ok (.putfield 78, 3) := by decide +kernel
theorem dX12_init_190 : decode cX12_init 190 = .ok (.aload_n 0, 1) := by decide +kernel
theorem dX12_init_191 : decode cX12_init 191 = .ok (.bipush 7, 2) := by decide +kernel
theorem dX12_init_193 : decode cX12_init 193 = .ok (.newarray .int, 2) := by decide +kernel
theorem dX12_init_195 : decode cX12_init 195 = .ok (.putfield 81, 3) := by decide +kernel
theorem dX12_init_198 : decode cX12_init 198 = .ok (.aload_n 0, 1) := by decide +kernel
theorem dX12_init_199 : decode cX12_init 199 = .ok (.bipush 7, 2) := by decide +kernel
theorem dX12_init_201 : decode cX12_init 201 = .ok (.newarray .int, 2) := by decide +kernel
theorem dX12_init_203 : decode cX12_init 203 = .ok (.putfield 84, 3) := by decide +kernel
theorem dX12_init_206 : decode cX12_init 206 = .ok (.aload_n 0, 1) := by decide +kernel
theorem dX12_init_207 : decode cX12_init 207 = .ok (.bipush 7, 2) := by decide +kernel
theorem dX12_init_209 : decode cX12_init 209 = .ok (.newarray .int, 2) := by decide +kernel
theorem dX12_init_211 : decode cX12_init 211 = .ok (.putfield 87, 3) := by decide +kernel
theorem dX12_init_214 : decode cX12_init 214 = .ok (.aload_n 0, 1) := by decide +kernel
theorem dX12_init_215 : decode cX12_init 215 = .ok (.bipush 7, 2) := by decide +kernel
theorem dX12_init_217 : decode cX12_init 217 = .ok (.newarray .int, 2) := by decide +kernel
theorem dX12_init_219 : decode cX12_init 219 = .ok (.putfield 90, 3) := by decide +kernel
theorem dX12_init_222 : decode cX12_init 222 = .ok (.aload_n 0, 1) := by decide +kernel
theorem dX12_init_223 : decode cX12_init 223 = .ok (.bipush 7, 2) := by decide +kernel
theorem dX12_init_225 : decode cX12_init 225 = .ok (.newarray .int, 2) := by decide +kernel
theorem dX12_init_227 : decode cX12_init 227 = .ok (.putfield 93, 3) := by decide +kernel
theorem dX12_init_230 : decode cX12_init 230 = .ok (.aload_n 0, 1) := by decide +kernel
theorem dX12_init_231 : decode cX12_init 231 = .ok (.bipush 7, 2) := by decide +kernel
theorem dX12_init_233 : decode cX12_init 233 = .ok (.newarray .int, 2) := by decide +kernel
theorem dX12_init_235 : decode cX12_init 235 = .ok (.putfield 96, 3) := by decide +kernel
theorem dX12_init_238 : decode cX12_init 238 = .ok (.aload_n 0, 1) := by decide +kernel
theorem dX12_init_239 : decode cX12_init 239 = .ok (.bipush 7, 2) := by decide +kernel
theorem dX12_init_241 : decode cX12_init 241 = .ok (.newarray .int, 2) := by decide +kernel
theorem dX12_init_243 : decode cX12_init 243 = .ok (.putfield 99, 3) := by decide +kernel
theorem dX12_init_246 : decode cX12_init 246 = .ok (.aload_n 0, 1) := by decide +kernel
theorem dX12_init_247 : decode cX12_init 247 = .ok (.bipush 7, 2) := by decide +kernel
theorem dX12_init_249 : decode cX12_init 249 = .ok (.newarray .int, 2) := by decide +kernel
theorem dX12_init_251 : decode cX12_init 251 = .ok (.putfield 102, 3) := by decide +kernel
theorem dX12_init_254 : decode cX12_init 254 = .ok (.aload_n 0, 1) := by decide +kernel
theorem dX12_init_255 : decode cX12_init 255 = .ok (.bipush 20, 2) := by decide +kernel
theorem dX12_init_257 : decode cX12_init 257 = .ok (.newarray .int, 2) := by decide +kernel
theorem dX12_init_259 : decode cX12_init 259 = .ok (.putfield 105, 3) := by decide +kernel
theorem dX12_init_262 : decode cX12_init 262 = .ok (.aload_n 0, 1) := by decide +kernel
theorem dX12_init_263 : decode cX12_init 263 = .ok (.bipush 120, 2) := by decide +kernel
theorem dX12_init_265 : decode cX12_init 265 = .ok (.newarray .int, 2) := by decide +kernel
theorem dX12_init_267 : decode cX12_init 267 = .ok (.putfield 108, 3) := by decide +kernel
theorem dX12_init_270 : decode cX12_init 270 = .ok (.aload_n 0, 1) := by decide +kernel
theorem dX12_init_271 : decode cX12_init 271 = .ok (.bipush 120, 2) := by decide +kernel
theorem dX12_init_273 : decode cX12_init 273 = .ok (.newarray .int, 2) := by decide +kernel
theorem dX12_init_275 : decode cX12_init 275 = .ok (.putfield 111, 3) := by decide +kernel
theorem dX12_init_278 : decode cX12_init 278 = .ok (.aload_n 0, 1) := by decide +kernel
theorem dX12_init_279 : decode cX12_init 279 = .ok (.bipush 120, 2) := by decide +kernel
theorem dX12_init_281 : decode cX12_init 281 = .ok (.newarray .int, 2) := by decide +kernel
theorem dX12_init_283 : decode cX12_init 283 = .ok (.putfield 114, 3) := by decide +kernel
theorem dX12_init_286 : decode cX12_init 286 = .ok (.aload_n 0, 1) := by decide +kernel
theorem dX12_init_287 : decode cX12_init 287 = .ok (.bipush 120, 2) := by decide +kernel
theorem dX12_init_289 : decode cX12_init 289 = .ok (.newarray .int, 2) := by decide +kernel
theorem dX12_init_291 : decode cX12_init 291 = .ok (.putfield 117, 3) := by decide +kernel
theorem dX12_init_294 : decode cX12_init 294 = .ok (.aload_n 0, 1) := by decide +kernel
theorem dX12_init_295 : decode cX12_init 295 = .ok (.bipush 120, 2) := by decide +kernel
theorem dX12_init_297 : decode cX12_init 297 = .ok (.newarray .int, 2) := by decide +kernel
theorem dX12_init_299 : decode cX12_init 299 = .ok (.putfield 120, 3) := by decide +kernel
theorem dX12_init_302 : decode cX12_init 302 = .ok (.aload_n 0, 1) := by decide +kernel
theorem dX12_init_303 : decode cX12_init 303 = .ok (.sipush 2400, 3) := by decide +kernel
theorem dX12_init_306 : decode cX12_init 306 = .ok (.newarray .int, 2) := by decide +kernel
theorem dX12_init_308 : decode cX12_init 308 = .ok (.putfield 123, 3) := by decide +kernel
theorem dX12_init_311 : decode cX12_init 311 = .ok (.aload_n 0, 1) := by decide +kernel
theorem dX12_init_312 : decode cX12_init 312 = .ok (.bipush 12, 2) := by decide +kernel
theorem dX12_init_314 : decode cX12_init 314 = .ok (.newarray .int, 2) := by decide +kernel
theorem dX12_init_316 : decode cX12_init 316 = .ok (.putfield 126, 3) := by decide +kernel
theorem dX12_init_319 : decode cX12_init 319 = .ok (.aload_n 0, 1) := by decide +kernel
theorem dX12_init_320 : decode cX12_init 320 = .ok (.bipush 24, 2) := by decide +kernel
theorem dX12_init_322 : decode cX12_init 322 = .ok (.newarray .int, 2) := by decide +kernel
theorem dX12_init_324 : decode cX12_init 324 = .ok (.putfield 129, 3) := by decide +kernel
theorem dX12_init_327 : decode cX12_init 327 = .ok (.aload_n 0, 1) := by decide +kernel
theorem dX12_init_328 : decode cX12_init 328 = .ok (.bipush 24, 2) := by decide +kernel
theorem dX12_init_330 : decode cX12_init 330 = .ok (.newarray .int, 2) := by decide +kernel
theorem dX12_init_332 : decode cX12_init 332 = .ok (.putfield 132, 3) := by decide +kernel
theorem dX12_init_335 : decode cX12_init 335 = .ok (.aload_n 0, 1) := by decide +kernel
theorem dX12_init_336 : decode cX12_init 336 = .ok (.bipush 12, 2) := by decide +kernel
theorem dX12_init_338 : decode cX12_init 338 = .ok (.newarray .int, 2) := by decide +kernel
theorem dX12_init_340 : decode cX12_init 340 = .ok (.putfield 135, 3) := by decide +kernel
theorem dX12_init_343 : decode cX12_init 343 = .ok (.aload_n 0, 1) := by decide +kernel
theorem dX12_init_344 : decode cX12_init 344 = .ok (.bipush 12, 2) := by decide +kernel
theorem dX12_init_346 : decode cX12_init 346 = .ok (.newarray .int, 2) := by decide +kernel
theorem dX12_init_348 : decode cX12_init 348 = .ok (.putfield 138, 3) := by decide +kernel
theorem dX12_init_351 : decode cX12_init 351 = .ok (.aload_n 0, 1) := by decide +kernel
theorem dX12_init_352 : decode cX12_init 352 = .ok (.bipush 12, 2) := by decide +kernel
theorem dX12_init_354 : decode cX12_init 354 = .ok (.newarray .int, 2) := by decide +kernel
theorem dX12_init_356 : decode cX12_init 356 = .ok (.putfield 141, 3) := by decide +kernel
theorem dX12_init_359 : decode cX12_init 359 = .ok (.aload_n 0, 1) := by decide +kernel
theorem dX12_init_360 : decode cX12_init 360 = .ok (.bipush 12, 2) := by decide +kernel
theorem dX12_init_362 : decode cX12_init 362 = .ok (.newarray .int, 2) := by decide +kernel
theorem dX12_init_364 : decode cX12_init 364 = .ok (.putfield 144, 3) := by decide +kernel
theorem dX12_init_367 : decode cX12_init 367 = .ok (.aload_n 0, 1) := by decide +kernel
theorem dX12_init_368 : decode cX12_init 368 = .ok (.iconst 4, 1) := by decide +kernel
theorem dX12_init_369 : decode cX12_init 369 = .ok (.newarray .boolean, 2) := by decide +kernel
theorem dX12_init_371 : decode cX12_init 371 = .ok (.putfield 147, 3) := by decide +kernel
theorem dX12_init_374 : decode cX12_init 374 = .ok (.aload_n 0, 1) := by decide +kernel
theorem dX12_init_375 : decode cX12_init 375 = .ok (.iconst 4, 1) := by decide +kernel
theorem dX12_init_376 : decode cX12_init 376 = .ok (.newarray .int, 2) := by decide +kernel
theorem dX12_init_378 : decode cX12_init 378 = .ok (.putfield 150, 3) := by decide +kernel
theorem dX12_init_381 : decode cX12_init 381 = .ok (.iconst 0, 1) := by decide +kernel
theorem dX12_init_382 : decode cX12_init 382 = .ok (.istore_n 1, 1) := by decide +kernel
theorem dX12_init_383 : decode cX12_init 383 = .ok (.iload_n 1, 1) := by decide +kernel
theorem dX12_init_384 : decode cX12_init 384 = .ok (.bipush 11, 2) := by decide +kernel
theorem dX12_init_386 : decode cX12_init 386 = .ok (.if_icmp .ge 19, 3) := by decide +kernel
theorem dX12_init_389 : decode cX12_init 389 = .ok (.aload_n 0, 1) := by decide +kernel
theorem dX12_init_390 : decode cX12_init 390 = .ok (.getfield 56, 3) := by decide +kernel
theorem dX12_init_393 : decode cX12_init 393 = .ok (.iload_n 1, 1) := by decide +kernel
theorem dX12_init_394 : decode cX12_init 394 = .ok (.iload_n 1, 1) := by decide +kernel
theorem dX12_init_395 : decode cX12_init 395 = .ok (.invokestatic 153, 3) := by decide +kernel
theorem dX12_init_398 : decode cX12_init 398 = .ok (.iastore, 1) := by decide +kernel
theorem dX12_init_399 : decode cX12_init 399 = .ok (.iinc 1 1, 3) := by decide +kernel
theorem dX12_init_402 : decode cX12_init 402 = .ok (.goto (-19), 3) := by decide +kernel
theorem dX12_init_405 : decode cX12_init 405 = .ok (.return_, 1) := by decide +kernel
theorem dX12_thrown_0 : decode cX12_thrown 0 = .ok (.aload_n 0, 1) := by decide +kernel
theorem dX12_thrown_1 : decode cX12_thrown 1 = .ok (.getfield 157, 3) := by decide +kernel
theorem dX12_thrown_4 : decode cX12_thrown 4 = .ok (.ireturn, 1) := by decide +kernel
theorem dX12_isFrom_0 : decode cX12_isFrom 0 = .ok (.iload_n 0, 1) := by decide +kernel
theorem dX12_isFrom_1 : decode cX12_isFrom 1 = .ok (.iload_n 1, 1) := by decide +kernel
theorem dX12_isFrom_2 : decode cX12_isFrom 2 = .ok (.if_icmp .lt 12, 3) := by decide +kernel
theorem dX12_isFrom_5 : decode cX12_isFrom 5 = .ok (.iload_n 0, 1) := by decide +kernel
theorem dX12_isFrom_6 : decode cX12_isFrom 6 = .ok (.iload_n 2, 1) := by decide +kernel
theorem dX12_isFrom_7 : decode cX12_isFrom 7 = .ok (.if_icmp .gt 7, 3) := by decide +kernel
theorem dX12_isFrom_10 : decode cX12_isFrom 10 = .ok (.iconst 1, 1) := by decide +kernel
theorem dX12_isFrom_11 : decode cX12_isFrom 11 = .ok (.goto 4, 3) := by decide +kernel
theorem dX12_isFrom_14 : decode cX12_isFrom 14 = .ok (.iconst 0, 1) := by decide +kernel
theorem dX12_isFrom_15 : decode cX12_isFrom 15 = .ok (.ireturn, 1) := by decide +kernel
theorem dX12_away_0 : decode cX12_away 0 = .ok (.iload_n 0, 1) := by decide +kernel
theorem dX12_away_1 : decode cX12_away 1 = .ok (.iload_n 1, 1) := by decide +kernel
theorem dX12_away_2 : decode cX12_away 2 = .ok (.if_icmp .ge 9, 3) := by decide +kernel
theorem dX12_away_5 : decode cX12_away 5 = .ok (.iload_n 1, 1) := by decide +kernel
theorem dX12_away_6 : decode cX12_away 6 = .ok (.iload_n 0, 1) := by decide +kernel
theorem dX12_away_7 : decode cX12_away 7 = .ok (.isub, 1) := by decide +kernel
theorem dX12_away_8 : decode cX12_away 8 = .ok (.goto 6, 3) := by decide +kernel
theorem dX12_away_11 : decode cX12_away 11 = .ok (.iload_n 0, 1) := by decide +kernel
theorem dX12_away_12 : decode cX12_away 12 = .ok (.iload_n 1, 1) := by decide +kernel
theorem dX12_away_13 : decode cX12_away 13 = .ok (.isub, 1) := by decide +kernel
theorem dX12_away_14 : decode cX12_away 14 = .ok (.ireturn, 1) := by decide +kernel
theorem dX12_feed_0 : decode cX12_feed 0 = .ok (.aload_n 0, 1) := by decide +kernel
theorem dX12_feed_1 : decode cX12_feed 1 = .ok (.iconst 0, 1) := by decide +kernel
theorem dX12_feed_2 : decode cX12_feed 2 = .ok (.putfield 157, 3) := by decide +kernel
theorem dX12_feed_5 : decode cX12_feed 5 = .ok (.iconst 0, 1) := by decide +kernel
theorem dX12_feed_6 : decode cX12_feed 6 = .ok (.istore 7, 2) := by decide +kernel
theorem dX12_feed_8 : decode cX12_feed 8 = .ok (.iload 7, 2) := by decide +kernel
theorem dX12_feed_10 : decode cX12_feed 10 = .ok (.bipush 24, 2) := by decide +kernel
theorem dX12_feed_12 : decode cX12_feed 12 = .ok (.if_icmp .ge 108, 3) := by decide +kernel
theorem dX12_feed_15 : decode cX12_feed 15 = .ok (.iload 7, 2) := by decide +kernel
theorem dX12_feed_17 : decode cX12_feed 17 = .ok (.bipush 8, 2) := by decide +kernel
theorem dX12_feed_19 : decode cX12_feed 19 = .ok (.if_icmp .ge 7, 3) := by decide +kernel
theorem dX12_feed_22 : decode cX12_feed 22 = .ok (.lload_n 1, 1) := by decide +kernel
theorem dX12_feed_23 : decode cX12_feed 23 = .ok (.goto 16, 3) := by decide +kernel
theorem dX12_feed_26 : decode cX12_feed 26 = .ok (.iload 7, 2) := by decide +kernel
theorem dX12_feed_28 : decode cX12_feed 28 = .ok (.bipush 16, 2) := by decide +kernel
theorem dX12_feed_30 : decode cX12_feed 30 = .ok (.if_icmp .ge 7, 3) := by decide +kernel
theorem dX12_feed_33 : decode cX12_feed 33 = .ok (.lload_n 3, 1) := by decide +kernel
theorem dX12_feed_34 : decode cX12_feed 34 = .ok (.goto 5, 3) := by decide +kernel
theorem dX12_feed_37 : decode cX12_feed 37 = .ok (.lload 5, 2) := by decide +kernel
theorem dX12_feed_39 : decode cX12_feed 39 = .ok (.lstore 8, 2) := by decide +kernel
theorem dX12_feed_41 : decode cX12_feed 41 = .ok (.lload 8, 2) := by decide +kernel
theorem dX12_feed_43 : decode cX12_feed 43 = .ok (.bipush 56, 2) := by decide +kernel
theorem dX12_feed_45 : decode cX12_feed 45 = .ok (.bipush 8, 2) := by decide +kernel
theorem dX12_feed_47 : decode cX12_feed 47 = .ok (.iload 7, 2) := by decide +kernel
theorem dX12_feed_49 : decode cX12_feed 49 = .ok (.bipush 7, 2) := by decide +kernel
theorem dX12_feed_51 : decode cX12_feed 51 = .ok (.iand, 1) := by decide +kernel
theorem dX12_feed_52 : decode cX12_feed 52 = .ok (.imul, 1) := by decide +kernel
theorem dX12_feed_53 : decode cX12_feed 53 = .ok (.isub, 1) := by decide +kernel
theorem dX12_feed_54 : decode cX12_feed 54 = .ok (.lushr, 1) := by decide +kernel
theorem dX12_feed_55 : decode cX12_feed 55 = .ok (.ldc2_w 161, 3) := by decide +kernel
theorem dX12_feed_58 : decode cX12_feed 58 = .ok (.land, 1) := by decide +kernel
theorem dX12_feed_59 : decode cX12_feed 59 = .ok (.l2i, 1) := by decide +kernel
theorem dX12_feed_60 : decode cX12_feed 60 = .ok (.istore 10, 2) := by decide +kernel
theorem dX12_feed_62 : decode cX12_feed 62 = .ok (.aload_n 0, 1) := by decide +kernel
theorem dX12_feed_63 : decode cX12_feed 63 = .ok (.getfield 163, 3) := by decide +kernel
theorem dX12_feed_66 : decode cX12_feed 66 = .ok (.sipush 1000, 3) := by decide +kernel
theorem dX12_feed_69 : decode cX12_feed 69 = .ok (.if_icmp .ge 45, 3) := by decide +kernel
theorem dX12_feed_72 : decode cX12_feed 72 = .ok (.iload 10, 2) := by decide +kernel
theorem dX12_feed_74 : decode cX12_feed 74 = .ok (.bipush 10, 2) := by decide +kernel
theorem dX12_feed_76 : decode cX12_feed 76 = .ok (.if_icmp .eq 17, 3) := by decide +kernel
theorem dX12_feed_79 : decode cX12_feed 79 = .ok (.iload 10, 2) := by decide +kernel
theorem dX12_feed_81 : decode cX12_feed 81 = .ok (.bipush 32, 2) := by decide +kernel
theorem dX12_feed_83 : decode cX12_feed 83 = .ok (.if_icmp .lt 31, 3) := by decide +kernel
theorem dX12_feed_86 : decode cX12_feed 86 = .ok (.iload 10, 2) := by decide +kernel
theorem dX12_feed_88 : decode cX12_feed 88 = .ok (.bipush 126, 2) := by decide +kernel
theorem dX12_feed_90 : decode cX12_feed 90 = .ok (.if_icmp .gt 24, 3) := by decide +kernel
theorem dX12_feed_93 : decode cX12_feed 93 = .ok (.aload_n 0, 1) := by decide +kernel
theorem dX12_feed_94 : decode cX12_feed 94 = .ok (.getfield 7, 3) := by decide +kernel
theorem dX12_feed_97 : decode cX12_feed 97 = .ok (.aload_n 0, 1) := by decide +kernel
theorem dX12_feed_98 : decode cX12_feed 98 = .ok (.getfield 163, 3) := by decide +kernel
theorem dX12_feed_101 : decode cX12_feed 101 = .ok (.iload 10, 2) := by decide +kernel
theorem dX12_feed_103 : decode cX12_feed 103 = .ok (.iastore, 1) := by decide +kernel
theorem dX12_feed_104 : decode cX12_feed 104 = .ok (.aload_n 0, 1) := by decide +kernel
theorem dX12_feed_105 : decode cX12_feed 105 = .ok (.dup, 1) := by decide +kernel
theorem dX12_feed_106 : decode cX12_feed 106 = .ok (.getfield 163, 3) := by decide +kernel
theorem dX12_feed_109 : decode cX12_feed 109 = .ok (.iconst 1, 1) := by decide +kernel
theorem dX12_feed_110 : decode cX12_feed 110 = .ok (.iadd, 1) := by decide +kernel
theorem dX12_feed_111 : decode cX12_feed 111 = .ok (.putfield 163, 3) := by decide +kernel
theorem dX12_feed_114 : decode cX12_feed 114 = .ok (.iinc 7 1, 3) := by decide +kernel
theorem dX12_feed_117 : decode cX12_feed 117 = .ok (.goto (-109), 3) := by decide +kernel
theorem dX12_feed_120 : decode cX12_feed 120 = .ok (.aload_n 0, 1) := by decide +kernel
theorem dX12_feed_121 : decode cX12_feed 121 = .ok (.getfield 163, 3) := by decide +kernel
theorem dX12_feed_124 : decode cX12_feed 124 = .ok (.ireturn, 1) := by decide +kernel
theorem dX12_signAt_0 : decode cX12_signAt 0 = .ok (.iload_n 1, 1) := by decide +kernel
theorem dX12_signAt_1 : decode cX12_signAt 1 = .ok (.aload_n 0, 1) := by decide +kernel
theorem dX12_signAt_2 : decode cX12_signAt 2 = .ok (.getfield 166, 3) := by decide +kernel
theorem dX12_signAt_5 : decode cX12_signAt 5 = .ok (.if_icmp .ge 12, 3) := by decide +kernel
theorem dX12_signAt_8 : decode cX12_signAt 8 = .ok (.aload_n 0, 1) := by decide +kernel
theorem dX12_signAt_9 : decode cX12_signAt 9 = .ok (.getfield 7, 3) := by decide +kernel
theorem dX12_signAt_12 : decode cX12_signAt 12 = .ok (.iload_n 1, 1) := by decide +kernel
theorem dX12_signAt_13 : decode cX12_signAt 13 = .ok (.iaload, 1) := by decide +kernel
theorem dX12_signAt_14 : decode cX12_signAt 14 = .ok (.goto 4, 3) := by decide +kernel
theorem dX12_signAt_17 : decode cX12_signAt 17 = .ok (.iconst 0, 1) := by decide +kernel
theorem dX12_signAt_18 : decode cX12_signAt 18 = .ok (.ireturn, 1) := by decide +kernel
theorem dX12_nextToken_0 : decode cX12_nextToken 0 = .ok (.aload_n 0, 1) := by decide +kernel
theorem dX12_nextToken_1 : decode cX12_nextToken 1 = .ok (.getfield 169, 3) := by decide +kernel
theorem dX12_nextToken_4 : decode cX12_nextToken 4 = .ok (.aload_n 0, 1) := by decide +kernel
theorem dX12_nextToken_5 : decode cX12_nextToken 5 = .ok (.getfield 166, 3) := by decide +kernel
theorem dX12_nextToken_8 : decode cX12_nextToken 8 = .ok (.if_icmp .ge 44, 3) := by decide +kernel
theorem dX12_nextToken_11 : decode cX12_nextToken 11 = .ok (.aload_n 0, 1) := by decide +kernel
theorem dX12_nextToken_12 : decode cX12_nextToken 12 = .ok (.getfield 7, 3) := by decide +kernel
theorem dX12_nextToken_15 : decode cX12_nextToken 15 = .ok (.aload_n 0, 1) := by decide +kernel
theorem dX12_nextToken_16 : decode cX12_nextToken 16 = .ok (.getfield 169, 3) := by decide +kernel
theorem dX12_nextToken_19 : decode cX12_nextToken 19 = .ok (.iaload, 1) := by decide +kernel
theorem dX12_nextToken_20 : decode cX12_nextToken 20 = .ok (.bipush 32, 2) := by decide +kernel
theorem dX12_nextToken_22 : decode cX12_nextToken 22 = .ok (.if_icmp .eq 17, 3) := by decide +kernel
theorem dX12_nextToken_25 : decode cX12_nextToken 25 = .ok (.aload_n 0, 1) := by decide +kernel
theorem dX12_nextToken_26 : decode cX12_nextToken 26 = .ok (.getfield 7, 3) := by decide +kernel
theorem dX12_nextToken_29 : decode cX12_nextToken 29 = .ok (.aload_n 0, 1) := by decide +kernel
theorem dX12_nextToken_30 : decode cX12_nextToken 30 = .ok (.getfield 169, 3) := by decide +kernel
theorem dX12_nextToken_33 : decode cX12_nextToken 33 = .ok (.iaload, 1) := by decide +kernel
theorem dX12_nextToken_34 : decode cX12_nextToken 34 = .ok (.bipush 10, 2) := by decide +kernel
theorem dX12_nextToken_36 : decode cX12_nextToken 36 = .ok (.if_icmp .ne 16, 3) := by decide +kernel
theorem dX12_nextToken_39 : decode cX12_nextToken 39 = .ok (.aload_n 0, 1) := by decide +kernel
theorem dX12_nextToken_40 : decode cX12_nextToken 40 = .ok (.dup, 1) := by decide +kernel
theorem dX12_nextToken_41 : decode cX12_nextToken 41 = .ok (.getfield 169, 3) := by decide +kernel
theorem dX12_nextToken_44 : decode cX12_nextToken 44 = .ok (.iconst 1, 1) := by decide +kernel
theorem dX12_nextToken_45 : decode cX12_nextToken 45 = .ok (.iadd, 1) := by decide +kernel
theorem dX12_nextToken_46 : decode cX12_nextToken 46 = .ok (.putfield 169, 3) := by decide +kernel
theorem dX12_nextToken_49 : decode cX12_nextToken 49 = .ok (.goto (-49), 3) := by decide +kernel
theorem dX12_nextToken_52 : decode cX12_nextToken 52 = .ok (.aload_n 0, 1) := by decide +kernel
theorem dX12_nextToken_53 : decode cX12_nextToken 53 = .ok (.aload_n 0, 1) := by decide +kernel
theorem dX12_nextToken_54 : decode cX12_nextToken 54 = .ok (.getfield 169, 3) := by decide +kernel
theorem dX12_nextToken_57 : decode cX12_nextToken 57 = .ok (.putfield 172, 3) := by decide +kernel
theorem dX12_nextToken_60 : decode cX12_nextToken 60 = .ok (.aload_n 0, 1) := by decide +kernel
theorem dX12_nextToken_61 : decode cX12_nextToken 61 = .ok (.lconst 0, 1) := by decide +kernel
theorem dX12_nextToken_62 : decode cX12_nextToken 62 = .ok (.putfield 175, 3) := by decide +kernel
theorem dX12_nextToken_65 : decode cX12_nextToken 65 = .ok (.aload_n 0, 1) := by decide +kernel
theorem dX12_nextToken_66 : decode cX12_nextToken 66 = .ok (.iconst 0, 1) := by decide +kernel
theorem dX12_nextToken_67 : decode cX12_nextToken 67 = .ok (.putfield 179, 3) := by decide +kernel
theorem dX12_nextToken_70 : decode cX12_nextToken 70 = .ok (.aload_n 0, 1) := by decide +kernel
theorem dX12_nextToken_71 : decode cX12_nextToken 71 = .ok (.getfield 169, 3) := by decide +kernel
theorem dX12_nextToken_74 : decode cX12_nextToken 74 = .ok (.aload_n 0, 1) := by decide +kernel
theorem dX12_nextToken_75 : decode cX12_nextToken 75 = .ok (.getfield 166, 3) := by decide +kernel
theorem dX12_nextToken_78 : decode cX12_nextToken 78 = .ok (.if_icmp .ne 9, 3) := by decide +kernel
theorem dX12_nextToken_81 : decode cX12_nextToken 81 = .ok (.aload_n 0, 1) := by decide +kernel
theorem dX12_nextToken_82 : decode cX12_nextToken 82 = .ok (.iconst 0, 1) := by decide +kernel
theorem dX12_nextToken_83 : decode cX12_nextToken 83 = .ok (.putfield 182, 3) := by decide +kernel
theorem dX12_nextToken_86 : decode cX12_nextToken 86 = .ok (.return_, 1) := by decide +kernel
theorem dX12_nextToken_87 : decode cX12_nextToken 87 = .ok (.aload_n 0, 1) := by decide +kernel
theorem dX12_nextToken_88 : decode cX12_nextToken 88 = .ok (.getfield 7, 3) := by decide +kernel
theorem dX12_nextToken_91 : decode cX12_nextToken 91 = .ok (.aload_n 0, 1) := by decide +kernel
theorem dX12_nextToken_92 : decode cX12_nextToken 92 = .ok (.getfield 169, 3) := by decide +kernel
theorem dX12_nextToken_95 : decode cX12_nextToken 95 = .ok (.iaload, 1) := by decide +kernel
theorem dX12_nextToken_96 : decode cX12_nextToken 96 = .ok (.istore_n 1, 1) := by decide +kernel
theorem dX12_nextToken_97 : decode cX12_nextToken 97 = .ok (.iload_n 1, 1) := by decide +kernel
theorem dX12_nextToken_98 : decode cX12_nextToken 98 = .ok (.bipush 97, 2) := by decide +kernel
theorem dX12_nextToken_100 : decode cX12_nextToken 100 = .ok (.if_icmp .lt 112, 3) := by decide +kernel
theorem dX12_nextToken_103 : decode cX12_nextToken 103 = .ok (.iload_n 1, 1) := by decide +kernel
theorem dX12_nextToken_104 : decode cX12_nextToken 104 = .ok (.bipush 122, 2) := by decide +kernel
theorem dX12_nextToken_106 : decode cX12_nextToken 106 = .ok (.if_icmp .gt 106, 3) := by decide +kernel
theorem dX12_nextToken_109 : decode cX12_nextToken 109 = .ok (.aload_n 0, 1) := by decide +kernel
theorem dX12_nextToken_110 : decode cX12_nextToken 110 = .ok (.aload_n 0, 1) := by decide +kernel
theorem dX12_nextToken_111 : decode cX12_nextToken 111 = .ok (.getfield 169, 3) := by decide +kernel
theorem dX12_nextToken_114 : decode cX12_nextToken 114 = .ok (.invokevirtual 185, 3) := by decide +kernel
theorem dX12_nextToken_117 : decode cX12_nextToken 117 = .ok (.bipush 97, 2) := by decide +kernel
theorem dX12_nextToken_119 : decode cX12_nextToken 119 = .ok (.if_icmp .lt 69, 3) := by decide +kernel
theorem dX12_nextToken_122 : decode cX12_nextToken 122 = .ok (.aload_n 0, 1) := by decide +kernel
theorem dX12_nextToken_123 : decode cX12_nextToken 123 = .ok (.aload_n 0, 1) := by decide +kernel
theorem dX12_nextToken_124 : decode cX12_nextToken 124 = .ok (.getfield 169, 3) := by decide +kernel
theorem dX12_nextToken_127 : decode cX12_nextToken 127 = .ok (.invokevirtual 185, 3) := by decide +kernel
theorem dX12_nextToken_130 : decode cX12_nextToken 130 = .ok (.bipush 122, 2) := by decide +kernel
theorem dX12_nextToken_132 : decode cX12_nextToken 132 = .ok (.if_icmp .gt 56, 3) := by decide +kernel
theorem dX12_nextToken_135 : decode cX12_nextToken 135 = .ok (.aload_n 0, 1) := by decide +kernel
theorem dX12_nextToken_136 : decode cX12_nextToken 136 = .ok (.getfield 169, 3) := by decide +kernel
theorem dX12_nextToken_139 : decode cX12_nextToken 139 = .ok (.aload_n 0, 1) := by decide +kernel
theorem dX12_nextToken_140 : decode cX12_nextToken 140 = .ok (.getfield 172, 3) := by decide +kernel
theorem dX12_nextToken_143 : decode cX12_nextToken 143 = .ok (.isub, 1) := by decide +kernel
theorem dX12_nextToken_144 : decode cX12_nextToken 144 = .ok (.bipush 8, 2) := by decide +kernel
theorem dX12_nextToken_146 : decode cX12_nextToken 146 = .ok (.if_icmp .ge 29, 3) := by decide +kernel
theorem dX12_nextToken_149 : decode cX12_nextToken 149 = .ok (.aload_n 0, 1) := by decide +kernel
theorem dX12_nextToken_150 : decode cX12_nextToken 150 = .ok (.aload_n 0, 1) := by decide +kernel
theorem dX12_nextToken_151 : decode cX12_nextToken 151 = .ok (.getfield 175, 3) := by decide +kernel
theorem dX12_nextToken_154 : decode cX12_nextToken 154 = .ok (.ldc2_w 188, 3) := by decide +kernel
theorem dX12_nextToken_157 : decode cX12_nextToken 157 = .ok (.lmul, 1) := by decide +kernel
theorem dX12_nextToken_158 : decode cX12_nextToken 158 = .ok (.aload_n 0, 1) := by decide +kernel
theorem dX12_nextToken_159 : decode cX12_nextToken 159 = .ok (.aload_n 0, 1) := by decide +kernel
theorem dX12_nextToken_160 : decode cX12_nextToken 160 = .ok (.getfield 169, 3) := by decide +kernel
theorem dX12_nextToken_163 : decode cX12_nextToken 163 = .ok (.invokevirtual 185, 3) := by decide +kernel
theorem dX12_nextToken_166 : decode cX12_nextToken 166 = .ok (.i2l, 1) := by decide +kernel
theorem dX12_nextToken_167 : decode cX12_nextToken 167 = .ok (.ladd, 1) := by decide +kernel
theorem dX12_nextToken_168 : decode cX12_nextToken 168 = .ok (.ldc2_w 190, 3) := by decide +kernel
theorem dX12_nextToken_171 : decode cX12_nextToken 171 = .ok (.lsub, 1) := by decide +kernel
theorem dX12_nextToken_172 : decode cX12_nextToken 172 = .ok (.putfield 175, 3) := by decide +kernel
theorem dX12_nextToken_175 : decode cX12_nextToken 175 = .ok (.aload_n 0, 1) := by decide +kernel
theorem dX12_nextToken_176 : decode cX12_nextToken 176 = .ok (.dup, 1) := by decide +kernel
theorem dX12_nextToken_177 : decode cX12_nextToken 177 = .ok (.getfield 169, 3) := by decide +kernel
theorem dX12_nextToken_180 : decode cX12_nextToken 180 = .ok (.iconst 1, 1) := by decide +kernel
theorem dX12_nextToken_181 : decode cX12_nextToken 181 = .ok (.iadd, 1) := by decide +kernel
theorem dX12_nextToken_182 : decode cX12_nextToken 182 = .ok (.putfield 169, 3) := by decide +kernel
theorem dX12_nextToken_185 : decode cX12_nextToken 185 = .ok (.goto (-76), 3) := by decide +kernel
theorem dX12_nextToken_188 : decode cX12_nextToken 188 = .ok (.aload_n 0, 1) := by decide +kernel
theorem dX12_nextToken_189 : decode cX12_nextToken 189 = .ok (.aload_n 0, 1) := by decide +kernel
theorem dX12_nextToken_190 : decode cX12_nextToken 190 = .ok (.getfield 169, 3) := by decide +kernel
theorem dX12_nextToken_193 : decode cX12_nextToken 193 = .ok (.aload_n 0, 1) := by decide +kernel
theorem dX12_nextToken_194 : decode cX12_nextToken 194 = .ok (.getfield 172, 3) := by decide +kernel
theorem dX12_nextToken_197 : decode cX12_nextToken 197 = .ok (.isub, 1) := by decide +kernel
theorem dX12_nextToken_198 : decode cX12_nextToken 198 = .ok (.bipush 8, 2) := by decide +kernel
theorem dX12_nextToken_200 : decode cX12_nextToken 200 = .ok (.if_icmp .le 7, 3) := by decide +kernel
theorem dX12_nextToken_203 : decode cX12_nextToken 203 = .ok (.iconst 4, 1) := by decide +kernel
theorem dX12_nextToken_204 : decode cX12_nextToken 204 = .ok (.goto 4, 3) := by decide +kernel
theorem dX12_nextToken_207 : decode cX12_nextToken 207 = .ok (.iconst 1, 1) := by decide +kernel
theorem dX12_nextToken_208 : decode cX12_nextToken 208 = .ok (.putfield 182, 3) := by decide +kernel
theorem dX12_nextToken_211 : decode cX12_nextToken 211 = .ok (.return_, 1) := by decide +kernel
theorem dX12_nextToken_212 : decode cX12_nextToken 212 = .ok (.iload_n 1, 1) := by decide +kernel
theorem dX12_nextToken_213 : decode cX12_nextToken 213 = .ok (.bipush 48, 2) := by decide +kernel
theorem dX12_nextToken_215 : decode cX12_nextToken 215 = .ok (.if_icmp .lt 107, 3) := by decide +kernel
theorem dX12_nextToken_218 : decode cX12_nextToken 218 = .ok (.iload_n 1, 1) := by decide +kernel
theorem dX12_nextToken_219 : decode cX12_nextToken 219 = .ok (.bipush 57, 2) := by decide +kernel
theorem dX12_nextToken_221 : decode cX12_nextToken 221 = .ok (.if_icmp .gt 101, 3) := by decide +kernel
theorem dX12_nextToken_224 : decode cX12_nextToken 224 = .ok (.aload_n 0, 1) := by decide +kernel
theorem dX12_nextToken_225 : decode cX12_nextToken 225 = .ok (.aload_n 0, 1) := by decide +kernel
theorem dX12_nextToken_226 : decode cX12_nextToken 226 = .ok (.getfield 169, 3) := by decide +kernel
theorem dX12_nextToken_229 : decode cX12_nextToken 229 = .ok (.invokevirtual 185, 3) := by decide +kernel
theorem dX12_nextToken_232 : decode cX12_nextToken 232 = .ok (.bipush 48, 2) := by decide +kernel
theorem dX12_nextToken_234 : decode cX12_nextToken 234 = .ok (.if_icmp .lt 65, 3) := by decide +kernel
theorem dX12_nextToken_237 : decode cX12_nextToken 237 = .ok (.aload_n 0, 1) := by decide +kernel
theorem dX12_nextToken_238 : decode cX12_nextToken 238 = .ok (.aload_n 0, 1) := by decide +kernel
theorem dX12_nextToken_239 : decode cX12_nextToken 239 = .ok (.getfield 169, 3) := by decide +kernel
theorem dX12_nextToken_242 : decode cX12_nextToken 242 = .ok (.invokevirtual 185, 3) := by decide +kernel
theorem dX12_nextToken_245 : decode cX12_nextToken 245 = .ok (.bipush 57, 2) := by decide +kernel
theorem dX12_nextToken_247 : decode cX12_nextToken 247 = .ok (.if_icmp .gt 52, 3) := by decide +kernel
theorem dX12_nextToken_250 : decode cX12_nextToken 250 = .ok (.aload_n 0, 1) := by decide +kernel
theorem dX12_nextToken_251 : decode cX12_nextToken 251 = .ok (.getfield 169, 3) := by decide +kernel
theorem dX12_nextToken_254 : decode cX12_nextToken 254 = .ok (.aload_n 0, 1) := by decide +kernel
theorem dX12_nextToken_255 : decode cX12_nextToken 255 = .ok (.getfield 172, 3) := by decide +kernel
theorem dX12_nextToken_258 : decode cX12_nextToken 258 = .ok (.isub, 1) := by decide +kernel
theorem dX12_nextToken_259 : decode cX12_nextToken 259 = .ok (.iconst 4, 1) := by decide +kernel
theorem dX12_nextToken_260 : decode cX12_nextToken 260 = .ok (.if_icmp .ge 26, 3) := by decide +kernel
theorem dX12_nextToken_263 : decode cX12_nextToken 263 = .ok (.aload_n 0, 1) := by decide +kernel
theorem dX12_nextToken_264 : decode cX12_nextToken 264 = .ok (.aload_n 0, 1) := by decide +kernel
theorem dX12_nextToken_265 : decode cX12_nextToken 265 = .ok (.getfield 179, 3) := by decide +kernel
theorem dX12_nextToken_268 : decode cX12_nextToken 268 = .ok (.bipush 10, 2) := by decide +kernel
theorem dX12_nextToken_270 : decode cX12_nextToken 270 = .ok (.imul, 1) := by decide +kernel
theorem dX12_nextToken_271 : decode cX12_nextToken 271 = .ok (.aload_n 0, 1) := by decide +kernel
theorem dX12_nextToken_272 : decode cX12_nextToken 272 = .ok (.aload_n 0, 1) := by decide +kernel
theorem dX12_nextToken_273 : decode cX12_nextToken 273 = .ok (.getfield 169, 3) := by decide +kernel
theorem dX12_nextToken_276 : decode cX12_nextToken 276 = .ok (.invokevirtual 185, 3) := by decide +kernel
theorem dX12_nextToken_279 : decode cX12_nextToken 279 = .ok (.iadd, 1) := by decide +kernel
theorem dX12_nextToken_280 : decode cX12_nextToken 280 = .ok (.bipush 48, 2) := by decide +kernel
theorem dX12_nextToken_282 : decode cX12_nextToken 282 = .ok (.isub, 1) := by decide +kernel
theorem dX12_nextToken_283 : decode cX12_nextToken 283 = .ok (.putfield 179, 3) := by decide +kernel
theorem dX12_nextToken_286 : decode cX12_nextToken 286 = .ok (.aload_n 0, 1) := by decide +kernel
theorem dX12_nextToken_287 : decode cX12_nextToken 287 = .ok (.dup, 1) := by decide +kernel
theorem dX12_nextToken_288 : decode cX12_nextToken 288 = .ok (.getfield 169, 3) := by decide +kernel
theorem dX12_nextToken_291 : decode cX12_nextToken 291 = .ok (.iconst 1, 1) := by decide +kernel
theorem dX12_nextToken_292 : decode cX12_nextToken 292 = .ok (.iadd, 1) := by decide +kernel
theorem dX12_nextToken_293 : decode cX12_nextToken 293 = .ok (.putfield 169, 3) := by decide +kernel
theorem dX12_nextToken_296 : decode cX12_nextToken 296 = .ok (.goto (-72), 3) := by decide +kernel
theorem dX12_nextToken_299 : decode cX12_nextToken 299 = .ok (.aload_n 0, 1) := by decide +kernel
theorem dX12_nextToken_300 : decode cX12_nextToken 300 = .ok (.aload_n 0, 1) := by decide +kernel
theorem dX12_nextToken_301 : decode cX12_nextToken 301 = .ok (.getfield 169, 3) := by decide +kernel
theorem dX12_nextToken_304 : decode cX12_nextToken 304 = .ok (.aload_n 0, 1) := by decide +kernel
theorem dX12_nextToken_305 : decode cX12_nextToken 305 = .ok (.getfield 172, 3) := by decide +kernel
theorem dX12_nextToken_308 : decode cX12_nextToken 308 = .ok (.isub, 1) := by decide +kernel
theorem dX12_nextToken_309 : decode cX12_nextToken 309 = .ok (.iconst 4, 1) := by decide +kernel
theorem dX12_nextToken_310 : decode cX12_nextToken 310 = .ok (.if_icmp .le 7, 3) := by decide +kernel
theorem dX12_nextToken_313 : decode cX12_nextToken 313 = .ok (.iconst 4, 1) := by decide +kernel
theorem dX12_nextToken_314 : decode cX12_nextToken 314 = .ok (.goto 4, 3) := by decide +kernel
theorem dX12_nextToken_317 : decode cX12_nextToken 317 = .ok (.iconst 2, 1) := by decide +kernel
theorem dX12_nextToken_318 : decode cX12_nextToken 318 = .ok (.putfield 182, 3) := by decide +kernel
theorem dX12_nextToken_321 : decode cX12_nextToken 321 = .ok (.return_, 1) := by decide +kernel
theorem dX12_nextToken_322 : decode cX12_nextToken 322 = .ok (.aload_n 0, 1) := by decide +kernel
theorem dX12_nextToken_323 : decode cX12_nextToken 323 = .ok (.dup, 1) := by decide +kernel
theorem dX12_nextToken_324 : decode cX12_nextToken 324 = .ok (.getfield 169, 3) := by decide +kernel
theorem dX12_nextToken_327 : decode cX12_nextToken 327 = .ok (.iconst 1, 1) := by decide +kernel
theorem dX12_nextToken_328 : decode cX12_nextToken 328 = .ok (.iadd, 1) := by decide +kernel
theorem dX12_nextToken_329 : decode cX12_nextToken 329 = .ok (.putfield 169, 3) := by decide +kernel
theorem dX12_nextToken_332 : decode cX12_nextToken 332 = .ok (.aload_n 0, 1) := by decide +kernel
theorem dX12_nextToken_333 : decode cX12_nextToken 333 = .ok (.iload_n 1, 1) := by decide +kernel
theorem dX12_nextToken_334 : decode cX12_nextToken 334 = .ok (.bipush 40, 2) := by decide +kernel
theorem dX12_nextToken_336 : decode cX12_nextToken 336 = .ok (.if_icmp .lt 9, 3) := by decide +kernel
theorem dX12_nextToken_339 : decode cX12_nextToken 339 = .ok (.iload_n 1, 1) := by decide +kernel
theorem dX12_nextToken_340 : decode cX12_nextToken 340 = .ok (.bipush 43, 2) := by decide +kernel
theorem dX12_nextToken_342 : decode cX12_nextToken 342 = .ok (.if_icmp .le 21, 3) := by decide +kernel
theorem dX12_nextToken_345 : decode cX12_nextToken 345 = .ok (.iload_n 1, 1) := by decide +kernel
theorem dX12_nextToken_346 : decode cX12_nextToken 346 = .ok (.bipush 45, 2) := by decide +kernel
theorem dX12_nextToken_348 : decode cX12_nextToken 348 = .ok (.if_icmp .eq 15, 3) := by decide +kernel
theorem dX12_nextToken_351 : decode cX12_nextToken 351 = .ok (.iload_n 1, 1) := by decide +kernel
theorem dX12_nextToken_352 : decode cX12_nextToken 352 = .ok (.bipush 59, 2) := by decide +kernel
theorem dX12_nextToken_354 : decode cX12_nextToken 354 = .ok (.if_icmp .lt 13, 3) := by decide +kernel
theorem dX12_nextToken_357 : decode cX12_nextToken 357 = .ok (.iload_n 1, 1) := by decide +kernel
theorem dX12_nextToken_358 : decode cX12_nextToken 358 = .ok (.bipush 61, 2) := by decide +kernel
theorem dX12_nextToken_360 : decode cX12_nextToken 360 = .ok (.if_icmp .gt 7, 3) := by decide +kernel
theorem dX12_nextToken_363 : decode cX12_nextToken 363 = .ok (.iconst 3, 1) := by decide +kernel
theorem dX12_nextToken_364 : decode cX12_nextToken 364 = .ok (.goto 4, 3) := by decide +kernel
theorem dX12_nextToken_367 : decode cX12_nextToken 367 = .ok (.iconst 4, 1) := by decide +kernel
theorem dX12_nextToken_368 : decode cX12_nextToken 368 = .ok (.putfield 182, 3) := by decide +kernel
theorem dX12_nextToken_371 : decode cX12_nextToken 371 = .ok (.return_, 1) := by decide +kernel
theorem dX12_isWord_0 : decode cX12_isWord 0 = .ok (.aload_n 0, 1) := by decide +kernel
theorem dX12_isWord_1 : decode cX12_isWord 1 = .ok (.getfield 182, 3) := by decide +kernel
theorem dX12_isWord_4 : decode cX12_isWord 4 = .ok (.iconst 1, 1) := by decide +kernel
theorem dX12_isWord_5 : decode cX12_isWord 5 = .ok (.if_icmp .ne 16, 3) := by decide +kernel
theorem dX12_isWord_8 : decode cX12_isWord 8 = .ok (.aload_n 0, 1) := by decide +kernel
theorem dX12_isWord_9 : decode cX12_isWord 9 = .ok (.getfield 175, 3) := by decide +kernel
theorem dX12_isWord_12 : decode cX12_isWord 12 = .ok (.lload_n 1, 1) := by decide +kernel
theorem dX12_isWord_13 : decode cX12_isWord 13 = .ok (.lcmp, 1) := by decide +kernel
theorem dX12_isWord_14 : decode cX12_isWord 14 = .ok (.ifCond .ne 7, 3) := by decide +kernel
theorem dX12_isWord_17 : decode cX12_isWord 17 = .ok (.iconst 1, 1) := by decide +kernel
theorem dX12_isWord_18 : decode cX12_isWord 18 = .ok (.goto 4, 3) := by decide +kernel
theorem dX12_isWord_21 : decode cX12_isWord 21 = .ok (.iconst 0, 1) := by decide +kernel
theorem dX12_isWord_22 : decode cX12_isWord 22 = .ok (.ireturn, 1) := by decide +kernel
theorem dX12_isSign_0 : decode cX12_isSign 0 = .ok (.aload_n 0, 1) := by decide +kernel
theorem dX12_isSign_1 : decode cX12_isSign 1 = .ok (.getfield 182, 3) := by decide +kernel
theorem dX12_isSign_4 : decode cX12_isSign 4 = .ok (.iconst 3, 1) := by decide +kernel
theorem dX12_isSign_5 : decode cX12_isSign 5 = .ok (.if_icmp .ne 20, 3) := by decide +kernel
theorem dX12_isSign_8 : decode cX12_isSign 8 = .ok (.aload_n 0, 1) := by decide +kernel
theorem dX12_isSign_9 : decode cX12_isSign 9 = .ok (.getfield 7, 3) := by decide +kernel
theorem dX12_isSign_12 : decode cX12_isSign 12 = .ok (.aload_n 0, 1) := by decide +kernel
theorem dX12_isSign_13 : decode cX12_isSign 13 = .ok (.getfield 172, 3) := by decide +kernel
theorem dX12_isSign_16 : decode cX12_isSign 16 = .ok (.iaload, 1) := by decide +kernel
theorem dX12_isSign_17 : decode cX12_isSign 17 = .ok (.iload_n 1, 1) := by decide +kernel
theorem dX12_isSign_18 : decode cX12_isSign 18 = .ok (.if_icmp .ne 7, 3) := by decide +kernel
theorem dX12_isSign_21 : decode cX12_isSign 21 = .ok (.iconst 1, 1) := by decide +kernel
theorem dX12_isSign_22 : decode cX12_isSign 22 = .ok (.goto 4, 3) := by decide +kernel
theorem dX12_isSign_25 : decode cX12_isSign 25 = .ok (.iconst 0, 1) := by decide +kernel
theorem dX12_isSign_26 : decode cX12_isSign 26 = .ok (.ireturn, 1) := by decide +kernel
theorem dX12_fails_0 : decode cX12_fails 0 = .ok (.aload_n 0, 1) := by decide +kernel
theorem dX12_fails_1 : decode cX12_fails 1 = .ok (.iload_n 1, 1) := by decide +kernel
theorem dX12_fails_2 : decode cX12_fails 2 = .ok (.bipush 16, 2) := by decide +kernel
theorem dX12_fails_4 : decode cX12_fails 4 = .ok (.aload_n 0, 1) := by decide +kernel
theorem dX12_fails_5 : decode cX12_fails 5 = .ok (.getfield 172, 3) := by decide +kernel
theorem dX12_fails_8 : decode cX12_fails 8 = .ok (.imul, 1) := by decide +kernel
theorem dX12_fails_9 : decode cX12_fails 9 = .ok (.iadd, 1) := by decide +kernel
theorem dX12_fails_10 : decode cX12_fails 10 = .ok (.putfield 192, 3) := by decide +kernel
theorem dX12_fails_13 : decode cX12_fails 13 = .ok (.iconst 0, 1) := by decide +kernel
theorem dX12_fails_14 : decode cX12_fails 14 = .ok (.ireturn, 1) := by decide +kernel
theorem dX12_puts_0 : decode cX12_puts 0 = .ok (.aload_n 0, 1) := by decide +kernel
theorem dX12_puts_1 : decode cX12_puts 1 = .ok (.getfield 69, 3) := by decide +kernel
theorem dX12_puts_4 : decode cX12_puts 4 = .ok (.aload_n 0, 1) := by decide +kernel
theorem dX12_puts_5 : decode cX12_puts 5 = .ok (.getfield 195, 3) := by decide +kernel
theorem dX12_puts_8 : decode cX12_puts 8 = .ok (.iload_n 1, 1) := by decide +kernel
theorem dX12_puts_9 : decode cX12_puts 9 = .ok (.iastore, 1) := by decide +kernel
theorem dX12_puts_10 : decode cX12_puts 10 = .ok (.aload_n 0, 1) := by decide +kernel
theorem dX12_puts_11 : decode cX12_puts 11 = .ok (.dup, 1) := by decide +kernel
theorem dX12_puts_12 : decode cX12_puts 12 = .ok (.getfield 195, 3) := by decide +kernel
theorem dX12_puts_15 : decode cX12_puts 15 = .ok (.iconst 1, 1) := by decide +kernel
theorem dX12_puts_16 : decode cX12_puts 16 = .ok (.iadd, 1) := by decide +kernel
theorem dX12_puts_17 : decode cX12_puts 17 = .ok (.putfield 195, 3) := by decide +kernel
theorem dX12_puts_20 : decode cX12_puts 20 = .ok (.return_, 1) := by decide +kernel
theorem dX12_fact_0 : decode cX12_fact 0 = .ok (.aload_n 0, 1) := by decide +kernel
theorem dX12_fact_1 : decode cX12_fact 1 = .ok (.getfield 182, 3) := by decide +kernel
theorem dX12_fact_4 : decode cX12_fact 4 = .ok (.iconst 1, 1) := by decide +kernel
theorem dX12_fact_5 : decode cX12_fact 5 = .ok (.if_icmp .eq 5, 3) := by decide +kernel
theorem dX12_fact_8 : decode cX12_fact 8 = .ok (.iconst 0, 1) := by decide +kernel
theorem dX12_fact_9 : decode cX12_fact 9 = .ok (.ireturn, 1) := by decide +kernel
theorem dX12_fact_10 : decode cX12_fact 10 = .ok (.aload_n 0, 1) := by decide +kernel
theorem dX12_fact_11 : decode cX12_fact 11 = .ok (.getfield 175, 3) := by decide +kernel
theorem dX12_fact_14 : decode cX12_fact 14 = .ok (.ldc2_w 198, 3) := by decide +kernel
theorem dX12_fact_17 : decode cX12_fact 17 = .ok (.lcmp, 1) := by decide +kernel
theorem dX12_fact_18 : decode cX12_fact 18 = .ok (.ifCond .ne 5, 3) := by decide +kernel
theorem dX12_fact_21 : decode cX12_fact 21 = .ok (.iconst 1, 1) := by decide +kernel
theorem dX12_fact_22 : decode cX12_fact 22 = .ok (.ireturn, 1) := by decide +kernel
theorem dX12_fact_23 : decode cX12_fact 23 = .ok (.aload_n 0, 1) := by decide +kernel
theorem dX12_fact_24 : decode cX12_fact 24 = .ok (.getfield 175, 3) := by decide +kernel
theorem dX12_fact_27 : decode cX12_fact 27 = .ok (.ldc2_w 200, 3) := by decide +kernel
theorem dX12_fact_30 : decode cX12_fact 30 = .ok (.lcmp, 1) := by decide +kernel
theorem dX12_fact_31 : decode cX12_fact 31 = .ok (.ifCond .ne 5, 3) := by decide +kernel
theorem dX12_fact_34 : decode cX12_fact 34 = .ok (.iconst 2, 1) := by decide +kernel
theorem dX12_fact_35 : decode cX12_fact 35 = .ok (.ireturn, 1) := by decide +kernel
theorem dX12_fact_36 : decode cX12_fact 36 = .ok (.aload_n 0, 1) := by decide +kernel
theorem dX12_fact_37 : decode cX12_fact 37 = .ok (.getfield 175, 3) := by decide +kernel
theorem dX12_fact_40 : decode cX12_fact 40 = .ok (.ldc2_w 202, 3) := by decide +kernel
theorem dX12_fact_43 : decode cX12_fact 43 = .ok (.lcmp, 1) := by decide +kernel
theorem dX12_fact_44 : decode cX12_fact 44 = .ok (.ifCond .ne 5, 3) := by decide +kernel
theorem dX12_fact_47 : decode cX12_fact 47 = .ok (.iconst 3, 1) := by decide +kernel
theorem dX12_fact_48 : decode cX12_fact 48 = .ok (.ireturn, 1) := by decide +kernel
theorem dX12_fact_49 : decode cX12_fact 49 = .ok (.aload_n 0, 1) := by decide +kernel
theorem dX12_fact_50 : decode cX12_fact 50 = .ok (.getfield 175, 3) := by decide +kernel
theorem dX12_fact_53 : decode cX12_fact 53 = .ok (.ldc2_w 204, 3) := by decide +kernel
theorem dX12_fact_56 : decode cX12_fact 56 = .ok (.lcmp, 1) := by decide +kernel
theorem dX12_fact_57 : decode cX12_fact 57 = .ok (.ifCond .ne 5, 3) := by decide +kernel
theorem dX12_fact_60 : decode cX12_fact 60 = .ok (.iconst 4, 1) := by decide +kernel
theorem dX12_fact_61 : decode cX12_fact 61 = .ok (.ireturn, 1) := by decide +kernel
theorem dX12_fact_62 : decode cX12_fact 62 = .ok (.aload_n 0, 1) := by decide +kernel
theorem dX12_fact_63 : decode cX12_fact 63 = .ok (.getfield 175, 3) := by decide +kernel
theorem dX12_fact_66 : decode cX12_fact 66 = .ok (.ldc2_w 206, 3) := by decide +kernel
theorem dX12_fact_69 : decode cX12_fact 69 = .ok (.lcmp, 1) := by decide +kernel
theorem dX12_fact_70 : decode cX12_fact 70 = .ok (.ifCond .ne 5, 3) := by decide +kernel
theorem dX12_fact_73 : decode cX12_fact 73 = .ok (.iconst 5, 1) := by decide +kernel
theorem dX12_fact_74 : decode cX12_fact 74 = .ok (.ireturn, 1) := by decide +kernel
theorem dX12_fact_75 : decode cX12_fact 75 = .ok (.iconst 0, 1) := by decide +kernel
theorem dX12_fact_76 : decode cX12_fact 76 = .ok (.ireturn, 1) := by decide +kernel
theorem dX12_reads_0 : decode cX12_reads 0 = .ok (.iconst 0, 1) := by decide +kernel
theorem dX12_reads_1 : decode cX12_reads 1 = .ok (.istore_n 1, 1) := by decide +kernel
theorem dX12_reads_2 : decode cX12_reads 2 = .ok (.iconst 1, 1) := by decide +kernel
theorem dX12_reads_3 : decode cX12_reads 3 = .ok (.istore_n 2, 1) := by decide +kernel
theorem dX12_reads_4 : decode cX12_reads 4 = .ok (.aload_n 0, 1) := by decide +kernel
theorem dX12_reads_5 : decode cX12_reads 5 = .ok (.getfield 75, 3) := by decide +kernel
theorem dX12_reads_8 : decode cX12_reads 8 = .ok (.iconst 0, 1) := by decide +kernel
theorem dX12_reads_9 : decode cX12_reads 9 = .ok (.iconst 0, 1) := by decide +kernel
theorem dX12_reads_10 : decode cX12_reads 10 = .ok (.bastore, 1) := by decide +kernel
theorem dX12_reads_11 : decode cX12_reads 11 = .ok (.iload_n 2, 1) := by decide +kernel
theorem dX12_reads_12 : decode cX12_reads 12 = .ok (.ifCond .eq 167, 3) := by decide +kernel
theorem dX12_reads_15 : decode cX12_reads 15 = .ok (.aload_n 0, 1) := by decide +kernel
theorem dX12_reads_16 : decode cX12_reads 16 = .ok (.invokevirtual 208, 3) := by decide +kernel
theorem dX12_reads_19 : decode cX12_reads 19 = .ok (.istore_n 3, 1) := by decide +kernel
theorem dX12_reads_20 : decode cX12_reads 20 = .ok (.aload_n 0, 1) := by decide +kernel
theorem dX12_reads_21 : decode cX12_reads 21 = .ok (.ldc2_w 212, 3) := by decide +kernel
theorem dX12_reads_24 : decode cX12_reads 24 = .ok (.invokevirtual 214, 3) := by decide +kernel
theorem dX12_reads_27 : decode cX12_reads 27 = .ok (.istore 4, 2) := by decide +kernel
theorem dX12_reads_29 : decode cX12_reads 29 = .ok (.aload_n 0, 1) := by decide +kernel
theorem dX12_reads_30 : decode cX12_reads 30 = .ok (.bipush 40, 2) := by decide +kernel
theorem dX12_reads_32 : decode cX12_reads 32 = .ok (.invokevirtual 218, 3) := by decide +kernel
theorem dX12_reads_35 : decode cX12_reads 35 = .ok (.istore 5, 2) := by decide +kernel
theorem dX12_reads_37 : decode cX12_reads 37 = .ok (.iload_n 3, 1) := by decide +kernel
theorem dX12_reads_38 : decode cX12_reads 38 = .ok (.ifCond .ne 27, 3) := by decide +kernel
theorem dX12_reads_41 : decode cX12_reads 41 = .ok (.iload 4, 2) := by decide +kernel
theorem dX12_reads_43 : decode cX12_reads 43 = .ok (.ifCond .ne 22, 3) := by decide +kernel
theorem dX12_reads_46 : decode cX12_reads 46 = .ok (.iload 5, 2) := by decide +kernel
theorem dX12_reads_48 : decode cX12_reads 48 = .ok (.ifCond .ne 17, 3) := by decide +kernel
theorem dX12_reads_51 : decode cX12_reads 51 = .ok (.aload_n 0, 1) := by decide +kernel
theorem dX12_reads_52 : decode cX12_reads 52 = .ok (.getfield 182, 3) := by decide +kernel
theorem dX12_reads_55 : decode cX12_reads 55 = .ok (.iconst 2, 1) := by decide +kernel
theorem dX12_reads_56 : decode cX12_reads 56 = .ok (.if_icmp .eq 9, 3) := by decide +kernel
theorem dX12_reads_59 : decode cX12_reads 59 = .ok (.aload_n 0, 1) := by decide +kernel
theorem dX12_reads_60 : decode cX12_reads 60 = .ok (.iconst 1, 1) := by decide +kernel
theorem dX12_reads_61 : decode cX12_reads 61 = .ok (.invokevirtual 222, 3) := by decide +kernel
theorem dX12_reads_64 : decode cX12_reads 64 = .ok (.ireturn, 1) := by decide +kernel
theorem dX12_reads_65 : decode cX12_reads 65 = .ok (.iload_n 1, 1) := by decide +kernel
theorem dX12_reads_66 : decode cX12_reads 66 = .ok (.iconst 5, 1) := by decide +kernel
theorem dX12_reads_67 : decode cX12_reads 67 = .ok (.if_icmp .ne 9, 3) := by decide +kernel
theorem dX12_reads_70 : decode cX12_reads 70 = .ok (.aload_n 0, 1) := by decide +kernel
theorem dX12_reads_71 : decode cX12_reads 71 = .ok (.iconst 5, 1) := by decide +kernel
theorem dX12_reads_72 : decode cX12_reads 72 = .ok (.invokevirtual 222, 3) := by decide +kernel
theorem dX12_reads_75 : decode cX12_reads 75 = .ok (.ireturn, 1) := by decide +kernel
theorem dX12_reads_76 : decode cX12_reads 76 = .ok (.iload 4, 2) := by decide +kernel
theorem dX12_reads_78 : decode cX12_reads 78 = .ok (.ifCond .ne 8, 3) := by decide +kernel
theorem dX12_reads_81 : decode cX12_reads 81 = .ok (.iload 5, 2) := by decide +kernel
theorem dX12_reads_83 : decode cX12_reads 83 = .ok (.ifCond .eq 48, 3) := by decide +kernel
theorem dX12_reads_86 : decode cX12_reads 86 = .ok (.aload_n 0, 1) := by decide +kernel
theorem dX12_reads_87 : decode cX12_reads 87 = .ok (.iload 4, 2) := by decide +kernel
theorem dX12_reads_89 : decode cX12_reads 89 = .ok (.ifCond .eq 8, 3) := by decide +kernel
theorem dX12_reads_92 : decode cX12_reads 92 = .ok (.bipush 30, 2) := by decide +kernel
theorem dX12_reads_94 : decode cX12_reads 94 = .ok (.goto 5, 3) := by decide +kernel
theorem dX12_reads_97 : decode cX12_reads 97 = .ok (.bipush 28, 2) := by decide +kernel
theorem dX12_reads_99 : decode cX12_reads 99 = .ok (.invokevirtual 225, 3) := by decide +kernel
theorem dX12_reads_102 : decode cX12_reads 102 = .ok (.iinc 1 1, 3) := by decide +kernel
theorem dX12_reads_105 : decode cX12_reads 105 = .ok (.aload_n 0, 1) := by decide +kernel
theorem dX12_reads_106 : decode cX12_reads 106 = .ok (.getfield 72, 3) := by decide +kernel
theorem dX12_reads_109 : decode cX12_reads 109 = .ok (.iload_n 1, 1) := by decide +kernel
theorem dX12_reads_110 : decode cX12_reads 110 = .ok (.iload 4, 2) := by decide +kernel
theorem dX12_reads_112 : decode cX12_reads 112 = .ok (.ifCond .eq 7, 3) := by decide +kernel
theorem dX12_reads_115 : decode cX12_reads 115 = .ok (.iconst 1, 1) := by decide +kernel
theorem dX12_reads_116 : decode cX12_reads 116 = .ok (.goto 4, 3) := by decide +kernel
theorem dX12_reads_119 : decode cX12_reads 119 = .ok (.iconst 2, 1) := by decide +kernel
theorem dX12_reads_120 : decode cX12_reads 120 = .ok (.iastore, 1) := by decide +kernel
theorem dX12_reads_121 : decode cX12_reads 121 = .ok (.aload_n 0, 1) := by decide +kernel
theorem dX12_reads_122 : decode cX12_reads 122 = .ok (.getfield 75, 3) := by decide +kernel
theorem dX12_reads_125 : decode cX12_reads 125 = .ok (.iload_n 1, 1) := by decide +kernel
theorem dX12_reads_126 : decode cX12_reads 126 = .ok (.iconst 0, 1) := by decide +kernel
theorem dX12_reads_127 : decode cX12_reads 127 = .ok (.bastore, 1) := by decide +kernel
theorem dX12_reads_128 : decode cX12_reads 128 = .ok (.goto 44, 3) := by decide +kernel
theorem dX12_reads_131 : decode cX12_reads 131 = .ok (.aload_n 0, 1) := by decide +kernel
theorem dX12_reads_132 : decode cX12_reads 132 = .ok (.iload_n 3, 1) := by decide +kernel
theorem dX12_reads_133 : decode cX12_reads 133 = .ok (.ifCond .le 7, 3) := by decide +kernel
theorem dX12_reads_136 : decode cX12_reads 136 = .ok (.iload_n 3, 1) := by decide +kernel
theorem dX12_reads_137 : decode cX12_reads 137 = .ok (.goto 10, 3) := by decide +kernel
theorem dX12_reads_140 : decode cX12_reads 140 = .ok (.bipush 100, 2) := by decide +kernel
theorem dX12_reads_142 : decode cX12_reads 142 = .ok (.aload_n 0, 1) := by decide +kernel
theorem dX12_reads_143 : decode cX12_reads 143 = .ok (.getfield 179, 3) := by decide +kernel
theorem dX12_reads_146 : decode cX12_reads 146 = .ok (.iadd, 1) := by decide +kernel
theorem dX12_reads_147 : decode cX12_reads 147 = .ok (.invokevirtual 225, 3) := by decide +kernel
theorem dX12_reads_150 : decode cX12_reads 150 = .ok (.iconst 0, 1) := by decide +kernel
theorem dX12_reads_151 : decode cX12_reads 151 = .ok (.istore_n 2, 1) := by decide +kernel
theorem dX12_reads_152 : decode cX12_reads 152 = .ok (.iload_n 1, 1) := by decide +kernel
theorem dX12_reads_153 : decode cX12_reads 153 = .ok (.ifCond .le 19, 3) := by decide +kernel
theorem dX12_reads_156 : decode cX12_reads 156 = .ok (.aload_n 0, 1) := by decide +kernel
theorem dX12_reads_157 : decode cX12_reads 157 = .ok (.getfield 72, 3) := by decide +kernel
theorem dX12_reads_160 : decode cX12_reads 160 = .ok (.iload_n 1, 1) := by decide +kernel
theorem dX12_reads_161 : decode cX12_reads 161 = .ok (.iaload, 1) := by decide +kernel
theorem dX12_reads_162 : decode cX12_reads 162 = .ok (.iconst 1, 1) := by decide +kernel
theorem dX12_reads_163 : decode cX12_reads 163 = .ok (.if_icmp .ne 9, 3) := by decide +kernel
theorem dX12_reads_166 : decode cX12_reads 166 = .ok (.iinc 1 (-1), 3) := by decide +kernel
theorem dX12_reads_169 : decode cX12_reads 169 = .ok (.goto (-17), 3) := by decide +kernel
theorem dX12_reads_172 : decode cX12_reads 172 = .ok (.aload_n 0, 1) := by decide +kernel
theorem dX12_reads_173 : decode cX12_reads 173 = .ok (.invokevirtual 229, 3) := by decide +kernel
theorem dX12_reads_176 : decode cX12_reads 176 = .ok (.goto (-165), 3) := by decide +kernel
theorem dX12_reads_179 : decode cX12_reads 179 = .ok (.aload_n 0, 1) := by decide +kernel
theorem dX12_reads_180 : decode cX12_reads 180 = .ok (.bipush 43, 2) := by decide +kernel
theorem dX12_reads_182 : decode cX12_reads 182 = .ok (.invokevirtual 218, 3) := by decide +kernel
theorem dX12_reads_185 : decode cX12_reads 185 = .ok (.ifCond .ne 21, 3) := by decide +kernel
theorem dX12_reads_188 : decode cX12_reads 188 = .ok (.aload_n 0, 1) := by decide +kernel
theorem dX12_reads_189 : decode cX12_reads 189 = .ok (.bipush 45, 2) := by decide +kernel
theorem dX12_reads_191 : decode cX12_reads 191 = .ok (.invokevirtual 218, 3) := by decide +kernel
theorem dX12_reads_194 : decode cX12_reads 194 = .ok (.ifCond .ne 12, 3) := by decide +kernel
theorem dX12_reads_197 : decode cX12_reads 197 = .ok (.aload_n 0, 1) := by decide +kernel
theorem dX12_reads_198 : decode cX12_reads 198 = .ok (.bipush 42, 2) := by decide +kernel
theorem dX12_reads_200 : decode cX12_reads 200 = .ok (.invokevirtual 218, 3) := by decide +kernel
theorem dX12_reads_203 : decode cX12_reads 203 = .ok (.ifCond .eq 42, 3) := by decide +kernel
theorem dX12_reads_206 : decode cX12_reads 206 = .ok (.aload_n 0, 1) := by decide +kernel
theorem dX12_reads_207 : decode cX12_reads 207 = .ok (.aload_n 0, 1) := by decide +kernel
theorem dX12_reads_208 : decode cX12_reads 208 = .ok (.bipush 43, 2) := by decide +kernel
theorem dX12_reads_210 : decode cX12_reads 210 = .ok (.invokevirtual 218, 3) := by decide +kernel
theorem dX12_reads_213 : decode cX12_reads 213 = .ok (.ifCond .eq 8, 3) := by decide +kernel
theorem dX12_reads_216 : decode cX12_reads 216 = .ok (.bipush 20, 2) := by decide +kernel
theorem dX12_reads_218 : decode cX12_reads 218 = .ok (.goto 19, 3) := by decide +kernel
theorem dX12_reads_221 : decode cX12_reads 221 = .ok (.aload_n 0, 1) := by decide +kernel
theorem dX12_reads_222 : decode cX12_reads 222 = .ok (.bipush 45, 2) := by decide +kernel
theorem dX12_reads_224 : decode cX12_reads 224 = .ok (.invokevirtual 218, 3) := by decide +kernel
theorem dX12_reads_227 : decode cX12_reads 227 = .ok (.ifCond .eq 8, 3) := by decide +kernel
theorem dX12_reads_230 : decode cX12_reads 230 = .ok (.bipush 21, 2) := by decide +kernel
theorem dX12_reads_232 : decode cX12_reads 232 = .ok (.goto 5, 3) := by decide +kernel
theorem dX12_reads_235 : decode cX12_reads 235 = .ok (.bipush 22, 2) := by decide +kernel
theorem dX12_reads_237 : decode cX12_reads 237 = .ok (.invokevirtual 225, 3) := by decide +kernel
theorem dX12_reads_240 : decode cX12_reads 240 = .ok (.iconst 1, 1) := by decide +kernel
theorem dX12_reads_241 : decode cX12_reads 241 = .ok (.istore_n 2, 1) := by decide +kernel
theorem dX12_reads_242 : decode cX12_reads 242 = .ok (.goto 182, 3) := by decide +kernel
theorem dX12_reads_245 : decode cX12_reads 245 = .ok (.aload_n 0, 1) := by decide +kernel
theorem dX12_reads_246 : decode cX12_reads 246 = .ok (.bipush 60, 2) := by decide +kernel
theorem dX12_reads_248 : decode cX12_reads 248 = .ok (.invokevirtual 218, 3) := by decide +kernel
theorem dX12_reads_251 : decode cX12_reads 251 = .ok (.ifCond .ne 12, 3) := by decide +kernel
theorem dX12_reads_254 : decode cX12_reads 254 = .ok (.aload_n 0, 1) := by decide +kernel
theorem dX12_reads_255 : decode cX12_reads 255 = .ok (.bipush 61, 2) := by decide +kernel
theorem dX12_reads_257 : decode cX12_reads 257 = .ok (.invokevirtual 218, 3) := by decide +kernel
theorem dX12_reads_260 : decode cX12_reads 260 = .ok (.ifCond .eq 44, 3) := by decide +kernel
theorem dX12_reads_263 : decode cX12_reads 263 = .ok (.aload_n 0, 1) := by decide +kernel
theorem dX12_reads_264 : decode cX12_reads 264 = .ok (.getfield 75, 3) := by decide +kernel
theorem dX12_reads_267 : decode cX12_reads 267 = .ok (.iload_n 1, 1) := by decide +kernel
theorem dX12_reads_268 : decode cX12_reads 268 = .ok (.baload, 1) := by decide +kernel
theorem dX12_reads_269 : decode cX12_reads 269 = .ok (.ifCond .ne 35, 3) := by decide +kernel
theorem dX12_reads_272 : decode cX12_reads 272 = .ok (.aload_n 0, 1) := by decide +kernel
theorem dX12_reads_273 : decode cX12_reads 273 = .ok (.aload_n 0, 1) := by decide +kernel
theorem dX12_reads_274 : decode cX12_reads 274 = .ok (.bipush 60, 2) := by decide +kernel
theorem dX12_reads_276 : decode cX12_reads 276 = .ok (.invokevirtual 218, 3) := by decide +kernel
theorem dX12_reads_279 : decode cX12_reads 279 = .ok (.ifCond .eq 8, 3) := by decide +kernel
theorem dX12_reads_282 : decode cX12_reads 282 = .ok (.bipush 24, 2) := by decide +kernel
theorem dX12_reads_284 : decode cX12_reads 284 = .ok (.goto 5, 3) := by decide +kernel
theorem dX12_reads_287 : decode cX12_reads 287 = .ok (.bipush 25, 2) := by decide +kernel
theorem dX12_reads_289 : decode cX12_reads 289 = .ok (.invokevirtual 225, 3) := by decide +kernel
theorem dX12_reads_292 : decode cX12_reads 292 = .ok (.aload_n 0, 1) := by decide +kernel
theorem dX12_reads_293 : decode cX12_reads 293 = .ok (.getfield 75, 3) := by decide +kernel
theorem dX12_reads_296 : decode cX12_reads 296 = .ok (.iload_n 1, 1) := by decide +kernel
theorem dX12_reads_297 : decode cX12_reads 297 = .ok (.iconst 1, 1) := by decide +kernel
theorem dX12_reads_298 : decode cX12_reads 298 = .ok (.bastore, 1) := by decide +kernel
theorem dX12_reads_299 : decode cX12_reads 299 = .ok (.iconst 1, 1) := by decide +kernel
theorem dX12_reads_300 : decode cX12_reads 300 = .ok (.istore_n 2, 1) := by decide +kernel
theorem dX12_reads_301 : decode cX12_reads 301 = .ok (.goto 123, 3) := by decide +kernel
theorem dX12_reads_304 : decode cX12_reads 304 = .ok (.aload_n 0, 1) := by decide +kernel
theorem dX12_reads_305 : decode cX12_reads 305 = .ok (.ldc2_w 232, 3) := by decide +kernel
theorem dX12_reads_308 : decode cX12_reads 308 = .ok (.invokevirtual 214, 3) := by decide +kernel
theorem dX12_reads_311 : decode cX12_reads 311 = .ok (.ifCond .ne 13, 3) := by decide +kernel
theorem dX12_reads_314 : decode cX12_reads 314 = .ok (.aload_n 0, 1) := by decide +kernel
theorem dX12_reads_315 : decode cX12_reads 315 = .ok (.ldc2_w 234, 3) := by decide +kernel
theorem dX12_reads_318 : decode cX12_reads 318 = .ok (.invokevirtual 214, 3) := by decide +kernel
theorem dX12_reads_321 : decode cX12_reads 321 = .ok (.ifCond .eq 36, 3) := by decide +kernel
theorem dX12_reads_324 : decode cX12_reads 324 = .ok (.aload_n 0, 1) := by decide +kernel
theorem dX12_reads_325 : decode cX12_reads 325 = .ok (.aload_n 0, 1) := by decide +kernel
theorem dX12_reads_326 : decode cX12_reads 326 = .ok (.ldc2_w 232, 3) := by decide +kernel
theorem dX12_reads_329 : decode cX12_reads 329 = .ok (.invokevirtual 214, 3) := by decide +kernel
theorem dX12_reads_332 : decode cX12_reads 332 = .ok (.ifCond .eq 8, 3) := by decide +kernel
theorem dX12_reads_335 : decode cX12_reads 335 = .ok (.bipush 26, 2) := by decide +kernel
theorem dX12_reads_337 : decode cX12_reads 337 = .ok (.goto 5, 3) := by decide +kernel
theorem dX12_reads_340 : decode cX12_reads 340 = .ok (.bipush 27, 2) := by decide +kernel
theorem dX12_reads_342 : decode cX12_reads 342 = .ok (.invokevirtual 225, 3) := by decide +kernel
theorem dX12_reads_345 : decode cX12_reads 345 = .ok (.aload_n 0, 1) := by decide +kernel
theorem dX12_reads_346 : decode cX12_reads 346 = .ok (.getfield 75, 3) := by decide +kernel
theorem dX12_reads_349 : decode cX12_reads 349 = .ok (.iload_n 1, 1) := by decide +kernel
theorem dX12_reads_350 : decode cX12_reads 350 = .ok (.iconst 0, 1) := by decide +kernel
theorem dX12_reads_351 : decode cX12_reads 351 = .ok (.bastore, 1) := by decide +kernel
theorem dX12_reads_352 : decode cX12_reads 352 = .ok (.iconst 1, 1) := by decide +kernel
theorem dX12_reads_353 : decode cX12_reads 353 = .ok (.istore_n 2, 1) := by decide +kernel
theorem dX12_reads_354 : decode cX12_reads 354 = .ok (.goto 70, 3) := by decide +kernel
theorem dX12_reads_357 : decode cX12_reads 357 = .ok (.aload_n 0, 1) := by decide +kernel
theorem dX12_reads_358 : decode cX12_reads 358 = .ok (.bipush 41, 2) := by decide +kernel
theorem dX12_reads_360 : decode cX12_reads 360 = .ok (.invokevirtual 218, 3) := by decide +kernel
theorem dX12_reads_363 : decode cX12_reads 363 = .ok (.ifCond .eq 36, 3) := by decide +kernel
theorem dX12_reads_366 : decode cX12_reads 366 = .ok (.iload_n 1, 1) := by decide +kernel
theorem dX12_reads_367 : decode cX12_reads 367 = .ok (.ifCond .le 32, 3) := by decide +kernel
theorem dX12_reads_370 : decode cX12_reads 370 = .ok (.aload_n 0, 1) := by decide +kernel
theorem dX12_reads_371 : decode cX12_reads 371 = .ok (.bipush 29, 2) := by decide +kernel
theorem dX12_reads_373 : decode cX12_reads 373 = .ok (.invokevirtual 225, 3) := by decide +kernel
theorem dX12_reads_376 : decode cX12_reads 376 = .ok (.iinc 1 (-1), 3) := by decide +kernel
theorem dX12_reads_379 : decode cX12_reads 379 = .ok (.iload_n 1, 1) := by decide +kernel
theorem dX12_reads_380 : decode cX12_reads 380 = .ok (.ifCond .le 44, 3) := by decide +kernel
theorem dX12_reads_383 : decode cX12_reads 383 = .ok (.aload_n 0, 1) := by decide +kernel
theorem dX12_reads_384 : decode cX12_reads 384 = .ok (.getfield 72, 3) := by decide +kernel
theorem dX12_reads_387 : decode cX12_reads 387 = .ok (.iload_n 1, 1) := by decide +kernel
theorem dX12_reads_388 : decode cX12_reads 388 = .ok (.iaload, 1) := by decide +kernel
theorem dX12_reads_389 : decode cX12_reads 389 = .ok (.iconst 1, 1) := by decide +kernel
theorem dX12_reads_390 : decode cX12_reads 390 = .ok (.if_icmp .ne 34, 3) := by decide +kernel
theorem dX12_reads_393 : decode cX12_reads 393 = .ok (.iinc 1 (-1), 3) := by decide +kernel
theorem dX12_reads_396 : decode cX12_reads 396 = .ok (.goto (-17), 3) := by decide +kernel
theorem dX12_reads_399 : decode cX12_reads 399 = .ok (.iload_n 1, 1) := by decide +kernel
theorem dX12_reads_400 : decode cX12_reads 400 = .ok (.ifCond .ne 18, 3) := by decide +kernel
theorem dX12_reads_403 : decode cX12_reads 403 = .ok (.aload_n 0, 1) := by decide +kernel
theorem dX12_reads_404 : decode cX12_reads 404 = .ok (.bipush 59, 2) := by decide +kernel
theorem dX12_reads_406 : decode cX12_reads 406 = .ok (.invokevirtual 218, 3) := by decide +kernel
theorem dX12_reads_409 : decode cX12_reads 409 = .ok (.ifCond .eq 9, 3) := by decide +kernel
theorem dX12_reads_412 : decode cX12_reads 412 = .ok (.aload_n 0, 1) := by decide +kernel
theorem dX12_reads_413 : decode cX12_reads 413 = .ok (.invokevirtual 229, 3) := by decide +kernel
theorem dX12_reads_416 : decode cX12_reads 416 = .ok (.iconst 1, 1) := by decide +kernel
theorem dX12_reads_417 : decode cX12_reads 417 = .ok (.ireturn, 1) := by decide +kernel
theorem dX12_reads_418 : decode cX12_reads 418 = .ok (.aload_n 0, 1) := by decide +kernel
theorem dX12_reads_419 : decode cX12_reads 419 = .ok (.iconst 1, 1) := by decide +kernel
theorem dX12_reads_420 : decode cX12_reads 420 = .ok (.invokevirtual 222, 3) := by decide +kernel
theorem dX12_reads_423 : decode cX12_reads 423 = .ok (.ireturn, 1) := by decide +kernel
theorem dX12_reads_424 : decode cX12_reads 424 = .ok (.aload_n 0, 1) := by decide +kernel
theorem dX12_reads_425 : decode cX12_reads 425 = .ok (.invokevirtual 229, 3) := by decide +kernel
theorem dX12_reads_428 : decode cX12_reads 428 = .ok (.goto (-417), 3) := by decide +kernel
theorem dX12_opens_0 : decode cX12_opens 0 = .ok (.aload_n 0, 1) := by decide +kernel
theorem dX12_opens_1 : decode cX12_opens 1 = .ok (.getfield 81, 3) := by decide +kernel
theorem dX12_opens_4 : decode cX12_opens 4 = .ok (.iload_n 1, 1) := by decide +kernel
theorem dX12_opens_5 : decode cX12_opens 5 = .ok (.iconst 0, 1) := by decide +kernel
theorem dX12_opens_6 : decode cX12_opens 6 = .ok (.iastore, 1) := by decide +kernel
theorem dX12_opens_7 : decode cX12_opens 7 = .ok (.aload_n 0, 1) := by decide +kernel
theorem dX12_opens_8 : decode cX12_opens 8 = .ok (.getfield 87, 3) := by decide +kernel
theorem dX12_opens_11 : decode cX12_opens 11 = .ok (.iload_n 1, 1) := by decide +kernel
theorem dX12_opens_12 : decode cX12_opens 12 = .ok (.iconst 0, 1) := by decide +kernel
theorem dX12_opens_13 : decode cX12_opens 13 = .ok (.iastore, 1) := by decide +kernel
theorem dX12_opens_14 : decode cX12_opens 14 = .ok (.aload_n 0, 1) := by decide +kernel
theorem dX12_opens_15 : decode cX12_opens 15 = .ok (.getfield 90, 3) := by decide +kernel
theorem dX12_opens_18 : decode cX12_opens 18 = .ok (.iload_n 1, 1) := by decide +kernel
theorem dX12_opens_19 : decode cX12_opens 19 = .ok (.iconst 0, 1) := by decide +kernel
theorem dX12_opens_20 : decode cX12_opens 20 = .ok (.iastore, 1) := by decide +kernel
theorem dX12_opens_21 : decode cX12_opens 21 = .ok (.aload_n 0, 1) := by decide +kernel
theorem dX12_opens_22 : decode cX12_opens 22 = .ok (.getfield 93, 3) := by decide +kernel
theorem dX12_opens_25 : decode cX12_opens 25 = .ok (.iload_n 1, 1) := by decide +kernel
theorem dX12_opens_26 : decode cX12_opens 26 = .ok (.bipush 20, 2) := by decide +kernel
theorem dX12_opens_28 : decode cX12_opens 28 = .ok (.iastore, 1) := by decide +kernel
theorem dX12_opens_29 : decode cX12_opens 29 = .ok (.aload_n 0, 1) := by decide +kernel
theorem dX12_opens_30 : decode cX12_opens 30 = .ok (.getfield 99, 3) := by decide +kernel
theorem dX12_opens_33 : decode cX12_opens 33 = .ok (.iload_n 1, 1) := by decide +kernel
theorem dX12_opens_34 : decode cX12_opens 34 = .ok (.iconst 0, 1) := by decide +kernel
theorem dX12_opens_35 : decode cX12_opens 35 = .ok (.iastore, 1) := by decide +kernel
theorem dX12_opens_36 : decode cX12_opens 36 = .ok (.return_, 1) := by decide +kernel
theorem dX12_sums_0 : decode cX12_sums 0 = .ok (.aload_n 0, 1) := by decide +kernel
theorem dX12_sums_1 : decode cX12_sums 1 = .ok (.getfield 90, 3) := by decide +kernel
theorem dX12_sums_4 : decode cX12_sums 4 = .ok (.iload_n 1, 1) := by decide +kernel
theorem dX12_sums_5 : decode cX12_sums 5 = .ok (.aload_n 0, 1) := by decide +kernel
theorem dX12_sums_6 : decode cX12_sums 6 = .ok (.getfield 93, 3) := by decide +kernel
theorem dX12_sums_9 : decode cX12_sums 9 = .ok (.iload_n 1, 1) := by decide +kernel
theorem dX12_sums_10 : decode cX12_sums 10 = .ok (.iaload, 1) := by decide +kernel
theorem dX12_sums_11 : decode cX12_sums 11 = .ok (.bipush 21, 2) := by decide +kernel
theorem dX12_sums_13 : decode cX12_sums 13 = .ok (.if_icmp .ne 19, 3) := by decide +kernel
theorem dX12_sums_16 : decode cX12_sums 16 = .ok (.aload_n 0, 1) := by decide +kernel
theorem dX12_sums_17 : decode cX12_sums 17 = .ok (.getfield 90, 3) := by decide +kernel
theorem dX12_sums_20 : decode cX12_sums 20 = .ok (.iload_n 1, 1) := by decide +kernel
theorem dX12_sums_21 : decode cX12_sums 21 = .ok (.iaload, 1) := by decide +kernel
theorem dX12_sums_22 : decode cX12_sums 22 = .ok (.aload_n 0, 1) := by decide +kernel
theorem dX12_sums_23 : decode cX12_sums 23 = .ok (.getfield 96, 3) := by decide +kernel
theorem dX12_sums_26 : decode cX12_sums 26 = .ok (.iload_n 1, 1) := by decide +kernel
theorem dX12_sums_27 : decode cX12_sums 27 = .ok (.iaload, 1) := by decide +kernel
theorem dX12_sums_28 : decode cX12_sums 28 = .ok (.isub, 1) := by decide +kernel
theorem dX12_sums_29 : decode cX12_sums 29 = .ok (.goto 16, 3) := by decide +kernel
theorem dX12_sums_32 : decode cX12_sums 32 = .ok (.aload_n 0, 1) := by decide +kernel
theorem dX12_sums_33 : decode cX12_sums 33 = .ok (.getfield 90, 3) := by decide +kernel
theorem dX12_sums_36 : decode cX12_sums 36 = .ok (.iload_n 1, 1) := by decide +kernel
theorem dX12_sums_37 : decode cX12_sums 37 = .ok (.iaload, 1) := by decide +kernel
theorem dX12_sums_38 : decode cX12_sums 38 = .ok (.aload_n 0, 1) := by decide +kernel
theorem dX12_sums_39 : decode cX12_sums 39 = .ok (.getfield 96, 3) := by decide +kernel
theorem dX12_sums_42 : decode cX12_sums 42 = .ok (.iload_n 1, 1) := by decide +kernel
theorem dX12_sums_43 : decode cX12_sums 43 = .ok (.iaload, 1) := by decide +kernel
theorem dX12_sums_44 : decode cX12_sums 44 = .ok (.iadd, 1) := by decide +kernel
theorem dX12_sums_45 : decode cX12_sums 45 = .ok (.iastore, 1) := by decide +kernel
theorem dX12_sums_46 : decode cX12_sums 46 = .ok (.aload_n 0, 1) := by decide +kernel
theorem dX12_sums_47 : decode cX12_sums 47 = .ok (.getfield 99, 3) := by decide +kernel
theorem dX12_sums_50 : decode cX12_sums 50 = .ok (.iload_n 1, 1) := by decide +kernel
theorem dX12_sums_51 : decode cX12_sums 51 = .ok (.iconst 0, 1) := by decide +kernel
theorem dX12_sums_52 : decode cX12_sums 52 = .ok (.iastore, 1) := by decide +kernel
theorem dX12_sums_53 : decode cX12_sums 53 = .ok (.return_, 1) := by decide +kernel
theorem dX12_tests_0 : decode cX12_tests 0 = .ok (.aload_n 0, 1) := by decide +kernel
theorem dX12_tests_1 : decode cX12_tests 1 = .ok (.iload_n 1, 1) := by decide +kernel
theorem dX12_tests_2 : decode cX12_tests 2 = .ok (.invokevirtual 236, 3) := by decide +kernel
theorem dX12_tests_5 : decode cX12_tests 5 = .ok (.aload_n 0, 1) := by decide +kernel
theorem dX12_tests_6 : decode cX12_tests 6 = .ok (.getfield 90, 3) := by decide +kernel
theorem dX12_tests_9 : decode cX12_tests 9 = .ok (.iload_n 1, 1) := by decide +kernel
theorem dX12_tests_10 : decode cX12_tests 10 = .ok (.iaload, 1) := by decide +kernel
theorem dX12_tests_11 : decode cX12_tests 11 = .ok (.istore_n 2, 1) := by decide +kernel
theorem dX12_tests_12 : decode cX12_tests 12 = .ok (.aload_n 0, 1) := by decide +kernel
theorem dX12_tests_13 : decode cX12_tests 13 = .ok (.getfield 87, 3) := by decide +kernel
theorem dX12_tests_16 : decode cX12_tests 16 = .ok (.iload_n 1, 1) := by decide +kernel
theorem dX12_tests_17 : decode cX12_tests 17 = .ok (.iaload, 1) := by decide +kernel
theorem dX12_tests_18 : decode cX12_tests 18 = .ok (.bipush 24, 2) := by decide +kernel
theorem dX12_tests_20 : decode cX12_tests 20 = .ok (.if_icmp .ne 24, 3) := by decide +kernel
theorem dX12_tests_23 : decode cX12_tests 23 = .ok (.aload_n 0, 1) := by decide +kernel
theorem dX12_tests_24 : decode cX12_tests 24 = .ok (.getfield 84, 3) := by decide +kernel
theorem dX12_tests_27 : decode cX12_tests 27 = .ok (.iload_n 1, 1) := by decide +kernel
theorem dX12_tests_28 : decode cX12_tests 28 = .ok (.iaload, 1) := by decide +kernel
theorem dX12_tests_29 : decode cX12_tests 29 = .ok (.aload_n 0, 1) := by decide +kernel
theorem dX12_tests_30 : decode cX12_tests 30 = .ok (.getfield 90, 3) := by decide +kernel
theorem dX12_tests_33 : decode cX12_tests 33 = .ok (.iload_n 1, 1) := by decide +kernel
theorem dX12_tests_34 : decode cX12_tests 34 = .ok (.iaload, 1) := by decide +kernel
theorem dX12_tests_35 : decode cX12_tests 35 = .ok (.if_icmp .ge 7, 3) := by decide +kernel
theorem dX12_tests_38 : decode cX12_tests 38 = .ok (.iconst 1, 1) := by decide +kernel
theorem dX12_tests_39 : decode cX12_tests 39 = .ok (.goto 4, 3) := by decide +kernel
theorem dX12_tests_42 : decode cX12_tests 42 = .ok (.iconst 0, 1) := by decide +kernel
theorem dX12_tests_43 : decode cX12_tests 43 = .ok (.istore_n 2, 1) := by decide +kernel
theorem dX12_tests_44 : decode cX12_tests 44 = .ok (.aload_n 0, 1) := by decide +kernel
theorem dX12_tests_45 : decode cX12_tests 45 = .ok (.getfield 87, 3) := by decide +kernel
theorem dX12_tests_48 : decode cX12_tests 48 = .ok (.iload_n 1, 1) := by decide +kernel
theorem dX12_tests_49 : decode cX12_tests 49 = .ok (.iaload, 1) := by decide +kernel
theorem dX12_tests_50 : decode cX12_tests 50 = .ok (.bipush 25, 2) := by decide +kernel
theorem dX12_tests_52 : decode cX12_tests 52 = .ok (.if_icmp .ne 24, 3) := by decide +kernel
theorem dX12_tests_55 : decode cX12_tests 55 = .ok (.aload_n 0, 1) := by decide +kernel
theorem dX12_tests_56 : decode cX12_tests 56 = .ok (.getfield 84, 3) := by decide +kernel
theorem dX12_tests_59 : decode cX12_tests 59 = .ok (.iload_n 1, 1) := by decide +kernel
theorem dX12_tests_60 : decode cX12_tests 60 = .ok (.iaload, 1) := by decide +kernel
theorem dX12_tests_61 : decode cX12_tests 61 = .ok (.aload_n 0, 1) := by decide +kernel
theorem dX12_tests_62 : decode cX12_tests 62 = .ok (.getfield 90, 3) := by decide +kernel
theorem dX12_tests_65 : decode cX12_tests 65 = .ok (.iload_n 1, 1) := by decide +kernel
theorem dX12_tests_66 : decode cX12_tests 66 = .ok (.iaload, 1) := by decide +kernel
theorem dX12_tests_67 : decode cX12_tests 67 = .ok (.if_icmp .ne 7, 3) := by decide +kernel
theorem dX12_tests_70 : decode cX12_tests 70 = .ok (.iconst 1, 1) := by decide +kernel
theorem dX12_tests_71 : decode cX12_tests 71 = .ok (.goto 4, 3) := by decide +kernel
theorem dX12_tests_74 : decode cX12_tests 74 = .ok (.iconst 0, 1) := by decide +kernel
theorem dX12_tests_75 : decode cX12_tests 75 = .ok (.istore_n 2, 1) := by decide +kernel
theorem dX12_tests_76 : decode cX12_tests 76 = .ok (.aload_n 0, 1) := by decide +kernel
theorem dX12_tests_77 : decode cX12_tests 77 = .ok (.getfield 81, 3) := by decide +kernel
theorem dX12_tests_80 : decode cX12_tests 80 = .ok (.iload_n 1, 1) := by decide +kernel
theorem dX12_tests_81 : decode cX12_tests 81 = .ok (.iaload, 1) := by decide +kernel
theorem dX12_tests_82 : decode cX12_tests 82 = .ok (.bipush 26, 2) := by decide +kernel
theorem dX12_tests_84 : decode cX12_tests 84 = .ok (.if_icmp .ne 22, 3) := by decide +kernel
theorem dX12_tests_87 : decode cX12_tests 87 = .ok (.aload_n 0, 1) := by decide +kernel
theorem dX12_tests_88 : decode cX12_tests 88 = .ok (.getfield 78, 3) := by decide +kernel
theorem dX12_tests_91 : decode cX12_tests 91 = .ok (.iload_n 1, 1) := by decide +kernel
theorem dX12_tests_92 : decode cX12_tests 92 = .ok (.iaload, 1) := by decide +kernel
theorem dX12_tests_93 : decode cX12_tests 93 = .ok (.ifCond .eq 11, 3) := by decide +kernel
theorem dX12_tests_96 : decode cX12_tests 96 = .ok (.iload_n 2, 1) := by decide +kernel
theorem dX12_tests_97 : decode cX12_tests 97 = .ok (.ifCond .eq 7, 3) := by decide +kernel
theorem dX12_tests_100 : decode cX12_tests 100 = .ok (.iconst 1, 1) := by decide +kernel
theorem dX12_tests_101 : decode cX12_tests 101 = .ok (.goto 4, 3) := by decide +kernel
theorem dX12_tests_104 : decode cX12_tests 104 = .ok (.iconst 0, 1) := by decide +kernel
theorem dX12_tests_105 : decode cX12_tests 105 = .ok (.istore_n 2, 1) := by decide +kernel
theorem dX12_tests_106 : decode cX12_tests 106 = .ok (.aload_n 0, 1) := by decide +kernel
theorem dX12_tests_107 : decode cX12_tests 107 = .ok (.getfield 81, 3) := by decide +kernel
theorem dX12_tests_110 : decode cX12_tests 110 = .ok (.iload_n 1, 1) := by decide +kernel
theorem dX12_tests_111 : decode cX12_tests 111 = .ok (.iaload, 1) := by decide +kernel
theorem dX12_tests_112 : decode cX12_tests 112 = .ok (.bipush 27, 2) := by decide +kernel
theorem dX12_tests_114 : decode cX12_tests 114 = .ok (.if_icmp .ne 22, 3) := by decide +kernel
theorem dX12_tests_117 : decode cX12_tests 117 = .ok (.aload_n 0, 1) := by decide +kernel
theorem dX12_tests_118 : decode cX12_tests 118 = .ok (.getfield 78, 3) := by decide +kernel
theorem dX12_tests_121 : decode cX12_tests 121 = .ok (.iload_n 1, 1) := by decide +kernel
theorem dX12_tests_122 : decode cX12_tests 122 = .ok (.iaload, 1) := by decide +kernel
theorem dX12_tests_123 : decode cX12_tests 123 = .ok (.ifCond .ne 7, 3) := by decide +kernel
theorem dX12_tests_126 : decode cX12_tests 126 = .ok (.iload_n 2, 1) := by decide +kernel
theorem dX12_tests_127 : decode cX12_tests 127 = .ok (.ifCond .eq 7, 3) := by decide +kernel
theorem dX12_tests_130 : decode cX12_tests 130 = .ok (.iconst 1, 1) := by decide +kernel
theorem dX12_tests_131 : decode cX12_tests 131 = .ok (.goto 4, 3) := by decide +kernel
theorem dX12_tests_134 : decode cX12_tests 134 = .ok (.iconst 0, 1) := by decide +kernel
theorem dX12_tests_135 : decode cX12_tests 135 = .ok (.istore_n 2, 1) := by decide +kernel
theorem dX12_tests_136 : decode cX12_tests 136 = .ok (.aload_n 0, 1) := by decide +kernel
theorem dX12_tests_137 : decode cX12_tests 137 = .ok (.getfield 78, 3) := by decide +kernel
theorem dX12_tests_140 : decode cX12_tests 140 = .ok (.iload_n 1, 1) := by decide +kernel
theorem dX12_tests_141 : decode cX12_tests 141 = .ok (.iload_n 2, 1) := by decide +kernel
theorem dX12_tests_142 : decode cX12_tests 142 = .ok (.iastore, 1) := by decide +kernel
theorem dX12_tests_143 : decode cX12_tests 143 = .ok (.aload_n 0, 1) := by decide +kernel
theorem dX12_tests_144 : decode cX12_tests 144 = .ok (.getfield 87, 3) := by decide +kernel
theorem dX12_tests_147 : decode cX12_tests 147 = .ok (.iload_n 1, 1) := by decide +kernel
theorem dX12_tests_148 : decode cX12_tests 148 = .ok (.iconst 0, 1) := by decide +kernel
theorem dX12_tests_149 : decode cX12_tests 149 = .ok (.iastore, 1) := by decide +kernel
theorem dX12_tests_150 : decode cX12_tests 150 = .ok (.aload_n 0, 1) := by decide +kernel
theorem dX12_tests_151 : decode cX12_tests 151 = .ok (.getfield 90, 3) := by decide +kernel
theorem dX12_tests_154 : decode cX12_tests 154 = .ok (.iload_n 1, 1) := by decide +kernel
theorem dX12_tests_155 : decode cX12_tests 155 = .ok (.iconst 0, 1) := by decide +kernel
theorem dX12_tests_156 : decode cX12_tests 156 = .ok (.iastore, 1) := by decide +kernel
theorem dX12_tests_157 : decode cX12_tests 157 = .ok (.aload_n 0, 1) := by decide +kernel
theorem dX12_tests_158 : decode cX12_tests 158 = .ok (.getfield 93, 3) := by decide +kernel
theorem dX12_tests_161 : decode cX12_tests 161 = .ok (.iload_n 1, 1) := by decide +kernel
theorem dX12_tests_162 : decode cX12_tests 162 = .ok (.bipush 20, 2) := by decide +kernel
theorem dX12_tests_164 : decode cX12_tests 164 = .ok (.iastore, 1) := by decide +kernel
theorem dX12_tests_165 : decode cX12_tests 165 = .ok (.return_, 1) := by decide +kernel
theorem dX12_worked_0 : decode cX12_worked 0 = .ok (.iconst 0, 1) := by decide +kernel
theorem dX12_worked_1 : decode cX12_worked 1 = .ok (.istore_n 2, 1) := by decide +kernel
theorem dX12_worked_2 : decode cX12_worked 2 = .ok (.aload_n 0, 1) := by decide +kernel
theorem dX12_worked_3 : decode cX12_worked 3 = .ok (.iconst 0, 1) := by decide +kernel
theorem dX12_worked_4 : decode cX12_worked 4 = .ok (.invokevirtual 239, 3) := by decide +kernel
theorem dX12_worked_7 : decode cX12_worked 7 = .ok (.aload_n 0, 1) := by decide +kernel
theorem dX12_worked_8 : decode cX12_worked 8 = .ok (.getfield 63, 3) := by decide +kernel
theorem dX12_worked_11 : decode cX12_worked 11 = .ok (.iload_n 1, 1) := by decide +kernel
theorem dX12_worked_12 : decode cX12_worked 12 = .ok (.iaload, 1) := by decide +kernel
theorem dX12_worked_13 : decode cX12_worked 13 = .ok (.istore_n 3, 1) := by decide +kernel
theorem dX12_worked_14 : decode cX12_worked 14 = .ok (.iload_n 3, 1) := by decide +kernel
theorem dX12_worked_15 : decode cX12_worked 15 = .ok (.aload_n 0, 1) := by decide +kernel
theorem dX12_worked_16 : decode cX12_worked 16 = .ok (.getfield 66, 3) := by decide +kernel
theorem dX12_worked_19 : decode cX12_worked 19 = .ok (.iload_n 1, 1) := by decide +kernel
theorem dX12_worked_20 : decode cX12_worked 20 = .ok (.iaload, 1) := by decide +kernel
theorem dX12_worked_21 : decode cX12_worked 21 = .ok (.if_icmp .ge 314, 3) := by decide +kernel
theorem dX12_worked_24 : decode cX12_worked 24 = .ok (.aload_n 0, 1) := by decide +kernel
theorem dX12_worked_25 : decode cX12_worked 25 = .ok (.getfield 69, 3) := by decide +kernel
theorem dX12_worked_28 : decode cX12_worked 28 = .ok (.iload_n 3, 1) := by decide +kernel
theorem dX12_worked_29 : decode cX12_worked 29 = .ok (.iaload, 1) := by decide +kernel
theorem dX12_worked_30 : decode cX12_worked 30 = .ok (.istore 4, 2) := by decide +kernel
theorem dX12_worked_32 : decode cX12_worked 32 = .ok (.iload 4, 2) := by decide +kernel
theorem dX12_worked_34 : decode cX12_worked 34 = .ok (.bipush 28, 2) := by decide +kernel
theorem dX12_worked_36 : decode cX12_worked 36 = .ok (.if_icmp .eq 10, 3) := by decide +kernel
theorem dX12_worked_39 : decode cX12_worked 39 = .ok (.iload 4, 2) := by decide +kernel
theorem dX12_worked_41 : decode cX12_worked 41 = .ok (.bipush 30, 2) := by decide +kernel
theorem dX12_worked_43 : decode cX12_worked 43 = .ok (.if_icmp .ne 32, 3) := by decide +kernel
theorem dX12_worked_46 : decode cX12_worked 46 = .ok (.iinc 2 1, 3) := by decide +kernel
theorem dX12_worked_49 : decode cX12_worked 49 = .ok (.aload_n 0, 1) := by decide +kernel
theorem dX12_worked_50 : decode cX12_worked 50 = .ok (.getfield 102, 3) := by decide +kernel
theorem dX12_worked_53 : decode cX12_worked 53 = .ok (.iload_n 2, 1) := by decide +kernel
theorem dX12_worked_54 : decode cX12_worked 54 = .ok (.iload 4, 2) := by decide +kernel
theorem dX12_worked_56 : decode cX12_worked 56 = .ok (.bipush 30, 2) := by decide +kernel
theorem dX12_worked_58 : decode cX12_worked 58 = .ok (.if_icmp .ne 7, 3) := by decide +kernel
theorem dX12_worked_61 : decode cX12_worked 61 = .ok (.iconst 1, 1) := by decide +kernel
theorem dX12_worked_62 : decode cX12_worked 62 = .ok (.goto 4, 3) := by decide +kernel
theorem dX12_worked_65 : decode cX12_worked 65 = .ok (.iconst 0, 1) := by decide +kernel
theorem dX12_worked_66 : decode cX12_worked 66 = .ok (.iastore, 1) := by decide +kernel
theorem dX12_worked_67 : decode cX12_worked 67 = .ok (.aload_n 0, 1) := by decide +kernel
theorem dX12_worked_68 : decode cX12_worked 68 = .ok (.iload_n 2, 1) := by decide +kernel
theorem dX12_worked_69 : decode cX12_worked 69 = .ok (.invokevirtual 239, 3) := by decide +kernel
theorem dX12_worked_72 : decode cX12_worked 72 = .ok (.goto 257, 3) := by decide +kernel
theorem dX12_worked_75 : decode cX12_worked 75 = .ok (.iload 4, 2) := by decide +kernel
theorem dX12_worked_77 : decode cX12_worked 77 = .ok (.bipush 20, 2) := by decide +kernel
theorem dX12_worked_79 : decode cX12_worked 79 = .ok (.if_icmp .eq 10, 3) := by decide +kernel
theorem dX12_worked_82 : decode cX12_worked 82 = .ok (.iload 4, 2) := by decide +kernel
theorem dX12_worked_84 : decode cX12_worked 84 = .ok (.bipush 21, 2) := by decide +kernel
theorem dX12_worked_86 : decode cX12_worked 86 = .ok (.if_icmp .ne 19, 3) := by decide +kernel
theorem dX12_worked_89 : decode cX12_worked 89 = .ok (.aload_n 0, 1) := by decide +kernel
theorem dX12_worked_90 : decode cX12_worked 90 = .ok (.iload_n 2, 1) := by decide +kernel
theorem dX12_worked_91 : decode cX12_worked 91 = .ok (.invokevirtual 236, 3) := by decide +kernel
theorem dX12_worked_94 : decode cX12_worked 94 = .ok (.aload_n 0, 1) := by decide +kernel
theorem dX12_worked_95 : decode cX12_worked 95 = .ok (.getfield 93, 3) := by decide +kernel
theorem dX12_worked_98 : decode cX12_worked 98 = .ok (.iload_n 2, 1) := by decide +kernel
theorem dX12_worked_99 : decode cX12_worked 99 = .ok (.iload 4, 2) := by decide +kernel
theorem dX12_worked_101 : decode cX12_worked 101 = .ok (.iastore, 1) := by decide +kernel
theorem dX12_worked_102 : decode cX12_worked 102 = .ok (.goto 227, 3) := by decide +kernel
theorem dX12_worked_105 : decode cX12_worked 105 = .ok (.iload 4, 2) := by decide +kernel
theorem dX12_worked_107 : decode cX12_worked 107 = .ok (.bipush 22, 2) := by decide +kernel
theorem dX12_worked_109 : decode cX12_worked 109 = .ok (.if_icmp .ne 14, 3) := by decide +kernel
theorem dX12_worked_112 : decode cX12_worked 112 = .ok (.aload_n 0, 1) := by decide +kernel
theorem dX12_worked_113 : decode cX12_worked 113 = .ok (.getfield 99, 3) := by decide +kernel
theorem dX12_worked_116 : decode cX12_worked 116 = .ok (.iload_n 2, 1) := by decide +kernel
theorem dX12_worked_117 : decode cX12_worked 117 = .ok (.iload 4, 2) := by decide +kernel
theorem dX12_worked_119 : decode cX12_worked 119 = .ok (.iastore, 1) := by decide +kernel
theorem dX12_worked_120 : decode cX12_worked 120 = .ok (.goto 209, 3) := by decide +kernel
theorem dX12_worked_123 : decode cX12_worked 123 = .ok (.iload 4, 2) := by decide +kernel
theorem dX12_worked_125 : decode cX12_worked 125 = .ok (.bipush 24, 2) := by decide +kernel
theorem dX12_worked_127 : decode cX12_worked 127 = .ok (.if_icmp .eq 10, 3) := by decide +kernel
theorem dX12_worked_130 : decode cX12_worked 130 = .ok (.iload 4, 2) := by decide +kernel
theorem dX12_worked_132 : decode cX12_worked 132 = .ok (.bipush 25, 2) := by decide +kernel
theorem dX12_worked_134 : decode cX12_worked 134 = .ok (.if_icmp .ne 46, 3) := by decide +kernel
theorem dX12_worked_137 : decode cX12_worked 137 = .ok (.aload_n 0, 1) := by decide +kernel
theorem dX12_worked_138 : decode cX12_worked 138 = .ok (.iload_n 2, 1) := by decide +kernel
theorem dX12_worked_139 : decode cX12_worked 139 = .ok (.invokevirtual 236, 3) := by decide +kernel
theorem dX12_worked_142 : decode cX12_worked 142 = .ok (.aload_n 0, 1) := by decide +kernel
theorem dX12_worked_143 : decode cX12_worked 143 = .ok (.getfield 84, 3) := by decide +kernel
theorem dX12_worked_146 : decode cX12_worked 146 = .ok (.iload_n 2, 1) := by decide +kernel
theorem dX12_worked_147 : decode cX12_worked 147 = .ok (.aload_n 0, 1) := by decide +kernel
theorem dX12_worked_148 : decode cX12_worked 148 = .ok (.getfield 90, 3) := by decide +kernel
theorem dX12_worked_151 : decode cX12_worked 151 = .ok (.iload_n 2, 1) := by decide +kernel
theorem dX12_worked_152 : decode cX12_worked 152 = .ok (.iaload, 1) := by decide +kernel
theorem dX12_worked_153 : decode cX12_worked 153 = .ok (.iastore, 1) := by decide +kernel
theorem dX12_worked_154 : decode cX12_worked 154 = .ok (.aload_n 0, 1) := by decide +kernel
theorem dX12_worked_155 : decode cX12_worked 155 = .ok (.getfield 87, 3) := by decide +kernel
theorem dX12_worked_158 : decode cX12_worked 158 = .ok (.iload_n 2, 1) := by decide +kernel
theorem dX12_worked_159 : decode cX12_worked 159 = .ok (.iload 4, 2) := by decide +kernel
theorem dX12_worked_161 : decode cX12_worked 161 = .ok (.iastore, 1) := by decide +kernel
theorem dX12_worked_162 : decode cX12_worked 162 = .ok (.aload_n 0, 1) := by decide +kernel
theorem dX12_worked_163 : decode cX12_worked 163 = .ok (.getfield 90, 3) := by decide +kernel
theorem dX12_worked_166 : decode cX12_worked 166 = .ok (.iload_n 2, 1) := by decide +kernel
theorem dX12_worked_167 : decode cX12_worked 167 = .ok (.iconst 0, 1) := by decide +kernel
theorem dX12_worked_168 : decode cX12_worked 168 = .ok (.iastore, 1) := by decide +kernel
theorem dX12_worked_169 : decode cX12_worked 169 = .ok (.aload_n 0, 1) := by decide +kernel
theorem dX12_worked_170 : decode cX12_worked 170 = .ok (.getfield 93, 3) := by decide +kernel
theorem dX12_worked_173 : decode cX12_worked 173 = .ok (.iload_n 2, 1) := by decide +kernel
theorem dX12_worked_174 : decode cX12_worked 174 = .ok (.bipush 20, 2) := by decide +kernel
theorem dX12_worked_176 : decode cX12_worked 176 = .ok (.iastore, 1) := by decide +kernel
theorem dX12_worked_177 : decode cX12_worked 177 = .ok (.goto 152, 3) := by decide +kernel
theorem dX12_worked_180 : decode cX12_worked 180 = .ok (.iload 4, 2) := by decide +kernel
theorem dX12_worked_182 : decode cX12_worked 182 = .ok (.bipush 26, 2) := by decide +kernel
theorem dX12_worked_184 : decode cX12_worked 184 = .ok (.if_icmp .eq 10, 3) := by decide +kernel
theorem dX12_worked_187 : decode cX12_worked 187 = .ok (.iload 4, 2) := by decide +kernel
theorem dX12_worked_189 : decode cX12_worked 189 = .ok (.bipush 27, 2) := by decide +kernel
theorem dX12_worked_191 : decode cX12_worked 191 = .ok (.if_icmp .ne 19, 3) := by decide +kernel
theorem dX12_worked_194 : decode cX12_worked 194 = .ok (.aload_n 0, 1) := by decide +kernel
theorem dX12_worked_195 : decode cX12_worked 195 = .ok (.iload_n 2, 1) := by decide +kernel
theorem dX12_worked_196 : decode cX12_worked 196 = .ok (.invokevirtual 242, 3) := by decide +kernel
theorem dX12_worked_199 : decode cX12_worked 199 = .ok (.aload_n 0, 1) := by decide +kernel
theorem dX12_worked_200 : decode cX12_worked 200 = .ok (.getfield 81, 3) := by decide +kernel
theorem dX12_worked_203 : decode cX12_worked 203 = .ok (.iload_n 2, 1) := by decide +kernel
theorem dX12_worked_204 : decode cX12_worked 204 = .ok (.iload 4, 2) := by decide +kernel
theorem dX12_worked_206 : decode cX12_worked 206 = .ok (.iastore, 1) := by decide +kernel
theorem dX12_worked_207 : decode cX12_worked 207 = .ok (.goto 122, 3) := by decide +kernel
theorem dX12_worked_210 : decode cX12_worked 210 = .ok (.iload 4, 2) := by decide +kernel
theorem dX12_worked_212 : decode cX12_worked 212 = .ok (.bipush 100, 2) := by decide +kernel
theorem dX12_worked_214 : decode cX12_worked 214 = .ok (.if_icmp .lt 11, 3) := by decide +kernel
theorem dX12_worked_217 : decode cX12_worked 217 = .ok (.iload 4, 2) := by decide +kernel
theorem dX12_worked_219 : decode cX12_worked 219 = .ok (.bipush 100, 2) := by decide +kernel
theorem dX12_worked_221 : decode cX12_worked 221 = .ok (.isub, 1) := by decide +kernel
theorem dX12_worked_222 : decode cX12_worked 222 = .ok (.goto 21, 3) := by decide +kernel
theorem dX12_worked_225 : decode cX12_worked 225 = .ok (.iload 4, 2) := by decide +kernel
theorem dX12_worked_227 : decode cX12_worked 227 = .ok (.bipush 20, 2) := by decide +kernel
theorem dX12_worked_229 : decode cX12_worked 229 = .ok (.if_icmp .ge 13, 3) := by decide +kernel
theorem dX12_worked_232 : decode cX12_worked 232 = .ok (.aload_n 0, 1) := by decide +kernel
theorem dX12_worked_233 : decode cX12_worked 233 = .ok (.getfield 105, 3) := by decide +kernel
theorem dX12_worked_236 : decode cX12_worked 236 = .ok (.iload 4, 2) := by decide +kernel
theorem dX12_worked_238 : decode cX12_worked 238 = .ok (.iaload, 1) := by decide +kernel
theorem dX12_worked_239 : decode cX12_worked 239 = .ok (.goto 4, 3) := by decide +kernel
theorem dX12_worked_242 : decode cX12_worked 242 = .ok (.iconst 0, 1) := by decide +kernel
theorem dX12_worked_243 : decode cX12_worked 243 = .ok (.istore 5, 2) := by decide +kernel
theorem dX12_worked_245 : decode cX12_worked 245 = .ok (.iload 4, 2) := by decide +kernel
theorem dX12_worked_247 : decode cX12_worked 247 = .ok (.bipush 29, 2) := by decide +kernel
theorem dX12_worked_249 : decode cX12_worked 249 = .ok (.if_icmp .ne 19, 3) := by decide +kernel
theorem dX12_worked_252 : decode cX12_worked 252 = .ok (.aload_n 0, 1) := by decide +kernel
theorem dX12_worked_253 : decode cX12_worked 253 = .ok (.iload_n 2, 1) := by decide +kernel
theorem dX12_worked_254 : decode cX12_worked 254 = .ok (.invokevirtual 242, 3) := by decide +kernel
theorem dX12_worked_257 : decode cX12_worked 257 = .ok (.aload_n 0, 1) := by decide +kernel
theorem dX12_worked_258 : decode cX12_worked 258 = .ok (.getfield 78, 3) := by decide +kernel
theorem dX12_worked_261 : decode cX12_worked 261 = .ok (.iload_n 2, 1) := by decide +kernel
theorem dX12_worked_262 : decode cX12_worked 262 = .ok (.iaload, 1) := by decide +kernel
theorem dX12_worked_263 : decode cX12_worked 263 = .ok (.istore 5, 2) := by decide +kernel
theorem dX12_worked_265 : decode cX12_worked 265 = .ok (.iinc 2 (-1), 3) := by decide +kernel
theorem dX12_worked_268 : decode cX12_worked 268 = .ok (.iload_n 2, 1) := by decide +kernel
theorem dX12_worked_269 : decode cX12_worked 269 = .ok (.ifCond .le 31, 3) := by decide +kernel
theorem dX12_worked_272 : decode cX12_worked 272 = .ok (.aload_n 0, 1) := by decide +kernel
theorem dX12_worked_273 : decode cX12_worked 273 = .ok (.getfield 102, 3) := by decide +kernel
theorem dX12_worked_276 : decode cX12_worked 276 = .ok (.iload_n 2, 1) := by decide +kernel
theorem dX12_worked_277 : decode cX12_worked 277 = .ok (.iaload, 1) := by decide +kernel
theorem dX12_worked_278 : decode cX12_worked 278 = .ok (.iconst 1, 1) := by decide +kernel
theorem dX12_worked_279 : decode cX12_worked 279 = .ok (.if_icmp .ne 21, 3) := by decide +kernel
theorem dX12_worked_282 : decode cX12_worked 282 = .ok (.iload 5, 2) := by decide +kernel
theorem dX12_worked_284 : decode cX12_worked 284 = .ok (.ifCond .ne 7, 3) := by decide +kernel
theorem dX12_worked_287 : decode cX12_worked 287 = .ok (.iconst 1, 1) := by decide +kernel
theorem dX12_worked_288 : decode cX12_worked 288 = .ok (.goto 4, 3) := by decide +kernel
theorem dX12_worked_291 : decode cX12_worked 291 = .ok (.iconst 0, 1) := by decide +kernel
theorem dX12_worked_292 : decode cX12_worked 292 = .ok (.istore 5, 2) := by decide +kernel
theorem dX12_worked_294 : decode cX12_worked 294 = .ok (.iinc 2 (-1), 3) := by decide +kernel
theorem dX12_worked_297 : decode cX12_worked 297 = .ok (.goto (-29), 3) := by decide +kernel
theorem dX12_worked_300 : decode cX12_worked 300 = .ok (.aload_n 0, 1) := by decide +kernel
theorem dX12_worked_301 : decode cX12_worked 301 = .ok (.getfield 96, 3) := by decide +kernel
theorem dX12_worked_304 : decode cX12_worked 304 = .ok (.iload_n 2, 1) := by decide +kernel
theorem dX12_worked_305 : decode cX12_worked 305 = .ok (.aload_n 0, 1) := by decide +kernel
theorem dX12_worked_306 : decode cX12_worked 306 = .ok (.getfield 99, 3) := by decide +kernel
theorem dX12_worked_309 : decode cX12_worked 309 = .ok (.iload_n 2, 1) := by decide +kernel
theorem dX12_worked_310 : decode cX12_worked 310 = .ok (.iaload, 1) := by decide +kernel
theorem dX12_worked_311 : decode cX12_worked 311 = .ok (.ifCond .ne 8, 3) := by decide +kernel
theorem dX12_worked_314 : decode cX12_worked 314 = .ok (.iload 5, 2) := by decide +kernel
theorem dX12_worked_316 : decode cX12_worked 316 = .ok (.goto 12, 3) := by decide +kernel
theorem dX12_worked_319 : decode cX12_worked 319 = .ok (.aload_n 0, 1) := by decide +kernel
theorem dX12_worked_320 : decode cX12_worked 320 = .ok (.getfield 96, 3) := by decide +kernel
theorem dX12_worked_323 : decode cX12_worked 323 = .ok (.iload_n 2, 1) := by decide +kernel
theorem dX12_worked_324 : decode cX12_worked 324 = .ok (.iaload, 1) := by decide +kernel
theorem dX12_worked_325 : decode cX12_worked 325 = .ok (.iload 5, 2) := by decide +kernel
theorem dX12_worked_327 : decode cX12_worked 327 = .ok (.imul, 1) := by decide +kernel
theorem dX12_worked_328 : decode cX12_worked 328 = .ok (.iastore, 1) := by decide +kernel
theorem dX12_worked_329 : decode cX12_worked 329 = .ok (.iinc 3 1, 3) := by decide +kernel
theorem dX12_worked_332 : decode cX12_worked 332 = .ok (.goto (-318), 3) := by decide +kernel
theorem dX12_worked_335 : decode cX12_worked 335 = .ok (.aload_n 0, 1) := by decide +kernel
theorem dX12_worked_336 : decode cX12_worked 336 = .ok (.iconst 0, 1) := by decide +kernel
theorem dX12_worked_337 : decode cX12_worked 337 = .ok (.invokevirtual 242, 3) := by decide +kernel
theorem dX12_worked_340 : decode cX12_worked 340 = .ok (.aload_n 0, 1) := by decide +kernel
theorem dX12_worked_341 : decode cX12_worked 341 = .ok (.getfield 78, 3) := by decide +kernel
theorem dX12_worked_344 : decode cX12_worked 344 = .ok (.iconst 0, 1) := by decide +kernel
theorem dX12_worked_345 : decode cX12_worked 345 = .ok (.iaload, 1) := by decide +kernel
theorem dX12_worked_346 : decode cX12_worked 346 = .ok (.ireturn, 1) := by decide +kernel
theorem dX12_isKept_0 : decode cX12_isKept 0 = .ok (.aload_n 0, 1) := by decide +kernel
theorem dX12_isKept_1 : decode cX12_isKept 1 = .ok (.getfield 182, 3) := by decide +kernel
theorem dX12_isKept_4 : decode cX12_isKept 4 = .ok (.iconst 1, 1) := by decide +kernel
theorem dX12_isKept_5 : decode cX12_isKept 5 = .ok (.if_icmp .eq 5, 3) := by decide +kernel
theorem dX12_isKept_8 : decode cX12_isKept 8 = .ok (.iconst 1, 1) := by decide +kernel
theorem dX12_isKept_9 : decode cX12_isKept 9 = .ok (.ireturn, 1) := by decide +kernel
theorem dX12_isKept_10 : decode cX12_isKept 10 = .ok (.aload_n 0, 1) := by decide +kernel
theorem dX12_isKept_11 : decode cX12_isKept 11 = .ok (.getfield 175, 3) := by decide +kernel
theorem dX12_isKept_14 : decode cX12_isKept 14 = .ok (.ldc2_w 245, 3) := by decide +kernel
theorem dX12_isKept_17 : decode cX12_isKept 17 = .ok (.lcmp, 1) := by decide +kernel
theorem dX12_isKept_18 : decode cX12_isKept 18 = .ok (.ifCond .eq 267, 3) := by decide +kernel
theorem dX12_isKept_21 : decode cX12_isKept 21 = .ok (.aload_n 0, 1) := by decide +kernel
theorem dX12_isKept_22 : decode cX12_isKept 22 = .ok (.getfield 175, 3) := by decide +kernel
theorem dX12_isKept_25 : decode cX12_isKept 25 = .ok (.ldc2_w 247, 3) := by decide +kernel
theorem dX12_isKept_28 : decode cX12_isKept 28 = .ok (.lcmp, 1) := by decide +kernel
theorem dX12_isKept_29 : decode cX12_isKept 29 = .ok (.ifCond .eq 256, 3) := by decide +kernel
theorem dX12_isKept_32 : decode cX12_isKept 32 = .ok (.aload_n 0, 1) := by decide +kernel
theorem dX12_isKept_33 : decode cX12_isKept 33 = .ok (.getfield 175, 3) := by decide +kernel
theorem dX12_isKept_36 : decode cX12_isKept 36 = .ok (.ldc2_w 249, 3) := by decide +kernel
theorem dX12_isKept_39 : decode cX12_isKept 39 = .ok (.lcmp, 1) := by decide +kernel
theorem dX12_isKept_40 : decode cX12_isKept 40 = .ok (.ifCond .eq 245, 3) := by decide +kernel
theorem dX12_isKept_43 : decode cX12_isKept 43 = .ok (.aload_n 0, 1) := by decide +kernel
theorem dX12_isKept_44 : decode cX12_isKept 44 = .ok (.getfield 175, 3) := by decide +kernel
theorem dX12_isKept_47 : decode cX12_isKept 47 = .ok (.ldc2_w 206, 3) := by decide +kernel
theorem dX12_isKept_50 : decode cX12_isKept 50 = .ok (.lcmp, 1) := by decide +kernel
theorem dX12_isKept_51 : decode cX12_isKept 51 = .ok (.ifCond .eq 234, 3) := by decide +kernel
theorem dX12_isKept_54 : decode cX12_isKept 54 = .ok (.aload_n 0, 1) := by decide +kernel
theorem dX12_isKept_55 : decode cX12_isKept 55 = .ok (.getfield 175, 3) := by decide +kernel
theorem dX12_isKept_58 : decode cX12_isKept 58 = .ok (.ldc2_w 251, 3) := by decide +kernel
theorem dX12_isKept_61 : decode cX12_isKept 61 = .ok (.lcmp, 1) := by decide +kernel
theorem dX12_isKept_62 : decode cX12_isKept 62 = .ok (.ifCond .eq 223, 3) := by decide +kernel
theorem dX12_isKept_65 : decode cX12_isKept 65 = .ok (.aload_n 0, 1) := by decide +kernel
theorem dX12_isKept_66 : decode cX12_isKept 66 = .ok (.getfield 175, 3) := by decide +kernel
theorem dX12_isKept_69 : decode cX12_isKept 69 = .ok (.ldc2_w 253, 3) := by decide +kernel
theorem dX12_isKept_72 : decode cX12_isKept 72 = .ok (.lcmp, 1) := by decide +kernel
theorem dX12_isKept_73 : decode cX12_isKept 73 = .ok (.ifCond .eq 212, 3) := by decide +kernel
theorem dX12_isKept_76 : decode cX12_isKept 76 = .ok (.aload_n 0, 1) := by decide +kernel
theorem dX12_isKept_77 : decode cX12_isKept 77 = .ok (.getfield 175, 3) := by decide +kernel
theorem dX12_isKept_80 : decode cX12_isKept 80 = .ok (.ldc2_w 255, 3) := by decide +kernel
theorem dX12_isKept_83 : decode cX12_isKept 83 = .ok (.lcmp, 1) := by decide +kernel
theorem dX12_isKept_84 : decode cX12_isKept 84 = .ok (.ifCond .eq 201, 3) := by decide +kernel
theorem dX12_isKept_87 : decode cX12_isKept 87 = .ok (.aload_n 0, 1) := by decide +kernel
theorem dX12_isKept_88 : decode cX12_isKept 88 = .ok (.getfield 175, 3) := by decide +kernel
theorem dX12_isKept_91 : decode cX12_isKept 91 = .ok (.ldc2_w 257, 3) := by decide +kernel
theorem dX12_isKept_94 : decode cX12_isKept 94 = .ok (.lcmp, 1) := by decide +kernel
theorem dX12_isKept_95 : decode cX12_isKept 95 = .ok (.ifCond .eq 190, 3) := by decide +kernel
theorem dX12_isKept_98 : decode cX12_isKept 98 = .ok (.aload_n 0, 1) := by decide +kernel
theorem dX12_isKept_99 : decode cX12_isKept 99 = .ok (.getfield 175, 3) := by decide +kernel
theorem dX12_isKept_102 : decode cX12_isKept 102 = .ok (.ldc2_w 259, 3) := by decide +kernel
theorem dX12_isKept_105 : decode cX12_isKept 105 = .ok (.lcmp, 1) := by decide +kernel
theorem dX12_isKept_106 : decode cX12_isKept 106 = .ok (.ifCond .eq 179, 3) := by decide +kernel
theorem dX12_isKept_109 : decode cX12_isKept 109 = .ok (.aload_n 0, 1) := by decide +kernel
theorem dX12_isKept_110 : decode cX12_isKept 110 = .ok (.getfield 175, 3) := by decide +kernel
theorem dX12_isKept_113 : decode cX12_isKept 113 = .ok (.ldc2_w 261, 3) := by decide +kernel
theorem dX12_isKept_116 : decode cX12_isKept 116 = .ok (.lcmp, 1) := by decide +kernel
theorem dX12_isKept_117 : decode cX12_isKept 117 = .ok (.ifCond .eq 168, 3) := by decide +kernel
theorem dX12_isKept_120 : decode cX12_isKept 120 = .ok (.aload_n 0, 1) := by decide +kernel
theorem dX12_isKept_121 : decode cX12_isKept 121 = .ok (.getfield 175, 3) := by decide +kernel
theorem dX12_isKept_124 : decode cX12_isKept 124 = .ok (.ldc2_w 263, 3) := by decide +kernel
theorem dX12_isKept_127 : decode cX12_isKept 127 = .ok (.lcmp, 1) := by decide +kernel
theorem dX12_isKept_128 : decode cX12_isKept 128 = .ok (.ifCond .eq 157, 3) := by decide +kernel
theorem dX12_isKept_131 : decode cX12_isKept 131 = .ok (.aload_n 0, 1) := by decide +kernel
theorem dX12_isKept_132 : decode cX12_isKept 132 = .ok (.getfield 175, 3) := by decide +kernel
theorem dX12_isKept_135 : decode cX12_isKept 135 = .ok (.ldc2_w 265, 3) := by decide +kernel
theorem dX12_isKept_138 : decode cX12_isKept 138 = .ok (.lcmp, 1) := by decide +kernel
theorem dX12_isKept_139 : decode cX12_isKept 139 = .ok (.ifCond .eq 146, 3) := by decide +kernel
theorem dX12_isKept_142 : decode cX12_isKept 142 = .ok (.aload_n 0, 1) := by decide +kernel
theorem dX12_isKept_143 : decode cX12_isKept 143 = .ok (.getfield 175, 3) := by decide +kernel
theorem dX12_isKept_146 : decode cX12_isKept 146 = .ok (.ldc2_w 267, 3) := by decide +kernel
theorem dX12_isKept_149 : decode cX12_isKept 149 = .ok (.lcmp, 1) := by decide +kernel
theorem dX12_isKept_150 : decode cX12_isKept 150 = .ok (.ifCond .eq 135, 3) := by decide +kernel
theorem dX12_isKept_153 : decode cX12_isKept 153 = .ok (.aload_n 0, 1) := by decide +kernel
theorem dX12_isKept_154 : decode cX12_isKept 154 = .ok (.getfield 175, 3) := by decide +kernel
theorem dX12_isKept_157 : decode cX12_isKept 157 = .ok (.ldc2_w 269, 3) := by decide +kernel
theorem dX12_isKept_160 : decode cX12_isKept 160 = .ok (.lcmp, 1) := by decide +kernel
theorem dX12_isKept_161 : decode cX12_isKept 161 = .ok (.ifCond .eq 124, 3) := by decide +kernel
theorem dX12_isKept_164 : decode cX12_isKept 164 = .ok (.aload_n 0, 1) := by decide +kernel
theorem dX12_isKept_165 : decode cX12_isKept 165 = .ok (.getfield 175, 3) := by decide +kernel
theorem dX12_isKept_168 : decode cX12_isKept 168 = .ok (.ldc2_w 271, 3) := by decide +kernel
theorem dX12_isKept_171 : decode cX12_isKept 171 = .ok (.lcmp, 1) := by decide +kernel
theorem dX12_isKept_172 : decode cX12_isKept 172 = .ok (.ifCond .eq 113, 3) := by decide +kernel
theorem dX12_isKept_175 : decode cX12_isKept 175 = .ok (.aload_n 0, 1) := by decide +kernel
theorem dX12_isKept_176 : decode cX12_isKept 176 = .ok (.getfield 175, 3) := by decide +kernel
theorem dX12_isKept_179 : decode cX12_isKept 179 = .ok (.ldc2_w 273, 3) := by decide +kernel
theorem dX12_isKept_182 : decode cX12_isKept 182 = .ok (.lcmp, 1) := by decide +kernel
theorem dX12_isKept_183 : decode cX12_isKept 183 = .ok (.ifCond .eq 102, 3) := by decide +kernel
theorem dX12_isKept_186 : decode cX12_isKept 186 = .ok (.aload_n 0, 1) := by decide +kernel
theorem dX12_isKept_187 : decode cX12_isKept 187 = .ok (.getfield 175, 3) := by decide +kernel
theorem dX12_isKept_190 : decode cX12_isKept 190 = .ok (.ldc2_w 275, 3) := by decide +kernel
theorem dX12_isKept_193 : decode cX12_isKept 193 = .ok (.lcmp, 1) := by decide +kernel
theorem dX12_isKept_194 : decode cX12_isKept 194 = .ok (.ifCond .eq 91, 3) := by decide +kernel
theorem dX12_isKept_197 : decode cX12_isKept 197 = .ok (.aload_n 0, 1) := by decide +kernel
theorem dX12_isKept_198 : decode cX12_isKept 198 = .ok (.getfield 175, 3) := by decide +kernel
theorem dX12_isKept_201 : decode cX12_isKept 201 = .ok (.ldc2_w 277, 3) := by decide +kernel
theorem dX12_isKept_204 : decode cX12_isKept 204 = .ok (.lcmp, 1) := by decide +kernel
theorem dX12_isKept_205 : decode cX12_isKept 205 = .ok (.ifCond .eq 80, 3) := by decide +kernel
theorem dX12_isKept_208 : decode cX12_isKept 208 = .ok (.aload_n 0, 1) := by decide +kernel
theorem dX12_isKept_209 : decode cX12_isKept 209 = .ok (.getfield 175, 3) := by decide +kernel
theorem dX12_isKept_212 : decode cX12_isKept 212 = .ok (.ldc2_w 279, 3) := by decide +kernel
theorem dX12_isKept_215 : decode cX12_isKept 215 = .ok (.lcmp, 1) := by decide +kernel
theorem dX12_isKept_216 : decode cX12_isKept 216 = .ok (.ifCond .eq 69, 3) := by decide +kernel
theorem dX12_isKept_219 : decode cX12_isKept 219 = .ok (.aload_n 0, 1) := by decide +kernel
theorem dX12_isKept_220 : decode cX12_isKept 220 = .ok (.getfield 175, 3) := by decide +kernel
theorem dX12_isKept_223 : decode cX12_isKept 223 = .ok (.ldc2_w 281, 3) := by decide +kernel
theorem dX12_isKept_226 : decode cX12_isKept 226 = .ok (.lcmp, 1) := by decide +kernel
theorem dX12_isKept_227 : decode cX12_isKept 227 = .ok (.ifCond .eq 58, 3) := by decide +kernel
theorem dX12_isKept_230 : decode cX12_isKept 230 = .ok (.aload_n 0, 1) := by decide +kernel
theorem dX12_isKept_231 : decode cX12_isKept 231 = .ok (.getfield 175, 3) := by decide +kernel
theorem dX12_isKept_234 : decode cX12_isKept 234 = .ok (.ldc2_w 283, 3) := by decide +kernel
theorem dX12_isKept_237 : decode cX12_isKept 237 = .ok (.lcmp, 1) := by decide +kernel
theorem dX12_isKept_238 : decode cX12_isKept 238 = .ok (.ifCond .eq 47, 3) := by decide +kernel
theorem dX12_isKept_241 : decode cX12_isKept 241 = .ok (.aload_n 0, 1) := by decide +kernel
theorem dX12_isKept_242 : decode cX12_isKept 242 = .ok (.getfield 175, 3) := by decide +kernel
theorem dX12_isKept_245 : decode cX12_isKept 245 = .ok (.ldc2_w 285, 3) := by decide +kernel
theorem dX12_isKept_248 : decode cX12_isKept 248 = .ok (.lcmp, 1) := by decide +kernel
theorem dX12_isKept_249 : decode cX12_isKept 249 = .ok (.ifCond .eq 36, 3) := by decide +kernel
theorem dX12_isKept_252 : decode cX12_isKept 252 = .ok (.aload_n 0, 1) := by decide +kernel
theorem dX12_isKept_253 : decode cX12_isKept 253 = .ok (.getfield 175, 3) := by decide +kernel
theorem dX12_isKept_256 : decode cX12_isKept 256 = .ok (.ldc2_w 212, 3) := by decide +kernel
theorem dX12_isKept_259 : decode cX12_isKept 259 = .ok (.lcmp, 1) := by decide +kernel
theorem dX12_isKept_260 : decode cX12_isKept 260 = .ok (.ifCond .eq 25, 3) := by decide +kernel
theorem dX12_isKept_263 : decode cX12_isKept 263 = .ok (.aload_n 0, 1) := by decide +kernel
theorem dX12_isKept_264 : decode cX12_isKept 264 = .ok (.getfield 175, 3) := by decide +kernel
theorem dX12_isKept_267 : decode cX12_isKept 267 = .ok (.ldc2_w 232, 3) := by decide +kernel
theorem dX12_isKept_270 : decode cX12_isKept 270 = .ok (.lcmp, 1) := by decide +kernel
theorem dX12_isKept_271 : decode cX12_isKept 271 = .ok (.ifCond .eq 14, 3) := by decide +kernel
theorem dX12_isKept_274 : decode cX12_isKept 274 = .ok (.aload_n 0, 1) := by decide +kernel
theorem dX12_isKept_275 : decode cX12_isKept 275 = .ok (.getfield 175, 3) := by decide +kernel
theorem dX12_isKept_278 : decode cX12_isKept 278 = .ok (.ldc2_w 234, 3) := by decide +kernel
theorem dX12_isKept_281 : decode cX12_isKept 281 = .ok (.lcmp, 1) := by decide +kernel
theorem dX12_isKept_282 : decode cX12_isKept 282 = .ok (.ifCond .ne 7, 3) := by decide +kernel
theorem dX12_isKept_285 : decode cX12_isKept 285 = .ok (.iconst 1, 1) := by decide +kernel
theorem dX12_isKept_286 : decode cX12_isKept 286 = .ok (.goto 4, 3) := by decide +kernel
theorem dX12_isKept_289 : decode cX12_isKept 289 = .ok (.iconst 0, 1) := by decide +kernel
theorem dX12_isKept_290 : decode cX12_isKept 290 = .ok (.ireturn, 1) := by decide +kernel
theorem dX12_needsNumber_0 : decode cX12_needsNumber 0 = .ok (.aload_n 0, 1) := by decide +kernel
theorem dX12_needsNumber_1 : decode cX12_needsNumber 1 = .ok (.getfield 182, 3) := by decide +kernel
theorem dX12_needsNumber_4 : decode cX12_needsNumber 4 = .ok (.iconst 2, 1) := by decide +kernel
theorem dX12_needsNumber_5 : decode cX12_needsNumber 5 = .ok (.if_icmp .eq 11, 3) := by decide +kernel
theorem dX12_needsNumber_8 : decode cX12_needsNumber 8 = .ok (.aload_n 0, 1) := by decide +kernel
theorem dX12_needsNumber_9 : decode cX12_needsNumber 9 = .ok (.iconst 1, 1) := by decide +kernel
theorem dX12_needsNumber_10 : decode cX12_needsNumber 10 = .ok (.invokevirtual 222, 3) := by decide +kernel
theorem dX12_needsNumber_13 : decode cX12_needsNumber 13 = .ok (.goto 28, 3) := by decide +kernel
theorem dX12_needsNumber_16 : decode cX12_needsNumber 16 = .ok (.aload_n 0, 1) := by decide +kernel
theorem dX12_needsNumber_17 : decode cX12_needsNumber 17 = .ok (.getfield 179, 3) := by decide +kernel
theorem dX12_needsNumber_20 : decode cX12_needsNumber 20 = .ok (.iload_n 1, 1) := by decide +kernel
theorem dX12_needsNumber_21 : decode cX12_needsNumber 21 = .ok (.iload_n 2, 1) := by decide +kernel
theorem dX12_needsNumber_22 : decode cX12_needsNumber 22 = .ok (.invokestatic 287, 3) := by decide +kernel
theorem dX12_needsNumber_25 : decode cX12_needsNumber 25 = .ok (.ifCond .ne 11, 3) := by decide +kernel
theorem dX12_needsNumber_28 : decode cX12_needsNumber 28 = .ok (.aload_n 0, 1) := by decide +kernel
theorem dX12_needsNumber_29 : decode cX12_needsNumber 29 = .ok (.iconst 4, 1) := by decide +kernel
theorem dX12_needsNumber_30 : decode cX12_needsNumber 30 = .ok (.invokevirtual 222, 3) := by decide +kernel
theorem dX12_needsNumber_33 : decode cX12_needsNumber 33 = .ok (.ifCond .eq 7, 3) := by decide +kernel
theorem dX12_needsNumber_36 : decode cX12_needsNumber 36 = .ok (.iconst 1, 1) := by decide +kernel
theorem dX12_needsNumber_37 : decode cX12_needsNumber 37 = .ok (.goto 4, 3) := by decide +kernel
theorem dX12_needsNumber_40 : decode cX12_needsNumber 40 = .ok (.iconst 0, 1) := by decide +kernel
theorem dX12_needsNumber_41 : decode cX12_needsNumber 41 = .ok (.ireturn, 1) := by decide +kernel
theorem dX12_needs_0 : decode cX12_needs 0 = .ok (.aload_n 0, 1) := by decide +kernel
theorem dX12_needs_1 : decode cX12_needs 1 = .ok (.lload_n 1, 1) := by decide +kernel
theorem dX12_needs_2 : decode cX12_needs 2 = .ok (.invokevirtual 214, 3) := by decide +kernel
theorem dX12_needs_5 : decode cX12_needs 5 = .ok (.ifCond .ne 9, 3) := by decide +kernel
theorem dX12_needs_8 : decode cX12_needs 8 = .ok (.aload_n 0, 1) := by decide +kernel
theorem dX12_needs_9 : decode cX12_needs 9 = .ok (.iconst 1, 1) := by decide +kernel
theorem dX12_needs_10 : decode cX12_needs 10 = .ok (.invokevirtual 222, 3) := by decide +kernel
theorem dX12_needs_13 : decode cX12_needs 13 = .ok (.ireturn, 1) := by decide +kernel
theorem dX12_needs_14 : decode cX12_needs 14 = .ok (.aload_n 0, 1) := by decide +kernel
theorem dX12_needs_15 : decode cX12_needs 15 = .ok (.invokevirtual 229, 3) := by decide +kernel
theorem dX12_needs_18 : decode cX12_needs 18 = .ok (.aload_n 0, 1) := by decide +kernel
theorem dX12_needs_19 : decode cX12_needs 19 = .ok (.iload_n 3, 1) := by decide +kernel
theorem dX12_needs_20 : decode cX12_needs 20 = .ok (.iload 4, 2) := by decide +kernel
theorem dX12_needs_22 : decode cX12_needs 22 = .ok (.invokevirtual 291, 3) := by decide +kernel
theorem dX12_needs_25 : decode cX12_needs 25 = .ok (.ifCond .ne 5, 3) := by decide +kernel
theorem dX12_needs_28 : decode cX12_needs 28 = .ok (.iconst 0, 1) := by decide +kernel
theorem dX12_needs_29 : decode cX12_needs 29 = .ok (.ireturn, 1) := by decide +kernel
theorem dX12_needs_30 : decode cX12_needs 30 = .ok (.aload_n 0, 1) := by decide +kernel
theorem dX12_needs_31 : decode cX12_needs 31 = .ok (.aload_n 0, 1) := by decide +kernel
theorem dX12_needs_32 : decode cX12_needs 32 = .ok (.getfield 179, 3) := by decide +kernel
theorem dX12_needs_35 : decode cX12_needs 35 = .ok (.putfield 295, 3) := by decide +kernel
theorem dX12_needs_38 : decode cX12_needs 38 = .ok (.aload_n 0, 1) := by decide +kernel
theorem dX12_needs_39 : decode cX12_needs 39 = .ok (.invokevirtual 229, 3) := by decide +kernel
theorem dX12_needs_42 : decode cX12_needs 42 = .ok (.iconst 1, 1) := by decide +kernel
theorem dX12_needs_43 : decode cX12_needs 43 = .ok (.ireturn, 1) := by decide +kernel
theorem dX12_ends_0 : decode cX12_ends 0 = .ok (.aload_n 0, 1) := by decide +kernel
theorem dX12_ends_1 : decode cX12_ends 1 = .ok (.bipush 59, 2) := by decide +kernel
theorem dX12_ends_3 : decode cX12_ends 3 = .ok (.invokevirtual 218, 3) := by decide +kernel
theorem dX12_ends_6 : decode cX12_ends 6 = .ok (.ifCond .ne 9, 3) := by decide +kernel
theorem dX12_ends_9 : decode cX12_ends 9 = .ok (.aload_n 0, 1) := by decide +kernel
theorem dX12_ends_10 : decode cX12_ends 10 = .ok (.iconst 1, 1) := by decide +kernel
theorem dX12_ends_11 : decode cX12_ends 11 = .ok (.invokevirtual 222, 3) := by decide +kernel
theorem dX12_ends_14 : decode cX12_ends 14 = .ok (.ireturn, 1) := by decide +kernel
theorem dX12_ends_15 : decode cX12_ends 15 = .ok (.aload_n 0, 1) := by decide +kernel
theorem dX12_ends_16 : decode cX12_ends 16 = .ok (.invokevirtual 229, 3) := by decide +kernel
theorem dX12_ends_19 : decode cX12_ends 19 = .ok (.iconst 1, 1) := by decide +kernel
theorem dX12_ends_20 : decode cX12_ends 20 = .ok (.ireturn, 1) := by decide +kernel
theorem dX12_bowlOf_0 : decode cX12_bowlOf 0 = .ok (.iconst 0, 1) := by decide +kernel
theorem dX12_bowlOf_1 : decode cX12_bowlOf 1 = .ok (.istore_n 1, 1) := by decide +kernel
theorem dX12_bowlOf_2 : decode cX12_bowlOf 2 = .ok (.iload_n 1, 1) := by decide +kernel
theorem dX12_bowlOf_3 : decode cX12_bowlOf 3 = .ok (.aload_n 0, 1) := by decide +kernel
theorem dX12_bowlOf_4 : decode cX12_bowlOf 4 = .ok (.getfield 13, 3) := by decide +kernel
theorem dX12_bowlOf_7 : decode cX12_bowlOf 7 = .ok (.iconst 1, 1) := by decide +kernel
theorem dX12_bowlOf_8 : decode cX12_bowlOf 8 = .ok (.iaload, 1) := by decide +kernel
theorem dX12_bowlOf_9 : decode cX12_bowlOf 9 = .ok (.if_icmp .ge 25, 3) := by decide +kernel
theorem dX12_bowlOf_12 : decode cX12_bowlOf 12 = .ok (.aload_n 0, 1) := by decide +kernel
theorem dX12_bowlOf_13 : decode cX12_bowlOf 13 = .ok (.getfield 22, 3) := by decide +kernel
theorem dX12_bowlOf_16 : decode cX12_bowlOf 16 = .ok (.iload_n 1, 1) := by decide +kernel
theorem dX12_bowlOf_17 : decode cX12_bowlOf 17 = .ok (.laload, 1) := by decide +kernel
theorem dX12_bowlOf_18 : decode cX12_bowlOf 18 = .ok (.aload_n 0, 1) := by decide +kernel
theorem dX12_bowlOf_19 : decode cX12_bowlOf 19 = .ok (.getfield 175, 3) := by decide +kernel
theorem dX12_bowlOf_22 : decode cX12_bowlOf 22 = .ok (.lcmp, 1) := by decide +kernel
theorem dX12_bowlOf_23 : decode cX12_bowlOf 23 = .ok (.ifCond .ne 5, 3) := by decide +kernel
theorem dX12_bowlOf_26 : decode cX12_bowlOf 26 = .ok (.iload_n 1, 1) := by decide +kernel
theorem dX12_bowlOf_27 : decode cX12_bowlOf 27 = .ok (.ireturn, 1) := by decide +kernel
theorem dX12_bowlOf_28 : decode cX12_bowlOf 28 = .ok (.iinc 1 1, 3) := by decide +kernel
theorem dX12_bowlOf_31 : decode cX12_bowlOf 31 = .ok (.goto (-29), 3) := by decide +kernel
theorem dX12_bowlOf_34 : decode cX12_bowlOf 34 = .ok (.iconst (-1), 1) := by decide +kernel
theorem dX12_bowlOf_35 : decode cX12_bowlOf 35 = .ok (.ireturn, 1) := by decide +kernel
theorem dX12_readsBowl_0 : decode cX12_readsBowl 0 = .ok (.aload_n 0, 1) := by decide +kernel
theorem dX12_readsBowl_1 : decode cX12_readsBowl 1 = .ok (.getfield 13, 3) := by decide +kernel
theorem dX12_readsBowl_4 : decode cX12_readsBowl 4 = .ok (.iconst 1, 1) := by decide +kernel
theorem dX12_readsBowl_5 : decode cX12_readsBowl 5 = .ok (.iaload, 1) := by decide +kernel
theorem dX12_readsBowl_6 : decode cX12_readsBowl 6 = .ok (.bipush 12, 2) := by decide +kernel
theorem dX12_readsBowl_8 : decode cX12_readsBowl 8 = .ok (.if_icmp .ne 9, 3) := by decide +kernel
theorem dX12_readsBowl_11 : decode cX12_readsBowl 11 = .ok (.aload_n 0, 1) := by decide +kernel
theorem dX12_readsBowl_12 : decode cX12_readsBowl 12 = .ok (.iconst 5, 1) := by decide +kernel
theorem dX12_readsBowl_13 : decode cX12_readsBowl 13 = .ok (.invokevirtual 222, 3) := by decide +kernel
theorem dX12_readsBowl_16 : decode cX12_readsBowl 16 = .ok (.ireturn, 1) := by decide +kernel
theorem dX12_readsBowl_17 : decode cX12_readsBowl 17 = .ok (.aload_n 0, 1) := by decide +kernel
theorem dX12_readsBowl_18 : decode cX12_readsBowl 18 = .ok (.invokevirtual 229, 3) := by decide +kernel
theorem dX12_readsBowl_21 : decode cX12_readsBowl 21 = .ok (.aload_n 0, 1) := by decide +kernel
theorem dX12_readsBowl_22 : decode cX12_readsBowl 22 = .ok (.invokevirtual 298, 3) := by decide +kernel
theorem dX12_readsBowl_25 : decode cX12_readsBowl 25 = .ok (.ifCond .eq 9, 3) := by decide +kernel
theorem dX12_readsBowl_28 : decode cX12_readsBowl 28 = .ok (.aload_n 0, 1) := by decide +kernel
theorem dX12_readsBowl_29 : decode cX12_readsBowl 29 = .ok (.iconst 1, 1) := by decide +kernel
theorem dX12_readsBowl_30 : decode cX12_readsBowl 30 = .ok (.invokevirtual 222, 3) := by decide +kernel
theorem dX12_readsBowl_33 : decode cX12_readsBowl 33 = .ok (.ireturn, 1) := by decide +kernel
theorem dX12_readsBowl_34 : decode cX12_readsBowl 34 = .ok (.aload_n 0, 1) := by decide +kernel
theorem dX12_readsBowl_35 : decode cX12_readsBowl 35 = .ok (.invokevirtual 302, 3) := by decide +kernel
theorem dX12_readsBowl_38 : decode cX12_readsBowl 38 = .ok (.ifCond .lt 9, 3) := by decide +kernel
theorem dX12_readsBowl_41 : decode cX12_readsBowl 41 = .ok (.aload_n 0, 1) := by decide +kernel
theorem dX12_readsBowl_42 : decode cX12_readsBowl 42 = .ok (.iconst 3, 1) := by decide +kernel
theorem dX12_readsBowl_43 : decode cX12_readsBowl 43 = .ok (.invokevirtual 222, 3) := by decide +kernel
theorem dX12_readsBowl_46 : decode cX12_readsBowl 46 = .ok (.ireturn, 1) := by decide +kernel
theorem dX12_readsBowl_47 : decode cX12_readsBowl 47 = .ok (.bipush 12, 2) := by decide +kernel
theorem dX12_readsBowl_49 : decode cX12_readsBowl 49 = .ok (.aload_n 0, 1) := by decide +kernel
theorem dX12_readsBowl_50 : decode cX12_readsBowl 50 = .ok (.getfield 13, 3) := by decide +kernel
theorem dX12_readsBowl_53 : decode cX12_readsBowl 53 = .ok (.iconst 1, 1) := by decide +kernel
theorem dX12_readsBowl_54 : decode cX12_readsBowl 54 = .ok (.iaload, 1) := by decide +kernel
theorem dX12_readsBowl_55 : decode cX12_readsBowl 55 = .ok (.iadd, 1) := by decide +kernel
theorem dX12_readsBowl_56 : decode cX12_readsBowl 56 = .ok (.istore_n 1, 1) := by decide +kernel
theorem dX12_readsBowl_57 : decode cX12_readsBowl 57 = .ok (.aload_n 0, 1) := by decide +kernel
theorem dX12_readsBowl_58 : decode cX12_readsBowl 58 = .ok (.getfield 22, 3) := by decide +kernel
theorem dX12_readsBowl_61 : decode cX12_readsBowl 61 = .ok (.aload_n 0, 1) := by decide +kernel
theorem dX12_readsBowl_62 : decode cX12_readsBowl 62 = .ok (.getfield 13, 3) := by decide +kernel
theorem dX12_readsBowl_65 : decode cX12_readsBowl 65 = .ok (.iconst 1, 1) := by decide +kernel
theorem dX12_readsBowl_66 : decode cX12_readsBowl 66 = .ok (.iaload, 1) := by decide +kernel
theorem dX12_readsBowl_67 : decode cX12_readsBowl 67 = .ok (.aload_n 0, 1) := by decide +kernel
theorem dX12_readsBowl_68 : decode cX12_readsBowl 68 = .ok (.getfield 175, 3) := by decide +kernel
theorem dX12_readsBowl_71 : decode cX12_readsBowl 71 = .ok (.lastore, 1) := by decide +kernel
theorem dX12_readsBowl_72 : decode cX12_readsBowl 72 = .ok (.aload_n 0, 1) := by decide +kernel
theorem dX12_readsBowl_73 : decode cX12_readsBowl 73 = .ok (.invokevirtual 229, 3) := by decide +kernel
theorem dX12_readsBowl_76 : decode cX12_readsBowl 76 = .ok (.aload_n 0, 1) := by decide +kernel
theorem dX12_readsBowl_77 : decode cX12_readsBowl 77 = .ok (.ldc2_w 247, 3) := by decide +kernel
theorem dX12_readsBowl_80 : decode cX12_readsBowl 80 = .ok (.iconst 1, 1) := by decide +kernel
theorem dX12_readsBowl_81 : decode cX12_readsBowl 81 = .ok (.sipush 9999, 3) := by decide +kernel
theorem dX12_readsBowl_84 : decode cX12_readsBowl 84 = .ok (.invokevirtual 305, 3) := by decide +kernel
theorem dX12_readsBowl_87 : decode cX12_readsBowl 87 = .ok (.ifCond .ne 5, 3) := by decide +kernel
theorem dX12_readsBowl_90 : decode cX12_readsBowl 90 = .ok (.iconst 0, 1) := by decide +kernel
theorem dX12_readsBowl_91 : decode cX12_readsBowl 91 = .ok (.ireturn, 1) := by decide +kernel
theorem dX12_readsBowl_92 : decode cX12_readsBowl 92 = .ok (.aload_n 0, 1) := by decide +kernel
theorem dX12_readsBowl_93 : decode cX12_readsBowl 93 = .ok (.getfield 26, 3) := by decide +kernel
theorem dX12_readsBowl_96 : decode cX12_readsBowl 96 = .ok (.iload_n 1, 1) := by decide +kernel
theorem dX12_readsBowl_97 : decode cX12_readsBowl 97 = .ok (.aload_n 0, 1) := by decide +kernel
theorem dX12_readsBowl_98 : decode cX12_readsBowl 98 = .ok (.getfield 295, 3) := by decide +kernel
theorem dX12_readsBowl_101 : decode cX12_readsBowl 101 = .ok (.iastore, 1) := by decide +kernel
theorem dX12_readsBowl_102 : decode cX12_readsBowl 102 = .ok (.aload_n 0, 1) := by decide +kernel
theorem dX12_readsBowl_103 : decode cX12_readsBowl 103 = .ok (.ldc2_w 249, 3) := by decide +kernel
theorem dX12_readsBowl_106 : decode cX12_readsBowl 106 = .ok (.iconst 1, 1) := by decide +kernel
theorem dX12_readsBowl_107 : decode cX12_readsBowl 107 = .ok (.bipush 99, 2) := by decide +kernel
theorem dX12_readsBowl_109 : decode cX12_readsBowl 109 = .ok (.invokevirtual 305, 3) := by decide +kernel
theorem dX12_readsBowl_112 : decode cX12_readsBowl 112 = .ok (.ifCond .ne 5, 3) := by decide +kernel
theorem dX12_readsBowl_115 : decode cX12_readsBowl 115 = .ok (.iconst 0, 1) := by decide +kernel
theorem dX12_readsBowl_116 : decode cX12_readsBowl 116 = .ok (.ireturn, 1) := by decide +kernel
theorem dX12_readsBowl_117 : decode cX12_readsBowl 117 = .ok (.aload_n 0, 1) := by decide +kernel
theorem dX12_readsBowl_118 : decode cX12_readsBowl 118 = .ok (.getfield 29, 3) := by decide +kernel
theorem dX12_readsBowl_121 : decode cX12_readsBowl 121 = .ok (.iload_n 1, 1) := by decide +kernel
theorem dX12_readsBowl_122 : decode cX12_readsBowl 122 = .ok (.aload_n 0, 1) := by decide +kernel
