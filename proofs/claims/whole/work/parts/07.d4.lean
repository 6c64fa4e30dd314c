theorem dX12_readsBowl_123 : decode cX12_readsBowl 123 = .ok (.getfield 295, 3) := by decide +kernel
theorem dX12_readsBowl_126 : decode cX12_readsBowl 126 = .ok (.iastore, 1) := by decide +kernel
theorem dX12_readsBowl_127 : decode cX12_readsBowl 127 = .ok (.aload_n 0, 1) := by decide +kernel
theorem dX12_readsBowl_128 : decode cX12_readsBowl 128 = .ok (.ldc2_w 206, 3) := by decide +kernel
theorem dX12_readsBowl_131 : decode cX12_readsBowl 131 = .ok (.iconst 1, 1) := by decide +kernel
theorem dX12_readsBowl_132 : decode cX12_readsBowl 132 = .ok (.bipush 20, 2) := by decide +kernel
theorem dX12_readsBowl_134 : decode cX12_readsBowl 134 = .ok (.invokevirtual 305, 3) := by decide +kernel
theorem dX12_readsBowl_137 : decode cX12_readsBowl 137 = .ok (.ifCond .ne 5, 3) := by decide +kernel
theorem dX12_readsBowl_140 : decode cX12_readsBowl 140 = .ok (.iconst 0, 1) := by decide +kernel
theorem dX12_readsBowl_141 : decode cX12_readsBowl 141 = .ok (.ireturn, 1) := by decide +kernel
theorem dX12_readsBowl_142 : decode cX12_readsBowl 142 = .ok (.aload_n 0, 1) := by decide +kernel
theorem dX12_readsBowl_143 : decode cX12_readsBowl 143 = .ok (.getfield 32, 3) := by decide +kernel
theorem dX12_readsBowl_146 : decode cX12_readsBowl 146 = .ok (.iload_n 1, 1) := by decide +kernel
theorem dX12_readsBowl_147 : decode cX12_readsBowl 147 = .ok (.aload_n 0, 1) := by decide +kernel
theorem dX12_readsBowl_148 : decode cX12_readsBowl 148 = .ok (.getfield 295, 3) := by decide +kernel
theorem dX12_readsBowl_151 : decode cX12_readsBowl 151 = .ok (.iastore, 1) := by decide +kernel
theorem dX12_readsBowl_152 : decode cX12_readsBowl 152 = .ok (.aload_n 0, 1) := by decide +kernel
theorem dX12_readsBowl_153 : decode cX12_readsBowl 153 = .ok (.getfield 35, 3) := by decide +kernel
theorem dX12_readsBowl_156 : decode cX12_readsBowl 156 = .ok (.iload_n 1, 1) := by decide +kernel
theorem dX12_readsBowl_157 : decode cX12_readsBowl 157 = .ok (.aload_n 0, 1) := by decide +kernel
theorem dX12_readsBowl_158 : decode cX12_readsBowl 158 = .ok (.ldc2_w 251, 3) := by decide +kernel
theorem dX12_readsBowl_161 : decode cX12_readsBowl 161 = .ok (.invokevirtual 214, 3) := by decide +kernel
theorem dX12_readsBowl_164 : decode cX12_readsBowl 164 = .ok (.ifCond .eq 7, 3) := by decide +kernel
theorem dX12_readsBowl_167 : decode cX12_readsBowl 167 = .ok (.iconst 1, 1) := by decide +kernel
theorem dX12_readsBowl_168 : decode cX12_readsBowl 168 = .ok (.goto 32, 3) := by decide +kernel
theorem dX12_readsBowl_171 : decode cX12_readsBowl 171 = .ok (.aload_n 0, 1) := by decide +kernel
theorem dX12_readsBowl_172 : decode cX12_readsBowl 172 = .ok (.ldc2_w 253, 3) := by decide +kernel
theorem dX12_readsBowl_175 : decode cX12_readsBowl 175 = .ok (.invokevirtual 214, 3) := by decide +kernel
theorem dX12_readsBowl_178 : decode cX12_readsBowl 178 = .ok (.ifCond .eq 7, 3) := by decide +kernel
theorem dX12_readsBowl_181 : decode cX12_readsBowl 181 = .ok (.iconst 2, 1) := by decide +kernel
theorem dX12_readsBowl_182 : decode cX12_readsBowl 182 = .ok (.goto 18, 3) := by decide +kernel
theorem dX12_readsBowl_185 : decode cX12_readsBowl 185 = .ok (.aload_n 0, 1) := by decide +kernel
theorem dX12_readsBowl_186 : decode cX12_readsBowl 186 = .ok (.ldc2_w 255, 3) := by decide +kernel
theorem dX12_readsBowl_189 : decode cX12_readsBowl 189 = .ok (.invokevirtual 214, 3) := by decide +kernel
theorem dX12_readsBowl_192 : decode cX12_readsBowl 192 = .ok (.ifCond .eq 7, 3) := by decide +kernel
theorem dX12_readsBowl_195 : decode cX12_readsBowl 195 = .ok (.iconst 3, 1) := by decide +kernel
theorem dX12_readsBowl_196 : decode cX12_readsBowl 196 = .ok (.goto 4, 3) := by decide +kernel
theorem dX12_readsBowl_199 : decode cX12_readsBowl 199 = .ok (.iconst 0, 1) := by decide +kernel
theorem dX12_readsBowl_200 : decode cX12_readsBowl 200 = .ok (.iastore, 1) := by decide +kernel
theorem dX12_readsBowl_201 : decode cX12_readsBowl 201 = .ok (.aload_n 0, 1) := by decide +kernel
theorem dX12_readsBowl_202 : decode cX12_readsBowl 202 = .ok (.getfield 35, 3) := by decide +kernel
theorem dX12_readsBowl_205 : decode cX12_readsBowl 205 = .ok (.iload_n 1, 1) := by decide +kernel
theorem dX12_readsBowl_206 : decode cX12_readsBowl 206 = .ok (.iaload, 1) := by decide +kernel
theorem dX12_readsBowl_207 : decode cX12_readsBowl 207 = .ok (.ifCond .le 7, 3) := by decide +kernel
theorem dX12_readsBowl_210 : decode cX12_readsBowl 210 = .ok (.aload_n 0, 1) := by decide +kernel
theorem dX12_readsBowl_211 : decode cX12_readsBowl 211 = .ok (.invokevirtual 229, 3) := by decide +kernel
theorem dX12_readsBowl_214 : decode cX12_readsBowl 214 = .ok (.aload_n 0, 1) := by decide +kernel
theorem dX12_readsBowl_215 : decode cX12_readsBowl 215 = .ok (.getfield 13, 3) := by decide +kernel
theorem dX12_readsBowl_218 : decode cX12_readsBowl 218 = .ok (.iconst 1, 1) := by decide +kernel
theorem dX12_readsBowl_219 : decode cX12_readsBowl 219 = .ok (.dup2, 1) := by decide +kernel
theorem dX12_readsBowl_220 : decode cX12_readsBowl 220 = .ok (.iaload, 1) := by decide +kernel
theorem dX12_readsBowl_221 : decode cX12_readsBowl 221 = .ok (.iconst 1, 1) := by decide +kernel
theorem dX12_readsBowl_222 : decode cX12_readsBowl 222 = .ok (.iadd, 1) := by decide +kernel
theorem dX12_readsBowl_223 : decode cX12_readsBowl 223 = .ok (.iastore, 1) := by decide +kernel
theorem dX12_readsBowl_224 : decode cX12_readsBowl 224 = .ok (.aload_n 0, 1) := by decide +kernel
theorem dX12_readsBowl_225 : decode cX12_readsBowl 225 = .ok (.invokevirtual 309, 3) := by decide +kernel
theorem dX12_readsBowl_228 : decode cX12_readsBowl 228 = .ok (.ireturn, 1) := by decide +kernel
theorem dX12_readsPair_0 : decode cX12_readsPair 0 = .ok (.aload_n 0, 1) := by decide +kernel
theorem dX12_readsPair_1 : decode cX12_readsPair 1 = .ok (.getfield 16, 3) := by decide +kernel
theorem dX12_readsPair_4 : decode cX12_readsPair 4 = .ok (.iconst 1, 1) := by decide +kernel
theorem dX12_readsPair_5 : decode cX12_readsPair 5 = .ok (.iaload, 1) := by decide +kernel
theorem dX12_readsPair_6 : decode cX12_readsPair 6 = .ok (.bipush 8, 2) := by decide +kernel
theorem dX12_readsPair_8 : decode cX12_readsPair 8 = .ok (.if_icmp .ne 9, 3) := by decide +kernel
theorem dX12_readsPair_11 : decode cX12_readsPair 11 = .ok (.aload_n 0, 1) := by decide +kernel
theorem dX12_readsPair_12 : decode cX12_readsPair 12 = .ok (.iconst 5, 1) := by decide +kernel
theorem dX12_readsPair_13 : decode cX12_readsPair 13 = .ok (.invokevirtual 222, 3) := by decide +kernel
theorem dX12_readsPair_16 : decode cX12_readsPair 16 = .ok (.ireturn, 1) := by decide +kernel
theorem dX12_readsPair_17 : decode cX12_readsPair 17 = .ok (.bipush 8, 2) := by decide +kernel
theorem dX12_readsPair_19 : decode cX12_readsPair 19 = .ok (.aload_n 0, 1) := by decide +kernel
theorem dX12_readsPair_20 : decode cX12_readsPair 20 = .ok (.getfield 16, 3) := by decide +kernel
theorem dX12_readsPair_23 : decode cX12_readsPair 23 = .ok (.iconst 1, 1) := by decide +kernel
theorem dX12_readsPair_24 : decode cX12_readsPair 24 = .ok (.iaload, 1) := by decide +kernel
theorem dX12_readsPair_25 : decode cX12_readsPair 25 = .ok (.iadd, 1) := by decide +kernel
theorem dX12_readsPair_26 : decode cX12_readsPair 26 = .ok (.istore_n 1, 1) := by decide +kernel
theorem dX12_readsPair_27 : decode cX12_readsPair 27 = .ok (.aload_n 0, 1) := by decide +kernel
theorem dX12_readsPair_28 : decode cX12_readsPair 28 = .ok (.invokevirtual 229, 3) := by decide +kernel
theorem dX12_readsPair_31 : decode cX12_readsPair 31 = .ok (.aload_n 0, 1) := by decide +kernel
theorem dX12_readsPair_32 : decode cX12_readsPair 32 = .ok (.invokevirtual 298, 3) := by decide +kernel
theorem dX12_readsPair_35 : decode cX12_readsPair 35 = .ok (.ifCond .eq 9, 3) := by decide +kernel
theorem dX12_readsPair_38 : decode cX12_readsPair 38 = .ok (.aload_n 0, 1) := by decide +kernel
theorem dX12_readsPair_39 : decode cX12_readsPair 39 = .ok (.iconst 1, 1) := by decide +kernel
theorem dX12_readsPair_40 : decode cX12_readsPair 40 = .ok (.invokevirtual 222, 3) := by decide +kernel
theorem dX12_readsPair_43 : decode cX12_readsPair 43 = .ok (.ireturn, 1) := by decide +kernel
theorem dX12_readsPair_44 : decode cX12_readsPair 44 = .ok (.aload_n 0, 1) := by decide +kernel
theorem dX12_readsPair_45 : decode cX12_readsPair 45 = .ok (.getfield 41, 3) := by decide +kernel
theorem dX12_readsPair_48 : decode cX12_readsPair 48 = .ok (.iload_n 1, 1) := by decide +kernel
theorem dX12_readsPair_49 : decode cX12_readsPair 49 = .ok (.aload_n 0, 1) := by decide +kernel
theorem dX12_readsPair_50 : decode cX12_readsPair 50 = .ok (.invokevirtual 302, 3) := by decide +kernel
theorem dX12_readsPair_53 : decode cX12_readsPair 53 = .ok (.iastore, 1) := by decide +kernel
theorem dX12_readsPair_54 : decode cX12_readsPair 54 = .ok (.aload_n 0, 1) := by decide +kernel
theorem dX12_readsPair_55 : decode cX12_readsPair 55 = .ok (.getfield 41, 3) := by decide +kernel
theorem dX12_readsPair_58 : decode cX12_readsPair 58 = .ok (.iload_n 1, 1) := by decide +kernel
theorem dX12_readsPair_59 : decode cX12_readsPair 59 = .ok (.iaload, 1) := by decide +kernel
theorem dX12_readsPair_60 : decode cX12_readsPair 60 = .ok (.ifCond .ge 9, 3) := by decide +kernel
theorem dX12_readsPair_63 : decode cX12_readsPair 63 = .ok (.aload_n 0, 1) := by decide +kernel
theorem dX12_readsPair_64 : decode cX12_readsPair 64 = .ok (.iconst 2, 1) := by decide +kernel
theorem dX12_readsPair_65 : decode cX12_readsPair 65 = .ok (.invokevirtual 222, 3) := by decide +kernel
theorem dX12_readsPair_68 : decode cX12_readsPair 68 = .ok (.ireturn, 1) := by decide +kernel
theorem dX12_readsPair_69 : decode cX12_readsPair 69 = .ok (.aload_n 0, 1) := by decide +kernel
theorem dX12_readsPair_70 : decode cX12_readsPair 70 = .ok (.invokevirtual 229, 3) := by decide +kernel
theorem dX12_readsPair_73 : decode cX12_readsPair 73 = .ok (.aload_n 0, 1) := by decide +kernel
theorem dX12_readsPair_74 : decode cX12_readsPair 74 = .ok (.iconst 1, 1) := by decide +kernel
theorem dX12_readsPair_75 : decode cX12_readsPair 75 = .ok (.bipush 20, 2) := by decide +kernel
theorem dX12_readsPair_77 : decode cX12_readsPair 77 = .ok (.invokevirtual 291, 3) := by decide +kernel
theorem dX12_readsPair_80 : decode cX12_readsPair 80 = .ok (.ifCond .ne 5, 3) := by decide +kernel
theorem dX12_readsPair_83 : decode cX12_readsPair 83 = .ok (.iconst 0, 1) := by decide +kernel
theorem dX12_readsPair_84 : decode cX12_readsPair 84 = .ok (.ireturn, 1) := by decide +kernel
theorem dX12_readsPair_85 : decode cX12_readsPair 85 = .ok (.aload_n 0, 1) := by decide +kernel
theorem dX12_readsPair_86 : decode cX12_readsPair 86 = .ok (.getfield 44, 3) := by decide +kernel
theorem dX12_readsPair_89 : decode cX12_readsPair 89 = .ok (.iload_n 1, 1) := by decide +kernel
theorem dX12_readsPair_90 : decode cX12_readsPair 90 = .ok (.aload_n 0, 1) := by decide +kernel
theorem dX12_readsPair_91 : decode cX12_readsPair 91 = .ok (.getfield 179, 3) := by decide +kernel
theorem dX12_readsPair_94 : decode cX12_readsPair 94 = .ok (.iastore, 1) := by decide +kernel
theorem dX12_readsPair_95 : decode cX12_readsPair 95 = .ok (.aload_n 0, 1) := by decide +kernel
theorem dX12_readsPair_96 : decode cX12_readsPair 96 = .ok (.invokevirtual 229, 3) := by decide +kernel
theorem dX12_readsPair_99 : decode cX12_readsPair 99 = .ok (.aload_n 0, 1) := by decide +kernel
theorem dX12_readsPair_100 : decode cX12_readsPair 100 = .ok (.invokevirtual 298, 3) := by decide +kernel
theorem dX12_readsPair_103 : decode cX12_readsPair 103 = .ok (.ifCond .eq 9, 3) := by decide +kernel
theorem dX12_readsPair_106 : decode cX12_readsPair 106 = .ok (.aload_n 0, 1) := by decide +kernel
theorem dX12_readsPair_107 : decode cX12_readsPair 107 = .ok (.iconst 1, 1) := by decide +kernel
theorem dX12_readsPair_108 : decode cX12_readsPair 108 = .ok (.invokevirtual 222, 3) := by decide +kernel
theorem dX12_readsPair_111 : decode cX12_readsPair 111 = .ok (.ireturn, 1) := by decide +kernel
theorem dX12_readsPair_112 : decode cX12_readsPair 112 = .ok (.aload_n 0, 1) := by decide +kernel
theorem dX12_readsPair_113 : decode cX12_readsPair 113 = .ok (.getfield 47, 3) := by decide +kernel
theorem dX12_readsPair_116 : decode cX12_readsPair 116 = .ok (.iload_n 1, 1) := by decide +kernel
theorem dX12_readsPair_117 : decode cX12_readsPair 117 = .ok (.aload_n 0, 1) := by decide +kernel
theorem dX12_readsPair_118 : decode cX12_readsPair 118 = .ok (.invokevirtual 302, 3) := by decide +kernel
theorem dX12_readsPair_121 : decode cX12_readsPair 121 = .ok (.iastore, 1) := by decide +kernel
theorem dX12_readsPair_122 : decode cX12_readsPair 122 = .ok (.aload_n 0, 1) := by decide +kernel
theorem dX12_readsPair_123 : decode cX12_readsPair 123 = .ok (.getfield 47, 3) := by decide +kernel
theorem dX12_readsPair_126 : decode cX12_readsPair 126 = .ok (.iload_n 1, 1) := by decide +kernel
theorem dX12_readsPair_127 : decode cX12_readsPair 127 = .ok (.iaload, 1) := by decide +kernel
theorem dX12_readsPair_128 : decode cX12_readsPair 128 = .ok (.ifCond .ge 9, 3) := by decide +kernel
theorem dX12_readsPair_131 : decode cX12_readsPair 131 = .ok (.aload_n 0, 1) := by decide +kernel
theorem dX12_readsPair_132 : decode cX12_readsPair 132 = .ok (.iconst 2, 1) := by decide +kernel
theorem dX12_readsPair_133 : decode cX12_readsPair 133 = .ok (.invokevirtual 222, 3) := by decide +kernel
theorem dX12_readsPair_136 : decode cX12_readsPair 136 = .ok (.ireturn, 1) := by decide +kernel
theorem dX12_readsPair_137 : decode cX12_readsPair 137 = .ok (.aload_n 0, 1) := by decide +kernel
theorem dX12_readsPair_138 : decode cX12_readsPair 138 = .ok (.getfield 47, 3) := by decide +kernel
theorem dX12_readsPair_141 : decode cX12_readsPair 141 = .ok (.iload_n 1, 1) := by decide +kernel
theorem dX12_readsPair_142 : decode cX12_readsPair 142 = .ok (.iaload, 1) := by decide +kernel
theorem dX12_readsPair_143 : decode cX12_readsPair 143 = .ok (.aload_n 0, 1) := by decide +kernel
theorem dX12_readsPair_144 : decode cX12_readsPair 144 = .ok (.getfield 41, 3) := by decide +kernel
theorem dX12_readsPair_147 : decode cX12_readsPair 147 = .ok (.iload_n 1, 1) := by decide +kernel
theorem dX12_readsPair_148 : decode cX12_readsPair 148 = .ok (.iaload, 1) := by decide +kernel
theorem dX12_readsPair_149 : decode cX12_readsPair 149 = .ok (.if_icmp .ne 9, 3) := by decide +kernel
theorem dX12_readsPair_152 : decode cX12_readsPair 152 = .ok (.aload_n 0, 1) := by decide +kernel
theorem dX12_readsPair_153 : decode cX12_readsPair 153 = .ok (.iconst 3, 1) := by decide +kernel
theorem dX12_readsPair_154 : decode cX12_readsPair 154 = .ok (.invokevirtual 222, 3) := by decide +kernel
theorem dX12_readsPair_157 : decode cX12_readsPair 157 = .ok (.ireturn, 1) := by decide +kernel
theorem dX12_readsPair_158 : decode cX12_readsPair 158 = .ok (.aload_n 0, 1) := by decide +kernel
theorem dX12_readsPair_159 : decode cX12_readsPair 159 = .ok (.invokevirtual 229, 3) := by decide +kernel
theorem dX12_readsPair_162 : decode cX12_readsPair 162 = .ok (.aload_n 0, 1) := by decide +kernel
theorem dX12_readsPair_163 : decode cX12_readsPair 163 = .ok (.iconst 1, 1) := by decide +kernel
theorem dX12_readsPair_164 : decode cX12_readsPair 164 = .ok (.bipush 20, 2) := by decide +kernel
theorem dX12_readsPair_166 : decode cX12_readsPair 166 = .ok (.invokevirtual 291, 3) := by decide +kernel
theorem dX12_readsPair_169 : decode cX12_readsPair 169 = .ok (.ifCond .ne 5, 3) := by decide +kernel
theorem dX12_readsPair_172 : decode cX12_readsPair 172 = .ok (.iconst 0, 1) := by decide +kernel
theorem dX12_readsPair_173 : decode cX12_readsPair 173 = .ok (.ireturn, 1) := by decide +kernel
theorem dX12_readsPair_174 : decode cX12_readsPair 174 = .ok (.aload_n 0, 1) := by decide +kernel
theorem dX12_readsPair_175 : decode cX12_readsPair 175 = .ok (.getfield 50, 3) := by decide +kernel
theorem dX12_readsPair_178 : decode cX12_readsPair 178 = .ok (.iload_n 1, 1) := by decide +kernel
theorem dX12_readsPair_179 : decode cX12_readsPair 179 = .ok (.aload_n 0, 1) := by decide +kernel
theorem dX12_readsPair_180 : decode cX12_readsPair 180 = .ok (.getfield 179, 3) := by decide +kernel
theorem dX12_readsPair_183 : decode cX12_readsPair 183 = .ok (.iastore, 1) := by decide +kernel
theorem dX12_readsPair_184 : decode cX12_readsPair 184 = .ok (.aload_n 0, 1) := by decide +kernel
theorem dX12_readsPair_185 : decode cX12_readsPair 185 = .ok (.invokevirtual 229, 3) := by decide +kernel
theorem dX12_readsPair_188 : decode cX12_readsPair 188 = .ok (.aload_n 0, 1) := by decide +kernel
theorem dX12_readsPair_189 : decode cX12_readsPair 189 = .ok (.ldc2_w 259, 3) := by decide +kernel
theorem dX12_readsPair_192 : decode cX12_readsPair 192 = .ok (.iconst 0, 1) := by decide +kernel
theorem dX12_readsPair_193 : decode cX12_readsPair 193 = .ok (.sipush 9999, 3) := by decide +kernel
theorem dX12_readsPair_196 : decode cX12_readsPair 196 = .ok (.invokevirtual 305, 3) := by decide +kernel
theorem dX12_readsPair_199 : decode cX12_readsPair 199 = .ok (.ifCond .ne 5, 3) := by decide +kernel
theorem dX12_readsPair_202 : decode cX12_readsPair 202 = .ok (.iconst 0, 1) := by decide +kernel
theorem dX12_readsPair_203 : decode cX12_readsPair 203 = .ok (.ireturn, 1) := by decide +kernel
theorem dX12_readsPair_204 : decode cX12_readsPair 204 = .ok (.aload_n 0, 1) := by decide +kernel
theorem dX12_readsPair_205 : decode cX12_readsPair 205 = .ok (.getfield 53, 3) := by decide +kernel
theorem dX12_readsPair_208 : decode cX12_readsPair 208 = .ok (.iload_n 1, 1) := by decide +kernel
theorem dX12_readsPair_209 : decode cX12_readsPair 209 = .ok (.aload_n 0, 1) := by decide +kernel
theorem dX12_readsPair_210 : decode cX12_readsPair 210 = .ok (.getfield 295, 3) := by decide +kernel
theorem dX12_readsPair_213 : decode cX12_readsPair 213 = .ok (.iastore, 1) := by decide +kernel
theorem dX12_readsPair_214 : decode cX12_readsPair 214 = .ok (.aload_n 0, 1) := by decide +kernel
theorem dX12_readsPair_215 : decode cX12_readsPair 215 = .ok (.getfield 16, 3) := by decide +kernel
theorem dX12_readsPair_218 : decode cX12_readsPair 218 = .ok (.iconst 1, 1) := by decide +kernel
theorem dX12_readsPair_219 : decode cX12_readsPair 219 = .ok (.dup2, 1) := by decide +kernel
theorem dX12_readsPair_220 : decode cX12_readsPair 220 = .ok (.iaload, 1) := by decide +kernel
theorem dX12_readsPair_221 : decode cX12_readsPair 221 = .ok (.iconst 1, 1) := by decide +kernel
theorem dX12_readsPair_222 : decode cX12_readsPair 222 = .ok (.iadd, 1) := by decide +kernel
theorem dX12_readsPair_223 : decode cX12_readsPair 223 = .ok (.iastore, 1) := by decide +kernel
theorem dX12_readsPair_224 : decode cX12_readsPair 224 = .ok (.aload_n 0, 1) := by decide +kernel
theorem dX12_readsPair_225 : decode cX12_readsPair 225 = .ok (.invokevirtual 309, 3) := by decide +kernel
theorem dX12_readsPair_228 : decode cX12_readsPair 228 = .ok (.ireturn, 1) := by decide +kernel
theorem dX12_readsSpeak_0 : decode cX12_readsSpeak 0 = .ok (.aload_n 0, 1) := by decide +kernel
theorem dX12_readsSpeak_1 : decode cX12_readsSpeak 1 = .ok (.getfield 19, 3) := by decide +kernel
theorem dX12_readsSpeak_4 : decode cX12_readsSpeak 4 = .ok (.iconst 1, 1) := by decide +kernel
theorem dX12_readsSpeak_5 : decode cX12_readsSpeak 5 = .ok (.iaload, 1) := by decide +kernel
theorem dX12_readsSpeak_6 : decode cX12_readsSpeak 6 = .ok (.iconst 4, 1) := by decide +kernel
theorem dX12_readsSpeak_7 : decode cX12_readsSpeak 7 = .ok (.if_icmp .ne 9, 3) := by decide +kernel
theorem dX12_readsSpeak_10 : decode cX12_readsSpeak 10 = .ok (.aload_n 0, 1) := by decide +kernel
theorem dX12_readsSpeak_11 : decode cX12_readsSpeak 11 = .ok (.iconst 5, 1) := by decide +kernel
theorem dX12_readsSpeak_12 : decode cX12_readsSpeak 12 = .ok (.invokevirtual 222, 3) := by decide +kernel
theorem dX12_readsSpeak_15 : decode cX12_readsSpeak 15 = .ok (.ireturn, 1) := by decide +kernel
theorem dX12_readsSpeak_16 : decode cX12_readsSpeak 16 = .ok (.aload_n 0, 1) := by decide +kernel
theorem dX12_readsSpeak_17 : decode cX12_readsSpeak 17 = .ok (.invokevirtual 229, 3) := by decide +kernel
theorem dX12_readsSpeak_20 : decode cX12_readsSpeak 20 = .ok (.aload_n 0, 1) := by decide +kernel
theorem dX12_readsSpeak_21 : decode cX12_readsSpeak 21 = .ok (.getfield 63, 3) := by decide +kernel
theorem dX12_readsSpeak_24 : decode cX12_readsSpeak 24 = .ok (.iconst 4, 1) := by decide +kernel
theorem dX12_readsSpeak_25 : decode cX12_readsSpeak 25 = .ok (.aload_n 0, 1) := by decide +kernel
theorem dX12_readsSpeak_26 : decode cX12_readsSpeak 26 = .ok (.getfield 19, 3) := by decide +kernel
theorem dX12_readsSpeak_29 : decode cX12_readsSpeak 29 = .ok (.iconst 1, 1) := by decide +kernel
theorem dX12_readsSpeak_30 : decode cX12_readsSpeak 30 = .ok (.iaload, 1) := by decide +kernel
theorem dX12_readsSpeak_31 : decode cX12_readsSpeak 31 = .ok (.iadd, 1) := by decide +kernel
theorem dX12_readsSpeak_32 : decode cX12_readsSpeak 32 = .ok (.aload_n 0, 1) := by decide +kernel
theorem dX12_readsSpeak_33 : decode cX12_readsSpeak 33 = .ok (.getfield 195, 3) := by decide +kernel
theorem dX12_readsSpeak_36 : decode cX12_readsSpeak 36 = .ok (.iastore, 1) := by decide +kernel
theorem dX12_readsSpeak_37 : decode cX12_readsSpeak 37 = .ok (.aload_n 0, 1) := by decide +kernel
theorem dX12_readsSpeak_38 : decode cX12_readsSpeak 38 = .ok (.invokevirtual 312, 3) := by decide +kernel
theorem dX12_readsSpeak_41 : decode cX12_readsSpeak 41 = .ok (.ifCond .ne 5, 3) := by decide +kernel
theorem dX12_readsSpeak_44 : decode cX12_readsSpeak 44 = .ok (.iconst 0, 1) := by decide +kernel
theorem dX12_readsSpeak_45 : decode cX12_readsSpeak 45 = .ok (.ireturn, 1) := by decide +kernel
theorem dX12_readsSpeak_46 : decode cX12_readsSpeak 46 = .ok (.aload_n 0, 1) := by decide +kernel
theorem dX12_readsSpeak_47 : decode cX12_readsSpeak 47 = .ok (.getfield 66, 3) := by decide +kernel
theorem dX12_readsSpeak_50 : decode cX12_readsSpeak 50 = .ok (.iconst 4, 1) := by decide +kernel
theorem dX12_readsSpeak_51 : decode cX12_readsSpeak 51 = .ok (.aload_n 0, 1) := by decide +kernel
theorem dX12_readsSpeak_52 : decode cX12_readsSpeak 52 = .ok (.getfield 19, 3) := by decide +kernel
theorem dX12_readsSpeak_55 : decode cX12_readsSpeak 55 = .ok (.iconst 1, 1) := by decide +kernel
theorem dX12_readsSpeak_56 : decode cX12_readsSpeak 56 = .ok (.iaload, 1) := by decide +kernel
theorem dX12_readsSpeak_57 : decode cX12_readsSpeak 57 = .ok (.iadd, 1) := by decide +kernel
theorem dX12_readsSpeak_58 : decode cX12_readsSpeak 58 = .ok (.aload_n 0, 1) := by decide +kernel
theorem dX12_readsSpeak_59 : decode cX12_readsSpeak 59 = .ok (.getfield 195, 3) := by decide +kernel
theorem dX12_readsSpeak_62 : decode cX12_readsSpeak 62 = .ok (.iastore, 1) := by decide +kernel
theorem dX12_readsSpeak_63 : decode cX12_readsSpeak 63 = .ok (.aload_n 0, 1) := by decide +kernel
theorem dX12_readsSpeak_64 : decode cX12_readsSpeak 64 = .ok (.getfield 19, 3) := by decide +kernel
theorem dX12_readsSpeak_67 : decode cX12_readsSpeak 67 = .ok (.iconst 1, 1) := by decide +kernel
theorem dX12_readsSpeak_68 : decode cX12_readsSpeak 68 = .ok (.dup2, 1) := by decide +kernel
theorem dX12_readsSpeak_69 : decode cX12_readsSpeak 69 = .ok (.iaload, 1) := by decide +kernel
theorem dX12_readsSpeak_70 : decode cX12_readsSpeak 70 = .ok (.iconst 1, 1) := by decide +kernel
theorem dX12_readsSpeak_71 : decode cX12_readsSpeak 71 = .ok (.iadd, 1) := by decide +kernel
theorem dX12_readsSpeak_72 : decode cX12_readsSpeak 72 = .ok (.iastore, 1) := by decide +kernel
theorem dX12_readsSpeak_73 : decode cX12_readsSpeak 73 = .ok (.iconst 1, 1) := by decide +kernel
theorem dX12_readsSpeak_74 : decode cX12_readsSpeak 74 = .ok (.ireturn, 1) := by decide +kernel
theorem dX12_what_0 : decode cX12_what 0 = .ok (.aload_n 0, 1) := by decide +kernel
theorem dX12_what_1 : decode cX12_what 1 = .ok (.getfield 182, 3) := by decide +kernel
theorem dX12_what_4 : decode cX12_what 4 = .ok (.iconst 1, 1) := by decide +kernel
theorem dX12_what_5 : decode cX12_what 5 = .ok (.if_icmp .eq 5, 3) := by decide +kernel
theorem dX12_what_8 : decode cX12_what 8 = .ok (.iconst (-1), 1) := by decide +kernel
theorem dX12_what_9 : decode cX12_what 9 = .ok (.ireturn, 1) := by decide +kernel
theorem dX12_what_10 : decode cX12_what 10 = .ok (.aload_n 0, 1) := by decide +kernel
theorem dX12_what_11 : decode cX12_what 11 = .ok (.getfield 175, 3) := by decide +kernel
theorem dX12_what_14 : decode cX12_what 14 = .ok (.ldc2_w 265, 3) := by decide +kernel
theorem dX12_what_17 : decode cX12_what 17 = .ok (.lcmp, 1) := by decide +kernel
theorem dX12_what_18 : decode cX12_what 18 = .ok (.ifCond .ne 5, 3) := by decide +kernel
theorem dX12_what_21 : decode cX12_what 21 = .ok (.iconst 0, 1) := by decide +kernel
theorem dX12_what_22 : decode cX12_what 22 = .ok (.ireturn, 1) := by decide +kernel
theorem dX12_what_23 : decode cX12_what 23 = .ok (.aload_n 0, 1) := by decide +kernel
theorem dX12_what_24 : decode cX12_what 24 = .ok (.getfield 175, 3) := by decide +kernel
theorem dX12_what_27 : decode cX12_what 27 = .ok (.ldc2_w 267, 3) := by decide +kernel
theorem dX12_what_30 : decode cX12_what 30 = .ok (.lcmp, 1) := by decide +kernel
theorem dX12_what_31 : decode cX12_what 31 = .ok (.ifCond .ne 5, 3) := by decide +kernel
theorem dX12_what_34 : decode cX12_what 34 = .ok (.iconst 1, 1) := by decide +kernel
theorem dX12_what_35 : decode cX12_what 35 = .ok (.ireturn, 1) := by decide +kernel
theorem dX12_what_36 : decode cX12_what 36 = .ok (.aload_n 0, 1) := by decide +kernel
theorem dX12_what_37 : decode cX12_what 37 = .ok (.getfield 175, 3) := by decide +kernel
theorem dX12_what_40 : decode cX12_what 40 = .ok (.ldc2_w 269, 3) := by decide +kernel
theorem dX12_what_43 : decode cX12_what 43 = .ok (.lcmp, 1) := by decide +kernel
theorem dX12_what_44 : decode cX12_what 44 = .ok (.ifCond .ne 5, 3) := by decide +kernel
theorem dX12_what_47 : decode cX12_what 47 = .ok (.iconst 2, 1) := by decide +kernel
theorem dX12_what_48 : decode cX12_what 48 = .ok (.ireturn, 1) := by decide +kernel
theorem dX12_what_49 : decode cX12_what 49 = .ok (.aload_n 0, 1) := by decide +kernel
theorem dX12_what_50 : decode cX12_what 50 = .ok (.getfield 175, 3) := by decide +kernel
theorem dX12_what_53 : decode cX12_what 53 = .ok (.ldc2_w 271, 3) := by decide +kernel
theorem dX12_what_56 : decode cX12_what 56 = .ok (.lcmp, 1) := by decide +kernel
theorem dX12_what_57 : decode cX12_what 57 = .ok (.ifCond .ne 5, 3) := by decide +kernel
theorem dX12_what_60 : decode cX12_what 60 = .ok (.iconst 3, 1) := by decide +kernel
theorem dX12_what_61 : decode cX12_what 61 = .ok (.ireturn, 1) := by decide +kernel
theorem dX12_what_62 : decode cX12_what 62 = .ok (.aload_n 0, 1) := by decide +kernel
theorem dX12_what_63 : decode cX12_what 63 = .ok (.getfield 175, 3) := by decide +kernel
theorem dX12_what_66 : decode cX12_what 66 = .ok (.ldc2_w 273, 3) := by decide +kernel
theorem dX12_what_69 : decode cX12_what 69 = .ok (.lcmp, 1) := by decide +kernel
theorem dX12_what_70 : decode cX12_what 70 = .ok (.ifCond .ne 5, 3) := by decide +kernel
theorem dX12_what_73 : decode cX12_what 73 = .ok (.iconst 4, 1) := by decide +kernel
theorem dX12_what_74 : decode cX12_what 74 = .ok (.ireturn, 1) := by decide +kernel
theorem dX12_what_75 : decode cX12_what 75 = .ok (.aload_n 0, 1) := by decide +kernel
theorem dX12_what_76 : decode cX12_what 76 = .ok (.getfield 175, 3) := by decide +kernel
theorem dX12_what_79 : decode cX12_what 79 = .ok (.ldc2_w 275, 3) := by decide +kernel
theorem dX12_what_82 : decode cX12_what 82 = .ok (.lcmp, 1) := by decide +kernel
theorem dX12_what_83 : decode cX12_what 83 = .ok (.ifCond .ne 5, 3) := by decide +kernel
theorem dX12_what_86 : decode cX12_what 86 = .ok (.iconst 5, 1) := by decide +kernel
theorem dX12_what_87 : decode cX12_what 87 = .ok (.ireturn, 1) := by decide +kernel
theorem dX12_what_88 : decode cX12_what 88 = .ok (.aload_n 0, 1) := by decide +kernel
theorem dX12_what_89 : decode cX12_what 89 = .ok (.getfield 175, 3) := by decide +kernel
theorem dX12_what_92 : decode cX12_what 92 = .ok (.ldc2_w 277, 3) := by decide +kernel
theorem dX12_what_95 : decode cX12_what 95 = .ok (.lcmp, 1) := by decide +kernel
theorem dX12_what_96 : decode cX12_what 96 = .ok (.ifCond .ne 6, 3) := by decide +kernel
theorem dX12_what_99 : decode cX12_what 99 = .ok (.bipush 6, 2) := by decide +kernel
theorem dX12_what_101 : decode cX12_what 101 = .ok (.ireturn, 1) := by decide +kernel
theorem dX12_what_102 : decode cX12_what 102 = .ok (.aload_n 0, 1) := by decide +kernel
theorem dX12_what_103 : decode cX12_what 103 = .ok (.getfield 175, 3) := by decide +kernel
theorem dX12_what_106 : decode cX12_what 106 = .ok (.ldc2_w 279, 3) := by decide +kernel
theorem dX12_what_109 : decode cX12_what 109 = .ok (.lcmp, 1) := by decide +kernel
theorem dX12_what_110 : decode cX12_what 110 = .ok (.ifCond .ne 6, 3) := by decide +kernel
theorem dX12_what_113 : decode cX12_what 113 = .ok (.bipush 7, 2) := by decide +kernel
theorem dX12_what_115 : decode cX12_what 115 = .ok (.ireturn, 1) := by decide +kernel
theorem dX12_what_116 : decode cX12_what 116 = .ok (.aload_n 0, 1) := by decide +kernel
theorem dX12_what_117 : decode cX12_what 117 = .ok (.getfield 175, 3) := by decide +kernel
theorem dX12_what_120 : decode cX12_what 120 = .ok (.ldc2_w 281, 3) := by decide +kernel
theorem dX12_what_123 : decode cX12_what 123 = .ok (.lcmp, 1) := by decide +kernel
theorem dX12_what_124 : decode cX12_what 124 = .ok (.ifCond .ne 6, 3) := by decide +kernel
theorem dX12_what_127 : decode cX12_what 127 = .ok (.bipush 8, 2) := by decide +kernel
theorem dX12_what_129 : decode cX12_what 129 = .ok (.ireturn, 1) := by decide +kernel
theorem dX12_what_130 : decode cX12_what 130 = .ok (.aload_n 0, 1) := by decide +kernel
theorem dX12_what_131 : decode cX12_what 131 = .ok (.getfield 175, 3) := by decide +kernel
theorem dX12_what_134 : decode cX12_what 134 = .ok (.ldc2_w 283, 3) := by decide +kernel
theorem dX12_what_137 : decode cX12_what 137 = .ok (.lcmp, 1) := by decide +kernel
theorem dX12_what_138 : decode cX12_what 138 = .ok (.ifCond .ne 6, 3) := by decide +kernel
theorem dX12_what_141 : decode cX12_what 141 = .ok (.bipush 9, 2) := by decide +kernel
theorem dX12_what_143 : decode cX12_what 143 = .ok (.ireturn, 1) := by decide +kernel
theorem dX12_what_144 : decode cX12_what 144 = .ok (.aload_n 0, 1) := by decide +kernel
theorem dX12_what_145 : decode cX12_what 145 = .ok (.getfield 175, 3) := by decide +kernel
theorem dX12_what_148 : decode cX12_what 148 = .ok (.ldc2_w 285, 3) := by decide +kernel
theorem dX12_what_151 : decode cX12_what 151 = .ok (.lcmp, 1) := by decide +kernel
theorem dX12_what_152 : decode cX12_what 152 = .ok (.ifCond .ne 6, 3) := by decide +kernel
theorem dX12_what_155 : decode cX12_what 155 = .ok (.bipush 10, 2) := by decide +kernel
theorem dX12_what_157 : decode cX12_what 157 = .ok (.ireturn, 1) := by decide +kernel
theorem dX12_what_158 : decode cX12_what 158 = .ok (.iconst (-1), 1) := by decide +kernel
theorem dX12_what_159 : decode cX12_what 159 = .ok (.ireturn, 1) := by decide +kernel
theorem dX12_without_0 : decode cX12_without 0 = .ok (.iload_n 0, 1) := by decide +kernel
theorem dX12_without_1 : decode cX12_without 1 = .ok (.ifCond .ne 8, 3) := by decide +kernel
theorem dX12_without_4 : decode cX12_without 4 = .ok (.bipush 10, 2) := by decide +kernel
theorem dX12_without_6 : decode cX12_without 6 = .ok (.goto 90, 3) := by decide +kernel
theorem dX12_without_9 : decode cX12_without 9 = .ok (.iload_n 0, 1) := by decide +kernel
theorem dX12_without_10 : decode cX12_without 10 = .ok (.iconst 1, 1) := by decide +kernel
theorem dX12_without_11 : decode cX12_without 11 = .ok (.if_icmp .ne 7, 3) := by decide +kernel
theorem dX12_without_14 : decode cX12_without 14 = .ok (.iconst 2, 1) := by decide +kernel
theorem dX12_without_15 : decode cX12_without 15 = .ok (.goto 81, 3) := by decide +kernel
theorem dX12_without_18 : decode cX12_without 18 = .ok (.iload_n 0, 1) := by decide +kernel
theorem dX12_without_19 : decode cX12_without 19 = .ok (.iconst 2, 1) := by decide +kernel
theorem dX12_without_20 : decode cX12_without 20 = .ok (.if_icmp .ne 7, 3) := by decide +kernel
theorem dX12_without_23 : decode cX12_without 23 = .ok (.iconst 4, 1) := by decide +kernel
theorem dX12_without_24 : decode cX12_without 24 = .ok (.goto 72, 3) := by decide +kernel
theorem dX12_without_27 : decode cX12_without 27 = .ok (.iload_n 0, 1) := by decide +kernel
theorem dX12_without_28 : decode cX12_without 28 = .ok (.iconst 3, 1) := by decide +kernel
theorem dX12_without_29 : decode cX12_without 29 = .ok (.if_icmp .ne 7, 3) := by decide +kernel
theorem dX12_without_32 : decode cX12_without 32 = .ok (.iconst 1, 1) := by decide +kernel
theorem dX12_without_33 : decode cX12_without 33 = .ok (.goto 63, 3) := by decide +kernel
theorem dX12_without_36 : decode cX12_without 36 = .ok (.iload_n 0, 1) := by decide +kernel
theorem dX12_without_37 : decode cX12_without 37 = .ok (.iconst 4, 1) := by decide +kernel
theorem dX12_without_38 : decode cX12_without 38 = .ok (.if_icmp .ne 8, 3) := by decide +kernel
theorem dX12_without_41 : decode cX12_without 41 = .ok (.bipush 12, 2) := by decide +kernel
theorem dX12_without_43 : decode cX12_without 43 = .ok (.goto 53, 3) := by decide +kernel
theorem dX12_without_46 : decode cX12_without 46 = .ok (.iload_n 0, 1) := by decide +kernel
theorem dX12_without_47 : decode cX12_without 47 = .ok (.iconst 5, 1) := by decide +kernel
theorem dX12_without_48 : decode cX12_without 48 = .ok (.if_icmp .ne 7, 3) := by decide +kernel
theorem dX12_without_51 : decode cX12_without 51 = .ok (.iconst 2, 1) := by decide +kernel
theorem dX12_without_52 : decode cX12_without 52 = .ok (.goto 44, 3) := by decide +kernel
theorem dX12_without_55 : decode cX12_without 55 = .ok (.iload_n 0, 1) := by decide +kernel
theorem dX12_without_56 : decode cX12_without 56 = .ok (.bipush 6, 2) := by decide +kernel
theorem dX12_without_58 : decode cX12_without 58 = .ok (.if_icmp .ne 7, 3) := by decide +kernel
theorem dX12_without_61 : decode cX12_without 61 = .ok (.iconst 3, 1) := by decide +kernel
theorem dX12_without_62 : decode cX12_without 62 = .ok (.goto 34, 3) := by decide +kernel
theorem dX12_without_65 : decode cX12_without 65 = .ok (.iload_n 0, 1) := by decide +kernel
theorem dX12_without_66 : decode cX12_without 66 = .ok (.bipush 7, 2) := by decide +kernel
theorem dX12_without_68 : decode cX12_without 68 = .ok (.if_icmp .ne 7, 3) := by decide +kernel
theorem dX12_without_71 : decode cX12_without 71 = .ok (.iconst 1, 1) := by decide +kernel
theorem dX12_without_72 : decode cX12_without 72 = .ok (.goto 24, 3) := by decide +kernel
theorem dX12_without_75 : decode cX12_without 75 = .ok (.iload_n 0, 1) := by decide +kernel
theorem dX12_without_76 : decode cX12_without 76 = .ok (.bipush 8, 2) := by decide +kernel
theorem dX12_without_78 : decode cX12_without 78 = .ok (.if_icmp .ne 7, 3) := by decide +kernel
theorem dX12_without_81 : decode cX12_without 81 = .ok (.iconst 5, 1) := by decide +kernel
theorem dX12_without_82 : decode cX12_without 82 = .ok (.goto 14, 3) := by decide +kernel
theorem dX12_without_85 : decode cX12_without 85 = .ok (.iload_n 0, 1) := by decide +kernel
theorem dX12_without_86 : decode cX12_without 86 = .ok (.bipush 9, 2) := by decide +kernel
theorem dX12_without_88 : decode cX12_without 88 = .ok (.if_icmp .ne 7, 3) := by decide +kernel
theorem dX12_without_91 : decode cX12_without 91 = .ok (.iconst 0, 1) := by decide +kernel
theorem dX12_without_92 : decode cX12_without 92 = .ok (.goto 4, 3) := by decide +kernel
theorem dX12_without_95 : decode cX12_without 95 = .ok (.iconst 1, 1) := by decide +kernel
theorem dX12_without_96 : decode cX12_without 96 = .ok (.ireturn, 1) := by decide +kernel
theorem dX12_least_0 : decode cX12_least 0 = .ok (.iload_n 0, 1) := by decide +kernel
theorem dX12_least_1 : decode cX12_least 1 = .ok (.iconst 3, 1) := by decide +kernel
theorem dX12_least_2 : decode cX12_least 2 = .ok (.if_icmp .eq 21, 3) := by decide +kernel
theorem dX12_least_5 : decode cX12_least 5 = .ok (.iload_n 0, 1) := by decide +kernel
theorem dX12_least_6 : decode cX12_least 6 = .ok (.bipush 6, 2) := by decide +kernel
theorem dX12_least_8 : decode cX12_least 8 = .ok (.if_icmp .eq 15, 3) := by decide +kernel
theorem dX12_least_11 : decode cX12_least 11 = .ok (.iload_n 0, 1) := by decide +kernel
theorem dX12_least_12 : decode cX12_least 12 = .ok (.bipush 7, 2) := by decide +kernel
theorem dX12_least_14 : decode cX12_least 14 = .ok (.if_icmp .eq 9, 3) := by decide +kernel
theorem dX12_least_17 : decode cX12_least 17 = .ok (.iload_n 0, 1) := by decide +kernel
theorem dX12_least_18 : decode cX12_least 18 = .ok (.bipush 9, 2) := by decide +kernel
theorem dX12_least_20 : decode cX12_least 20 = .ok (.if_icmp .ne 7, 3) := by decide +kernel
theorem dX12_least_23 : decode cX12_least 23 = .ok (.iconst 0, 1) := by decide +kernel
theorem dX12_least_24 : decode cX12_least 24 = .ok (.goto 4, 3) := by decide +kernel
theorem dX12_least_27 : decode cX12_least 27 = .ok (.iconst 1, 1) := by decide +kernel
theorem dX12_least_28 : decode cX12_least 28 = .ok (.ireturn, 1) := by decide +kernel
theorem dX12_most_0 : decode cX12_most 0 = .ok (.iload_n 0, 1) := by decide +kernel
theorem dX12_most_1 : decode cX12_most 1 = .ok (.ifCond .ne 8, 3) := by decide +kernel
theorem dX12_most_4 : decode cX12_most 4 = .ok (.bipush 99, 2) := by decide +kernel
theorem dX12_most_6 : decode cX12_most 6 = .ok (.goto 100, 3) := by decide +kernel
theorem dX12_most_9 : decode cX12_most 9 = .ok (.iload_n 0, 1) := by decide +kernel
theorem dX12_most_10 : decode cX12_most 10 = .ok (.iconst 1, 1) := by decide +kernel
theorem dX12_most_11 : decode cX12_most 11 = .ok (.if_icmp .ne 7, 3) := by decide +kernel
theorem dX12_most_14 : decode cX12_most 14 = .ok (.iconst 3, 1) := by decide +kernel
theorem dX12_most_15 : decode cX12_most 15 = .ok (.goto 91, 3) := by decide +kernel
theorem dX12_most_18 : decode cX12_most 18 = .ok (.iload_n 0, 1) := by decide +kernel
theorem dX12_most_19 : decode cX12_most 19 = .ok (.iconst 2, 1) := by decide +kernel
theorem dX12_most_20 : decode cX12_most 20 = .ok (.if_icmp .ne 8, 3) := by decide +kernel
theorem dX12_most_23 : decode cX12_most 23 = .ok (.bipush 12, 2) := by decide +kernel
theorem dX12_most_25 : decode cX12_most 25 = .ok (.goto 81, 3) := by decide +kernel
theorem dX12_most_28 : decode cX12_most 28 = .ok (.iload_n 0, 1) := by decide +kernel
theorem dX12_most_29 : decode cX12_most 29 = .ok (.iconst 3, 1) := by decide +kernel
theorem dX12_most_30 : decode cX12_most 30 = .ok (.if_icmp .ne 8, 3) := by decide +kernel
theorem dX12_most_33 : decode cX12_most 33 = .ok (.bipush 9, 2) := by decide +kernel
theorem dX12_most_35 : decode cX12_most 35 = .ok (.goto 71, 3) := by decide +kernel
theorem dX12_most_38 : decode cX12_most 38 = .ok (.iload_n 0, 1) := by decide +kernel
theorem dX12_most_39 : decode cX12_most 39 = .ok (.iconst 4, 1) := by decide +kernel
theorem dX12_most_40 : decode cX12_most 40 = .ok (.if_icmp .ne 8, 3) := by decide +kernel
theorem dX12_most_43 : decode cX12_most 43 = .ok (.bipush 99, 2) := by decide +kernel
theorem dX12_most_45 : decode cX12_most 45 = .ok (.goto 61, 3) := by decide +kernel
theorem dX12_most_48 : decode cX12_most 48 = .ok (.iload_n 0, 1) := by decide +kernel
theorem dX12_most_49 : decode cX12_most 49 = .ok (.iconst 5, 1) := by decide +kernel
theorem dX12_most_50 : decode cX12_most 50 = .ok (.if_icmp .ne 8, 3) := by decide +kernel
theorem dX12_most_53 : decode cX12_most 53 = .ok (.bipush 20, 2) := by decide +kernel
theorem dX12_most_55 : decode cX12_most 55 = .ok (.goto 51, 3) := by decide +kernel
theorem dX12_most_58 : decode cX12_most 58 = .ok (.iload_n 0, 1) := by decide +kernel
theorem dX12_most_59 : decode cX12_most 59 = .ok (.bipush 6, 2) := by decide +kernel
theorem dX12_most_61 : decode cX12_most 61 = .ok (.if_icmp .ne 8, 3) := by decide +kernel
theorem dX12_most_64 : decode cX12_most 64 = .ok (.bipush 99, 2) := by decide +kernel
theorem dX12_most_66 : decode cX12_most 66 = .ok (.goto 40, 3) := by decide +kernel
theorem dX12_most_69 : decode cX12_most 69 = .ok (.iload_n 0, 1) := by decide +kernel
theorem dX12_most_70 : decode cX12_most 70 = .ok (.bipush 7, 2) := by decide +kernel
theorem dX12_most_72 : decode cX12_most 72 = .ok (.if_icmp .ne 8, 3) := by decide +kernel
theorem dX12_most_75 : decode cX12_most 75 = .ok (.bipush 99, 2) := by decide +kernel
theorem dX12_most_77 : decode cX12_most 77 = .ok (.goto 29, 3) := by decide +kernel
theorem dX12_most_80 : decode cX12_most 80 = .ok (.iload_n 0, 1) := by decide +kernel
theorem dX12_most_81 : decode cX12_most 81 = .ok (.bipush 8, 2) := by decide +kernel
theorem dX12_most_83 : decode cX12_most 83 = .ok (.if_icmp .ne 9, 3) := by decide +kernel
theorem dX12_most_86 : decode cX12_most 86 = .ok (.sipush 999, 3) := by decide +kernel
theorem dX12_most_89 : decode cX12_most 89 = .ok (.goto 17, 3) := by decide +kernel
theorem dX12_most_92 : decode cX12_most 92 = .ok (.iload_n 0, 1) := by decide +kernel
theorem dX12_most_93 : decode cX12_most 93 = .ok (.bipush 9, 2) := by decide +kernel
theorem dX12_most_95 : decode cX12_most 95 = .ok (.if_icmp .ne 9, 3) := by decide +kernel
theorem dX12_most_98 : decode cX12_most 98 = .ok (.sipush 999, 3) := by decide +kernel
theorem dX12_most_101 : decode cX12_most 101 = .ok (.goto 5, 3) := by decide +kernel
theorem dX12_most_104 : decode cX12_most 104 = .ok (.bipush 99, 2) := by decide +kernel
theorem dX12_most_106 : decode cX12_most 106 = .ok (.ireturn, 1) := by decide +kernel
theorem dX12_readsSet_0 : decode cX12_readsSet 0 = .ok (.aload_n 0, 1) := by decide +kernel
theorem dX12_readsSet_1 : decode cX12_readsSet 1 = .ok (.invokevirtual 229, 3) := by decide +kernel
theorem dX12_readsSet_4 : decode cX12_readsSet 4 = .ok (.aload_n 0, 1) := by decide +kernel
theorem dX12_readsSet_5 : decode cX12_readsSet 5 = .ok (.invokevirtual 315, 3) := by decide +kernel
theorem dX12_readsSet_8 : decode cX12_readsSet 8 = .ok (.istore_n 1, 1) := by decide +kernel
theorem dX12_readsSet_9 : decode cX12_readsSet 9 = .ok (.iload_n 1, 1) := by decide +kernel
theorem dX12_readsSet_10 : decode cX12_readsSet 10 = .ok (.ifCond .ge 9, 3) := by decide +kernel
theorem dX12_readsSet_13 : decode cX12_readsSet 13 = .ok (.aload_n 0, 1) := by decide +kernel
theorem dX12_readsSet_14 : decode cX12_readsSet 14 = .ok (.iconst 1, 1) := by decide +kernel
theorem dX12_readsSet_15 : decode cX12_readsSet 15 = .ok (.invokevirtual 222, 3) := by decide +kernel
theorem dX12_readsSet_18 : decode cX12_readsSet 18 = .ok (.ireturn, 1) := by decide +kernel
theorem dX12_readsSet_19 : decode cX12_readsSet 19 = .ok (.aload_n 0, 1) := by decide +kernel
theorem dX12_readsSet_20 : decode cX12_readsSet 20 = .ok (.getfield 59, 3) := by decide +kernel
theorem dX12_readsSet_23 : decode cX12_readsSet 23 = .ok (.iload_n 1, 1) := by decide +kernel
theorem dX12_readsSet_24 : decode cX12_readsSet 24 = .ok (.baload, 1) := by decide +kernel
theorem dX12_readsSet_25 : decode cX12_readsSet 25 = .ok (.ifCond .eq 9, 3) := by decide +kernel
theorem dX12_readsSet_28 : decode cX12_readsSet 28 = .ok (.aload_n 0, 1) := by decide +kernel
theorem dX12_readsSet_29 : decode cX12_readsSet 29 = .ok (.iconst 3, 1) := by decide +kernel
theorem dX12_readsSet_30 : decode cX12_readsSet 30 = .ok (.invokevirtual 222, 3) := by decide +kernel
theorem dX12_readsSet_33 : decode cX12_readsSet 33 = .ok (.ireturn, 1) := by decide +kernel
theorem dX12_readsSet_34 : decode cX12_readsSet 34 = .ok (.aload_n 0, 1) := by decide +kernel
theorem dX12_readsSet_35 : decode cX12_readsSet 35 = .ok (.getfield 59, 3) := by decide +kernel
theorem dX12_readsSet_38 : decode cX12_readsSet 38 = .ok (.iload_n 1, 1) := by decide +kernel
theorem dX12_readsSet_39 : decode cX12_readsSet 39 = .ok (.iconst 1, 1) := by decide +kernel
theorem dX12_readsSet_40 : decode cX12_readsSet 40 = .ok (.bastore, 1) := by decide +kernel
theorem dX12_readsSet_41 : decode cX12_readsSet 41 = .ok (.aload_n 0, 1) := by decide +kernel
theorem dX12_readsSet_42 : decode cX12_readsSet 42 = .ok (.invokevirtual 229, 3) := by decide +kernel
theorem dX12_readsSet_45 : decode cX12_readsSet 45 = .ok (.aload_n 0, 1) := by decide +kernel
theorem dX12_readsSet_46 : decode cX12_readsSet 46 = .ok (.iload_n 1, 1) := by decide +kernel
theorem dX12_readsSet_47 : decode cX12_readsSet 47 = .ok (.invokestatic 318, 3) := by decide +kernel
theorem dX12_readsSet_50 : decode cX12_readsSet 50 = .ok (.iload_n 1, 1) := by decide +kernel
theorem dX12_readsSet_51 : decode cX12_readsSet 51 = .ok (.invokestatic 321, 3) := by decide +kernel
theorem dX12_readsSet_54 : decode cX12_readsSet 54 = .ok (.invokevirtual 291, 3) := by decide +kernel
theorem dX12_readsSet_57 : decode cX12_readsSet 57 = .ok (.ifCond .ne 5, 3) := by decide +kernel
theorem dX12_readsSet_60 : decode cX12_readsSet 60 = .ok (.iconst 0, 1) := by decide +kernel
theorem dX12_readsSet_61 : decode cX12_readsSet 61 = .ok (.ireturn, 1) := by decide +kernel
theorem dX12_readsSet_62 : decode cX12_readsSet 62 = .ok (.aload_n 0, 1) := by decide +kernel
theorem dX12_readsSet_63 : decode cX12_readsSet 63 = .ok (.getfield 56, 3) := by decide +kernel
theorem dX12_readsSet_66 : decode cX12_readsSet 66 = .ok (.bipush 11, 2) := by decide +kernel
theorem dX12_readsSet_68 : decode cX12_readsSet 68 = .ok (.iload_n 1, 1) := by decide +kernel
theorem dX12_readsSet_69 : decode cX12_readsSet 69 = .ok (.iadd, 1) := by decide +kernel
theorem dX12_readsSet_70 : decode cX12_readsSet 70 = .ok (.aload_n 0, 1) := by decide +kernel
theorem dX12_readsSet_71 : decode cX12_readsSet 71 = .ok (.getfield 179, 3) := by decide +kernel
theorem dX12_readsSet_74 : decode cX12_readsSet 74 = .ok (.iastore, 1) := by decide +kernel
theorem dX12_readsSet_75 : decode cX12_readsSet 75 = .ok (.aload_n 0, 1) := by decide +kernel
theorem dX12_readsSet_76 : decode cX12_readsSet 76 = .ok (.invokevirtual 229, 3) := by decide +kernel
theorem dX12_readsSet_79 : decode cX12_readsSet 79 = .ok (.aload_n 0, 1) := by decide +kernel
theorem dX12_readsSet_80 : decode cX12_readsSet 80 = .ok (.invokevirtual 309, 3) := by decide +kernel
theorem dX12_readsSet_83 : decode cX12_readsSet 83 = .ok (.ireturn, 1) := by decide +kernel
theorem dX12_readsAll_0 : decode cX12_readsAll 0 = .ok (.aload_n 0, 1) := by decide +kernel
theorem dX12_readsAll_1 : decode cX12_readsAll 1 = .ok (.getfield 13, 3) := by decide +kernel
theorem dX12_readsAll_4 : decode cX12_readsAll 4 = .ok (.iconst 1, 1) := by decide +kernel
theorem dX12_readsAll_5 : decode cX12_readsAll 5 = .ok (.iconst 0, 1) := by decide +kernel
theorem dX12_readsAll_6 : decode cX12_readsAll 6 = .ok (.iastore, 1) := by decide +kernel
theorem dX12_readsAll_7 : decode cX12_readsAll 7 = .ok (.aload_n 0, 1) := by decide +kernel
theorem dX12_readsAll_8 : decode cX12_readsAll 8 = .ok (.getfield 16, 3) := by decide +kernel
theorem dX12_readsAll_11 : decode cX12_readsAll 11 = .ok (.iconst 1, 1) := by decide +kernel
theorem dX12_readsAll_12 : decode cX12_readsAll 12 = .ok (.iconst 0, 1) := by decide +kernel
theorem dX12_readsAll_13 : decode cX12_readsAll 13 = .ok (.iastore, 1) := by decide +kernel
theorem dX12_readsAll_14 : decode cX12_readsAll 14 = .ok (.aload_n 0, 1) := by decide +kernel
theorem dX12_readsAll_15 : decode cX12_readsAll 15 = .ok (.getfield 19, 3) := by decide +kernel
theorem dX12_readsAll_18 : decode cX12_readsAll 18 = .ok (.iconst 1, 1) := by decide +kernel
theorem dX12_readsAll_19 : decode cX12_readsAll 19 = .ok (.iconst 0, 1) := by decide +kernel
theorem dX12_readsAll_20 : decode cX12_readsAll 20 = .ok (.iastore, 1) := by decide +kernel
theorem dX12_readsAll_21 : decode cX12_readsAll 21 = .ok (.iconst 0, 1) := by decide +kernel
theorem dX12_readsAll_22 : decode cX12_readsAll 22 = .ok (.istore_n 1, 1) := by decide +kernel
theorem dX12_readsAll_23 : decode cX12_readsAll 23 = .ok (.iload_n 1, 1) := by decide +kernel
theorem dX12_readsAll_24 : decode cX12_readsAll 24 = .ok (.bipush 11, 2) := by decide +kernel
theorem dX12_readsAll_26 : decode cX12_readsAll 26 = .ok (.if_icmp .ge 29, 3) := by decide +kernel
theorem dX12_readsAll_29 : decode cX12_readsAll 29 = .ok (.aload_n 0, 1) := by decide +kernel
theorem dX12_readsAll_30 : decode cX12_readsAll 30 = .ok (.getfield 56, 3) := by decide +kernel
theorem dX12_readsAll_33 : decode cX12_readsAll 33 = .ok (.bipush 11, 2) := by decide +kernel
theorem dX12_readsAll_35 : decode cX12_readsAll 35 = .ok (.iload_n 1, 1) := by decide +kernel
theorem dX12_readsAll_36 : decode cX12_readsAll 36 = .ok (.iadd, 1) := by decide +kernel
theorem dX12_readsAll_37 : decode cX12_readsAll 37 = .ok (.iload_n 1, 1) := by decide +kernel
theorem dX12_readsAll_38 : decode cX12_readsAll 38 = .ok (.invokestatic 153, 3) := by decide +kernel
theorem dX12_readsAll_41 : decode cX12_readsAll 41 = .ok (.iastore, 1) := by decide +kernel
theorem dX12_readsAll_42 : decode cX12_readsAll 42 = .ok (.aload_n 0, 1) := by decide +kernel
theorem dX12_readsAll_43 : decode cX12_readsAll 43 = .ok (.getfield 59, 3) := by decide +kernel
theorem dX12_readsAll_46 : decode cX12_readsAll 46 = .ok (.iload_n 1, 1) := by decide +kernel
theorem dX12_readsAll_47 : decode cX12_readsAll 47 = .ok (.iconst 0, 1) := by decide +kernel
theorem dX12_readsAll_48 : decode cX12_readsAll 48 = .ok (.bastore, 1) := by decide +kernel
theorem dX12_readsAll_49 : decode cX12_readsAll 49 = .ok (.iinc 1 1, 3) := by decide +kernel
theorem dX12_readsAll_52 : decode cX12_readsAll 52 = .ok (.goto (-29), 3) := by decide +kernel
theorem dX12_readsAll_55 : decode cX12_readsAll 55 = .ok (.aload_n 0, 1) := by decide +kernel
theorem dX12_readsAll_56 : decode cX12_readsAll 56 = .ok (.sipush 1000, 3) := by decide +kernel
theorem dX12_readsAll_59 : decode cX12_readsAll 59 = .ok (.putfield 195, 3) := by decide +kernel
theorem dX12_readsAll_62 : decode cX12_readsAll 62 = .ok (.aload_n 0, 1) := by decide +kernel
theorem dX12_readsAll_63 : decode cX12_readsAll 63 = .ok (.aload_n 0, 1) := by decide +kernel
theorem dX12_readsAll_64 : decode cX12_readsAll 64 = .ok (.getfield 163, 3) := by decide +kernel
theorem dX12_readsAll_67 : decode cX12_readsAll 67 = .ok (.putfield 166, 3) := by decide +kernel
theorem dX12_readsAll_70 : decode cX12_readsAll 70 = .ok (.aload_n 0, 1) := by decide +kernel
theorem dX12_readsAll_71 : decode cX12_readsAll 71 = .ok (.iconst 0, 1) := by decide +kernel
theorem dX12_readsAll_72 : decode cX12_readsAll 72 = .ok (.putfield 163, 3) := by decide +kernel
theorem dX12_readsAll_75 : decode cX12_readsAll 75 = .ok (.aload_n 0, 1) := by decide +kernel
theorem dX12_readsAll_76 : decode cX12_readsAll 76 = .ok (.iconst 0, 1) := by decide +kernel
theorem dX12_readsAll_77 : decode cX12_readsAll 77 = .ok (.putfield 169, 3) := by decide +kernel
theorem dX12_readsAll_80 : decode cX12_readsAll 80 = .ok (.aload_n 0, 1) := by decide +kernel
theorem dX12_readsAll_81 : decode cX12_readsAll 81 = .ok (.invokevirtual 229, 3) := by decide +kernel
theorem dX12_readsAll_84 : decode cX12_readsAll 84 = .ok (.aload_n 0, 1) := by decide +kernel
theorem dX12_readsAll_85 : decode cX12_readsAll 85 = .ok (.getfield 182, 3) := by decide +kernel
theorem dX12_readsAll_88 : decode cX12_readsAll 88 = .ok (.ifCond .eq 86, 3) := by decide +kernel
theorem dX12_readsAll_91 : decode cX12_readsAll 91 = .ok (.aload_n 0, 1) := by decide +kernel
theorem dX12_readsAll_92 : decode cX12_readsAll 92 = .ok (.ldc2_w 245, 3) := by decide +kernel
theorem dX12_readsAll_95 : decode cX12_readsAll 95 = .ok (.invokevirtual 214, 3) := by decide +kernel
theorem dX12_readsAll_98 : decode cX12_readsAll 98 = .ok (.ifCond .eq 10, 3) := by decide +kernel
theorem dX12_readsAll_101 : decode cX12_readsAll 101 = .ok (.aload_n 0, 1) := by decide +kernel
theorem dX12_readsAll_102 : decode cX12_readsAll 102 = .ok (.invokevirtual 324, 3) := by decide +kernel
theorem dX12_readsAll_105 : decode cX12_readsAll 105 = .ok (.goto 59, 3) := by decide +kernel
theorem dX12_readsAll_108 : decode cX12_readsAll 108 = .ok (.aload_n 0, 1) := by decide +kernel
theorem dX12_readsAll_109 : decode cX12_readsAll 109 = .ok (.ldc2_w 257, 3) := by decide +kernel
theorem dX12_readsAll_112 : decode cX12_readsAll 112 = .ok (.invokevirtual 214, 3) := by decide +kernel
theorem dX12_readsAll_115 : decode cX12_readsAll 115 = .ok (.ifCond .eq 10, 3) := by decide +kernel
theorem dX12_readsAll_118 : decode cX12_readsAll 118 = .ok (.aload_n 0, 1) := by decide +kernel
theorem dX12_readsAll_119 : decode cX12_readsAll 119 = .ok (.invokevirtual 327, 3) := by decide +kernel
theorem dX12_readsAll_122 : decode cX12_readsAll 122 = .ok (.goto 42, 3) := by decide +kernel
theorem dX12_readsAll_125 : decode cX12_readsAll 125 = .ok (.aload_n 0, 1) := by decide +kernel
theorem dX12_readsAll_126 : decode cX12_readsAll 126 = .ok (.ldc2_w 261, 3) := by decide +kernel
theorem dX12_readsAll_129 : decode cX12_readsAll 129 = .ok (.invokevirtual 214, 3) := by decide +kernel
theorem dX12_readsAll_132 : decode cX12_readsAll 132 = .ok (.ifCond .eq 10, 3) := by decide +kernel
theorem dX12_readsAll_135 : decode cX12_readsAll 135 = .ok (.aload_n 0, 1) := by decide +kernel
theorem dX12_readsAll_136 : decode cX12_readsAll 136 = .ok (.invokevirtual 330, 3) := by decide +kernel
theorem dX12_readsAll_139 : decode cX12_readsAll 139 = .ok (.goto 25, 3) := by decide +kernel
theorem dX12_readsAll_142 : decode cX12_readsAll 142 = .ok (.aload_n 0, 1) := by decide +kernel
theorem dX12_readsAll_143 : decode cX12_readsAll 143 = .ok (.ldc2_w 263, 3) := by decide +kernel
theorem dX12_readsAll_146 : decode cX12_readsAll 146 = .ok (.invokevirtual 214, 3) := by decide +kernel
theorem dX12_readsAll_149 : decode cX12_readsAll 149 = .ok (.ifCond .eq 10, 3) := by decide +kernel
theorem dX12_readsAll_152 : decode cX12_readsAll 152 = .ok (.aload_n 0, 1) := by decide +kernel
theorem dX12_readsAll_153 : decode cX12_readsAll 153 = .ok (.invokevirtual 333, 3) := by decide +kernel
theorem dX12_readsAll_156 : decode cX12_readsAll 156 = .ok (.goto 8, 3) := by decide +kernel
theorem dX12_readsAll_159 : decode cX12_readsAll 159 = .ok (.aload_n 0, 1) := by decide +kernel
theorem dX12_readsAll_160 : decode cX12_readsAll 160 = .ok (.iconst 1, 1) := by decide +kernel
theorem dX12_readsAll_161 : decode cX12_readsAll 161 = .ok (.invokevirtual 222, 3) := by decide +kernel
theorem dX12_readsAll_164 : decode cX12_readsAll 164 = .ok (.istore_n 1, 1) := by decide +kernel
theorem dX12_readsAll_165 : decode cX12_readsAll 165 = .ok (.iload_n 1, 1) := by decide +kernel
theorem dX12_readsAll_166 : decode cX12_readsAll 166 = .ok (.ifCond .ne 5, 3) := by decide +kernel
theorem dX12_readsAll_169 : decode cX12_readsAll 169 = .ok (.iconst 0, 1) := by decide +kernel
theorem dX12_readsAll_170 : decode cX12_readsAll 170 = .ok (.ireturn, 1) := by decide +kernel
theorem dX12_readsAll_171 : decode cX12_readsAll 171 = .ok (.goto (-87), 3) := by decide +kernel
theorem dX12_readsAll_174 : decode cX12_readsAll 174 = .ok (.iconst 1, 1) := by decide +kernel
theorem dX12_readsAll_175 : decode cX12_readsAll 175 = .ok (.ireturn, 1) := by decide +kernel
theorem dX12_lays_0 : decode cX12_lays 0 = .ok (.aload_n 0, 1) := by decide +kernel
theorem dX12_lays_1 : decode cX12_lays 1 = .ok (.getfield 13, 3) := by decide +kernel
theorem dX12_lays_4 : decode cX12_lays 4 = .ok (.iload_n 2, 1) := by decide +kernel
theorem dX12_lays_5 : decode cX12_lays 5 = .ok (.aload_n 0, 1) := by decide +kernel
theorem dX12_lays_6 : decode cX12_lays 6 = .ok (.getfield 13, 3) := by decide +kernel
theorem dX12_lays_9 : decode cX12_lays 9 = .ok (.iload_n 1, 1) := by decide +kernel
theorem dX12_lays_10 : decode cX12_lays 10 = .ok (.iaload, 1) := by decide +kernel
theorem dX12_lays_11 : decode cX12_lays 11 = .ok (.iastore, 1) := by decide +kernel
theorem dX12_lays_12 : decode cX12_lays 12 = .ok (.aload_n 0, 1) := by decide +kernel
theorem dX12_lays_13 : decode cX12_lays 13 = .ok (.getfield 16, 3) := by decide +kernel
theorem dX12_lays_16 : decode cX12_lays 16 = .ok (.iload_n 2, 1) := by decide +kernel
theorem dX12_lays_17 : decode cX12_lays 17 = .ok (.aload_n 0, 1) := by decide +kernel
theorem dX12_lays_18 : decode cX12_lays 18 = .ok (.getfield 16, 3) := by decide +kernel
theorem dX12_lays_21 : decode cX12_lays 21 = .ok (.iload_n 1, 1) := by decide +kernel
theorem dX12_lays_22 : decode cX12_lays 22 = .ok (.iaload, 1) := by decide +kernel
theorem dX12_lays_23 : decode cX12_lays 23 = .ok (.iastore, 1) := by decide +kernel
theorem dX12_lays_24 : decode cX12_lays 24 = .ok (.aload_n 0, 1) := by decide +kernel
theorem dX12_lays_25 : decode cX12_lays 25 = .ok (.getfield 19, 3) := by decide +kernel
theorem dX12_lays_28 : decode cX12_lays 28 = .ok (.iload_n 2, 1) := by decide +kernel
theorem dX12_lays_29 : decode cX12_lays 29 = .ok (.aload_n 0, 1) := by decide +kernel
theorem dX12_lays_30 : decode cX12_lays 30 = .ok (.getfield 19, 3) := by decide +kernel
theorem dX12_lays_33 : decode cX12_lays 33 = .ok (.iload_n 1, 1) := by decide +kernel
theorem dX12_lays_34 : decode cX12_lays 34 = .ok (.iaload, 1) := by decide +kernel
theorem dX12_lays_35 : decode cX12_lays 35 = .ok (.iastore, 1) := by decide +kernel
theorem dX12_lays_36 : decode cX12_lays 36 = .ok (.iconst 0, 1) := by decide +kernel
theorem dX12_lays_37 : decode cX12_lays 37 = .ok (.istore_n 3, 1) := by decide +kernel
theorem dX12_lays_38 : decode cX12_lays 38 = .ok (.iload_n 3, 1) := by decide +kernel
theorem dX12_lays_39 : decode cX12_lays 39 = .ok (.bipush 12, 2) := by decide +kernel
theorem dX12_lays_41 : decode cX12_lays 41 = .ok (.if_icmp .ge 119, 3) := by decide +kernel
theorem dX12_lays_44 : decode cX12_lays 44 = .ok (.aload_n 0, 1) := by decide +kernel
theorem dX12_lays_45 : decode cX12_lays 45 = .ok (.getfield 26, 3) := by decide +kernel
theorem dX12_lays_48 : decode cX12_lays 48 = .ok (.bipush 12, 2) := by decide +kernel
theorem dX12_lays_50 : decode cX12_lays 50 = .ok (.iload_n 2, 1) := by decide +kernel
theorem dX12_lays_51 : decode cX12_lays 51 = .ok (.imul, 1) := by decide +kernel
theorem dX12_lays_52 : decode cX12_lays 52 = .ok (.iload_n 3, 1) := by decide +kernel
theorem dX12_lays_53 : decode cX12_lays 53 = .ok (.iadd, 1) := by decide +kernel
theorem dX12_lays_54 : decode cX12_lays 54 = .ok (.aload_n 0, 1) := by decide +kernel
theorem dX12_lays_55 : decode cX12_lays 55 = .ok (.getfield 26, 3) := by decide +kernel
theorem dX12_lays_58 : decode cX12_lays 58 = .ok (.bipush 12, 2) := by decide +kernel
theorem dX12_lays_60 : decode cX12_lays 60 = .ok (.iload_n 1, 1) := by decide +kernel
theorem dX12_lays_61 : decode cX12_lays 61 = .ok (.imul, 1) := by decide +kernel
theorem dX12_lays_62 : decode cX12_lays 62 = .ok (.iload_n 3, 1) := by decide +kernel
theorem dX12_lays_63 : decode cX12_lays 63 = .ok (.iadd, 1) := by decide +kernel
theorem dX12_lays_64 : decode cX12_lays 64 = .ok (.iaload, 1) := by decide +kernel
theorem dX12_lays_65 : decode cX12_lays 65 = .ok (.iastore, 1) := by decide +kernel
theorem dX12_lays_66 : decode cX12_lays 66 = .ok (.aload_n 0, 1) := by decide +kernel
theorem dX12_lays_67 : decode cX12_lays 67 = .ok (.getfield 29, 3) := by decide +kernel
theorem dX12_lays_70 : decode cX12_lays 70 = .ok (.bipush 12, 2) := by decide +kernel
theorem dX12_lays_72 : decode cX12_lays 72 = .ok (.iload_n 2, 1) := by decide +kernel
theorem dX12_lays_73 : decode cX12_lays 73 = .ok (.imul, 1) := by decide +kernel
theorem dX12_lays_74 : decode cX12_lays 74 = .ok (.iload_n 3, 1) := by decide +kernel
theorem dX12_lays_75 : decode cX12_lays 75 = .ok (.iadd, 1) := by decide +kernel
theorem dX12_lays_76 : decode cX12_lays 76 = .ok (.aload_n 0, 1) := by decide +kernel
theorem dX12_lays_77 : decode cX12_lays 77 = .ok (.getfield 29, 3) := by decide +kernel
theorem dX12_lays_80 : decode cX12_lays 80 = .ok (.bipush 12, 2) := by decide +kernel
theorem dX12_lays_82 : decode cX12_lays 82 = .ok (.iload_n 1, 1) := by decide +kernel
theorem dX12_lays_83 : decode cX12_lays 83 = .ok (.imul, 1) := by decide +kernel
theorem dX12_lays_84 : decode cX12_lays 84 = .ok (.iload_n 3, 1) := by decide +kernel
theorem dX12_lays_85 : decode cX12_lays 85 = .ok (.iadd, 1) := by decide +kernel
theorem dX12_lays_86 : decode cX12_lays 86 = .ok (.iaload, 1) := by decide +kernel
theorem dX12_lays_87 : decode cX12_lays 87 = .ok (.iastore, 1) := by decide +kernel
theorem dX12_lays_88 : decode cX12_lays 88 = .ok (.aload_n 0, 1) := by decide +kernel
theorem dX12_lays_89 : decode cX12_lays 89 = .ok (.getfield 32, 3) := by decide +kernel
theorem dX12_lays_92 : decode cX12_lays 92 = .ok (.bipush 12, 2) := by decide +kernel
theorem dX12_lays_94 : decode cX12_lays 94 = .ok (.iload_n 2, 1) := by decide +kernel
theorem dX12_lays_95 : decode cX12_lays 95 = .ok (.imul, 1) := by decide +kernel
theorem dX12_lays_96 : decode cX12_lays 96 = .ok (.iload_n 3, 1) := by decide +kernel
theorem dX12_lays_97 : decode cX12_lays 97 = .ok (.iadd, 1) := by decide +kernel
theorem dX12_lays_98 : decode cX12_lays 98 = .ok (.aload_n 0, 1) := by decide +kernel
theorem dX12_lays_99 : decode cX12_lays 99 = .ok (.getfield 32, 3) := by decide +kernel
theorem dX12_lays_102 : decode cX12_lays 102 = .ok (.bipush 12, 2) := by decide +kernel
theorem dX12_lays_104 : decode cX12_lays 104 = .ok (.iload_n 1, 1) := by decide +kernel
theorem dX12_lays_105 : decode cX12_lays 105 = .ok (.imul, 1) := by decide +kernel
theorem dX12_lays_106 : decode cX12_lays 106 = .ok (.iload_n 3, 1) := by decide +kernel
theorem dX12_lays_107 : decode cX12_lays 107 = .ok (.iadd, 1) := by decide +kernel
theorem dX12_lays_108 : decode cX12_lays 108 = .ok (.iaload, 1) := by decide +kernel
theorem dX12_lays_109 : decode cX12_lays 109 = .ok (.iastore, 1) := by decide +kernel
theorem dX12_lays_110 : decode cX12_lays 110 = .ok (.aload_n 0, 1) := by decide +kernel
theorem dX12_lays_111 : decode cX12_lays 111 = .ok (.getfield 35, 3) := by decide +kernel
theorem dX12_lays_114 : decode cX12_lays 114 = .ok (.bipush 12, 2) := by decide +kernel
theorem dX12_lays_116 : decode cX12_lays 116 = .ok (.iload_n 2, 1) := by decide +kernel
theorem dX12_lays_117 : decode cX12_lays 117 = .ok (.imul, 1) := by decide +kernel
theorem dX12_lays_118 : decode cX12_lays 118 = .ok (.iload_n 3, 1) := by decide +kernel
theorem dX12_lays_119 : decode cX12_lays 119 = .ok (.iadd, 1) := by decide +kernel
theorem dX12_lays_120 : decode cX12_lays 120 = .ok (.aload_n 0, 1) := by decide +kernel
theorem dX12_lays_121 : decode cX12_lays 121 = .ok (.getfield 35, 3) := by decide +kernel
theorem dX12_lays_124 : decode cX12_lays 124 = .ok (.bipush 12, 2) := by decide +kernel
theorem dX12_lays_126 : decode cX12_lays 126 = .ok (.iload_n 1, 1) := by decide +kernel
theorem dX12_lays_127 : decode cX12_lays 127 = .ok (.imul, 1) := by decide +kernel
theorem dX12_lays_128 : decode cX12_lays 128 = .ok (.iload_n 3, 1) := by decide +kernel
theorem dX12_lays_129 : decode cX12_lays 129 = .ok (.iadd, 1) := by decide +kernel
theorem dX12_lays_130 : decode cX12_lays 130 = .ok (.iaload, 1) := by decide +kernel
theorem dX12_lays_131 : decode cX12_lays 131 = .ok (.iastore, 1) := by decide +kernel
theorem dX12_lays_132 : decode cX12_lays 132 = .ok (.aload_n 0, 1) := by decide +kernel
theorem dX12_lays_133 : decode cX12_lays 133 = .ok (.getfield 38, 3) := by decide +kernel
theorem dX12_lays_136 : decode cX12_lays 136 = .ok (.bipush 12, 2) := by decide +kernel
theorem dX12_lays_138 : decode cX12_lays 138 = .ok (.iload_n 2, 1) := by decide +kernel
theorem dX12_lays_139 : decode cX12_lays 139 = .ok (.imul, 1) := by decide +kernel
theorem dX12_lays_140 : decode cX12_lays 140 = .ok (.iload_n 3, 1) := by decide +kernel
theorem dX12_lays_141 : decode cX12_lays 141 = .ok (.iadd, 1) := by decide +kernel
theorem dX12_lays_142 : decode cX12_lays 142 = .ok (.aload_n 0, 1) := by decide +kernel
theorem dX12_lays_143 : decode cX12_lays 143 = .ok (.getfield 38, 3) := by decide +kernel
theorem dX12_lays_146 : decode cX12_lays 146 = .ok (.bipush 12, 2) := by decide +kernel
theorem dX12_lays_148 : decode cX12_lays 148 = .ok (.iload_n 1, 1) := by decide +kernel
theorem dX12_lays_149 : decode cX12_lays 149 = .ok (.imul, 1) := by decide +kernel
theorem dX12_lays_150 : decode cX12_lays 150 = .ok (.iload_n 3, 1) := by decide +kernel
theorem dX12_lays_151 : decode cX12_lays 151 = .ok (.iadd, 1) := by decide +kernel
theorem dX12_lays_152 : decode cX12_lays 152 = .ok (.iaload, 1) := by decide +kernel
theorem dX12_lays_153 : decode cX12_lays 153 = .ok (.iastore, 1) := by decide +kernel
theorem dX12_lays_154 : decode cX12_lays 154 = .ok (.iinc 3 1, 3) := by decide +kernel
theorem dX12_lays_157 : decode cX12_lays 157 = .ok (.goto (-119), 3) := by decide +kernel
theorem dX12_lays_160 : decode cX12_lays 160 = .ok (.iconst 0, 1) := by decide +kernel
theorem dX12_lays_161 : decode cX12_lays 161 = .ok (.istore_n 3, 1) := by decide +kernel
theorem dX12_lays_162 : decode cX12_lays 162 = .ok (.iload_n 3, 1) := by decide +kernel
theorem dX12_lays_163 : decode cX12_lays 163 = .ok (.bipush 8, 2) := by decide +kernel
theorem dX12_lays_165 : decode cX12_lays 165 = .ok (.if_icmp .ge 119, 3) := by decide +kernel
theorem dX12_lays_168 : decode cX12_lays 168 = .ok (.aload_n 0, 1) := by decide +kernel
theorem dX12_lays_169 : decode cX12_lays 169 = .ok (.getfield 41, 3) := by decide +kernel
theorem dX12_lays_172 : decode cX12_lays 172 = .ok (.bipush 8, 2) := by decide +kernel
theorem dX12_lays_174 : decode cX12_lays 174 = .ok (.iload_n 2, 1) := by decide +kernel
theorem dX12_lays_175 : decode cX12_lays 175 = .ok (.imul, 1) := by decide +kernel
theorem dX12_lays_176 : decode cX12_lays 176 = .ok (.iload_n 3, 1) := by decide +kernel
theorem dX12_lays_177 : decode cX12_lays 177 = .ok (.iadd, 1) := by decide +kernel
theorem dX12_lays_178 : decode cX12_lays 178 = .ok (.aload_n 0, 1) := by decide +kernel
theorem dX12_lays_179 : decode cX12_lays 179 = .ok (.getfield 41, 3) := by decide +kernel
theorem dX12_lays_182 : decode cX12_lays 182 = .ok (.bipush 8, 2) := by decide +kernel
theorem dX12_lays_184 : decode cX12_lays 184 = .ok (.iload_n 1, 1) := by decide +kernel
theorem dX12_lays_185 : decode cX12_lays 185 = .ok (.imul, 1) := by decide +kernel
theorem dX12_lays_186 : decode cX12_lays 186 = .ok (.iload_n 3, 1) := by decide +kernel
theorem dX12_lays_187 : decode cX12_lays 187 = .ok (.iadd, 1) := by decide +kernel
theorem dX12_lays_188 : decode cX12_lays 188 = .ok (.iaload, 1) := by decide +kernel
theorem dX12_lays_189 : decode cX12_lays 189 = .ok (.iastore, 1) := by decide +kernel
theorem dX12_lays_190 : decode cX12_lays 190 = .ok (.aload_n 0, 1) := by decide +kernel
theorem dX12_lays_191 : decode cX12_lays 191 = .ok (.getfield 44, 3) := by decide +kernel
theorem dX12_lays_194 : decode cX12_lays 194 = .ok (.bipush 8, 2) := by decide +kernel
theorem dX12_lays_196 : decode cX12_lays 196 = .ok (.iload_n 2, 1) := by decide +kernel
theorem dX12_lays_197 : decode cX12_lays 197 = .ok (.imul, 1) := by decide +kernel
theorem dX12_lays_198 : decode cX12_lays 198 = .ok (.iload_n 3, 1) := by decide +kernel
theorem dX12_lays_199 : decode cX12_lays 199 = .ok (.iadd, 1) := by decide +kernel
theorem dX12_lays_200 : decode cX12_lays 200 = .ok (.aload_n 0, 1) := by decide +kernel
theorem dX12_lays_201 : decode cX12_lays 201 = .ok (.getfield 44, 3) := by decide +kernel
theorem dX12_lays_204 : decode cX12_lays 204 = .ok (.bipush 8, 2) := by decide +kernel
theorem dX12_lays_206 : decode cX12_lays 206 = .ok (.iload_n 1, 1) := by decide +kernel
theorem dX12_lays_207 : decode cX12_lays 207 = .ok (.imul, 1) := by decide +kernel
theorem dX12_lays_208 : decode cX12_lays 208 = .ok (.iload_n 3, 1) := by decide +kernel
theorem dX12_lays_209 : decode cX12_lays 209 = .ok (.iadd, 1) := by decide +kernel
theorem dX12_lays_210 : decode cX12_lays 210 = .ok (.iaload, 1) := by decide +kernel
theorem dX12_lays_211 : decode cX12_lays 211 = .ok (.iastore, 1) := by decide +kernel
theorem dX12_lays_212 : decode cX12_lays 212 = .ok (.aload_n 0, 1) := by decide +kernel
theorem dX12_lays_213 : decode cX12_lays 213 = .ok (.getfield 47, 3) := by decide +kernel
theorem dX12_lays_216 : decode cX12_lays 216 = .ok (.bipush 8, 2) := by decide +kernel
theorem dX12_lays_218 : decode cX12_lays 218 = .ok (.iload_n 2, 1) := by decide +kernel
theorem dX12_lays_219 : decode cX12_lays 219 = .ok (.imul, 1) := by decide +kernel
theorem dX12_lays_220 : decode cX12_lays 220 = .ok (.iload_n 3, 1) := by decide +kernel
theorem dX12_lays_221 : decode cX12_lays 221 = .ok (.iadd, 1) := by decide +kernel
theorem dX12_lays_222 : decode cX12_lays 222 = .ok (.aload_n 0, 1) := by decide +kernel
theorem dX12_lays_223 : decode cX12_lays 223 = .ok (.getfield 47, 3) := by decide +kernel
theorem dX12_lays_226 : decode cX12_lays 226 = .ok (.bipush 8, 2) := by decide +kernel
theorem dX12_lays_228 : decode cX12_lays 228 = .ok (.iload_n 1, 1) := by decide +kernel
theorem dX12_lays_229 : decode cX12_lays 229 = .ok (.imul, 1) := by decide +kernel
theorem dX12_lays_230 : decode cX12_lays 230 = .ok (.iload_n 3, 1) := by decide +kernel
theorem dX12_lays_231 : decode cX12_lays 231 = .ok (.iadd, 1) := by decide +kernel
theorem dX12_lays_232 : decode cX12_lays 232 = .ok (.iaload, 1) := by decide +kernel
theorem dX12_lays_233 : decode cX12_lays 233 = .ok (.iastore, 1) := by decide +kernel
theorem dX12_lays_234 : decode cX12_lays 234 = .ok (.aload_n 0, 1) := by decide +kernel
theorem dX12_lays_235 : decode cX12_lays 235 = .ok (.getfield 50, 3) := by decide +kernel
theorem dX12_lays_238 : decode cX12_lays 238 = .ok (.bipush 8, 2) := by decide +kernel
theorem dX12_lays_240 : decode cX12_lays 240 = .ok (.iload_n 2, 1) := by decide +kernel
theorem dX12_lays_241 : decode cX12_lays 241 = .ok (.imul, 1) := by decide +kernel
theorem dX12_lays_242 : decode cX12_lays 242 = .ok (.iload_n 3, 1) := by decide +kernel
theorem dX12_lays_243 : decode cX12_lays 243 = .ok (.iadd, 1) := by decide +kernel
theorem dX12_lays_244 : decode cX12_lays 244 = .ok (.aload_n 0, 1) := by decide +kernel
theorem dX12_lays_245 : decode cX12_lays 245 = .ok (.getfield 50, 3) := by decide +kernel
theorem dX12_lays_248 : decode cX12_lays 248 = .ok (.bipush 8, 2) := by decide +kernel
theorem dX12_lays_250 : decode cX12_lays 250 = .ok (.iload_n 1, 1) := by decide +kernel
theorem dX12_lays_251 : decode cX12_lays 251 = .ok (.imul, 1) := by decide +kernel
theorem dX12_lays_252 : decode cX12_lays 252 = .ok (.iload_n 3, 1) := by decide +kernel
theorem dX12_lays_253 : decode cX12_lays 253 = .ok (.iadd, 1) := by decide +kernel
theorem dX12_lays_254 : decode cX12_lays 254 = .ok (.iaload, 1) := by decide +kernel
theorem dX12_lays_255 : decode cX12_lays 255 = .ok (.iastore, 1) := by decide +kernel
theorem dX12_lays_256 : decode cX12_lays 256 = .ok (.aload_n 0, 1) := by decide +kernel
theorem dX12_lays_257 : decode cX12_lays 257 = .ok (.getfield 53, 3) := by decide +kernel
theorem dX12_lays_260 : decode cX12_lays 260 = .ok (.bipush 8, 2) := by decide +kernel
theorem dX12_lays_262 : decode cX12_lays 262 = .ok (.iload_n 2, 1) := by decide +kernel
theorem dX12_lays_263 : decode cX12_lays 263 = .ok (.imul, 1) := by decide +kernel
theorem dX12_lays_264 : decode cX12_lays 264 = .ok (.iload_n 3, 1) := by decide +kernel
theorem dX12_lays_265 : decode cX12_lays 265 = .ok (.iadd, 1) := by decide +kernel
theorem dX12_lays_266 : decode cX12_lays 266 = .ok (.aload_n 0, 1) := by decide +kernel
theorem dX12_lays_267 : decode cX12_lays 267 = .ok (.getfield 53, 3) := by decide +kernel
theorem dX12_lays_270 : decode cX12_lays 270 = .ok (.bipush 8, 2) := by decide +kernel
theorem dX12_lays_272 : decode cX12_lays 272 = .ok (.iload_n 1, 1) := by decide +kernel
theorem dX12_lays_273 : decode cX12_lays 273 = .ok (.imul, 1) := by decide +kernel
theorem dX12_lays_274 : decode cX12_lays 274 = .ok (.iload_n 3, 1) := by decide +kernel
theorem dX12_lays_275 : decode cX12_lays 275 = .ok (.iadd, 1) := by decide +kernel
theorem dX12_lays_276 : decode cX12_lays 276 = .ok (.iaload, 1) := by decide +kernel
theorem dX12_lays_277 : decode cX12_lays 277 = .ok (.iastore, 1) := by decide +kernel
theorem dX12_lays_278 : decode cX12_lays 278 = .ok (.iinc 3 1, 3) := by decide +kernel
theorem dX12_lays_281 : decode cX12_lays 281 = .ok (.goto (-119), 3) := by decide +kernel
theorem dX12_lays_284 : decode cX12_lays 284 = .ok (.iconst 0, 1) := by decide +kernel
theorem dX12_lays_285 : decode cX12_lays 285 = .ok (.istore_n 3, 1) := by decide +kernel
theorem dX12_lays_286 : decode cX12_lays 286 = .ok (.iload_n 3, 1) := by decide +kernel
theorem dX12_lays_287 : decode cX12_lays 287 = .ok (.bipush 11, 2) := by decide +kernel
theorem dX12_lays_289 : decode cX12_lays 289 = .ok (.if_icmp .ge 31, 3) := by decide +kernel
theorem dX12_lays_292 : decode cX12_lays 292 = .ok (.aload_n 0, 1) := by decide +kernel
theorem dX12_lays_293 : decode cX12_lays 293 = .ok (.getfield 56, 3) := by decide +kernel
theorem dX12_lays_296 : decode cX12_lays 296 = .ok (.bipush 11, 2) := by decide +kernel
theorem dX12_lays_298 : decode cX12_lays 298 = .ok (.iload_n 2, 1) := by decide +kernel
theorem dX12_lays_299 : decode cX12_lays 299 = .ok (.imul, 1) := by decide +kernel
theorem dX12_lays_300 : decode cX12_lays 300 = .ok (.iload_n 3, 1) := by decide +kernel
theorem dX12_lays_301 : decode cX12_lays 301 = .ok (.iadd, 1) := by decide +kernel
theorem dX12_lays_302 : decode cX12_lays 302 = .ok (.aload_n 0, 1) := by decide +kernel
theorem dX12_lays_303 : decode cX12_lays 303 = .ok (.getfield 56, 3) := by decide +kernel
theorem dX12_lays_306 : decode cX12_lays 306 = .ok (.bipush 11, 2) := by decide +kernel
theorem dX12_lays_308 : decode cX12_lays 308 = .ok (.iload_n 1, 1) := by decide +kernel
theorem dX12_lays_309 : decode cX12_lays 309 = .ok (.imul, 1) := by decide +kernel
theorem dX12_lays_310 : decode cX12_lays 310 = .ok (.iload_n 3, 1) := by decide +kernel
theorem dX12_lays_311 : decode cX12_lays 311 = .ok (.iadd, 1) := by decide +kernel
theorem dX12_lays_312 : decode cX12_lays 312 = .ok (.iaload, 1) := by decide +kernel
theorem dX12_lays_313 : decode cX12_lays 313 = .ok (.iastore, 1) := by decide +kernel
theorem dX12_lays_314 : decode cX12_lays 314 = .ok (.iinc 3 1, 3) := by decide +kernel
theorem dX12_lays_317 : decode cX12_lays 317 = .ok (.goto (-31), 3) := by decide +kernel
theorem dX12_lays_320 : decode cX12_lays 320 = .ok (.iconst 0, 1) := by decide +kernel
theorem dX12_lays_321 : decode cX12_lays 321 = .ok (.istore_n 3, 1) := by decide +kernel
theorem dX12_lays_322 : decode cX12_lays 322 = .ok (.iload_n 3, 1) := by decide +kernel
theorem dX12_lays_323 : decode cX12_lays 323 = .ok (.iconst 4, 1) := by decide +kernel
theorem dX12_lays_324 : decode cX12_lays 324 = .ok (.if_icmp .ge 65, 3) := by decide +kernel
theorem dX12_lays_327 : decode cX12_lays 327 = .ok (.aload_n 0, 1) := by decide +kernel
theorem dX12_lays_328 : decode cX12_lays 328 = .ok (.getfield 63, 3) := by decide +kernel
theorem dX12_lays_331 : decode cX12_lays 331 = .ok (.iconst 4, 1) := by decide +kernel
theorem dX12_lays_332 : decode cX12_lays 332 = .ok (.iload_n 2, 1) := by decide +kernel
theorem dX12_lays_333 : decode cX12_lays 333 = .ok (.imul, 1) := by decide +kernel
theorem dX12_lays_334 : decode cX12_lays 334 = .ok (.iload_n 3, 1) := by decide +kernel
theorem dX12_lays_335 : decode cX12_lays 335 = .ok (.iadd, 1) := by decide +kernel
theorem dX12_lays_336 : decode cX12_lays 336 = .ok (.aload_n 0, 1) := by decide +kernel
theorem dX12_lays_337 : decode cX12_lays 337 = .ok (.getfield 63, 3) := by decide +kernel
theorem dX12_lays_340 : decode cX12_lays 340 = .ok (.iconst 4, 1) := by decide +kernel
theorem dX12_lays_341 : decode cX12_lays 341 = .ok (.iload_n 1, 1) := by decide +kernel
theorem dX12_lays_342 : decode cX12_lays 342 = .ok (.imul, 1) := by decide +kernel
theorem dX12_lays_343 : decode cX12_lays 343 = .ok (.iload_n 3, 1) := by decide +kernel
theorem dX12_lays_344 : decode cX12_lays 344 = .ok (.iadd, 1) := by decide +kernel
theorem dX12_lays_345 : decode cX12_lays 345 = .ok (.iaload, 1) := by decide +kernel
theorem dX12_lays_346 : decode cX12_lays 346 = .ok (.sipush 1000, 3) := by decide +kernel
theorem dX12_lays_349 : decode cX12_lays 349 = .ok (.iload_n 2, 1) := by decide +kernel
theorem dX12_lays_350 : decode cX12_lays 350 = .ok (.iload_n 1, 1) := by decide +kernel
theorem dX12_lays_351 : decode cX12_lays 351 = .ok (.isub, 1) := by decide +kernel
theorem dX12_lays_352 : decode cX12_lays 352 = .ok (.imul, 1) := by decide +kernel
theorem dX12_lays_353 : decode cX12_lays 353 = .ok (.iadd, 1) := by decide +kernel
theorem dX12_lays_354 : decode cX12_lays 354 = .ok (.iastore, 1) := by decide +kernel
theorem dX12_lays_355 : decode cX12_lays 355 = .ok (.aload_n 0, 1) := by decide +kernel
theorem dX12_lays_356 : decode cX12_lays 356 = .ok (.getfield 66, 3) := by decide +kernel
theorem dX12_lays_359 : decode cX12_lays 359 = .ok (.iconst 4, 1) := by decide +kernel
theorem dX12_lays_360 : decode cX12_lays 360 = .ok (.iload_n 2, 1) := by decide +kernel
theorem dX12_lays_361 : decode cX12_lays 361 = .ok (.imul, 1) := by decide +kernel
theorem dX12_lays_362 : decode cX12_lays 362 = .ok (.iload_n 3, 1) := by decide +kernel
theorem dX12_lays_363 : decode cX12_lays 363 = .ok (.iadd, 1) := by decide +kernel
theorem dX12_lays_364 : decode cX12_lays 364 = .ok (.aload_n 0, 1) := by decide +kernel
theorem dX12_lays_365 : decode cX12_lays 365 = .ok (.getfield 66, 3) := by decide +kernel
theorem dX12_lays_368 : decode cX12_lays 368 = .ok (.iconst 4, 1) := by decide +kernel
theorem dX12_lays_369 : decode cX12_lays 369 = .ok (.iload_n 1, 1) := by decide +kernel
theorem dX12_lays_370 : decode cX12_lays 370 = .ok (.imul, 1) := by decide +kernel
theorem dX12_lays_371 : decode cX12_lays 371 = .ok (.iload_n 3, 1) := by decide +kernel
theorem dX12_lays_372 : decode cX12_lays 372 = .ok (.iadd, 1) := by decide +kernel
theorem dX12_lays_373 : decode cX12_lays 373 = .ok (.iaload, 1) := by decide +kernel
theorem dX12_lays_374 : decode cX12_lays 374 = .ok (.sipush 1000, 3) := by decide +kernel
theorem dX12_lays_377 : decode cX12_lays 377 = .ok (.iload_n 2, 1) := by decide +kernel
theorem dX12_lays_378 : decode cX12_lays 378 = .ok (.iload_n 1, 1) := by decide +kernel
theorem dX12_lays_379 : decode cX12_lays 379 = .ok (.isub, 1) := by decide +kernel
theorem dX12_lays_380 : decode cX12_lays 380 = .ok (.imul, 1) := by decide +kernel
theorem dX12_lays_381 : decode cX12_lays 381 = .ok (.iadd, 1) := by decide +kernel
theorem dX12_lays_382 : decode cX12_lays 382 = .ok (.iastore, 1) := by decide +kernel
theorem dX12_lays_383 : decode cX12_lays 383 = .ok (.iinc 3 1, 3) := by decide +kernel
theorem dX12_lays_386 : decode cX12_lays 386 = .ok (.goto (-64), 3) := by decide +kernel
theorem dX12_lays_389 : decode cX12_lays 389 = .ok (.iconst 0, 1) := by decide +kernel
theorem dX12_lays_390 : decode cX12_lays 390 = .ok (.istore_n 3, 1) := by decide +kernel
theorem dX12_lays_391 : decode cX12_lays 391 = .ok (.iload_n 3, 1) := by decide +kernel
theorem dX12_lays_392 : decode cX12_lays 392 = .ok (.sipush 1000, 3) := by decide +kernel
theorem dX12_lays_395 : decode cX12_lays 395 = .ok (.if_icmp .ge 33, 3) := by decide +kernel
theorem dX12_lays_398 : decode cX12_lays 398 = .ok (.aload_n 0, 1) := by decide +kernel
theorem dX12_lays_399 : decode cX12_lays 399 = .ok (.getfield 69, 3) := by decide +kernel
theorem dX12_lays_402 : decode cX12_lays 402 = .ok (.sipush 1000, 3) := by decide +kernel
theorem dX12_lays_405 : decode cX12_lays 405 = .ok (.iload_n 2, 1) := by decide +kernel
theorem dX12_lays_406 : decode cX12_lays 406 = .ok (.imul, 1) := by decide +kernel
theorem dX12_lays_407 : decode cX12_lays 407 = .ok (.iload_n 3, 1) := by decide +kernel
theorem dX12_lays_408 : decode cX12_lays 408 = .ok (.iadd, 1) := by decide +kernel
theorem dX12_lays_409 : decode cX12_lays 409 = .ok (.aload_n 0, 1) := by decide +kernel
theorem dX12_lays_410 : decode cX12_lays 410 = .ok (.getfield 69, 3) := by decide +kernel
theorem dX12_lays_413 : decode cX12_lays 413 = .ok (.sipush 1000, 3) := by decide +kernel
theorem dX12_lays_416 : decode cX12_lays 416 = .ok (.iload_n 1, 1) := by decide +kernel
theorem dX12_lays_417 : decode cX12_lays 417 = .ok (.imul, 1) := by decide +kernel
theorem dX12_lays_418 : decode cX12_lays 418 = .ok (.iload_n 3, 1) := by decide +kernel
theorem dX12_lays_419 : decode cX12_lays 419 = .ok (.iadd, 1) := by decide +kernel
theorem dX12_lays_420 : decode cX12_lays 420 = .ok (.iaload, 1) := by decide +kernel
theorem dX12_lays_421 : decode cX12_lays 421 = .ok (.iastore, 1) := by decide +kernel
theorem dX12_lays_422 : decode cX12_lays 422 = .ok (.iinc 3 1, 3) := by decide +kernel
theorem dX12_lays_425 : decode cX12_lays 425 = .ok (.goto (-34), 3) := by decide +kernel
theorem dX12_lays_428 : decode cX12_lays 428 = .ok (.return_, 1) := by decide +kernel
theorem dX12_spindle_0 : decode cX12_spindle 0 = .ok (.aload_n 0, 1) := by decide +kernel
theorem dX12_spindle_1 : decode cX12_spindle 1 = .ok (.iconst 0, 1) := by decide +kernel
theorem dX12_spindle_2 : decode cX12_spindle 2 = .ok (.putfield 157, 3) := by decide +kernel
theorem dX12_spindle_5 : decode cX12_spindle 5 = .ok (.aload_n 0, 1) := by decide +kernel
theorem dX12_spindle_6 : decode cX12_spindle 6 = .ok (.invokevirtual 336, 3) := by decide +kernel
theorem dX12_spindle_9 : decode cX12_spindle 9 = .ok (.ifCond .ne 8, 3) := by decide +kernel
theorem dX12_spindle_12 : decode cX12_spindle 12 = .ok (.aload_n 0, 1) := by decide +kernel
theorem dX12_spindle_13 : decode cX12_spindle 13 = .ok (.getfield 192, 3) := by decide +kernel
theorem dX12_spindle_16 : decode cX12_spindle 16 = .ok (.ireturn, 1) := by decide +kernel
theorem dX12_spindle_17 : decode cX12_spindle 17 = .ok (.iconst 0, 1) := by decide +kernel
theorem dX12_spindle_18 : decode cX12_spindle 18 = .ok (.istore_n 1, 1) := by decide +kernel
theorem dX12_spindle_19 : decode cX12_spindle 19 = .ok (.iconst 0, 1) := by decide +kernel
theorem dX12_spindle_20 : decode cX12_spindle 20 = .ok (.istore_n 2, 1) := by decide +kernel
theorem dX12_spindle_21 : decode cX12_spindle 21 = .ok (.iload_n 2, 1) := by decide +kernel
theorem dX12_spindle_22 : decode cX12_spindle 22 = .ok (.aload_n 0, 1) := by decide +kernel
theorem dX12_spindle_23 : decode cX12_spindle 23 = .ok (.getfield 13, 3) := by decide +kernel
theorem dX12_spindle_26 : decode cX12_spindle 26 = .ok (.iconst 1, 1) := by decide +kernel
theorem dX12_spindle_27 : decode cX12_spindle 27 = .ok (.iaload, 1) := by decide +kernel
theorem dX12_spindle_28 : decode cX12_spindle 28 = .ok (.if_icmp .ge 57, 3) := by decide +kernel
theorem dX12_spindle_31 : decode cX12_spindle 31 = .ok (.aload_n 0, 1) := by decide +kernel
theorem dX12_spindle_32 : decode cX12_spindle 32 = .ok (.getfield 38, 3) := by decide +kernel
theorem dX12_spindle_35 : decode cX12_spindle 35 = .ok (.bipush 12, 2) := by decide +kernel
theorem dX12_spindle_37 : decode cX12_spindle 37 = .ok (.iload_n 2, 1) := by decide +kernel
theorem dX12_spindle_38 : decode cX12_spindle 38 = .ok (.iadd, 1) := by decide +kernel
theorem dX12_spindle_39 : decode cX12_spindle 39 = .ok (.aload_n 0, 1) := by decide +kernel
theorem dX12_spindle_40 : decode cX12_spindle 40 = .ok (.getfield 35, 3) := by decide +kernel
theorem dX12_spindle_43 : decode cX12_spindle 43 = .ok (.bipush 12, 2) := by decide +kernel
theorem dX12_spindle_45 : decode cX12_spindle 45 = .ok (.iload_n 2, 1) := by decide +kernel
theorem dX12_spindle_46 : decode cX12_spindle 46 = .ok (.iadd, 1) := by decide +kernel
theorem dX12_spindle_47 : decode cX12_spindle 47 = .ok (.iaload, 1) := by decide +kernel
theorem dX12_spindle_48 : decode cX12_spindle 48 = .ok (.iconst 3, 1) := by decide +kernel
theorem dX12_spindle_49 : decode cX12_spindle 49 = .ok (.if_icmp .ne 7, 3) := by decide +kernel
theorem dX12_spindle_52 : decode cX12_spindle 52 = .ok (.iconst (-1), 1) := by decide +kernel
theorem dX12_spindle_53 : decode cX12_spindle 53 = .ok (.goto 4, 3) := by decide +kernel
theorem dX12_spindle_56 : decode cX12_spindle 56 = .ok (.iload_n 1, 1) := by decide +kernel
theorem dX12_spindle_57 : decode cX12_spindle 57 = .ok (.iastore, 1) := by decide +kernel
theorem dX12_spindle_58 : decode cX12_spindle 58 = .ok (.iload_n 1, 1) := by decide +kernel
theorem dX12_spindle_59 : decode cX12_spindle 59 = .ok (.aload_n 0, 1) := by decide +kernel
theorem dX12_spindle_60 : decode cX12_spindle 60 = .ok (.getfield 35, 3) := by decide +kernel
theorem dX12_spindle_63 : decode cX12_spindle 63 = .ok (.bipush 12, 2) := by decide +kernel
theorem dX12_spindle_65 : decode cX12_spindle 65 = .ok (.iload_n 2, 1) := by decide +kernel
theorem dX12_spindle_66 : decode cX12_spindle 66 = .ok (.iadd, 1) := by decide +kernel
theorem dX12_spindle_67 : decode cX12_spindle 67 = .ok (.iaload, 1) := by decide +kernel
theorem dX12_spindle_68 : decode cX12_spindle 68 = .ok (.iconst 3, 1) := by decide +kernel
theorem dX12_spindle_69 : decode cX12_spindle 69 = .ok (.if_icmp .ne 7, 3) := by decide +kernel
theorem dX12_spindle_72 : decode cX12_spindle 72 = .ok (.iconst 0, 1) := by decide +kernel
theorem dX12_spindle_73 : decode cX12_spindle 73 = .ok (.goto 4, 3) := by decide +kernel
theorem dX12_spindle_76 : decode cX12_spindle 76 = .ok (.iconst 1, 1) := by decide +kernel
theorem dX12_spindle_77 : decode cX12_spindle 77 = .ok (.iadd, 1) := by decide +kernel
theorem dX12_spindle_78 : decode cX12_spindle 78 = .ok (.istore_n 1, 1) := by decide +kernel
theorem dX12_spindle_79 : decode cX12_spindle 79 = .ok (.iinc 2 1, 3) := by decide +kernel
theorem dX12_spindle_82 : decode cX12_spindle 82 = .ok (.goto (-61), 3) := by decide +kernel
theorem dX12_spindle_85 : decode cX12_spindle 85 = .ok (.aload_n 0, 1) := by decide +kernel
theorem dX12_spindle_86 : decode cX12_spindle 86 = .ok (.iconst 1, 1) := by decide +kernel
theorem dX12_spindle_87 : decode cX12_spindle 87 = .ok (.iconst 0, 1) := by decide +kernel
theorem dX12_spindle_88 : decode cX12_spindle 88 = .ok (.invokevirtual 339, 3) := by decide +kernel
theorem dX12_spindle_91 : decode cX12_spindle 91 = .ok (.aload_n 0, 1) := by decide +kernel
theorem dX12_spindle_92 : decode cX12_spindle 92 = .ok (.iconst 0, 1) := by decide +kernel
theorem dX12_spindle_93 : decode cX12_spindle 93 = .ok (.putfield 343, 3) := by decide +kernel
theorem dX12_spindle_96 : decode cX12_spindle 96 = .ok (.iconst 0, 1) := by decide +kernel
theorem dX12_spindle_97 : decode cX12_spindle 97 = .ok (.ireturn, 1) := by decide +kernel
theorem dX12_isBowl_0 : decode cX12_isBowl 0 = .ok (.iload_n 1, 1) := by decide +kernel
theorem dX12_isBowl_1 : decode cX12_isBowl 1 = .ok (.ifCond .lt 17, 3) := by decide +kernel
theorem dX12_isBowl_4 : decode cX12_isBowl 4 = .ok (.iload_n 1, 1) := by decide +kernel
theorem dX12_isBowl_5 : decode cX12_isBowl 5 = .ok (.aload_n 0, 1) := by decide +kernel
theorem dX12_isBowl_6 : decode cX12_isBowl 6 = .ok (.getfield 13, 3) := by decide +kernel
theorem dX12_isBowl_9 : decode cX12_isBowl 9 = .ok (.iconst 0, 1) := by decide +kernel
theorem dX12_isBowl_10 : decode cX12_isBowl 10 = .ok (.iaload, 1) := by decide +kernel
theorem dX12_isBowl_11 : decode cX12_isBowl 11 = .ok (.if_icmp .ge 7, 3) := by decide +kernel
theorem dX12_isBowl_14 : decode cX12_isBowl 14 = .ok (.iconst 1, 1) := by decide +kernel
theorem dX12_isBowl_15 : decode cX12_isBowl 15 = .ok (.goto 4, 3) := by decide +kernel
theorem dX12_isBowl_18 : decode cX12_isBowl 18 = .ok (.iconst 0, 1) := by decide +kernel
theorem dX12_isBowl_19 : decode cX12_isBowl 19 = .ok (.ireturn, 1) := by decide +kernel
theorem dX12_isPlaced_0 : decode cX12_isPlaced 0 = .ok (.aload_n 0, 1) := by decide +kernel
theorem dX12_isPlaced_1 : decode cX12_isPlaced 1 = .ok (.iload_n 1, 1) := by decide +kernel
theorem dX12_isPlaced_2 : decode cX12_isPlaced 2 = .ok (.invokevirtual 346, 3) := by decide +kernel
theorem dX12_isPlaced_5 : decode cX12_isPlaced 5 = .ok (.ifCond .eq 16, 3) := by decide +kernel
theorem dX12_isPlaced_8 : decode cX12_isPlaced 8 = .ok (.aload_n 0, 1) := by decide +kernel
theorem dX12_isPlaced_9 : decode cX12_isPlaced 9 = .ok (.getfield 38, 3) := by decide +kernel
theorem dX12_isPlaced_12 : decode cX12_isPlaced 12 = .ok (.iload_n 1, 1) := by decide +kernel
theorem dX12_isPlaced_13 : decode cX12_isPlaced 13 = .ok (.iaload, 1) := by decide +kernel
theorem dX12_isPlaced_14 : decode cX12_isPlaced 14 = .ok (.ifCond .lt 7, 3) := by decide +kernel
theorem dX12_isPlaced_17 : decode cX12_isPlaced 17 = .ok (.iconst 1, 1) := by decide +kernel
theorem dX12_isPlaced_18 : decode cX12_isPlaced 18 = .ok (.goto 4, 3) := by decide +kernel
theorem dX12_isPlaced_21 : decode cX12_isPlaced 21 = .ok (.iconst 0, 1) := by decide +kernel
theorem dX12_isPlaced_22 : decode cX12_isPlaced 22 = .ok (.ireturn, 1) := by decide +kernel
theorem dX12_placed_0 : decode cX12_placed 0 = .ok (.iconst 0, 1) := by decide +kernel
theorem dX12_placed_1 : decode cX12_placed 1 = .ok (.istore_n 1, 1) := by decide +kernel
theorem dX12_placed_2 : decode cX12_placed 2 = .ok (.iconst 0, 1) := by decide +kernel
theorem dX12_placed_3 : decode cX12_placed 3 = .ok (.istore_n 2, 1) := by decide +kernel
theorem dX12_placed_4 : decode cX12_placed 4 = .ok (.iload_n 2, 1) := by decide +kernel
theorem dX12_placed_5 : decode cX12_placed 5 = .ok (.aload_n 0, 1) := by decide +kernel
theorem dX12_placed_6 : decode cX12_placed 6 = .ok (.getfield 13, 3) := by decide +kernel
theorem dX12_placed_9 : decode cX12_placed 9 = .ok (.iconst 0, 1) := by decide +kernel
theorem dX12_placed_10 : decode cX12_placed 10 = .ok (.iaload, 1) := by decide +kernel
theorem dX12_placed_11 : decode cX12_placed 11 = .ok (.if_icmp .ge 26, 3) := by decide +kernel
theorem dX12_placed_14 : decode cX12_placed 14 = .ok (.iload_n 1, 1) := by decide +kernel
theorem dX12_placed_15 : decode cX12_placed 15 = .ok (.aload_n 0, 1) := by decide +kernel
theorem dX12_placed_16 : decode cX12_placed 16 = .ok (.getfield 38, 3) := by decide +kernel
theorem dX12_placed_19 : decode cX12_placed 19 = .ok (.iload_n 2, 1) := by decide +kernel
theorem dX12_placed_20 : decode cX12_placed 20 = .ok (.iaload, 1) := by decide +kernel
theorem dX12_placed_21 : decode cX12_placed 21 = .ok (.ifCond .lt 7, 3) := by decide +kernel
theorem dX12_placed_24 : decode cX12_placed 24 = .ok (.iconst 1, 1) := by decide +kernel
theorem dX12_placed_25 : decode cX12_placed 25 = .ok (.goto 4, 3) := by decide +kernel
theorem dX12_placed_28 : decode cX12_placed 28 = .ok (.iconst 0, 1) := by decide +kernel
theorem dX12_placed_29 : decode cX12_placed 29 = .ok (.iadd, 1) := by decide +kernel
theorem dX12_placed_30 : decode cX12_placed 30 = .ok (.istore_n 1, 1) := by decide +kernel
theorem dX12_placed_31 : decode cX12_placed 31 = .ok (.iinc 2 1, 3) := by decide +kernel
theorem dX12_placed_34 : decode cX12_placed 34 = .ok (.goto (-30), 3) := by decide +kernel
theorem dX12_placed_37 : decode cX12_placed 37 = .ok (.iload_n 1, 1) := by decide +kernel
theorem dX12_placed_38 : decode cX12_placed 38 = .ok (.ireturn, 1) := by decide +kernel
theorem dX12_bowl_0 : decode cX12_bowl 0 = .ok (.aload_n 0, 1) := by decide +kernel
theorem dX12_bowl_1 : decode cX12_bowl 1 = .ok (.iconst 0, 1) := by decide +kernel
theorem dX12_bowl_2 : decode cX12_bowl 2 = .ok (.putfield 157, 3) := by decide +kernel
theorem dX12_bowl_5 : decode cX12_bowl 5 = .ok (.aload_n 0, 1) := by decide +kernel
theorem dX12_bowl_6 : decode cX12_bowl 6 = .ok (.iload_n 1, 1) := by decide +kernel
theorem dX12_bowl_7 : decode cX12_bowl 7 = .ok (.invokevirtual 346, 3) := by decide +kernel
theorem dX12_bowl_10 : decode cX12_bowl 10 = .ok (.ifCond .eq 12, 3) := by decide +kernel
theorem dX12_bowl_13 : decode cX12_bowl 13 = .ok (.iload_n 2, 1) := by decide +kernel
theorem dX12_bowl_14 : decode cX12_bowl 14 = .ok (.iconst 0, 1) := by decide +kernel
theorem dX12_bowl_15 : decode cX12_bowl 15 = .ok (.iconst 4, 1) := by decide +kernel
theorem dX12_bowl_16 : decode cX12_bowl 16 = .ok (.invokestatic 287, 3) := by decide +kernel
theorem dX12_bowl_19 : decode cX12_bowl 19 = .ok (.ifCond .ne 5, 3) := by decide +kernel
theorem dX12_bowl_22 : decode cX12_bowl 22 = .ok (.iconst (-1), 1) := by decide +kernel
theorem dX12_bowl_23 : decode cX12_bowl 23 = .ok (.ireturn, 1) := by decide +kernel
theorem dX12_bowl_24 : decode cX12_bowl 24 = .ok (.iload_n 2, 1) := by decide +kernel
theorem dX12_bowl_25 : decode cX12_bowl 25 = .ok (.ifCond .ne 12, 3) := by decide +kernel
theorem dX12_bowl_28 : decode cX12_bowl 28 = .ok (.aload_n 0, 1) := by decide +kernel
theorem dX12_bowl_29 : decode cX12_bowl 29 = .ok (.getfield 26, 3) := by decide +kernel
theorem dX12_bowl_32 : decode cX12_bowl 32 = .ok (.iload_n 1, 1) := by decide +kernel
theorem dX12_bowl_33 : decode cX12_bowl 33 = .ok (.iaload, 1) := by decide +kernel
theorem dX12_bowl_34 : decode cX12_bowl 34 = .ok (.goto 51, 3) := by decide +kernel
theorem dX12_bowl_37 : decode cX12_bowl 37 = .ok (.iload_n 2, 1) := by decide +kernel
theorem dX12_bowl_38 : decode cX12_bowl 38 = .ok (.iconst 1, 1) := by decide +kernel
theorem dX12_bowl_39 : decode cX12_bowl 39 = .ok (.if_icmp .ne 12, 3) := by decide +kernel
theorem dX12_bowl_42 : decode cX12_bowl 42 = .ok (.aload_n 0, 1) := by decide +kernel
theorem dX12_bowl_43 : decode cX12_bowl 43 = .ok (.getfield 29, 3) := by decide +kernel
theorem dX12_bowl_46 : decode cX12_bowl 46 = .ok (.iload_n 1, 1) := by decide +kernel
theorem dX12_bowl_47 : decode cX12_bowl 47 = .ok (.iaload, 1) := by decide +kernel
theorem dX12_bowl_48 : decode cX12_bowl 48 = .ok (.goto 37, 3) := by decide +kernel
theorem dX12_bowl_51 : decode cX12_bowl 51 = .ok (.iload_n 2, 1) := by decide +kernel
theorem dX12_bowl_52 : decode cX12_bowl 52 = .ok (.iconst 2, 1) := by decide +kernel
theorem dX12_bowl_53 : decode cX12_bowl 53 = .ok (.if_icmp .ne 12, 3) := by decide +kernel
theorem dX12_bowl_56 : decode cX12_bowl 56 = .ok (.aload_n 0, 1) := by decide +kernel
theorem dX12_bowl_57 : decode cX12_bowl 57 = .ok (.getfield 32, 3) := by decide +kernel
theorem dX12_bowl_60 : decode cX12_bowl 60 = .ok (.iload_n 1, 1) := by decide +kernel
theorem dX12_bowl_61 : decode cX12_bowl 61 = .ok (.iaload, 1) := by decide +kernel
theorem dX12_bowl_62 : decode cX12_bowl 62 = .ok (.goto 23, 3) := by decide +kernel
theorem dX12_bowl_65 : decode cX12_bowl 65 = .ok (.iload_n 2, 1) := by decide +kernel
theorem dX12_bowl_66 : decode cX12_bowl 66 = .ok (.iconst 3, 1) := by decide +kernel
theorem dX12_bowl_67 : decode cX12_bowl 67 = .ok (.if_icmp .ne 12, 3) := by decide +kernel
theorem dX12_bowl_70 : decode cX12_bowl 70 = .ok (.aload_n 0, 1) := by decide +kernel
theorem dX12_bowl_71 : decode cX12_bowl 71 = .ok (.getfield 35, 3) := by decide +kernel
theorem dX12_bowl_74 : decode cX12_bowl 74 = .ok (.iload_n 1, 1) := by decide +kernel
theorem dX12_bowl_75 : decode cX12_bowl 75 = .ok (.iaload, 1) := by decide +kernel
theorem dX12_bowl_76 : decode cX12_bowl 76 = .ok (.goto 9, 3) := by decide +kernel
theorem dX12_bowl_79 : decode cX12_bowl 79 = .ok (.aload_n 0, 1) := by decide +kernel
theorem dX12_bowl_80 : decode cX12_bowl 80 = .ok (.getfield 38, 3) := by decide +kernel
theorem dX12_bowl_83 : decode cX12_bowl 83 = .ok (.iload_n 1, 1) := by decide +kernel
theorem dX12_bowl_84 : decode cX12_bowl 84 = .ok (.iaload, 1) := by decide +kernel
theorem dX12_bowl_85 : decode cX12_bowl 85 = .ok (.ireturn, 1) := by decide +kernel
theorem dX12_isNote_0 : decode cX12_isNote 0 = .ok (.iload_n 1, 1) := by decide +kernel
theorem dX12_isNote_1 : decode cX12_isNote 1 = .ok (.ifCond .lt 15, 3) := by decide +kernel
theorem dX12_isNote_4 : decode cX12_isNote 4 = .ok (.iload_n 1, 1) := by decide +kernel
theorem dX12_isNote_5 : decode cX12_isNote 5 = .ok (.aload_n 0, 1) := by decide +kernel
theorem dX12_isNote_6 : decode cX12_isNote 6 = .ok (.getfield 343, 3) := by decide +kernel
theorem dX12_isNote_9 : decode cX12_isNote 9 = .ok (.if_icmp .ge 7, 3) := by decide +kernel
theorem dX12_isNote_12 : decode cX12_isNote 12 = .ok (.iconst 1, 1) := by decide +kernel
theorem dX12_isNote_13 : decode cX12_isNote 13 = .ok (.goto 4, 3) := by decide +kernel
theorem dX12_isNote_16 : decode cX12_isNote 16 = .ok (.iconst 0, 1) := by decide +kernel
theorem dX12_isNote_17 : decode cX12_isNote 17 = .ok (.ireturn, 1) := by decide +kernel
theorem dX12_isBeat_0 : decode cX12_isBeat 0 = .ok (.iload_n 0, 1) := by decide +kernel
theorem dX12_isBeat_1 : decode cX12_isBeat 1 = .ok (.ifCond .lt 14, 3) := by decide +kernel
theorem dX12_isBeat_4 : decode cX12_isBeat 4 = .ok (.iload_n 0, 1) := by decide +kernel
theorem dX12_isBeat_5 : decode cX12_isBeat 5 = .ok (.sipush 200, 3) := by decide +kernel
theorem dX12_isBeat_8 : decode cX12_isBeat 8 = .ok (.if_icmp .ge 7, 3) := by decide +kernel
theorem dX12_isBeat_11 : decode cX12_isBeat 11 = .ok (.iconst 1, 1) := by decide +kernel
theorem dX12_isBeat_12 : decode cX12_isBeat 12 = .ok (.goto 4, 3) := by decide +kernel
theorem dX12_isBeat_15 : decode cX12_isBeat 15 = .ok (.iconst 0, 1) := by decide +kernel
theorem dX12_isBeat_16 : decode cX12_isBeat 16 = .ok (.ireturn, 1) := by decide +kernel
theorem dX12_isFinger_0 : decode cX12_isFinger 0 = .ok (.iload_n 1, 1) := by decide +kernel
theorem dX12_isFinger_1 : decode cX12_isFinger 1 = .ok (.iconst (-1), 1) := by decide +kernel
theorem dX12_isFinger_2 : decode cX12_isFinger 2 = .ok (.if_icmp .lt 19, 3) := by decide +kernel
theorem dX12_isFinger_5 : decode cX12_isFinger 5 = .ok (.iload_n 1, 1) := by decide +kernel
theorem dX12_isFinger_6 : decode cX12_isFinger 6 = .ok (.iconst 2, 1) := by decide +kernel
theorem dX12_isFinger_7 : decode cX12_isFinger 7 = .ok (.aload_n 0, 1) := by decide +kernel
theorem dX12_isFinger_8 : decode cX12_isFinger 8 = .ok (.getfield 56, 3) := by decide +kernel
theorem dX12_isFinger_11 : decode cX12_isFinger 11 = .ok (.iconst 1, 1) := by decide +kernel
theorem dX12_isFinger_12 : decode cX12_isFinger 12 = .ok (.iaload, 1) := by decide +kernel
theorem dX12_isFinger_13 : decode cX12_isFinger 13 = .ok (.imul, 1) := by decide +kernel
theorem dX12_isFinger_14 : decode cX12_isFinger 14 = .ok (.if_icmp .ge 7, 3) := by decide +kernel
theorem dX12_isFinger_17 : decode cX12_isFinger 17 = .ok (.iconst 1, 1) := by decide +kernel
theorem dX12_isFinger_18 : decode cX12_isFinger 18 = .ok (.goto 4, 3) := by decide +kernel
theorem dX12_isFinger_21 : decode cX12_isFinger 21 = .ok (.iconst 0, 1) := by decide +kernel
theorem dX12_isFinger_22 : decode cX12_isFinger 22 = .ok (.ireturn, 1) := by decide +kernel
theorem dX12_endOf_0 : decode cX12_endOf 0 = .ok (.aload_n 0, 1) := by decide +kernel
theorem dX12_endOf_1 : decode cX12_endOf 1 = .ok (.getfield 111, 3) := by decide +kernel
theorem dX12_endOf_4 : decode cX12_endOf 4 = .ok (.iload_n 1, 1) := by decide +kernel
theorem dX12_endOf_5 : decode cX12_endOf 5 = .ok (.iaload, 1) := by decide +kernel
theorem dX12_endOf_6 : decode cX12_endOf 6 = .ok (.aload_n 0, 1) := by decide +kernel
theorem dX12_endOf_7 : decode cX12_endOf 7 = .ok (.getfield 114, 3) := by decide +kernel
theorem dX12_endOf_10 : decode cX12_endOf 10 = .ok (.iload_n 1, 1) := by decide +kernel
theorem dX12_endOf_11 : decode cX12_endOf 11 = .ok (.iaload, 1) := by decide +kernel
theorem dX12_endOf_12 : decode cX12_endOf 12 = .ok (.iadd, 1) := by decide +kernel
theorem dX12_endOf_13 : decode cX12_endOf 13 = .ok (.ireturn, 1) := by decide +kernel
theorem dX12_lasts_0 : decode cX12_lasts 0 = .ok (.iload_n 2, 1) := by decide +kernel
theorem dX12_lasts_1 : decode cX12_lasts 1 = .ok (.aload_n 0, 1) := by decide +kernel
theorem dX12_lasts_2 : decode cX12_lasts 2 = .ok (.getfield 111, 3) := by decide +kernel
theorem dX12_lasts_5 : decode cX12_lasts 5 = .ok (.iload_n 1, 1) := by decide +kernel
theorem dX12_lasts_6 : decode cX12_lasts 6 = .ok (.iaload, 1) := by decide +kernel
theorem dX12_lasts_7 : decode cX12_lasts 7 = .ok (.if_icmp .lt 16, 3) := by decide +kernel
theorem dX12_lasts_10 : decode cX12_lasts 10 = .ok (.iload_n 2, 1) := by decide +kernel
theorem dX12_lasts_11 : decode cX12_lasts 11 = .ok (.aload_n 0, 1) := by decide +kernel
theorem dX12_lasts_12 : decode cX12_lasts 12 = .ok (.iload_n 1, 1) := by decide +kernel
theorem dX12_lasts_13 : decode cX12_lasts 13 = .ok (.invokevirtual 349, 3) := by decide +kernel
theorem dX12_lasts_16 : decode cX12_lasts 16 = .ok (.if_icmp .ge 7, 3) := by decide +kernel
theorem dX12_lasts_19 : decode cX12_lasts 19 = .ok (.iconst 1, 1) := by decide +kernel
theorem dX12_lasts_20 : decode cX12_lasts 20 = .ok (.goto 4, 3) := by decide +kernel
theorem dX12_lasts_23 : decode cX12_lasts 23 = .ok (.iconst 0, 1) := by decide +kernel
theorem dX12_lasts_24 : decode cX12_lasts 24 = .ok (.ireturn, 1) := by decide +kernel
theorem dX12_note_0 : decode cX12_note 0 = .ok (.aload_n 0, 1) := by decide +kernel
theorem dX12_note_1 : decode cX12_note 1 = .ok (.iconst 0, 1) := by decide +kernel
theorem dX12_note_2 : decode cX12_note 2 = .ok (.putfield 157, 3) := by decide +kernel
theorem dX12_note_5 : decode cX12_note 5 = .ok (.aload_n 0, 1) := by decide +kernel
theorem dX12_note_6 : decode cX12_note 6 = .ok (.getfield 343, 3) := by decide +kernel
theorem dX12_note_9 : decode cX12_note 9 = .ok (.bipush 24, 2) := by decide +kernel
theorem dX12_note_11 : decode cX12_note 11 = .ok (.if_icmp .eq 79, 3) := by decide +kernel
theorem dX12_note_14 : decode cX12_note 14 = .ok (.aload_n 0, 1) := by decide +kernel
theorem dX12_note_15 : decode cX12_note 15 = .ok (.iload_n 1, 1) := by decide +kernel
theorem dX12_note_16 : decode cX12_note 16 = .ok (.invokevirtual 352, 3) := by decide +kernel
theorem dX12_note_19 : decode cX12_note 19 = .ok (.ifCond .eq 71, 3) := by decide +kernel
theorem dX12_note_22 : decode cX12_note 22 = .ok (.iload_n 2, 1) := by decide +kernel
theorem dX12_note_23 : decode cX12_note 23 = .ok (.invokestatic 355, 3) := by decide +kernel
theorem dX12_note_26 : decode cX12_note 26 = .ok (.ifCond .eq 64, 3) := by decide +kernel
theorem dX12_note_29 : decode cX12_note 29 = .ok (.aload_n 0, 1) := by decide +kernel
theorem dX12_note_30 : decode cX12_note 30 = .ok (.getfield 343, 3) := by decide +kernel
theorem dX12_note_33 : decode cX12_note 33 = .ok (.ifCond .le 18, 3) := by decide +kernel
theorem dX12_note_36 : decode cX12_note 36 = .ok (.iload_n 2, 1) := by decide +kernel
theorem dX12_note_37 : decode cX12_note 37 = .ok (.aload_n 0, 1) := by decide +kernel
theorem dX12_note_38 : decode cX12_note 38 = .ok (.getfield 111, 3) := by decide +kernel
theorem dX12_note_41 : decode cX12_note 41 = .ok (.aload_n 0, 1) := by decide +kernel
theorem dX12_note_42 : decode cX12_note 42 = .ok (.getfield 343, 3) := by decide +kernel
theorem dX12_note_45 : decode cX12_note 45 = .ok (.iconst 1, 1) := by decide +kernel
theorem dX12_note_46 : decode cX12_note 46 = .ok (.isub, 1) := by decide +kernel
theorem dX12_note_47 : decode cX12_note 47 = .ok (.iaload, 1) := by decide +kernel
theorem dX12_note_48 : decode cX12_note 48 = .ok (.if_icmp .lt 42, 3) := by decide +kernel
theorem dX12_note_51 : decode cX12_note 51 = .ok (.iload_n 3, 1) := by decide +kernel
theorem dX12_note_52 : decode cX12_note 52 = .ok (.iconst 1, 1) := by decide +kernel
theorem dX12_note_53 : decode cX12_note 53 = .ok (.bipush 40, 2) := by decide +kernel
theorem dX12_note_55 : decode cX12_note 55 = .ok (.invokestatic 287, 3) := by decide +kernel
theorem dX12_note_58 : decode cX12_note 58 = .ok (.ifCond .eq 32, 3) := by decide +kernel
theorem dX12_note_61 : decode cX12_note 61 = .ok (.iload_n 2, 1) := by decide +kernel
theorem dX12_note_62 : decode cX12_note 62 = .ok (.iload_n 3, 1) := by decide +kernel
theorem dX12_note_63 : decode cX12_note 63 = .ok (.iadd, 1) := by decide +kernel
theorem dX12_note_64 : decode cX12_note 64 = .ok (.sipush 200, 3) := by decide +kernel
theorem dX12_note_67 : decode cX12_note 67 = .ok (.if_icmp .gt 23, 3) := by decide +kernel
theorem dX12_note_70 : decode cX12_note 70 = .ok (.iload 4, 2) := by decide +kernel
theorem dX12_note_72 : decode cX12_note 72 = .ok (.iconst 1, 1) := by decide +kernel
theorem dX12_note_73 : decode cX12_note 73 = .ok (.bipush 9, 2) := by decide +kernel
theorem dX12_note_75 : decode cX12_note 75 = .ok (.invokestatic 287, 3) := by decide +kernel
theorem dX12_note_78 : decode cX12_note 78 = .ok (.ifCond .eq 12, 3) := by decide +kernel
theorem dX12_note_81 : decode cX12_note 81 = .ok (.aload_n 0, 1) := by decide +kernel
theorem dX12_note_82 : decode cX12_note 82 = .ok (.iload 5, 2) := by decide +kernel
theorem dX12_note_84 : decode cX12_note 84 = .ok (.invokevirtual 358, 3) := by decide +kernel
theorem dX12_note_87 : decode cX12_note 87 = .ok (.ifCond .ne 5, 3) := by decide +kernel
theorem dX12_note_90 : decode cX12_note 90 = .ok (.iconst (-1), 1) := by decide +kernel
theorem dX12_note_91 : decode cX12_note 91 = .ok (.ireturn, 1) := by decide +kernel
theorem dX12_note_92 : decode cX12_note 92 = .ok (.aload_n 0, 1) := by decide +kernel
theorem dX12_note_93 : decode cX12_note 93 = .ok (.getfield 108, 3) := by decide +kernel
theorem dX12_note_96 : decode cX12_note 96 = .ok (.aload_n 0, 1) := by decide +kernel
theorem dX12_note_97 : decode cX12_note 97 = .ok (.getfield 343, 3) := by decide +kernel
theorem dX12_note_100 : decode cX12_note 100 = .ok (.iload_n 1, 1) := by decide +kernel
theorem dX12_note_101 : decode cX12_note 101 = .ok (.iastore, 1) := by decide +kernel
theorem dX12_note_102 : decode cX12_note 102 = .ok (.aload_n 0, 1) := by decide +kernel
theorem dX12_note_103 : decode cX12_note 103 = .ok (.getfield 111, 3) := by decide +kernel
theorem dX12_note_106 : decode cX12_note 106 = .ok (.aload_n 0, 1) := by decide +kernel
theorem dX12_note_107 : decode cX12_note 107 = .ok (.getfield 343, 3) := by decide +kernel
theorem dX12_note_110 : decode cX12_note 110 = .ok (.iload_n 2, 1) := by decide +kernel
theorem dX12_note_111 : decode cX12_note 111 = .ok (.iastore, 1) := by decide +kernel
theorem dX12_note_112 : decode cX12_note 112 = .ok (.aload_n 0, 1) := by decide +kernel
theorem dX12_note_113 : decode cX12_note 113 = .ok (.getfield 114, 3) := by decide +kernel
theorem dX12_note_116 : decode cX12_note 116 = .ok (.aload_n 0, 1) := by decide +kernel
theorem dX12_note_117 : decode cX12_note 117 = .ok (.getfield 343, 3) := by decide +kernel
theorem dX12_note_120 : decode cX12_note 120 = .ok (.iload_n 3, 1) := by decide +kernel
theorem dX12_note_121 : decode cX12_note 121 = .ok (.iastore, 1) := by decide +kernel
theorem dX12_note_122 : decode cX12_note 122 = .ok (.aload_n 0, 1) := by decide +kernel
theorem dX12_note_123 : decode cX12_note 123 = .ok (.getfield 117, 3) := by decide +kernel
theorem dX12_note_126 : decode cX12_note 126 = .ok (.aload_n 0, 1) := by decide +kernel
theorem dX12_note_127 : decode cX12_note 127 = .ok (.getfield 343, 3) := by decide +kernel
theorem dX12_note_130 : decode cX12_note 130 = .ok (.iload 4, 2) := by decide +kernel
theorem dX12_note_132 : decode cX12_note 132 = .ok (.iastore, 1) := by decide +kernel
theorem dX12_note_133 : decode cX12_note 133 = .ok (.aload_n 0, 1) := by decide +kernel
theorem dX12_note_134 : decode cX12_note 134 = .ok (.getfield 120, 3) := by decide +kernel
theorem dX12_note_137 : decode cX12_note 137 = .ok (.aload_n 0, 1) := by decide +kernel
theorem dX12_note_138 : decode cX12_note 138 = .ok (.getfield 343, 3) := by decide +kernel
theorem dX12_note_141 : decode cX12_note 141 = .ok (.iload 5, 2) := by decide +kernel
theorem dX12_note_143 : decode cX12_note 143 = .ok (.iastore, 1) := by decide +kernel
theorem dX12_note_144 : decode cX12_note 144 = .ok (.aload_n 0, 1) := by decide +kernel
theorem dX12_note_145 : decode cX12_note 145 = .ok (.dup, 1) := by decide +kernel
theorem dX12_note_146 : decode cX12_note 146 = .ok (.getfield 343, 3) := by decide +kernel
theorem dX12_note_149 : decode cX12_note 149 = .ok (.iconst 1, 1) := by decide +kernel
theorem dX12_note_150 : decode cX12_note 150 = .ok (.iadd, 1) := by decide +kernel
theorem dX12_note_151 : decode cX12_note 151 = .ok (.putfield 343, 3) := by decide +kernel
theorem dX12_note_154 : decode cX12_note 154 = .ok (.aload_n 0, 1) := by decide +kernel
theorem dX12_note_155 : decode cX12_note 155 = .ok (.getfield 343, 3) := by decide +kernel
theorem dX12_note_158 : decode cX12_note 158 = .ok (.iconst 1, 1) := by decide +kernel
theorem dX12_note_159 : decode cX12_note 159 = .ok (.isub, 1) := by decide +kernel
theorem dX12_note_160 : decode cX12_note 160 = .ok (.ireturn, 1) := by decide +kernel
theorem dX12_drop_0 : decode cX12_drop 0 = .ok (.aload_n 0, 1) := by decide +kernel
theorem dX12_drop_1 : decode cX12_drop 1 = .ok (.iconst 0, 1) := by decide +kernel
theorem dX12_drop_2 : decode cX12_drop 2 = .ok (.putfield 157, 3) := by decide +kernel
theorem dX12_drop_5 : decode cX12_drop 5 = .ok (.aload_n 0, 1) := by decide +kernel
theorem dX12_drop_6 : decode cX12_drop 6 = .ok (.getfield 343, 3) := by decide +kernel
theorem dX12_drop_9 : decode cX12_drop 9 = .ok (.ifCond .ne 5, 3) := by decide +kernel
theorem dX12_drop_12 : decode cX12_drop 12 = .ok (.iconst 0, 1) := by decide +kernel
theorem dX12_drop_13 : decode cX12_drop 13 = .ok (.ireturn, 1) := by decide +kernel
theorem dX12_drop_14 : decode cX12_drop 14 = .ok (.aload_n 0, 1) := by decide +kernel
theorem dX12_drop_15 : decode cX12_drop 15 = .ok (.dup, 1) := by decide +kernel
theorem dX12_drop_16 : decode cX12_drop 16 = .ok (.getfield 343, 3) := by decide +kernel
theorem dX12_drop_19 : decode cX12_drop 19 = .ok (.iconst 1, 1) := by decide +kernel
theorem dX12_drop_20 : decode cX12_drop 20 = .ok (.isub, 1) := by decide +kernel
theorem dX12_drop_21 : decode cX12_drop 21 = .ok (.putfield 343, 3) := by decide +kernel
theorem dX12_drop_24 : decode cX12_drop 24 = .ok (.iconst 1, 1) := by decide +kernel
theorem dX12_drop_25 : decode cX12_drop 25 = .ok (.ireturn, 1) := by decide +kernel
theorem dX12_finger_0 : decode cX12_finger 0 = .ok (.aload_n 0, 1) := by decide +kernel
theorem dX12_finger_1 : decode cX12_finger 1 = .ok (.iconst 0, 1) := by decide +kernel
theorem dX12_finger_2 : decode cX12_finger 2 = .ok (.putfield 157, 3) := by decide +kernel
theorem dX12_finger_5 : decode cX12_finger 5 = .ok (.aload_n 0, 1) := by decide +kernel
theorem dX12_finger_6 : decode cX12_finger 6 = .ok (.iload_n 1, 1) := by decide +kernel
theorem dX12_finger_7 : decode cX12_finger 7 = .ok (.invokevirtual 361, 3) := by decide +kernel
theorem dX12_finger_10 : decode cX12_finger 10 = .ok (.ifCond .eq 11, 3) := by decide +kernel
theorem dX12_finger_13 : decode cX12_finger 13 = .ok (.aload_n 0, 1) := by decide +kernel
theorem dX12_finger_14 : decode cX12_finger 14 = .ok (.iload_n 2, 1) := by decide +kernel
theorem dX12_finger_15 : decode cX12_finger 15 = .ok (.invokevirtual 358, 3) := by decide +kernel
theorem dX12_finger_18 : decode cX12_finger 18 = .ok (.ifCond .ne 5, 3) := by decide +kernel
theorem dX12_finger_21 : decode cX12_finger 21 = .ok (.iconst 0, 1) := by decide +kernel
theorem dX12_finger_22 : decode cX12_finger 22 = .ok (.ireturn, 1) := by decide +kernel
theorem dX12_finger_23 : decode cX12_finger 23 = .ok (.aload_n 0, 1) := by decide +kernel
theorem dX12_finger_24 : decode cX12_finger 24 = .ok (.getfield 120, 3) := by decide +kernel
theorem dX12_finger_27 : decode cX12_finger 27 = .ok (.iload_n 1, 1) := by decide +kernel
theorem dX12_finger_28 : decode cX12_finger 28 = .ok (.iload_n 2, 1) := by decide +kernel
theorem dX12_finger_29 : decode cX12_finger 29 = .ok (.iastore, 1) := by decide +kernel
theorem dX12_finger_30 : decode cX12_finger 30 = .ok (.iconst 1, 1) := by decide +kernel
theorem dX12_finger_31 : decode cX12_finger 31 = .ok (.ireturn, 1) := by decide +kernel
theorem dX12_noteOf_0 : decode cX12_noteOf 0 = .ok (.aload_n 0, 1) := by decide +kernel
theorem dX12_noteOf_1 : decode cX12_noteOf 1 = .ok (.iconst 0, 1) := by decide +kernel
theorem dX12_noteOf_2 : decode cX12_noteOf 2 = .ok (.putfield 157, 3) := by decide +kernel
theorem dX12_noteOf_5 : decode cX12_noteOf 5 = .ok (.aload_n 0, 1) := by decide +kernel
theorem dX12_noteOf_6 : decode cX12_noteOf 6 = .ok (.iload_n 1, 1) := by decide +kernel
theorem dX12_noteOf_7 : decode cX12_noteOf 7 = .ok (.invokevirtual 361, 3) := by decide +kernel
theorem dX12_noteOf_10 : decode cX12_noteOf 10 = .ok (.ifCond .eq 12, 3) := by decide +kernel
theorem dX12_noteOf_13 : decode cX12_noteOf 13 = .ok (.iload_n 2, 1) := by decide +kernel
theorem dX12_noteOf_14 : decode cX12_noteOf 14 = .ok (.iconst 0, 1) := by decide +kernel
theorem dX12_noteOf_15 : decode cX12_noteOf 15 = .ok (.iconst 4, 1) := by decide +kernel
theorem dX12_noteOf_16 : decode cX12_noteOf 16 = .ok (.invokestatic 287, 3) := by decide +kernel
theorem dX12_noteOf_19 : decode cX12_noteOf 19 = .ok (.ifCond .ne 5, 3) := by decide +kernel
theorem dX12_noteOf_22 : decode cX12_noteOf 22 = .ok (.iconst (-1), 1) := by decide +kernel
theorem dX12_noteOf_23 : decode cX12_noteOf 23 = .ok (.ireturn, 1) := by decide +kernel
theorem dX12_noteOf_24 : decode cX12_noteOf 24 = .ok (.iload_n 2, 1) := by decide +kernel
theorem dX12_noteOf_25 : decode cX12_noteOf 25 = .ok (.ifCond .ne 12, 3) := by decide +kernel
theorem dX12_noteOf_28 : decode cX12_noteOf 28 = .ok (.aload_n 0, 1) := by decide +kernel
theorem dX12_noteOf_29 : decode cX12_noteOf 29 = .ok (.getfield 108, 3) := by decide +kernel
theorem dX12_noteOf_32 : decode cX12_noteOf 32 = .ok (.iload_n 1, 1) := by decide +kernel
theorem dX12_noteOf_33 : decode cX12_noteOf 33 = .ok (.iaload, 1) := by decide +kernel
theorem dX12_noteOf_34 : decode cX12_noteOf 34 = .ok (.goto 51, 3) := by decide +kernel
theorem dX12_noteOf_37 : decode cX12_noteOf 37 = .ok (.iload_n 2, 1) := by decide +kernel
theorem dX12_noteOf_38 : decode cX12_noteOf 38 = .ok (.iconst 1, 1) := by decide +kernel
theorem dX12_noteOf_39 : decode cX12_noteOf 39 = .ok (.if_icmp .ne 12, 3) := by decide +kernel
theorem dX12_noteOf_42 : decode cX12_noteOf 42 = .ok (.aload_n 0, 1) := by decide +kernel
theorem dX12_noteOf_43 : decode cX12_noteOf 43 = .ok (.getfield 111, 3) := by decide +kernel
theorem dX12_noteOf_46 : decode cX12_noteOf 46 = .ok (.iload_n 1, 1) := by decide +kernel
theorem dX12_noteOf_47 : decode cX12_noteOf 47 = .ok (.iaload, 1) := by decide +kernel
theorem dX12_noteOf_48 : decode cX12_noteOf 48 = .ok (.goto 37, 3) := by decide +kernel
theorem dX12_noteOf_51 : decode cX12_noteOf 51 = .ok (.iload_n 2, 1) := by decide +kernel
theorem dX12_noteOf_52 : decode cX12_noteOf 52 = .ok (.iconst 2, 1) := by decide +kernel
theorem dX12_noteOf_53 : decode cX12_noteOf 53 = .ok (.if_icmp .ne 12, 3) := by decide +kernel
theorem dX12_noteOf_56 : decode cX12_noteOf 56 = .ok (.aload_n 0, 1) := by decide +kernel
theorem dX12_noteOf_57 : decode cX12_noteOf 57 = .ok (.getfield 114, 3) := by decide +kernel
theorem dX12_noteOf_60 : decode cX12_noteOf 60 = .ok (.iload_n 1, 1) := by decide +kernel
theorem dX12_noteOf_61 : decode cX12_noteOf 61 = .ok (.iaload, 1) := by decide +kernel
theorem dX12_noteOf_62 : decode cX12_noteOf 62 = .ok (.goto 23, 3) := by decide +kernel
theorem dX12_noteOf_65 : decode cX12_noteOf 65 = .ok (.iload_n 2, 1) := by decide +kernel
theorem dX12_noteOf_66 : decode cX12_noteOf 66 = .ok (.iconst 3, 1) := by decide +kernel
theorem dX12_noteOf_67 : decode cX12_noteOf 67 = .ok (.if_icmp .ne 12, 3) := by decide +kernel
theorem dX12_noteOf_70 : decode cX12_noteOf 70 = .ok (.aload_n 0, 1) := by decide +kernel
theorem dX12_noteOf_71 : decode cX12_noteOf 71 = .ok (.getfield 117, 3) := by decide +kernel
theorem dX12_noteOf_74 : decode cX12_noteOf 74 = .ok (.iload_n 1, 1) := by decide +kernel
theorem dX12_noteOf_75 : decode cX12_noteOf 75 = .ok (.iaload, 1) := by decide +kernel
theorem dX12_noteOf_76 : decode cX12_noteOf 76 = .ok (.goto 9, 3) := by decide +kernel
theorem dX12_noteOf_79 : decode cX12_noteOf 79 = .ok (.aload_n 0, 1) := by decide +kernel
theorem dX12_noteOf_80 : decode cX12_noteOf 80 = .ok (.getfield 120, 3) := by decide +kernel
theorem dX12_noteOf_83 : decode cX12_noteOf 83 = .ok (.iload_n 1, 1) := by decide +kernel
theorem dX12_noteOf_84 : decode cX12_noteOf 84 = .ok (.iaload, 1) := by decide +kernel
theorem dX12_noteOf_85 : decode cX12_noteOf 85 = .ok (.ireturn, 1) := by decide +kernel
theorem dX12_touchedIn_0 : decode cX12_touchedIn 0 = .ok (.iconst 0, 1) := by decide +kernel
theorem dX12_touchedIn_1 : decode cX12_touchedIn 1 = .ok (.istore_n 3, 1) := by decide +kernel
theorem dX12_touchedIn_2 : decode cX12_touchedIn 2 = .ok (.iconst 0, 1) := by decide +kernel
theorem dX12_touchedIn_3 : decode cX12_touchedIn 3 = .ok (.istore 4, 2) := by decide +kernel
theorem dX12_touchedIn_5 : decode cX12_touchedIn 5 = .ok (.iload 4, 2) := by decide +kernel
theorem dX12_touchedIn_7 : decode cX12_touchedIn 7 = .ok (.aload_n 0, 1) := by decide +kernel
theorem dX12_touchedIn_8 : decode cX12_touchedIn 8 = .ok (.getfield 343, 3) := by decide +kernel
theorem dX12_touchedIn_11 : decode cX12_touchedIn 11 = .ok (.if_icmp .ge 44, 3) := by decide +kernel
theorem dX12_touchedIn_14 : decode cX12_touchedIn 14 = .ok (.iload_n 3, 1) := by decide +kernel
theorem dX12_touchedIn_15 : decode cX12_touchedIn 15 = .ok (.aload_n 0, 1) := by decide +kernel
theorem dX12_touchedIn_16 : decode cX12_touchedIn 16 = .ok (.getfield 108, 3) := by decide +kernel
theorem dX12_touchedIn_19 : decode cX12_touchedIn 19 = .ok (.iload 4, 2) := by decide +kernel
theorem dX12_touchedIn_21 : decode cX12_touchedIn 21 = .ok (.iaload, 1) := by decide +kernel
theorem dX12_touchedIn_22 : decode cX12_touchedIn 22 = .ok (.iload_n 1, 1) := by decide +kernel
theorem dX12_touchedIn_23 : decode cX12_touchedIn 23 = .ok (.if_icmp .ne 23, 3) := by decide +kernel
theorem dX12_touchedIn_26 : decode cX12_touchedIn 26 = .ok (.aload_n 0, 1) := by decide +kernel
theorem dX12_touchedIn_27 : decode cX12_touchedIn 27 = .ok (.iload 4, 2) := by decide +kernel
theorem dX12_touchedIn_29 : decode cX12_touchedIn 29 = .ok (.iload_n 2, 1) := by decide +kernel
theorem dX12_touchedIn_30 : decode cX12_touchedIn 30 = .ok (.invokevirtual 364, 3) := by decide +kernel
theorem dX12_touchedIn_33 : decode cX12_touchedIn 33 = .ok (.ifCond .eq 13, 3) := by decide +kernel
theorem dX12_touchedIn_36 : decode cX12_touchedIn 36 = .ok (.aload_n 0, 1) := by decide +kernel
theorem dX12_touchedIn_37 : decode cX12_touchedIn 37 = .ok (.getfield 117, 3) := by decide +kernel
theorem dX12_touchedIn_40 : decode cX12_touchedIn 40 = .ok (.iload 4, 2) := by decide +kernel
theorem dX12_touchedIn_42 : decode cX12_touchedIn 42 = .ok (.iaload, 1) := by decide +kernel
theorem dX12_touchedIn_43 : decode cX12_touchedIn 43 = .ok (.goto 4, 3) := by decide +kernel
theorem dX12_touchedIn_46 : decode cX12_touchedIn 46 = .ok (.iconst 0, 1) := by decide +kernel
theorem dX12_touchedIn_47 : decode cX12_touchedIn 47 = .ok (.iadd, 1) := by decide +kernel
theorem dX12_touchedIn_48 : decode cX12_touchedIn 48 = .ok (.istore_n 3, 1) := by decide +kernel
theorem dX12_touchedIn_49 : decode cX12_touchedIn 49 = .ok (.iinc 4 1, 3) := by decide +kernel
theorem dX12_touchedIn_52 : decode cX12_touchedIn 52 = .ok (.goto (-47), 3) := by decide +kernel
theorem dX12_touchedIn_55 : decode cX12_touchedIn 55 = .ok (.iload_n 3, 1) := by decide +kernel
theorem dX12_touchedIn_56 : decode cX12_touchedIn 56 = .ok (.ireturn, 1) := by decide +kernel
theorem dX12_touched_0 : decode cX12_touched 0 = .ok (.aload_n 0, 1) := by decide +kernel
theorem dX12_touched_1 : decode cX12_touched 1 = .ok (.iconst 0, 1) := by decide +kernel
theorem dX12_touched_2 : decode cX12_touched 2 = .ok (.putfield 157, 3) := by decide +kernel
theorem dX12_touched_5 : decode cX12_touched 5 = .ok (.aload_n 0, 1) := by decide +kernel
theorem dX12_touched_6 : decode cX12_touched 6 = .ok (.iload_n 1, 1) := by decide +kernel
theorem dX12_touched_7 : decode cX12_touched 7 = .ok (.invokevirtual 346, 3) := by decide +kernel
theorem dX12_touched_10 : decode cX12_touched 10 = .ok (.ifCond .eq 19, 3) := by decide +kernel
theorem dX12_touched_13 : decode cX12_touched 13 = .ok (.iload_n 2, 1) := by decide +kernel
theorem dX12_touched_14 : decode cX12_touched 14 = .ok (.invokestatic 355, 3) := by decide +kernel
theorem dX12_touched_17 : decode cX12_touched 17 = .ok (.ifCond .eq 12, 3) := by decide +kernel
theorem dX12_touched_20 : decode cX12_touched 20 = .ok (.aload_n 0, 1) := by decide +kernel
theorem dX12_touched_21 : decode cX12_touched 21 = .ok (.iload_n 1, 1) := by decide +kernel
theorem dX12_touched_22 : decode cX12_touched 22 = .ok (.iload_n 2, 1) := by decide +kernel
theorem dX12_touched_23 : decode cX12_touched 23 = .ok (.invokevirtual 367, 3) := by decide +kernel
theorem dX12_touched_26 : decode cX12_touched 26 = .ok (.goto 4, 3) := by decide +kernel
theorem dX12_touched_29 : decode cX12_touched 29 = .ok (.iconst (-1), 1) := by decide +kernel
theorem dX12_touched_30 : decode cX12_touched 30 = .ok (.ireturn, 1) := by decide +kernel
theorem dX12_warms_0 : decode cX12_warms 0 = .ok (.iconst 0, 1) := by decide +kernel
theorem dX12_warms_1 : decode cX12_warms 1 = .ok (.istore_n 1, 1) := by decide +kernel
theorem dX12_warms_2 : decode cX12_warms 2 = .ok (.iload_n 1, 1) := by decide +kernel
theorem dX12_warms_3 : decode cX12_warms 3 = .ok (.aload_n 0, 1) := by decide +kernel
theorem dX12_warms_4 : decode cX12_warms 4 = .ok (.getfield 13, 3) := by decide +kernel
theorem dX12_warms_7 : decode cX12_warms 7 = .ok (.iconst 0, 1) := by decide +kernel
theorem dX12_warms_8 : decode cX12_warms 8 = .ok (.iaload, 1) := by decide +kernel
theorem dX12_warms_9 : decode cX12_warms 9 = .ok (.if_icmp .ge 157, 3) := by decide +kernel
theorem dX12_warms_12 : decode cX12_warms 12 = .ok (.iconst 0, 1) := by decide +kernel
theorem dX12_warms_13 : decode cX12_warms 13 = .ok (.istore_n 2, 1) := by decide +kernel
theorem dX12_warms_14 : decode cX12_warms 14 = .ok (.aload_n 0, 1) := by decide +kernel
theorem dX12_warms_15 : decode cX12_warms 15 = .ok (.getfield 126, 3) := by decide +kernel
theorem dX12_warms_18 : decode cX12_warms 18 = .ok (.iload_n 1, 1) := by decide +kernel
theorem dX12_warms_19 : decode cX12_warms 19 = .ok (.ldc_w 371, 3) := by decide +kernel
theorem dX12_warms_22 : decode cX12_warms 22 = .ok (.iastore, 1) := by decide +kernel
theorem dX12_warms_23 : decode cX12_warms 23 = .ok (.iconst 0, 1) := by decide +kernel
theorem dX12_warms_24 : decode cX12_warms 24 = .ok (.istore_n 3, 1) := by decide +kernel
theorem dX12_warms_25 : decode cX12_warms 25 = .ok (.iload_n 3, 1) := by decide +kernel
theorem dX12_warms_26 : decode cX12_warms 26 = .ok (.sipush 200, 3) := by decide +kernel
theorem dX12_warms_29 : decode cX12_warms 29 = .ok (.if_icmp .ge 131, 3) := by decide +kernel
theorem dX12_warms_32 : decode cX12_warms 32 = .ok (.aload_n 0, 1) := by decide +kernel
theorem dX12_warms_33 : decode cX12_warms 33 = .ok (.getfield 123, 3) := by decide +kernel
theorem dX12_warms_36 : decode cX12_warms 36 = .ok (.sipush 200, 3) := by decide +kernel
theorem dX12_warms_39 : decode cX12_warms 39 = .ok (.iload_n 1, 1) := by decide +kernel
theorem dX12_warms_40 : decode cX12_warms 40 = .ok (.imul, 1) := by decide +kernel
theorem dX12_warms_41 : decode cX12_warms 41 = .ok (.iload_n 3, 1) := by decide +kernel
theorem dX12_warms_42 : decode cX12_warms 42 = .ok (.iadd, 1) := by decide +kernel
theorem dX12_warms_43 : decode cX12_warms 43 = .ok (.iload_n 2, 1) := by decide +kernel
theorem dX12_warms_44 : decode cX12_warms 44 = .ok (.iastore, 1) := by decide +kernel
theorem dX12_warms_45 : decode cX12_warms 45 = .ok (.aload_n 0, 1) := by decide +kernel
theorem dX12_warms_46 : decode cX12_warms 46 = .ok (.getfield 126, 3) := by decide +kernel
theorem dX12_warms_49 : decode cX12_warms 49 = .ok (.iload_n 1, 1) := by decide +kernel
theorem dX12_warms_50 : decode cX12_warms 50 = .ok (.iaload, 1) := by decide +kernel
theorem dX12_warms_51 : decode cX12_warms 51 = .ok (.ldc_w 371, 3) := by decide +kernel
theorem dX12_warms_54 : decode cX12_warms 54 = .ok (.if_icmp .ne 28, 3) := by decide +kernel
theorem dX12_warms_57 : decode cX12_warms 57 = .ok (.iload_n 2, 1) := by decide +kernel
theorem dX12_warms_58 : decode cX12_warms 58 = .ok (.aload_n 0, 1) := by decide +kernel
theorem dX12_warms_59 : decode cX12_warms 59 = .ok (.getfield 32, 3) := by decide +kernel
theorem dX12_warms_62 : decode cX12_warms 62 = .ok (.iload_n 1, 1) := by decide +kernel
theorem dX12_warms_63 : decode cX12_warms 63 = .ok (.iaload, 1) := by decide +kernel
theorem dX12_warms_64 : decode cX12_warms 64 = .ok (.aload_n 0, 1) := by decide +kernel
theorem dX12_warms_65 : decode cX12_warms 65 = .ok (.getfield 56, 3) := by decide +kernel
theorem dX12_warms_68 : decode cX12_warms 68 = .ok (.bipush 8, 2) := by decide +kernel
theorem dX12_warms_70 : decode cX12_warms 70 = .ok (.iaload, 1) := by decide +kernel
theorem dX12_warms_71 : decode cX12_warms 71 = .ok (.imul, 1) := by decide +kernel
theorem dX12_warms_72 : decode cX12_warms 72 = .ok (.if_icmp .le 10, 3) := by decide +kernel
theorem dX12_warms_75 : decode cX12_warms 75 = .ok (.aload_n 0, 1) := by decide +kernel
theorem dX12_warms_76 : decode cX12_warms 76 = .ok (.getfield 126, 3) := by decide +kernel
theorem dX12_warms_79 : decode cX12_warms 79 = .ok (.iload_n 1, 1) := by decide +kernel
theorem dX12_warms_80 : decode cX12_warms 80 = .ok (.iload_n 3, 1) := by decide +kernel
theorem dX12_warms_81 : decode cX12_warms 81 = .ok (.iastore, 1) := by decide +kernel
theorem dX12_warms_82 : decode cX12_warms 82 = .ok (.aload_n 0, 1) := by decide +kernel
theorem dX12_warms_83 : decode cX12_warms 83 = .ok (.iload_n 1, 1) := by decide +kernel
theorem dX12_warms_84 : decode cX12_warms 84 = .ok (.iload_n 3, 1) := by decide +kernel
theorem dX12_warms_85 : decode cX12_warms 85 = .ok (.invokevirtual 367, 3) := by decide +kernel
theorem dX12_warms_88 : decode cX12_warms 88 = .ok (.istore 4, 2) := by decide +kernel
theorem dX12_warms_90 : decode cX12_warms 90 = .ok (.aload_n 0, 1) := by decide +kernel
theorem dX12_warms_91 : decode cX12_warms 91 = .ok (.getfield 56, 3) := by decide +kernel
theorem dX12_warms_94 : decode cX12_warms 94 = .ok (.bipush 6, 2) := by decide +kernel
theorem dX12_warms_96 : decode cX12_warms 96 = .ok (.iaload, 1) := by decide +kernel
theorem dX12_warms_97 : decode cX12_warms 97 = .ok (.iload 4, 2) := by decide +kernel
theorem dX12_warms_99 : decode cX12_warms 99 = .ok (.imul, 1) := by decide +kernel
theorem dX12_warms_100 : decode cX12_warms 100 = .ok (.istore 5, 2) := by decide +kernel
theorem dX12_warms_102 : decode cX12_warms 102 = .ok (.aload_n 0, 1) := by decide +kernel
theorem dX12_warms_103 : decode cX12_warms 103 = .ok (.getfield 35, 3) := by decide +kernel
theorem dX12_warms_106 : decode cX12_warms 106 = .ok (.iload_n 1, 1) := by decide +kernel
theorem dX12_warms_107 : decode cX12_warms 107 = .ok (.iaload, 1) := by decide +kernel
theorem dX12_warms_108 : decode cX12_warms 108 = .ok (.iconst 1, 1) := by decide +kernel
theorem dX12_warms_109 : decode cX12_warms 109 = .ok (.if_icmp .eq 13, 3) := by decide +kernel
theorem dX12_warms_112 : decode cX12_warms 112 = .ok (.aload_n 0, 1) := by decide +kernel
theorem dX12_warms_113 : decode cX12_warms 113 = .ok (.getfield 35, 3) := by decide +kernel
theorem dX12_warms_116 : decode cX12_warms 116 = .ok (.iload_n 1, 1) := by decide +kernel
theorem dX12_warms_117 : decode cX12_warms 117 = .ok (.iaload, 1) := by decide +kernel
theorem dX12_warms_118 : decode cX12_warms 118 = .ok (.iconst 2, 1) := by decide +kernel
theorem dX12_warms_119 : decode cX12_warms 119 = .ok (.if_icmp .ne 9, 3) := by decide +kernel
theorem dX12_warms_122 : decode cX12_warms 122 = .ok (.iload 5, 2) := by decide +kernel
theorem dX12_warms_124 : decode cX12_warms 124 = .ok (.iconst 2, 1) := by decide +kernel
theorem dX12_warms_125 : decode cX12_warms 125 = .ok (.idiv, 1) := by decide +kernel
theorem dX12_warms_126 : decode cX12_warms 126 = .ok (.istore 5, 2) := by decide +kernel
theorem dX12_warms_128 : decode cX12_warms 128 = .ok (.iload 4, 2) := by decide +kernel
theorem dX12_warms_130 : decode cX12_warms 130 = .ok (.ifCond .le 10, 3) := by decide +kernel
theorem dX12_warms_133 : decode cX12_warms 133 = .ok (.iload_n 2, 1) := by decide +kernel
theorem dX12_warms_134 : decode cX12_warms 134 = .ok (.iload 5, 2) := by decide +kernel
theorem dX12_warms_136 : decode cX12_warms 136 = .ok (.iadd, 1) := by decide +kernel
theorem dX12_warms_137 : decode cX12_warms 137 = .ok (.goto 16, 3) := by decide +kernel
theorem dX12_warms_140 : decode cX12_warms 140 = .ok (.iconst 0, 1) := by decide +kernel
theorem dX12_warms_141 : decode cX12_warms 141 = .ok (.iload_n 2, 1) := by decide +kernel
theorem dX12_warms_142 : decode cX12_warms 142 = .ok (.aload_n 0, 1) := by decide +kernel
theorem dX12_warms_143 : decode cX12_warms 143 = .ok (.getfield 56, 3) := by decide +kernel
theorem dX12_warms_146 : decode cX12_warms 146 = .ok (.bipush 7, 2) := by decide +kernel
theorem dX12_warms_148 : decode cX12_warms 148 = .ok (.iaload, 1) := by decide +kernel
theorem dX12_warms_149 : decode cX12_warms 149 = .ok (.isub, 1) := by decide +kernel
theorem dX12_warms_150 : decode cX12_warms 150 = .ok (.invokestatic 372, 3) := by decide +kernel
theorem dX12_warms_153 : decode cX12_warms 153 = .ok (.istore_n 2, 1) := by decide +kernel
theorem dX12_warms_154 : decode cX12_warms 154 = .ok (.iinc 3 1, 3) := by decide +kernel
theorem dX12_warms_157 : decode cX12_warms 157 = .ok (.goto (-132), 3) := by decide +kernel
theorem dX12_warms_160 : decode cX12_warms 160 = .ok (.iinc 1 1, 3) := by decide +kernel
theorem dX12_warms_163 : decode cX12_warms 163 = .ok (.goto (-161), 3) := by decide +kernel
theorem dX12_warms_166 : decode cX12_warms 166 = .ok (.return_, 1) := by decide +kernel
theorem dX12_warmth_0 : decode cX12_warmth 0 = .ok (.aload_n 0, 1) := by decide +kernel
theorem dX12_warmth_1 : decode cX12_warmth 1 = .ok (.iconst 0, 1) := by decide +kernel
theorem dX12_warmth_2 : decode cX12_warmth 2 = .ok (.putfield 157, 3) := by decide +kernel
theorem dX12_warmth_5 : decode cX12_warmth 5 = .ok (.aload_n 0, 1) := by decide +kernel
theorem dX12_warmth_6 : decode cX12_warmth 6 = .ok (.iload_n 1, 1) := by decide +kernel
theorem dX12_warmth_7 : decode cX12_warmth 7 = .ok (.invokevirtual 346, 3) := by decide +kernel
theorem dX12_warmth_10 : decode cX12_warmth 10 = .ok (.ifCond .eq 10, 3) := by decide +kernel
theorem dX12_warmth_13 : decode cX12_warmth 13 = .ok (.iload_n 2, 1) := by decide +kernel
theorem dX12_warmth_14 : decode cX12_warmth 14 = .ok (.invokestatic 355, 3) := by decide +kernel
theorem dX12_warmth_17 : decode cX12_warmth 17 = .ok (.ifCond .ne 5, 3) := by decide +kernel
theorem dX12_warmth_20 : decode cX12_warmth 20 = .ok (.iconst (-1), 1) := by decide +kernel
theorem dX12_warmth_21 : decode cX12_warmth 21 = .ok (.ireturn, 1) := by decide +kernel
theorem dX12_warmth_22 : decode cX12_warmth 22 = .ok (.aload_n 0, 1) := by decide +kernel
theorem dX12_warmth_23 : decode cX12_warmth 23 = .ok (.invokevirtual 377, 3) := by decide +kernel
theorem dX12_warmth_26 : decode cX12_warmth 26 = .ok (.aload_n 0, 1) := by decide +kernel
theorem dX12_warmth_27 : decode cX12_warmth 27 = .ok (.getfield 123, 3) := by decide +kernel
theorem dX12_warmth_30 : decode cX12_warmth 30 = .ok (.sipush 200, 3) := by decide +kernel
theorem dX12_warmth_33 : decode cX12_warmth 33 = .ok (.iload_n 1, 1) := by decide +kernel
theorem dX12_warmth_34 : decode cX12_warmth 34 = .ok (.imul, 1) := by decide +kernel
theorem dX12_warmth_35 : decode cX12_warmth 35 = .ok (.iload_n 2, 1) := by decide +kernel
theorem dX12_warmth_36 : decode cX12_warmth 36 = .ok (.iadd, 1) := by decide +kernel
theorem dX12_warmth_37 : decode cX12_warmth 37 = .ok (.iaload, 1) := by decide +kernel
theorem dX12_warmth_38 : decode cX12_warmth 38 = .ok (.ireturn, 1) := by decide +kernel
theorem dX12_cracked_0 : decode cX12_cracked 0 = .ok (.aload_n 0, 1) := by decide +kernel
theorem dX12_cracked_1 : decode cX12_cracked 1 = .ok (.iconst 0, 1) := by decide +kernel
theorem dX12_cracked_2 : decode cX12_cracked 2 = .ok (.putfield 157, 3) := by decide +kernel
theorem dX12_cracked_5 : decode cX12_cracked 5 = .ok (.aload_n 0, 1) := by decide +kernel
theorem dX12_cracked_6 : decode cX12_cracked 6 = .ok (.iload_n 1, 1) := by decide +kernel
theorem dX12_cracked_7 : decode cX12_cracked 7 = .ok (.invokevirtual 346, 3) := by decide +kernel
theorem dX12_cracked_10 : decode cX12_cracked 10 = .ok (.ifCond .ne 5, 3) := by decide +kernel
theorem dX12_cracked_13 : decode cX12_cracked 13 = .ok (.iconst (-1), 1) := by decide +kernel
theorem dX12_cracked_14 : decode cX12_cracked 14 = .ok (.ireturn, 1) := by decide +kernel
theorem dX12_cracked_15 : decode cX12_cracked 15 = .ok (.aload_n 0, 1) := by decide +kernel
theorem dX12_cracked_16 : decode cX12_cracked 16 = .ok (.invokevirtual 377, 3) := by decide +kernel
theorem dX12_cracked_19 : decode cX12_cracked 19 = .ok (.aload_n 0, 1) := by decide +kernel
theorem dX12_cracked_20 : decode cX12_cracked 20 = .ok (.getfield 126, 3) := by decide +kernel
theorem dX12_cracked_23 : decode cX12_cracked 23 = .ok (.iload_n 1, 1) := by decide +kernel
theorem dX12_cracked_24 : decode cX12_cracked 24 = .ok (.iaload, 1) := by decide +kernel
theorem dX12_cracked_25 : decode cX12_cracked 25 = .ok (.ldc_w 371, 3) := by decide +kernel
theorem dX12_cracked_28 : decode cX12_cracked 28 = .ok (.if_icmp .ne 7, 3) := by decide +kernel
theorem dX12_cracked_31 : decode cX12_cracked 31 = .ok (.iconst (-1), 1) := by decide +kernel
theorem dX12_cracked_32 : decode cX12_cracked 32 = .ok (.goto 9, 3) := by decide +kernel
theorem dX12_cracked_35 : decode cX12_cracked 35 = .ok (.aload_n 0, 1) := by decide +kernel
theorem dX12_cracked_36 : decode cX12_cracked 36 = .ok (.getfield 126, 3) := by decide +kernel
theorem dX12_cracked_39 : decode cX12_cracked 39 = .ok (.iload_n 1, 1) := by decide +kernel
theorem dX12_cracked_40 : decode cX12_cracked 40 = .ok (.iaload, 1) := by decide +kernel
theorem dX12_cracked_41 : decode cX12_cracked 41 = .ok (.ireturn, 1) := by decide +kernel
theorem dX12_worn_0 : decode cX12_worn 0 = .ok (.iconst 0, 1) := by decide +kernel
theorem dX12_worn_1 : decode cX12_worn 1 = .ok (.istore_n 2, 1) := by decide +kernel
theorem dX12_worn_2 : decode cX12_worn 2 = .ok (.iconst (-1), 1) := by decide +kernel
theorem dX12_worn_3 : decode cX12_worn 3 = .ok (.istore_n 3, 1) := by decide +kernel
theorem dX12_worn_4 : decode cX12_worn 4 = .ok (.iconst 0, 1) := by decide +kernel
theorem dX12_worn_5 : decode cX12_worn 5 = .ok (.istore 4, 2) := by decide +kernel
theorem dX12_worn_7 : decode cX12_worn 7 = .ok (.iload 4, 2) := by decide +kernel
theorem dX12_worn_9 : decode cX12_worn 9 = .ok (.iload_n 1, 1) := by decide +kernel
theorem dX12_worn_10 : decode cX12_worn 10 = .ok (.if_icmp .gt 70, 3) := by decide +kernel
theorem dX12_worn_13 : decode cX12_worn 13 = .ok (.aload_n 0, 1) := by decide +kernel
theorem dX12_worn_14 : decode cX12_worn 14 = .ok (.getfield 120, 3) := by decide +kernel
theorem dX12_worn_17 : decode cX12_worn 17 = .ok (.iload 4, 2) := by decide +kernel
theorem dX12_worn_19 : decode cX12_worn 19 = .ok (.iaload, 1) := by decide +kernel
theorem dX12_worn_20 : decode cX12_worn 20 = .ok (.aload_n 0, 1) := by decide +kernel
theorem dX12_worn_21 : decode cX12_worn 21 = .ok (.getfield 120, 3) := by decide +kernel
theorem dX12_worn_24 : decode cX12_worn 24 = .ok (.iload_n 1, 1) := by decide +kernel
theorem dX12_worn_25 : decode cX12_worn 25 = .ok (.iaload, 1) := by decide +kernel
theorem dX12_worn_26 : decode cX12_worn 26 = .ok (.if_icmp .eq 6, 3) := by decide +kernel
theorem dX12_worn_29 : decode cX12_worn 29 = .ok (.goto 45, 3) := by decide +kernel
theorem dX12_worn_32 : decode cX12_worn 32 = .ok (.iload_n 3, 1) := by decide +kernel
theorem dX12_worn_33 : decode cX12_worn 33 = .ok (.ifCond .lt 38, 3) := by decide +kernel
theorem dX12_worn_36 : decode cX12_worn 36 = .ok (.aload_n 0, 1) := by decide +kernel
theorem dX12_worn_37 : decode cX12_worn 37 = .ok (.getfield 111, 3) := by decide +kernel
theorem dX12_worn_40 : decode cX12_worn 40 = .ok (.iload 4, 2) := by decide +kernel
theorem dX12_worn_42 : decode cX12_worn 42 = .ok (.iaload, 1) := by decide +kernel
theorem dX12_worn_43 : decode cX12_worn 43 = .ok (.aload_n 0, 1) := by decide +kernel
theorem dX12_worn_44 : decode cX12_worn 44 = .ok (.iload_n 3, 1) := by decide +kernel
theorem dX12_worn_45 : decode cX12_worn 45 = .ok (.invokevirtual 349, 3) := by decide +kernel
theorem dX12_worn_48 : decode cX12_worn 48 = .ok (.isub, 1) := by decide +kernel
theorem dX12_worn_49 : decode cX12_worn 49 = .ok (.aload_n 0, 1) := by decide +kernel
theorem dX12_worn_50 : decode cX12_worn 50 = .ok (.getfield 56, 3) := by decide +kernel
theorem dX12_worn_53 : decode cX12_worn 53 = .ok (.iconst 5, 1) := by decide +kernel
theorem dX12_worn_54 : decode cX12_worn 54 = .ok (.iaload, 1) := by decide +kernel
theorem dX12_worn_55 : decode cX12_worn 55 = .ok (.if_icmp .lt 7, 3) := by decide +kernel
theorem dX12_worn_58 : decode cX12_worn 58 = .ok (.iconst 0, 1) := by decide +kernel
theorem dX12_worn_59 : decode cX12_worn 59 = .ok (.goto 11, 3) := by decide +kernel
theorem dX12_worn_62 : decode cX12_worn 62 = .ok (.iload_n 2, 1) := by decide +kernel
theorem dX12_worn_63 : decode cX12_worn 63 = .ok (.aload_n 0, 1) := by decide +kernel
theorem dX12_worn_64 : decode cX12_worn 64 = .ok (.getfield 114, 3) := by decide +kernel
theorem dX12_worn_67 : decode cX12_worn 67 = .ok (.iload_n 3, 1) := by decide +kernel
theorem dX12_worn_68 : decode cX12_worn 68 = .ok (.iaload, 1) := by decide +kernel
theorem dX12_worn_69 : decode cX12_worn 69 = .ok (.iadd, 1) := by decide +kernel
theorem dX12_worn_70 : decode cX12_worn 70 = .ok (.istore_n 2, 1) := by decide +kernel
theorem dX12_worn_71 : decode cX12_worn 71 = .ok (.iload 4, 2) := by decide +kernel
theorem dX12_worn_73 : decode cX12_worn 73 = .ok (.istore_n 3, 1) := by decide +kernel
theorem dX12_worn_74 : decode cX12_worn 74 = .ok (.iinc 4 1, 3) := by decide +kernel
theorem dX12_worn_77 : decode cX12_worn 77 = .ok (.goto (-70), 3) := by decide +kernel
theorem dX12_worn_80 : decode cX12_worn 80 = .ok (.iload_n 2, 1) := by decide +kernel
theorem dX12_worn_81 : decode cX12_worn 81 = .ok (.ireturn, 1) := by decide +kernel
theorem dX12_isDry_0 : decode cX12_isDry 0 = .ok (.aload_n 0, 1) := by decide +kernel
theorem dX12_isDry_1 : decode cX12_isDry 1 = .ok (.getfield 120, 3) := by decide +kernel
theorem dX12_isDry_4 : decode cX12_isDry 4 = .ok (.iload_n 1, 1) := by decide +kernel
theorem dX12_isDry_5 : decode cX12_isDry 5 = .ok (.iaload, 1) := by decide +kernel
theorem dX12_isDry_6 : decode cX12_isDry 6 = .ok (.ifCond .lt 30, 3) := by decide +kernel
theorem dX12_isDry_9 : decode cX12_isDry 9 = .ok (.aload_n 0, 1) := by decide +kernel
theorem dX12_isDry_10 : decode cX12_isDry 10 = .ok (.iload_n 1, 1) := by decide +kernel
theorem dX12_isDry_11 : decode cX12_isDry 11 = .ok (.invokevirtual 380, 3) := by decide +kernel
theorem dX12_isDry_14 : decode cX12_isDry 14 = .ok (.iload_n 2, 1) := by decide +kernel
theorem dX12_isDry_15 : decode cX12_isDry 15 = .ok (.iadd, 1) := by decide +kernel
theorem dX12_isDry_16 : decode cX12_isDry 16 = .ok (.aload_n 0, 1) := by decide +kernel
theorem dX12_isDry_17 : decode cX12_isDry 17 = .ok (.getfield 111, 3) := by decide +kernel
theorem dX12_isDry_20 : decode cX12_isDry 20 = .ok (.iload_n 1, 1) := by decide +kernel
theorem dX12_isDry_21 : decode cX12_isDry 21 = .ok (.iaload, 1) := by decide +kernel
theorem dX12_isDry_22 : decode cX12_isDry 22 = .ok (.isub, 1) := by decide +kernel
theorem dX12_isDry_23 : decode cX12_isDry 23 = .ok (.aload_n 0, 1) := by decide +kernel
theorem dX12_isDry_24 : decode cX12_isDry 24 = .ok (.getfield 56, 3) := by decide +kernel
theorem dX12_isDry_27 : decode cX12_isDry 27 = .ok (.iconst 4, 1) := by decide +kernel
theorem dX12_isDry_28 : decode cX12_isDry 28 = .ok (.iaload, 1) := by decide +kernel
theorem dX12_isDry_29 : decode cX12_isDry 29 = .ok (.if_icmp .lt 7, 3) := by decide +kernel
theorem dX12_isDry_32 : decode cX12_isDry 32 = .ok (.iconst 1, 1) := by decide +kernel
theorem dX12_isDry_33 : decode cX12_isDry 33 = .ok (.goto 4, 3) := by decide +kernel
theorem dX12_isDry_36 : decode cX12_isDry 36 = .ok (.iconst 0, 1) := by decide +kernel
theorem dX12_isDry_37 : decode cX12_isDry 37 = .ok (.ireturn, 1) := by decide +kernel
theorem dX12_whyIn_0 : decode cX12_whyIn 0 = .ok (.aload_n 0, 1) := by decide +kernel
theorem dX12_whyIn_1 : decode cX12_whyIn 1 = .ok (.getfield 108, 3) := by decide +kernel
theorem dX12_whyIn_4 : decode cX12_whyIn 4 = .ok (.iload_n 1, 1) := by decide +kernel
theorem dX12_whyIn_5 : decode cX12_whyIn 5 = .ok (.iaload, 1) := by decide +kernel
theorem dX12_whyIn_6 : decode cX12_whyIn 6 = .ok (.istore 4, 2) := by decide +kernel
theorem dX12_whyIn_8 : decode cX12_whyIn 8 = .ok (.iload_n 2, 1) := by decide +kernel
theorem dX12_whyIn_9 : decode cX12_whyIn 9 = .ok (.aload_n 0, 1) := by decide +kernel
theorem dX12_whyIn_10 : decode cX12_whyIn 10 = .ok (.getfield 111, 3) := by decide +kernel
theorem dX12_whyIn_13 : decode cX12_whyIn 13 = .ok (.iload_n 1, 1) := by decide +kernel
theorem dX12_whyIn_14 : decode cX12_whyIn 14 = .ok (.iaload, 1) := by decide +kernel
theorem dX12_whyIn_15 : decode cX12_whyIn 15 = .ok (.isub, 1) := by decide +kernel
theorem dX12_whyIn_16 : decode cX12_whyIn 16 = .ok (.aload_n 0, 1) := by decide +kernel
theorem dX12_whyIn_17 : decode cX12_whyIn 17 = .ok (.getfield 56, 3) := by decide +kernel
theorem dX12_whyIn_20 : decode cX12_whyIn 20 = .ok (.iconst 3, 1) := by decide +kernel
theorem dX12_whyIn_21 : decode cX12_whyIn 21 = .ok (.iaload, 1) := by decide +kernel
theorem dX12_whyIn_22 : decode cX12_whyIn 22 = .ok (.if_icmp .ge 5, 3) := by decide +kernel
theorem dX12_whyIn_25 : decode cX12_whyIn 25 = .ok (.iconst 1, 1) := by decide +kernel
theorem dX12_whyIn_26 : decode cX12_whyIn 26 = .ok (.ireturn, 1) := by decide +kernel
theorem dX12_whyIn_27 : decode cX12_whyIn 27 = .ok (.iload_n 2, 1) := by decide +kernel
theorem dX12_whyIn_28 : decode cX12_whyIn 28 = .ok (.aload_n 0, 1) := by decide +kernel
theorem dX12_whyIn_29 : decode cX12_whyIn 29 = .ok (.getfield 126, 3) := by decide +kernel
theorem dX12_whyIn_32 : decode cX12_whyIn 32 = .ok (.iload 4, 2) := by decide +kernel
theorem dX12_whyIn_34 : decode cX12_whyIn 34 = .ok (.iaload, 1) := by decide +kernel
theorem dX12_whyIn_35 : decode cX12_whyIn 35 = .ok (.if_icmp .lt 5, 3) := by decide +kernel
theorem dX12_whyIn_38 : decode cX12_whyIn 38 = .ok (.iconst 2, 1) := by decide +kernel
theorem dX12_whyIn_39 : decode cX12_whyIn 39 = .ok (.ireturn, 1) := by decide +kernel
theorem dX12_whyIn_40 : decode cX12_whyIn 40 = .ok (.aload_n 0, 1) := by decide +kernel
theorem dX12_whyIn_41 : decode cX12_whyIn 41 = .ok (.iload_n 1, 1) := by decide +kernel
theorem dX12_whyIn_42 : decode cX12_whyIn 42 = .ok (.iload_n 2, 1) := by decide +kernel
theorem dX12_whyIn_43 : decode cX12_whyIn 43 = .ok (.invokevirtual 383, 3) := by decide +kernel
theorem dX12_whyIn_46 : decode cX12_whyIn 46 = .ok (.ifCond .eq 5, 3) := by decide +kernel
theorem dX12_whyIn_49 : decode cX12_whyIn 49 = .ok (.iconst 3, 1) := by decide +kernel
theorem dX12_whyIn_50 : decode cX12_whyIn 50 = .ok (.ireturn, 1) := by decide +kernel
theorem dX12_whyIn_51 : decode cX12_whyIn 51 = .ok (.aload_n 0, 1) := by decide +kernel
theorem dX12_whyIn_52 : decode cX12_whyIn 52 = .ok (.getfield 105, 3) := by decide +kernel
theorem dX12_whyIn_55 : decode cX12_whyIn 55 = .ok (.iconst 1, 1) := by decide +kernel
theorem dX12_whyIn_56 : decode cX12_whyIn 56 = .ok (.aload_n 0, 1) := by decide +kernel
theorem dX12_whyIn_57 : decode cX12_whyIn 57 = .ok (.getfield 29, 3) := by decide +kernel
theorem dX12_whyIn_60 : decode cX12_whyIn 60 = .ok (.iload 4, 2) := by decide +kernel
theorem dX12_whyIn_62 : decode cX12_whyIn 62 = .ok (.iaload, 1) := by decide +kernel
theorem dX12_whyIn_63 : decode cX12_whyIn 63 = .ok (.iload_n 3, 1) := by decide +kernel
theorem dX12_whyIn_64 : decode cX12_whyIn 64 = .ok (.imul, 1) := by decide +kernel
theorem dX12_whyIn_65 : decode cX12_whyIn 65 = .ok (.iastore, 1) := by decide +kernel
theorem dX12_whyIn_66 : decode cX12_whyIn 66 = .ok (.aload_n 0, 1) := by decide +kernel
theorem dX12_whyIn_67 : decode cX12_whyIn 67 = .ok (.getfield 105, 3) := by decide +kernel
theorem dX12_whyIn_70 : decode cX12_whyIn 70 = .ok (.iconst 2, 1) := by decide +kernel
theorem dX12_whyIn_71 : decode cX12_whyIn 71 = .ok (.aload_n 0, 1) := by decide +kernel
theorem dX12_whyIn_72 : decode cX12_whyIn 72 = .ok (.getfield 117, 3) := by decide +kernel
theorem dX12_whyIn_75 : decode cX12_whyIn 75 = .ok (.iload_n 1, 1) := by decide +kernel
theorem dX12_whyIn_76 : decode cX12_whyIn 76 = .ok (.iaload, 1) := by decide +kernel
theorem dX12_whyIn_77 : decode cX12_whyIn 77 = .ok (.aload_n 0, 1) := by decide +kernel
theorem dX12_whyIn_78 : decode cX12_whyIn 78 = .ok (.getfield 35, 3) := by decide +kernel
theorem dX12_whyIn_81 : decode cX12_whyIn 81 = .ok (.iload 4, 2) := by decide +kernel
theorem dX12_whyIn_83 : decode cX12_whyIn 83 = .ok (.iaload, 1) := by decide +kernel
theorem dX12_whyIn_84 : decode cX12_whyIn 84 = .ok (.iconst 2, 1) := by decide +kernel
theorem dX12_whyIn_85 : decode cX12_whyIn 85 = .ok (.if_icmp .ne 7, 3) := by decide +kernel
theorem dX12_whyIn_88 : decode cX12_whyIn 88 = .ok (.iconst 1, 1) := by decide +kernel
theorem dX12_whyIn_89 : decode cX12_whyIn 89 = .ok (.goto 4, 3) := by decide +kernel
theorem dX12_whyIn_92 : decode cX12_whyIn 92 = .ok (.iconst 0, 1) := by decide +kernel
theorem dX12_whyIn_93 : decode cX12_whyIn 93 = .ok (.isub, 1) := by decide +kernel
theorem dX12_whyIn_94 : decode cX12_whyIn 94 = .ok (.iastore, 1) := by decide +kernel
theorem dX12_whyIn_95 : decode cX12_whyIn 95 = .ok (.aload_n 0, 1) := by decide +kernel
theorem dX12_whyIn_96 : decode cX12_whyIn 96 = .ok (.getfield 105, 3) := by decide +kernel
theorem dX12_whyIn_99 : decode cX12_whyIn 99 = .ok (.iconst 3, 1) := by decide +kernel
theorem dX12_whyIn_100 : decode cX12_whyIn 100 = .ok (.aload_n 0, 1) := by decide +kernel
theorem dX12_whyIn_101 : decode cX12_whyIn 101 = .ok (.getfield 123, 3) := by decide +kernel
theorem dX12_whyIn_104 : decode cX12_whyIn 104 = .ok (.sipush 200, 3) := by decide +kernel
theorem dX12_whyIn_107 : decode cX12_whyIn 107 = .ok (.iload 4, 2) := by decide +kernel
theorem dX12_whyIn_109 : decode cX12_whyIn 109 = .ok (.imul, 1) := by decide +kernel
theorem dX12_whyIn_110 : decode cX12_whyIn 110 = .ok (.iload_n 2, 1) := by decide +kernel
theorem dX12_whyIn_111 : decode cX12_whyIn 111 = .ok (.iadd, 1) := by decide +kernel
theorem dX12_whyIn_112 : decode cX12_whyIn 112 = .ok (.iaload, 1) := by decide +kernel
theorem dX12_whyIn_113 : decode cX12_whyIn 113 = .ok (.iastore, 1) := by decide +kernel
theorem dX12_whyIn_114 : decode cX12_whyIn 114 = .ok (.aload_n 0, 1) := by decide +kernel
theorem dX12_whyIn_115 : decode cX12_whyIn 115 = .ok (.getfield 105, 3) := by decide +kernel
theorem dX12_whyIn_118 : decode cX12_whyIn 118 = .ok (.iconst 4, 1) := by decide +kernel
theorem dX12_whyIn_119 : decode cX12_whyIn 119 = .ok (.iload_n 2, 1) := by decide +kernel
theorem dX12_whyIn_120 : decode cX12_whyIn 120 = .ok (.aload_n 0, 1) := by decide +kernel
theorem dX12_whyIn_121 : decode cX12_whyIn 121 = .ok (.getfield 111, 3) := by decide +kernel
theorem dX12_whyIn_124 : decode cX12_whyIn 124 = .ok (.iload_n 1, 1) := by decide +kernel
theorem dX12_whyIn_125 : decode cX12_whyIn 125 = .ok (.iaload, 1) := by decide +kernel
theorem dX12_whyIn_126 : decode cX12_whyIn 126 = .ok (.isub, 1) := by decide +kernel
theorem dX12_whyIn_127 : decode cX12_whyIn 127 = .ok (.iastore, 1) := by decide +kernel
theorem dX12_whyIn_128 : decode cX12_whyIn 128 = .ok (.aload_n 0, 1) := by decide +kernel
theorem dX12_whyIn_129 : decode cX12_whyIn 129 = .ok (.getfield 105, 3) := by decide +kernel
theorem dX12_whyIn_132 : decode cX12_whyIn 132 = .ok (.iconst 5, 1) := by decide +kernel
theorem dX12_whyIn_133 : decode cX12_whyIn 133 = .ok (.aload_n 0, 1) := by decide +kernel
theorem dX12_whyIn_134 : decode cX12_whyIn 134 = .ok (.getfield 32, 3) := by decide +kernel
theorem dX12_whyIn_137 : decode cX12_whyIn 137 = .ok (.iload 4, 2) := by decide +kernel
theorem dX12_whyIn_139 : decode cX12_whyIn 139 = .ok (.iaload, 1) := by decide +kernel
theorem dX12_whyIn_140 : decode cX12_whyIn 140 = .ok (.iastore, 1) := by decide +kernel
theorem dX12_whyIn_141 : decode cX12_whyIn 141 = .ok (.iconst 0, 1) := by decide +kernel
theorem dX12_whyIn_142 : decode cX12_whyIn 142 = .ok (.istore 5, 2) := by decide +kernel
theorem dX12_whyIn_144 : decode cX12_whyIn 144 = .ok (.iload 5, 2) := by decide +kernel
theorem dX12_whyIn_146 : decode cX12_whyIn 146 = .ok (.aload_n 0, 1) := by decide +kernel
theorem dX12_whyIn_147 : decode cX12_whyIn 147 = .ok (.getfield 19, 3) := by decide +kernel
theorem dX12_whyIn_150 : decode cX12_whyIn 150 = .ok (.iconst 0, 1) := by decide +kernel
theorem dX12_whyIn_151 : decode cX12_whyIn 151 = .ok (.iaload, 1) := by decide +kernel
theorem dX12_whyIn_152 : decode cX12_whyIn 152 = .ok (.if_icmp .ge 20, 3) := by decide +kernel
theorem dX12_whyIn_155 : decode cX12_whyIn 155 = .ok (.aload_n 0, 1) := by decide +kernel
theorem dX12_whyIn_156 : decode cX12_whyIn 156 = .ok (.iload 5, 2) := by decide +kernel
theorem dX12_whyIn_158 : decode cX12_whyIn 158 = .ok (.invokevirtual 386, 3) := by decide +kernel
theorem dX12_whyIn_161 : decode cX12_whyIn 161 = .ok (.ifCond .ne 5, 3) := by decide +kernel
theorem dX12_whyIn_164 : decode cX12_whyIn 164 = .ok (.iconst 4, 1) := by decide +kernel
theorem dX12_whyIn_165 : decode cX12_whyIn 165 = .ok (.ireturn, 1) := by decide +kernel
theorem dX12_whyIn_166 : decode cX12_whyIn 166 = .ok (.iinc 5 1, 3) := by decide +kernel
theorem dX12_whyIn_169 : decode cX12_whyIn 169 = .ok (.goto (-25), 3) := by decide +kernel
theorem dX12_whyIn_172 : decode cX12_whyIn 172 = .ok (.iconst 0, 1) := by decide +kernel
theorem dX12_whyIn_173 : decode cX12_whyIn 173 = .ok (.ireturn, 1) := by decide +kernel
theorem dX12_why_0 : decode cX12_why 0 = .ok (.aload_n 0, 1) := by decide +kernel
theorem dX12_why_1 : decode cX12_why 1 = .ok (.aload_n 0, 1) := by decide +kernel
theorem dX12_why_2 : decode cX12_why 2 = .ok (.iload_n 1, 1) := by decide +kernel
theorem dX12_why_3 : decode cX12_why 3 = .ok (.invokevirtual 361, 3) := by decide +kernel
theorem dX12_why_6 : decode cX12_why 6 = .ok (.ifCond .eq 23, 3) := by decide +kernel
theorem dX12_why_9 : decode cX12_why 9 = .ok (.iload_n 2, 1) := by decide +kernel
theorem dX12_why_10 : decode cX12_why 10 = .ok (.invokestatic 355, 3) := by decide +kernel
theorem dX12_why_13 : decode cX12_why 13 = .ok (.ifCond .eq 16, 3) := by decide +kernel
theorem dX12_why_16 : decode cX12_why 16 = .ok (.aload_n 0, 1) := by decide +kernel
theorem dX12_why_17 : decode cX12_why 17 = .ok (.iload_n 1, 1) := by decide +kernel
theorem dX12_why_18 : decode cX12_why 18 = .ok (.iload_n 2, 1) := by decide +kernel
theorem dX12_why_19 : decode cX12_why 19 = .ok (.invokevirtual 364, 3) := by decide +kernel
theorem dX12_why_22 : decode cX12_why 22 = .ok (.ifCond .eq 7, 3) := by decide +kernel
theorem dX12_why_25 : decode cX12_why 25 = .ok (.iconst 0, 1) := by decide +kernel
theorem dX12_why_26 : decode cX12_why 26 = .ok (.goto 4, 3) := by decide +kernel
theorem dX12_why_29 : decode cX12_why 29 = .ok (.iconst 1, 1) := by decide +kernel
theorem dX12_why_30 : decode cX12_why 30 = .ok (.putfield 157, 3) := by decide +kernel
theorem dX12_why_33 : decode cX12_why 33 = .ok (.aload_n 0, 1) := by decide +kernel
theorem dX12_why_34 : decode cX12_why 34 = .ok (.getfield 157, 3) := by decide +kernel
theorem dX12_why_37 : decode cX12_why 37 = .ok (.iconst 1, 1) := by decide +kernel
theorem dX12_why_38 : decode cX12_why 38 = .ok (.if_icmp .ne 5, 3) := by decide +kernel
theorem dX12_why_41 : decode cX12_why 41 = .ok (.iconst 0, 1) := by decide +kernel
theorem dX12_why_42 : decode cX12_why 42 = .ok (.ireturn, 1) := by decide +kernel
theorem dX12_why_43 : decode cX12_why 43 = .ok (.aload_n 0, 1) := by decide +kernel
theorem dX12_why_44 : decode cX12_why 44 = .ok (.invokevirtual 377, 3) := by decide +kernel
theorem dX12_why_47 : decode cX12_why 47 = .ok (.aload_n 0, 1) := by decide +kernel
theorem dX12_why_48 : decode cX12_why 48 = .ok (.iload_n 1, 1) := by decide +kernel
theorem dX12_why_49 : decode cX12_why 49 = .ok (.iload_n 2, 1) := by decide +kernel
theorem dX12_why_50 : decode cX12_why 50 = .ok (.aload_n 0, 1) := by decide +kernel
theorem dX12_why_51 : decode cX12_why 51 = .ok (.getfield 56, 3) := by decide +kernel
theorem dX12_why_54 : decode cX12_why 54 = .ok (.iconst 0, 1) := by decide +kernel
theorem dX12_why_55 : decode cX12_why 55 = .ok (.iaload, 1) := by decide +kernel
theorem dX12_why_56 : decode cX12_why 56 = .ok (.invokevirtual 389, 3) := by decide +kernel
theorem dX12_why_59 : decode cX12_why 59 = .ok (.ireturn, 1) := by decide +kernel
theorem dX12_speaksFor_0 : decode cX12_speaksFor 0 = .ok (.iconst 0, 1) := by decide +kernel
theorem dX12_speaksFor_1 : decode cX12_speaksFor 1 = .ok (.istore_n 3, 1) := by decide +kernel
theorem dX12_speaksFor_2 : decode cX12_speaksFor 2 = .ok (.aload_n 0, 1) := by decide +kernel
theorem dX12_speaksFor_3 : decode cX12_speaksFor 3 = .ok (.getfield 111, 3) := by decide +kernel
theorem dX12_speaksFor_6 : decode cX12_speaksFor 6 = .ok (.iload_n 1, 1) := by decide +kernel
theorem dX12_speaksFor_7 : decode cX12_speaksFor 7 = .ok (.iaload, 1) := by decide +kernel
theorem dX12_speaksFor_8 : decode cX12_speaksFor 8 = .ok (.istore 4, 2) := by decide +kernel
theorem dX12_speaksFor_10 : decode cX12_speaksFor 10 = .ok (.iload 4, 2) := by decide +kernel
theorem dX12_speaksFor_12 : decode cX12_speaksFor 12 = .ok (.aload_n 0, 1) := by decide +kernel
theorem dX12_speaksFor_13 : decode cX12_speaksFor 13 = .ok (.iload_n 1, 1) := by decide +kernel
theorem dX12_speaksFor_14 : decode cX12_speaksFor 14 = .ok (.invokevirtual 349, 3) := by decide +kernel
theorem dX12_speaksFor_17 : decode cX12_speaksFor 17 = .ok (.if_icmp .ge 28, 3) := by decide +kernel
theorem dX12_speaksFor_20 : decode cX12_speaksFor 20 = .ok (.iload_n 3, 1) := by decide +kernel
theorem dX12_speaksFor_21 : decode cX12_speaksFor 21 = .ok (.aload_n 0, 1) := by decide +kernel
theorem dX12_speaksFor_22 : decode cX12_speaksFor 22 = .ok (.iload_n 1, 1) := by decide +kernel
theorem dX12_speaksFor_23 : decode cX12_speaksFor 23 = .ok (.iload 4, 2) := by decide +kernel
theorem dX12_speaksFor_25 : decode cX12_speaksFor 25 = .ok (.iload_n 2, 1) := by decide +kernel
theorem dX12_speaksFor_26 : decode cX12_speaksFor 26 = .ok (.invokevirtual 389, 3) := by decide +kernel
theorem dX12_speaksFor_29 : decode cX12_speaksFor 29 = .ok (.ifCond .ne 7, 3) := by decide +kernel
theorem dX12_speaksFor_32 : decode cX12_speaksFor 32 = .ok (.iconst 1, 1) := by decide +kernel
theorem dX12_speaksFor_33 : decode cX12_speaksFor 33 = .ok (.goto 4, 3) := by decide +kernel
theorem dX12_speaksFor_36 : decode cX12_speaksFor 36 = .ok (.iconst 0, 1) := by decide +kernel
theorem dX12_speaksFor_37 : decode cX12_speaksFor 37 = .ok (.iadd, 1) := by decide +kernel
theorem dX12_speaksFor_38 : decode cX12_speaksFor 38 = .ok (.istore_n 3, 1) := by decide +kernel
theorem dX12_speaksFor_39 : decode cX12_speaksFor 39 = .ok (.iinc 4 1, 3) := by decide +kernel
theorem dX12_speaksFor_42 : decode cX12_speaksFor 42 = .ok (.goto (-32), 3) := by decide +kernel
theorem dX12_speaksFor_45 : decode cX12_speaksFor 45 = .ok (.iload_n 3, 1) := by decide +kernel
theorem dX12_speaksFor_46 : decode cX12_speaksFor 46 = .ok (.ireturn, 1) := by decide +kernel
theorem dX12_speaks_0 : decode cX12_speaks 0 = .ok (.aload_n 0, 1) := by decide +kernel
theorem dX12_speaks_1 : decode cX12_speaks 1 = .ok (.iconst 0, 1) := by decide +kernel
theorem dX12_speaks_2 : decode cX12_speaks 2 = .ok (.putfield 157, 3) := by decide +kernel
theorem dX12_speaks_5 : decode cX12_speaks 5 = .ok (.aload_n 0, 1) := by decide +kernel
theorem dX12_speaks_6 : decode cX12_speaks 6 = .ok (.iload_n 1, 1) := by decide +kernel
theorem dX12_speaks_7 : decode cX12_speaks 7 = .ok (.invokevirtual 361, 3) := by decide +kernel
theorem dX12_speaks_10 : decode cX12_speaks 10 = .ok (.ifCond .ne 5, 3) := by decide +kernel
theorem dX12_speaks_13 : decode cX12_speaks 13 = .ok (.iconst (-1), 1) := by decide +kernel
theorem dX12_speaks_14 : decode cX12_speaks 14 = .ok (.ireturn, 1) := by decide +kernel
theorem dX12_speaks_15 : decode cX12_speaks 15 = .ok (.aload_n 0, 1) := by decide +kernel
theorem dX12_speaks_16 : decode cX12_speaks 16 = .ok (.invokevirtual 377, 3) := by decide +kernel
theorem dX12_speaks_19 : decode cX12_speaks 19 = .ok (.aload_n 0, 1) := by decide +kernel
theorem dX12_speaks_20 : decode cX12_speaks 20 = .ok (.iload_n 1, 1) := by decide +kernel
theorem dX12_speaks_21 : decode cX12_speaks 21 = .ok (.aload_n 0, 1) := by decide +kernel
theorem dX12_speaks_22 : decode cX12_speaks 22 = .ok (.getfield 56, 3) := by decide +kernel
theorem dX12_speaks_25 : decode cX12_speaks 25 = .ok (.iconst 0, 1) := by decide +kernel
theorem dX12_speaks_26 : decode cX12_speaks 26 = .ok (.iaload, 1) := by decide +kernel
theorem dX12_speaks_27 : decode cX12_speaks 27 = .ok (.invokevirtual 393, 3) := by decide +kernel
theorem dX12_speaks_30 : decode cX12_speaks 30 = .ok (.ireturn, 1) := by decide +kernel
theorem dX12_soundsIn_0 : decode cX12_soundsIn 0 = .ok (.iconst 0, 1) := by decide +kernel
theorem dX12_soundsIn_1 : decode cX12_soundsIn 1 = .ok (.istore_n 2, 1) := by decide +kernel
theorem dX12_soundsIn_2 : decode cX12_soundsIn 2 = .ok (.iconst 0, 1) := by decide +kernel
theorem dX12_soundsIn_3 : decode cX12_soundsIn 3 = .ok (.istore_n 3, 1) := by decide +kernel
theorem dX12_soundsIn_4 : decode cX12_soundsIn 4 = .ok (.iload_n 3, 1) := by decide +kernel
theorem dX12_soundsIn_5 : decode cX12_soundsIn 5 = .ok (.aload_n 0, 1) := by decide +kernel
theorem dX12_soundsIn_6 : decode cX12_soundsIn 6 = .ok (.getfield 343, 3) := by decide +kernel
theorem dX12_soundsIn_9 : decode cX12_soundsIn 9 = .ok (.if_icmp .ge 43, 3) := by decide +kernel
theorem dX12_soundsIn_12 : decode cX12_soundsIn 12 = .ok (.iload_n 2, 1) := by decide +kernel
theorem dX12_soundsIn_13 : decode cX12_soundsIn 13 = .ok (.aload_n 0, 1) := by decide +kernel
theorem dX12_soundsIn_14 : decode cX12_soundsIn 14 = .ok (.iload_n 3, 1) := by decide +kernel
theorem dX12_soundsIn_15 : decode cX12_soundsIn 15 = .ok (.iload_n 1, 1) := by decide +kernel
theorem dX12_soundsIn_16 : decode cX12_soundsIn 16 = .ok (.invokevirtual 364, 3) := by decide +kernel
theorem dX12_soundsIn_19 : decode cX12_soundsIn 19 = .ok (.ifCond .eq 24, 3) := by decide +kernel
theorem dX12_soundsIn_22 : decode cX12_soundsIn 22 = .ok (.aload_n 0, 1) := by decide +kernel
theorem dX12_soundsIn_23 : decode cX12_soundsIn 23 = .ok (.iload_n 3, 1) := by decide +kernel
theorem dX12_soundsIn_24 : decode cX12_soundsIn 24 = .ok (.iload_n 1, 1) := by decide +kernel
theorem dX12_soundsIn_25 : decode cX12_soundsIn 25 = .ok (.aload_n 0, 1) := by decide +kernel
theorem dX12_soundsIn_26 : decode cX12_soundsIn 26 = .ok (.getfield 56, 3) := by decide +kernel
theorem dX12_soundsIn_29 : decode cX12_soundsIn 29 = .ok (.iconst 0, 1) := by decide +kernel
theorem dX12_soundsIn_30 : decode cX12_soundsIn 30 = .ok (.iaload, 1) := by decide +kernel
theorem dX12_soundsIn_31 : decode cX12_soundsIn 31 = .ok (.invokevirtual 389, 3) := by decide +kernel
theorem dX12_soundsIn_34 : decode cX12_soundsIn 34 = .ok (.ifCond .ne 9, 3) := by decide +kernel
theorem dX12_soundsIn_37 : decode cX12_soundsIn 37 = .ok (.iconst 1, 1) := by decide +kernel
theorem dX12_soundsIn_38 : decode cX12_soundsIn 38 = .ok (.iload_n 3, 1) := by decide +kernel
theorem dX12_soundsIn_39 : decode cX12_soundsIn 39 = .ok (.ishl, 1) := by decide +kernel
theorem dX12_soundsIn_40 : decode cX12_soundsIn 40 = .ok (.goto 4, 3) := by decide +kernel
theorem dX12_soundsIn_43 : decode cX12_soundsIn 43 = .ok (.iconst 0, 1) := by decide +kernel
theorem dX12_soundsIn_44 : decode cX12_soundsIn 44 = .ok (.ior, 1) := by decide +kernel
theorem dX12_soundsIn_45 : decode cX12_soundsIn 45 = .ok (.istore_n 2, 1) := by decide +kernel
theorem dX12_soundsIn_46 : decode cX12_soundsIn 46 = .ok (.iinc 3 1, 3) := by decide +kernel
theorem dX12_soundsIn_49 : decode cX12_soundsIn 49 = .ok (.goto (-45), 3) := by decide +kernel
theorem dX12_soundsIn_52 : decode cX12_soundsIn 52 = .ok (.iload_n 2, 1) := by decide +kernel
theorem dX12_soundsIn_53 : decode cX12_soundsIn 53 = .ok (.ireturn, 1) := by decide +kernel
theorem dX12_sounds_0 : decode cX12_sounds 0 = .ok (.aload_n 0, 1) := by decide +kernel
theorem dX12_sounds_1 : decode cX12_sounds 1 = .ok (.iconst 0, 1) := by decide +kernel
theorem dX12_sounds_2 : decode cX12_sounds 2 = .ok (.putfield 157, 3) := by decide +kernel
theorem dX12_sounds_5 : decode cX12_sounds 5 = .ok (.iload_n 1, 1) := by decide +kernel
theorem dX12_sounds_6 : decode cX12_sounds 6 = .ok (.invokestatic 355, 3) := by decide +kernel
theorem dX12_sounds_9 : decode cX12_sounds 9 = .ok (.ifCond .ne 5, 3) := by decide +kernel
theorem dX12_sounds_12 : decode cX12_sounds 12 = .ok (.iconst (-1), 1) := by decide +kernel
theorem dX12_sounds_13 : decode cX12_sounds 13 = .ok (.ireturn, 1) := by decide +kernel
theorem dX12_sounds_14 : decode cX12_sounds 14 = .ok (.aload_n 0, 1) := by decide +kernel
theorem dX12_sounds_15 : decode cX12_sounds 15 = .ok (.invokevirtual 377, 3) := by decide +kernel
theorem dX12_sounds_18 : decode cX12_sounds 18 = .ok (.aload_n 0, 1) := by decide +kernel
theorem dX12_sounds_19 : decode cX12_sounds 19 = .ok (.iload_n 1, 1) := by decide +kernel
theorem dX12_sounds_20 : decode cX12_sounds 20 = .ok (.invokevirtual 396, 3) := by decide +kernel
theorem dX12_sounds_23 : decode cX12_sounds 23 = .ok (.ireturn, 1) := by decide +kernel
theorem dX12_along_0 : decode cX12_along 0 = .ok (.aload_n 0, 1) := by decide +kernel
theorem dX12_along_1 : decode cX12_along 1 = .ok (.iconst 0, 1) := by decide +kernel
theorem dX12_along_2 : decode cX12_along 2 = .ok (.putfield 157, 3) := by decide +kernel
theorem dX12_along_5 : decode cX12_along 5 = .ok (.iload_n 1, 1) := by decide +kernel
theorem dX12_along_6 : decode cX12_along 6 = .ok (.invokestatic 355, 3) := by decide +kernel
theorem dX12_along_9 : decode cX12_along 9 = .ok (.ifCond .ne 5, 3) := by decide +kernel
theorem dX12_along_12 : decode cX12_along 12 = .ok (.iconst (-1), 1) := by decide +kernel
theorem dX12_along_13 : decode cX12_along 13 = .ok (.ireturn, 1) := by decide +kernel
theorem dX12_along_14 : decode cX12_along 14 = .ok (.aload_n 0, 1) := by decide +kernel
theorem dX12_along_15 : decode cX12_along 15 = .ok (.invokevirtual 377, 3) := by decide +kernel
theorem dX12_along_18 : decode cX12_along 18 = .ok (.aload_n 0, 1) := by decide +kernel
theorem dX12_along_19 : decode cX12_along 19 = .ok (.iload_n 1, 1) := by decide +kernel
theorem dX12_along_20 : decode cX12_along 20 = .ok (.invokevirtual 396, 3) := by decide +kernel
theorem dX12_along_23 : decode cX12_along 23 = .ok (.istore_n 2, 1) := by decide +kernel
theorem dX12_along_24 : decode cX12_along 24 = .ok (.iconst 0, 1) := by decide +kernel
theorem dX12_along_25 : decode cX12_along 25 = .ok (.istore_n 3, 1) := by decide +kernel
theorem dX12_along_26 : decode cX12_along 26 = .ok (.iconst 0, 1) := by decide +kernel
theorem dX12_along_27 : decode cX12_along 27 = .ok (.istore 4, 2) := by decide +kernel
theorem dX12_along_29 : decode cX12_along 29 = .ok (.iload 4, 2) := by decide +kernel
theorem dX12_along_31 : decode cX12_along 31 = .ok (.aload_n 0, 1) := by decide +kernel
theorem dX12_along_32 : decode cX12_along 32 = .ok (.getfield 13, 3) := by decide +kernel
theorem dX12_along_35 : decode cX12_along 35 = .ok (.iconst 0, 1) := by decide +kernel
theorem dX12_along_36 : decode cX12_along 36 = .ok (.iaload, 1) := by decide +kernel
theorem dX12_along_37 : decode cX12_along 37 = .ok (.if_icmp .ge 135, 3) := by decide +kernel
theorem dX12_along_40 : decode cX12_along 40 = .ok (.aload_n 0, 1) := by decide +kernel
theorem dX12_along_41 : decode cX12_along 41 = .ok (.getfield 38, 3) := by decide +kernel
theorem dX12_along_44 : decode cX12_along 44 = .ok (.iload 4, 2) := by decide +kernel
theorem dX12_along_46 : decode cX12_along 46 = .ok (.iaload, 1) := by decide +kernel
theorem dX12_along_47 : decode cX12_along 47 = .ok (.ifCond .lt 119, 3) := by decide +kernel
theorem dX12_along_50 : decode cX12_along 50 = .ok (.iload_n 1, 1) := by decide +kernel
theorem dX12_along_51 : decode cX12_along 51 = .ok (.aload_n 0, 1) := by decide +kernel
theorem dX12_along_52 : decode cX12_along 52 = .ok (.getfield 126, 3) := by decide +kernel
theorem dX12_along_55 : decode cX12_along 55 = .ok (.iload 4, 2) := by decide +kernel
theorem dX12_along_57 : decode cX12_along 57 = .ok (.iaload, 1) := by decide +kernel
theorem dX12_along_58 : decode cX12_along 58 = .ok (.if_icmp .ge 108, 3) := by decide +kernel
theorem dX12_along_61 : decode cX12_along 61 = .ok (.aload_n 0, 1) := by decide +kernel
theorem dX12_along_62 : decode cX12_along 62 = .ok (.iload 4, 2) := by decide +kernel
theorem dX12_along_64 : decode cX12_along 64 = .ok (.iload_n 1, 1) := by decide +kernel
theorem dX12_along_65 : decode cX12_along 65 = .ok (.invokevirtual 367, 3) := by decide +kernel
theorem dX12_along_68 : decode cX12_along 68 = .ok (.ifCond .le 6, 3) := by decide +kernel
theorem dX12_along_71 : decode cX12_along 71 = .ok (.goto 95, 3) := by decide +kernel
theorem dX12_along_74 : decode cX12_along 74 = .ok (.iconst 0, 1) := by decide +kernel
theorem dX12_along_75 : decode cX12_along 75 = .ok (.istore 5, 2) := by decide +kernel
theorem dX12_along_77 : decode cX12_along 77 = .ok (.iload 5, 2) := by decide +kernel
theorem dX12_along_79 : decode cX12_along 79 = .ok (.aload_n 0, 1) := by decide +kernel
theorem dX12_along_80 : decode cX12_along 80 = .ok (.getfield 343, 3) := by decide +kernel
theorem dX12_along_83 : decode cX12_along 83 = .ok (.if_icmp .ge 83, 3) := by decide +kernel
theorem dX12_along_86 : decode cX12_along 86 = .ok (.aload_n 0, 1) := by decide +kernel
theorem dX12_along_87 : decode cX12_along 87 = .ok (.getfield 108, 3) := by decide +kernel
theorem dX12_along_90 : decode cX12_along 90 = .ok (.iload 5, 2) := by decide +kernel
theorem dX12_along_92 : decode cX12_along 92 = .ok (.iaload, 1) := by decide +kernel
theorem dX12_along_93 : decode cX12_along 93 = .ok (.istore 6, 2) := by decide +kernel
theorem dX12_along_95 : decode cX12_along 95 = .ok (.iload_n 2, 1) := by decide +kernel
theorem dX12_along_96 : decode cX12_along 96 = .ok (.iload 5, 2) := by decide +kernel
theorem dX12_along_98 : decode cX12_along 98 = .ok (.ishr, 1) := by decide +kernel
theorem dX12_along_99 : decode cX12_along 99 = .ok (.iconst 1, 1) := by decide +kernel
theorem dX12_along_100 : decode cX12_along 100 = .ok (.iand, 1) := by decide +kernel
theorem dX12_along_101 : decode cX12_along 101 = .ok (.iconst 1, 1) := by decide +kernel
theorem dX12_along_102 : decode cX12_along 102 = .ok (.if_icmp .ne 58, 3) := by decide +kernel
theorem dX12_along_105 : decode cX12_along 105 = .ok (.aload_n 0, 1) := by decide +kernel
theorem dX12_along_106 : decode cX12_along 106 = .ok (.getfield 38, 3) := by decide +kernel
theorem dX12_along_109 : decode cX12_along 109 = .ok (.iload 6, 2) := by decide +kernel
theorem dX12_along_111 : decode cX12_along 111 = .ok (.iaload, 1) := by decide +kernel
theorem dX12_along_112 : decode cX12_along 112 = .ok (.aload_n 0, 1) := by decide +kernel
theorem dX12_along_113 : decode cX12_along 113 = .ok (.getfield 38, 3) := by decide +kernel
theorem dX12_along_116 : decode cX12_along 116 = .ok (.iload 4, 2) := by decide +kernel
theorem dX12_along_118 : decode cX12_along 118 = .ok (.iaload, 1) := by decide +kernel
theorem dX12_along_119 : decode cX12_along 119 = .ok (.invokestatic 399, 3) := by decide +kernel
theorem dX12_along_122 : decode cX12_along 122 = .ok (.iconst 1, 1) := by decide +kernel
theorem dX12_along_123 : decode cX12_along 123 = .ok (.if_icmp .ne 37, 3) := by decide +kernel
theorem dX12_along_126 : decode cX12_along 126 = .ok (.aload_n 0, 1) := by decide +kernel
theorem dX12_along_127 : decode cX12_along 127 = .ok (.getfield 26, 3) := by decide +kernel
theorem dX12_along_130 : decode cX12_along 130 = .ok (.iload 6, 2) := by decide +kernel
theorem dX12_along_132 : decode cX12_along 132 = .ok (.iaload, 1) := by decide +kernel
theorem dX12_along_133 : decode cX12_along 133 = .ok (.aload_n 0, 1) := by decide +kernel
theorem dX12_along_134 : decode cX12_along 134 = .ok (.getfield 26, 3) := by decide +kernel
theorem dX12_along_137 : decode cX12_along 137 = .ok (.iload 4, 2) := by decide +kernel
theorem dX12_along_139 : decode cX12_along 139 = .ok (.iaload, 1) := by decide +kernel
theorem dX12_along_140 : decode cX12_along 140 = .ok (.invokestatic 399, 3) := by decide +kernel
theorem dX12_along_143 : decode cX12_along 143 = .ok (.aload_n 0, 1) := by decide +kernel
theorem dX12_along_144 : decode cX12_along 144 = .ok (.getfield 56, 3) := by decide +kernel
theorem dX12_along_147 : decode cX12_along 147 = .ok (.bipush 9, 2) := by decide +kernel
theorem dX12_along_149 : decode cX12_along 149 = .ok (.iaload, 1) := by decide +kernel
theorem dX12_along_150 : decode cX12_along 150 = .ok (.if_icmp .gt 10, 3) := by decide +kernel
theorem dX12_along_153 : decode cX12_along 153 = .ok (.iload_n 3, 1) := by decide +kernel
theorem dX12_along_154 : decode cX12_along 154 = .ok (.iconst 1, 1) := by decide +kernel
theorem dX12_along_155 : decode cX12_along 155 = .ok (.iload 4, 2) := by decide +kernel
theorem dX12_along_157 : decode cX12_along 157 = .ok (.ishl, 1) := by decide +kernel
theorem dX12_along_158 : decode cX12_along 158 = .ok (.ior, 1) := by decide +kernel
theorem dX12_along_159 : decode cX12_along 159 = .ok (.istore_n 3, 1) := by decide +kernel
theorem dX12_along_160 : decode cX12_along 160 = .ok (.iinc 5 1, 3) := by decide +kernel
theorem dX12_along_163 : decode cX12_along 163 = .ok (.goto (-86), 3) := by decide +kernel
theorem dX12_along_166 : decode cX12_along 166 = .ok (.iinc 4 1, 3) := by decide +kernel
theorem dX12_along_169 : decode cX12_along 169 = .ok (.goto (-140), 3) := by decide +kernel
theorem dX12_along_172 : decode cX12_along 172 = .ok (.iload_n 3, 1) := by decide +kernel
theorem dX12_along_173 : decode cX12_along 173 = .ok (.ireturn, 1) := by decide +kernel
theorem dX12_silence_0 : decode cX12_silence 0 = .ok (.aload_n 0, 1) := by decide +kernel
theorem dX12_silence_1 : decode cX12_silence 1 = .ok (.iconst 0, 1) := by decide +kernel
theorem dX12_silence_2 : decode cX12_silence 2 = .ok (.putfield 157, 3) := by decide +kernel
theorem dX12_silence_5 : decode cX12_silence 5 = .ok (.iload_n 1, 1) := by decide +kernel
theorem dX12_silence_6 : decode cX12_silence 6 = .ok (.invokestatic 355, 3) := by decide +kernel
theorem dX12_silence_9 : decode cX12_silence 9 = .ok (.ifCond .eq 12, 3) := by decide +kernel
theorem dX12_silence_12 : decode cX12_silence 12 = .ok (.iload_n 2, 1) := by decide +kernel
theorem dX12_silence_13 : decode cX12_silence 13 = .ok (.iconst 0, 1) := by decide +kernel
theorem dX12_silence_14 : decode cX12_silence 14 = .ok (.iconst 2, 1) := by decide +kernel
theorem dX12_silence_15 : decode cX12_silence 15 = .ok (.invokestatic 287, 3) := by decide +kernel
theorem dX12_silence_18 : decode cX12_silence 18 = .ok (.ifCond .ne 5, 3) := by decide +kernel
theorem dX12_silence_21 : decode cX12_silence 21 = .ok (.iconst (-1), 1) := by decide +kernel
theorem dX12_silence_22 : decode cX12_silence 22 = .ok (.ireturn, 1) := by decide +kernel
theorem dX12_silence_23 : decode cX12_silence 23 = .ok (.aload_n 0, 1) := by decide +kernel
theorem dX12_silence_24 : decode cX12_silence 24 = .ok (.invokevirtual 377, 3) := by decide +kernel
theorem dX12_silence_27 : decode cX12_silence 27 = .ok (.iload_n 1, 1) := by decide +kernel
theorem dX12_silence_28 : decode cX12_silence 28 = .ok (.istore_n 3, 1) := by decide +kernel
theorem dX12_silence_29 : decode cX12_silence 29 = .ok (.iload_n 3, 1) := by decide +kernel
theorem dX12_silence_30 : decode cX12_silence 30 = .ok (.sipush 200, 3) := by decide +kernel
theorem dX12_silence_33 : decode cX12_silence 33 = .ok (.if_icmp .ge 98, 3) := by decide +kernel
theorem dX12_silence_36 : decode cX12_silence 36 = .ok (.iconst (-1), 1) := by decide +kernel
theorem dX12_silence_37 : decode cX12_silence 37 = .ok (.istore 4, 2) := by decide +kernel
theorem dX12_silence_39 : decode cX12_silence 39 = .ok (.aload_n 0, 1) := by decide +kernel
theorem dX12_silence_40 : decode cX12_silence 40 = .ok (.getfield 343, 3) := by decide +kernel
theorem dX12_silence_43 : decode cX12_silence 43 = .ok (.iconst 1, 1) := by decide +kernel
theorem dX12_silence_44 : decode cX12_silence 44 = .ok (.isub, 1) := by decide +kernel
theorem dX12_silence_45 : decode cX12_silence 45 = .ok (.istore 5, 2) := by decide +kernel
theorem dX12_silence_47 : decode cX12_silence 47 = .ok (.iload 5, 2) := by decide +kernel
theorem dX12_silence_49 : decode cX12_silence 49 = .ok (.ifCond .lt 28, 3) := by decide +kernel
theorem dX12_silence_52 : decode cX12_silence 52 = .ok (.aload_n 0, 1) := by decide +kernel
theorem dX12_silence_53 : decode cX12_silence 53 = .ok (.iload 5, 2) := by decide +kernel
theorem dX12_silence_55 : decode cX12_silence 55 = .ok (.iload_n 3, 1) := by decide +kernel
theorem dX12_silence_56 : decode cX12_silence 56 = .ok (.invokevirtual 364, 3) := by decide +kernel
theorem dX12_silence_59 : decode cX12_silence 59 = .ok (.ifCond .eq 8, 3) := by decide +kernel
theorem dX12_silence_62 : decode cX12_silence 62 = .ok (.iload 5, 2) := by decide +kernel
theorem dX12_silence_64 : decode cX12_silence 64 = .ok (.goto 5, 3) := by decide +kernel
theorem dX12_silence_67 : decode cX12_silence 67 = .ok (.iload 4, 2) := by decide +kernel
theorem dX12_silence_69 : decode cX12_silence 69 = .ok (.istore 4, 2) := by decide +kernel
theorem dX12_silence_71 : decode cX12_silence 71 = .ok (.iinc 5 (-1), 3) := by decide +kernel
theorem dX12_silence_74 : decode cX12_silence 74 = .ok (.goto (-27), 3) := by decide +kernel
theorem dX12_silence_77 : decode cX12_silence 77 = .ok (.iload 4, 2) := by decide +kernel
theorem dX12_silence_79 : decode cX12_silence 79 = .ok (.ifCond .lt 46, 3) := by decide +kernel
theorem dX12_silence_82 : decode cX12_silence 82 = .ok (.aload_n 0, 1) := by decide +kernel
theorem dX12_silence_83 : decode cX12_silence 83 = .ok (.iload_n 3, 1) := by decide +kernel
theorem dX12_silence_84 : decode cX12_silence 84 = .ok (.invokevirtual 396, 3) := by decide +kernel
theorem dX12_silence_87 : decode cX12_silence 87 = .ok (.ifCond .le 6, 3) := by decide +kernel
theorem dX12_silence_90 : decode cX12_silence 90 = .ok (.goto 35, 3) := by decide +kernel
theorem dX12_silence_93 : decode cX12_silence 93 = .ok (.iload_n 2, 1) := by decide +kernel
theorem dX12_silence_94 : decode cX12_silence 94 = .ok (.ifCond .ne 7, 3) := by decide +kernel
theorem dX12_silence_97 : decode cX12_silence 97 = .ok (.iload_n 3, 1) := by decide +kernel
theorem dX12_silence_98 : decode cX12_silence 98 = .ok (.goto 26, 3) := by decide +kernel
theorem dX12_silence_101 : decode cX12_silence 101 = .ok (.iload_n 2, 1) := by decide +kernel
theorem dX12_silence_102 : decode cX12_silence 102 = .ok (.iconst 1, 1) := by decide +kernel
theorem dX12_silence_103 : decode cX12_silence 103 = .ok (.if_icmp .ne 8, 3) := by decide +kernel
theorem dX12_silence_106 : decode cX12_silence 106 = .ok (.iload 4, 2) := by decide +kernel
theorem dX12_silence_108 : decode cX12_silence 108 = .ok (.goto 16, 3) := by decide +kernel
theorem dX12_silence_111 : decode cX12_silence 111 = .ok (.aload_n 0, 1) := by decide +kernel
theorem dX12_silence_112 : decode cX12_silence 112 = .ok (.iload 4, 2) := by decide +kernel
theorem dX12_silence_114 : decode cX12_silence 114 = .ok (.iload_n 3, 1) := by decide +kernel
theorem dX12_silence_115 : decode cX12_silence 115 = .ok (.aload_n 0, 1) := by decide +kernel
theorem dX12_silence_116 : decode cX12_silence 116 = .ok (.getfield 56, 3) := by decide +kernel
theorem dX12_silence_119 : decode cX12_silence 119 = .ok (.iconst 0, 1) := by decide +kernel
theorem dX12_silence_120 : decode cX12_silence 120 = .ok (.iaload, 1) := by decide +kernel
theorem dX12_silence_121 : decode cX12_silence 121 = .ok (.invokevirtual 389, 3) := by decide +kernel
theorem dX12_silence_124 : decode cX12_silence 124 = .ok (.ireturn, 1) := by decide +kernel
theorem dX12_silence_125 : decode cX12_silence 125 = .ok (.iinc 3 1, 3) := by decide +kernel
theorem dX12_silence_128 : decode cX12_silence 128 = .ok (.goto (-99), 3) := by decide +kernel
theorem dX12_silence_131 : decode cX12_silence 131 = .ok (.iconst (-1), 1) := by decide +kernel
theorem dX12_silence_132 : decode cX12_silence 132 = .ok (.ireturn, 1) := by decide +kernel
theorem dX12_allAt_0 : decode cX12_allAt 0 = .ok (.iconst 0, 1) := by decide +kernel
theorem dX12_allAt_1 : decode cX12_allAt 1 = .ok (.istore_n 2, 1) := by decide +kernel
theorem dX12_allAt_2 : decode cX12_allAt 2 = .ok (.iconst 0, 1) := by decide +kernel
theorem dX12_allAt_3 : decode cX12_allAt 3 = .ok (.istore_n 3, 1) := by decide +kernel
theorem dX12_allAt_4 : decode cX12_allAt 4 = .ok (.iload_n 3, 1) := by decide +kernel
theorem dX12_allAt_5 : decode cX12_allAt 5 = .ok (.aload_n 0, 1) := by decide +kernel
theorem dX12_allAt_6 : decode cX12_allAt 6 = .ok (.getfield 343, 3) := by decide +kernel
theorem dX12_allAt_9 : decode cX12_allAt 9 = .ok (.if_icmp .ge 18, 3) := by decide +kernel
theorem dX12_allAt_12 : decode cX12_allAt 12 = .ok (.iload_n 2, 1) := by decide +kernel
theorem dX12_allAt_13 : decode cX12_allAt 13 = .ok (.aload_n 0, 1) := by decide +kernel
theorem dX12_allAt_14 : decode cX12_allAt 14 = .ok (.iload_n 3, 1) := by decide +kernel
theorem dX12_allAt_15 : decode cX12_allAt 15 = .ok (.iload_n 1, 1) := by decide +kernel
theorem dX12_allAt_16 : decode cX12_allAt 16 = .ok (.invokevirtual 393, 3) := by decide +kernel
theorem dX12_allAt_19 : decode cX12_allAt 19 = .ok (.iadd, 1) := by decide +kernel
theorem dX12_allAt_20 : decode cX12_allAt 20 = .ok (.istore_n 2, 1) := by decide +kernel
theorem dX12_allAt_21 : decode cX12_allAt 21 = .ok (.iinc 3 1, 3) := by decide +kernel
theorem dX12_allAt_24 : decode cX12_allAt 24 = .ok (.goto (-20), 3) := by decide +kernel
theorem dX12_allAt_27 : decode cX12_allAt 27 = .ok (.iload_n 2, 1) := by decide +kernel
theorem dX12_allAt_28 : decode cX12_allAt 28 = .ok (.ireturn, 1) := by decide +kernel
theorem dX12_best_0 : decode cX12_best 0 = .ok (.aload_n 0, 1) := by decide +kernel
theorem dX12_best_1 : decode cX12_best 1 = .ok (.iconst 0, 1) := by decide +kernel
theorem dX12_best_2 : decode cX12_best 2 = .ok (.putfield 157, 3) := by decide +kernel
theorem dX12_best_5 : decode cX12_best 5 = .ok (.iload_n 1, 1) := by decide +kernel
theorem dX12_best_6 : decode cX12_best 6 = .ok (.iconst 0, 1) := by decide +kernel
theorem dX12_best_7 : decode cX12_best 7 = .ok (.iconst 1, 1) := by decide +kernel
theorem dX12_best_8 : decode cX12_best 8 = .ok (.invokestatic 287, 3) := by decide +kernel
theorem dX12_best_11 : decode cX12_best 11 = .ok (.ifCond .ne 5, 3) := by decide +kernel
theorem dX12_best_14 : decode cX12_best 14 = .ok (.iconst (-1), 1) := by decide +kernel
theorem dX12_best_15 : decode cX12_best 15 = .ok (.ireturn, 1) := by decide +kernel
theorem dX12_best_16 : decode cX12_best 16 = .ok (.aload_n 0, 1) := by decide +kernel
theorem dX12_best_17 : decode cX12_best 17 = .ok (.invokevirtual 377, 3) := by decide +kernel
theorem dX12_best_20 : decode cX12_best 20 = .ok (.iconst 0, 1) := by decide +kernel
theorem dX12_best_21 : decode cX12_best 21 = .ok (.istore_n 2, 1) := by decide +kernel
theorem dX12_best_22 : decode cX12_best 22 = .ok (.iconst (-1), 1) := by decide +kernel
theorem dX12_best_23 : decode cX12_best 23 = .ok (.istore_n 3, 1) := by decide +kernel
theorem dX12_best_24 : decode cX12_best 24 = .ok (.iconst 1, 1) := by decide +kernel
theorem dX12_best_25 : decode cX12_best 25 = .ok (.istore 4, 2) := by decide +kernel
theorem dX12_best_27 : decode cX12_best 27 = .ok (.iload 4, 2) := by decide +kernel
theorem dX12_best_29 : decode cX12_best 29 = .ok (.bipush 100, 2) := by decide +kernel
theorem dX12_best_31 : decode cX12_best 31 = .ok (.if_icmp .ge 32, 3) := by decide +kernel
theorem dX12_best_34 : decode cX12_best 34 = .ok (.aload_n 0, 1) := by decide +kernel
theorem dX12_best_35 : decode cX12_best 35 = .ok (.iload 4, 2) := by decide +kernel
theorem dX12_best_37 : decode cX12_best 37 = .ok (.invokevirtual 402, 3) := by decide +kernel
theorem dX12_best_40 : decode cX12_best 40 = .ok (.istore 5, 2) := by decide +kernel
theorem dX12_best_42 : decode cX12_best 42 = .ok (.iload 5, 2) := by decide +kernel
theorem dX12_best_44 : decode cX12_best 44 = .ok (.iload_n 3, 1) := by decide +kernel
theorem dX12_best_45 : decode cX12_best 45 = .ok (.if_icmp .gt 6, 3) := by decide +kernel
theorem dX12_best_48 : decode cX12_best 48 = .ok (.goto 9, 3) := by decide +kernel
theorem dX12_best_51 : decode cX12_best 51 = .ok (.iload 5, 2) := by decide +kernel
theorem dX12_best_53 : decode cX12_best 53 = .ok (.istore_n 3, 1) := by decide +kernel
theorem dX12_best_54 : decode cX12_best 54 = .ok (.iload 4, 2) := by decide +kernel
theorem dX12_best_56 : decode cX12_best 56 = .ok (.istore_n 2, 1) := by decide +kernel
theorem dX12_best_57 : decode cX12_best 57 = .ok (.iinc 4 1, 3) := by decide +kernel
theorem dX12_best_60 : decode cX12_best 60 = .ok (.goto (-33), 3) := by decide +kernel
theorem dX12_best_63 : decode cX12_best 63 = .ok (.iload_n 1, 1) := by decide +kernel
theorem dX12_best_64 : decode cX12_best 64 = .ok (.ifCond .ne 7, 3) := by decide +kernel
theorem dX12_best_67 : decode cX12_best 67 = .ok (.iload_n 2, 1) := by decide +kernel
theorem dX12_best_68 : decode cX12_best 68 = .ok (.goto 4, 3) := by decide +kernel
theorem dX12_best_71 : decode cX12_best 71 = .ok (.iload_n 3, 1) := by decide +kernel
theorem dX12_best_72 : decode cX12_best 72 = .ok (.ireturn, 1) := by decide +kernel
theorem dX12_atTreadle_0 : decode cX12_atTreadle 0 = .ok (.aload_n 0, 1) := by decide +kernel
theorem dX12_atTreadle_1 : decode cX12_atTreadle 1 = .ok (.iconst 0, 1) := by decide +kernel
theorem dX12_atTreadle_2 : decode cX12_atTreadle 2 = .ok (.putfield 157, 3) := by decide +kernel
theorem dX12_atTreadle_5 : decode cX12_atTreadle 5 = .ok (.iload_n 1, 1) := by decide +kernel
theorem dX12_atTreadle_6 : decode cX12_atTreadle 6 = .ok (.iconst 1, 1) := by decide +kernel
theorem dX12_atTreadle_7 : decode cX12_atTreadle 7 = .ok (.bipush 99, 2) := by decide +kernel
theorem dX12_atTreadle_9 : decode cX12_atTreadle 9 = .ok (.invokestatic 287, 3) := by decide +kernel
theorem dX12_atTreadle_12 : decode cX12_atTreadle 12 = .ok (.ifCond .ne 5, 3) := by decide +kernel
theorem dX12_atTreadle_15 : decode cX12_atTreadle 15 = .ok (.iconst (-1), 1) := by decide +kernel
theorem dX12_atTreadle_16 : decode cX12_atTreadle 16 = .ok (.ireturn, 1) := by decide +kernel
theorem dX12_atTreadle_17 : decode cX12_atTreadle 17 = .ok (.aload_n 0, 1) := by decide +kernel
theorem dX12_atTreadle_18 : decode cX12_atTreadle 18 = .ok (.invokevirtual 377, 3) := by decide +kernel
theorem dX12_atTreadle_21 : decode cX12_atTreadle 21 = .ok (.aload_n 0, 1) := by decide +kernel
theorem dX12_atTreadle_22 : decode cX12_atTreadle 22 = .ok (.iload_n 1, 1) := by decide +kernel
theorem dX12_atTreadle_23 : decode cX12_atTreadle 23 = .ok (.invokevirtual 402, 3) := by decide +kernel
theorem dX12_atTreadle_26 : decode cX12_atTreadle 26 = .ok (.ireturn, 1) := by decide +kernel
theorem dX12_meet_0 : decode cX12_meet 0 = .ok (.aload_n 0, 1) := by decide +kernel
theorem dX12_meet_1 : decode cX12_meet 1 = .ok (.getfield 111, 3) := by decide +kernel
theorem dX12_meet_4 : decode cX12_meet 4 = .ok (.iload_n 1, 1) := by decide +kernel
theorem dX12_meet_5 : decode cX12_meet 5 = .ok (.iaload, 1) := by decide +kernel
theorem dX12_meet_6 : decode cX12_meet 6 = .ok (.aload_n 0, 1) := by decide +kernel
theorem dX12_meet_7 : decode cX12_meet 7 = .ok (.iload_n 2, 1) := by decide +kernel
theorem dX12_meet_8 : decode cX12_meet 8 = .ok (.invokevirtual 349, 3) := by decide +kernel
theorem dX12_meet_11 : decode cX12_meet 11 = .ok (.if_icmp .ge 21, 3) := by decide +kernel
theorem dX12_meet_14 : decode cX12_meet 14 = .ok (.aload_n 0, 1) := by decide +kernel
theorem dX12_meet_15 : decode cX12_meet 15 = .ok (.getfield 111, 3) := by decide +kernel
theorem dX12_meet_18 : decode cX12_meet 18 = .ok (.iload_n 2, 1) := by decide +kernel
theorem dX12_meet_19 : decode cX12_meet 19 = .ok (.iaload, 1) := by decide +kernel
theorem dX12_meet_20 : decode cX12_meet 20 = .ok (.aload_n 0, 1) := by decide +kernel
theorem dX12_meet_21 : decode cX12_meet 21 = .ok (.iload_n 1, 1) := by decide +kernel
theorem dX12_meet_22 : decode cX12_meet 22 = .ok (.invokevirtual 349, 3) := by decide +kernel
theorem dX12_meet_25 : decode cX12_meet 25 = .ok (.if_icmp .ge 7, 3) := by decide +kernel
theorem dX12_meet_28 : decode cX12_meet 28 = .ok (.iconst 1, 1) := by decide +kernel
theorem dX12_meet_29 : decode cX12_meet 29 = .ok (.goto 4, 3) := by decide +kernel
theorem dX12_meet_32 : decode cX12_meet 32 = .ok (.iconst 0, 1) := by decide +kernel
theorem dX12_meet_33 : decode cX12_meet 33 = .ok (.ireturn, 1) := by decide +kernel
theorem dX12_at_0 : decode cX12_at 0 = .ok (.aload_n 0, 1) := by decide +kernel
theorem dX12_at_1 : decode cX12_at 1 = .ok (.getfield 38, 3) := by decide +kernel
theorem dX12_at_4 : decode cX12_at 4 = .ok (.aload_n 0, 1) := by decide +kernel
theorem dX12_at_5 : decode cX12_at 5 = .ok (.getfield 108, 3) := by decide +kernel
theorem dX12_at_8 : decode cX12_at 8 = .ok (.iload_n 1, 1) := by decide +kernel
theorem dX12_at_9 : decode cX12_at 9 = .ok (.iaload, 1) := by decide +kernel
theorem dX12_at_10 : decode cX12_at 10 = .ok (.iaload, 1) := by decide +kernel
theorem dX12_at_11 : decode cX12_at 11 = .ok (.ireturn, 1) := by decide +kernel
theorem dX12_wrongIs_0 : decode cX12_wrongIs 0 = .ok (.aload_n 0, 1) := by decide +kernel
theorem dX12_wrongIs_1 : decode cX12_wrongIs 1 = .ok (.getfield 120, 3) := by decide +kernel
theorem dX12_wrongIs_4 : decode cX12_wrongIs 4 = .ok (.iload_n 1, 1) := by decide +kernel
theorem dX12_wrongIs_5 : decode cX12_wrongIs 5 = .ok (.iaload, 1) := by decide +kernel
theorem dX12_wrongIs_6 : decode cX12_wrongIs 6 = .ok (.istore_n 2, 1) := by decide +kernel
theorem dX12_wrongIs_7 : decode cX12_wrongIs 7 = .ok (.iload_n 2, 1) := by decide +kernel
theorem dX12_wrongIs_8 : decode cX12_wrongIs 8 = .ok (.ifCond .ge 5, 3) := by decide +kernel
theorem dX12_wrongIs_11 : decode cX12_wrongIs 11 = .ok (.iconst 1, 1) := by decide +kernel
theorem dX12_wrongIs_12 : decode cX12_wrongIs 12 = .ok (.ireturn, 1) := by decide +kernel
theorem dX12_wrongIs_13 : decode cX12_wrongIs 13 = .ok (.bipush 6, 2) := by decide +kernel
theorem dX12_wrongIs_15 : decode cX12_wrongIs 15 = .ok (.istore_n 3, 1) := by decide +kernel
theorem dX12_wrongIs_16 : decode cX12_wrongIs 16 = .ok (.iconst 0, 1) := by decide +kernel
theorem dX12_wrongIs_17 : decode cX12_wrongIs 17 = .ok (.istore 4, 2) := by decide +kernel
theorem dX12_wrongIs_19 : decode cX12_wrongIs 19 = .ok (.iload 4, 2) := by decide +kernel
theorem dX12_wrongIs_21 : decode cX12_wrongIs 21 = .ok (.iload_n 1, 1) := by decide +kernel
theorem dX12_wrongIs_22 : decode cX12_wrongIs 22 = .ok (.if_icmp .ge 143, 3) := by decide +kernel
theorem dX12_wrongIs_25 : decode cX12_wrongIs 25 = .ok (.aload_n 0, 1) := by decide +kernel
theorem dX12_wrongIs_26 : decode cX12_wrongIs 26 = .ok (.getfield 120, 3) := by decide +kernel
theorem dX12_wrongIs_29 : decode cX12_wrongIs 29 = .ok (.iload 4, 2) := by decide +kernel
theorem dX12_wrongIs_31 : decode cX12_wrongIs 31 = .ok (.iaload, 1) := by decide +kernel
theorem dX12_wrongIs_32 : decode cX12_wrongIs 32 = .ok (.istore 5, 2) := by decide +kernel
theorem dX12_wrongIs_34 : decode cX12_wrongIs 34 = .ok (.iload 5, 2) := by decide +kernel
theorem dX12_wrongIs_36 : decode cX12_wrongIs 36 = .ok (.ifCond .lt 123, 3) := by decide +kernel
theorem dX12_wrongIs_39 : decode cX12_wrongIs 39 = .ok (.aload_n 0, 1) := by decide +kernel
theorem dX12_wrongIs_40 : decode cX12_wrongIs 40 = .ok (.iload 4, 2) := by decide +kernel
theorem dX12_wrongIs_42 : decode cX12_wrongIs 42 = .ok (.iload_n 1, 1) := by decide +kernel
theorem dX12_wrongIs_43 : decode cX12_wrongIs 43 = .ok (.invokevirtual 405, 3) := by decide +kernel
theorem dX12_wrongIs_46 : decode cX12_wrongIs 46 = .ok (.ifCond .ne 6, 3) := by decide +kernel
theorem dX12_wrongIs_49 : decode cX12_wrongIs 49 = .ok (.goto 110, 3) := by decide +kernel
theorem dX12_wrongIs_52 : decode cX12_wrongIs 52 = .ok (.iload 5, 2) := by decide +kernel
theorem dX12_wrongIs_54 : decode cX12_wrongIs 54 = .ok (.iload_n 2, 1) := by decide +kernel
theorem dX12_wrongIs_55 : decode cX12_wrongIs 55 = .ok (.if_icmp .ne 9, 3) := by decide +kernel
theorem dX12_wrongIs_58 : decode cX12_wrongIs 58 = .ok (.iload_n 3, 1) := by decide +kernel
theorem dX12_wrongIs_59 : decode cX12_wrongIs 59 = .ok (.iconst 2, 1) := by decide +kernel
theorem dX12_wrongIs_60 : decode cX12_wrongIs 60 = .ok (.invokestatic 408, 3) := by decide +kernel
theorem dX12_wrongIs_63 : decode cX12_wrongIs 63 = .ok (.istore_n 3, 1) := by decide +kernel
theorem dX12_wrongIs_64 : decode cX12_wrongIs 64 = .ok (.iload 5, 2) := by decide +kernel
theorem dX12_wrongIs_66 : decode cX12_wrongIs 66 = .ok (.iload_n 2, 1) := by decide +kernel
theorem dX12_wrongIs_67 : decode cX12_wrongIs 67 = .ok (.if_icmp .ge 17, 3) := by decide +kernel
theorem dX12_wrongIs_70 : decode cX12_wrongIs 70 = .ok (.aload_n 0, 1) := by decide +kernel
theorem dX12_wrongIs_71 : decode cX12_wrongIs 71 = .ok (.iload 4, 2) := by decide +kernel
theorem dX12_wrongIs_73 : decode cX12_wrongIs 73 = .ok (.invokevirtual 411, 3) := by decide +kernel
theorem dX12_wrongIs_76 : decode cX12_wrongIs 76 = .ok (.aload_n 0, 1) := by decide +kernel
theorem dX12_wrongIs_77 : decode cX12_wrongIs 77 = .ok (.iload_n 1, 1) := by decide +kernel
theorem dX12_wrongIs_78 : decode cX12_wrongIs 78 = .ok (.invokevirtual 411, 3) := by decide +kernel
theorem dX12_wrongIs_81 : decode cX12_wrongIs 81 = .ok (.if_icmp .ge 23, 3) := by decide +kernel
theorem dX12_wrongIs_84 : decode cX12_wrongIs 84 = .ok (.iload 5, 2) := by decide +kernel
theorem dX12_wrongIs_86 : decode cX12_wrongIs 86 = .ok (.iload_n 2, 1) := by decide +kernel
theorem dX12_wrongIs_87 : decode cX12_wrongIs 87 = .ok (.if_icmp .le 23, 3) := by decide +kernel
theorem dX12_wrongIs_90 : decode cX12_wrongIs 90 = .ok (.aload_n 0, 1) := by decide +kernel
theorem dX12_wrongIs_91 : decode cX12_wrongIs 91 = .ok (.iload 4, 2) := by decide +kernel
theorem dX12_wrongIs_93 : decode cX12_wrongIs 93 = .ok (.invokevirtual 411, 3) := by decide +kernel
theorem dX12_wrongIs_96 : decode cX12_wrongIs 96 = .ok (.aload_n 0, 1) := by decide +kernel
theorem dX12_wrongIs_97 : decode cX12_wrongIs 97 = .ok (.iload_n 1, 1) := by decide +kernel
theorem dX12_wrongIs_98 : decode cX12_wrongIs 98 = .ok (.invokevirtual 411, 3) := by decide +kernel
theorem dX12_wrongIs_101 : decode cX12_wrongIs 101 = .ok (.if_icmp .gt 9, 3) := by decide +kernel
theorem dX12_wrongIs_104 : decode cX12_wrongIs 104 = .ok (.iload_n 3, 1) := by decide +kernel
theorem dX12_wrongIs_105 : decode cX12_wrongIs 105 = .ok (.iconst 3, 1) := by decide +kernel
theorem dX12_wrongIs_106 : decode cX12_wrongIs 106 = .ok (.invokestatic 408, 3) := by decide +kernel
theorem dX12_wrongIs_109 : decode cX12_wrongIs 109 = .ok (.istore_n 3, 1) := by decide +kernel
theorem dX12_wrongIs_110 : decode cX12_wrongIs 110 = .ok (.iload 5, 2) := by decide +kernel
theorem dX12_wrongIs_112 : decode cX12_wrongIs 112 = .ok (.aload_n 0, 1) := by decide +kernel
theorem dX12_wrongIs_113 : decode cX12_wrongIs 113 = .ok (.getfield 56, 3) := by decide +kernel
theorem dX12_wrongIs_116 : decode cX12_wrongIs 116 = .ok (.iconst 1, 1) := by decide +kernel
theorem dX12_wrongIs_117 : decode cX12_wrongIs 117 = .ok (.iaload, 1) := by decide +kernel
theorem dX12_wrongIs_118 : decode cX12_wrongIs 118 = .ok (.idiv, 1) := by decide +kernel
theorem dX12_wrongIs_119 : decode cX12_wrongIs 119 = .ok (.iload_n 2, 1) := by decide +kernel
theorem dX12_wrongIs_120 : decode cX12_wrongIs 120 = .ok (.aload_n 0, 1) := by decide +kernel
theorem dX12_wrongIs_121 : decode cX12_wrongIs 121 = .ok (.getfield 56, 3) := by decide +kernel
theorem dX12_wrongIs_124 : decode cX12_wrongIs 124 = .ok (.iconst 1, 1) := by decide +kernel
theorem dX12_wrongIs_125 : decode cX12_wrongIs 125 = .ok (.iaload, 1) := by decide +kernel
theorem dX12_wrongIs_126 : decode cX12_wrongIs 126 = .ok (.idiv, 1) := by decide +kernel
theorem dX12_wrongIs_127 : decode cX12_wrongIs 127 = .ok (.if_icmp .ne 32, 3) := by decide +kernel
theorem dX12_wrongIs_130 : decode cX12_wrongIs 130 = .ok (.aload_n 0, 1) := by decide +kernel
theorem dX12_wrongIs_131 : decode cX12_wrongIs 131 = .ok (.iload 4, 2) := by decide +kernel
theorem dX12_wrongIs_133 : decode cX12_wrongIs 133 = .ok (.invokevirtual 411, 3) := by decide +kernel
theorem dX12_wrongIs_136 : decode cX12_wrongIs 136 = .ok (.aload_n 0, 1) := by decide +kernel
theorem dX12_wrongIs_137 : decode cX12_wrongIs 137 = .ok (.iload_n 1, 1) := by decide +kernel
theorem dX12_wrongIs_138 : decode cX12_wrongIs 138 = .ok (.invokevirtual 411, 3) := by decide +kernel
theorem dX12_wrongIs_141 : decode cX12_wrongIs 141 = .ok (.invokestatic 399, 3) := by decide +kernel
theorem dX12_wrongIs_144 : decode cX12_wrongIs 144 = .ok (.aload_n 0, 1) := by decide +kernel
theorem dX12_wrongIs_145 : decode cX12_wrongIs 145 = .ok (.getfield 56, 3) := by decide +kernel
theorem dX12_wrongIs_148 : decode cX12_wrongIs 148 = .ok (.iconst 2, 1) := by decide +kernel
theorem dX12_wrongIs_149 : decode cX12_wrongIs 149 = .ok (.iaload, 1) := by decide +kernel
theorem dX12_wrongIs_150 : decode cX12_wrongIs 150 = .ok (.if_icmp .le 9, 3) := by decide +kernel
theorem dX12_wrongIs_153 : decode cX12_wrongIs 153 = .ok (.iload_n 3, 1) := by decide +kernel
theorem dX12_wrongIs_154 : decode cX12_wrongIs 154 = .ok (.iconst 4, 1) := by decide +kernel
theorem dX12_wrongIs_155 : decode cX12_wrongIs 155 = .ok (.invokestatic 408, 3) := by decide +kernel
theorem dX12_wrongIs_158 : decode cX12_wrongIs 158 = .ok (.istore_n 3, 1) := by decide +kernel
theorem dX12_wrongIs_159 : decode cX12_wrongIs 159 = .ok (.iinc 4 1, 3) := by decide +kernel
theorem dX12_wrongIs_162 : decode cX12_wrongIs 162 = .ok (.goto (-143), 3) := by decide +kernel
theorem dX12_wrongIs_165 : decode cX12_wrongIs 165 = .ok (.iload_n 3, 1) := by decide +kernel
theorem dX12_wrongIs_166 : decode cX12_wrongIs 166 = .ok (.bipush 6, 2) := by decide +kernel
theorem dX12_wrongIs_168 : decode cX12_wrongIs 168 = .ok (.if_icmp .ge 5, 3) := by decide +kernel
theorem dX12_wrongIs_171 : decode cX12_wrongIs 171 = .ok (.iload_n 3, 1) := by decide +kernel
theorem dX12_wrongIs_172 : decode cX12_wrongIs 172 = .ok (.ireturn, 1) := by decide +kernel
theorem dX12_wrongIs_173 : decode cX12_wrongIs 173 = .ok (.aload_n 0, 1) := by decide +kernel
theorem dX12_wrongIs_174 : decode cX12_wrongIs 174 = .ok (.iload_n 1, 1) := by decide +kernel
theorem dX12_wrongIs_175 : decode cX12_wrongIs 175 = .ok (.aload_n 0, 1) := by decide +kernel
theorem dX12_wrongIs_176 : decode cX12_wrongIs 176 = .ok (.iload_n 1, 1) := by decide +kernel
theorem dX12_wrongIs_177 : decode cX12_wrongIs 177 = .ok (.invokevirtual 349, 3) := by decide +kernel
theorem dX12_wrongIs_180 : decode cX12_wrongIs 180 = .ok (.iconst 1, 1) := by decide +kernel
theorem dX12_wrongIs_181 : decode cX12_wrongIs 181 = .ok (.isub, 1) := by decide +kernel
theorem dX12_wrongIs_182 : decode cX12_wrongIs 182 = .ok (.invokevirtual 383, 3) := by decide +kernel
theorem dX12_wrongIs_185 : decode cX12_wrongIs 185 = .ok (.ifCond .eq 7, 3) := by decide +kernel
theorem dX12_wrongIs_188 : decode cX12_wrongIs 188 = .ok (.iconst 5, 1) := by decide +kernel
theorem dX12_wrongIs_189 : decode cX12_wrongIs 189 = .ok (.goto 4, 3) := by decide +kernel
theorem dX12_wrongIs_192 : decode cX12_wrongIs 192 = .ok (.iconst 0, 1) := by decide +kernel
theorem dX12_wrongIs_193 : decode cX12_wrongIs 193 = .ok (.ireturn, 1) := by decide +kernel
theorem dX12_wrong_0 : decode cX12_wrong 0 = .ok (.aload_n 0, 1) := by decide +kernel
theorem dX12_wrong_1 : decode cX12_wrong 1 = .ok (.iconst 0, 1) := by decide +kernel
theorem dX12_wrong_2 : decode cX12_wrong 2 = .ok (.putfield 157, 3) := by decide +kernel
theorem dX12_wrong_5 : decode cX12_wrong 5 = .ok (.aload_n 0, 1) := by decide +kernel
theorem dX12_wrong_6 : decode cX12_wrong 6 = .ok (.iload_n 1, 1) := by decide +kernel
theorem dX12_wrong_7 : decode cX12_wrong 7 = .ok (.invokevirtual 361, 3) := by decide +kernel
theorem dX12_wrong_10 : decode cX12_wrong 10 = .ok (.ifCond .eq 11, 3) := by decide +kernel
theorem dX12_wrong_13 : decode cX12_wrong 13 = .ok (.aload_n 0, 1) := by decide +kernel
theorem dX12_wrong_14 : decode cX12_wrong 14 = .ok (.iload_n 1, 1) := by decide +kernel
theorem dX12_wrong_15 : decode cX12_wrong 15 = .ok (.invokevirtual 414, 3) := by decide +kernel
theorem dX12_wrong_18 : decode cX12_wrong 18 = .ok (.goto 4, 3) := by decide +kernel
theorem dX12_wrong_21 : decode cX12_wrong 21 = .ok (.iconst (-1), 1) := by decide +kernel
theorem dX12_wrong_22 : decode cX12_wrong 22 = .ok (.ireturn, 1) := by decide +kernel
theorem dX12_judged_0 : decode cX12_judged 0 = .ok (.aload_n 0, 1) := by decide +kernel
theorem dX12_judged_1 : decode cX12_judged 1 = .ok (.iconst 0, 1) := by decide +kernel
theorem dX12_judged_2 : decode cX12_judged 2 = .ok (.putfield 157, 3) := by decide +kernel
theorem dX12_judged_5 : decode cX12_judged 5 = .ok (.iconst 0, 1) := by decide +kernel
theorem dX12_judged_6 : decode cX12_judged 6 = .ok (.istore_n 1, 1) := by decide +kernel
theorem dX12_judged_7 : decode cX12_judged 7 = .ok (.iload_n 1, 1) := by decide +kernel
theorem dX12_judged_8 : decode cX12_judged 8 = .ok (.aload_n 0, 1) := by decide +kernel
theorem dX12_judged_9 : decode cX12_judged 9 = .ok (.getfield 343, 3) := by decide +kernel
theorem dX12_judged_12 : decode cX12_judged 12 = .ok (.if_icmp .ge 19, 3) := by decide +kernel
theorem dX12_judged_15 : decode cX12_judged 15 = .ok (.aload_n 0, 1) := by decide +kernel
theorem dX12_judged_16 : decode cX12_judged 16 = .ok (.iload_n 1, 1) := by decide +kernel
theorem dX12_judged_17 : decode cX12_judged 17 = .ok (.invokevirtual 414, 3) := by decide +kernel
theorem dX12_judged_20 : decode cX12_judged 20 = .ok (.ifCond .le 5, 3) := by decide +kernel
theorem dX12_judged_23 : decode cX12_judged 23 = .ok (.iload_n 1, 1) := by decide +kernel
theorem dX12_judged_24 : decode cX12_judged 24 = .ok (.ireturn, 1) := by decide +kernel
theorem dX12_judged_25 : decode cX12_judged 25 = .ok (.iinc 1 1, 3) := by decide +kernel
theorem dX12_judged_28 : decode cX12_judged 28 = .ok (.goto (-21), 3) := by decide +kernel
theorem dX12_judged_31 : decode cX12_judged 31 = .ok (.iconst (-1), 1) := by decide +kernel
theorem dX12_judged_32 : decode cX12_judged 32 = .ok (.ireturn, 1) := by decide +kernel
theorem dX12_stays_0 : decode cX12_stays 0 = .ok (.iload_n 1, 1) := by decide +kernel
theorem dX12_stays_1 : decode cX12_stays 1 = .ok (.iconst 1, 1) := by decide +kernel
theorem dX12_stays_2 : decode cX12_stays 2 = .ok (.isub, 1) := by decide +kernel
theorem dX12_stays_3 : decode cX12_stays 3 = .ok (.istore_n 2, 1) := by decide +kernel
theorem dX12_stays_4 : decode cX12_stays 4 = .ok (.iload_n 2, 1) := by decide +kernel
theorem dX12_stays_5 : decode cX12_stays 5 = .ok (.ifCond .lt 24, 3) := by decide +kernel
theorem dX12_stays_8 : decode cX12_stays 8 = .ok (.aload_n 0, 1) := by decide +kernel
theorem dX12_stays_9 : decode cX12_stays 9 = .ok (.getfield 120, 3) := by decide +kernel
theorem dX12_stays_12 : decode cX12_stays 12 = .ok (.iload_n 2, 1) := by decide +kernel
theorem dX12_stays_13 : decode cX12_stays 13 = .ok (.iaload, 1) := by decide +kernel
theorem dX12_stays_14 : decode cX12_stays 14 = .ok (.aload_n 0, 1) := by decide +kernel
theorem dX12_stays_15 : decode cX12_stays 15 = .ok (.getfield 120, 3) := by decide +kernel
theorem dX12_stays_18 : decode cX12_stays 18 = .ok (.iload_n 1, 1) := by decide +kernel
theorem dX12_stays_19 : decode cX12_stays 19 = .ok (.iaload, 1) := by decide +kernel
theorem dX12_stays_20 : decode cX12_stays 20 = .ok (.if_icmp .eq 9, 3) := by decide +kernel
theorem dX12_stays_23 : decode cX12_stays 23 = .ok (.iinc 2 (-1), 3) := by decide +kernel
theorem dX12_stays_26 : decode cX12_stays 26 = .ok (.goto (-22), 3) := by decide +kernel
theorem dX12_stays_29 : decode cX12_stays 29 = .ok (.aload_n 0, 1) := by decide +kernel
theorem dX12_stays_30 : decode cX12_stays 30 = .ok (.getfield 120, 3) := by decide +kernel
theorem dX12_stays_33 : decode cX12_stays 33 = .ok (.iload_n 1, 1) := by decide +kernel
theorem dX12_stays_34 : decode cX12_stays 34 = .ok (.iaload, 1) := by decide +kernel
theorem dX12_stays_35 : decode cX12_stays 35 = .ok (.ifCond .lt 40, 3) := by decide +kernel
theorem dX12_stays_38 : decode cX12_stays 38 = .ok (.iload_n 2, 1) := by decide +kernel
theorem dX12_stays_39 : decode cX12_stays 39 = .ok (.ifCond .lt 36, 3) := by decide +kernel
theorem dX12_stays_42 : decode cX12_stays 42 = .ok (.aload_n 0, 1) := by decide +kernel
theorem dX12_stays_43 : decode cX12_stays 43 = .ok (.getfield 108, 3) := by decide +kernel
theorem dX12_stays_46 : decode cX12_stays 46 = .ok (.iload_n 2, 1) := by decide +kernel
theorem dX12_stays_47 : decode cX12_stays 47 = .ok (.iaload, 1) := by decide +kernel
theorem dX12_stays_48 : decode cX12_stays 48 = .ok (.aload_n 0, 1) := by decide +kernel
theorem dX12_stays_49 : decode cX12_stays 49 = .ok (.getfield 108, 3) := by decide +kernel
theorem dX12_stays_52 : decode cX12_stays 52 = .ok (.iload_n 1, 1) := by decide +kernel
theorem dX12_stays_53 : decode cX12_stays 53 = .ok (.iaload, 1) := by decide +kernel
theorem dX12_stays_54 : decode cX12_stays 54 = .ok (.if_icmp .ne 21, 3) := by decide +kernel
theorem dX12_stays_57 : decode cX12_stays 57 = .ok (.aload_n 0, 1) := by decide +kernel
theorem dX12_stays_58 : decode cX12_stays 58 = .ok (.iload_n 2, 1) := by decide +kernel
theorem dX12_stays_59 : decode cX12_stays 59 = .ok (.invokevirtual 349, 3) := by decide +kernel
theorem dX12_stays_62 : decode cX12_stays 62 = .ok (.aload_n 0, 1) := by decide +kernel
theorem dX12_stays_63 : decode cX12_stays 63 = .ok (.getfield 111, 3) := by decide +kernel
theorem dX12_stays_66 : decode cX12_stays 66 = .ok (.iload_n 1, 1) := by decide +kernel
theorem dX12_stays_67 : decode cX12_stays 67 = .ok (.iaload, 1) := by decide +kernel
theorem dX12_stays_68 : decode cX12_stays 68 = .ok (.if_icmp .ne 7, 3) := by decide +kernel
theorem dX12_stays_71 : decode cX12_stays 71 = .ok (.iconst 1, 1) := by decide +kernel
theorem dX12_stays_72 : decode cX12_stays 72 = .ok (.goto 4, 3) := by decide +kernel
theorem dX12_stays_75 : decode cX12_stays 75 = .ok (.iconst 0, 1) := by decide +kernel
theorem dX12_stays_76 : decode cX12_stays 76 = .ok (.ireturn, 1) := by decide +kernel
theorem dX12_lifts_0 : decode cX12_lifts 0 = .ok (.aload_n 0, 1) := by decide +kernel
theorem dX12_lifts_1 : decode cX12_lifts 1 = .ok (.iconst 0, 1) := by decide +kernel
theorem dX12_lifts_2 : decode cX12_lifts 2 = .ok (.putfield 157, 3) := by decide +kernel
theorem dX12_lifts_5 : decode cX12_lifts 5 = .ok (.iconst 0, 1) := by decide +kernel
theorem dX12_lifts_6 : decode cX12_lifts 6 = .ok (.istore_n 1, 1) := by decide +kernel
theorem dX12_lifts_7 : decode cX12_lifts 7 = .ok (.iconst 0, 1) := by decide +kernel
theorem dX12_lifts_8 : decode cX12_lifts 8 = .ok (.istore_n 2, 1) := by decide +kernel
theorem dX12_lifts_9 : decode cX12_lifts 9 = .ok (.iload_n 2, 1) := by decide +kernel
theorem dX12_lifts_10 : decode cX12_lifts 10 = .ok (.aload_n 0, 1) := by decide +kernel
theorem dX12_lifts_11 : decode cX12_lifts 11 = .ok (.getfield 343, 3) := by decide +kernel
theorem dX12_lifts_14 : decode cX12_lifts 14 = .ok (.if_icmp .ge 25, 3) := by decide +kernel
theorem dX12_lifts_17 : decode cX12_lifts 17 = .ok (.iload_n 1, 1) := by decide +kernel
theorem dX12_lifts_18 : decode cX12_lifts 18 = .ok (.aload_n 0, 1) := by decide +kernel
theorem dX12_lifts_19 : decode cX12_lifts 19 = .ok (.iload_n 2, 1) := by decide +kernel
theorem dX12_lifts_20 : decode cX12_lifts 20 = .ok (.invokevirtual 417, 3) := by decide +kernel
theorem dX12_lifts_23 : decode cX12_lifts 23 = .ok (.ifCond .eq 7, 3) := by decide +kernel
theorem dX12_lifts_26 : decode cX12_lifts 26 = .ok (.iconst 0, 1) := by decide +kernel
theorem dX12_lifts_27 : decode cX12_lifts 27 = .ok (.goto 4, 3) := by decide +kernel
theorem dX12_lifts_30 : decode cX12_lifts 30 = .ok (.iconst 1, 1) := by decide +kernel
theorem dX12_lifts_31 : decode cX12_lifts 31 = .ok (.iadd, 1) := by decide +kernel
theorem dX12_lifts_32 : decode cX12_lifts 32 = .ok (.istore_n 1, 1) := by decide +kernel
theorem dX12_lifts_33 : decode cX12_lifts 33 = .ok (.iinc 2 1, 3) := by decide +kernel
theorem dX12_lifts_36 : decode cX12_lifts 36 = .ok (.goto (-27), 3) := by decide +kernel
theorem dX12_lifts_39 : decode cX12_lifts 39 = .ok (.iload_n 1, 1) := by decide +kernel
theorem dX12_lifts_40 : decode cX12_lifts 40 = .ok (.ireturn, 1) := by decide +kernel
theorem dX12_tries_0 : decode cX12_tries 0 = .ok (.aload_n 0, 1) := by decide +kernel
theorem dX12_tries_1 : decode cX12_tries 1 = .ok (.aload_n 0, 1) := by decide +kernel
theorem dX12_tries_2 : decode cX12_tries 2 = .ok (.getfield 420, 3) := by decide +kernel
theorem dX12_tries_5 : decode cX12_tries 5 = .ok (.iload_n 1, 1) := by decide +kernel
theorem dX12_tries_6 : decode cX12_tries 6 = .ok (.invokestatic 372, 3) := by decide +kernel
theorem dX12_tries_9 : decode cX12_tries 9 = .ok (.putfield 420, 3) := by decide +kernel
theorem dX12_tries_12 : decode cX12_tries 12 = .ok (.iload_n 2, 1) := by decide +kernel
theorem dX12_tries_13 : decode cX12_tries 13 = .ok (.aload_n 0, 1) := by decide +kernel
theorem dX12_tries_14 : decode cX12_tries 14 = .ok (.getfield 423, 3) := by decide +kernel
theorem dX12_tries_17 : decode cX12_tries 17 = .ok (.if_icmp .lt 4, 3) := by decide +kernel
theorem dX12_tries_20 : decode cX12_tries 20 = .ok (.return_, 1) := by decide +kernel
theorem dX12_tries_21 : decode cX12_tries 21 = .ok (.iload_n 1, 1) := by decide +kernel
theorem dX12_tries_22 : decode cX12_tries 22 = .ok (.aload_n 0, 1) := by decide +kernel
theorem dX12_tries_23 : decode cX12_tries 23 = .ok (.getfield 343, 3) := by decide +kernel
theorem dX12_tries_26 : decode cX12_tries 26 = .ok (.if_icmp .ne 35, 3) := by decide +kernel
theorem dX12_tries_29 : decode cX12_tries 29 = .ok (.aload_n 0, 1) := by decide +kernel
theorem dX12_tries_30 : decode cX12_tries 30 = .ok (.iload_n 2, 1) := by decide +kernel
theorem dX12_tries_31 : decode cX12_tries 31 = .ok (.putfield 423, 3) := by decide +kernel
theorem dX12_tries_34 : decode cX12_tries 34 = .ok (.iconst 0, 1) := by decide +kernel
theorem dX12_tries_35 : decode cX12_tries 35 = .ok (.istore_n 3, 1) := by decide +kernel
theorem dX12_tries_36 : decode cX12_tries 36 = .ok (.iload_n 3, 1) := by decide +kernel
theorem dX12_tries_37 : decode cX12_tries 37 = .ok (.bipush 24, 2) := by decide +kernel
theorem dX12_tries_39 : decode cX12_tries 39 = .ok (.if_icmp .ge 21, 3) := by decide +kernel
theorem dX12_tries_42 : decode cX12_tries 42 = .ok (.aload_n 0, 1) := by decide +kernel
theorem dX12_tries_43 : decode cX12_tries 43 = .ok (.getfield 132, 3) := by decide +kernel
theorem dX12_tries_46 : decode cX12_tries 46 = .ok (.iload_n 3, 1) := by decide +kernel
theorem dX12_tries_47 : decode cX12_tries 47 = .ok (.aload_n 0, 1) := by decide +kernel
theorem dX12_tries_48 : decode cX12_tries 48 = .ok (.getfield 120, 3) := by decide +kernel
theorem dX12_tries_51 : decode cX12_tries 51 = .ok (.iload_n 3, 1) := by decide +kernel
theorem dX12_tries_52 : decode cX12_tries 52 = .ok (.iaload, 1) := by decide +kernel
theorem dX12_tries_53 : decode cX12_tries 53 = .ok (.iastore, 1) := by decide +kernel
theorem dX12_tries_54 : decode cX12_tries 54 = .ok (.iinc 3 1, 3) := by decide +kernel
theorem dX12_tries_57 : decode cX12_tries 57 = .ok (.goto (-21), 3) := by decide +kernel
theorem dX12_tries_60 : decode cX12_tries 60 = .ok (.return_, 1) := by decide +kernel
theorem dX12_tries_61 : decode cX12_tries 61 = .ok (.iconst 0, 1) := by decide +kernel
theorem dX12_tries_62 : decode cX12_tries 62 = .ok (.istore_n 3, 1) := by decide +kernel
theorem dX12_tries_63 : decode cX12_tries 63 = .ok (.iload_n 3, 1) := by decide +kernel
theorem dX12_tries_64 : decode cX12_tries 64 = .ok (.iconst 2, 1) := by decide +kernel
theorem dX12_tries_65 : decode cX12_tries 65 = .ok (.aload_n 0, 1) := by decide +kernel
