theorem dX9_mean_53 : decode cX9_mean 53 = .ok (.dconst 0, 1) := by decide +kernel
theorem dX9_mean_54 : decode cX9_mean 54 = .ok (.goto 11, 3) := by decide +kernel
theorem dX9_mean_57 : decode cX9_mean 57 = .ok (.iload_n 2, 1) := by decide +kernel
theorem dX9_mean_58 : decode cX9_mean 58 = .ok (.i2d, 1) := by decide +kernel
theorem dX9_mean_59 : decode cX9_mean 59 = .ok (.aload_n 0, 1) := by decide +kernel
theorem dX9_mean_60 : decode cX9_mean 60 = .ok (.getfield 124, 3) := by decide +kernel
theorem dX9_mean_63 : decode cX9_mean 63 = .ok (.i2d, 1) := by decide +kernel
theorem dX9_mean_64 : decode cX9_mean 64 = .ok (.ddiv, 1) := by decide +kernel
theorem dX9_mean_65 : decode cX9_mean 65 = .ok (.invokestatic 265, 3) := by decide +kernel
theorem dX9_mean_68 : decode cX9_mean 68 = .ok (.lreturn, 1) := by decide +kernel
theorem dX9_keeps_0 : decode cX9_keeps 0 = .ok (.iconst 0, 1) := by decide +kernel
theorem dX9_keeps_1 : decode cX9_keeps 1 = .ok (.istore_n 2, 1) := by decide +kernel
theorem dX9_keeps_2 : decode cX9_keeps 2 = .ok (.iload_n 2, 1) := by decide +kernel
theorem dX9_keeps_3 : decode cX9_keeps 3 = .ok (.aload_n 0, 1) := by decide +kernel
theorem dX9_keeps_4 : decode cX9_keeps 4 = .ok (.getfield 124, 3) := by decide +kernel
theorem dX9_keeps_7 : decode cX9_keeps 7 = .ok (.if_icmp .ge 66, 3) := by decide +kernel
theorem dX9_keeps_10 : decode cX9_keeps 10 = .ok (.aload_n 0, 1) := by decide +kernel
theorem dX9_keeps_11 : decode cX9_keeps 11 = .ok (.iload_n 2, 1) := by decide +kernel
theorem dX9_keeps_12 : decode cX9_keeps 12 = .ok (.invokevirtual 167, 3) := by decide +kernel
theorem dX9_keeps_15 : decode cX9_keeps 15 = .ok (.istore_n 3, 1) := by decide +kernel
theorem dX9_keeps_16 : decode cX9_keeps 16 = .ok (.iconst 0, 1) := by decide +kernel
theorem dX9_keeps_17 : decode cX9_keeps 17 = .ok (.istore 4, 2) := by decide +kernel
theorem dX9_keeps_19 : decode cX9_keeps 19 = .ok (.iload 4, 2) := by decide +kernel
theorem dX9_keeps_21 : decode cX9_keeps 21 = .ok (.bipush 16, 2) := by decide +kernel
theorem dX9_keeps_23 : decode cX9_keeps 23 = .ok (.if_icmp .ge 44, 3) := by decide +kernel
theorem dX9_keeps_26 : decode cX9_keeps 26 = .ok (.aload_n 1, 1) := by decide +kernel
theorem dX9_keeps_27 : decode cX9_keeps 27 = .ok (.bipush 16, 2) := by decide +kernel
theorem dX9_keeps_29 : decode cX9_keeps 29 = .ok (.iload_n 2, 1) := by decide +kernel
theorem dX9_keeps_30 : decode cX9_keeps 30 = .ok (.imul, 1) := by decide +kernel
theorem dX9_keeps_31 : decode cX9_keeps 31 = .ok (.iload 4, 2) := by decide +kernel
theorem dX9_keeps_33 : decode cX9_keeps 33 = .ok (.iadd, 1) := by decide +kernel
theorem dX9_keeps_34 : decode cX9_keeps 34 = .ok (.iload 4, 2) := by decide +kernel
theorem dX9_keeps_36 : decode cX9_keeps 36 = .ok (.aload_n 0, 1) := by decide +kernel
theorem dX9_keeps_37 : decode cX9_keeps 37 = .ok (.getfield 18, 3) := by decide +kernel
theorem dX9_keeps_40 : decode cX9_keeps 40 = .ok (.if_icmp .ge 19, 3) := by decide +kernel
theorem dX9_keeps_43 : decode cX9_keeps 43 = .ok (.aload_n 0, 1) := by decide +kernel
theorem dX9_keeps_44 : decode cX9_keeps 44 = .ok (.getfield 60, 3) := by decide +kernel
theorem dX9_keeps_47 : decode cX9_keeps 47 = .ok (.sipush 256, 3) := by decide +kernel
theorem dX9_keeps_50 : decode cX9_keeps 50 = .ok (.iload_n 3, 1) := by decide +kernel
theorem dX9_keeps_51 : decode cX9_keeps 51 = .ok (.imul, 1) := by decide +kernel
theorem dX9_keeps_52 : decode cX9_keeps 52 = .ok (.iload 4, 2) := by decide +kernel
theorem dX9_keeps_54 : decode cX9_keeps 54 = .ok (.iadd, 1) := by decide +kernel
theorem dX9_keeps_55 : decode cX9_keeps 55 = .ok (.iaload, 1) := by decide +kernel
theorem dX9_keeps_56 : decode cX9_keeps 56 = .ok (.goto 4, 3) := by decide +kernel
theorem dX9_keeps_59 : decode cX9_keeps 59 = .ok (.iconst 0, 1) := by decide +kernel
theorem dX9_keeps_60 : decode cX9_keeps 60 = .ok (.iastore, 1) := by decide +kernel
theorem dX9_keeps_61 : decode cX9_keeps 61 = .ok (.iinc 4 1, 3) := by decide +kernel
theorem dX9_keeps_64 : decode cX9_keeps 64 = .ok (.goto (-45), 3) := by decide +kernel
theorem dX9_keeps_67 : decode cX9_keeps 67 = .ok (.iinc 2 1, 3) := by decide +kernel
theorem dX9_keeps_70 : decode cX9_keeps 70 = .ok (.goto (-68), 3) := by decide +kernel
theorem dX9_keeps_73 : decode cX9_keeps 73 = .ok (.aload_n 0, 1) := by decide +kernel
theorem dX9_keeps_74 : decode cX9_keeps 74 = .ok (.getfield 124, 3) := by decide +kernel
theorem dX9_keeps_77 : decode cX9_keeps 77 = .ok (.ireturn, 1) := by decide +kernel
theorem dX9_thins_0 : decode cX9_thins 0 = .ok (.aload_n 0, 1) := by decide +kernel
theorem dX9_thins_1 : decode cX9_thins 1 = .ok (.iconst 2, 1) := by decide +kernel
theorem dX9_thins_2 : decode cX9_thins 2 = .ok (.aload_n 0, 1) := by decide +kernel
theorem dX9_thins_3 : decode cX9_thins 3 = .ok (.getfield 18, 3) := by decide +kernel
theorem dX9_thins_6 : decode cX9_thins 6 = .ok (.imul, 1) := by decide +kernel
theorem dX9_thins_7 : decode cX9_thins 7 = .ok (.invokevirtual 130, 3) := by decide +kernel
theorem dX9_thins_10 : decode cX9_thins 10 = .ok (.iconst 0, 1) := by decide +kernel
theorem dX9_thins_11 : decode cX9_thins 11 = .ok (.istore 4, 2) := by decide +kernel
theorem dX9_thins_13 : decode cX9_thins 13 = .ok (.iconst 0, 1) := by decide +kernel
theorem dX9_thins_14 : decode cX9_thins 14 = .ok (.istore 5, 2) := by decide +kernel
theorem dX9_thins_16 : decode cX9_thins 16 = .ok (.iload 5, 2) := by decide +kernel
theorem dX9_thins_18 : decode cX9_thins 18 = .ok (.aload_n 0, 1) := by decide +kernel
theorem dX9_thins_19 : decode cX9_thins 19 = .ok (.getfield 271, 3) := by decide +kernel
theorem dX9_thins_22 : decode cX9_thins 22 = .ok (.if_icmp .ge 108, 3) := by decide +kernel
theorem dX9_thins_25 : decode cX9_thins 25 = .ok (.iload_n 3, 1) := by decide +kernel
theorem dX9_thins_26 : decode cX9_thins 26 = .ok (.ifCond .ne 21, 3) := by decide +kernel
theorem dX9_thins_29 : decode cX9_thins 29 = .ok (.aload_n 0, 1) := by decide +kernel
theorem dX9_thins_30 : decode cX9_thins 30 = .ok (.aload_n 0, 1) := by decide +kernel
theorem dX9_thins_31 : decode cX9_thins 31 = .ok (.getfield 84, 3) := by decide +kernel
theorem dX9_thins_34 : decode cX9_thins 34 = .ok (.bipush 16, 2) := by decide +kernel
theorem dX9_thins_36 : decode cX9_thins 36 = .ok (.iload 5, 2) := by decide +kernel
theorem dX9_thins_38 : decode cX9_thins 38 = .ok (.imul, 1) := by decide +kernel
theorem dX9_thins_39 : decode cX9_thins 39 = .ok (.aload_n 1, 1) := by decide +kernel
theorem dX9_thins_40 : decode cX9_thins 40 = .ok (.iload_n 2, 1) := by decide +kernel
theorem dX9_thins_41 : decode cX9_thins 41 = .ok (.invokevirtual 160, 3) := by decide +kernel
theorem dX9_thins_44 : decode cX9_thins 44 = .ok (.goto 18, 3) := by decide +kernel
theorem dX9_thins_47 : decode cX9_thins 47 = .ok (.aload_n 0, 1) := by decide +kernel
theorem dX9_thins_48 : decode cX9_thins 48 = .ok (.aload_n 1, 1) := by decide +kernel
theorem dX9_thins_49 : decode cX9_thins 49 = .ok (.iload_n 2, 1) := by decide +kernel
theorem dX9_thins_50 : decode cX9_thins 50 = .ok (.aload_n 0, 1) := by decide +kernel
theorem dX9_thins_51 : decode cX9_thins 51 = .ok (.getfield 84, 3) := by decide +kernel
theorem dX9_thins_54 : decode cX9_thins 54 = .ok (.bipush 16, 2) := by decide +kernel
theorem dX9_thins_56 : decode cX9_thins 56 = .ok (.iload 5, 2) := by decide +kernel
theorem dX9_thins_58 : decode cX9_thins 58 = .ok (.imul, 1) := by decide +kernel
theorem dX9_thins_59 : decode cX9_thins 59 = .ok (.invokevirtual 160, 3) := by decide +kernel
theorem dX9_thins_62 : decode cX9_thins 62 = .ok (.iconst 0, 1) := by decide +kernel
theorem dX9_thins_63 : decode cX9_thins 63 = .ok (.istore 6, 2) := by decide +kernel
theorem dX9_thins_65 : decode cX9_thins 65 = .ok (.iload 6, 2) := by decide +kernel
theorem dX9_thins_67 : decode cX9_thins 67 = .ok (.aload_n 0, 1) := by decide +kernel
theorem dX9_thins_68 : decode cX9_thins 68 = .ok (.getfield 18, 3) := by decide +kernel
theorem dX9_thins_71 : decode cX9_thins 71 = .ok (.if_icmp .ge 48, 3) := by decide +kernel
theorem dX9_thins_74 : decode cX9_thins 74 = .ok (.aload_n 0, 1) := by decide +kernel
theorem dX9_thins_75 : decode cX9_thins 75 = .ok (.getfield 72, 3) := by decide +kernel
theorem dX9_thins_78 : decode cX9_thins 78 = .ok (.iload 6, 2) := by decide +kernel
theorem dX9_thins_80 : decode cX9_thins 80 = .ok (.aload_n 0, 1) := by decide +kernel
theorem dX9_thins_81 : decode cX9_thins 81 = .ok (.getfield 81, 3) := by decide +kernel
theorem dX9_thins_84 : decode cX9_thins 84 = .ok (.iload 6, 2) := by decide +kernel
theorem dX9_thins_86 : decode cX9_thins 86 = .ok (.iaload, 1) := by decide +kernel
theorem dX9_thins_87 : decode cX9_thins 87 = .ok (.iastore, 1) := by decide +kernel
theorem dX9_thins_88 : decode cX9_thins 88 = .ok (.aload_n 0, 1) := by decide +kernel
theorem dX9_thins_89 : decode cX9_thins 89 = .ok (.getfield 72, 3) := by decide +kernel
theorem dX9_thins_92 : decode cX9_thins 92 = .ok (.aload_n 0, 1) := by decide +kernel
theorem dX9_thins_93 : decode cX9_thins 93 = .ok (.getfield 18, 3) := by decide +kernel
theorem dX9_thins_96 : decode cX9_thins 96 = .ok (.iload 6, 2) := by decide +kernel
theorem dX9_thins_98 : decode cX9_thins 98 = .ok (.iadd, 1) := by decide +kernel
theorem dX9_thins_99 : decode cX9_thins 99 = .ok (.aload_n 0, 1) := by decide +kernel
theorem dX9_thins_100 : decode cX9_thins 100 = .ok (.getfield 84, 3) := by decide +kernel
theorem dX9_thins_103 : decode cX9_thins 103 = .ok (.bipush 16, 2) := by decide +kernel
theorem dX9_thins_105 : decode cX9_thins 105 = .ok (.iload 5, 2) := by decide +kernel
theorem dX9_thins_107 : decode cX9_thins 107 = .ok (.imul, 1) := by decide +kernel
theorem dX9_thins_108 : decode cX9_thins 108 = .ok (.iload 6, 2) := by decide +kernel
theorem dX9_thins_110 : decode cX9_thins 110 = .ok (.iadd, 1) := by decide +kernel
theorem dX9_thins_111 : decode cX9_thins 111 = .ok (.iaload, 1) := by decide +kernel
theorem dX9_thins_112 : decode cX9_thins 112 = .ok (.iastore, 1) := by decide +kernel
theorem dX9_thins_113 : decode cX9_thins 113 = .ok (.iinc 6 1, 3) := by decide +kernel
theorem dX9_thins_116 : decode cX9_thins 116 = .ok (.goto (-51), 3) := by decide +kernel
theorem dX9_thins_119 : decode cX9_thins 119 = .ok (.aload_n 0, 1) := by decide +kernel
theorem dX9_thins_120 : decode cX9_thins 120 = .ok (.invokevirtual 146, 3) := by decide +kernel
theorem dX9_thins_123 : decode cX9_thins 123 = .ok (.pop, 1) := by decide +kernel
theorem dX9_thins_124 : decode cX9_thins 124 = .ok (.iinc 5 1, 3) := by decide +kernel
theorem dX9_thins_127 : decode cX9_thins 127 = .ok (.goto (-111), 3) := by decide +kernel
theorem dX9_thins_130 : decode cX9_thins 130 = .ok (.iconst 0, 1) := by decide +kernel
theorem dX9_thins_131 : decode cX9_thins 131 = .ok (.istore 5, 2) := by decide +kernel
theorem dX9_thins_133 : decode cX9_thins 133 = .ok (.iload 5, 2) := by decide +kernel
theorem dX9_thins_135 : decode cX9_thins 135 = .ok (.aload_n 0, 1) := by decide +kernel
theorem dX9_thins_136 : decode cX9_thins 136 = .ok (.getfield 124, 3) := by decide +kernel
theorem dX9_thins_139 : decode cX9_thins 139 = .ok (.if_icmp .ge 90, 3) := by decide +kernel
theorem dX9_thins_142 : decode cX9_thins 142 = .ok (.aload_n 0, 1) := by decide +kernel
theorem dX9_thins_143 : decode cX9_thins 143 = .ok (.getfield 63, 3) := by decide +kernel
theorem dX9_thins_146 : decode cX9_thins 146 = .ok (.iload 5, 2) := by decide +kernel
theorem dX9_thins_148 : decode cX9_thins 148 = .ok (.iaload, 1) := by decide +kernel
theorem dX9_thins_149 : decode cX9_thins 149 = .ok (.aload_n 0, 1) := by decide +kernel
theorem dX9_thins_150 : decode cX9_thins 150 = .ok (.getfield 18, 3) := by decide +kernel
theorem dX9_thins_153 : decode cX9_thins 153 = .ok (.if_icmp .ge 6, 3) := by decide +kernel
theorem dX9_thins_156 : decode cX9_thins 156 = .ok (.goto 67, 3) := by decide +kernel
theorem dX9_thins_159 : decode cX9_thins 159 = .ok (.iconst 0, 1) := by decide +kernel
theorem dX9_thins_160 : decode cX9_thins 160 = .ok (.istore 6, 2) := by decide +kernel
theorem dX9_thins_162 : decode cX9_thins 162 = .ok (.iload 6, 2) := by decide +kernel
theorem dX9_thins_164 : decode cX9_thins 164 = .ok (.bipush 16, 2) := by decide +kernel
theorem dX9_thins_166 : decode cX9_thins 166 = .ok (.if_icmp .ge 54, 3) := by decide +kernel
theorem dX9_thins_169 : decode cX9_thins 169 = .ok (.aload_n 0, 1) := by decide +kernel
theorem dX9_thins_170 : decode cX9_thins 170 = .ok (.getfield 87, 3) := by decide +kernel
theorem dX9_thins_173 : decode cX9_thins 173 = .ok (.bipush 16, 2) := by decide +kernel
theorem dX9_thins_175 : decode cX9_thins 175 = .ok (.iload 4, 2) := by decide +kernel
theorem dX9_thins_177 : decode cX9_thins 177 = .ok (.imul, 1) := by decide +kernel
theorem dX9_thins_178 : decode cX9_thins 178 = .ok (.iload 6, 2) := by decide +kernel
theorem dX9_thins_180 : decode cX9_thins 180 = .ok (.iadd, 1) := by decide +kernel
theorem dX9_thins_181 : decode cX9_thins 181 = .ok (.iload 6, 2) := by decide +kernel
theorem dX9_thins_183 : decode cX9_thins 183 = .ok (.aload_n 0, 1) := by decide +kernel
theorem dX9_thins_184 : decode cX9_thins 184 = .ok (.getfield 18, 3) := by decide +kernel
theorem dX9_thins_187 : decode cX9_thins 187 = .ok (.if_icmp .ge 25, 3) := by decide +kernel
theorem dX9_thins_190 : decode cX9_thins 190 = .ok (.aload_n 0, 1) := by decide +kernel
theorem dX9_thins_191 : decode cX9_thins 191 = .ok (.getfield 60, 3) := by decide +kernel
theorem dX9_thins_194 : decode cX9_thins 194 = .ok (.sipush 256, 3) := by decide +kernel
theorem dX9_thins_197 : decode cX9_thins 197 = .ok (.iload 5, 2) := by decide +kernel
theorem dX9_thins_199 : decode cX9_thins 199 = .ok (.imul, 1) := by decide +kernel
theorem dX9_thins_200 : decode cX9_thins 200 = .ok (.aload_n 0, 1) := by decide +kernel
theorem dX9_thins_201 : decode cX9_thins 201 = .ok (.getfield 18, 3) := by decide +kernel
theorem dX9_thins_204 : decode cX9_thins 204 = .ok (.iadd, 1) := by decide +kernel
theorem dX9_thins_205 : decode cX9_thins 205 = .ok (.iload 6, 2) := by decide +kernel
theorem dX9_thins_207 : decode cX9_thins 207 = .ok (.iadd, 1) := by decide +kernel
theorem dX9_thins_208 : decode cX9_thins 208 = .ok (.iaload, 1) := by decide +kernel
theorem dX9_thins_209 : decode cX9_thins 209 = .ok (.goto 4, 3) := by decide +kernel
theorem dX9_thins_212 : decode cX9_thins 212 = .ok (.iconst 0, 1) := by decide +kernel
theorem dX9_thins_213 : decode cX9_thins 213 = .ok (.iastore, 1) := by decide +kernel
theorem dX9_thins_214 : decode cX9_thins 214 = .ok (.iinc 6 1, 3) := by decide +kernel
theorem dX9_thins_217 : decode cX9_thins 217 = .ok (.goto (-55), 3) := by decide +kernel
theorem dX9_thins_220 : decode cX9_thins 220 = .ok (.iinc 4 1, 3) := by decide +kernel
theorem dX9_thins_223 : decode cX9_thins 223 = .ok (.iinc 5 1, 3) := by decide +kernel
theorem dX9_thins_226 : decode cX9_thins 226 = .ok (.goto (-93), 3) := by decide +kernel
theorem dX9_thins_229 : decode cX9_thins 229 = .ok (.iconst 0, 1) := by decide +kernel
theorem dX9_thins_230 : decode cX9_thins 230 = .ok (.istore 5, 2) := by decide +kernel
theorem dX9_thins_232 : decode cX9_thins 232 = .ok (.iload 5, 2) := by decide +kernel
theorem dX9_thins_234 : decode cX9_thins 234 = .ok (.bipush 16, 2) := by decide +kernel
theorem dX9_thins_236 : decode cX9_thins 236 = .ok (.iload 4, 2) := by decide +kernel
theorem dX9_thins_238 : decode cX9_thins 238 = .ok (.imul, 1) := by decide +kernel
theorem dX9_thins_239 : decode cX9_thins 239 = .ok (.if_icmp .ge 23, 3) := by decide +kernel
theorem dX9_thins_242 : decode cX9_thins 242 = .ok (.aload_n 0, 1) := by decide +kernel
theorem dX9_thins_243 : decode cX9_thins 243 = .ok (.getfield 84, 3) := by decide +kernel
theorem dX9_thins_246 : decode cX9_thins 246 = .ok (.iload 5, 2) := by decide +kernel
theorem dX9_thins_248 : decode cX9_thins 248 = .ok (.aload_n 0, 1) := by decide +kernel
theorem dX9_thins_249 : decode cX9_thins 249 = .ok (.getfield 87, 3) := by decide +kernel
theorem dX9_thins_252 : decode cX9_thins 252 = .ok (.iload 5, 2) := by decide +kernel
theorem dX9_thins_254 : decode cX9_thins 254 = .ok (.iaload, 1) := by decide +kernel
theorem dX9_thins_255 : decode cX9_thins 255 = .ok (.iastore, 1) := by decide +kernel
theorem dX9_thins_256 : decode cX9_thins 256 = .ok (.iinc 5 1, 3) := by decide +kernel
theorem dX9_thins_259 : decode cX9_thins 259 = .ok (.goto (-27), 3) := by decide +kernel
theorem dX9_thins_262 : decode cX9_thins 262 = .ok (.aload_n 0, 1) := by decide +kernel
theorem dX9_thins_263 : decode cX9_thins 263 = .ok (.iload 4, 2) := by decide +kernel
theorem dX9_thins_265 : decode cX9_thins 265 = .ok (.putfield 271, 3) := by decide +kernel
theorem dX9_thins_268 : decode cX9_thins 268 = .ok (.return_, 1) := by decide +kernel
theorem dX9_annihilated_0 : decode cX9_annihilated 0 = .ok (.aload_n 0, 1) := by decide +kernel
theorem dX9_annihilated_1 : decode cX9_annihilated 1 = .ok (.aload_n 0, 1) := by decide +kernel
theorem dX9_annihilated_2 : decode cX9_annihilated 2 = .ok (.getfield 18, 3) := by decide +kernel
theorem dX9_annihilated_5 : decode cX9_annihilated 5 = .ok (.putfield 271, 3) := by decide +kernel
theorem dX9_annihilated_8 : decode cX9_annihilated 8 = .ok (.iconst 0, 1) := by decide +kernel
theorem dX9_annihilated_9 : decode cX9_annihilated 9 = .ok (.istore 4, 2) := by decide +kernel
theorem dX9_annihilated_11 : decode cX9_annihilated 11 = .ok (.iload 4, 2) := by decide +kernel
theorem dX9_annihilated_13 : decode cX9_annihilated 13 = .ok (.aload_n 0, 1) := by decide +kernel
theorem dX9_annihilated_14 : decode cX9_annihilated 14 = .ok (.getfield 18, 3) := by decide +kernel
theorem dX9_annihilated_17 : decode cX9_annihilated 17 = .ok (.if_icmp .ge 50, 3) := by decide +kernel
theorem dX9_annihilated_20 : decode cX9_annihilated 20 = .ok (.iconst 0, 1) := by decide +kernel
theorem dX9_annihilated_21 : decode cX9_annihilated 21 = .ok (.istore 5, 2) := by decide +kernel
theorem dX9_annihilated_23 : decode cX9_annihilated 23 = .ok (.iload 5, 2) := by decide +kernel
theorem dX9_annihilated_25 : decode cX9_annihilated 25 = .ok (.bipush 16, 2) := by decide +kernel
theorem dX9_annihilated_27 : decode cX9_annihilated 27 = .ok (.if_icmp .ge 34, 3) := by decide +kernel
theorem dX9_annihilated_30 : decode cX9_annihilated 30 = .ok (.aload_n 0, 1) := by decide +kernel
theorem dX9_annihilated_31 : decode cX9_annihilated 31 = .ok (.getfield 84, 3) := by decide +kernel
theorem dX9_annihilated_34 : decode cX9_annihilated 34 = .ok (.bipush 16, 2) := by decide +kernel
theorem dX9_annihilated_36 : decode cX9_annihilated 36 = .ok (.iload 4, 2) := by decide +kernel
theorem dX9_annihilated_38 : decode cX9_annihilated 38 = .ok (.imul, 1) := by decide +kernel
theorem dX9_annihilated_39 : decode cX9_annihilated 39 = .ok (.iload 5, 2) := by decide +kernel
theorem dX9_annihilated_41 : decode cX9_annihilated 41 = .ok (.iadd, 1) := by decide +kernel
theorem dX9_annihilated_42 : decode cX9_annihilated 42 = .ok (.iload 4, 2) := by decide +kernel
theorem dX9_annihilated_44 : decode cX9_annihilated 44 = .ok (.iload 5, 2) := by decide +kernel
theorem dX9_annihilated_46 : decode cX9_annihilated 46 = .ok (.if_icmp .ne 7, 3) := by decide +kernel
theorem dX9_annihilated_49 : decode cX9_annihilated 49 = .ok (.iconst 1, 1) := by decide +kernel
theorem dX9_annihilated_50 : decode cX9_annihilated 50 = .ok (.goto 4, 3) := by decide +kernel
theorem dX9_annihilated_53 : decode cX9_annihilated 53 = .ok (.iconst 0, 1) := by decide +kernel
theorem dX9_annihilated_54 : decode cX9_annihilated 54 = .ok (.iastore, 1) := by decide +kernel
theorem dX9_annihilated_55 : decode cX9_annihilated 55 = .ok (.iinc 5 1, 3) := by decide +kernel
theorem dX9_annihilated_58 : decode cX9_annihilated 58 = .ok (.goto (-35), 3) := by decide +kernel
theorem dX9_annihilated_61 : decode cX9_annihilated 61 = .ok (.iinc 4 1, 3) := by decide +kernel
theorem dX9_annihilated_64 : decode cX9_annihilated 64 = .ok (.goto (-53), 3) := by decide +kernel
theorem dX9_annihilated_67 : decode cX9_annihilated 67 = .ok (.iconst 0, 1) := by decide +kernel
theorem dX9_annihilated_68 : decode cX9_annihilated 68 = .ok (.istore 4, 2) := by decide +kernel
theorem dX9_annihilated_70 : decode cX9_annihilated 70 = .ok (.iload 4, 2) := by decide +kernel
theorem dX9_annihilated_72 : decode cX9_annihilated 72 = .ok (.iload_n 2, 1) := by decide +kernel
theorem dX9_annihilated_73 : decode cX9_annihilated 73 = .ok (.if_icmp .ge 20, 3) := by decide +kernel
theorem dX9_annihilated_76 : decode cX9_annihilated 76 = .ok (.aload_n 0, 1) := by decide +kernel
theorem dX9_annihilated_77 : decode cX9_annihilated 77 = .ok (.aload_n 1, 1) := by decide +kernel
theorem dX9_annihilated_78 : decode cX9_annihilated 78 = .ok (.bipush 16, 2) := by decide +kernel
theorem dX9_annihilated_80 : decode cX9_annihilated 80 = .ok (.iload 4, 2) := by decide +kernel
theorem dX9_annihilated_82 : decode cX9_annihilated 82 = .ok (.imul, 1) := by decide +kernel
theorem dX9_annihilated_83 : decode cX9_annihilated 83 = .ok (.iload_n 3, 1) := by decide +kernel
theorem dX9_annihilated_84 : decode cX9_annihilated 84 = .ok (.invokevirtual 274, 3) := by decide +kernel
theorem dX9_annihilated_87 : decode cX9_annihilated 87 = .ok (.iinc 4 1, 3) := by decide +kernel
theorem dX9_annihilated_90 : decode cX9_annihilated 90 = .ok (.goto (-20), 3) := by decide +kernel
theorem dX9_annihilated_93 : decode cX9_annihilated 93 = .ok (.aload_n 0, 1) := by decide +kernel
theorem dX9_annihilated_94 : decode cX9_annihilated 94 = .ok (.invokevirtual 150, 3) := by decide +kernel
theorem dX9_annihilated_97 : decode cX9_annihilated 97 = .ok (.iconst 0, 1) := by decide +kernel
theorem dX9_annihilated_98 : decode cX9_annihilated 98 = .ok (.istore 4, 2) := by decide +kernel
theorem dX9_annihilated_100 : decode cX9_annihilated 100 = .ok (.iload 4, 2) := by decide +kernel
theorem dX9_annihilated_102 : decode cX9_annihilated 102 = .ok (.aload_n 0, 1) := by decide +kernel
theorem dX9_annihilated_103 : decode cX9_annihilated 103 = .ok (.getfield 271, 3) := by decide +kernel
theorem dX9_annihilated_106 : decode cX9_annihilated 106 = .ok (.if_icmp .ge 52, 3) := by decide +kernel
theorem dX9_annihilated_109 : decode cX9_annihilated 109 = .ok (.iconst 0, 1) := by decide +kernel
theorem dX9_annihilated_110 : decode cX9_annihilated 110 = .ok (.istore 5, 2) := by decide +kernel
theorem dX9_annihilated_112 : decode cX9_annihilated 112 = .ok (.iload 5, 2) := by decide +kernel
theorem dX9_annihilated_114 : decode cX9_annihilated 114 = .ok (.aload_n 0, 1) := by decide +kernel
theorem dX9_annihilated_115 : decode cX9_annihilated 115 = .ok (.getfield 18, 3) := by decide +kernel
theorem dX9_annihilated_118 : decode cX9_annihilated 118 = .ok (.if_icmp .ge 29, 3) := by decide +kernel
theorem dX9_annihilated_121 : decode cX9_annihilated 121 = .ok (.aload_n 0, 1) := by decide +kernel
theorem dX9_annihilated_122 : decode cX9_annihilated 122 = .ok (.getfield 72, 3) := by decide +kernel
theorem dX9_annihilated_125 : decode cX9_annihilated 125 = .ok (.iload 5, 2) := by decide +kernel
theorem dX9_annihilated_127 : decode cX9_annihilated 127 = .ok (.aload_n 0, 1) := by decide +kernel
theorem dX9_annihilated_128 : decode cX9_annihilated 128 = .ok (.getfield 84, 3) := by decide +kernel
theorem dX9_annihilated_131 : decode cX9_annihilated 131 = .ok (.bipush 16, 2) := by decide +kernel
theorem dX9_annihilated_133 : decode cX9_annihilated 133 = .ok (.iload 4, 2) := by decide +kernel
theorem dX9_annihilated_135 : decode cX9_annihilated 135 = .ok (.imul, 1) := by decide +kernel
theorem dX9_annihilated_136 : decode cX9_annihilated 136 = .ok (.iload 5, 2) := by decide +kernel
theorem dX9_annihilated_138 : decode cX9_annihilated 138 = .ok (.iadd, 1) := by decide +kernel
theorem dX9_annihilated_139 : decode cX9_annihilated 139 = .ok (.iaload, 1) := by decide +kernel
theorem dX9_annihilated_140 : decode cX9_annihilated 140 = .ok (.iastore, 1) := by decide +kernel
theorem dX9_annihilated_141 : decode cX9_annihilated 141 = .ok (.iinc 5 1, 3) := by decide +kernel
theorem dX9_annihilated_144 : decode cX9_annihilated 144 = .ok (.goto (-32), 3) := by decide +kernel
theorem dX9_annihilated_147 : decode cX9_annihilated 147 = .ok (.aload_n 0, 1) := by decide +kernel
theorem dX9_annihilated_148 : decode cX9_annihilated 148 = .ok (.invokevirtual 146, 3) := by decide +kernel
theorem dX9_annihilated_151 : decode cX9_annihilated 151 = .ok (.pop, 1) := by decide +kernel
theorem dX9_annihilated_152 : decode cX9_annihilated 152 = .ok (.iinc 4 1, 3) := by decide +kernel
theorem dX9_annihilated_155 : decode cX9_annihilated 155 = .ok (.goto (-55), 3) := by decide +kernel
theorem dX9_annihilated_158 : decode cX9_annihilated 158 = .ok (.aload_n 0, 1) := by decide +kernel
theorem dX9_annihilated_159 : decode cX9_annihilated 159 = .ok (.aload_n 0, 1) := by decide +kernel
theorem dX9_annihilated_160 : decode cX9_annihilated 160 = .ok (.aload_n 0, 1) := by decide +kernel
theorem dX9_annihilated_161 : decode cX9_annihilated 161 = .ok (.getfield 84, 3) := by decide +kernel
theorem dX9_annihilated_164 : decode cX9_annihilated 164 = .ok (.invokevirtual 278, 3) := by decide +kernel
theorem dX9_annihilated_167 : decode cX9_annihilated 167 = .ok (.putfield 271, 3) := by decide +kernel
theorem dX9_annihilated_170 : decode cX9_annihilated 170 = .ok (.return_, 1) := by decide +kernel
theorem dX9_annihilator_0 : decode cX9_annihilator 0 = .ok (.iload_n 1, 1) := by decide +kernel
theorem dX9_annihilator_1 : decode cX9_annihilator 1 = .ok (.invokestatic 246, 3) := by decide +kernel
theorem dX9_annihilator_4 : decode cX9_annihilator 4 = .ok (.ifCond .eq 25, 3) := by decide +kernel
theorem dX9_annihilator_7 : decode cX9_annihilator 7 = .ok (.iload_n 2, 1) := by decide +kernel
theorem dX9_annihilator_8 : decode cX9_annihilator 8 = .ok (.i2l, 1) := by decide +kernel
theorem dX9_annihilator_9 : decode cX9_annihilator 9 = .ok (.lconst 0, 1) := by decide +kernel
theorem dX9_annihilator_10 : decode cX9_annihilator 10 = .ok (.lconst 1, 1) := by decide +kernel
theorem dX9_annihilator_11 : decode cX9_annihilator 11 = .ok (.invokestatic 108, 3) := by decide +kernel
theorem dX9_annihilator_14 : decode cX9_annihilator 14 = .ok (.ifCond .eq 15, 3) := by decide +kernel
theorem dX9_annihilator_17 : decode cX9_annihilator 17 = .ok (.iload_n 3, 1) := by decide +kernel
theorem dX9_annihilator_18 : decode cX9_annihilator 18 = .ok (.i2l, 1) := by decide +kernel
theorem dX9_annihilator_19 : decode cX9_annihilator 19 = .ok (.lconst 0, 1) := by decide +kernel
theorem dX9_annihilator_20 : decode cX9_annihilator 20 = .ok (.ldc2_w 282, 3) := by decide +kernel
theorem dX9_annihilator_23 : decode cX9_annihilator 23 = .ok (.invokestatic 108, 3) := by decide +kernel
theorem dX9_annihilator_26 : decode cX9_annihilator 26 = .ok (.ifCond .ne 5, 3) := by decide +kernel
theorem dX9_annihilator_29 : decode cX9_annihilator 29 = .ok (.iconst (-1), 1) := by decide +kernel
theorem dX9_annihilator_30 : decode cX9_annihilator 30 = .ok (.ireturn, 1) := by decide +kernel
theorem dX9_annihilator_31 : decode cX9_annihilator 31 = .ok (.aload_n 0, 1) := by decide +kernel
theorem dX9_annihilator_32 : decode cX9_annihilator 32 = .ok (.iload_n 1, 1) := by decide +kernel
theorem dX9_annihilator_33 : decode cX9_annihilator 33 = .ok (.invokevirtual 185, 3) := by decide +kernel
theorem dX9_annihilator_36 : decode cX9_annihilator 36 = .ok (.aload_n 0, 1) := by decide +kernel
theorem dX9_annihilator_37 : decode cX9_annihilator 37 = .ok (.aload_n 0, 1) := by decide +kernel
theorem dX9_annihilator_38 : decode cX9_annihilator 38 = .ok (.aload_n 0, 1) := by decide +kernel
theorem dX9_annihilator_39 : decode cX9_annihilator 39 = .ok (.getfield 90, 3) := by decide +kernel
theorem dX9_annihilator_42 : decode cX9_annihilator 42 = .ok (.invokevirtual 278, 3) := by decide +kernel
theorem dX9_annihilator_45 : decode cX9_annihilator 45 = .ok (.putfield 284, 3) := by decide +kernel
theorem dX9_annihilator_48 : decode cX9_annihilator 48 = .ok (.aload_n 0, 1) := by decide +kernel
theorem dX9_annihilator_49 : decode cX9_annihilator 49 = .ok (.aload_n 0, 1) := by decide +kernel
theorem dX9_annihilator_50 : decode cX9_annihilator 50 = .ok (.getfield 90, 3) := by decide +kernel
theorem dX9_annihilator_53 : decode cX9_annihilator 53 = .ok (.aload_n 0, 1) := by decide +kernel
theorem dX9_annihilator_54 : decode cX9_annihilator 54 = .ok (.getfield 284, 3) := by decide +kernel
theorem dX9_annihilator_57 : decode cX9_annihilator 57 = .ok (.iload_n 2, 1) := by decide +kernel
theorem dX9_annihilator_58 : decode cX9_annihilator 58 = .ok (.invokevirtual 287, 3) := by decide +kernel
theorem dX9_annihilator_61 : decode cX9_annihilator 61 = .ok (.iload_n 3, 1) := by decide +kernel
theorem dX9_annihilator_62 : decode cX9_annihilator 62 = .ok (.ifCond .ne 8, 3) := by decide +kernel
theorem dX9_annihilator_65 : decode cX9_annihilator 65 = .ok (.aload_n 0, 1) := by decide +kernel
theorem dX9_annihilator_66 : decode cX9_annihilator 66 = .ok (.getfield 271, 3) := by decide +kernel
theorem dX9_annihilator_69 : decode cX9_annihilator 69 = .ok (.ireturn, 1) := by decide +kernel
theorem dX9_annihilator_70 : decode cX9_annihilator 70 = .ok (.iload_n 3, 1) := by decide +kernel
theorem dX9_annihilator_71 : decode cX9_annihilator 71 = .ok (.iconst 3, 1) := by decide +kernel
theorem dX9_annihilator_72 : decode cX9_annihilator 72 = .ok (.if_icmp .ne 8, 3) := by decide +kernel
theorem dX9_annihilator_75 : decode cX9_annihilator 75 = .ok (.aload_n 0, 1) := by decide +kernel
theorem dX9_annihilator_76 : decode cX9_annihilator 76 = .ok (.invokevirtual 290, 3) := by decide +kernel
theorem dX9_annihilator_79 : decode cX9_annihilator 79 = .ok (.ireturn, 1) := by decide +kernel
theorem dX9_annihilator_80 : decode cX9_annihilator 80 = .ok (.aload_n 0, 1) := by decide +kernel
theorem dX9_annihilator_81 : decode cX9_annihilator 81 = .ok (.getfield 271, 3) := by decide +kernel
theorem dX9_annihilator_84 : decode cX9_annihilator 84 = .ok (.istore 4, 2) := by decide +kernel
theorem dX9_annihilator_86 : decode cX9_annihilator 86 = .ok (.iconst 0, 1) := by decide +kernel
theorem dX9_annihilator_87 : decode cX9_annihilator 87 = .ok (.istore 5, 2) := by decide +kernel
theorem dX9_annihilator_89 : decode cX9_annihilator 89 = .ok (.iload 5, 2) := by decide +kernel
theorem dX9_annihilator_91 : decode cX9_annihilator 91 = .ok (.bipush 16, 2) := by decide +kernel
theorem dX9_annihilator_93 : decode cX9_annihilator 93 = .ok (.iload 4, 2) := by decide +kernel
theorem dX9_annihilator_95 : decode cX9_annihilator 95 = .ok (.imul, 1) := by decide +kernel
theorem dX9_annihilator_96 : decode cX9_annihilator 96 = .ok (.if_icmp .ge 23, 3) := by decide +kernel
theorem dX9_annihilator_99 : decode cX9_annihilator 99 = .ok (.aload_n 0, 1) := by decide +kernel
theorem dX9_annihilator_100 : decode cX9_annihilator 100 = .ok (.getfield 99, 3) := by decide +kernel
theorem dX9_annihilator_103 : decode cX9_annihilator 103 = .ok (.iload 5, 2) := by decide +kernel
theorem dX9_annihilator_105 : decode cX9_annihilator 105 = .ok (.aload_n 0, 1) := by decide +kernel
theorem dX9_annihilator_106 : decode cX9_annihilator 106 = .ok (.getfield 84, 3) := by decide +kernel
theorem dX9_annihilator_109 : decode cX9_annihilator 109 = .ok (.iload 5, 2) := by decide +kernel
theorem dX9_annihilator_111 : decode cX9_annihilator 111 = .ok (.iaload, 1) := by decide +kernel
theorem dX9_annihilator_112 : decode cX9_annihilator 112 = .ok (.iastore, 1) := by decide +kernel
theorem dX9_annihilator_113 : decode cX9_annihilator 113 = .ok (.iinc 5 1, 3) := by decide +kernel
theorem dX9_annihilator_116 : decode cX9_annihilator 116 = .ok (.goto (-27), 3) := by decide +kernel
theorem dX9_annihilator_119 : decode cX9_annihilator 119 = .ok (.aload_n 0, 1) := by decide +kernel
theorem dX9_annihilator_120 : decode cX9_annihilator 120 = .ok (.aload_n 0, 1) := by decide +kernel
theorem dX9_annihilator_121 : decode cX9_annihilator 121 = .ok (.getfield 99, 3) := by decide +kernel
theorem dX9_annihilator_124 : decode cX9_annihilator 124 = .ok (.iload 4, 2) := by decide +kernel
theorem dX9_annihilator_126 : decode cX9_annihilator 126 = .ok (.iconst 1, 1) := by decide +kernel
theorem dX9_annihilator_127 : decode cX9_annihilator 127 = .ok (.iload_n 2, 1) := by decide +kernel
theorem dX9_annihilator_128 : decode cX9_annihilator 128 = .ok (.isub, 1) := by decide +kernel
theorem dX9_annihilator_129 : decode cX9_annihilator 129 = .ok (.invokevirtual 287, 3) := by decide +kernel
theorem dX9_annihilator_132 : decode cX9_annihilator 132 = .ok (.iload_n 3, 1) := by decide +kernel
theorem dX9_annihilator_133 : decode cX9_annihilator 133 = .ok (.iconst 1, 1) := by decide +kernel
theorem dX9_annihilator_134 : decode cX9_annihilator 134 = .ok (.if_icmp .ne 8, 3) := by decide +kernel
theorem dX9_annihilator_137 : decode cX9_annihilator 137 = .ok (.aload_n 0, 1) := by decide +kernel
theorem dX9_annihilator_138 : decode cX9_annihilator 138 = .ok (.getfield 271, 3) := by decide +kernel
theorem dX9_annihilator_141 : decode cX9_annihilator 141 = .ok (.ireturn, 1) := by decide +kernel
theorem dX9_annihilator_142 : decode cX9_annihilator 142 = .ok (.iconst 0, 1) := by decide +kernel
theorem dX9_annihilator_143 : decode cX9_annihilator 143 = .ok (.istore 5, 2) := by decide +kernel
theorem dX9_annihilator_145 : decode cX9_annihilator 145 = .ok (.iload 5, 2) := by decide +kernel
theorem dX9_annihilator_147 : decode cX9_annihilator 147 = .ok (.aload_n 0, 1) := by decide +kernel
theorem dX9_annihilator_148 : decode cX9_annihilator 148 = .ok (.getfield 284, 3) := by decide +kernel
theorem dX9_annihilator_151 : decode cX9_annihilator 151 = .ok (.if_icmp .ge 81, 3) := by decide +kernel
theorem dX9_annihilator_154 : decode cX9_annihilator 154 = .ok (.iconst 0, 1) := by decide +kernel
theorem dX9_annihilator_155 : decode cX9_annihilator 155 = .ok (.istore 6, 2) := by decide +kernel
theorem dX9_annihilator_157 : decode cX9_annihilator 157 = .ok (.iload 6, 2) := by decide +kernel
theorem dX9_annihilator_159 : decode cX9_annihilator 159 = .ok (.aload_n 0, 1) := by decide +kernel
theorem dX9_annihilator_160 : decode cX9_annihilator 160 = .ok (.getfield 18, 3) := by decide +kernel
theorem dX9_annihilator_163 : decode cX9_annihilator 163 = .ok (.if_icmp .ge 29, 3) := by decide +kernel
theorem dX9_annihilator_166 : decode cX9_annihilator 166 = .ok (.aload_n 0, 1) := by decide +kernel
theorem dX9_annihilator_167 : decode cX9_annihilator 167 = .ok (.getfield 72, 3) := by decide +kernel
theorem dX9_annihilator_170 : decode cX9_annihilator 170 = .ok (.iload 6, 2) := by decide +kernel
theorem dX9_annihilator_172 : decode cX9_annihilator 172 = .ok (.aload_n 0, 1) := by decide +kernel
theorem dX9_annihilator_173 : decode cX9_annihilator 173 = .ok (.getfield 90, 3) := by decide +kernel
theorem dX9_annihilator_176 : decode cX9_annihilator 176 = .ok (.bipush 16, 2) := by decide +kernel
theorem dX9_annihilator_178 : decode cX9_annihilator 178 = .ok (.iload 5, 2) := by decide +kernel
theorem dX9_annihilator_180 : decode cX9_annihilator 180 = .ok (.imul, 1) := by decide +kernel
theorem dX9_annihilator_181 : decode cX9_annihilator 181 = .ok (.iload 6, 2) := by decide +kernel
theorem dX9_annihilator_183 : decode cX9_annihilator 183 = .ok (.iadd, 1) := by decide +kernel
theorem dX9_annihilator_184 : decode cX9_annihilator 184 = .ok (.iaload, 1) := by decide +kernel
theorem dX9_annihilator_185 : decode cX9_annihilator 185 = .ok (.iastore, 1) := by decide +kernel
theorem dX9_annihilator_186 : decode cX9_annihilator 186 = .ok (.iinc 6 1, 3) := by decide +kernel
theorem dX9_annihilator_189 : decode cX9_annihilator 189 = .ok (.goto (-32), 3) := by decide +kernel
theorem dX9_annihilator_192 : decode cX9_annihilator 192 = .ok (.aload_n 0, 1) := by decide +kernel
theorem dX9_annihilator_193 : decode cX9_annihilator 193 = .ok (.invokevirtual 140, 3) := by decide +kernel
theorem dX9_annihilator_196 : decode cX9_annihilator 196 = .ok (.iconst 0, 1) := by decide +kernel
theorem dX9_annihilator_197 : decode cX9_annihilator 197 = .ok (.istore 6, 2) := by decide +kernel
theorem dX9_annihilator_199 : decode cX9_annihilator 199 = .ok (.iload 6, 2) := by decide +kernel
theorem dX9_annihilator_201 : decode cX9_annihilator 201 = .ok (.aload_n 0, 1) := by decide +kernel
theorem dX9_annihilator_202 : decode cX9_annihilator 202 = .ok (.getfield 18, 3) := by decide +kernel
theorem dX9_annihilator_205 : decode cX9_annihilator 205 = .ok (.if_icmp .ge 21, 3) := by decide +kernel
theorem dX9_annihilator_208 : decode cX9_annihilator 208 = .ok (.aload_n 0, 1) := by decide +kernel
theorem dX9_annihilator_209 : decode cX9_annihilator 209 = .ok (.getfield 72, 3) := by decide +kernel
theorem dX9_annihilator_212 : decode cX9_annihilator 212 = .ok (.iload 6, 2) := by decide +kernel
theorem dX9_annihilator_214 : decode cX9_annihilator 214 = .ok (.iaload, 1) := by decide +kernel
theorem dX9_annihilator_215 : decode cX9_annihilator 215 = .ok (.ifCond .eq 5, 3) := by decide +kernel
theorem dX9_annihilator_218 : decode cX9_annihilator 218 = .ok (.iconst 0, 1) := by decide +kernel
theorem dX9_annihilator_219 : decode cX9_annihilator 219 = .ok (.ireturn, 1) := by decide +kernel
theorem dX9_annihilator_220 : decode cX9_annihilator 220 = .ok (.iinc 6 1, 3) := by decide +kernel
theorem dX9_annihilator_223 : decode cX9_annihilator 223 = .ok (.goto (-24), 3) := by decide +kernel
theorem dX9_annihilator_226 : decode cX9_annihilator 226 = .ok (.iinc 5 1, 3) := by decide +kernel
theorem dX9_annihilator_229 : decode cX9_annihilator 229 = .ok (.goto (-84), 3) := by decide +kernel
theorem dX9_annihilator_232 : decode cX9_annihilator 232 = .ok (.iconst 1, 1) := by decide +kernel
theorem dX9_annihilator_233 : decode cX9_annihilator 233 = .ok (.ireturn, 1) := by decide +kernel
theorem dX9_annihilates_0 : decode cX9_annihilates 0 = .ok (.iload_n 1, 1) := by decide +kernel
theorem dX9_annihilates_1 : decode cX9_annihilates 1 = .ok (.invokestatic 246, 3) := by decide +kernel
theorem dX9_annihilates_4 : decode cX9_annihilates 4 = .ok (.ifCond .eq 22, 3) := by decide +kernel
theorem dX9_annihilates_7 : decode cX9_annihilates 7 = .ok (.iload_n 2, 1) := by decide +kernel
theorem dX9_annihilates_8 : decode cX9_annihilates 8 = .ok (.i2l, 1) := by decide +kernel
theorem dX9_annihilates_9 : decode cX9_annihilates 9 = .ok (.lconst 0, 1) := by decide +kernel
theorem dX9_annihilates_10 : decode cX9_annihilates 10 = .ok (.lconst 1, 1) := by decide +kernel
theorem dX9_annihilates_11 : decode cX9_annihilates 11 = .ok (.invokestatic 108, 3) := by decide +kernel
theorem dX9_annihilates_14 : decode cX9_annihilates 14 = .ok (.ifCond .eq 12, 3) := by decide +kernel
theorem dX9_annihilates_17 : decode cX9_annihilates 17 = .ok (.aload_n 0, 1) := by decide +kernel
theorem dX9_annihilates_18 : decode cX9_annihilates 18 = .ok (.iload 4, 2) := by decide +kernel
theorem dX9_annihilates_20 : decode cX9_annihilates 20 = .ok (.invokevirtual 179, 3) := by decide +kernel
theorem dX9_annihilates_23 : decode cX9_annihilates 23 = .ok (.ifCond .ne 5, 3) := by decide +kernel
theorem dX9_annihilates_26 : decode cX9_annihilates 26 = .ok (.iconst (-1), 1) := by decide +kernel
theorem dX9_annihilates_27 : decode cX9_annihilates 27 = .ok (.ireturn, 1) := by decide +kernel
theorem dX9_annihilates_28 : decode cX9_annihilates 28 = .ok (.aload_n 0, 1) := by decide +kernel
theorem dX9_annihilates_29 : decode cX9_annihilates 29 = .ok (.iload_n 1, 1) := by decide +kernel
theorem dX9_annihilates_30 : decode cX9_annihilates 30 = .ok (.invokevirtual 185, 3) := by decide +kernel
theorem dX9_annihilates_33 : decode cX9_annihilates 33 = .ok (.aload_n 0, 1) := by decide +kernel
theorem dX9_annihilates_34 : decode cX9_annihilates 34 = .ok (.aload_n 0, 1) := by decide +kernel
theorem dX9_annihilates_35 : decode cX9_annihilates 35 = .ok (.aload_n 0, 1) := by decide +kernel
theorem dX9_annihilates_36 : decode cX9_annihilates 36 = .ok (.getfield 90, 3) := by decide +kernel
theorem dX9_annihilates_39 : decode cX9_annihilates 39 = .ok (.invokevirtual 278, 3) := by decide +kernel
theorem dX9_annihilates_42 : decode cX9_annihilates 42 = .ok (.putfield 284, 3) := by decide +kernel
theorem dX9_annihilates_45 : decode cX9_annihilates 45 = .ok (.aload_n 0, 1) := by decide +kernel
theorem dX9_annihilates_46 : decode cX9_annihilates 46 = .ok (.aload_n 0, 1) := by decide +kernel
theorem dX9_annihilates_47 : decode cX9_annihilates 47 = .ok (.getfield 90, 3) := by decide +kernel
theorem dX9_annihilates_50 : decode cX9_annihilates 50 = .ok (.aload_n 0, 1) := by decide +kernel
theorem dX9_annihilates_51 : decode cX9_annihilates 51 = .ok (.getfield 284, 3) := by decide +kernel
theorem dX9_annihilates_54 : decode cX9_annihilates 54 = .ok (.iload_n 2, 1) := by decide +kernel
theorem dX9_annihilates_55 : decode cX9_annihilates 55 = .ok (.invokevirtual 287, 3) := by decide +kernel
theorem dX9_annihilates_58 : decode cX9_annihilates 58 = .ok (.iload_n 3, 1) := by decide +kernel
theorem dX9_annihilates_59 : decode cX9_annihilates 59 = .ok (.i2l, 1) := by decide +kernel
theorem dX9_annihilates_60 : decode cX9_annihilates 60 = .ok (.lconst 0, 1) := by decide +kernel
theorem dX9_annihilates_61 : decode cX9_annihilates 61 = .ok (.aload_n 0, 1) := by decide +kernel
theorem dX9_annihilates_62 : decode cX9_annihilates 62 = .ok (.getfield 271, 3) := by decide +kernel
theorem dX9_annihilates_65 : decode cX9_annihilates 65 = .ok (.iconst 1, 1) := by decide +kernel
theorem dX9_annihilates_66 : decode cX9_annihilates 66 = .ok (.isub, 1) := by decide +kernel
theorem dX9_annihilates_67 : decode cX9_annihilates 67 = .ok (.i2l, 1) := by decide +kernel
theorem dX9_annihilates_68 : decode cX9_annihilates 68 = .ok (.invokestatic 108, 3) := by decide +kernel
theorem dX9_annihilates_71 : decode cX9_annihilates 71 = .ok (.ifCond .eq 18, 3) := by decide +kernel
theorem dX9_annihilates_74 : decode cX9_annihilates 74 = .ok (.aload_n 0, 1) := by decide +kernel
theorem dX9_annihilates_75 : decode cX9_annihilates 75 = .ok (.getfield 84, 3) := by decide +kernel
theorem dX9_annihilates_78 : decode cX9_annihilates 78 = .ok (.bipush 16, 2) := by decide +kernel
theorem dX9_annihilates_80 : decode cX9_annihilates 80 = .ok (.iload_n 3, 1) := by decide +kernel
theorem dX9_annihilates_81 : decode cX9_annihilates 81 = .ok (.imul, 1) := by decide +kernel
theorem dX9_annihilates_82 : decode cX9_annihilates 82 = .ok (.iload 4, 2) := by decide +kernel
theorem dX9_annihilates_84 : decode cX9_annihilates 84 = .ok (.iadd, 1) := by decide +kernel
theorem dX9_annihilates_85 : decode cX9_annihilates 85 = .ok (.iaload, 1) := by decide +kernel
theorem dX9_annihilates_86 : decode cX9_annihilates 86 = .ok (.goto 4, 3) := by decide +kernel
theorem dX9_annihilates_89 : decode cX9_annihilates 89 = .ok (.iconst (-1), 1) := by decide +kernel
theorem dX9_annihilates_90 : decode cX9_annihilates 90 = .ok (.ireturn, 1) := by decide +kernel
theorem dX9_lifts_0 : decode cX9_lifts 0 = .ok (.iconst 0, 1) := by decide +kernel
theorem dX9_lifts_1 : decode cX9_lifts 1 = .ok (.istore 4, 2) := by decide +kernel
theorem dX9_lifts_3 : decode cX9_lifts 3 = .ok (.iload 4, 2) := by decide +kernel
theorem dX9_lifts_5 : decode cX9_lifts 5 = .ok (.aload_n 0, 1) := by decide +kernel
theorem dX9_lifts_6 : decode cX9_lifts 6 = .ok (.getfield 293, 3) := by decide +kernel
theorem dX9_lifts_9 : decode cX9_lifts 9 = .ok (.if_icmp .ge 17, 3) := by decide +kernel
theorem dX9_lifts_12 : decode cX9_lifts 12 = .ok (.aload_n 0, 1) := by decide +kernel
theorem dX9_lifts_13 : decode cX9_lifts 13 = .ok (.getfield 72, 3) := by decide +kernel
theorem dX9_lifts_16 : decode cX9_lifts 16 = .ok (.iload 4, 2) := by decide +kernel
theorem dX9_lifts_18 : decode cX9_lifts 18 = .ok (.iconst 0, 1) := by decide +kernel
theorem dX9_lifts_19 : decode cX9_lifts 19 = .ok (.iastore, 1) := by decide +kernel
theorem dX9_lifts_20 : decode cX9_lifts 20 = .ok (.iinc 4 1, 3) := by decide +kernel
theorem dX9_lifts_23 : decode cX9_lifts 23 = .ok (.goto (-20), 3) := by decide +kernel
theorem dX9_lifts_26 : decode cX9_lifts 26 = .ok (.iconst 0, 1) := by decide +kernel
theorem dX9_lifts_27 : decode cX9_lifts 27 = .ok (.istore 4, 2) := by decide +kernel
theorem dX9_lifts_29 : decode cX9_lifts 29 = .ok (.iload 4, 2) := by decide +kernel
theorem dX9_lifts_31 : decode cX9_lifts 31 = .ok (.aload_n 0, 1) := by decide +kernel
theorem dX9_lifts_32 : decode cX9_lifts 32 = .ok (.getfield 293, 3) := by decide +kernel
theorem dX9_lifts_35 : decode cX9_lifts 35 = .ok (.if_icmp .ge 63, 3) := by decide +kernel
theorem dX9_lifts_38 : decode cX9_lifts 38 = .ok (.iconst 1, 1) := by decide +kernel
theorem dX9_lifts_39 : decode cX9_lifts 39 = .ok (.iload_n 3, 1) := by decide +kernel
theorem dX9_lifts_40 : decode cX9_lifts 40 = .ok (.ishl, 1) := by decide +kernel
theorem dX9_lifts_41 : decode cX9_lifts 41 = .ok (.iload 4, 2) := by decide +kernel
theorem dX9_lifts_43 : decode cX9_lifts 43 = .ok (.aload_n 0, 1) := by decide +kernel
theorem dX9_lifts_44 : decode cX9_lifts 44 = .ok (.getfield 18, 3) := by decide +kernel
theorem dX9_lifts_47 : decode cX9_lifts 47 = .ok (.irem, 1) := by decide +kernel
theorem dX9_lifts_48 : decode cX9_lifts 48 = .ok (.invokestatic 116, 3) := by decide +kernel
theorem dX9_lifts_51 : decode cX9_lifts 51 = .ok (.istore 5, 2) := by decide +kernel
theorem dX9_lifts_53 : decode cX9_lifts 53 = .ok (.iload 5, 2) := by decide +kernel
theorem dX9_lifts_55 : decode cX9_lifts 55 = .ok (.ifCond .eq 37, 3) := by decide +kernel
theorem dX9_lifts_58 : decode cX9_lifts 58 = .ok (.aload_n 1, 1) := by decide +kernel
theorem dX9_lifts_59 : decode cX9_lifts 59 = .ok (.iload_n 2, 1) := by decide +kernel
theorem dX9_lifts_60 : decode cX9_lifts 60 = .ok (.iload 4, 2) := by decide +kernel
theorem dX9_lifts_62 : decode cX9_lifts 62 = .ok (.iadd, 1) := by decide +kernel
theorem dX9_lifts_63 : decode cX9_lifts 63 = .ok (.iaload, 1) := by decide +kernel
theorem dX9_lifts_64 : decode cX9_lifts 64 = .ok (.ifCond .eq 28, 3) := by decide +kernel
theorem dX9_lifts_67 : decode cX9_lifts 67 = .ok (.aload_n 0, 1) := by decide +kernel
theorem dX9_lifts_68 : decode cX9_lifts 68 = .ok (.getfield 72, 3) := by decide +kernel
theorem dX9_lifts_71 : decode cX9_lifts 71 = .ok (.iload 4, 2) := by decide +kernel
theorem dX9_lifts_73 : decode cX9_lifts 73 = .ok (.iconst 1, 1) := by decide +kernel
theorem dX9_lifts_74 : decode cX9_lifts 74 = .ok (.iload_n 3, 1) := by decide +kernel
theorem dX9_lifts_75 : decode cX9_lifts 75 = .ok (.ishl, 1) := by decide +kernel
theorem dX9_lifts_76 : decode cX9_lifts 76 = .ok (.ior, 1) := by decide +kernel
theorem dX9_lifts_77 : decode cX9_lifts 77 = .ok (.aload_n 0, 1) := by decide +kernel
theorem dX9_lifts_78 : decode cX9_lifts 78 = .ok (.iload 5, 2) := by decide +kernel
theorem dX9_lifts_80 : decode cX9_lifts 80 = .ok (.aload_n 1, 1) := by decide +kernel
theorem dX9_lifts_81 : decode cX9_lifts 81 = .ok (.iload_n 2, 1) := by decide +kernel
theorem dX9_lifts_82 : decode cX9_lifts 82 = .ok (.iload 4, 2) := by decide +kernel
theorem dX9_lifts_84 : decode cX9_lifts 84 = .ok (.iadd, 1) := by decide +kernel
theorem dX9_lifts_85 : decode cX9_lifts 85 = .ok (.iaload, 1) := by decide +kernel
theorem dX9_lifts_86 : decode cX9_lifts 86 = .ok (.imul, 1) := by decide +kernel
theorem dX9_lifts_87 : decode cX9_lifts 87 = .ok (.i2l, 1) := by decide +kernel
theorem dX9_lifts_88 : decode cX9_lifts 88 = .ok (.invokevirtual 120, 3) := by decide +kernel
theorem dX9_lifts_91 : decode cX9_lifts 91 = .ok (.iastore, 1) := by decide +kernel
theorem dX9_lifts_92 : decode cX9_lifts 92 = .ok (.iinc 4 1, 3) := by decide +kernel
theorem dX9_lifts_95 : decode cX9_lifts 95 = .ok (.goto (-66), 3) := by decide +kernel
theorem dX9_lifts_98 : decode cX9_lifts 98 = .ok (.return_, 1) := by decide +kernel
theorem dX9_needs_0 : decode cX9_needs 0 = .ok (.aload_n 0, 1) := by decide +kernel
theorem dX9_needs_1 : decode cX9_needs 1 = .ok (.aload_n 0, 1) := by decide +kernel
theorem dX9_needs_2 : decode cX9_needs 2 = .ok (.getfield 293, 3) := by decide +kernel
theorem dX9_needs_5 : decode cX9_needs 5 = .ok (.invokevirtual 130, 3) := by decide +kernel
theorem dX9_needs_8 : decode cX9_needs 8 = .ok (.iconst 0, 1) := by decide +kernel
theorem dX9_needs_9 : decode cX9_needs 9 = .ok (.istore_n 1, 1) := by decide +kernel
theorem dX9_needs_10 : decode cX9_needs 10 = .ok (.iload_n 1, 1) := by decide +kernel
theorem dX9_needs_11 : decode cX9_needs 11 = .ok (.aload_n 0, 1) := by decide +kernel
theorem dX9_needs_12 : decode cX9_needs 12 = .ok (.getfield 296, 3) := by decide +kernel
theorem dX9_needs_15 : decode cX9_needs 15 = .ok (.if_icmp .ge 44, 3) := by decide +kernel
theorem dX9_needs_18 : decode cX9_needs 18 = .ok (.iconst 0, 1) := by decide +kernel
theorem dX9_needs_19 : decode cX9_needs 19 = .ok (.istore_n 2, 1) := by decide +kernel
theorem dX9_needs_20 : decode cX9_needs 20 = .ok (.iload_n 2, 1) := by decide +kernel
theorem dX9_needs_21 : decode cX9_needs 21 = .ok (.aload_n 0, 1) := by decide +kernel
theorem dX9_needs_22 : decode cX9_needs 22 = .ok (.getfield 9, 3) := by decide +kernel
theorem dX9_needs_25 : decode cX9_needs 25 = .ok (.if_icmp .ge 28, 3) := by decide +kernel
theorem dX9_needs_28 : decode cX9_needs 28 = .ok (.aload_n 0, 1) := by decide +kernel
theorem dX9_needs_29 : decode cX9_needs 29 = .ok (.aload_n 0, 1) := by decide +kernel
theorem dX9_needs_30 : decode cX9_needs 30 = .ok (.getfield 93, 3) := by decide +kernel
theorem dX9_needs_33 : decode cX9_needs 33 = .ok (.sipush 256, 3) := by decide +kernel
theorem dX9_needs_36 : decode cX9_needs 36 = .ok (.iload_n 1, 1) := by decide +kernel
theorem dX9_needs_37 : decode cX9_needs 37 = .ok (.imul, 1) := by decide +kernel
theorem dX9_needs_38 : decode cX9_needs 38 = .ok (.iload_n 2, 1) := by decide +kernel
theorem dX9_needs_39 : decode cX9_needs 39 = .ok (.invokevirtual 299, 3) := by decide +kernel
theorem dX9_needs_42 : decode cX9_needs 42 = .ok (.aload_n 0, 1) := by decide +kernel
theorem dX9_needs_43 : decode cX9_needs 43 = .ok (.invokevirtual 146, 3) := by decide +kernel
theorem dX9_needs_46 : decode cX9_needs 46 = .ok (.pop, 1) := by decide +kernel
theorem dX9_needs_47 : decode cX9_needs 47 = .ok (.iinc 2 1, 3) := by decide +kernel
theorem dX9_needs_50 : decode cX9_needs 50 = .ok (.goto (-30), 3) := by decide +kernel
theorem dX9_needs_53 : decode cX9_needs 53 = .ok (.iinc 1 1, 3) := by decide +kernel
theorem dX9_needs_56 : decode cX9_needs 56 = .ok (.goto (-46), 3) := by decide +kernel
theorem dX9_needs_59 : decode cX9_needs 59 = .ok (.aload_n 0, 1) := by decide +kernel
theorem dX9_needs_60 : decode cX9_needs 60 = .ok (.iconst 0, 1) := by decide +kernel
theorem dX9_needs_61 : decode cX9_needs 61 = .ok (.putfield 302, 3) := by decide +kernel
theorem dX9_needs_64 : decode cX9_needs 64 = .ok (.iconst 0, 1) := by decide +kernel
theorem dX9_needs_65 : decode cX9_needs 65 = .ok (.istore_n 1, 1) := by decide +kernel
theorem dX9_needs_66 : decode cX9_needs 66 = .ok (.iload_n 1, 1) := by decide +kernel
theorem dX9_needs_67 : decode cX9_needs 67 = .ok (.aload_n 0, 1) := by decide +kernel
theorem dX9_needs_68 : decode cX9_needs 68 = .ok (.getfield 296, 3) := by decide +kernel
theorem dX9_needs_71 : decode cX9_needs 71 = .ok (.if_icmp .ge 106, 3) := by decide +kernel
theorem dX9_needs_74 : decode cX9_needs 74 = .ok (.iconst 0, 1) := by decide +kernel
theorem dX9_needs_75 : decode cX9_needs 75 = .ok (.istore_n 2, 1) := by decide +kernel
theorem dX9_needs_76 : decode cX9_needs 76 = .ok (.iload_n 2, 1) := by decide +kernel
theorem dX9_needs_77 : decode cX9_needs 77 = .ok (.aload_n 0, 1) := by decide +kernel
theorem dX9_needs_78 : decode cX9_needs 78 = .ok (.getfield 293, 3) := by decide +kernel
theorem dX9_needs_81 : decode cX9_needs 81 = .ok (.if_icmp .ge 27, 3) := by decide +kernel
theorem dX9_needs_84 : decode cX9_needs 84 = .ok (.aload_n 0, 1) := by decide +kernel
theorem dX9_needs_85 : decode cX9_needs 85 = .ok (.getfield 72, 3) := by decide +kernel
theorem dX9_needs_88 : decode cX9_needs 88 = .ok (.iload_n 2, 1) := by decide +kernel
theorem dX9_needs_89 : decode cX9_needs 89 = .ok (.aload_n 0, 1) := by decide +kernel
theorem dX9_needs_90 : decode cX9_needs 90 = .ok (.getfield 93, 3) := by decide +kernel
theorem dX9_needs_93 : decode cX9_needs 93 = .ok (.sipush 256, 3) := by decide +kernel
theorem dX9_needs_96 : decode cX9_needs 96 = .ok (.iload_n 1, 1) := by decide +kernel
theorem dX9_needs_97 : decode cX9_needs 97 = .ok (.imul, 1) := by decide +kernel
theorem dX9_needs_98 : decode cX9_needs 98 = .ok (.iload_n 2, 1) := by decide +kernel
theorem dX9_needs_99 : decode cX9_needs 99 = .ok (.iadd, 1) := by decide +kernel
theorem dX9_needs_100 : decode cX9_needs 100 = .ok (.iaload, 1) := by decide +kernel
theorem dX9_needs_101 : decode cX9_needs 101 = .ok (.iastore, 1) := by decide +kernel
theorem dX9_needs_102 : decode cX9_needs 102 = .ok (.iinc 2 1, 3) := by decide +kernel
theorem dX9_needs_105 : decode cX9_needs 105 = .ok (.goto (-29), 3) := by decide +kernel
theorem dX9_needs_108 : decode cX9_needs 108 = .ok (.aload_n 0, 1) := by decide +kernel
theorem dX9_needs_109 : decode cX9_needs 109 = .ok (.invokevirtual 146, 3) := by decide +kernel
theorem dX9_needs_112 : decode cX9_needs 112 = .ok (.ifCond .ne 6, 3) := by decide +kernel
theorem dX9_needs_115 : decode cX9_needs 115 = .ok (.goto 56, 3) := by decide +kernel
theorem dX9_needs_118 : decode cX9_needs 118 = .ok (.iconst 0, 1) := by decide +kernel
theorem dX9_needs_119 : decode cX9_needs 119 = .ok (.istore_n 2, 1) := by decide +kernel
theorem dX9_needs_120 : decode cX9_needs 120 = .ok (.iload_n 2, 1) := by decide +kernel
theorem dX9_needs_121 : decode cX9_needs 121 = .ok (.aload_n 0, 1) := by decide +kernel
theorem dX9_needs_122 : decode cX9_needs 122 = .ok (.getfield 293, 3) := by decide +kernel
theorem dX9_needs_125 : decode cX9_needs 125 = .ok (.if_icmp .ge 36, 3) := by decide +kernel
theorem dX9_needs_128 : decode cX9_needs 128 = .ok (.aload_n 0, 1) := by decide +kernel
theorem dX9_needs_129 : decode cX9_needs 129 = .ok (.getfield 96, 3) := by decide +kernel
theorem dX9_needs_132 : decode cX9_needs 132 = .ok (.sipush 256, 3) := by decide +kernel
theorem dX9_needs_135 : decode cX9_needs 135 = .ok (.aload_n 0, 1) := by decide +kernel
theorem dX9_needs_136 : decode cX9_needs 136 = .ok (.getfield 302, 3) := by decide +kernel
theorem dX9_needs_139 : decode cX9_needs 139 = .ok (.imul, 1) := by decide +kernel
theorem dX9_needs_140 : decode cX9_needs 140 = .ok (.iload_n 2, 1) := by decide +kernel
theorem dX9_needs_141 : decode cX9_needs 141 = .ok (.iadd, 1) := by decide +kernel
theorem dX9_needs_142 : decode cX9_needs 142 = .ok (.aload_n 0, 1) := by decide +kernel
theorem dX9_needs_143 : decode cX9_needs 143 = .ok (.getfield 93, 3) := by decide +kernel
theorem dX9_needs_146 : decode cX9_needs 146 = .ok (.sipush 256, 3) := by decide +kernel
theorem dX9_needs_149 : decode cX9_needs 149 = .ok (.iload_n 1, 1) := by decide +kernel
theorem dX9_needs_150 : decode cX9_needs 150 = .ok (.imul, 1) := by decide +kernel
theorem dX9_needs_151 : decode cX9_needs 151 = .ok (.iload_n 2, 1) := by decide +kernel
theorem dX9_needs_152 : decode cX9_needs 152 = .ok (.iadd, 1) := by decide +kernel
theorem dX9_needs_153 : decode cX9_needs 153 = .ok (.iaload, 1) := by decide +kernel
theorem dX9_needs_154 : decode cX9_needs 154 = .ok (.iastore, 1) := by decide +kernel
theorem dX9_needs_155 : decode cX9_needs 155 = .ok (.iinc 2 1, 3) := by decide +kernel
theorem dX9_needs_158 : decode cX9_needs 158 = .ok (.goto (-38), 3) := by decide +kernel
theorem dX9_needs_161 : decode cX9_needs 161 = .ok (.aload_n 0, 1) := by decide +kernel
theorem dX9_needs_162 : decode cX9_needs 162 = .ok (.dup, 1) := by decide +kernel
theorem dX9_needs_163 : decode cX9_needs 163 = .ok (.getfield 302, 3) := by decide +kernel
theorem dX9_needs_166 : decode cX9_needs 166 = .ok (.iconst 1, 1) := by decide +kernel
theorem dX9_needs_167 : decode cX9_needs 167 = .ok (.iadd, 1) := by decide +kernel
theorem dX9_needs_168 : decode cX9_needs 168 = .ok (.putfield 302, 3) := by decide +kernel
theorem dX9_needs_171 : decode cX9_needs 171 = .ok (.iinc 1 1, 3) := by decide +kernel
theorem dX9_needs_174 : decode cX9_needs 174 = .ok (.goto (-108), 3) := by decide +kernel
theorem dX9_needs_177 : decode cX9_needs 177 = .ok (.aload_n 0, 1) := by decide +kernel
theorem dX9_needs_178 : decode cX9_needs 178 = .ok (.getfield 302, 3) := by decide +kernel
theorem dX9_needs_181 : decode cX9_needs 181 = .ok (.ireturn, 1) := by decide +kernel
theorem dX9_relates_0 : decode cX9_relates 0 = .ok (.aload_n 0, 1) := by decide +kernel
theorem dX9_relates_1 : decode cX9_relates 1 = .ok (.getfield 293, 3) := by decide +kernel
theorem dX9_relates_4 : decode cX9_relates 4 = .ok (.aload_n 0, 1) := by decide +kernel
theorem dX9_relates_5 : decode cX9_relates 5 = .ok (.getfield 302, 3) := by decide +kernel
theorem dX9_relates_8 : decode cX9_relates 8 = .ok (.aload_n 0, 1) := by decide +kernel
theorem dX9_relates_9 : decode cX9_relates 9 = .ok (.getfield 18, 3) := by decide +kernel
theorem dX9_relates_12 : decode cX9_relates 12 = .ok (.imul, 1) := by decide +kernel
theorem dX9_relates_13 : decode cX9_relates 13 = .ok (.iadd, 1) := by decide +kernel
theorem dX9_relates_14 : decode cX9_relates 14 = .ok (.istore_n 1, 1) := by decide +kernel
theorem dX9_relates_15 : decode cX9_relates 15 = .ok (.aload_n 0, 1) := by decide +kernel
theorem dX9_relates_16 : decode cX9_relates 16 = .ok (.iload_n 1, 1) := by decide +kernel
theorem dX9_relates_17 : decode cX9_relates 17 = .ok (.invokevirtual 130, 3) := by decide +kernel
theorem dX9_relates_20 : decode cX9_relates 20 = .ok (.iconst 0, 1) := by decide +kernel
theorem dX9_relates_21 : decode cX9_relates 21 = .ok (.istore_n 2, 1) := by decide +kernel
theorem dX9_relates_22 : decode cX9_relates 22 = .ok (.iload_n 2, 1) := by decide +kernel
theorem dX9_relates_23 : decode cX9_relates 23 = .ok (.aload_n 0, 1) := by decide +kernel
theorem dX9_relates_24 : decode cX9_relates 24 = .ok (.getfield 302, 3) := by decide +kernel
theorem dX9_relates_27 : decode cX9_relates 27 = .ok (.if_icmp .ge 164, 3) := by decide +kernel
theorem dX9_relates_30 : decode cX9_relates 30 = .ok (.iconst 0, 1) := by decide +kernel
theorem dX9_relates_31 : decode cX9_relates 31 = .ok (.istore_n 3, 1) := by decide +kernel
theorem dX9_relates_32 : decode cX9_relates 32 = .ok (.iload_n 3, 1) := by decide +kernel
theorem dX9_relates_33 : decode cX9_relates 33 = .ok (.aload_n 0, 1) := by decide +kernel
theorem dX9_relates_34 : decode cX9_relates 34 = .ok (.getfield 18, 3) := by decide +kernel
theorem dX9_relates_37 : decode cX9_relates 37 = .ok (.if_icmp .ge 148, 3) := by decide +kernel
theorem dX9_relates_40 : decode cX9_relates 40 = .ok (.iconst 0, 1) := by decide +kernel
theorem dX9_relates_41 : decode cX9_relates 41 = .ok (.istore 4, 2) := by decide +kernel
theorem dX9_relates_43 : decode cX9_relates 43 = .ok (.iload 4, 2) := by decide +kernel
theorem dX9_relates_45 : decode cX9_relates 45 = .ok (.iload_n 1, 1) := by decide +kernel
theorem dX9_relates_46 : decode cX9_relates 46 = .ok (.if_icmp .ge 17, 3) := by decide +kernel
theorem dX9_relates_49 : decode cX9_relates 49 = .ok (.aload_n 0, 1) := by decide +kernel
theorem dX9_relates_50 : decode cX9_relates 50 = .ok (.getfield 72, 3) := by decide +kernel
theorem dX9_relates_53 : decode cX9_relates 53 = .ok (.iload 4, 2) := by decide +kernel
theorem dX9_relates_55 : decode cX9_relates 55 = .ok (.iconst 0, 1) := by decide +kernel
theorem dX9_relates_56 : decode cX9_relates 56 = .ok (.iastore, 1) := by decide +kernel
theorem dX9_relates_57 : decode cX9_relates 57 = .ok (.iinc 4 1, 3) := by decide +kernel
theorem dX9_relates_60 : decode cX9_relates 60 = .ok (.goto (-17), 3) := by decide +kernel
theorem dX9_relates_63 : decode cX9_relates 63 = .ok (.iconst 0, 1) := by decide +kernel
theorem dX9_relates_64 : decode cX9_relates 64 = .ok (.istore 4, 2) := by decide +kernel
theorem dX9_relates_66 : decode cX9_relates 66 = .ok (.iload 4, 2) := by decide +kernel
theorem dX9_relates_68 : decode cX9_relates 68 = .ok (.aload_n 0, 1) := by decide +kernel
theorem dX9_relates_69 : decode cX9_relates 69 = .ok (.getfield 293, 3) := by decide +kernel
theorem dX9_relates_72 : decode cX9_relates 72 = .ok (.if_icmp .ge 83, 3) := by decide +kernel
theorem dX9_relates_75 : decode cX9_relates 75 = .ok (.iload 4, 2) := by decide +kernel
theorem dX9_relates_77 : decode cX9_relates 77 = .ok (.aload_n 0, 1) := by decide +kernel
theorem dX9_relates_78 : decode cX9_relates 78 = .ok (.getfield 18, 3) := by decide +kernel
theorem dX9_relates_81 : decode cX9_relates 81 = .ok (.irem, 1) := by decide +kernel
theorem dX9_relates_82 : decode cX9_relates 82 = .ok (.istore 5, 2) := by decide +kernel
theorem dX9_relates_84 : decode cX9_relates 84 = .ok (.iload_n 3, 1) := by decide +kernel
theorem dX9_relates_85 : decode cX9_relates 85 = .ok (.iload 5, 2) := by decide +kernel
theorem dX9_relates_87 : decode cX9_relates 87 = .ok (.invokestatic 116, 3) := by decide +kernel
theorem dX9_relates_90 : decode cX9_relates 90 = .ok (.istore 6, 2) := by decide +kernel
theorem dX9_relates_92 : decode cX9_relates 92 = .ok (.iload 6, 2) := by decide +kernel
theorem dX9_relates_94 : decode cX9_relates 94 = .ok (.ifCond .eq 55, 3) := by decide +kernel
theorem dX9_relates_97 : decode cX9_relates 97 = .ok (.aload_n 0, 1) := by decide +kernel
theorem dX9_relates_98 : decode cX9_relates 98 = .ok (.getfield 96, 3) := by decide +kernel
theorem dX9_relates_101 : decode cX9_relates 101 = .ok (.sipush 256, 3) := by decide +kernel
theorem dX9_relates_104 : decode cX9_relates 104 = .ok (.iload_n 2, 1) := by decide +kernel
theorem dX9_relates_105 : decode cX9_relates 105 = .ok (.imul, 1) := by decide +kernel
theorem dX9_relates_106 : decode cX9_relates 106 = .ok (.iload 4, 2) := by decide +kernel
theorem dX9_relates_108 : decode cX9_relates 108 = .ok (.iadd, 1) := by decide +kernel
theorem dX9_relates_109 : decode cX9_relates 109 = .ok (.iaload, 1) := by decide +kernel
theorem dX9_relates_110 : decode cX9_relates 110 = .ok (.ifCond .eq 39, 3) := by decide +kernel
theorem dX9_relates_113 : decode cX9_relates 113 = .ok (.aload_n 0, 1) := by decide +kernel
theorem dX9_relates_114 : decode cX9_relates 114 = .ok (.getfield 72, 3) := by decide +kernel
theorem dX9_relates_117 : decode cX9_relates 117 = .ok (.iload 4, 2) := by decide +kernel
theorem dX9_relates_119 : decode cX9_relates 119 = .ok (.iload 5, 2) := by decide +kernel
theorem dX9_relates_121 : decode cX9_relates 121 = .ok (.isub, 1) := by decide +kernel
theorem dX9_relates_122 : decode cX9_relates 122 = .ok (.iload_n 3, 1) := by decide +kernel
theorem dX9_relates_123 : decode cX9_relates 123 = .ok (.iload 5, 2) := by decide +kernel
theorem dX9_relates_125 : decode cX9_relates 125 = .ok (.ior, 1) := by decide +kernel
theorem dX9_relates_126 : decode cX9_relates 126 = .ok (.iadd, 1) := by decide +kernel
theorem dX9_relates_127 : decode cX9_relates 127 = .ok (.aload_n 0, 1) := by decide +kernel
theorem dX9_relates_128 : decode cX9_relates 128 = .ok (.iload 6, 2) := by decide +kernel
theorem dX9_relates_130 : decode cX9_relates 130 = .ok (.aload_n 0, 1) := by decide +kernel
theorem dX9_relates_131 : decode cX9_relates 131 = .ok (.getfield 96, 3) := by decide +kernel
theorem dX9_relates_134 : decode cX9_relates 134 = .ok (.sipush 256, 3) := by decide +kernel
theorem dX9_relates_137 : decode cX9_relates 137 = .ok (.iload_n 2, 1) := by decide +kernel
theorem dX9_relates_138 : decode cX9_relates 138 = .ok (.imul, 1) := by decide +kernel
theorem dX9_relates_139 : decode cX9_relates 139 = .ok (.iload 4, 2) := by decide +kernel
theorem dX9_relates_141 : decode cX9_relates 141 = .ok (.iadd, 1) := by decide +kernel
theorem dX9_relates_142 : decode cX9_relates 142 = .ok (.iaload, 1) := by decide +kernel
theorem dX9_relates_143 : decode cX9_relates 143 = .ok (.imul, 1) := by decide +kernel
theorem dX9_relates_144 : decode cX9_relates 144 = .ok (.i2l, 1) := by decide +kernel
theorem dX9_relates_145 : decode cX9_relates 145 = .ok (.invokevirtual 120, 3) := by decide +kernel
theorem dX9_relates_148 : decode cX9_relates 148 = .ok (.iastore, 1) := by decide +kernel
theorem dX9_relates_149 : decode cX9_relates 149 = .ok (.iinc 4 1, 3) := by decide +kernel
theorem dX9_relates_152 : decode cX9_relates 152 = .ok (.goto (-86), 3) := by decide +kernel
theorem dX9_relates_155 : decode cX9_relates 155 = .ok (.aload_n 0, 1) := by decide +kernel
theorem dX9_relates_156 : decode cX9_relates 156 = .ok (.getfield 72, 3) := by decide +kernel
theorem dX9_relates_159 : decode cX9_relates 159 = .ok (.aload_n 0, 1) := by decide +kernel
theorem dX9_relates_160 : decode cX9_relates 160 = .ok (.getfield 293, 3) := by decide +kernel
theorem dX9_relates_163 : decode cX9_relates 163 = .ok (.aload_n 0, 1) := by decide +kernel
theorem dX9_relates_164 : decode cX9_relates 164 = .ok (.getfield 18, 3) := by decide +kernel
theorem dX9_relates_167 : decode cX9_relates 167 = .ok (.iload_n 2, 1) := by decide +kernel
theorem dX9_relates_168 : decode cX9_relates 168 = .ok (.imul, 1) := by decide +kernel
theorem dX9_relates_169 : decode cX9_relates 169 = .ok (.iadd, 1) := by decide +kernel
theorem dX9_relates_170 : decode cX9_relates 170 = .ok (.iload_n 3, 1) := by decide +kernel
theorem dX9_relates_171 : decode cX9_relates 171 = .ok (.iadd, 1) := by decide +kernel
theorem dX9_relates_172 : decode cX9_relates 172 = .ok (.iconst 1, 1) := by decide +kernel
theorem dX9_relates_173 : decode cX9_relates 173 = .ok (.iastore, 1) := by decide +kernel
theorem dX9_relates_174 : decode cX9_relates 174 = .ok (.aload_n 0, 1) := by decide +kernel
theorem dX9_relates_175 : decode cX9_relates 175 = .ok (.invokevirtual 146, 3) := by decide +kernel
theorem dX9_relates_178 : decode cX9_relates 178 = .ok (.pop, 1) := by decide +kernel
theorem dX9_relates_179 : decode cX9_relates 179 = .ok (.iinc 3 1, 3) := by decide +kernel
theorem dX9_relates_182 : decode cX9_relates 182 = .ok (.goto (-150), 3) := by decide +kernel
theorem dX9_relates_185 : decode cX9_relates 185 = .ok (.iinc 2 1, 3) := by decide +kernel
theorem dX9_relates_188 : decode cX9_relates 188 = .ok (.goto (-166), 3) := by decide +kernel
theorem dX9_relates_191 : decode cX9_relates 191 = .ok (.aload_n 0, 1) := by decide +kernel
theorem dX9_relates_192 : decode cX9_relates 192 = .ok (.iconst 0, 1) := by decide +kernel
theorem dX9_relates_193 : decode cX9_relates 193 = .ok (.putfield 296, 3) := by decide +kernel
theorem dX9_relates_196 : decode cX9_relates 196 = .ok (.iconst 0, 1) := by decide +kernel
theorem dX9_relates_197 : decode cX9_relates 197 = .ok (.istore_n 2, 1) := by decide +kernel
theorem dX9_relates_198 : decode cX9_relates 198 = .ok (.iload_n 2, 1) := by decide +kernel
theorem dX9_relates_199 : decode cX9_relates 199 = .ok (.aload_n 0, 1) := by decide +kernel
theorem dX9_relates_200 : decode cX9_relates 200 = .ok (.getfield 124, 3) := by decide +kernel
theorem dX9_relates_203 : decode cX9_relates 203 = .ok (.if_icmp .ge 88, 3) := by decide +kernel
theorem dX9_relates_206 : decode cX9_relates 206 = .ok (.aload_n 0, 1) := by decide +kernel
theorem dX9_relates_207 : decode cX9_relates 207 = .ok (.getfield 63, 3) := by decide +kernel
theorem dX9_relates_210 : decode cX9_relates 210 = .ok (.iload_n 2, 1) := by decide +kernel
theorem dX9_relates_211 : decode cX9_relates 211 = .ok (.iaload, 1) := by decide +kernel
theorem dX9_relates_212 : decode cX9_relates 212 = .ok (.aload_n 0, 1) := by decide +kernel
theorem dX9_relates_213 : decode cX9_relates 213 = .ok (.getfield 293, 3) := by decide +kernel
theorem dX9_relates_216 : decode cX9_relates 216 = .ok (.if_icmp .ge 6, 3) := by decide +kernel
theorem dX9_relates_219 : decode cX9_relates 219 = .ok (.goto 66, 3) := by decide +kernel
theorem dX9_relates_222 : decode cX9_relates 222 = .ok (.iconst 0, 1) := by decide +kernel
theorem dX9_relates_223 : decode cX9_relates 223 = .ok (.istore_n 3, 1) := by decide +kernel
theorem dX9_relates_224 : decode cX9_relates 224 = .ok (.iload_n 3, 1) := by decide +kernel
theorem dX9_relates_225 : decode cX9_relates 225 = .ok (.aload_n 0, 1) := by decide +kernel
theorem dX9_relates_226 : decode cX9_relates 226 = .ok (.getfield 302, 3) := by decide +kernel
theorem dX9_relates_229 : decode cX9_relates 229 = .ok (.aload_n 0, 1) := by decide +kernel
theorem dX9_relates_230 : decode cX9_relates 230 = .ok (.getfield 18, 3) := by decide +kernel
theorem dX9_relates_233 : decode cX9_relates 233 = .ok (.imul, 1) := by decide +kernel
theorem dX9_relates_234 : decode cX9_relates 234 = .ok (.if_icmp .ge 41, 3) := by decide +kernel
theorem dX9_relates_237 : decode cX9_relates 237 = .ok (.aload_n 0, 1) := by decide +kernel
theorem dX9_relates_238 : decode cX9_relates 238 = .ok (.getfield 93, 3) := by decide +kernel
theorem dX9_relates_241 : decode cX9_relates 241 = .ok (.sipush 256, 3) := by decide +kernel
theorem dX9_relates_244 : decode cX9_relates 244 = .ok (.aload_n 0, 1) := by decide +kernel
theorem dX9_relates_245 : decode cX9_relates 245 = .ok (.getfield 296, 3) := by decide +kernel
theorem dX9_relates_248 : decode cX9_relates 248 = .ok (.imul, 1) := by decide +kernel
theorem dX9_relates_249 : decode cX9_relates 249 = .ok (.iload_n 3, 1) := by decide +kernel
theorem dX9_relates_250 : decode cX9_relates 250 = .ok (.iadd, 1) := by decide +kernel
theorem dX9_relates_251 : decode cX9_relates 251 = .ok (.aload_n 0, 1) := by decide +kernel
theorem dX9_relates_252 : decode cX9_relates 252 = .ok (.getfield 60, 3) := by decide +kernel
theorem dX9_relates_255 : decode cX9_relates 255 = .ok (.sipush 256, 3) := by decide +kernel
theorem dX9_relates_258 : decode cX9_relates 258 = .ok (.iload_n 2, 1) := by decide +kernel
theorem dX9_relates_259 : decode cX9_relates 259 = .ok (.imul, 1) := by decide +kernel
theorem dX9_relates_260 : decode cX9_relates 260 = .ok (.aload_n 0, 1) := by decide +kernel
theorem dX9_relates_261 : decode cX9_relates 261 = .ok (.getfield 293, 3) := by decide +kernel
theorem dX9_relates_264 : decode cX9_relates 264 = .ok (.iadd, 1) := by decide +kernel
theorem dX9_relates_265 : decode cX9_relates 265 = .ok (.iload_n 3, 1) := by decide +kernel
theorem dX9_relates_266 : decode cX9_relates 266 = .ok (.iadd, 1) := by decide +kernel
theorem dX9_relates_267 : decode cX9_relates 267 = .ok (.iaload, 1) := by decide +kernel
theorem dX9_relates_268 : decode cX9_relates 268 = .ok (.iastore, 1) := by decide +kernel
theorem dX9_relates_269 : decode cX9_relates 269 = .ok (.iinc 3 1, 3) := by decide +kernel
theorem dX9_relates_272 : decode cX9_relates 272 = .ok (.goto (-48), 3) := by decide +kernel
theorem dX9_relates_275 : decode cX9_relates 275 = .ok (.aload_n 0, 1) := by decide +kernel
theorem dX9_relates_276 : decode cX9_relates 276 = .ok (.dup, 1) := by decide +kernel
theorem dX9_relates_277 : decode cX9_relates 277 = .ok (.getfield 296, 3) := by decide +kernel
theorem dX9_relates_280 : decode cX9_relates 280 = .ok (.iconst 1, 1) := by decide +kernel
theorem dX9_relates_281 : decode cX9_relates 281 = .ok (.iadd, 1) := by decide +kernel
theorem dX9_relates_282 : decode cX9_relates 282 = .ok (.putfield 296, 3) := by decide +kernel
theorem dX9_relates_285 : decode cX9_relates 285 = .ok (.iinc 2 1, 3) := by decide +kernel
theorem dX9_relates_288 : decode cX9_relates 288 = .ok (.goto (-90), 3) := by decide +kernel
theorem dX9_relates_291 : decode cX9_relates 291 = .ok (.aload_n 0, 1) := by decide +kernel
theorem dX9_relates_292 : decode cX9_relates 292 = .ok (.aload_n 0, 1) := by decide +kernel
theorem dX9_relates_293 : decode cX9_relates 293 = .ok (.getfield 302, 3) := by decide +kernel
theorem dX9_relates_296 : decode cX9_relates 296 = .ok (.aload_n 0, 1) := by decide +kernel
theorem dX9_relates_297 : decode cX9_relates 297 = .ok (.getfield 18, 3) := by decide +kernel
theorem dX9_relates_300 : decode cX9_relates 300 = .ok (.imul, 1) := by decide +kernel
theorem dX9_relates_301 : decode cX9_relates 301 = .ok (.putfield 293, 3) := by decide +kernel
theorem dX9_relates_304 : decode cX9_relates 304 = .ok (.return_, 1) := by decide +kernel
theorem dX9_step_0 : decode cX9_step 0 = .ok (.iload_n 1, 1) := by decide +kernel
theorem dX9_step_1 : decode cX9_step 1 = .ok (.i2l, 1) := by decide +kernel
theorem dX9_step_2 : decode cX9_step 2 = .ok (.lconst 0, 1) := by decide +kernel
theorem dX9_step_3 : decode cX9_step 3 = .ok (.ldc2_w 114, 3) := by decide +kernel
theorem dX9_step_6 : decode cX9_step 6 = .ok (.invokestatic 108, 3) := by decide +kernel
theorem dX9_step_9 : decode cX9_step 9 = .ok (.ifCond .ne 5, 3) := by decide +kernel
theorem dX9_step_12 : decode cX9_step 12 = .ok (.iconst (-1), 1) := by decide +kernel
theorem dX9_step_13 : decode cX9_step 13 = .ok (.ireturn, 1) := by decide +kernel
theorem dX9_step_14 : decode cX9_step 14 = .ok (.iload_n 1, 1) := by decide +kernel
theorem dX9_step_15 : decode cX9_step 15 = .ok (.iconst 2, 1) := by decide +kernel
theorem dX9_step_16 : decode cX9_step 16 = .ok (.if_icmp .ne 14, 3) := by decide +kernel
theorem dX9_step_19 : decode cX9_step 19 = .ok (.aload_n 0, 1) := by decide +kernel
theorem dX9_step_20 : decode cX9_step 20 = .ok (.getfield 9, 3) := by decide +kernel
theorem dX9_step_23 : decode cX9_step 23 = .ok (.iconst 4, 1) := by decide +kernel
theorem dX9_step_24 : decode cX9_step 24 = .ok (.if_icmp .ne 6, 3) := by decide +kernel
theorem dX9_step_27 : decode cX9_step 27 = .ok (.bipush (-3), 2) := by decide +kernel
theorem dX9_step_29 : decode cX9_step 29 = .ok (.ireturn, 1) := by decide +kernel
theorem dX9_step_30 : decode cX9_step 30 = .ok (.aload_n 0, 1) := by decide +kernel
theorem dX9_step_31 : decode cX9_step 31 = .ok (.iconst 0, 1) := by decide +kernel
theorem dX9_step_32 : decode cX9_step 32 = .ok (.invokevirtual 185, 3) := by decide +kernel
theorem dX9_step_35 : decode cX9_step 35 = .ok (.aload_n 0, 1) := by decide +kernel
theorem dX9_step_36 : decode cX9_step 36 = .ok (.aload_n 0, 1) := by decide +kernel
theorem dX9_step_37 : decode cX9_step 37 = .ok (.getfield 18, 3) := by decide +kernel
theorem dX9_step_40 : decode cX9_step 40 = .ok (.putfield 293, 3) := by decide +kernel
theorem dX9_step_43 : decode cX9_step 43 = .ok (.aload_n 0, 1) := by decide +kernel
theorem dX9_step_44 : decode cX9_step 44 = .ok (.aload_n 0, 1) := by decide +kernel
theorem dX9_step_45 : decode cX9_step 45 = .ok (.getfield 124, 3) := by decide +kernel
theorem dX9_step_48 : decode cX9_step 48 = .ok (.putfield 296, 3) := by decide +kernel
theorem dX9_step_51 : decode cX9_step 51 = .ok (.iconst 0, 1) := by decide +kernel
theorem dX9_step_52 : decode cX9_step 52 = .ok (.istore_n 2, 1) := by decide +kernel
theorem dX9_step_53 : decode cX9_step 53 = .ok (.iload_n 2, 1) := by decide +kernel
theorem dX9_step_54 : decode cX9_step 54 = .ok (.aload_n 0, 1) := by decide +kernel
theorem dX9_step_55 : decode cX9_step 55 = .ok (.getfield 124, 3) := by decide +kernel
theorem dX9_step_58 : decode cX9_step 58 = .ok (.if_icmp .ge 49, 3) := by decide +kernel
theorem dX9_step_61 : decode cX9_step 61 = .ok (.iconst 0, 1) := by decide +kernel
theorem dX9_step_62 : decode cX9_step 62 = .ok (.istore_n 3, 1) := by decide +kernel
theorem dX9_step_63 : decode cX9_step 63 = .ok (.iload_n 3, 1) := by decide +kernel
theorem dX9_step_64 : decode cX9_step 64 = .ok (.aload_n 0, 1) := by decide +kernel
theorem dX9_step_65 : decode cX9_step 65 = .ok (.getfield 18, 3) := by decide +kernel
theorem dX9_step_68 : decode cX9_step 68 = .ok (.if_icmp .ge 33, 3) := by decide +kernel
theorem dX9_step_71 : decode cX9_step 71 = .ok (.aload_n 0, 1) := by decide +kernel
theorem dX9_step_72 : decode cX9_step 72 = .ok (.getfield 93, 3) := by decide +kernel
theorem dX9_step_75 : decode cX9_step 75 = .ok (.sipush 256, 3) := by decide +kernel
theorem dX9_step_78 : decode cX9_step 78 = .ok (.iload_n 2, 1) := by decide +kernel
theorem dX9_step_79 : decode cX9_step 79 = .ok (.imul, 1) := by decide +kernel
theorem dX9_step_80 : decode cX9_step 80 = .ok (.iload_n 3, 1) := by decide +kernel
theorem dX9_step_81 : decode cX9_step 81 = .ok (.iadd, 1) := by decide +kernel
theorem dX9_step_82 : decode cX9_step 82 = .ok (.aload_n 0, 1) := by decide +kernel
theorem dX9_step_83 : decode cX9_step 83 = .ok (.getfield 60, 3) := by decide +kernel
theorem dX9_step_86 : decode cX9_step 86 = .ok (.sipush 256, 3) := by decide +kernel
theorem dX9_step_89 : decode cX9_step 89 = .ok (.iload_n 2, 1) := by decide +kernel
theorem dX9_step_90 : decode cX9_step 90 = .ok (.imul, 1) := by decide +kernel
theorem dX9_step_91 : decode cX9_step 91 = .ok (.iload_n 3, 1) := by decide +kernel
theorem dX9_step_92 : decode cX9_step 92 = .ok (.iadd, 1) := by decide +kernel
theorem dX9_step_93 : decode cX9_step 93 = .ok (.iaload, 1) := by decide +kernel
theorem dX9_step_94 : decode cX9_step 94 = .ok (.iastore, 1) := by decide +kernel
theorem dX9_step_95 : decode cX9_step 95 = .ok (.iinc 3 1, 3) := by decide +kernel
theorem dX9_step_98 : decode cX9_step 98 = .ok (.goto (-35), 3) := by decide +kernel
theorem dX9_step_101 : decode cX9_step 101 = .ok (.iinc 2 1, 3) := by decide +kernel
theorem dX9_step_104 : decode cX9_step 104 = .ok (.goto (-51), 3) := by decide +kernel
theorem dX9_step_107 : decode cX9_step 107 = .ok (.iconst 0, 1) := by decide +kernel
theorem dX9_step_108 : decode cX9_step 108 = .ok (.istore_n 2, 1) := by decide +kernel
theorem dX9_step_109 : decode cX9_step 109 = .ok (.iload_n 2, 1) := by decide +kernel
theorem dX9_step_110 : decode cX9_step 110 = .ok (.iload_n 1, 1) := by decide +kernel
theorem dX9_step_111 : decode cX9_step 111 = .ok (.if_icmp .ge 22, 3) := by decide +kernel
theorem dX9_step_114 : decode cX9_step 114 = .ok (.aload_n 0, 1) := by decide +kernel
theorem dX9_step_115 : decode cX9_step 115 = .ok (.invokevirtual 305, 3) := by decide +kernel
theorem dX9_step_118 : decode cX9_step 118 = .ok (.ifCond .ne 5, 3) := by decide +kernel
theorem dX9_step_121 : decode cX9_step 121 = .ok (.iconst 0, 1) := by decide +kernel
theorem dX9_step_122 : decode cX9_step 122 = .ok (.ireturn, 1) := by decide +kernel
theorem dX9_step_123 : decode cX9_step 123 = .ok (.aload_n 0, 1) := by decide +kernel
theorem dX9_step_124 : decode cX9_step 124 = .ok (.invokevirtual 308, 3) := by decide +kernel
theorem dX9_step_127 : decode cX9_step 127 = .ok (.iinc 2 1, 3) := by decide +kernel
theorem dX9_step_130 : decode cX9_step 130 = .ok (.goto (-21), 3) := by decide +kernel
theorem dX9_step_133 : decode cX9_step 133 = .ok (.aload_n 0, 1) := by decide +kernel
theorem dX9_step_134 : decode cX9_step 134 = .ok (.invokevirtual 305, 3) := by decide +kernel
theorem dX9_step_137 : decode cX9_step 137 = .ok (.ireturn, 1) := by decide +kernel
theorem dX9_fits_0 : decode cX9_fits 0 = .ok (.iload_n 1, 1) := by decide +kernel
theorem dX9_fits_1 : decode cX9_fits 1 = .ok (.invokestatic 246, 3) := by decide +kernel
theorem dX9_fits_4 : decode cX9_fits 4 = .ok (.ifCond .eq 29, 3) := by decide +kernel
theorem dX9_fits_7 : decode cX9_fits 7 = .ok (.iload_n 2, 1) := by decide +kernel
theorem dX9_fits_8 : decode cX9_fits 8 = .ok (.invokestatic 175, 3) := by decide +kernel
theorem dX9_fits_11 : decode cX9_fits 11 = .ok (.ifCond .eq 22, 3) := by decide +kernel
theorem dX9_fits_14 : decode cX9_fits 14 = .ok (.aload_n 0, 1) := by decide +kernel
theorem dX9_fits_15 : decode cX9_fits 15 = .ok (.iload_n 3, 1) := by decide +kernel
theorem dX9_fits_16 : decode cX9_fits 16 = .ok (.invokevirtual 179, 3) := by decide +kernel
theorem dX9_fits_19 : decode cX9_fits 19 = .ok (.ifCond .eq 14, 3) := by decide +kernel
theorem dX9_fits_22 : decode cX9_fits 22 = .ok (.iload 4, 2) := by decide +kernel
theorem dX9_fits_24 : decode cX9_fits 24 = .ok (.i2l, 1) := by decide +kernel
theorem dX9_fits_25 : decode cX9_fits 25 = .ok (.lconst 0, 1) := by decide +kernel
theorem dX9_fits_26 : decode cX9_fits 26 = .ok (.lconst 1, 1) := by decide +kernel
theorem dX9_fits_27 : decode cX9_fits 27 = .ok (.invokestatic 108, 3) := by decide +kernel
theorem dX9_fits_30 : decode cX9_fits 30 = .ok (.ifCond .ne 5, 3) := by decide +kernel
theorem dX9_fits_33 : decode cX9_fits 33 = .ok (.iconst (-1), 1) := by decide +kernel
theorem dX9_fits_34 : decode cX9_fits 34 = .ok (.ireturn, 1) := by decide +kernel
theorem dX9_fits_35 : decode cX9_fits 35 = .ok (.aload_n 0, 1) := by decide +kernel
theorem dX9_fits_36 : decode cX9_fits 36 = .ok (.iload_n 1, 1) := by decide +kernel
theorem dX9_fits_37 : decode cX9_fits 37 = .ok (.invokevirtual 185, 3) := by decide +kernel
theorem dX9_fits_40 : decode cX9_fits 40 = .ok (.bipush 16, 2) := by decide +kernel
theorem dX9_fits_42 : decode cX9_fits 42 = .ok (.iload_n 2, 1) := by decide +kernel
theorem dX9_fits_43 : decode cX9_fits 43 = .ok (.imul, 1) := by decide +kernel
theorem dX9_fits_44 : decode cX9_fits 44 = .ok (.iload_n 3, 1) := by decide +kernel
theorem dX9_fits_45 : decode cX9_fits 45 = .ok (.iadd, 1) := by decide +kernel
theorem dX9_fits_46 : decode cX9_fits 46 = .ok (.istore 5, 2) := by decide +kernel
theorem dX9_fits_48 : decode cX9_fits 48 = .ok (.aload_n 0, 1) := by decide +kernel
theorem dX9_fits_49 : decode cX9_fits 49 = .ok (.getfield 21, 3) := by decide +kernel
theorem dX9_fits_52 : decode cX9_fits 52 = .ok (.iload 5, 2) := by decide +kernel
theorem dX9_fits_54 : decode cX9_fits 54 = .ok (.iaload, 1) := by decide +kernel
theorem dX9_fits_55 : decode cX9_fits 55 = .ok (.istore 6, 2) := by decide +kernel
theorem dX9_fits_57 : decode cX9_fits 57 = .ok (.iconst 0, 1) := by decide +kernel
theorem dX9_fits_58 : decode cX9_fits 58 = .ok (.istore 7, 2) := by decide +kernel
theorem dX9_fits_60 : decode cX9_fits 60 = .ok (.bipush (-5), 2) := by decide +kernel
theorem dX9_fits_62 : decode cX9_fits 62 = .ok (.istore 8, 2) := by decide +kernel
theorem dX9_fits_64 : decode cX9_fits 64 = .ok (.aload_n 0, 1) := by decide +kernel
theorem dX9_fits_65 : decode cX9_fits 65 = .ok (.getfield 15, 3) := by decide +kernel
theorem dX9_fits_68 : decode cX9_fits 68 = .ok (.iconst 1, 1) := by decide +kernel
theorem dX9_fits_69 : decode cX9_fits 69 = .ok (.isub, 1) := by decide +kernel
theorem dX9_fits_70 : decode cX9_fits 70 = .ok (.istore 9, 2) := by decide +kernel
theorem dX9_fits_72 : decode cX9_fits 72 = .ok (.iload 9, 2) := by decide +kernel
theorem dX9_fits_74 : decode cX9_fits 74 = .ok (.ifCond .lt 36, 3) := by decide +kernel
theorem dX9_fits_77 : decode cX9_fits 77 = .ok (.aload_n 0, 1) := by decide +kernel
theorem dX9_fits_78 : decode cX9_fits 78 = .ok (.getfield 21, 3) := by decide +kernel
theorem dX9_fits_81 : decode cX9_fits 81 = .ok (.iload 5, 2) := by decide +kernel
theorem dX9_fits_83 : decode cX9_fits 83 = .ok (.iload 9, 2) := by decide +kernel
theorem dX9_fits_85 : decode cX9_fits 85 = .ok (.iastore, 1) := by decide +kernel
theorem dX9_fits_86 : decode cX9_fits 86 = .ok (.aload_n 0, 1) := by decide +kernel
theorem dX9_fits_87 : decode cX9_fits 87 = .ok (.iload_n 2, 1) := by decide +kernel
theorem dX9_fits_88 : decode cX9_fits 88 = .ok (.invokevirtual 249, 3) := by decide +kernel
theorem dX9_fits_91 : decode cX9_fits 91 = .ok (.ifCond .ne 6, 3) := by decide +kernel
theorem dX9_fits_94 : decode cX9_fits 94 = .ok (.goto 10, 3) := by decide +kernel
theorem dX9_fits_97 : decode cX9_fits 97 = .ok (.iinc 7 1, 3) := by decide +kernel
theorem dX9_fits_100 : decode cX9_fits 100 = .ok (.iload 9, 2) := by decide +kernel
theorem dX9_fits_102 : decode cX9_fits 102 = .ok (.istore 8, 2) := by decide +kernel
theorem dX9_fits_104 : decode cX9_fits 104 = .ok (.iinc 9 (-1), 3) := by decide +kernel
theorem dX9_fits_107 : decode cX9_fits 107 = .ok (.goto (-35), 3) := by decide +kernel
theorem dX9_fits_110 : decode cX9_fits 110 = .ok (.aload_n 0, 1) := by decide +kernel
theorem dX9_fits_111 : decode cX9_fits 111 = .ok (.getfield 21, 3) := by decide +kernel
theorem dX9_fits_114 : decode cX9_fits 114 = .ok (.iload 5, 2) := by decide +kernel
theorem dX9_fits_116 : decode cX9_fits 116 = .ok (.iload 6, 2) := by decide +kernel
theorem dX9_fits_118 : decode cX9_fits 118 = .ok (.iastore, 1) := by decide +kernel
theorem dX9_fits_119 : decode cX9_fits 119 = .ok (.iload 4, 2) := by decide +kernel
theorem dX9_fits_121 : decode cX9_fits 121 = .ok (.ifCond .ne 8, 3) := by decide +kernel
theorem dX9_fits_124 : decode cX9_fits 124 = .ok (.iload 7, 2) := by decide +kernel
theorem dX9_fits_126 : decode cX9_fits 126 = .ok (.goto 5, 3) := by decide +kernel
theorem dX9_fits_129 : decode cX9_fits 129 = .ok (.iload 8, 2) := by decide +kernel
theorem dX9_fits_131 : decode cX9_fits 131 = .ok (.ireturn, 1) := by decide +kernel
theorem dX9_odds_0 : decode cX9_odds 0 = .ok (.iload_n 1, 1) := by decide +kernel
theorem dX9_odds_1 : decode cX9_odds 1 = .ok (.invokestatic 246, 3) := by decide +kernel
theorem dX9_odds_4 : decode cX9_odds 4 = .ok (.ifCond .eq 13, 3) := by decide +kernel
theorem dX9_odds_7 : decode cX9_odds 7 = .ok (.iload_n 2, 1) := by decide +kernel
theorem dX9_odds_8 : decode cX9_odds 8 = .ok (.i2l, 1) := by decide +kernel
theorem dX9_odds_9 : decode cX9_odds 9 = .ok (.lconst 0, 1) := by decide +kernel
theorem dX9_odds_10 : decode cX9_odds 10 = .ok (.lconst 1, 1) := by decide +kernel
theorem dX9_odds_11 : decode cX9_odds 11 = .ok (.invokestatic 108, 3) := by decide +kernel
theorem dX9_odds_14 : decode cX9_odds 14 = .ok (.ifCond .ne 7, 3) := by decide +kernel
theorem dX9_odds_17 : decode cX9_odds 17 = .ok (.ldc2_w 263, 3) := by decide +kernel
theorem dX9_odds_20 : decode cX9_odds 20 = .ok (.lreturn, 1) := by decide +kernel
theorem dX9_odds_21 : decode cX9_odds 21 = .ok (.aload_n 0, 1) := by decide +kernel
theorem dX9_odds_22 : decode cX9_odds 22 = .ok (.iload_n 1, 1) := by decide +kernel
theorem dX9_odds_23 : decode cX9_odds 23 = .ok (.invokevirtual 185, 3) := by decide +kernel
theorem dX9_odds_26 : decode cX9_odds 26 = .ok (.lconst 1, 1) := by decide +kernel
theorem dX9_odds_27 : decode cX9_odds 27 = .ok (.lstore_n 3, 1) := by decide +kernel
theorem dX9_odds_28 : decode cX9_odds 28 = .ok (.aload_n 0, 1) := by decide +kernel
theorem dX9_odds_29 : decode cX9_odds 29 = .ok (.getfield 124, 3) := by decide +kernel
theorem dX9_odds_32 : decode cX9_odds 32 = .ok (.istore 5, 2) := by decide +kernel
theorem dX9_odds_34 : decode cX9_odds 34 = .ok (.iload 5, 2) := by decide +kernel
theorem dX9_odds_36 : decode cX9_odds 36 = .ok (.aload_n 0, 1) := by decide +kernel
theorem dX9_odds_37 : decode cX9_odds 37 = .ok (.getfield 18, 3) := by decide +kernel
theorem dX9_odds_40 : decode cX9_odds 40 = .ok (.if_icmp .ge 17, 3) := by decide +kernel
theorem dX9_odds_43 : decode cX9_odds 43 = .ok (.lload_n 3, 1) := by decide +kernel
theorem dX9_odds_44 : decode cX9_odds 44 = .ok (.aload_n 0, 1) := by decide +kernel
theorem dX9_odds_45 : decode cX9_odds 45 = .ok (.getfield 15, 3) := by decide +kernel
theorem dX9_odds_48 : decode cX9_odds 48 = .ok (.i2l, 1) := by decide +kernel
theorem dX9_odds_49 : decode cX9_odds 49 = .ok (.lmul, 1) := by decide +kernel
theorem dX9_odds_50 : decode cX9_odds 50 = .ok (.lstore_n 3, 1) := by decide +kernel
theorem dX9_odds_51 : decode cX9_odds 51 = .ok (.iinc 5 1, 3) := by decide +kernel
theorem dX9_odds_54 : decode cX9_odds 54 = .ok (.goto (-20), 3) := by decide +kernel
theorem dX9_odds_57 : decode cX9_odds 57 = .ok (.iload_n 2, 1) := by decide +kernel
theorem dX9_odds_58 : decode cX9_odds 58 = .ok (.ifCond .ne 7, 3) := by decide +kernel
theorem dX9_odds_61 : decode cX9_odds 61 = .ok (.lconst 1, 1) := by decide +kernel
theorem dX9_odds_62 : decode cX9_odds 62 = .ok (.goto 4, 3) := by decide +kernel
theorem dX9_odds_65 : decode cX9_odds 65 = .ok (.lload_n 3, 1) := by decide +kernel
theorem dX9_odds_66 : decode cX9_odds 66 = .ok (.lreturn, 1) := by decide +kernel
theorem dX9_event_0 : decode cX9_event 0 = .ok (.iload_n 1, 1) := by decide +kernel
theorem dX9_event_1 : decode cX9_event 1 = .ok (.iconst (-1), 1) := by decide +kernel
theorem dX9_event_2 : decode cX9_event 2 = .ok (.if_icmp .ne 10, 3) := by decide +kernel
theorem dX9_event_5 : decode cX9_event 5 = .ok (.aload_n 0, 1) := by decide +kernel
theorem dX9_event_6 : decode cX9_event 6 = .ok (.iconst 0, 1) := by decide +kernel
theorem dX9_event_7 : decode cX9_event 7 = .ok (.putfield 311, 3) := by decide +kernel
theorem dX9_event_10 : decode cX9_event 10 = .ok (.iconst 0, 1) := by decide +kernel
theorem dX9_event_11 : decode cX9_event 11 = .ok (.ireturn, 1) := by decide +kernel
theorem dX9_event_12 : decode cX9_event 12 = .ok (.iload_n 1, 1) := by decide +kernel
theorem dX9_event_13 : decode cX9_event 13 = .ok (.i2l, 1) := by decide +kernel
theorem dX9_event_14 : decode cX9_event 14 = .ok (.lconst 0, 1) := by decide +kernel
theorem dX9_event_15 : decode cX9_event 15 = .ok (.ldc2_w 170, 3) := by decide +kernel
theorem dX9_event_18 : decode cX9_event 18 = .ok (.invokestatic 108, 3) := by decide +kernel
theorem dX9_event_21 : decode cX9_event 21 = .ok (.ifCond .eq 29, 3) := by decide +kernel
theorem dX9_event_24 : decode cX9_event 24 = .ok (.iload_n 1, 1) := by decide +kernel
theorem dX9_event_25 : decode cX9_event 25 = .ok (.ifCond .ne 10, 3) := by decide +kernel
theorem dX9_event_28 : decode cX9_event 28 = .ok (.iload_n 2, 1) := by decide +kernel
theorem dX9_event_29 : decode cX9_event 29 = .ok (.invokestatic 175, 3) := by decide +kernel
theorem dX9_event_32 : decode cX9_event 32 = .ok (.ifCond .eq 18, 3) := by decide +kernel
theorem dX9_event_35 : decode cX9_event 35 = .ok (.iload_n 1, 1) := by decide +kernel
theorem dX9_event_36 : decode cX9_event 36 = .ok (.iconst 3, 1) := by decide +kernel
theorem dX9_event_37 : decode cX9_event 37 = .ok (.if_icmp .ne 15, 3) := by decide +kernel
theorem dX9_event_40 : decode cX9_event 40 = .ok (.iload_n 2, 1) := by decide +kernel
theorem dX9_event_41 : decode cX9_event 41 = .ok (.i2l, 1) := by decide +kernel
theorem dX9_event_42 : decode cX9_event 42 = .ok (.lconst 0, 1) := by decide +kernel
theorem dX9_event_43 : decode cX9_event 43 = .ok (.lconst 1, 1) := by decide +kernel
theorem dX9_event_44 : decode cX9_event 44 = .ok (.invokestatic 108, 3) := by decide +kernel
theorem dX9_event_47 : decode cX9_event 47 = .ok (.ifCond .ne 5, 3) := by decide +kernel
theorem dX9_event_50 : decode cX9_event 50 = .ok (.iconst (-1), 1) := by decide +kernel
theorem dX9_event_51 : decode cX9_event 51 = .ok (.ireturn, 1) := by decide +kernel
theorem dX9_event_52 : decode cX9_event 52 = .ok (.iload_n 1, 1) := by decide +kernel
theorem dX9_event_53 : decode cX9_event 53 = .ok (.ifCond .eq 23, 3) := by decide +kernel
theorem dX9_event_56 : decode cX9_event 56 = .ok (.iload_n 1, 1) := by decide +kernel
theorem dX9_event_57 : decode cX9_event 57 = .ok (.iconst 3, 1) := by decide +kernel
theorem dX9_event_58 : decode cX9_event 58 = .ok (.if_icmp .eq 18, 3) := by decide +kernel
theorem dX9_event_61 : decode cX9_event 61 = .ok (.iload_n 2, 1) := by decide +kernel
theorem dX9_event_62 : decode cX9_event 62 = .ok (.i2l, 1) := by decide +kernel
theorem dX9_event_63 : decode cX9_event 63 = .ok (.lconst 0, 1) := by decide +kernel
theorem dX9_event_64 : decode cX9_event 64 = .ok (.ldc2_w 282, 3) := by decide +kernel
theorem dX9_event_67 : decode cX9_event 67 = .ok (.invokestatic 108, 3) := by decide +kernel
theorem dX9_event_70 : decode cX9_event 70 = .ok (.ifCond .ne 6, 3) := by decide +kernel
theorem dX9_event_73 : decode cX9_event 73 = .ok (.bipush (-2), 2) := by decide +kernel
theorem dX9_event_75 : decode cX9_event 75 = .ok (.ireturn, 1) := by decide +kernel
theorem dX9_event_76 : decode cX9_event 76 = .ok (.aload_n 0, 1) := by decide +kernel
theorem dX9_event_77 : decode cX9_event 77 = .ok (.getfield 311, 3) := by decide +kernel
theorem dX9_event_80 : decode cX9_event 80 = .ok (.bipush 8, 2) := by decide +kernel
theorem dX9_event_82 : decode cX9_event 82 = .ok (.if_icmp .ne 6, 3) := by decide +kernel
theorem dX9_event_85 : decode cX9_event 85 = .ok (.bipush (-4), 2) := by decide +kernel
theorem dX9_event_87 : decode cX9_event 87 = .ok (.ireturn, 1) := by decide +kernel
theorem dX9_event_88 : decode cX9_event 88 = .ok (.aload_n 0, 1) := by decide +kernel
theorem dX9_event_89 : decode cX9_event 89 = .ok (.getfield 28, 3) := by decide +kernel
theorem dX9_event_92 : decode cX9_event 92 = .ok (.aload_n 0, 1) := by decide +kernel
theorem dX9_event_93 : decode cX9_event 93 = .ok (.getfield 311, 3) := by decide +kernel
theorem dX9_event_96 : decode cX9_event 96 = .ok (.iload_n 1, 1) := by decide +kernel
theorem dX9_event_97 : decode cX9_event 97 = .ok (.iastore, 1) := by decide +kernel
theorem dX9_event_98 : decode cX9_event 98 = .ok (.aload_n 0, 1) := by decide +kernel
theorem dX9_event_99 : decode cX9_event 99 = .ok (.getfield 31, 3) := by decide +kernel
theorem dX9_event_102 : decode cX9_event 102 = .ok (.aload_n 0, 1) := by decide +kernel
theorem dX9_event_103 : decode cX9_event 103 = .ok (.getfield 311, 3) := by decide +kernel
theorem dX9_event_106 : decode cX9_event 106 = .ok (.iload_n 2, 1) := by decide +kernel
theorem dX9_event_107 : decode cX9_event 107 = .ok (.iastore, 1) := by decide +kernel
theorem dX9_event_108 : decode cX9_event 108 = .ok (.aload_n 0, 1) := by decide +kernel
theorem dX9_event_109 : decode cX9_event 109 = .ok (.dup, 1) := by decide +kernel
theorem dX9_event_110 : decode cX9_event 110 = .ok (.getfield 311, 3) := by decide +kernel
theorem dX9_event_113 : decode cX9_event 113 = .ok (.iconst 1, 1) := by decide +kernel
theorem dX9_event_114 : decode cX9_event 114 = .ok (.iadd, 1) := by decide +kernel
theorem dX9_event_115 : decode cX9_event 115 = .ok (.putfield 311, 3) := by decide +kernel
theorem dX9_event_118 : decode cX9_event 118 = .ok (.aload_n 0, 1) := by decide +kernel
theorem dX9_event_119 : decode cX9_event 119 = .ok (.getfield 311, 3) := by decide +kernel
theorem dX9_event_122 : decode cX9_event 122 = .ok (.ireturn, 1) := by decide +kernel
theorem dX9_happens_0 : decode cX9_happens 0 = .ok (.iload_n 1, 1) := by decide +kernel
theorem dX9_happens_1 : decode cX9_happens 1 = .ok (.ifCond .ne 20, 3) := by decide +kernel
theorem dX9_happens_4 : decode cX9_happens 4 = .ok (.aload_n 0, 1) := by decide +kernel
theorem dX9_happens_5 : decode cX9_happens 5 = .ok (.getfield 153, 3) := by decide +kernel
theorem dX9_happens_8 : decode cX9_happens 8 = .ok (.iconst 4, 1) := by decide +kernel
theorem dX9_happens_9 : decode cX9_happens 9 = .ok (.if_icmp .ge 201, 3) := by decide +kernel
theorem dX9_happens_12 : decode cX9_happens 12 = .ok (.aload_n 0, 1) := by decide +kernel
theorem dX9_happens_13 : decode cX9_happens 13 = .ok (.iload_n 2, 1) := by decide +kernel
theorem dX9_happens_14 : decode cX9_happens 14 = .ok (.invokevirtual 225, 3) := by decide +kernel
theorem dX9_happens_17 : decode cX9_happens 17 = .ok (.pop, 1) := by decide +kernel
theorem dX9_happens_18 : decode cX9_happens 18 = .ok (.goto 192, 3) := by decide +kernel
theorem dX9_happens_21 : decode cX9_happens 21 = .ok (.iload_n 1, 1) := by decide +kernel
theorem dX9_happens_22 : decode cX9_happens 22 = .ok (.iconst 3, 1) := by decide +kernel
theorem dX9_happens_23 : decode cX9_happens 23 = .ok (.if_icmp .ne 11, 3) := by decide +kernel
theorem dX9_happens_26 : decode cX9_happens 26 = .ok (.aload_n 0, 1) := by decide +kernel
theorem dX9_happens_27 : decode cX9_happens 27 = .ok (.iload_n 2, 1) := by decide +kernel
theorem dX9_happens_28 : decode cX9_happens 28 = .ok (.putfield 134, 3) := by decide +kernel
theorem dX9_happens_31 : decode cX9_happens 31 = .ok (.goto 179, 3) := by decide +kernel
theorem dX9_happens_34 : decode cX9_happens 34 = .ok (.iload_n 1, 1) := by decide +kernel
theorem dX9_happens_35 : decode cX9_happens 35 = .ok (.iconst 4, 1) := by decide +kernel
theorem dX9_happens_36 : decode cX9_happens 36 = .ok (.if_icmp .ne 62, 3) := by decide +kernel
theorem dX9_happens_39 : decode cX9_happens 39 = .ok (.iload_n 2, 1) := by decide +kernel
theorem dX9_happens_40 : decode cX9_happens 40 = .ok (.aload_n 0, 1) := by decide +kernel
theorem dX9_happens_41 : decode cX9_happens 41 = .ok (.getfield 153, 3) := by decide +kernel
theorem dX9_happens_44 : decode cX9_happens 44 = .ok (.if_icmp .lt 4, 3) := by decide +kernel
theorem dX9_happens_47 : decode cX9_happens 47 = .ok (.return_, 1) := by decide +kernel
theorem dX9_happens_48 : decode cX9_happens 48 = .ok (.aload_n 0, 1) := by decide +kernel
theorem dX9_happens_49 : decode cX9_happens 49 = .ok (.dup, 1) := by decide +kernel
theorem dX9_happens_50 : decode cX9_happens 50 = .ok (.getfield 153, 3) := by decide +kernel
theorem dX9_happens_53 : decode cX9_happens 53 = .ok (.iconst 1, 1) := by decide +kernel
theorem dX9_happens_54 : decode cX9_happens 54 = .ok (.isub, 1) := by decide +kernel
theorem dX9_happens_55 : decode cX9_happens 55 = .ok (.putfield 153, 3) := by decide +kernel
theorem dX9_happens_58 : decode cX9_happens 58 = .ok (.bipush 16, 2) := by decide +kernel
theorem dX9_happens_60 : decode cX9_happens 60 = .ok (.iload_n 2, 1) := by decide +kernel
theorem dX9_happens_61 : decode cX9_happens 61 = .ok (.imul, 1) := by decide +kernel
theorem dX9_happens_62 : decode cX9_happens 62 = .ok (.istore_n 3, 1) := by decide +kernel
theorem dX9_happens_63 : decode cX9_happens 63 = .ok (.iload_n 3, 1) := by decide +kernel
theorem dX9_happens_64 : decode cX9_happens 64 = .ok (.bipush 16, 2) := by decide +kernel
theorem dX9_happens_66 : decode cX9_happens 66 = .ok (.aload_n 0, 1) := by decide +kernel
theorem dX9_happens_67 : decode cX9_happens 67 = .ok (.getfield 153, 3) := by decide +kernel
theorem dX9_happens_70 : decode cX9_happens 70 = .ok (.imul, 1) := by decide +kernel
theorem dX9_happens_71 : decode cX9_happens 71 = .ok (.if_icmp .ge 24, 3) := by decide +kernel
theorem dX9_happens_74 : decode cX9_happens 74 = .ok (.aload_n 0, 1) := by decide +kernel
theorem dX9_happens_75 : decode cX9_happens 75 = .ok (.getfield 25, 3) := by decide +kernel
theorem dX9_happens_78 : decode cX9_happens 78 = .ok (.iload_n 3, 1) := by decide +kernel
theorem dX9_happens_79 : decode cX9_happens 79 = .ok (.aload_n 0, 1) := by decide +kernel
theorem dX9_happens_80 : decode cX9_happens 80 = .ok (.getfield 25, 3) := by decide +kernel
theorem dX9_happens_83 : decode cX9_happens 83 = .ok (.iload_n 3, 1) := by decide +kernel
theorem dX9_happens_84 : decode cX9_happens 84 = .ok (.bipush 16, 2) := by decide +kernel
theorem dX9_happens_86 : decode cX9_happens 86 = .ok (.iadd, 1) := by decide +kernel
theorem dX9_happens_87 : decode cX9_happens 87 = .ok (.iaload, 1) := by decide +kernel
theorem dX9_happens_88 : decode cX9_happens 88 = .ok (.iastore, 1) := by decide +kernel
theorem dX9_happens_89 : decode cX9_happens 89 = .ok (.iinc 3 1, 3) := by decide +kernel
theorem dX9_happens_92 : decode cX9_happens 92 = .ok (.goto (-29), 3) := by decide +kernel
theorem dX9_happens_95 : decode cX9_happens 95 = .ok (.goto 115, 3) := by decide +kernel
theorem dX9_happens_98 : decode cX9_happens 98 = .ok (.iload_n 2, 1) := by decide +kernel
theorem dX9_happens_99 : decode cX9_happens 99 = .ok (.aload_n 0, 1) := by decide +kernel
theorem dX9_happens_100 : decode cX9_happens 100 = .ok (.getfield 9, 3) := by decide +kernel
theorem dX9_happens_103 : decode cX9_happens 103 = .ok (.if_icmp .ge 107, 3) := by decide +kernel
theorem dX9_happens_106 : decode cX9_happens 106 = .ok (.iconst 0, 1) := by decide +kernel
theorem dX9_happens_107 : decode cX9_happens 107 = .ok (.istore_n 3, 1) := by decide +kernel
theorem dX9_happens_108 : decode cX9_happens 108 = .ok (.iload_n 3, 1) := by decide +kernel
theorem dX9_happens_109 : decode cX9_happens 109 = .ok (.aload_n 0, 1) := by decide +kernel
theorem dX9_happens_110 : decode cX9_happens 110 = .ok (.getfield 153, 3) := by decide +kernel
theorem dX9_happens_113 : decode cX9_happens 113 = .ok (.if_icmp .ge 97, 3) := by decide +kernel
theorem dX9_happens_116 : decode cX9_happens 116 = .ok (.aload_n 0, 1) := by decide +kernel
theorem dX9_happens_117 : decode cX9_happens 117 = .ok (.aload_n 0, 1) := by decide +kernel
theorem dX9_happens_118 : decode cX9_happens 118 = .ok (.getfield 75, 3) := by decide +kernel
theorem dX9_happens_121 : decode cX9_happens 121 = .ok (.iconst 1, 1) := by decide +kernel
theorem dX9_happens_122 : decode cX9_happens 122 = .ok (.iload_n 2, 1) := by decide +kernel
theorem dX9_happens_123 : decode cX9_happens 123 = .ok (.ishl, 1) := by decide +kernel
theorem dX9_happens_124 : decode cX9_happens 124 = .ok (.invokevirtual 156, 3) := by decide +kernel
theorem dX9_happens_127 : decode cX9_happens 127 = .ok (.iload_n 1, 1) := by decide +kernel
theorem dX9_happens_128 : decode cX9_happens 128 = .ok (.iconst 1, 1) := by decide +kernel
theorem dX9_happens_129 : decode cX9_happens 129 = .ok (.if_icmp .ne 23, 3) := by decide +kernel
theorem dX9_happens_132 : decode cX9_happens 132 = .ok (.aload_n 0, 1) := by decide +kernel
theorem dX9_happens_133 : decode cX9_happens 133 = .ok (.aload_n 0, 1) := by decide +kernel
theorem dX9_happens_134 : decode cX9_happens 134 = .ok (.getfield 75, 3) := by decide +kernel
theorem dX9_happens_137 : decode cX9_happens 137 = .ok (.iconst 0, 1) := by decide +kernel
theorem dX9_happens_138 : decode cX9_happens 138 = .ok (.aload_n 0, 1) := by decide +kernel
theorem dX9_happens_139 : decode cX9_happens 139 = .ok (.getfield 25, 3) := by decide +kernel
theorem dX9_happens_142 : decode cX9_happens 142 = .ok (.bipush 16, 2) := by decide +kernel
theorem dX9_happens_144 : decode cX9_happens 144 = .ok (.iload_n 3, 1) := by decide +kernel
theorem dX9_happens_145 : decode cX9_happens 145 = .ok (.imul, 1) := by decide +kernel
theorem dX9_happens_146 : decode cX9_happens 146 = .ok (.invokevirtual 160, 3) := by decide +kernel
theorem dX9_happens_149 : decode cX9_happens 149 = .ok (.goto 20, 3) := by decide +kernel
theorem dX9_happens_152 : decode cX9_happens 152 = .ok (.aload_n 0, 1) := by decide +kernel
theorem dX9_happens_153 : decode cX9_happens 153 = .ok (.aload_n 0, 1) := by decide +kernel
theorem dX9_happens_154 : decode cX9_happens 154 = .ok (.getfield 25, 3) := by decide +kernel
theorem dX9_happens_157 : decode cX9_happens 157 = .ok (.bipush 16, 2) := by decide +kernel
theorem dX9_happens_159 : decode cX9_happens 159 = .ok (.iload_n 3, 1) := by decide +kernel
theorem dX9_happens_160 : decode cX9_happens 160 = .ok (.imul, 1) := by decide +kernel
theorem dX9_happens_161 : decode cX9_happens 161 = .ok (.aload_n 0, 1) := by decide +kernel
theorem dX9_happens_162 : decode cX9_happens 162 = .ok (.getfield 75, 3) := by decide +kernel
theorem dX9_happens_165 : decode cX9_happens 165 = .ok (.iconst 0, 1) := by decide +kernel
theorem dX9_happens_166 : decode cX9_happens 166 = .ok (.invokevirtual 160, 3) := by decide +kernel
theorem dX9_happens_169 : decode cX9_happens 169 = .ok (.iconst 0, 1) := by decide +kernel
theorem dX9_happens_170 : decode cX9_happens 170 = .ok (.istore 4, 2) := by decide +kernel
theorem dX9_happens_172 : decode cX9_happens 172 = .ok (.iload 4, 2) := by decide +kernel
theorem dX9_happens_174 : decode cX9_happens 174 = .ok (.bipush 16, 2) := by decide +kernel
theorem dX9_happens_176 : decode cX9_happens 176 = .ok (.if_icmp .ge 28, 3) := by decide +kernel
theorem dX9_happens_179 : decode cX9_happens 179 = .ok (.aload_n 0, 1) := by decide +kernel
theorem dX9_happens_180 : decode cX9_happens 180 = .ok (.getfield 25, 3) := by decide +kernel
theorem dX9_happens_183 : decode cX9_happens 183 = .ok (.bipush 16, 2) := by decide +kernel
theorem dX9_happens_185 : decode cX9_happens 185 = .ok (.iload_n 3, 1) := by decide +kernel
theorem dX9_happens_186 : decode cX9_happens 186 = .ok (.imul, 1) := by decide +kernel
theorem dX9_happens_187 : decode cX9_happens 187 = .ok (.iload 4, 2) := by decide +kernel
theorem dX9_happens_189 : decode cX9_happens 189 = .ok (.iadd, 1) := by decide +kernel
theorem dX9_happens_190 : decode cX9_happens 190 = .ok (.aload_n 0, 1) := by decide +kernel
theorem dX9_happens_191 : decode cX9_happens 191 = .ok (.getfield 81, 3) := by decide +kernel
theorem dX9_happens_194 : decode cX9_happens 194 = .ok (.iload 4, 2) := by decide +kernel
theorem dX9_happens_196 : decode cX9_happens 196 = .ok (.iaload, 1) := by decide +kernel
theorem dX9_happens_197 : decode cX9_happens 197 = .ok (.iastore, 1) := by decide +kernel
theorem dX9_happens_198 : decode cX9_happens 198 = .ok (.iinc 4 1, 3) := by decide +kernel
theorem dX9_happens_201 : decode cX9_happens 201 = .ok (.goto (-29), 3) := by decide +kernel
theorem dX9_happens_204 : decode cX9_happens 204 = .ok (.iinc 3 1, 3) := by decide +kernel
theorem dX9_happens_207 : decode cX9_happens 207 = .ok (.goto (-99), 3) := by decide +kernel
theorem dX9_happens_210 : decode cX9_happens 210 = .ok (.return_, 1) := by decide +kernel
theorem dX9_after_0 : decode cX9_after 0 = .ok (.iload_n 1, 1) := by decide +kernel
theorem dX9_after_1 : decode cX9_after 1 = .ok (.invokestatic 246, 3) := by decide +kernel
theorem dX9_after_4 : decode cX9_after 4 = .ok (.ifCond .eq 15, 3) := by decide +kernel
theorem dX9_after_7 : decode cX9_after 7 = .ok (.iload_n 2, 1) := by decide +kernel
theorem dX9_after_8 : decode cX9_after 8 = .ok (.i2l, 1) := by decide +kernel
theorem dX9_after_9 : decode cX9_after 9 = .ok (.lconst 0, 1) := by decide +kernel
theorem dX9_after_10 : decode cX9_after 10 = .ok (.ldc2_w 114, 3) := by decide +kernel
theorem dX9_after_13 : decode cX9_after 13 = .ok (.invokestatic 108, 3) := by decide +kernel
theorem dX9_after_16 : decode cX9_after 16 = .ok (.ifCond .ne 5, 3) := by decide +kernel
theorem dX9_after_19 : decode cX9_after 19 = .ok (.iconst (-1), 1) := by decide +kernel
theorem dX9_after_20 : decode cX9_after 20 = .ok (.ireturn, 1) := by decide +kernel
theorem dX9_after_21 : decode cX9_after 21 = .ok (.aload_n 0, 1) := by decide +kernel
theorem dX9_after_22 : decode cX9_after 22 = .ok (.aload_n 0, 1) := by decide +kernel
theorem dX9_after_23 : decode cX9_after 23 = .ok (.getfield 56, 3) := by decide +kernel
theorem dX9_after_26 : decode cX9_after 26 = .ok (.invokevirtual 314, 3) := by decide +kernel
theorem dX9_after_29 : decode cX9_after 29 = .ok (.iconst 0, 1) := by decide +kernel
theorem dX9_after_30 : decode cX9_after 30 = .ok (.istore_n 3, 1) := by decide +kernel
theorem dX9_after_31 : decode cX9_after 31 = .ok (.iload_n 3, 1) := by decide +kernel
theorem dX9_after_32 : decode cX9_after 32 = .ok (.aload_n 0, 1) := by decide +kernel
theorem dX9_after_33 : decode cX9_after 33 = .ok (.getfield 311, 3) := by decide +kernel
theorem dX9_after_36 : decode cX9_after 36 = .ok (.if_icmp .ge 25, 3) := by decide +kernel
theorem dX9_after_39 : decode cX9_after 39 = .ok (.aload_n 0, 1) := by decide +kernel
theorem dX9_after_40 : decode cX9_after 40 = .ok (.aload_n 0, 1) := by decide +kernel
theorem dX9_after_41 : decode cX9_after 41 = .ok (.getfield 28, 3) := by decide +kernel
theorem dX9_after_44 : decode cX9_after 44 = .ok (.iload_n 3, 1) := by decide +kernel
theorem dX9_after_45 : decode cX9_after 45 = .ok (.iaload, 1) := by decide +kernel
theorem dX9_after_46 : decode cX9_after 46 = .ok (.aload_n 0, 1) := by decide +kernel
theorem dX9_after_47 : decode cX9_after 47 = .ok (.getfield 31, 3) := by decide +kernel
theorem dX9_after_50 : decode cX9_after 50 = .ok (.iload_n 3, 1) := by decide +kernel
theorem dX9_after_51 : decode cX9_after 51 = .ok (.iaload, 1) := by decide +kernel
theorem dX9_after_52 : decode cX9_after 52 = .ok (.invokevirtual 318, 3) := by decide +kernel
theorem dX9_after_55 : decode cX9_after 55 = .ok (.iinc 3 1, 3) := by decide +kernel
theorem dX9_after_58 : decode cX9_after 58 = .ok (.goto (-27), 3) := by decide +kernel
theorem dX9_after_61 : decode cX9_after 61 = .ok (.aload_n 0, 1) := by decide +kernel
theorem dX9_after_62 : decode cX9_after 62 = .ok (.iload_n 1, 1) := by decide +kernel
theorem dX9_after_63 : decode cX9_after 63 = .ok (.invokevirtual 185, 3) := by decide +kernel
theorem dX9_after_66 : decode cX9_after 66 = .ok (.iload_n 2, 1) := by decide +kernel
theorem dX9_after_67 : decode cX9_after 67 = .ok (.ifCond .ne 10, 3) := by decide +kernel
theorem dX9_after_70 : decode cX9_after 70 = .ok (.aload_n 0, 1) := by decide +kernel
theorem dX9_after_71 : decode cX9_after 71 = .ok (.getfield 124, 3) := by decide +kernel
theorem dX9_after_74 : decode cX9_after 74 = .ok (.goto 19, 3) := by decide +kernel
theorem dX9_after_77 : decode cX9_after 77 = .ok (.iload_n 2, 1) := by decide +kernel
theorem dX9_after_78 : decode cX9_after 78 = .ok (.iconst 1, 1) := by decide +kernel
theorem dX9_after_79 : decode cX9_after 79 = .ok (.if_icmp .ne 10, 3) := by decide +kernel
theorem dX9_after_82 : decode cX9_after 82 = .ok (.aload_n 0, 1) := by decide +kernel
theorem dX9_after_83 : decode cX9_after 83 = .ok (.invokevirtual 290, 3) := by decide +kernel
theorem dX9_after_86 : decode cX9_after 86 = .ok (.goto 7, 3) := by decide +kernel
theorem dX9_after_89 : decode cX9_after 89 = .ok (.aload_n 0, 1) := by decide +kernel
theorem dX9_after_90 : decode cX9_after 90 = .ok (.getfield 153, 3) := by decide +kernel
theorem dX9_after_93 : decode cX9_after 93 = .ok (.istore_n 3, 1) := by decide +kernel
theorem dX9_after_94 : decode cX9_after 94 = .ok (.aload_n 0, 1) := by decide +kernel
theorem dX9_after_95 : decode cX9_after 95 = .ok (.aload_n 0, 1) := by decide +kernel
theorem dX9_after_96 : decode cX9_after 96 = .ok (.getfield 56, 3) := by decide +kernel
theorem dX9_after_99 : decode cX9_after 99 = .ok (.invokevirtual 322, 3) := by decide +kernel
theorem dX9_after_102 : decode cX9_after 102 = .ok (.iload_n 3, 1) := by decide +kernel
theorem dX9_after_103 : decode cX9_after 103 = .ok (.ireturn, 1) := by decide +kernel
theorem dX9_isSpot_0 : decode cX9_isSpot 0 = .ok (.iload_n 1, 1) := by decide +kernel
theorem dX9_isSpot_1 : decode cX9_isSpot 1 = .ok (.i2l, 1) := by decide +kernel
theorem dX9_isSpot_2 : decode cX9_isSpot 2 = .ok (.lconst 0, 1) := by decide +kernel
theorem dX9_isSpot_3 : decode cX9_isSpot 3 = .ok (.ldc2_w 325, 3) := by decide +kernel
theorem dX9_isSpot_6 : decode cX9_isSpot 6 = .ok (.invokestatic 108, 3) := by decide +kernel
theorem dX9_isSpot_9 : decode cX9_isSpot 9 = .ok (.ifCond .eq 18, 3) := by decide +kernel
theorem dX9_isSpot_12 : decode cX9_isSpot 12 = .ok (.aload_n 0, 1) := by decide +kernel
theorem dX9_isSpot_13 : decode cX9_isSpot 13 = .ok (.iload_n 1, 1) := by decide +kernel
theorem dX9_isSpot_14 : decode cX9_isSpot 14 = .ok (.bipush 100, 2) := by decide +kernel
theorem dX9_isSpot_16 : decode cX9_isSpot 16 = .ok (.irem, 1) := by decide +kernel
theorem dX9_isSpot_17 : decode cX9_isSpot 17 = .ok (.invokevirtual 179, 3) := by decide +kernel
theorem dX9_isSpot_20 : decode cX9_isSpot 20 = .ok (.ifCond .eq 7, 3) := by decide +kernel
theorem dX9_isSpot_23 : decode cX9_isSpot 23 = .ok (.iconst 1, 1) := by decide +kernel
theorem dX9_isSpot_24 : decode cX9_isSpot 24 = .ok (.goto 4, 3) := by decide +kernel
theorem dX9_isSpot_27 : decode cX9_isSpot 27 = .ok (.iconst 0, 1) := by decide +kernel
theorem dX9_isSpot_28 : decode cX9_isSpot 28 = .ok (.ireturn, 1) := by decide +kernel
theorem dX9_book_0 : decode cX9_book 0 = .ok (.iload_n 1, 1) := by decide +kernel
theorem dX9_book_1 : decode cX9_book 1 = .ok (.iconst (-1), 1) := by decide +kernel
theorem dX9_book_2 : decode cX9_book 2 = .ok (.if_icmp .ne 10, 3) := by decide +kernel
theorem dX9_book_5 : decode cX9_book 5 = .ok (.aload_n 0, 1) := by decide +kernel
theorem dX9_book_6 : decode cX9_book 6 = .ok (.iconst 0, 1) := by decide +kernel
theorem dX9_book_7 : decode cX9_book 7 = .ok (.putfield 327, 3) := by decide +kernel
theorem dX9_book_10 : decode cX9_book 10 = .ok (.iconst 0, 1) := by decide +kernel
theorem dX9_book_11 : decode cX9_book 11 = .ok (.ireturn, 1) := by decide +kernel
theorem dX9_book_12 : decode cX9_book 12 = .ok (.aload_n 0, 1) := by decide +kernel
theorem dX9_book_13 : decode cX9_book 13 = .ok (.iload_n 1, 1) := by decide +kernel
theorem dX9_book_14 : decode cX9_book 14 = .ok (.invokevirtual 330, 3) := by decide +kernel
theorem dX9_book_17 : decode cX9_book 17 = .ok (.ifCond .ne 5, 3) := by decide +kernel
theorem dX9_book_20 : decode cX9_book 20 = .ok (.iconst (-1), 1) := by decide +kernel
theorem dX9_book_21 : decode cX9_book 21 = .ok (.ireturn, 1) := by decide +kernel
theorem dX9_book_22 : decode cX9_book 22 = .ok (.iload_n 2, 1) := by decide +kernel
theorem dX9_book_23 : decode cX9_book 23 = .ok (.i2l, 1) := by decide +kernel
theorem dX9_book_24 : decode cX9_book 24 = .ok (.lconst 0, 1) := by decide +kernel
theorem dX9_book_25 : decode cX9_book 25 = .ok (.ldc2_w 333, 3) := by decide +kernel
theorem dX9_book_28 : decode cX9_book 28 = .ok (.invokestatic 108, 3) := by decide +kernel
theorem dX9_book_31 : decode cX9_book 31 = .ok (.ifCond .ne 6, 3) := by decide +kernel
theorem dX9_book_34 : decode cX9_book 34 = .ok (.bipush (-2), 2) := by decide +kernel
theorem dX9_book_36 : decode cX9_book 36 = .ok (.ireturn, 1) := by decide +kernel
theorem dX9_book_37 : decode cX9_book 37 = .ok (.aload_n 0, 1) := by decide +kernel
theorem dX9_book_38 : decode cX9_book 38 = .ok (.getfield 327, 3) := by decide +kernel
theorem dX9_book_41 : decode cX9_book 41 = .ok (.bipush 8, 2) := by decide +kernel
theorem dX9_book_43 : decode cX9_book 43 = .ok (.if_icmp .ne 6, 3) := by decide +kernel
theorem dX9_book_46 : decode cX9_book 46 = .ok (.bipush (-4), 2) := by decide +kernel
theorem dX9_book_48 : decode cX9_book 48 = .ok (.ireturn, 1) := by decide +kernel
theorem dX9_book_49 : decode cX9_book 49 = .ok (.aload_n 0, 1) := by decide +kernel
theorem dX9_book_50 : decode cX9_book 50 = .ok (.getfield 34, 3) := by decide +kernel
theorem dX9_book_53 : decode cX9_book 53 = .ok (.aload_n 0, 1) := by decide +kernel
theorem dX9_book_54 : decode cX9_book 54 = .ok (.getfield 327, 3) := by decide +kernel
theorem dX9_book_57 : decode cX9_book 57 = .ok (.iload_n 1, 1) := by decide +kernel
theorem dX9_book_58 : decode cX9_book 58 = .ok (.iastore, 1) := by decide +kernel
theorem dX9_book_59 : decode cX9_book 59 = .ok (.aload_n 0, 1) := by decide +kernel
theorem dX9_book_60 : decode cX9_book 60 = .ok (.getfield 37, 3) := by decide +kernel
theorem dX9_book_63 : decode cX9_book 63 = .ok (.aload_n 0, 1) := by decide +kernel
theorem dX9_book_64 : decode cX9_book 64 = .ok (.getfield 327, 3) := by decide +kernel
theorem dX9_book_67 : decode cX9_book 67 = .ok (.iload_n 2, 1) := by decide +kernel
theorem dX9_book_68 : decode cX9_book 68 = .ok (.iastore, 1) := by decide +kernel
theorem dX9_book_69 : decode cX9_book 69 = .ok (.aload_n 0, 1) := by decide +kernel
theorem dX9_book_70 : decode cX9_book 70 = .ok (.dup, 1) := by decide +kernel
theorem dX9_book_71 : decode cX9_book 71 = .ok (.getfield 327, 3) := by decide +kernel
theorem dX9_book_74 : decode cX9_book 74 = .ok (.iconst 1, 1) := by decide +kernel
theorem dX9_book_75 : decode cX9_book 75 = .ok (.iadd, 1) := by decide +kernel
theorem dX9_book_76 : decode cX9_book 76 = .ok (.putfield 327, 3) := by decide +kernel
theorem dX9_book_79 : decode cX9_book 79 = .ok (.aload_n 0, 1) := by decide +kernel
theorem dX9_book_80 : decode cX9_book 80 = .ok (.getfield 327, 3) := by decide +kernel
theorem dX9_book_83 : decode cX9_book 83 = .ok (.ireturn, 1) := by decide +kernel
theorem dX9_looked_0 : decode cX9_looked 0 = .ok (.iconst 0, 1) := by decide +kernel
theorem dX9_looked_1 : decode cX9_looked 1 = .ok (.istore_n 1, 1) := by decide +kernel
theorem dX9_looked_2 : decode cX9_looked 2 = .ok (.iload_n 1, 1) := by decide +kernel
theorem dX9_looked_3 : decode cX9_looked 3 = .ok (.aload_n 0, 1) := by decide +kernel
theorem dX9_looked_4 : decode cX9_looked 4 = .ok (.getfield 327, 3) := by decide +kernel
theorem dX9_looked_7 : decode cX9_looked 7 = .ok (.if_icmp .ge 55, 3) := by decide +kernel
theorem dX9_looked_10 : decode cX9_looked 10 = .ok (.aload_n 0, 1) := by decide +kernel
theorem dX9_looked_11 : decode cX9_looked 11 = .ok (.getfield 34, 3) := by decide +kernel
theorem dX9_looked_14 : decode cX9_looked 14 = .ok (.iload_n 1, 1) := by decide +kernel
theorem dX9_looked_15 : decode cX9_looked 15 = .ok (.iaload, 1) := by decide +kernel
theorem dX9_looked_16 : decode cX9_looked 16 = .ok (.istore_n 2, 1) := by decide +kernel
theorem dX9_looked_17 : decode cX9_looked 17 = .ok (.aload_n 0, 1) := by decide +kernel
theorem dX9_looked_18 : decode cX9_looked 18 = .ok (.iload_n 2, 1) := by decide +kernel
theorem dX9_looked_19 : decode cX9_looked 19 = .ok (.bipush 100, 2) := by decide +kernel
theorem dX9_looked_21 : decode cX9_looked 21 = .ok (.irem, 1) := by decide +kernel
theorem dX9_looked_22 : decode cX9_looked 22 = .ok (.invokevirtual 179, 3) := by decide +kernel
theorem dX9_looked_25 : decode cX9_looked 25 = .ok (.ifCond .eq 29, 3) := by decide +kernel
theorem dX9_looked_28 : decode cX9_looked 28 = .ok (.aload_n 0, 1) := by decide +kernel
theorem dX9_looked_29 : decode cX9_looked 29 = .ok (.getfield 21, 3) := by decide +kernel
theorem dX9_looked_32 : decode cX9_looked 32 = .ok (.bipush 16, 2) := by decide +kernel
theorem dX9_looked_34 : decode cX9_looked 34 = .ok (.iload_n 2, 1) := by decide +kernel
theorem dX9_looked_35 : decode cX9_looked 35 = .ok (.bipush 100, 2) := by decide +kernel
theorem dX9_looked_37 : decode cX9_looked 37 = .ok (.idiv, 1) := by decide +kernel
theorem dX9_looked_38 : decode cX9_looked 38 = .ok (.imul, 1) := by decide +kernel
theorem dX9_looked_39 : decode cX9_looked 39 = .ok (.iload_n 2, 1) := by decide +kernel
theorem dX9_looked_40 : decode cX9_looked 40 = .ok (.bipush 100, 2) := by decide +kernel
theorem dX9_looked_42 : decode cX9_looked 42 = .ok (.irem, 1) := by decide +kernel
theorem dX9_looked_43 : decode cX9_looked 43 = .ok (.iadd, 1) := by decide +kernel
theorem dX9_looked_44 : decode cX9_looked 44 = .ok (.iaload, 1) := by decide +kernel
theorem dX9_looked_45 : decode cX9_looked 45 = .ok (.aload_n 0, 1) := by decide +kernel
theorem dX9_looked_46 : decode cX9_looked 46 = .ok (.getfield 37, 3) := by decide +kernel
theorem dX9_looked_49 : decode cX9_looked 49 = .ok (.iload_n 1, 1) := by decide +kernel
theorem dX9_looked_50 : decode cX9_looked 50 = .ok (.iaload, 1) := by decide +kernel
theorem dX9_looked_51 : decode cX9_looked 51 = .ok (.if_icmp .eq 5, 3) := by decide +kernel
theorem dX9_looked_54 : decode cX9_looked 54 = .ok (.iload_n 1, 1) := by decide +kernel
theorem dX9_looked_55 : decode cX9_looked 55 = .ok (.ireturn, 1) := by decide +kernel
theorem dX9_looked_56 : decode cX9_looked 56 = .ok (.iinc 1 1, 3) := by decide +kernel
theorem dX9_looked_59 : decode cX9_looked 59 = .ok (.goto (-57), 3) := by decide +kernel
theorem dX9_looked_62 : decode cX9_looked 62 = .ok (.bipush (-5), 2) := by decide +kernel
theorem dX9_looked_64 : decode cX9_looked 64 = .ok (.ireturn, 1) := by decide +kernel
theorem dX9_isTape_0 : decode cX9_isTape 0 = .ok (.iload_n 0, 1) := by decide +kernel
theorem dX9_isTape_1 : decode cX9_isTape 1 = .ok (.i2l, 1) := by decide +kernel
theorem dX9_isTape_2 : decode cX9_isTape 2 = .ok (.lconst 0, 1) := by decide +kernel
theorem dX9_isTape_3 : decode cX9_isTape 3 = .ok (.ldc2_w 112, 3) := by decide +kernel
theorem dX9_isTape_6 : decode cX9_isTape 6 = .ok (.invokestatic 108, 3) := by decide +kernel
theorem dX9_isTape_9 : decode cX9_isTape 9 = .ok (.ireturn, 1) := by decide +kernel
theorem dX9_judge_0 : decode cX9_judge 0 = .ok (.iload_n 1, 1) := by decide +kernel
theorem dX9_judge_1 : decode cX9_judge 1 = .ok (.invokestatic 175, 3) := by decide +kernel
theorem dX9_judge_4 : decode cX9_judge 4 = .ok (.ifCond .eq 10, 3) := by decide +kernel
theorem dX9_judge_7 : decode cX9_judge 7 = .ok (.iload_n 2, 1) := by decide +kernel
theorem dX9_judge_8 : decode cX9_judge 8 = .ok (.invokestatic 335, 3) := by decide +kernel
theorem dX9_judge_11 : decode cX9_judge 11 = .ok (.ifCond .ne 5, 3) := by decide +kernel
theorem dX9_judge_14 : decode cX9_judge 14 = .ok (.iconst (-1), 1) := by decide +kernel
theorem dX9_judge_15 : decode cX9_judge 15 = .ok (.ireturn, 1) := by decide +kernel
theorem dX9_judge_16 : decode cX9_judge 16 = .ok (.aload_n 0, 1) := by decide +kernel
theorem dX9_judge_17 : decode cX9_judge 17 = .ok (.getfield 47, 3) := by decide +kernel
theorem dX9_judge_20 : decode cX9_judge 20 = .ok (.iload_n 2, 1) := by decide +kernel
theorem dX9_judge_21 : decode cX9_judge 21 = .ok (.iaload, 1) := by decide +kernel
theorem dX9_judge_22 : decode cX9_judge 22 = .ok (.ifCond .le 6, 3) := by decide +kernel
theorem dX9_judge_25 : decode cX9_judge 25 = .ok (.bipush (-12), 2) := by decide +kernel
theorem dX9_judge_27 : decode cX9_judge 27 = .ok (.ireturn, 1) := by decide +kernel
theorem dX9_judge_28 : decode cX9_judge 28 = .ok (.iconst 0, 1) := by decide +kernel
theorem dX9_judge_29 : decode cX9_judge 29 = .ok (.istore 4, 2) := by decide +kernel
theorem dX9_judge_31 : decode cX9_judge 31 = .ok (.iload 4, 2) := by decide +kernel
theorem dX9_judge_33 : decode cX9_judge 33 = .ok (.aload_n 0, 1) := by decide +kernel
theorem dX9_judge_34 : decode cX9_judge 34 = .ok (.getfield 18, 3) := by decide +kernel
theorem dX9_judge_37 : decode cX9_judge 37 = .ok (.if_icmp .ge 79, 3) := by decide +kernel
theorem dX9_judge_40 : decode cX9_judge 40 = .ok (.aload_n 0, 1) := by decide +kernel
theorem dX9_judge_41 : decode cX9_judge 41 = .ok (.getfield 47, 3) := by decide +kernel
theorem dX9_judge_44 : decode cX9_judge 44 = .ok (.iload_n 2, 1) := by decide +kernel
theorem dX9_judge_45 : decode cX9_judge 45 = .ok (.iaload, 1) := by decide +kernel
theorem dX9_judge_46 : decode cX9_judge 46 = .ok (.ifCond .lt 24, 3) := by decide +kernel
theorem dX9_judge_49 : decode cX9_judge 49 = .ok (.iload_n 3, 1) := by decide +kernel
theorem dX9_judge_50 : decode cX9_judge 50 = .ok (.ifCond .lt 20, 3) := by decide +kernel
theorem dX9_judge_53 : decode cX9_judge 53 = .ok (.iload_n 3, 1) := by decide +kernel
theorem dX9_judge_54 : decode cX9_judge 54 = .ok (.i2l, 1) := by decide +kernel
theorem dX9_judge_55 : decode cX9_judge 55 = .ok (.iload 4, 2) := by decide +kernel
theorem dX9_judge_57 : decode cX9_judge 57 = .ok (.i2l, 1) := by decide +kernel
theorem dX9_judge_58 : decode cX9_judge 58 = .ok (.ladd, 1) := by decide +kernel
theorem dX9_judge_59 : decode cX9_judge 59 = .ok (.aload_n 0, 1) := by decide +kernel
theorem dX9_judge_60 : decode cX9_judge 60 = .ok (.getfield 50, 3) := by decide +kernel
theorem dX9_judge_63 : decode cX9_judge 63 = .ok (.iload_n 2, 1) := by decide +kernel
theorem dX9_judge_64 : decode cX9_judge 64 = .ok (.iaload, 1) := by decide +kernel
theorem dX9_judge_65 : decode cX9_judge 65 = .ok (.i2l, 1) := by decide +kernel
theorem dX9_judge_66 : decode cX9_judge 66 = .ok (.lcmp, 1) := by decide +kernel
theorem dX9_judge_67 : decode cX9_judge 67 = .ok (.ifCond .lt 9, 3) := by decide +kernel
theorem dX9_judge_70 : decode cX9_judge 70 = .ok (.bipush 100, 2) := by decide +kernel
theorem dX9_judge_72 : decode cX9_judge 72 = .ok (.iload 4, 2) := by decide +kernel
theorem dX9_judge_74 : decode cX9_judge 74 = .ok (.iadd, 1) := by decide +kernel
theorem dX9_judge_75 : decode cX9_judge 75 = .ok (.ireturn, 1) := by decide +kernel
theorem dX9_judge_76 : decode cX9_judge 76 = .ok (.aload_n 0, 1) := by decide +kernel
theorem dX9_judge_77 : decode cX9_judge 77 = .ok (.getfield 43, 3) := by decide +kernel
theorem dX9_judge_80 : decode cX9_judge 80 = .ok (.bipush 60, 2) := by decide +kernel
theorem dX9_judge_82 : decode cX9_judge 82 = .ok (.iload_n 2, 1) := by decide +kernel
theorem dX9_judge_83 : decode cX9_judge 83 = .ok (.imul, 1) := by decide +kernel
theorem dX9_judge_84 : decode cX9_judge 84 = .ok (.iload_n 3, 1) := by decide +kernel
theorem dX9_judge_85 : decode cX9_judge 85 = .ok (.iadd, 1) := by decide +kernel
theorem dX9_judge_86 : decode cX9_judge 86 = .ok (.iload 4, 2) := by decide +kernel
theorem dX9_judge_88 : decode cX9_judge 88 = .ok (.iadd, 1) := by decide +kernel
theorem dX9_judge_89 : decode cX9_judge 89 = .ok (.laload, 1) := by decide +kernel
theorem dX9_judge_90 : decode cX9_judge 90 = .ok (.aload_n 0, 1) := by decide +kernel
theorem dX9_judge_91 : decode cX9_judge 91 = .ok (.getfield 21, 3) := by decide +kernel
theorem dX9_judge_94 : decode cX9_judge 94 = .ok (.bipush 16, 2) := by decide +kernel
theorem dX9_judge_96 : decode cX9_judge 96 = .ok (.iload_n 1, 1) := by decide +kernel
theorem dX9_judge_97 : decode cX9_judge 97 = .ok (.imul, 1) := by decide +kernel
theorem dX9_judge_98 : decode cX9_judge 98 = .ok (.iload 4, 2) := by decide +kernel
theorem dX9_judge_100 : decode cX9_judge 100 = .ok (.iadd, 1) := by decide +kernel
theorem dX9_judge_101 : decode cX9_judge 101 = .ok (.iaload, 1) := by decide +kernel
theorem dX9_judge_102 : decode cX9_judge 102 = .ok (.i2l, 1) := by decide +kernel
theorem dX9_judge_103 : decode cX9_judge 103 = .ok (.lcmp, 1) := by decide +kernel
theorem dX9_judge_104 : decode cX9_judge 104 = .ok (.ifCond .eq 6, 3) := by decide +kernel
theorem dX9_judge_107 : decode cX9_judge 107 = .ok (.iload 4, 2) := by decide +kernel
theorem dX9_judge_109 : decode cX9_judge 109 = .ok (.ireturn, 1) := by decide +kernel
theorem dX9_judge_110 : decode cX9_judge 110 = .ok (.iinc 4 1, 3) := by decide +kernel
theorem dX9_judge_113 : decode cX9_judge 113 = .ok (.goto (-82), 3) := by decide +kernel
theorem dX9_judge_116 : decode cX9_judge 116 = .ok (.bipush (-5), 2) := by decide +kernel
theorem dX9_judge_118 : decode cX9_judge 118 = .ok (.ireturn, 1) := by decide +kernel
theorem dX9_keepTo_0 : decode cX9_keepTo 0 = .ok (.aload_n 1, 1) := by decide +kernel
theorem dX9_keepTo_1 : decode cX9_keepTo 1 = .ok (.iconst 0, 1) := by decide +kernel
theorem dX9_keepTo_2 : decode cX9_keepTo 2 = .ok (.aload_n 0, 1) := by decide +kernel
theorem dX9_keepTo_3 : decode cX9_keepTo 3 = .ok (.getfield 9, 3) := by decide +kernel
theorem dX9_keepTo_6 : decode cX9_keepTo 6 = .ok (.iastore, 1) := by decide +kernel
theorem dX9_keepTo_7 : decode cX9_keepTo 7 = .ok (.aload_n 1, 1) := by decide +kernel
theorem dX9_keepTo_8 : decode cX9_keepTo 8 = .ok (.iconst 1, 1) := by decide +kernel
theorem dX9_keepTo_9 : decode cX9_keepTo 9 = .ok (.aload_n 0, 1) := by decide +kernel
theorem dX9_keepTo_10 : decode cX9_keepTo 10 = .ok (.getfield 15, 3) := by decide +kernel
theorem dX9_keepTo_13 : decode cX9_keepTo 13 = .ok (.iastore, 1) := by decide +kernel
theorem dX9_keepTo_14 : decode cX9_keepTo 14 = .ok (.aload_n 1, 1) := by decide +kernel
theorem dX9_keepTo_15 : decode cX9_keepTo 15 = .ok (.iconst 2, 1) := by decide +kernel
theorem dX9_keepTo_16 : decode cX9_keepTo 16 = .ok (.aload_n 0, 1) := by decide +kernel
theorem dX9_keepTo_17 : decode cX9_keepTo 17 = .ok (.getfield 134, 3) := by decide +kernel
theorem dX9_keepTo_20 : decode cX9_keepTo 20 = .ok (.iastore, 1) := by decide +kernel
theorem dX9_keepTo_21 : decode cX9_keepTo 21 = .ok (.aload_n 1, 1) := by decide +kernel
theorem dX9_keepTo_22 : decode cX9_keepTo 22 = .ok (.iconst 3, 1) := by decide +kernel
theorem dX9_keepTo_23 : decode cX9_keepTo 23 = .ok (.aload_n 0, 1) := by decide +kernel
theorem dX9_keepTo_24 : decode cX9_keepTo 24 = .ok (.getfield 153, 3) := by decide +kernel
theorem dX9_keepTo_27 : decode cX9_keepTo 27 = .ok (.iastore, 1) := by decide +kernel
theorem dX9_keepTo_28 : decode cX9_keepTo 28 = .ok (.aload_n 1, 1) := by decide +kernel
theorem dX9_keepTo_29 : decode cX9_keepTo 29 = .ok (.iconst 4, 1) := by decide +kernel
theorem dX9_keepTo_30 : decode cX9_keepTo 30 = .ok (.aload_n 0, 1) := by decide +kernel
theorem dX9_keepTo_31 : decode cX9_keepTo 31 = .ok (.getfield 311, 3) := by decide +kernel
theorem dX9_keepTo_34 : decode cX9_keepTo 34 = .ok (.iastore, 1) := by decide +kernel
theorem dX9_keepTo_35 : decode cX9_keepTo 35 = .ok (.aload_n 1, 1) := by decide +kernel
theorem dX9_keepTo_36 : decode cX9_keepTo 36 = .ok (.iconst 5, 1) := by decide +kernel
theorem dX9_keepTo_37 : decode cX9_keepTo 37 = .ok (.aload_n 0, 1) := by decide +kernel
theorem dX9_keepTo_38 : decode cX9_keepTo 38 = .ok (.getfield 327, 3) := by decide +kernel
theorem dX9_keepTo_41 : decode cX9_keepTo 41 = .ok (.iastore, 1) := by decide +kernel
theorem dX9_keepTo_42 : decode cX9_keepTo 42 = .ok (.iconst 0, 1) := by decide +kernel
theorem dX9_keepTo_43 : decode cX9_keepTo 43 = .ok (.istore_n 2, 1) := by decide +kernel
theorem dX9_keepTo_44 : decode cX9_keepTo 44 = .ok (.iload_n 2, 1) := by decide +kernel
theorem dX9_keepTo_45 : decode cX9_keepTo 45 = .ok (.bipush 96, 2) := by decide +kernel
theorem dX9_keepTo_47 : decode cX9_keepTo 47 = .ok (.if_icmp .ge 21, 3) := by decide +kernel
theorem dX9_keepTo_50 : decode cX9_keepTo 50 = .ok (.aload_n 1, 1) := by decide +kernel
theorem dX9_keepTo_51 : decode cX9_keepTo 51 = .ok (.bipush 6, 2) := by decide +kernel
theorem dX9_keepTo_53 : decode cX9_keepTo 53 = .ok (.iload_n 2, 1) := by decide +kernel
theorem dX9_keepTo_54 : decode cX9_keepTo 54 = .ok (.iadd, 1) := by decide +kernel
theorem dX9_keepTo_55 : decode cX9_keepTo 55 = .ok (.aload_n 0, 1) := by decide +kernel
theorem dX9_keepTo_56 : decode cX9_keepTo 56 = .ok (.getfield 21, 3) := by decide +kernel
theorem dX9_keepTo_59 : decode cX9_keepTo 59 = .ok (.iload_n 2, 1) := by decide +kernel
theorem dX9_keepTo_60 : decode cX9_keepTo 60 = .ok (.iaload, 1) := by decide +kernel
theorem dX9_keepTo_61 : decode cX9_keepTo 61 = .ok (.iastore, 1) := by decide +kernel
theorem dX9_keepTo_62 : decode cX9_keepTo 62 = .ok (.iinc 2 1, 3) := by decide +kernel
theorem dX9_keepTo_65 : decode cX9_keepTo 65 = .ok (.goto (-21), 3) := by decide +kernel
theorem dX9_keepTo_68 : decode cX9_keepTo 68 = .ok (.iconst 0, 1) := by decide +kernel
theorem dX9_keepTo_69 : decode cX9_keepTo 69 = .ok (.istore_n 2, 1) := by decide +kernel
theorem dX9_keepTo_70 : decode cX9_keepTo 70 = .ok (.iload_n 2, 1) := by decide +kernel
theorem dX9_keepTo_71 : decode cX9_keepTo 71 = .ok (.bipush 64, 2) := by decide +kernel
theorem dX9_keepTo_73 : decode cX9_keepTo 73 = .ok (.if_icmp .ge 21, 3) := by decide +kernel
theorem dX9_keepTo_76 : decode cX9_keepTo 76 = .ok (.aload_n 1, 1) := by decide +kernel
theorem dX9_keepTo_77 : decode cX9_keepTo 77 = .ok (.bipush 102, 2) := by decide +kernel
theorem dX9_keepTo_79 : decode cX9_keepTo 79 = .ok (.iload_n 2, 1) := by decide +kernel
theorem dX9_keepTo_80 : decode cX9_keepTo 80 = .ok (.iadd, 1) := by decide +kernel
theorem dX9_keepTo_81 : decode cX9_keepTo 81 = .ok (.aload_n 0, 1) := by decide +kernel
theorem dX9_keepTo_82 : decode cX9_keepTo 82 = .ok (.getfield 25, 3) := by decide +kernel
theorem dX9_keepTo_85 : decode cX9_keepTo 85 = .ok (.iload_n 2, 1) := by decide +kernel
theorem dX9_keepTo_86 : decode cX9_keepTo 86 = .ok (.iaload, 1) := by decide +kernel
theorem dX9_keepTo_87 : decode cX9_keepTo 87 = .ok (.iastore, 1) := by decide +kernel
theorem dX9_keepTo_88 : decode cX9_keepTo 88 = .ok (.iinc 2 1, 3) := by decide +kernel
theorem dX9_keepTo_91 : decode cX9_keepTo 91 = .ok (.goto (-21), 3) := by decide +kernel
theorem dX9_keepTo_94 : decode cX9_keepTo 94 = .ok (.iconst 0, 1) := by decide +kernel
theorem dX9_keepTo_95 : decode cX9_keepTo 95 = .ok (.istore_n 2, 1) := by decide +kernel
theorem dX9_keepTo_96 : decode cX9_keepTo 96 = .ok (.iload_n 2, 1) := by decide +kernel
theorem dX9_keepTo_97 : decode cX9_keepTo 97 = .ok (.bipush 8, 2) := by decide +kernel
theorem dX9_keepTo_99 : decode cX9_keepTo 99 = .ok (.if_icmp .ge 61, 3) := by decide +kernel
theorem dX9_keepTo_102 : decode cX9_keepTo 102 = .ok (.aload_n 1, 1) := by decide +kernel
theorem dX9_keepTo_103 : decode cX9_keepTo 103 = .ok (.sipush 166, 3) := by decide +kernel
theorem dX9_keepTo_106 : decode cX9_keepTo 106 = .ok (.iload_n 2, 1) := by decide +kernel
theorem dX9_keepTo_107 : decode cX9_keepTo 107 = .ok (.iadd, 1) := by decide +kernel
theorem dX9_keepTo_108 : decode cX9_keepTo 108 = .ok (.aload_n 0, 1) := by decide +kernel
theorem dX9_keepTo_109 : decode cX9_keepTo 109 = .ok (.getfield 28, 3) := by decide +kernel
theorem dX9_keepTo_112 : decode cX9_keepTo 112 = .ok (.iload_n 2, 1) := by decide +kernel
theorem dX9_keepTo_113 : decode cX9_keepTo 113 = .ok (.iaload, 1) := by decide +kernel
theorem dX9_keepTo_114 : decode cX9_keepTo 114 = .ok (.iastore, 1) := by decide +kernel
theorem dX9_keepTo_115 : decode cX9_keepTo 115 = .ok (.aload_n 1, 1) := by decide +kernel
theorem dX9_keepTo_116 : decode cX9_keepTo 116 = .ok (.sipush 174, 3) := by decide +kernel
theorem dX9_keepTo_119 : decode cX9_keepTo 119 = .ok (.iload_n 2, 1) := by decide +kernel
theorem dX9_keepTo_120 : decode cX9_keepTo 120 = .ok (.iadd, 1) := by decide +kernel
theorem dX9_keepTo_121 : decode cX9_keepTo 121 = .ok (.aload_n 0, 1) := by decide +kernel
theorem dX9_keepTo_122 : decode cX9_keepTo 122 = .ok (.getfield 31, 3) := by decide +kernel
theorem dX9_keepTo_125 : decode cX9_keepTo 125 = .ok (.iload_n 2, 1) := by decide +kernel
theorem dX9_keepTo_126 : decode cX9_keepTo 126 = .ok (.iaload, 1) := by decide +kernel
theorem dX9_keepTo_127 : decode cX9_keepTo 127 = .ok (.iastore, 1) := by decide +kernel
theorem dX9_keepTo_128 : decode cX9_keepTo 128 = .ok (.aload_n 1, 1) := by decide +kernel
theorem dX9_keepTo_129 : decode cX9_keepTo 129 = .ok (.sipush 182, 3) := by decide +kernel
theorem dX9_keepTo_132 : decode cX9_keepTo 132 = .ok (.iload_n 2, 1) := by decide +kernel
theorem dX9_keepTo_133 : decode cX9_keepTo 133 = .ok (.iadd, 1) := by decide +kernel
theorem dX9_keepTo_134 : decode cX9_keepTo 134 = .ok (.aload_n 0, 1) := by decide +kernel
theorem dX9_keepTo_135 : decode cX9_keepTo 135 = .ok (.getfield 34, 3) := by decide +kernel
theorem dX9_keepTo_138 : decode cX9_keepTo 138 = .ok (.iload_n 2, 1) := by decide +kernel
theorem dX9_keepTo_139 : decode cX9_keepTo 139 = .ok (.iaload, 1) := by decide +kernel
theorem dX9_keepTo_140 : decode cX9_keepTo 140 = .ok (.iastore, 1) := by decide +kernel
theorem dX9_keepTo_141 : decode cX9_keepTo 141 = .ok (.aload_n 1, 1) := by decide +kernel
theorem dX9_keepTo_142 : decode cX9_keepTo 142 = .ok (.sipush 190, 3) := by decide +kernel
theorem dX9_keepTo_145 : decode cX9_keepTo 145 = .ok (.iload_n 2, 1) := by decide +kernel
theorem dX9_keepTo_146 : decode cX9_keepTo 146 = .ok (.iadd, 1) := by decide +kernel
theorem dX9_keepTo_147 : decode cX9_keepTo 147 = .ok (.aload_n 0, 1) := by decide +kernel
theorem dX9_keepTo_148 : decode cX9_keepTo 148 = .ok (.getfield 37, 3) := by decide +kernel
theorem dX9_keepTo_151 : decode cX9_keepTo 151 = .ok (.iload_n 2, 1) := by decide +kernel
theorem dX9_keepTo_152 : decode cX9_keepTo 152 = .ok (.iaload, 1) := by decide +kernel
theorem dX9_keepTo_153 : decode cX9_keepTo 153 = .ok (.iastore, 1) := by decide +kernel
theorem dX9_keepTo_154 : decode cX9_keepTo 154 = .ok (.iinc 2 1, 3) := by decide +kernel
theorem dX9_keepTo_157 : decode cX9_keepTo 157 = .ok (.goto (-61), 3) := by decide +kernel
theorem dX9_keepTo_160 : decode cX9_keepTo 160 = .ok (.return_, 1) := by decide +kernel
theorem dX9_again_0 : decode cX9_again 0 = .ok (.aload_n 0, 1) := by decide +kernel
theorem dX9_again_1 : decode cX9_again 1 = .ok (.aload_n 1, 1) := by decide +kernel
theorem dX9_again_2 : decode cX9_again 2 = .ok (.iconst 0, 1) := by decide +kernel
theorem dX9_again_3 : decode cX9_again 3 = .ok (.iaload, 1) := by decide +kernel
theorem dX9_again_4 : decode cX9_again 4 = .ok (.putfield 9, 3) := by decide +kernel
theorem dX9_again_7 : decode cX9_again 7 = .ok (.aload_n 0, 1) := by decide +kernel
theorem dX9_again_8 : decode cX9_again 8 = .ok (.aload_n 1, 1) := by decide +kernel
theorem dX9_again_9 : decode cX9_again 9 = .ok (.iconst 1, 1) := by decide +kernel
theorem dX9_again_10 : decode cX9_again 10 = .ok (.iaload, 1) := by decide +kernel
theorem dX9_again_11 : decode cX9_again 11 = .ok (.putfield 15, 3) := by decide +kernel
theorem dX9_again_14 : decode cX9_again 14 = .ok (.aload_n 0, 1) := by decide +kernel
theorem dX9_again_15 : decode cX9_again 15 = .ok (.aload_n 1, 1) := by decide +kernel
theorem dX9_again_16 : decode cX9_again 16 = .ok (.iconst 2, 1) := by decide +kernel
theorem dX9_again_17 : decode cX9_again 17 = .ok (.iaload, 1) := by decide +kernel
theorem dX9_again_18 : decode cX9_again 18 = .ok (.putfield 134, 3) := by decide +kernel
theorem dX9_again_21 : decode cX9_again 21 = .ok (.aload_n 0, 1) := by decide +kernel
theorem dX9_again_22 : decode cX9_again 22 = .ok (.aload_n 1, 1) := by decide +kernel
theorem dX9_again_23 : decode cX9_again 23 = .ok (.iconst 3, 1) := by decide +kernel
theorem dX9_again_24 : decode cX9_again 24 = .ok (.iaload, 1) := by decide +kernel
theorem dX9_again_25 : decode cX9_again 25 = .ok (.putfield 153, 3) := by decide +kernel
theorem dX9_again_28 : decode cX9_again 28 = .ok (.aload_n 0, 1) := by decide +kernel
theorem dX9_again_29 : decode cX9_again 29 = .ok (.aload_n 1, 1) := by decide +kernel
theorem dX9_again_30 : decode cX9_again 30 = .ok (.iconst 4, 1) := by decide +kernel
theorem dX9_again_31 : decode cX9_again 31 = .ok (.iaload, 1) := by decide +kernel
theorem dX9_again_32 : decode cX9_again 32 = .ok (.putfield 311, 3) := by decide +kernel
theorem dX9_again_35 : decode cX9_again 35 = .ok (.aload_n 0, 1) := by decide +kernel
theorem dX9_again_36 : decode cX9_again 36 = .ok (.aload_n 1, 1) := by decide +kernel
theorem dX9_again_37 : decode cX9_again 37 = .ok (.iconst 5, 1) := by decide +kernel
theorem dX9_again_38 : decode cX9_again 38 = .ok (.iaload, 1) := by decide +kernel
theorem dX9_again_39 : decode cX9_again 39 = .ok (.putfield 327, 3) := by decide +kernel
theorem dX9_again_42 : decode cX9_again 42 = .ok (.aload_n 0, 1) := by decide +kernel
theorem dX9_again_43 : decode cX9_again 43 = .ok (.iconst 1, 1) := by decide +kernel
theorem dX9_again_44 : decode cX9_again 44 = .ok (.aload_n 0, 1) := by decide +kernel
theorem dX9_again_45 : decode cX9_again 45 = .ok (.getfield 9, 3) := by decide +kernel
theorem dX9_again_48 : decode cX9_again 48 = .ok (.ishl, 1) := by decide +kernel
theorem dX9_again_49 : decode cX9_again 49 = .ok (.putfield 18, 3) := by decide +kernel
theorem dX9_again_52 : decode cX9_again 52 = .ok (.iconst 0, 1) := by decide +kernel
theorem dX9_again_53 : decode cX9_again 53 = .ok (.istore_n 2, 1) := by decide +kernel
theorem dX9_again_54 : decode cX9_again 54 = .ok (.iload_n 2, 1) := by decide +kernel
theorem dX9_again_55 : decode cX9_again 55 = .ok (.bipush 96, 2) := by decide +kernel
theorem dX9_again_57 : decode cX9_again 57 = .ok (.if_icmp .ge 21, 3) := by decide +kernel
theorem dX9_again_60 : decode cX9_again 60 = .ok (.aload_n 0, 1) := by decide +kernel
theorem dX9_again_61 : decode cX9_again 61 = .ok (.getfield 21, 3) := by decide +kernel
theorem dX9_again_64 : decode cX9_again 64 = .ok (.iload_n 2, 1) := by decide +kernel
theorem dX9_again_65 : decode cX9_again 65 = .ok (.aload_n 1, 1) := by decide +kernel
theorem dX9_again_66 : decode cX9_again 66 = .ok (.bipush 6, 2) := by decide +kernel
theorem dX9_again_68 : decode cX9_again 68 = .ok (.iload_n 2, 1) := by decide +kernel
theorem dX9_again_69 : decode cX9_again 69 = .ok (.iadd, 1) := by decide +kernel
theorem dX9_again_70 : decode cX9_again 70 = .ok (.iaload, 1) := by decide +kernel
theorem dX9_again_71 : decode cX9_again 71 = .ok (.iastore, 1) := by decide +kernel
theorem dX9_again_72 : decode cX9_again 72 = .ok (.iinc 2 1, 3) := by decide +kernel
theorem dX9_again_75 : decode cX9_again 75 = .ok (.goto (-21), 3) := by decide +kernel
theorem dX9_again_78 : decode cX9_again 78 = .ok (.iconst 0, 1) := by decide +kernel
theorem dX9_again_79 : decode cX9_again 79 = .ok (.istore_n 2, 1) := by decide +kernel
theorem dX9_again_80 : decode cX9_again 80 = .ok (.iload_n 2, 1) := by decide +kernel
theorem dX9_again_81 : decode cX9_again 81 = .ok (.bipush 64, 2) := by decide +kernel
theorem dX9_again_83 : decode cX9_again 83 = .ok (.if_icmp .ge 21, 3) := by decide +kernel
theorem dX9_again_86 : decode cX9_again 86 = .ok (.aload_n 0, 1) := by decide +kernel
theorem dX9_again_87 : decode cX9_again 87 = .ok (.getfield 25, 3) := by decide +kernel
theorem dX9_again_90 : decode cX9_again 90 = .ok (.iload_n 2, 1) := by decide +kernel
theorem dX9_again_91 : decode cX9_again 91 = .ok (.aload_n 1, 1) := by decide +kernel
theorem dX9_again_92 : decode cX9_again 92 = .ok (.bipush 102, 2) := by decide +kernel
theorem dX9_again_94 : decode cX9_again 94 = .ok (.iload_n 2, 1) := by decide +kernel
theorem dX9_again_95 : decode cX9_again 95 = .ok (.iadd, 1) := by decide +kernel
theorem dX9_again_96 : decode cX9_again 96 = .ok (.iaload, 1) := by decide +kernel
theorem dX9_again_97 : decode cX9_again 97 = .ok (.iastore, 1) := by decide +kernel
theorem dX9_again_98 : decode cX9_again 98 = .ok (.iinc 2 1, 3) := by decide +kernel
theorem dX9_again_101 : decode cX9_again 101 = .ok (.goto (-21), 3) := by decide +kernel
theorem dX9_again_104 : decode cX9_again 104 = .ok (.iconst 0, 1) := by decide +kernel
theorem dX9_again_105 : decode cX9_again 105 = .ok (.istore_n 2, 1) := by decide +kernel
theorem dX9_again_106 : decode cX9_again 106 = .ok (.iload_n 2, 1) := by decide +kernel
theorem dX9_again_107 : decode cX9_again 107 = .ok (.bipush 8, 2) := by decide +kernel
theorem dX9_again_109 : decode cX9_again 109 = .ok (.if_icmp .ge 61, 3) := by decide +kernel
theorem dX9_again_112 : decode cX9_again 112 = .ok (.aload_n 0, 1) := by decide +kernel
theorem dX9_again_113 : decode cX9_again 113 = .ok (.getfield 28, 3) := by decide +kernel
theorem dX9_again_116 : decode cX9_again 116 = .ok (.iload_n 2, 1) := by decide +kernel
theorem dX9_again_117 : decode cX9_again 117 = .ok (.aload_n 1, 1) := by decide +kernel
theorem dX9_again_118 : decode cX9_again 118 = .ok (.sipush 166, 3) := by decide +kernel
theorem dX9_again_121 : decode cX9_again 121 = .ok (.iload_n 2, 1) := by decide +kernel
theorem dX9_again_122 : decode cX9_again 122 = .ok (.iadd, 1) := by decide +kernel
theorem dX9_again_123 : decode cX9_again 123 = .ok (.iaload, 1) := by decide +kernel
theorem dX9_again_124 : decode cX9_again 124 = .ok (.iastore, 1) := by decide +kernel
theorem dX9_again_125 : decode cX9_again 125 = .ok (.aload_n 0, 1) := by decide +kernel
theorem dX9_again_126 : decode cX9_again 126 = .ok (.getfield 31, 3) := by decide +kernel
theorem dX9_again_129 : decode cX9_again 129 = .ok (.iload_n 2, 1) := by decide +kernel
theorem dX9_again_130 : decode cX9_again 130 = .ok (.aload_n 1, 1) := by decide +kernel
theorem dX9_again_131 : decode cX9_again 131 = .ok (.sipush 174, 3) := by decide +kernel
theorem dX9_again_134 : decode cX9_again 134 = .ok (.iload_n 2, 1) := by decide +kernel
theorem dX9_again_135 : decode cX9_again 135 = .ok (.iadd, 1) := by decide +kernel
theorem dX9_again_136 : decode cX9_again 136 = .ok (.iaload, 1) := by decide +kernel
theorem dX9_again_137 : decode cX9_again 137 = .ok (.iastore, 1) := by decide +kernel
theorem dX9_again_138 : decode cX9_again 138 = .ok (.aload_n 0, 1) := by decide +kernel
theorem dX9_again_139 : decode cX9_again 139 = .ok (.getfield 34, 3) := by decide +kernel
theorem dX9_again_142 : decode cX9_again 142 = .ok (.iload_n 2, 1) := by decide +kernel
theorem dX9_again_143 : decode cX9_again 143 = .ok (.aload_n 1, 1) := by decide +kernel
theorem dX9_again_144 : decode cX9_again 144 = .ok (.sipush 182, 3) := by decide +kernel
theorem dX9_again_147 : decode cX9_again 147 = .ok (.iload_n 2, 1) := by decide +kernel
theorem dX9_again_148 : decode cX9_again 148 = .ok (.iadd, 1) := by decide +kernel
theorem dX9_again_149 : decode cX9_again 149 = .ok (.iaload, 1) := by decide +kernel
