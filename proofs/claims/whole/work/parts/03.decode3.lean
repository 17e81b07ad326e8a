theorem dX9_comes_164 : decode cX9_comes 164 = .ok (.iload_n 3, 1) := by decide +kernel
theorem dX9_comes_165 : decode cX9_comes 165 = .ok (.imul, 1) := by decide +kernel
theorem dX9_comes_166 : decode cX9_comes 166 = .ok (.iload 5, 2) := by decide +kernel
theorem dX9_comes_168 : decode cX9_comes 168 = .ok (.iadd, 1) := by decide +kernel
theorem dX9_comes_169 : decode cX9_comes 169 = .ok (.iaload, 1) := by decide +kernel
theorem dX9_comes_170 : decode cX9_comes 170 = .ok (.i2l, 1) := by decide +kernel
theorem dX9_comes_171 : decode cX9_comes 171 = .ok (.iload 4, 2) := by decide +kernel
theorem dX9_comes_173 : decode cX9_comes 173 = .ok (.i2l, 1) := by decide +kernel
theorem dX9_comes_174 : decode cX9_comes 174 = .ok (.aload_n 0, 1) := by decide +kernel
theorem dX9_comes_175 : decode cX9_comes 175 = .ok (.getfield 72, 3) := by decide +kernel
theorem dX9_comes_178 : decode cX9_comes 178 = .ok (.iload 5, 2) := by decide +kernel
theorem dX9_comes_180 : decode cX9_comes 180 = .ok (.iaload, 1) := by decide +kernel
theorem dX9_comes_181 : decode cX9_comes 181 = .ok (.i2l, 1) := by decide +kernel
theorem dX9_comes_182 : decode cX9_comes 182 = .ok (.lmul, 1) := by decide +kernel
theorem dX9_comes_183 : decode cX9_comes 183 = .ok (.lsub, 1) := by decide +kernel
theorem dX9_comes_184 : decode cX9_comes 184 = .ok (.invokevirtual 120, 3) := by decide +kernel
theorem dX9_comes_187 : decode cX9_comes 187 = .ok (.iastore, 1) := by decide +kernel
theorem dX9_comes_188 : decode cX9_comes 188 = .ok (.iinc 5 1, 3) := by decide +kernel
theorem dX9_comes_191 : decode cX9_comes 191 = .ok (.goto (-56), 3) := by decide +kernel
theorem dX9_comes_194 : decode cX9_comes 194 = .ok (.iinc 3 1, 3) := by decide +kernel
theorem dX9_comes_197 : decode cX9_comes 197 = .ok (.goto (-95), 3) := by decide +kernel
theorem dX9_comes_200 : decode cX9_comes 200 = .ok (.iconst 0, 1) := by decide +kernel
theorem dX9_comes_201 : decode cX9_comes 201 = .ok (.istore_n 3, 1) := by decide +kernel
theorem dX9_comes_202 : decode cX9_comes 202 = .ok (.iload_n 3, 1) := by decide +kernel
theorem dX9_comes_203 : decode cX9_comes 203 = .ok (.aload_n 0, 1) := by decide +kernel
theorem dX9_comes_204 : decode cX9_comes 204 = .ok (.getfield 127, 3) := by decide +kernel
theorem dX9_comes_207 : decode cX9_comes 207 = .ok (.if_icmp .ge 30, 3) := by decide +kernel
theorem dX9_comes_210 : decode cX9_comes 210 = .ok (.aload_n 0, 1) := by decide +kernel
theorem dX9_comes_211 : decode cX9_comes 211 = .ok (.getfield 60, 3) := by decide +kernel
theorem dX9_comes_214 : decode cX9_comes 214 = .ok (.sipush 256, 3) := by decide +kernel
theorem dX9_comes_217 : decode cX9_comes 217 = .ok (.aload_n 0, 1) := by decide +kernel
theorem dX9_comes_218 : decode cX9_comes 218 = .ok (.getfield 124, 3) := by decide +kernel
theorem dX9_comes_221 : decode cX9_comes 221 = .ok (.imul, 1) := by decide +kernel
theorem dX9_comes_222 : decode cX9_comes 222 = .ok (.iload_n 3, 1) := by decide +kernel
theorem dX9_comes_223 : decode cX9_comes 223 = .ok (.iadd, 1) := by decide +kernel
theorem dX9_comes_224 : decode cX9_comes 224 = .ok (.aload_n 0, 1) := by decide +kernel
theorem dX9_comes_225 : decode cX9_comes 225 = .ok (.getfield 72, 3) := by decide +kernel
theorem dX9_comes_228 : decode cX9_comes 228 = .ok (.iload_n 3, 1) := by decide +kernel
theorem dX9_comes_229 : decode cX9_comes 229 = .ok (.iaload, 1) := by decide +kernel
theorem dX9_comes_230 : decode cX9_comes 230 = .ok (.iastore, 1) := by decide +kernel
theorem dX9_comes_231 : decode cX9_comes 231 = .ok (.iinc 3 1, 3) := by decide +kernel
theorem dX9_comes_234 : decode cX9_comes 234 = .ok (.goto (-32), 3) := by decide +kernel
theorem dX9_comes_237 : decode cX9_comes 237 = .ok (.aload_n 0, 1) := by decide +kernel
theorem dX9_comes_238 : decode cX9_comes 238 = .ok (.getfield 63, 3) := by decide +kernel
theorem dX9_comes_241 : decode cX9_comes 241 = .ok (.aload_n 0, 1) := by decide +kernel
theorem dX9_comes_242 : decode cX9_comes 242 = .ok (.getfield 124, 3) := by decide +kernel
theorem dX9_comes_245 : decode cX9_comes 245 = .ok (.iload_n 1, 1) := by decide +kernel
theorem dX9_comes_246 : decode cX9_comes 246 = .ok (.iastore, 1) := by decide +kernel
theorem dX9_comes_247 : decode cX9_comes 247 = .ok (.aload_n 0, 1) := by decide +kernel
theorem dX9_comes_248 : decode cX9_comes 248 = .ok (.getfield 66, 3) := by decide +kernel
theorem dX9_comes_251 : decode cX9_comes 251 = .ok (.iload_n 1, 1) := by decide +kernel
theorem dX9_comes_252 : decode cX9_comes 252 = .ok (.aload_n 0, 1) := by decide +kernel
theorem dX9_comes_253 : decode cX9_comes 253 = .ok (.getfield 124, 3) := by decide +kernel
theorem dX9_comes_256 : decode cX9_comes 256 = .ok (.iastore, 1) := by decide +kernel
theorem dX9_comes_257 : decode cX9_comes 257 = .ok (.aload_n 0, 1) := by decide +kernel
theorem dX9_comes_258 : decode cX9_comes 258 = .ok (.dup, 1) := by decide +kernel
theorem dX9_comes_259 : decode cX9_comes 259 = .ok (.getfield 124, 3) := by decide +kernel
theorem dX9_comes_262 : decode cX9_comes 262 = .ok (.iconst 1, 1) := by decide +kernel
theorem dX9_comes_263 : decode cX9_comes 263 = .ok (.iadd, 1) := by decide +kernel
theorem dX9_comes_264 : decode cX9_comes 264 = .ok (.putfield 124, 3) := by decide +kernel
theorem dX9_comes_267 : decode cX9_comes 267 = .ok (.iconst 1, 1) := by decide +kernel
theorem dX9_comes_268 : decode cX9_comes 268 = .ok (.ireturn, 1) := by decide +kernel
theorem dX9_takesMade_0 : decode cX9_takesMade 0 = .ok (.iconst 0, 1) := by decide +kernel
theorem dX9_takesMade_1 : decode cX9_takesMade 1 = .ok (.istore_n 1, 1) := by decide +kernel
theorem dX9_takesMade_2 : decode cX9_takesMade 2 = .ok (.iload_n 1, 1) := by decide +kernel
theorem dX9_takesMade_3 : decode cX9_takesMade 3 = .ok (.aload_n 0, 1) := by decide +kernel
theorem dX9_takesMade_4 : decode cX9_takesMade 4 = .ok (.getfield 18, 3) := by decide +kernel
theorem dX9_takesMade_7 : decode cX9_takesMade 7 = .ok (.if_icmp .ge 21, 3) := by decide +kernel
theorem dX9_takesMade_10 : decode cX9_takesMade 10 = .ok (.aload_n 0, 1) := by decide +kernel
theorem dX9_takesMade_11 : decode cX9_takesMade 11 = .ok (.getfield 72, 3) := by decide +kernel
theorem dX9_takesMade_14 : decode cX9_takesMade 14 = .ok (.iload_n 1, 1) := by decide +kernel
theorem dX9_takesMade_15 : decode cX9_takesMade 15 = .ok (.aload_n 0, 1) := by decide +kernel
theorem dX9_takesMade_16 : decode cX9_takesMade 16 = .ok (.getfield 81, 3) := by decide +kernel
theorem dX9_takesMade_19 : decode cX9_takesMade 19 = .ok (.iload_n 1, 1) := by decide +kernel
theorem dX9_takesMade_20 : decode cX9_takesMade 20 = .ok (.iaload, 1) := by decide +kernel
theorem dX9_takesMade_21 : decode cX9_takesMade 21 = .ok (.iastore, 1) := by decide +kernel
theorem dX9_takesMade_22 : decode cX9_takesMade 22 = .ok (.iinc 1 1, 3) := by decide +kernel
theorem dX9_takesMade_25 : decode cX9_takesMade 25 = .ok (.goto (-23), 3) := by decide +kernel
theorem dX9_takesMade_28 : decode cX9_takesMade 28 = .ok (.aload_n 0, 1) := by decide +kernel
theorem dX9_takesMade_29 : decode cX9_takesMade 29 = .ok (.invokevirtual 146, 3) := by decide +kernel
theorem dX9_takesMade_32 : decode cX9_takesMade 32 = .ok (.pop, 1) := by decide +kernel
theorem dX9_takesMade_33 : decode cX9_takesMade 33 = .ok (.return_, 1) := by decide +kernel
theorem dX9_rowAt_0 : decode cX9_rowAt 0 = .ok (.iconst 0, 1) := by decide +kernel
theorem dX9_rowAt_1 : decode cX9_rowAt 1 = .ok (.istore_n 2, 1) := by decide +kernel
theorem dX9_rowAt_2 : decode cX9_rowAt 2 = .ok (.iconst 0, 1) := by decide +kernel
theorem dX9_rowAt_3 : decode cX9_rowAt 3 = .ok (.istore_n 3, 1) := by decide +kernel
theorem dX9_rowAt_4 : decode cX9_rowAt 4 = .ok (.iload_n 3, 1) := by decide +kernel
theorem dX9_rowAt_5 : decode cX9_rowAt 5 = .ok (.aload_n 0, 1) := by decide +kernel
theorem dX9_rowAt_6 : decode cX9_rowAt 6 = .ok (.getfield 127, 3) := by decide +kernel
theorem dX9_rowAt_9 : decode cX9_rowAt 9 = .ok (.if_icmp .ge 46, 3) := by decide +kernel
theorem dX9_rowAt_12 : decode cX9_rowAt 12 = .ok (.aload_n 0, 1) := by decide +kernel
theorem dX9_rowAt_13 : decode cX9_rowAt 13 = .ok (.getfield 66, 3) := by decide +kernel
theorem dX9_rowAt_16 : decode cX9_rowAt 16 = .ok (.aload_n 0, 1) := by decide +kernel
theorem dX9_rowAt_17 : decode cX9_rowAt 17 = .ok (.getfield 69, 3) := by decide +kernel
theorem dX9_rowAt_20 : decode cX9_rowAt 20 = .ok (.iload_n 3, 1) := by decide +kernel
theorem dX9_rowAt_21 : decode cX9_rowAt 21 = .ok (.iaload, 1) := by decide +kernel
theorem dX9_rowAt_22 : decode cX9_rowAt 22 = .ok (.iaload, 1) := by decide +kernel
theorem dX9_rowAt_23 : decode cX9_rowAt 23 = .ok (.ifCond .ge 6, 3) := by decide +kernel
theorem dX9_rowAt_26 : decode cX9_rowAt 26 = .ok (.goto 23, 3) := by decide +kernel
theorem dX9_rowAt_29 : decode cX9_rowAt 29 = .ok (.iload_n 2, 1) := by decide +kernel
theorem dX9_rowAt_30 : decode cX9_rowAt 30 = .ok (.iload_n 1, 1) := by decide +kernel
theorem dX9_rowAt_31 : decode cX9_rowAt 31 = .ok (.if_icmp .ne 15, 3) := by decide +kernel
theorem dX9_rowAt_34 : decode cX9_rowAt 34 = .ok (.aload_n 0, 1) := by decide +kernel
theorem dX9_rowAt_35 : decode cX9_rowAt 35 = .ok (.getfield 66, 3) := by decide +kernel
theorem dX9_rowAt_38 : decode cX9_rowAt 38 = .ok (.aload_n 0, 1) := by decide +kernel
theorem dX9_rowAt_39 : decode cX9_rowAt 39 = .ok (.getfield 69, 3) := by decide +kernel
theorem dX9_rowAt_42 : decode cX9_rowAt 42 = .ok (.iload_n 3, 1) := by decide +kernel
theorem dX9_rowAt_43 : decode cX9_rowAt 43 = .ok (.iaload, 1) := by decide +kernel
theorem dX9_rowAt_44 : decode cX9_rowAt 44 = .ok (.iaload, 1) := by decide +kernel
theorem dX9_rowAt_45 : decode cX9_rowAt 45 = .ok (.ireturn, 1) := by decide +kernel
theorem dX9_rowAt_46 : decode cX9_rowAt 46 = .ok (.iinc 2 1, 3) := by decide +kernel
theorem dX9_rowAt_49 : decode cX9_rowAt 49 = .ok (.iinc 3 1, 3) := by decide +kernel
theorem dX9_rowAt_52 : decode cX9_rowAt 52 = .ok (.goto (-48), 3) := by decide +kernel
theorem dX9_rowAt_55 : decode cX9_rowAt 55 = .ok (.iconst (-1), 1) := by decide +kernel
theorem dX9_rowAt_56 : decode cX9_rowAt 56 = .ok (.ireturn, 1) := by decide +kernel
theorem dX9_spans_0 : decode cX9_spans 0 = .ok (.aload_n 0, 1) := by decide +kernel
theorem dX9_spans_1 : decode cX9_spans 1 = .ok (.invokevirtual 150, 3) := by decide +kernel
theorem dX9_spans_4 : decode cX9_spans 4 = .ok (.iconst 0, 1) := by decide +kernel
theorem dX9_spans_5 : decode cX9_spans 5 = .ok (.istore_n 2, 1) := by decide +kernel
theorem dX9_spans_6 : decode cX9_spans 6 = .ok (.iload_n 2, 1) := by decide +kernel
theorem dX9_spans_7 : decode cX9_spans 7 = .ok (.aload_n 0, 1) := by decide +kernel
theorem dX9_spans_8 : decode cX9_spans 8 = .ok (.getfield 153, 3) := by decide +kernel
theorem dX9_spans_11 : decode cX9_spans 11 = .ok (.if_icmp .ge 189, 3) := by decide +kernel
theorem dX9_spans_14 : decode cX9_spans 14 = .ok (.iconst 0, 1) := by decide +kernel
theorem dX9_spans_15 : decode cX9_spans 15 = .ok (.istore_n 3, 1) := by decide +kernel
theorem dX9_spans_16 : decode cX9_spans 16 = .ok (.iload_n 3, 1) := by decide +kernel
theorem dX9_spans_17 : decode cX9_spans 17 = .ok (.aload_n 0, 1) := by decide +kernel
theorem dX9_spans_18 : decode cX9_spans 18 = .ok (.getfield 18, 3) := by decide +kernel
theorem dX9_spans_21 : decode cX9_spans 21 = .ok (.if_icmp .ge 173, 3) := by decide +kernel
theorem dX9_spans_24 : decode cX9_spans 24 = .ok (.aload_n 0, 1) := by decide +kernel
theorem dX9_spans_25 : decode cX9_spans 25 = .ok (.aload_n 0, 1) := by decide +kernel
theorem dX9_spans_26 : decode cX9_spans 26 = .ok (.getfield 75, 3) := by decide +kernel
theorem dX9_spans_29 : decode cX9_spans 29 = .ok (.iload_n 3, 1) := by decide +kernel
theorem dX9_spans_30 : decode cX9_spans 30 = .ok (.invokevirtual 156, 3) := by decide +kernel
theorem dX9_spans_33 : decode cX9_spans 33 = .ok (.iload_n 1, 1) := by decide +kernel
theorem dX9_spans_34 : decode cX9_spans 34 = .ok (.ifCond .ne 23, 3) := by decide +kernel
theorem dX9_spans_37 : decode cX9_spans 37 = .ok (.aload_n 0, 1) := by decide +kernel
theorem dX9_spans_38 : decode cX9_spans 38 = .ok (.aload_n 0, 1) := by decide +kernel
theorem dX9_spans_39 : decode cX9_spans 39 = .ok (.getfield 75, 3) := by decide +kernel
theorem dX9_spans_42 : decode cX9_spans 42 = .ok (.iconst 0, 1) := by decide +kernel
theorem dX9_spans_43 : decode cX9_spans 43 = .ok (.aload_n 0, 1) := by decide +kernel
theorem dX9_spans_44 : decode cX9_spans 44 = .ok (.getfield 25, 3) := by decide +kernel
theorem dX9_spans_47 : decode cX9_spans 47 = .ok (.bipush 16, 2) := by decide +kernel
theorem dX9_spans_49 : decode cX9_spans 49 = .ok (.iload_n 2, 1) := by decide +kernel
theorem dX9_spans_50 : decode cX9_spans 50 = .ok (.imul, 1) := by decide +kernel
theorem dX9_spans_51 : decode cX9_spans 51 = .ok (.invokevirtual 160, 3) := by decide +kernel
theorem dX9_spans_54 : decode cX9_spans 54 = .ok (.goto 20, 3) := by decide +kernel
theorem dX9_spans_57 : decode cX9_spans 57 = .ok (.aload_n 0, 1) := by decide +kernel
theorem dX9_spans_58 : decode cX9_spans 58 = .ok (.aload_n 0, 1) := by decide +kernel
theorem dX9_spans_59 : decode cX9_spans 59 = .ok (.getfield 25, 3) := by decide +kernel
theorem dX9_spans_62 : decode cX9_spans 62 = .ok (.bipush 16, 2) := by decide +kernel
theorem dX9_spans_64 : decode cX9_spans 64 = .ok (.iload_n 2, 1) := by decide +kernel
theorem dX9_spans_65 : decode cX9_spans 65 = .ok (.imul, 1) := by decide +kernel
theorem dX9_spans_66 : decode cX9_spans 66 = .ok (.aload_n 0, 1) := by decide +kernel
theorem dX9_spans_67 : decode cX9_spans 67 = .ok (.getfield 75, 3) := by decide +kernel
theorem dX9_spans_70 : decode cX9_spans 70 = .ok (.iconst 0, 1) := by decide +kernel
theorem dX9_spans_71 : decode cX9_spans 71 = .ok (.invokevirtual 160, 3) := by decide +kernel
theorem dX9_spans_74 : decode cX9_spans 74 = .ok (.iload_n 1, 1) := by decide +kernel
theorem dX9_spans_75 : decode cX9_spans 75 = .ok (.iconst 2, 1) := by decide +kernel
theorem dX9_spans_76 : decode cX9_spans 76 = .ok (.if_icmp .ge 10, 3) := by decide +kernel
theorem dX9_spans_79 : decode cX9_spans 79 = .ok (.aload_n 0, 1) := by decide +kernel
theorem dX9_spans_80 : decode cX9_spans 80 = .ok (.invokevirtual 164, 3) := by decide +kernel
theorem dX9_spans_83 : decode cX9_spans 83 = .ok (.goto 105, 3) := by decide +kernel
theorem dX9_spans_86 : decode cX9_spans 86 = .ok (.iconst 0, 1) := by decide +kernel
theorem dX9_spans_87 : decode cX9_spans 87 = .ok (.istore 4, 2) := by decide +kernel
theorem dX9_spans_89 : decode cX9_spans 89 = .ok (.iload 4, 2) := by decide +kernel
theorem dX9_spans_91 : decode cX9_spans 91 = .ok (.aload_n 0, 1) := by decide +kernel
theorem dX9_spans_92 : decode cX9_spans 92 = .ok (.getfield 18, 3) := by decide +kernel
theorem dX9_spans_95 : decode cX9_spans 95 = .ok (.if_icmp .ge 93, 3) := by decide +kernel
theorem dX9_spans_98 : decode cX9_spans 98 = .ok (.aload_n 0, 1) := by decide +kernel
theorem dX9_spans_99 : decode cX9_spans 99 = .ok (.aload_n 0, 1) := by decide +kernel
theorem dX9_spans_100 : decode cX9_spans 100 = .ok (.getfield 75, 3) := by decide +kernel
theorem dX9_spans_103 : decode cX9_spans 103 = .ok (.iload_n 3, 1) := by decide +kernel
theorem dX9_spans_104 : decode cX9_spans 104 = .ok (.invokevirtual 156, 3) := by decide +kernel
theorem dX9_spans_107 : decode cX9_spans 107 = .ok (.aload_n 0, 1) := by decide +kernel
theorem dX9_spans_108 : decode cX9_spans 108 = .ok (.aload_n 0, 1) := by decide +kernel
theorem dX9_spans_109 : decode cX9_spans 109 = .ok (.getfield 25, 3) := by decide +kernel
theorem dX9_spans_112 : decode cX9_spans 112 = .ok (.bipush 16, 2) := by decide +kernel
theorem dX9_spans_114 : decode cX9_spans 114 = .ok (.iload_n 2, 1) := by decide +kernel
theorem dX9_spans_115 : decode cX9_spans 115 = .ok (.imul, 1) := by decide +kernel
theorem dX9_spans_116 : decode cX9_spans 116 = .ok (.aload_n 0, 1) := by decide +kernel
theorem dX9_spans_117 : decode cX9_spans 117 = .ok (.getfield 75, 3) := by decide +kernel
theorem dX9_spans_120 : decode cX9_spans 120 = .ok (.iconst 0, 1) := by decide +kernel
theorem dX9_spans_121 : decode cX9_spans 121 = .ok (.invokevirtual 160, 3) := by decide +kernel
theorem dX9_spans_124 : decode cX9_spans 124 = .ok (.iconst 0, 1) := by decide +kernel
theorem dX9_spans_125 : decode cX9_spans 125 = .ok (.istore 5, 2) := by decide +kernel
theorem dX9_spans_127 : decode cX9_spans 127 = .ok (.iload 5, 2) := by decide +kernel
theorem dX9_spans_129 : decode cX9_spans 129 = .ok (.bipush 16, 2) := by decide +kernel
theorem dX9_spans_131 : decode cX9_spans 131 = .ok (.if_icmp .ge 23, 3) := by decide +kernel
theorem dX9_spans_134 : decode cX9_spans 134 = .ok (.aload_n 0, 1) := by decide +kernel
theorem dX9_spans_135 : decode cX9_spans 135 = .ok (.getfield 78, 3) := by decide +kernel
theorem dX9_spans_138 : decode cX9_spans 138 = .ok (.iload 5, 2) := by decide +kernel
theorem dX9_spans_140 : decode cX9_spans 140 = .ok (.aload_n 0, 1) := by decide +kernel
theorem dX9_spans_141 : decode cX9_spans 141 = .ok (.getfield 81, 3) := by decide +kernel
theorem dX9_spans_144 : decode cX9_spans 144 = .ok (.iload 5, 2) := by decide +kernel
theorem dX9_spans_146 : decode cX9_spans 146 = .ok (.iaload, 1) := by decide +kernel
theorem dX9_spans_147 : decode cX9_spans 147 = .ok (.iastore, 1) := by decide +kernel
theorem dX9_spans_148 : decode cX9_spans 148 = .ok (.iinc 5 1, 3) := by decide +kernel
theorem dX9_spans_151 : decode cX9_spans 151 = .ok (.goto (-24), 3) := by decide +kernel
theorem dX9_spans_154 : decode cX9_spans 154 = .ok (.aload_n 0, 1) := by decide +kernel
theorem dX9_spans_155 : decode cX9_spans 155 = .ok (.aload_n 0, 1) := by decide +kernel
theorem dX9_spans_156 : decode cX9_spans 156 = .ok (.getfield 75, 3) := by decide +kernel
theorem dX9_spans_159 : decode cX9_spans 159 = .ok (.iload 4, 2) := by decide +kernel
theorem dX9_spans_161 : decode cX9_spans 161 = .ok (.invokevirtual 156, 3) := by decide +kernel
theorem dX9_spans_164 : decode cX9_spans 164 = .ok (.aload_n 0, 1) := by decide +kernel
theorem dX9_spans_165 : decode cX9_spans 165 = .ok (.aload_n 0, 1) := by decide +kernel
theorem dX9_spans_166 : decode cX9_spans 166 = .ok (.getfield 75, 3) := by decide +kernel
theorem dX9_spans_169 : decode cX9_spans 169 = .ok (.iconst 0, 1) := by decide +kernel
theorem dX9_spans_170 : decode cX9_spans 170 = .ok (.aload_n 0, 1) := by decide +kernel
theorem dX9_spans_171 : decode cX9_spans 171 = .ok (.getfield 78, 3) := by decide +kernel
theorem dX9_spans_174 : decode cX9_spans 174 = .ok (.iconst 0, 1) := by decide +kernel
theorem dX9_spans_175 : decode cX9_spans 175 = .ok (.invokevirtual 160, 3) := by decide +kernel
theorem dX9_spans_178 : decode cX9_spans 178 = .ok (.aload_n 0, 1) := by decide +kernel
theorem dX9_spans_179 : decode cX9_spans 179 = .ok (.invokevirtual 164, 3) := by decide +kernel
theorem dX9_spans_182 : decode cX9_spans 182 = .ok (.iinc 4 1, 3) := by decide +kernel
theorem dX9_spans_185 : decode cX9_spans 185 = .ok (.goto (-96), 3) := by decide +kernel
theorem dX9_spans_188 : decode cX9_spans 188 = .ok (.iinc 3 1, 3) := by decide +kernel
theorem dX9_spans_191 : decode cX9_spans 191 = .ok (.goto (-175), 3) := by decide +kernel
theorem dX9_spans_194 : decode cX9_spans 194 = .ok (.iinc 2 1, 3) := by decide +kernel
theorem dX9_spans_197 : decode cX9_spans 197 = .ok (.goto (-191), 3) := by decide +kernel
theorem dX9_spans_200 : decode cX9_spans 200 = .ok (.return_, 1) := by decide +kernel
theorem dX9_firstLead_0 : decode cX9_firstLead 0 = .ok (.aload_n 0, 1) := by decide +kernel
theorem dX9_firstLead_1 : decode cX9_firstLead 1 = .ok (.iconst 0, 1) := by decide +kernel
theorem dX9_firstLead_2 : decode cX9_firstLead 2 = .ok (.invokevirtual 167, 3) := by decide +kernel
theorem dX9_firstLead_5 : decode cX9_firstLead 5 = .ok (.istore_n 1, 1) := by decide +kernel
theorem dX9_firstLead_6 : decode cX9_firstLead 6 = .ok (.iload_n 1, 1) := by decide +kernel
theorem dX9_firstLead_7 : decode cX9_firstLead 7 = .ok (.ifCond .ge 8, 3) := by decide +kernel
theorem dX9_firstLead_10 : decode cX9_firstLead 10 = .ok (.bipush (-5), 2) := by decide +kernel
theorem dX9_firstLead_12 : decode cX9_firstLead 12 = .ok (.goto 9, 3) := by decide +kernel
theorem dX9_firstLead_15 : decode cX9_firstLead 15 = .ok (.aload_n 0, 1) := by decide +kernel
theorem dX9_firstLead_16 : decode cX9_firstLead 16 = .ok (.getfield 63, 3) := by decide +kernel
theorem dX9_firstLead_19 : decode cX9_firstLead 19 = .ok (.iload_n 1, 1) := by decide +kernel
theorem dX9_firstLead_20 : decode cX9_firstLead 20 = .ok (.iaload, 1) := by decide +kernel
theorem dX9_firstLead_21 : decode cX9_firstLead 21 = .ok (.ireturn, 1) := by decide +kernel
theorem dX9_letters_0 : decode cX9_letters 0 = .ok (.iload_n 1, 1) := by decide +kernel
theorem dX9_letters_1 : decode cX9_letters 1 = .ok (.i2l, 1) := by decide +kernel
theorem dX9_letters_2 : decode cX9_letters 2 = .ok (.ldc2_w 114, 3) := by decide +kernel
theorem dX9_letters_5 : decode cX9_letters 5 = .ok (.ldc2_w 170, 3) := by decide +kernel
theorem dX9_letters_8 : decode cX9_letters 8 = .ok (.invokestatic 108, 3) := by decide +kernel
theorem dX9_letters_11 : decode cX9_letters 11 = .ok (.ifCond .ne 6, 3) := by decide +kernel
theorem dX9_letters_14 : decode cX9_letters 14 = .ok (.bipush (-2), 2) := by decide +kernel
theorem dX9_letters_16 : decode cX9_letters 16 = .ok (.ireturn, 1) := by decide +kernel
theorem dX9_letters_17 : decode cX9_letters 17 = .ok (.aload_n 0, 1) := by decide +kernel
theorem dX9_letters_18 : decode cX9_letters 18 = .ok (.getfield 9, 3) := by decide +kernel
theorem dX9_letters_21 : decode cX9_letters 21 = .ok (.istore_n 2, 1) := by decide +kernel
theorem dX9_letters_22 : decode cX9_letters 22 = .ok (.aload_n 0, 1) := by decide +kernel
theorem dX9_letters_23 : decode cX9_letters 23 = .ok (.iload_n 1, 1) := by decide +kernel
theorem dX9_letters_24 : decode cX9_letters 24 = .ok (.putfield 9, 3) := by decide +kernel
theorem dX9_letters_27 : decode cX9_letters 27 = .ok (.aload_n 0, 1) := by decide +kernel
theorem dX9_letters_28 : decode cX9_letters 28 = .ok (.iconst 1, 1) := by decide +kernel
theorem dX9_letters_29 : decode cX9_letters 29 = .ok (.iload_n 1, 1) := by decide +kernel
theorem dX9_letters_30 : decode cX9_letters 30 = .ok (.ishl, 1) := by decide +kernel
theorem dX9_letters_31 : decode cX9_letters 31 = .ok (.putfield 18, 3) := by decide +kernel
theorem dX9_letters_34 : decode cX9_letters 34 = .ok (.aload_n 0, 1) := by decide +kernel
theorem dX9_letters_35 : decode cX9_letters 35 = .ok (.invokevirtual 172, 3) := by decide +kernel
theorem dX9_letters_38 : decode cX9_letters 38 = .ok (.iload_n 2, 1) := by decide +kernel
theorem dX9_letters_39 : decode cX9_letters 39 = .ok (.ireturn, 1) := by decide +kernel
theorem dX9_anew_0 : decode cX9_anew 0 = .ok (.iconst 0, 1) := by decide +kernel
theorem dX9_anew_1 : decode cX9_anew 1 = .ok (.istore_n 1, 1) := by decide +kernel
theorem dX9_anew_2 : decode cX9_anew 2 = .ok (.iload_n 1, 1) := by decide +kernel
theorem dX9_anew_3 : decode cX9_anew 3 = .ok (.bipush 96, 2) := by decide +kernel
theorem dX9_anew_5 : decode cX9_anew 5 = .ok (.if_icmp .ge 16, 3) := by decide +kernel
theorem dX9_anew_8 : decode cX9_anew 8 = .ok (.aload_n 0, 1) := by decide +kernel
theorem dX9_anew_9 : decode cX9_anew 9 = .ok (.getfield 21, 3) := by decide +kernel
theorem dX9_anew_12 : decode cX9_anew 12 = .ok (.iload_n 1, 1) := by decide +kernel
theorem dX9_anew_13 : decode cX9_anew 13 = .ok (.iconst 0, 1) := by decide +kernel
theorem dX9_anew_14 : decode cX9_anew 14 = .ok (.iastore, 1) := by decide +kernel
theorem dX9_anew_15 : decode cX9_anew 15 = .ok (.iinc 1 1, 3) := by decide +kernel
theorem dX9_anew_18 : decode cX9_anew 18 = .ok (.goto (-16), 3) := by decide +kernel
theorem dX9_anew_21 : decode cX9_anew 21 = .ok (.aload_n 0, 1) := by decide +kernel
theorem dX9_anew_22 : decode cX9_anew 22 = .ok (.iconst 0, 1) := by decide +kernel
theorem dX9_anew_23 : decode cX9_anew 23 = .ok (.putfield 153, 3) := by decide +kernel
theorem dX9_anew_26 : decode cX9_anew 26 = .ok (.return_, 1) := by decide +kernel
theorem dX9_prime_0 : decode cX9_prime 0 = .ok (.iload_n 1, 1) := by decide +kernel
theorem dX9_prime_1 : decode cX9_prime 1 = .ok (.iconst 2, 1) := by decide +kernel
theorem dX9_prime_2 : decode cX9_prime 2 = .ok (.if_icmp .eq 22, 3) := by decide +kernel
theorem dX9_prime_5 : decode cX9_prime 5 = .ok (.iload_n 1, 1) := by decide +kernel
theorem dX9_prime_6 : decode cX9_prime 6 = .ok (.iconst 3, 1) := by decide +kernel
theorem dX9_prime_7 : decode cX9_prime 7 = .ok (.if_icmp .eq 17, 3) := by decide +kernel
theorem dX9_prime_10 : decode cX9_prime 10 = .ok (.iload_n 1, 1) := by decide +kernel
theorem dX9_prime_11 : decode cX9_prime 11 = .ok (.iconst 5, 1) := by decide +kernel
theorem dX9_prime_12 : decode cX9_prime 12 = .ok (.if_icmp .eq 12, 3) := by decide +kernel
theorem dX9_prime_15 : decode cX9_prime 15 = .ok (.iload_n 1, 1) := by decide +kernel
theorem dX9_prime_16 : decode cX9_prime 16 = .ok (.bipush 7, 2) := by decide +kernel
theorem dX9_prime_18 : decode cX9_prime 18 = .ok (.if_icmp .eq 6, 3) := by decide +kernel
theorem dX9_prime_21 : decode cX9_prime 21 = .ok (.bipush (-2), 2) := by decide +kernel
theorem dX9_prime_23 : decode cX9_prime 23 = .ok (.ireturn, 1) := by decide +kernel
theorem dX9_prime_24 : decode cX9_prime 24 = .ok (.aload_n 0, 1) := by decide +kernel
theorem dX9_prime_25 : decode cX9_prime 25 = .ok (.getfield 15, 3) := by decide +kernel
theorem dX9_prime_28 : decode cX9_prime 28 = .ok (.istore_n 2, 1) := by decide +kernel
theorem dX9_prime_29 : decode cX9_prime 29 = .ok (.aload_n 0, 1) := by decide +kernel
theorem dX9_prime_30 : decode cX9_prime 30 = .ok (.iload_n 1, 1) := by decide +kernel
theorem dX9_prime_31 : decode cX9_prime 31 = .ok (.putfield 15, 3) := by decide +kernel
theorem dX9_prime_34 : decode cX9_prime 34 = .ok (.aload_n 0, 1) := by decide +kernel
theorem dX9_prime_35 : decode cX9_prime 35 = .ok (.invokevirtual 172, 3) := by decide +kernel
theorem dX9_prime_38 : decode cX9_prime 38 = .ok (.iload_n 2, 1) := by decide +kernel
theorem dX9_prime_39 : decode cX9_prime 39 = .ok (.ireturn, 1) := by decide +kernel
theorem dX9_order_0 : decode cX9_order 0 = .ok (.iload_n 1, 1) := by decide +kernel
theorem dX9_order_1 : decode cX9_order 1 = .ok (.i2l, 1) := by decide +kernel
theorem dX9_order_2 : decode cX9_order 2 = .ok (.lconst 0, 1) := by decide +kernel
theorem dX9_order_3 : decode cX9_order 3 = .ok (.lconst 1, 1) := by decide +kernel
theorem dX9_order_4 : decode cX9_order 4 = .ok (.invokestatic 108, 3) := by decide +kernel
theorem dX9_order_7 : decode cX9_order 7 = .ok (.ifCond .ne 5, 3) := by decide +kernel
theorem dX9_order_10 : decode cX9_order 10 = .ok (.iconst (-1), 1) := by decide +kernel
theorem dX9_order_11 : decode cX9_order 11 = .ok (.ireturn, 1) := by decide +kernel
theorem dX9_order_12 : decode cX9_order 12 = .ok (.aload_n 0, 1) := by decide +kernel
theorem dX9_order_13 : decode cX9_order 13 = .ok (.getfield 134, 3) := by decide +kernel
theorem dX9_order_16 : decode cX9_order 16 = .ok (.istore_n 2, 1) := by decide +kernel
theorem dX9_order_17 : decode cX9_order 17 = .ok (.aload_n 0, 1) := by decide +kernel
theorem dX9_order_18 : decode cX9_order 18 = .ok (.iload_n 1, 1) := by decide +kernel
theorem dX9_order_19 : decode cX9_order 19 = .ok (.putfield 134, 3) := by decide +kernel
theorem dX9_order_22 : decode cX9_order 22 = .ok (.iload_n 2, 1) := by decide +kernel
theorem dX9_order_23 : decode cX9_order 23 = .ok (.ireturn, 1) := by decide +kernel
theorem dX9_set_0 : decode cX9_set 0 = .ok (.iload_n 1, 1) := by decide +kernel
theorem dX9_set_1 : decode cX9_set 1 = .ok (.invokestatic 175, 3) := by decide +kernel
theorem dX9_set_4 : decode cX9_set 4 = .ok (.ifCond .eq 11, 3) := by decide +kernel
theorem dX9_set_7 : decode cX9_set 7 = .ok (.aload_n 0, 1) := by decide +kernel
theorem dX9_set_8 : decode cX9_set 8 = .ok (.iload_n 2, 1) := by decide +kernel
theorem dX9_set_9 : decode cX9_set 9 = .ok (.invokevirtual 179, 3) := by decide +kernel
theorem dX9_set_12 : decode cX9_set 12 = .ok (.ifCond .ne 5, 3) := by decide +kernel
theorem dX9_set_15 : decode cX9_set 15 = .ok (.iconst (-1), 1) := by decide +kernel
theorem dX9_set_16 : decode cX9_set 16 = .ok (.ireturn, 1) := by decide +kernel
theorem dX9_set_17 : decode cX9_set 17 = .ok (.aload_n 0, 1) := by decide +kernel
theorem dX9_set_18 : decode cX9_set 18 = .ok (.getfield 21, 3) := by decide +kernel
theorem dX9_set_21 : decode cX9_set 21 = .ok (.bipush 16, 2) := by decide +kernel
theorem dX9_set_23 : decode cX9_set 23 = .ok (.iload_n 1, 1) := by decide +kernel
theorem dX9_set_24 : decode cX9_set 24 = .ok (.imul, 1) := by decide +kernel
theorem dX9_set_25 : decode cX9_set 25 = .ok (.iload_n 2, 1) := by decide +kernel
theorem dX9_set_26 : decode cX9_set 26 = .ok (.iadd, 1) := by decide +kernel
theorem dX9_set_27 : decode cX9_set 27 = .ok (.iaload, 1) := by decide +kernel
theorem dX9_set_28 : decode cX9_set 28 = .ok (.istore 4, 2) := by decide +kernel
theorem dX9_set_30 : decode cX9_set 30 = .ok (.aload_n 0, 1) := by decide +kernel
theorem dX9_set_31 : decode cX9_set 31 = .ok (.getfield 21, 3) := by decide +kernel
theorem dX9_set_34 : decode cX9_set 34 = .ok (.bipush 16, 2) := by decide +kernel
theorem dX9_set_36 : decode cX9_set 36 = .ok (.iload_n 1, 1) := by decide +kernel
theorem dX9_set_37 : decode cX9_set 37 = .ok (.imul, 1) := by decide +kernel
theorem dX9_set_38 : decode cX9_set 38 = .ok (.iload_n 2, 1) := by decide +kernel
theorem dX9_set_39 : decode cX9_set 39 = .ok (.iadd, 1) := by decide +kernel
theorem dX9_set_40 : decode cX9_set 40 = .ok (.aload_n 0, 1) := by decide +kernel
theorem dX9_set_41 : decode cX9_set 41 = .ok (.iload_n 3, 1) := by decide +kernel
theorem dX9_set_42 : decode cX9_set 42 = .ok (.i2l, 1) := by decide +kernel
theorem dX9_set_43 : decode cX9_set 43 = .ok (.invokevirtual 120, 3) := by decide +kernel
theorem dX9_set_46 : decode cX9_set 46 = .ok (.iastore, 1) := by decide +kernel
theorem dX9_set_47 : decode cX9_set 47 = .ok (.iload 4, 2) := by decide +kernel
theorem dX9_set_49 : decode cX9_set 49 = .ok (.ireturn, 1) := by decide +kernel
theorem dX9_lays_0 : decode cX9_lays 0 = .ok (.iconst 0, 1) := by decide +kernel
theorem dX9_lays_1 : decode cX9_lays 1 = .ok (.istore_n 2, 1) := by decide +kernel
theorem dX9_lays_2 : decode cX9_lays 2 = .ok (.iconst 0, 1) := by decide +kernel
theorem dX9_lays_3 : decode cX9_lays 3 = .ok (.istore_n 3, 1) := by decide +kernel
theorem dX9_lays_4 : decode cX9_lays 4 = .ok (.iload_n 3, 1) := by decide +kernel
theorem dX9_lays_5 : decode cX9_lays 5 = .ok (.bipush 16, 2) := by decide +kernel
theorem dX9_lays_7 : decode cX9_lays 7 = .ok (.if_icmp .ge 38, 3) := by decide +kernel
theorem dX9_lays_10 : decode cX9_lays 10 = .ok (.aload_n 0, 1) := by decide +kernel
theorem dX9_lays_11 : decode cX9_lays 11 = .ok (.getfield 21, 3) := by decide +kernel
theorem dX9_lays_14 : decode cX9_lays 14 = .ok (.bipush 16, 2) := by decide +kernel
theorem dX9_lays_16 : decode cX9_lays 16 = .ok (.iload_n 1, 1) := by decide +kernel
theorem dX9_lays_17 : decode cX9_lays 17 = .ok (.imul, 1) := by decide +kernel
theorem dX9_lays_18 : decode cX9_lays 18 = .ok (.iload_n 3, 1) := by decide +kernel
theorem dX9_lays_19 : decode cX9_lays 19 = .ok (.iadd, 1) := by decide +kernel
theorem dX9_lays_20 : decode cX9_lays 20 = .ok (.aload_n 0, 1) := by decide +kernel
theorem dX9_lays_21 : decode cX9_lays 21 = .ok (.getfield 81, 3) := by decide +kernel
theorem dX9_lays_24 : decode cX9_lays 24 = .ok (.iload_n 3, 1) := by decide +kernel
theorem dX9_lays_25 : decode cX9_lays 25 = .ok (.iaload, 1) := by decide +kernel
theorem dX9_lays_26 : decode cX9_lays 26 = .ok (.iastore, 1) := by decide +kernel
theorem dX9_lays_27 : decode cX9_lays 27 = .ok (.aload_n 0, 1) := by decide +kernel
theorem dX9_lays_28 : decode cX9_lays 28 = .ok (.getfield 81, 3) := by decide +kernel
theorem dX9_lays_31 : decode cX9_lays 31 = .ok (.iload_n 3, 1) := by decide +kernel
theorem dX9_lays_32 : decode cX9_lays 32 = .ok (.iaload, 1) := by decide +kernel
theorem dX9_lays_33 : decode cX9_lays 33 = .ok (.ifCond .eq 6, 3) := by decide +kernel
theorem dX9_lays_36 : decode cX9_lays 36 = .ok (.iinc 2 1, 3) := by decide +kernel
theorem dX9_lays_39 : decode cX9_lays 39 = .ok (.iinc 3 1, 3) := by decide +kernel
theorem dX9_lays_42 : decode cX9_lays 42 = .ok (.goto (-38), 3) := by decide +kernel
theorem dX9_lays_45 : decode cX9_lays 45 = .ok (.iload_n 2, 1) := by decide +kernel
theorem dX9_lays_46 : decode cX9_lays 46 = .ok (.ireturn, 1) := by decide +kernel
theorem dX9_product_0 : decode cX9_product 0 = .ok (.iload_n 1, 1) := by decide +kernel
theorem dX9_product_1 : decode cX9_product 1 = .ok (.invokestatic 175, 3) := by decide +kernel
theorem dX9_product_4 : decode cX9_product 4 = .ok (.ifCond .eq 17, 3) := by decide +kernel
theorem dX9_product_7 : decode cX9_product 7 = .ok (.iload_n 2, 1) := by decide +kernel
theorem dX9_product_8 : decode cX9_product 8 = .ok (.invokestatic 175, 3) := by decide +kernel
theorem dX9_product_11 : decode cX9_product 11 = .ok (.ifCond .eq 10, 3) := by decide +kernel
theorem dX9_product_14 : decode cX9_product 14 = .ok (.iload_n 3, 1) := by decide +kernel
theorem dX9_product_15 : decode cX9_product 15 = .ok (.invokestatic 175, 3) := by decide +kernel
theorem dX9_product_18 : decode cX9_product 18 = .ok (.ifCond .ne 5, 3) := by decide +kernel
theorem dX9_product_21 : decode cX9_product 21 = .ok (.iconst (-1), 1) := by decide +kernel
theorem dX9_product_22 : decode cX9_product 22 = .ok (.ireturn, 1) := by decide +kernel
theorem dX9_product_23 : decode cX9_product 23 = .ok (.aload_n 0, 1) := by decide +kernel
theorem dX9_product_24 : decode cX9_product 24 = .ok (.aload_n 0, 1) := by decide +kernel
theorem dX9_product_25 : decode cX9_product 25 = .ok (.getfield 21, 3) := by decide +kernel
theorem dX9_product_28 : decode cX9_product 28 = .ok (.bipush 16, 2) := by decide +kernel
theorem dX9_product_30 : decode cX9_product 30 = .ok (.iload_n 2, 1) := by decide +kernel
theorem dX9_product_31 : decode cX9_product 31 = .ok (.imul, 1) := by decide +kernel
theorem dX9_product_32 : decode cX9_product 32 = .ok (.aload_n 0, 1) := by decide +kernel
theorem dX9_product_33 : decode cX9_product 33 = .ok (.getfield 21, 3) := by decide +kernel
theorem dX9_product_36 : decode cX9_product 36 = .ok (.bipush 16, 2) := by decide +kernel
theorem dX9_product_38 : decode cX9_product 38 = .ok (.iload_n 3, 1) := by decide +kernel
theorem dX9_product_39 : decode cX9_product 39 = .ok (.imul, 1) := by decide +kernel
theorem dX9_product_40 : decode cX9_product 40 = .ok (.invokevirtual 160, 3) := by decide +kernel
theorem dX9_product_43 : decode cX9_product 43 = .ok (.aload_n 0, 1) := by decide +kernel
theorem dX9_product_44 : decode cX9_product 44 = .ok (.iload_n 1, 1) := by decide +kernel
theorem dX9_product_45 : decode cX9_product 45 = .ok (.invokevirtual 182, 3) := by decide +kernel
theorem dX9_product_48 : decode cX9_product 48 = .ok (.ireturn, 1) := by decide +kernel
theorem dX9_mix_0 : decode cX9_mix 0 = .ok (.iload_n 1, 1) := by decide +kernel
theorem dX9_mix_1 : decode cX9_mix 1 = .ok (.invokestatic 175, 3) := by decide +kernel
theorem dX9_mix_4 : decode cX9_mix 4 = .ok (.ifCond .eq 18, 3) := by decide +kernel
theorem dX9_mix_7 : decode cX9_mix 7 = .ok (.iload_n 2, 1) := by decide +kernel
theorem dX9_mix_8 : decode cX9_mix 8 = .ok (.invokestatic 175, 3) := by decide +kernel
theorem dX9_mix_11 : decode cX9_mix 11 = .ok (.ifCond .eq 11, 3) := by decide +kernel
theorem dX9_mix_14 : decode cX9_mix 14 = .ok (.iload 4, 2) := by decide +kernel
theorem dX9_mix_16 : decode cX9_mix 16 = .ok (.invokestatic 175, 3) := by decide +kernel
theorem dX9_mix_19 : decode cX9_mix 19 = .ok (.ifCond .ne 5, 3) := by decide +kernel
theorem dX9_mix_22 : decode cX9_mix 22 = .ok (.iconst (-1), 1) := by decide +kernel
theorem dX9_mix_23 : decode cX9_mix 23 = .ok (.ireturn, 1) := by decide +kernel
theorem dX9_mix_24 : decode cX9_mix 24 = .ok (.iconst 0, 1) := by decide +kernel
theorem dX9_mix_25 : decode cX9_mix 25 = .ok (.istore 6, 2) := by decide +kernel
theorem dX9_mix_27 : decode cX9_mix 27 = .ok (.iload 6, 2) := by decide +kernel
theorem dX9_mix_29 : decode cX9_mix 29 = .ok (.bipush 16, 2) := by decide +kernel
theorem dX9_mix_31 : decode cX9_mix 31 = .ok (.if_icmp .ge 65, 3) := by decide +kernel
theorem dX9_mix_34 : decode cX9_mix 34 = .ok (.aload_n 0, 1) := by decide +kernel
theorem dX9_mix_35 : decode cX9_mix 35 = .ok (.getfield 81, 3) := by decide +kernel
theorem dX9_mix_38 : decode cX9_mix 38 = .ok (.iload 6, 2) := by decide +kernel
theorem dX9_mix_40 : decode cX9_mix 40 = .ok (.aload_n 0, 1) := by decide +kernel
theorem dX9_mix_41 : decode cX9_mix 41 = .ok (.aload_n 0, 1) := by decide +kernel
theorem dX9_mix_42 : decode cX9_mix 42 = .ok (.iload_n 3, 1) := by decide +kernel
theorem dX9_mix_43 : decode cX9_mix 43 = .ok (.i2l, 1) := by decide +kernel
theorem dX9_mix_44 : decode cX9_mix 44 = .ok (.invokevirtual 120, 3) := by decide +kernel
theorem dX9_mix_47 : decode cX9_mix 47 = .ok (.i2l, 1) := by decide +kernel
theorem dX9_mix_48 : decode cX9_mix 48 = .ok (.aload_n 0, 1) := by decide +kernel
theorem dX9_mix_49 : decode cX9_mix 49 = .ok (.getfield 21, 3) := by decide +kernel
theorem dX9_mix_52 : decode cX9_mix 52 = .ok (.bipush 16, 2) := by decide +kernel
theorem dX9_mix_54 : decode cX9_mix 54 = .ok (.iload_n 2, 1) := by decide +kernel
theorem dX9_mix_55 : decode cX9_mix 55 = .ok (.imul, 1) := by decide +kernel
theorem dX9_mix_56 : decode cX9_mix 56 = .ok (.iload 6, 2) := by decide +kernel
theorem dX9_mix_58 : decode cX9_mix 58 = .ok (.iadd, 1) := by decide +kernel
theorem dX9_mix_59 : decode cX9_mix 59 = .ok (.iaload, 1) := by decide +kernel
theorem dX9_mix_60 : decode cX9_mix 60 = .ok (.i2l, 1) := by decide +kernel
theorem dX9_mix_61 : decode cX9_mix 61 = .ok (.lmul, 1) := by decide +kernel
theorem dX9_mix_62 : decode cX9_mix 62 = .ok (.aload_n 0, 1) := by decide +kernel
theorem dX9_mix_63 : decode cX9_mix 63 = .ok (.iload 5, 2) := by decide +kernel
theorem dX9_mix_65 : decode cX9_mix 65 = .ok (.i2l, 1) := by decide +kernel
theorem dX9_mix_66 : decode cX9_mix 66 = .ok (.invokevirtual 120, 3) := by decide +kernel
theorem dX9_mix_69 : decode cX9_mix 69 = .ok (.i2l, 1) := by decide +kernel
theorem dX9_mix_70 : decode cX9_mix 70 = .ok (.aload_n 0, 1) := by decide +kernel
theorem dX9_mix_71 : decode cX9_mix 71 = .ok (.getfield 21, 3) := by decide +kernel
theorem dX9_mix_74 : decode cX9_mix 74 = .ok (.bipush 16, 2) := by decide +kernel
theorem dX9_mix_76 : decode cX9_mix 76 = .ok (.iload 4, 2) := by decide +kernel
theorem dX9_mix_78 : decode cX9_mix 78 = .ok (.imul, 1) := by decide +kernel
theorem dX9_mix_79 : decode cX9_mix 79 = .ok (.iload 6, 2) := by decide +kernel
theorem dX9_mix_81 : decode cX9_mix 81 = .ok (.iadd, 1) := by decide +kernel
theorem dX9_mix_82 : decode cX9_mix 82 = .ok (.iaload, 1) := by decide +kernel
theorem dX9_mix_83 : decode cX9_mix 83 = .ok (.i2l, 1) := by decide +kernel
theorem dX9_mix_84 : decode cX9_mix 84 = .ok (.lmul, 1) := by decide +kernel
theorem dX9_mix_85 : decode cX9_mix 85 = .ok (.ladd, 1) := by decide +kernel
theorem dX9_mix_86 : decode cX9_mix 86 = .ok (.invokevirtual 120, 3) := by decide +kernel
theorem dX9_mix_89 : decode cX9_mix 89 = .ok (.iastore, 1) := by decide +kernel
theorem dX9_mix_90 : decode cX9_mix 90 = .ok (.iinc 6 1, 3) := by decide +kernel
theorem dX9_mix_93 : decode cX9_mix 93 = .ok (.goto (-66), 3) := by decide +kernel
theorem dX9_mix_96 : decode cX9_mix 96 = .ok (.aload_n 0, 1) := by decide +kernel
theorem dX9_mix_97 : decode cX9_mix 97 = .ok (.iload_n 1, 1) := by decide +kernel
theorem dX9_mix_98 : decode cX9_mix 98 = .ok (.invokevirtual 182, 3) := by decide +kernel
theorem dX9_mix_101 : decode cX9_mix 101 = .ok (.ireturn, 1) := by decide +kernel
theorem dX9_rests_0 : decode cX9_rests 0 = .ok (.iconst 0, 1) := by decide +kernel
theorem dX9_rests_1 : decode cX9_rests 1 = .ok (.istore_n 2, 1) := by decide +kernel
theorem dX9_rests_2 : decode cX9_rests 2 = .ok (.iload_n 2, 1) := by decide +kernel
theorem dX9_rests_3 : decode cX9_rests 3 = .ok (.aload_n 0, 1) := by decide +kernel
theorem dX9_rests_4 : decode cX9_rests 4 = .ok (.getfield 18, 3) := by decide +kernel
theorem dX9_rests_7 : decode cX9_rests 7 = .ok (.if_icmp .ge 26, 3) := by decide +kernel
theorem dX9_rests_10 : decode cX9_rests 10 = .ok (.aload_n 0, 1) := by decide +kernel
theorem dX9_rests_11 : decode cX9_rests 11 = .ok (.getfield 72, 3) := by decide +kernel
theorem dX9_rests_14 : decode cX9_rests 14 = .ok (.iload_n 2, 1) := by decide +kernel
theorem dX9_rests_15 : decode cX9_rests 15 = .ok (.aload_n 0, 1) := by decide +kernel
theorem dX9_rests_16 : decode cX9_rests 16 = .ok (.getfield 21, 3) := by decide +kernel
theorem dX9_rests_19 : decode cX9_rests 19 = .ok (.bipush 16, 2) := by decide +kernel
theorem dX9_rests_21 : decode cX9_rests 21 = .ok (.iload_n 1, 1) := by decide +kernel
theorem dX9_rests_22 : decode cX9_rests 22 = .ok (.imul, 1) := by decide +kernel
theorem dX9_rests_23 : decode cX9_rests 23 = .ok (.iload_n 2, 1) := by decide +kernel
theorem dX9_rests_24 : decode cX9_rests 24 = .ok (.iadd, 1) := by decide +kernel
theorem dX9_rests_25 : decode cX9_rests 25 = .ok (.iaload, 1) := by decide +kernel
theorem dX9_rests_26 : decode cX9_rests 26 = .ok (.iastore, 1) := by decide +kernel
theorem dX9_rests_27 : decode cX9_rests 27 = .ok (.iinc 2 1, 3) := by decide +kernel
theorem dX9_rests_30 : decode cX9_rests 30 = .ok (.goto (-28), 3) := by decide +kernel
theorem dX9_rests_33 : decode cX9_rests 33 = .ok (.aload_n 0, 1) := by decide +kernel
theorem dX9_rests_34 : decode cX9_rests 34 = .ok (.invokevirtual 140, 3) := by decide +kernel
theorem dX9_rests_37 : decode cX9_rests 37 = .ok (.iconst 0, 1) := by decide +kernel
theorem dX9_rests_38 : decode cX9_rests 38 = .ok (.istore_n 2, 1) := by decide +kernel
theorem dX9_rests_39 : decode cX9_rests 39 = .ok (.iload_n 2, 1) := by decide +kernel
theorem dX9_rests_40 : decode cX9_rests 40 = .ok (.bipush 16, 2) := by decide +kernel
theorem dX9_rests_42 : decode cX9_rests 42 = .ok (.if_icmp .ge 33, 3) := by decide +kernel
theorem dX9_rests_45 : decode cX9_rests 45 = .ok (.aload_n 0, 1) := by decide +kernel
theorem dX9_rests_46 : decode cX9_rests 46 = .ok (.getfield 81, 3) := by decide +kernel
theorem dX9_rests_49 : decode cX9_rests 49 = .ok (.iload_n 2, 1) := by decide +kernel
theorem dX9_rests_50 : decode cX9_rests 50 = .ok (.iload_n 2, 1) := by decide +kernel
theorem dX9_rests_51 : decode cX9_rests 51 = .ok (.aload_n 0, 1) := by decide +kernel
theorem dX9_rests_52 : decode cX9_rests 52 = .ok (.getfield 18, 3) := by decide +kernel
theorem dX9_rests_55 : decode cX9_rests 55 = .ok (.if_icmp .ge 12, 3) := by decide +kernel
theorem dX9_rests_58 : decode cX9_rests 58 = .ok (.aload_n 0, 1) := by decide +kernel
theorem dX9_rests_59 : decode cX9_rests 59 = .ok (.getfield 72, 3) := by decide +kernel
theorem dX9_rests_62 : decode cX9_rests 62 = .ok (.iload_n 2, 1) := by decide +kernel
theorem dX9_rests_63 : decode cX9_rests 63 = .ok (.iaload, 1) := by decide +kernel
theorem dX9_rests_64 : decode cX9_rests 64 = .ok (.goto 4, 3) := by decide +kernel
theorem dX9_rests_67 : decode cX9_rests 67 = .ok (.iconst 0, 1) := by decide +kernel
theorem dX9_rests_68 : decode cX9_rests 68 = .ok (.iastore, 1) := by decide +kernel
theorem dX9_rests_69 : decode cX9_rests 69 = .ok (.iinc 2 1, 3) := by decide +kernel
theorem dX9_rests_72 : decode cX9_rests 72 = .ok (.goto (-33), 3) := by decide +kernel
theorem dX9_rests_75 : decode cX9_rests 75 = .ok (.return_, 1) := by decide +kernel
theorem dX9_becomes_0 : decode cX9_becomes 0 = .ok (.iload_n 1, 1) := by decide +kernel
theorem dX9_becomes_1 : decode cX9_becomes 1 = .ok (.invokestatic 175, 3) := by decide +kernel
theorem dX9_becomes_4 : decode cX9_becomes 4 = .ok (.ifCond .eq 22, 3) := by decide +kernel
theorem dX9_becomes_7 : decode cX9_becomes 7 = .ok (.iload_n 2, 1) := by decide +kernel
theorem dX9_becomes_8 : decode cX9_becomes 8 = .ok (.invokestatic 175, 3) := by decide +kernel
theorem dX9_becomes_11 : decode cX9_becomes 11 = .ok (.ifCond .eq 15, 3) := by decide +kernel
theorem dX9_becomes_14 : decode cX9_becomes 14 = .ok (.iload_n 3, 1) := by decide +kernel
theorem dX9_becomes_15 : decode cX9_becomes 15 = .ok (.i2l, 1) := by decide +kernel
theorem dX9_becomes_16 : decode cX9_becomes 16 = .ok (.lconst 0, 1) := by decide +kernel
theorem dX9_becomes_17 : decode cX9_becomes 17 = .ok (.ldc2_w 170, 3) := by decide +kernel
theorem dX9_becomes_20 : decode cX9_becomes 20 = .ok (.invokestatic 108, 3) := by decide +kernel
theorem dX9_becomes_23 : decode cX9_becomes 23 = .ok (.ifCond .ne 5, 3) := by decide +kernel
theorem dX9_becomes_26 : decode cX9_becomes 26 = .ok (.iconst (-1), 1) := by decide +kernel
theorem dX9_becomes_27 : decode cX9_becomes 27 = .ok (.ireturn, 1) := by decide +kernel
theorem dX9_becomes_28 : decode cX9_becomes 28 = .ok (.iload_n 3, 1) := by decide +kernel
theorem dX9_becomes_29 : decode cX9_becomes 29 = .ok (.iconst 2, 1) := by decide +kernel
theorem dX9_becomes_30 : decode cX9_becomes 30 = .ok (.if_icmp .lt 21, 3) := by decide +kernel
theorem dX9_becomes_33 : decode cX9_becomes 33 = .ok (.aload_n 0, 1) := by decide +kernel
theorem dX9_becomes_34 : decode cX9_becomes 34 = .ok (.iload_n 3, 1) := by decide +kernel
theorem dX9_becomes_35 : decode cX9_becomes 35 = .ok (.iconst 2, 1) := by decide +kernel
theorem dX9_becomes_36 : decode cX9_becomes 36 = .ok (.isub, 1) := by decide +kernel
theorem dX9_becomes_37 : decode cX9_becomes 37 = .ok (.invokevirtual 185, 3) := by decide +kernel
theorem dX9_becomes_40 : decode cX9_becomes 40 = .ok (.aload_n 0, 1) := by decide +kernel
theorem dX9_becomes_41 : decode cX9_becomes 41 = .ok (.iload_n 2, 1) := by decide +kernel
theorem dX9_becomes_42 : decode cX9_becomes 42 = .ok (.invokevirtual 188, 3) := by decide +kernel
theorem dX9_becomes_45 : decode cX9_becomes 45 = .ok (.aload_n 0, 1) := by decide +kernel
theorem dX9_becomes_46 : decode cX9_becomes 46 = .ok (.iload_n 1, 1) := by decide +kernel
theorem dX9_becomes_47 : decode cX9_becomes 47 = .ok (.invokevirtual 182, 3) := by decide +kernel
theorem dX9_becomes_50 : decode cX9_becomes 50 = .ok (.ireturn, 1) := by decide +kernel
theorem dX9_becomes_51 : decode cX9_becomes 51 = .ok (.iconst 0, 1) := by decide +kernel
theorem dX9_becomes_52 : decode cX9_becomes 52 = .ok (.istore 4, 2) := by decide +kernel
theorem dX9_becomes_54 : decode cX9_becomes 54 = .ok (.iload 4, 2) := by decide +kernel
theorem dX9_becomes_56 : decode cX9_becomes 56 = .ok (.bipush 16, 2) := by decide +kernel
theorem dX9_becomes_58 : decode cX9_becomes 58 = .ok (.if_icmp .ge 141, 3) := by decide +kernel
theorem dX9_becomes_61 : decode cX9_becomes 61 = .ok (.aload_n 0, 1) := by decide +kernel
theorem dX9_becomes_62 : decode cX9_becomes 62 = .ok (.getfield 81, 3) := by decide +kernel
theorem dX9_becomes_65 : decode cX9_becomes 65 = .ok (.iload 4, 2) := by decide +kernel
theorem dX9_becomes_67 : decode cX9_becomes 67 = .ok (.iconst 0, 1) := by decide +kernel
theorem dX9_becomes_68 : decode cX9_becomes 68 = .ok (.iastore, 1) := by decide +kernel
theorem dX9_becomes_69 : decode cX9_becomes 69 = .ok (.iload 4, 2) := by decide +kernel
theorem dX9_becomes_71 : decode cX9_becomes 71 = .ok (.aload_n 0, 1) := by decide +kernel
theorem dX9_becomes_72 : decode cX9_becomes 72 = .ok (.getfield 18, 3) := by decide +kernel
theorem dX9_becomes_75 : decode cX9_becomes 75 = .ok (.if_icmp .lt 6, 3) := by decide +kernel
theorem dX9_becomes_78 : decode cX9_becomes 78 = .ok (.goto 115, 3) := by decide +kernel
theorem dX9_becomes_81 : decode cX9_becomes 81 = .ok (.aload_n 0, 1) := by decide +kernel
theorem dX9_becomes_82 : decode cX9_becomes 82 = .ok (.getfield 18, 3) := by decide +kernel
theorem dX9_becomes_85 : decode cX9_becomes 85 = .ok (.iconst 1, 1) := by decide +kernel
theorem dX9_becomes_86 : decode cX9_becomes 86 = .ok (.isub, 1) := by decide +kernel
theorem dX9_becomes_87 : decode cX9_becomes 87 = .ok (.iload 4, 2) := by decide +kernel
theorem dX9_becomes_89 : decode cX9_becomes 89 = .ok (.isub, 1) := by decide +kernel
theorem dX9_becomes_90 : decode cX9_becomes 90 = .ok (.istore 5, 2) := by decide +kernel
theorem dX9_becomes_92 : decode cX9_becomes 92 = .ok (.iload_n 3, 1) := by decide +kernel
theorem dX9_becomes_93 : decode cX9_becomes 93 = .ok (.ifCond .ne 68, 3) := by decide +kernel
theorem dX9_becomes_96 : decode cX9_becomes 96 = .ok (.aload_n 0, 1) := by decide +kernel
theorem dX9_becomes_97 : decode cX9_becomes 97 = .ok (.getfield 81, 3) := by decide +kernel
theorem dX9_becomes_100 : decode cX9_becomes 100 = .ok (.iload 4, 2) := by decide +kernel
theorem dX9_becomes_102 : decode cX9_becomes 102 = .ok (.aload_n 0, 1) := by decide +kernel
theorem dX9_becomes_103 : decode cX9_becomes 103 = .ok (.iload 4, 2) := by decide +kernel
theorem dX9_becomes_105 : decode cX9_becomes 105 = .ok (.invokestatic 137, 3) := by decide +kernel
theorem dX9_becomes_108 : decode cX9_becomes 108 = .ok (.iload 4, 2) := by decide +kernel
theorem dX9_becomes_110 : decode cX9_becomes 110 = .ok (.invokestatic 137, 3) := by decide +kernel
theorem dX9_becomes_113 : decode cX9_becomes 113 = .ok (.iconst 1, 1) := by decide +kernel
theorem dX9_becomes_114 : decode cX9_becomes 114 = .ok (.isub, 1) := by decide +kernel
theorem dX9_becomes_115 : decode cX9_becomes 115 = .ok (.imul, 1) := by decide +kernel
theorem dX9_becomes_116 : decode cX9_becomes 116 = .ok (.iconst 2, 1) := by decide +kernel
theorem dX9_becomes_117 : decode cX9_becomes 117 = .ok (.idiv, 1) := by decide +kernel
theorem dX9_becomes_118 : decode cX9_becomes 118 = .ok (.iconst 2, 1) := by decide +kernel
theorem dX9_becomes_119 : decode cX9_becomes 119 = .ok (.irem, 1) := by decide +kernel
theorem dX9_becomes_120 : decode cX9_becomes 120 = .ok (.iconst 1, 1) := by decide +kernel
theorem dX9_becomes_121 : decode cX9_becomes 121 = .ok (.if_icmp .ne 20, 3) := by decide +kernel
theorem dX9_becomes_124 : decode cX9_becomes 124 = .ok (.aload_n 0, 1) := by decide +kernel
theorem dX9_becomes_125 : decode cX9_becomes 125 = .ok (.getfield 21, 3) := by decide +kernel
theorem dX9_becomes_128 : decode cX9_becomes 128 = .ok (.bipush 16, 2) := by decide +kernel
theorem dX9_becomes_130 : decode cX9_becomes 130 = .ok (.iload_n 2, 1) := by decide +kernel
theorem dX9_becomes_131 : decode cX9_becomes 131 = .ok (.imul, 1) := by decide +kernel
theorem dX9_becomes_132 : decode cX9_becomes 132 = .ok (.iload 4, 2) := by decide +kernel
theorem dX9_becomes_134 : decode cX9_becomes 134 = .ok (.iadd, 1) := by decide +kernel
theorem dX9_becomes_135 : decode cX9_becomes 135 = .ok (.iaload, 1) := by decide +kernel
theorem dX9_becomes_136 : decode cX9_becomes 136 = .ok (.ineg, 1) := by decide +kernel
theorem dX9_becomes_137 : decode cX9_becomes 137 = .ok (.i2l, 1) := by decide +kernel
theorem dX9_becomes_138 : decode cX9_becomes 138 = .ok (.goto 16, 3) := by decide +kernel
theorem dX9_becomes_141 : decode cX9_becomes 141 = .ok (.aload_n 0, 1) := by decide +kernel
theorem dX9_becomes_142 : decode cX9_becomes 142 = .ok (.getfield 21, 3) := by decide +kernel
theorem dX9_becomes_145 : decode cX9_becomes 145 = .ok (.bipush 16, 2) := by decide +kernel
theorem dX9_becomes_147 : decode cX9_becomes 147 = .ok (.iload_n 2, 1) := by decide +kernel
theorem dX9_becomes_148 : decode cX9_becomes 148 = .ok (.imul, 1) := by decide +kernel
theorem dX9_becomes_149 : decode cX9_becomes 149 = .ok (.iload 4, 2) := by decide +kernel
theorem dX9_becomes_151 : decode cX9_becomes 151 = .ok (.iadd, 1) := by decide +kernel
theorem dX9_becomes_152 : decode cX9_becomes 152 = .ok (.iaload, 1) := by decide +kernel
theorem dX9_becomes_153 : decode cX9_becomes 153 = .ok (.i2l, 1) := by decide +kernel
theorem dX9_becomes_154 : decode cX9_becomes 154 = .ok (.invokevirtual 120, 3) := by decide +kernel
theorem dX9_becomes_157 : decode cX9_becomes 157 = .ok (.iastore, 1) := by decide +kernel
theorem dX9_becomes_158 : decode cX9_becomes 158 = .ok (.goto 35, 3) := by decide +kernel
theorem dX9_becomes_161 : decode cX9_becomes 161 = .ok (.aload_n 0, 1) := by decide +kernel
theorem dX9_becomes_162 : decode cX9_becomes 162 = .ok (.getfield 81, 3) := by decide +kernel
theorem dX9_becomes_165 : decode cX9_becomes 165 = .ok (.iload 4, 2) := by decide +kernel
theorem dX9_becomes_167 : decode cX9_becomes 167 = .ok (.aload_n 0, 1) := by decide +kernel
theorem dX9_becomes_168 : decode cX9_becomes 168 = .ok (.iload 5, 2) := by decide +kernel
theorem dX9_becomes_170 : decode cX9_becomes 170 = .ok (.iload 4, 2) := by decide +kernel
theorem dX9_becomes_172 : decode cX9_becomes 172 = .ok (.invokestatic 116, 3) := by decide +kernel
theorem dX9_becomes_175 : decode cX9_becomes 175 = .ok (.aload_n 0, 1) := by decide +kernel
theorem dX9_becomes_176 : decode cX9_becomes 176 = .ok (.getfield 21, 3) := by decide +kernel
theorem dX9_becomes_179 : decode cX9_becomes 179 = .ok (.bipush 16, 2) := by decide +kernel
theorem dX9_becomes_181 : decode cX9_becomes 181 = .ok (.iload_n 2, 1) := by decide +kernel
theorem dX9_becomes_182 : decode cX9_becomes 182 = .ok (.imul, 1) := by decide +kernel
theorem dX9_becomes_183 : decode cX9_becomes 183 = .ok (.iload 5, 2) := by decide +kernel
theorem dX9_becomes_185 : decode cX9_becomes 185 = .ok (.iadd, 1) := by decide +kernel
theorem dX9_becomes_186 : decode cX9_becomes 186 = .ok (.iaload, 1) := by decide +kernel
theorem dX9_becomes_187 : decode cX9_becomes 187 = .ok (.imul, 1) := by decide +kernel
theorem dX9_becomes_188 : decode cX9_becomes 188 = .ok (.i2l, 1) := by decide +kernel
theorem dX9_becomes_189 : decode cX9_becomes 189 = .ok (.invokevirtual 120, 3) := by decide +kernel
theorem dX9_becomes_192 : decode cX9_becomes 192 = .ok (.iastore, 1) := by decide +kernel
theorem dX9_becomes_193 : decode cX9_becomes 193 = .ok (.iinc 4 1, 3) := by decide +kernel
theorem dX9_becomes_196 : decode cX9_becomes 196 = .ok (.goto (-142), 3) := by decide +kernel
theorem dX9_becomes_199 : decode cX9_becomes 199 = .ok (.aload_n 0, 1) := by decide +kernel
theorem dX9_becomes_200 : decode cX9_becomes 200 = .ok (.iload_n 1, 1) := by decide +kernel
theorem dX9_becomes_201 : decode cX9_becomes 201 = .ok (.invokevirtual 182, 3) := by decide +kernel
theorem dX9_becomes_204 : decode cX9_becomes 204 = .ok (.ireturn, 1) := by decide +kernel
theorem dX9_generate_0 : decode cX9_generate 0 = .ok (.iload_n 1, 1) := by decide +kernel
theorem dX9_generate_1 : decode cX9_generate 1 = .ok (.invokestatic 175, 3) := by decide +kernel
theorem dX9_generate_4 : decode cX9_generate 4 = .ok (.ifCond .ne 5, 3) := by decide +kernel
theorem dX9_generate_7 : decode cX9_generate 7 = .ok (.iconst (-1), 1) := by decide +kernel
theorem dX9_generate_8 : decode cX9_generate 8 = .ok (.ireturn, 1) := by decide +kernel
theorem dX9_generate_9 : decode cX9_generate 9 = .ok (.aload_n 0, 1) := by decide +kernel
theorem dX9_generate_10 : decode cX9_generate 10 = .ok (.getfield 153, 3) := by decide +kernel
theorem dX9_generate_13 : decode cX9_generate 13 = .ok (.iconst 4, 1) := by decide +kernel
theorem dX9_generate_14 : decode cX9_generate 14 = .ok (.if_icmp .ne 6, 3) := by decide +kernel
theorem dX9_generate_17 : decode cX9_generate 17 = .ok (.bipush (-4), 2) := by decide +kernel
theorem dX9_generate_19 : decode cX9_generate 19 = .ok (.ireturn, 1) := by decide +kernel
theorem dX9_generate_20 : decode cX9_generate 20 = .ok (.iconst 0, 1) := by decide +kernel
theorem dX9_generate_21 : decode cX9_generate 21 = .ok (.istore_n 2, 1) := by decide +kernel
theorem dX9_generate_22 : decode cX9_generate 22 = .ok (.iload_n 2, 1) := by decide +kernel
theorem dX9_generate_23 : decode cX9_generate 23 = .ok (.bipush 16, 2) := by decide +kernel
theorem dX9_generate_25 : decode cX9_generate 25 = .ok (.if_icmp .ge 34, 3) := by decide +kernel
theorem dX9_generate_28 : decode cX9_generate 28 = .ok (.aload_n 0, 1) := by decide +kernel
theorem dX9_generate_29 : decode cX9_generate 29 = .ok (.getfield 25, 3) := by decide +kernel
theorem dX9_generate_32 : decode cX9_generate 32 = .ok (.bipush 16, 2) := by decide +kernel
theorem dX9_generate_34 : decode cX9_generate 34 = .ok (.aload_n 0, 1) := by decide +kernel
theorem dX9_generate_35 : decode cX9_generate 35 = .ok (.getfield 153, 3) := by decide +kernel
theorem dX9_generate_38 : decode cX9_generate 38 = .ok (.imul, 1) := by decide +kernel
theorem dX9_generate_39 : decode cX9_generate 39 = .ok (.iload_n 2, 1) := by decide +kernel
theorem dX9_generate_40 : decode cX9_generate 40 = .ok (.iadd, 1) := by decide +kernel
theorem dX9_generate_41 : decode cX9_generate 41 = .ok (.aload_n 0, 1) := by decide +kernel
theorem dX9_generate_42 : decode cX9_generate 42 = .ok (.getfield 21, 3) := by decide +kernel
theorem dX9_generate_45 : decode cX9_generate 45 = .ok (.bipush 16, 2) := by decide +kernel
theorem dX9_generate_47 : decode cX9_generate 47 = .ok (.iload_n 1, 1) := by decide +kernel
theorem dX9_generate_48 : decode cX9_generate 48 = .ok (.imul, 1) := by decide +kernel
theorem dX9_generate_49 : decode cX9_generate 49 = .ok (.iload_n 2, 1) := by decide +kernel
theorem dX9_generate_50 : decode cX9_generate 50 = .ok (.iadd, 1) := by decide +kernel
theorem dX9_generate_51 : decode cX9_generate 51 = .ok (.iaload, 1) := by decide +kernel
theorem dX9_generate_52 : decode cX9_generate 52 = .ok (.iastore, 1) := by decide +kernel
theorem dX9_generate_53 : decode cX9_generate 53 = .ok (.iinc 2 1, 3) := by decide +kernel
theorem dX9_generate_56 : decode cX9_generate 56 = .ok (.goto (-34), 3) := by decide +kernel
theorem dX9_generate_59 : decode cX9_generate 59 = .ok (.aload_n 0, 1) := by decide +kernel
theorem dX9_generate_60 : decode cX9_generate 60 = .ok (.dup, 1) := by decide +kernel
theorem dX9_generate_61 : decode cX9_generate 61 = .ok (.getfield 153, 3) := by decide +kernel
theorem dX9_generate_64 : decode cX9_generate 64 = .ok (.iconst 1, 1) := by decide +kernel
theorem dX9_generate_65 : decode cX9_generate 65 = .ok (.iadd, 1) := by decide +kernel
theorem dX9_generate_66 : decode cX9_generate 66 = .ok (.putfield 153, 3) := by decide +kernel
theorem dX9_generate_69 : decode cX9_generate 69 = .ok (.aload_n 0, 1) := by decide +kernel
theorem dX9_generate_70 : decode cX9_generate 70 = .ok (.getfield 153, 3) := by decide +kernel
theorem dX9_generate_73 : decode cX9_generate 73 = .ok (.ireturn, 1) := by decide +kernel
theorem dX9_clear_0 : decode cX9_clear 0 = .ok (.aload_n 0, 1) := by decide +kernel
theorem dX9_clear_1 : decode cX9_clear 1 = .ok (.getfield 153, 3) := by decide +kernel
theorem dX9_clear_4 : decode cX9_clear 4 = .ok (.istore_n 1, 1) := by decide +kernel
theorem dX9_clear_5 : decode cX9_clear 5 = .ok (.aload_n 0, 1) := by decide +kernel
theorem dX9_clear_6 : decode cX9_clear 6 = .ok (.iconst 0, 1) := by decide +kernel
theorem dX9_clear_7 : decode cX9_clear 7 = .ok (.putfield 153, 3) := by decide +kernel
theorem dX9_clear_10 : decode cX9_clear 10 = .ok (.iload_n 1, 1) := by decide +kernel
theorem dX9_clear_11 : decode cX9_clear 11 = .ok (.ireturn, 1) := by decide +kernel
theorem dX9_feed_0 : decode cX9_feed 0 = .ok (.iload_n 1, 1) := by decide +kernel
theorem dX9_feed_1 : decode cX9_feed 1 = .ok (.i2l, 1) := by decide +kernel
theorem dX9_feed_2 : decode cX9_feed 2 = .ok (.lconst 0, 1) := by decide +kernel
theorem dX9_feed_3 : decode cX9_feed 3 = .ok (.ldc2_w 191, 3) := by decide +kernel
theorem dX9_feed_6 : decode cX9_feed 6 = .ok (.invokestatic 108, 3) := by decide +kernel
theorem dX9_feed_9 : decode cX9_feed 9 = .ok (.ifCond .ne 6, 3) := by decide +kernel
theorem dX9_feed_12 : decode cX9_feed 12 = .ok (.bipush (-2), 2) := by decide +kernel
theorem dX9_feed_14 : decode cX9_feed 14 = .ok (.ireturn, 1) := by decide +kernel
theorem dX9_feed_15 : decode cX9_feed 15 = .ok (.aload_n 0, 1) := by decide +kernel
theorem dX9_feed_16 : decode cX9_feed 16 = .ok (.getfield 193, 3) := by decide +kernel
theorem dX9_feed_19 : decode cX9_feed 19 = .ok (.bipush 100, 2) := by decide +kernel
theorem dX9_feed_21 : decode cX9_feed 21 = .ok (.if_icmp .ne 6, 3) := by decide +kernel
theorem dX9_feed_24 : decode cX9_feed 24 = .ok (.bipush (-4), 2) := by decide +kernel
theorem dX9_feed_26 : decode cX9_feed 26 = .ok (.ireturn, 1) := by decide +kernel
theorem dX9_feed_27 : decode cX9_feed 27 = .ok (.aload_n 0, 1) := by decide +kernel
theorem dX9_feed_28 : decode cX9_feed 28 = .ok (.getfield 40, 3) := by decide +kernel
theorem dX9_feed_31 : decode cX9_feed 31 = .ok (.aload_n 0, 1) := by decide +kernel
theorem dX9_feed_32 : decode cX9_feed 32 = .ok (.dup, 1) := by decide +kernel
theorem dX9_feed_33 : decode cX9_feed 33 = .ok (.getfield 193, 3) := by decide +kernel
theorem dX9_feed_36 : decode cX9_feed 36 = .ok (.dup_x1, 1) := by decide +kernel
theorem dX9_feed_37 : decode cX9_feed 37 = .ok (.iconst 1, 1) := by decide +kernel
theorem dX9_feed_38 : decode cX9_feed 38 = .ok (.iadd, 1) := by decide +kernel
theorem dX9_feed_39 : decode cX9_feed 39 = .ok (.putfield 193, 3) := by decide +kernel
theorem dX9_feed_42 : decode cX9_feed 42 = .ok (.iload_n 1, 1) := by decide +kernel
theorem dX9_feed_43 : decode cX9_feed 43 = .ok (.iastore, 1) := by decide +kernel
theorem dX9_feed_44 : decode cX9_feed 44 = .ok (.aload_n 0, 1) := by decide +kernel
theorem dX9_feed_45 : decode cX9_feed 45 = .ok (.getfield 193, 3) := by decide +kernel
theorem dX9_feed_48 : decode cX9_feed 48 = .ok (.ireturn, 1) := by decide +kernel
theorem dX9_sign__0 : decode cX9_sign_ 0 = .ok (.aload_n 0, 1) := by decide +kernel
theorem dX9_sign__1 : decode cX9_sign_ 1 = .ok (.getfield 196, 3) := by decide +kernel
theorem dX9_sign__4 : decode cX9_sign_ 4 = .ok (.aload_n 0, 1) := by decide +kernel
theorem dX9_sign__5 : decode cX9_sign_ 5 = .ok (.getfield 193, 3) := by decide +kernel
theorem dX9_sign__8 : decode cX9_sign_ 8 = .ok (.if_icmp .ge 15, 3) := by decide +kernel
theorem dX9_sign__11 : decode cX9_sign_ 11 = .ok (.aload_n 0, 1) := by decide +kernel
theorem dX9_sign__12 : decode cX9_sign_ 12 = .ok (.getfield 40, 3) := by decide +kernel
theorem dX9_sign__15 : decode cX9_sign_ 15 = .ok (.aload_n 0, 1) := by decide +kernel
theorem dX9_sign__16 : decode cX9_sign_ 16 = .ok (.getfield 196, 3) := by decide +kernel
theorem dX9_sign__19 : decode cX9_sign_ 19 = .ok (.iaload, 1) := by decide +kernel
theorem dX9_sign__20 : decode cX9_sign_ 20 = .ok (.goto 4, 3) := by decide +kernel
theorem dX9_sign__23 : decode cX9_sign_ 23 = .ok (.iconst (-1), 1) := by decide +kernel
theorem dX9_sign__24 : decode cX9_sign_ 24 = .ok (.ireturn, 1) := by decide +kernel
theorem dX9_isDigit_0 : decode cX9_isDigit 0 = .ok (.aload_n 0, 1) := by decide +kernel
theorem dX9_isDigit_1 : decode cX9_isDigit 1 = .ok (.invokevirtual 199, 3) := by decide +kernel
theorem dX9_isDigit_4 : decode cX9_isDigit 4 = .ok (.i2l, 1) := by decide +kernel
theorem dX9_isDigit_5 : decode cX9_isDigit 5 = .ok (.ldc2_w 202, 3) := by decide +kernel
theorem dX9_isDigit_8 : decode cX9_isDigit 8 = .ok (.ldc2_w 204, 3) := by decide +kernel
theorem dX9_isDigit_11 : decode cX9_isDigit 11 = .ok (.invokestatic 108, 3) := by decide +kernel
theorem dX9_isDigit_14 : decode cX9_isDigit 14 = .ok (.ireturn, 1) := by decide +kernel
theorem dX9_isLetter_0 : decode cX9_isLetter 0 = .ok (.aload_n 0, 1) := by decide +kernel
theorem dX9_isLetter_1 : decode cX9_isLetter 1 = .ok (.invokevirtual 199, 3) := by decide +kernel
theorem dX9_isLetter_4 : decode cX9_isLetter 4 = .ok (.i2l, 1) := by decide +kernel
theorem dX9_isLetter_5 : decode cX9_isLetter 5 = .ok (.ldc2_w 206, 3) := by decide +kernel
theorem dX9_isLetter_8 : decode cX9_isLetter 8 = .ok (.ldc2_w 208, 3) := by decide +kernel
theorem dX9_isLetter_11 : decode cX9_isLetter 11 = .ok (.invokestatic 108, 3) := by decide +kernel
theorem dX9_isLetter_14 : decode cX9_isLetter 14 = .ok (.ireturn, 1) := by decide +kernel
theorem dX9_seesTerm_0 : decode cX9_seesTerm 0 = .ok (.iconst 0, 1) := by decide +kernel
theorem dX9_seesTerm_1 : decode cX9_seesTerm 1 = .ok (.istore_n 1, 1) := by decide +kernel
theorem dX9_seesTerm_2 : decode cX9_seesTerm 2 = .ok (.iload_n 1, 1) := by decide +kernel
theorem dX9_seesTerm_3 : decode cX9_seesTerm 3 = .ok (.iconst 2, 1) := by decide +kernel
theorem dX9_seesTerm_4 : decode cX9_seesTerm 4 = .ok (.if_icmp .ge 26, 3) := by decide +kernel
theorem dX9_seesTerm_7 : decode cX9_seesTerm 7 = .ok (.aload_n 0, 1) := by decide +kernel
theorem dX9_seesTerm_8 : decode cX9_seesTerm 8 = .ok (.invokevirtual 210, 3) := by decide +kernel
theorem dX9_seesTerm_11 : decode cX9_seesTerm 11 = .ok (.ifCond .eq 19, 3) := by decide +kernel
theorem dX9_seesTerm_14 : decode cX9_seesTerm 14 = .ok (.aload_n 0, 1) := by decide +kernel
theorem dX9_seesTerm_15 : decode cX9_seesTerm 15 = .ok (.dup, 1) := by decide +kernel
theorem dX9_seesTerm_16 : decode cX9_seesTerm 16 = .ok (.getfield 196, 3) := by decide +kernel
theorem dX9_seesTerm_19 : decode cX9_seesTerm 19 = .ok (.iconst 1, 1) := by decide +kernel
theorem dX9_seesTerm_20 : decode cX9_seesTerm 20 = .ok (.iadd, 1) := by decide +kernel
theorem dX9_seesTerm_21 : decode cX9_seesTerm 21 = .ok (.putfield 196, 3) := by decide +kernel
theorem dX9_seesTerm_24 : decode cX9_seesTerm 24 = .ok (.iinc 1 1, 3) := by decide +kernel
theorem dX9_seesTerm_27 : decode cX9_seesTerm 27 = .ok (.goto (-25), 3) := by decide +kernel
theorem dX9_seesTerm_30 : decode cX9_seesTerm 30 = .ok (.iconst 0, 1) := by decide +kernel
theorem dX9_seesTerm_31 : decode cX9_seesTerm 31 = .ok (.istore_n 2, 1) := by decide +kernel
theorem dX9_seesTerm_32 : decode cX9_seesTerm 32 = .ok (.iload_n 2, 1) := by decide +kernel
theorem dX9_seesTerm_33 : decode cX9_seesTerm 33 = .ok (.iconst 4, 1) := by decide +kernel
theorem dX9_seesTerm_34 : decode cX9_seesTerm 34 = .ok (.if_icmp .ge 26, 3) := by decide +kernel
theorem dX9_seesTerm_37 : decode cX9_seesTerm 37 = .ok (.aload_n 0, 1) := by decide +kernel
theorem dX9_seesTerm_38 : decode cX9_seesTerm 38 = .ok (.invokevirtual 213, 3) := by decide +kernel
theorem dX9_seesTerm_41 : decode cX9_seesTerm 41 = .ok (.ifCond .eq 19, 3) := by decide +kernel
theorem dX9_seesTerm_44 : decode cX9_seesTerm 44 = .ok (.aload_n 0, 1) := by decide +kernel
theorem dX9_seesTerm_45 : decode cX9_seesTerm 45 = .ok (.dup, 1) := by decide +kernel
theorem dX9_seesTerm_46 : decode cX9_seesTerm 46 = .ok (.getfield 196, 3) := by decide +kernel
theorem dX9_seesTerm_49 : decode cX9_seesTerm 49 = .ok (.iconst 1, 1) := by decide +kernel
theorem dX9_seesTerm_50 : decode cX9_seesTerm 50 = .ok (.iadd, 1) := by decide +kernel
theorem dX9_seesTerm_51 : decode cX9_seesTerm 51 = .ok (.putfield 196, 3) := by decide +kernel
theorem dX9_seesTerm_54 : decode cX9_seesTerm 54 = .ok (.iinc 2 1, 3) := by decide +kernel
theorem dX9_seesTerm_57 : decode cX9_seesTerm 57 = .ok (.goto (-25), 3) := by decide +kernel
theorem dX9_seesTerm_60 : decode cX9_seesTerm 60 = .ok (.iload_n 1, 1) := by decide +kernel
theorem dX9_seesTerm_61 : decode cX9_seesTerm 61 = .ok (.iload_n 2, 1) := by decide +kernel
theorem dX9_seesTerm_62 : decode cX9_seesTerm 62 = .ok (.iadd, 1) := by decide +kernel
theorem dX9_seesTerm_63 : decode cX9_seesTerm 63 = .ok (.ifCond .le 7, 3) := by decide +kernel
theorem dX9_seesTerm_66 : decode cX9_seesTerm 66 = .ok (.iconst 1, 1) := by decide +kernel
theorem dX9_seesTerm_67 : decode cX9_seesTerm 67 = .ok (.goto 4, 3) := by decide +kernel
theorem dX9_seesTerm_70 : decode cX9_seesTerm 70 = .ok (.iconst 0, 1) := by decide +kernel
theorem dX9_seesTerm_71 : decode cX9_seesTerm 71 = .ok (.ireturn, 1) := by decide +kernel
theorem dX9_seesDigit_0 : decode cX9_seesDigit 0 = .ok (.aload_n 0, 1) := by decide +kernel
theorem dX9_seesDigit_1 : decode cX9_seesDigit 1 = .ok (.invokevirtual 210, 3) := by decide +kernel
theorem dX9_seesDigit_4 : decode cX9_seesDigit 4 = .ok (.ifCond .ne 5, 3) := by decide +kernel
theorem dX9_seesDigit_7 : decode cX9_seesDigit 7 = .ok (.iconst 0, 1) := by decide +kernel
theorem dX9_seesDigit_8 : decode cX9_seesDigit 8 = .ok (.ireturn, 1) := by decide +kernel
theorem dX9_seesDigit_9 : decode cX9_seesDigit 9 = .ok (.aload_n 0, 1) := by decide +kernel
theorem dX9_seesDigit_10 : decode cX9_seesDigit 10 = .ok (.dup, 1) := by decide +kernel
theorem dX9_seesDigit_11 : decode cX9_seesDigit 11 = .ok (.getfield 196, 3) := by decide +kernel
theorem dX9_seesDigit_14 : decode cX9_seesDigit 14 = .ok (.iconst 1, 1) := by decide +kernel
theorem dX9_seesDigit_15 : decode cX9_seesDigit 15 = .ok (.iadd, 1) := by decide +kernel
theorem dX9_seesDigit_16 : decode cX9_seesDigit 16 = .ok (.putfield 196, 3) := by decide +kernel
theorem dX9_seesDigit_19 : decode cX9_seesDigit 19 = .ok (.iconst 1, 1) := by decide +kernel
theorem dX9_seesDigit_20 : decode cX9_seesDigit 20 = .ok (.ireturn, 1) := by decide +kernel
theorem dX9_seesClause_0 : decode cX9_seesClause 0 = .ok (.aload_n 0, 1) := by decide +kernel
theorem dX9_seesClause_1 : decode cX9_seesClause 1 = .ok (.invokevirtual 199, 3) := by decide +kernel
theorem dX9_seesClause_4 : decode cX9_seesClause 4 = .ok (.istore_n 1, 1) := by decide +kernel
theorem dX9_seesClause_5 : decode cX9_seesClause 5 = .ok (.iload_n 1, 1) := by decide +kernel
theorem dX9_seesClause_6 : decode cX9_seesClause 6 = .ok (.i2l, 1) := by decide +kernel
theorem dX9_seesClause_7 : decode cX9_seesClause 7 = .ok (.ldc2_w 202, 3) := by decide +kernel
theorem dX9_seesClause_10 : decode cX9_seesClause 10 = .ok (.ldc2_w 204, 3) := by decide +kernel
theorem dX9_seesClause_13 : decode cX9_seesClause 13 = .ok (.invokestatic 108, 3) := by decide +kernel
theorem dX9_seesClause_16 : decode cX9_seesClause 16 = .ok (.ifCond .eq 101, 3) := by decide +kernel
theorem dX9_seesClause_19 : decode cX9_seesClause 19 = .ok (.aload_n 0, 1) := by decide +kernel
theorem dX9_seesClause_20 : decode cX9_seesClause 20 = .ok (.dup, 1) := by decide +kernel
theorem dX9_seesClause_21 : decode cX9_seesClause 21 = .ok (.getfield 196, 3) := by decide +kernel
theorem dX9_seesClause_24 : decode cX9_seesClause 24 = .ok (.iconst 1, 1) := by decide +kernel
theorem dX9_seesClause_25 : decode cX9_seesClause 25 = .ok (.iadd, 1) := by decide +kernel
theorem dX9_seesClause_26 : decode cX9_seesClause 26 = .ok (.putfield 196, 3) := by decide +kernel
theorem dX9_seesClause_29 : decode cX9_seesClause 29 = .ok (.aload_n 0, 1) := by decide +kernel
theorem dX9_seesClause_30 : decode cX9_seesClause 30 = .ok (.invokevirtual 199, 3) := by decide +kernel
theorem dX9_seesClause_33 : decode cX9_seesClause 33 = .ok (.bipush 58, 2) := by decide +kernel
theorem dX9_seesClause_35 : decode cX9_seesClause 35 = .ok (.if_icmp .eq 5, 3) := by decide +kernel
theorem dX9_seesClause_38 : decode cX9_seesClause 38 = .ok (.iconst 0, 1) := by decide +kernel
theorem dX9_seesClause_39 : decode cX9_seesClause 39 = .ok (.ireturn, 1) := by decide +kernel
theorem dX9_seesClause_40 : decode cX9_seesClause 40 = .ok (.aload_n 0, 1) := by decide +kernel
theorem dX9_seesClause_41 : decode cX9_seesClause 41 = .ok (.dup, 1) := by decide +kernel
theorem dX9_seesClause_42 : decode cX9_seesClause 42 = .ok (.getfield 196, 3) := by decide +kernel
theorem dX9_seesClause_45 : decode cX9_seesClause 45 = .ok (.iconst 1, 1) := by decide +kernel
theorem dX9_seesClause_46 : decode cX9_seesClause 46 = .ok (.iadd, 1) := by decide +kernel
theorem dX9_seesClause_47 : decode cX9_seesClause 47 = .ok (.putfield 196, 3) := by decide +kernel
theorem dX9_seesClause_50 : decode cX9_seesClause 50 = .ok (.aload_n 0, 1) := by decide +kernel
theorem dX9_seesClause_51 : decode cX9_seesClause 51 = .ok (.invokevirtual 199, 3) := by decide +kernel
theorem dX9_seesClause_54 : decode cX9_seesClause 54 = .ok (.bipush 45, 2) := by decide +kernel
theorem dX9_seesClause_56 : decode cX9_seesClause 56 = .ok (.if_icmp .ne 13, 3) := by decide +kernel
theorem dX9_seesClause_59 : decode cX9_seesClause 59 = .ok (.aload_n 0, 1) := by decide +kernel
theorem dX9_seesClause_60 : decode cX9_seesClause 60 = .ok (.dup, 1) := by decide +kernel
theorem dX9_seesClause_61 : decode cX9_seesClause 61 = .ok (.getfield 196, 3) := by decide +kernel
theorem dX9_seesClause_64 : decode cX9_seesClause 64 = .ok (.iconst 1, 1) := by decide +kernel
theorem dX9_seesClause_65 : decode cX9_seesClause 65 = .ok (.iadd, 1) := by decide +kernel
theorem dX9_seesClause_66 : decode cX9_seesClause 66 = .ok (.putfield 196, 3) := by decide +kernel
theorem dX9_seesClause_69 : decode cX9_seesClause 69 = .ok (.aload_n 0, 1) := by decide +kernel
theorem dX9_seesClause_70 : decode cX9_seesClause 70 = .ok (.invokevirtual 216, 3) := by decide +kernel
theorem dX9_seesClause_73 : decode cX9_seesClause 73 = .ok (.ifCond .ne 5, 3) := by decide +kernel
theorem dX9_seesClause_76 : decode cX9_seesClause 76 = .ok (.iconst 0, 1) := by decide +kernel
theorem dX9_seesClause_77 : decode cX9_seesClause 77 = .ok (.ireturn, 1) := by decide +kernel
theorem dX9_seesClause_78 : decode cX9_seesClause 78 = .ok (.aload_n 0, 1) := by decide +kernel
theorem dX9_seesClause_79 : decode cX9_seesClause 79 = .ok (.invokevirtual 199, 3) := by decide +kernel
theorem dX9_seesClause_82 : decode cX9_seesClause 82 = .ok (.bipush 43, 2) := by decide +kernel
theorem dX9_seesClause_84 : decode cX9_seesClause 84 = .ok (.if_icmp .eq 12, 3) := by decide +kernel
theorem dX9_seesClause_87 : decode cX9_seesClause 87 = .ok (.aload_n 0, 1) := by decide +kernel
theorem dX9_seesClause_88 : decode cX9_seesClause 88 = .ok (.invokevirtual 199, 3) := by decide +kernel
theorem dX9_seesClause_91 : decode cX9_seesClause 91 = .ok (.bipush 45, 2) := by decide +kernel
theorem dX9_seesClause_93 : decode cX9_seesClause 93 = .ok (.if_icmp .ne 22, 3) := by decide +kernel
theorem dX9_seesClause_96 : decode cX9_seesClause 96 = .ok (.aload_n 0, 1) := by decide +kernel
theorem dX9_seesClause_97 : decode cX9_seesClause 97 = .ok (.dup, 1) := by decide +kernel
theorem dX9_seesClause_98 : decode cX9_seesClause 98 = .ok (.getfield 196, 3) := by decide +kernel
theorem dX9_seesClause_101 : decode cX9_seesClause 101 = .ok (.iconst 1, 1) := by decide +kernel
theorem dX9_seesClause_102 : decode cX9_seesClause 102 = .ok (.iadd, 1) := by decide +kernel
theorem dX9_seesClause_103 : decode cX9_seesClause 103 = .ok (.putfield 196, 3) := by decide +kernel
theorem dX9_seesClause_106 : decode cX9_seesClause 106 = .ok (.aload_n 0, 1) := by decide +kernel
theorem dX9_seesClause_107 : decode cX9_seesClause 107 = .ok (.invokevirtual 216, 3) := by decide +kernel
theorem dX9_seesClause_110 : decode cX9_seesClause 110 = .ok (.ifCond .ne (-32), 3) := by decide +kernel
theorem dX9_seesClause_113 : decode cX9_seesClause 113 = .ok (.iconst 0, 1) := by decide +kernel
theorem dX9_seesClause_114 : decode cX9_seesClause 114 = .ok (.ireturn, 1) := by decide +kernel
theorem dX9_seesClause_115 : decode cX9_seesClause 115 = .ok (.iconst 1, 1) := by decide +kernel
theorem dX9_seesClause_116 : decode cX9_seesClause 116 = .ok (.ireturn, 1) := by decide +kernel
theorem dX9_seesClause_117 : decode cX9_seesClause 117 = .ok (.iload_n 1, 1) := by decide +kernel
theorem dX9_seesClause_118 : decode cX9_seesClause 118 = .ok (.bipush 103, 2) := by decide +kernel
theorem dX9_seesClause_120 : decode cX9_seesClause 120 = .ok (.if_icmp .eq 29, 3) := by decide +kernel
theorem dX9_seesClause_123 : decode cX9_seesClause 123 = .ok (.iload_n 1, 1) := by decide +kernel
theorem dX9_seesClause_124 : decode cX9_seesClause 124 = .ok (.bipush 120, 2) := by decide +kernel
theorem dX9_seesClause_126 : decode cX9_seesClause 126 = .ok (.if_icmp .eq 23, 3) := by decide +kernel
theorem dX9_seesClause_129 : decode cX9_seesClause 129 = .ok (.iload_n 1, 1) := by decide +kernel
theorem dX9_seesClause_130 : decode cX9_seesClause 130 = .ok (.bipush 110, 2) := by decide +kernel
theorem dX9_seesClause_132 : decode cX9_seesClause 132 = .ok (.if_icmp .eq 17, 3) := by decide +kernel
theorem dX9_seesClause_135 : decode cX9_seesClause 135 = .ok (.iload_n 1, 1) := by decide +kernel
theorem dX9_seesClause_136 : decode cX9_seesClause 136 = .ok (.bipush 112, 2) := by decide +kernel
theorem dX9_seesClause_138 : decode cX9_seesClause 138 = .ok (.if_icmp .eq 11, 3) := by decide +kernel
theorem dX9_seesClause_141 : decode cX9_seesClause 141 = .ok (.iload_n 1, 1) := by decide +kernel
theorem dX9_seesClause_142 : decode cX9_seesClause 142 = .ok (.bipush 111, 2) := by decide +kernel
theorem dX9_seesClause_144 : decode cX9_seesClause 144 = .ok (.if_icmp .eq 5, 3) := by decide +kernel
theorem dX9_seesClause_147 : decode cX9_seesClause 147 = .ok (.iconst 0, 1) := by decide +kernel
theorem dX9_seesClause_148 : decode cX9_seesClause 148 = .ok (.ireturn, 1) := by decide +kernel
theorem dX9_seesClause_149 : decode cX9_seesClause 149 = .ok (.aload_n 0, 1) := by decide +kernel
theorem dX9_seesClause_150 : decode cX9_seesClause 150 = .ok (.dup, 1) := by decide +kernel
theorem dX9_seesClause_151 : decode cX9_seesClause 151 = .ok (.getfield 196, 3) := by decide +kernel
theorem dX9_seesClause_154 : decode cX9_seesClause 154 = .ok (.iconst 1, 1) := by decide +kernel
theorem dX9_seesClause_155 : decode cX9_seesClause 155 = .ok (.iadd, 1) := by decide +kernel
theorem dX9_seesClause_156 : decode cX9_seesClause 156 = .ok (.putfield 196, 3) := by decide +kernel
theorem dX9_seesClause_159 : decode cX9_seesClause 159 = .ok (.iload_n 1, 1) := by decide +kernel
theorem dX9_seesClause_160 : decode cX9_seesClause 160 = .ok (.bipush 120, 2) := by decide +kernel
theorem dX9_seesClause_162 : decode cX9_seesClause 162 = .ok (.if_icmp .eq 10, 3) := by decide +kernel
theorem dX9_seesClause_165 : decode cX9_seesClause 165 = .ok (.aload_n 0, 1) := by decide +kernel
theorem dX9_seesClause_166 : decode cX9_seesClause 166 = .ok (.invokevirtual 219, 3) := by decide +kernel
theorem dX9_seesClause_169 : decode cX9_seesClause 169 = .ok (.ifCond .eq 7, 3) := by decide +kernel
theorem dX9_seesClause_172 : decode cX9_seesClause 172 = .ok (.iconst 1, 1) := by decide +kernel
theorem dX9_seesClause_173 : decode cX9_seesClause 173 = .ok (.goto 4, 3) := by decide +kernel
theorem dX9_seesClause_176 : decode cX9_seesClause 176 = .ok (.iconst 0, 1) := by decide +kernel
theorem dX9_seesClause_177 : decode cX9_seesClause 177 = .ok (.ireturn, 1) := by decide +kernel
theorem dX9_sees_0 : decode cX9_sees 0 = .ok (.aload_n 0, 1) := by decide +kernel
theorem dX9_sees_1 : decode cX9_sees 1 = .ok (.iconst 0, 1) := by decide +kernel
theorem dX9_sees_2 : decode cX9_sees 2 = .ok (.putfield 196, 3) := by decide +kernel
theorem dX9_sees_5 : decode cX9_sees 5 = .ok (.iconst 0, 1) := by decide +kernel
theorem dX9_sees_6 : decode cX9_sees 6 = .ok (.istore_n 1, 1) := by decide +kernel
theorem dX9_sees_7 : decode cX9_sees 7 = .ok (.aload_n 0, 1) := by decide +kernel
theorem dX9_sees_8 : decode cX9_sees 8 = .ok (.invokevirtual 222, 3) := by decide +kernel
theorem dX9_sees_11 : decode cX9_sees 11 = .ok (.ifCond .ne 5, 3) := by decide +kernel
theorem dX9_sees_14 : decode cX9_sees 14 = .ok (.iconst 0, 1) := by decide +kernel
theorem dX9_sees_15 : decode cX9_sees 15 = .ok (.ireturn, 1) := by decide +kernel
theorem dX9_sees_16 : decode cX9_sees 16 = .ok (.iinc 1 1, 3) := by decide +kernel
theorem dX9_sees_19 : decode cX9_sees 19 = .ok (.aload_n 0, 1) := by decide +kernel
theorem dX9_sees_20 : decode cX9_sees 20 = .ok (.getfield 196, 3) := by decide +kernel
theorem dX9_sees_23 : decode cX9_sees 23 = .ok (.aload_n 0, 1) := by decide +kernel
theorem dX9_sees_24 : decode cX9_sees 24 = .ok (.getfield 193, 3) := by decide +kernel
theorem dX9_sees_27 : decode cX9_sees 27 = .ok (.if_icmp .ne 5, 3) := by decide +kernel
theorem dX9_sees_30 : decode cX9_sees 30 = .ok (.iconst 1, 1) := by decide +kernel
theorem dX9_sees_31 : decode cX9_sees 31 = .ok (.ireturn, 1) := by decide +kernel
theorem dX9_sees_32 : decode cX9_sees 32 = .ok (.aload_n 0, 1) := by decide +kernel
theorem dX9_sees_33 : decode cX9_sees 33 = .ok (.invokevirtual 199, 3) := by decide +kernel
theorem dX9_sees_36 : decode cX9_sees 36 = .ok (.bipush 59, 2) := by decide +kernel
theorem dX9_sees_38 : decode cX9_sees 38 = .ok (.if_icmp .ne 9, 3) := by decide +kernel
theorem dX9_sees_41 : decode cX9_sees 41 = .ok (.iload_n 1, 1) := by decide +kernel
theorem dX9_sees_42 : decode cX9_sees 42 = .ok (.bipush 12, 2) := by decide +kernel
theorem dX9_sees_44 : decode cX9_sees 44 = .ok (.if_icmp .ne 5, 3) := by decide +kernel
theorem dX9_sees_47 : decode cX9_sees 47 = .ok (.iconst 0, 1) := by decide +kernel
theorem dX9_sees_48 : decode cX9_sees 48 = .ok (.ireturn, 1) := by decide +kernel
theorem dX9_sees_49 : decode cX9_sees 49 = .ok (.aload_n 0, 1) := by decide +kernel
theorem dX9_sees_50 : decode cX9_sees 50 = .ok (.dup, 1) := by decide +kernel
theorem dX9_sees_51 : decode cX9_sees 51 = .ok (.getfield 196, 3) := by decide +kernel
theorem dX9_sees_54 : decode cX9_sees 54 = .ok (.iconst 1, 1) := by decide +kernel
theorem dX9_sees_55 : decode cX9_sees 55 = .ok (.iadd, 1) := by decide +kernel
theorem dX9_sees_56 : decode cX9_sees 56 = .ok (.putfield 196, 3) := by decide +kernel
theorem dX9_sees_59 : decode cX9_sees 59 = .ok (.goto (-52), 3) := by decide +kernel
theorem dX9_adds_0 : decode cX9_adds 0 = .ok (.iconst 1, 1) := by decide +kernel
theorem dX9_adds_1 : decode cX9_adds 1 = .ok (.istore_n 2, 1) := by decide +kernel
theorem dX9_adds_2 : decode cX9_adds 2 = .ok (.aload_n 0, 1) := by decide +kernel
theorem dX9_adds_3 : decode cX9_adds 3 = .ok (.invokevirtual 210, 3) := by decide +kernel
theorem dX9_adds_6 : decode cX9_adds 6 = .ok (.ifCond .eq 40, 3) := by decide +kernel
theorem dX9_adds_9 : decode cX9_adds 9 = .ok (.iconst 0, 1) := by decide +kernel
theorem dX9_adds_10 : decode cX9_adds 10 = .ok (.istore_n 2, 1) := by decide +kernel
theorem dX9_adds_11 : decode cX9_adds 11 = .ok (.aload_n 0, 1) := by decide +kernel
theorem dX9_adds_12 : decode cX9_adds 12 = .ok (.invokevirtual 210, 3) := by decide +kernel
theorem dX9_adds_15 : decode cX9_adds 15 = .ok (.ifCond .eq 31, 3) := by decide +kernel
theorem dX9_adds_18 : decode cX9_adds 18 = .ok (.bipush 10, 2) := by decide +kernel
theorem dX9_adds_20 : decode cX9_adds 20 = .ok (.iload_n 2, 1) := by decide +kernel
theorem dX9_adds_21 : decode cX9_adds 21 = .ok (.imul, 1) := by decide +kernel
theorem dX9_adds_22 : decode cX9_adds 22 = .ok (.aload_n 0, 1) := by decide +kernel
theorem dX9_adds_23 : decode cX9_adds 23 = .ok (.getfield 40, 3) := by decide +kernel
theorem dX9_adds_26 : decode cX9_adds 26 = .ok (.aload_n 0, 1) := by decide +kernel
theorem dX9_adds_27 : decode cX9_adds 27 = .ok (.dup, 1) := by decide +kernel
theorem dX9_adds_28 : decode cX9_adds 28 = .ok (.getfield 196, 3) := by decide +kernel
theorem dX9_adds_31 : decode cX9_adds 31 = .ok (.dup_x1, 1) := by decide +kernel
theorem dX9_adds_32 : decode cX9_adds 32 = .ok (.iconst 1, 1) := by decide +kernel
theorem dX9_adds_33 : decode cX9_adds 33 = .ok (.iadd, 1) := by decide +kernel
theorem dX9_adds_34 : decode cX9_adds 34 = .ok (.putfield 196, 3) := by decide +kernel
theorem dX9_adds_37 : decode cX9_adds 37 = .ok (.iaload, 1) := by decide +kernel
theorem dX9_adds_38 : decode cX9_adds 38 = .ok (.iadd, 1) := by decide +kernel
theorem dX9_adds_39 : decode cX9_adds 39 = .ok (.bipush 48, 2) := by decide +kernel
theorem dX9_adds_41 : decode cX9_adds 41 = .ok (.isub, 1) := by decide +kernel
theorem dX9_adds_42 : decode cX9_adds 42 = .ok (.istore_n 2, 1) := by decide +kernel
theorem dX9_adds_43 : decode cX9_adds 43 = .ok (.goto (-32), 3) := by decide +kernel
theorem dX9_adds_46 : decode cX9_adds 46 = .ok (.iconst 0, 1) := by decide +kernel
theorem dX9_adds_47 : decode cX9_adds 47 = .ok (.istore_n 3, 1) := by decide +kernel
theorem dX9_adds_48 : decode cX9_adds 48 = .ok (.iconst 1, 1) := by decide +kernel
theorem dX9_adds_49 : decode cX9_adds 49 = .ok (.istore 4, 2) := by decide +kernel
theorem dX9_adds_51 : decode cX9_adds 51 = .ok (.iconst 1, 1) := by decide +kernel
theorem dX9_adds_52 : decode cX9_adds 52 = .ok (.istore 5, 2) := by decide +kernel
theorem dX9_adds_54 : decode cX9_adds 54 = .ok (.aload_n 0, 1) := by decide +kernel
theorem dX9_adds_55 : decode cX9_adds 55 = .ok (.invokevirtual 213, 3) := by decide +kernel
theorem dX9_adds_58 : decode cX9_adds 58 = .ok (.ifCond .eq 60, 3) := by decide +kernel
theorem dX9_adds_61 : decode cX9_adds 61 = .ok (.iconst 1, 1) := by decide +kernel
theorem dX9_adds_62 : decode cX9_adds 62 = .ok (.aload_n 0, 1) := by decide +kernel
theorem dX9_adds_63 : decode cX9_adds 63 = .ok (.getfield 40, 3) := by decide +kernel
theorem dX9_adds_66 : decode cX9_adds 66 = .ok (.aload_n 0, 1) := by decide +kernel
theorem dX9_adds_67 : decode cX9_adds 67 = .ok (.dup, 1) := by decide +kernel
theorem dX9_adds_68 : decode cX9_adds 68 = .ok (.getfield 196, 3) := by decide +kernel
theorem dX9_adds_71 : decode cX9_adds 71 = .ok (.dup_x1, 1) := by decide +kernel
theorem dX9_adds_72 : decode cX9_adds 72 = .ok (.iconst 1, 1) := by decide +kernel
theorem dX9_adds_73 : decode cX9_adds 73 = .ok (.iadd, 1) := by decide +kernel
theorem dX9_adds_74 : decode cX9_adds 74 = .ok (.putfield 196, 3) := by decide +kernel
theorem dX9_adds_77 : decode cX9_adds 77 = .ok (.iaload, 1) := by decide +kernel
theorem dX9_adds_78 : decode cX9_adds 78 = .ok (.bipush 97, 2) := by decide +kernel
theorem dX9_adds_80 : decode cX9_adds 80 = .ok (.isub, 1) := by decide +kernel
theorem dX9_adds_81 : decode cX9_adds 81 = .ok (.ishl, 1) := by decide +kernel
theorem dX9_adds_82 : decode cX9_adds 82 = .ok (.istore 6, 2) := by decide +kernel
theorem dX9_adds_84 : decode cX9_adds 84 = .ok (.iload 6, 2) := by decide +kernel
theorem dX9_adds_86 : decode cX9_adds 86 = .ok (.aload_n 0, 1) := by decide +kernel
theorem dX9_adds_87 : decode cX9_adds 87 = .ok (.getfield 18, 3) := by decide +kernel
theorem dX9_adds_90 : decode cX9_adds 90 = .ok (.if_icmp .lt 9, 3) := by decide +kernel
theorem dX9_adds_93 : decode cX9_adds 93 = .ok (.iconst 0, 1) := by decide +kernel
theorem dX9_adds_94 : decode cX9_adds 94 = .ok (.istore 5, 2) := by decide +kernel
theorem dX9_adds_96 : decode cX9_adds 96 = .ok (.goto (-42), 3) := by decide +kernel
theorem dX9_adds_99 : decode cX9_adds 99 = .ok (.iload 4, 2) := by decide +kernel
theorem dX9_adds_101 : decode cX9_adds 101 = .ok (.iload_n 3, 1) := by decide +kernel
theorem dX9_adds_102 : decode cX9_adds 102 = .ok (.iload 6, 2) := by decide +kernel
theorem dX9_adds_104 : decode cX9_adds 104 = .ok (.invokestatic 116, 3) := by decide +kernel
theorem dX9_adds_107 : decode cX9_adds 107 = .ok (.imul, 1) := by decide +kernel
theorem dX9_adds_108 : decode cX9_adds 108 = .ok (.istore 4, 2) := by decide +kernel
theorem dX9_adds_110 : decode cX9_adds 110 = .ok (.iload_n 3, 1) := by decide +kernel
theorem dX9_adds_111 : decode cX9_adds 111 = .ok (.iload 6, 2) := by decide +kernel
theorem dX9_adds_113 : decode cX9_adds 113 = .ok (.ior, 1) := by decide +kernel
theorem dX9_adds_114 : decode cX9_adds 114 = .ok (.istore_n 3, 1) := by decide +kernel
theorem dX9_adds_115 : decode cX9_adds 115 = .ok (.goto (-61), 3) := by decide +kernel
theorem dX9_adds_118 : decode cX9_adds 118 = .ok (.iload 5, 2) := by decide +kernel
theorem dX9_adds_120 : decode cX9_adds 120 = .ok (.ifCond .eq 37, 3) := by decide +kernel
theorem dX9_adds_123 : decode cX9_adds 123 = .ok (.aload_n 0, 1) := by decide +kernel
theorem dX9_adds_124 : decode cX9_adds 124 = .ok (.getfield 78, 3) := by decide +kernel
theorem dX9_adds_127 : decode cX9_adds 127 = .ok (.iload_n 3, 1) := by decide +kernel
theorem dX9_adds_128 : decode cX9_adds 128 = .ok (.aload_n 0, 1) := by decide +kernel
theorem dX9_adds_129 : decode cX9_adds 129 = .ok (.aload_n 0, 1) := by decide +kernel
theorem dX9_adds_130 : decode cX9_adds 130 = .ok (.getfield 78, 3) := by decide +kernel
theorem dX9_adds_133 : decode cX9_adds 133 = .ok (.iload_n 3, 1) := by decide +kernel
theorem dX9_adds_134 : decode cX9_adds 134 = .ok (.iaload, 1) := by decide +kernel
theorem dX9_adds_135 : decode cX9_adds 135 = .ok (.i2l, 1) := by decide +kernel
theorem dX9_adds_136 : decode cX9_adds 136 = .ok (.iload_n 1, 1) := by decide +kernel
theorem dX9_adds_137 : decode cX9_adds 137 = .ok (.ifCond .eq 9, 3) := by decide +kernel
theorem dX9_adds_140 : decode cX9_adds 140 = .ok (.iload 4, 2) := by decide +kernel
theorem dX9_adds_142 : decode cX9_adds 142 = .ok (.ineg, 1) := by decide +kernel
theorem dX9_adds_143 : decode cX9_adds 143 = .ok (.goto 5, 3) := by decide +kernel
theorem dX9_adds_146 : decode cX9_adds 146 = .ok (.iload 4, 2) := by decide +kernel
theorem dX9_adds_148 : decode cX9_adds 148 = .ok (.i2l, 1) := by decide +kernel
theorem dX9_adds_149 : decode cX9_adds 149 = .ok (.iload_n 2, 1) := by decide +kernel
theorem dX9_adds_150 : decode cX9_adds 150 = .ok (.i2l, 1) := by decide +kernel
theorem dX9_adds_151 : decode cX9_adds 151 = .ok (.lmul, 1) := by decide +kernel
theorem dX9_adds_152 : decode cX9_adds 152 = .ok (.ladd, 1) := by decide +kernel
theorem dX9_adds_153 : decode cX9_adds 153 = .ok (.invokevirtual 120, 3) := by decide +kernel
theorem dX9_adds_156 : decode cX9_adds 156 = .ok (.iastore, 1) := by decide +kernel
theorem dX9_adds_157 : decode cX9_adds 157 = .ok (.iload 5, 2) := by decide +kernel
theorem dX9_adds_159 : decode cX9_adds 159 = .ok (.ireturn, 1) := by decide +kernel
theorem dX9_does_0 : decode cX9_does 0 = .ok (.aload_n 0, 1) := by decide +kernel
theorem dX9_does_1 : decode cX9_does 1 = .ok (.getfield 40, 3) := by decide +kernel
theorem dX9_does_4 : decode cX9_does 4 = .ok (.aload_n 0, 1) := by decide +kernel
theorem dX9_does_5 : decode cX9_does 5 = .ok (.dup, 1) := by decide +kernel
theorem dX9_does_6 : decode cX9_does 6 = .ok (.getfield 196, 3) := by decide +kernel
theorem dX9_does_9 : decode cX9_does 9 = .ok (.dup_x1, 1) := by decide +kernel
theorem dX9_does_10 : decode cX9_does 10 = .ok (.iconst 1, 1) := by decide +kernel
theorem dX9_does_11 : decode cX9_does 11 = .ok (.iadd, 1) := by decide +kernel
theorem dX9_does_12 : decode cX9_does 12 = .ok (.putfield 196, 3) := by decide +kernel
theorem dX9_does_15 : decode cX9_does 15 = .ok (.iaload, 1) := by decide +kernel
theorem dX9_does_16 : decode cX9_does 16 = .ok (.istore_n 1, 1) := by decide +kernel
theorem dX9_does_17 : decode cX9_does 17 = .ok (.iload_n 1, 1) := by decide +kernel
theorem dX9_does_18 : decode cX9_does 18 = .ok (.bipush 120, 2) := by decide +kernel
theorem dX9_does_20 : decode cX9_does 20 = .ok (.if_icmp .ne 10, 3) := by decide +kernel
theorem dX9_does_23 : decode cX9_does 23 = .ok (.aload_n 0, 1) := by decide +kernel
theorem dX9_does_24 : decode cX9_does 24 = .ok (.iconst 0, 1) := by decide +kernel
theorem dX9_does_25 : decode cX9_does 25 = .ok (.putfield 153, 3) := by decide +kernel
theorem dX9_does_28 : decode cX9_does 28 = .ok (.iconst 1, 1) := by decide +kernel
theorem dX9_does_29 : decode cX9_does 29 = .ok (.ireturn, 1) := by decide +kernel
theorem dX9_does_30 : decode cX9_does 30 = .ok (.iload_n 1, 1) := by decide +kernel
theorem dX9_does_31 : decode cX9_does 31 = .ok (.bipush 103, 2) := by decide +kernel
theorem dX9_does_33 : decode cX9_does 33 = .ok (.if_icmp .eq 21, 3) := by decide +kernel
theorem dX9_does_36 : decode cX9_does 36 = .ok (.iload_n 1, 1) := by decide +kernel
theorem dX9_does_37 : decode cX9_does 37 = .ok (.bipush 110, 2) := by decide +kernel
theorem dX9_does_39 : decode cX9_does 39 = .ok (.if_icmp .eq 15, 3) := by decide +kernel
theorem dX9_does_42 : decode cX9_does 42 = .ok (.iload_n 1, 1) := by decide +kernel
theorem dX9_does_43 : decode cX9_does 43 = .ok (.bipush 112, 2) := by decide +kernel
theorem dX9_does_45 : decode cX9_does 45 = .ok (.if_icmp .eq 9, 3) := by decide +kernel
theorem dX9_does_48 : decode cX9_does 48 = .ok (.iload_n 1, 1) := by decide +kernel
theorem dX9_does_49 : decode cX9_does 49 = .ok (.bipush 111, 2) := by decide +kernel
theorem dX9_does_51 : decode cX9_does 51 = .ok (.if_icmp .ne 79, 3) := by decide +kernel
theorem dX9_does_54 : decode cX9_does 54 = .ok (.aload_n 0, 1) := by decide +kernel
theorem dX9_does_55 : decode cX9_does 55 = .ok (.getfield 40, 3) := by decide +kernel
theorem dX9_does_58 : decode cX9_does 58 = .ok (.aload_n 0, 1) := by decide +kernel
theorem dX9_does_59 : decode cX9_does 59 = .ok (.dup, 1) := by decide +kernel
theorem dX9_does_60 : decode cX9_does 60 = .ok (.getfield 196, 3) := by decide +kernel
theorem dX9_does_63 : decode cX9_does 63 = .ok (.dup_x1, 1) := by decide +kernel
theorem dX9_does_64 : decode cX9_does 64 = .ok (.iconst 1, 1) := by decide +kernel
theorem dX9_does_65 : decode cX9_does 65 = .ok (.iadd, 1) := by decide +kernel
theorem dX9_does_66 : decode cX9_does 66 = .ok (.putfield 196, 3) := by decide +kernel
theorem dX9_does_69 : decode cX9_does 69 = .ok (.iaload, 1) := by decide +kernel
theorem dX9_does_70 : decode cX9_does 70 = .ok (.bipush 48, 2) := by decide +kernel
theorem dX9_does_72 : decode cX9_does 72 = .ok (.isub, 1) := by decide +kernel
theorem dX9_does_73 : decode cX9_does 73 = .ok (.istore_n 2, 1) := by decide +kernel
theorem dX9_does_74 : decode cX9_does 74 = .ok (.iload_n 1, 1) := by decide +kernel
theorem dX9_does_75 : decode cX9_does 75 = .ok (.bipush 103, 2) := by decide +kernel
theorem dX9_does_77 : decode cX9_does 77 = .ok (.if_icmp .ne 11, 3) := by decide +kernel
theorem dX9_does_80 : decode cX9_does 80 = .ok (.aload_n 0, 1) := by decide +kernel
theorem dX9_does_81 : decode cX9_does 81 = .ok (.iload_n 2, 1) := by decide +kernel
theorem dX9_does_82 : decode cX9_does 82 = .ok (.invokevirtual 225, 3) := by decide +kernel
theorem dX9_does_85 : decode cX9_does 85 = .ok (.goto 36, 3) := by decide +kernel
theorem dX9_does_88 : decode cX9_does 88 = .ok (.iload_n 1, 1) := by decide +kernel
theorem dX9_does_89 : decode cX9_does 89 = .ok (.bipush 110, 2) := by decide +kernel
theorem dX9_does_91 : decode cX9_does 91 = .ok (.if_icmp .ne 11, 3) := by decide +kernel
theorem dX9_does_94 : decode cX9_does 94 = .ok (.aload_n 0, 1) := by decide +kernel
theorem dX9_does_95 : decode cX9_does 95 = .ok (.iload_n 2, 1) := by decide +kernel
theorem dX9_does_96 : decode cX9_does 96 = .ok (.invokevirtual 228, 3) := by decide +kernel
theorem dX9_does_99 : decode cX9_does 99 = .ok (.goto 22, 3) := by decide +kernel
theorem dX9_does_102 : decode cX9_does 102 = .ok (.iload_n 1, 1) := by decide +kernel
theorem dX9_does_103 : decode cX9_does 103 = .ok (.bipush 112, 2) := by decide +kernel
theorem dX9_does_105 : decode cX9_does 105 = .ok (.if_icmp .ne 11, 3) := by decide +kernel
theorem dX9_does_108 : decode cX9_does 108 = .ok (.aload_n 0, 1) := by decide +kernel
theorem dX9_does_109 : decode cX9_does 109 = .ok (.iload_n 2, 1) := by decide +kernel
theorem dX9_does_110 : decode cX9_does 110 = .ok (.invokevirtual 231, 3) := by decide +kernel
theorem dX9_does_113 : decode cX9_does 113 = .ok (.goto 8, 3) := by decide +kernel
theorem dX9_does_116 : decode cX9_does 116 = .ok (.aload_n 0, 1) := by decide +kernel
theorem dX9_does_117 : decode cX9_does 117 = .ok (.iload_n 2, 1) := by decide +kernel
theorem dX9_does_118 : decode cX9_does 118 = .ok (.invokevirtual 234, 3) := by decide +kernel
theorem dX9_does_121 : decode cX9_does 121 = .ok (.ifCond .lt 7, 3) := by decide +kernel
theorem dX9_does_124 : decode cX9_does 124 = .ok (.iconst 1, 1) := by decide +kernel
theorem dX9_does_125 : decode cX9_does 125 = .ok (.goto 4, 3) := by decide +kernel
theorem dX9_does_128 : decode cX9_does 128 = .ok (.iconst 0, 1) := by decide +kernel
theorem dX9_does_129 : decode cX9_does 129 = .ok (.ireturn, 1) := by decide +kernel
theorem dX9_does_130 : decode cX9_does 130 = .ok (.iconst 0, 1) := by decide +kernel
theorem dX9_does_131 : decode cX9_does 131 = .ok (.istore_n 2, 1) := by decide +kernel
theorem dX9_does_132 : decode cX9_does 132 = .ok (.iload_n 2, 1) := by decide +kernel
theorem dX9_does_133 : decode cX9_does 133 = .ok (.bipush 16, 2) := by decide +kernel
theorem dX9_does_135 : decode cX9_does 135 = .ok (.if_icmp .ge 16, 3) := by decide +kernel
theorem dX9_does_138 : decode cX9_does 138 = .ok (.aload_n 0, 1) := by decide +kernel
theorem dX9_does_139 : decode cX9_does 139 = .ok (.getfield 78, 3) := by decide +kernel
theorem dX9_does_142 : decode cX9_does 142 = .ok (.iload_n 2, 1) := by decide +kernel
theorem dX9_does_143 : decode cX9_does 143 = .ok (.iconst 0, 1) := by decide +kernel
theorem dX9_does_144 : decode cX9_does 144 = .ok (.iastore, 1) := by decide +kernel
theorem dX9_does_145 : decode cX9_does 145 = .ok (.iinc 2 1, 3) := by decide +kernel
theorem dX9_does_148 : decode cX9_does 148 = .ok (.goto (-16), 3) := by decide +kernel
theorem dX9_does_151 : decode cX9_does 151 = .ok (.iload_n 1, 1) := by decide +kernel
theorem dX9_does_152 : decode cX9_does 152 = .ok (.bipush 48, 2) := by decide +kernel
theorem dX9_does_154 : decode cX9_does 154 = .ok (.isub, 1) := by decide +kernel
theorem dX9_does_155 : decode cX9_does 155 = .ok (.invokestatic 175, 3) := by decide +kernel
theorem dX9_does_158 : decode cX9_does 158 = .ok (.istore_n 2, 1) := by decide +kernel
theorem dX9_does_159 : decode cX9_does 159 = .ok (.iconst 1, 1) := by decide +kernel
theorem dX9_does_160 : decode cX9_does 160 = .ok (.istore_n 3, 1) := by decide +kernel
theorem dX9_does_161 : decode cX9_does 161 = .ok (.iconst 0, 1) := by decide +kernel
theorem dX9_does_162 : decode cX9_does 162 = .ok (.istore 4, 2) := by decide +kernel
theorem dX9_does_164 : decode cX9_does 164 = .ok (.aload_n 0, 1) := by decide +kernel
theorem dX9_does_165 : decode cX9_does 165 = .ok (.dup, 1) := by decide +kernel
theorem dX9_does_166 : decode cX9_does 166 = .ok (.getfield 196, 3) := by decide +kernel
theorem dX9_does_169 : decode cX9_does 169 = .ok (.iconst 1, 1) := by decide +kernel
theorem dX9_does_170 : decode cX9_does 170 = .ok (.iadd, 1) := by decide +kernel
theorem dX9_does_171 : decode cX9_does 171 = .ok (.putfield 196, 3) := by decide +kernel
theorem dX9_does_174 : decode cX9_does 174 = .ok (.aload_n 0, 1) := by decide +kernel
theorem dX9_does_175 : decode cX9_does 175 = .ok (.invokevirtual 199, 3) := by decide +kernel
theorem dX9_does_178 : decode cX9_does 178 = .ok (.bipush 45, 2) := by decide +kernel
theorem dX9_does_180 : decode cX9_does 180 = .ok (.if_icmp .ne 16, 3) := by decide +kernel
theorem dX9_does_183 : decode cX9_does 183 = .ok (.iconst 1, 1) := by decide +kernel
theorem dX9_does_184 : decode cX9_does 184 = .ok (.istore 4, 2) := by decide +kernel
theorem dX9_does_186 : decode cX9_does 186 = .ok (.aload_n 0, 1) := by decide +kernel
theorem dX9_does_187 : decode cX9_does 187 = .ok (.dup, 1) := by decide +kernel
theorem dX9_does_188 : decode cX9_does 188 = .ok (.getfield 196, 3) := by decide +kernel
theorem dX9_does_191 : decode cX9_does 191 = .ok (.iconst 1, 1) := by decide +kernel
theorem dX9_does_192 : decode cX9_does 192 = .ok (.iadd, 1) := by decide +kernel
theorem dX9_does_193 : decode cX9_does 193 = .ok (.putfield 196, 3) := by decide +kernel
theorem dX9_does_196 : decode cX9_does 196 = .ok (.iload_n 3, 1) := by decide +kernel
theorem dX9_does_197 : decode cX9_does 197 = .ok (.ifCond .eq 72, 3) := by decide +kernel
theorem dX9_does_200 : decode cX9_does 200 = .ok (.iload_n 2, 1) := by decide +kernel
theorem dX9_does_201 : decode cX9_does 201 = .ok (.aload_n 0, 1) := by decide +kernel
theorem dX9_does_202 : decode cX9_does 202 = .ok (.iload 4, 2) := by decide +kernel
theorem dX9_does_204 : decode cX9_does 204 = .ok (.invokevirtual 236, 3) := by decide +kernel
theorem dX9_does_207 : decode cX9_does 207 = .ok (.iand, 1) := by decide +kernel
theorem dX9_does_208 : decode cX9_does 208 = .ok (.istore_n 2, 1) := by decide +kernel
theorem dX9_does_209 : decode cX9_does 209 = .ok (.aload_n 0, 1) := by decide +kernel
theorem dX9_does_210 : decode cX9_does 210 = .ok (.invokevirtual 199, 3) := by decide +kernel
theorem dX9_does_213 : decode cX9_does 213 = .ok (.bipush 43, 2) := by decide +kernel
theorem dX9_does_215 : decode cX9_does 215 = .ok (.if_icmp .eq 12, 3) := by decide +kernel
theorem dX9_does_218 : decode cX9_does 218 = .ok (.aload_n 0, 1) := by decide +kernel
theorem dX9_does_219 : decode cX9_does 219 = .ok (.invokevirtual 199, 3) := by decide +kernel
theorem dX9_does_222 : decode cX9_does 222 = .ok (.bipush 45, 2) := by decide +kernel
theorem dX9_does_224 : decode cX9_does 224 = .ok (.if_icmp .ne 7, 3) := by decide +kernel
theorem dX9_does_227 : decode cX9_does 227 = .ok (.iconst 1, 1) := by decide +kernel
theorem dX9_does_228 : decode cX9_does 228 = .ok (.goto 4, 3) := by decide +kernel
theorem dX9_does_231 : decode cX9_does 231 = .ok (.iconst 0, 1) := by decide +kernel
theorem dX9_does_232 : decode cX9_does 232 = .ok (.istore_n 3, 1) := by decide +kernel
theorem dX9_does_233 : decode cX9_does 233 = .ok (.iload_n 3, 1) := by decide +kernel
theorem dX9_does_234 : decode cX9_does 234 = .ok (.ifCond .ne 6, 3) := by decide +kernel
theorem dX9_does_237 : decode cX9_does 237 = .ok (.goto (-41), 3) := by decide +kernel
theorem dX9_does_240 : decode cX9_does 240 = .ok (.aload_n 0, 1) := by decide +kernel
theorem dX9_does_241 : decode cX9_does 241 = .ok (.invokevirtual 199, 3) := by decide +kernel
theorem dX9_does_244 : decode cX9_does 244 = .ok (.bipush 45, 2) := by decide +kernel
theorem dX9_does_246 : decode cX9_does 246 = .ok (.if_icmp .ne 7, 3) := by decide +kernel
theorem dX9_does_249 : decode cX9_does 249 = .ok (.iconst 1, 1) := by decide +kernel
theorem dX9_does_250 : decode cX9_does 250 = .ok (.goto 4, 3) := by decide +kernel
theorem dX9_does_253 : decode cX9_does 253 = .ok (.iconst 0, 1) := by decide +kernel
theorem dX9_does_254 : decode cX9_does 254 = .ok (.istore 4, 2) := by decide +kernel
theorem dX9_does_256 : decode cX9_does 256 = .ok (.aload_n 0, 1) := by decide +kernel
theorem dX9_does_257 : decode cX9_does 257 = .ok (.dup, 1) := by decide +kernel
theorem dX9_does_258 : decode cX9_does 258 = .ok (.getfield 196, 3) := by decide +kernel
theorem dX9_does_261 : decode cX9_does 261 = .ok (.iconst 1, 1) := by decide +kernel
theorem dX9_does_262 : decode cX9_does 262 = .ok (.iadd, 1) := by decide +kernel
theorem dX9_does_263 : decode cX9_does 263 = .ok (.putfield 196, 3) := by decide +kernel
theorem dX9_does_266 : decode cX9_does 266 = .ok (.goto (-70), 3) := by decide +kernel
theorem dX9_does_269 : decode cX9_does 269 = .ok (.iconst 0, 1) := by decide +kernel
theorem dX9_does_270 : decode cX9_does 270 = .ok (.istore 5, 2) := by decide +kernel
theorem dX9_does_272 : decode cX9_does 272 = .ok (.iload 5, 2) := by decide +kernel
theorem dX9_does_274 : decode cX9_does 274 = .ok (.bipush 16, 2) := by decide +kernel
theorem dX9_does_276 : decode cX9_does 276 = .ok (.if_icmp .ge 35, 3) := by decide +kernel
theorem dX9_does_279 : decode cX9_does 279 = .ok (.iload_n 2, 1) := by decide +kernel
theorem dX9_does_280 : decode cX9_does 280 = .ok (.ifCond .eq 31, 3) := by decide +kernel
theorem dX9_does_283 : decode cX9_does 283 = .ok (.aload_n 0, 1) := by decide +kernel
theorem dX9_does_284 : decode cX9_does 284 = .ok (.getfield 21, 3) := by decide +kernel
theorem dX9_does_287 : decode cX9_does 287 = .ok (.bipush 16, 2) := by decide +kernel
theorem dX9_does_289 : decode cX9_does 289 = .ok (.iload_n 1, 1) := by decide +kernel
theorem dX9_does_290 : decode cX9_does 290 = .ok (.bipush 48, 2) := by decide +kernel
theorem dX9_does_292 : decode cX9_does 292 = .ok (.isub, 1) := by decide +kernel
theorem dX9_does_293 : decode cX9_does 293 = .ok (.imul, 1) := by decide +kernel
theorem dX9_does_294 : decode cX9_does 294 = .ok (.iload 5, 2) := by decide +kernel
theorem dX9_does_296 : decode cX9_does 296 = .ok (.iadd, 1) := by decide +kernel
theorem dX9_does_297 : decode cX9_does 297 = .ok (.aload_n 0, 1) := by decide +kernel
theorem dX9_does_298 : decode cX9_does 298 = .ok (.getfield 78, 3) := by decide +kernel
theorem dX9_does_301 : decode cX9_does 301 = .ok (.iload 5, 2) := by decide +kernel
theorem dX9_does_303 : decode cX9_does 303 = .ok (.iaload, 1) := by decide +kernel
theorem dX9_does_304 : decode cX9_does 304 = .ok (.iastore, 1) := by decide +kernel
theorem dX9_does_305 : decode cX9_does 305 = .ok (.iinc 5 1, 3) := by decide +kernel
theorem dX9_does_308 : decode cX9_does 308 = .ok (.goto (-36), 3) := by decide +kernel
theorem dX9_does_311 : decode cX9_does 311 = .ok (.iload_n 2, 1) := by decide +kernel
theorem dX9_does_312 : decode cX9_does 312 = .ok (.ireturn, 1) := by decide +kernel
theorem dX9_read_0 : decode cX9_read 0 = .ok (.aload_n 0, 1) := by decide +kernel
theorem dX9_read_1 : decode cX9_read 1 = .ok (.invokevirtual 240, 3) := by decide +kernel
theorem dX9_read_4 : decode cX9_read 4 = .ok (.ifCond .ne 16, 3) := by decide +kernel
theorem dX9_read_7 : decode cX9_read 7 = .ok (.aload_n 0, 1) := by decide +kernel
theorem dX9_read_8 : decode cX9_read 8 = .ok (.iconst 0, 1) := by decide +kernel
theorem dX9_read_9 : decode cX9_read 9 = .ok (.putfield 193, 3) := by decide +kernel
theorem dX9_read_12 : decode cX9_read 12 = .ok (.bipush (-10), 2) := by decide +kernel
theorem dX9_read_14 : decode cX9_read 14 = .ok (.aload_n 0, 1) := by decide +kernel
theorem dX9_read_15 : decode cX9_read 15 = .ok (.getfield 196, 3) := by decide +kernel
theorem dX9_read_18 : decode cX9_read 18 = .ok (.isub, 1) := by decide +kernel
theorem dX9_read_19 : decode cX9_read 19 = .ok (.ireturn, 1) := by decide +kernel
theorem dX9_read_20 : decode cX9_read 20 = .ok (.aload_n 0, 1) := by decide +kernel
theorem dX9_read_21 : decode cX9_read 21 = .ok (.iconst 0, 1) := by decide +kernel
theorem dX9_read_22 : decode cX9_read 22 = .ok (.putfield 196, 3) := by decide +kernel
theorem dX9_read_25 : decode cX9_read 25 = .ok (.iconst 0, 1) := by decide +kernel
theorem dX9_read_26 : decode cX9_read 26 = .ok (.istore_n 1, 1) := by decide +kernel
theorem dX9_read_27 : decode cX9_read 27 = .ok (.aload_n 0, 1) := by decide +kernel
theorem dX9_read_28 : decode cX9_read 28 = .ok (.getfield 196, 3) := by decide +kernel
theorem dX9_read_31 : decode cX9_read 31 = .ok (.aload_n 0, 1) := by decide +kernel
theorem dX9_read_32 : decode cX9_read 32 = .ok (.getfield 193, 3) := by decide +kernel
theorem dX9_read_35 : decode cX9_read 35 = .ok (.if_icmp .ge 26, 3) := by decide +kernel
theorem dX9_read_38 : decode cX9_read 38 = .ok (.aload_n 0, 1) := by decide +kernel
theorem dX9_read_39 : decode cX9_read 39 = .ok (.invokevirtual 243, 3) := by decide +kernel
theorem dX9_read_42 : decode cX9_read 42 = .ok (.ifCond .eq 6, 3) := by decide +kernel
theorem dX9_read_45 : decode cX9_read 45 = .ok (.iinc 1 1, 3) := by decide +kernel
theorem dX9_read_48 : decode cX9_read 48 = .ok (.aload_n 0, 1) := by decide +kernel
theorem dX9_read_49 : decode cX9_read 49 = .ok (.dup, 1) := by decide +kernel
theorem dX9_read_50 : decode cX9_read 50 = .ok (.getfield 196, 3) := by decide +kernel
theorem dX9_read_53 : decode cX9_read 53 = .ok (.iconst 1, 1) := by decide +kernel
theorem dX9_read_54 : decode cX9_read 54 = .ok (.iadd, 1) := by decide +kernel
theorem dX9_read_55 : decode cX9_read 55 = .ok (.putfield 196, 3) := by decide +kernel
theorem dX9_read_58 : decode cX9_read 58 = .ok (.goto (-31), 3) := by decide +kernel
theorem dX9_read_61 : decode cX9_read 61 = .ok (.aload_n 0, 1) := by decide +kernel
theorem dX9_read_62 : decode cX9_read 62 = .ok (.iconst 0, 1) := by decide +kernel
theorem dX9_read_63 : decode cX9_read 63 = .ok (.putfield 193, 3) := by decide +kernel
theorem dX9_read_66 : decode cX9_read 66 = .ok (.iload_n 1, 1) := by decide +kernel
theorem dX9_read_67 : decode cX9_read 67 = .ok (.ireturn, 1) := by decide +kernel
theorem dX9_of_0 : decode cX9_of 0 = .ok (.iload_n 1, 1) := by decide +kernel
theorem dX9_of_1 : decode cX9_of 1 = .ok (.invokestatic 175, 3) := by decide +kernel
theorem dX9_of_4 : decode cX9_of 4 = .ok (.ifCond .eq 25, 3) := by decide +kernel
theorem dX9_of_7 : decode cX9_of 7 = .ok (.aload_n 0, 1) := by decide +kernel
theorem dX9_of_8 : decode cX9_of 8 = .ok (.iload_n 2, 1) := by decide +kernel
theorem dX9_of_9 : decode cX9_of 9 = .ok (.invokevirtual 179, 3) := by decide +kernel
theorem dX9_of_12 : decode cX9_of 12 = .ok (.ifCond .eq 17, 3) := by decide +kernel
theorem dX9_of_15 : decode cX9_of 15 = .ok (.aload_n 0, 1) := by decide +kernel
theorem dX9_of_16 : decode cX9_of 16 = .ok (.getfield 21, 3) := by decide +kernel
theorem dX9_of_19 : decode cX9_of 19 = .ok (.bipush 16, 2) := by decide +kernel
theorem dX9_of_21 : decode cX9_of 21 = .ok (.iload_n 1, 1) := by decide +kernel
theorem dX9_of_22 : decode cX9_of 22 = .ok (.imul, 1) := by decide +kernel
theorem dX9_of_23 : decode cX9_of 23 = .ok (.iload_n 2, 1) := by decide +kernel
theorem dX9_of_24 : decode cX9_of 24 = .ok (.iadd, 1) := by decide +kernel
theorem dX9_of_25 : decode cX9_of 25 = .ok (.iaload, 1) := by decide +kernel
theorem dX9_of_26 : decode cX9_of 26 = .ok (.goto 4, 3) := by decide +kernel
theorem dX9_of_29 : decode cX9_of 29 = .ok (.iconst (-1), 1) := by decide +kernel
theorem dX9_of_30 : decode cX9_of 30 = .ok (.ireturn, 1) := by decide +kernel
theorem dX9_told_0 : decode cX9_told 0 = .ok (.iload_n 1, 1) := by decide +kernel
theorem dX9_told_1 : decode cX9_told 1 = .ok (.tableswitch 60 0 4 #[35, 40, 45, 50, 55], 35) := by decide +kernel
theorem dX9_told_36 : decode cX9_told 36 = .ok (.aload_n 0, 1) := by decide +kernel
theorem dX9_told_37 : decode cX9_told 37 = .ok (.getfield 9, 3) := by decide +kernel
theorem dX9_told_40 : decode cX9_told 40 = .ok (.ireturn, 1) := by decide +kernel
theorem dX9_told_41 : decode cX9_told 41 = .ok (.aload_n 0, 1) := by decide +kernel
theorem dX9_told_42 : decode cX9_told 42 = .ok (.getfield 15, 3) := by decide +kernel
theorem dX9_told_45 : decode cX9_told 45 = .ok (.ireturn, 1) := by decide +kernel
theorem dX9_told_46 : decode cX9_told 46 = .ok (.aload_n 0, 1) := by decide +kernel
theorem dX9_told_47 : decode cX9_told 47 = .ok (.getfield 134, 3) := by decide +kernel
theorem dX9_told_50 : decode cX9_told 50 = .ok (.ireturn, 1) := by decide +kernel
theorem dX9_told_51 : decode cX9_told 51 = .ok (.aload_n 0, 1) := by decide +kernel
theorem dX9_told_52 : decode cX9_told 52 = .ok (.getfield 153, 3) := by decide +kernel
theorem dX9_told_55 : decode cX9_told 55 = .ok (.ireturn, 1) := by decide +kernel
theorem dX9_told_56 : decode cX9_told 56 = .ok (.aload_n 0, 1) := by decide +kernel
theorem dX9_told_57 : decode cX9_told 57 = .ok (.getfield 18, 3) := by decide +kernel
theorem dX9_told_60 : decode cX9_told 60 = .ok (.ireturn, 1) := by decide +kernel
theorem dX9_told_61 : decode cX9_told 61 = .ok (.iconst (-1), 1) := by decide +kernel
theorem dX9_told_62 : decode cX9_told 62 = .ok (.ireturn, 1) := by decide +kernel
theorem dX9_generator_0 : decode cX9_generator 0 = .ok (.iload_n 1, 1) := by decide +kernel
theorem dX9_generator_1 : decode cX9_generator 1 = .ok (.i2l, 1) := by decide +kernel
theorem dX9_generator_2 : decode cX9_generator 2 = .ok (.lconst 0, 1) := by decide +kernel
theorem dX9_generator_3 : decode cX9_generator 3 = .ok (.aload_n 0, 1) := by decide +kernel
theorem dX9_generator_4 : decode cX9_generator 4 = .ok (.getfield 153, 3) := by decide +kernel
theorem dX9_generator_7 : decode cX9_generator 7 = .ok (.iconst 1, 1) := by decide +kernel
theorem dX9_generator_8 : decode cX9_generator 8 = .ok (.isub, 1) := by decide +kernel
theorem dX9_generator_9 : decode cX9_generator 9 = .ok (.i2l, 1) := by decide +kernel
theorem dX9_generator_10 : decode cX9_generator 10 = .ok (.invokestatic 108, 3) := by decide +kernel
theorem dX9_generator_13 : decode cX9_generator 13 = .ok (.ifCond .eq 25, 3) := by decide +kernel
theorem dX9_generator_16 : decode cX9_generator 16 = .ok (.aload_n 0, 1) := by decide +kernel
theorem dX9_generator_17 : decode cX9_generator 17 = .ok (.iload_n 2, 1) := by decide +kernel
theorem dX9_generator_18 : decode cX9_generator 18 = .ok (.invokevirtual 179, 3) := by decide +kernel
theorem dX9_generator_21 : decode cX9_generator 21 = .ok (.ifCond .eq 17, 3) := by decide +kernel
theorem dX9_generator_24 : decode cX9_generator 24 = .ok (.aload_n 0, 1) := by decide +kernel
theorem dX9_generator_25 : decode cX9_generator 25 = .ok (.getfield 25, 3) := by decide +kernel
theorem dX9_generator_28 : decode cX9_generator 28 = .ok (.bipush 16, 2) := by decide +kernel
theorem dX9_generator_30 : decode cX9_generator 30 = .ok (.iload_n 1, 1) := by decide +kernel
theorem dX9_generator_31 : decode cX9_generator 31 = .ok (.imul, 1) := by decide +kernel
theorem dX9_generator_32 : decode cX9_generator 32 = .ok (.iload_n 2, 1) := by decide +kernel
theorem dX9_generator_33 : decode cX9_generator 33 = .ok (.iadd, 1) := by decide +kernel
theorem dX9_generator_34 : decode cX9_generator 34 = .ok (.iaload, 1) := by decide +kernel
theorem dX9_generator_35 : decode cX9_generator 35 = .ok (.goto 4, 3) := by decide +kernel
theorem dX9_generator_38 : decode cX9_generator 38 = .ok (.iconst (-1), 1) := by decide +kernel
theorem dX9_generator_39 : decode cX9_generator 39 = .ok (.ireturn, 1) := by decide +kernel
theorem dX9_places_0 : decode cX9_places 0 = .ok (.aload_n 0, 1) := by decide +kernel
theorem dX9_places_1 : decode cX9_places 1 = .ok (.iload_n 1, 1) := by decide +kernel
theorem dX9_places_2 : decode cX9_places 2 = .ok (.invokevirtual 179, 3) := by decide +kernel
theorem dX9_places_5 : decode cX9_places 5 = .ok (.ifCond .eq 11, 3) := by decide +kernel
theorem dX9_places_8 : decode cX9_places 8 = .ok (.aload_n 0, 1) := by decide +kernel
theorem dX9_places_9 : decode cX9_places 9 = .ok (.iload_n 2, 1) := by decide +kernel
theorem dX9_places_10 : decode cX9_places 10 = .ok (.invokevirtual 179, 3) := by decide +kernel
theorem dX9_places_13 : decode cX9_places 13 = .ok (.ifCond .ne 5, 3) := by decide +kernel
theorem dX9_places_16 : decode cX9_places 16 = .ok (.iconst (-1), 1) := by decide +kernel
theorem dX9_places_17 : decode cX9_places 17 = .ok (.ireturn, 1) := by decide +kernel
theorem dX9_places_18 : decode cX9_places 18 = .ok (.iload_n 1, 1) := by decide +kernel
theorem dX9_places_19 : decode cX9_places 19 = .ok (.iload_n 2, 1) := by decide +kernel
theorem dX9_places_20 : decode cX9_places 20 = .ok (.invokestatic 116, 3) := by decide +kernel
theorem dX9_places_23 : decode cX9_places 23 = .ok (.istore_n 3, 1) := by decide +kernel
theorem dX9_places_24 : decode cX9_places 24 = .ok (.iload_n 3, 1) := by decide +kernel
theorem dX9_places_25 : decode cX9_places 25 = .ok (.ifCond .ne 8, 3) := by decide +kernel
theorem dX9_places_28 : decode cX9_places 28 = .ok (.bipush (-5), 2) := by decide +kernel
theorem dX9_places_30 : decode cX9_places 30 = .ok (.goto 13, 3) := by decide +kernel
theorem dX9_places_33 : decode cX9_places 33 = .ok (.bipush 100, 2) := by decide +kernel
theorem dX9_places_35 : decode cX9_places 35 = .ok (.iload_n 1, 1) := by decide +kernel
theorem dX9_places_36 : decode cX9_places 36 = .ok (.iload_n 2, 1) := by decide +kernel
theorem dX9_places_37 : decode cX9_places 37 = .ok (.ior, 1) := by decide +kernel
theorem dX9_places_38 : decode cX9_places 38 = .ok (.imul, 1) := by decide +kernel
theorem dX9_places_39 : decode cX9_places 39 = .ok (.iload_n 3, 1) := by decide +kernel
theorem dX9_places_40 : decode cX9_places 40 = .ok (.iadd, 1) := by decide +kernel
theorem dX9_places_41 : decode cX9_places 41 = .ok (.iconst 1, 1) := by decide +kernel
theorem dX9_places_42 : decode cX9_places 42 = .ok (.iadd, 1) := by decide +kernel
theorem dX9_places_43 : decode cX9_places 43 = .ok (.ireturn, 1) := by decide +kernel
theorem dX9_lead_0 : decode cX9_lead 0 = .ok (.iload_n 1, 1) := by decide +kernel
theorem dX9_lead_1 : decode cX9_lead 1 = .ok (.invokestatic 175, 3) := by decide +kernel
theorem dX9_lead_4 : decode cX9_lead 4 = .ok (.ifCond .ne 5, 3) := by decide +kernel
theorem dX9_lead_7 : decode cX9_lead 7 = .ok (.iconst (-1), 1) := by decide +kernel
theorem dX9_lead_8 : decode cX9_lead 8 = .ok (.ireturn, 1) := by decide +kernel
theorem dX9_lead_9 : decode cX9_lead 9 = .ok (.aload_n 0, 1) := by decide +kernel
theorem dX9_lead_10 : decode cX9_lead 10 = .ok (.invokevirtual 150, 3) := by decide +kernel
theorem dX9_lead_13 : decode cX9_lead 13 = .ok (.iconst 0, 1) := by decide +kernel
theorem dX9_lead_14 : decode cX9_lead 14 = .ok (.istore_n 2, 1) := by decide +kernel
theorem dX9_lead_15 : decode cX9_lead 15 = .ok (.iload_n 2, 1) := by decide +kernel
theorem dX9_lead_16 : decode cX9_lead 16 = .ok (.aload_n 0, 1) := by decide +kernel
theorem dX9_lead_17 : decode cX9_lead 17 = .ok (.getfield 18, 3) := by decide +kernel
theorem dX9_lead_20 : decode cX9_lead 20 = .ok (.if_icmp .ge 35, 3) := by decide +kernel
theorem dX9_lead_23 : decode cX9_lead 23 = .ok (.aload_n 0, 1) := by decide +kernel
theorem dX9_lead_24 : decode cX9_lead 24 = .ok (.getfield 21, 3) := by decide +kernel
theorem dX9_lead_27 : decode cX9_lead 27 = .ok (.bipush 16, 2) := by decide +kernel
theorem dX9_lead_29 : decode cX9_lead 29 = .ok (.iload_n 1, 1) := by decide +kernel
theorem dX9_lead_30 : decode cX9_lead 30 = .ok (.imul, 1) := by decide +kernel
theorem dX9_lead_31 : decode cX9_lead 31 = .ok (.aload_n 0, 1) := by decide +kernel
theorem dX9_lead_32 : decode cX9_lead 32 = .ok (.getfield 69, 3) := by decide +kernel
theorem dX9_lead_35 : decode cX9_lead 35 = .ok (.iload_n 2, 1) := by decide +kernel
theorem dX9_lead_36 : decode cX9_lead 36 = .ok (.iaload, 1) := by decide +kernel
theorem dX9_lead_37 : decode cX9_lead 37 = .ok (.iadd, 1) := by decide +kernel
theorem dX9_lead_38 : decode cX9_lead 38 = .ok (.iaload, 1) := by decide +kernel
theorem dX9_lead_39 : decode cX9_lead 39 = .ok (.ifCond .eq 10, 3) := by decide +kernel
theorem dX9_lead_42 : decode cX9_lead 42 = .ok (.aload_n 0, 1) := by decide +kernel
theorem dX9_lead_43 : decode cX9_lead 43 = .ok (.getfield 69, 3) := by decide +kernel
theorem dX9_lead_46 : decode cX9_lead 46 = .ok (.iload_n 2, 1) := by decide +kernel
theorem dX9_lead_47 : decode cX9_lead 47 = .ok (.iaload, 1) := by decide +kernel
theorem dX9_lead_48 : decode cX9_lead 48 = .ok (.ireturn, 1) := by decide +kernel
theorem dX9_lead_49 : decode cX9_lead 49 = .ok (.iinc 2 1, 3) := by decide +kernel
theorem dX9_lead_52 : decode cX9_lead 52 = .ok (.goto (-37), 3) := by decide +kernel
theorem dX9_lead_55 : decode cX9_lead 55 = .ok (.bipush (-5), 2) := by decide +kernel
theorem dX9_lead_57 : decode cX9_lead 57 = .ok (.ireturn, 1) := by decide +kernel
theorem dX9_rank_0 : decode cX9_rank 0 = .ok (.iload_n 1, 1) := by decide +kernel
theorem dX9_rank_1 : decode cX9_rank 1 = .ok (.invokestatic 246, 3) := by decide +kernel
theorem dX9_rank_4 : decode cX9_rank 4 = .ok (.ifCond .ne 5, 3) := by decide +kernel
theorem dX9_rank_7 : decode cX9_rank 7 = .ok (.iconst (-1), 1) := by decide +kernel
theorem dX9_rank_8 : decode cX9_rank 8 = .ok (.ireturn, 1) := by decide +kernel
theorem dX9_rank_9 : decode cX9_rank 9 = .ok (.aload_n 0, 1) := by decide +kernel
theorem dX9_rank_10 : decode cX9_rank 10 = .ok (.iload_n 1, 1) := by decide +kernel
theorem dX9_rank_11 : decode cX9_rank 11 = .ok (.invokevirtual 185, 3) := by decide +kernel
theorem dX9_rank_14 : decode cX9_rank 14 = .ok (.aload_n 0, 1) := by decide +kernel
theorem dX9_rank_15 : decode cX9_rank 15 = .ok (.getfield 124, 3) := by decide +kernel
theorem dX9_rank_18 : decode cX9_rank 18 = .ok (.ireturn, 1) := by decide +kernel
theorem dX9_basis_0 : decode cX9_basis 0 = .ok (.iload_n 1, 1) := by decide +kernel
theorem dX9_basis_1 : decode cX9_basis 1 = .ok (.invokestatic 246, 3) := by decide +kernel
theorem dX9_basis_4 : decode cX9_basis 4 = .ok (.ifCond .eq 16, 3) := by decide +kernel
theorem dX9_basis_7 : decode cX9_basis 7 = .ok (.iload_n 3, 1) := by decide +kernel
theorem dX9_basis_8 : decode cX9_basis 8 = .ok (.iconst (-1), 1) := by decide +kernel
theorem dX9_basis_9 : decode cX9_basis 9 = .ok (.if_icmp .eq 13, 3) := by decide +kernel
theorem dX9_basis_12 : decode cX9_basis 12 = .ok (.aload_n 0, 1) := by decide +kernel
theorem dX9_basis_13 : decode cX9_basis 13 = .ok (.iload_n 3, 1) := by decide +kernel
theorem dX9_basis_14 : decode cX9_basis 14 = .ok (.invokevirtual 179, 3) := by decide +kernel
theorem dX9_basis_17 : decode cX9_basis 17 = .ok (.ifCond .ne 5, 3) := by decide +kernel
theorem dX9_basis_20 : decode cX9_basis 20 = .ok (.iconst (-1), 1) := by decide +kernel
theorem dX9_basis_21 : decode cX9_basis 21 = .ok (.ireturn, 1) := by decide +kernel
theorem dX9_basis_22 : decode cX9_basis 22 = .ok (.aload_n 0, 1) := by decide +kernel
theorem dX9_basis_23 : decode cX9_basis 23 = .ok (.iload_n 1, 1) := by decide +kernel
theorem dX9_basis_24 : decode cX9_basis 24 = .ok (.invokevirtual 185, 3) := by decide +kernel
theorem dX9_basis_27 : decode cX9_basis 27 = .ok (.iload_n 2, 1) := by decide +kernel
theorem dX9_basis_28 : decode cX9_basis 28 = .ok (.i2l, 1) := by decide +kernel
theorem dX9_basis_29 : decode cX9_basis 29 = .ok (.lconst 0, 1) := by decide +kernel
theorem dX9_basis_30 : decode cX9_basis 30 = .ok (.aload_n 0, 1) := by decide +kernel
theorem dX9_basis_31 : decode cX9_basis 31 = .ok (.getfield 124, 3) := by decide +kernel
theorem dX9_basis_34 : decode cX9_basis 34 = .ok (.iconst 1, 1) := by decide +kernel
theorem dX9_basis_35 : decode cX9_basis 35 = .ok (.isub, 1) := by decide +kernel
theorem dX9_basis_36 : decode cX9_basis 36 = .ok (.i2l, 1) := by decide +kernel
theorem dX9_basis_37 : decode cX9_basis 37 = .ok (.invokestatic 108, 3) := by decide +kernel
theorem dX9_basis_40 : decode cX9_basis 40 = .ok (.ifCond .ne 5, 3) := by decide +kernel
theorem dX9_basis_43 : decode cX9_basis 43 = .ok (.iconst (-1), 1) := by decide +kernel
theorem dX9_basis_44 : decode cX9_basis 44 = .ok (.ireturn, 1) := by decide +kernel
theorem dX9_basis_45 : decode cX9_basis 45 = .ok (.aload_n 0, 1) := by decide +kernel
theorem dX9_basis_46 : decode cX9_basis 46 = .ok (.iload_n 2, 1) := by decide +kernel
theorem dX9_basis_47 : decode cX9_basis 47 = .ok (.invokevirtual 167, 3) := by decide +kernel
theorem dX9_basis_50 : decode cX9_basis 50 = .ok (.istore 4, 2) := by decide +kernel
theorem dX9_basis_52 : decode cX9_basis 52 = .ok (.iload_n 3, 1) := by decide +kernel
theorem dX9_basis_53 : decode cX9_basis 53 = .ok (.iconst (-1), 1) := by decide +kernel
theorem dX9_basis_54 : decode cX9_basis 54 = .ok (.if_icmp .ne 13, 3) := by decide +kernel
theorem dX9_basis_57 : decode cX9_basis 57 = .ok (.aload_n 0, 1) := by decide +kernel
theorem dX9_basis_58 : decode cX9_basis 58 = .ok (.getfield 63, 3) := by decide +kernel
theorem dX9_basis_61 : decode cX9_basis 61 = .ok (.iload 4, 2) := by decide +kernel
theorem dX9_basis_63 : decode cX9_basis 63 = .ok (.iaload, 1) := by decide +kernel
theorem dX9_basis_64 : decode cX9_basis 64 = .ok (.goto 16, 3) := by decide +kernel
theorem dX9_basis_67 : decode cX9_basis 67 = .ok (.aload_n 0, 1) := by decide +kernel
theorem dX9_basis_68 : decode cX9_basis 68 = .ok (.getfield 60, 3) := by decide +kernel
theorem dX9_basis_71 : decode cX9_basis 71 = .ok (.sipush 256, 3) := by decide +kernel
theorem dX9_basis_74 : decode cX9_basis 74 = .ok (.iload 4, 2) := by decide +kernel
theorem dX9_basis_76 : decode cX9_basis 76 = .ok (.imul, 1) := by decide +kernel
theorem dX9_basis_77 : decode cX9_basis 77 = .ok (.iload_n 3, 1) := by decide +kernel
theorem dX9_basis_78 : decode cX9_basis 78 = .ok (.iadd, 1) := by decide +kernel
theorem dX9_basis_79 : decode cX9_basis 79 = .ok (.iaload, 1) := by decide +kernel
theorem dX9_basis_80 : decode cX9_basis 80 = .ok (.ireturn, 1) := by decide +kernel
theorem dX9_liesWithin_0 : decode cX9_liesWithin 0 = .ok (.aload_n 0, 1) := by decide +kernel
theorem dX9_liesWithin_1 : decode cX9_liesWithin 1 = .ok (.iload_n 1, 1) := by decide +kernel
theorem dX9_liesWithin_2 : decode cX9_liesWithin 2 = .ok (.invokevirtual 188, 3) := by decide +kernel
theorem dX9_liesWithin_5 : decode cX9_liesWithin 5 = .ok (.iconst 0, 1) := by decide +kernel
theorem dX9_liesWithin_6 : decode cX9_liesWithin 6 = .ok (.istore_n 2, 1) := by decide +kernel
theorem dX9_liesWithin_7 : decode cX9_liesWithin 7 = .ok (.iload_n 2, 1) := by decide +kernel
theorem dX9_liesWithin_8 : decode cX9_liesWithin 8 = .ok (.aload_n 0, 1) := by decide +kernel
theorem dX9_liesWithin_9 : decode cX9_liesWithin 9 = .ok (.getfield 18, 3) := by decide +kernel
theorem dX9_liesWithin_12 : decode cX9_liesWithin 12 = .ok (.if_icmp .ge 20, 3) := by decide +kernel
theorem dX9_liesWithin_15 : decode cX9_liesWithin 15 = .ok (.aload_n 0, 1) := by decide +kernel
theorem dX9_liesWithin_16 : decode cX9_liesWithin 16 = .ok (.getfield 81, 3) := by decide +kernel
theorem dX9_liesWithin_19 : decode cX9_liesWithin 19 = .ok (.iload_n 2, 1) := by decide +kernel
theorem dX9_liesWithin_20 : decode cX9_liesWithin 20 = .ok (.iaload, 1) := by decide +kernel
theorem dX9_liesWithin_21 : decode cX9_liesWithin 21 = .ok (.ifCond .eq 5, 3) := by decide +kernel
theorem dX9_liesWithin_24 : decode cX9_liesWithin 24 = .ok (.iconst 0, 1) := by decide +kernel
theorem dX9_liesWithin_25 : decode cX9_liesWithin 25 = .ok (.ireturn, 1) := by decide +kernel
theorem dX9_liesWithin_26 : decode cX9_liesWithin 26 = .ok (.iinc 2 1, 3) := by decide +kernel
theorem dX9_liesWithin_29 : decode cX9_liesWithin 29 = .ok (.goto (-22), 3) := by decide +kernel
theorem dX9_liesWithin_32 : decode cX9_liesWithin 32 = .ok (.iconst 1, 1) := by decide +kernel
theorem dX9_liesWithin_33 : decode cX9_liesWithin 33 = .ok (.ireturn, 1) := by decide +kernel
theorem dX9_within_0 : decode cX9_within 0 = .ok (.iload_n 1, 1) := by decide +kernel
theorem dX9_within_1 : decode cX9_within 1 = .ok (.invokestatic 246, 3) := by decide +kernel
theorem dX9_within_4 : decode cX9_within 4 = .ok (.ifCond .eq 10, 3) := by decide +kernel
theorem dX9_within_7 : decode cX9_within 7 = .ok (.iload_n 2, 1) := by decide +kernel
theorem dX9_within_8 : decode cX9_within 8 = .ok (.invokestatic 175, 3) := by decide +kernel
theorem dX9_within_11 : decode cX9_within 11 = .ok (.ifCond .ne 5, 3) := by decide +kernel
theorem dX9_within_14 : decode cX9_within 14 = .ok (.iconst (-1), 1) := by decide +kernel
theorem dX9_within_15 : decode cX9_within 15 = .ok (.ireturn, 1) := by decide +kernel
theorem dX9_within_16 : decode cX9_within 16 = .ok (.aload_n 0, 1) := by decide +kernel
theorem dX9_within_17 : decode cX9_within 17 = .ok (.iload_n 1, 1) := by decide +kernel
theorem dX9_within_18 : decode cX9_within 18 = .ok (.invokevirtual 185, 3) := by decide +kernel
theorem dX9_within_21 : decode cX9_within 21 = .ok (.aload_n 0, 1) := by decide +kernel
theorem dX9_within_22 : decode cX9_within 22 = .ok (.iload_n 2, 1) := by decide +kernel
theorem dX9_within_23 : decode cX9_within 23 = .ok (.invokevirtual 249, 3) := by decide +kernel
theorem dX9_within_26 : decode cX9_within 26 = .ok (.ifCond .eq 7, 3) := by decide +kernel
theorem dX9_within_29 : decode cX9_within 29 = .ok (.iconst 1, 1) := by decide +kernel
theorem dX9_within_30 : decode cX9_within 30 = .ok (.goto 4, 3) := by decide +kernel
theorem dX9_within_33 : decode cX9_within 33 = .ok (.iconst 0, 1) := by decide +kernel
theorem dX9_within_34 : decode cX9_within 34 = .ok (.ireturn, 1) := by decide +kernel
theorem dX9_rest_0 : decode cX9_rest 0 = .ok (.iload_n 1, 1) := by decide +kernel
theorem dX9_rest_1 : decode cX9_rest 1 = .ok (.invokestatic 246, 3) := by decide +kernel
theorem dX9_rest_4 : decode cX9_rest 4 = .ok (.ifCond .eq 18, 3) := by decide +kernel
theorem dX9_rest_7 : decode cX9_rest 7 = .ok (.iload_n 2, 1) := by decide +kernel
theorem dX9_rest_8 : decode cX9_rest 8 = .ok (.invokestatic 175, 3) := by decide +kernel
theorem dX9_rest_11 : decode cX9_rest 11 = .ok (.ifCond .eq 11, 3) := by decide +kernel
theorem dX9_rest_14 : decode cX9_rest 14 = .ok (.aload_n 0, 1) := by decide +kernel
theorem dX9_rest_15 : decode cX9_rest 15 = .ok (.iload_n 3, 1) := by decide +kernel
theorem dX9_rest_16 : decode cX9_rest 16 = .ok (.invokevirtual 179, 3) := by decide +kernel
theorem dX9_rest_19 : decode cX9_rest 19 = .ok (.ifCond .ne 5, 3) := by decide +kernel
theorem dX9_rest_22 : decode cX9_rest 22 = .ok (.iconst (-1), 1) := by decide +kernel
theorem dX9_rest_23 : decode cX9_rest 23 = .ok (.ireturn, 1) := by decide +kernel
theorem dX9_rest_24 : decode cX9_rest 24 = .ok (.aload_n 0, 1) := by decide +kernel
theorem dX9_rest_25 : decode cX9_rest 25 = .ok (.iload_n 1, 1) := by decide +kernel
theorem dX9_rest_26 : decode cX9_rest 26 = .ok (.invokevirtual 185, 3) := by decide +kernel
theorem dX9_rest_29 : decode cX9_rest 29 = .ok (.aload_n 0, 1) := by decide +kernel
theorem dX9_rest_30 : decode cX9_rest 30 = .ok (.iload_n 2, 1) := by decide +kernel
theorem dX9_rest_31 : decode cX9_rest 31 = .ok (.invokevirtual 188, 3) := by decide +kernel
theorem dX9_rest_34 : decode cX9_rest 34 = .ok (.aload_n 0, 1) := by decide +kernel
theorem dX9_rest_35 : decode cX9_rest 35 = .ok (.getfield 81, 3) := by decide +kernel
theorem dX9_rest_38 : decode cX9_rest 38 = .ok (.iload_n 3, 1) := by decide +kernel
theorem dX9_rest_39 : decode cX9_rest 39 = .ok (.iaload, 1) := by decide +kernel
theorem dX9_rest_40 : decode cX9_rest 40 = .ok (.ireturn, 1) := by decide +kernel
theorem dX9_countOf_0 : decode cX9_countOf 0 = .ok (.iconst 0, 1) := by decide +kernel
theorem dX9_countOf_1 : decode cX9_countOf 1 = .ok (.istore_n 2, 1) := by decide +kernel
theorem dX9_countOf_2 : decode cX9_countOf 2 = .ok (.iconst 0, 1) := by decide +kernel
theorem dX9_countOf_3 : decode cX9_countOf 3 = .ok (.istore_n 3, 1) := by decide +kernel
theorem dX9_countOf_4 : decode cX9_countOf 4 = .ok (.iload_n 3, 1) := by decide +kernel
theorem dX9_countOf_5 : decode cX9_countOf 5 = .ok (.aload_n 0, 1) := by decide +kernel
theorem dX9_countOf_6 : decode cX9_countOf 6 = .ok (.getfield 124, 3) := by decide +kernel
theorem dX9_countOf_9 : decode cX9_countOf 9 = .ok (.if_icmp .ge 25, 3) := by decide +kernel
theorem dX9_countOf_12 : decode cX9_countOf 12 = .ok (.aload_n 0, 1) := by decide +kernel
theorem dX9_countOf_13 : decode cX9_countOf 13 = .ok (.getfield 63, 3) := by decide +kernel
theorem dX9_countOf_16 : decode cX9_countOf 16 = .ok (.iload_n 3, 1) := by decide +kernel
theorem dX9_countOf_17 : decode cX9_countOf 17 = .ok (.iaload, 1) := by decide +kernel
theorem dX9_countOf_18 : decode cX9_countOf 18 = .ok (.invokestatic 137, 3) := by decide +kernel
theorem dX9_countOf_21 : decode cX9_countOf 21 = .ok (.iload_n 1, 1) := by decide +kernel
theorem dX9_countOf_22 : decode cX9_countOf 22 = .ok (.if_icmp .ne 6, 3) := by decide +kernel
theorem dX9_countOf_25 : decode cX9_countOf 25 = .ok (.iinc 2 1, 3) := by decide +kernel
theorem dX9_countOf_28 : decode cX9_countOf 28 = .ok (.iinc 3 1, 3) := by decide +kernel
theorem dX9_countOf_31 : decode cX9_countOf 31 = .ok (.goto (-27), 3) := by decide +kernel
theorem dX9_countOf_34 : decode cX9_countOf 34 = .ok (.iload_n 2, 1) := by decide +kernel
theorem dX9_countOf_35 : decode cX9_countOf 35 = .ok (.ireturn, 1) := by decide +kernel
theorem dX9_count_0 : decode cX9_count 0 = .ok (.iload_n 1, 1) := by decide +kernel
theorem dX9_count_1 : decode cX9_count 1 = .ok (.invokestatic 246, 3) := by decide +kernel
theorem dX9_count_4 : decode cX9_count 4 = .ok (.ifCond .eq 17, 3) := by decide +kernel
theorem dX9_count_7 : decode cX9_count 7 = .ok (.iload_n 2, 1) := by decide +kernel
theorem dX9_count_8 : decode cX9_count 8 = .ok (.i2l, 1) := by decide +kernel
theorem dX9_count_9 : decode cX9_count 9 = .ok (.lconst 0, 1) := by decide +kernel
theorem dX9_count_10 : decode cX9_count 10 = .ok (.aload_n 0, 1) := by decide +kernel
theorem dX9_count_11 : decode cX9_count 11 = .ok (.getfield 9, 3) := by decide +kernel
theorem dX9_count_14 : decode cX9_count 14 = .ok (.i2l, 1) := by decide +kernel
theorem dX9_count_15 : decode cX9_count 15 = .ok (.invokestatic 108, 3) := by decide +kernel
theorem dX9_count_18 : decode cX9_count 18 = .ok (.ifCond .ne 5, 3) := by decide +kernel
theorem dX9_count_21 : decode cX9_count 21 = .ok (.iconst (-1), 1) := by decide +kernel
theorem dX9_count_22 : decode cX9_count 22 = .ok (.ireturn, 1) := by decide +kernel
theorem dX9_count_23 : decode cX9_count 23 = .ok (.aload_n 0, 1) := by decide +kernel
theorem dX9_count_24 : decode cX9_count 24 = .ok (.iload_n 1, 1) := by decide +kernel
theorem dX9_count_25 : decode cX9_count 25 = .ok (.invokevirtual 185, 3) := by decide +kernel
theorem dX9_count_28 : decode cX9_count 28 = .ok (.aload_n 0, 1) := by decide +kernel
theorem dX9_count_29 : decode cX9_count 29 = .ok (.iload_n 2, 1) := by decide +kernel
theorem dX9_count_30 : decode cX9_count 30 = .ok (.invokevirtual 252, 3) := by decide +kernel
theorem dX9_count_33 : decode cX9_count 33 = .ok (.ireturn, 1) := by decide +kernel
theorem dX9_series_0 : decode cX9_series 0 = .ok (.iload_n 1, 1) := by decide +kernel
theorem dX9_series_1 : decode cX9_series 1 = .ok (.invokestatic 246, 3) := by decide +kernel
theorem dX9_series_4 : decode cX9_series 4 = .ok (.ifCond .ne 5, 3) := by decide +kernel
theorem dX9_series_7 : decode cX9_series 7 = .ok (.iconst (-1), 1) := by decide +kernel
theorem dX9_series_8 : decode cX9_series 8 = .ok (.ireturn, 1) := by decide +kernel
theorem dX9_series_9 : decode cX9_series 9 = .ok (.iload_n 2, 1) := by decide +kernel
theorem dX9_series_10 : decode cX9_series 10 = .ok (.i2l, 1) := by decide +kernel
theorem dX9_series_11 : decode cX9_series 11 = .ok (.lconst 1, 1) := by decide +kernel
theorem dX9_series_12 : decode cX9_series 12 = .ok (.ldc2_w 255, 3) := by decide +kernel
theorem dX9_series_15 : decode cX9_series 15 = .ok (.invokestatic 108, 3) := by decide +kernel
theorem dX9_series_18 : decode cX9_series 18 = .ok (.ifCond .eq 15, 3) := by decide +kernel
theorem dX9_series_21 : decode cX9_series 21 = .ok (.iload_n 3, 1) := by decide +kernel
theorem dX9_series_22 : decode cX9_series 22 = .ok (.i2l, 1) := by decide +kernel
theorem dX9_series_23 : decode cX9_series 23 = .ok (.lconst 1, 1) := by decide +kernel
theorem dX9_series_24 : decode cX9_series 24 = .ok (.ldc2_w 255, 3) := by decide +kernel
theorem dX9_series_27 : decode cX9_series 27 = .ok (.invokestatic 108, 3) := by decide +kernel
theorem dX9_series_30 : decode cX9_series 30 = .ok (.ifCond .ne 6, 3) := by decide +kernel
theorem dX9_series_33 : decode cX9_series 33 = .ok (.bipush (-2), 2) := by decide +kernel
theorem dX9_series_35 : decode cX9_series 35 = .ok (.ireturn, 1) := by decide +kernel
theorem dX9_series_36 : decode cX9_series 36 = .ok (.aload_n 0, 1) := by decide +kernel
theorem dX9_series_37 : decode cX9_series 37 = .ok (.iload_n 1, 1) := by decide +kernel
theorem dX9_series_38 : decode cX9_series 38 = .ok (.invokevirtual 185, 3) := by decide +kernel
theorem dX9_series_41 : decode cX9_series 41 = .ok (.iload_n 2, 1) := by decide +kernel
theorem dX9_series_42 : decode cX9_series 42 = .ok (.i2f, 1) := by decide +kernel
theorem dX9_series_43 : decode cX9_series 43 = .ok (.iload_n 3, 1) := by decide +kernel
theorem dX9_series_44 : decode cX9_series 44 = .ok (.i2f, 1) := by decide +kernel
theorem dX9_series_45 : decode cX9_series 45 = .ok (.fdiv, 1) := by decide +kernel
theorem dX9_series_46 : decode cX9_series 46 = .ok (.fstore 4, 2) := by decide +kernel
theorem dX9_series_48 : decode cX9_series 48 = .ok (.fconst 0, 1) := by decide +kernel
theorem dX9_series_49 : decode cX9_series 49 = .ok (.fstore 5, 2) := by decide +kernel
theorem dX9_series_51 : decode cX9_series 51 = .ok (.aload_n 0, 1) := by decide +kernel
theorem dX9_series_52 : decode cX9_series 52 = .ok (.getfield 9, 3) := by decide +kernel
theorem dX9_series_55 : decode cX9_series 55 = .ok (.istore 6, 2) := by decide +kernel
theorem dX9_series_57 : decode cX9_series 57 = .ok (.iload 6, 2) := by decide +kernel
theorem dX9_series_59 : decode cX9_series 59 = .ok (.ifCond .lt 61, 3) := by decide +kernel
theorem dX9_series_62 : decode cX9_series 62 = .ok (.iconst 0, 1) := by decide +kernel
theorem dX9_series_63 : decode cX9_series 63 = .ok (.istore 7, 2) := by decide +kernel
theorem dX9_series_65 : decode cX9_series 65 = .ok (.iconst 0, 1) := by decide +kernel
theorem dX9_series_66 : decode cX9_series 66 = .ok (.istore 8, 2) := by decide +kernel
theorem dX9_series_68 : decode cX9_series 68 = .ok (.iload 8, 2) := by decide +kernel
theorem dX9_series_70 : decode cX9_series 70 = .ok (.aload_n 0, 1) := by decide +kernel
theorem dX9_series_71 : decode cX9_series 71 = .ok (.getfield 18, 3) := by decide +kernel
theorem dX9_series_74 : decode cX9_series 74 = .ok (.if_icmp .ge 22, 3) := by decide +kernel
theorem dX9_series_77 : decode cX9_series 77 = .ok (.iload 8, 2) := by decide +kernel
theorem dX9_series_79 : decode cX9_series 79 = .ok (.invokestatic 137, 3) := by decide +kernel
theorem dX9_series_82 : decode cX9_series 82 = .ok (.iload 6, 2) := by decide +kernel
theorem dX9_series_84 : decode cX9_series 84 = .ok (.if_icmp .ne 6, 3) := by decide +kernel
theorem dX9_series_87 : decode cX9_series 87 = .ok (.iinc 7 1, 3) := by decide +kernel
theorem dX9_series_90 : decode cX9_series 90 = .ok (.iinc 8 1, 3) := by decide +kernel
theorem dX9_series_93 : decode cX9_series 93 = .ok (.goto (-25), 3) := by decide +kernel
theorem dX9_series_96 : decode cX9_series 96 = .ok (.fload 5, 2) := by decide +kernel
theorem dX9_series_98 : decode cX9_series 98 = .ok (.fload 4, 2) := by decide +kernel
theorem dX9_series_100 : decode cX9_series 100 = .ok (.fmul, 1) := by decide +kernel
theorem dX9_series_101 : decode cX9_series 101 = .ok (.iload 7, 2) := by decide +kernel
theorem dX9_series_103 : decode cX9_series 103 = .ok (.aload_n 0, 1) := by decide +kernel
theorem dX9_series_104 : decode cX9_series 104 = .ok (.iload 6, 2) := by decide +kernel
theorem dX9_series_106 : decode cX9_series 106 = .ok (.invokevirtual 252, 3) := by decide +kernel
theorem dX9_series_109 : decode cX9_series 109 = .ok (.isub, 1) := by decide +kernel
theorem dX9_series_110 : decode cX9_series 110 = .ok (.i2f, 1) := by decide +kernel
theorem dX9_series_111 : decode cX9_series 111 = .ok (.fadd, 1) := by decide +kernel
theorem dX9_series_112 : decode cX9_series 112 = .ok (.fstore 5, 2) := by decide +kernel
theorem dX9_series_114 : decode cX9_series 114 = .ok (.iinc 6 (-1), 3) := by decide +kernel
theorem dX9_series_117 : decode cX9_series 117 = .ok (.goto (-60), 3) := by decide +kernel
theorem dX9_series_120 : decode cX9_series 120 = .ok (.fload 5, 2) := by decide +kernel
theorem dX9_series_122 : decode cX9_series 122 = .ok (.invokestatic 257, 3) := by decide +kernel
theorem dX9_series_125 : decode cX9_series 125 = .ok (.ireturn, 1) := by decide +kernel
theorem dX9_mean_0 : decode cX9_mean 0 = .ok (.iload_n 1, 1) := by decide +kernel
theorem dX9_mean_1 : decode cX9_mean 1 = .ok (.invokestatic 246, 3) := by decide +kernel
theorem dX9_mean_4 : decode cX9_mean 4 = .ok (.ifCond .ne 7, 3) := by decide +kernel
theorem dX9_mean_7 : decode cX9_mean 7 = .ok (.ldc2_w 263, 3) := by decide +kernel
theorem dX9_mean_10 : decode cX9_mean 10 = .ok (.lreturn, 1) := by decide +kernel
theorem dX9_mean_11 : decode cX9_mean 11 = .ok (.aload_n 0, 1) := by decide +kernel
theorem dX9_mean_12 : decode cX9_mean 12 = .ok (.iload_n 1, 1) := by decide +kernel
theorem dX9_mean_13 : decode cX9_mean 13 = .ok (.invokevirtual 185, 3) := by decide +kernel
theorem dX9_mean_16 : decode cX9_mean 16 = .ok (.iconst 0, 1) := by decide +kernel
theorem dX9_mean_17 : decode cX9_mean 17 = .ok (.istore_n 2, 1) := by decide +kernel
theorem dX9_mean_18 : decode cX9_mean 18 = .ok (.iconst 0, 1) := by decide +kernel
theorem dX9_mean_19 : decode cX9_mean 19 = .ok (.istore_n 3, 1) := by decide +kernel
theorem dX9_mean_20 : decode cX9_mean 20 = .ok (.iload_n 3, 1) := by decide +kernel
theorem dX9_mean_21 : decode cX9_mean 21 = .ok (.aload_n 0, 1) := by decide +kernel
theorem dX9_mean_22 : decode cX9_mean 22 = .ok (.getfield 124, 3) := by decide +kernel
theorem dX9_mean_25 : decode cX9_mean 25 = .ok (.if_icmp .ge 21, 3) := by decide +kernel
theorem dX9_mean_28 : decode cX9_mean 28 = .ok (.iload_n 2, 1) := by decide +kernel
theorem dX9_mean_29 : decode cX9_mean 29 = .ok (.aload_n 0, 1) := by decide +kernel
theorem dX9_mean_30 : decode cX9_mean 30 = .ok (.getfield 63, 3) := by decide +kernel
theorem dX9_mean_33 : decode cX9_mean 33 = .ok (.iload_n 3, 1) := by decide +kernel
theorem dX9_mean_34 : decode cX9_mean 34 = .ok (.iaload, 1) := by decide +kernel
theorem dX9_mean_35 : decode cX9_mean 35 = .ok (.invokestatic 137, 3) := by decide +kernel
theorem dX9_mean_38 : decode cX9_mean 38 = .ok (.iadd, 1) := by decide +kernel
theorem dX9_mean_39 : decode cX9_mean 39 = .ok (.istore_n 2, 1) := by decide +kernel
theorem dX9_mean_40 : decode cX9_mean 40 = .ok (.iinc 3 1, 3) := by decide +kernel
theorem dX9_mean_43 : decode cX9_mean 43 = .ok (.goto (-23), 3) := by decide +kernel
theorem dX9_mean_46 : decode cX9_mean 46 = .ok (.aload_n 0, 1) := by decide +kernel
theorem dX9_mean_47 : decode cX9_mean 47 = .ok (.getfield 124, 3) := by decide +kernel
theorem dX9_mean_50 : decode cX9_mean 50 = .ok (.ifCond .ne 7, 3) := by decide +kernel
