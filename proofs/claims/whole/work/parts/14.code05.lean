theorem dX0_stepsToQuiet_0 : decode cX0_stepsToQuiet 0 = .ok (.iconst (-1), 1) := by decide +kernel
theorem dX0_stepsToQuiet_1 : decode cX0_stepsToQuiet 1 = .ok (.istore_n 1, 1) := by decide +kernel
theorem dX0_stepsToQuiet_2 : decode cX0_stepsToQuiet 2 = .ok (.aload_n 0, 1) := by decide +kernel
theorem dX0_stepsToQuiet_3 : decode cX0_stepsToQuiet 3 = .ok (.getfield 70, 3) := by decide +kernel
theorem dX0_stepsToQuiet_6 : decode cX0_stepsToQuiet 6 = .ok (.istore_n 2, 1) := by decide +kernel
theorem dX0_stepsToQuiet_7 : decode cX0_stepsToQuiet 7 = .ok (.iconst 0, 1) := by decide +kernel
theorem dX0_stepsToQuiet_8 : decode cX0_stepsToQuiet 8 = .ok (.istore_n 3, 1) := by decide +kernel
theorem dX0_stepsToQuiet_9 : decode cX0_stepsToQuiet 9 = .ok (.iload_n 3, 1) := by decide +kernel
theorem dX0_stepsToQuiet_10 : decode cX0_stepsToQuiet 10 = .ok (.sipush 21392, 3) := by decide +kernel
theorem dX0_stepsToQuiet_13 : decode cX0_stepsToQuiet 13 = .ok (.if_icmp .ge 30, 3) := by decide +kernel
theorem dX0_stepsToQuiet_16 : decode cX0_stepsToQuiet 16 = .ok (.iload_n 2, 1) := by decide +kernel
theorem dX0_stepsToQuiet_17 : decode cX0_stepsToQuiet 17 = .ok (.ifCond .lt 26, 3) := by decide +kernel
theorem dX0_stepsToQuiet_20 : decode cX0_stepsToQuiet 20 = .ok (.iload_n 2, 1) := by decide +kernel
theorem dX0_stepsToQuiet_21 : decode cX0_stepsToQuiet 21 = .ok (.sipush 21392, 3) := by decide +kernel
theorem dX0_stepsToQuiet_24 : decode cX0_stepsToQuiet 24 = .ok (.if_icmp .ge 19, 3) := by decide +kernel
theorem dX0_stepsToQuiet_27 : decode cX0_stepsToQuiet 27 = .ok (.aload_n 0, 1) := by decide +kernel
theorem dX0_stepsToQuiet_28 : decode cX0_stepsToQuiet 28 = .ok (.getfield 17, 3) := by decide +kernel
theorem dX0_stepsToQuiet_31 : decode cX0_stepsToQuiet 31 = .ok (.iload_n 2, 1) := by decide +kernel
theorem dX0_stepsToQuiet_32 : decode cX0_stepsToQuiet 32 = .ok (.iaload, 1) := by decide +kernel
theorem dX0_stepsToQuiet_33 : decode cX0_stepsToQuiet 33 = .ok (.istore_n 2, 1) := by decide +kernel
theorem dX0_stepsToQuiet_34 : decode cX0_stepsToQuiet 34 = .ok (.iinc 1 1, 3) := by decide +kernel
theorem dX0_stepsToQuiet_37 : decode cX0_stepsToQuiet 37 = .ok (.iinc 3 1, 3) := by decide +kernel
theorem dX0_stepsToQuiet_40 : decode cX0_stepsToQuiet 40 = .ok (.goto (-31), 3) := by decide +kernel
theorem dX0_stepsToQuiet_43 : decode cX0_stepsToQuiet 43 = .ok (.iload_n 1, 1) := by decide +kernel
theorem dX0_stepsToQuiet_44 : decode cX0_stepsToQuiet 44 = .ok (.ireturn, 1) := by decide +kernel
theorem dX0_solve_0 : decode cX0_solve 0 = .ok (.aload_n 0, 1) := by decide +kernel
theorem dX0_solve_1 : decode cX0_solve 1 = .ok (.getfield 23, 3) := by decide +kernel
theorem dX0_solve_4 : decode cX0_solve 4 = .ok (.iload_n 2, 1) := by decide +kernel
theorem dX0_solve_5 : decode cX0_solve 5 = .ok (.if_icmp .ne 26, 3) := by decide +kernel
theorem dX0_solve_8 : decode cX0_solve 8 = .ok (.aload_n 0, 1) := by decide +kernel
theorem dX0_solve_9 : decode cX0_solve 9 = .ok (.getfield 39, 3) := by decide +kernel
theorem dX0_solve_12 : decode cX0_solve 12 = .ok (.aload_n 1, 1) := by decide +kernel
theorem dX0_solve_13 : decode cX0_solve 13 = .ok (.getfield 42, 3) := by decide +kernel
theorem dX0_solve_16 : decode cX0_solve 16 = .ok (.if_icmp .ne 15, 3) := by decide +kernel
theorem dX0_solve_19 : decode cX0_solve 19 = .ok (.aload_n 0, 1) := by decide +kernel
theorem dX0_solve_20 : decode cX0_solve 20 = .ok (.getfield 47, 3) := by decide +kernel
theorem dX0_solve_23 : decode cX0_solve 23 = .ok (.aload_n 1, 1) := by decide +kernel
theorem dX0_solve_24 : decode cX0_solve 24 = .ok (.getfield 50, 3) := by decide +kernel
theorem dX0_solve_27 : decode cX0_solve 27 = .ok (.if_icmp .ne 4, 3) := by decide +kernel
theorem dX0_solve_30 : decode cX0_solve 30 = .ok (.return_, 1) := by decide +kernel
theorem dX0_solve_31 : decode cX0_solve 31 = .ok (.aload_n 0, 1) := by decide +kernel
theorem dX0_solve_32 : decode cX0_solve 32 = .ok (.iload_n 2, 1) := by decide +kernel
theorem dX0_solve_33 : decode cX0_solve 33 = .ok (.putfield 23, 3) := by decide +kernel
theorem dX0_solve_36 : decode cX0_solve 36 = .ok (.aload_n 0, 1) := by decide +kernel
theorem dX0_solve_37 : decode cX0_solve 37 = .ok (.aload_n 1, 1) := by decide +kernel
theorem dX0_solve_38 : decode cX0_solve 38 = .ok (.getfield 42, 3) := by decide +kernel
theorem dX0_solve_41 : decode cX0_solve 41 = .ok (.putfield 39, 3) := by decide +kernel
theorem dX0_solve_44 : decode cX0_solve 44 = .ok (.aload_n 0, 1) := by decide +kernel
theorem dX0_solve_45 : decode cX0_solve 45 = .ok (.aload_n 1, 1) := by decide +kernel
theorem dX0_solve_46 : decode cX0_solve 46 = .ok (.getfield 50, 3) := by decide +kernel
theorem dX0_solve_49 : decode cX0_solve 49 = .ok (.putfield 47, 3) := by decide +kernel
theorem dX0_solve_52 : decode cX0_solve 52 = .ok (.aload_n 0, 1) := by decide +kernel
theorem dX0_solve_53 : decode cX0_solve 53 = .ok (.getfield 27, 3) := by decide +kernel
theorem dX0_solve_56 : decode cX0_solve 56 = .ok (.aload_n 1, 1) := by decide +kernel
theorem dX0_solve_57 : decode cX0_solve 57 = .ok (.getfield 42, 3) := by decide +kernel
theorem dX0_solve_60 : decode cX0_solve 60 = .ok (.invokevirtual 53, 3) := by decide +kernel
theorem dX0_solve_63 : decode cX0_solve 63 = .ok (.istore_n 3, 1) := by decide +kernel
theorem dX0_solve_64 : decode cX0_solve 64 = .ok (.aload_n 0, 1) := by decide +kernel
theorem dX0_solve_65 : decode cX0_solve 65 = .ok (.getfield 17, 3) := by decide +kernel
theorem dX0_solve_68 : decode cX0_solve 68 = .ok (.iload_n 3, 1) := by decide +kernel
theorem dX0_solve_69 : decode cX0_solve 69 = .ok (.invokestatic 57, 3) := by decide +kernel
theorem dX0_solve_72 : decode cX0_solve 72 = .ok (.iconst 4, 1) := by decide +kernel
theorem dX0_solve_73 : decode cX0_solve 73 = .ok (.imul, 1) := by decide +kernel
theorem dX0_solve_74 : decode cX0_solve 74 = .ok (.iload_n 3, 1) := by decide +kernel
theorem dX0_solve_75 : decode cX0_solve 75 = .ok (.iconst 1, 1) := by decide +kernel
theorem dX0_solve_76 : decode cX0_solve 76 = .ok (.iadd, 1) := by decide +kernel
theorem dX0_solve_77 : decode cX0_solve 77 = .ok (.invokestatic 57, 3) := by decide +kernel
theorem dX0_solve_80 : decode cX0_solve 80 = .ok (.iconst 4, 1) := by decide +kernel
theorem dX0_solve_81 : decode cX0_solve 81 = .ok (.imul, 1) := by decide +kernel
theorem dX0_solve_82 : decode cX0_solve 82 = .ok (.ldc 60, 2) := by decide +kernel
theorem dX0_solve_84 : decode cX0_solve 84 = .ok (.invokestatic 61, 3) := by decide +kernel
theorem dX0_solve_87 : decode cX0_solve 87 = .ok (.aload_n 0, 1) := by decide +kernel
theorem dX0_solve_88 : decode cX0_solve 88 = .ok (.iconst 0, 1) := by decide +kernel
theorem dX0_solve_89 : decode cX0_solve 89 = .ok (.putfield 67, 3) := by decide +kernel
theorem dX0_solve_92 : decode cX0_solve 92 = .ok (.aload_n 0, 1) := by decide +kernel
theorem dX0_solve_93 : decode cX0_solve 93 = .ok (.iconst (-1), 1) := by decide +kernel
theorem dX0_solve_94 : decode cX0_solve 94 = .ok (.putfield 70, 3) := by decide +kernel
theorem dX0_solve_97 : decode cX0_solve 97 = .ok (.aload_n 0, 1) := by decide +kernel
theorem dX0_solve_98 : decode cX0_solve 98 = .ok (.aload_n 1, 1) := by decide +kernel
theorem dX0_solve_99 : decode cX0_solve 99 = .ok (.getfield 42, 3) := by decide +kernel
theorem dX0_solve_102 : decode cX0_solve 102 = .ok (.aload_n 1, 1) := by decide +kernel
theorem dX0_solve_103 : decode cX0_solve 103 = .ok (.getfield 50, 3) := by decide +kernel
theorem dX0_solve_106 : decode cX0_solve 106 = .ok (.iconst (-1), 1) := by decide +kernel
theorem dX0_solve_107 : decode cX0_solve 107 = .ok (.bipush 8, 2) := by decide +kernel
theorem dX0_solve_109 : decode cX0_solve 109 = .ok (.invokevirtual 73, 3) := by decide +kernel
theorem dX0_solve_112 : decode cX0_solve 112 = .ok (.iconst 0, 1) := by decide +kernel
theorem dX0_solve_113 : decode cX0_solve 113 = .ok (.istore 4, 2) := by decide +kernel
theorem dX0_solve_115 : decode cX0_solve 115 = .ok (.iload 4, 2) := by decide +kernel
theorem dX0_solve_117 : decode cX0_solve 117 = .ok (.aload_n 0, 1) := by decide +kernel
theorem dX0_solve_118 : decode cX0_solve 118 = .ok (.getfield 67, 3) := by decide +kernel
theorem dX0_solve_121 : decode cX0_solve 121 = .ok (.if_icmp .ge 147, 3) := by decide +kernel
theorem dX0_solve_124 : decode cX0_solve 124 = .ok (.iload 4, 2) := by decide +kernel
theorem dX0_solve_126 : decode cX0_solve 126 = .ok (.sipush 21392, 3) := by decide +kernel
theorem dX0_solve_129 : decode cX0_solve 129 = .ok (.if_icmp .ge 139, 3) := by decide +kernel
theorem dX0_solve_132 : decode cX0_solve 132 = .ok (.aload_n 0, 1) := by decide +kernel
theorem dX0_solve_133 : decode cX0_solve 133 = .ok (.getfield 70, 3) := by decide +kernel
theorem dX0_solve_136 : decode cX0_solve 136 = .ok (.ifCond .ge 132, 3) := by decide +kernel
theorem dX0_solve_139 : decode cX0_solve 139 = .ok (.aload_n 0, 1) := by decide +kernel
theorem dX0_solve_140 : decode cX0_solve 140 = .ok (.getfield 13, 3) := by decide +kernel
theorem dX0_solve_143 : decode cX0_solve 143 = .ok (.iload 4, 2) := by decide +kernel
theorem dX0_solve_145 : decode cX0_solve 145 = .ok (.iaload, 1) := by decide +kernel
theorem dX0_solve_146 : decode cX0_solve 146 = .ok (.iconst 4, 1) := by decide +kernel
theorem dX0_solve_147 : decode cX0_solve 147 = .ok (.idiv, 1) := by decide +kernel
theorem dX0_solve_148 : decode cX0_solve 148 = .ok (.istore 5, 2) := by decide +kernel
theorem dX0_solve_150 : decode cX0_solve 150 = .ok (.aload_n 0, 1) := by decide +kernel
theorem dX0_solve_151 : decode cX0_solve 151 = .ok (.getfield 13, 3) := by decide +kernel
theorem dX0_solve_154 : decode cX0_solve 154 = .ok (.iload 4, 2) := by decide +kernel
theorem dX0_solve_156 : decode cX0_solve 156 = .ok (.iaload, 1) := by decide +kernel
theorem dX0_solve_157 : decode cX0_solve 157 = .ok (.iconst 4, 1) := by decide +kernel
theorem dX0_solve_158 : decode cX0_solve 158 = .ok (.irem, 1) := by decide +kernel
theorem dX0_solve_159 : decode cX0_solve 159 = .ok (.istore 6, 2) := by decide +kernel
theorem dX0_solve_161 : decode cX0_solve 161 = .ok (.aload_n 0, 1) := by decide +kernel
theorem dX0_solve_162 : decode cX0_solve 162 = .ok (.getfield 31, 3) := by decide +kernel
theorem dX0_solve_165 : decode cX0_solve 165 = .ok (.iload 5, 2) := by decide +kernel
theorem dX0_solve_167 : decode cX0_solve 167 = .ok (.aload_n 0, 1) := by decide +kernel
theorem dX0_solve_168 : decode cX0_solve 168 = .ok (.getfield 35, 3) := by decide +kernel
theorem dX0_solve_171 : decode cX0_solve 171 = .ok (.iload 6, 2) := by decide +kernel
theorem dX0_solve_173 : decode cX0_solve 173 = .ok (.invokevirtual 77, 3) := by decide +kernel
theorem dX0_solve_176 : decode cX0_solve 176 = .ok (.invokevirtual 82, 3) := by decide +kernel
theorem dX0_solve_179 : decode cX0_solve 179 = .ok (.istore 7, 2) := by decide +kernel
theorem dX0_solve_181 : decode cX0_solve 181 = .ok (.aload_n 0, 1) := by decide +kernel
theorem dX0_solve_182 : decode cX0_solve 182 = .ok (.getfield 35, 3) := by decide +kernel
theorem dX0_solve_185 : decode cX0_solve 185 = .ok (.iload 6, 2) := by decide +kernel
theorem dX0_solve_187 : decode cX0_solve 187 = .ok (.invokevirtual 88, 3) := by decide +kernel
theorem dX0_solve_190 : decode cX0_solve 190 = .ok (.istore 8, 2) := by decide +kernel
theorem dX0_solve_192 : decode cX0_solve 192 = .ok (.aload_n 0, 1) := by decide +kernel
theorem dX0_solve_193 : decode cX0_solve 193 = .ok (.iload 5, 2) := by decide +kernel
theorem dX0_solve_195 : decode cX0_solve 195 = .ok (.iload 8, 2) := by decide +kernel
theorem dX0_solve_197 : decode cX0_solve 197 = .ok (.aload_n 0, 1) := by decide +kernel
theorem dX0_solve_198 : decode cX0_solve 198 = .ok (.getfield 13, 3) := by decide +kernel
theorem dX0_solve_201 : decode cX0_solve 201 = .ok (.iload 4, 2) := by decide +kernel
theorem dX0_solve_203 : decode cX0_solve 203 = .ok (.iaload, 1) := by decide +kernel
theorem dX0_solve_204 : decode cX0_solve 204 = .ok (.bipush 8, 2) := by decide +kernel
theorem dX0_solve_206 : decode cX0_solve 206 = .ok (.invokevirtual 73, 3) := by decide +kernel
theorem dX0_solve_209 : decode cX0_solve 209 = .ok (.iconst 0, 1) := by decide +kernel
theorem dX0_solve_210 : decode cX0_solve 210 = .ok (.istore 9, 2) := by decide +kernel
theorem dX0_solve_212 : decode cX0_solve 212 = .ok (.iload 9, 2) := by decide +kernel
theorem dX0_solve_214 : decode cX0_solve 214 = .ok (.bipush 8, 2) := by decide +kernel
theorem dX0_solve_216 : decode cX0_solve 216 = .ok (.if_icmp .ge 46, 3) := by decide +kernel
theorem dX0_solve_219 : decode cX0_solve 219 = .ok (.iload 7, 2) := by decide +kernel
theorem dX0_solve_221 : decode cX0_solve 221 = .ok (.iload 9, 2) := by decide +kernel
theorem dX0_solve_223 : decode cX0_solve 223 = .ok (.ishr, 1) := by decide +kernel
theorem dX0_solve_224 : decode cX0_solve 224 = .ok (.iconst 1, 1) := by decide +kernel
theorem dX0_solve_225 : decode cX0_solve 225 = .ok (.iand, 1) := by decide +kernel
theorem dX0_solve_226 : decode cX0_solve 226 = .ok (.iconst 1, 1) := by decide +kernel
theorem dX0_solve_227 : decode cX0_solve 227 = .ok (.if_icmp .ne 29, 3) := by decide +kernel
theorem dX0_solve_230 : decode cX0_solve 230 = .ok (.aload_n 0, 1) := by decide +kernel
theorem dX0_solve_231 : decode cX0_solve 231 = .ok (.aload_n 0, 1) := by decide +kernel
theorem dX0_solve_232 : decode cX0_solve 232 = .ok (.getfield 27, 3) := by decide +kernel
theorem dX0_solve_235 : decode cX0_solve 235 = .ok (.iload 5, 2) := by decide +kernel
theorem dX0_solve_237 : decode cX0_solve 237 = .ok (.iload 9, 2) := by decide +kernel
theorem dX0_solve_239 : decode cX0_solve 239 = .ok (.invokevirtual 91, 3) := by decide +kernel
theorem dX0_solve_242 : decode cX0_solve 242 = .ok (.iload 8, 2) := by decide +kernel
theorem dX0_solve_244 : decode cX0_solve 244 = .ok (.aload_n 0, 1) := by decide +kernel
theorem dX0_solve_245 : decode cX0_solve 245 = .ok (.getfield 13, 3) := by decide +kernel
theorem dX0_solve_248 : decode cX0_solve 248 = .ok (.iload 4, 2) := by decide +kernel
theorem dX0_solve_250 : decode cX0_solve 250 = .ok (.iaload, 1) := by decide +kernel
theorem dX0_solve_251 : decode cX0_solve 251 = .ok (.iload 9, 2) := by decide +kernel
theorem dX0_solve_253 : decode cX0_solve 253 = .ok (.invokevirtual 73, 3) := by decide +kernel
theorem dX0_solve_256 : decode cX0_solve 256 = .ok (.iinc 9 1, 3) := by decide +kernel
theorem dX0_solve_259 : decode cX0_solve 259 = .ok (.goto (-47), 3) := by decide +kernel
theorem dX0_solve_262 : decode cX0_solve 262 = .ok (.iinc 4 1, 3) := by decide +kernel
theorem dX0_solve_265 : decode cX0_solve 265 = .ok (.goto (-150), 3) := by decide +kernel
theorem dX0_solve_268 : decode cX0_solve 268 = .ok (.aload_n 0, 1) := by decide +kernel
theorem dX0_solve_269 : decode cX0_solve 269 = .ok (.aload_n 0, 1) := by decide +kernel
theorem dX0_solve_270 : decode cX0_solve 270 = .ok (.invokevirtual 94, 3) := by decide +kernel
theorem dX0_solve_273 : decode cX0_solve 273 = .ok (.putfield 98, 3) := by decide +kernel
theorem dX0_solve_276 : decode cX0_solve 276 = .ok (.return_, 1) := by decide +kernel
theorem dX0_madeOn_0 : decode cX0_madeOn 0 = .ok (.iload_n 1, 1) := by decide +kernel
theorem dX0_madeOn_1 : decode cX0_madeOn 1 = .ok (.ifCond .lt 11, 3) := by decide +kernel
theorem dX0_madeOn_4 : decode cX0_madeOn 4 = .ok (.iload_n 1, 1) := by decide +kernel
theorem dX0_madeOn_5 : decode cX0_madeOn 5 = .ok (.aload_n 0, 1) := by decide +kernel
theorem dX0_madeOn_6 : decode cX0_madeOn 6 = .ok (.getfield 98, 3) := by decide +kernel
theorem dX0_madeOn_9 : decode cX0_madeOn 9 = .ok (.if_icmp .lt 5, 3) := by decide +kernel
theorem dX0_madeOn_12 : decode cX0_madeOn 12 = .ok (.iconst (-1), 1) := by decide +kernel
theorem dX0_madeOn_13 : decode cX0_madeOn 13 = .ok (.ireturn, 1) := by decide +kernel
theorem dX0_madeOn_14 : decode cX0_madeOn 14 = .ok (.aload_n 0, 1) := by decide +kernel
theorem dX0_madeOn_15 : decode cX0_madeOn 15 = .ok (.getfield 70, 3) := by decide +kernel
theorem dX0_madeOn_18 : decode cX0_madeOn 18 = .ok (.istore_n 2, 1) := by decide +kernel
theorem dX0_madeOn_19 : decode cX0_madeOn 19 = .ok (.aload_n 0, 1) := by decide +kernel
theorem dX0_madeOn_20 : decode cX0_madeOn 20 = .ok (.getfield 98, 3) := by decide +kernel
theorem dX0_madeOn_23 : decode cX0_madeOn 23 = .ok (.iconst 1, 1) := by decide +kernel
theorem dX0_madeOn_24 : decode cX0_madeOn 24 = .ok (.isub, 1) := by decide +kernel
theorem dX0_madeOn_25 : decode cX0_madeOn 25 = .ok (.istore_n 3, 1) := by decide +kernel
theorem dX0_madeOn_26 : decode cX0_madeOn 26 = .ok (.iload_n 3, 1) := by decide +kernel
theorem dX0_madeOn_27 : decode cX0_madeOn 27 = .ok (.iload_n 1, 1) := by decide +kernel
theorem dX0_madeOn_28 : decode cX0_madeOn 28 = .ok (.if_icmp .le 27, 3) := by decide +kernel
theorem dX0_madeOn_31 : decode cX0_madeOn 31 = .ok (.iload_n 2, 1) := by decide +kernel
theorem dX0_madeOn_32 : decode cX0_madeOn 32 = .ok (.ifCond .lt 23, 3) := by decide +kernel
theorem dX0_madeOn_35 : decode cX0_madeOn 35 = .ok (.iload_n 2, 1) := by decide +kernel
theorem dX0_madeOn_36 : decode cX0_madeOn 36 = .ok (.sipush 21392, 3) := by decide +kernel
theorem dX0_madeOn_39 : decode cX0_madeOn 39 = .ok (.if_icmp .ge 16, 3) := by decide +kernel
theorem dX0_madeOn_42 : decode cX0_madeOn 42 = .ok (.aload_n 0, 1) := by decide +kernel
theorem dX0_madeOn_43 : decode cX0_madeOn 43 = .ok (.getfield 17, 3) := by decide +kernel
theorem dX0_madeOn_46 : decode cX0_madeOn 46 = .ok (.iload_n 2, 1) := by decide +kernel
theorem dX0_madeOn_47 : decode cX0_madeOn 47 = .ok (.iaload, 1) := by decide +kernel
theorem dX0_madeOn_48 : decode cX0_madeOn 48 = .ok (.istore_n 2, 1) := by decide +kernel
theorem dX0_madeOn_49 : decode cX0_madeOn 49 = .ok (.iinc 3 (-1), 3) := by decide +kernel
theorem dX0_madeOn_52 : decode cX0_madeOn 52 = .ok (.goto (-26), 3) := by decide +kernel
theorem dX0_madeOn_55 : decode cX0_madeOn 55 = .ok (.iload_n 2, 1) := by decide +kernel
theorem dX0_madeOn_56 : decode cX0_madeOn 56 = .ok (.ifCond .lt 19, 3) := by decide +kernel
theorem dX0_madeOn_59 : decode cX0_madeOn 59 = .ok (.iload_n 2, 1) := by decide +kernel
theorem dX0_madeOn_60 : decode cX0_madeOn 60 = .ok (.sipush 21392, 3) := by decide +kernel
theorem dX0_madeOn_63 : decode cX0_madeOn 63 = .ok (.if_icmp .ge 12, 3) := by decide +kernel
theorem dX0_madeOn_66 : decode cX0_madeOn 66 = .ok (.aload_n 0, 1) := by decide +kernel
theorem dX0_madeOn_67 : decode cX0_madeOn 67 = .ok (.getfield 20, 3) := by decide +kernel
theorem dX0_madeOn_70 : decode cX0_madeOn 70 = .ok (.iload_n 2, 1) := by decide +kernel
theorem dX0_madeOn_71 : decode cX0_madeOn 71 = .ok (.iaload, 1) := by decide +kernel
theorem dX0_madeOn_72 : decode cX0_madeOn 72 = .ok (.goto 4, 3) := by decide +kernel
theorem dX0_madeOn_75 : decode cX0_madeOn 75 = .ok (.iconst (-1), 1) := by decide +kernel
theorem dX0_madeOn_76 : decode cX0_madeOn 76 = .ok (.ireturn, 1) := by decide +kernel
theorem dX11_soon_0 : decode cX11_soon 0 = .ok (.iload_n 1, 1) := by decide +kernel
theorem dX11_soon_1 : decode cX11_soon 1 = .ok (.iconst (-1), 1) := by decide +kernel
theorem dX11_soon_2 : decode cX11_soon 2 = .ok (.if_icmp .ge 5, 3) := by decide +kernel
theorem dX11_soon_5 : decode cX11_soon 5 = .ok (.iconst (-1), 1) := by decide +kernel
theorem dX11_soon_6 : decode cX11_soon 6 = .ok (.ireturn, 1) := by decide +kernel
theorem dX11_soon_7 : decode cX11_soon 7 = .ok (.aload_n 0, 1) := by decide +kernel
theorem dX11_soon_8 : decode cX11_soon 8 = .ok (.getfield 74, 3) := by decide +kernel
theorem dX11_soon_11 : decode cX11_soon 11 = .ok (.aload_n 0, 1) := by decide +kernel
theorem dX11_soon_12 : decode cX11_soon 12 = .ok (.getfield 88, 3) := by decide +kernel
theorem dX11_soon_15 : decode cX11_soon 15 = .ok (.aload_n 0, 1) := by decide +kernel
theorem dX11_soon_16 : decode cX11_soon 16 = .ok (.getfield 110, 3) := by decide +kernel
theorem dX11_soon_19 : decode cX11_soon 19 = .ok (.invokevirtual 269, 3) := by decide +kernel
theorem dX11_soon_22 : decode cX11_soon 22 = .ok (.aload_n 0, 1) := by decide +kernel
theorem dX11_soon_23 : decode cX11_soon 23 = .ok (.getfield 74, 3) := by decide +kernel
theorem dX11_soon_26 : decode cX11_soon 26 = .ok (.getfield 272, 3) := by decide +kernel
theorem dX11_soon_29 : decode cX11_soon 29 = .ok (.ifCond .ge 6, 3) := by decide +kernel
theorem dX11_soon_32 : decode cX11_soon 32 = .ok (.bipush (-2), 2) := by decide +kernel
theorem dX11_soon_34 : decode cX11_soon 34 = .ok (.ireturn, 1) := by decide +kernel
theorem dX11_soon_35 : decode cX11_soon 35 = .ok (.iload_n 1, 1) := by decide +kernel
theorem dX11_soon_36 : decode cX11_soon 36 = .ok (.iconst (-1), 1) := by decide +kernel
theorem dX11_soon_37 : decode cX11_soon 37 = .ok (.if_icmp .ne 13, 3) := by decide +kernel
theorem dX11_soon_40 : decode cX11_soon 40 = .ok (.aload_n 0, 1) := by decide +kernel
theorem dX11_soon_41 : decode cX11_soon 41 = .ok (.getfield 74, 3) := by decide +kernel
theorem dX11_soon_44 : decode cX11_soon 44 = .ok (.getfield 272, 3) := by decide +kernel
theorem dX11_soon_47 : decode cX11_soon 47 = .ok (.goto 11, 3) := by decide +kernel
theorem dX11_soon_50 : decode cX11_soon 50 = .ok (.aload_n 0, 1) := by decide +kernel
theorem dX11_soon_51 : decode cX11_soon 51 = .ok (.getfield 74, 3) := by decide +kernel
theorem dX11_soon_54 : decode cX11_soon 54 = .ok (.iload_n 1, 1) := by decide +kernel
theorem dX11_soon_55 : decode cX11_soon 55 = .ok (.invokevirtual 273, 3) := by decide +kernel
theorem dX11_soon_58 : decode cX11_soon 58 = .ok (.ireturn, 1) := by decide +kernel
theorem dX7_spanBehind_0 : decode cX7_spanBehind 0 = .ok (.aload_n 0, 1) := by decide +kernel
theorem dX7_spanBehind_1 : decode cX7_spanBehind 1 = .ok (.getfield 18, 3) := by decide +kernel
theorem dX7_spanBehind_4 : decode cX7_spanBehind 4 = .ok (.iload_n 1, 1) := by decide +kernel
theorem dX7_spanBehind_5 : decode cX7_spanBehind 5 = .ok (.invokevirtual 95, 3) := by decide +kernel
theorem dX7_spanBehind_8 : decode cX7_spanBehind 8 = .ok (.aload_n 0, 1) := by decide +kernel
theorem dX7_spanBehind_9 : decode cX7_spanBehind 9 = .ok (.getfield 30, 3) := by decide +kernel
theorem dX7_spanBehind_12 : decode cX7_spanBehind 12 = .ok (.iand, 1) := by decide +kernel
theorem dX7_spanBehind_13 : decode cX7_spanBehind 13 = .ok (.aload_n 0, 1) := by decide +kernel
theorem dX7_spanBehind_14 : decode cX7_spanBehind 14 = .ok (.getfield 30, 3) := by decide +kernel
theorem dX7_spanBehind_17 : decode cX7_spanBehind 17 = .ok (.if_icmp .ne 7, 3) := by decide +kernel
theorem dX7_spanBehind_20 : decode cX7_spanBehind 20 = .ok (.iconst 1, 1) := by decide +kernel
theorem dX7_spanBehind_21 : decode cX7_spanBehind 21 = .ok (.goto 4, 3) := by decide +kernel
theorem dX7_spanBehind_24 : decode cX7_spanBehind 24 = .ok (.iconst 0, 1) := by decide +kernel
theorem dX7_spanBehind_25 : decode cX7_spanBehind 25 = .ok (.istore 4, 2) := by decide +kernel
theorem dX7_spanBehind_27 : decode cX7_spanBehind 27 = .ok (.iload 4, 2) := by decide +kernel
theorem dX7_spanBehind_29 : decode cX7_spanBehind 29 = .ok (.ifCond .eq 17, 3) := by decide +kernel
theorem dX7_spanBehind_32 : decode cX7_spanBehind 32 = .ok (.iconst 1, 1) := by decide +kernel
theorem dX7_spanBehind_33 : decode cX7_spanBehind 33 = .ok (.aload_n 0, 1) := by decide +kernel
theorem dX7_spanBehind_34 : decode cX7_spanBehind 34 = .ok (.iload_n 1, 1) := by decide +kernel
theorem dX7_spanBehind_35 : decode cX7_spanBehind 35 = .ok (.iload_n 2, 1) := by decide +kernel
theorem dX7_spanBehind_36 : decode cX7_spanBehind 36 = .ok (.iload_n 3, 1) := by decide +kernel
theorem dX7_spanBehind_37 : decode cX7_spanBehind 37 = .ok (.iconst 1, 1) := by decide +kernel
theorem dX7_spanBehind_38 : decode cX7_spanBehind 38 = .ok (.isub, 1) := by decide +kernel
theorem dX7_spanBehind_39 : decode cX7_spanBehind 39 = .ok (.invokevirtual 59, 3) := by decide +kernel
theorem dX7_spanBehind_42 : decode cX7_spanBehind 42 = .ok (.iadd, 1) := by decide +kernel
theorem dX7_spanBehind_43 : decode cX7_spanBehind 43 = .ok (.goto 4, 3) := by decide +kernel
theorem dX7_spanBehind_46 : decode cX7_spanBehind 46 = .ok (.iconst 0, 1) := by decide +kernel
theorem dX7_spanBehind_47 : decode cX7_spanBehind 47 = .ok (.ireturn, 1) := by decide +kernel
theorem dX7_spanFrom_0 : decode cX7_spanFrom 0 = .ok (.iload_n 1, 1) := by decide +kernel
theorem dX7_spanFrom_1 : decode cX7_spanFrom 1 = .ok (.bipush 12, 2) := by decide +kernel
theorem dX7_spanFrom_3 : decode cX7_spanFrom 3 = .ok (.imul, 1) := by decide +kernel
theorem dX7_spanFrom_4 : decode cX7_spanFrom 4 = .ok (.iload_n 3, 1) := by decide +kernel
theorem dX7_spanFrom_5 : decode cX7_spanFrom 5 = .ok (.iadd, 1) := by decide +kernel
theorem dX7_spanFrom_6 : decode cX7_spanFrom 6 = .ok (.iconst 1, 1) := by decide +kernel
theorem dX7_spanFrom_7 : decode cX7_spanFrom 7 = .ok (.isub, 1) := by decide +kernel
theorem dX7_spanFrom_8 : decode cX7_spanFrom 8 = .ok (.istore 4, 2) := by decide +kernel
theorem dX7_spanFrom_10 : decode cX7_spanFrom 10 = .ok (.iload_n 3, 1) := by decide +kernel
theorem dX7_spanFrom_11 : decode cX7_spanFrom 11 = .ok (.iconst 1, 1) := by decide +kernel
theorem dX7_spanFrom_12 : decode cX7_spanFrom 12 = .ok (.if_icmp .lt 18, 3) := by decide +kernel
theorem dX7_spanFrom_15 : decode cX7_spanFrom 15 = .ok (.iload 4, 2) := by decide +kernel
theorem dX7_spanFrom_17 : decode cX7_spanFrom 17 = .ok (.ifCond .lt 13, 3) := by decide +kernel
theorem dX7_spanFrom_20 : decode cX7_spanFrom 20 = .ok (.iload 4, 2) := by decide +kernel
theorem dX7_spanFrom_22 : decode cX7_spanFrom 22 = .ok (.aload_n 0, 1) := by decide +kernel
theorem dX7_spanFrom_23 : decode cX7_spanFrom 23 = .ok (.getfield 12, 3) := by decide +kernel
theorem dX7_spanFrom_26 : decode cX7_spanFrom 26 = .ok (.arraylength, 1) := by decide +kernel
theorem dX7_spanFrom_27 : decode cX7_spanFrom 27 = .ok (.if_icmp .lt 5, 3) := by decide +kernel
theorem dX7_spanFrom_30 : decode cX7_spanFrom 30 = .ok (.iconst 0, 1) := by decide +kernel
theorem dX7_spanFrom_31 : decode cX7_spanFrom 31 = .ok (.ireturn, 1) := by decide +kernel
theorem dX7_spanFrom_32 : decode cX7_spanFrom 32 = .ok (.aload_n 0, 1) := by decide +kernel
theorem dX7_spanFrom_33 : decode cX7_spanFrom 33 = .ok (.getfield 12, 3) := by decide +kernel
theorem dX7_spanFrom_36 : decode cX7_spanFrom 36 = .ok (.iload 4, 2) := by decide +kernel
theorem dX7_spanFrom_38 : decode cX7_spanFrom 38 = .ok (.iaload, 1) := by decide +kernel
theorem dX7_spanFrom_39 : decode cX7_spanFrom 39 = .ok (.ldc 49, 2) := by decide +kernel
theorem dX7_spanFrom_41 : decode cX7_spanFrom 41 = .ok (.if_icmp .eq 11, 3) := by decide +kernel
theorem dX7_spanFrom_44 : decode cX7_spanFrom 44 = .ok (.aload_n 0, 1) := by decide +kernel
theorem dX7_spanFrom_45 : decode cX7_spanFrom 45 = .ok (.getfield 12, 3) := by decide +kernel
theorem dX7_spanFrom_48 : decode cX7_spanFrom 48 = .ok (.iload 4, 2) := by decide +kernel
theorem dX7_spanFrom_50 : decode cX7_spanFrom 50 = .ok (.iaload, 1) := by decide +kernel
theorem dX7_spanFrom_51 : decode cX7_spanFrom 51 = .ok (.ireturn, 1) := by decide +kernel
theorem dX7_spanFrom_52 : decode cX7_spanFrom 52 = .ok (.aload_n 0, 1) := by decide +kernel
theorem dX7_spanFrom_53 : decode cX7_spanFrom 53 = .ok (.getfield 26, 3) := by decide +kernel
theorem dX7_spanFrom_56 : decode cX7_spanFrom 56 = .ok (.iload_n 2, 1) := by decide +kernel
theorem dX7_spanFrom_57 : decode cX7_spanFrom 57 = .ok (.invokevirtual 63, 3) := by decide +kernel
theorem dX7_spanFrom_60 : decode cX7_spanFrom 60 = .ok (.istore 5, 2) := by decide +kernel
theorem dX7_spanFrom_62 : decode cX7_spanFrom 62 = .ok (.iload 5, 2) := by decide +kernel
theorem dX7_spanFrom_64 : decode cX7_spanFrom 64 = .ok (.invokestatic 68, 3) := by decide +kernel
theorem dX7_spanFrom_67 : decode cX7_spanFrom 67 = .ok (.ifCond .eq 20, 3) := by decide +kernel
theorem dX7_spanFrom_70 : decode cX7_spanFrom 70 = .ok (.aload_n 0, 1) := by decide +kernel
theorem dX7_spanFrom_71 : decode cX7_spanFrom 71 = .ok (.getfield 34, 3) := by decide +kernel
theorem dX7_spanFrom_74 : decode cX7_spanFrom 74 = .ok (.iload 5, 2) := by decide +kernel
theorem dX7_spanFrom_76 : decode cX7_spanFrom 76 = .ok (.ishr, 1) := by decide +kernel
theorem dX7_spanFrom_77 : decode cX7_spanFrom 77 = .ok (.iconst 1, 1) := by decide +kernel
theorem dX7_spanFrom_78 : decode cX7_spanFrom 78 = .ok (.iand, 1) := by decide +kernel
theorem dX7_spanFrom_79 : decode cX7_spanFrom 79 = .ok (.iconst 1, 1) := by decide +kernel
theorem dX7_spanFrom_80 : decode cX7_spanFrom 80 = .ok (.if_icmp .ne 7, 3) := by decide +kernel
theorem dX7_spanFrom_83 : decode cX7_spanFrom 83 = .ok (.iconst 1, 1) := by decide +kernel
theorem dX7_spanFrom_84 : decode cX7_spanFrom 84 = .ok (.goto 4, 3) := by decide +kernel
theorem dX7_spanFrom_87 : decode cX7_spanFrom 87 = .ok (.iconst 0, 1) := by decide +kernel
theorem dX7_spanFrom_88 : decode cX7_spanFrom 88 = .ok (.istore 6, 2) := by decide +kernel
theorem dX7_spanFrom_90 : decode cX7_spanFrom 90 = .ok (.iload 6, 2) := by decide +kernel
theorem dX7_spanFrom_92 : decode cX7_spanFrom 92 = .ok (.ifCond .eq 7, 3) := by decide +kernel
theorem dX7_spanFrom_95 : decode cX7_spanFrom 95 = .ok (.iload_n 3, 1) := by decide +kernel
theorem dX7_spanFrom_96 : decode cX7_spanFrom 96 = .ok (.goto 4, 3) := by decide +kernel
theorem dX7_spanFrom_99 : decode cX7_spanFrom 99 = .ok (.iconst 0, 1) := by decide +kernel
theorem dX7_spanFrom_100 : decode cX7_spanFrom 100 = .ok (.istore 7, 2) := by decide +kernel
theorem dX7_spanFrom_102 : decode cX7_spanFrom 102 = .ok (.aload_n 0, 1) := by decide +kernel
theorem dX7_spanFrom_103 : decode cX7_spanFrom 103 = .ok (.getfield 22, 3) := by decide +kernel
theorem dX7_spanFrom_106 : decode cX7_spanFrom 106 = .ok (.iload_n 1, 1) := by decide +kernel
theorem dX7_spanFrom_107 : decode cX7_spanFrom 107 = .ok (.iload 5, 2) := by decide +kernel
theorem dX7_spanFrom_109 : decode cX7_spanFrom 109 = .ok (.invokevirtual 72, 3) := by decide +kernel
theorem dX7_spanFrom_112 : decode cX7_spanFrom 112 = .ok (.istore 8, 2) := by decide +kernel
theorem dX7_spanFrom_114 : decode cX7_spanFrom 114 = .ok (.aload_n 0, 1) := by decide +kernel
theorem dX7_spanFrom_115 : decode cX7_spanFrom 115 = .ok (.getfield 26, 3) := by decide +kernel
theorem dX7_spanFrom_118 : decode cX7_spanFrom 118 = .ok (.iload_n 2, 1) := by decide +kernel
theorem dX7_spanFrom_119 : decode cX7_spanFrom 119 = .ok (.invokevirtual 78, 3) := by decide +kernel
theorem dX7_spanFrom_122 : decode cX7_spanFrom 122 = .ok (.istore 9, 2) := by decide +kernel
theorem dX7_spanFrom_124 : decode cX7_spanFrom 124 = .ok (.aload_n 0, 1) := by decide +kernel
theorem dX7_spanFrom_125 : decode cX7_spanFrom 125 = .ok (.iload_n 1, 1) := by decide +kernel
theorem dX7_spanFrom_126 : decode cX7_spanFrom 126 = .ok (.iload 9, 2) := by decide +kernel
theorem dX7_spanFrom_128 : decode cX7_spanFrom 128 = .ok (.iload_n 3, 1) := by decide +kernel
theorem dX7_spanFrom_129 : decode cX7_spanFrom 129 = .ok (.invokevirtual 81, 3) := by decide +kernel
theorem dX7_spanFrom_132 : decode cX7_spanFrom 132 = .ok (.istore 10, 2) := by decide +kernel
theorem dX7_spanFrom_134 : decode cX7_spanFrom 134 = .ok (.iconst 0, 1) := by decide +kernel
theorem dX7_spanFrom_135 : decode cX7_spanFrom 135 = .ok (.istore 11, 2) := by decide +kernel
theorem dX7_spanFrom_137 : decode cX7_spanFrom 137 = .ok (.iload 11, 2) := by decide +kernel
theorem dX7_spanFrom_139 : decode cX7_spanFrom 139 = .ok (.bipush 8, 2) := by decide +kernel
theorem dX7_spanFrom_141 : decode cX7_spanFrom 141 = .ok (.if_icmp .ge 70, 3) := by decide +kernel
theorem dX7_spanFrom_144 : decode cX7_spanFrom 144 = .ok (.iload 10, 2) := by decide +kernel
theorem dX7_spanFrom_146 : decode cX7_spanFrom 146 = .ok (.iload 7, 2) := by decide +kernel
theorem dX7_spanFrom_148 : decode cX7_spanFrom 148 = .ok (.if_icmp .eq 63, 3) := by decide +kernel
theorem dX7_spanFrom_151 : decode cX7_spanFrom 151 = .ok (.iload 8, 2) := by decide +kernel
theorem dX7_spanFrom_153 : decode cX7_spanFrom 153 = .ok (.iload 11, 2) := by decide +kernel
theorem dX7_spanFrom_155 : decode cX7_spanFrom 155 = .ok (.ishr, 1) := by decide +kernel
theorem dX7_spanFrom_156 : decode cX7_spanFrom 156 = .ok (.iconst 1, 1) := by decide +kernel
theorem dX7_spanFrom_157 : decode cX7_spanFrom 157 = .ok (.iand, 1) := by decide +kernel
theorem dX7_spanFrom_158 : decode cX7_spanFrom 158 = .ok (.iconst 1, 1) := by decide +kernel
theorem dX7_spanFrom_159 : decode cX7_spanFrom 159 = .ok (.if_icmp .ne 46, 3) := by decide +kernel
theorem dX7_spanFrom_162 : decode cX7_spanFrom 162 = .ok (.aload_n 0, 1) := by decide +kernel
theorem dX7_spanFrom_163 : decode cX7_spanFrom 163 = .ok (.aload_n 0, 1) := by decide +kernel
theorem dX7_spanFrom_164 : decode cX7_spanFrom 164 = .ok (.getfield 18, 3) := by decide +kernel
theorem dX7_spanFrom_167 : decode cX7_spanFrom 167 = .ok (.iload_n 1, 1) := by decide +kernel
theorem dX7_spanFrom_168 : decode cX7_spanFrom 168 = .ok (.iload 11, 2) := by decide +kernel
theorem dX7_spanFrom_170 : decode cX7_spanFrom 170 = .ok (.invokevirtual 84, 3) := by decide +kernel
theorem dX7_spanFrom_173 : decode cX7_spanFrom 173 = .ok (.iload 9, 2) := by decide +kernel
theorem dX7_spanFrom_175 : decode cX7_spanFrom 175 = .ok (.iload_n 3, 1) := by decide +kernel
theorem dX7_spanFrom_176 : decode cX7_spanFrom 176 = .ok (.invokevirtual 81, 3) := by decide +kernel
theorem dX7_spanFrom_179 : decode cX7_spanFrom 179 = .ok (.istore 12, 2) := by decide +kernel
theorem dX7_spanFrom_181 : decode cX7_spanFrom 181 = .ok (.iload 6, 2) := by decide +kernel
theorem dX7_spanFrom_183 : decode cX7_spanFrom 183 = .ok (.ifCond .eq 13, 3) := by decide +kernel
theorem dX7_spanFrom_186 : decode cX7_spanFrom 186 = .ok (.iload 10, 2) := by decide +kernel
theorem dX7_spanFrom_188 : decode cX7_spanFrom 188 = .ok (.iload 12, 2) := by decide +kernel
theorem dX7_spanFrom_190 : decode cX7_spanFrom 190 = .ok (.invokestatic 87, 3) := by decide +kernel
theorem dX7_spanFrom_193 : decode cX7_spanFrom 193 = .ok (.goto 10, 3) := by decide +kernel
theorem dX7_spanFrom_196 : decode cX7_spanFrom 196 = .ok (.iload 10, 2) := by decide +kernel
theorem dX7_spanFrom_198 : decode cX7_spanFrom 198 = .ok (.iload 12, 2) := by decide +kernel
theorem dX7_spanFrom_200 : decode cX7_spanFrom 200 = .ok (.invokestatic 92, 3) := by decide +kernel
theorem dX7_spanFrom_203 : decode cX7_spanFrom 203 = .ok (.istore 10, 2) := by decide +kernel
theorem dX7_spanFrom_205 : decode cX7_spanFrom 205 = .ok (.iinc 11 1, 3) := by decide +kernel
theorem dX7_spanFrom_208 : decode cX7_spanFrom 208 = .ok (.goto (-71), 3) := by decide +kernel
theorem dX7_spanFrom_211 : decode cX7_spanFrom 211 = .ok (.aload_n 0, 1) := by decide +kernel
theorem dX7_spanFrom_212 : decode cX7_spanFrom 212 = .ok (.getfield 12, 3) := by decide +kernel
theorem dX7_spanFrom_215 : decode cX7_spanFrom 215 = .ok (.iload 4, 2) := by decide +kernel
theorem dX7_spanFrom_217 : decode cX7_spanFrom 217 = .ok (.iload 10, 2) := by decide +kernel
theorem dX7_spanFrom_219 : decode cX7_spanFrom 219 = .ok (.iastore, 1) := by decide +kernel
theorem dX7_spanFrom_220 : decode cX7_spanFrom 220 = .ok (.iload 10, 2) := by decide +kernel
theorem dX7_spanFrom_222 : decode cX7_spanFrom 222 = .ok (.ireturn, 1) := by decide +kernel
theorem dX7_solve_0 : decode cX7_solve 0 = .ok (.aload_n 0, 1) := by decide +kernel
theorem dX7_solve_1 : decode cX7_solve 1 = .ok (.iload_n 2, 1) := by decide +kernel
theorem dX7_solve_2 : decode cX7_solve 2 = .ok (.putfield 30, 3) := by decide +kernel
theorem dX7_solve_5 : decode cX7_solve 5 = .ok (.aload_n 0, 1) := by decide +kernel
theorem dX7_solve_6 : decode cX7_solve 6 = .ok (.iload_n 3, 1) := by decide +kernel
theorem dX7_solve_7 : decode cX7_solve 7 = .ok (.putfield 34, 3) := by decide +kernel
theorem dX7_solve_10 : decode cX7_solve 10 = .ok (.aload_n 0, 1) := by decide +kernel
theorem dX7_solve_11 : decode cX7_solve 11 = .ok (.getfield 18, 3) := by decide +kernel
theorem dX7_solve_14 : decode cX7_solve 14 = .ok (.aload_n 1, 1) := by decide +kernel
theorem dX7_solve_15 : decode cX7_solve 15 = .ok (.getfield 37, 3) := by decide +kernel
theorem dX7_solve_18 : decode cX7_solve 18 = .ok (.invokevirtual 42, 3) := by decide +kernel
theorem dX7_solve_21 : decode cX7_solve 21 = .ok (.istore 4, 2) := by decide +kernel
theorem dX7_solve_23 : decode cX7_solve 23 = .ok (.aload_n 0, 1) := by decide +kernel
theorem dX7_solve_24 : decode cX7_solve 24 = .ok (.getfield 12, 3) := by decide +kernel
theorem dX7_solve_27 : decode cX7_solve 27 = .ok (.iload 4, 2) := by decide +kernel
theorem dX7_solve_29 : decode cX7_solve 29 = .ok (.invokestatic 46, 3) := by decide +kernel
theorem dX7_solve_32 : decode cX7_solve 32 = .ok (.bipush 12, 2) := by decide +kernel
theorem dX7_solve_34 : decode cX7_solve 34 = .ok (.imul, 1) := by decide +kernel
theorem dX7_solve_35 : decode cX7_solve 35 = .ok (.iload 4, 2) := by decide +kernel
theorem dX7_solve_37 : decode cX7_solve 37 = .ok (.iconst 1, 1) := by decide +kernel
theorem dX7_solve_38 : decode cX7_solve 38 = .ok (.iadd, 1) := by decide +kernel
theorem dX7_solve_39 : decode cX7_solve 39 = .ok (.invokestatic 46, 3) := by decide +kernel
theorem dX7_solve_42 : decode cX7_solve 42 = .ok (.bipush 12, 2) := by decide +kernel
theorem dX7_solve_44 : decode cX7_solve 44 = .ok (.imul, 1) := by decide +kernel
theorem dX7_solve_45 : decode cX7_solve 45 = .ok (.ldc 49, 2) := by decide +kernel
theorem dX7_solve_47 : decode cX7_solve 47 = .ok (.invokestatic 50, 3) := by decide +kernel
theorem dX7_solve_50 : decode cX7_solve 50 = .ok (.aload_n 0, 1) := by decide +kernel
theorem dX7_solve_51 : decode cX7_solve 51 = .ok (.aload_n 1, 1) := by decide +kernel
theorem dX7_solve_52 : decode cX7_solve 52 = .ok (.getfield 37, 3) := by decide +kernel
theorem dX7_solve_55 : decode cX7_solve 55 = .ok (.aload_n 1, 1) := by decide +kernel
theorem dX7_solve_56 : decode cX7_solve 56 = .ok (.getfield 56, 3) := by decide +kernel
theorem dX7_solve_59 : decode cX7_solve 59 = .ok (.bipush 12, 2) := by decide +kernel
theorem dX7_solve_61 : decode cX7_solve 61 = .ok (.invokevirtual 59, 3) := by decide +kernel
theorem dX7_solve_64 : decode cX7_solve 64 = .ok (.ireturn, 1) := by decide +kernel
theorem dX11_held_0 : decode cX11_held 0 = .ok (.aload_n 0, 1) := by decide +kernel
theorem dX11_held_1 : decode cX11_held 1 = .ok (.iload_n 1, 1) := by decide +kernel
theorem dX11_held_2 : decode cX11_held 2 = .ok (.invokevirtual 146, 3) := by decide +kernel
theorem dX11_held_5 : decode cX11_held 5 = .ok (.ifCond .eq 20, 3) := by decide +kernel
theorem dX11_held_8 : decode cX11_held 8 = .ok (.aload_n 0, 1) := by decide +kernel
theorem dX11_held_9 : decode cX11_held 9 = .ok (.iload_n 2, 1) := by decide +kernel
theorem dX11_held_10 : decode cX11_held 10 = .ok (.invokevirtual 146, 3) := by decide +kernel
theorem dX11_held_13 : decode cX11_held 13 = .ok (.ifCond .eq 12, 3) := by decide +kernel
theorem dX11_held_16 : decode cX11_held 16 = .ok (.iload_n 3, 1) := by decide +kernel
theorem dX11_held_17 : decode cX11_held 17 = .ok (.bipush 15, 2) := by decide +kernel
theorem dX11_held_19 : decode cX11_held 19 = .ok (.invokestatic 102, 3) := by decide +kernel
theorem dX11_held_22 : decode cX11_held 22 = .ok (.ifCond .ne 5, 3) := by decide +kernel
theorem dX11_held_25 : decode cX11_held 25 = .ok (.iconst (-1), 1) := by decide +kernel
theorem dX11_held_26 : decode cX11_held 26 = .ok (.ireturn, 1) := by decide +kernel
theorem dX11_held_27 : decode cX11_held 27 = .ok (.aload_n 0, 1) := by decide +kernel
theorem dX11_held_28 : decode cX11_held 28 = .ok (.getfield 81, 3) := by decide +kernel
theorem dX11_held_31 : decode cX11_held 31 = .ok (.aload_n 0, 1) := by decide +kernel
theorem dX11_held_32 : decode cX11_held 32 = .ok (.getfield 88, 3) := by decide +kernel
theorem dX11_held_35 : decode cX11_held 35 = .ok (.iconst 1, 1) := by decide +kernel
theorem dX11_held_36 : decode cX11_held 36 = .ok (.iload_n 1, 1) := by decide +kernel
theorem dX11_held_37 : decode cX11_held 37 = .ok (.ishl, 1) := by decide +kernel
theorem dX11_held_38 : decode cX11_held 38 = .ok (.iconst 1, 1) := by decide +kernel
theorem dX11_held_39 : decode cX11_held 39 = .ok (.iload_n 2, 1) := by decide +kernel
theorem dX11_held_40 : decode cX11_held 40 = .ok (.ishl, 1) := by decide +kernel
theorem dX11_held_41 : decode cX11_held 41 = .ok (.ior, 1) := by decide +kernel
theorem dX11_held_42 : decode cX11_held 42 = .ok (.iload_n 3, 1) := by decide +kernel
theorem dX11_held_43 : decode cX11_held 43 = .ok (.invokevirtual 274, 3) := by decide +kernel
theorem dX11_held_46 : decode cX11_held 46 = .ok (.ireturn, 1) := by decide +kernel
theorem dX11_number_0 : decode cX11_number 0 = .ok (.iload_n 1, 1) := by decide +kernel
theorem dX11_number_1 : decode cX11_number 1 = .ok (.invokestatic 142, 3) := by decide +kernel
theorem dX11_number_4 : decode cX11_number 4 = .ok (.ifCond .eq 11, 3) := by decide +kernel
theorem dX11_number_7 : decode cX11_number 7 = .ok (.iload_n 2, 1) := by decide +kernel
theorem dX11_number_8 : decode cX11_number 8 = .ok (.iconst 2, 1) := by decide +kernel
theorem dX11_number_9 : decode cX11_number 9 = .ok (.invokestatic 102, 3) := by decide +kernel
theorem dX11_number_12 : decode cX11_number 12 = .ok (.ifCond .ne 6, 3) := by decide +kernel
theorem dX11_number_15 : decode cX11_number 15 = .ok (.ldc 191, 2) := by decide +kernel
theorem dX11_number_17 : decode cX11_number 17 = .ok (.ireturn, 1) := by decide +kernel
theorem dX11_number_18 : decode cX11_number 18 = .ok (.iconst 0, 1) := by decide +kernel
theorem dX11_number_19 : decode cX11_number 19 = .ok (.istore_n 3, 1) := by decide +kernel
theorem dX11_number_20 : decode cX11_number 20 = .ok (.iconst 0, 1) := by decide +kernel
theorem dX11_number_21 : decode cX11_number 21 = .ok (.istore 4, 2) := by decide +kernel
theorem dX11_number_23 : decode cX11_number 23 = .ok (.iconst 1, 1) := by decide +kernel
theorem dX11_number_24 : decode cX11_number 24 = .ok (.istore 5, 2) := by decide +kernel
theorem dX11_number_26 : decode cX11_number 26 = .ok (.iconst 1, 1) := by decide +kernel
theorem dX11_number_27 : decode cX11_number 27 = .ok (.istore 6, 2) := by decide +kernel
theorem dX11_number_29 : decode cX11_number 29 = .ok (.iload 6, 2) := by decide +kernel
theorem dX11_number_31 : decode cX11_number 31 = .ok (.iconst 4, 1) := by decide +kernel
theorem dX11_number_32 : decode cX11_number 32 = .ok (.if_icmp .gt 75, 3) := by decide +kernel
theorem dX11_number_35 : decode cX11_number 35 = .ok (.aload_n 0, 1) := by decide +kernel
theorem dX11_number_36 : decode cX11_number 36 = .ok (.getfield 60, 3) := by decide +kernel
theorem dX11_number_39 : decode cX11_number 39 = .ok (.iload 6, 2) := by decide +kernel
theorem dX11_number_41 : decode cX11_number 41 = .ok (.invokestatic 118, 3) := by decide +kernel
theorem dX11_number_44 : decode cX11_number 44 = .ok (.iconst 0, 1) := by decide +kernel
theorem dX11_number_45 : decode cX11_number 45 = .ok (.invokevirtual 238, 3) := by decide +kernel
theorem dX11_number_48 : decode cX11_number 48 = .ok (.aload_n 0, 1) := by decide +kernel
theorem dX11_number_49 : decode cX11_number 49 = .ok (.getfield 60, 3) := by decide +kernel
theorem dX11_number_52 : decode cX11_number 52 = .ok (.iload_n 1, 1) := by decide +kernel
theorem dX11_number_53 : decode cX11_number 53 = .ok (.invokevirtual 246, 3) := by decide +kernel
theorem dX11_number_56 : decode cX11_number 56 = .ok (.istore 7, 2) := by decide +kernel
theorem dX11_number_58 : decode cX11_number 58 = .ok (.iload_n 3, 1) := by decide +kernel
theorem dX11_number_59 : decode cX11_number 59 = .ok (.ifCond .eq 26, 3) := by decide +kernel
theorem dX11_number_62 : decode cX11_number 62 = .ok (.iload 7, 2) := by decide +kernel
theorem dX11_number_64 : decode cX11_number 64 = .ok (.i2l, 1) := by decide +kernel
theorem dX11_number_65 : decode cX11_number 65 = .ok (.iload 5, 2) := by decide +kernel
theorem dX11_number_67 : decode cX11_number 67 = .ok (.i2l, 1) := by decide +kernel
theorem dX11_number_68 : decode cX11_number 68 = .ok (.lmul, 1) := by decide +kernel
theorem dX11_number_69 : decode cX11_number 69 = .ok (.iload 4, 2) := by decide +kernel
theorem dX11_number_71 : decode cX11_number 71 = .ok (.i2l, 1) := by decide +kernel
theorem dX11_number_72 : decode cX11_number 72 = .ok (.aload_n 0, 1) := by decide +kernel
theorem dX11_number_73 : decode cX11_number 73 = .ok (.getfield 60, 3) := by decide +kernel
theorem dX11_number_76 : decode cX11_number 76 = .ok (.getfield 245, 3) := by decide +kernel
theorem dX11_number_79 : decode cX11_number 79 = .ok (.i2l, 1) := by decide +kernel
theorem dX11_number_80 : decode cX11_number 80 = .ok (.lmul, 1) := by decide +kernel
theorem dX11_number_81 : decode cX11_number 81 = .ok (.lcmp, 1) := by decide +kernel
theorem dX11_number_82 : decode cX11_number 82 = .ok (.ifCond .le 19, 3) := by decide +kernel
theorem dX11_number_85 : decode cX11_number 85 = .ok (.iload 6, 2) := by decide +kernel
theorem dX11_number_87 : decode cX11_number 87 = .ok (.istore_n 3, 1) := by decide +kernel
theorem dX11_number_88 : decode cX11_number 88 = .ok (.iload 7, 2) := by decide +kernel
theorem dX11_number_90 : decode cX11_number 90 = .ok (.istore 4, 2) := by decide +kernel
theorem dX11_number_92 : decode cX11_number 92 = .ok (.aload_n 0, 1) := by decide +kernel
theorem dX11_number_93 : decode cX11_number 93 = .ok (.getfield 60, 3) := by decide +kernel
theorem dX11_number_96 : decode cX11_number 96 = .ok (.getfield 245, 3) := by decide +kernel
theorem dX11_number_99 : decode cX11_number 99 = .ok (.istore 5, 2) := by decide +kernel
theorem dX11_number_101 : decode cX11_number 101 = .ok (.iinc 6 1, 3) := by decide +kernel
theorem dX11_number_104 : decode cX11_number 104 = .ok (.goto (-75), 3) := by decide +kernel
theorem dX11_number_107 : decode cX11_number 107 = .ok (.iload_n 2, 1) := by decide +kernel
theorem dX11_number_108 : decode cX11_number 108 = .ok (.ifCond .ne 5, 3) := by decide +kernel
theorem dX11_number_111 : decode cX11_number 111 = .ok (.iload_n 3, 1) := by decide +kernel
theorem dX11_number_112 : decode cX11_number 112 = .ok (.ireturn, 1) := by decide +kernel
theorem dX11_number_113 : decode cX11_number 113 = .ok (.iload_n 2, 1) := by decide +kernel
theorem dX11_number_114 : decode cX11_number 114 = .ok (.iconst 1, 1) := by decide +kernel
theorem dX11_number_115 : decode cX11_number 115 = .ok (.if_icmp .ne 8, 3) := by decide +kernel
theorem dX11_number_118 : decode cX11_number 118 = .ok (.iload 4, 2) := by decide +kernel
theorem dX11_number_120 : decode cX11_number 120 = .ok (.goto 5, 3) := by decide +kernel
theorem dX11_number_123 : decode cX11_number 123 = .ok (.iload 5, 2) := by decide +kernel
theorem dX11_number_125 : decode cX11_number 125 = .ok (.iload 4, 2) := by decide +kernel
theorem dX11_number_127 : decode cX11_number 127 = .ok (.iload 5, 2) := by decide +kernel
theorem dX11_number_129 : decode cX11_number 129 = .ok (.invokestatic 249, 3) := by decide +kernel
theorem dX11_number_132 : decode cX11_number 132 = .ok (.ireturn, 1) := by decide +kernel
theorem dX11_deed_0 : decode cX11_deed 0 = .ok (.iload_n 1, 1) := by decide +kernel
theorem dX11_deed_1 : decode cX11_deed 1 = .ok (.ifCond .lt 19, 3) := by decide +kernel
theorem dX11_deed_4 : decode cX11_deed 4 = .ok (.iload_n 1, 1) := by decide +kernel
theorem dX11_deed_5 : decode cX11_deed 5 = .ok (.bipush 8, 2) := by decide +kernel
theorem dX11_deed_7 : decode cX11_deed 7 = .ok (.if_icmp .ge 13, 3) := by decide +kernel
theorem dX11_deed_10 : decode cX11_deed 10 = .ok (.iload_n 2, 1) := by decide +kernel
theorem dX11_deed_11 : decode cX11_deed 11 = .ok (.sipush 255, 3) := by decide +kernel
theorem dX11_deed_14 : decode cX11_deed 14 = .ok (.invokestatic 102, 3) := by decide +kernel
theorem dX11_deed_17 : decode cX11_deed 17 = .ok (.ifCond .ne 5, 3) := by decide +kernel
theorem dX11_deed_20 : decode cX11_deed 20 = .ok (.iconst 0, 1) := by decide +kernel
theorem dX11_deed_21 : decode cX11_deed 21 = .ok (.ireturn, 1) := by decide +kernel
theorem dX11_deed_22 : decode cX11_deed 22 = .ok (.aload_n 0, 1) := by decide +kernel
theorem dX11_deed_23 : decode cX11_deed 23 = .ok (.getfield 95, 3) := by decide +kernel
theorem dX11_deed_26 : decode cX11_deed 26 = .ok (.iload_n 1, 1) := by decide +kernel
theorem dX11_deed_27 : decode cX11_deed 27 = .ok (.iload_n 2, 1) := by decide +kernel
theorem dX11_deed_28 : decode cX11_deed 28 = .ok (.iastore, 1) := by decide +kernel
theorem dX11_deed_29 : decode cX11_deed 29 = .ok (.iconst 1, 1) := by decide +kernel
theorem dX11_deed_30 : decode cX11_deed 30 = .ok (.ireturn, 1) := by decide +kernel
theorem dX11_lawful_0 : decode cX11_lawful 0 = .ok (.iload_n 1, 1) := by decide +kernel
theorem dX11_lawful_1 : decode cX11_lawful 1 = .ok (.ifCond .lt 9, 3) := by decide +kernel
theorem dX11_lawful_4 : decode cX11_lawful 4 = .ok (.iload_n 1, 1) := by decide +kernel
theorem dX11_lawful_5 : decode cX11_lawful 5 = .ok (.bipush 8, 2) := by decide +kernel
theorem dX11_lawful_7 : decode cX11_lawful 7 = .ok (.if_icmp .lt 5, 3) := by decide +kernel
theorem dX11_lawful_10 : decode cX11_lawful 10 = .ok (.iconst (-1), 1) := by decide +kernel
theorem dX11_lawful_11 : decode cX11_lawful 11 = .ok (.ireturn, 1) := by decide +kernel
theorem dX11_lawful_12 : decode cX11_lawful 12 = .ok (.aload_n 0, 1) := by decide +kernel
theorem dX11_lawful_13 : decode cX11_lawful 13 = .ok (.getfield 95, 3) := by decide +kernel
theorem dX11_lawful_16 : decode cX11_lawful 16 = .ok (.iload_n 1, 1) := by decide +kernel
theorem dX11_lawful_17 : decode cX11_lawful 17 = .ok (.iaload, 1) := by decide +kernel
theorem dX11_lawful_18 : decode cX11_lawful 18 = .ok (.aload_n 0, 1) := by decide +kernel
theorem dX11_lawful_19 : decode cX11_lawful 19 = .ok (.getfield 42, 3) := by decide +kernel
theorem dX11_lawful_22 : decode cX11_lawful 22 = .ok (.aload_n 0, 1) := by decide +kernel
theorem dX11_lawful_23 : decode cX11_lawful 23 = .ok (.getfield 88, 3) := by decide +kernel
theorem dX11_lawful_26 : decode cX11_lawful 26 = .ok (.getfield 122, 3) := by decide +kernel
theorem dX11_lawful_29 : decode cX11_lawful 29 = .ok (.invokevirtual 185, 3) := by decide +kernel
theorem dX11_lawful_32 : decode cX11_lawful 32 = .ok (.iand, 1) := by decide +kernel
theorem dX11_lawful_33 : decode cX11_lawful 33 = .ok (.ifCond .ne 7, 3) := by decide +kernel
theorem dX11_lawful_36 : decode cX11_lawful 36 = .ok (.iconst 1, 1) := by decide +kernel
theorem dX11_lawful_37 : decode cX11_lawful 37 = .ok (.goto 4, 3) := by decide +kernel
theorem dX11_lawful_40 : decode cX11_lawful 40 = .ok (.iconst 0, 1) := by decide +kernel
theorem dX11_lawful_41 : decode cX11_lawful 41 = .ok (.ireturn, 1) := by decide +kernel
theorem dX11_toldDeedsAreFine_0 : decode cX11_toldDeedsAreFine 0 = .ok (.iconst 0, 1) := by decide +kernel
theorem dX11_toldDeedsAreFine_1 : decode cX11_toldDeedsAreFine 1 = .ok (.istore_n 2, 1) := by decide +kernel
theorem dX11_toldDeedsAreFine_2 : decode cX11_toldDeedsAreFine 2 = .ok (.iload_n 2, 1) := by decide +kernel
theorem dX11_toldDeedsAreFine_3 : decode cX11_toldDeedsAreFine 3 = .ok (.iload_n 1, 1) := by decide +kernel
theorem dX11_toldDeedsAreFine_4 : decode cX11_toldDeedsAreFine 4 = .ok (.if_icmp .ge 48, 3) := by decide +kernel
theorem dX11_toldDeedsAreFine_7 : decode cX11_toldDeedsAreFine 7 = .ok (.aload_n 0, 1) := by decide +kernel
theorem dX11_toldDeedsAreFine_8 : decode cX11_toldDeedsAreFine 8 = .ok (.getfield 10, 3) := by decide +kernel
theorem dX11_toldDeedsAreFine_11 : decode cX11_toldDeedsAreFine 11 = .ok (.iconst 2, 1) := by decide +kernel
theorem dX11_toldDeedsAreFine_12 : decode cX11_toldDeedsAreFine 12 = .ok (.iload_n 2, 1) := by decide +kernel
theorem dX11_toldDeedsAreFine_13 : decode cX11_toldDeedsAreFine 13 = .ok (.imul, 1) := by decide +kernel
theorem dX11_toldDeedsAreFine_14 : decode cX11_toldDeedsAreFine 14 = .ok (.invokevirtual 303, 3) := by decide +kernel
theorem dX11_toldDeedsAreFine_17 : decode cX11_toldDeedsAreFine 17 = .ok (.bipush 7, 2) := by decide +kernel
theorem dX11_toldDeedsAreFine_19 : decode cX11_toldDeedsAreFine 19 = .ok (.invokestatic 102, 3) := by decide +kernel
theorem dX11_toldDeedsAreFine_22 : decode cX11_toldDeedsAreFine 22 = .ok (.ifCond .eq 22, 3) := by decide +kernel
theorem dX11_toldDeedsAreFine_25 : decode cX11_toldDeedsAreFine 25 = .ok (.aload_n 0, 1) := by decide +kernel
theorem dX11_toldDeedsAreFine_26 : decode cX11_toldDeedsAreFine 26 = .ok (.getfield 10, 3) := by decide +kernel
theorem dX11_toldDeedsAreFine_29 : decode cX11_toldDeedsAreFine 29 = .ok (.iconst 2, 1) := by decide +kernel
theorem dX11_toldDeedsAreFine_30 : decode cX11_toldDeedsAreFine 30 = .ok (.iload_n 2, 1) := by decide +kernel
theorem dX11_toldDeedsAreFine_31 : decode cX11_toldDeedsAreFine 31 = .ok (.imul, 1) := by decide +kernel
theorem dX11_toldDeedsAreFine_32 : decode cX11_toldDeedsAreFine 32 = .ok (.iconst 1, 1) := by decide +kernel
theorem dX11_toldDeedsAreFine_33 : decode cX11_toldDeedsAreFine 33 = .ok (.iadd, 1) := by decide +kernel
theorem dX11_toldDeedsAreFine_34 : decode cX11_toldDeedsAreFine 34 = .ok (.invokevirtual 303, 3) := by decide +kernel
theorem dX11_toldDeedsAreFine_37 : decode cX11_toldDeedsAreFine 37 = .ok (.iconst 1, 1) := by decide +kernel
theorem dX11_toldDeedsAreFine_38 : decode cX11_toldDeedsAreFine 38 = .ok (.invokestatic 102, 3) := by decide +kernel
theorem dX11_toldDeedsAreFine_41 : decode cX11_toldDeedsAreFine 41 = .ok (.ifCond .ne 5, 3) := by decide +kernel
theorem dX11_toldDeedsAreFine_44 : decode cX11_toldDeedsAreFine 44 = .ok (.iconst 0, 1) := by decide +kernel
theorem dX11_toldDeedsAreFine_45 : decode cX11_toldDeedsAreFine 45 = .ok (.ireturn, 1) := by decide +kernel
theorem dX11_toldDeedsAreFine_46 : decode cX11_toldDeedsAreFine 46 = .ok (.iinc 2 1, 3) := by decide +kernel
theorem dX11_toldDeedsAreFine_49 : decode cX11_toldDeedsAreFine 49 = .ok (.goto (-47), 3) := by decide +kernel
theorem dX11_toldDeedsAreFine_52 : decode cX11_toldDeedsAreFine 52 = .ok (.iconst 1, 1) := by decide +kernel
theorem dX11_toldDeedsAreFine_53 : decode cX11_toldDeedsAreFine 53 = .ok (.ireturn, 1) := by decide +kernel
theorem dX11_fitsTold_0 : decode cX11_fitsTold 0 = .ok (.iconst 0, 1) := by decide +kernel
theorem dX11_fitsTold_1 : decode cX11_fitsTold 1 = .ok (.istore_n 3, 1) := by decide +kernel
theorem dX11_fitsTold_2 : decode cX11_fitsTold 2 = .ok (.iload_n 3, 1) := by decide +kernel
theorem dX11_fitsTold_3 : decode cX11_fitsTold 3 = .ok (.iload_n 2, 1) := by decide +kernel
theorem dX11_fitsTold_4 : decode cX11_fitsTold 4 = .ok (.if_icmp .ge 73, 3) := by decide +kernel
theorem dX11_fitsTold_7 : decode cX11_fitsTold 7 = .ok (.aload_n 0, 1) := by decide +kernel
theorem dX11_fitsTold_8 : decode cX11_fitsTold 8 = .ok (.getfield 10, 3) := by decide +kernel
theorem dX11_fitsTold_11 : decode cX11_fitsTold 11 = .ok (.iconst 2, 1) := by decide +kernel
theorem dX11_fitsTold_12 : decode cX11_fitsTold 12 = .ok (.iload_n 3, 1) := by decide +kernel
theorem dX11_fitsTold_13 : decode cX11_fitsTold 13 = .ok (.imul, 1) := by decide +kernel
theorem dX11_fitsTold_14 : decode cX11_fitsTold 14 = .ok (.invokevirtual 303, 3) := by decide +kernel
theorem dX11_fitsTold_17 : decode cX11_fitsTold 17 = .ok (.istore 4, 2) := by decide +kernel
theorem dX11_fitsTold_19 : decode cX11_fitsTold 19 = .ok (.iload 4, 2) := by decide +kernel
theorem dX11_fitsTold_21 : decode cX11_fitsTold 21 = .ok (.ifCond .lt 10, 3) := by decide +kernel
theorem dX11_fitsTold_24 : decode cX11_fitsTold 24 = .ok (.iload 4, 2) := by decide +kernel
theorem dX11_fitsTold_26 : decode cX11_fitsTold 26 = .ok (.bipush 8, 2) := by decide +kernel
theorem dX11_fitsTold_28 : decode cX11_fitsTold 28 = .ok (.if_icmp .lt 5, 3) := by decide +kernel
theorem dX11_fitsTold_31 : decode cX11_fitsTold 31 = .ok (.iconst 0, 1) := by decide +kernel
theorem dX11_fitsTold_32 : decode cX11_fitsTold 32 = .ok (.ireturn, 1) := by decide +kernel
theorem dX11_fitsTold_33 : decode cX11_fitsTold 33 = .ok (.aload_n 0, 1) := by decide +kernel
theorem dX11_fitsTold_34 : decode cX11_fitsTold 34 = .ok (.getfield 95, 3) := by decide +kernel
theorem dX11_fitsTold_37 : decode cX11_fitsTold 37 = .ok (.iload 4, 2) := by decide +kernel
theorem dX11_fitsTold_39 : decode cX11_fitsTold 39 = .ok (.iaload, 1) := by decide +kernel
theorem dX11_fitsTold_40 : decode cX11_fitsTold 40 = .ok (.iload_n 1, 1) := by decide +kernel
theorem dX11_fitsTold_41 : decode cX11_fitsTold 41 = .ok (.iand, 1) := by decide +kernel
theorem dX11_fitsTold_42 : decode cX11_fitsTold 42 = .ok (.ifCond .ne 7, 3) := by decide +kernel
theorem dX11_fitsTold_45 : decode cX11_fitsTold 45 = .ok (.iconst 1, 1) := by decide +kernel
theorem dX11_fitsTold_46 : decode cX11_fitsTold 46 = .ok (.goto 4, 3) := by decide +kernel
theorem dX11_fitsTold_49 : decode cX11_fitsTold 49 = .ok (.iconst 0, 1) := by decide +kernel
theorem dX11_fitsTold_50 : decode cX11_fitsTold 50 = .ok (.istore 5, 2) := by decide +kernel
theorem dX11_fitsTold_52 : decode cX11_fitsTold 52 = .ok (.iload 5, 2) := by decide +kernel
theorem dX11_fitsTold_54 : decode cX11_fitsTold 54 = .ok (.aload_n 0, 1) := by decide +kernel
theorem dX11_fitsTold_55 : decode cX11_fitsTold 55 = .ok (.getfield 10, 3) := by decide +kernel
theorem dX11_fitsTold_58 : decode cX11_fitsTold 58 = .ok (.iconst 2, 1) := by decide +kernel
theorem dX11_fitsTold_59 : decode cX11_fitsTold 59 = .ok (.iload_n 3, 1) := by decide +kernel
theorem dX11_fitsTold_60 : decode cX11_fitsTold 60 = .ok (.imul, 1) := by decide +kernel
theorem dX11_fitsTold_61 : decode cX11_fitsTold 61 = .ok (.iconst 1, 1) := by decide +kernel
theorem dX11_fitsTold_62 : decode cX11_fitsTold 62 = .ok (.iadd, 1) := by decide +kernel
theorem dX11_fitsTold_63 : decode cX11_fitsTold 63 = .ok (.invokevirtual 303, 3) := by decide +kernel
theorem dX11_fitsTold_66 : decode cX11_fitsTold 66 = .ok (.if_icmp .eq 5, 3) := by decide +kernel
theorem dX11_fitsTold_69 : decode cX11_fitsTold 69 = .ok (.iconst 0, 1) := by decide +kernel
theorem dX11_fitsTold_70 : decode cX11_fitsTold 70 = .ok (.ireturn, 1) := by decide +kernel
theorem dX11_fitsTold_71 : decode cX11_fitsTold 71 = .ok (.iinc 3 1, 3) := by decide +kernel
theorem dX11_fitsTold_74 : decode cX11_fitsTold 74 = .ok (.goto (-72), 3) := by decide +kernel
theorem dX11_fitsTold_77 : decode cX11_fitsTold 77 = .ok (.iconst 1, 1) := by decide +kernel
theorem dX11_fitsTold_78 : decode cX11_fitsTold 78 = .ok (.ireturn, 1) := by decide +kernel
theorem dX11_reckonFits_0 : decode cX11_reckonFits 0 = .ok (.aload_n 0, 1) := by decide +kernel
theorem dX11_reckonFits_1 : decode cX11_reckonFits 1 = .ok (.getfield 19, 3) := by decide +kernel
theorem dX11_reckonFits_4 : decode cX11_reckonFits 4 = .ok (.aload_n 0, 1) := by decide +kernel
theorem dX11_reckonFits_5 : decode cX11_reckonFits 5 = .ok (.getfield 88, 3) := by decide +kernel
theorem dX11_reckonFits_8 : decode cX11_reckonFits 8 = .ok (.getfield 122, 3) := by decide +kernel
theorem dX11_reckonFits_11 : decode cX11_reckonFits 11 = .ok (.invokevirtual 277, 3) := by decide +kernel
theorem dX11_reckonFits_14 : decode cX11_reckonFits 14 = .ok (.istore_n 3, 1) := by decide +kernel
theorem dX11_reckonFits_15 : decode cX11_reckonFits 15 = .ok (.iconst 0, 1) := by decide +kernel
theorem dX11_reckonFits_16 : decode cX11_reckonFits 16 = .ok (.istore 4, 2) := by decide +kernel
theorem dX11_reckonFits_18 : decode cX11_reckonFits 18 = .ok (.sipush 255, 3) := by decide +kernel
theorem dX11_reckonFits_21 : decode cX11_reckonFits 21 = .ok (.istore 5, 2) := by decide +kernel
theorem dX11_reckonFits_23 : decode cX11_reckonFits 23 = .ok (.iconst 0, 1) := by decide +kernel
theorem dX11_reckonFits_24 : decode cX11_reckonFits 24 = .ok (.istore 6, 2) := by decide +kernel
theorem dX11_reckonFits_26 : decode cX11_reckonFits 26 = .ok (.iload_n 3, 1) := by decide +kernel
theorem dX11_reckonFits_27 : decode cX11_reckonFits 27 = .ok (.iconst 1, 1) := by decide +kernel
theorem dX11_reckonFits_28 : decode cX11_reckonFits 28 = .ok (.iadd, 1) := by decide +kernel
theorem dX11_reckonFits_29 : decode cX11_reckonFits 29 = .ok (.invokestatic 118, 3) := by decide +kernel
theorem dX11_reckonFits_32 : decode cX11_reckonFits 32 = .ok (.istore 7, 2) := by decide +kernel
theorem dX11_reckonFits_34 : decode cX11_reckonFits 34 = .ok (.iload_n 3, 1) := by decide +kernel
theorem dX11_reckonFits_35 : decode cX11_reckonFits 35 = .ok (.invokestatic 280, 3) := by decide +kernel
theorem dX11_reckonFits_38 : decode cX11_reckonFits 38 = .ok (.istore 8, 2) := by decide +kernel
theorem dX11_reckonFits_40 : decode cX11_reckonFits 40 = .ok (.iload 8, 2) := by decide +kernel
theorem dX11_reckonFits_42 : decode cX11_reckonFits 42 = .ok (.iload 7, 2) := by decide +kernel
theorem dX11_reckonFits_44 : decode cX11_reckonFits 44 = .ok (.if_icmp .ge 69, 3) := by decide +kernel
theorem dX11_reckonFits_47 : decode cX11_reckonFits 47 = .ok (.aload_n 0, 1) := by decide +kernel
theorem dX11_reckonFits_48 : decode cX11_reckonFits 48 = .ok (.getfield 42, 3) := by decide +kernel
theorem dX11_reckonFits_51 : decode cX11_reckonFits 51 = .ok (.iload 8, 2) := by decide +kernel
theorem dX11_reckonFits_53 : decode cX11_reckonFits 53 = .ok (.invokevirtual 283, 3) := by decide +kernel
theorem dX11_reckonFits_56 : decode cX11_reckonFits 56 = .ok (.ifCond .eq 51, 3) := by decide +kernel
theorem dX11_reckonFits_59 : decode cX11_reckonFits 59 = .ok (.aload_n 0, 1) := by decide +kernel
theorem dX11_reckonFits_60 : decode cX11_reckonFits 60 = .ok (.aload_n 0, 1) := by decide +kernel
theorem dX11_reckonFits_61 : decode cX11_reckonFits 61 = .ok (.getfield 42, 3) := by decide +kernel
theorem dX11_reckonFits_64 : decode cX11_reckonFits 64 = .ok (.iload 8, 2) := by decide +kernel
theorem dX11_reckonFits_66 : decode cX11_reckonFits 66 = .ok (.invokevirtual 185, 3) := by decide +kernel
theorem dX11_reckonFits_69 : decode cX11_reckonFits 69 = .ok (.iload_n 1, 1) := by decide +kernel
theorem dX11_reckonFits_70 : decode cX11_reckonFits 70 = .ok (.invokevirtual 306, 3) := by decide +kernel
theorem dX11_reckonFits_73 : decode cX11_reckonFits 73 = .ok (.ifCond .eq 34, 3) := by decide +kernel
theorem dX11_reckonFits_76 : decode cX11_reckonFits 76 = .ok (.iinc 4 1, 3) := by decide +kernel
theorem dX11_reckonFits_79 : decode cX11_reckonFits 79 = .ok (.iload 5, 2) := by decide +kernel
theorem dX11_reckonFits_81 : decode cX11_reckonFits 81 = .ok (.aload_n 0, 1) := by decide +kernel
theorem dX11_reckonFits_82 : decode cX11_reckonFits 82 = .ok (.getfield 19, 3) := by decide +kernel
theorem dX11_reckonFits_85 : decode cX11_reckonFits 85 = .ok (.iload 8, 2) := by decide +kernel
theorem dX11_reckonFits_87 : decode cX11_reckonFits 87 = .ok (.invokevirtual 286, 3) := by decide +kernel
theorem dX11_reckonFits_90 : decode cX11_reckonFits 90 = .ok (.iand, 1) := by decide +kernel
theorem dX11_reckonFits_91 : decode cX11_reckonFits 91 = .ok (.istore 5, 2) := by decide +kernel
theorem dX11_reckonFits_93 : decode cX11_reckonFits 93 = .ok (.iload 6, 2) := by decide +kernel
theorem dX11_reckonFits_95 : decode cX11_reckonFits 95 = .ok (.aload_n 0, 1) := by decide +kernel
theorem dX11_reckonFits_96 : decode cX11_reckonFits 96 = .ok (.getfield 19, 3) := by decide +kernel
theorem dX11_reckonFits_99 : decode cX11_reckonFits 99 = .ok (.iload 8, 2) := by decide +kernel
theorem dX11_reckonFits_101 : decode cX11_reckonFits 101 = .ok (.invokevirtual 286, 3) := by decide +kernel
theorem dX11_reckonFits_104 : decode cX11_reckonFits 104 = .ok (.ior, 1) := by decide +kernel
theorem dX11_reckonFits_105 : decode cX11_reckonFits 105 = .ok (.istore 6, 2) := by decide +kernel
theorem dX11_reckonFits_107 : decode cX11_reckonFits 107 = .ok (.iinc 8 1, 3) := by decide +kernel
theorem dX11_reckonFits_110 : decode cX11_reckonFits 110 = .ok (.goto (-70), 3) := by decide +kernel
theorem dX11_reckonFits_113 : decode cX11_reckonFits 113 = .ok (.iload_n 2, 1) := by decide +kernel
theorem dX11_reckonFits_114 : decode cX11_reckonFits 114 = .ok (.ifCond .eq 8, 3) := by decide +kernel
theorem dX11_reckonFits_117 : decode cX11_reckonFits 117 = .ok (.iload 4, 2) := by decide +kernel
theorem dX11_reckonFits_119 : decode cX11_reckonFits 119 = .ok (.ifCond .ne 6, 3) := by decide +kernel
theorem dX11_reckonFits_122 : decode cX11_reckonFits 122 = .ok (.iload 4, 2) := by decide +kernel
theorem dX11_reckonFits_124 : decode cX11_reckonFits 124 = .ok (.ireturn, 1) := by decide +kernel
theorem dX11_reckonFits_125 : decode cX11_reckonFits 125 = .ok (.iload_n 2, 1) := by decide +kernel
theorem dX11_reckonFits_126 : decode cX11_reckonFits 126 = .ok (.iconst 1, 1) := by decide +kernel
theorem dX11_reckonFits_127 : decode cX11_reckonFits 127 = .ok (.if_icmp .ne 8, 3) := by decide +kernel
theorem dX11_reckonFits_130 : decode cX11_reckonFits 130 = .ok (.iload 5, 2) := by decide +kernel
theorem dX11_reckonFits_132 : decode cX11_reckonFits 132 = .ok (.goto 15, 3) := by decide +kernel
theorem dX11_reckonFits_135 : decode cX11_reckonFits 135 = .ok (.aload_n 0, 1) := by decide +kernel
theorem dX11_reckonFits_136 : decode cX11_reckonFits 136 = .ok (.getfield 42, 3) := by decide +kernel
theorem dX11_reckonFits_139 : decode cX11_reckonFits 139 = .ok (.invokevirtual 309, 3) := by decide +kernel
theorem dX11_reckonFits_142 : decode cX11_reckonFits 142 = .ok (.iload 6, 2) := by decide +kernel
theorem dX11_reckonFits_144 : decode cX11_reckonFits 144 = .ok (.iconst (-1), 1) := by decide +kernel
theorem dX11_reckonFits_145 : decode cX11_reckonFits 145 = .ok (.ixor, 1) := by decide +kernel
theorem dX11_reckonFits_146 : decode cX11_reckonFits 146 = .ok (.iand, 1) := by decide +kernel
theorem dX11_reckonFits_147 : decode cX11_reckonFits 147 = .ok (.ireturn, 1) := by decide +kernel
theorem dX11_fits_0 : decode cX11_fits 0 = .ok (.iload_n 1, 1) := by decide +kernel
theorem dX11_fits_1 : decode cX11_fits 1 = .ok (.bipush 20, 2) := by decide +kernel
theorem dX11_fits_3 : decode cX11_fits 3 = .ok (.invokestatic 102, 3) := by decide +kernel
theorem dX11_fits_6 : decode cX11_fits 6 = .ok (.ifCond .eq 24, 3) := by decide +kernel
theorem dX11_fits_9 : decode cX11_fits 9 = .ok (.iload_n 2, 1) := by decide +kernel
theorem dX11_fits_10 : decode cX11_fits 10 = .ok (.iconst 2, 1) := by decide +kernel
theorem dX11_fits_11 : decode cX11_fits 11 = .ok (.invokestatic 102, 3) := by decide +kernel
theorem dX11_fits_14 : decode cX11_fits 14 = .ok (.ifCond .eq 16, 3) := by decide +kernel
theorem dX11_fits_17 : decode cX11_fits 17 = .ok (.iconst 2, 1) := by decide +kernel
theorem dX11_fits_18 : decode cX11_fits 18 = .ok (.iload_n 1, 1) := by decide +kernel
theorem dX11_fits_19 : decode cX11_fits 19 = .ok (.imul, 1) := by decide +kernel
theorem dX11_fits_20 : decode cX11_fits 20 = .ok (.aload_n 0, 1) := by decide +kernel
theorem dX11_fits_21 : decode cX11_fits 21 = .ok (.getfield 10, 3) := by decide +kernel
theorem dX11_fits_24 : decode cX11_fits 24 = .ok (.invokevirtual 129, 3) := by decide +kernel
theorem dX11_fits_27 : decode cX11_fits 27 = .ok (.if_icmp .le 5, 3) := by decide +kernel
theorem dX11_fits_30 : decode cX11_fits 30 = .ok (.iconst (-1), 1) := by decide +kernel
theorem dX11_fits_31 : decode cX11_fits 31 = .ok (.ireturn, 1) := by decide +kernel
theorem dX11_fits_32 : decode cX11_fits 32 = .ok (.aload_n 0, 1) := by decide +kernel
theorem dX11_fits_33 : decode cX11_fits 33 = .ok (.iload_n 1, 1) := by decide +kernel
theorem dX11_fits_34 : decode cX11_fits 34 = .ok (.invokevirtual 297, 3) := by decide +kernel
theorem dX11_fits_37 : decode cX11_fits 37 = .ok (.ifCond .eq 12, 3) := by decide +kernel
theorem dX11_fits_40 : decode cX11_fits 40 = .ok (.aload_n 0, 1) := by decide +kernel
theorem dX11_fits_41 : decode cX11_fits 41 = .ok (.iload_n 1, 1) := by decide +kernel
theorem dX11_fits_42 : decode cX11_fits 42 = .ok (.iload_n 2, 1) := by decide +kernel
theorem dX11_fits_43 : decode cX11_fits 43 = .ok (.invokevirtual 300, 3) := by decide +kernel
theorem dX11_fits_46 : decode cX11_fits 46 = .ok (.goto 5, 3) := by decide +kernel
theorem dX11_fits_49 : decode cX11_fits 49 = .ok (.bipush (-2), 2) := by decide +kernel
theorem dX11_fits_51 : decode cX11_fits 51 = .ok (.istore_n 3, 1) := by decide +kernel
theorem dX11_fits_52 : decode cX11_fits 52 = .ok (.aload_n 0, 1) := by decide +kernel
theorem dX11_fits_53 : decode cX11_fits 53 = .ok (.getfield 10, 3) := by decide +kernel
theorem dX11_fits_56 : decode cX11_fits 56 = .ok (.invokevirtual 136, 3) := by decide +kernel
theorem dX11_fits_59 : decode cX11_fits 59 = .ok (.iload_n 3, 1) := by decide +kernel
theorem dX11_fits_60 : decode cX11_fits 60 = .ok (.ireturn, 1) := by decide +kernel
theorem dX11_seed_0 : decode cX11_seed 0 = .ok (.iload_n 1, 1) := by decide +kernel
theorem dX11_seed_1 : decode cX11_seed 1 = .ok (.ldc 174, 2) := by decide +kernel
theorem dX11_seed_3 : decode cX11_seed 3 = .ok (.invokestatic 102, 3) := by decide +kernel
theorem dX11_seed_6 : decode cX11_seed 6 = .ok (.ifCond .ne 5, 3) := by decide +kernel
theorem dX11_seed_9 : decode cX11_seed 9 = .ok (.iconst 0, 1) := by decide +kernel
theorem dX11_seed_10 : decode cX11_seed 10 = .ok (.ireturn, 1) := by decide +kernel
theorem dX11_seed_11 : decode cX11_seed 11 = .ok (.aload_n 0, 1) := by decide +kernel
theorem dX11_seed_12 : decode cX11_seed 12 = .ok (.getfield 88, 3) := by decide +kernel
theorem dX11_seed_15 : decode cX11_seed 15 = .ok (.iload_n 1, 1) := by decide +kernel
theorem dX11_seed_16 : decode cX11_seed 16 = .ok (.putfield 175, 3) := by decide +kernel
theorem dX11_seed_19 : decode cX11_seed 19 = .ok (.iconst 1, 1) := by decide +kernel
theorem dX11_seed_20 : decode cX11_seed 20 = .ok (.ireturn, 1) := by decide +kernel
theorem dX11_draw_0 : decode cX11_draw 0 = .ok (.iload_n 1, 1) := by decide +kernel
theorem dX11_draw_1 : decode cX11_draw 1 = .ok (.iconst 1, 1) := by decide +kernel
theorem dX11_draw_2 : decode cX11_draw 2 = .ok (.if_icmp .lt 9, 3) := by decide +kernel
theorem dX11_draw_5 : decode cX11_draw 5 = .ok (.iload_n 1, 1) := by decide +kernel
theorem dX11_draw_6 : decode cX11_draw 6 = .ok (.bipush 100, 2) := by decide +kernel
theorem dX11_draw_8 : decode cX11_draw 8 = .ok (.if_icmp .le 5, 3) := by decide +kernel
theorem dX11_draw_11 : decode cX11_draw 11 = .ok (.iconst (-1), 1) := by decide +kernel
theorem dX11_draw_12 : decode cX11_draw 12 = .ok (.ireturn, 1) := by decide +kernel
theorem dX11_draw_13 : decode cX11_draw 13 = .ok (.iconst 0, 1) := by decide +kernel
theorem dX11_draw_14 : decode cX11_draw 14 = .ok (.istore_n 2, 1) := by decide +kernel
theorem dX11_draw_15 : decode cX11_draw 15 = .ok (.iconst 0, 1) := by decide +kernel
theorem dX11_draw_16 : decode cX11_draw 16 = .ok (.istore_n 3, 1) := by decide +kernel
theorem dX11_draw_17 : decode cX11_draw 17 = .ok (.iload_n 3, 1) := by decide +kernel
theorem dX11_draw_18 : decode cX11_draw 18 = .ok (.iload_n 1, 1) := by decide +kernel
theorem dX11_draw_19 : decode cX11_draw 19 = .ok (.if_icmp .ge 82, 3) := by decide +kernel
theorem dX11_draw_22 : decode cX11_draw 22 = .ok (.aload_n 0, 1) := by decide +kernel
theorem dX11_draw_23 : decode cX11_draw 23 = .ok (.getfield 88, 3) := by decide +kernel
theorem dX11_draw_26 : decode cX11_draw 26 = .ok (.sipush 25173, 3) := by decide +kernel
theorem dX11_draw_29 : decode cX11_draw 29 = .ok (.aload_n 0, 1) := by decide +kernel
theorem dX11_draw_30 : decode cX11_draw 30 = .ok (.getfield 88, 3) := by decide +kernel
theorem dX11_draw_33 : decode cX11_draw 33 = .ok (.getfield 175, 3) := by decide +kernel
theorem dX11_draw_36 : decode cX11_draw 36 = .ok (.imul, 1) := by decide +kernel
theorem dX11_draw_37 : decode cX11_draw 37 = .ok (.sipush 13849, 3) := by decide +kernel
theorem dX11_draw_40 : decode cX11_draw 40 = .ok (.iadd, 1) := by decide +kernel
theorem dX11_draw_41 : decode cX11_draw 41 = .ok (.ldc 204, 2) := by decide +kernel
theorem dX11_draw_43 : decode cX11_draw 43 = .ok (.irem, 1) := by decide +kernel
theorem dX11_draw_44 : decode cX11_draw 44 = .ok (.putfield 175, 3) := by decide +kernel
theorem dX11_draw_47 : decode cX11_draw 47 = .ok (.aload_n 0, 1) := by decide +kernel
theorem dX11_draw_48 : decode cX11_draw 48 = .ok (.getfield 88, 3) := by decide +kernel
theorem dX11_draw_51 : decode cX11_draw 51 = .ok (.getfield 175, 3) := by decide +kernel
theorem dX11_draw_54 : decode cX11_draw 54 = .ok (.iconst 4, 1) := by decide +kernel
theorem dX11_draw_55 : decode cX11_draw 55 = .ok (.irem, 1) := by decide +kernel
theorem dX11_draw_56 : decode cX11_draw 56 = .ok (.istore 4, 2) := by decide +kernel
theorem dX11_draw_58 : decode cX11_draw 58 = .ok (.aload_n 0, 1) := by decide +kernel
theorem dX11_draw_59 : decode cX11_draw 59 = .ok (.getfield 51, 3) := by decide +kernel
theorem dX11_draw_62 : decode cX11_draw 62 = .ok (.iload 4, 2) := by decide +kernel
theorem dX11_draw_64 : decode cX11_draw 64 = .ok (.aload_n 0, 1) := by decide +kernel
theorem dX11_draw_65 : decode cX11_draw 65 = .ok (.getfield 88, 3) := by decide +kernel
theorem dX11_draw_68 : decode cX11_draw 68 = .ok (.getfield 122, 3) := by decide +kernel
theorem dX11_draw_71 : decode cX11_draw 71 = .ok (.invokevirtual 192, 3) := by decide +kernel
theorem dX11_draw_74 : decode cX11_draw 74 = .ok (.istore 5, 2) := by decide +kernel
theorem dX11_draw_76 : decode cX11_draw 76 = .ok (.iload 5, 2) := by decide +kernel
theorem dX11_draw_78 : decode cX11_draw 78 = .ok (.bipush 8, 2) := by decide +kernel
theorem dX11_draw_80 : decode cX11_draw 80 = .ok (.if_icmp .eq 6, 3) := by decide +kernel
theorem dX11_draw_83 : decode cX11_draw 83 = .ok (.iinc 2 1, 3) := by decide +kernel
theorem dX11_draw_86 : decode cX11_draw 86 = .ok (.aload_n 0, 1) := by decide +kernel
theorem dX11_draw_87 : decode cX11_draw 87 = .ok (.iload 4, 2) := by decide +kernel
theorem dX11_draw_89 : decode cX11_draw 89 = .ok (.iload 5, 2) := by decide +kernel
theorem dX11_draw_91 : decode cX11_draw 91 = .ok (.invokevirtual 201, 3) := by decide +kernel
theorem dX11_draw_94 : decode cX11_draw 94 = .ok (.pop, 1) := by decide +kernel
theorem dX11_draw_95 : decode cX11_draw 95 = .ok (.iinc 3 1, 3) := by decide +kernel
theorem dX11_draw_98 : decode cX11_draw 98 = .ok (.goto (-81), 3) := by decide +kernel
theorem dX11_draw_101 : decode cX11_draw 101 = .ok (.iload_n 2, 1) := by decide +kernel
theorem dX11_draw_102 : decode cX11_draw 102 = .ok (.ireturn, 1) := by decide +kernel
theorem dX11_book_0 : decode cX11_book 0 = .ok (.iload_n 1, 1) := by decide +kernel
theorem dX11_book_1 : decode cX11_book 1 = .ok (.ifCond .lt 28, 3) := by decide +kernel
theorem dX11_book_4 : decode cX11_book 4 = .ok (.iload_n 1, 1) := by decide +kernel
theorem dX11_book_5 : decode cX11_book 5 = .ok (.aload_n 0, 1) := by decide +kernel
theorem dX11_book_6 : decode cX11_book 6 = .ok (.getfield 88, 3) := by decide +kernel
theorem dX11_book_9 : decode cX11_book 9 = .ok (.getfield 223, 3) := by decide +kernel
theorem dX11_book_12 : decode cX11_book 12 = .ok (.if_icmp .ge 17, 3) := by decide +kernel
theorem dX11_book_15 : decode cX11_book 15 = .ok (.iload_n 1, 1) := by decide +kernel
theorem dX11_book_16 : decode cX11_book 16 = .ok (.bipush 100, 2) := by decide +kernel
theorem dX11_book_18 : decode cX11_book 18 = .ok (.if_icmp .ge 11, 3) := by decide +kernel
theorem dX11_book_21 : decode cX11_book 21 = .ok (.iload_n 2, 1) := by decide +kernel
theorem dX11_book_22 : decode cX11_book 22 = .ok (.iconst 3, 1) := by decide +kernel
theorem dX11_book_23 : decode cX11_book 23 = .ok (.invokestatic 102, 3) := by decide +kernel
theorem dX11_book_26 : decode cX11_book 26 = .ok (.ifCond .ne 5, 3) := by decide +kernel
theorem dX11_book_29 : decode cX11_book 29 = .ok (.iconst (-1), 1) := by decide +kernel
theorem dX11_book_30 : decode cX11_book 30 = .ok (.ireturn, 1) := by decide +kernel
theorem dX11_book_31 : decode cX11_book 31 = .ok (.aload_n 0, 1) := by decide +kernel
theorem dX11_book_32 : decode cX11_book 32 = .ok (.getfield 99, 3) := by decide +kernel
theorem dX11_book_35 : decode cX11_book 35 = .ok (.iload_n 1, 1) := by decide +kernel
theorem dX11_book_36 : decode cX11_book 36 = .ok (.iconst 4, 1) := by decide +kernel
theorem dX11_book_37 : decode cX11_book 37 = .ok (.imul, 1) := by decide +kernel
theorem dX11_book_38 : decode cX11_book 38 = .ok (.iload_n 2, 1) := by decide +kernel
theorem dX11_book_39 : decode cX11_book 39 = .ok (.iadd, 1) := by decide +kernel
theorem dX11_book_40 : decode cX11_book 40 = .ok (.iaload, 1) := by decide +kernel
theorem dX11_book_41 : decode cX11_book 41 = .ok (.ireturn, 1) := by decide +kernel
theorem dX8_copyFrom_0 : decode cX8_copyFrom 0 = .ok (.aload_n 0, 1) := by decide +kernel
theorem dX8_copyFrom_1 : decode cX8_copyFrom 1 = .ok (.aload_n 1, 1) := by decide +kernel
theorem dX8_copyFrom_2 : decode cX8_copyFrom 2 = .ok (.getfield 13, 3) := by decide +kernel
theorem dX8_copyFrom_5 : decode cX8_copyFrom 5 = .ok (.putfield 13, 3) := by decide +kernel
theorem dX8_copyFrom_8 : decode cX8_copyFrom 8 = .ok (.aload_n 0, 1) := by decide +kernel
theorem dX8_copyFrom_9 : decode cX8_copyFrom 9 = .ok (.aload_n 1, 1) := by decide +kernel
theorem dX8_copyFrom_10 : decode cX8_copyFrom 10 = .ok (.getfield 22, 3) := by decide +kernel
theorem dX8_copyFrom_13 : decode cX8_copyFrom 13 = .ok (.putfield 22, 3) := by decide +kernel
theorem dX8_copyFrom_16 : decode cX8_copyFrom 16 = .ok (.aload_n 0, 1) := by decide +kernel
theorem dX8_copyFrom_17 : decode cX8_copyFrom 17 = .ok (.aload_n 1, 1) := by decide +kernel
theorem dX8_copyFrom_18 : decode cX8_copyFrom 18 = .ok (.getfield 25, 3) := by decide +kernel
theorem dX8_copyFrom_21 : decode cX8_copyFrom 21 = .ok (.putfield 25, 3) := by decide +kernel
theorem dX8_copyFrom_24 : decode cX8_copyFrom 24 = .ok (.aload_n 0, 1) := by decide +kernel
theorem dX8_copyFrom_25 : decode cX8_copyFrom 25 = .ok (.aload_n 1, 1) := by decide +kernel
theorem dX8_copyFrom_26 : decode cX8_copyFrom 26 = .ok (.getfield 19, 3) := by decide +kernel
theorem dX8_copyFrom_29 : decode cX8_copyFrom 29 = .ok (.putfield 19, 3) := by decide +kernel
theorem dX8_copyFrom_32 : decode cX8_copyFrom 32 = .ok (.aload_n 0, 1) := by decide +kernel
theorem dX8_copyFrom_33 : decode cX8_copyFrom 33 = .ok (.aload_n 1, 1) := by decide +kernel
theorem dX8_copyFrom_34 : decode cX8_copyFrom 34 = .ok (.getfield 28, 3) := by decide +kernel
theorem dX8_copyFrom_37 : decode cX8_copyFrom 37 = .ok (.putfield 28, 3) := by decide +kernel
theorem dX8_copyFrom_40 : decode cX8_copyFrom 40 = .ok (.return_, 1) := by decide +kernel
theorem dX11_keep_0 : decode cX11_keep 0 = .ok (.aload_n 0, 1) := by decide +kernel
theorem dX11_keep_1 : decode cX11_keep 1 = .ok (.getfield 92, 3) := by decide +kernel
theorem dX11_keep_4 : decode cX11_keep 4 = .ok (.aload_n 0, 1) := by decide +kernel
theorem dX11_keep_5 : decode cX11_keep 5 = .ok (.getfield 88, 3) := by decide +kernel
theorem dX11_keep_8 : decode cX11_keep 8 = .ok (.invokevirtual 232, 3) := by decide +kernel
theorem dX11_keep_11 : decode cX11_keep 11 = .ok (.aload_n 0, 1) := by decide +kernel
theorem dX11_keep_12 : decode cX11_keep 12 = .ok (.iconst 1, 1) := by decide +kernel
theorem dX11_keep_13 : decode cX11_keep 13 = .ok (.putfield 125, 3) := by decide +kernel
theorem dX11_keep_16 : decode cX11_keep 16 = .ok (.aload_n 0, 1) := by decide +kernel
theorem dX11_keep_17 : decode cX11_keep 17 = .ok (.getfield 19, 3) := by decide +kernel
theorem dX11_keep_20 : decode cX11_keep 20 = .ok (.aload_n 0, 1) := by decide +kernel
theorem dX11_keep_21 : decode cX11_keep 21 = .ok (.getfield 88, 3) := by decide +kernel
theorem dX11_keep_24 : decode cX11_keep 24 = .ok (.getfield 122, 3) := by decide +kernel
theorem dX11_keep_27 : decode cX11_keep 27 = .ok (.invokevirtual 235, 3) := by decide +kernel
theorem dX11_keep_30 : decode cX11_keep 30 = .ok (.ireturn, 1) := by decide +kernel
/-! f_X0_stepsToQuiet -/
noncomputable def lp_X0_stepsToQuiet_9 (s0 : SS) : Nat → Int32 → Int32 → Int32 → Option Int32
  | 0, _, _, _ => none
  | n5 + 1, v2, v3, v4 => if (21392 : Int32) ≤ (v4 : Int32) then some v2 else if (v3 : Int32) < 0 then some v2 else if (21392 : Int32) ≤ (v3 : Int32) then some v2 else gd (inb v3 21392) (lt (s0 48 (Int32.toNatClampNeg v3)) (fun (v9 : Int32) => lp_X0_stepsToQuiet_9 s0 n5 (v2 + 1) v9 (v4 + 1)))
noncomputable def f_X0_stepsToQuiet  (s0 : SS) : Option Int32 := lt (s0 46 7) (fun (v1 : Int32) => lp_X0_stepsToQuiet_9 s0 FU ((-1)) v1 0)
set_option maxRecDepth 100000 in
set_option maxHeartbeats 4000000 in
theorem t_lp_X0_stepsToQuiet_9 {l : Launch} (s0 : SS)  : ∀ (n5 : Nat) (v2 : Int32) (v3 : Int32) (v4 : Int32), RC l wF RX0 cX0_stepsToQuiet 4 (some .int) 0 9 [.ref 46, .int v2, .int v3, .int v4] [] s0 (pu (lp_X0_stepsToQuiet_9 s0 n5 v2 v3 v4) s0) := by
  intro n5
  induction n5 with
  | zero =>
    intro v2 v3 v4
    rw [lp_X0_stepsToQuiet_9]
    exact p_none
  | succ n5 ih =>
    intro v2 v3 v4
    rw [lp_X0_stepsToQuiet_9]
    refine r_iload_n (pc1 := 10) (i := 3) dX0_stepsToQuiet_9 rfl rfl rfl ?_
    refine r_sipush (v := 21392) (pc1 := 13) dX0_stepsToQuiet_10 ks_21392 rfl ?_
    refine p_icmp_ge (tgt := 43) (pc1 := 16) dX0_stepsToQuiet_13 (by decide) rfl (fun q6 => ?_) (fun q6 => ?_)
    · refine r_iload_n (pc1 := 44) (i := 1) dX0_stepsToQuiet_43 rfl rfl rfl ?_
      exact p_iret rfl rfl dX0_stepsToQuiet_44
    · refine r_iload_n (pc1 := 17) (i := 2) dX0_stepsToQuiet_16 rfl rfl rfl ?_
      refine p_if_lt (tgt := 43) (pc1 := 20) dX0_stepsToQuiet_17 (by decide) rfl (fun q7 => ?_) (fun q7 => ?_)
      · refine r_iload_n (pc1 := 44) (i := 1) dX0_stepsToQuiet_43 rfl rfl rfl ?_
        exact p_iret rfl rfl dX0_stepsToQuiet_44
      · refine r_iload_n (pc1 := 21) (i := 2) dX0_stepsToQuiet_20 rfl rfl rfl ?_
        refine r_sipush (v := 21392) (pc1 := 24) dX0_stepsToQuiet_21 ks_21392 rfl ?_
        refine p_icmp_ge (tgt := 43) (pc1 := 27) dX0_stepsToQuiet_24 (by decide) rfl (fun q8 => ?_) (fun q8 => ?_)
        · refine r_iload_n (pc1 := 44) (i := 1) dX0_stepsToQuiet_43 rfl rfl rfl ?_
          exact p_iret rfl rfl dX0_stepsToQuiet_44
        · refine r_aload_n (pc1 := 28) (i := 0) dX0_stepsToQuiet_27 rfl rfl rfl ?_
          refine r_getR (pc1 := 31) w_46 gfX0_17 rfl dX0_stepsToQuiet_28 rfl ?_
          refine r_iload_n (pc1 := 32) (i := 2) dX0_stepsToQuiet_31 rfl rfl rfl ?_
          refine p_iald (pc1 := 33) w_48 dX0_stepsToQuiet_32 rfl ?_
          refine p_lt (fun v9 => ?_)
          refine r_istore_n (pc1 := 34) (i := 2) dX0_stepsToQuiet_33 rfl (by decide) rfl rfl rfl ?_
          refine r_iinc (pc1 := 37) dX0_stepsToQuiet_34 rfl (kn_1 _) (by decide) rfl rfl rfl ?_
          refine r_iinc (pc1 := 40) dX0_stepsToQuiet_37 rfl (kn_1 _) (by decide) rfl rfl rfl ?_
          refine r_goto (tgt := 9) dX0_stepsToQuiet_40 (by decide) ?_
          exact r_wk (ih (v2 + 1) v9 (v4 + 1)) ⟨Or.inr rfl, Or.inr rfl, Or.inr rfl, Or.inr rfl, trivial⟩
set_option maxRecDepth 100000 in
set_option maxHeartbeats 4000000 in
theorem c_X0_stepsToQuiet {l : Launch}  (s0 : SS) : Ct l wF yX0_stepsToQuiet cX0_stepsToQuiet 4 (some .int) 0 [.ref 46] s0 (pu (f_X0_stepsToQuiet s0) s0) := by
  refine ct_of (y := yX0_stepsToQuiet) plX0 (Nat.le_of_ble_eq_true rfl) ?_
  refine r_pad0 3 (L1 := [.ref 46, .null, .null, .null]) rfl ?_
  unfold f_X0_stepsToQuiet
  refine r_iconst (v := (-1)) (pc1 := 1) dX0_stepsToQuiet_0 ki_m1 rfl ?_
  refine r_istore_n (pc1 := 2) (i := 1) dX0_stepsToQuiet_1 rfl (by decide) rfl rfl rfl ?_
  refine r_aload_n (pc1 := 3) (i := 0) dX0_stepsToQuiet_2 rfl rfl rfl ?_
  refine r_getI (pc1 := 6) w_46 gfX0_70 rfl dX0_stepsToQuiet_3 rfl ?_
  refine p_lt (fun v1 => ?_)
  refine r_istore_n (pc1 := 7) (i := 2) dX0_stepsToQuiet_6 rfl (by decide) rfl rfl rfl ?_
  refine r_iconst (v := 0) (pc1 := 8) dX0_stepsToQuiet_7 ki_0 rfl ?_
  refine r_istore_n (pc1 := 9) (i := 3) dX0_stepsToQuiet_8 rfl (by decide) rfl rfl rfl ?_
  exact r_wk (t_lp_X0_stepsToQuiet_9 s0 FU ((-1)) v1 0) ⟨Or.inr rfl, Or.inr rfl, Or.inr rfl, Or.inr rfl, trivial⟩
/-! f_X0_solve -/
noncomputable def lp_X0_solve_212 (v18 : Int32) (v24 : Int32) (v27 : Int32) (v29 : Int32) (k33 : SS → Res) : Nat → Int32 → SS → Res
  | 0, _, _ => none
  | n36 + 1, v34, s35 => if (8 : Int32) ≤ (v34 : Int32) then k33 s35 else jn (fun (s38 : SS) => lp_X0_solve_212 v18 v24 v27 v29 k33 n36 (v34 + 1) s38) (fun (k39 : SS → Res) => if ((v27 >>> (v34 &&& 31)) &&& 1 : Int32) = (1 : Int32) then bdp (f_X6_behind v24 v34 s35) (fun (v41 : Int32) => gd (inb v18 21392) (bd (f_X0_comeTo v41 v29 (s35 47 (Int32.toNatClampNeg v18)) v34 s35) (fun (v42 : Int32) (s43 : SS) => k39 s43))) else k39 s35)
noncomputable def lp_X0_solve_115 (k15 : SS → Res) : Nat → Int32 → SS → Res
  | 0, _, _ => none
  | n20 + 1, v18, s19 => if (s19 46 6 : Int32) ≤ (v18 : Int32) then k15 s19 else if (21392 : Int32) ≤ (v18 : Int32) then k15 s19 else if (0 : Int32) ≤ (s19 46 7) then k15 s19 else gd (inb v18 21392) (gd (¬ (4 : Int32) = 0) (lt ((s19 47 (Int32.toNatClampNeg v18)) / 4) (fun (v24 : Int32) => gd (inb v18 21392) (gd (¬ (4 : Int32) = 0) (lt ((s19 47 (Int32.toNatClampNeg v18)) - (s19 47 (Int32.toNatClampNeg v18)) / 4 * 4) (fun (v25 : Int32) => bdp (f_X2_onTurn v25 s19) (fun (v26 : Int32) => bd (f_X10_mayOf v24 v26 s19) (fun (v27 : Int32) (s28 : SS) => bdp (f_X2_placeAfter v25 s28) (fun (v29 : Int32) => gd (inb v18 21392) (bd (f_X0_comeTo v24 v29 (s28 47 (Int32.toNatClampNeg v18)) 8 s28) (fun (v30 : Int32) (s31 : SS) => jn (fun (s32 : SS) => lp_X0_solve_115 k15 n20 (v18 + 1) s32) (fun (k33 : SS → Res) => lp_X0_solve_212 v18 v24 v27 v29 k33 FU 0 s31))))))))))))
noncomputable def f_X0_solve (a1 : Int32) (s0 : SS) : Res := jn (lts (up s0 46 9 a1) (fun (s2 : SS) => lts (up s2 46 10 (s2 52 0)) (fun (s3 : SS) => lts (up s3 46 11 (s3 52 1)) (fun (s4 : SS) => bdp (f_X6_lengthOf (s4 52 0) s4) (fun (v5 : Int32) => bdp (f_X6_bareOf v5 s4) (fun (v6 : Int32) => bdp (f_X6_bareOf (v5 + 1) s4) (fun (v7 : Int32) => bd (f_J7_fill_fda19_48 (v6 * 4) (v7 * 4) ((-1000000000)) s4) (fun (v8 : Int32) (s9 : SS) => lts (up s9 46 6 0) (fun (s10 : SS) => lts (up s10 46 7 ((-1))) (fun (s11 : SS) => bd (f_X0_comeTo (s11 52 0) (s11 52 1) ((-1)) 8 s11) (fun (v12 : Int32) (s13 : SS) => jn (fun (s14 : SS) => bdp (f_X0_stepsToQuiet s14) (fun (v16 : Int32) => lts (up s14 46 8 v16) (fun (s17 : SS) => some (0, s17)))) (fun (k15 : SS → Res) => lp_X0_solve_115 k15 FU 0 s13)))))))))))) (fun (k1 : Res) => if (s0 46 9 : Int32) = (a1 : Int32) then if (s0 46 10 : Int32) = (s0 52 0 : Int32) then if (s0 46 11 : Int32) = (s0 52 1 : Int32) then some (0, s0) else k1 else k1 else k1)
set_option maxRecDepth 100000 in
set_option maxHeartbeats 4000000 in
theorem t_lp_X0_solve_212 {l : Launch} (v18 : Int32) (v24 : Int32) (v27 : Int32) (v29 : Int32) (k33 : SS → Res) (hk33 : ∀ (s32 : SS), RC l wF RX0 cX0_solve 10 none 6 262 [.ref 46, .ref 52, .null, .null, .int v18, .null, .null, .null, .null, .null] [] s32 (k33 s32)) : ∀ (n36 : Nat) (v34 : Int32) (s35 : SS), RC l wF RX0 cX0_solve 10 none 6 212 [.ref 46, .ref 52, .null, .null, .int v18, .int v24, .null, .int v27, .int v29, .int v34] [] s35 (lp_X0_solve_212 v18 v24 v27 v29 k33 n36 v34 s35) := by
  intro n36
  induction n36 with
  | zero =>
    intro v34 s35
    rw [lp_X0_solve_212]
    exact r_none
  | succ n36 ih =>
    intro v34 s35
    rw [lp_X0_solve_212]
    refine r_iload (pc1 := 214) dX0_solve_212 rfl rfl ?_
    refine r_bipush (v := 8) (pc1 := 216) dX0_solve_214 kb_8 rfl ?_
    refine r_icmp_ge (tgt := 262) (pc1 := 219) dX0_solve_216 (by decide) rfl (fun q37 => ?_) (fun q37 => ?_)
    · exact r_wk (hk33 s35) ⟨Or.inr rfl, Or.inr rfl, Or.inl rfl, Or.inl rfl, Or.inr rfl, Or.inl rfl, Or.inl rfl, Or.inl rfl, Or.inl rfl, Or.inl rfl, trivial⟩
    · refine r_iload (pc1 := 221) dX0_solve_219 rfl rfl ?_
      refine r_iload (pc1 := 223) dX0_solve_221 rfl rfl ?_
      refine r_ishr (pc1 := 224) dX0_solve_223 rfl ?_
      refine r_iconst (v := 1) (pc1 := 225) dX0_solve_224 ki_1 rfl ?_
      refine r_iand (pc1 := 226) dX0_solve_225 rfl ?_
      refine r_iconst (v := 1) (pc1 := 227) dX0_solve_226 ki_1 rfl ?_
      refine r_jn (hyp := fun (k39 : SS → Res) => ∀ (s38 : SS), RC l wF RX0 cX0_solve 10 none 6 256 [.ref 46, .ref 52, .null, .null, .int v18, .int v24, .null, .int v27, .int v29, .int v34] [] s38 (k39 s38)) (fun s38 => ?_) (fun k39 hk39 => ?_)
      · refine r_iinc (pc1 := 259) dX0_solve_256 rfl (kn_1 _) (by decide) rfl rfl rfl ?_
        refine r_goto (tgt := 212) dX0_solve_259 (by decide) ?_
        exact r_wk (ih (v34 + 1) s38) ⟨Or.inr rfl, Or.inr rfl, Or.inl rfl, Or.inl rfl, Or.inr rfl, Or.inr rfl, Or.inl rfl, Or.inr rfl, Or.inr rfl, Or.inr rfl, trivial⟩
      · refine r_icmp_ne (tgt := 256) (pc1 := 230) dX0_solve_227 (by decide) rfl (fun q40 => ?_) (fun q40 => ?_)
        · refine r_aload_n (pc1 := 231) (i := 0) dX0_solve_230 rfl rfl rfl ?_
          refine r_aload_n (pc1 := 232) (i := 0) dX0_solve_231 rfl rfl rfl ?_
          refine r_getR (pc1 := 235) w_46 gfX0_27 rfl dX0_solve_232 rfl ?_
          refine r_iload (pc1 := 237) dX0_solve_235 rfl rfl ?_
          refine r_iload (pc1 := 239) dX0_solve_237 rfl rfl ?_
          refine r_callVp (pc1 := 242) (rv_of w_3 cl_6) lkX0_91 (c_X6_behind w_3 w_4 w_5 w_6 w_7 w_8 _ _ _) rfl rfl ⟨Nat.le_of_ble_eq_true rfl, Nat.le_of_ble_eq_true rfl⟩ (Nat.le_of_ble_eq_true rfl) dX0_solve_239 rfl (fun v41 => ?_)
          refine r_iload (pc1 := 244) dX0_solve_242 rfl rfl ?_
          refine r_aload_n (pc1 := 245) (i := 0) dX0_solve_244 rfl rfl rfl ?_
          refine r_getR (pc1 := 248) w_46 gfX0_13 rfl dX0_solve_245 rfl ?_
          refine r_iload (pc1 := 250) dX0_solve_248 rfl rfl ?_
          refine r_iald (pc1 := 251) w_47 dX0_solve_250 rfl ?_
          refine r_iload (pc1 := 253) dX0_solve_251 rfl rfl ?_
          refine r_callVv (pc1 := 256) (rv_of w_46 cl_0) lkX0_73 (c_X0_comeTo _ _ _ _ _) rfl rfl ⟨Nat.le_of_ble_eq_true rfl, Nat.le_of_ble_eq_true rfl⟩ (Nat.le_of_ble_eq_true rfl) dX0_solve_253 rfl (fun v42 s43 => ?_)
          exact r_wk (hk39 s43) ⟨Or.inr rfl, Or.inr rfl, Or.inl rfl, Or.inl rfl, Or.inr rfl, Or.inr rfl, Or.inl rfl, Or.inr rfl, Or.inr rfl, Or.inr rfl, trivial⟩
        · exact r_wk (hk39 s35) ⟨Or.inr rfl, Or.inr rfl, Or.inl rfl, Or.inl rfl, Or.inr rfl, Or.inr rfl, Or.inl rfl, Or.inr rfl, Or.inr rfl, Or.inr rfl, trivial⟩
set_option maxRecDepth 100000 in
set_option maxHeartbeats 4000000 in
theorem t_lp_X0_solve_115 {l : Launch} (k15 : SS → Res) (hk15 : ∀ (s14 : SS), RC l wF RX0 cX0_solve 10 none 6 268 [.ref 46, .ref 52, .null, .null, .null, .null, .null, .null, .null, .null] [] s14 (k15 s14)) : ∀ (n20 : Nat) (v18 : Int32) (s19 : SS), RC l wF RX0 cX0_solve 10 none 6 115 [.ref 46, .ref 52, .null, .null, .int v18, .null, .null, .null, .null, .null] [] s19 (lp_X0_solve_115 k15 n20 v18 s19) := by
  intro n20
  induction n20 with
  | zero =>
    intro v18 s19
    rw [lp_X0_solve_115]
    exact r_none
  | succ n20 ih =>
    intro v18 s19
    rw [lp_X0_solve_115]
    refine r_iload (pc1 := 117) dX0_solve_115 rfl rfl ?_
    refine r_aload_n (pc1 := 118) (i := 0) dX0_solve_117 rfl rfl rfl ?_
    refine r_getI (pc1 := 121) w_46 gfX0_67 rfl dX0_solve_118 rfl ?_
    refine r_icmp_ge (tgt := 268) (pc1 := 124) dX0_solve_121 (by decide) rfl (fun q21 => ?_) (fun q21 => ?_)
    · exact r_wk (hk15 s19) ⟨Or.inr rfl, Or.inr rfl, Or.inl rfl, Or.inl rfl, Or.inl rfl, Or.inl rfl, Or.inl rfl, Or.inl rfl, Or.inl rfl, Or.inl rfl, trivial⟩
    · refine r_iload (pc1 := 126) dX0_solve_124 rfl rfl ?_
      refine r_sipush (v := 21392) (pc1 := 129) dX0_solve_126 ks_21392 rfl ?_
      refine r_icmp_ge (tgt := 268) (pc1 := 132) dX0_solve_129 (by decide) rfl (fun q22 => ?_) (fun q22 => ?_)
      · exact r_wk (hk15 s19) ⟨Or.inr rfl, Or.inr rfl, Or.inl rfl, Or.inl rfl, Or.inl rfl, Or.inl rfl, Or.inl rfl, Or.inl rfl, Or.inl rfl, Or.inl rfl, trivial⟩
      · refine r_aload_n (pc1 := 133) (i := 0) dX0_solve_132 rfl rfl rfl ?_
        refine r_getI (pc1 := 136) w_46 gfX0_70 rfl dX0_solve_133 rfl ?_
        refine r_if_ge (tgt := 268) (pc1 := 139) dX0_solve_136 (by decide) rfl (fun q23 => ?_) (fun q23 => ?_)
        · exact r_wk (hk15 s19) ⟨Or.inr rfl, Or.inr rfl, Or.inl rfl, Or.inl rfl, Or.inl rfl, Or.inl rfl, Or.inl rfl, Or.inl rfl, Or.inl rfl, Or.inl rfl, trivial⟩
        · refine r_aload_n (pc1 := 140) (i := 0) dX0_solve_139 rfl rfl rfl ?_
          refine r_getR (pc1 := 143) w_46 gfX0_13 rfl dX0_solve_140 rfl ?_
          refine r_iload (pc1 := 145) dX0_solve_143 rfl rfl ?_
          refine r_iald (pc1 := 146) w_47 dX0_solve_145 rfl ?_
          refine r_iconst (v := 4) (pc1 := 147) dX0_solve_146 ki_4 rfl ?_
          refine r_idiv (pc1 := 148) dX0_solve_147 rfl ?_
          refine r_lt (fun v24 => ?_)
          refine r_istore (pc1 := 150) dX0_solve_148 (by decide) rfl rfl rfl ?_
          refine r_aload_n (pc1 := 151) (i := 0) dX0_solve_150 rfl rfl rfl ?_
          refine r_getR (pc1 := 154) w_46 gfX0_13 rfl dX0_solve_151 rfl ?_
          refine r_iload (pc1 := 156) dX0_solve_154 rfl rfl ?_
          refine r_iald (pc1 := 157) w_47 dX0_solve_156 rfl ?_
          refine r_iconst (v := 4) (pc1 := 158) dX0_solve_157 ki_4 rfl ?_
          refine r_irem (pc1 := 159) dX0_solve_158 rfl ?_
          refine r_lt (fun v25 => ?_)
          refine r_istore (pc1 := 161) dX0_solve_159 (by decide) rfl rfl rfl ?_
          refine r_aload_n (pc1 := 162) (i := 0) dX0_solve_161 rfl rfl rfl ?_
          refine r_getR (pc1 := 165) w_46 gfX0_31 rfl dX0_solve_162 rfl ?_
          refine r_iload (pc1 := 167) dX0_solve_165 rfl rfl ?_
          refine r_aload_n (pc1 := 168) (i := 0) dX0_solve_167 rfl rfl rfl ?_
          refine r_getR (pc1 := 171) w_46 gfX0_35 rfl dX0_solve_168 rfl ?_
          refine r_iload (pc1 := 173) dX0_solve_171 rfl rfl ?_
          refine r_callVp (pc1 := 176) (rv_of w_35 cl_2) lkX0_77 (c_X2_onTurn _ _) rfl rfl ⟨Nat.le_of_ble_eq_true rfl, Nat.le_of_ble_eq_true rfl⟩ (Nat.le_of_ble_eq_true rfl) dX0_solve_173 rfl (fun v26 => ?_)
          refine r_callVi (pc1 := 179) (rv_of w_27 cl_10) lkX0_82 (c_X10_mayOf _ _ _) rfl rfl ⟨Nat.le_of_ble_eq_true rfl, Nat.le_of_ble_eq_true rfl⟩ (Nat.le_of_ble_eq_true rfl) dX0_solve_176 rfl (fun v27 s28 => ?_)
          refine r_istore (pc1 := 181) dX0_solve_179 (by decide) rfl rfl rfl ?_
          refine r_aload_n (pc1 := 182) (i := 0) dX0_solve_181 rfl rfl rfl ?_
          refine r_getR (pc1 := 185) w_46 gfX0_35 rfl dX0_solve_182 rfl ?_
          refine r_iload (pc1 := 187) dX0_solve_185 rfl rfl ?_
          refine r_callVp (pc1 := 190) (rv_of w_35 cl_2) lkX0_88 (c_X2_placeAfter _ _) rfl rfl ⟨Nat.le_of_ble_eq_true rfl, Nat.le_of_ble_eq_true rfl⟩ (Nat.le_of_ble_eq_true rfl) dX0_solve_187 rfl (fun v29 => ?_)
          refine r_istore (pc1 := 192) dX0_solve_190 (by decide) rfl rfl rfl ?_
          refine r_aload_n (pc1 := 193) (i := 0) dX0_solve_192 rfl rfl rfl ?_
          refine r_iload (pc1 := 195) dX0_solve_193 rfl rfl ?_
          refine r_iload (pc1 := 197) dX0_solve_195 rfl rfl ?_
          refine r_aload_n (pc1 := 198) (i := 0) dX0_solve_197 rfl rfl rfl ?_
          refine r_getR (pc1 := 201) w_46 gfX0_13 rfl dX0_solve_198 rfl ?_
          refine r_iload (pc1 := 203) dX0_solve_201 rfl rfl ?_
          refine r_iald (pc1 := 204) w_47 dX0_solve_203 rfl ?_
          refine r_bipush (v := 8) (pc1 := 206) dX0_solve_204 kb_8 rfl ?_
          refine r_callVv (pc1 := 209) (rv_of w_46 cl_0) lkX0_73 (c_X0_comeTo _ _ _ _ _) rfl rfl ⟨Nat.le_of_ble_eq_true rfl, Nat.le_of_ble_eq_true rfl⟩ (Nat.le_of_ble_eq_true rfl) dX0_solve_206 rfl (fun v30 s31 => ?_)
          refine r_iconst (v := 0) (pc1 := 210) dX0_solve_209 ki_0 rfl ?_
          refine r_istore (pc1 := 212) dX0_solve_210 (by decide) rfl rfl rfl ?_
          refine r_jn (hyp := fun (k33 : SS → Res) => ∀ (s32 : SS), RC l wF RX0 cX0_solve 10 none 6 262 [.ref 46, .ref 52, .null, .null, .int v18, .null, .null, .null, .null, .null] [] s32 (k33 s32)) (fun s32 => ?_) (fun k33 hk33 => ?_)
          · refine r_iinc (pc1 := 265) dX0_solve_262 rfl (kn_1 _) (by decide) rfl rfl rfl ?_
            refine r_goto (tgt := 115) dX0_solve_265 (by decide) ?_
            exact r_wk (ih (v18 + 1) s32) ⟨Or.inr rfl, Or.inr rfl, Or.inl rfl, Or.inl rfl, Or.inr rfl, Or.inl rfl, Or.inl rfl, Or.inl rfl, Or.inl rfl, Or.inl rfl, trivial⟩
          · exact r_wk (t_lp_X0_solve_212 v18 v24 v27 v29 k33 hk33 FU 0 s31) ⟨Or.inr rfl, Or.inr rfl, Or.inl rfl, Or.inl rfl, Or.inr rfl, Or.inr rfl, Or.inl rfl, Or.inr rfl, Or.inr rfl, Or.inr rfl, trivial⟩
set_option maxRecDepth 100000 in
set_option maxHeartbeats 4000000 in
theorem c_X0_solve {l : Launch} (a1 : Int32) (s0 : SS) : Ct l wF yX0_solve cX0_solve 10 none 6 [.ref 46, .ref 52, .int a1] s0 (f_X0_solve a1 s0) := by
  refine ct_of (y := yX0_solve) plX0 (Nat.le_of_ble_eq_true rfl) ?_
  refine r_pad0 7 (L1 := [.ref 46, .ref 52, .int a1, .null, .null, .null, .null, .null, .null, .null]) rfl ?_
  unfold f_X0_solve
  refine r_aload_n (pc1 := 1) (i := 0) dX0_solve_0 rfl rfl rfl ?_
  refine r_getI (pc1 := 4) w_46 gfX0_23 rfl dX0_solve_1 rfl ?_
  refine r_iload_n (pc1 := 5) (i := 2) dX0_solve_4 rfl rfl rfl ?_
  refine r_jn (hyp := fun (k1 : Res) => RC l wF RX0 cX0_solve 10 none 6 31 [.ref 46, .ref 52, .int a1, .null, .null, .null, .null, .null, .null, .null] [] s0 k1) (?_) (fun k1 hk1 => ?_)
  · refine r_aload_n (pc1 := 32) (i := 0) dX0_solve_31 rfl rfl rfl ?_
    refine r_iload_n (pc1 := 33) (i := 2) dX0_solve_32 rfl rfl rfl ?_
    refine r_putI (pc1 := 36) w_46 pfX0_23 rfl ⟨rfl, rfl⟩ dX0_solve_33 rfl ?_
    refine r_lts (fun s2 => ?_)
    refine r_aload_n (pc1 := 37) (i := 0) dX0_solve_36 rfl rfl rfl ?_
    refine r_aload_n (pc1 := 38) (i := 1) dX0_solve_37 rfl rfl rfl ?_
    refine r_getI (pc1 := 41) w_52 gfX0_42 rfl dX0_solve_38 rfl ?_
    refine r_putI (pc1 := 44) w_46 pfX0_39 rfl ⟨rfl, rfl⟩ dX0_solve_41 rfl ?_
    refine r_lts (fun s3 => ?_)
    refine r_aload_n (pc1 := 45) (i := 0) dX0_solve_44 rfl rfl rfl ?_
    refine r_aload_n (pc1 := 46) (i := 1) dX0_solve_45 rfl rfl rfl ?_
    refine r_getI (pc1 := 49) w_52 gfX0_50 rfl dX0_solve_46 rfl ?_
    refine r_putI (pc1 := 52) w_46 pfX0_47 rfl ⟨rfl, rfl⟩ dX0_solve_49 rfl ?_
    refine r_lts (fun s4 => ?_)
    refine r_aload_n (pc1 := 53) (i := 0) dX0_solve_52 rfl rfl rfl ?_
    refine r_getR (pc1 := 56) w_46 gfX0_27 rfl dX0_solve_53 rfl ?_
    refine r_aload_n (pc1 := 57) (i := 1) dX0_solve_56 rfl rfl rfl ?_
    refine r_getI (pc1 := 60) w_52 gfX0_42 rfl dX0_solve_57 rfl ?_
    refine r_callVp (pc1 := 63) (rv_of w_3 cl_6) lkX0_53 (c_X6_lengthOf w_3 w_4 w_5 w_6 w_7 w_8 _ _) rfl rfl ⟨Nat.le_of_ble_eq_true rfl, Nat.le_of_ble_eq_true rfl⟩ (Nat.le_of_ble_eq_true rfl) dX0_solve_60 rfl (fun v5 => ?_)
    refine r_istore_n (pc1 := 64) (i := 3) dX0_solve_63 rfl (by decide) rfl rfl rfl ?_
    refine r_aload_n (pc1 := 65) (i := 0) dX0_solve_64 rfl rfl rfl ?_
    refine r_getR (pc1 := 68) w_46 gfX0_17 rfl dX0_solve_65 rfl ?_
    refine r_iload_n (pc1 := 69) (i := 3) dX0_solve_68 rfl rfl rfl ?_
    refine r_callSp (pc1 := 72) lkX0_57 (c_X6_bareOf w_3 w_4 w_5 w_6 w_7 w_8 _ _) rfl rfl ⟨Nat.le_of_ble_eq_true rfl, Nat.le_of_ble_eq_true rfl⟩ (Nat.le_of_ble_eq_true rfl) dX0_solve_69 rfl (fun v6 => ?_)
    refine r_iconst (v := 4) (pc1 := 73) dX0_solve_72 ki_4 rfl ?_
    refine r_imul (pc1 := 74) dX0_solve_73 rfl ?_
    refine r_iload_n (pc1 := 75) (i := 3) dX0_solve_74 rfl rfl rfl ?_
    refine r_iconst (v := 1) (pc1 := 76) dX0_solve_75 ki_1 rfl ?_
    refine r_iadd (pc1 := 77) dX0_solve_76 rfl ?_
    refine r_callSp (pc1 := 80) lkX0_57 (c_X6_bareOf w_3 w_4 w_5 w_6 w_7 w_8 _ _) rfl rfl ⟨Nat.le_of_ble_eq_true rfl, Nat.le_of_ble_eq_true rfl⟩ (Nat.le_of_ble_eq_true rfl) dX0_solve_77 rfl (fun v7 => ?_)
    refine r_iconst (v := 4) (pc1 := 81) dX0_solve_80 ki_4 rfl ?_
    refine r_imul (pc1 := 82) dX0_solve_81 rfl ?_
    refine r_ldc (v := (-1000000000)) (pc1 := 84) dX0_solve_82 cnX0_60 rfl ?_
    refine r_callSv (pc1 := 87) lkX0_61 (c_J7_fill_fda19_48 _ _ _ _) rfl rfl ⟨Nat.le_of_ble_eq_true rfl, Nat.le_of_ble_eq_true rfl⟩ (Nat.le_of_ble_eq_true rfl) dX0_solve_84 rfl (fun v8 s9 => ?_)
    refine r_aload_n (pc1 := 88) (i := 0) dX0_solve_87 rfl rfl rfl ?_
    refine r_iconst (v := 0) (pc1 := 89) dX0_solve_88 ki_0 rfl ?_
    refine r_putI (pc1 := 92) w_46 pfX0_67 rfl ⟨rfl, rfl⟩ dX0_solve_89 rfl ?_
    refine r_lts (fun s10 => ?_)
    refine r_aload_n (pc1 := 93) (i := 0) dX0_solve_92 rfl rfl rfl ?_
    refine r_iconst (v := (-1)) (pc1 := 94) dX0_solve_93 ki_m1 rfl ?_
    refine r_putI (pc1 := 97) w_46 pfX0_70 rfl ⟨rfl, rfl⟩ dX0_solve_94 rfl ?_
    refine r_lts (fun s11 => ?_)
    refine r_aload_n (pc1 := 98) (i := 0) dX0_solve_97 rfl rfl rfl ?_
    refine r_aload_n (pc1 := 99) (i := 1) dX0_solve_98 rfl rfl rfl ?_
    refine r_getI (pc1 := 102) w_52 gfX0_42 rfl dX0_solve_99 rfl ?_
    refine r_aload_n (pc1 := 103) (i := 1) dX0_solve_102 rfl rfl rfl ?_
    refine r_getI (pc1 := 106) w_52 gfX0_50 rfl dX0_solve_103 rfl ?_
    refine r_iconst (v := (-1)) (pc1 := 107) dX0_solve_106 ki_m1 rfl ?_
    refine r_bipush (v := 8) (pc1 := 109) dX0_solve_107 kb_8 rfl ?_
    refine r_callVv (pc1 := 112) (rv_of w_46 cl_0) lkX0_73 (c_X0_comeTo _ _ _ _ _) rfl rfl ⟨Nat.le_of_ble_eq_true rfl, Nat.le_of_ble_eq_true rfl⟩ (Nat.le_of_ble_eq_true rfl) dX0_solve_109 rfl (fun v12 s13 => ?_)
    refine r_iconst (v := 0) (pc1 := 113) dX0_solve_112 ki_0 rfl ?_
    refine r_istore (pc1 := 115) dX0_solve_113 (by decide) rfl rfl rfl ?_
    refine r_jn (hyp := fun (k15 : SS → Res) => ∀ (s14 : SS), RC l wF RX0 cX0_solve 10 none 6 268 [.ref 46, .ref 52, .null, .null, .null, .null, .null, .null, .null, .null] [] s14 (k15 s14)) (fun s14 => ?_) (fun k15 hk15 => ?_)
    · refine r_aload_n (pc1 := 269) (i := 0) dX0_solve_268 rfl rfl rfl ?_
      refine r_aload_n (pc1 := 270) (i := 0) dX0_solve_269 rfl rfl rfl ?_
      refine r_callVp (pc1 := 273) (rv_of w_46 cl_0) lkX0_94 (c_X0_stepsToQuiet _) rfl rfl ⟨Nat.le_of_ble_eq_true rfl, Nat.le_of_ble_eq_true rfl⟩ (Nat.le_of_ble_eq_true rfl) dX0_solve_270 rfl (fun v16 => ?_)
      refine r_putI (pc1 := 276) w_46 pfX0_98 rfl ⟨rfl, rfl⟩ dX0_solve_273 rfl ?_
      refine r_lts (fun s17 => ?_)
      exact r_vret rfl dX0_solve_276
    · exact r_wk (t_lp_X0_solve_115 k15 hk15 FU 0 s13) ⟨Or.inr rfl, Or.inr rfl, Or.inl rfl, Or.inl rfl, Or.inr rfl, Or.inl rfl, Or.inl rfl, Or.inl rfl, Or.inl rfl, Or.inl rfl, trivial⟩
  · refine r_icmp_ne (tgt := 31) (pc1 := 8) dX0_solve_5 (by decide) rfl (fun q44 => ?_) (fun q44 => ?_)
    · refine r_aload_n (pc1 := 9) (i := 0) dX0_solve_8 rfl rfl rfl ?_
      refine r_getI (pc1 := 12) w_46 gfX0_39 rfl dX0_solve_9 rfl ?_
      refine r_aload_n (pc1 := 13) (i := 1) dX0_solve_12 rfl rfl rfl ?_
      refine r_getI (pc1 := 16) w_52 gfX0_42 rfl dX0_solve_13 rfl ?_
      refine r_icmp_ne (tgt := 31) (pc1 := 19) dX0_solve_16 (by decide) rfl (fun q45 => ?_) (fun q45 => ?_)
      · refine r_aload_n (pc1 := 20) (i := 0) dX0_solve_19 rfl rfl rfl ?_
        refine r_getI (pc1 := 23) w_46 gfX0_47 rfl dX0_solve_20 rfl ?_
        refine r_aload_n (pc1 := 24) (i := 1) dX0_solve_23 rfl rfl rfl ?_
        refine r_getI (pc1 := 27) w_52 gfX0_50 rfl dX0_solve_24 rfl ?_
        refine r_icmp_ne (tgt := 31) (pc1 := 30) dX0_solve_27 (by decide) rfl (fun q46 => ?_) (fun q46 => ?_)
        · exact r_vret rfl dX0_solve_30
        · exact r_wk (hk1) ⟨Or.inr rfl, Or.inr rfl, Or.inr rfl, Or.inl rfl, Or.inl rfl, Or.inl rfl, Or.inl rfl, Or.inl rfl, Or.inl rfl, Or.inl rfl, trivial⟩
      · exact r_wk (hk1) ⟨Or.inr rfl, Or.inr rfl, Or.inr rfl, Or.inl rfl, Or.inl rfl, Or.inl rfl, Or.inl rfl, Or.inl rfl, Or.inl rfl, Or.inl rfl, trivial⟩
    · exact r_wk (hk1) ⟨Or.inr rfl, Or.inr rfl, Or.inr rfl, Or.inl rfl, Or.inl rfl, Or.inl rfl, Or.inl rfl, Or.inl rfl, Or.inl rfl, Or.inl rfl, trivial⟩
/-! f_X0_madeOn -/
noncomputable def lp_X0_madeOn_26 (a1 : Int32) (s0 : SS) (k6 : Int32 → Option Int32) : Nat → Int32 → Int32 → Option Int32
  | 0, _, _ => none
  | n11 + 1, v9, v10 => if (v10 : Int32) ≤ (a1 : Int32) then k6 v9 else if (v9 : Int32) < 0 then k6 v9 else if (21392 : Int32) ≤ (v9 : Int32) then k6 v9 else gd (inb v9 21392) (lt (s0 48 (Int32.toNatClampNeg v9)) (fun (v15 : Int32) => lp_X0_madeOn_26 a1 s0 k6 n11 v15 (v10 + (-1))))
noncomputable def f_X0_madeOn (a1 : Int32) (s0 : SS) : Option Int32 := if (a1 : Int32) < 0 then some ((-1)) else if (a1 : Int32) < (s0 46 8 : Int32) then lt (s0 46 7) (fun (v3 : Int32) => lt ((s0 46 8) - 1) (fun (v4 : Int32) => jn (fun (v5 : Int32) => if (v5 : Int32) < 0 then some ((-1)) else if (21392 : Int32) ≤ (v5 : Int32) then some ((-1)) else gd (inb v5 21392) (some (s0 49 (Int32.toNatClampNeg v5)))) (fun (k6 : Int32 → Option Int32) => lp_X0_madeOn_26 a1 s0 k6 FU v3 v4))) else some ((-1))
set_option maxRecDepth 100000 in
set_option maxHeartbeats 4000000 in
theorem t_lp_X0_madeOn_26 {l : Launch} (a1 : Int32) (s0 : SS) (k6 : Int32 → Option Int32) (hk6 : ∀ (v5 : Int32), RC l wF RX0 cX0_madeOn 4 (some .int) 0 55 [.ref 46, .null, .int v5, .null] [] s0 (pu (k6 v5) s0)) : ∀ (n11 : Nat) (v9 : Int32) (v10 : Int32), RC l wF RX0 cX0_madeOn 4 (some .int) 0 26 [.ref 46, .int a1, .int v9, .int v10] [] s0 (pu (lp_X0_madeOn_26 a1 s0 k6 n11 v9 v10) s0) := by
  intro n11
  induction n11 with
  | zero =>
    intro v9 v10
    rw [lp_X0_madeOn_26]
    exact p_none
  | succ n11 ih =>
    intro v9 v10
    rw [lp_X0_madeOn_26]
    refine r_iload_n (pc1 := 27) (i := 3) dX0_madeOn_26 rfl rfl rfl ?_
    refine r_iload_n (pc1 := 28) (i := 1) dX0_madeOn_27 rfl rfl rfl ?_
    refine p_icmp_le (tgt := 55) (pc1 := 31) dX0_madeOn_28 (by decide) rfl (fun q12 => ?_) (fun q12 => ?_)
    · exact r_wk (hk6 v9) ⟨Or.inr rfl, Or.inl rfl, Or.inr rfl, Or.inl rfl, trivial⟩
    · refine r_iload_n (pc1 := 32) (i := 2) dX0_madeOn_31 rfl rfl rfl ?_
      refine p_if_lt (tgt := 55) (pc1 := 35) dX0_madeOn_32 (by decide) rfl (fun q13 => ?_) (fun q13 => ?_)
      · exact r_wk (hk6 v9) ⟨Or.inr rfl, Or.inl rfl, Or.inr rfl, Or.inl rfl, trivial⟩
      · refine r_iload_n (pc1 := 36) (i := 2) dX0_madeOn_35 rfl rfl rfl ?_
        refine r_sipush (v := 21392) (pc1 := 39) dX0_madeOn_36 ks_21392 rfl ?_
        refine p_icmp_ge (tgt := 55) (pc1 := 42) dX0_madeOn_39 (by decide) rfl (fun q14 => ?_) (fun q14 => ?_)
        · exact r_wk (hk6 v9) ⟨Or.inr rfl, Or.inl rfl, Or.inr rfl, Or.inl rfl, trivial⟩
        · refine r_aload_n (pc1 := 43) (i := 0) dX0_madeOn_42 rfl rfl rfl ?_
          refine r_getR (pc1 := 46) w_46 gfX0_17 rfl dX0_madeOn_43 rfl ?_
          refine r_iload_n (pc1 := 47) (i := 2) dX0_madeOn_46 rfl rfl rfl ?_
          refine p_iald (pc1 := 48) w_48 dX0_madeOn_47 rfl ?_
          refine p_lt (fun v15 => ?_)
          refine r_istore_n (pc1 := 49) (i := 2) dX0_madeOn_48 rfl (by decide) rfl rfl rfl ?_
          refine r_iinc (pc1 := 52) dX0_madeOn_49 rfl (kn_m1 _) (by decide) rfl rfl rfl ?_
          refine r_goto (tgt := 26) dX0_madeOn_52 (by decide) ?_
          exact r_wk (ih v15 (v10 + (-1))) ⟨Or.inr rfl, Or.inr rfl, Or.inr rfl, Or.inr rfl, trivial⟩
set_option maxRecDepth 100000 in
set_option maxHeartbeats 4000000 in
theorem c_X0_madeOn {l : Launch} (a1 : Int32) (s0 : SS) : Ct l wF yX0_madeOn cX0_madeOn 4 (some .int) 0 [.ref 46, .int a1] s0 (pu (f_X0_madeOn a1 s0) s0) := by
  refine ct_of (y := yX0_madeOn) plX0 (Nat.le_of_ble_eq_true rfl) ?_
  refine r_pad0 2 (L1 := [.ref 46, .int a1, .null, .null]) rfl ?_
  unfold f_X0_madeOn
  refine r_iload_n (pc1 := 1) (i := 1) dX0_madeOn_0 rfl rfl rfl ?_
  refine p_if_lt (tgt := 12) (pc1 := 4) dX0_madeOn_1 (by decide) rfl (fun q1 => ?_) (fun q1 => ?_)
  · refine r_iconst (v := (-1)) (pc1 := 13) dX0_madeOn_12 ki_m1 rfl ?_
    exact p_iret rfl rfl dX0_madeOn_13
  · refine r_iload_n (pc1 := 5) (i := 1) dX0_madeOn_4 rfl rfl rfl ?_
    refine r_aload_n (pc1 := 6) (i := 0) dX0_madeOn_5 rfl rfl rfl ?_
    refine r_getI (pc1 := 9) w_46 gfX0_98 rfl dX0_madeOn_6 rfl ?_
    refine p_icmp_lt (tgt := 14) (pc1 := 12) dX0_madeOn_9 (by decide) rfl (fun q2 => ?_) (fun q2 => ?_)
    · refine r_aload_n (pc1 := 15) (i := 0) dX0_madeOn_14 rfl rfl rfl ?_
      refine r_getI (pc1 := 18) w_46 gfX0_70 rfl dX0_madeOn_15 rfl ?_
      refine p_lt (fun v3 => ?_)
      refine r_istore_n (pc1 := 19) (i := 2) dX0_madeOn_18 rfl (by decide) rfl rfl rfl ?_
      refine r_aload_n (pc1 := 20) (i := 0) dX0_madeOn_19 rfl rfl rfl ?_
      refine r_getI (pc1 := 23) w_46 gfX0_98 rfl dX0_madeOn_20 rfl ?_
      refine r_iconst (v := 1) (pc1 := 24) dX0_madeOn_23 ki_1 rfl ?_
      refine r_isub (pc1 := 25) dX0_madeOn_24 rfl ?_
      refine p_lt (fun v4 => ?_)
      refine r_istore_n (pc1 := 26) (i := 3) dX0_madeOn_25 rfl (by decide) rfl rfl rfl ?_
      refine p_jn (hyp := fun (k6 : Int32 → Option Int32) => ∀ (v5 : Int32), RC l wF RX0 cX0_madeOn 4 (some .int) 0 55 [.ref 46, .null, .int v5, .null] [] s0 (pu (k6 v5) s0)) (fun v5 => ?_) (fun k6 hk6 => ?_)
      · refine r_iload_n (pc1 := 56) (i := 2) dX0_madeOn_55 rfl rfl rfl ?_
        refine p_if_lt (tgt := 75) (pc1 := 59) dX0_madeOn_56 (by decide) rfl (fun q7 => ?_) (fun q7 => ?_)
        · refine r_iconst (v := (-1)) (pc1 := 76) dX0_madeOn_75 ki_m1 rfl ?_
          exact p_iret rfl rfl dX0_madeOn_76
        · refine r_iload_n (pc1 := 60) (i := 2) dX0_madeOn_59 rfl rfl rfl ?_
          refine r_sipush (v := 21392) (pc1 := 63) dX0_madeOn_60 ks_21392 rfl ?_
          refine p_icmp_ge (tgt := 75) (pc1 := 66) dX0_madeOn_63 (by decide) rfl (fun q8 => ?_) (fun q8 => ?_)
          · refine r_iconst (v := (-1)) (pc1 := 76) dX0_madeOn_75 ki_m1 rfl ?_
            exact p_iret rfl rfl dX0_madeOn_76
          · refine r_aload_n (pc1 := 67) (i := 0) dX0_madeOn_66 rfl rfl rfl ?_
            refine r_getR (pc1 := 70) w_46 gfX0_20 rfl dX0_madeOn_67 rfl ?_
            refine r_iload_n (pc1 := 71) (i := 2) dX0_madeOn_70 rfl rfl rfl ?_
            refine p_iald (pc1 := 72) w_49 dX0_madeOn_71 rfl ?_
            refine r_goto (tgt := 76) dX0_madeOn_72 (by decide) ?_
            exact p_iret rfl rfl dX0_madeOn_76
      · exact r_wk (t_lp_X0_madeOn_26 a1 s0 k6 hk6 FU v3 v4) ⟨Or.inr rfl, Or.inr rfl, Or.inr rfl, Or.inr rfl, trivial⟩
    · refine r_iconst (v := (-1)) (pc1 := 13) dX0_madeOn_12 ki_m1 rfl ?_
      exact p_iret rfl rfl dX0_madeOn_13
/-! f_X11_soon -/
noncomputable def f_X11_soon (a1 : Int32) (s0 : SS) : Res := if ((-1) : Int32) ≤ (a1 : Int32) then bd (f_X0_solve (s0 0 15) s0) (fun (v2 : Int32) (s3 : SS) => if (0 : Int32) ≤ (s3 46 8) then if (a1 : Int32) = ((-1) : Int32) then some (s3 46 8, s3) else bdp (f_X0_madeOn a1 s3) (fun (v6 : Int32) => some (v6, s3)) else some ((-2), s3)) else some ((-1), s0)
set_option maxRecDepth 100000 in
set_option maxHeartbeats 4000000 in
theorem c_X11_soon {l : Launch} (a1 : Int32) (s0 : SS) : Ct l wF yX11_soon cX11_soon 2 (some .int) 7 [.ref 0, .int a1] s0 (f_X11_soon a1 s0) := by
  refine ct_of (y := yX11_soon) plX11 (Nat.le_of_ble_eq_true rfl) ?_
  refine r_pad0 0 (L1 := [.ref 0, .int a1]) rfl ?_
  unfold f_X11_soon
  refine r_iload_n (pc1 := 1) (i := 1) dX11_soon_0 rfl rfl rfl ?_
  refine r_iconst (v := (-1)) (pc1 := 2) dX11_soon_1 ki_m1 rfl ?_
  refine r_icmp_ge (tgt := 7) (pc1 := 5) dX11_soon_2 (by decide) rfl (fun q1 => ?_) (fun q1 => ?_)
  · refine r_aload_n (pc1 := 8) (i := 0) dX11_soon_7 rfl rfl rfl ?_
    refine r_getR (pc1 := 11) w_0 gfX11_74 rfl dX11_soon_8 rfl ?_
    refine r_aload_n (pc1 := 12) (i := 0) dX11_soon_11 rfl rfl rfl ?_
    refine r_getR (pc1 := 15) w_0 gfX11_88 rfl dX11_soon_12 rfl ?_
    refine r_aload_n (pc1 := 16) (i := 0) dX11_soon_15 rfl rfl rfl ?_
    refine r_getI (pc1 := 19) w_0 gfX11_110 rfl dX11_soon_16 rfl ?_
    refine r_callVv (pc1 := 22) (rv_of w_46 cl_0) lkX11_269 (c_X0_solve _ _) rfl rfl ⟨Nat.le_of_ble_eq_true rfl, Nat.le_of_ble_eq_true rfl⟩ (Nat.le_of_ble_eq_true rfl) dX11_soon_19 rfl (fun v2 s3 => ?_)
    refine r_aload_n (pc1 := 23) (i := 0) dX11_soon_22 rfl rfl rfl ?_
    refine r_getR (pc1 := 26) w_0 gfX11_74 rfl dX11_soon_23 rfl ?_
    refine r_getI (pc1 := 29) w_46 gfX11_272 rfl dX11_soon_26 rfl ?_
    refine r_if_ge (tgt := 35) (pc1 := 32) dX11_soon_29 (by decide) rfl (fun q4 => ?_) (fun q4 => ?_)
    · refine r_iload_n (pc1 := 36) (i := 1) dX11_soon_35 rfl rfl rfl ?_
      refine r_iconst (v := (-1)) (pc1 := 37) dX11_soon_36 ki_m1 rfl ?_
      refine r_icmp_ne (tgt := 50) (pc1 := 40) dX11_soon_37 (by decide) rfl (fun q5 => ?_) (fun q5 => ?_)
      · refine r_aload_n (pc1 := 41) (i := 0) dX11_soon_40 rfl rfl rfl ?_
        refine r_getR (pc1 := 44) w_0 gfX11_74 rfl dX11_soon_41 rfl ?_
        refine r_getI (pc1 := 47) w_46 gfX11_272 rfl dX11_soon_44 rfl ?_
        refine r_goto (tgt := 58) dX11_soon_47 (by decide) ?_
        exact r_iret rfl rfl dX11_soon_58
      · refine r_aload_n (pc1 := 51) (i := 0) dX11_soon_50 rfl rfl rfl ?_
        refine r_getR (pc1 := 54) w_0 gfX11_74 rfl dX11_soon_51 rfl ?_
        refine r_iload_n (pc1 := 55) (i := 1) dX11_soon_54 rfl rfl rfl ?_
        refine r_callVp (pc1 := 58) (rv_of w_46 cl_0) lkX11_273 (c_X0_madeOn _ _) rfl rfl ⟨Nat.le_of_ble_eq_true rfl, Nat.le_of_ble_eq_true rfl⟩ (Nat.le_of_ble_eq_true rfl) dX11_soon_55 rfl (fun v6 => ?_)
        exact r_iret rfl rfl dX11_soon_58
    · refine r_bipush (v := (-2)) (pc1 := 34) dX11_soon_32 kb_m2 rfl ?_
      exact r_iret rfl rfl dX11_soon_34
  · refine r_iconst (v := (-1)) (pc1 := 6) dX11_soon_5 ki_m1 rfl ?_
    exact r_iret rfl rfl dX11_soon_6
/-! f_J7_fill_fda19_51 -/
noncomputable def lp_J7_fill_fda19_51_10 (a2 : Int32) (a3 : Int32) : Nat → Int32 → SS → Res
  | 0, _, _ => none
  | n5 + 1, v3, s4 => if (a2 : Int32) ≤ (v3 : Int32) then some (0, s4) else gd (inb v3 64176) (lts (up s4 51 (Int32.toNatClampNeg v3) a3) (fun (s7 : SS) => lp_J7_fill_fda19_51_10 a2 a3 n5 (v3 + 1) s7))
noncomputable def f_J7_fill_fda19_51 (a1 : Int32) (a2 : Int32) (a3 : Int32) (s0 : SS) : Res := bd (f_J7_rangeCheck_23922 64176 a1 a2 s0) (fun (v1 : Int32) (s2 : SS) => lp_J7_fill_fda19_51_10 a2 a3 FU a1 s2)
set_option maxRecDepth 100000 in
set_option maxHeartbeats 4000000 in
theorem t_lp_J7_fill_fda19_51_10 {l : Launch} (a2 : Int32) (a3 : Int32)  : ∀ (n5 : Nat) (v3 : Int32) (s4 : SS), RC l wF RJ7 cJ7_fill_fda19 5 none 1 10 [.ref 51, .null, .int a2, .int a3, .int v3] [] s4 (lp_J7_fill_fda19_51_10 a2 a3 n5 v3 s4) := by
  intro n5
  induction n5 with
  | zero =>
    intro v3 s4
    rw [lp_J7_fill_fda19_51_10]
    exact r_none
  | succ n5 ih =>
    intro v3 s4
    rw [lp_J7_fill_fda19_51_10]
    refine r_iload (pc1 := 12) dJ7_fill_fda19_10 rfl rfl ?_
    refine r_iload_n (pc1 := 13) (i := 2) dJ7_fill_fda19_12 rfl rfl rfl ?_
    refine r_icmp_ge (tgt := 27) (pc1 := 16) dJ7_fill_fda19_13 (by decide) rfl (fun q6 => ?_) (fun q6 => ?_)
    · exact r_vret rfl dJ7_fill_fda19_27
    · refine r_aload_n (pc1 := 17) (i := 0) dJ7_fill_fda19_16 rfl rfl rfl ?_
      refine r_iload (pc1 := 19) dJ7_fill_fda19_17 rfl rfl ?_
      refine r_iload_n (pc1 := 20) (i := 3) dJ7_fill_fda19_19 rfl rfl rfl ?_
      refine r_iast (pc1 := 21) w_51 dJ7_fill_fda19_20 rfl ?_
      refine r_lts (fun s7 => ?_)
      refine r_iinc (pc1 := 24) dJ7_fill_fda19_21 rfl (kn_1 _) (by decide) rfl rfl rfl ?_
      refine r_goto (tgt := 10) dJ7_fill_fda19_24 (by decide) ?_
      exact r_wk (ih (v3 + 1) s7) ⟨Or.inr rfl, Or.inl rfl, Or.inr rfl, Or.inr rfl, Or.inr rfl, trivial⟩
set_option maxRecDepth 100000 in
set_option maxHeartbeats 4000000 in
theorem c_J7_fill_fda19_51 {l : Launch} (a1 : Int32) (a2 : Int32) (a3 : Int32) (s0 : SS) : Ct l wF yJ7_fill_fda19 cJ7_fill_fda19 5 none 1 [.ref 51, .int a1, .int a2, .int a3] s0 (f_J7_fill_fda19_51 a1 a2 a3 s0) := by
  refine ct_of (y := yJ7_fill_fda19) plJ7 (Nat.le_of_ble_eq_true rfl) ?_
  refine r_pad0 1 (L1 := [.ref 51, .int a1, .int a2, .int a3, .null]) rfl ?_
  unfold f_J7_fill_fda19_51
  refine r_aload_n (pc1 := 1) (i := 0) dJ7_fill_fda19_0 rfl rfl rfl ?_
  refine r_alen (t := 0) (v := 64176) (pc1 := 2) w_51 (fun _ => rfl) (al_64176) dJ7_fill_fda19_1 rfl ?_
  refine r_iload_n (pc1 := 3) (i := 1) dJ7_fill_fda19_2 rfl rfl rfl ?_
  refine r_iload_n (pc1 := 4) (i := 2) dJ7_fill_fda19_3 rfl rfl rfl ?_
  refine r_callSv (pc1 := 7) lkJ7_13 (c_J7_rangeCheck_23922 _ _ _ _) rfl rfl ⟨Nat.le_of_ble_eq_true rfl, Nat.le_of_ble_eq_true rfl⟩ (Nat.le_of_ble_eq_true rfl) dJ7_fill_fda19_4 rfl (fun v1 s2 => ?_)
  refine r_iload_n (pc1 := 8) (i := 1) dJ7_fill_fda19_7 rfl rfl rfl ?_
  refine r_istore (pc1 := 10) dJ7_fill_fda19_8 (by decide) rfl rfl rfl ?_
  exact r_wk (t_lp_J7_fill_fda19_51_10 a2 a3 FU a1 s2) ⟨Or.inr rfl, Or.inl rfl, Or.inr rfl, Or.inr rfl, Or.inr rfl, trivial⟩
/-! f_X7_spanBehind -/
noncomputable def f_X7_spanBehind (rf : Int32 → Int32 → Int32 → SS → Res) (a1 : Int32) (a2 : Int32) (a3 : Int32) (s0 : SS) : Res := bdp (f_X6_standingOn a1 s0) (fun (v1 : Int32) => jn (fun (v2 : Int32) => if (v2 : Int32) = 0 then some (0, s0) else bd (rf a1 a2 (a3 - 1) s0) (fun (v5 : Int32) (s6 : SS) => some (1 + v5, s6))) (fun (k3 : Int32 → Res) => if (v1 &&& (s0 50 4) : Int32) = (s0 50 4 : Int32) then k3 1 else k3 0))
set_option maxRecDepth 100000 in
set_option maxHeartbeats 4000000 in
theorem c_X7_spanBehind {l : Launch} {dr : Nat} (hdr : 4 ≤ dr) {rf : Int32 → Int32 → Int32 → SS → Res} (hrf : ∀ (x0 x1 x2 : Int32) (z : SS), Ct l wF yX7_spanFrom cX7_spanFrom 13 (some .int) dr [.ref 50, .int x0, .int x1, .int x2] z (rf x0 x1 x2 z)) (a1 : Int32) (a2 : Int32) (a3 : Int32) (s0 : SS) : Ct l wF yX7_spanBehind cX7_spanBehind 5 (some .int) (dr + 1) [.ref 50, .int a1, .int a2, .int a3] s0 (f_X7_spanBehind rf a1 a2 a3 s0) := by
  refine ct_of (y := yX7_spanBehind) plX7 (Nat.le_of_ble_eq_true rfl) ?_
  refine r_pad0 1 (L1 := [.ref 50, .int a1, .int a2, .int a3, .null]) rfl ?_
  unfold f_X7_spanBehind
  refine r_aload_n (pc1 := 1) (i := 0) dX7_spanBehind_0 rfl rfl rfl ?_
  refine r_getR (pc1 := 4) w_50 gfX7_18 rfl dX7_spanBehind_1 rfl ?_
  refine r_iload_n (pc1 := 5) (i := 1) dX7_spanBehind_4 rfl rfl rfl ?_
  refine r_callVp (pc1 := 8) (rv_of w_3 cl_6) lkX7_95 (c_X6_standingOn w_3 w_4 w_5 w_6 w_7 w_8 _ _) rfl rfl ⟨by omega, Nat.le_of_ble_eq_true rfl⟩ (Nat.le_of_ble_eq_true rfl) dX7_spanBehind_5 rfl (fun v1 => ?_)
  refine r_aload_n (pc1 := 9) (i := 0) dX7_spanBehind_8 rfl rfl rfl ?_
  refine r_getI (pc1 := 12) w_50 gfX7_30 rfl dX7_spanBehind_9 rfl ?_
  refine r_iand (pc1 := 13) dX7_spanBehind_12 rfl ?_
  refine r_aload_n (pc1 := 14) (i := 0) dX7_spanBehind_13 rfl rfl rfl ?_
  refine r_getI (pc1 := 17) w_50 gfX7_30 rfl dX7_spanBehind_14 rfl ?_
  refine r_jn (hyp := fun (k3 : Int32 → Res) => ∀ (v2 : Int32), RC l wF RX7 cX7_spanBehind 5 (some .int) (dr + 1) 25 [.ref 50, .int a1, .int a2, .int a3, .null] [.int v2] s0 (k3 v2)) (fun v2 => ?_) (fun k3 hk3 => ?_)
  · refine r_istore (pc1 := 27) dX7_spanBehind_25 (by decide) rfl rfl rfl ?_
    refine r_iload (pc1 := 29) dX7_spanBehind_27 rfl rfl ?_
    refine r_if_eq (tgt := 46) (pc1 := 32) dX7_spanBehind_29 (by decide) rfl (fun q4 => ?_) (fun q4 => ?_)
    · refine r_iconst (v := 0) (pc1 := 47) dX7_spanBehind_46 ki_0 rfl ?_
      exact r_iret rfl rfl dX7_spanBehind_47
    · refine r_iconst (v := 1) (pc1 := 33) dX7_spanBehind_32 ki_1 rfl ?_
      refine r_aload_n (pc1 := 34) (i := 0) dX7_spanBehind_33 rfl rfl rfl ?_
      refine r_iload_n (pc1 := 35) (i := 1) dX7_spanBehind_34 rfl rfl rfl ?_
      refine r_iload_n (pc1 := 36) (i := 2) dX7_spanBehind_35 rfl rfl rfl ?_
      refine r_iload_n (pc1 := 37) (i := 3) dX7_spanBehind_36 rfl rfl rfl ?_
      refine r_iconst (v := 1) (pc1 := 38) dX7_spanBehind_37 ki_1 rfl ?_
      refine r_isub (pc1 := 39) dX7_spanBehind_38 rfl ?_
      refine r_callVi (pc1 := 42) (rv_of w_50 cl_7) lkX7_59 (hrf _ _ _ _) rfl rfl ⟨by omega, Nat.le_of_ble_eq_true rfl⟩ (Nat.le_of_ble_eq_true rfl) dX7_spanBehind_39 rfl (fun v5 s6 => ?_)
      refine r_iadd (pc1 := 43) dX7_spanBehind_42 rfl ?_
      refine r_goto (tgt := 47) dX7_spanBehind_43 (by decide) ?_
      exact r_iret rfl rfl dX7_spanBehind_47
  · refine r_icmp_ne (tgt := 24) (pc1 := 20) dX7_spanBehind_17 (by decide) rfl (fun q7 => ?_) (fun q7 => ?_)
    · refine r_iconst (v := 1) (pc1 := 21) dX7_spanBehind_20 ki_1 rfl ?_
      refine r_goto (tgt := 25) dX7_spanBehind_21 (by decide) ?_
      exact r_wk (hk3 1) ⟨Or.inr rfl, Or.inr rfl, Or.inr rfl, Or.inr rfl, Or.inl rfl, trivial⟩
    · refine r_iconst (v := 0) (pc1 := 25) dX7_spanBehind_24 ki_0 rfl ?_
      exact r_wk (hk3 0) ⟨Or.inr rfl, Or.inr rfl, Or.inr rfl, Or.inr rfl, Or.inl rfl, trivial⟩
/-! f_X7_spanFrom -/
noncomputable def lp_X7_spanFrom_137 (rf : Int32 → Int32 → Int32 → SS → Res) (a1 : Int32) (a3 : Int32) (v1 : Int32) (v8 : Int32) (v10 : Int32) (v12 : Int32) (v14 : Int32) (k19 : Int32 → SS → Res) : Nat → Int32 → Int32 → SS → Res
  | 0, _, _, _ => none
  | n24 + 1, v21, v22, s23 => if (8 : Int32) ≤ (v22 : Int32) then k19 v21 s23 else if (v21 : Int32) = (v10 : Int32) then k19 v21 s23 else jn (fun (v27 : Int32) (s28 : SS) => lp_X7_spanFrom_137 rf a1 a3 v1 v8 v10 v12 v14 k19 n24 v27 (v22 + 1) s28) (fun (k29 : Int32 → SS → Res) => if ((v12 >>> (v22 &&& 31)) &&& 1 : Int32) = (1 : Int32) then bdp (f_X6_behind a1 v22 s23) (fun (v31 : Int32) => bd (f_X7_spanBehind rf v31 v14 a3 s23) (fun (v32 : Int32) (s33 : SS) => jn (fun (v34 : Int32) => k29 v34 s33) (fun (k35 : Int32 → Res) => if (v8 : Int32) = 0 then lt (if (v32 : Int32) < (v21 : Int32) then v32 else v21) (fun (v37 : Int32) => k35 v37) else lt (if (v21 : Int32) < (v32 : Int32) then v32 else v21) (fun (v38 : Int32) => k35 v38)))) else k29 v21 s23)
noncomputable def o_X7_spanFrom (rf : Int32 → Int32 → Int32 → SS → Res) (a1 : Int32) (a2 : Int32) (a3 : Int32) (s0 : SS) : Res := lt (((a1 * 12) + a3) - 1) (fun (v1 : Int32) => if (a3 : Int32) < (1 : Int32) then some (0, s0) else if (v1 : Int32) < 0 then some (0, s0) else if (v1 : Int32) < (64176 : Int32) then gd (inb v1 64176) (if (s0 51 (Int32.toNatClampNeg v1) : Int32) = ((-1000000000) : Int32) then bdp (f_X2_onTurn a2 s0) (fun (v6 : Int32) => bdp (f_X11_isPerson v6 s0) (fun (v7 : Int32) => jn (fun (v8 : Int32) => jn (fun (v10 : Int32) => bd (f_X10_mayOf a1 v6 s0) (fun (v12 : Int32) (s13 : SS) => bdp (f_X2_placeAfter a2 s13) (fun (v14 : Int32) => bd (f_X7_spanBehind rf a1 v14 a3 s13) (fun (v15 : Int32) (s16 : SS) => jn (fun (v17 : Int32) (s18 : SS) => gd (inb v1 64176) (lts (up s18 51 (Int32.toNatClampNeg v1) v17) (fun (s20 : SS) => some (v17, s20)))) (fun (k19 : Int32 → SS → Res) => lp_X7_spanFrom_137 rf a1 a3 v1 v8 v10 v12 v14 k19 FU v15 0 s16))))) (fun (k11 : Int32 → Res) => if (v8 : Int32) = 0 then k11 0 else k11 a3)) (fun (k9 : Int32 → Res) => jn (k9 0) (fun (k40 : Res) => if (v7 : Int32) = 0 then k40 else if (((s0 50 5) >>> (v6 &&& 31)) &&& 1 : Int32) = (1 : Int32) then k9 1 else k40)))) else gd (inb v1 64176) (some (s0 51 (Int32.toNatClampNeg v1), s0))) else some (0, s0))
set_option maxRecDepth 100000 in
set_option maxHeartbeats 4000000 in
theorem t_lp_X7_spanFrom_137 {l : Launch} {dr : Nat} (hdr : 4 ≤ dr) {rf : Int32 → Int32 → Int32 → SS → Res} (hrf : ∀ (x0 x1 x2 : Int32) (z : SS), Ct l wF yX7_spanFrom cX7_spanFrom 13 (some .int) dr [.ref 50, .int x0, .int x1, .int x2] z (rf x0 x1 x2 z)) (a1 : Int32) (a3 : Int32) (v1 : Int32) (v8 : Int32) (v10 : Int32) (v12 : Int32) (v14 : Int32) (k19 : Int32 → SS → Res) (hk19 : ∀ (v17 : Int32) (s18 : SS), RC l wF RX7 cX7_spanFrom 13 (some .int) (dr + 2) 211 [.ref 50, .null, .null, .null, .int v1, .null, .null, .null, .null, .null, .int v17, .null, .null] [] s18 (k19 v17 s18)) : ∀ (n24 : Nat) (v21 : Int32) (v22 : Int32) (s23 : SS), RC l wF RX7 cX7_spanFrom 13 (some .int) (dr + 2) 137 [.ref 50, .int a1, .null, .int a3, .int v1, .null, .int v8, .int v10, .int v12, .int v14, .int v21, .int v22, .null] [] s23 (lp_X7_spanFrom_137 rf a1 a3 v1 v8 v10 v12 v14 k19 n24 v21 v22 s23) := by
  intro n24
  induction n24 with
  | zero =>
    intro v21 v22 s23
    rw [lp_X7_spanFrom_137]
    exact r_none
  | succ n24 ih =>
    intro v21 v22 s23
    rw [lp_X7_spanFrom_137]
    refine r_iload (pc1 := 139) dX7_spanFrom_137 rfl rfl ?_
    refine r_bipush (v := 8) (pc1 := 141) dX7_spanFrom_139 kb_8 rfl ?_
    refine r_icmp_ge (tgt := 211) (pc1 := 144) dX7_spanFrom_141 (by decide) rfl (fun q25 => ?_) (fun q25 => ?_)
    · exact r_wk (hk19 v21 s23) ⟨Or.inr rfl, Or.inl rfl, Or.inl rfl, Or.inl rfl, Or.inr rfl, Or.inl rfl, Or.inl rfl, Or.inl rfl, Or.inl rfl, Or.inl rfl, Or.inr rfl, Or.inl rfl, Or.inl rfl, trivial⟩
    · refine r_iload (pc1 := 146) dX7_spanFrom_144 rfl rfl ?_
      refine r_iload (pc1 := 148) dX7_spanFrom_146 rfl rfl ?_
      refine r_icmp_eq (tgt := 211) (pc1 := 151) dX7_spanFrom_148 (by decide) rfl (fun q26 => ?_) (fun q26 => ?_)
      · exact r_wk (hk19 v21 s23) ⟨Or.inr rfl, Or.inl rfl, Or.inl rfl, Or.inl rfl, Or.inr rfl, Or.inl rfl, Or.inl rfl, Or.inl rfl, Or.inl rfl, Or.inl rfl, Or.inr rfl, Or.inl rfl, Or.inl rfl, trivial⟩
      · refine r_iload (pc1 := 153) dX7_spanFrom_151 rfl rfl ?_
        refine r_iload (pc1 := 155) dX7_spanFrom_153 rfl rfl ?_
        refine r_ishr (pc1 := 156) dX7_spanFrom_155 rfl ?_
        refine r_iconst (v := 1) (pc1 := 157) dX7_spanFrom_156 ki_1 rfl ?_
        refine r_iand (pc1 := 158) dX7_spanFrom_157 rfl ?_
        refine r_iconst (v := 1) (pc1 := 159) dX7_spanFrom_158 ki_1 rfl ?_
        refine r_jn (hyp := fun (k29 : Int32 → SS → Res) => ∀ (v27 : Int32) (s28 : SS), RC l wF RX7 cX7_spanFrom 13 (some .int) (dr + 2) 205 [.ref 50, .int a1, .null, .int a3, .int v1, .null, .int v8, .int v10, .int v12, .int v14, .int v27, .int v22, .null] [] s28 (k29 v27 s28)) (fun v27 s28 => ?_) (fun k29 hk29 => ?_)
        · refine r_iinc (pc1 := 208) dX7_spanFrom_205 rfl (kn_1 _) (by decide) rfl rfl rfl ?_
          refine r_goto (tgt := 137) dX7_spanFrom_208 (by decide) ?_
          exact r_wk (ih v27 (v22 + 1) s28) ⟨Or.inr rfl, Or.inr rfl, Or.inl rfl, Or.inr rfl, Or.inr rfl, Or.inl rfl, Or.inr rfl, Or.inr rfl, Or.inr rfl, Or.inr rfl, Or.inr rfl, Or.inr rfl, Or.inl rfl, trivial⟩
        · refine r_icmp_ne (tgt := 205) (pc1 := 162) dX7_spanFrom_159 (by decide) rfl (fun q30 => ?_) (fun q30 => ?_)
          · refine r_aload_n (pc1 := 163) (i := 0) dX7_spanFrom_162 rfl rfl rfl ?_
            refine r_aload_n (pc1 := 164) (i := 0) dX7_spanFrom_163 rfl rfl rfl ?_
            refine r_getR (pc1 := 167) w_50 gfX7_18 rfl dX7_spanFrom_164 rfl ?_
            refine r_iload_n (pc1 := 168) (i := 1) dX7_spanFrom_167 rfl rfl rfl ?_
            refine r_iload (pc1 := 170) dX7_spanFrom_168 rfl rfl ?_
            refine r_callVp (pc1 := 173) (rv_of w_3 cl_6) lkX7_84 (c_X6_behind w_3 w_4 w_5 w_6 w_7 w_8 _ _ _) rfl rfl ⟨by omega, Nat.le_of_ble_eq_true rfl⟩ (Nat.le_of_ble_eq_true rfl) dX7_spanFrom_170 rfl (fun v31 => ?_)
            refine r_iload (pc1 := 175) dX7_spanFrom_173 rfl rfl ?_
            refine r_iload_n (pc1 := 176) (i := 3) dX7_spanFrom_175 rfl rfl rfl ?_
            refine r_callVi (pc1 := 179) (rv_of w_50 cl_7) lkX7_81 (c_X7_spanBehind hdr hrf _ _ _ _) rfl rfl ⟨by omega, Nat.le_of_ble_eq_true rfl⟩ (Nat.le_of_ble_eq_true rfl) dX7_spanFrom_176 rfl (fun v32 s33 => ?_)
            refine r_istore (pc1 := 181) dX7_spanFrom_179 (by decide) rfl rfl rfl ?_
            refine r_iload (pc1 := 183) dX7_spanFrom_181 rfl rfl ?_
            refine r_jn (hyp := fun (k35 : Int32 → Res) => ∀ (v34 : Int32), RC l wF RX7 cX7_spanFrom 13 (some .int) (dr + 2) 203 [.ref 50, .int a1, .null, .int a3, .int v1, .null, .int v8, .int v10, .int v12, .int v14, .null, .int v22, .null] [.int v34] s33 (k35 v34)) (fun v34 => ?_) (fun k35 hk35 => ?_)
            · refine r_istore (pc1 := 205) dX7_spanFrom_203 (by decide) rfl rfl rfl ?_
              exact r_wk (hk29 v34 s33) ⟨Or.inr rfl, Or.inr rfl, Or.inl rfl, Or.inr rfl, Or.inr rfl, Or.inl rfl, Or.inr rfl, Or.inr rfl, Or.inr rfl, Or.inr rfl, Or.inr rfl, Or.inr rfl, Or.inl rfl, trivial⟩
            · refine r_if_eq (tgt := 196) (pc1 := 186) dX7_spanFrom_183 (by decide) rfl (fun q36 => ?_) (fun q36 => ?_)
              · refine r_iload (pc1 := 198) dX7_spanFrom_196 rfl rfl ?_
                refine r_iload (pc1 := 200) dX7_spanFrom_198 rfl rfl ?_
                refine r_mmin (pc1 := 203) mlX7_92 (by omega) dX7_spanFrom_200 rfl (Nat.le_of_ble_eq_true rfl) ?_
                refine r_lt (fun v37 => ?_)
                exact r_wk (hk35 v37) ⟨Or.inr rfl, Or.inr rfl, Or.inl rfl, Or.inr rfl, Or.inr rfl, Or.inl rfl, Or.inr rfl, Or.inr rfl, Or.inr rfl, Or.inr rfl, Or.inl rfl, Or.inr rfl, Or.inl rfl, trivial⟩
              · refine r_iload (pc1 := 188) dX7_spanFrom_186 rfl rfl ?_
                refine r_iload (pc1 := 190) dX7_spanFrom_188 rfl rfl ?_
                refine r_mmax (pc1 := 193) mlX7_87 (by omega) dX7_spanFrom_190 rfl (Nat.le_of_ble_eq_true rfl) ?_
                refine r_lt (fun v38 => ?_)
                refine r_goto (tgt := 203) dX7_spanFrom_193 (by decide) ?_
                exact r_wk (hk35 v38) ⟨Or.inr rfl, Or.inr rfl, Or.inl rfl, Or.inr rfl, Or.inr rfl, Or.inl rfl, Or.inr rfl, Or.inr rfl, Or.inr rfl, Or.inr rfl, Or.inl rfl, Or.inr rfl, Or.inl rfl, trivial⟩
          · exact r_wk (hk29 v21 s23) ⟨Or.inr rfl, Or.inr rfl, Or.inl rfl, Or.inr rfl, Or.inr rfl, Or.inl rfl, Or.inr rfl, Or.inr rfl, Or.inr rfl, Or.inr rfl, Or.inr rfl, Or.inr rfl, Or.inl rfl, trivial⟩
set_option maxRecDepth 100000 in
set_option maxHeartbeats 4000000 in
theorem c_o_X7_spanFrom {l : Launch} {dr : Nat} (hdr : 4 ≤ dr) {rf : Int32 → Int32 → Int32 → SS → Res} (hrf : ∀ (x0 x1 x2 : Int32) (z : SS), Ct l wF yX7_spanFrom cX7_spanFrom 13 (some .int) dr [.ref 50, .int x0, .int x1, .int x2] z (rf x0 x1 x2 z)) (a1 : Int32) (a2 : Int32) (a3 : Int32) (s0 : SS) : Ct l wF yX7_spanFrom cX7_spanFrom 13 (some .int) (dr + 2) [.ref 50, .int a1, .int a2, .int a3] s0 (o_X7_spanFrom rf a1 a2 a3 s0) := by
  refine ct_of (y := yX7_spanFrom) plX7 (Nat.le_of_ble_eq_true rfl) ?_
  refine r_pad0 9 (L1 := [.ref 50, .int a1, .int a2, .int a3, .null, .null, .null, .null, .null, .null, .null, .null, .null]) rfl ?_
  unfold o_X7_spanFrom
  refine r_iload_n (pc1 := 1) (i := 1) dX7_spanFrom_0 rfl rfl rfl ?_
  refine r_bipush (v := 12) (pc1 := 3) dX7_spanFrom_1 kb_12 rfl ?_
  refine r_imul (pc1 := 4) dX7_spanFrom_3 rfl ?_
  refine r_iload_n (pc1 := 5) (i := 3) dX7_spanFrom_4 rfl rfl rfl ?_
  refine r_iadd (pc1 := 6) dX7_spanFrom_5 rfl ?_
  refine r_iconst (v := 1) (pc1 := 7) dX7_spanFrom_6 ki_1 rfl ?_
  refine r_isub (pc1 := 8) dX7_spanFrom_7 rfl ?_
  refine r_lt (fun v1 => ?_)
  refine r_istore (pc1 := 10) dX7_spanFrom_8 (by decide) rfl rfl rfl ?_
  refine r_iload_n (pc1 := 11) (i := 3) dX7_spanFrom_10 rfl rfl rfl ?_
  refine r_iconst (v := 1) (pc1 := 12) dX7_spanFrom_11 ki_1 rfl ?_
  refine r_icmp_lt (tgt := 30) (pc1 := 15) dX7_spanFrom_12 (by decide) rfl (fun q2 => ?_) (fun q2 => ?_)
  · refine r_iconst (v := 0) (pc1 := 31) dX7_spanFrom_30 ki_0 rfl ?_
    exact r_iret rfl rfl dX7_spanFrom_31
  · refine r_iload (pc1 := 17) dX7_spanFrom_15 rfl rfl ?_
    refine r_if_lt (tgt := 30) (pc1 := 20) dX7_spanFrom_17 (by decide) rfl (fun q3 => ?_) (fun q3 => ?_)
    · refine r_iconst (v := 0) (pc1 := 31) dX7_spanFrom_30 ki_0 rfl ?_
      exact r_iret rfl rfl dX7_spanFrom_31
    · refine r_iload (pc1 := 22) dX7_spanFrom_20 rfl rfl ?_
      refine r_aload_n (pc1 := 23) (i := 0) dX7_spanFrom_22 rfl rfl rfl ?_
      refine r_getR (pc1 := 26) w_50 gfX7_12 rfl dX7_spanFrom_23 rfl ?_
      refine r_alen (t := 0) (v := 64176) (pc1 := 27) w_51 (fun _ => rfl) (al_64176) dX7_spanFrom_26 rfl ?_
      refine r_icmp_lt (tgt := 32) (pc1 := 30) dX7_spanFrom_27 (by decide) rfl (fun q4 => ?_) (fun q4 => ?_)
      · refine r_aload_n (pc1 := 33) (i := 0) dX7_spanFrom_32 rfl rfl rfl ?_
        refine r_getR (pc1 := 36) w_50 gfX7_12 rfl dX7_spanFrom_33 rfl ?_
        refine r_iload (pc1 := 38) dX7_spanFrom_36 rfl rfl ?_
        refine r_iald (pc1 := 39) w_51 dX7_spanFrom_38 rfl ?_
        refine r_ldc (v := (-1000000000)) (pc1 := 41) dX7_spanFrom_39 cnX7_49 rfl ?_
        refine r_icmp_eq (tgt := 52) (pc1 := 44) dX7_spanFrom_41 (by decide) rfl (fun q5 => ?_) (fun q5 => ?_)
        · refine r_aload_n (pc1 := 53) (i := 0) dX7_spanFrom_52 rfl rfl rfl ?_
          refine r_getR (pc1 := 56) w_50 gfX7_26 rfl dX7_spanFrom_53 rfl ?_
          refine r_iload_n (pc1 := 57) (i := 2) dX7_spanFrom_56 rfl rfl rfl ?_
          refine r_callVp (pc1 := 60) (rv_of w_35 cl_2) lkX7_63 (c_X2_onTurn _ _) rfl rfl ⟨by omega, Nat.le_of_ble_eq_true rfl⟩ (Nat.le_of_ble_eq_true rfl) dX7_spanFrom_57 rfl (fun v6 => ?_)
          refine r_istore (pc1 := 62) dX7_spanFrom_60 (by decide) rfl rfl rfl ?_
          refine r_iload (pc1 := 64) dX7_spanFrom_62 rfl rfl ?_
          refine r_callSNp (pc1 := 67) lkX7_68 (c_X11_isPerson _ _) rfl rfl ⟨by omega, Nat.le_of_ble_eq_true rfl⟩ (Nat.le_of_ble_eq_true rfl) dX7_spanFrom_64 rfl (fun v7 => ?_)
          refine r_jn (hyp := fun (k9 : Int32 → Res) => ∀ (v8 : Int32), RC l wF RX7 cX7_spanFrom 13 (some .int) (dr + 2) 88 [.ref 50, .int a1, .int a2, .int a3, .int v1, .int v6, .null, .null, .null, .null, .null, .null, .null] [.int v8] s0 (k9 v8)) (fun v8 => ?_) (fun k9 hk9 => ?_)
          · refine r_istore (pc1 := 90) dX7_spanFrom_88 (by decide) rfl rfl rfl ?_
            refine r_iload (pc1 := 92) dX7_spanFrom_90 rfl rfl ?_
            refine r_jn (hyp := fun (k11 : Int32 → Res) => ∀ (v10 : Int32), RC l wF RX7 cX7_spanFrom 13 (some .int) (dr + 2) 100 [.ref 50, .int a1, .int a2, .int a3, .int v1, .int v6, .int v8, .null, .null, .null, .null, .null, .null] [.int v10] s0 (k11 v10)) (fun v10 => ?_) (fun k11 hk11 => ?_)
            · refine r_istore (pc1 := 102) dX7_spanFrom_100 (by decide) rfl rfl rfl ?_
              refine r_aload_n (pc1 := 103) (i := 0) dX7_spanFrom_102 rfl rfl rfl ?_
              refine r_getR (pc1 := 106) w_50 gfX7_22 rfl dX7_spanFrom_103 rfl ?_
              refine r_iload_n (pc1 := 107) (i := 1) dX7_spanFrom_106 rfl rfl rfl ?_
              refine r_iload (pc1 := 109) dX7_spanFrom_107 rfl rfl ?_
              refine r_callVi (pc1 := 112) (rv_of w_27 cl_10) lkX7_72 (c_X10_mayOf _ _ _) rfl rfl ⟨by omega, Nat.le_of_ble_eq_true rfl⟩ (Nat.le_of_ble_eq_true rfl) dX7_spanFrom_109 rfl (fun v12 s13 => ?_)
              refine r_istore (pc1 := 114) dX7_spanFrom_112 (by decide) rfl rfl rfl ?_
              refine r_aload_n (pc1 := 115) (i := 0) dX7_spanFrom_114 rfl rfl rfl ?_
              refine r_getR (pc1 := 118) w_50 gfX7_26 rfl dX7_spanFrom_115 rfl ?_
              refine r_iload_n (pc1 := 119) (i := 2) dX7_spanFrom_118 rfl rfl rfl ?_
              refine r_callVp (pc1 := 122) (rv_of w_35 cl_2) lkX7_78 (c_X2_placeAfter _ _) rfl rfl ⟨by omega, Nat.le_of_ble_eq_true rfl⟩ (Nat.le_of_ble_eq_true rfl) dX7_spanFrom_119 rfl (fun v14 => ?_)
              refine r_istore (pc1 := 124) dX7_spanFrom_122 (by decide) rfl rfl rfl ?_
              refine r_aload_n (pc1 := 125) (i := 0) dX7_spanFrom_124 rfl rfl rfl ?_
              refine r_iload_n (pc1 := 126) (i := 1) dX7_spanFrom_125 rfl rfl rfl ?_
              refine r_iload (pc1 := 128) dX7_spanFrom_126 rfl rfl ?_
              refine r_iload_n (pc1 := 129) (i := 3) dX7_spanFrom_128 rfl rfl rfl ?_
              refine r_callVi (pc1 := 132) (rv_of w_50 cl_7) lkX7_81 (c_X7_spanBehind hdr hrf _ _ _ _) rfl rfl ⟨by omega, Nat.le_of_ble_eq_true rfl⟩ (Nat.le_of_ble_eq_true rfl) dX7_spanFrom_129 rfl (fun v15 s16 => ?_)
              refine r_istore (pc1 := 134) dX7_spanFrom_132 (by decide) rfl rfl rfl ?_
              refine r_iconst (v := 0) (pc1 := 135) dX7_spanFrom_134 ki_0 rfl ?_
              refine r_istore (pc1 := 137) dX7_spanFrom_135 (by decide) rfl rfl rfl ?_
              refine r_jn (hyp := fun (k19 : Int32 → SS → Res) => ∀ (v17 : Int32) (s18 : SS), RC l wF RX7 cX7_spanFrom 13 (some .int) (dr + 2) 211 [.ref 50, .null, .null, .null, .int v1, .null, .null, .null, .null, .null, .int v17, .null, .null] [] s18 (k19 v17 s18)) (fun v17 s18 => ?_) (fun k19 hk19 => ?_)
              · refine r_aload_n (pc1 := 212) (i := 0) dX7_spanFrom_211 rfl rfl rfl ?_
                refine r_getR (pc1 := 215) w_50 gfX7_12 rfl dX7_spanFrom_212 rfl ?_
                refine r_iload (pc1 := 217) dX7_spanFrom_215 rfl rfl ?_
                refine r_iload (pc1 := 219) dX7_spanFrom_217 rfl rfl ?_
                refine r_iast (pc1 := 220) w_51 dX7_spanFrom_219 rfl ?_
                refine r_lts (fun s20 => ?_)
                refine r_iload (pc1 := 222) dX7_spanFrom_220 rfl rfl ?_
                exact r_iret rfl rfl dX7_spanFrom_222
              · exact r_wk (t_lp_X7_spanFrom_137 hdr hrf a1 a3 v1 v8 v10 v12 v14 k19 hk19 FU v15 0 s16) ⟨Or.inr rfl, Or.inr rfl, Or.inl rfl, Or.inr rfl, Or.inr rfl, Or.inl rfl, Or.inr rfl, Or.inr rfl, Or.inr rfl, Or.inr rfl, Or.inr rfl, Or.inr rfl, Or.inl rfl, trivial⟩
            · refine r_if_eq (tgt := 99) (pc1 := 95) dX7_spanFrom_92 (by decide) rfl (fun q39 => ?_) (fun q39 => ?_)
              · refine r_iconst (v := 0) (pc1 := 100) dX7_spanFrom_99 ki_0 rfl ?_
                exact r_wk (hk11 0) ⟨Or.inr rfl, Or.inr rfl, Or.inr rfl, Or.inr rfl, Or.inr rfl, Or.inr rfl, Or.inr rfl, Or.inl rfl, Or.inl rfl, Or.inl rfl, Or.inl rfl, Or.inl rfl, Or.inl rfl, trivial⟩
              · refine r_iload_n (pc1 := 96) (i := 3) dX7_spanFrom_95 rfl rfl rfl ?_
                refine r_goto (tgt := 100) dX7_spanFrom_96 (by decide) ?_
                exact r_wk (hk11 a3) ⟨Or.inr rfl, Or.inr rfl, Or.inr rfl, Or.inr rfl, Or.inr rfl, Or.inr rfl, Or.inr rfl, Or.inl rfl, Or.inl rfl, Or.inl rfl, Or.inl rfl, Or.inl rfl, Or.inl rfl, trivial⟩
          · refine r_jn (hyp := fun (k40 : Res) => RC l wF RX7 cX7_spanFrom 13 (some .int) (dr + 2) 87 [.ref 50, .int a1, .int a2, .int a3, .int v1, .int v6, .null, .null, .null, .null, .null, .null, .null] [] s0 k40) (?_) (fun k40 hk40 => ?_)
            · refine r_iconst (v := 0) (pc1 := 88) dX7_spanFrom_87 ki_0 rfl ?_
              exact r_wk (hk9 0) ⟨Or.inr rfl, Or.inr rfl, Or.inr rfl, Or.inr rfl, Or.inr rfl, Or.inr rfl, Or.inl rfl, Or.inl rfl, Or.inl rfl, Or.inl rfl, Or.inl rfl, Or.inl rfl, Or.inl rfl, trivial⟩
            · refine r_if_eq (tgt := 87) (pc1 := 70) dX7_spanFrom_67 (by decide) rfl (fun q41 => ?_) (fun q41 => ?_)
              · exact r_wk (hk40) ⟨Or.inr rfl, Or.inr rfl, Or.inr rfl, Or.inr rfl, Or.inr rfl, Or.inr rfl, Or.inl rfl, Or.inl rfl, Or.inl rfl, Or.inl rfl, Or.inl rfl, Or.inl rfl, Or.inl rfl, trivial⟩
              · refine r_aload_n (pc1 := 71) (i := 0) dX7_spanFrom_70 rfl rfl rfl ?_
                refine r_getI (pc1 := 74) w_50 gfX7_34 rfl dX7_spanFrom_71 rfl ?_
                refine r_iload (pc1 := 76) dX7_spanFrom_74 rfl rfl ?_
                refine r_ishr (pc1 := 77) dX7_spanFrom_76 rfl ?_
                refine r_iconst (v := 1) (pc1 := 78) dX7_spanFrom_77 ki_1 rfl ?_
                refine r_iand (pc1 := 79) dX7_spanFrom_78 rfl ?_
                refine r_iconst (v := 1) (pc1 := 80) dX7_spanFrom_79 ki_1 rfl ?_
                refine r_icmp_ne (tgt := 87) (pc1 := 83) dX7_spanFrom_80 (by decide) rfl (fun q42 => ?_) (fun q42 => ?_)
                · refine r_iconst (v := 1) (pc1 := 84) dX7_spanFrom_83 ki_1 rfl ?_
                  refine r_goto (tgt := 88) dX7_spanFrom_84 (by decide) ?_
                  exact r_wk (hk9 1) ⟨Or.inr rfl, Or.inr rfl, Or.inr rfl, Or.inr rfl, Or.inr rfl, Or.inr rfl, Or.inl rfl, Or.inl rfl, Or.inl rfl, Or.inl rfl, Or.inl rfl, Or.inl rfl, Or.inl rfl, trivial⟩
                · exact r_wk (hk40) ⟨Or.inr rfl, Or.inr rfl, Or.inr rfl, Or.inr rfl, Or.inr rfl, Or.inr rfl, Or.inl rfl, Or.inl rfl, Or.inl rfl, Or.inl rfl, Or.inl rfl, Or.inl rfl, Or.inl rfl, trivial⟩
        · refine r_aload_n (pc1 := 45) (i := 0) dX7_spanFrom_44 rfl rfl rfl ?_
          refine r_getR (pc1 := 48) w_50 gfX7_12 rfl dX7_spanFrom_45 rfl ?_
          refine r_iload (pc1 := 50) dX7_spanFrom_48 rfl rfl ?_
          refine r_iald (pc1 := 51) w_51 dX7_spanFrom_50 rfl ?_
          exact r_iret rfl rfl dX7_spanFrom_51
      · refine r_iconst (v := 0) (pc1 := 31) dX7_spanFrom_30 ki_0 rfl ?_
        exact r_iret rfl rfl dX7_spanFrom_31
noncomputable def f_X7_spanFrom : Nat → Int32 → Int32 → Int32 → SS → Res
  | 0, _, _, _, _ => none
  | n + 1, a1, a2, a3, s0 => o_X7_spanFrom (f_X7_spanFrom n) a1 a2 a3 s0
theorem c_X7_spanFrom {l : Launch} : ∀ (n : Nat) (a1 : Int32) (a2 : Int32) (a3 : Int32) (s0 : SS), Ct l wF yX7_spanFrom cX7_spanFrom 13 (some .int) (4 + 2 * n) [.ref 50, .int a1, .int a2, .int a3] s0 (f_X7_spanFrom n a1 a2 a3 s0)
  | 0, _, _, _, _ => fun r s1 he => by cases he
  | n + 1, a1, a2, a3, s0 => c_o_X7_spanFrom (by omega) (fun x0 x1 x2 z => c_X7_spanFrom n x0 x1 x2 z) a1 a2 a3 s0
/-! f_X7_solve -/
noncomputable def f_X7_solve (a1 : Int32) (a2 : Int32) (s0 : SS) : Res := lts (up s0 50 4 a1) (fun (s1 : SS) => lts (up s1 50 5 a2) (fun (s2 : SS) => bdp (f_X6_lengthOf (s2 52 0) s2) (fun (v3 : Int32) => bdp (f_X6_bareOf v3 s2) (fun (v4 : Int32) => bdp (f_X6_bareOf (v3 + 1) s2) (fun (v5 : Int32) => bd (f_J7_fill_fda19_51 (v4 * 12) (v5 * 12) ((-1000000000)) s2) (fun (v6 : Int32) (s7 : SS) => bd (f_X7_spanFrom 40 (s7 52 0) (s7 52 1) 12 s7) (fun (v8 : Int32) (s9 : SS) => some (v8, s9))))))))
set_option maxRecDepth 100000 in
set_option maxHeartbeats 4000000 in
theorem c_X7_solve {l : Launch} (a1 : Int32) (a2 : Int32) (s0 : SS) : Ct l wF yX7_solve cX7_solve 5 (some .int) 85 [.ref 50, .ref 52, .int a1, .int a2] s0 (f_X7_solve a1 a2 s0) := by
  refine ct_of (y := yX7_solve) plX7 (Nat.le_of_ble_eq_true rfl) ?_
  refine r_pad0 1 (L1 := [.ref 50, .ref 52, .int a1, .int a2, .null]) rfl ?_
  unfold f_X7_solve
  refine r_aload_n (pc1 := 1) (i := 0) dX7_solve_0 rfl rfl rfl ?_
  refine r_iload_n (pc1 := 2) (i := 2) dX7_solve_1 rfl rfl rfl ?_
  refine r_putI (pc1 := 5) w_50 pfX7_30 rfl ⟨rfl, rfl⟩ dX7_solve_2 rfl ?_
  refine r_lts (fun s1 => ?_)
  refine r_aload_n (pc1 := 6) (i := 0) dX7_solve_5 rfl rfl rfl ?_
  refine r_iload_n (pc1 := 7) (i := 3) dX7_solve_6 rfl rfl rfl ?_
  refine r_putI (pc1 := 10) w_50 pfX7_34 rfl ⟨rfl, rfl⟩ dX7_solve_7 rfl ?_
  refine r_lts (fun s2 => ?_)
  refine r_aload_n (pc1 := 11) (i := 0) dX7_solve_10 rfl rfl rfl ?_
  refine r_getR (pc1 := 14) w_50 gfX7_18 rfl dX7_solve_11 rfl ?_
  refine r_aload_n (pc1 := 15) (i := 1) dX7_solve_14 rfl rfl rfl ?_
  refine r_getI (pc1 := 18) w_52 gfX7_37 rfl dX7_solve_15 rfl ?_
  refine r_callVp (pc1 := 21) (rv_of w_3 cl_6) lkX7_42 (c_X6_lengthOf w_3 w_4 w_5 w_6 w_7 w_8 _ _) rfl rfl ⟨Nat.le_of_ble_eq_true rfl, Nat.le_of_ble_eq_true rfl⟩ (Nat.le_of_ble_eq_true rfl) dX7_solve_18 rfl (fun v3 => ?_)
  refine r_istore (pc1 := 23) dX7_solve_21 (by decide) rfl rfl rfl ?_
  refine r_aload_n (pc1 := 24) (i := 0) dX7_solve_23 rfl rfl rfl ?_
  refine r_getR (pc1 := 27) w_50 gfX7_12 rfl dX7_solve_24 rfl ?_
  refine r_iload (pc1 := 29) dX7_solve_27 rfl rfl ?_
  refine r_callSp (pc1 := 32) lkX7_46 (c_X6_bareOf w_3 w_4 w_5 w_6 w_7 w_8 _ _) rfl rfl ⟨Nat.le_of_ble_eq_true rfl, Nat.le_of_ble_eq_true rfl⟩ (Nat.le_of_ble_eq_true rfl) dX7_solve_29 rfl (fun v4 => ?_)
  refine r_bipush (v := 12) (pc1 := 34) dX7_solve_32 kb_12 rfl ?_
  refine r_imul (pc1 := 35) dX7_solve_34 rfl ?_
  refine r_iload (pc1 := 37) dX7_solve_35 rfl rfl ?_
  refine r_iconst (v := 1) (pc1 := 38) dX7_solve_37 ki_1 rfl ?_
  refine r_iadd (pc1 := 39) dX7_solve_38 rfl ?_
  refine r_callSp (pc1 := 42) lkX7_46 (c_X6_bareOf w_3 w_4 w_5 w_6 w_7 w_8 _ _) rfl rfl ⟨Nat.le_of_ble_eq_true rfl, Nat.le_of_ble_eq_true rfl⟩ (Nat.le_of_ble_eq_true rfl) dX7_solve_39 rfl (fun v5 => ?_)
  refine r_bipush (v := 12) (pc1 := 44) dX7_solve_42 kb_12 rfl ?_
  refine r_imul (pc1 := 45) dX7_solve_44 rfl ?_
  refine r_ldc (v := (-1000000000)) (pc1 := 47) dX7_solve_45 cnX7_49 rfl ?_
  refine r_callSv (pc1 := 50) lkX7_50 (c_J7_fill_fda19_51 _ _ _ _) rfl rfl ⟨Nat.le_of_ble_eq_true rfl, Nat.le_of_ble_eq_true rfl⟩ (Nat.le_of_ble_eq_true rfl) dX7_solve_47 rfl (fun v6 s7 => ?_)
  refine r_aload_n (pc1 := 51) (i := 0) dX7_solve_50 rfl rfl rfl ?_
  refine r_aload_n (pc1 := 52) (i := 1) dX7_solve_51 rfl rfl rfl ?_
  refine r_getI (pc1 := 55) w_52 gfX7_37 rfl dX7_solve_52 rfl ?_
  refine r_aload_n (pc1 := 56) (i := 1) dX7_solve_55 rfl rfl rfl ?_
  refine r_getI (pc1 := 59) w_52 gfX7_56 rfl dX7_solve_56 rfl ?_
  refine r_bipush (v := 12) (pc1 := 61) dX7_solve_59 kb_12 rfl ?_
  refine r_callVi (pc1 := 64) (rv_of w_50 cl_7) lkX7_59 (c_X7_spanFrom 40 _ _ _ _) rfl rfl ⟨Nat.le_of_ble_eq_true rfl, Nat.le_of_ble_eq_true rfl⟩ (Nat.le_of_ble_eq_true rfl) dX7_solve_61 rfl (fun v8 s9 => ?_)
  exact r_iret rfl rfl dX7_solve_64
/-! f_X11_held -/
noncomputable def f_X11_held (a1 : Int32) (a2 : Int32) (a3 : Int32) (s0 : SS) : Res := bdp (f_X11_isLaw a1 s0) (fun (v1 : Int32) => if (v1 : Int32) = 0 then some ((-1), s0) else bdp (f_X11_isLaw a2 s0) (fun (v3 : Int32) => if (v3 : Int32) = 0 then some ((-1), s0) else bdp (f_X11_within a3 15 s0) (fun (v5 : Int32) => if (v5 : Int32) = 0 then some ((-1), s0) else bd (f_X7_solve ((1 <<< (a1 &&& 31)) ||| (1 <<< (a2 &&& 31))) a3 s0) (fun (v7 : Int32) (s8 : SS) => some (v7, s8)))))
set_option maxRecDepth 100000 in
set_option maxHeartbeats 4000000 in
theorem c_X11_held {l : Launch} (a1 : Int32) (a2 : Int32) (a3 : Int32) (s0 : SS) : Ct l wF yX11_held cX11_held 4 (some .int) 86 [.ref 0, .int a1, .int a2, .int a3] s0 (f_X11_held a1 a2 a3 s0) := by
  refine ct_of (y := yX11_held) plX11 (Nat.le_of_ble_eq_true rfl) ?_
  refine r_pad0 0 (L1 := [.ref 0, .int a1, .int a2, .int a3]) rfl ?_
  unfold f_X11_held
  refine r_aload_n (pc1 := 1) (i := 0) dX11_held_0 rfl rfl rfl ?_
  refine r_iload_n (pc1 := 2) (i := 1) dX11_held_1 rfl rfl rfl ?_
  refine r_callVp (pc1 := 5) (rv_of w_0 cl_11) lkX11_146 (c_X11_isLaw _ _) rfl rfl ⟨Nat.le_of_ble_eq_true rfl, Nat.le_of_ble_eq_true rfl⟩ (Nat.le_of_ble_eq_true rfl) dX11_held_2 rfl (fun v1 => ?_)
  refine r_if_eq (tgt := 25) (pc1 := 8) dX11_held_5 (by decide) rfl (fun q2 => ?_) (fun q2 => ?_)
  · refine r_iconst (v := (-1)) (pc1 := 26) dX11_held_25 ki_m1 rfl ?_
    exact r_iret rfl rfl dX11_held_26
  · refine r_aload_n (pc1 := 9) (i := 0) dX11_held_8 rfl rfl rfl ?_
    refine r_iload_n (pc1 := 10) (i := 2) dX11_held_9 rfl rfl rfl ?_
    refine r_callVp (pc1 := 13) (rv_of w_0 cl_11) lkX11_146 (c_X11_isLaw _ _) rfl rfl ⟨Nat.le_of_ble_eq_true rfl, Nat.le_of_ble_eq_true rfl⟩ (Nat.le_of_ble_eq_true rfl) dX11_held_10 rfl (fun v3 => ?_)
    refine r_if_eq (tgt := 25) (pc1 := 16) dX11_held_13 (by decide) rfl (fun q4 => ?_) (fun q4 => ?_)
    · refine r_iconst (v := (-1)) (pc1 := 26) dX11_held_25 ki_m1 rfl ?_
      exact r_iret rfl rfl dX11_held_26
    · refine r_iload_n (pc1 := 17) (i := 3) dX11_held_16 rfl rfl rfl ?_
      refine r_bipush (v := 15) (pc1 := 19) dX11_held_17 kb_15 rfl ?_
      refine r_callSp (pc1 := 22) lkX11_102 (c_X11_within _ _ _) rfl rfl ⟨Nat.le_of_ble_eq_true rfl, Nat.le_of_ble_eq_true rfl⟩ (Nat.le_of_ble_eq_true rfl) dX11_held_19 rfl (fun v5 => ?_)
      refine r_if_ne (tgt := 27) (pc1 := 25) dX11_held_22 (by decide) rfl (fun q6 => ?_) (fun q6 => ?_)
      · refine r_iconst (v := (-1)) (pc1 := 26) dX11_held_25 ki_m1 rfl ?_
        exact r_iret rfl rfl dX11_held_26
      · refine r_aload_n (pc1 := 28) (i := 0) dX11_held_27 rfl rfl rfl ?_
        refine r_getR (pc1 := 31) w_0 gfX11_81 rfl dX11_held_28 rfl ?_
        refine r_aload_n (pc1 := 32) (i := 0) dX11_held_31 rfl rfl rfl ?_
        refine r_getR (pc1 := 35) w_0 gfX11_88 rfl dX11_held_32 rfl ?_
        refine r_iconst (v := 1) (pc1 := 36) dX11_held_35 ki_1 rfl ?_
        refine r_iload_n (pc1 := 37) (i := 1) dX11_held_36 rfl rfl rfl ?_
        refine r_ishl (pc1 := 38) dX11_held_37 rfl ?_
        refine r_iconst (v := 1) (pc1 := 39) dX11_held_38 ki_1 rfl ?_
        refine r_iload_n (pc1 := 40) (i := 2) dX11_held_39 rfl rfl rfl ?_
        refine r_ishl (pc1 := 41) dX11_held_40 rfl ?_
        refine r_ior (pc1 := 42) dX11_held_41 rfl ?_
        refine r_iload_n (pc1 := 43) (i := 3) dX11_held_42 rfl rfl rfl ?_
        refine r_callVi (pc1 := 46) (rv_of w_50 cl_7) lkX11_274 (c_X7_solve _ _ _) rfl rfl ⟨Nat.le_of_ble_eq_true rfl, Nat.le_of_ble_eq_true rfl⟩ (Nat.le_of_ble_eq_true rfl) dX11_held_43 rfl (fun v7 s8 => ?_)
        exact r_iret rfl rfl dX11_held_46
/-! f_X11_number -/
noncomputable def lp_X11_number_29 (a1 : Int32) (a2 : Int32) (k9 : Int32 → Int32 → Int32 → SS → Res) : Nat → Int32 → Int32 → Int32 → Int32 → SS → Res
  | 0, _, _, _, _, _ => none
  | n20 + 1, v15, v16, v17, v18, s19 => if (4 : Int32) < (v18 : Int32) then k9 v15 v16 v17 s19 else bdp (f_X6_bareOf v18 s19) (fun (v22 : Int32) => bd (f_X5_find v22 0 s19) (fun (v23 : Int32) (s24 : SS) => bd (f_X5_sumOf a1 s24) (fun (v25 : Int32) (s26 : SS) => jn (fun (v27 : Int32) (v28 : Int32) (v29 : Int32) => lp_X11_number_29 a1 a2 k9 n20 v27 v28 v29 (v18 + 1) s26) (fun (k30 : Int32 → Int32 → Int32 → Res) => jn (lt (s26 39 5) (fun (v32 : Int32) => k30 v18 v25 v32)) (fun (k31 : Res) => if (v15 : Int32) = 0 then k31 else if (lg_cmp (((v25 : Int32).toInt64) * ((v17 : Int32).toInt64)) (((v16 : Int32).toInt64) * ((s26 39 5 : Int32).toInt64)) : Int32) ≤ 0 then k30 v15 v16 v17 else k31)))))
noncomputable def f_X11_number (a1 : Int32) (a2 : Int32) (s0 : SS) : Res := bdp (f_X11_isPerson a1 s0) (fun (v1 : Int32) => if (v1 : Int32) = 0 then some ((-1000000), s0) else bdp (f_X11_within a2 2 s0) (fun (v3 : Int32) => if (v3 : Int32) = 0 then some ((-1000000), s0) else jn (fun (v5 : Int32) (v6 : Int32) (v7 : Int32) (s8 : SS) => if (a2 : Int32) = 0 then some (v5, s8) else jn (fun (v11 : Int32) => bdp (f_X11_reduced v11 v6 v7 s8) (fun (v13 : Int32) => some (v13, s8))) (fun (k12 : Int32 → Res) => if (a2 : Int32) = (1 : Int32) then k12 v6 else k12 v7)) (fun (k9 : Int32 → Int32 → Int32 → SS → Res) => lp_X11_number_29 a1 a2 k9 FU 0 0 1 1 s0)))
set_option maxRecDepth 100000 in
set_option maxHeartbeats 4000000 in
theorem t_lp_X11_number_29 {l : Launch} (a1 : Int32) (a2 : Int32) (k9 : Int32 → Int32 → Int32 → SS → Res) (hk9 : ∀ (v5 : Int32) (v6 : Int32) (v7 : Int32) (s8 : SS), RC l wF RX11 cX11_number 8 (some .int) 7 107 [.ref 0, .null, .int a2, .int v5, .int v6, .int v7, .null, .null] [] s8 (k9 v5 v6 v7 s8)) : ∀ (n20 : Nat) (v15 : Int32) (v16 : Int32) (v17 : Int32) (v18 : Int32) (s19 : SS), RC l wF RX11 cX11_number 8 (some .int) 7 29 [.ref 0, .int a1, .int a2, .int v15, .int v16, .int v17, .int v18, .null] [] s19 (lp_X11_number_29 a1 a2 k9 n20 v15 v16 v17 v18 s19) := by
  intro n20
  induction n20 with
  | zero =>
    intro v15 v16 v17 v18 s19
    rw [lp_X11_number_29]
    exact r_none
  | succ n20 ih =>
    intro v15 v16 v17 v18 s19
    rw [lp_X11_number_29]
    refine r_iload (pc1 := 31) dX11_number_29 rfl rfl ?_
    refine r_iconst (v := 4) (pc1 := 32) dX11_number_31 ki_4 rfl ?_
    refine r_icmp_gt (tgt := 107) (pc1 := 35) dX11_number_32 (by decide) rfl (fun q21 => ?_) (fun q21 => ?_)
    · exact r_wk (hk9 v15 v16 v17 s19) ⟨Or.inr rfl, Or.inl rfl, Or.inr rfl, Or.inr rfl, Or.inr rfl, Or.inr rfl, Or.inl rfl, Or.inl rfl, trivial⟩
    · refine r_aload_n (pc1 := 36) (i := 0) dX11_number_35 rfl rfl rfl ?_
      refine r_getR (pc1 := 39) w_0 gfX11_60 rfl dX11_number_36 rfl ?_
      refine r_iload (pc1 := 41) dX11_number_39 rfl rfl ?_
      refine r_callSp (pc1 := 44) lkX11_118 (c_X6_bareOf w_3 w_4 w_5 w_6 w_7 w_8 _ _) rfl rfl ⟨Nat.le_of_ble_eq_true rfl, Nat.le_of_ble_eq_true rfl⟩ (Nat.le_of_ble_eq_true rfl) dX11_number_41 rfl (fun v22 => ?_)
      refine r_iconst (v := 0) (pc1 := 45) dX11_number_44 ki_0 rfl ?_
      refine r_callVv (pc1 := 48) (rv_of w_39 cl_5) lkX11_238 (c_X5_find _ _ _) rfl rfl ⟨Nat.le_of_ble_eq_true rfl, Nat.le_of_ble_eq_true rfl⟩ (Nat.le_of_ble_eq_true rfl) dX11_number_45 rfl (fun v23 s24 => ?_)
      refine r_aload_n (pc1 := 49) (i := 0) dX11_number_48 rfl rfl rfl ?_
      refine r_getR (pc1 := 52) w_0 gfX11_60 rfl dX11_number_49 rfl ?_
      refine r_iload_n (pc1 := 53) (i := 1) dX11_number_52 rfl rfl rfl ?_
      refine r_callVi (pc1 := 56) (rv_of w_39 cl_5) lkX11_246 (c_X5_sumOf _ _) rfl rfl ⟨Nat.le_of_ble_eq_true rfl, Nat.le_of_ble_eq_true rfl⟩ (Nat.le_of_ble_eq_true rfl) dX11_number_53 rfl (fun v25 s26 => ?_)
      refine r_istore (pc1 := 58) dX11_number_56 (by decide) rfl rfl rfl ?_
      refine r_iload_n (pc1 := 59) (i := 3) dX11_number_58 rfl rfl rfl ?_
      refine r_jn (hyp := fun (k30 : Int32 → Int32 → Int32 → Res) => ∀ (v27 : Int32) (v28 : Int32) (v29 : Int32), RC l wF RX11 cX11_number 8 (some .int) 7 101 [.ref 0, .int a1, .int a2, .int v27, .int v28, .int v29, .int v18, .null] [] s26 (k30 v27 v28 v29)) (fun v27 v28 v29 => ?_) (fun k30 hk30 => ?_)
      · refine r_iinc (pc1 := 104) dX11_number_101 rfl (kn_1 _) (by decide) rfl rfl rfl ?_
        refine r_goto (tgt := 29) dX11_number_104 (by decide) ?_
        exact r_wk (ih v27 v28 v29 (v18 + 1) s26) ⟨Or.inr rfl, Or.inr rfl, Or.inr rfl, Or.inr rfl, Or.inr rfl, Or.inr rfl, Or.inr rfl, Or.inl rfl, trivial⟩
      · refine r_jn (hyp := fun (k31 : Res) => RC l wF RX11 cX11_number 8 (some .int) 7 85 [.ref 0, .int a1, .int a2, .null, .null, .null, .int v18, .int v25] [] s26 k31) (?_) (fun k31 hk31 => ?_)
        · refine r_iload (pc1 := 87) dX11_number_85 rfl rfl ?_
          refine r_istore_n (pc1 := 88) (i := 3) dX11_number_87 rfl (by decide) rfl rfl rfl ?_
          refine r_iload (pc1 := 90) dX11_number_88 rfl rfl ?_
          refine r_istore (pc1 := 92) dX11_number_90 (by decide) rfl rfl rfl ?_
          refine r_aload_n (pc1 := 93) (i := 0) dX11_number_92 rfl rfl rfl ?_
          refine r_getR (pc1 := 96) w_0 gfX11_60 rfl dX11_number_93 rfl ?_
          refine r_getI (pc1 := 99) w_39 gfX11_245 rfl dX11_number_96 rfl ?_
          refine r_lt (fun v32 => ?_)
          refine r_istore (pc1 := 101) dX11_number_99 (by decide) rfl rfl rfl ?_
          exact r_wk (hk30 v18 v25 v32) ⟨Or.inr rfl, Or.inr rfl, Or.inr rfl, Or.inr rfl, Or.inr rfl, Or.inr rfl, Or.inr rfl, Or.inl rfl, trivial⟩
        · refine r_if_eq (tgt := 85) (pc1 := 62) dX11_number_59 (by decide) rfl (fun q33 => ?_) (fun q33 => ?_)
          · exact r_wk (hk31) ⟨Or.inr rfl, Or.inr rfl, Or.inr rfl, Or.inl rfl, Or.inl rfl, Or.inl rfl, Or.inr rfl, Or.inr rfl, trivial⟩
          · refine r_iload (pc1 := 64) dX11_number_62 rfl rfl ?_
            refine r_i2l (pc1 := 65) dX11_number_64 rfl ?_
            refine r_iload (pc1 := 67) dX11_number_65 rfl rfl ?_
            refine r_i2l (pc1 := 68) dX11_number_67 rfl ?_
            refine r_lmul (pc1 := 69) dX11_number_68 rfl ?_
            refine r_iload (pc1 := 71) dX11_number_69 rfl rfl ?_
            refine r_i2l (pc1 := 72) dX11_number_71 rfl ?_
            refine r_aload_n (pc1 := 73) (i := 0) dX11_number_72 rfl rfl rfl ?_
            refine r_getR (pc1 := 76) w_0 gfX11_60 rfl dX11_number_73 rfl ?_
            refine r_getI (pc1 := 79) w_39 gfX11_245 rfl dX11_number_76 rfl ?_
            refine r_i2l (pc1 := 80) dX11_number_79 rfl ?_
            refine r_lmul (pc1 := 81) dX11_number_80 rfl ?_
            refine r_lcmp (pc1 := 82) dX11_number_81 rfl ?_
            refine r_if_le (tgt := 101) (pc1 := 85) dX11_number_82 (by decide) rfl (fun q34 => ?_) (fun q34 => ?_)
            · exact r_wk (hk30 v15 v16 v17) ⟨Or.inr rfl, Or.inr rfl, Or.inr rfl, Or.inr rfl, Or.inr rfl, Or.inr rfl, Or.inr rfl, Or.inl rfl, trivial⟩
            · exact r_wk (hk31) ⟨Or.inr rfl, Or.inr rfl, Or.inr rfl, Or.inl rfl, Or.inl rfl, Or.inl rfl, Or.inr rfl, Or.inr rfl, trivial⟩
set_option maxRecDepth 100000 in
set_option maxHeartbeats 4000000 in
theorem c_X11_number {l : Launch} (a1 : Int32) (a2 : Int32) (s0 : SS) : Ct l wF yX11_number cX11_number 8 (some .int) 7 [.ref 0, .int a1, .int a2] s0 (f_X11_number a1 a2 s0) := by
  refine ct_of (y := yX11_number) plX11 (Nat.le_of_ble_eq_true rfl) ?_
  refine r_pad0 5 (L1 := [.ref 0, .int a1, .int a2, .null, .null, .null, .null, .null]) rfl ?_
  unfold f_X11_number
  refine r_iload_n (pc1 := 1) (i := 1) dX11_number_0 rfl rfl rfl ?_
  refine r_callSp (pc1 := 4) lkX11_142 (c_X11_isPerson _ _) rfl rfl ⟨Nat.le_of_ble_eq_true rfl, Nat.le_of_ble_eq_true rfl⟩ (Nat.le_of_ble_eq_true rfl) dX11_number_1 rfl (fun v1 => ?_)
  refine r_if_eq (tgt := 15) (pc1 := 7) dX11_number_4 (by decide) rfl (fun q2 => ?_) (fun q2 => ?_)
  · refine r_ldc (v := (-1000000)) (pc1 := 17) dX11_number_15 cnX11_191 rfl ?_
    exact r_iret rfl rfl dX11_number_17
  · refine r_iload_n (pc1 := 8) (i := 2) dX11_number_7 rfl rfl rfl ?_
    refine r_iconst (v := 2) (pc1 := 9) dX11_number_8 ki_2 rfl ?_
    refine r_callSp (pc1 := 12) lkX11_102 (c_X11_within _ _ _) rfl rfl ⟨Nat.le_of_ble_eq_true rfl, Nat.le_of_ble_eq_true rfl⟩ (Nat.le_of_ble_eq_true rfl) dX11_number_9 rfl (fun v3 => ?_)
    refine r_if_ne (tgt := 18) (pc1 := 15) dX11_number_12 (by decide) rfl (fun q4 => ?_) (fun q4 => ?_)
    · refine r_ldc (v := (-1000000)) (pc1 := 17) dX11_number_15 cnX11_191 rfl ?_
      exact r_iret rfl rfl dX11_number_17
    · refine r_iconst (v := 0) (pc1 := 19) dX11_number_18 ki_0 rfl ?_
      refine r_istore_n (pc1 := 20) (i := 3) dX11_number_19 rfl (by decide) rfl rfl rfl ?_
      refine r_iconst (v := 0) (pc1 := 21) dX11_number_20 ki_0 rfl ?_
      refine r_istore (pc1 := 23) dX11_number_21 (by decide) rfl rfl rfl ?_
      refine r_iconst (v := 1) (pc1 := 24) dX11_number_23 ki_1 rfl ?_
      refine r_istore (pc1 := 26) dX11_number_24 (by decide) rfl rfl rfl ?_
      refine r_iconst (v := 1) (pc1 := 27) dX11_number_26 ki_1 rfl ?_
      refine r_istore (pc1 := 29) dX11_number_27 (by decide) rfl rfl rfl ?_
      refine r_jn (hyp := fun (k9 : Int32 → Int32 → Int32 → SS → Res) => ∀ (v5 : Int32) (v6 : Int32) (v7 : Int32) (s8 : SS), RC l wF RX11 cX11_number 8 (some .int) 7 107 [.ref 0, .null, .int a2, .int v5, .int v6, .int v7, .null, .null] [] s8 (k9 v5 v6 v7 s8)) (fun v5 v6 v7 s8 => ?_) (fun k9 hk9 => ?_)
      · refine r_iload_n (pc1 := 108) (i := 2) dX11_number_107 rfl rfl rfl ?_
        refine r_if_ne (tgt := 113) (pc1 := 111) dX11_number_108 (by decide) rfl (fun q10 => ?_) (fun q10 => ?_)
        · refine r_iload_n (pc1 := 112) (i := 3) dX11_number_111 rfl rfl rfl ?_
          exact r_iret rfl rfl dX11_number_112
        · refine r_iload_n (pc1 := 114) (i := 2) dX11_number_113 rfl rfl rfl ?_
          refine r_iconst (v := 1) (pc1 := 115) dX11_number_114 ki_1 rfl ?_
          refine r_jn (hyp := fun (k12 : Int32 → Res) => ∀ (v11 : Int32), RC l wF RX11 cX11_number 8 (some .int) 7 125 [.ref 0, .null, .null, .null, .int v6, .int v7, .null, .null] [.int v11] s8 (k12 v11)) (fun v11 => ?_) (fun k12 hk12 => ?_)
          · refine r_iload (pc1 := 127) dX11_number_125 rfl rfl ?_
            refine r_iload (pc1 := 129) dX11_number_127 rfl rfl ?_
            refine r_callSp (pc1 := 132) lkX11_249 (c_X11_reduced _ _ _ _) rfl rfl ⟨Nat.le_of_ble_eq_true rfl, Nat.le_of_ble_eq_true rfl⟩ (Nat.le_of_ble_eq_true rfl) dX11_number_129 rfl (fun v13 => ?_)
            exact r_iret rfl rfl dX11_number_132
          · refine r_icmp_ne (tgt := 123) (pc1 := 118) dX11_number_115 (by decide) rfl (fun q14 => ?_) (fun q14 => ?_)
            · refine r_iload (pc1 := 120) dX11_number_118 rfl rfl ?_
              refine r_goto (tgt := 125) dX11_number_120 (by decide) ?_
              exact r_wk (hk12 v6) ⟨Or.inr rfl, Or.inl rfl, Or.inl rfl, Or.inl rfl, Or.inr rfl, Or.inr rfl, Or.inl rfl, Or.inl rfl, trivial⟩
            · refine r_iload (pc1 := 125) dX11_number_123 rfl rfl ?_
              exact r_wk (hk12 v7) ⟨Or.inr rfl, Or.inl rfl, Or.inl rfl, Or.inl rfl, Or.inr rfl, Or.inr rfl, Or.inl rfl, Or.inl rfl, trivial⟩
      · exact r_wk (t_lp_X11_number_29 a1 a2 k9 hk9 FU 0 0 1 1 s0) ⟨Or.inr rfl, Or.inr rfl, Or.inr rfl, Or.inr rfl, Or.inr rfl, Or.inr rfl, Or.inr rfl, Or.inl rfl, trivial⟩
/-! f_X11_deed -/
noncomputable def f_X11_deed (a1 : Int32) (a2 : Int32) (s0 : SS) : Res := if (a1 : Int32) < 0 then some (0, s0) else if (8 : Int32) ≤ (a1 : Int32) then some (0, s0) else bdp (f_X11_within a2 255 s0) (fun (v3 : Int32) => if (v3 : Int32) = 0 then some (0, s0) else gd (inb a1 8) (lts (up s0 54 (Int32.toNatClampNeg a1) a2) (fun (s5 : SS) => some (1, s5))))
set_option maxRecDepth 100000 in
set_option maxHeartbeats 4000000 in
theorem c_X11_deed {l : Launch} (a1 : Int32) (a2 : Int32) (s0 : SS) : Ct l wF yX11_deed cX11_deed 3 (some .boolean) 1 [.ref 0, .int a1, .int a2] s0 (f_X11_deed a1 a2 s0) := by
  refine ct_of (y := yX11_deed) plX11 (Nat.le_of_ble_eq_true rfl) ?_
  refine r_pad0 0 (L1 := [.ref 0, .int a1, .int a2]) rfl ?_
  unfold f_X11_deed
  refine r_iload_n (pc1 := 1) (i := 1) dX11_deed_0 rfl rfl rfl ?_
  refine r_if_lt (tgt := 20) (pc1 := 4) dX11_deed_1 (by decide) rfl (fun q1 => ?_) (fun q1 => ?_)
  · refine r_iconst (v := 0) (pc1 := 21) dX11_deed_20 ki_0 rfl ?_
    exact r_iret rfl rfl dX11_deed_21
  · refine r_iload_n (pc1 := 5) (i := 1) dX11_deed_4 rfl rfl rfl ?_
    refine r_bipush (v := 8) (pc1 := 7) dX11_deed_5 kb_8 rfl ?_
    refine r_icmp_ge (tgt := 20) (pc1 := 10) dX11_deed_7 (by decide) rfl (fun q2 => ?_) (fun q2 => ?_)
    · refine r_iconst (v := 0) (pc1 := 21) dX11_deed_20 ki_0 rfl ?_
      exact r_iret rfl rfl dX11_deed_21
    · refine r_iload_n (pc1 := 11) (i := 2) dX11_deed_10 rfl rfl rfl ?_
      refine r_sipush (v := 255) (pc1 := 14) dX11_deed_11 ks_255 rfl ?_
      refine r_callSp (pc1 := 17) lkX11_102 (c_X11_within _ _ _) rfl rfl ⟨Nat.le_of_ble_eq_true rfl, Nat.le_of_ble_eq_true rfl⟩ (Nat.le_of_ble_eq_true rfl) dX11_deed_14 rfl (fun v3 => ?_)
      refine r_if_ne (tgt := 22) (pc1 := 20) dX11_deed_17 (by decide) rfl (fun q4 => ?_) (fun q4 => ?_)
      · refine r_iconst (v := 0) (pc1 := 21) dX11_deed_20 ki_0 rfl ?_
        exact r_iret rfl rfl dX11_deed_21
      · refine r_aload_n (pc1 := 23) (i := 0) dX11_deed_22 rfl rfl rfl ?_
        refine r_getR (pc1 := 26) w_0 gfX11_95 rfl dX11_deed_23 rfl ?_
        refine r_iload_n (pc1 := 27) (i := 1) dX11_deed_26 rfl rfl rfl ?_
        refine r_iload_n (pc1 := 28) (i := 2) dX11_deed_27 rfl rfl rfl ?_
        refine r_iast (pc1 := 29) w_54 dX11_deed_28 rfl ?_
        refine r_lts (fun s5 => ?_)
        refine r_iconst (v := 1) (pc1 := 30) dX11_deed_29 ki_1 rfl ?_
        exact r_iret rfl rfl dX11_deed_30
/-! f_X11_lawful -/
noncomputable def f_X11_lawful (a1 : Int32) (s0 : SS) : Option Int32 := if (a1 : Int32) < 0 then some ((-1)) else if (a1 : Int32) < (8 : Int32) then gd (inb a1 8) (bdp (f_X10_holdingOn (s0 52 0) s0) (fun (v3 : Int32) => if ((s0 54 (Int32.toNatClampNeg a1)) &&& v3 : Int32) = 0 then some 1 else some 0)) else some ((-1))
set_option maxRecDepth 100000 in
set_option maxHeartbeats 4000000 in
theorem c_X11_lawful {l : Launch} (a1 : Int32) (s0 : SS) : Ct l wF yX11_lawful cX11_lawful 2 (some .int) 2 [.ref 0, .int a1] s0 (pu (f_X11_lawful a1 s0) s0) := by
  refine ct_of (y := yX11_lawful) plX11 (Nat.le_of_ble_eq_true rfl) ?_
  refine r_pad0 0 (L1 := [.ref 0, .int a1]) rfl ?_
  unfold f_X11_lawful
  refine r_iload_n (pc1 := 1) (i := 1) dX11_lawful_0 rfl rfl rfl ?_
  refine p_if_lt (tgt := 10) (pc1 := 4) dX11_lawful_1 (by decide) rfl (fun q1 => ?_) (fun q1 => ?_)
  · refine r_iconst (v := (-1)) (pc1 := 11) dX11_lawful_10 ki_m1 rfl ?_
    exact p_iret rfl rfl dX11_lawful_11
  · refine r_iload_n (pc1 := 5) (i := 1) dX11_lawful_4 rfl rfl rfl ?_
    refine r_bipush (v := 8) (pc1 := 7) dX11_lawful_5 kb_8 rfl ?_
    refine p_icmp_lt (tgt := 12) (pc1 := 10) dX11_lawful_7 (by decide) rfl (fun q2 => ?_) (fun q2 => ?_)
    · refine r_aload_n (pc1 := 13) (i := 0) dX11_lawful_12 rfl rfl rfl ?_
      refine r_getR (pc1 := 16) w_0 gfX11_95 rfl dX11_lawful_13 rfl ?_
      refine r_iload_n (pc1 := 17) (i := 1) dX11_lawful_16 rfl rfl rfl ?_
      refine p_iald (pc1 := 18) w_54 dX11_lawful_17 rfl ?_
      refine r_aload_n (pc1 := 19) (i := 0) dX11_lawful_18 rfl rfl rfl ?_
      refine r_getR (pc1 := 22) w_0 gfX11_42 rfl dX11_lawful_19 rfl ?_
      refine r_aload_n (pc1 := 23) (i := 0) dX11_lawful_22 rfl rfl rfl ?_
      refine r_getR (pc1 := 26) w_0 gfX11_88 rfl dX11_lawful_23 rfl ?_
      refine r_getI (pc1 := 29) w_52 gfX11_122 rfl dX11_lawful_26 rfl ?_
      refine p_callVp (pc1 := 32) (rv_of w_27 cl_10) lkX11_185 (c_X10_holdingOn _ _) rfl rfl ⟨Nat.le_of_ble_eq_true rfl, Nat.le_of_ble_eq_true rfl⟩ (Nat.le_of_ble_eq_true rfl) dX11_lawful_29 rfl (fun v3 => ?_)
      refine r_iand (pc1 := 33) dX11_lawful_32 rfl ?_
      refine p_if_ne (tgt := 40) (pc1 := 36) dX11_lawful_33 (by decide) rfl (fun q4 => ?_) (fun q4 => ?_)
      · refine r_iconst (v := 1) (pc1 := 37) dX11_lawful_36 ki_1 rfl ?_
        refine r_goto (tgt := 41) dX11_lawful_37 (by decide) ?_
        exact p_iret rfl rfl dX11_lawful_41
      · refine r_iconst (v := 0) (pc1 := 41) dX11_lawful_40 ki_0 rfl ?_
        exact p_iret rfl rfl dX11_lawful_41
    · refine r_iconst (v := (-1)) (pc1 := 11) dX11_lawful_10 ki_m1 rfl ?_
      exact p_iret rfl rfl dX11_lawful_11
/-! f_X11_toldDeedsAreFine -/
noncomputable def lp_X11_toldDeedsAreFine_2 (a1 : Int32) (s0 : SS) : Nat → Int32 → Option Int32
  | 0, _ => none
  | n2 + 1, v1 => if (a1 : Int32) ≤ (v1 : Int32) then some 1 else bdp (f_X9_byteOn (2 * v1) s0) (fun (v4 : Int32) => bdp (f_X11_within v4 7 s0) (fun (v5 : Int32) => if (v5 : Int32) = 0 then some 0 else bdp (f_X9_byteOn ((2 * v1) + 1) s0) (fun (v7 : Int32) => bdp (f_X11_within v7 1 s0) (fun (v8 : Int32) => if (v8 : Int32) = 0 then some 0 else lp_X11_toldDeedsAreFine_2 a1 s0 n2 (v1 + 1)))))
noncomputable def f_X11_toldDeedsAreFine (a1 : Int32) (s0 : SS) : Option Int32 := lp_X11_toldDeedsAreFine_2 a1 s0 FU 0
set_option maxRecDepth 100000 in
set_option maxHeartbeats 4000000 in
theorem t_lp_X11_toldDeedsAreFine_2 {l : Launch} (a1 : Int32) (s0 : SS)  : ∀ (n2 : Nat) (v1 : Int32), RC l wF RX11 cX11_toldDeedsAreFine 3 (some .boolean) 1 2 [.ref 0, .int a1, .int v1] [] s0 (pu (lp_X11_toldDeedsAreFine_2 a1 s0 n2 v1) s0) := by
  intro n2
  induction n2 with
  | zero =>
    intro v1
    rw [lp_X11_toldDeedsAreFine_2]
    exact p_none
  | succ n2 ih =>
    intro v1
    rw [lp_X11_toldDeedsAreFine_2]
    refine r_iload_n (pc1 := 3) (i := 2) dX11_toldDeedsAreFine_2 rfl rfl rfl ?_
    refine r_iload_n (pc1 := 4) (i := 1) dX11_toldDeedsAreFine_3 rfl rfl rfl ?_
    refine p_icmp_ge (tgt := 52) (pc1 := 7) dX11_toldDeedsAreFine_4 (by decide) rfl (fun q3 => ?_) (fun q3 => ?_)
    · refine r_iconst (v := 1) (pc1 := 53) dX11_toldDeedsAreFine_52 ki_1 rfl ?_
      exact p_iret rfl rfl dX11_toldDeedsAreFine_53
    · refine r_aload_n (pc1 := 8) (i := 0) dX11_toldDeedsAreFine_7 rfl rfl rfl ?_
      refine r_getR (pc1 := 11) w_0 gfX11_10 rfl dX11_toldDeedsAreFine_8 rfl ?_
      refine r_iconst (v := 2) (pc1 := 12) dX11_toldDeedsAreFine_11 ki_2 rfl ?_
      refine r_iload_n (pc1 := 13) (i := 2) dX11_toldDeedsAreFine_12 rfl rfl rfl ?_
      refine r_imul (pc1 := 14) dX11_toldDeedsAreFine_13 rfl ?_
      refine p_callVp (pc1 := 17) (rv_of w_1 cl_9) lkX11_303 (c_X9_byteOn _ _) rfl rfl ⟨Nat.le_of_ble_eq_true rfl, Nat.le_of_ble_eq_true rfl⟩ (Nat.le_of_ble_eq_true rfl) dX11_toldDeedsAreFine_14 rfl (fun v4 => ?_)
      refine r_bipush (v := 7) (pc1 := 19) dX11_toldDeedsAreFine_17 kb_7 rfl ?_
      refine p_callSp (pc1 := 22) lkX11_102 (c_X11_within _ _ _) rfl rfl ⟨Nat.le_of_ble_eq_true rfl, Nat.le_of_ble_eq_true rfl⟩ (Nat.le_of_ble_eq_true rfl) dX11_toldDeedsAreFine_19 rfl (fun v5 => ?_)
      refine p_if_eq (tgt := 44) (pc1 := 25) dX11_toldDeedsAreFine_22 (by decide) rfl (fun q6 => ?_) (fun q6 => ?_)
      · refine r_iconst (v := 0) (pc1 := 45) dX11_toldDeedsAreFine_44 ki_0 rfl ?_
        exact p_iret rfl rfl dX11_toldDeedsAreFine_45
      · refine r_aload_n (pc1 := 26) (i := 0) dX11_toldDeedsAreFine_25 rfl rfl rfl ?_
        refine r_getR (pc1 := 29) w_0 gfX11_10 rfl dX11_toldDeedsAreFine_26 rfl ?_
        refine r_iconst (v := 2) (pc1 := 30) dX11_toldDeedsAreFine_29 ki_2 rfl ?_
        refine r_iload_n (pc1 := 31) (i := 2) dX11_toldDeedsAreFine_30 rfl rfl rfl ?_
        refine r_imul (pc1 := 32) dX11_toldDeedsAreFine_31 rfl ?_
        refine r_iconst (v := 1) (pc1 := 33) dX11_toldDeedsAreFine_32 ki_1 rfl ?_
        refine r_iadd (pc1 := 34) dX11_toldDeedsAreFine_33 rfl ?_
        refine p_callVp (pc1 := 37) (rv_of w_1 cl_9) lkX11_303 (c_X9_byteOn _ _) rfl rfl ⟨Nat.le_of_ble_eq_true rfl, Nat.le_of_ble_eq_true rfl⟩ (Nat.le_of_ble_eq_true rfl) dX11_toldDeedsAreFine_34 rfl (fun v7 => ?_)
        refine r_iconst (v := 1) (pc1 := 38) dX11_toldDeedsAreFine_37 ki_1 rfl ?_
        refine p_callSp (pc1 := 41) lkX11_102 (c_X11_within _ _ _) rfl rfl ⟨Nat.le_of_ble_eq_true rfl, Nat.le_of_ble_eq_true rfl⟩ (Nat.le_of_ble_eq_true rfl) dX11_toldDeedsAreFine_38 rfl (fun v8 => ?_)
        refine p_if_ne (tgt := 46) (pc1 := 44) dX11_toldDeedsAreFine_41 (by decide) rfl (fun q9 => ?_) (fun q9 => ?_)
        · refine r_iconst (v := 0) (pc1 := 45) dX11_toldDeedsAreFine_44 ki_0 rfl ?_
          exact p_iret rfl rfl dX11_toldDeedsAreFine_45
        · refine r_iinc (pc1 := 49) dX11_toldDeedsAreFine_46 rfl (kn_1 _) (by decide) rfl rfl rfl ?_
          refine r_goto (tgt := 2) dX11_toldDeedsAreFine_49 (by decide) ?_
          exact r_wk (ih (v1 + 1)) ⟨Or.inr rfl, Or.inr rfl, Or.inr rfl, trivial⟩
set_option maxRecDepth 100000 in
set_option maxHeartbeats 4000000 in
theorem c_X11_toldDeedsAreFine {l : Launch} (a1 : Int32) (s0 : SS) : Ct l wF yX11_toldDeedsAreFine cX11_toldDeedsAreFine 3 (some .boolean) 1 [.ref 0, .int a1] s0 (pu (f_X11_toldDeedsAreFine a1 s0) s0) := by
  refine ct_of (y := yX11_toldDeedsAreFine) plX11 (Nat.le_of_ble_eq_true rfl) ?_
  refine r_pad0 1 (L1 := [.ref 0, .int a1, .null]) rfl ?_
  unfold f_X11_toldDeedsAreFine
  refine r_iconst (v := 0) (pc1 := 1) dX11_toldDeedsAreFine_0 ki_0 rfl ?_
  refine r_istore_n (pc1 := 2) (i := 2) dX11_toldDeedsAreFine_1 rfl (by decide) rfl rfl rfl ?_
  exact r_wk (t_lp_X11_toldDeedsAreFine_2 a1 s0 FU 0) ⟨Or.inr rfl, Or.inr rfl, Or.inr rfl, trivial⟩
/-! f_X11_fitsTold -/
noncomputable def lp_X11_fitsTold_2 (a1 : Int32) (a2 : Int32) (s0 : SS) : Nat → Int32 → Option Int32
  | 0, _ => none
  | n2 + 1, v1 => if (a2 : Int32) ≤ (v1 : Int32) then some 1 else bdp (f_X9_byteOn (2 * v1) s0) (fun (v4 : Int32) => if (v4 : Int32) < 0 then some 0 else if (v4 : Int32) < (8 : Int32) then gd (inb v4 8) (jn (fun (v7 : Int32) => bdp (f_X9_byteOn ((2 * v1) + 1) s0) (fun (v9 : Int32) => if (v7 : Int32) = (v9 : Int32) then lp_X11_fitsTold_2 a1 a2 s0 n2 (v1 + 1) else some 0)) (fun (k8 : Int32 → Option Int32) => if ((s0 54 (Int32.toNatClampNeg v4)) &&& a1 : Int32) = 0 then k8 1 else k8 0)) else some 0)
noncomputable def f_X11_fitsTold (a1 : Int32) (a2 : Int32) (s0 : SS) : Option Int32 := lp_X11_fitsTold_2 a1 a2 s0 FU 0
set_option maxRecDepth 100000 in
set_option maxHeartbeats 4000000 in
theorem t_lp_X11_fitsTold_2 {l : Launch} (a1 : Int32) (a2 : Int32) (s0 : SS)  : ∀ (n2 : Nat) (v1 : Int32), RC l wF RX11 cX11_fitsTold 6 (some .boolean) 1 2 [.ref 0, .int a1, .int a2, .int v1, .null, .null] [] s0 (pu (lp_X11_fitsTold_2 a1 a2 s0 n2 v1) s0) := by
  intro n2
  induction n2 with
  | zero =>
    intro v1
    rw [lp_X11_fitsTold_2]
    exact p_none
  | succ n2 ih =>
    intro v1
    rw [lp_X11_fitsTold_2]
    refine r_iload_n (pc1 := 3) (i := 3) dX11_fitsTold_2 rfl rfl rfl ?_
    refine r_iload_n (pc1 := 4) (i := 2) dX11_fitsTold_3 rfl rfl rfl ?_
    refine p_icmp_ge (tgt := 77) (pc1 := 7) dX11_fitsTold_4 (by decide) rfl (fun q3 => ?_) (fun q3 => ?_)
    · refine r_iconst (v := 1) (pc1 := 78) dX11_fitsTold_77 ki_1 rfl ?_
      exact p_iret rfl rfl dX11_fitsTold_78
    · refine r_aload_n (pc1 := 8) (i := 0) dX11_fitsTold_7 rfl rfl rfl ?_
      refine r_getR (pc1 := 11) w_0 gfX11_10 rfl dX11_fitsTold_8 rfl ?_
      refine r_iconst (v := 2) (pc1 := 12) dX11_fitsTold_11 ki_2 rfl ?_
      refine r_iload_n (pc1 := 13) (i := 3) dX11_fitsTold_12 rfl rfl rfl ?_
      refine r_imul (pc1 := 14) dX11_fitsTold_13 rfl ?_
      refine p_callVp (pc1 := 17) (rv_of w_1 cl_9) lkX11_303 (c_X9_byteOn _ _) rfl rfl ⟨Nat.le_of_ble_eq_true rfl, Nat.le_of_ble_eq_true rfl⟩ (Nat.le_of_ble_eq_true rfl) dX11_fitsTold_14 rfl (fun v4 => ?_)
      refine r_istore (pc1 := 19) dX11_fitsTold_17 (by decide) rfl rfl rfl ?_
      refine r_iload (pc1 := 21) dX11_fitsTold_19 rfl rfl ?_
      refine p_if_lt (tgt := 31) (pc1 := 24) dX11_fitsTold_21 (by decide) rfl (fun q5 => ?_) (fun q5 => ?_)
      · refine r_iconst (v := 0) (pc1 := 32) dX11_fitsTold_31 ki_0 rfl ?_
        exact p_iret rfl rfl dX11_fitsTold_32
      · refine r_iload (pc1 := 26) dX11_fitsTold_24 rfl rfl ?_
        refine r_bipush (v := 8) (pc1 := 28) dX11_fitsTold_26 kb_8 rfl ?_
        refine p_icmp_lt (tgt := 33) (pc1 := 31) dX11_fitsTold_28 (by decide) rfl (fun q6 => ?_) (fun q6 => ?_)
        · refine r_aload_n (pc1 := 34) (i := 0) dX11_fitsTold_33 rfl rfl rfl ?_
          refine r_getR (pc1 := 37) w_0 gfX11_95 rfl dX11_fitsTold_34 rfl ?_
          refine r_iload (pc1 := 39) dX11_fitsTold_37 rfl rfl ?_
          refine p_iald (pc1 := 40) w_54 dX11_fitsTold_39 rfl ?_
          refine r_iload_n (pc1 := 41) (i := 1) dX11_fitsTold_40 rfl rfl rfl ?_
          refine r_iand (pc1 := 42) dX11_fitsTold_41 rfl ?_
          refine p_jn (hyp := fun (k8 : Int32 → Option Int32) => ∀ (v7 : Int32), RC l wF RX11 cX11_fitsTold 6 (some .boolean) 1 50 [.ref 0, .int a1, .int a2, .int v1, .null, .null] [.int v7] s0 (pu (k8 v7) s0)) (fun v7 => ?_) (fun k8 hk8 => ?_)
          · refine r_istore (pc1 := 52) dX11_fitsTold_50 (by decide) rfl rfl rfl ?_
            refine r_iload (pc1 := 54) dX11_fitsTold_52 rfl rfl ?_
            refine r_aload_n (pc1 := 55) (i := 0) dX11_fitsTold_54 rfl rfl rfl ?_
            refine r_getR (pc1 := 58) w_0 gfX11_10 rfl dX11_fitsTold_55 rfl ?_
            refine r_iconst (v := 2) (pc1 := 59) dX11_fitsTold_58 ki_2 rfl ?_
            refine r_iload_n (pc1 := 60) (i := 3) dX11_fitsTold_59 rfl rfl rfl ?_
            refine r_imul (pc1 := 61) dX11_fitsTold_60 rfl ?_
            refine r_iconst (v := 1) (pc1 := 62) dX11_fitsTold_61 ki_1 rfl ?_
            refine r_iadd (pc1 := 63) dX11_fitsTold_62 rfl ?_
            refine p_callVp (pc1 := 66) (rv_of w_1 cl_9) lkX11_303 (c_X9_byteOn _ _) rfl rfl ⟨Nat.le_of_ble_eq_true rfl, Nat.le_of_ble_eq_true rfl⟩ (Nat.le_of_ble_eq_true rfl) dX11_fitsTold_63 rfl (fun v9 => ?_)
            refine p_icmp_eq (tgt := 71) (pc1 := 69) dX11_fitsTold_66 (by decide) rfl (fun q10 => ?_) (fun q10 => ?_)
            · refine r_iinc (pc1 := 74) dX11_fitsTold_71 rfl (kn_1 _) (by decide) rfl rfl rfl ?_
              refine r_goto (tgt := 2) dX11_fitsTold_74 (by decide) ?_
              exact r_wk (ih (v1 + 1)) ⟨Or.inr rfl, Or.inr rfl, Or.inr rfl, Or.inr rfl, Or.inl rfl, Or.inl rfl, trivial⟩
            · refine r_iconst (v := 0) (pc1 := 70) dX11_fitsTold_69 ki_0 rfl ?_
              exact p_iret rfl rfl dX11_fitsTold_70
          · refine p_if_ne (tgt := 49) (pc1 := 45) dX11_fitsTold_42 (by decide) rfl (fun q11 => ?_) (fun q11 => ?_)
            · refine r_iconst (v := 1) (pc1 := 46) dX11_fitsTold_45 ki_1 rfl ?_
              refine r_goto (tgt := 50) dX11_fitsTold_46 (by decide) ?_
              exact r_wk (hk8 1) ⟨Or.inr rfl, Or.inr rfl, Or.inr rfl, Or.inr rfl, Or.inl rfl, Or.inl rfl, trivial⟩
            · refine r_iconst (v := 0) (pc1 := 50) dX11_fitsTold_49 ki_0 rfl ?_
              exact r_wk (hk8 0) ⟨Or.inr rfl, Or.inr rfl, Or.inr rfl, Or.inr rfl, Or.inl rfl, Or.inl rfl, trivial⟩
        · refine r_iconst (v := 0) (pc1 := 32) dX11_fitsTold_31 ki_0 rfl ?_
          exact p_iret rfl rfl dX11_fitsTold_32
set_option maxRecDepth 100000 in
set_option maxHeartbeats 4000000 in
theorem c_X11_fitsTold {l : Launch} (a1 : Int32) (a2 : Int32) (s0 : SS) : Ct l wF yX11_fitsTold cX11_fitsTold 6 (some .boolean) 1 [.ref 0, .int a1, .int a2] s0 (pu (f_X11_fitsTold a1 a2 s0) s0) := by
  refine ct_of (y := yX11_fitsTold) plX11 (Nat.le_of_ble_eq_true rfl) ?_
  refine r_pad0 3 (L1 := [.ref 0, .int a1, .int a2, .null, .null, .null]) rfl ?_
  unfold f_X11_fitsTold
  refine r_iconst (v := 0) (pc1 := 1) dX11_fitsTold_0 ki_0 rfl ?_
  refine r_istore_n (pc1 := 2) (i := 3) dX11_fitsTold_1 rfl (by decide) rfl rfl rfl ?_
  exact r_wk (t_lp_X11_fitsTold_2 a1 a2 s0 FU 0) ⟨Or.inr rfl, Or.inr rfl, Or.inr rfl, Or.inr rfl, Or.inl rfl, Or.inl rfl, trivial⟩
/-! f_X11_reckonFits -/
noncomputable def lp_X11_reckonFits_40 (a1 : Int32) (a2 : Int32) (s0 : SS) (v2 : Int32) (k7 : Int32 → Int32 → Int32 → Option Int32) : Nat → Int32 → Int32 → Int32 → Int32 → Option Int32
  | 0, _, _, _, _ => none
  | n16 + 1, v12, v13, v14, v15 => if (v2 : Int32) ≤ (v15 : Int32) then k7 v12 v13 v14 else bdp (f_X10_isOfLaws v15 s0) (fun (v18 : Int32) => jn (fun (v19 : Int32) (v20 : Int32) (v21 : Int32) => lp_X11_reckonFits_40 a1 a2 s0 v2 k7 n16 v19 v20 v21 (v15 + 1)) (fun (k22 : Int32 → Int32 → Int32 → Option Int32) => if (v18 : Int32) = 0 then k22 v12 v13 v14 else bdp (f_X10_holdingOn v15 s0) (fun (v24 : Int32) => bdp (f_X11_fitsTold v24 a1 s0) (fun (v25 : Int32) => if (v25 : Int32) = 0 then k22 v12 v13 v14 else bdp (f_X6_standingOn v15 s0) (fun (v27 : Int32) => lt (v13 &&& v27) (fun (v28 : Int32) => bdp (f_X6_standingOn v15 s0) (fun (v29 : Int32) => lt (v14 ||| v29) (fun (v30 : Int32) => k22 (v12 + 1) v28 v30))))))))
noncomputable def f_X11_reckonFits (a1 : Int32) (a2 : Int32) (s0 : SS) : Option Int32 := bdp (f_X6_lengthOf (s0 52 0) s0) (fun (v1 : Int32) => bdp (f_X6_bareOf (v1 + 1) s0) (fun (v2 : Int32) => bdp (f_X6_firstFullOf v1 s0) (fun (v3 : Int32) => jn (fun (v4 : Int32) (v5 : Int32) (v6 : Int32) => if (a2 : Int32) = 0 then some v4 else if (v4 : Int32) = 0 then some v4 else if (a2 : Int32) = (1 : Int32) then some v5 else bdp (f_X10_allLaws s0) (fun (v11 : Int32) => some (v11 &&& (v6 ^^^ ((-1)))))) (fun (k7 : Int32 → Int32 → Int32 → Option Int32) => lp_X11_reckonFits_40 a1 a2 s0 v2 k7 FU 0 255 0 v3))))
set_option maxRecDepth 100000 in
set_option maxHeartbeats 4000000 in
theorem t_lp_X11_reckonFits_40 {l : Launch} (a1 : Int32) (a2 : Int32) (s0 : SS) (v2 : Int32) (k7 : Int32 → Int32 → Int32 → Option Int32) (hk7 : ∀ (v4 : Int32) (v5 : Int32) (v6 : Int32), RC l wF RX11 cX11_reckonFits 9 (some .int) 2 113 [.ref 0, .null, .int a2, .null, .int v4, .int v5, .int v6, .null, .null] [] s0 (pu (k7 v4 v5 v6) s0)) : ∀ (n16 : Nat) (v12 : Int32) (v13 : Int32) (v14 : Int32) (v15 : Int32), RC l wF RX11 cX11_reckonFits 9 (some .int) 2 40 [.ref 0, .int a1, .int a2, .null, .int v12, .int v13, .int v14, .int v2, .int v15] [] s0 (pu (lp_X11_reckonFits_40 a1 a2 s0 v2 k7 n16 v12 v13 v14 v15) s0) := by
  intro n16
  induction n16 with
  | zero =>
    intro v12 v13 v14 v15
    rw [lp_X11_reckonFits_40]
    exact p_none
  | succ n16 ih =>
    intro v12 v13 v14 v15
    rw [lp_X11_reckonFits_40]
    refine r_iload (pc1 := 42) dX11_reckonFits_40 rfl rfl ?_
    refine r_iload (pc1 := 44) dX11_reckonFits_42 rfl rfl ?_
    refine p_icmp_ge (tgt := 113) (pc1 := 47) dX11_reckonFits_44 (by decide) rfl (fun q17 => ?_) (fun q17 => ?_)
    · exact r_wk (hk7 v12 v13 v14) ⟨Or.inr rfl, Or.inl rfl, Or.inr rfl, Or.inl rfl, Or.inr rfl, Or.inr rfl, Or.inr rfl, Or.inl rfl, Or.inl rfl, trivial⟩
    · refine r_aload_n (pc1 := 48) (i := 0) dX11_reckonFits_47 rfl rfl rfl ?_
      refine r_getR (pc1 := 51) w_0 gfX11_42 rfl dX11_reckonFits_48 rfl ?_
      refine r_iload (pc1 := 53) dX11_reckonFits_51 rfl rfl ?_
      refine p_callVp (pc1 := 56) (rv_of w_27 cl_10) lkX11_283 (c_X10_isOfLaws _ _) rfl rfl ⟨Nat.le_of_ble_eq_true rfl, Nat.le_of_ble_eq_true rfl⟩ (Nat.le_of_ble_eq_true rfl) dX11_reckonFits_53 rfl (fun v18 => ?_)
      refine p_jn (hyp := fun (k22 : Int32 → Int32 → Int32 → Option Int32) => ∀ (v19 : Int32) (v20 : Int32) (v21 : Int32), RC l wF RX11 cX11_reckonFits 9 (some .int) 2 107 [.ref 0, .int a1, .int a2, .null, .int v19, .int v20, .int v21, .int v2, .int v15] [] s0 (pu (k22 v19 v20 v21) s0)) (fun v19 v20 v21 => ?_) (fun k22 hk22 => ?_)
      · refine r_iinc (pc1 := 110) dX11_reckonFits_107 rfl (kn_1 _) (by decide) rfl rfl rfl ?_
        refine r_goto (tgt := 40) dX11_reckonFits_110 (by decide) ?_
        exact r_wk (ih v19 v20 v21 (v15 + 1)) ⟨Or.inr rfl, Or.inr rfl, Or.inr rfl, Or.inl rfl, Or.inr rfl, Or.inr rfl, Or.inr rfl, Or.inr rfl, Or.inr rfl, trivial⟩
      · refine p_if_eq (tgt := 107) (pc1 := 59) dX11_reckonFits_56 (by decide) rfl (fun q23 => ?_) (fun q23 => ?_)
        · exact r_wk (hk22 v12 v13 v14) ⟨Or.inr rfl, Or.inr rfl, Or.inr rfl, Or.inl rfl, Or.inr rfl, Or.inr rfl, Or.inr rfl, Or.inr rfl, Or.inr rfl, trivial⟩
        · refine r_aload_n (pc1 := 60) (i := 0) dX11_reckonFits_59 rfl rfl rfl ?_
          refine r_aload_n (pc1 := 61) (i := 0) dX11_reckonFits_60 rfl rfl rfl ?_
          refine r_getR (pc1 := 64) w_0 gfX11_42 rfl dX11_reckonFits_61 rfl ?_
          refine r_iload (pc1 := 66) dX11_reckonFits_64 rfl rfl ?_
          refine p_callVp (pc1 := 69) (rv_of w_27 cl_10) lkX11_185 (c_X10_holdingOn _ _) rfl rfl ⟨Nat.le_of_ble_eq_true rfl, Nat.le_of_ble_eq_true rfl⟩ (Nat.le_of_ble_eq_true rfl) dX11_reckonFits_66 rfl (fun v24 => ?_)
          refine r_iload_n (pc1 := 70) (i := 1) dX11_reckonFits_69 rfl rfl rfl ?_
          refine p_callVp (pc1 := 73) (rv_of w_0 cl_11) lkX11_306 (c_X11_fitsTold _ _ _) rfl rfl ⟨Nat.le_of_ble_eq_true rfl, Nat.le_of_ble_eq_true rfl⟩ (Nat.le_of_ble_eq_true rfl) dX11_reckonFits_70 rfl (fun v25 => ?_)
          refine p_if_eq (tgt := 107) (pc1 := 76) dX11_reckonFits_73 (by decide) rfl (fun q26 => ?_) (fun q26 => ?_)
          · exact r_wk (hk22 v12 v13 v14) ⟨Or.inr rfl, Or.inr rfl, Or.inr rfl, Or.inl rfl, Or.inr rfl, Or.inr rfl, Or.inr rfl, Or.inr rfl, Or.inr rfl, trivial⟩
          · refine r_iinc (pc1 := 79) dX11_reckonFits_76 rfl (kn_1 _) (by decide) rfl rfl rfl ?_
            refine r_iload (pc1 := 81) dX11_reckonFits_79 rfl rfl ?_
            refine r_aload_n (pc1 := 82) (i := 0) dX11_reckonFits_81 rfl rfl rfl ?_
            refine r_getR (pc1 := 85) w_0 gfX11_19 rfl dX11_reckonFits_82 rfl ?_
            refine r_iload (pc1 := 87) dX11_reckonFits_85 rfl rfl ?_
            refine p_callVp (pc1 := 90) (rv_of w_3 cl_6) lkX11_286 (c_X6_standingOn w_3 w_4 w_5 w_6 w_7 w_8 _ _) rfl rfl ⟨Nat.le_of_ble_eq_true rfl, Nat.le_of_ble_eq_true rfl⟩ (Nat.le_of_ble_eq_true rfl) dX11_reckonFits_87 rfl (fun v27 => ?_)
            refine r_iand (pc1 := 91) dX11_reckonFits_90 rfl ?_
            refine p_lt (fun v28 => ?_)
            refine r_istore (pc1 := 93) dX11_reckonFits_91 (by decide) rfl rfl rfl ?_
            refine r_iload (pc1 := 95) dX11_reckonFits_93 rfl rfl ?_
            refine r_aload_n (pc1 := 96) (i := 0) dX11_reckonFits_95 rfl rfl rfl ?_
            refine r_getR (pc1 := 99) w_0 gfX11_19 rfl dX11_reckonFits_96 rfl ?_
            refine r_iload (pc1 := 101) dX11_reckonFits_99 rfl rfl ?_
            refine p_callVp (pc1 := 104) (rv_of w_3 cl_6) lkX11_286 (c_X6_standingOn w_3 w_4 w_5 w_6 w_7 w_8 _ _) rfl rfl ⟨Nat.le_of_ble_eq_true rfl, Nat.le_of_ble_eq_true rfl⟩ (Nat.le_of_ble_eq_true rfl) dX11_reckonFits_101 rfl (fun v29 => ?_)
            refine r_ior (pc1 := 105) dX11_reckonFits_104 rfl ?_
            refine p_lt (fun v30 => ?_)
            refine r_istore (pc1 := 107) dX11_reckonFits_105 (by decide) rfl rfl rfl ?_
            exact r_wk (hk22 (v12 + 1) v28 v30) ⟨Or.inr rfl, Or.inr rfl, Or.inr rfl, Or.inl rfl, Or.inr rfl, Or.inr rfl, Or.inr rfl, Or.inr rfl, Or.inr rfl, trivial⟩
set_option maxRecDepth 100000 in
set_option maxHeartbeats 4000000 in
theorem c_X11_reckonFits {l : Launch} (a1 : Int32) (a2 : Int32) (s0 : SS) : Ct l wF yX11_reckonFits cX11_reckonFits 9 (some .int) 2 [.ref 0, .int a1, .int a2] s0 (pu (f_X11_reckonFits a1 a2 s0) s0) := by
  refine ct_of (y := yX11_reckonFits) plX11 (Nat.le_of_ble_eq_true rfl) ?_
  refine r_pad0 6 (L1 := [.ref 0, .int a1, .int a2, .null, .null, .null, .null, .null, .null]) rfl ?_
  unfold f_X11_reckonFits
  refine r_aload_n (pc1 := 1) (i := 0) dX11_reckonFits_0 rfl rfl rfl ?_
  refine r_getR (pc1 := 4) w_0 gfX11_19 rfl dX11_reckonFits_1 rfl ?_
  refine r_aload_n (pc1 := 5) (i := 0) dX11_reckonFits_4 rfl rfl rfl ?_
  refine r_getR (pc1 := 8) w_0 gfX11_88 rfl dX11_reckonFits_5 rfl ?_
  refine r_getI (pc1 := 11) w_52 gfX11_122 rfl dX11_reckonFits_8 rfl ?_
  refine p_callVp (pc1 := 14) (rv_of w_3 cl_6) lkX11_277 (c_X6_lengthOf w_3 w_4 w_5 w_6 w_7 w_8 _ _) rfl rfl ⟨Nat.le_of_ble_eq_true rfl, Nat.le_of_ble_eq_true rfl⟩ (Nat.le_of_ble_eq_true rfl) dX11_reckonFits_11 rfl (fun v1 => ?_)
  refine r_istore_n (pc1 := 15) (i := 3) dX11_reckonFits_14 rfl (by decide) rfl rfl rfl ?_
  refine r_iconst (v := 0) (pc1 := 16) dX11_reckonFits_15 ki_0 rfl ?_
  refine r_istore (pc1 := 18) dX11_reckonFits_16 (by decide) rfl rfl rfl ?_
  refine r_sipush (v := 255) (pc1 := 21) dX11_reckonFits_18 ks_255 rfl ?_
  refine r_istore (pc1 := 23) dX11_reckonFits_21 (by decide) rfl rfl rfl ?_
  refine r_iconst (v := 0) (pc1 := 24) dX11_reckonFits_23 ki_0 rfl ?_
  refine r_istore (pc1 := 26) dX11_reckonFits_24 (by decide) rfl rfl rfl ?_
  refine r_iload_n (pc1 := 27) (i := 3) dX11_reckonFits_26 rfl rfl rfl ?_
  refine r_iconst (v := 1) (pc1 := 28) dX11_reckonFits_27 ki_1 rfl ?_
  refine r_iadd (pc1 := 29) dX11_reckonFits_28 rfl ?_
  refine p_callSp (pc1 := 32) lkX11_118 (c_X6_bareOf w_3 w_4 w_5 w_6 w_7 w_8 _ _) rfl rfl ⟨Nat.le_of_ble_eq_true rfl, Nat.le_of_ble_eq_true rfl⟩ (Nat.le_of_ble_eq_true rfl) dX11_reckonFits_29 rfl (fun v2 => ?_)
  refine r_istore (pc1 := 34) dX11_reckonFits_32 (by decide) rfl rfl rfl ?_
  refine r_iload_n (pc1 := 35) (i := 3) dX11_reckonFits_34 rfl rfl rfl ?_
  refine p_callSp (pc1 := 38) lkX11_280 (c_X6_firstFullOf w_3 w_4 w_5 w_6 w_7 w_8 _ _) rfl rfl ⟨Nat.le_of_ble_eq_true rfl, Nat.le_of_ble_eq_true rfl⟩ (Nat.le_of_ble_eq_true rfl) dX11_reckonFits_35 rfl (fun v3 => ?_)
  refine r_istore (pc1 := 40) dX11_reckonFits_38 (by decide) rfl rfl rfl ?_
  refine p_jn (hyp := fun (k7 : Int32 → Int32 → Int32 → Option Int32) => ∀ (v4 : Int32) (v5 : Int32) (v6 : Int32), RC l wF RX11 cX11_reckonFits 9 (some .int) 2 113 [.ref 0, .null, .int a2, .null, .int v4, .int v5, .int v6, .null, .null] [] s0 (pu (k7 v4 v5 v6) s0)) (fun v4 v5 v6 => ?_) (fun k7 hk7 => ?_)
  · refine r_iload_n (pc1 := 114) (i := 2) dX11_reckonFits_113 rfl rfl rfl ?_
    refine p_if_eq (tgt := 122) (pc1 := 117) dX11_reckonFits_114 (by decide) rfl (fun q8 => ?_) (fun q8 => ?_)
    · refine r_iload (pc1 := 124) dX11_reckonFits_122 rfl rfl ?_
      exact p_iret rfl rfl dX11_reckonFits_124
    · refine r_iload (pc1 := 119) dX11_reckonFits_117 rfl rfl ?_
      refine p_if_ne (tgt := 125) (pc1 := 122) dX11_reckonFits_119 (by decide) rfl (fun q9 => ?_) (fun q9 => ?_)
      · refine r_iload (pc1 := 124) dX11_reckonFits_122 rfl rfl ?_
        exact p_iret rfl rfl dX11_reckonFits_124
      · refine r_iload_n (pc1 := 126) (i := 2) dX11_reckonFits_125 rfl rfl rfl ?_
        refine r_iconst (v := 1) (pc1 := 127) dX11_reckonFits_126 ki_1 rfl ?_
        refine p_icmp_ne (tgt := 135) (pc1 := 130) dX11_reckonFits_127 (by decide) rfl (fun q10 => ?_) (fun q10 => ?_)
        · refine r_iload (pc1 := 132) dX11_reckonFits_130 rfl rfl ?_
          refine r_goto (tgt := 147) dX11_reckonFits_132 (by decide) ?_
          exact p_iret rfl rfl dX11_reckonFits_147
        · refine r_aload_n (pc1 := 136) (i := 0) dX11_reckonFits_135 rfl rfl rfl ?_
          refine r_getR (pc1 := 139) w_0 gfX11_42 rfl dX11_reckonFits_136 rfl ?_
          refine p_callVp (pc1 := 142) (rv_of w_27 cl_10) lkX11_309 (c_X10_allLaws _) rfl rfl ⟨Nat.le_of_ble_eq_true rfl, Nat.le_of_ble_eq_true rfl⟩ (Nat.le_of_ble_eq_true rfl) dX11_reckonFits_139 rfl (fun v11 => ?_)
          refine r_iload (pc1 := 144) dX11_reckonFits_142 rfl rfl ?_
          refine r_iconst (v := (-1)) (pc1 := 145) dX11_reckonFits_144 ki_m1 rfl ?_
          refine r_ixor (pc1 := 146) dX11_reckonFits_145 rfl ?_
          refine r_iand (pc1 := 147) dX11_reckonFits_146 rfl ?_
          exact p_iret rfl rfl dX11_reckonFits_147
  · exact r_wk (t_lp_X11_reckonFits_40 a1 a2 s0 v2 k7 hk7 FU 0 255 0 v3) ⟨Or.inr rfl, Or.inr rfl, Or.inr rfl, Or.inl rfl, Or.inr rfl, Or.inr rfl, Or.inr rfl, Or.inr rfl, Or.inr rfl, trivial⟩
/-! f_X11_fits -/
noncomputable def f_X11_fits (a1 : Int32) (a2 : Int32) (s0 : SS) : Res := bdp (f_X11_within a1 20 s0) (fun (v1 : Int32) => if (v1 : Int32) = 0 then some ((-1), s0) else bdp (f_X11_within a2 2 s0) (fun (v3 : Int32) => if (v3 : Int32) = 0 then some ((-1), s0) else bdp (f_X9_size s0) (fun (v5 : Int32) => if (2 * a1 : Int32) ≤ (v5 : Int32) then bdp (f_X11_toldDeedsAreFine a1 s0) (fun (v7 : Int32) => jn (fun (v8 : Int32) => bd (f_X9_clear s0) (fun (v10 : Int32) (s11 : SS) => some (v8, s11))) (fun (k9 : Int32 → Res) => if (v7 : Int32) = 0 then k9 ((-2)) else bdp (f_X11_reckonFits a1 a2 s0) (fun (v13 : Int32) => k9 v13))) else some ((-1), s0))))
set_option maxRecDepth 100000 in
set_option maxHeartbeats 4000000 in
theorem c_X11_fits {l : Launch} (a1 : Int32) (a2 : Int32) (s0 : SS) : Ct l wF yX11_fits cX11_fits 4 (some .int) 3 [.ref 0, .int a1, .int a2] s0 (f_X11_fits a1 a2 s0) := by
  refine ct_of (y := yX11_fits) plX11 (Nat.le_of_ble_eq_true rfl) ?_
  refine r_pad0 1 (L1 := [.ref 0, .int a1, .int a2, .null]) rfl ?_
  unfold f_X11_fits
  refine r_iload_n (pc1 := 1) (i := 1) dX11_fits_0 rfl rfl rfl ?_
  refine r_bipush (v := 20) (pc1 := 3) dX11_fits_1 kb_20 rfl ?_
  refine r_callSp (pc1 := 6) lkX11_102 (c_X11_within _ _ _) rfl rfl ⟨Nat.le_of_ble_eq_true rfl, Nat.le_of_ble_eq_true rfl⟩ (Nat.le_of_ble_eq_true rfl) dX11_fits_3 rfl (fun v1 => ?_)
  refine r_if_eq (tgt := 30) (pc1 := 9) dX11_fits_6 (by decide) rfl (fun q2 => ?_) (fun q2 => ?_)
  · refine r_iconst (v := (-1)) (pc1 := 31) dX11_fits_30 ki_m1 rfl ?_
    exact r_iret rfl rfl dX11_fits_31
  · refine r_iload_n (pc1 := 10) (i := 2) dX11_fits_9 rfl rfl rfl ?_
    refine r_iconst (v := 2) (pc1 := 11) dX11_fits_10 ki_2 rfl ?_
    refine r_callSp (pc1 := 14) lkX11_102 (c_X11_within _ _ _) rfl rfl ⟨Nat.le_of_ble_eq_true rfl, Nat.le_of_ble_eq_true rfl⟩ (Nat.le_of_ble_eq_true rfl) dX11_fits_11 rfl (fun v3 => ?_)
    refine r_if_eq (tgt := 30) (pc1 := 17) dX11_fits_14 (by decide) rfl (fun q4 => ?_) (fun q4 => ?_)
    · refine r_iconst (v := (-1)) (pc1 := 31) dX11_fits_30 ki_m1 rfl ?_
      exact r_iret rfl rfl dX11_fits_31
    · refine r_iconst (v := 2) (pc1 := 18) dX11_fits_17 ki_2 rfl ?_
      refine r_iload_n (pc1 := 19) (i := 1) dX11_fits_18 rfl rfl rfl ?_
      refine r_imul (pc1 := 20) dX11_fits_19 rfl ?_
      refine r_aload_n (pc1 := 21) (i := 0) dX11_fits_20 rfl rfl rfl ?_
      refine r_getR (pc1 := 24) w_0 gfX11_10 rfl dX11_fits_21 rfl ?_
      refine r_callVp (pc1 := 27) (rv_of w_1 cl_9) lkX11_129 (c_X9_size _) rfl rfl ⟨Nat.le_of_ble_eq_true rfl, Nat.le_of_ble_eq_true rfl⟩ (Nat.le_of_ble_eq_true rfl) dX11_fits_24 rfl (fun v5 => ?_)
      refine r_icmp_le (tgt := 32) (pc1 := 30) dX11_fits_27 (by decide) rfl (fun q6 => ?_) (fun q6 => ?_)
      · refine r_aload_n (pc1 := 33) (i := 0) dX11_fits_32 rfl rfl rfl ?_
        refine r_iload_n (pc1 := 34) (i := 1) dX11_fits_33 rfl rfl rfl ?_
        refine r_callVp (pc1 := 37) (rv_of w_0 cl_11) lkX11_297 (c_X11_toldDeedsAreFine _ _) rfl rfl ⟨Nat.le_of_ble_eq_true rfl, Nat.le_of_ble_eq_true rfl⟩ (Nat.le_of_ble_eq_true rfl) dX11_fits_34 rfl (fun v7 => ?_)
        refine r_jn (hyp := fun (k9 : Int32 → Res) => ∀ (v8 : Int32), RC l wF RX11 cX11_fits 4 (some .int) 3 51 [.ref 0, .null, .null, .null] [.int v8] s0 (k9 v8)) (fun v8 => ?_) (fun k9 hk9 => ?_)
        · refine r_istore_n (pc1 := 52) (i := 3) dX11_fits_51 rfl (by decide) rfl rfl rfl ?_
          refine r_aload_n (pc1 := 53) (i := 0) dX11_fits_52 rfl rfl rfl ?_
          refine r_getR (pc1 := 56) w_0 gfX11_10 rfl dX11_fits_53 rfl ?_
          refine r_callVv (pc1 := 59) (rv_of w_1 cl_9) lkX11_136 (c_X9_clear _) rfl rfl ⟨Nat.le_of_ble_eq_true rfl, Nat.le_of_ble_eq_true rfl⟩ (Nat.le_of_ble_eq_true rfl) dX11_fits_56 rfl (fun v10 s11 => ?_)
          refine r_iload_n (pc1 := 60) (i := 3) dX11_fits_59 rfl rfl rfl ?_
          exact r_iret rfl rfl dX11_fits_60
        · refine r_if_eq (tgt := 49) (pc1 := 40) dX11_fits_37 (by decide) rfl (fun q12 => ?_) (fun q12 => ?_)
          · refine r_bipush (v := (-2)) (pc1 := 51) dX11_fits_49 kb_m2 rfl ?_
            exact r_wk (hk9 ((-2))) ⟨Or.inr rfl, Or.inl rfl, Or.inl rfl, Or.inl rfl, trivial⟩
          · refine r_aload_n (pc1 := 41) (i := 0) dX11_fits_40 rfl rfl rfl ?_
            refine r_iload_n (pc1 := 42) (i := 1) dX11_fits_41 rfl rfl rfl ?_
            refine r_iload_n (pc1 := 43) (i := 2) dX11_fits_42 rfl rfl rfl ?_
            refine r_callVp (pc1 := 46) (rv_of w_0 cl_11) lkX11_300 (c_X11_reckonFits _ _ _) rfl rfl ⟨Nat.le_of_ble_eq_true rfl, Nat.le_of_ble_eq_true rfl⟩ (Nat.le_of_ble_eq_true rfl) dX11_fits_43 rfl (fun v13 => ?_)
            refine r_goto (tgt := 51) dX11_fits_46 (by decide) ?_
            exact r_wk (hk9 v13) ⟨Or.inr rfl, Or.inl rfl, Or.inl rfl, Or.inl rfl, trivial⟩
      · refine r_iconst (v := (-1)) (pc1 := 31) dX11_fits_30 ki_m1 rfl ?_
        exact r_iret rfl rfl dX11_fits_31
/-! f_X11_seed -/
noncomputable def f_X11_seed (a1 : Int32) (s0 : SS) : Res := bdp (f_X11_within a1 65535 s0) (fun (v1 : Int32) => if (v1 : Int32) = 0 then some (0, s0) else lts (up s0 52 3 a1) (fun (s3 : SS) => some (1, s3)))
set_option maxRecDepth 100000 in
set_option maxHeartbeats 4000000 in
theorem c_X11_seed {l : Launch} (a1 : Int32) (s0 : SS) : Ct l wF yX11_seed cX11_seed 2 (some .boolean) 1 [.ref 0, .int a1] s0 (f_X11_seed a1 s0) := by
  refine ct_of (y := yX11_seed) plX11 (Nat.le_of_ble_eq_true rfl) ?_
  refine r_pad0 0 (L1 := [.ref 0, .int a1]) rfl ?_
  unfold f_X11_seed
  refine r_iload_n (pc1 := 1) (i := 1) dX11_seed_0 rfl rfl rfl ?_
  refine r_ldc (v := 65535) (pc1 := 3) dX11_seed_1 cnX11_174 rfl ?_
  refine r_callSp (pc1 := 6) lkX11_102 (c_X11_within _ _ _) rfl rfl ⟨Nat.le_of_ble_eq_true rfl, Nat.le_of_ble_eq_true rfl⟩ (Nat.le_of_ble_eq_true rfl) dX11_seed_3 rfl (fun v1 => ?_)
  refine r_if_ne (tgt := 11) (pc1 := 9) dX11_seed_6 (by decide) rfl (fun q2 => ?_) (fun q2 => ?_)
  · refine r_iconst (v := 0) (pc1 := 10) dX11_seed_9 ki_0 rfl ?_
    exact r_iret rfl rfl dX11_seed_10
  · refine r_aload_n (pc1 := 12) (i := 0) dX11_seed_11 rfl rfl rfl ?_
    refine r_getR (pc1 := 15) w_0 gfX11_88 rfl dX11_seed_12 rfl ?_
    refine r_iload_n (pc1 := 16) (i := 1) dX11_seed_15 rfl rfl rfl ?_
    refine r_putI (pc1 := 19) w_52 pfX11_175 rfl ⟨rfl, rfl⟩ dX11_seed_16 rfl ?_
    refine r_lts (fun s3 => ?_)
    refine r_iconst (v := 1) (pc1 := 20) dX11_seed_19 ki_1 rfl ?_
    exact r_iret rfl rfl dX11_seed_20
/-! f_X11_draw -/
noncomputable def lp_X11_draw_17 (a1 : Int32) : Nat → Int32 → Int32 → SS → Res
  | 0, _, _, _ => none
  | n6 + 1, v3, v4, s5 => if (a1 : Int32) ≤ (v4 : Int32) then some (v3, s5) else gd (¬ (65536 : Int32) = 0) (lts (up s5 52 3 (((25173 * (s5 52 3)) + 13849) - ((25173 * (s5 52 3)) + 13849) / 65536 * 65536)) (fun (s8 : SS) => gd (¬ (4 : Int32) = 0) (lt ((s8 52 3) - (s8 52 3) / 4 * 4) (fun (v9 : Int32) => bd (f_X2_choice v9 (s8 52 0) s8) (fun (v10 : Int32) (s11 : SS) => jn (fun (v12 : Int32) => bd (f_X11_passDay v9 v10 s11) (fun (v14 : Int32) (s15 : SS) => lp_X11_draw_17 a1 n6 v12 (v4 + 1) s15)) (fun (k13 : Int32 → Res) => if (v10 : Int32) = (8 : Int32) then k13 v3 else k13 (v3 + 1)))))))
noncomputable def f_X11_draw (a1 : Int32) (s0 : SS) : Res := if (a1 : Int32) < (1 : Int32) then some ((-1), s0) else if (a1 : Int32) ≤ (100 : Int32) then lp_X11_draw_17 a1 FU 0 0 s0 else some ((-1), s0)
set_option maxRecDepth 100000 in
set_option maxHeartbeats 4000000 in
theorem t_lp_X11_draw_17 {l : Launch} (a1 : Int32)  : ∀ (n6 : Nat) (v3 : Int32) (v4 : Int32) (s5 : SS), RC l wF RX11 cX11_draw 6 (some .int) 5 17 [.ref 0, .int a1, .int v3, .int v4, .null, .null] [] s5 (lp_X11_draw_17 a1 n6 v3 v4 s5) := by
  intro n6
  induction n6 with
  | zero =>
    intro v3 v4 s5
    rw [lp_X11_draw_17]
    exact r_none
  | succ n6 ih =>
    intro v3 v4 s5
    rw [lp_X11_draw_17]
    refine r_iload_n (pc1 := 18) (i := 3) dX11_draw_17 rfl rfl rfl ?_
    refine r_iload_n (pc1 := 19) (i := 1) dX11_draw_18 rfl rfl rfl ?_
    refine r_icmp_ge (tgt := 101) (pc1 := 22) dX11_draw_19 (by decide) rfl (fun q7 => ?_) (fun q7 => ?_)
    · refine r_iload_n (pc1 := 102) (i := 2) dX11_draw_101 rfl rfl rfl ?_
      exact r_iret rfl rfl dX11_draw_102
    · refine r_aload_n (pc1 := 23) (i := 0) dX11_draw_22 rfl rfl rfl ?_
      refine r_getR (pc1 := 26) w_0 gfX11_88 rfl dX11_draw_23 rfl ?_
      refine r_sipush (v := 25173) (pc1 := 29) dX11_draw_26 ks_25173 rfl ?_
      refine r_aload_n (pc1 := 30) (i := 0) dX11_draw_29 rfl rfl rfl ?_
      refine r_getR (pc1 := 33) w_0 gfX11_88 rfl dX11_draw_30 rfl ?_
      refine r_getI (pc1 := 36) w_52 gfX11_175 rfl dX11_draw_33 rfl ?_
      refine r_imul (pc1 := 37) dX11_draw_36 rfl ?_
      refine r_sipush (v := 13849) (pc1 := 40) dX11_draw_37 ks_13849 rfl ?_
      refine r_iadd (pc1 := 41) dX11_draw_40 rfl ?_
      refine r_ldc (v := 65536) (pc1 := 43) dX11_draw_41 cnX11_204 rfl ?_
      refine r_irem (pc1 := 44) dX11_draw_43 rfl ?_
      refine r_putI (pc1 := 47) w_52 pfX11_175 rfl ⟨rfl, rfl⟩ dX11_draw_44 rfl ?_
      refine r_lts (fun s8 => ?_)
      refine r_aload_n (pc1 := 48) (i := 0) dX11_draw_47 rfl rfl rfl ?_
      refine r_getR (pc1 := 51) w_0 gfX11_88 rfl dX11_draw_48 rfl ?_
      refine r_getI (pc1 := 54) w_52 gfX11_175 rfl dX11_draw_51 rfl ?_
      refine r_iconst (v := 4) (pc1 := 55) dX11_draw_54 ki_4 rfl ?_
      refine r_irem (pc1 := 56) dX11_draw_55 rfl ?_
      refine r_lt (fun v9 => ?_)
      refine r_istore (pc1 := 58) dX11_draw_56 (by decide) rfl rfl rfl ?_
      refine r_aload_n (pc1 := 59) (i := 0) dX11_draw_58 rfl rfl rfl ?_
      refine r_getR (pc1 := 62) w_0 gfX11_51 rfl dX11_draw_59 rfl ?_
      refine r_iload (pc1 := 64) dX11_draw_62 rfl rfl ?_
      refine r_aload_n (pc1 := 65) (i := 0) dX11_draw_64 rfl rfl rfl ?_
      refine r_getR (pc1 := 68) w_0 gfX11_88 rfl dX11_draw_65 rfl ?_
      refine r_getI (pc1 := 71) w_52 gfX11_122 rfl dX11_draw_68 rfl ?_
      refine r_callVi (pc1 := 74) (rv_of w_35 cl_2) lkX11_192 (c_X2_choice _ _ _) rfl rfl ⟨Nat.le_of_ble_eq_true rfl, Nat.le_of_ble_eq_true rfl⟩ (Nat.le_of_ble_eq_true rfl) dX11_draw_71 rfl (fun v10 s11 => ?_)
      refine r_istore (pc1 := 76) dX11_draw_74 (by decide) rfl rfl rfl ?_
      refine r_iload (pc1 := 78) dX11_draw_76 rfl rfl ?_
      refine r_bipush (v := 8) (pc1 := 80) dX11_draw_78 kb_8 rfl ?_
      refine r_jn (hyp := fun (k13 : Int32 → Res) => ∀ (v12 : Int32), RC l wF RX11 cX11_draw 6 (some .int) 5 86 [.ref 0, .int a1, .int v12, .int v4, .int v9, .int v10] [] s11 (k13 v12)) (fun v12 => ?_) (fun k13 hk13 => ?_)
      · refine r_aload_n (pc1 := 87) (i := 0) dX11_draw_86 rfl rfl rfl ?_
        refine r_iload (pc1 := 89) dX11_draw_87 rfl rfl ?_
        refine r_iload (pc1 := 91) dX11_draw_89 rfl rfl ?_
        refine r_callVi (pc1 := 94) (rv_of w_0 cl_11) lkX11_201 (c_X11_passDay _ _ _) rfl rfl ⟨Nat.le_of_ble_eq_true rfl, Nat.le_of_ble_eq_true rfl⟩ (Nat.le_of_ble_eq_true rfl) dX11_draw_91 rfl (fun v14 s15 => ?_)
        refine r_pop (pc1 := 95) dX11_draw_94 rfl rfl ?_
        refine r_iinc (pc1 := 98) dX11_draw_95 rfl (kn_1 _) (by decide) rfl rfl rfl ?_
        refine r_goto (tgt := 17) dX11_draw_98 (by decide) ?_
        exact r_wk (ih v12 (v4 + 1) s15) ⟨Or.inr rfl, Or.inr rfl, Or.inr rfl, Or.inr rfl, Or.inl rfl, Or.inl rfl, trivial⟩
      · refine r_icmp_eq (tgt := 86) (pc1 := 83) dX11_draw_80 (by decide) rfl (fun q16 => ?_) (fun q16 => ?_)
        · exact r_wk (hk13 v3) ⟨Or.inr rfl, Or.inr rfl, Or.inr rfl, Or.inr rfl, Or.inr rfl, Or.inr rfl, trivial⟩
        · refine r_iinc (pc1 := 86) dX11_draw_83 rfl (kn_1 _) (by decide) rfl rfl rfl ?_
          exact r_wk (hk13 (v3 + 1)) ⟨Or.inr rfl, Or.inr rfl, Or.inr rfl, Or.inr rfl, Or.inr rfl, Or.inr rfl, trivial⟩
set_option maxRecDepth 100000 in
set_option maxHeartbeats 4000000 in
theorem c_X11_draw {l : Launch} (a1 : Int32) (s0 : SS) : Ct l wF yX11_draw cX11_draw 6 (some .int) 5 [.ref 0, .int a1] s0 (f_X11_draw a1 s0) := by
  refine ct_of (y := yX11_draw) plX11 (Nat.le_of_ble_eq_true rfl) ?_
  refine r_pad0 4 (L1 := [.ref 0, .int a1, .null, .null, .null, .null]) rfl ?_
  unfold f_X11_draw
  refine r_iload_n (pc1 := 1) (i := 1) dX11_draw_0 rfl rfl rfl ?_
  refine r_iconst (v := 1) (pc1 := 2) dX11_draw_1 ki_1 rfl ?_
  refine r_icmp_lt (tgt := 11) (pc1 := 5) dX11_draw_2 (by decide) rfl (fun q1 => ?_) (fun q1 => ?_)
  · refine r_iconst (v := (-1)) (pc1 := 12) dX11_draw_11 ki_m1 rfl ?_
    exact r_iret rfl rfl dX11_draw_12
  · refine r_iload_n (pc1 := 6) (i := 1) dX11_draw_5 rfl rfl rfl ?_
    refine r_bipush (v := 100) (pc1 := 8) dX11_draw_6 kb_100 rfl ?_
    refine r_icmp_le (tgt := 13) (pc1 := 11) dX11_draw_8 (by decide) rfl (fun q2 => ?_) (fun q2 => ?_)
    · refine r_iconst (v := 0) (pc1 := 14) dX11_draw_13 ki_0 rfl ?_
      refine r_istore_n (pc1 := 15) (i := 2) dX11_draw_14 rfl (by decide) rfl rfl rfl ?_
      refine r_iconst (v := 0) (pc1 := 16) dX11_draw_15 ki_0 rfl ?_
      refine r_istore_n (pc1 := 17) (i := 3) dX11_draw_16 rfl (by decide) rfl rfl rfl ?_
      exact r_wk (t_lp_X11_draw_17 a1 FU 0 0 s0) ⟨Or.inr rfl, Or.inr rfl, Or.inr rfl, Or.inr rfl, Or.inl rfl, Or.inl rfl, trivial⟩
    · refine r_iconst (v := (-1)) (pc1 := 12) dX11_draw_11 ki_m1 rfl ?_
      exact r_iret rfl rfl dX11_draw_12
/-! f_X11_book -/
noncomputable def f_X11_book (a1 : Int32) (a2 : Int32) (s0 : SS) : Option Int32 := if (a1 : Int32) < 0 then some ((-1)) else if (s0 52 4 : Int32) ≤ (a1 : Int32) then some ((-1)) else if (100 : Int32) ≤ (a1 : Int32) then some ((-1)) else bdp (f_X11_within a2 3 s0) (fun (v4 : Int32) => if (v4 : Int32) = 0 then some ((-1)) else gd (inb ((a1 * 4) + a2) 400) (some (s0 55 (Int32.toNatClampNeg ((a1 * 4) + a2)))))
set_option maxRecDepth 100000 in
set_option maxHeartbeats 4000000 in
theorem c_X11_book {l : Launch} (a1 : Int32) (a2 : Int32) (s0 : SS) : Ct l wF yX11_book cX11_book 3 (some .int) 1 [.ref 0, .int a1, .int a2] s0 (pu (f_X11_book a1 a2 s0) s0) := by
  refine ct_of (y := yX11_book) plX11 (Nat.le_of_ble_eq_true rfl) ?_
  refine r_pad0 0 (L1 := [.ref 0, .int a1, .int a2]) rfl ?_
  unfold f_X11_book
  refine r_iload_n (pc1 := 1) (i := 1) dX11_book_0 rfl rfl rfl ?_
  refine p_if_lt (tgt := 29) (pc1 := 4) dX11_book_1 (by decide) rfl (fun q1 => ?_) (fun q1 => ?_)
  · refine r_iconst (v := (-1)) (pc1 := 30) dX11_book_29 ki_m1 rfl ?_
    exact p_iret rfl rfl dX11_book_30
  · refine r_iload_n (pc1 := 5) (i := 1) dX11_book_4 rfl rfl rfl ?_
    refine r_aload_n (pc1 := 6) (i := 0) dX11_book_5 rfl rfl rfl ?_
    refine r_getR (pc1 := 9) w_0 gfX11_88 rfl dX11_book_6 rfl ?_
    refine r_getI (pc1 := 12) w_52 gfX11_223 rfl dX11_book_9 rfl ?_
    refine p_icmp_ge (tgt := 29) (pc1 := 15) dX11_book_12 (by decide) rfl (fun q2 => ?_) (fun q2 => ?_)
    · refine r_iconst (v := (-1)) (pc1 := 30) dX11_book_29 ki_m1 rfl ?_
      exact p_iret rfl rfl dX11_book_30
    · refine r_iload_n (pc1 := 16) (i := 1) dX11_book_15 rfl rfl rfl ?_
      refine r_bipush (v := 100) (pc1 := 18) dX11_book_16 kb_100 rfl ?_
      refine p_icmp_ge (tgt := 29) (pc1 := 21) dX11_book_18 (by decide) rfl (fun q3 => ?_) (fun q3 => ?_)
      · refine r_iconst (v := (-1)) (pc1 := 30) dX11_book_29 ki_m1 rfl ?_
        exact p_iret rfl rfl dX11_book_30
      · refine r_iload_n (pc1 := 22) (i := 2) dX11_book_21 rfl rfl rfl ?_
        refine r_iconst (v := 3) (pc1 := 23) dX11_book_22 ki_3 rfl ?_
        refine p_callSp (pc1 := 26) lkX11_102 (c_X11_within _ _ _) rfl rfl ⟨Nat.le_of_ble_eq_true rfl, Nat.le_of_ble_eq_true rfl⟩ (Nat.le_of_ble_eq_true rfl) dX11_book_23 rfl (fun v4 => ?_)
        refine p_if_ne (tgt := 31) (pc1 := 29) dX11_book_26 (by decide) rfl (fun q5 => ?_) (fun q5 => ?_)
        · refine r_iconst (v := (-1)) (pc1 := 30) dX11_book_29 ki_m1 rfl ?_
          exact p_iret rfl rfl dX11_book_30
        · refine r_aload_n (pc1 := 32) (i := 0) dX11_book_31 rfl rfl rfl ?_
          refine r_getR (pc1 := 35) w_0 gfX11_99 rfl dX11_book_32 rfl ?_
          refine r_iload_n (pc1 := 36) (i := 1) dX11_book_35 rfl rfl rfl ?_
          refine r_iconst (v := 4) (pc1 := 37) dX11_book_36 ki_4 rfl ?_
          refine r_imul (pc1 := 38) dX11_book_37 rfl ?_
          refine r_iload_n (pc1 := 39) (i := 2) dX11_book_38 rfl rfl rfl ?_
          refine r_iadd (pc1 := 40) dX11_book_39 rfl ?_
          refine p_iald (pc1 := 41) w_55 dX11_book_40 rfl ?_
          exact p_iret rfl rfl dX11_book_41
/-! f_X8_copyFrom_53_52 -/
noncomputable def f_X8_copyFrom_53_52  (s0 : SS) : Res := lts (up s0 53 0 (s0 52 0)) (fun (s1 : SS) => lts (up s1 53 1 (s1 52 1)) (fun (s2 : SS) => lts (up s2 53 2 (s2 52 2)) (fun (s3 : SS) => lts (up s3 53 3 (s3 52 3)) (fun (s4 : SS) => lts (up s4 53 4 (s4 52 4)) (fun (s5 : SS) => some (0, s5))))))
set_option maxRecDepth 100000 in
set_option maxHeartbeats 4000000 in
theorem c_X8_copyFrom_53_52 {l : Launch}  (s0 : SS) : Ct l wF yX8_copyFrom cX8_copyFrom 2 none 0 [.ref 53, .ref 52] s0 (f_X8_copyFrom_53_52 s0) := by
  refine ct_of (y := yX8_copyFrom) plX8 (Nat.le_of_ble_eq_true rfl) ?_
  refine r_pad0 0 (L1 := [.ref 53, .ref 52]) rfl ?_
  unfold f_X8_copyFrom_53_52
  refine r_aload_n (pc1 := 1) (i := 0) dX8_copyFrom_0 rfl rfl rfl ?_
  refine r_aload_n (pc1 := 2) (i := 1) dX8_copyFrom_1 rfl rfl rfl ?_
  refine r_getI (pc1 := 5) w_52 gfX8_13 rfl dX8_copyFrom_2 rfl ?_
  refine r_putI (pc1 := 8) w_53 pfX8_13 rfl ⟨rfl, rfl⟩ dX8_copyFrom_5 rfl ?_
  refine r_lts (fun s1 => ?_)
  refine r_aload_n (pc1 := 9) (i := 0) dX8_copyFrom_8 rfl rfl rfl ?_
  refine r_aload_n (pc1 := 10) (i := 1) dX8_copyFrom_9 rfl rfl rfl ?_
  refine r_getI (pc1 := 13) w_52 gfX8_22 rfl dX8_copyFrom_10 rfl ?_
  refine r_putI (pc1 := 16) w_53 pfX8_22 rfl ⟨rfl, rfl⟩ dX8_copyFrom_13 rfl ?_
  refine r_lts (fun s2 => ?_)
  refine r_aload_n (pc1 := 17) (i := 0) dX8_copyFrom_16 rfl rfl rfl ?_
  refine r_aload_n (pc1 := 18) (i := 1) dX8_copyFrom_17 rfl rfl rfl ?_
  refine r_getI (pc1 := 21) w_52 gfX8_25 rfl dX8_copyFrom_18 rfl ?_
  refine r_putI (pc1 := 24) w_53 pfX8_25 rfl ⟨rfl, rfl⟩ dX8_copyFrom_21 rfl ?_
  refine r_lts (fun s3 => ?_)
  refine r_aload_n (pc1 := 25) (i := 0) dX8_copyFrom_24 rfl rfl rfl ?_
  refine r_aload_n (pc1 := 26) (i := 1) dX8_copyFrom_25 rfl rfl rfl ?_
  refine r_getI (pc1 := 29) w_52 gfX8_19 rfl dX8_copyFrom_26 rfl ?_
  refine r_putI (pc1 := 32) w_53 pfX8_19 rfl ⟨rfl, rfl⟩ dX8_copyFrom_29 rfl ?_
  refine r_lts (fun s4 => ?_)
  refine r_aload_n (pc1 := 33) (i := 0) dX8_copyFrom_32 rfl rfl rfl ?_
  refine r_aload_n (pc1 := 34) (i := 1) dX8_copyFrom_33 rfl rfl rfl ?_
  refine r_getI (pc1 := 37) w_52 gfX8_28 rfl dX8_copyFrom_34 rfl ?_
  refine r_putI (pc1 := 40) w_53 pfX8_28 rfl ⟨rfl, rfl⟩ dX8_copyFrom_37 rfl ?_
  refine r_lts (fun s5 => ?_)
  exact r_vret rfl dX8_copyFrom_40
/-! f_X11_keep -/
noncomputable def f_X11_keep  (s0 : SS) : Res := bd (f_X8_copyFrom_53_52 s0) (fun (v1 : Int32) (s2 : SS) => lts (up s2 0 14 1) (fun (s3 : SS) => bdp (f_X6_sizeOf (s3 52 0) s3) (fun (v4 : Int32) => some (v4, s3))))
set_option maxRecDepth 100000 in
set_option maxHeartbeats 4000000 in
theorem c_X11_keep {l : Launch}  (s0 : SS) : Ct l wF yX11_keep cX11_keep 1 (some .int) 1 [.ref 0] s0 (f_X11_keep s0) := by
  refine ct_of (y := yX11_keep) plX11 (Nat.le_of_ble_eq_true rfl) ?_
  refine r_pad0 0 (L1 := [.ref 0]) rfl ?_
  unfold f_X11_keep
  refine r_aload_n (pc1 := 1) (i := 0) dX11_keep_0 rfl rfl rfl ?_
  refine r_getR (pc1 := 4) w_0 gfX11_92 rfl dX11_keep_1 rfl ?_
  refine r_aload_n (pc1 := 5) (i := 0) dX11_keep_4 rfl rfl rfl ?_
  refine r_getR (pc1 := 8) w_0 gfX11_88 rfl dX11_keep_5 rfl ?_
  refine r_callVv (pc1 := 11) (rv_of w_53 cl_8) lkX11_232 (c_X8_copyFrom_53_52 _) rfl rfl ⟨Nat.le_of_ble_eq_true rfl, Nat.le_of_ble_eq_true rfl⟩ (Nat.le_of_ble_eq_true rfl) dX11_keep_8 rfl (fun v1 s2 => ?_)
  refine r_aload_n (pc1 := 12) (i := 0) dX11_keep_11 rfl rfl rfl ?_
  refine r_iconst (v := 1) (pc1 := 13) dX11_keep_12 ki_1 rfl ?_
  refine r_putI (pc1 := 16) w_0 pfX11_125 rfl ⟨rfl, rfl⟩ dX11_keep_13 rfl ?_
  refine r_lts (fun s3 => ?_)
  refine r_aload_n (pc1 := 17) (i := 0) dX11_keep_16 rfl rfl rfl ?_
  refine r_getR (pc1 := 20) w_0 gfX11_19 rfl dX11_keep_17 rfl ?_
  refine r_aload_n (pc1 := 21) (i := 0) dX11_keep_20 rfl rfl rfl ?_
  refine r_getR (pc1 := 24) w_0 gfX11_88 rfl dX11_keep_21 rfl ?_
  refine r_getI (pc1 := 27) w_52 gfX11_122 rfl dX11_keep_24 rfl ?_
  refine r_callVp (pc1 := 30) (rv_of w_3 cl_6) lkX11_235 (c_X6_sizeOf w_3 w_4 w_5 w_6 w_7 w_8 _ _) rfl rfl ⟨Nat.le_of_ble_eq_true rfl, Nat.le_of_ble_eq_true rfl⟩ (Nat.le_of_ble_eq_true rfl) dX11_keep_27 rfl (fun v4 => ?_)
  exact r_iret rfl rfl dX11_keep_30
/-! f_X8_copyFrom_52_53 -/
noncomputable def f_X8_copyFrom_52_53  (s0 : SS) : Res := lts (up s0 52 0 (s0 53 0)) (fun (s1 : SS) => lts (up s1 52 1 (s1 53 1)) (fun (s2 : SS) => lts (up s2 52 2 (s2 53 2)) (fun (s3 : SS) => lts (up s3 52 3 (s3 53 3)) (fun (s4 : SS) => lts (up s4 52 4 (s4 53 4)) (fun (s5 : SS) => some (0, s5))))))
set_option maxRecDepth 100000 in
set_option maxHeartbeats 4000000 in
theorem c_X8_copyFrom_52_53 {l : Launch}  (s0 : SS) : Ct l wF yX8_copyFrom cX8_copyFrom 2 none 0 [.ref 52, .ref 53] s0 (f_X8_copyFrom_52_53 s0) := by
  refine ct_of (y := yX8_copyFrom) plX8 (Nat.le_of_ble_eq_true rfl) ?_
  refine r_pad0 0 (L1 := [.ref 52, .ref 53]) rfl ?_
  unfold f_X8_copyFrom_52_53
  refine r_aload_n (pc1 := 1) (i := 0) dX8_copyFrom_0 rfl rfl rfl ?_
  refine r_aload_n (pc1 := 2) (i := 1) dX8_copyFrom_1 rfl rfl rfl ?_
  refine r_getI (pc1 := 5) w_53 gfX8_13 rfl dX8_copyFrom_2 rfl ?_
  refine r_putI (pc1 := 8) w_52 pfX8_13 rfl ⟨rfl, rfl⟩ dX8_copyFrom_5 rfl ?_
  refine r_lts (fun s1 => ?_)
  refine r_aload_n (pc1 := 9) (i := 0) dX8_copyFrom_8 rfl rfl rfl ?_
  refine r_aload_n (pc1 := 10) (i := 1) dX8_copyFrom_9 rfl rfl rfl ?_
  refine r_getI (pc1 := 13) w_53 gfX8_22 rfl dX8_copyFrom_10 rfl ?_
  refine r_putI (pc1 := 16) w_52 pfX8_22 rfl ⟨rfl, rfl⟩ dX8_copyFrom_13 rfl ?_
  refine r_lts (fun s2 => ?_)
  refine r_aload_n (pc1 := 17) (i := 0) dX8_copyFrom_16 rfl rfl rfl ?_
  refine r_aload_n (pc1 := 18) (i := 1) dX8_copyFrom_17 rfl rfl rfl ?_
  refine r_getI (pc1 := 21) w_53 gfX8_25 rfl dX8_copyFrom_18 rfl ?_
  refine r_putI (pc1 := 24) w_52 pfX8_25 rfl ⟨rfl, rfl⟩ dX8_copyFrom_21 rfl ?_
  refine r_lts (fun s3 => ?_)
  refine r_aload_n (pc1 := 25) (i := 0) dX8_copyFrom_24 rfl rfl rfl ?_
  refine r_aload_n (pc1 := 26) (i := 1) dX8_copyFrom_25 rfl rfl rfl ?_
  refine r_getI (pc1 := 29) w_53 gfX8_19 rfl dX8_copyFrom_26 rfl ?_
  refine r_putI (pc1 := 32) w_52 pfX8_19 rfl ⟨rfl, rfl⟩ dX8_copyFrom_29 rfl ?_
  refine r_lts (fun s4 => ?_)
  refine r_aload_n (pc1 := 33) (i := 0) dX8_copyFrom_32 rfl rfl rfl ?_
  refine r_aload_n (pc1 := 34) (i := 1) dX8_copyFrom_33 rfl rfl rfl ?_
  refine r_getI (pc1 := 37) w_53 gfX8_28 rfl dX8_copyFrom_34 rfl ?_
  refine r_putI (pc1 := 40) w_52 pfX8_28 rfl ⟨rfl, rfl⟩ dX8_copyFrom_37 rfl ?_
  refine r_lts (fun s5 => ?_)
  exact r_vret rfl dX8_copyFrom_40
