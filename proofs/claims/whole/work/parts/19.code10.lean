theorem dX12_stand_0 : decode cX12_stand 0 = .ok (.aload_n 0, 1) := by decide +kernel
theorem dX12_stand_1 : decode cX12_stand 1 = .ok (.iload_n 1, 1) := by decide +kernel
theorem dX12_stand_2 : decode cX12_stand 2 = .ok (.invokevirtual 339, 3) := by decide +kernel
theorem dX12_stand_5 : decode cX12_stand 5 = .ok (.iload_n 2, 1) := by decide +kernel
theorem dX12_stand_6 : decode cX12_stand 6 = .ok (.aload_n 0, 1) := by decide +kernel
theorem dX12_stand_7 : decode cX12_stand 7 = .ok (.getfield 329, 3) := by decide +kernel
theorem dX12_stand_10 : decode cX12_stand 10 = .ok (.iconst (-1), 1) := by decide +kernel
theorem dX12_stand_11 : decode cX12_stand 11 = .ok (.ixor, 1) := by decide +kernel
theorem dX12_stand_12 : decode cX12_stand 12 = .ok (.iand, 1) := by decide +kernel
theorem dX12_stand_13 : decode cX12_stand 13 = .ok (.ifCond .ne 7, 3) := by decide +kernel
theorem dX12_stand_16 : decode cX12_stand 16 = .ok (.iconst 1, 1) := by decide +kernel
theorem dX12_stand_17 : decode cX12_stand 17 = .ok (.goto 4, 3) := by decide +kernel
theorem dX12_stand_20 : decode cX12_stand 20 = .ok (.iconst 0, 1) := by decide +kernel
theorem dX12_stand_21 : decode cX12_stand 21 = .ok (.ireturn, 1) := by decide +kernel
theorem dX12_heldBy_0 : decode cX12_heldBy 0 = .ok (.aload_n 0, 1) := by decide +kernel
theorem dX12_heldBy_1 : decode cX12_heldBy 1 = .ok (.iload_n 2, 1) := by decide +kernel
theorem dX12_heldBy_2 : decode cX12_heldBy 2 = .ok (.iload_n 3, 1) := by decide +kernel
theorem dX12_heldBy_3 : decode cX12_heldBy 3 = .ok (.invokevirtual 362, 3) := by decide +kernel
theorem dX12_heldBy_6 : decode cX12_heldBy 6 = .ok (.istore 5, 2) := by decide +kernel
theorem dX12_heldBy_8 : decode cX12_heldBy 8 = .ok (.aload_n 0, 1) := by decide +kernel
theorem dX12_heldBy_9 : decode cX12_heldBy 9 = .ok (.iload 5, 2) := by decide +kernel
theorem dX12_heldBy_11 : decode cX12_heldBy 11 = .ok (.iload 4, 2) := by decide +kernel
theorem dX12_heldBy_13 : decode cX12_heldBy 13 = .ok (.invokevirtual 460, 3) := by decide +kernel
theorem dX12_heldBy_16 : decode cX12_heldBy 16 = .ok (.ifCond .eq 23, 3) := by decide +kernel
theorem dX12_heldBy_19 : decode cX12_heldBy 19 = .ok (.iconst 1, 1) := by decide +kernel
theorem dX12_heldBy_20 : decode cX12_heldBy 20 = .ok (.aload_n 0, 1) := by decide +kernel
theorem dX12_heldBy_21 : decode cX12_heldBy 21 = .ok (.getfield 125, 3) := by decide +kernel
theorem dX12_heldBy_24 : decode cX12_heldBy 24 = .ok (.sipush 4681, 3) := by decide +kernel
theorem dX12_heldBy_27 : decode cX12_heldBy 27 = .ok (.iload_n 1, 1) := by decide +kernel
theorem dX12_heldBy_28 : decode cX12_heldBy 28 = .ok (.iconst 1, 1) := by decide +kernel
theorem dX12_heldBy_29 : decode cX12_heldBy 29 = .ok (.iadd, 1) := by decide +kernel
theorem dX12_heldBy_30 : decode cX12_heldBy 30 = .ok (.imul, 1) := by decide +kernel
theorem dX12_heldBy_31 : decode cX12_heldBy 31 = .ok (.iload 5, 2) := by decide +kernel
theorem dX12_heldBy_33 : decode cX12_heldBy 33 = .ok (.iadd, 1) := by decide +kernel
theorem dX12_heldBy_34 : decode cX12_heldBy 34 = .ok (.iaload, 1) := by decide +kernel
theorem dX12_heldBy_35 : decode cX12_heldBy 35 = .ok (.iadd, 1) := by decide +kernel
theorem dX12_heldBy_36 : decode cX12_heldBy 36 = .ok (.goto 4, 3) := by decide +kernel
theorem dX12_heldBy_39 : decode cX12_heldBy 39 = .ok (.iconst 0, 1) := by decide +kernel
theorem dX12_heldBy_40 : decode cX12_heldBy 40 = .ok (.ireturn, 1) := by decide +kernel
theorem dX12_held_0 : decode cX12_held 0 = .ok (.aload_n 0, 1) := by decide +kernel
theorem dX12_held_1 : decode cX12_held 1 = .ok (.iload_n 1, 1) := by decide +kernel
theorem dX12_held_2 : decode cX12_held 2 = .ok (.invokevirtual 175, 3) := by decide +kernel
theorem dX12_held_5 : decode cX12_held 5 = .ok (.ifCond .eq 23, 3) := by decide +kernel
theorem dX12_held_8 : decode cX12_held 8 = .ok (.aload_n 0, 1) := by decide +kernel
theorem dX12_held_9 : decode cX12_held 9 = .ok (.iload_n 2, 1) := by decide +kernel
theorem dX12_held_10 : decode cX12_held 10 = .ok (.invokevirtual 175, 3) := by decide +kernel
theorem dX12_held_13 : decode cX12_held 13 = .ok (.ifCond .eq 15, 3) := by decide +kernel
theorem dX12_held_16 : decode cX12_held 16 = .ok (.iload_n 3, 1) := by decide +kernel
theorem dX12_held_17 : decode cX12_held 17 = .ok (.i2l, 1) := by decide +kernel
theorem dX12_held_18 : decode cX12_held 18 = .ok (.lconst 0, 1) := by decide +kernel
theorem dX12_held_19 : decode cX12_held 19 = .ok (.ldc2_w 151, 3) := by decide +kernel
theorem dX12_held_22 : decode cX12_held 22 = .ok (.invokestatic 140, 3) := by decide +kernel
theorem dX12_held_25 : decode cX12_held 25 = .ok (.ifCond .ne 5, 3) := by decide +kernel
theorem dX12_held_28 : decode cX12_held 28 = .ok (.iconst (-1), 1) := by decide +kernel
theorem dX12_held_29 : decode cX12_held 29 = .ok (.ireturn, 1) := by decide +kernel
theorem dX12_held_30 : decode cX12_held 30 = .ok (.iconst 1, 1) := by decide +kernel
theorem dX12_held_31 : decode cX12_held 31 = .ok (.iload_n 1, 1) := by decide +kernel
theorem dX12_held_32 : decode cX12_held 32 = .ok (.ishl, 1) := by decide +kernel
theorem dX12_held_33 : decode cX12_held 33 = .ok (.iconst 1, 1) := by decide +kernel
theorem dX12_held_34 : decode cX12_held 34 = .ok (.iload_n 2, 1) := by decide +kernel
theorem dX12_held_35 : decode cX12_held 35 = .ok (.ishl, 1) := by decide +kernel
theorem dX12_held_36 : decode cX12_held 36 = .ok (.ior, 1) := by decide +kernel
theorem dX12_held_37 : decode cX12_held 37 = .ok (.istore 4, 2) := by decide +kernel
theorem dX12_held_39 : decode cX12_held 39 = .ok (.aload_n 0, 1) := by decide +kernel
theorem dX12_held_40 : decode cX12_held 40 = .ok (.bipush 12, 2) := by decide +kernel
theorem dX12_held_42 : decode cX12_held 42 = .ok (.bipush 9, 2) := by decide +kernel
theorem dX12_held_44 : decode cX12_held 44 = .ok (.invokevirtual 421, 3) := by decide +kernel
theorem dX12_held_47 : decode cX12_held 47 = .ok (.iconst 0, 1) := by decide +kernel
theorem dX12_held_48 : decode cX12_held 48 = .ok (.istore 5, 2) := by decide +kernel
theorem dX12_held_50 : decode cX12_held 50 = .ok (.iload 5, 2) := by decide +kernel
theorem dX12_held_52 : decode cX12_held 52 = .ok (.sipush 4681, 3) := by decide +kernel
theorem dX12_held_55 : decode cX12_held 55 = .ok (.if_icmp .ge 21, 3) := by decide +kernel
theorem dX12_held_58 : decode cX12_held 58 = .ok (.aload_n 0, 1) := by decide +kernel
theorem dX12_held_59 : decode cX12_held 59 = .ok (.getfield 125, 3) := by decide +kernel
theorem dX12_held_62 : decode cX12_held 62 = .ok (.ldc_w 463, 3) := by decide +kernel
theorem dX12_held_65 : decode cX12_held 65 = .ok (.iload 5, 2) := by decide +kernel
theorem dX12_held_67 : decode cX12_held 67 = .ok (.iadd, 1) := by decide +kernel
theorem dX12_held_68 : decode cX12_held 68 = .ok (.iconst 0, 1) := by decide +kernel
theorem dX12_held_69 : decode cX12_held 69 = .ok (.iastore, 1) := by decide +kernel
theorem dX12_held_70 : decode cX12_held 70 = .ok (.iinc 5 1, 3) := by decide +kernel
theorem dX12_held_73 : decode cX12_held 73 = .ok (.goto (-23), 3) := by decide +kernel
theorem dX12_held_76 : decode cX12_held 76 = .ok (.bipush 11, 2) := by decide +kernel
theorem dX12_held_78 : decode cX12_held 78 = .ok (.istore 5, 2) := by decide +kernel
theorem dX12_held_80 : decode cX12_held 80 = .ok (.iload 5, 2) := by decide +kernel
theorem dX12_held_82 : decode cX12_held 82 = .ok (.ifCond .lt 165, 3) := by decide +kernel
theorem dX12_held_85 : decode cX12_held 85 = .ok (.aload_n 0, 1) := by decide +kernel
theorem dX12_held_86 : decode cX12_held 86 = .ok (.iload 5, 2) := by decide +kernel
theorem dX12_held_88 : decode cX12_held 88 = .ok (.invokevirtual 394, 3) := by decide +kernel
theorem dX12_held_91 : decode cX12_held 91 = .ok (.istore 6, 2) := by decide +kernel
theorem dX12_held_93 : decode cX12_held 93 = .ok (.iconst 0, 1) := by decide +kernel
theorem dX12_held_94 : decode cX12_held 94 = .ok (.istore 7, 2) := by decide +kernel
theorem dX12_held_96 : decode cX12_held 96 = .ok (.iload 7, 2) := by decide +kernel
theorem dX12_held_98 : decode cX12_held 98 = .ok (.sipush 4681, 3) := by decide +kernel
theorem dX12_held_101 : decode cX12_held 101 = .ok (.if_icmp .ge 140, 3) := by decide +kernel
theorem dX12_held_104 : decode cX12_held 104 = .ok (.aload_n 0, 1) := by decide +kernel
theorem dX12_held_105 : decode cX12_held 105 = .ok (.getfield 122, 3) := by decide +kernel
theorem dX12_held_108 : decode cX12_held 108 = .ok (.sipush 4681, 3) := by decide +kernel
theorem dX12_held_111 : decode cX12_held 111 = .ok (.iload 5, 2) := by decide +kernel
theorem dX12_held_113 : decode cX12_held 113 = .ok (.imul, 1) := by decide +kernel
theorem dX12_held_114 : decode cX12_held 114 = .ok (.iload 7, 2) := by decide +kernel
theorem dX12_held_116 : decode cX12_held 116 = .ok (.iadd, 1) := by decide +kernel
theorem dX12_held_117 : decode cX12_held 117 = .ok (.baload, 1) := by decide +kernel
theorem dX12_held_118 : decode cX12_held 118 = .ok (.ifCond .ne 6, 3) := by decide +kernel
theorem dX12_held_121 : decode cX12_held 121 = .ok (.goto 114, 3) := by decide +kernel
theorem dX12_held_124 : decode cX12_held 124 = .ok (.aload_n 0, 1) := by decide +kernel
theorem dX12_held_125 : decode cX12_held 125 = .ok (.iload 5, 2) := by decide +kernel
theorem dX12_held_127 : decode cX12_held 127 = .ok (.iload 7, 2) := by decide +kernel
theorem dX12_held_129 : decode cX12_held 129 = .ok (.bipush 8, 2) := by decide +kernel
theorem dX12_held_131 : decode cX12_held 131 = .ok (.iload 4, 2) := by decide +kernel
theorem dX12_held_133 : decode cX12_held 133 = .ok (.invokevirtual 464, 3) := by decide +kernel
theorem dX12_held_136 : decode cX12_held 136 = .ok (.istore 8, 2) := by decide +kernel
theorem dX12_held_138 : decode cX12_held 138 = .ok (.iconst 0, 1) := by decide +kernel
theorem dX12_held_139 : decode cX12_held 139 = .ok (.istore 9, 2) := by decide +kernel
theorem dX12_held_141 : decode cX12_held 141 = .ok (.iload 9, 2) := by decide +kernel
theorem dX12_held_143 : decode cX12_held 143 = .ok (.aload_n 0, 1) := by decide +kernel
theorem dX12_held_144 : decode cX12_held 144 = .ok (.getfield 144, 3) := by decide +kernel
theorem dX12_held_147 : decode cX12_held 147 = .ok (.if_icmp .ge 72, 3) := by decide +kernel
theorem dX12_held_150 : decode cX12_held 150 = .ok (.aload_n 0, 1) := by decide +kernel
theorem dX12_held_151 : decode cX12_held 151 = .ok (.iload 7, 2) := by decide +kernel
theorem dX12_held_153 : decode cX12_held 153 = .ok (.iload 6, 2) := by decide +kernel
theorem dX12_held_155 : decode cX12_held 155 = .ok (.invokevirtual 359, 3) := by decide +kernel
theorem dX12_held_158 : decode cX12_held 158 = .ok (.iload 9, 2) := by decide +kernel
theorem dX12_held_160 : decode cX12_held 160 = .ok (.invokestatic 335, 3) := by decide +kernel
theorem dX12_held_163 : decode cX12_held 163 = .ok (.ifCond .ne 6, 3) := by decide +kernel
theorem dX12_held_166 : decode cX12_held 166 = .ok (.goto 47, 3) := by decide +kernel
theorem dX12_held_169 : decode cX12_held 169 = .ok (.aload_n 0, 1) := by decide +kernel
theorem dX12_held_170 : decode cX12_held 170 = .ok (.iload 5, 2) := by decide +kernel
theorem dX12_held_172 : decode cX12_held 172 = .ok (.iload 7, 2) := by decide +kernel
theorem dX12_held_174 : decode cX12_held 174 = .ok (.iload 9, 2) := by decide +kernel
theorem dX12_held_176 : decode cX12_held 176 = .ok (.iload 4, 2) := by decide +kernel
theorem dX12_held_178 : decode cX12_held 178 = .ok (.invokevirtual 464, 3) := by decide +kernel
theorem dX12_held_181 : decode cX12_held 181 = .ok (.istore 10, 2) := by decide +kernel
theorem dX12_held_183 : decode cX12_held 183 = .ok (.iload_n 3, 1) := by decide +kernel
theorem dX12_held_184 : decode cX12_held 184 = .ok (.iload 6, 2) := by decide +kernel
theorem dX12_held_186 : decode cX12_held 186 = .ok (.invokestatic 335, 3) := by decide +kernel
theorem dX12_held_189 : decode cX12_held 189 = .ok (.iload 10, 2) := by decide +kernel
theorem dX12_held_191 : decode cX12_held 191 = .ok (.iload 8, 2) := by decide +kernel
theorem dX12_held_193 : decode cX12_held 193 = .ok (.if_icmp .le 7, 3) := by decide +kernel
theorem dX12_held_196 : decode cX12_held 196 = .ok (.iconst 1, 1) := by decide +kernel
theorem dX12_held_197 : decode cX12_held 197 = .ok (.goto 4, 3) := by decide +kernel
theorem dX12_held_200 : decode cX12_held 200 = .ok (.iconst 0, 1) := by decide +kernel
theorem dX12_held_201 : decode cX12_held 201 = .ok (.if_icmp .ne 8, 3) := by decide +kernel
theorem dX12_held_204 : decode cX12_held 204 = .ok (.iload 10, 2) := by decide +kernel
theorem dX12_held_206 : decode cX12_held 206 = .ok (.goto 5, 3) := by decide +kernel
theorem dX12_held_209 : decode cX12_held 209 = .ok (.iload 8, 2) := by decide +kernel
theorem dX12_held_211 : decode cX12_held 211 = .ok (.istore 8, 2) := by decide +kernel
theorem dX12_held_213 : decode cX12_held 213 = .ok (.iinc 9 1, 3) := by decide +kernel
theorem dX12_held_216 : decode cX12_held 216 = .ok (.goto (-75), 3) := by decide +kernel
theorem dX12_held_219 : decode cX12_held 219 = .ok (.aload_n 0, 1) := by decide +kernel
theorem dX12_held_220 : decode cX12_held 220 = .ok (.getfield 125, 3) := by decide +kernel
theorem dX12_held_223 : decode cX12_held 223 = .ok (.sipush 4681, 3) := by decide +kernel
theorem dX12_held_226 : decode cX12_held 226 = .ok (.iload 5, 2) := by decide +kernel
theorem dX12_held_228 : decode cX12_held 228 = .ok (.imul, 1) := by decide +kernel
theorem dX12_held_229 : decode cX12_held 229 = .ok (.iload 7, 2) := by decide +kernel
theorem dX12_held_231 : decode cX12_held 231 = .ok (.iadd, 1) := by decide +kernel
theorem dX12_held_232 : decode cX12_held 232 = .ok (.iload 8, 2) := by decide +kernel
theorem dX12_held_234 : decode cX12_held 234 = .ok (.iastore, 1) := by decide +kernel
theorem dX12_held_235 : decode cX12_held 235 = .ok (.iinc 7 1, 3) := by decide +kernel
theorem dX12_held_238 : decode cX12_held 238 = .ok (.goto (-142), 3) := by decide +kernel
theorem dX12_held_241 : decode cX12_held 241 = .ok (.iinc 5 (-1), 3) := by decide +kernel
theorem dX12_held_244 : decode cX12_held 244 = .ok (.goto (-164), 3) := by decide +kernel
theorem dX12_held_247 : decode cX12_held 247 = .ok (.aload_n 0, 1) := by decide +kernel
theorem dX12_held_248 : decode cX12_held 248 = .ok (.getfield 125, 3) := by decide +kernel
theorem dX12_held_251 : decode cX12_held 251 = .ok (.aload_n 0, 1) := by decide +kernel
theorem dX12_held_252 : decode cX12_held 252 = .ok (.getfield 158, 3) := by decide +kernel
theorem dX12_held_255 : decode cX12_held 255 = .ok (.iaload, 1) := by decide +kernel
theorem dX12_held_256 : decode cX12_held 256 = .ok (.ireturn, 1) := by decide +kernel
theorem dX12_number_0 : decode cX12_number 0 = .ok (.iload_n 1, 1) := by decide +kernel
theorem dX12_number_1 : decode cX12_number 1 = .ok (.invokestatic 381, 3) := by decide +kernel
theorem dX12_number_4 : decode cX12_number 4 = .ok (.ifCond .eq 15, 3) := by decide +kernel
theorem dX12_number_7 : decode cX12_number 7 = .ok (.iload_n 2, 1) := by decide +kernel
theorem dX12_number_8 : decode cX12_number 8 = .ok (.i2l, 1) := by decide +kernel
theorem dX12_number_9 : decode cX12_number 9 = .ok (.lconst 0, 1) := by decide +kernel
theorem dX12_number_10 : decode cX12_number 10 = .ok (.ldc2_w 467, 3) := by decide +kernel
theorem dX12_number_13 : decode cX12_number 13 = .ok (.invokestatic 140, 3) := by decide +kernel
theorem dX12_number_16 : decode cX12_number 16 = .ok (.ifCond .ne 7, 3) := by decide +kernel
theorem dX12_number_19 : decode cX12_number 19 = .ok (.ldc_w 384, 3) := by decide +kernel
theorem dX12_number_22 : decode cX12_number 22 = .ok (.ireturn, 1) := by decide +kernel
theorem dX12_number_23 : decode cX12_number 23 = .ok (.aload_n 0, 1) := by decide +kernel
theorem dX12_number_24 : decode cX12_number 24 = .ok (.getfield 13, 3) := by decide +kernel
theorem dX12_number_27 : decode cX12_number 27 = .ok (.istore_n 3, 1) := by decide +kernel
theorem dX12_number_28 : decode cX12_number 28 = .ok (.iconst 0, 1) := by decide +kernel
theorem dX12_number_29 : decode cX12_number 29 = .ok (.istore 4, 2) := by decide +kernel
theorem dX12_number_31 : decode cX12_number 31 = .ok (.iconst 0, 1) := by decide +kernel
theorem dX12_number_32 : decode cX12_number 32 = .ok (.istore 5, 2) := by decide +kernel
theorem dX12_number_34 : decode cX12_number 34 = .ok (.iconst 1, 1) := by decide +kernel
theorem dX12_number_35 : decode cX12_number 35 = .ok (.istore 6, 2) := by decide +kernel
theorem dX12_number_37 : decode cX12_number 37 = .ok (.iconst 1, 1) := by decide +kernel
theorem dX12_number_38 : decode cX12_number 38 = .ok (.istore 7, 2) := by decide +kernel
theorem dX12_number_40 : decode cX12_number 40 = .ok (.iload 7, 2) := by decide +kernel
theorem dX12_number_42 : decode cX12_number 42 = .ok (.iconst 4, 1) := by decide +kernel
theorem dX12_number_43 : decode cX12_number 43 = .ok (.if_icmp .gt 72, 3) := by decide +kernel
theorem dX12_number_46 : decode cX12_number 46 = .ok (.aload_n 0, 1) := by decide +kernel
theorem dX12_number_47 : decode cX12_number 47 = .ok (.iload 7, 2) := by decide +kernel
theorem dX12_number_49 : decode cX12_number 49 = .ok (.putfield 13, 3) := by decide +kernel
theorem dX12_number_52 : decode cX12_number 52 = .ok (.aload_n 0, 1) := by decide +kernel
theorem dX12_number_53 : decode cX12_number 53 = .ok (.invokevirtual 153, 3) := by decide +kernel
theorem dX12_number_56 : decode cX12_number 56 = .ok (.aload_n 0, 1) := by decide +kernel
theorem dX12_number_57 : decode cX12_number 57 = .ok (.iconst 0, 1) := by decide +kernel
theorem dX12_number_58 : decode cX12_number 58 = .ok (.iconst 0, 1) := by decide +kernel
theorem dX12_number_59 : decode cX12_number 59 = .ok (.iload_n 1, 1) := by decide +kernel
theorem dX12_number_60 : decode cX12_number 60 = .ok (.invokevirtual 410, 3) := by decide +kernel
theorem dX12_number_63 : decode cX12_number 63 = .ok (.iload 4, 2) := by decide +kernel
theorem dX12_number_65 : decode cX12_number 65 = .ok (.ifCond .le 28, 3) := by decide +kernel
theorem dX12_number_68 : decode cX12_number 68 = .ok (.aload_n 0, 1) := by decide +kernel
theorem dX12_number_69 : decode cX12_number 69 = .ok (.getfield 403, 3) := by decide +kernel
theorem dX12_number_72 : decode cX12_number 72 = .ok (.i2l, 1) := by decide +kernel
theorem dX12_number_73 : decode cX12_number 73 = .ok (.iload 6, 2) := by decide +kernel
theorem dX12_number_75 : decode cX12_number 75 = .ok (.i2l, 1) := by decide +kernel
theorem dX12_number_76 : decode cX12_number 76 = .ok (.lmul, 1) := by decide +kernel
theorem dX12_number_77 : decode cX12_number 77 = .ok (.iload 5, 2) := by decide +kernel
theorem dX12_number_79 : decode cX12_number 79 = .ok (.i2l, 1) := by decide +kernel
theorem dX12_number_80 : decode cX12_number 80 = .ok (.aload_n 0, 1) := by decide +kernel
theorem dX12_number_81 : decode cX12_number 81 = .ok (.getfield 400, 3) := by decide +kernel
theorem dX12_number_84 : decode cX12_number 84 = .ok (.i2l, 1) := by decide +kernel
theorem dX12_number_85 : decode cX12_number 85 = .ok (.lmul, 1) := by decide +kernel
theorem dX12_number_86 : decode cX12_number 86 = .ok (.lcmp, 1) := by decide +kernel
theorem dX12_number_87 : decode cX12_number 87 = .ok (.ifCond .gt 6, 3) := by decide +kernel
theorem dX12_number_90 : decode cX12_number 90 = .ok (.goto 19, 3) := by decide +kernel
theorem dX12_number_93 : decode cX12_number 93 = .ok (.iload 7, 2) := by decide +kernel
theorem dX12_number_95 : decode cX12_number 95 = .ok (.istore 4, 2) := by decide +kernel
theorem dX12_number_97 : decode cX12_number 97 = .ok (.aload_n 0, 1) := by decide +kernel
theorem dX12_number_98 : decode cX12_number 98 = .ok (.getfield 403, 3) := by decide +kernel
theorem dX12_number_101 : decode cX12_number 101 = .ok (.istore 5, 2) := by decide +kernel
theorem dX12_number_103 : decode cX12_number 103 = .ok (.aload_n 0, 1) := by decide +kernel
theorem dX12_number_104 : decode cX12_number 104 = .ok (.getfield 400, 3) := by decide +kernel
theorem dX12_number_107 : decode cX12_number 107 = .ok (.istore 6, 2) := by decide +kernel
theorem dX12_number_109 : decode cX12_number 109 = .ok (.iinc 7 1, 3) := by decide +kernel
theorem dX12_number_112 : decode cX12_number 112 = .ok (.goto (-72), 3) := by decide +kernel
theorem dX12_number_115 : decode cX12_number 115 = .ok (.aload_n 0, 1) := by decide +kernel
theorem dX12_number_116 : decode cX12_number 116 = .ok (.iload_n 3, 1) := by decide +kernel
theorem dX12_number_117 : decode cX12_number 117 = .ok (.putfield 13, 3) := by decide +kernel
theorem dX12_number_120 : decode cX12_number 120 = .ok (.aload_n 0, 1) := by decide +kernel
theorem dX12_number_121 : decode cX12_number 121 = .ok (.invokevirtual 153, 3) := by decide +kernel
theorem dX12_number_124 : decode cX12_number 124 = .ok (.iload 5, 2) := by decide +kernel
theorem dX12_number_126 : decode cX12_number 126 = .ok (.iload 6, 2) := by decide +kernel
theorem dX12_number_128 : decode cX12_number 128 = .ok (.invokestatic 414, 3) := by decide +kernel
theorem dX12_number_131 : decode cX12_number 131 = .ok (.istore 7, 2) := by decide +kernel
theorem dX12_number_133 : decode cX12_number 133 = .ok (.iload_n 2, 1) := by decide +kernel
theorem dX12_number_134 : decode cX12_number 134 = .ok (.ifCond .ne 8, 3) := by decide +kernel
theorem dX12_number_137 : decode cX12_number 137 = .ok (.iload 4, 2) := by decide +kernel
theorem dX12_number_139 : decode cX12_number 139 = .ok (.goto 21, 3) := by decide +kernel
theorem dX12_number_142 : decode cX12_number 142 = .ok (.iload_n 2, 1) := by decide +kernel
theorem dX12_number_143 : decode cX12_number 143 = .ok (.iconst 1, 1) := by decide +kernel
theorem dX12_number_144 : decode cX12_number 144 = .ok (.if_icmp .ne 11, 3) := by decide +kernel
theorem dX12_number_147 : decode cX12_number 147 = .ok (.iload 5, 2) := by decide +kernel
theorem dX12_number_149 : decode cX12_number 149 = .ok (.iload 7, 2) := by decide +kernel
theorem dX12_number_151 : decode cX12_number 151 = .ok (.idiv, 1) := by decide +kernel
theorem dX12_number_152 : decode cX12_number 152 = .ok (.goto 8, 3) := by decide +kernel
theorem dX12_number_155 : decode cX12_number 155 = .ok (.iload 6, 2) := by decide +kernel
theorem dX12_number_157 : decode cX12_number 157 = .ok (.iload 7, 2) := by decide +kernel
theorem dX12_number_159 : decode cX12_number 159 = .ok (.idiv, 1) := by decide +kernel
theorem dX12_number_160 : decode cX12_number 160 = .ok (.ireturn, 1) := by decide +kernel
theorem dX12_isDeed_0 : decode cX12_isDeed 0 = .ok (.iload_n 0, 1) := by decide +kernel
theorem dX12_isDeed_1 : decode cX12_isDeed 1 = .ok (.i2l, 1) := by decide +kernel
theorem dX12_isDeed_2 : decode cX12_isDeed 2 = .ok (.lconst 0, 1) := by decide +kernel
theorem dX12_isDeed_3 : decode cX12_isDeed 3 = .ok (.ldc2_w 469, 3) := by decide +kernel
theorem dX12_isDeed_6 : decode cX12_isDeed 6 = .ok (.invokestatic 140, 3) := by decide +kernel
theorem dX12_isDeed_9 : decode cX12_isDeed 9 = .ok (.ireturn, 1) := by decide +kernel
theorem dX12_deed_0 : decode cX12_deed 0 = .ok (.iload_n 1, 1) := by decide +kernel
theorem dX12_deed_1 : decode cX12_deed 1 = .ok (.invokestatic 471, 3) := by decide +kernel
theorem dX12_deed_4 : decode cX12_deed 4 = .ok (.ifCond .eq 15, 3) := by decide +kernel
theorem dX12_deed_7 : decode cX12_deed 7 = .ok (.iload_n 2, 1) := by decide +kernel
theorem dX12_deed_8 : decode cX12_deed 8 = .ok (.i2l, 1) := by decide +kernel
theorem dX12_deed_9 : decode cX12_deed 9 = .ok (.lconst 0, 1) := by decide +kernel
theorem dX12_deed_10 : decode cX12_deed 10 = .ok (.ldc2_w 149, 3) := by decide +kernel
theorem dX12_deed_13 : decode cX12_deed 13 = .ok (.invokestatic 140, 3) := by decide +kernel
theorem dX12_deed_16 : decode cX12_deed 16 = .ok (.ifCond .ne 5, 3) := by decide +kernel
theorem dX12_deed_19 : decode cX12_deed 19 = .ok (.iconst 0, 1) := by decide +kernel
theorem dX12_deed_20 : decode cX12_deed 20 = .ok (.ireturn, 1) := by decide +kernel
theorem dX12_deed_21 : decode cX12_deed 21 = .ok (.aload_n 0, 1) := by decide +kernel
theorem dX12_deed_22 : decode cX12_deed 22 = .ok (.getfield 135, 3) := by decide +kernel
theorem dX12_deed_25 : decode cX12_deed 25 = .ok (.iload_n 1, 1) := by decide +kernel
theorem dX12_deed_26 : decode cX12_deed 26 = .ok (.iload_n 2, 1) := by decide +kernel
theorem dX12_deed_27 : decode cX12_deed 27 = .ok (.iastore, 1) := by decide +kernel
theorem dX12_deed_28 : decode cX12_deed 28 = .ok (.iconst 1, 1) := by decide +kernel
theorem dX12_deed_29 : decode cX12_deed 29 = .ok (.ireturn, 1) := by decide +kernel
theorem dX12_isLawful_0 : decode cX12_isLawful 0 = .ok (.aload_n 0, 1) := by decide +kernel
theorem dX12_isLawful_1 : decode cX12_isLawful 1 = .ok (.getfield 135, 3) := by decide +kernel
theorem dX12_isLawful_4 : decode cX12_isLawful 4 = .ok (.iload_n 1, 1) := by decide +kernel
theorem dX12_isLawful_5 : decode cX12_isLawful 5 = .ok (.iaload, 1) := by decide +kernel
theorem dX12_isLawful_6 : decode cX12_isLawful 6 = .ok (.aload_n 0, 1) := by decide +kernel
theorem dX12_isLawful_7 : decode cX12_isLawful 7 = .ok (.getfield 332, 3) := by decide +kernel
theorem dX12_isLawful_10 : decode cX12_isLawful 10 = .ok (.iand, 1) := by decide +kernel
theorem dX12_isLawful_11 : decode cX12_isLawful 11 = .ok (.ifCond .ne 7, 3) := by decide +kernel
theorem dX12_isLawful_14 : decode cX12_isLawful 14 = .ok (.iconst 1, 1) := by decide +kernel
theorem dX12_isLawful_15 : decode cX12_isLawful 15 = .ok (.goto 4, 3) := by decide +kernel
theorem dX12_isLawful_18 : decode cX12_isLawful 18 = .ok (.iconst 0, 1) := by decide +kernel
theorem dX12_isLawful_19 : decode cX12_isLawful 19 = .ok (.ireturn, 1) := by decide +kernel
theorem dX12_lawful_0 : decode cX12_lawful 0 = .ok (.iload_n 1, 1) := by decide +kernel
theorem dX12_lawful_1 : decode cX12_lawful 1 = .ok (.invokestatic 471, 3) := by decide +kernel
theorem dX12_lawful_4 : decode cX12_lawful 4 = .ok (.ifCond .ne 5, 3) := by decide +kernel
theorem dX12_lawful_7 : decode cX12_lawful 7 = .ok (.iconst (-1), 1) := by decide +kernel
theorem dX12_lawful_8 : decode cX12_lawful 8 = .ok (.ireturn, 1) := by decide +kernel
theorem dX12_lawful_9 : decode cX12_lawful 9 = .ok (.aload_n 0, 1) := by decide +kernel
theorem dX12_lawful_10 : decode cX12_lawful 10 = .ok (.aload_n 0, 1) := by decide +kernel
theorem dX12_lawful_11 : decode cX12_lawful 11 = .ok (.getfield 158, 3) := by decide +kernel
theorem dX12_lawful_14 : decode cX12_lawful 14 = .ok (.invokevirtual 339, 3) := by decide +kernel
theorem dX12_lawful_17 : decode cX12_lawful 17 = .ok (.aload_n 0, 1) := by decide +kernel
theorem dX12_lawful_18 : decode cX12_lawful 18 = .ok (.iload_n 1, 1) := by decide +kernel
theorem dX12_lawful_19 : decode cX12_lawful 19 = .ok (.invokevirtual 474, 3) := by decide +kernel
theorem dX12_lawful_22 : decode cX12_lawful 22 = .ok (.ireturn, 1) := by decide +kernel
theorem dX12_fitsAll_0 : decode cX12_fitsAll 0 = .ok (.iconst 0, 1) := by decide +kernel
theorem dX12_fitsAll_1 : decode cX12_fitsAll 1 = .ok (.istore_n 2, 1) := by decide +kernel
theorem dX12_fitsAll_2 : decode cX12_fitsAll 2 = .ok (.iload_n 2, 1) := by decide +kernel
theorem dX12_fitsAll_3 : decode cX12_fitsAll 3 = .ok (.iload_n 1, 1) := by decide +kernel
theorem dX12_fitsAll_4 : decode cX12_fitsAll 4 = .ok (.if_icmp .ge 36, 3) := by decide +kernel
theorem dX12_fitsAll_7 : decode cX12_fitsAll 7 = .ok (.aload_n 0, 1) := by decide +kernel
theorem dX12_fitsAll_8 : decode cX12_fitsAll 8 = .ok (.aload_n 0, 1) := by decide +kernel
theorem dX12_fitsAll_9 : decode cX12_fitsAll 9 = .ok (.getfield 7, 3) := by decide +kernel
theorem dX12_fitsAll_12 : decode cX12_fitsAll 12 = .ok (.iconst 2, 1) := by decide +kernel
theorem dX12_fitsAll_13 : decode cX12_fitsAll 13 = .ok (.iload_n 2, 1) := by decide +kernel
theorem dX12_fitsAll_14 : decode cX12_fitsAll 14 = .ok (.imul, 1) := by decide +kernel
theorem dX12_fitsAll_15 : decode cX12_fitsAll 15 = .ok (.baload, 1) := by decide +kernel
theorem dX12_fitsAll_16 : decode cX12_fitsAll 16 = .ok (.invokevirtual 474, 3) := by decide +kernel
theorem dX12_fitsAll_19 : decode cX12_fitsAll 19 = .ok (.aload_n 0, 1) := by decide +kernel
theorem dX12_fitsAll_20 : decode cX12_fitsAll 20 = .ok (.getfield 7, 3) := by decide +kernel
theorem dX12_fitsAll_23 : decode cX12_fitsAll 23 = .ok (.iconst 2, 1) := by decide +kernel
theorem dX12_fitsAll_24 : decode cX12_fitsAll 24 = .ok (.iload_n 2, 1) := by decide +kernel
theorem dX12_fitsAll_25 : decode cX12_fitsAll 25 = .ok (.imul, 1) := by decide +kernel
theorem dX12_fitsAll_26 : decode cX12_fitsAll 26 = .ok (.iconst 1, 1) := by decide +kernel
theorem dX12_fitsAll_27 : decode cX12_fitsAll 27 = .ok (.iadd, 1) := by decide +kernel
theorem dX12_fitsAll_28 : decode cX12_fitsAll 28 = .ok (.baload, 1) := by decide +kernel
theorem dX12_fitsAll_29 : decode cX12_fitsAll 29 = .ok (.if_icmp .eq 5, 3) := by decide +kernel
theorem dX12_fitsAll_32 : decode cX12_fitsAll 32 = .ok (.iconst 0, 1) := by decide +kernel
theorem dX12_fitsAll_33 : decode cX12_fitsAll 33 = .ok (.ireturn, 1) := by decide +kernel
theorem dX12_fitsAll_34 : decode cX12_fitsAll 34 = .ok (.iinc 2 1, 3) := by decide +kernel
theorem dX12_fitsAll_37 : decode cX12_fitsAll 37 = .ok (.goto (-35), 3) := by decide +kernel
theorem dX12_fitsAll_40 : decode cX12_fitsAll 40 = .ok (.iconst 1, 1) := by decide +kernel
theorem dX12_fitsAll_41 : decode cX12_fitsAll 41 = .ok (.ireturn, 1) := by decide +kernel
theorem dX12_fits_0 : decode cX12_fits 0 = .ok (.iload_n 1, 1) := by decide +kernel
theorem dX12_fits_1 : decode cX12_fits 1 = .ok (.i2l, 1) := by decide +kernel
theorem dX12_fits_2 : decode cX12_fits 2 = .ok (.lconst 0, 1) := by decide +kernel
theorem dX12_fits_3 : decode cX12_fits 3 = .ok (.ldc2_w 406, 3) := by decide +kernel
theorem dX12_fits_6 : decode cX12_fits 6 = .ok (.invokestatic 140, 3) := by decide +kernel
theorem dX12_fits_9 : decode cX12_fits 9 = .ok (.ifCond .eq 25, 3) := by decide +kernel
theorem dX12_fits_12 : decode cX12_fits 12 = .ok (.iload_n 2, 1) := by decide +kernel
theorem dX12_fits_13 : decode cX12_fits 13 = .ok (.i2l, 1) := by decide +kernel
theorem dX12_fits_14 : decode cX12_fits 14 = .ok (.lconst 0, 1) := by decide +kernel
theorem dX12_fits_15 : decode cX12_fits 15 = .ok (.ldc2_w 467, 3) := by decide +kernel
theorem dX12_fits_18 : decode cX12_fits 18 = .ok (.invokestatic 140, 3) := by decide +kernel
theorem dX12_fits_21 : decode cX12_fits 21 = .ok (.ifCond .eq 13, 3) := by decide +kernel
theorem dX12_fits_24 : decode cX12_fits 24 = .ok (.iconst 2, 1) := by decide +kernel
theorem dX12_fits_25 : decode cX12_fits 25 = .ok (.iload_n 1, 1) := by decide +kernel
theorem dX12_fits_26 : decode cX12_fits 26 = .ok (.imul, 1) := by decide +kernel
theorem dX12_fits_27 : decode cX12_fits 27 = .ok (.aload_n 0, 1) := by decide +kernel
theorem dX12_fits_28 : decode cX12_fits 28 = .ok (.getfield 165, 3) := by decide +kernel
theorem dX12_fits_31 : decode cX12_fits 31 = .ok (.if_icmp .le 5, 3) := by decide +kernel
theorem dX12_fits_34 : decode cX12_fits 34 = .ok (.iconst (-1), 1) := by decide +kernel
theorem dX12_fits_35 : decode cX12_fits 35 = .ok (.ireturn, 1) := by decide +kernel
theorem dX12_fits_36 : decode cX12_fits 36 = .ok (.aload_n 0, 1) := by decide +kernel
theorem dX12_fits_37 : decode cX12_fits 37 = .ok (.iconst 0, 1) := by decide +kernel
theorem dX12_fits_38 : decode cX12_fits 38 = .ok (.putfield 165, 3) := by decide +kernel
theorem dX12_fits_41 : decode cX12_fits 41 = .ok (.iconst 0, 1) := by decide +kernel
theorem dX12_fits_42 : decode cX12_fits 42 = .ok (.istore_n 3, 1) := by decide +kernel
theorem dX12_fits_43 : decode cX12_fits 43 = .ok (.iload_n 3, 1) := by decide +kernel
theorem dX12_fits_44 : decode cX12_fits 44 = .ok (.iload_n 1, 1) := by decide +kernel
theorem dX12_fits_45 : decode cX12_fits 45 = .ok (.if_icmp .ge 45, 3) := by decide +kernel
theorem dX12_fits_48 : decode cX12_fits 48 = .ok (.aload_n 0, 1) := by decide +kernel
theorem dX12_fits_49 : decode cX12_fits 49 = .ok (.getfield 7, 3) := by decide +kernel
theorem dX12_fits_52 : decode cX12_fits 52 = .ok (.iconst 2, 1) := by decide +kernel
theorem dX12_fits_53 : decode cX12_fits 53 = .ok (.iload_n 3, 1) := by decide +kernel
theorem dX12_fits_54 : decode cX12_fits 54 = .ok (.imul, 1) := by decide +kernel
theorem dX12_fits_55 : decode cX12_fits 55 = .ok (.baload, 1) := by decide +kernel
theorem dX12_fits_56 : decode cX12_fits 56 = .ok (.invokestatic 471, 3) := by decide +kernel
theorem dX12_fits_59 : decode cX12_fits 59 = .ok (.ifCond .eq 22, 3) := by decide +kernel
theorem dX12_fits_62 : decode cX12_fits 62 = .ok (.aload_n 0, 1) := by decide +kernel
theorem dX12_fits_63 : decode cX12_fits 63 = .ok (.getfield 7, 3) := by decide +kernel
theorem dX12_fits_66 : decode cX12_fits 66 = .ok (.iconst 2, 1) := by decide +kernel
theorem dX12_fits_67 : decode cX12_fits 67 = .ok (.iload_n 3, 1) := by decide +kernel
theorem dX12_fits_68 : decode cX12_fits 68 = .ok (.imul, 1) := by decide +kernel
theorem dX12_fits_69 : decode cX12_fits 69 = .ok (.iconst 1, 1) := by decide +kernel
theorem dX12_fits_70 : decode cX12_fits 70 = .ok (.iadd, 1) := by decide +kernel
theorem dX12_fits_71 : decode cX12_fits 71 = .ok (.baload, 1) := by decide +kernel
theorem dX12_fits_72 : decode cX12_fits 72 = .ok (.i2l, 1) := by decide +kernel
theorem dX12_fits_73 : decode cX12_fits 73 = .ok (.lconst 0, 1) := by decide +kernel
theorem dX12_fits_74 : decode cX12_fits 74 = .ok (.lconst 1, 1) := by decide +kernel
theorem dX12_fits_75 : decode cX12_fits 75 = .ok (.invokestatic 140, 3) := by decide +kernel
theorem dX12_fits_78 : decode cX12_fits 78 = .ok (.ifCond .ne 6, 3) := by decide +kernel
theorem dX12_fits_81 : decode cX12_fits 81 = .ok (.bipush (-2), 2) := by decide +kernel
theorem dX12_fits_83 : decode cX12_fits 83 = .ok (.ireturn, 1) := by decide +kernel
theorem dX12_fits_84 : decode cX12_fits 84 = .ok (.iinc 3 1, 3) := by decide +kernel
theorem dX12_fits_87 : decode cX12_fits 87 = .ok (.goto (-44), 3) := by decide +kernel
theorem dX12_fits_90 : decode cX12_fits 90 = .ok (.iconst 0, 1) := by decide +kernel
theorem dX12_fits_91 : decode cX12_fits 91 = .ok (.istore_n 3, 1) := by decide +kernel
theorem dX12_fits_92 : decode cX12_fits 92 = .ok (.sipush 255, 3) := by decide +kernel
theorem dX12_fits_95 : decode cX12_fits 95 = .ok (.istore 4, 2) := by decide +kernel
theorem dX12_fits_97 : decode cX12_fits 97 = .ok (.iconst 0, 1) := by decide +kernel
theorem dX12_fits_98 : decode cX12_fits 98 = .ok (.istore 5, 2) := by decide +kernel
theorem dX12_fits_100 : decode cX12_fits 100 = .ok (.aload_n 0, 1) := by decide +kernel
theorem dX12_fits_101 : decode cX12_fits 101 = .ok (.getfield 13, 3) := by decide +kernel
theorem dX12_fits_104 : decode cX12_fits 104 = .ok (.iconst 4, 1) := by decide +kernel
theorem dX12_fits_105 : decode cX12_fits 105 = .ok (.if_icmp .ne 9, 3) := by decide +kernel
theorem dX12_fits_108 : decode cX12_fits 108 = .ok (.sipush 4681, 3) := by decide +kernel
theorem dX12_fits_111 : decode cX12_fits 111 = .ok (.goto 12, 3) := by decide +kernel
theorem dX12_fits_114 : decode cX12_fits 114 = .ok (.aload_n 0, 1) := by decide +kernel
theorem dX12_fits_115 : decode cX12_fits 115 = .ok (.getfield 13, 3) := by decide +kernel
theorem dX12_fits_118 : decode cX12_fits 118 = .ok (.iconst 1, 1) := by decide +kernel
theorem dX12_fits_119 : decode cX12_fits 119 = .ok (.iadd, 1) := by decide +kernel
theorem dX12_fits_120 : decode cX12_fits 120 = .ok (.invokestatic 326, 3) := by decide +kernel
theorem dX12_fits_123 : decode cX12_fits 123 = .ok (.istore 6, 2) := by decide +kernel
theorem dX12_fits_125 : decode cX12_fits 125 = .ok (.aload_n 0, 1) := by decide +kernel
theorem dX12_fits_126 : decode cX12_fits 126 = .ok (.getfield 13, 3) := by decide +kernel
theorem dX12_fits_129 : decode cX12_fits 129 = .ok (.invokestatic 326, 3) := by decide +kernel
theorem dX12_fits_132 : decode cX12_fits 132 = .ok (.istore 7, 2) := by decide +kernel
theorem dX12_fits_134 : decode cX12_fits 134 = .ok (.iload 7, 2) := by decide +kernel
theorem dX12_fits_136 : decode cX12_fits 136 = .ok (.iload 6, 2) := by decide +kernel
theorem dX12_fits_138 : decode cX12_fits 138 = .ok (.if_icmp .ge 50, 3) := by decide +kernel
theorem dX12_fits_141 : decode cX12_fits 141 = .ok (.aload_n 0, 1) := by decide +kernel
theorem dX12_fits_142 : decode cX12_fits 142 = .ok (.iload 7, 2) := by decide +kernel
theorem dX12_fits_144 : decode cX12_fits 144 = .ok (.invokevirtual 449, 3) := by decide +kernel
theorem dX12_fits_147 : decode cX12_fits 147 = .ok (.ifCond .eq 35, 3) := by decide +kernel
theorem dX12_fits_150 : decode cX12_fits 150 = .ok (.aload_n 0, 1) := by decide +kernel
theorem dX12_fits_151 : decode cX12_fits 151 = .ok (.iload_n 1, 1) := by decide +kernel
theorem dX12_fits_152 : decode cX12_fits 152 = .ok (.invokevirtual 477, 3) := by decide +kernel
theorem dX12_fits_155 : decode cX12_fits 155 = .ok (.ifCond .ne 6, 3) := by decide +kernel
theorem dX12_fits_158 : decode cX12_fits 158 = .ok (.goto 24, 3) := by decide +kernel
theorem dX12_fits_161 : decode cX12_fits 161 = .ok (.iinc 3 1, 3) := by decide +kernel
theorem dX12_fits_164 : decode cX12_fits 164 = .ok (.iload 4, 2) := by decide +kernel
theorem dX12_fits_166 : decode cX12_fits 166 = .ok (.aload_n 0, 1) := by decide +kernel
theorem dX12_fits_167 : decode cX12_fits 167 = .ok (.getfield 329, 3) := by decide +kernel
theorem dX12_fits_170 : decode cX12_fits 170 = .ok (.iand, 1) := by decide +kernel
theorem dX12_fits_171 : decode cX12_fits 171 = .ok (.istore 4, 2) := by decide +kernel
theorem dX12_fits_173 : decode cX12_fits 173 = .ok (.iload 5, 2) := by decide +kernel
theorem dX12_fits_175 : decode cX12_fits 175 = .ok (.aload_n 0, 1) := by decide +kernel
theorem dX12_fits_176 : decode cX12_fits 176 = .ok (.getfield 329, 3) := by decide +kernel
theorem dX12_fits_179 : decode cX12_fits 179 = .ok (.ior, 1) := by decide +kernel
theorem dX12_fits_180 : decode cX12_fits 180 = .ok (.istore 5, 2) := by decide +kernel
theorem dX12_fits_182 : decode cX12_fits 182 = .ok (.iinc 7 1, 3) := by decide +kernel
theorem dX12_fits_185 : decode cX12_fits 185 = .ok (.goto (-51), 3) := by decide +kernel
theorem dX12_fits_188 : decode cX12_fits 188 = .ok (.iload_n 2, 1) := by decide +kernel
theorem dX12_fits_189 : decode cX12_fits 189 = .ok (.ifCond .ne 5, 3) := by decide +kernel
theorem dX12_fits_192 : decode cX12_fits 192 = .ok (.iload_n 3, 1) := by decide +kernel
theorem dX12_fits_193 : decode cX12_fits 193 = .ok (.ireturn, 1) := by decide +kernel
theorem dX12_fits_194 : decode cX12_fits 194 = .ok (.iload_n 3, 1) := by decide +kernel
theorem dX12_fits_195 : decode cX12_fits 195 = .ok (.ifCond .ne 7, 3) := by decide +kernel
theorem dX12_fits_198 : decode cX12_fits 198 = .ok (.iconst 0, 1) := by decide +kernel
theorem dX12_fits_199 : decode cX12_fits 199 = .ok (.goto 26, 3) := by decide +kernel
theorem dX12_fits_202 : decode cX12_fits 202 = .ok (.iload_n 2, 1) := by decide +kernel
theorem dX12_fits_203 : decode cX12_fits 203 = .ok (.iconst 1, 1) := by decide +kernel
theorem dX12_fits_204 : decode cX12_fits 204 = .ok (.if_icmp .ne 8, 3) := by decide +kernel
theorem dX12_fits_207 : decode cX12_fits 207 = .ok (.iload 4, 2) := by decide +kernel
theorem dX12_fits_209 : decode cX12_fits 209 = .ok (.goto 16, 3) := by decide +kernel
theorem dX12_fits_212 : decode cX12_fits 212 = .ok (.iconst 1, 1) := by decide +kernel
theorem dX12_fits_213 : decode cX12_fits 213 = .ok (.aload_n 0, 1) := by decide +kernel
theorem dX12_fits_214 : decode cX12_fits 214 = .ok (.getfield 144, 3) := by decide +kernel
theorem dX12_fits_217 : decode cX12_fits 217 = .ok (.ishl, 1) := by decide +kernel
theorem dX12_fits_218 : decode cX12_fits 218 = .ok (.iconst 1, 1) := by decide +kernel
theorem dX12_fits_219 : decode cX12_fits 219 = .ok (.isub, 1) := by decide +kernel
theorem dX12_fits_220 : decode cX12_fits 220 = .ok (.iload 5, 2) := by decide +kernel
theorem dX12_fits_222 : decode cX12_fits 222 = .ok (.iconst (-1), 1) := by decide +kernel
theorem dX12_fits_223 : decode cX12_fits 223 = .ok (.ixor, 1) := by decide +kernel
theorem dX12_fits_224 : decode cX12_fits 224 = .ok (.iand, 1) := by decide +kernel
theorem dX12_fits_225 : decode cX12_fits 225 = .ok (.ireturn, 1) := by decide +kernel
theorem dX12_seed_0 : decode cX12_seed 0 = .ok (.iload_n 1, 1) := by decide +kernel
theorem dX12_seed_1 : decode cX12_seed 1 = .ok (.i2l, 1) := by decide +kernel
theorem dX12_seed_2 : decode cX12_seed 2 = .ok (.lconst 0, 1) := by decide +kernel
theorem dX12_seed_3 : decode cX12_seed 3 = .ok (.ldc2_w 480, 3) := by decide +kernel
theorem dX12_seed_6 : decode cX12_seed 6 = .ok (.invokestatic 140, 3) := by decide +kernel
theorem dX12_seed_9 : decode cX12_seed 9 = .ok (.ifCond .ne 5, 3) := by decide +kernel
theorem dX12_seed_12 : decode cX12_seed 12 = .ok (.iconst 0, 1) := by decide +kernel
theorem dX12_seed_13 : decode cX12_seed 13 = .ok (.ireturn, 1) := by decide +kernel
theorem dX12_seed_14 : decode cX12_seed 14 = .ok (.aload_n 0, 1) := by decide +kernel
theorem dX12_seed_15 : decode cX12_seed 15 = .ok (.iload_n 1, 1) := by decide +kernel
theorem dX12_seed_16 : decode cX12_seed 16 = .ok (.putfield 20, 3) := by decide +kernel
theorem dX12_seed_19 : decode cX12_seed 19 = .ok (.iconst 1, 1) := by decide +kernel
theorem dX12_seed_20 : decode cX12_seed 20 = .ok (.ireturn, 1) := by decide +kernel
theorem dX12_draw_0 : decode cX12_draw 0 = .ok (.iload_n 1, 1) := by decide +kernel
theorem dX12_draw_1 : decode cX12_draw 1 = .ok (.i2l, 1) := by decide +kernel
theorem dX12_draw_2 : decode cX12_draw 2 = .ok (.lconst 1, 1) := by decide +kernel
theorem dX12_draw_3 : decode cX12_draw 3 = .ok (.ldc2_w 482, 3) := by decide +kernel
theorem dX12_draw_6 : decode cX12_draw 6 = .ok (.invokestatic 140, 3) := by decide +kernel
theorem dX12_draw_9 : decode cX12_draw 9 = .ok (.ifCond .ne 5, 3) := by decide +kernel
theorem dX12_draw_12 : decode cX12_draw 12 = .ok (.iconst (-1), 1) := by decide +kernel
theorem dX12_draw_13 : decode cX12_draw 13 = .ok (.ireturn, 1) := by decide +kernel
theorem dX12_draw_14 : decode cX12_draw 14 = .ok (.iconst 0, 1) := by decide +kernel
theorem dX12_draw_15 : decode cX12_draw 15 = .ok (.istore_n 2, 1) := by decide +kernel
theorem dX12_draw_16 : decode cX12_draw 16 = .ok (.iconst 0, 1) := by decide +kernel
theorem dX12_draw_17 : decode cX12_draw 17 = .ok (.istore_n 3, 1) := by decide +kernel
theorem dX12_draw_18 : decode cX12_draw 18 = .ok (.iload_n 3, 1) := by decide +kernel
theorem dX12_draw_19 : decode cX12_draw 19 = .ok (.iload_n 1, 1) := by decide +kernel
theorem dX12_draw_20 : decode cX12_draw 20 = .ok (.if_icmp .ge 74, 3) := by decide +kernel
theorem dX12_draw_23 : decode cX12_draw 23 = .ok (.aload_n 0, 1) := by decide +kernel
theorem dX12_draw_24 : decode cX12_draw 24 = .ok (.sipush 25173, 3) := by decide +kernel
theorem dX12_draw_27 : decode cX12_draw 27 = .ok (.aload_n 0, 1) := by decide +kernel
theorem dX12_draw_28 : decode cX12_draw 28 = .ok (.getfield 20, 3) := by decide +kernel
theorem dX12_draw_31 : decode cX12_draw 31 = .ok (.imul, 1) := by decide +kernel
theorem dX12_draw_32 : decode cX12_draw 32 = .ok (.sipush 13849, 3) := by decide +kernel
theorem dX12_draw_35 : decode cX12_draw 35 = .ok (.iadd, 1) := by decide +kernel
theorem dX12_draw_36 : decode cX12_draw 36 = .ok (.ldc_w 484, 3) := by decide +kernel
theorem dX12_draw_39 : decode cX12_draw 39 = .ok (.irem, 1) := by decide +kernel
theorem dX12_draw_40 : decode cX12_draw 40 = .ok (.putfield 20, 3) := by decide +kernel
theorem dX12_draw_43 : decode cX12_draw 43 = .ok (.aload_n 0, 1) := by decide +kernel
theorem dX12_draw_44 : decode cX12_draw 44 = .ok (.aload_n 0, 1) := by decide +kernel
theorem dX12_draw_45 : decode cX12_draw 45 = .ok (.getfield 158, 3) := by decide +kernel
theorem dX12_draw_48 : decode cX12_draw 48 = .ok (.aload_n 0, 1) := by decide +kernel
theorem dX12_draw_49 : decode cX12_draw 49 = .ok (.getfield 20, 3) := by decide +kernel
theorem dX12_draw_52 : decode cX12_draw 52 = .ok (.iconst 4, 1) := by decide +kernel
theorem dX12_draw_53 : decode cX12_draw 53 = .ok (.irem, 1) := by decide +kernel
theorem dX12_draw_54 : decode cX12_draw 54 = .ok (.invokevirtual 385, 3) := by decide +kernel
theorem dX12_draw_57 : decode cX12_draw 57 = .ok (.istore 4, 2) := by decide +kernel
theorem dX12_draw_59 : decode cX12_draw 59 = .ok (.iload_n 2, 1) := by decide +kernel
theorem dX12_draw_60 : decode cX12_draw 60 = .ok (.iload 4, 2) := by decide +kernel
theorem dX12_draw_62 : decode cX12_draw 62 = .ok (.bipush 8, 2) := by decide +kernel
theorem dX12_draw_64 : decode cX12_draw 64 = .ok (.if_icmp .ge 7, 3) := by decide +kernel
theorem dX12_draw_67 : decode cX12_draw 67 = .ok (.iconst 1, 1) := by decide +kernel
theorem dX12_draw_68 : decode cX12_draw 68 = .ok (.goto 4, 3) := by decide +kernel
theorem dX12_draw_71 : decode cX12_draw 71 = .ok (.iconst 0, 1) := by decide +kernel
theorem dX12_draw_72 : decode cX12_draw 72 = .ok (.iadd, 1) := by decide +kernel
theorem dX12_draw_73 : decode cX12_draw 73 = .ok (.istore_n 2, 1) := by decide +kernel
theorem dX12_draw_74 : decode cX12_draw 74 = .ok (.aload_n 0, 1) := by decide +kernel
theorem dX12_draw_75 : decode cX12_draw 75 = .ok (.aload_n 0, 1) := by decide +kernel
theorem dX12_draw_76 : decode cX12_draw 76 = .ok (.getfield 20, 3) := by decide +kernel
theorem dX12_draw_79 : decode cX12_draw 79 = .ok (.iconst 4, 1) := by decide +kernel
theorem dX12_draw_80 : decode cX12_draw 80 = .ok (.irem, 1) := by decide +kernel
theorem dX12_draw_81 : decode cX12_draw 81 = .ok (.iload 4, 2) := by decide +kernel
theorem dX12_draw_83 : decode cX12_draw 83 = .ok (.invokevirtual 378, 3) := by decide +kernel
theorem dX12_draw_86 : decode cX12_draw 86 = .ok (.istore 5, 2) := by decide +kernel
theorem dX12_draw_88 : decode cX12_draw 88 = .ok (.iinc 3 1, 3) := by decide +kernel
theorem dX12_draw_91 : decode cX12_draw 91 = .ok (.goto (-73), 3) := by decide +kernel
theorem dX12_draw_94 : decode cX12_draw 94 = .ok (.iload_n 2, 1) := by decide +kernel
theorem dX12_draw_95 : decode cX12_draw 95 = .ok (.ireturn, 1) := by decide +kernel
theorem dX12_book_0 : decode cX12_book 0 = .ok (.iload_n 1, 1) := by decide +kernel
theorem dX12_book_1 : decode cX12_book 1 = .ok (.i2l, 1) := by decide +kernel
theorem dX12_book_2 : decode cX12_book 2 = .ok (.lconst 0, 1) := by decide +kernel
theorem dX12_book_3 : decode cX12_book 3 = .ok (.aload_n 0, 1) := by decide +kernel
theorem dX12_book_4 : decode cX12_book 4 = .ok (.getfield 372, 3) := by decide +kernel
theorem dX12_book_7 : decode cX12_book 7 = .ok (.iconst 1, 1) := by decide +kernel
theorem dX12_book_8 : decode cX12_book 8 = .ok (.isub, 1) := by decide +kernel
theorem dX12_book_9 : decode cX12_book 9 = .ok (.i2l, 1) := by decide +kernel
theorem dX12_book_10 : decode cX12_book 10 = .ok (.invokestatic 140, 3) := by decide +kernel
theorem dX12_book_13 : decode cX12_book 13 = .ok (.ifCond .ne 5, 3) := by decide +kernel
theorem dX12_book_16 : decode cX12_book 16 = .ok (.iconst (-1), 1) := by decide +kernel
theorem dX12_book_17 : decode cX12_book 17 = .ok (.ireturn, 1) := by decide +kernel
theorem dX12_book_18 : decode cX12_book 18 = .ok (.iload_n 2, 1) := by decide +kernel
theorem dX12_book_19 : decode cX12_book 19 = .ok (.ifCond .ne 12, 3) := by decide +kernel
theorem dX12_book_22 : decode cX12_book 22 = .ok (.aload_n 0, 1) := by decide +kernel
theorem dX12_book_23 : decode cX12_book 23 = .ok (.getfield 106, 3) := by decide +kernel
theorem dX12_book_26 : decode cX12_book 26 = .ok (.iload_n 1, 1) := by decide +kernel
theorem dX12_book_27 : decode cX12_book 27 = .ok (.iaload, 1) := by decide +kernel
theorem dX12_book_28 : decode cX12_book 28 = .ok (.goto 46, 3) := by decide +kernel
theorem dX12_book_31 : decode cX12_book 31 = .ok (.iload_n 2, 1) := by decide +kernel
theorem dX12_book_32 : decode cX12_book 32 = .ok (.iconst 1, 1) := by decide +kernel
theorem dX12_book_33 : decode cX12_book 33 = .ok (.if_icmp .ne 12, 3) := by decide +kernel
theorem dX12_book_36 : decode cX12_book 36 = .ok (.aload_n 0, 1) := by decide +kernel
theorem dX12_book_37 : decode cX12_book 37 = .ok (.getfield 109, 3) := by decide +kernel
theorem dX12_book_40 : decode cX12_book 40 = .ok (.iload_n 1, 1) := by decide +kernel
theorem dX12_book_41 : decode cX12_book 41 = .ok (.iaload, 1) := by decide +kernel
theorem dX12_book_42 : decode cX12_book 42 = .ok (.goto 32, 3) := by decide +kernel
theorem dX12_book_45 : decode cX12_book 45 = .ok (.iload_n 2, 1) := by decide +kernel
theorem dX12_book_46 : decode cX12_book 46 = .ok (.iconst 2, 1) := by decide +kernel
theorem dX12_book_47 : decode cX12_book 47 = .ok (.if_icmp .ne 12, 3) := by decide +kernel
theorem dX12_book_50 : decode cX12_book 50 = .ok (.aload_n 0, 1) := by decide +kernel
theorem dX12_book_51 : decode cX12_book 51 = .ok (.getfield 112, 3) := by decide +kernel
theorem dX12_book_54 : decode cX12_book 54 = .ok (.iload_n 1, 1) := by decide +kernel
theorem dX12_book_55 : decode cX12_book 55 = .ok (.iaload, 1) := by decide +kernel
theorem dX12_book_56 : decode cX12_book 56 = .ok (.goto 18, 3) := by decide +kernel
theorem dX12_book_59 : decode cX12_book 59 = .ok (.iload_n 2, 1) := by decide +kernel
theorem dX12_book_60 : decode cX12_book 60 = .ok (.iconst 3, 1) := by decide +kernel
theorem dX12_book_61 : decode cX12_book 61 = .ok (.if_icmp .ne 12, 3) := by decide +kernel
theorem dX12_book_64 : decode cX12_book 64 = .ok (.aload_n 0, 1) := by decide +kernel
theorem dX12_book_65 : decode cX12_book 65 = .ok (.getfield 115, 3) := by decide +kernel
theorem dX12_book_68 : decode cX12_book 68 = .ok (.iload_n 1, 1) := by decide +kernel
theorem dX12_book_69 : decode cX12_book 69 = .ok (.iaload, 1) := by decide +kernel
theorem dX12_book_70 : decode cX12_book 70 = .ok (.goto 4, 3) := by decide +kernel
theorem dX12_book_73 : decode cX12_book 73 = .ok (.iconst (-1), 1) := by decide +kernel
theorem dX12_book_74 : decode cX12_book 74 = .ok (.ireturn, 1) := by decide +kernel
theorem dX12_keep_0 : decode cX12_keep 0 = .ok (.aload_n 0, 1) := by decide +kernel
theorem dX12_keep_1 : decode cX12_keep 1 = .ok (.iconst 1, 1) := by decide +kernel
theorem dX12_keep_2 : decode cX12_keep 2 = .ok (.putfield 161, 3) := by decide +kernel
theorem dX12_keep_5 : decode cX12_keep 5 = .ok (.aload_n 0, 1) := by decide +kernel
theorem dX12_keep_6 : decode cX12_keep 6 = .ok (.aload_n 0, 1) := by decide +kernel
theorem dX12_keep_7 : decode cX12_keep 7 = .ok (.getfield 158, 3) := by decide +kernel
theorem dX12_keep_10 : decode cX12_keep 10 = .ok (.putfield 485, 3) := by decide +kernel
theorem dX12_keep_13 : decode cX12_keep 13 = .ok (.aload_n 0, 1) := by decide +kernel
theorem dX12_keep_14 : decode cX12_keep 14 = .ok (.aload_n 0, 1) := by decide +kernel
theorem dX12_keep_15 : decode cX12_keep 15 = .ok (.getfield 172, 3) := by decide +kernel
theorem dX12_keep_18 : decode cX12_keep 18 = .ok (.putfield 488, 3) := by decide +kernel
theorem dX12_keep_21 : decode cX12_keep 21 = .ok (.aload_n 0, 1) := by decide +kernel
theorem dX12_keep_22 : decode cX12_keep 22 = .ok (.aload_n 0, 1) := by decide +kernel
theorem dX12_keep_23 : decode cX12_keep 23 = .ok (.getfield 375, 3) := by decide +kernel
theorem dX12_keep_26 : decode cX12_keep 26 = .ok (.putfield 491, 3) := by decide +kernel
theorem dX12_keep_29 : decode cX12_keep 29 = .ok (.aload_n 0, 1) := by decide +kernel
theorem dX12_keep_30 : decode cX12_keep 30 = .ok (.aload_n 0, 1) := by decide +kernel
theorem dX12_keep_31 : decode cX12_keep 31 = .ok (.getfield 20, 3) := by decide +kernel
theorem dX12_keep_34 : decode cX12_keep 34 = .ok (.putfield 494, 3) := by decide +kernel
theorem dX12_keep_37 : decode cX12_keep 37 = .ok (.aload_n 0, 1) := by decide +kernel
theorem dX12_keep_38 : decode cX12_keep 38 = .ok (.aload_n 0, 1) := by decide +kernel
theorem dX12_keep_39 : decode cX12_keep 39 = .ok (.getfield 372, 3) := by decide +kernel
theorem dX12_keep_42 : decode cX12_keep 42 = .ok (.putfield 497, 3) := by decide +kernel
theorem dX12_keep_45 : decode cX12_keep 45 = .ok (.aload_n 0, 1) := by decide +kernel
theorem dX12_keep_46 : decode cX12_keep 46 = .ok (.getfield 158, 3) := by decide +kernel
theorem dX12_keep_49 : decode cX12_keep 49 = .ok (.invokestatic 323, 3) := by decide +kernel
theorem dX12_keep_52 : decode cX12_keep 52 = .ok (.ireturn, 1) := by decide +kernel
theorem dX12_undo_0 : decode cX12_undo 0 = .ok (.aload_n 0, 1) := by decide +kernel
theorem dX12_undo_1 : decode cX12_undo 1 = .ok (.getfield 161, 3) := by decide +kernel
theorem dX12_undo_4 : decode cX12_undo 4 = .ok (.ifCond .ne 5, 3) := by decide +kernel
theorem dX12_undo_7 : decode cX12_undo 7 = .ok (.iconst 0, 1) := by decide +kernel
theorem dX12_undo_8 : decode cX12_undo 8 = .ok (.ireturn, 1) := by decide +kernel
theorem dX12_undo_9 : decode cX12_undo 9 = .ok (.aload_n 0, 1) := by decide +kernel
theorem dX12_undo_10 : decode cX12_undo 10 = .ok (.aload_n 0, 1) := by decide +kernel
theorem dX12_undo_11 : decode cX12_undo 11 = .ok (.getfield 485, 3) := by decide +kernel
theorem dX12_undo_14 : decode cX12_undo 14 = .ok (.putfield 158, 3) := by decide +kernel
theorem dX12_undo_17 : decode cX12_undo 17 = .ok (.aload_n 0, 1) := by decide +kernel
theorem dX12_undo_18 : decode cX12_undo 18 = .ok (.aload_n 0, 1) := by decide +kernel
theorem dX12_undo_19 : decode cX12_undo 19 = .ok (.getfield 488, 3) := by decide +kernel
theorem dX12_undo_22 : decode cX12_undo 22 = .ok (.putfield 172, 3) := by decide +kernel
theorem dX12_undo_25 : decode cX12_undo 25 = .ok (.aload_n 0, 1) := by decide +kernel
theorem dX12_undo_26 : decode cX12_undo 26 = .ok (.aload_n 0, 1) := by decide +kernel
theorem dX12_undo_27 : decode cX12_undo 27 = .ok (.getfield 491, 3) := by decide +kernel
theorem dX12_undo_30 : decode cX12_undo 30 = .ok (.putfield 375, 3) := by decide +kernel
theorem dX12_undo_33 : decode cX12_undo 33 = .ok (.aload_n 0, 1) := by decide +kernel
theorem dX12_undo_34 : decode cX12_undo 34 = .ok (.aload_n 0, 1) := by decide +kernel
theorem dX12_undo_35 : decode cX12_undo 35 = .ok (.getfield 494, 3) := by decide +kernel
theorem dX12_undo_38 : decode cX12_undo 38 = .ok (.putfield 20, 3) := by decide +kernel
theorem dX12_undo_41 : decode cX12_undo 41 = .ok (.aload_n 0, 1) := by decide +kernel
theorem dX12_undo_42 : decode cX12_undo 42 = .ok (.aload_n 0, 1) := by decide +kernel
theorem dX12_undo_43 : decode cX12_undo 43 = .ok (.getfield 497, 3) := by decide +kernel
theorem dX12_undo_46 : decode cX12_undo 46 = .ok (.putfield 372, 3) := by decide +kernel
theorem dX12_undo_49 : decode cX12_undo 49 = .ok (.iconst 1, 1) := by decide +kernel
theorem dX12_undo_50 : decode cX12_undo 50 = .ok (.ireturn, 1) := by decide +kernel
theorem dX12_numberAt_0 : decode cX12_numberAt 0 = .ok (.iconst 0, 1) := by decide +kernel
theorem dX12_numberAt_1 : decode cX12_numberAt 1 = .ok (.istore_n 2, 1) := by decide +kernel
theorem dX12_numberAt_2 : decode cX12_numberAt 2 = .ok (.iconst 0, 1) := by decide +kernel
theorem dX12_numberAt_3 : decode cX12_numberAt 3 = .ok (.istore_n 3, 1) := by decide +kernel
theorem dX12_numberAt_4 : decode cX12_numberAt 4 = .ok (.iload_n 3, 1) := by decide +kernel
theorem dX12_numberAt_5 : decode cX12_numberAt 5 = .ok (.iconst 4, 1) := by decide +kernel
theorem dX12_numberAt_6 : decode cX12_numberAt 6 = .ok (.if_icmp .ge 29, 3) := by decide +kernel
theorem dX12_numberAt_9 : decode cX12_numberAt 9 = .ok (.iload_n 2, 1) := by decide +kernel
theorem dX12_numberAt_10 : decode cX12_numberAt 10 = .ok (.bipush 8, 2) := by decide +kernel
theorem dX12_numberAt_12 : decode cX12_numberAt 12 = .ok (.ishl, 1) := by decide +kernel
theorem dX12_numberAt_13 : decode cX12_numberAt 13 = .ok (.aload_n 0, 1) := by decide +kernel
theorem dX12_numberAt_14 : decode cX12_numberAt 14 = .ok (.getfield 7, 3) := by decide +kernel
theorem dX12_numberAt_17 : decode cX12_numberAt 17 = .ok (.iconst 4, 1) := by decide +kernel
theorem dX12_numberAt_18 : decode cX12_numberAt 18 = .ok (.iload_n 1, 1) := by decide +kernel
theorem dX12_numberAt_19 : decode cX12_numberAt 19 = .ok (.imul, 1) := by decide +kernel
theorem dX12_numberAt_20 : decode cX12_numberAt 20 = .ok (.iload_n 3, 1) := by decide +kernel
theorem dX12_numberAt_21 : decode cX12_numberAt 21 = .ok (.iadd, 1) := by decide +kernel
theorem dX12_numberAt_22 : decode cX12_numberAt 22 = .ok (.baload, 1) := by decide +kernel
theorem dX12_numberAt_23 : decode cX12_numberAt 23 = .ok (.sipush 255, 3) := by decide +kernel
theorem dX12_numberAt_26 : decode cX12_numberAt 26 = .ok (.iand, 1) := by decide +kernel
theorem dX12_numberAt_27 : decode cX12_numberAt 27 = .ok (.ior, 1) := by decide +kernel
theorem dX12_numberAt_28 : decode cX12_numberAt 28 = .ok (.istore_n 2, 1) := by decide +kernel
theorem dX12_numberAt_29 : decode cX12_numberAt 29 = .ok (.iinc 3 1, 3) := by decide +kernel
theorem dX12_numberAt_32 : decode cX12_numberAt 32 = .ok (.goto (-28), 3) := by decide +kernel
theorem dX12_numberAt_35 : decode cX12_numberAt 35 = .ok (.iload_n 2, 1) := by decide +kernel
theorem dX12_numberAt_36 : decode cX12_numberAt 36 = .ok (.ireturn, 1) := by decide +kernel
theorem dX12_check_0 : decode cX12_check 0 = .ok (.iload_n 1, 1) := by decide +kernel
theorem dX12_check_1 : decode cX12_check 1 = .ok (.ifCond .lt 14, 3) := by decide +kernel
theorem dX12_check_4 : decode cX12_check 4 = .ok (.iload_n 1, 1) := by decide +kernel
theorem dX12_check_5 : decode cX12_check 5 = .ok (.aload_n 0, 1) := by decide +kernel
theorem dX12_check_6 : decode cX12_check 6 = .ok (.getfield 165, 3) := by decide +kernel
theorem dX12_check_9 : decode cX12_check 9 = .ok (.bipush 12, 2) := by decide +kernel
theorem dX12_check_11 : decode cX12_check 11 = .ok (.idiv, 1) := by decide +kernel
theorem dX12_check_12 : decode cX12_check 12 = .ok (.if_icmp .le 6, 3) := by decide +kernel
theorem dX12_check_15 : decode cX12_check 15 = .ok (.bipush (-2), 2) := by decide +kernel
theorem dX12_check_17 : decode cX12_check 17 = .ok (.ireturn, 1) := by decide +kernel
theorem dX12_check_18 : decode cX12_check 18 = .ok (.aload_n 0, 1) := by decide +kernel
theorem dX12_check_19 : decode cX12_check 19 = .ok (.iconst 0, 1) := by decide +kernel
theorem dX12_check_20 : decode cX12_check 20 = .ok (.putfield 165, 3) := by decide +kernel
theorem dX12_check_23 : decode cX12_check 23 = .ok (.iconst 0, 1) := by decide +kernel
theorem dX12_check_24 : decode cX12_check 24 = .ok (.istore_n 2, 1) := by decide +kernel
theorem dX12_check_25 : decode cX12_check 25 = .ok (.iload_n 2, 1) := by decide +kernel
theorem dX12_check_26 : decode cX12_check 26 = .ok (.aload_n 0, 1) := by decide +kernel
theorem dX12_check_27 : decode cX12_check 27 = .ok (.getfield 372, 3) := by decide +kernel
theorem dX12_check_30 : decode cX12_check 30 = .ok (.if_icmp .ge 55, 3) := by decide +kernel
theorem dX12_check_33 : decode cX12_check 33 = .ok (.iload_n 2, 1) := by decide +kernel
theorem dX12_check_34 : decode cX12_check 34 = .ok (.iload_n 1, 1) := by decide +kernel
theorem dX12_check_35 : decode cX12_check 35 = .ok (.if_icmp .ne 7, 3) := by decide +kernel
theorem dX12_check_38 : decode cX12_check 38 = .ok (.iconst 3, 1) := by decide +kernel
theorem dX12_check_39 : decode cX12_check 39 = .ok (.iload_n 1, 1) := by decide +kernel
theorem dX12_check_40 : decode cX12_check 40 = .ok (.imul, 1) := by decide +kernel
theorem dX12_check_41 : decode cX12_check 41 = .ok (.ireturn, 1) := by decide +kernel
theorem dX12_check_42 : decode cX12_check 42 = .ok (.iconst 0, 1) := by decide +kernel
theorem dX12_check_43 : decode cX12_check 43 = .ok (.istore_n 3, 1) := by decide +kernel
theorem dX12_check_44 : decode cX12_check 44 = .ok (.iload_n 3, 1) := by decide +kernel
theorem dX12_check_45 : decode cX12_check 45 = .ok (.iconst 3, 1) := by decide +kernel
theorem dX12_check_46 : decode cX12_check 46 = .ok (.if_icmp .ge 33, 3) := by decide +kernel
theorem dX12_check_49 : decode cX12_check 49 = .ok (.aload_n 0, 1) := by decide +kernel
theorem dX12_check_50 : decode cX12_check 50 = .ok (.iconst 3, 1) := by decide +kernel
theorem dX12_check_51 : decode cX12_check 51 = .ok (.iload_n 2, 1) := by decide +kernel
theorem dX12_check_52 : decode cX12_check 52 = .ok (.imul, 1) := by decide +kernel
theorem dX12_check_53 : decode cX12_check 53 = .ok (.iload_n 3, 1) := by decide +kernel
theorem dX12_check_54 : decode cX12_check 54 = .ok (.iadd, 1) := by decide +kernel
theorem dX12_check_55 : decode cX12_check 55 = .ok (.invokevirtual 500, 3) := by decide +kernel
theorem dX12_check_58 : decode cX12_check 58 = .ok (.aload_n 0, 1) := by decide +kernel
theorem dX12_check_59 : decode cX12_check 59 = .ok (.iload_n 2, 1) := by decide +kernel
theorem dX12_check_60 : decode cX12_check 60 = .ok (.iload_n 3, 1) := by decide +kernel
theorem dX12_check_61 : decode cX12_check 61 = .ok (.invokevirtual 503, 3) := by decide +kernel
theorem dX12_check_64 : decode cX12_check 64 = .ok (.if_icmp .eq 9, 3) := by decide +kernel
theorem dX12_check_67 : decode cX12_check 67 = .ok (.iconst 3, 1) := by decide +kernel
theorem dX12_check_68 : decode cX12_check 68 = .ok (.iload_n 2, 1) := by decide +kernel
theorem dX12_check_69 : decode cX12_check 69 = .ok (.imul, 1) := by decide +kernel
theorem dX12_check_70 : decode cX12_check 70 = .ok (.iload_n 3, 1) := by decide +kernel
theorem dX12_check_71 : decode cX12_check 71 = .ok (.iadd, 1) := by decide +kernel
theorem dX12_check_72 : decode cX12_check 72 = .ok (.ireturn, 1) := by decide +kernel
theorem dX12_check_73 : decode cX12_check 73 = .ok (.iinc 3 1, 3) := by decide +kernel
theorem dX12_check_76 : decode cX12_check 76 = .ok (.goto (-32), 3) := by decide +kernel
theorem dX12_check_79 : decode cX12_check 79 = .ok (.iinc 2 1, 3) := by decide +kernel
theorem dX12_check_82 : decode cX12_check 82 = .ok (.goto (-57), 3) := by decide +kernel
theorem dX12_check_85 : decode cX12_check 85 = .ok (.iload_n 1, 1) := by decide +kernel
theorem dX12_check_86 : decode cX12_check 86 = .ok (.aload_n 0, 1) := by decide +kernel
theorem dX12_check_87 : decode cX12_check 87 = .ok (.getfield 372, 3) := by decide +kernel
theorem dX12_check_90 : decode cX12_check 90 = .ok (.if_icmp .ne 7, 3) := by decide +kernel
theorem dX12_check_93 : decode cX12_check 93 = .ok (.iconst (-1), 1) := by decide +kernel
theorem dX12_check_94 : decode cX12_check 94 = .ok (.goto 9, 3) := by decide +kernel
theorem dX12_check_97 : decode cX12_check 97 = .ok (.iconst 3, 1) := by decide +kernel
theorem dX12_check_98 : decode cX12_check 98 = .ok (.aload_n 0, 1) := by decide +kernel
theorem dX12_check_99 : decode cX12_check 99 = .ok (.getfield 372, 3) := by decide +kernel
theorem dX12_check_102 : decode cX12_check 102 = .ok (.imul, 1) := by decide +kernel
theorem dX12_check_103 : decode cX12_check 103 = .ok (.ireturn, 1) := by decide +kernel
theorem dX12_count_0 : decode cX12_count 0 = .ok (.iload_n 1, 1) := by decide +kernel
theorem dX12_count_1 : decode cX12_count 1 = .ok (.bipush 10, 2) := by decide +kernel
theorem dX12_count_3 : decode cX12_count 3 = .ok (.isub, 1) := by decide +kernel
theorem dX12_count_4 : decode cX12_count 4 = .ok (.i2l, 1) := by decide +kernel
theorem dX12_count_5 : decode cX12_count 5 = .ok (.lconst 0, 1) := by decide +kernel
theorem dX12_count_6 : decode cX12_count 6 = .ok (.aload_n 0, 1) := by decide +kernel
theorem dX12_count_7 : decode cX12_count 7 = .ok (.getfield 17, 3) := by decide +kernel
theorem dX12_count_10 : decode cX12_count 10 = .ok (.iconst 1, 1) := by decide +kernel
theorem dX12_count_11 : decode cX12_count 11 = .ok (.isub, 1) := by decide +kernel
theorem dX12_count_12 : decode cX12_count 12 = .ok (.i2l, 1) := by decide +kernel
theorem dX12_count_13 : decode cX12_count 13 = .ok (.invokestatic 140, 3) := by decide +kernel
theorem dX12_count_16 : decode cX12_count 16 = .ok (.ifCond .eq 13, 3) := by decide +kernel
theorem dX12_count_19 : decode cX12_count 19 = .ok (.aload_n 0, 1) := by decide +kernel
theorem dX12_count_20 : decode cX12_count 20 = .ok (.getfield 36, 3) := by decide +kernel
theorem dX12_count_23 : decode cX12_count 23 = .ok (.iload_n 1, 1) := by decide +kernel
theorem dX12_count_24 : decode cX12_count 24 = .ok (.bipush 10, 2) := by decide +kernel
theorem dX12_count_26 : decode cX12_count 26 = .ok (.isub, 1) := by decide +kernel
theorem dX12_count_27 : decode cX12_count 27 = .ok (.iaload, 1) := by decide +kernel
theorem dX12_count_28 : decode cX12_count 28 = .ok (.ireturn, 1) := by decide +kernel
theorem dX12_count_29 : decode cX12_count 29 = .ok (.iload_n 1, 1) := by decide +kernel
theorem dX12_count_30 : decode cX12_count 30 = .ok (.tableswitch 98 0 8 #[50, 55, 63, 68, 73, 78, 83, 88, 93], 50) := by decide +kernel
theorem dX12_count_80 : decode cX12_count 80 = .ok (.aload_n 0, 1) := by decide +kernel
theorem dX12_count_81 : decode cX12_count 81 = .ok (.getfield 144, 3) := by decide +kernel
theorem dX12_count_84 : decode cX12_count 84 = .ok (.ireturn, 1) := by decide +kernel
theorem dX12_count_85 : decode cX12_count 85 = .ok (.aload_n 0, 1) := by decide +kernel
theorem dX12_count_86 : decode cX12_count 86 = .ok (.getfield 158, 3) := by decide +kernel
theorem dX12_count_89 : decode cX12_count 89 = .ok (.invokestatic 323, 3) := by decide +kernel
theorem dX12_count_92 : decode cX12_count 92 = .ok (.ireturn, 1) := by decide +kernel
theorem dX12_count_93 : decode cX12_count 93 = .ok (.aload_n 0, 1) := by decide +kernel
theorem dX12_count_94 : decode cX12_count 94 = .ok (.getfield 13, 3) := by decide +kernel
theorem dX12_count_97 : decode cX12_count 97 = .ok (.ireturn, 1) := by decide +kernel
theorem dX12_count_98 : decode cX12_count 98 = .ok (.aload_n 0, 1) := by decide +kernel
theorem dX12_count_99 : decode cX12_count 99 = .ok (.getfield 288, 3) := by decide +kernel
theorem dX12_count_102 : decode cX12_count 102 = .ok (.ireturn, 1) := by decide +kernel
theorem dX12_count_103 : decode cX12_count 103 = .ok (.aload_n 0, 1) := by decide +kernel
theorem dX12_count_104 : decode cX12_count 104 = .ok (.getfield 165, 3) := by decide +kernel
theorem dX12_count_107 : decode cX12_count 107 = .ok (.ireturn, 1) := by decide +kernel
theorem dX12_count_108 : decode cX12_count 108 = .ok (.aload_n 0, 1) := by decide +kernel
theorem dX12_count_109 : decode cX12_count 109 = .ok (.getfield 20, 3) := by decide +kernel
theorem dX12_count_112 : decode cX12_count 112 = .ok (.ireturn, 1) := by decide +kernel
theorem dX12_count_113 : decode cX12_count 113 = .ok (.aload_n 0, 1) := by decide +kernel
theorem dX12_count_114 : decode cX12_count 114 = .ok (.getfield 375, 3) := by decide +kernel
theorem dX12_count_117 : decode cX12_count 117 = .ok (.ireturn, 1) := by decide +kernel
theorem dX12_count_118 : decode cX12_count 118 = .ok (.aload_n 0, 1) := by decide +kernel
theorem dX12_count_119 : decode cX12_count 119 = .ok (.getfield 172, 3) := by decide +kernel
theorem dX12_count_122 : decode cX12_count 122 = .ok (.ireturn, 1) := by decide +kernel
theorem dX12_count_123 : decode cX12_count 123 = .ok (.aload_n 0, 1) := by decide +kernel
theorem dX12_count_124 : decode cX12_count 124 = .ok (.getfield 372, 3) := by decide +kernel
theorem dX12_count_127 : decode cX12_count 127 = .ok (.ireturn, 1) := by decide +kernel
theorem dX12_count_128 : decode cX12_count 128 = .ok (.iconst (-1), 1) := by decide +kernel
theorem dX12_count_129 : decode cX12_count 129 = .ok (.ireturn, 1) := by decide +kernel
theorem dX6_listAll_0 : decode cX6_listAll 0 = .ok (.iload_n 1, 1) := by decide +kernel
theorem dX6_listAll_1 : decode cX6_listAll 1 = .ok (.invokestatic 22, 3) := by decide +kernel
theorem dX6_listAll_4 : decode cX6_listAll 4 = .ok (.istore_n 2, 1) := by decide +kernel
theorem dX6_listAll_5 : decode cX6_listAll 5 = .ok (.iload_n 1, 1) := by decide +kernel
theorem dX6_listAll_6 : decode cX6_listAll 6 = .ok (.iconst 1, 1) := by decide +kernel
theorem dX6_listAll_7 : decode cX6_listAll 7 = .ok (.iadd, 1) := by decide +kernel
theorem dX6_listAll_8 : decode cX6_listAll 8 = .ok (.invokestatic 22, 3) := by decide +kernel
theorem dX6_listAll_11 : decode cX6_listAll 11 = .ok (.istore_n 3, 1) := by decide +kernel
theorem dX6_listAll_12 : decode cX6_listAll 12 = .ok (.iload_n 2, 1) := by decide +kernel
theorem dX6_listAll_13 : decode cX6_listAll 13 = .ok (.istore 4, 2) := by decide +kernel
theorem dX6_listAll_15 : decode cX6_listAll 15 = .ok (.iload 4, 2) := by decide +kernel
theorem dX6_listAll_17 : decode cX6_listAll 17 = .ok (.iload_n 3, 1) := by decide +kernel
theorem dX6_listAll_18 : decode cX6_listAll 18 = .ok (.if_icmp .ge 168, 3) := by decide +kernel
theorem dX6_listAll_21 : decode cX6_listAll 21 = .ok (.iload 4, 2) := by decide +kernel
theorem dX6_listAll_23 : decode cX6_listAll 23 = .ok (.sipush 5348, 3) := by decide +kernel
theorem dX6_listAll_26 : decode cX6_listAll 26 = .ok (.if_icmp .ge 160, 3) := by decide +kernel
theorem dX6_listAll_29 : decode cX6_listAll 29 = .ok (.iconst 0, 1) := by decide +kernel
theorem dX6_listAll_30 : decode cX6_listAll 30 = .ok (.istore 5, 2) := by decide +kernel
theorem dX6_listAll_32 : decode cX6_listAll 32 = .ok (.iconst 0, 1) := by decide +kernel
theorem dX6_listAll_33 : decode cX6_listAll 33 = .ok (.istore 6, 2) := by decide +kernel
theorem dX6_listAll_35 : decode cX6_listAll 35 = .ok (.bipush 8, 2) := by decide +kernel
theorem dX6_listAll_37 : decode cX6_listAll 37 = .ok (.istore 7, 2) := by decide +kernel
theorem dX6_listAll_39 : decode cX6_listAll 39 = .ok (.iload 4, 2) := by decide +kernel
theorem dX6_listAll_41 : decode cX6_listAll 41 = .ok (.iload_n 2, 1) := by decide +kernel
theorem dX6_listAll_42 : decode cX6_listAll 42 = .ok (.if_icmp .le 69, 3) := by decide +kernel
theorem dX6_listAll_45 : decode cX6_listAll 45 = .ok (.iload 4, 2) := by decide +kernel
theorem dX6_listAll_47 : decode cX6_listAll 47 = .ok (.iload_n 2, 1) := by decide +kernel
theorem dX6_listAll_48 : decode cX6_listAll 48 = .ok (.isub, 1) := by decide +kernel
theorem dX6_listAll_49 : decode cX6_listAll 49 = .ok (.iconst 1, 1) := by decide +kernel
theorem dX6_listAll_50 : decode cX6_listAll 50 = .ok (.isub, 1) := by decide +kernel
theorem dX6_listAll_51 : decode cX6_listAll 51 = .ok (.bipush 8, 2) := by decide +kernel
theorem dX6_listAll_53 : decode cX6_listAll 53 = .ok (.irem, 1) := by decide +kernel
theorem dX6_listAll_54 : decode cX6_listAll 54 = .ok (.istore 8, 2) := by decide +kernel
theorem dX6_listAll_56 : decode cX6_listAll 56 = .ok (.iload_n 2, 1) := by decide +kernel
theorem dX6_listAll_57 : decode cX6_listAll 57 = .ok (.iload 4, 2) := by decide +kernel
theorem dX6_listAll_59 : decode cX6_listAll 59 = .ok (.iload_n 2, 1) := by decide +kernel
theorem dX6_listAll_60 : decode cX6_listAll 60 = .ok (.isub, 1) := by decide +kernel
theorem dX6_listAll_61 : decode cX6_listAll 61 = .ok (.iconst 1, 1) := by decide +kernel
theorem dX6_listAll_62 : decode cX6_listAll 62 = .ok (.isub, 1) := by decide +kernel
theorem dX6_listAll_63 : decode cX6_listAll 63 = .ok (.bipush 8, 2) := by decide +kernel
theorem dX6_listAll_65 : decode cX6_listAll 65 = .ok (.idiv, 1) := by decide +kernel
theorem dX6_listAll_66 : decode cX6_listAll 66 = .ok (.iadd, 1) := by decide +kernel
theorem dX6_listAll_67 : decode cX6_listAll 67 = .ok (.istore 9, 2) := by decide +kernel
theorem dX6_listAll_69 : decode cX6_listAll 69 = .ok (.aload_n 0, 1) := by decide +kernel
theorem dX6_listAll_70 : decode cX6_listAll 70 = .ok (.iload 9, 2) := by decide +kernel
theorem dX6_listAll_72 : decode cX6_listAll 72 = .ok (.invokevirtual 26, 3) := by decide +kernel
theorem dX6_listAll_75 : decode cX6_listAll 75 = .ok (.iconst 1, 1) := by decide +kernel
theorem dX6_listAll_76 : decode cX6_listAll 76 = .ok (.iadd, 1) := by decide +kernel
theorem dX6_listAll_77 : decode cX6_listAll 77 = .ok (.istore 5, 2) := by decide +kernel
theorem dX6_listAll_79 : decode cX6_listAll 79 = .ok (.aload_n 0, 1) := by decide +kernel
theorem dX6_listAll_80 : decode cX6_listAll 80 = .ok (.iload 9, 2) := by decide +kernel
theorem dX6_listAll_82 : decode cX6_listAll 82 = .ok (.invokevirtual 29, 3) := by decide +kernel
theorem dX6_listAll_85 : decode cX6_listAll 85 = .ok (.iconst 1, 1) := by decide +kernel
theorem dX6_listAll_86 : decode cX6_listAll 86 = .ok (.iload 8, 2) := by decide +kernel
theorem dX6_listAll_88 : decode cX6_listAll 88 = .ok (.ishl, 1) := by decide +kernel
theorem dX6_listAll_89 : decode cX6_listAll 89 = .ok (.ior, 1) := by decide +kernel
theorem dX6_listAll_90 : decode cX6_listAll 90 = .ok (.istore 6, 2) := by decide +kernel
theorem dX6_listAll_92 : decode cX6_listAll 92 = .ok (.iload 9, 2) := by decide +kernel
theorem dX6_listAll_94 : decode cX6_listAll 94 = .ok (.iload_n 2, 1) := by decide +kernel
theorem dX6_listAll_95 : decode cX6_listAll 95 = .ok (.if_icmp .ne 8, 3) := by decide +kernel
theorem dX6_listAll_98 : decode cX6_listAll 98 = .ok (.iload 8, 2) := by decide +kernel
theorem dX6_listAll_100 : decode cX6_listAll 100 = .ok (.goto 9, 3) := by decide +kernel
theorem dX6_listAll_103 : decode cX6_listAll 103 = .ok (.aload_n 0, 1) := by decide +kernel
theorem dX6_listAll_104 : decode cX6_listAll 104 = .ok (.iload 9, 2) := by decide +kernel
theorem dX6_listAll_106 : decode cX6_listAll 106 = .ok (.invokevirtual 32, 3) := by decide +kernel
theorem dX6_listAll_109 : decode cX6_listAll 109 = .ok (.istore 7, 2) := by decide +kernel
theorem dX6_listAll_111 : decode cX6_listAll 111 = .ok (.aload_n 0, 1) := by decide +kernel
theorem dX6_listAll_112 : decode cX6_listAll 112 = .ok (.getfield 11, 3) := by decide +kernel
theorem dX6_listAll_115 : decode cX6_listAll 115 = .ok (.iload 4, 2) := by decide +kernel
theorem dX6_listAll_117 : decode cX6_listAll 117 = .ok (.iload 6, 2) := by decide +kernel
theorem dX6_listAll_119 : decode cX6_listAll 119 = .ok (.iload 7, 2) := by decide +kernel
theorem dX6_listAll_121 : decode cX6_listAll 121 = .ok (.bipush 8, 2) := by decide +kernel
theorem dX6_listAll_123 : decode cX6_listAll 123 = .ok (.ishl, 1) := by decide +kernel
theorem dX6_listAll_124 : decode cX6_listAll 124 = .ok (.ior, 1) := by decide +kernel
theorem dX6_listAll_125 : decode cX6_listAll 125 = .ok (.iload 5, 2) := by decide +kernel
theorem dX6_listAll_127 : decode cX6_listAll 127 = .ok (.bipush 12, 2) := by decide +kernel
theorem dX6_listAll_129 : decode cX6_listAll 129 = .ok (.ishl, 1) := by decide +kernel
theorem dX6_listAll_130 : decode cX6_listAll 130 = .ok (.ior, 1) := by decide +kernel
theorem dX6_listAll_131 : decode cX6_listAll 131 = .ok (.iload_n 1, 1) := by decide +kernel
theorem dX6_listAll_132 : decode cX6_listAll 132 = .ok (.bipush 16, 2) := by decide +kernel
theorem dX6_listAll_134 : decode cX6_listAll 134 = .ok (.ishl, 1) := by decide +kernel
theorem dX6_listAll_135 : decode cX6_listAll 135 = .ok (.ior, 1) := by decide +kernel
theorem dX6_listAll_136 : decode cX6_listAll 136 = .ok (.iastore, 1) := by decide +kernel
theorem dX6_listAll_137 : decode cX6_listAll 137 = .ok (.iload 5, 2) := by decide +kernel
theorem dX6_listAll_139 : decode cX6_listAll 139 = .ok (.iload_n 1, 1) := by decide +kernel
theorem dX6_listAll_140 : decode cX6_listAll 140 = .ok (.if_icmp .ne 16, 3) := by decide +kernel
theorem dX6_listAll_143 : decode cX6_listAll 143 = .ok (.iload 7, 2) := by decide +kernel
theorem dX6_listAll_145 : decode cX6_listAll 145 = .ok (.iconst 1, 1) := by decide +kernel
theorem dX6_listAll_146 : decode cX6_listAll 146 = .ok (.iadd, 1) := by decide +kernel
theorem dX6_listAll_147 : decode cX6_listAll 147 = .ok (.iconst 3, 1) := by decide +kernel
theorem dX6_listAll_148 : decode cX6_listAll 148 = .ok (.iload_n 1, 1) := by decide +kernel
theorem dX6_listAll_149 : decode cX6_listAll 149 = .ok (.iconst 1, 1) := by decide +kernel
theorem dX6_listAll_150 : decode cX6_listAll 150 = .ok (.isub, 1) := by decide +kernel
theorem dX6_listAll_151 : decode cX6_listAll 151 = .ok (.imul, 1) := by decide +kernel
theorem dX6_listAll_152 : decode cX6_listAll 152 = .ok (.ishl, 1) := by decide +kernel
theorem dX6_listAll_153 : decode cX6_listAll 153 = .ok (.goto 4, 3) := by decide +kernel
theorem dX6_listAll_156 : decode cX6_listAll 156 = .ok (.iconst 0, 1) := by decide +kernel
theorem dX6_listAll_157 : decode cX6_listAll 157 = .ok (.istore 8, 2) := by decide +kernel
theorem dX6_listAll_159 : decode cX6_listAll 159 = .ok (.aload_n 0, 1) := by decide +kernel
theorem dX6_listAll_160 : decode cX6_listAll 160 = .ok (.getfield 15, 3) := by decide +kernel
theorem dX6_listAll_163 : decode cX6_listAll 163 = .ok (.iload 4, 2) := by decide +kernel
theorem dX6_listAll_165 : decode cX6_listAll 165 = .ok (.iload_n 2, 1) := by decide +kernel
theorem dX6_listAll_166 : decode cX6_listAll 166 = .ok (.iload 4, 2) := by decide +kernel
theorem dX6_listAll_168 : decode cX6_listAll 168 = .ok (.iload_n 2, 1) := by decide +kernel
theorem dX6_listAll_169 : decode cX6_listAll 169 = .ok (.isub, 1) := by decide +kernel
theorem dX6_listAll_170 : decode cX6_listAll 170 = .ok (.iload 8, 2) := by decide +kernel
theorem dX6_listAll_172 : decode cX6_listAll 172 = .ok (.isub, 1) := by decide +kernel
theorem dX6_listAll_173 : decode cX6_listAll 173 = .ok (.bipush 8, 2) := by decide +kernel
theorem dX6_listAll_175 : decode cX6_listAll 175 = .ok (.imul, 1) := by decide +kernel
theorem dX6_listAll_176 : decode cX6_listAll 176 = .ok (.iadd, 1) := by decide +kernel
theorem dX6_listAll_177 : decode cX6_listAll 177 = .ok (.iconst 1, 1) := by decide +kernel
theorem dX6_listAll_178 : decode cX6_listAll 178 = .ok (.iadd, 1) := by decide +kernel
theorem dX6_listAll_179 : decode cX6_listAll 179 = .ok (.iastore, 1) := by decide +kernel
theorem dX6_listAll_180 : decode cX6_listAll 180 = .ok (.iinc 4 1, 3) := by decide +kernel
theorem dX6_listAll_183 : decode cX6_listAll 183 = .ok (.goto (-168), 3) := by decide +kernel
theorem dX6_listAll_186 : decode cX6_listAll 186 = .ok (.return_, 1) := by decide +kernel
/-! f_X12_stand -/
noncomputable def f_X12_stand (a1 : Int32) (a2 : Int32) (s0 : SS) : Res := bd (f_X12_laysRow a1 s0) (fun (v1 : Int32) (s2 : SS) => if (a2 &&& ((s2 56 49) ^^^ ((-1))) : Int32) = 0 then some (1, s2) else some (0, s2))
set_option maxRecDepth 100000 in
set_option maxHeartbeats 4000000 in
theorem c_X12_stand {l : Launch} (a1 : Int32) (a2 : Int32) (s0 : SS) : Ct l wF yX12_stand cX12_stand 3 (some .boolean) 2 [.ref 56, .int a1, .int a2] s0 (f_X12_stand a1 a2 s0) := by
  refine ct_of (y := yX12_stand) plX12 (Nat.le_of_ble_eq_true rfl) ?_
  refine r_pad0 0 (L1 := [.ref 56, .int a1, .int a2]) rfl ?_
  unfold f_X12_stand
  refine r_aload_n (pc1 := 1) (i := 0) dX12_stand_0 rfl rfl rfl ?_
  refine r_iload_n (pc1 := 2) (i := 1) dX12_stand_1 rfl rfl rfl ?_
  refine r_callVv (pc1 := 5) (rv_of w_56 cl_12) lkX12_339 (c_X12_laysRow _ _) rfl rfl ⟨Nat.le_of_ble_eq_true rfl, Nat.le_of_ble_eq_true rfl⟩ (Nat.le_of_ble_eq_true rfl) dX12_stand_2 rfl (fun v1 s2 => ?_)
  refine r_iload_n (pc1 := 6) (i := 2) dX12_stand_5 rfl rfl rfl ?_
  refine r_aload_n (pc1 := 7) (i := 0) dX12_stand_6 rfl rfl rfl ?_
  refine r_getI (pc1 := 10) w_56 gfX12_329 rfl dX12_stand_7 rfl ?_
  refine r_iconst (v := (-1)) (pc1 := 11) dX12_stand_10 ki_m1 rfl ?_
  refine r_ixor (pc1 := 12) dX12_stand_11 rfl ?_
  refine r_iand (pc1 := 13) dX12_stand_12 rfl ?_
  refine r_if_ne (tgt := 20) (pc1 := 16) dX12_stand_13 (by decide) rfl (fun q3 => ?_) (fun q3 => ?_)
  · refine r_iconst (v := 1) (pc1 := 17) dX12_stand_16 ki_1 rfl ?_
    refine r_goto (tgt := 21) dX12_stand_17 (by decide) ?_
    exact r_iret rfl rfl dX12_stand_21
  · refine r_iconst (v := 0) (pc1 := 21) dX12_stand_20 ki_0 rfl ?_
    exact r_iret rfl rfl dX12_stand_21
/-! f_X12_heldBy -/
noncomputable def f_X12_heldBy (a1 : Int32) (a2 : Int32) (a3 : Int32) (a4 : Int32) (s0 : SS) : Res := bdp (f_X12_behind a2 a3 s0) (fun (v1 : Int32) => bd (f_X12_stand v1 a4 s0) (fun (v2 : Int32) (s3 : SS) => if (v2 : Int32) = 0 then some (0, s3) else gd (inb ((4681 * (a1 + 1)) + v1) 60853) (some (1 + (s3 91 (Int32.toNatClampNeg ((4681 * (a1 + 1)) + v1))), s3))))
set_option maxRecDepth 100000 in
set_option maxHeartbeats 4000000 in
theorem c_X12_heldBy {l : Launch} (a1 : Int32) (a2 : Int32) (a3 : Int32) (a4 : Int32) (s0 : SS) : Ct l wF yX12_heldBy cX12_heldBy 6 (some .int) 3 [.ref 56, .int a1, .int a2, .int a3, .int a4] s0 (f_X12_heldBy a1 a2 a3 a4 s0) := by
  refine ct_of (y := yX12_heldBy) plX12 (Nat.le_of_ble_eq_true rfl) ?_
  refine r_pad0 1 (L1 := [.ref 56, .int a1, .int a2, .int a3, .int a4, .null]) rfl ?_
  unfold f_X12_heldBy
  refine r_aload_n (pc1 := 1) (i := 0) dX12_heldBy_0 rfl rfl rfl ?_
  refine r_iload_n (pc1 := 2) (i := 2) dX12_heldBy_1 rfl rfl rfl ?_
  refine r_iload_n (pc1 := 3) (i := 3) dX12_heldBy_2 rfl rfl rfl ?_
  refine r_callVp (pc1 := 6) (rv_of w_56 cl_12) lkX12_362 (c_X12_behind _ _ _) rfl rfl ⟨Nat.le_of_ble_eq_true rfl, Nat.le_of_ble_eq_true rfl⟩ (Nat.le_of_ble_eq_true rfl) dX12_heldBy_3 rfl (fun v1 => ?_)
  refine r_istore (pc1 := 8) dX12_heldBy_6 (by decide) rfl rfl rfl ?_
  refine r_aload_n (pc1 := 9) (i := 0) dX12_heldBy_8 rfl rfl rfl ?_
  refine r_iload (pc1 := 11) dX12_heldBy_9 rfl rfl ?_
  refine r_iload (pc1 := 13) dX12_heldBy_11 rfl rfl ?_
  refine r_callVi (pc1 := 16) (rv_of w_56 cl_12) lkX12_460 (c_X12_stand _ _ _) rfl rfl ⟨Nat.le_of_ble_eq_true rfl, Nat.le_of_ble_eq_true rfl⟩ (Nat.le_of_ble_eq_true rfl) dX12_heldBy_13 rfl (fun v2 s3 => ?_)
  refine r_if_eq (tgt := 39) (pc1 := 19) dX12_heldBy_16 (by decide) rfl (fun q4 => ?_) (fun q4 => ?_)
  · refine r_iconst (v := 0) (pc1 := 40) dX12_heldBy_39 ki_0 rfl ?_
    exact r_iret rfl rfl dX12_heldBy_40
  · refine r_iconst (v := 1) (pc1 := 20) dX12_heldBy_19 ki_1 rfl ?_
    refine r_aload_n (pc1 := 21) (i := 0) dX12_heldBy_20 rfl rfl rfl ?_
    refine r_getR (pc1 := 24) w_56 gfX12_125 rfl dX12_heldBy_21 rfl ?_
    refine r_sipush (v := 4681) (pc1 := 27) dX12_heldBy_24 ks_4681 rfl ?_
    refine r_iload_n (pc1 := 28) (i := 1) dX12_heldBy_27 rfl rfl rfl ?_
    refine r_iconst (v := 1) (pc1 := 29) dX12_heldBy_28 ki_1 rfl ?_
    refine r_iadd (pc1 := 30) dX12_heldBy_29 rfl ?_
    refine r_imul (pc1 := 31) dX12_heldBy_30 rfl ?_
    refine r_iload (pc1 := 33) dX12_heldBy_31 rfl rfl ?_
    refine r_iadd (pc1 := 34) dX12_heldBy_33 rfl ?_
    refine r_iald (pc1 := 35) w_91 dX12_heldBy_34 rfl ?_
    refine r_iadd (pc1 := 36) dX12_heldBy_35 rfl ?_
    refine r_goto (tgt := 40) dX12_heldBy_36 (by decide) ?_
    exact r_iret rfl rfl dX12_heldBy_40
/-! f_X12_held -/
noncomputable def lp_X12_held_141 (a3 : Int32) (v7 : Int32) (v14 : Int32) (v18 : Int32) (v21 : Int32) (k32 : Int32 → SS → Res) : Nat → Int32 → Int32 → SS → Res
  | 0, _, _, _ => none
  | n37 + 1, v34, v35, s36 => if (s36 56 2 : Int32) ≤ (v35 : Int32) then k32 v34 s36 else bd (f_X12_mayOf v21 v18 s36) (fun (v39 : Int32) (s40 : SS) => bdp (f_X12_has v39 v35 s40) (fun (v41 : Int32) => jn (fun (v42 : Int32) (s43 : SS) => lp_X12_held_141 a3 v7 v14 v18 v21 k32 n37 v42 (v35 + 1) s43) (fun (k44 : Int32 → SS → Res) => if (v41 : Int32) = 0 then k44 v34 s40 else bd (f_X12_heldBy v14 v21 v35 v7 s40) (fun (v46 : Int32) (s47 : SS) => bdp (f_X12_has a3 v18 s47) (fun (v48 : Int32) => jn (fun (v49 : Int32) => jn (fun (v51 : Int32) => k44 v51 s47) (fun (k52 : Int32 → Res) => if (v48 : Int32) = (v49 : Int32) then k52 v46 else k52 v34)) (fun (k50 : Int32 → Res) => if (v46 : Int32) ≤ (v34 : Int32) then k50 0 else k50 1))))))
noncomputable def lp_X12_held_96 (a3 : Int32) (v7 : Int32) (v14 : Int32) (v18 : Int32) (k20 : SS → Res) : Nat → Int32 → SS → Res
  | 0, _, _ => none
  | n23 + 1, v21, s22 => if (4681 : Int32) ≤ (v21 : Int32) then k20 s22 else gd (inb ((4681 * v14) + v21) 60853) (jn (fun (s25 : SS) => lp_X12_held_96 a3 v7 v14 v18 k20 n23 (v21 + 1) s25) (fun (k26 : SS → Res) => if (s22 90 (Int32.toNatClampNeg ((4681 * v14) + v21)) : Int32) = 0 then k26 s22 else bd (f_X12_heldBy v14 v21 8 v7 s22) (fun (v28 : Int32) (s29 : SS) => jn (fun (v30 : Int32) (s31 : SS) => gd (inb ((4681 * v14) + v21) 60853) (lts (up s31 91 (Int32.toNatClampNeg ((4681 * v14) + v21)) v30) (fun (s33 : SS) => k26 s33))) (fun (k32 : Int32 → SS → Res) => lp_X12_held_141 a3 v7 v14 v18 v21 k32 FU v28 0 s29))))
noncomputable def lp_X12_held_80 (a3 : Int32) (v7 : Int32) (k13 : SS → Res) : Nat → Int32 → SS → Res
  | 0, _, _ => none
  | n16 + 1, v14, s15 => if (v14 : Int32) < 0 then k13 s15 else bdp (f_X12_makerOn v14 s15) (fun (v18 : Int32) => jn (fun (s19 : SS) => lp_X12_held_80 a3 v7 k13 n16 (v14 + (-1)) s19) (fun (k20 : SS → Res) => lp_X12_held_96 a3 v7 v14 v18 k20 FU 0 s15))
noncomputable def lp_X12_held_50 (a3 : Int32) (v7 : Int32) (k11 : SS → Res) : Nat → Int32 → SS → Res
  | 0, _, _ => none
  | n57 + 1, v55, s56 => if (4681 : Int32) ≤ (v55 : Int32) then k11 s56 else gd (inb (56172 + v55) 60853) (lts (up s56 91 (Int32.toNatClampNeg (56172 + v55)) 0) (fun (s59 : SS) => lp_X12_held_50 a3 v7 k11 n57 (v55 + 1) s59))
noncomputable def f_X12_held (a1 : Int32) (a2 : Int32) (a3 : Int32) (s0 : SS) : Res := bdp (f_X12_isLaw a1 s0) (fun (v1 : Int32) => if (v1 : Int32) = 0 then some ((-1), s0) else bdp (f_X12_isLaw a2 s0) (fun (v3 : Int32) => if (v3 : Int32) = 0 then some ((-1), s0) else bdp (f_X12_lies ((a3 : Int32).toInt64) 0 15 s0) (fun (v5 : Int32) => if (v5 : Int32) = 0 then some ((-1), s0) else lt ((1 <<< (a1 &&& 31)) ||| (1 <<< (a2 &&& 31))) (fun (v7 : Int32) => bd (f_X12_reaches 12 9 s0) (fun (v8 : Int32) (s9 : SS) => jn (fun (s10 : SS) => jn (fun (s12 : SS) => gd (inb (s12 56 4) 60853) (some (s12 91 (Int32.toNatClampNeg (s12 56 4)), s12))) (fun (k13 : SS → Res) => lp_X12_held_80 a3 v7 k13 FU 11 s10)) (fun (k11 : SS → Res) => lp_X12_held_50 a3 v7 k11 FU 0 s9))))))
set_option maxRecDepth 100000 in
set_option maxHeartbeats 4000000 in
theorem t_lp_X12_held_141 {l : Launch} (a3 : Int32) (v7 : Int32) (v14 : Int32) (v18 : Int32) (v21 : Int32) (k32 : Int32 → SS → Res) (hk32 : ∀ (v30 : Int32) (s31 : SS), RC l wF RX12 cX12_held 11 (some .int) 9 219 [.ref 56, .null, .null, .int a3, .int v7, .int v14, .int v18, .int v21, .int v30, .null, .null] [] s31 (k32 v30 s31)) : ∀ (n37 : Nat) (v34 : Int32) (v35 : Int32) (s36 : SS), RC l wF RX12 cX12_held 11 (some .int) 9 141 [.ref 56, .null, .null, .int a3, .int v7, .int v14, .int v18, .int v21, .int v34, .int v35, .null] [] s36 (lp_X12_held_141 a3 v7 v14 v18 v21 k32 n37 v34 v35 s36) := by
  intro n37
  induction n37 with
  | zero =>
    intro v34 v35 s36
    rw [lp_X12_held_141]
    exact r_none
  | succ n37 ih =>
    intro v34 v35 s36
    rw [lp_X12_held_141]
    refine r_iload (pc1 := 143) dX12_held_141 rfl rfl ?_
    refine r_aload_n (pc1 := 144) (i := 0) dX12_held_143 rfl rfl rfl ?_
    refine r_getI (pc1 := 147) w_56 gfX12_144 rfl dX12_held_144 rfl ?_
    refine r_icmp_ge (tgt := 219) (pc1 := 150) dX12_held_147 (by decide) rfl (fun q38 => ?_) (fun q38 => ?_)
    · exact r_wk (hk32 v34 s36) ⟨Or.inr rfl, Or.inl rfl, Or.inl rfl, Or.inr rfl, Or.inr rfl, Or.inr rfl, Or.inr rfl, Or.inr rfl, Or.inr rfl, Or.inl rfl, Or.inl rfl, trivial⟩
    · refine r_aload_n (pc1 := 151) (i := 0) dX12_held_150 rfl rfl rfl ?_
      refine r_iload (pc1 := 153) dX12_held_151 rfl rfl ?_
      refine r_iload (pc1 := 155) dX12_held_153 rfl rfl ?_
      refine r_callVi (pc1 := 158) (rv_of w_56 cl_12) lkX12_359 (c_X12_mayOf _ _ _) rfl rfl ⟨Nat.le_of_ble_eq_true rfl, Nat.le_of_ble_eq_true rfl⟩ (Nat.le_of_ble_eq_true rfl) dX12_held_155 rfl (fun v39 s40 => ?_)
      refine r_iload (pc1 := 160) dX12_held_158 rfl rfl ?_
      refine r_callSp (pc1 := 163) lkX12_335 (c_X12_has _ _ _) rfl rfl ⟨Nat.le_of_ble_eq_true rfl, Nat.le_of_ble_eq_true rfl⟩ (Nat.le_of_ble_eq_true rfl) dX12_held_160 rfl (fun v41 => ?_)
      refine r_jn (hyp := fun (k44 : Int32 → SS → Res) => ∀ (v42 : Int32) (s43 : SS), RC l wF RX12 cX12_held 11 (some .int) 9 213 [.ref 56, .null, .null, .int a3, .int v7, .int v14, .int v18, .int v21, .int v42, .int v35, .null] [] s43 (k44 v42 s43)) (fun v42 s43 => ?_) (fun k44 hk44 => ?_)
      · refine r_iinc (pc1 := 216) dX12_held_213 rfl (kn_1 _) (by decide) rfl rfl rfl ?_
        refine r_goto (tgt := 141) dX12_held_216 (by decide) ?_
        exact r_wk (ih v42 (v35 + 1) s43) ⟨Or.inr rfl, Or.inl rfl, Or.inl rfl, Or.inr rfl, Or.inr rfl, Or.inr rfl, Or.inr rfl, Or.inr rfl, Or.inr rfl, Or.inr rfl, Or.inl rfl, trivial⟩
      · refine r_if_ne (tgt := 169) (pc1 := 166) dX12_held_163 (by decide) rfl (fun q45 => ?_) (fun q45 => ?_)
        · refine r_goto (tgt := 213) dX12_held_166 (by decide) ?_
          exact r_wk (hk44 v34 s40) ⟨Or.inr rfl, Or.inl rfl, Or.inl rfl, Or.inr rfl, Or.inr rfl, Or.inr rfl, Or.inr rfl, Or.inr rfl, Or.inr rfl, Or.inr rfl, Or.inl rfl, trivial⟩
        · refine r_aload_n (pc1 := 170) (i := 0) dX12_held_169 rfl rfl rfl ?_
          refine r_iload (pc1 := 172) dX12_held_170 rfl rfl ?_
          refine r_iload (pc1 := 174) dX12_held_172 rfl rfl ?_
          refine r_iload (pc1 := 176) dX12_held_174 rfl rfl ?_
          refine r_iload (pc1 := 178) dX12_held_176 rfl rfl ?_
          refine r_callVi (pc1 := 181) (rv_of w_56 cl_12) lkX12_464 (c_X12_heldBy _ _ _ _ _) rfl rfl ⟨Nat.le_of_ble_eq_true rfl, Nat.le_of_ble_eq_true rfl⟩ (Nat.le_of_ble_eq_true rfl) dX12_held_178 rfl (fun v46 s47 => ?_)
          refine r_istore (pc1 := 183) dX12_held_181 (by decide) rfl rfl rfl ?_
          refine r_iload_n (pc1 := 184) (i := 3) dX12_held_183 rfl rfl rfl ?_
          refine r_iload (pc1 := 186) dX12_held_184 rfl rfl ?_
          refine r_callSp (pc1 := 189) lkX12_335 (c_X12_has _ _ _) rfl rfl ⟨Nat.le_of_ble_eq_true rfl, Nat.le_of_ble_eq_true rfl⟩ (Nat.le_of_ble_eq_true rfl) dX12_held_186 rfl (fun v48 => ?_)
          refine r_iload (pc1 := 191) dX12_held_189 rfl rfl ?_
          refine r_iload (pc1 := 193) dX12_held_191 rfl rfl ?_
          refine r_jn (hyp := fun (k50 : Int32 → Res) => ∀ (v49 : Int32), RC l wF RX12 cX12_held 11 (some .int) 9 201 [.ref 56, .null, .null, .int a3, .int v7, .int v14, .int v18, .int v21, .int v34, .int v35, .int v46] [.int v49, .int v48] s47 (k50 v49)) (fun v49 => ?_) (fun k50 hk50 => ?_)
          · refine r_jn (hyp := fun (k52 : Int32 → Res) => ∀ (v51 : Int32), RC l wF RX12 cX12_held 11 (some .int) 9 211 [.ref 56, .null, .null, .int a3, .int v7, .int v14, .int v18, .int v21, .null, .int v35, .null] [.int v51] s47 (k52 v51)) (fun v51 => ?_) (fun k52 hk52 => ?_)
            · refine r_istore (pc1 := 213) dX12_held_211 (by decide) rfl rfl rfl ?_
              exact r_wk (hk44 v51 s47) ⟨Or.inr rfl, Or.inl rfl, Or.inl rfl, Or.inr rfl, Or.inr rfl, Or.inr rfl, Or.inr rfl, Or.inr rfl, Or.inr rfl, Or.inr rfl, Or.inl rfl, trivial⟩
            · refine r_icmp_ne (tgt := 209) (pc1 := 204) dX12_held_201 (by decide) rfl (fun q53 => ?_) (fun q53 => ?_)
              · refine r_iload (pc1 := 206) dX12_held_204 rfl rfl ?_
                refine r_goto (tgt := 211) dX12_held_206 (by decide) ?_
                exact r_wk (hk52 v46) ⟨Or.inr rfl, Or.inl rfl, Or.inl rfl, Or.inr rfl, Or.inr rfl, Or.inr rfl, Or.inr rfl, Or.inr rfl, Or.inl rfl, Or.inr rfl, Or.inl rfl, trivial⟩
              · refine r_iload (pc1 := 211) dX12_held_209 rfl rfl ?_
                exact r_wk (hk52 v34) ⟨Or.inr rfl, Or.inl rfl, Or.inl rfl, Or.inr rfl, Or.inr rfl, Or.inr rfl, Or.inr rfl, Or.inr rfl, Or.inl rfl, Or.inr rfl, Or.inl rfl, trivial⟩
          · refine r_icmp_le (tgt := 200) (pc1 := 196) dX12_held_193 (by decide) rfl (fun q54 => ?_) (fun q54 => ?_)
            · refine r_iconst (v := 0) (pc1 := 201) dX12_held_200 ki_0 rfl ?_
              exact r_wk (hk50 0) ⟨Or.inr rfl, Or.inl rfl, Or.inl rfl, Or.inr rfl, Or.inr rfl, Or.inr rfl, Or.inr rfl, Or.inr rfl, Or.inr rfl, Or.inr rfl, Or.inr rfl, trivial⟩
            · refine r_iconst (v := 1) (pc1 := 197) dX12_held_196 ki_1 rfl ?_
              refine r_goto (tgt := 201) dX12_held_197 (by decide) ?_
              exact r_wk (hk50 1) ⟨Or.inr rfl, Or.inl rfl, Or.inl rfl, Or.inr rfl, Or.inr rfl, Or.inr rfl, Or.inr rfl, Or.inr rfl, Or.inr rfl, Or.inr rfl, Or.inr rfl, trivial⟩
set_option maxRecDepth 100000 in
set_option maxHeartbeats 4000000 in
theorem t_lp_X12_held_96 {l : Launch} (a3 : Int32) (v7 : Int32) (v14 : Int32) (v18 : Int32) (k20 : SS → Res) (hk20 : ∀ (s19 : SS), RC l wF RX12 cX12_held 11 (some .int) 9 241 [.ref 56, .null, .null, .int a3, .int v7, .int v14, .null, .null, .null, .null, .null] [] s19 (k20 s19)) : ∀ (n23 : Nat) (v21 : Int32) (s22 : SS), RC l wF RX12 cX12_held 11 (some .int) 9 96 [.ref 56, .null, .null, .int a3, .int v7, .int v14, .int v18, .int v21, .null, .null, .null] [] s22 (lp_X12_held_96 a3 v7 v14 v18 k20 n23 v21 s22) := by
  intro n23
  induction n23 with
  | zero =>
    intro v21 s22
    rw [lp_X12_held_96]
    exact r_none
  | succ n23 ih =>
    intro v21 s22
    rw [lp_X12_held_96]
    refine r_iload (pc1 := 98) dX12_held_96 rfl rfl ?_
    refine r_sipush (v := 4681) (pc1 := 101) dX12_held_98 ks_4681 rfl ?_
    refine r_icmp_ge (tgt := 241) (pc1 := 104) dX12_held_101 (by decide) rfl (fun q24 => ?_) (fun q24 => ?_)
    · exact r_wk (hk20 s22) ⟨Or.inr rfl, Or.inl rfl, Or.inl rfl, Or.inr rfl, Or.inr rfl, Or.inr rfl, Or.inl rfl, Or.inl rfl, Or.inl rfl, Or.inl rfl, Or.inl rfl, trivial⟩
    · refine r_aload_n (pc1 := 105) (i := 0) dX12_held_104 rfl rfl rfl ?_
      refine r_getR (pc1 := 108) w_56 gfX12_122 rfl dX12_held_105 rfl ?_
      refine r_sipush (v := 4681) (pc1 := 111) dX12_held_108 ks_4681 rfl ?_
      refine r_iload (pc1 := 113) dX12_held_111 rfl rfl ?_
      refine r_imul (pc1 := 114) dX12_held_113 rfl ?_
      refine r_iload (pc1 := 116) dX12_held_114 rfl rfl ?_
      refine r_iadd (pc1 := 117) dX12_held_116 rfl ?_
      refine r_zald (pc1 := 118) w_90 dX12_held_117 rfl ?_
      refine r_jn (hyp := fun (k26 : SS → Res) => ∀ (s25 : SS), RC l wF RX12 cX12_held 11 (some .int) 9 235 [.ref 56, .null, .null, .int a3, .int v7, .int v14, .int v18, .int v21, .null, .null, .null] [] s25 (k26 s25)) (fun s25 => ?_) (fun k26 hk26 => ?_)
      · refine r_iinc (pc1 := 238) dX12_held_235 rfl (kn_1 _) (by decide) rfl rfl rfl ?_
        refine r_goto (tgt := 96) dX12_held_238 (by decide) ?_
        exact r_wk (ih (v21 + 1) s25) ⟨Or.inr rfl, Or.inl rfl, Or.inl rfl, Or.inr rfl, Or.inr rfl, Or.inr rfl, Or.inr rfl, Or.inr rfl, Or.inl rfl, Or.inl rfl, Or.inl rfl, trivial⟩
      · refine r_if_ne (tgt := 124) (pc1 := 121) dX12_held_118 (by decide) rfl (fun q27 => ?_) (fun q27 => ?_)
        · refine r_goto (tgt := 235) dX12_held_121 (by decide) ?_
          exact r_wk (hk26 s22) ⟨Or.inr rfl, Or.inl rfl, Or.inl rfl, Or.inr rfl, Or.inr rfl, Or.inr rfl, Or.inr rfl, Or.inr rfl, Or.inl rfl, Or.inl rfl, Or.inl rfl, trivial⟩
        · refine r_aload_n (pc1 := 125) (i := 0) dX12_held_124 rfl rfl rfl ?_
          refine r_iload (pc1 := 127) dX12_held_125 rfl rfl ?_
          refine r_iload (pc1 := 129) dX12_held_127 rfl rfl ?_
          refine r_bipush (v := 8) (pc1 := 131) dX12_held_129 kb_8 rfl ?_
          refine r_iload (pc1 := 133) dX12_held_131 rfl rfl ?_
          refine r_callVi (pc1 := 136) (rv_of w_56 cl_12) lkX12_464 (c_X12_heldBy _ _ _ _ _) rfl rfl ⟨Nat.le_of_ble_eq_true rfl, Nat.le_of_ble_eq_true rfl⟩ (Nat.le_of_ble_eq_true rfl) dX12_held_133 rfl (fun v28 s29 => ?_)
          refine r_istore (pc1 := 138) dX12_held_136 (by decide) rfl rfl rfl ?_
          refine r_iconst (v := 0) (pc1 := 139) dX12_held_138 ki_0 rfl ?_
          refine r_istore (pc1 := 141) dX12_held_139 (by decide) rfl rfl rfl ?_
          refine r_jn (hyp := fun (k32 : Int32 → SS → Res) => ∀ (v30 : Int32) (s31 : SS), RC l wF RX12 cX12_held 11 (some .int) 9 219 [.ref 56, .null, .null, .int a3, .int v7, .int v14, .int v18, .int v21, .int v30, .null, .null] [] s31 (k32 v30 s31)) (fun v30 s31 => ?_) (fun k32 hk32 => ?_)
          · refine r_aload_n (pc1 := 220) (i := 0) dX12_held_219 rfl rfl rfl ?_
            refine r_getR (pc1 := 223) w_56 gfX12_125 rfl dX12_held_220 rfl ?_
            refine r_sipush (v := 4681) (pc1 := 226) dX12_held_223 ks_4681 rfl ?_
            refine r_iload (pc1 := 228) dX12_held_226 rfl rfl ?_
            refine r_imul (pc1 := 229) dX12_held_228 rfl ?_
            refine r_iload (pc1 := 231) dX12_held_229 rfl rfl ?_
            refine r_iadd (pc1 := 232) dX12_held_231 rfl ?_
            refine r_iload (pc1 := 234) dX12_held_232 rfl rfl ?_
            refine r_iast (pc1 := 235) w_91 dX12_held_234 rfl ?_
            refine r_lts (fun s33 => ?_)
            exact r_wk (hk26 s33) ⟨Or.inr rfl, Or.inl rfl, Or.inl rfl, Or.inr rfl, Or.inr rfl, Or.inr rfl, Or.inr rfl, Or.inr rfl, Or.inl rfl, Or.inl rfl, Or.inl rfl, trivial⟩
          · exact r_wk (t_lp_X12_held_141 a3 v7 v14 v18 v21 k32 hk32 FU v28 0 s29) ⟨Or.inr rfl, Or.inl rfl, Or.inl rfl, Or.inr rfl, Or.inr rfl, Or.inr rfl, Or.inr rfl, Or.inr rfl, Or.inr rfl, Or.inr rfl, Or.inl rfl, trivial⟩
set_option maxRecDepth 100000 in
set_option maxHeartbeats 4000000 in
theorem t_lp_X12_held_80 {l : Launch} (a3 : Int32) (v7 : Int32) (k13 : SS → Res) (hk13 : ∀ (s12 : SS), RC l wF RX12 cX12_held 11 (some .int) 9 247 [.ref 56, .null, .null, .null, .null, .null, .null, .null, .null, .null, .null] [] s12 (k13 s12)) : ∀ (n16 : Nat) (v14 : Int32) (s15 : SS), RC l wF RX12 cX12_held 11 (some .int) 9 80 [.ref 56, .null, .null, .int a3, .int v7, .int v14, .null, .null, .null, .null, .null] [] s15 (lp_X12_held_80 a3 v7 k13 n16 v14 s15) := by
  intro n16
  induction n16 with
  | zero =>
    intro v14 s15
    rw [lp_X12_held_80]
    exact r_none
  | succ n16 ih =>
    intro v14 s15
    rw [lp_X12_held_80]
    refine r_iload (pc1 := 82) dX12_held_80 rfl rfl ?_
    refine r_if_lt (tgt := 247) (pc1 := 85) dX12_held_82 (by decide) rfl (fun q17 => ?_) (fun q17 => ?_)
    · exact r_wk (hk13 s15) ⟨Or.inr rfl, Or.inl rfl, Or.inl rfl, Or.inl rfl, Or.inl rfl, Or.inl rfl, Or.inl rfl, Or.inl rfl, Or.inl rfl, Or.inl rfl, Or.inl rfl, trivial⟩
    · refine r_aload_n (pc1 := 86) (i := 0) dX12_held_85 rfl rfl rfl ?_
      refine r_iload (pc1 := 88) dX12_held_86 rfl rfl ?_
      refine r_callVp (pc1 := 91) (rv_of w_56 cl_12) lkX12_394 (c_X12_makerOn _ _) rfl rfl ⟨Nat.le_of_ble_eq_true rfl, Nat.le_of_ble_eq_true rfl⟩ (Nat.le_of_ble_eq_true rfl) dX12_held_88 rfl (fun v18 => ?_)
      refine r_istore (pc1 := 93) dX12_held_91 (by decide) rfl rfl rfl ?_
      refine r_iconst (v := 0) (pc1 := 94) dX12_held_93 ki_0 rfl ?_
      refine r_istore (pc1 := 96) dX12_held_94 (by decide) rfl rfl rfl ?_
      refine r_jn (hyp := fun (k20 : SS → Res) => ∀ (s19 : SS), RC l wF RX12 cX12_held 11 (some .int) 9 241 [.ref 56, .null, .null, .int a3, .int v7, .int v14, .null, .null, .null, .null, .null] [] s19 (k20 s19)) (fun s19 => ?_) (fun k20 hk20 => ?_)
      · refine r_iinc (pc1 := 244) dX12_held_241 rfl (kn_m1 _) (by decide) rfl rfl rfl ?_
        refine r_goto (tgt := 80) dX12_held_244 (by decide) ?_
        exact r_wk (ih (v14 + (-1)) s19) ⟨Or.inr rfl, Or.inl rfl, Or.inl rfl, Or.inr rfl, Or.inr rfl, Or.inr rfl, Or.inl rfl, Or.inl rfl, Or.inl rfl, Or.inl rfl, Or.inl rfl, trivial⟩
      · exact r_wk (t_lp_X12_held_96 a3 v7 v14 v18 k20 hk20 FU 0 s15) ⟨Or.inr rfl, Or.inl rfl, Or.inl rfl, Or.inr rfl, Or.inr rfl, Or.inr rfl, Or.inr rfl, Or.inr rfl, Or.inl rfl, Or.inl rfl, Or.inl rfl, trivial⟩
set_option maxRecDepth 100000 in
set_option maxHeartbeats 4000000 in
theorem t_lp_X12_held_50 {l : Launch} (a3 : Int32) (v7 : Int32) (k11 : SS → Res) (hk11 : ∀ (s10 : SS), RC l wF RX12 cX12_held 11 (some .int) 9 76 [.ref 56, .null, .null, .int a3, .int v7, .null, .null, .null, .null, .null, .null] [] s10 (k11 s10)) : ∀ (n57 : Nat) (v55 : Int32) (s56 : SS), RC l wF RX12 cX12_held 11 (some .int) 9 50 [.ref 56, .null, .null, .int a3, .int v7, .int v55, .null, .null, .null, .null, .null] [] s56 (lp_X12_held_50 a3 v7 k11 n57 v55 s56) := by
  intro n57
  induction n57 with
  | zero =>
    intro v55 s56
    rw [lp_X12_held_50]
    exact r_none
  | succ n57 ih =>
    intro v55 s56
    rw [lp_X12_held_50]
    refine r_iload (pc1 := 52) dX12_held_50 rfl rfl ?_
    refine r_sipush (v := 4681) (pc1 := 55) dX12_held_52 ks_4681 rfl ?_
    refine r_icmp_ge (tgt := 76) (pc1 := 58) dX12_held_55 (by decide) rfl (fun q58 => ?_) (fun q58 => ?_)
    · exact r_wk (hk11 s56) ⟨Or.inr rfl, Or.inl rfl, Or.inl rfl, Or.inr rfl, Or.inr rfl, Or.inl rfl, Or.inl rfl, Or.inl rfl, Or.inl rfl, Or.inl rfl, Or.inl rfl, trivial⟩
    · refine r_aload_n (pc1 := 59) (i := 0) dX12_held_58 rfl rfl rfl ?_
      refine r_getR (pc1 := 62) w_56 gfX12_125 rfl dX12_held_59 rfl ?_
      refine r_ldcw (v := 56172) (pc1 := 65) dX12_held_62 cnX12_463 rfl ?_
      refine r_iload (pc1 := 67) dX12_held_65 rfl rfl ?_
      refine r_iadd (pc1 := 68) dX12_held_67 rfl ?_
      refine r_iconst (v := 0) (pc1 := 69) dX12_held_68 ki_0 rfl ?_
      refine r_iast (pc1 := 70) w_91 dX12_held_69 rfl ?_
      refine r_lts (fun s59 => ?_)
      refine r_iinc (pc1 := 73) dX12_held_70 rfl (kn_1 _) (by decide) rfl rfl rfl ?_
      refine r_goto (tgt := 50) dX12_held_73 (by decide) ?_
      exact r_wk (ih (v55 + 1) s59) ⟨Or.inr rfl, Or.inl rfl, Or.inl rfl, Or.inr rfl, Or.inr rfl, Or.inr rfl, Or.inl rfl, Or.inl rfl, Or.inl rfl, Or.inl rfl, Or.inl rfl, trivial⟩
set_option maxRecDepth 100000 in
set_option maxHeartbeats 4000000 in
theorem c_X12_held {l : Launch} (a1 : Int32) (a2 : Int32) (a3 : Int32) (s0 : SS) : Ct l wF yX12_held cX12_held 11 (some .int) 9 [.ref 56, .int a1, .int a2, .int a3] s0 (f_X12_held a1 a2 a3 s0) := by
  refine ct_of (y := yX12_held) plX12 (Nat.le_of_ble_eq_true rfl) ?_
  refine r_pad0 7 (L1 := [.ref 56, .int a1, .int a2, .int a3, .null, .null, .null, .null, .null, .null, .null]) rfl ?_
  unfold f_X12_held
  refine r_aload_n (pc1 := 1) (i := 0) dX12_held_0 rfl rfl rfl ?_
  refine r_iload_n (pc1 := 2) (i := 1) dX12_held_1 rfl rfl rfl ?_
  refine r_callVp (pc1 := 5) (rv_of w_56 cl_12) lkX12_175 (c_X12_isLaw _ _) rfl rfl ⟨Nat.le_of_ble_eq_true rfl, Nat.le_of_ble_eq_true rfl⟩ (Nat.le_of_ble_eq_true rfl) dX12_held_2 rfl (fun v1 => ?_)
  refine r_if_eq (tgt := 28) (pc1 := 8) dX12_held_5 (by decide) rfl (fun q2 => ?_) (fun q2 => ?_)
  · refine r_iconst (v := (-1)) (pc1 := 29) dX12_held_28 ki_m1 rfl ?_
    exact r_iret rfl rfl dX12_held_29
  · refine r_aload_n (pc1 := 9) (i := 0) dX12_held_8 rfl rfl rfl ?_
    refine r_iload_n (pc1 := 10) (i := 2) dX12_held_9 rfl rfl rfl ?_
    refine r_callVp (pc1 := 13) (rv_of w_56 cl_12) lkX12_175 (c_X12_isLaw _ _) rfl rfl ⟨Nat.le_of_ble_eq_true rfl, Nat.le_of_ble_eq_true rfl⟩ (Nat.le_of_ble_eq_true rfl) dX12_held_10 rfl (fun v3 => ?_)
    refine r_if_eq (tgt := 28) (pc1 := 16) dX12_held_13 (by decide) rfl (fun q4 => ?_) (fun q4 => ?_)
    · refine r_iconst (v := (-1)) (pc1 := 29) dX12_held_28 ki_m1 rfl ?_
      exact r_iret rfl rfl dX12_held_29
    · refine r_iload_n (pc1 := 17) (i := 3) dX12_held_16 rfl rfl rfl ?_
      refine r_i2l (pc1 := 18) dX12_held_17 rfl ?_
      refine r_lconst (v := 0) (pc1 := 19) dX12_held_18 kl_0 rfl ?_
      refine r_ldc2 (v := 15) (pc1 := 22) dX12_held_19 cnX12_151 rfl ?_
      refine r_callSp (pc1 := 25) lkX12_140 (c_X12_lies _ _ _ _) rfl rfl ⟨Nat.le_of_ble_eq_true rfl, Nat.le_of_ble_eq_true rfl⟩ (Nat.le_of_ble_eq_true rfl) dX12_held_22 rfl (fun v5 => ?_)
      refine r_if_ne (tgt := 30) (pc1 := 28) dX12_held_25 (by decide) rfl (fun q6 => ?_) (fun q6 => ?_)
      · refine r_iconst (v := (-1)) (pc1 := 29) dX12_held_28 ki_m1 rfl ?_
        exact r_iret rfl rfl dX12_held_29
      · refine r_iconst (v := 1) (pc1 := 31) dX12_held_30 ki_1 rfl ?_
        refine r_iload_n (pc1 := 32) (i := 1) dX12_held_31 rfl rfl rfl ?_
        refine r_ishl (pc1 := 33) dX12_held_32 rfl ?_
        refine r_iconst (v := 1) (pc1 := 34) dX12_held_33 ki_1 rfl ?_
        refine r_iload_n (pc1 := 35) (i := 2) dX12_held_34 rfl rfl rfl ?_
        refine r_ishl (pc1 := 36) dX12_held_35 rfl ?_
        refine r_ior (pc1 := 37) dX12_held_36 rfl ?_
        refine r_lt (fun v7 => ?_)
        refine r_istore (pc1 := 39) dX12_held_37 (by decide) rfl rfl rfl ?_
        refine r_aload_n (pc1 := 40) (i := 0) dX12_held_39 rfl rfl rfl ?_
        refine r_bipush (v := 12) (pc1 := 42) dX12_held_40 kb_12 rfl ?_
        refine r_bipush (v := 9) (pc1 := 44) dX12_held_42 kb_9 rfl ?_
        refine r_callVv (pc1 := 47) (rv_of w_56 cl_12) lkX12_421 (c_X12_reaches _ _ _) rfl rfl ⟨Nat.le_of_ble_eq_true rfl, Nat.le_of_ble_eq_true rfl⟩ (Nat.le_of_ble_eq_true rfl) dX12_held_44 rfl (fun v8 s9 => ?_)
        refine r_iconst (v := 0) (pc1 := 48) dX12_held_47 ki_0 rfl ?_
        refine r_istore (pc1 := 50) dX12_held_48 (by decide) rfl rfl rfl ?_
        refine r_jn (hyp := fun (k11 : SS → Res) => ∀ (s10 : SS), RC l wF RX12 cX12_held 11 (some .int) 9 76 [.ref 56, .null, .null, .int a3, .int v7, .null, .null, .null, .null, .null, .null] [] s10 (k11 s10)) (fun s10 => ?_) (fun k11 hk11 => ?_)
        · refine r_bipush (v := 11) (pc1 := 78) dX12_held_76 kb_11 rfl ?_
          refine r_istore (pc1 := 80) dX12_held_78 (by decide) rfl rfl rfl ?_
          refine r_jn (hyp := fun (k13 : SS → Res) => ∀ (s12 : SS), RC l wF RX12 cX12_held 11 (some .int) 9 247 [.ref 56, .null, .null, .null, .null, .null, .null, .null, .null, .null, .null] [] s12 (k13 s12)) (fun s12 => ?_) (fun k13 hk13 => ?_)
          · refine r_aload_n (pc1 := 248) (i := 0) dX12_held_247 rfl rfl rfl ?_
            refine r_getR (pc1 := 251) w_56 gfX12_125 rfl dX12_held_248 rfl ?_
            refine r_aload_n (pc1 := 252) (i := 0) dX12_held_251 rfl rfl rfl ?_
            refine r_getI (pc1 := 255) w_56 gfX12_158 rfl dX12_held_252 rfl ?_
            refine r_iald (pc1 := 256) w_91 dX12_held_255 rfl ?_
            exact r_iret rfl rfl dX12_held_256
          · exact r_wk (t_lp_X12_held_80 a3 v7 k13 hk13 FU 11 s10) ⟨Or.inr rfl, Or.inl rfl, Or.inl rfl, Or.inr rfl, Or.inr rfl, Or.inr rfl, Or.inl rfl, Or.inl rfl, Or.inl rfl, Or.inl rfl, Or.inl rfl, trivial⟩
        · exact r_wk (t_lp_X12_held_50 a3 v7 k11 hk11 FU 0 s9) ⟨Or.inr rfl, Or.inl rfl, Or.inl rfl, Or.inr rfl, Or.inr rfl, Or.inr rfl, Or.inl rfl, Or.inl rfl, Or.inl rfl, Or.inl rfl, Or.inl rfl, trivial⟩
/-! f_X12_number -/
noncomputable def lp_X12_number_40 (a1 : Int32) (a2 : Int32) (v5 : Int32) (k10 : Int32 → Int32 → Int32 → SS → Res) : Nat → Int32 → Int32 → Int32 → Int32 → SS → Res
  | 0, _, _, _, _, _ => none
  | n22 + 1, v17, v18, v19, v20, s21 => if (4 : Int32) < (v20 : Int32) then k10 v17 v18 v19 s21 else lts (up s21 56 3 v20) (fun (s24 : SS) => bd (f_X12_changes s24) (fun (v25 : Int32) (s26 : SS) => bd (f_X12_goesRound 0 0 a1 s26) (fun (v27 : Int32) (s28 : SS) => jn (fun (v29 : Int32) (v30 : Int32) (v31 : Int32) => lp_X12_number_40 a1 a2 v5 k10 n22 v29 v30 v31 (v20 + 1) s28) (fun (k32 : Int32 → Int32 → Int32 → Res) => jn (lt (s28 56 62) (fun (v34 : Int32) => lt (s28 56 61) (fun (v35 : Int32) => k32 v20 v34 v35))) (fun (k33 : Res) => if (v17 : Int32) ≤ 0 then k33 else if (0 : Int32) < (lg_cmp (((s28 56 62 : Int32).toInt64) * ((v19 : Int32).toInt64)) (((v18 : Int32).toInt64) * ((s28 56 61 : Int32).toInt64))) then k33 else k32 v17 v18 v19)))))
noncomputable def f_X12_number (a1 : Int32) (a2 : Int32) (s0 : SS) : Res := bdp (f_X12_isSort a1 s0) (fun (v1 : Int32) => if (v1 : Int32) = 0 then some ((-1000000), s0) else bdp (f_X12_lies ((a2 : Int32).toInt64) 0 2 s0) (fun (v3 : Int32) => if (v3 : Int32) = 0 then some ((-1000000), s0) else lt (s0 56 3) (fun (v5 : Int32) => jn (fun (v6 : Int32) (v7 : Int32) (v8 : Int32) (s9 : SS) => lts (up s9 56 3 v5) (fun (s11 : SS) => bd (f_X12_changes s11) (fun (v12 : Int32) (s13 : SS) => bdp (f_X12_divisor v7 v8 s13) (fun (v14 : Int32) => if (a2 : Int32) = 0 then some (v6, s13) else if (a2 : Int32) = (1 : Int32) then gd (¬ (v14 : Int32) = 0) (some (v7 / v14, s13)) else gd (¬ (v14 : Int32) = 0) (some (v8 / v14, s13)))))) (fun (k10 : Int32 → Int32 → Int32 → SS → Res) => lp_X12_number_40 a1 a2 v5 k10 FU 0 0 1 1 s0))))
set_option maxRecDepth 100000 in
set_option maxHeartbeats 4000000 in
theorem t_lp_X12_number_40 {l : Launch} (a1 : Int32) (a2 : Int32) (v5 : Int32) (k10 : Int32 → Int32 → Int32 → SS → Res) (hk10 : ∀ (v6 : Int32) (v7 : Int32) (v8 : Int32) (s9 : SS), RC l wF RX12 cX12_number 8 (some .int) 9 115 [.ref 56, .null, .int a2, .int v5, .int v6, .int v7, .int v8, .null] [] s9 (k10 v6 v7 v8 s9)) : ∀ (n22 : Nat) (v17 : Int32) (v18 : Int32) (v19 : Int32) (v20 : Int32) (s21 : SS), RC l wF RX12 cX12_number 8 (some .int) 9 40 [.ref 56, .int a1, .int a2, .int v5, .int v17, .int v18, .int v19, .int v20] [] s21 (lp_X12_number_40 a1 a2 v5 k10 n22 v17 v18 v19 v20 s21) := by
  intro n22
  induction n22 with
  | zero =>
    intro v17 v18 v19 v20 s21
    rw [lp_X12_number_40]
    exact r_none
  | succ n22 ih =>
    intro v17 v18 v19 v20 s21
    rw [lp_X12_number_40]
    refine r_iload (pc1 := 42) dX12_number_40 rfl rfl ?_
    refine r_iconst (v := 4) (pc1 := 43) dX12_number_42 ki_4 rfl ?_
    refine r_icmp_gt (tgt := 115) (pc1 := 46) dX12_number_43 (by decide) rfl (fun q23 => ?_) (fun q23 => ?_)
    · exact r_wk (hk10 v17 v18 v19 s21) ⟨Or.inr rfl, Or.inl rfl, Or.inr rfl, Or.inr rfl, Or.inr rfl, Or.inr rfl, Or.inr rfl, Or.inl rfl, trivial⟩
    · refine r_aload_n (pc1 := 47) (i := 0) dX12_number_46 rfl rfl rfl ?_
      refine r_iload (pc1 := 49) dX12_number_47 rfl rfl ?_
      refine r_putI (pc1 := 52) w_56 pfX12_13 rfl ⟨rfl, rfl⟩ dX12_number_49 rfl ?_
      refine r_lts (fun s24 => ?_)
      refine r_aload_n (pc1 := 53) (i := 0) dX12_number_52 rfl rfl rfl ?_
      refine r_callVv (pc1 := 56) (rv_of w_56 cl_12) lkX12_153 (c_X12_changes _) rfl rfl ⟨Nat.le_of_ble_eq_true rfl, Nat.le_of_ble_eq_true rfl⟩ (Nat.le_of_ble_eq_true rfl) dX12_number_53 rfl (fun v25 s26 => ?_)
      refine r_aload_n (pc1 := 57) (i := 0) dX12_number_56 rfl rfl rfl ?_
      refine r_iconst (v := 0) (pc1 := 58) dX12_number_57 ki_0 rfl ?_
      refine r_iconst (v := 0) (pc1 := 59) dX12_number_58 ki_0 rfl ?_
      refine r_iload_n (pc1 := 60) (i := 1) dX12_number_59 rfl rfl rfl ?_
      refine r_callVv (pc1 := 63) (rv_of w_56 cl_12) lkX12_410 (c_X12_goesRound _ _ _ _) rfl rfl ⟨Nat.le_of_ble_eq_true rfl, Nat.le_of_ble_eq_true rfl⟩ (Nat.le_of_ble_eq_true rfl) dX12_number_60 rfl (fun v27 s28 => ?_)
      refine r_iload (pc1 := 65) dX12_number_63 rfl rfl ?_
      refine r_jn (hyp := fun (k32 : Int32 → Int32 → Int32 → Res) => ∀ (v29 : Int32) (v30 : Int32) (v31 : Int32), RC l wF RX12 cX12_number 8 (some .int) 9 109 [.ref 56, .int a1, .int a2, .int v5, .int v29, .int v30, .int v31, .int v20] [] s28 (k32 v29 v30 v31)) (fun v29 v30 v31 => ?_) (fun k32 hk32 => ?_)
      · refine r_iinc (pc1 := 112) dX12_number_109 rfl (kn_1 _) (by decide) rfl rfl rfl ?_
        refine r_goto (tgt := 40) dX12_number_112 (by decide) ?_
        exact r_wk (ih v29 v30 v31 (v20 + 1) s28) ⟨Or.inr rfl, Or.inr rfl, Or.inr rfl, Or.inr rfl, Or.inr rfl, Or.inr rfl, Or.inr rfl, Or.inr rfl, trivial⟩
      · refine r_jn (hyp := fun (k33 : Res) => RC l wF RX12 cX12_number 8 (some .int) 9 93 [.ref 56, .int a1, .int a2, .int v5, .null, .null, .null, .int v20] [] s28 k33) (?_) (fun k33 hk33 => ?_)
        · refine r_iload (pc1 := 95) dX12_number_93 rfl rfl ?_
          refine r_istore (pc1 := 97) dX12_number_95 (by decide) rfl rfl rfl ?_
          refine r_aload_n (pc1 := 98) (i := 0) dX12_number_97 rfl rfl rfl ?_
          refine r_getI (pc1 := 101) w_56 gfX12_403 rfl dX12_number_98 rfl ?_
          refine r_lt (fun v34 => ?_)
          refine r_istore (pc1 := 103) dX12_number_101 (by decide) rfl rfl rfl ?_
          refine r_aload_n (pc1 := 104) (i := 0) dX12_number_103 rfl rfl rfl ?_
          refine r_getI (pc1 := 107) w_56 gfX12_400 rfl dX12_number_104 rfl ?_
          refine r_lt (fun v35 => ?_)
          refine r_istore (pc1 := 109) dX12_number_107 (by decide) rfl rfl rfl ?_
          exact r_wk (hk32 v20 v34 v35) ⟨Or.inr rfl, Or.inr rfl, Or.inr rfl, Or.inr rfl, Or.inr rfl, Or.inr rfl, Or.inr rfl, Or.inr rfl, trivial⟩
        · refine r_if_le (tgt := 93) (pc1 := 68) dX12_number_65 (by decide) rfl (fun q36 => ?_) (fun q36 => ?_)
          · exact r_wk (hk33) ⟨Or.inr rfl, Or.inr rfl, Or.inr rfl, Or.inr rfl, Or.inl rfl, Or.inl rfl, Or.inl rfl, Or.inr rfl, trivial⟩
          · refine r_aload_n (pc1 := 69) (i := 0) dX12_number_68 rfl rfl rfl ?_
            refine r_getI (pc1 := 72) w_56 gfX12_403 rfl dX12_number_69 rfl ?_
            refine r_i2l (pc1 := 73) dX12_number_72 rfl ?_
            refine r_iload (pc1 := 75) dX12_number_73 rfl rfl ?_
            refine r_i2l (pc1 := 76) dX12_number_75 rfl ?_
            refine r_lmul (pc1 := 77) dX12_number_76 rfl ?_
            refine r_iload (pc1 := 79) dX12_number_77 rfl rfl ?_
            refine r_i2l (pc1 := 80) dX12_number_79 rfl ?_
            refine r_aload_n (pc1 := 81) (i := 0) dX12_number_80 rfl rfl rfl ?_
            refine r_getI (pc1 := 84) w_56 gfX12_400 rfl dX12_number_81 rfl ?_
            refine r_i2l (pc1 := 85) dX12_number_84 rfl ?_
            refine r_lmul (pc1 := 86) dX12_number_85 rfl ?_
            refine r_lcmp (pc1 := 87) dX12_number_86 rfl ?_
            refine r_if_gt (tgt := 93) (pc1 := 90) dX12_number_87 (by decide) rfl (fun q37 => ?_) (fun q37 => ?_)
            · exact r_wk (hk33) ⟨Or.inr rfl, Or.inr rfl, Or.inr rfl, Or.inr rfl, Or.inl rfl, Or.inl rfl, Or.inl rfl, Or.inr rfl, trivial⟩
            · refine r_goto (tgt := 109) dX12_number_90 (by decide) ?_
              exact r_wk (hk32 v17 v18 v19) ⟨Or.inr rfl, Or.inr rfl, Or.inr rfl, Or.inr rfl, Or.inr rfl, Or.inr rfl, Or.inr rfl, Or.inr rfl, trivial⟩
set_option maxRecDepth 100000 in
set_option maxHeartbeats 4000000 in
theorem c_X12_number {l : Launch} (a1 : Int32) (a2 : Int32) (s0 : SS) : Ct l wF yX12_number cX12_number 8 (some .int) 9 [.ref 56, .int a1, .int a2] s0 (f_X12_number a1 a2 s0) := by
  refine ct_of (y := yX12_number) plX12 (Nat.le_of_ble_eq_true rfl) ?_
  refine r_pad0 5 (L1 := [.ref 56, .int a1, .int a2, .null, .null, .null, .null, .null]) rfl ?_
  unfold f_X12_number
  refine r_iload_n (pc1 := 1) (i := 1) dX12_number_0 rfl rfl rfl ?_
  refine r_callSp (pc1 := 4) lkX12_381 (c_X12_isSort _ _) rfl rfl ⟨Nat.le_of_ble_eq_true rfl, Nat.le_of_ble_eq_true rfl⟩ (Nat.le_of_ble_eq_true rfl) dX12_number_1 rfl (fun v1 => ?_)
  refine r_if_eq (tgt := 19) (pc1 := 7) dX12_number_4 (by decide) rfl (fun q2 => ?_) (fun q2 => ?_)
  · refine r_ldcw (v := (-1000000)) (pc1 := 22) dX12_number_19 cnX12_384 rfl ?_
    exact r_iret rfl rfl dX12_number_22
  · refine r_iload_n (pc1 := 8) (i := 2) dX12_number_7 rfl rfl rfl ?_
    refine r_i2l (pc1 := 9) dX12_number_8 rfl ?_
    refine r_lconst (v := 0) (pc1 := 10) dX12_number_9 kl_0 rfl ?_
    refine r_ldc2 (v := 2) (pc1 := 13) dX12_number_10 cnX12_467 rfl ?_
    refine r_callSp (pc1 := 16) lkX12_140 (c_X12_lies _ _ _ _) rfl rfl ⟨Nat.le_of_ble_eq_true rfl, Nat.le_of_ble_eq_true rfl⟩ (Nat.le_of_ble_eq_true rfl) dX12_number_13 rfl (fun v3 => ?_)
    refine r_if_ne (tgt := 23) (pc1 := 19) dX12_number_16 (by decide) rfl (fun q4 => ?_) (fun q4 => ?_)
    · refine r_ldcw (v := (-1000000)) (pc1 := 22) dX12_number_19 cnX12_384 rfl ?_
      exact r_iret rfl rfl dX12_number_22
    · refine r_aload_n (pc1 := 24) (i := 0) dX12_number_23 rfl rfl rfl ?_
      refine r_getI (pc1 := 27) w_56 gfX12_13 rfl dX12_number_24 rfl ?_
      refine r_lt (fun v5 => ?_)
      refine r_istore_n (pc1 := 28) (i := 3) dX12_number_27 rfl (by decide) rfl rfl rfl ?_
      refine r_iconst (v := 0) (pc1 := 29) dX12_number_28 ki_0 rfl ?_
      refine r_istore (pc1 := 31) dX12_number_29 (by decide) rfl rfl rfl ?_
      refine r_iconst (v := 0) (pc1 := 32) dX12_number_31 ki_0 rfl ?_
      refine r_istore (pc1 := 34) dX12_number_32 (by decide) rfl rfl rfl ?_
      refine r_iconst (v := 1) (pc1 := 35) dX12_number_34 ki_1 rfl ?_
      refine r_istore (pc1 := 37) dX12_number_35 (by decide) rfl rfl rfl ?_
      refine r_iconst (v := 1) (pc1 := 38) dX12_number_37 ki_1 rfl ?_
      refine r_istore (pc1 := 40) dX12_number_38 (by decide) rfl rfl rfl ?_
      refine r_jn (hyp := fun (k10 : Int32 → Int32 → Int32 → SS → Res) => ∀ (v6 : Int32) (v7 : Int32) (v8 : Int32) (s9 : SS), RC l wF RX12 cX12_number 8 (some .int) 9 115 [.ref 56, .null, .int a2, .int v5, .int v6, .int v7, .int v8, .null] [] s9 (k10 v6 v7 v8 s9)) (fun v6 v7 v8 s9 => ?_) (fun k10 hk10 => ?_)
      · refine r_aload_n (pc1 := 116) (i := 0) dX12_number_115 rfl rfl rfl ?_
        refine r_iload_n (pc1 := 117) (i := 3) dX12_number_116 rfl rfl rfl ?_
        refine r_putI (pc1 := 120) w_56 pfX12_13 rfl ⟨rfl, rfl⟩ dX12_number_117 rfl ?_
        refine r_lts (fun s11 => ?_)
        refine r_aload_n (pc1 := 121) (i := 0) dX12_number_120 rfl rfl rfl ?_
        refine r_callVv (pc1 := 124) (rv_of w_56 cl_12) lkX12_153 (c_X12_changes _) rfl rfl ⟨Nat.le_of_ble_eq_true rfl, Nat.le_of_ble_eq_true rfl⟩ (Nat.le_of_ble_eq_true rfl) dX12_number_121 rfl (fun v12 s13 => ?_)
        refine r_iload (pc1 := 126) dX12_number_124 rfl rfl ?_
        refine r_iload (pc1 := 128) dX12_number_126 rfl rfl ?_
        refine r_callSp (pc1 := 131) lkX12_414 (c_X12_divisor _ _ _) rfl rfl ⟨Nat.le_of_ble_eq_true rfl, Nat.le_of_ble_eq_true rfl⟩ (Nat.le_of_ble_eq_true rfl) dX12_number_128 rfl (fun v14 => ?_)
        refine r_istore (pc1 := 133) dX12_number_131 (by decide) rfl rfl rfl ?_
        refine r_iload_n (pc1 := 134) (i := 2) dX12_number_133 rfl rfl rfl ?_
        refine r_if_ne (tgt := 142) (pc1 := 137) dX12_number_134 (by decide) rfl (fun q15 => ?_) (fun q15 => ?_)
        · refine r_iload (pc1 := 139) dX12_number_137 rfl rfl ?_
          refine r_goto (tgt := 160) dX12_number_139 (by decide) ?_
          exact r_iret rfl rfl dX12_number_160
        · refine r_iload_n (pc1 := 143) (i := 2) dX12_number_142 rfl rfl rfl ?_
          refine r_iconst (v := 1) (pc1 := 144) dX12_number_143 ki_1 rfl ?_
          refine r_icmp_ne (tgt := 155) (pc1 := 147) dX12_number_144 (by decide) rfl (fun q16 => ?_) (fun q16 => ?_)
          · refine r_iload (pc1 := 149) dX12_number_147 rfl rfl ?_
            refine r_iload (pc1 := 151) dX12_number_149 rfl rfl ?_
            refine r_idiv (pc1 := 152) dX12_number_151 rfl ?_
            refine r_goto (tgt := 160) dX12_number_152 (by decide) ?_
            exact r_iret rfl rfl dX12_number_160
          · refine r_iload (pc1 := 157) dX12_number_155 rfl rfl ?_
            refine r_iload (pc1 := 159) dX12_number_157 rfl rfl ?_
            refine r_idiv (pc1 := 160) dX12_number_159 rfl ?_
            exact r_iret rfl rfl dX12_number_160
      · exact r_wk (t_lp_X12_number_40 a1 a2 v5 k10 hk10 FU 0 0 1 1 s0) ⟨Or.inr rfl, Or.inr rfl, Or.inr rfl, Or.inr rfl, Or.inr rfl, Or.inr rfl, Or.inr rfl, Or.inr rfl, trivial⟩
/-! f_X12_isDeed -/
noncomputable def f_X12_isDeed (a1 : Int32) (s0 : SS) : Option Int32 := bdp (f_X12_lies ((a1 : Int32).toInt64) 0 7 s0) (fun (v1 : Int32) => gd ((v1 : Int32) = 0 ∨ (v1 : Int32) = 1) (some v1))
set_option maxRecDepth 100000 in
set_option maxHeartbeats 4000000 in
theorem c_X12_isDeed {l : Launch} (a1 : Int32) (s0 : SS) : Ct l wF yX12_isDeed cX12_isDeed 1 (some .boolean) 1 [.int a1] s0 (pu (f_X12_isDeed a1 s0) s0) := by
  refine ct_of (y := yX12_isDeed) plX12 (Nat.le_of_ble_eq_true rfl) ?_
  refine r_pad0 0 (L1 := [.int a1]) rfl ?_
  unfold f_X12_isDeed
  refine r_iload_n (pc1 := 1) (i := 0) dX12_isDeed_0 rfl rfl rfl ?_
  refine r_i2l (pc1 := 2) dX12_isDeed_1 rfl ?_
  refine r_lconst (v := 0) (pc1 := 3) dX12_isDeed_2 kl_0 rfl ?_
  refine r_ldc2 (v := 7) (pc1 := 6) dX12_isDeed_3 cnX12_469 rfl ?_
  refine p_callSp (pc1 := 9) lkX12_140 (c_X12_lies _ _ _ _) rfl rfl ⟨Nat.le_of_ble_eq_true rfl, Nat.le_of_ble_eq_true rfl⟩ (Nat.le_of_ble_eq_true rfl) dX12_isDeed_6 rfl (fun v1 => ?_)
  refine p_gd (fun q2 => ?_)
  exact p_iret rfl (zb_ok q2).1 dX12_isDeed_9
/-! f_X12_deed -/
noncomputable def f_X12_deed (a1 : Int32) (a2 : Int32) (s0 : SS) : Res := bdp (f_X12_isDeed a1 s0) (fun (v1 : Int32) => if (v1 : Int32) = 0 then some (0, s0) else bdp (f_X12_lies ((a2 : Int32).toInt64) 0 255 s0) (fun (v3 : Int32) => if (v3 : Int32) = 0 then some (0, s0) else gd (inb a1 8) (lts (up s0 94 (Int32.toNatClampNeg a1) a2) (fun (s5 : SS) => some (1, s5)))))
set_option maxRecDepth 100000 in
set_option maxHeartbeats 4000000 in
theorem c_X12_deed {l : Launch} (a1 : Int32) (a2 : Int32) (s0 : SS) : Ct l wF yX12_deed cX12_deed 3 (some .boolean) 2 [.ref 56, .int a1, .int a2] s0 (f_X12_deed a1 a2 s0) := by
  refine ct_of (y := yX12_deed) plX12 (Nat.le_of_ble_eq_true rfl) ?_
  refine r_pad0 0 (L1 := [.ref 56, .int a1, .int a2]) rfl ?_
  unfold f_X12_deed
  refine r_iload_n (pc1 := 1) (i := 1) dX12_deed_0 rfl rfl rfl ?_
  refine r_callSp (pc1 := 4) lkX12_471 (c_X12_isDeed _ _) rfl rfl ⟨Nat.le_of_ble_eq_true rfl, Nat.le_of_ble_eq_true rfl⟩ (Nat.le_of_ble_eq_true rfl) dX12_deed_1 rfl (fun v1 => ?_)
  refine r_if_eq (tgt := 19) (pc1 := 7) dX12_deed_4 (by decide) rfl (fun q2 => ?_) (fun q2 => ?_)
  · refine r_iconst (v := 0) (pc1 := 20) dX12_deed_19 ki_0 rfl ?_
    exact r_iret rfl rfl dX12_deed_20
  · refine r_iload_n (pc1 := 8) (i := 2) dX12_deed_7 rfl rfl rfl ?_
    refine r_i2l (pc1 := 9) dX12_deed_8 rfl ?_
    refine r_lconst (v := 0) (pc1 := 10) dX12_deed_9 kl_0 rfl ?_
    refine r_ldc2 (v := 255) (pc1 := 13) dX12_deed_10 cnX12_149 rfl ?_
    refine r_callSp (pc1 := 16) lkX12_140 (c_X12_lies _ _ _ _) rfl rfl ⟨Nat.le_of_ble_eq_true rfl, Nat.le_of_ble_eq_true rfl⟩ (Nat.le_of_ble_eq_true rfl) dX12_deed_13 rfl (fun v3 => ?_)
    refine r_if_ne (tgt := 21) (pc1 := 19) dX12_deed_16 (by decide) rfl (fun q4 => ?_) (fun q4 => ?_)
    · refine r_iconst (v := 0) (pc1 := 20) dX12_deed_19 ki_0 rfl ?_
      exact r_iret rfl rfl dX12_deed_20
    · refine r_aload_n (pc1 := 22) (i := 0) dX12_deed_21 rfl rfl rfl ?_
      refine r_getR (pc1 := 25) w_56 gfX12_135 rfl dX12_deed_22 rfl ?_
      refine r_iload_n (pc1 := 26) (i := 1) dX12_deed_25 rfl rfl rfl ?_
      refine r_iload_n (pc1 := 27) (i := 2) dX12_deed_26 rfl rfl rfl ?_
      refine r_iast (pc1 := 28) w_94 dX12_deed_27 rfl ?_
      refine r_lts (fun s5 => ?_)
      refine r_iconst (v := 1) (pc1 := 29) dX12_deed_28 ki_1 rfl ?_
      exact r_iret rfl rfl dX12_deed_29
/-! f_X12_isLawful -/
noncomputable def f_X12_isLawful (a1 : Int32) (s0 : SS) : Option Int32 := gd (inb a1 8) (if ((s0 94 (Int32.toNatClampNeg a1)) &&& (s0 56 50) : Int32) = 0 then some 1 else some 0)
set_option maxRecDepth 100000 in
set_option maxHeartbeats 4000000 in
theorem c_X12_isLawful {l : Launch} (a1 : Int32) (s0 : SS) : Ct l wF yX12_isLawful cX12_isLawful 2 (some .int) 0 [.ref 56, .int a1] s0 (pu (f_X12_isLawful a1 s0) s0) := by
  refine ct_of (y := yX12_isLawful) plX12 (Nat.le_of_ble_eq_true rfl) ?_
  refine r_pad0 0 (L1 := [.ref 56, .int a1]) rfl ?_
  unfold f_X12_isLawful
  refine r_aload_n (pc1 := 1) (i := 0) dX12_isLawful_0 rfl rfl rfl ?_
  refine r_getR (pc1 := 4) w_56 gfX12_135 rfl dX12_isLawful_1 rfl ?_
  refine r_iload_n (pc1 := 5) (i := 1) dX12_isLawful_4 rfl rfl rfl ?_
  refine p_iald (pc1 := 6) w_94 dX12_isLawful_5 rfl ?_
  refine r_aload_n (pc1 := 7) (i := 0) dX12_isLawful_6 rfl rfl rfl ?_
  refine r_getI (pc1 := 10) w_56 gfX12_332 rfl dX12_isLawful_7 rfl ?_
  refine r_iand (pc1 := 11) dX12_isLawful_10 rfl ?_
  refine p_if_ne (tgt := 18) (pc1 := 14) dX12_isLawful_11 (by decide) rfl (fun q1 => ?_) (fun q1 => ?_)
  · refine r_iconst (v := 1) (pc1 := 15) dX12_isLawful_14 ki_1 rfl ?_
    refine r_goto (tgt := 19) dX12_isLawful_15 (by decide) ?_
    exact p_iret rfl rfl dX12_isLawful_19
  · refine r_iconst (v := 0) (pc1 := 19) dX12_isLawful_18 ki_0 rfl ?_
    exact p_iret rfl rfl dX12_isLawful_19
/-! f_X12_lawful -/
noncomputable def f_X12_lawful (a1 : Int32) (s0 : SS) : Res := bdp (f_X12_isDeed a1 s0) (fun (v1 : Int32) => if (v1 : Int32) = 0 then some ((-1), s0) else bd (f_X12_laysRow (s0 56 4) s0) (fun (v3 : Int32) (s4 : SS) => bdp (f_X12_isLawful a1 s4) (fun (v5 : Int32) => some (v5, s4))))
set_option maxRecDepth 100000 in
set_option maxHeartbeats 4000000 in
theorem c_X12_lawful {l : Launch} (a1 : Int32) (s0 : SS) : Ct l wF yX12_lawful cX12_lawful 2 (some .int) 2 [.ref 56, .int a1] s0 (f_X12_lawful a1 s0) := by
  refine ct_of (y := yX12_lawful) plX12 (Nat.le_of_ble_eq_true rfl) ?_
  refine r_pad0 0 (L1 := [.ref 56, .int a1]) rfl ?_
  unfold f_X12_lawful
  refine r_iload_n (pc1 := 1) (i := 1) dX12_lawful_0 rfl rfl rfl ?_
  refine r_callSp (pc1 := 4) lkX12_471 (c_X12_isDeed _ _) rfl rfl ⟨Nat.le_of_ble_eq_true rfl, Nat.le_of_ble_eq_true rfl⟩ (Nat.le_of_ble_eq_true rfl) dX12_lawful_1 rfl (fun v1 => ?_)
  refine r_if_ne (tgt := 9) (pc1 := 7) dX12_lawful_4 (by decide) rfl (fun q2 => ?_) (fun q2 => ?_)
  · refine r_iconst (v := (-1)) (pc1 := 8) dX12_lawful_7 ki_m1 rfl ?_
    exact r_iret rfl rfl dX12_lawful_8
  · refine r_aload_n (pc1 := 10) (i := 0) dX12_lawful_9 rfl rfl rfl ?_
    refine r_aload_n (pc1 := 11) (i := 0) dX12_lawful_10 rfl rfl rfl ?_
    refine r_getI (pc1 := 14) w_56 gfX12_158 rfl dX12_lawful_11 rfl ?_
    refine r_callVv (pc1 := 17) (rv_of w_56 cl_12) lkX12_339 (c_X12_laysRow _ _) rfl rfl ⟨Nat.le_of_ble_eq_true rfl, Nat.le_of_ble_eq_true rfl⟩ (Nat.le_of_ble_eq_true rfl) dX12_lawful_14 rfl (fun v3 s4 => ?_)
    refine r_aload_n (pc1 := 18) (i := 0) dX12_lawful_17 rfl rfl rfl ?_
    refine r_iload_n (pc1 := 19) (i := 1) dX12_lawful_18 rfl rfl rfl ?_
    refine r_callVp (pc1 := 22) (rv_of w_56 cl_12) lkX12_474 (c_X12_isLawful _ _) rfl rfl ⟨Nat.le_of_ble_eq_true rfl, Nat.le_of_ble_eq_true rfl⟩ (Nat.le_of_ble_eq_true rfl) dX12_lawful_19 rfl (fun v5 => ?_)
    exact r_iret rfl rfl dX12_lawful_22
/-! f_X12_fitsAll -/
noncomputable def lp_X12_fitsAll_2 (a1 : Int32) (s0 : SS) : Nat → Int32 → Option Int32
  | 0, _ => none
  | n2 + 1, v1 => if (a1 : Int32) ≤ (v1 : Int32) then some 1 else gd (inb (2 * v1) 220) (bdp (f_X12_isLawful (s0 57 (Int32.toNatClampNeg (2 * v1))) s0) (fun (v4 : Int32) => gd (inb ((2 * v1) + 1) 220) (if (v4 : Int32) = (s0 57 (Int32.toNatClampNeg ((2 * v1) + 1)) : Int32) then lp_X12_fitsAll_2 a1 s0 n2 (v1 + 1) else some 0)))
noncomputable def f_X12_fitsAll (a1 : Int32) (s0 : SS) : Option Int32 := lp_X12_fitsAll_2 a1 s0 FU 0
set_option maxRecDepth 100000 in
set_option maxHeartbeats 4000000 in
theorem t_lp_X12_fitsAll_2 {l : Launch} (a1 : Int32) (s0 : SS)  : ∀ (n2 : Nat) (v1 : Int32), RC l wF RX12 cX12_fitsAll 3 (some .boolean) 1 2 [.ref 56, .int a1, .int v1] [] s0 (pu (lp_X12_fitsAll_2 a1 s0 n2 v1) s0) := by
  intro n2
  induction n2 with
  | zero =>
    intro v1
    rw [lp_X12_fitsAll_2]
    exact p_none
  | succ n2 ih =>
    intro v1
    rw [lp_X12_fitsAll_2]
    refine r_iload_n (pc1 := 3) (i := 2) dX12_fitsAll_2 rfl rfl rfl ?_
    refine r_iload_n (pc1 := 4) (i := 1) dX12_fitsAll_3 rfl rfl rfl ?_
    refine p_icmp_ge (tgt := 40) (pc1 := 7) dX12_fitsAll_4 (by decide) rfl (fun q3 => ?_) (fun q3 => ?_)
    · refine r_iconst (v := 1) (pc1 := 41) dX12_fitsAll_40 ki_1 rfl ?_
      exact p_iret rfl rfl dX12_fitsAll_41
    · refine r_aload_n (pc1 := 8) (i := 0) dX12_fitsAll_7 rfl rfl rfl ?_
      refine r_aload_n (pc1 := 9) (i := 0) dX12_fitsAll_8 rfl rfl rfl ?_
      refine r_getR (pc1 := 12) w_56 gfX12_7 rfl dX12_fitsAll_9 rfl ?_
      refine r_iconst (v := 2) (pc1 := 13) dX12_fitsAll_12 ki_2 rfl ?_
      refine r_iload_n (pc1 := 14) (i := 2) dX12_fitsAll_13 rfl rfl rfl ?_
      refine r_imul (pc1 := 15) dX12_fitsAll_14 rfl ?_
      refine p_bald (pc1 := 16) w_57 dX12_fitsAll_15 rfl ?_
      refine p_callVp (pc1 := 19) (rv_of w_56 cl_12) lkX12_474 (c_X12_isLawful _ _) rfl rfl ⟨Nat.le_of_ble_eq_true rfl, Nat.le_of_ble_eq_true rfl⟩ (Nat.le_of_ble_eq_true rfl) dX12_fitsAll_16 rfl (fun v4 => ?_)
      refine r_aload_n (pc1 := 20) (i := 0) dX12_fitsAll_19 rfl rfl rfl ?_
      refine r_getR (pc1 := 23) w_56 gfX12_7 rfl dX12_fitsAll_20 rfl ?_
      refine r_iconst (v := 2) (pc1 := 24) dX12_fitsAll_23 ki_2 rfl ?_
      refine r_iload_n (pc1 := 25) (i := 2) dX12_fitsAll_24 rfl rfl rfl ?_
      refine r_imul (pc1 := 26) dX12_fitsAll_25 rfl ?_
      refine r_iconst (v := 1) (pc1 := 27) dX12_fitsAll_26 ki_1 rfl ?_
      refine r_iadd (pc1 := 28) dX12_fitsAll_27 rfl ?_
      refine p_bald (pc1 := 29) w_57 dX12_fitsAll_28 rfl ?_
      refine p_icmp_eq (tgt := 34) (pc1 := 32) dX12_fitsAll_29 (by decide) rfl (fun q5 => ?_) (fun q5 => ?_)
      · refine r_iinc (pc1 := 37) dX12_fitsAll_34 rfl (kn_1 _) (by decide) rfl rfl rfl ?_
        refine r_goto (tgt := 2) dX12_fitsAll_37 (by decide) ?_
        exact r_wk (ih (v1 + 1)) ⟨Or.inr rfl, Or.inr rfl, Or.inr rfl, trivial⟩
      · refine r_iconst (v := 0) (pc1 := 33) dX12_fitsAll_32 ki_0 rfl ?_
        exact p_iret rfl rfl dX12_fitsAll_33
set_option maxRecDepth 100000 in
set_option maxHeartbeats 4000000 in
theorem c_X12_fitsAll {l : Launch} (a1 : Int32) (s0 : SS) : Ct l wF yX12_fitsAll cX12_fitsAll 3 (some .boolean) 1 [.ref 56, .int a1] s0 (pu (f_X12_fitsAll a1 s0) s0) := by
  refine ct_of (y := yX12_fitsAll) plX12 (Nat.le_of_ble_eq_true rfl) ?_
  refine r_pad0 1 (L1 := [.ref 56, .int a1, .null]) rfl ?_
  unfold f_X12_fitsAll
  refine r_iconst (v := 0) (pc1 := 1) dX12_fitsAll_0 ki_0 rfl ?_
  refine r_istore_n (pc1 := 2) (i := 2) dX12_fitsAll_1 rfl (by decide) rfl rfl rfl ?_
  exact r_wk (t_lp_X12_fitsAll_2 a1 s0 FU 0) ⟨Or.inr rfl, Or.inr rfl, Or.inr rfl, trivial⟩
/-! f_X12_fits -/
noncomputable def lp_X12_fits_134 (a1 : Int32) (a2 : Int32) (v8 : Int32) (k15 : Int32 → Int32 → Int32 → SS → Res) : Nat → Int32 → Int32 → Int32 → Int32 → SS → Res
  | 0, _, _, _, _, _ => none
  | n24 + 1, v19, v20, v21, v22, s23 => if (v8 : Int32) ≤ (v22 : Int32) then k15 v19 v20 v21 s23 else bd (f_X12_isRow v22 s23) (fun (v26 : Int32) (s27 : SS) => jn (fun (v28 : Int32) (v29 : Int32) (v30 : Int32) => lp_X12_fits_134 a1 a2 v8 k15 n24 v28 v29 v30 (v22 + 1) s27) (fun (k31 : Int32 → Int32 → Int32 → Res) => if (v26 : Int32) = 0 then k31 v19 v20 v21 else bdp (f_X12_fitsAll a1 s27) (fun (v33 : Int32) => if (v33 : Int32) = 0 then k31 v19 v20 v21 else lt (v20 &&& (s27 56 49)) (fun (v35 : Int32) => lt (v21 ||| (s27 56 49)) (fun (v36 : Int32) => k31 (v19 + 1) v35 v36)))))
noncomputable def lp_X12_fits_43 (a1 : Int32) (a2 : Int32) (s6 : SS) (k7 : Res) : Nat → Int32 → Res
  | 0, _ => none
  | n40 + 1, v39 => if (a1 : Int32) ≤ (v39 : Int32) then k7 else gd (inb (2 * v39) 220) (bdp (f_X12_isDeed (s6 57 (Int32.toNatClampNeg (2 * v39))) s6) (fun (v42 : Int32) => if (v42 : Int32) = 0 then some ((-2), s6) else gd (inb ((2 * v39) + 1) 220) (bdp (f_X12_lies ((s6 57 (Int32.toNatClampNeg ((2 * v39) + 1)) : Int32).toInt64) 0 1 s6) (fun (v44 : Int32) => if (v44 : Int32) = 0 then some ((-2), s6) else lp_X12_fits_43 a1 a2 s6 k7 n40 (v39 + 1)))))
noncomputable def f_X12_fits (a1 : Int32) (a2 : Int32) (s0 : SS) : Res := bdp (f_X12_lies ((a1 : Int32).toInt64) 0 20 s0) (fun (v1 : Int32) => if (v1 : Int32) = 0 then some ((-1), s0) else bdp (f_X12_lies ((a2 : Int32).toInt64) 0 2 s0) (fun (v3 : Int32) => if (v3 : Int32) = 0 then some ((-1), s0) else if (2 * a1 : Int32) ≤ (s0 56 1 : Int32) then lts (up s0 56 1 0) (fun (s6 : SS) => jn (jn (fun (v8 : Int32) => bdp (f_X12_firstOf (s6 56 3) s6) (fun (v10 : Int32) => jn (fun (v11 : Int32) (v12 : Int32) (v13 : Int32) (s14 : SS) => if (a2 : Int32) = 0 then some (v11, s14) else if (v11 : Int32) = 0 then some (0, s14) else if (a2 : Int32) = (1 : Int32) then some (v12, s14) else some (((1 <<< ((s14 56 2) &&& 31)) - 1) &&& (v13 ^^^ ((-1))), s14)) (fun (k15 : Int32 → Int32 → Int32 → SS → Res) => lp_X12_fits_134 a1 a2 v8 k15 FU 0 255 0 v10 s6))) (fun (k9 : Int32 → Res) => if (s6 56 3 : Int32) = (4 : Int32) then k9 4681 else bdp (f_X12_firstOf ((s6 56 3) + 1) s6) (fun (v38 : Int32) => k9 v38))) (fun (k7 : Res) => lp_X12_fits_43 a1 a2 s6 k7 FU 0)) else some ((-1), s0)))
set_option maxRecDepth 100000 in
set_option maxHeartbeats 4000000 in
theorem t_lp_X12_fits_134 {l : Launch} (a1 : Int32) (a2 : Int32) (v8 : Int32) (k15 : Int32 → Int32 → Int32 → SS → Res) (hk15 : ∀ (v11 : Int32) (v12 : Int32) (v13 : Int32) (s14 : SS), RC l wF RX12 cX12_fits 8 (some .int) 3 188 [.ref 56, .null, .int a2, .int v11, .int v12, .int v13, .null, .null] [] s14 (k15 v11 v12 v13 s14)) : ∀ (n24 : Nat) (v19 : Int32) (v20 : Int32) (v21 : Int32) (v22 : Int32) (s23 : SS), RC l wF RX12 cX12_fits 8 (some .int) 3 134 [.ref 56, .int a1, .int a2, .int v19, .int v20, .int v21, .int v8, .int v22] [] s23 (lp_X12_fits_134 a1 a2 v8 k15 n24 v19 v20 v21 v22 s23) := by
  intro n24
  induction n24 with
  | zero =>
    intro v19 v20 v21 v22 s23
    rw [lp_X12_fits_134]
    exact r_none
  | succ n24 ih =>
    intro v19 v20 v21 v22 s23
    rw [lp_X12_fits_134]
    refine r_iload (pc1 := 136) dX12_fits_134 rfl rfl ?_
    refine r_iload (pc1 := 138) dX12_fits_136 rfl rfl ?_
    refine r_icmp_ge (tgt := 188) (pc1 := 141) dX12_fits_138 (by decide) rfl (fun q25 => ?_) (fun q25 => ?_)
    · exact r_wk (hk15 v19 v20 v21 s23) ⟨Or.inr rfl, Or.inl rfl, Or.inr rfl, Or.inr rfl, Or.inr rfl, Or.inr rfl, Or.inl rfl, Or.inl rfl, trivial⟩
    · refine r_aload_n (pc1 := 142) (i := 0) dX12_fits_141 rfl rfl rfl ?_
      refine r_iload (pc1 := 144) dX12_fits_142 rfl rfl ?_
      refine r_callVi (pc1 := 147) (rv_of w_56 cl_12) lkX12_449 (c_X12_isRow _ _) rfl rfl ⟨Nat.le_of_ble_eq_true rfl, Nat.le_of_ble_eq_true rfl⟩ (Nat.le_of_ble_eq_true rfl) dX12_fits_144 rfl (fun v26 s27 => ?_)
      refine r_jn (hyp := fun (k31 : Int32 → Int32 → Int32 → Res) => ∀ (v28 : Int32) (v29 : Int32) (v30 : Int32), RC l wF RX12 cX12_fits 8 (some .int) 3 182 [.ref 56, .int a1, .int a2, .int v28, .int v29, .int v30, .int v8, .int v22] [] s27 (k31 v28 v29 v30)) (fun v28 v29 v30 => ?_) (fun k31 hk31 => ?_)
      · refine r_iinc (pc1 := 185) dX12_fits_182 rfl (kn_1 _) (by decide) rfl rfl rfl ?_
        refine r_goto (tgt := 134) dX12_fits_185 (by decide) ?_
        exact r_wk (ih v28 v29 v30 (v22 + 1) s27) ⟨Or.inr rfl, Or.inr rfl, Or.inr rfl, Or.inr rfl, Or.inr rfl, Or.inr rfl, Or.inr rfl, Or.inr rfl, trivial⟩
      · refine r_if_eq (tgt := 182) (pc1 := 150) dX12_fits_147 (by decide) rfl (fun q32 => ?_) (fun q32 => ?_)
        · exact r_wk (hk31 v19 v20 v21) ⟨Or.inr rfl, Or.inr rfl, Or.inr rfl, Or.inr rfl, Or.inr rfl, Or.inr rfl, Or.inr rfl, Or.inr rfl, trivial⟩
        · refine r_aload_n (pc1 := 151) (i := 0) dX12_fits_150 rfl rfl rfl ?_
          refine r_iload_n (pc1 := 152) (i := 1) dX12_fits_151 rfl rfl rfl ?_
          refine r_callVp (pc1 := 155) (rv_of w_56 cl_12) lkX12_477 (c_X12_fitsAll _ _) rfl rfl ⟨Nat.le_of_ble_eq_true rfl, Nat.le_of_ble_eq_true rfl⟩ (Nat.le_of_ble_eq_true rfl) dX12_fits_152 rfl (fun v33 => ?_)
          refine r_if_ne (tgt := 161) (pc1 := 158) dX12_fits_155 (by decide) rfl (fun q34 => ?_) (fun q34 => ?_)
          · refine r_goto (tgt := 182) dX12_fits_158 (by decide) ?_
            exact r_wk (hk31 v19 v20 v21) ⟨Or.inr rfl, Or.inr rfl, Or.inr rfl, Or.inr rfl, Or.inr rfl, Or.inr rfl, Or.inr rfl, Or.inr rfl, trivial⟩
          · refine r_iinc (pc1 := 164) dX12_fits_161 rfl (kn_1 _) (by decide) rfl rfl rfl ?_
            refine r_iload (pc1 := 166) dX12_fits_164 rfl rfl ?_
            refine r_aload_n (pc1 := 167) (i := 0) dX12_fits_166 rfl rfl rfl ?_
            refine r_getI (pc1 := 170) w_56 gfX12_329 rfl dX12_fits_167 rfl ?_
            refine r_iand (pc1 := 171) dX12_fits_170 rfl ?_
            refine r_lt (fun v35 => ?_)
            refine r_istore (pc1 := 173) dX12_fits_171 (by decide) rfl rfl rfl ?_
            refine r_iload (pc1 := 175) dX12_fits_173 rfl rfl ?_
            refine r_aload_n (pc1 := 176) (i := 0) dX12_fits_175 rfl rfl rfl ?_
            refine r_getI (pc1 := 179) w_56 gfX12_329 rfl dX12_fits_176 rfl ?_
            refine r_ior (pc1 := 180) dX12_fits_179 rfl ?_
            refine r_lt (fun v36 => ?_)
            refine r_istore (pc1 := 182) dX12_fits_180 (by decide) rfl rfl rfl ?_
            exact r_wk (hk31 (v19 + 1) v35 v36) ⟨Or.inr rfl, Or.inr rfl, Or.inr rfl, Or.inr rfl, Or.inr rfl, Or.inr rfl, Or.inr rfl, Or.inr rfl, trivial⟩
set_option maxRecDepth 100000 in
set_option maxHeartbeats 4000000 in
theorem t_lp_X12_fits_43 {l : Launch} (a1 : Int32) (a2 : Int32) (s6 : SS) (k7 : Res) (hk7 : RC l wF RX12 cX12_fits 8 (some .int) 3 90 [.ref 56, .int a1, .int a2, .null, .null, .null, .null, .null] [] s6 k7) : ∀ (n40 : Nat) (v39 : Int32), RC l wF RX12 cX12_fits 8 (some .int) 3 43 [.ref 56, .int a1, .int a2, .int v39, .null, .null, .null, .null] [] s6 (lp_X12_fits_43 a1 a2 s6 k7 n40 v39) := by
  intro n40
  induction n40 with
  | zero =>
    intro v39
    rw [lp_X12_fits_43]
    exact r_none
  | succ n40 ih =>
    intro v39
    rw [lp_X12_fits_43]
    refine r_iload_n (pc1 := 44) (i := 3) dX12_fits_43 rfl rfl rfl ?_
    refine r_iload_n (pc1 := 45) (i := 1) dX12_fits_44 rfl rfl rfl ?_
    refine r_icmp_ge (tgt := 90) (pc1 := 48) dX12_fits_45 (by decide) rfl (fun q41 => ?_) (fun q41 => ?_)
    · exact r_wk (hk7) ⟨Or.inr rfl, Or.inr rfl, Or.inr rfl, Or.inl rfl, Or.inl rfl, Or.inl rfl, Or.inl rfl, Or.inl rfl, trivial⟩
    · refine r_aload_n (pc1 := 49) (i := 0) dX12_fits_48 rfl rfl rfl ?_
      refine r_getR (pc1 := 52) w_56 gfX12_7 rfl dX12_fits_49 rfl ?_
      refine r_iconst (v := 2) (pc1 := 53) dX12_fits_52 ki_2 rfl ?_
      refine r_iload_n (pc1 := 54) (i := 3) dX12_fits_53 rfl rfl rfl ?_
      refine r_imul (pc1 := 55) dX12_fits_54 rfl ?_
      refine r_bald (pc1 := 56) w_57 dX12_fits_55 rfl ?_
      refine r_callSp (pc1 := 59) lkX12_471 (c_X12_isDeed _ _) rfl rfl ⟨Nat.le_of_ble_eq_true rfl, Nat.le_of_ble_eq_true rfl⟩ (Nat.le_of_ble_eq_true rfl) dX12_fits_56 rfl (fun v42 => ?_)
      refine r_if_eq (tgt := 81) (pc1 := 62) dX12_fits_59 (by decide) rfl (fun q43 => ?_) (fun q43 => ?_)
      · refine r_bipush (v := (-2)) (pc1 := 83) dX12_fits_81 kb_m2 rfl ?_
        exact r_iret rfl rfl dX12_fits_83
      · refine r_aload_n (pc1 := 63) (i := 0) dX12_fits_62 rfl rfl rfl ?_
        refine r_getR (pc1 := 66) w_56 gfX12_7 rfl dX12_fits_63 rfl ?_
        refine r_iconst (v := 2) (pc1 := 67) dX12_fits_66 ki_2 rfl ?_
        refine r_iload_n (pc1 := 68) (i := 3) dX12_fits_67 rfl rfl rfl ?_
        refine r_imul (pc1 := 69) dX12_fits_68 rfl ?_
        refine r_iconst (v := 1) (pc1 := 70) dX12_fits_69 ki_1 rfl ?_
        refine r_iadd (pc1 := 71) dX12_fits_70 rfl ?_
        refine r_bald (pc1 := 72) w_57 dX12_fits_71 rfl ?_
        refine r_i2l (pc1 := 73) dX12_fits_72 rfl ?_
        refine r_lconst (v := 0) (pc1 := 74) dX12_fits_73 kl_0 rfl ?_
        refine r_lconst (v := 1) (pc1 := 75) dX12_fits_74 kl_1 rfl ?_
        refine r_callSp (pc1 := 78) lkX12_140 (c_X12_lies _ _ _ _) rfl rfl ⟨Nat.le_of_ble_eq_true rfl, Nat.le_of_ble_eq_true rfl⟩ (Nat.le_of_ble_eq_true rfl) dX12_fits_75 rfl (fun v44 => ?_)
        refine r_if_ne (tgt := 84) (pc1 := 81) dX12_fits_78 (by decide) rfl (fun q45 => ?_) (fun q45 => ?_)
        · refine r_bipush (v := (-2)) (pc1 := 83) dX12_fits_81 kb_m2 rfl ?_
          exact r_iret rfl rfl dX12_fits_83
        · refine r_iinc (pc1 := 87) dX12_fits_84 rfl (kn_1 _) (by decide) rfl rfl rfl ?_
          refine r_goto (tgt := 43) dX12_fits_87 (by decide) ?_
          exact r_wk (ih (v39 + 1)) ⟨Or.inr rfl, Or.inr rfl, Or.inr rfl, Or.inr rfl, Or.inl rfl, Or.inl rfl, Or.inl rfl, Or.inl rfl, trivial⟩
set_option maxRecDepth 100000 in
set_option maxHeartbeats 4000000 in
theorem c_X12_fits {l : Launch} (a1 : Int32) (a2 : Int32) (s0 : SS) : Ct l wF yX12_fits cX12_fits 8 (some .int) 3 [.ref 56, .int a1, .int a2] s0 (f_X12_fits a1 a2 s0) := by
  refine ct_of (y := yX12_fits) plX12 (Nat.le_of_ble_eq_true rfl) ?_
  refine r_pad0 5 (L1 := [.ref 56, .int a1, .int a2, .null, .null, .null, .null, .null]) rfl ?_
  unfold f_X12_fits
  refine r_iload_n (pc1 := 1) (i := 1) dX12_fits_0 rfl rfl rfl ?_
  refine r_i2l (pc1 := 2) dX12_fits_1 rfl ?_
  refine r_lconst (v := 0) (pc1 := 3) dX12_fits_2 kl_0 rfl ?_
  refine r_ldc2 (v := 20) (pc1 := 6) dX12_fits_3 cnX12_406 rfl ?_
  refine r_callSp (pc1 := 9) lkX12_140 (c_X12_lies _ _ _ _) rfl rfl ⟨Nat.le_of_ble_eq_true rfl, Nat.le_of_ble_eq_true rfl⟩ (Nat.le_of_ble_eq_true rfl) dX12_fits_6 rfl (fun v1 => ?_)
  refine r_if_eq (tgt := 34) (pc1 := 12) dX12_fits_9 (by decide) rfl (fun q2 => ?_) (fun q2 => ?_)
  · refine r_iconst (v := (-1)) (pc1 := 35) dX12_fits_34 ki_m1 rfl ?_
    exact r_iret rfl rfl dX12_fits_35
  · refine r_iload_n (pc1 := 13) (i := 2) dX12_fits_12 rfl rfl rfl ?_
    refine r_i2l (pc1 := 14) dX12_fits_13 rfl ?_
    refine r_lconst (v := 0) (pc1 := 15) dX12_fits_14 kl_0 rfl ?_
    refine r_ldc2 (v := 2) (pc1 := 18) dX12_fits_15 cnX12_467 rfl ?_
    refine r_callSp (pc1 := 21) lkX12_140 (c_X12_lies _ _ _ _) rfl rfl ⟨Nat.le_of_ble_eq_true rfl, Nat.le_of_ble_eq_true rfl⟩ (Nat.le_of_ble_eq_true rfl) dX12_fits_18 rfl (fun v3 => ?_)
    refine r_if_eq (tgt := 34) (pc1 := 24) dX12_fits_21 (by decide) rfl (fun q4 => ?_) (fun q4 => ?_)
    · refine r_iconst (v := (-1)) (pc1 := 35) dX12_fits_34 ki_m1 rfl ?_
      exact r_iret rfl rfl dX12_fits_35
    · refine r_iconst (v := 2) (pc1 := 25) dX12_fits_24 ki_2 rfl ?_
      refine r_iload_n (pc1 := 26) (i := 1) dX12_fits_25 rfl rfl rfl ?_
      refine r_imul (pc1 := 27) dX12_fits_26 rfl ?_
      refine r_aload_n (pc1 := 28) (i := 0) dX12_fits_27 rfl rfl rfl ?_
      refine r_getI (pc1 := 31) w_56 gfX12_165 rfl dX12_fits_28 rfl ?_
      refine r_icmp_le (tgt := 36) (pc1 := 34) dX12_fits_31 (by decide) rfl (fun q5 => ?_) (fun q5 => ?_)
      · refine r_aload_n (pc1 := 37) (i := 0) dX12_fits_36 rfl rfl rfl ?_
        refine r_iconst (v := 0) (pc1 := 38) dX12_fits_37 ki_0 rfl ?_
        refine r_putI (pc1 := 41) w_56 pfX12_165 rfl ⟨rfl, rfl⟩ dX12_fits_38 rfl ?_
        refine r_lts (fun s6 => ?_)
        refine r_iconst (v := 0) (pc1 := 42) dX12_fits_41 ki_0 rfl ?_
        refine r_istore_n (pc1 := 43) (i := 3) dX12_fits_42 rfl (by decide) rfl rfl rfl ?_
        refine r_jn (hyp := fun (k7 : Res) => RC l wF RX12 cX12_fits 8 (some .int) 3 90 [.ref 56, .int a1, .int a2, .null, .null, .null, .null, .null] [] s6 k7) (?_) (fun k7 hk7 => ?_)
        · refine r_iconst (v := 0) (pc1 := 91) dX12_fits_90 ki_0 rfl ?_
          refine r_istore_n (pc1 := 92) (i := 3) dX12_fits_91 rfl (by decide) rfl rfl rfl ?_
          refine r_sipush (v := 255) (pc1 := 95) dX12_fits_92 ks_255 rfl ?_
          refine r_istore (pc1 := 97) dX12_fits_95 (by decide) rfl rfl rfl ?_
          refine r_iconst (v := 0) (pc1 := 98) dX12_fits_97 ki_0 rfl ?_
          refine r_istore (pc1 := 100) dX12_fits_98 (by decide) rfl rfl rfl ?_
          refine r_aload_n (pc1 := 101) (i := 0) dX12_fits_100 rfl rfl rfl ?_
          refine r_getI (pc1 := 104) w_56 gfX12_13 rfl dX12_fits_101 rfl ?_
          refine r_iconst (v := 4) (pc1 := 105) dX12_fits_104 ki_4 rfl ?_
          refine r_jn (hyp := fun (k9 : Int32 → Res) => ∀ (v8 : Int32), RC l wF RX12 cX12_fits 8 (some .int) 3 123 [.ref 56, .int a1, .int a2, .int 0, .int 255, .int 0, .null, .null] [.int v8] s6 (k9 v8)) (fun v8 => ?_) (fun k9 hk9 => ?_)
          · refine r_istore (pc1 := 125) dX12_fits_123 (by decide) rfl rfl rfl ?_
            refine r_aload_n (pc1 := 126) (i := 0) dX12_fits_125 rfl rfl rfl ?_
            refine r_getI (pc1 := 129) w_56 gfX12_13 rfl dX12_fits_126 rfl ?_
            refine r_callSp (pc1 := 132) lkX12_326 (c_X12_firstOf _ _) rfl rfl ⟨Nat.le_of_ble_eq_true rfl, Nat.le_of_ble_eq_true rfl⟩ (Nat.le_of_ble_eq_true rfl) dX12_fits_129 rfl (fun v10 => ?_)
            refine r_istore (pc1 := 134) dX12_fits_132 (by decide) rfl rfl rfl ?_
            refine r_jn (hyp := fun (k15 : Int32 → Int32 → Int32 → SS → Res) => ∀ (v11 : Int32) (v12 : Int32) (v13 : Int32) (s14 : SS), RC l wF RX12 cX12_fits 8 (some .int) 3 188 [.ref 56, .null, .int a2, .int v11, .int v12, .int v13, .null, .null] [] s14 (k15 v11 v12 v13 s14)) (fun v11 v12 v13 s14 => ?_) (fun k15 hk15 => ?_)
            · refine r_iload_n (pc1 := 189) (i := 2) dX12_fits_188 rfl rfl rfl ?_
              refine r_if_ne (tgt := 194) (pc1 := 192) dX12_fits_189 (by decide) rfl (fun q16 => ?_) (fun q16 => ?_)
              · refine r_iload_n (pc1 := 193) (i := 3) dX12_fits_192 rfl rfl rfl ?_
                exact r_iret rfl rfl dX12_fits_193
              · refine r_iload_n (pc1 := 195) (i := 3) dX12_fits_194 rfl rfl rfl ?_
                refine r_if_ne (tgt := 202) (pc1 := 198) dX12_fits_195 (by decide) rfl (fun q17 => ?_) (fun q17 => ?_)
                · refine r_iconst (v := 0) (pc1 := 199) dX12_fits_198 ki_0 rfl ?_
                  refine r_goto (tgt := 225) dX12_fits_199 (by decide) ?_
                  exact r_iret rfl rfl dX12_fits_225
                · refine r_iload_n (pc1 := 203) (i := 2) dX12_fits_202 rfl rfl rfl ?_
                  refine r_iconst (v := 1) (pc1 := 204) dX12_fits_203 ki_1 rfl ?_
                  refine r_icmp_ne (tgt := 212) (pc1 := 207) dX12_fits_204 (by decide) rfl (fun q18 => ?_) (fun q18 => ?_)
                  · refine r_iload (pc1 := 209) dX12_fits_207 rfl rfl ?_
                    refine r_goto (tgt := 225) dX12_fits_209 (by decide) ?_
                    exact r_iret rfl rfl dX12_fits_225
                  · refine r_iconst (v := 1) (pc1 := 213) dX12_fits_212 ki_1 rfl ?_
                    refine r_aload_n (pc1 := 214) (i := 0) dX12_fits_213 rfl rfl rfl ?_
                    refine r_getI (pc1 := 217) w_56 gfX12_144 rfl dX12_fits_214 rfl ?_
                    refine r_ishl (pc1 := 218) dX12_fits_217 rfl ?_
                    refine r_iconst (v := 1) (pc1 := 219) dX12_fits_218 ki_1 rfl ?_
                    refine r_isub (pc1 := 220) dX12_fits_219 rfl ?_
                    refine r_iload (pc1 := 222) dX12_fits_220 rfl rfl ?_
                    refine r_iconst (v := (-1)) (pc1 := 223) dX12_fits_222 ki_m1 rfl ?_
                    refine r_ixor (pc1 := 224) dX12_fits_223 rfl ?_
                    refine r_iand (pc1 := 225) dX12_fits_224 rfl ?_
                    exact r_iret rfl rfl dX12_fits_225
            · exact r_wk (t_lp_X12_fits_134 a1 a2 v8 k15 hk15 FU 0 255 0 v10 s6) ⟨Or.inr rfl, Or.inr rfl, Or.inr rfl, Or.inr rfl, Or.inr rfl, Or.inr rfl, Or.inr rfl, Or.inr rfl, trivial⟩
          · refine r_icmp_ne (tgt := 114) (pc1 := 108) dX12_fits_105 (by decide) rfl (fun q37 => ?_) (fun q37 => ?_)
            · refine r_sipush (v := 4681) (pc1 := 111) dX12_fits_108 ks_4681 rfl ?_
              refine r_goto (tgt := 123) dX12_fits_111 (by decide) ?_
              exact r_wk (hk9 4681) ⟨Or.inr rfl, Or.inr rfl, Or.inr rfl, Or.inr rfl, Or.inr rfl, Or.inr rfl, Or.inl rfl, Or.inl rfl, trivial⟩
            · refine r_aload_n (pc1 := 115) (i := 0) dX12_fits_114 rfl rfl rfl ?_
              refine r_getI (pc1 := 118) w_56 gfX12_13 rfl dX12_fits_115 rfl ?_
              refine r_iconst (v := 1) (pc1 := 119) dX12_fits_118 ki_1 rfl ?_
              refine r_iadd (pc1 := 120) dX12_fits_119 rfl ?_
              refine r_callSp (pc1 := 123) lkX12_326 (c_X12_firstOf _ _) rfl rfl ⟨Nat.le_of_ble_eq_true rfl, Nat.le_of_ble_eq_true rfl⟩ (Nat.le_of_ble_eq_true rfl) dX12_fits_120 rfl (fun v38 => ?_)
              exact r_wk (hk9 v38) ⟨Or.inr rfl, Or.inr rfl, Or.inr rfl, Or.inr rfl, Or.inr rfl, Or.inr rfl, Or.inl rfl, Or.inl rfl, trivial⟩
        · exact r_wk (t_lp_X12_fits_43 a1 a2 s6 k7 hk7 FU 0) ⟨Or.inr rfl, Or.inr rfl, Or.inr rfl, Or.inr rfl, Or.inl rfl, Or.inl rfl, Or.inl rfl, Or.inl rfl, trivial⟩
      · refine r_iconst (v := (-1)) (pc1 := 35) dX12_fits_34 ki_m1 rfl ?_
        exact r_iret rfl rfl dX12_fits_35
/-! f_X12_seed -/
noncomputable def f_X12_seed (a1 : Int32) (s0 : SS) : Res := bdp (f_X12_lies ((a1 : Int32).toInt64) 0 65535 s0) (fun (v1 : Int32) => if (v1 : Int32) = 0 then some (0, s0) else lts (up s0 56 8 a1) (fun (s3 : SS) => some (1, s3)))
set_option maxRecDepth 100000 in
set_option maxHeartbeats 4000000 in
theorem c_X12_seed {l : Launch} (a1 : Int32) (s0 : SS) : Ct l wF yX12_seed cX12_seed 2 (some .boolean) 1 [.ref 56, .int a1] s0 (f_X12_seed a1 s0) := by
  refine ct_of (y := yX12_seed) plX12 (Nat.le_of_ble_eq_true rfl) ?_
  refine r_pad0 0 (L1 := [.ref 56, .int a1]) rfl ?_
  unfold f_X12_seed
  refine r_iload_n (pc1 := 1) (i := 1) dX12_seed_0 rfl rfl rfl ?_
  refine r_i2l (pc1 := 2) dX12_seed_1 rfl ?_
  refine r_lconst (v := 0) (pc1 := 3) dX12_seed_2 kl_0 rfl ?_
  refine r_ldc2 (v := 65535) (pc1 := 6) dX12_seed_3 cnX12_480 rfl ?_
  refine r_callSp (pc1 := 9) lkX12_140 (c_X12_lies _ _ _ _) rfl rfl ⟨Nat.le_of_ble_eq_true rfl, Nat.le_of_ble_eq_true rfl⟩ (Nat.le_of_ble_eq_true rfl) dX12_seed_6 rfl (fun v1 => ?_)
  refine r_if_ne (tgt := 14) (pc1 := 12) dX12_seed_9 (by decide) rfl (fun q2 => ?_) (fun q2 => ?_)
  · refine r_iconst (v := 0) (pc1 := 13) dX12_seed_12 ki_0 rfl ?_
    exact r_iret rfl rfl dX12_seed_13
  · refine r_aload_n (pc1 := 15) (i := 0) dX12_seed_14 rfl rfl rfl ?_
    refine r_iload_n (pc1 := 16) (i := 1) dX12_seed_15 rfl rfl rfl ?_
    refine r_putI (pc1 := 19) w_56 pfX12_20 rfl ⟨rfl, rfl⟩ dX12_seed_16 rfl ?_
    refine r_lts (fun s3 => ?_)
    refine r_iconst (v := 1) (pc1 := 20) dX12_seed_19 ki_1 rfl ?_
    exact r_iret rfl rfl dX12_seed_20
/-! f_X12_draw -/
noncomputable def lp_X12_draw_18 (a1 : Int32) : Nat → Int32 → Int32 → SS → Res
  | 0, _, _, _ => none
  | n6 + 1, v3, v4, s5 => if (a1 : Int32) ≤ (v4 : Int32) then some (v3, s5) else gd (¬ (65536 : Int32) = 0) (lts (up s5 56 8 (((25173 * (s5 56 8)) + 13849) - ((25173 * (s5 56 8)) + 13849) / 65536 * 65536)) (fun (s8 : SS) => gd (¬ (4 : Int32) = 0) (bd (f_X12_makes (s8 56 4) ((s8 56 8) - (s8 56 8) / 4 * 4) s8) (fun (v9 : Int32) (s10 : SS) => jn (fun (v11 : Int32) => lt (v3 + v11) (fun (v13 : Int32) => gd (¬ (4 : Int32) = 0) (bd (f_X12_done ((s10 56 8) - (s10 56 8) / 4 * 4) v9 s10) (fun (v14 : Int32) (s15 : SS) => lp_X12_draw_18 a1 n6 v13 (v4 + 1) s15)))) (fun (k12 : Int32 → Res) => if (8 : Int32) ≤ (v9 : Int32) then k12 0 else k12 1)))))
noncomputable def f_X12_draw (a1 : Int32) (s0 : SS) : Res := bdp (f_X12_lies ((a1 : Int32).toInt64) 1 100 s0) (fun (v1 : Int32) => if (v1 : Int32) = 0 then some ((-1), s0) else lp_X12_draw_18 a1 FU 0 0 s0)
set_option maxRecDepth 100000 in
set_option maxHeartbeats 4000000 in
theorem t_lp_X12_draw_18 {l : Launch} (a1 : Int32)  : ∀ (n6 : Nat) (v3 : Int32) (v4 : Int32) (s5 : SS), RC l wF RX12 cX12_draw 6 (some .int) 8 18 [.ref 56, .int a1, .int v3, .int v4, .null, .null] [] s5 (lp_X12_draw_18 a1 n6 v3 v4 s5) := by
  intro n6
  induction n6 with
  | zero =>
    intro v3 v4 s5
    rw [lp_X12_draw_18]
    exact r_none
  | succ n6 ih =>
    intro v3 v4 s5
    rw [lp_X12_draw_18]
    refine r_iload_n (pc1 := 19) (i := 3) dX12_draw_18 rfl rfl rfl ?_
    refine r_iload_n (pc1 := 20) (i := 1) dX12_draw_19 rfl rfl rfl ?_
    refine r_icmp_ge (tgt := 94) (pc1 := 23) dX12_draw_20 (by decide) rfl (fun q7 => ?_) (fun q7 => ?_)
    · refine r_iload_n (pc1 := 95) (i := 2) dX12_draw_94 rfl rfl rfl ?_
      exact r_iret rfl rfl dX12_draw_95
    · refine r_aload_n (pc1 := 24) (i := 0) dX12_draw_23 rfl rfl rfl ?_
      refine r_sipush (v := 25173) (pc1 := 27) dX12_draw_24 ks_25173 rfl ?_
      refine r_aload_n (pc1 := 28) (i := 0) dX12_draw_27 rfl rfl rfl ?_
      refine r_getI (pc1 := 31) w_56 gfX12_20 rfl dX12_draw_28 rfl ?_
      refine r_imul (pc1 := 32) dX12_draw_31 rfl ?_
      refine r_sipush (v := 13849) (pc1 := 35) dX12_draw_32 ks_13849 rfl ?_
      refine r_iadd (pc1 := 36) dX12_draw_35 rfl ?_
      refine r_ldcw (v := 65536) (pc1 := 39) dX12_draw_36 cnX12_484 rfl ?_
      refine r_irem (pc1 := 40) dX12_draw_39 rfl ?_
      refine r_putI (pc1 := 43) w_56 pfX12_20 rfl ⟨rfl, rfl⟩ dX12_draw_40 rfl ?_
      refine r_lts (fun s8 => ?_)
      refine r_aload_n (pc1 := 44) (i := 0) dX12_draw_43 rfl rfl rfl ?_
      refine r_aload_n (pc1 := 45) (i := 0) dX12_draw_44 rfl rfl rfl ?_
      refine r_getI (pc1 := 48) w_56 gfX12_158 rfl dX12_draw_45 rfl ?_
      refine r_aload_n (pc1 := 49) (i := 0) dX12_draw_48 rfl rfl rfl ?_
      refine r_getI (pc1 := 52) w_56 gfX12_20 rfl dX12_draw_49 rfl ?_
      refine r_iconst (v := 4) (pc1 := 53) dX12_draw_52 ki_4 rfl ?_
      refine r_irem (pc1 := 54) dX12_draw_53 rfl ?_
      refine r_callVi (pc1 := 57) (rv_of w_56 cl_12) lkX12_385 (c_X12_makes _ _ _) rfl rfl ⟨Nat.le_of_ble_eq_true rfl, Nat.le_of_ble_eq_true rfl⟩ (Nat.le_of_ble_eq_true rfl) dX12_draw_54 rfl (fun v9 s10 => ?_)
      refine r_istore (pc1 := 59) dX12_draw_57 (by decide) rfl rfl rfl ?_
      refine r_iload_n (pc1 := 60) (i := 2) dX12_draw_59 rfl rfl rfl ?_
      refine r_iload (pc1 := 62) dX12_draw_60 rfl rfl ?_
      refine r_bipush (v := 8) (pc1 := 64) dX12_draw_62 kb_8 rfl ?_
      refine r_jn (hyp := fun (k12 : Int32 → Res) => ∀ (v11 : Int32), RC l wF RX12 cX12_draw 6 (some .int) 8 72 [.ref 56, .int a1, .null, .int v4, .int v9, .null] [.int v11, .int v3] s10 (k12 v11)) (fun v11 => ?_) (fun k12 hk12 => ?_)
      · refine r_iadd (pc1 := 73) dX12_draw_72 rfl ?_
        refine r_lt (fun v13 => ?_)
        refine r_istore_n (pc1 := 74) (i := 2) dX12_draw_73 rfl (by decide) rfl rfl rfl ?_
        refine r_aload_n (pc1 := 75) (i := 0) dX12_draw_74 rfl rfl rfl ?_
        refine r_aload_n (pc1 := 76) (i := 0) dX12_draw_75 rfl rfl rfl ?_
        refine r_getI (pc1 := 79) w_56 gfX12_20 rfl dX12_draw_76 rfl ?_
        refine r_iconst (v := 4) (pc1 := 80) dX12_draw_79 ki_4 rfl ?_
        refine r_irem (pc1 := 81) dX12_draw_80 rfl ?_
        refine r_iload (pc1 := 83) dX12_draw_81 rfl rfl ?_
        refine r_callVi (pc1 := 86) (rv_of w_56 cl_12) lkX12_378 (c_X12_done _ _ _) rfl rfl ⟨Nat.le_of_ble_eq_true rfl, Nat.le_of_ble_eq_true rfl⟩ (Nat.le_of_ble_eq_true rfl) dX12_draw_83 rfl (fun v14 s15 => ?_)
        refine r_istore (pc1 := 88) dX12_draw_86 (by decide) rfl rfl rfl ?_
        refine r_iinc (pc1 := 91) dX12_draw_88 rfl (kn_1 _) (by decide) rfl rfl rfl ?_
        refine r_goto (tgt := 18) dX12_draw_91 (by decide) ?_
        exact r_wk (ih v13 (v4 + 1) s15) ⟨Or.inr rfl, Or.inr rfl, Or.inr rfl, Or.inr rfl, Or.inl rfl, Or.inl rfl, trivial⟩
      · refine r_icmp_ge (tgt := 71) (pc1 := 67) dX12_draw_64 (by decide) rfl (fun q16 => ?_) (fun q16 => ?_)
        · refine r_iconst (v := 0) (pc1 := 72) dX12_draw_71 ki_0 rfl ?_
          exact r_wk (hk12 0) ⟨Or.inr rfl, Or.inr rfl, Or.inl rfl, Or.inr rfl, Or.inr rfl, Or.inl rfl, trivial⟩
        · refine r_iconst (v := 1) (pc1 := 68) dX12_draw_67 ki_1 rfl ?_
          refine r_goto (tgt := 72) dX12_draw_68 (by decide) ?_
          exact r_wk (hk12 1) ⟨Or.inr rfl, Or.inr rfl, Or.inl rfl, Or.inr rfl, Or.inr rfl, Or.inl rfl, trivial⟩
set_option maxRecDepth 100000 in
set_option maxHeartbeats 4000000 in
theorem c_X12_draw {l : Launch} (a1 : Int32) (s0 : SS) : Ct l wF yX12_draw cX12_draw 6 (some .int) 8 [.ref 56, .int a1] s0 (f_X12_draw a1 s0) := by
  refine ct_of (y := yX12_draw) plX12 (Nat.le_of_ble_eq_true rfl) ?_
  refine r_pad0 4 (L1 := [.ref 56, .int a1, .null, .null, .null, .null]) rfl ?_
  unfold f_X12_draw
  refine r_iload_n (pc1 := 1) (i := 1) dX12_draw_0 rfl rfl rfl ?_
  refine r_i2l (pc1 := 2) dX12_draw_1 rfl ?_
  refine r_lconst (v := 1) (pc1 := 3) dX12_draw_2 kl_1 rfl ?_
  refine r_ldc2 (v := 100) (pc1 := 6) dX12_draw_3 cnX12_482 rfl ?_
  refine r_callSp (pc1 := 9) lkX12_140 (c_X12_lies _ _ _ _) rfl rfl ⟨Nat.le_of_ble_eq_true rfl, Nat.le_of_ble_eq_true rfl⟩ (Nat.le_of_ble_eq_true rfl) dX12_draw_6 rfl (fun v1 => ?_)
  refine r_if_ne (tgt := 14) (pc1 := 12) dX12_draw_9 (by decide) rfl (fun q2 => ?_) (fun q2 => ?_)
  · refine r_iconst (v := (-1)) (pc1 := 13) dX12_draw_12 ki_m1 rfl ?_
    exact r_iret rfl rfl dX12_draw_13
  · refine r_iconst (v := 0) (pc1 := 15) dX12_draw_14 ki_0 rfl ?_
    refine r_istore_n (pc1 := 16) (i := 2) dX12_draw_15 rfl (by decide) rfl rfl rfl ?_
    refine r_iconst (v := 0) (pc1 := 17) dX12_draw_16 ki_0 rfl ?_
    refine r_istore_n (pc1 := 18) (i := 3) dX12_draw_17 rfl (by decide) rfl rfl rfl ?_
    exact r_wk (t_lp_X12_draw_18 a1 FU 0 0 s0) ⟨Or.inr rfl, Or.inr rfl, Or.inr rfl, Or.inr rfl, Or.inl rfl, Or.inl rfl, trivial⟩
/-! f_X12_book -/
noncomputable def f_X12_book (a1 : Int32) (a2 : Int32) (s0 : SS) : Option Int32 := bdp (f_X12_lies ((a1 : Int32).toInt64) 0 (((s0 56 9) - 1 : Int32).toInt64) s0) (fun (v1 : Int32) => if (v1 : Int32) = 0 then some ((-1)) else if (a2 : Int32) = 0 then gd (inb a1 100) (some (s0 85 (Int32.toNatClampNeg a1))) else if (a2 : Int32) = (1 : Int32) then gd (inb a1 100) (some (s0 86 (Int32.toNatClampNeg a1))) else if (a2 : Int32) = (2 : Int32) then gd (inb a1 100) (some (s0 87 (Int32.toNatClampNeg a1))) else if (a2 : Int32) = (3 : Int32) then gd (inb a1 100) (some (s0 88 (Int32.toNatClampNeg a1))) else some ((-1)))
set_option maxRecDepth 100000 in
set_option maxHeartbeats 4000000 in
theorem c_X12_book {l : Launch} (a1 : Int32) (a2 : Int32) (s0 : SS) : Ct l wF yX12_book cX12_book 3 (some .int) 1 [.ref 56, .int a1, .int a2] s0 (pu (f_X12_book a1 a2 s0) s0) := by
  refine ct_of (y := yX12_book) plX12 (Nat.le_of_ble_eq_true rfl) ?_
  refine r_pad0 0 (L1 := [.ref 56, .int a1, .int a2]) rfl ?_
  unfold f_X12_book
  refine r_iload_n (pc1 := 1) (i := 1) dX12_book_0 rfl rfl rfl ?_
  refine r_i2l (pc1 := 2) dX12_book_1 rfl ?_
  refine r_lconst (v := 0) (pc1 := 3) dX12_book_2 kl_0 rfl ?_
  refine r_aload_n (pc1 := 4) (i := 0) dX12_book_3 rfl rfl rfl ?_
  refine r_getI (pc1 := 7) w_56 gfX12_372 rfl dX12_book_4 rfl ?_
  refine r_iconst (v := 1) (pc1 := 8) dX12_book_7 ki_1 rfl ?_
  refine r_isub (pc1 := 9) dX12_book_8 rfl ?_
  refine r_i2l (pc1 := 10) dX12_book_9 rfl ?_
  refine p_callSp (pc1 := 13) lkX12_140 (c_X12_lies _ _ _ _) rfl rfl ⟨Nat.le_of_ble_eq_true rfl, Nat.le_of_ble_eq_true rfl⟩ (Nat.le_of_ble_eq_true rfl) dX12_book_10 rfl (fun v1 => ?_)
  refine p_if_ne (tgt := 18) (pc1 := 16) dX12_book_13 (by decide) rfl (fun q2 => ?_) (fun q2 => ?_)
  · refine r_iconst (v := (-1)) (pc1 := 17) dX12_book_16 ki_m1 rfl ?_
    exact p_iret rfl rfl dX12_book_17
  · refine r_iload_n (pc1 := 19) (i := 2) dX12_book_18 rfl rfl rfl ?_
    refine p_if_ne (tgt := 31) (pc1 := 22) dX12_book_19 (by decide) rfl (fun q3 => ?_) (fun q3 => ?_)
    · refine r_aload_n (pc1 := 23) (i := 0) dX12_book_22 rfl rfl rfl ?_
      refine r_getR (pc1 := 26) w_56 gfX12_106 rfl dX12_book_23 rfl ?_
      refine r_iload_n (pc1 := 27) (i := 1) dX12_book_26 rfl rfl rfl ?_
      refine p_iald (pc1 := 28) w_85 dX12_book_27 rfl ?_
      refine r_goto (tgt := 74) dX12_book_28 (by decide) ?_
      exact p_iret rfl rfl dX12_book_74
    · refine r_iload_n (pc1 := 32) (i := 2) dX12_book_31 rfl rfl rfl ?_
      refine r_iconst (v := 1) (pc1 := 33) dX12_book_32 ki_1 rfl ?_
      refine p_icmp_ne (tgt := 45) (pc1 := 36) dX12_book_33 (by decide) rfl (fun q4 => ?_) (fun q4 => ?_)
      · refine r_aload_n (pc1 := 37) (i := 0) dX12_book_36 rfl rfl rfl ?_
        refine r_getR (pc1 := 40) w_56 gfX12_109 rfl dX12_book_37 rfl ?_
        refine r_iload_n (pc1 := 41) (i := 1) dX12_book_40 rfl rfl rfl ?_
        refine p_iald (pc1 := 42) w_86 dX12_book_41 rfl ?_
        refine r_goto (tgt := 74) dX12_book_42 (by decide) ?_
        exact p_iret rfl rfl dX12_book_74
      · refine r_iload_n (pc1 := 46) (i := 2) dX12_book_45 rfl rfl rfl ?_
        refine r_iconst (v := 2) (pc1 := 47) dX12_book_46 ki_2 rfl ?_
        refine p_icmp_ne (tgt := 59) (pc1 := 50) dX12_book_47 (by decide) rfl (fun q5 => ?_) (fun q5 => ?_)
        · refine r_aload_n (pc1 := 51) (i := 0) dX12_book_50 rfl rfl rfl ?_
          refine r_getR (pc1 := 54) w_56 gfX12_112 rfl dX12_book_51 rfl ?_
          refine r_iload_n (pc1 := 55) (i := 1) dX12_book_54 rfl rfl rfl ?_
          refine p_iald (pc1 := 56) w_87 dX12_book_55 rfl ?_
          refine r_goto (tgt := 74) dX12_book_56 (by decide) ?_
          exact p_iret rfl rfl dX12_book_74
        · refine r_iload_n (pc1 := 60) (i := 2) dX12_book_59 rfl rfl rfl ?_
          refine r_iconst (v := 3) (pc1 := 61) dX12_book_60 ki_3 rfl ?_
          refine p_icmp_ne (tgt := 73) (pc1 := 64) dX12_book_61 (by decide) rfl (fun q6 => ?_) (fun q6 => ?_)
          · refine r_aload_n (pc1 := 65) (i := 0) dX12_book_64 rfl rfl rfl ?_
            refine r_getR (pc1 := 68) w_56 gfX12_115 rfl dX12_book_65 rfl ?_
            refine r_iload_n (pc1 := 69) (i := 1) dX12_book_68 rfl rfl rfl ?_
            refine p_iald (pc1 := 70) w_88 dX12_book_69 rfl ?_
            refine r_goto (tgt := 74) dX12_book_70 (by decide) ?_
            exact p_iret rfl rfl dX12_book_74
          · refine r_iconst (v := (-1)) (pc1 := 74) dX12_book_73 ki_m1 rfl ?_
            exact p_iret rfl rfl dX12_book_74
/-! f_X12_keep -/
noncomputable def f_X12_keep  (s0 : SS) : Res := lts (up s0 56 68 1) (fun (s1 : SS) => lts (up s1 56 69 (s1 56 4)) (fun (s2 : SS) => lts (up s2 56 70 (s2 56 6)) (fun (s3 : SS) => lts (up s3 56 71 (s3 56 7)) (fun (s4 : SS) => lts (up s4 56 72 (s4 56 8)) (fun (s5 : SS) => lts (up s5 56 73 (s5 56 9)) (fun (s6 : SS) => bdp (f_X12_manyOf (s6 56 4) s6) (fun (v7 : Int32) => some (v7, s6))))))))
set_option maxRecDepth 100000 in
set_option maxHeartbeats 4000000 in
theorem c_X12_keep {l : Launch}  (s0 : SS) : Ct l wF yX12_keep cX12_keep 1 (some .int) 1 [.ref 56] s0 (f_X12_keep s0) := by
  refine ct_of (y := yX12_keep) plX12 (Nat.le_of_ble_eq_true rfl) ?_
  refine r_pad0 0 (L1 := [.ref 56]) rfl ?_
  unfold f_X12_keep
  refine r_aload_n (pc1 := 1) (i := 0) dX12_keep_0 rfl rfl rfl ?_
  refine r_iconst (v := 1) (pc1 := 2) dX12_keep_1 ki_1 rfl ?_
  refine r_putI (pc1 := 5) w_56 pfX12_161 rfl ⟨rfl, rfl⟩ dX12_keep_2 rfl ?_
  refine r_lts (fun s1 => ?_)
  refine r_aload_n (pc1 := 6) (i := 0) dX12_keep_5 rfl rfl rfl ?_
  refine r_aload_n (pc1 := 7) (i := 0) dX12_keep_6 rfl rfl rfl ?_
  refine r_getI (pc1 := 10) w_56 gfX12_158 rfl dX12_keep_7 rfl ?_
  refine r_putI (pc1 := 13) w_56 pfX12_485 rfl ⟨rfl, rfl⟩ dX12_keep_10 rfl ?_
  refine r_lts (fun s2 => ?_)
  refine r_aload_n (pc1 := 14) (i := 0) dX12_keep_13 rfl rfl rfl ?_
  refine r_aload_n (pc1 := 15) (i := 0) dX12_keep_14 rfl rfl rfl ?_
  refine r_getI (pc1 := 18) w_56 gfX12_172 rfl dX12_keep_15 rfl ?_
  refine r_putI (pc1 := 21) w_56 pfX12_488 rfl ⟨rfl, rfl⟩ dX12_keep_18 rfl ?_
  refine r_lts (fun s3 => ?_)
  refine r_aload_n (pc1 := 22) (i := 0) dX12_keep_21 rfl rfl rfl ?_
  refine r_aload_n (pc1 := 23) (i := 0) dX12_keep_22 rfl rfl rfl ?_
  refine r_getI (pc1 := 26) w_56 gfX12_375 rfl dX12_keep_23 rfl ?_
  refine r_putI (pc1 := 29) w_56 pfX12_491 rfl ⟨rfl, rfl⟩ dX12_keep_26 rfl ?_
  refine r_lts (fun s4 => ?_)
  refine r_aload_n (pc1 := 30) (i := 0) dX12_keep_29 rfl rfl rfl ?_
  refine r_aload_n (pc1 := 31) (i := 0) dX12_keep_30 rfl rfl rfl ?_
  refine r_getI (pc1 := 34) w_56 gfX12_20 rfl dX12_keep_31 rfl ?_
  refine r_putI (pc1 := 37) w_56 pfX12_494 rfl ⟨rfl, rfl⟩ dX12_keep_34 rfl ?_
  refine r_lts (fun s5 => ?_)
  refine r_aload_n (pc1 := 38) (i := 0) dX12_keep_37 rfl rfl rfl ?_
  refine r_aload_n (pc1 := 39) (i := 0) dX12_keep_38 rfl rfl rfl ?_
  refine r_getI (pc1 := 42) w_56 gfX12_372 rfl dX12_keep_39 rfl ?_
  refine r_putI (pc1 := 45) w_56 pfX12_497 rfl ⟨rfl, rfl⟩ dX12_keep_42 rfl ?_
  refine r_lts (fun s6 => ?_)
  refine r_aload_n (pc1 := 46) (i := 0) dX12_keep_45 rfl rfl rfl ?_
  refine r_getI (pc1 := 49) w_56 gfX12_158 rfl dX12_keep_46 rfl ?_
  refine r_callSp (pc1 := 52) lkX12_323 (c_X12_manyOf _ _) rfl rfl ⟨Nat.le_of_ble_eq_true rfl, Nat.le_of_ble_eq_true rfl⟩ (Nat.le_of_ble_eq_true rfl) dX12_keep_49 rfl (fun v7 => ?_)
  exact r_iret rfl rfl dX12_keep_52
/-! f_X12_undo -/
noncomputable def f_X12_undo  (s0 : SS) : Res := if (s0 56 68 : Int32) = 0 then some (0, s0) else lts (up s0 56 4 (s0 56 69)) (fun (s2 : SS) => lts (up s2 56 6 (s2 56 70)) (fun (s3 : SS) => lts (up s3 56 7 (s3 56 71)) (fun (s4 : SS) => lts (up s4 56 8 (s4 56 72)) (fun (s5 : SS) => lts (up s5 56 9 (s5 56 73)) (fun (s6 : SS) => some (1, s6))))))
set_option maxRecDepth 100000 in
set_option maxHeartbeats 4000000 in
theorem c_X12_undo {l : Launch}  (s0 : SS) : Ct l wF yX12_undo cX12_undo 1 (some .boolean) 0 [.ref 56] s0 (f_X12_undo s0) := by
  refine ct_of (y := yX12_undo) plX12 (Nat.le_of_ble_eq_true rfl) ?_
  refine r_pad0 0 (L1 := [.ref 56]) rfl ?_
  unfold f_X12_undo
  refine r_aload_n (pc1 := 1) (i := 0) dX12_undo_0 rfl rfl rfl ?_
  refine r_getI (pc1 := 4) w_56 gfX12_161 rfl dX12_undo_1 rfl ?_
  refine r_if_ne (tgt := 9) (pc1 := 7) dX12_undo_4 (by decide) rfl (fun q1 => ?_) (fun q1 => ?_)
  · refine r_iconst (v := 0) (pc1 := 8) dX12_undo_7 ki_0 rfl ?_
    exact r_iret rfl rfl dX12_undo_8
  · refine r_aload_n (pc1 := 10) (i := 0) dX12_undo_9 rfl rfl rfl ?_
    refine r_aload_n (pc1 := 11) (i := 0) dX12_undo_10 rfl rfl rfl ?_
    refine r_getI (pc1 := 14) w_56 gfX12_485 rfl dX12_undo_11 rfl ?_
    refine r_putI (pc1 := 17) w_56 pfX12_158 rfl ⟨rfl, rfl⟩ dX12_undo_14 rfl ?_
    refine r_lts (fun s2 => ?_)
    refine r_aload_n (pc1 := 18) (i := 0) dX12_undo_17 rfl rfl rfl ?_
    refine r_aload_n (pc1 := 19) (i := 0) dX12_undo_18 rfl rfl rfl ?_
    refine r_getI (pc1 := 22) w_56 gfX12_488 rfl dX12_undo_19 rfl ?_
    refine r_putI (pc1 := 25) w_56 pfX12_172 rfl ⟨rfl, rfl⟩ dX12_undo_22 rfl ?_
    refine r_lts (fun s3 => ?_)
    refine r_aload_n (pc1 := 26) (i := 0) dX12_undo_25 rfl rfl rfl ?_
    refine r_aload_n (pc1 := 27) (i := 0) dX12_undo_26 rfl rfl rfl ?_
    refine r_getI (pc1 := 30) w_56 gfX12_491 rfl dX12_undo_27 rfl ?_
    refine r_putI (pc1 := 33) w_56 pfX12_375 rfl ⟨rfl, rfl⟩ dX12_undo_30 rfl ?_
    refine r_lts (fun s4 => ?_)
    refine r_aload_n (pc1 := 34) (i := 0) dX12_undo_33 rfl rfl rfl ?_
    refine r_aload_n (pc1 := 35) (i := 0) dX12_undo_34 rfl rfl rfl ?_
    refine r_getI (pc1 := 38) w_56 gfX12_494 rfl dX12_undo_35 rfl ?_
    refine r_putI (pc1 := 41) w_56 pfX12_20 rfl ⟨rfl, rfl⟩ dX12_undo_38 rfl ?_
    refine r_lts (fun s5 => ?_)
    refine r_aload_n (pc1 := 42) (i := 0) dX12_undo_41 rfl rfl rfl ?_
    refine r_aload_n (pc1 := 43) (i := 0) dX12_undo_42 rfl rfl rfl ?_
    refine r_getI (pc1 := 46) w_56 gfX12_497 rfl dX12_undo_43 rfl ?_
    refine r_putI (pc1 := 49) w_56 pfX12_372 rfl ⟨rfl, rfl⟩ dX12_undo_46 rfl ?_
    refine r_lts (fun s6 => ?_)
    refine r_iconst (v := 1) (pc1 := 50) dX12_undo_49 ki_1 rfl ?_
    exact r_iret rfl rfl dX12_undo_50
/-! f_X12_numberAt -/
noncomputable def lp_X12_numberAt_4 (a1 : Int32) (s0 : SS) : Nat → Int32 → Int32 → Option Int32
  | 0, _, _ => none
  | n3 + 1, v1, v2 => if (4 : Int32) ≤ (v2 : Int32) then some v1 else gd (inb ((4 * a1) + v2) 220) (lt ((v1 <<< (8 &&& 31)) ||| ((s0 57 (Int32.toNatClampNeg ((4 * a1) + v2))) &&& 255)) (fun (v5 : Int32) => lp_X12_numberAt_4 a1 s0 n3 v5 (v2 + 1)))
noncomputable def f_X12_numberAt (a1 : Int32) (s0 : SS) : Option Int32 := lp_X12_numberAt_4 a1 s0 FU 0 0
set_option maxRecDepth 100000 in
set_option maxHeartbeats 4000000 in
theorem t_lp_X12_numberAt_4 {l : Launch} (a1 : Int32) (s0 : SS)  : ∀ (n3 : Nat) (v1 : Int32) (v2 : Int32), RC l wF RX12 cX12_numberAt 4 (some .int) 0 4 [.ref 56, .int a1, .int v1, .int v2] [] s0 (pu (lp_X12_numberAt_4 a1 s0 n3 v1 v2) s0) := by
  intro n3
  induction n3 with
  | zero =>
    intro v1 v2
    rw [lp_X12_numberAt_4]
    exact p_none
  | succ n3 ih =>
    intro v1 v2
    rw [lp_X12_numberAt_4]
    refine r_iload_n (pc1 := 5) (i := 3) dX12_numberAt_4 rfl rfl rfl ?_
    refine r_iconst (v := 4) (pc1 := 6) dX12_numberAt_5 ki_4 rfl ?_
    refine p_icmp_ge (tgt := 35) (pc1 := 9) dX12_numberAt_6 (by decide) rfl (fun q4 => ?_) (fun q4 => ?_)
    · refine r_iload_n (pc1 := 36) (i := 2) dX12_numberAt_35 rfl rfl rfl ?_
      exact p_iret rfl rfl dX12_numberAt_36
    · refine r_iload_n (pc1 := 10) (i := 2) dX12_numberAt_9 rfl rfl rfl ?_
      refine r_bipush (v := 8) (pc1 := 12) dX12_numberAt_10 kb_8 rfl ?_
      refine r_ishl (pc1 := 13) dX12_numberAt_12 rfl ?_
      refine r_aload_n (pc1 := 14) (i := 0) dX12_numberAt_13 rfl rfl rfl ?_
      refine r_getR (pc1 := 17) w_56 gfX12_7 rfl dX12_numberAt_14 rfl ?_
      refine r_iconst (v := 4) (pc1 := 18) dX12_numberAt_17 ki_4 rfl ?_
      refine r_iload_n (pc1 := 19) (i := 1) dX12_numberAt_18 rfl rfl rfl ?_
      refine r_imul (pc1 := 20) dX12_numberAt_19 rfl ?_
      refine r_iload_n (pc1 := 21) (i := 3) dX12_numberAt_20 rfl rfl rfl ?_
      refine r_iadd (pc1 := 22) dX12_numberAt_21 rfl ?_
      refine p_bald (pc1 := 23) w_57 dX12_numberAt_22 rfl ?_
      refine r_sipush (v := 255) (pc1 := 26) dX12_numberAt_23 ks_255 rfl ?_
      refine r_iand (pc1 := 27) dX12_numberAt_26 rfl ?_
      refine r_ior (pc1 := 28) dX12_numberAt_27 rfl ?_
      refine p_lt (fun v5 => ?_)
      refine r_istore_n (pc1 := 29) (i := 2) dX12_numberAt_28 rfl (by decide) rfl rfl rfl ?_
      refine r_iinc (pc1 := 32) dX12_numberAt_29 rfl (kn_1 _) (by decide) rfl rfl rfl ?_
      refine r_goto (tgt := 4) dX12_numberAt_32 (by decide) ?_
      exact r_wk (ih v5 (v2 + 1)) ⟨Or.inr rfl, Or.inr rfl, Or.inr rfl, Or.inr rfl, trivial⟩
set_option maxRecDepth 100000 in
set_option maxHeartbeats 4000000 in
theorem c_X12_numberAt {l : Launch} (a1 : Int32) (s0 : SS) : Ct l wF yX12_numberAt cX12_numberAt 4 (some .int) 0 [.ref 56, .int a1] s0 (pu (f_X12_numberAt a1 s0) s0) := by
  refine ct_of (y := yX12_numberAt) plX12 (Nat.le_of_ble_eq_true rfl) ?_
  refine r_pad0 2 (L1 := [.ref 56, .int a1, .null, .null]) rfl ?_
  unfold f_X12_numberAt
  refine r_iconst (v := 0) (pc1 := 1) dX12_numberAt_0 ki_0 rfl ?_
  refine r_istore_n (pc1 := 2) (i := 2) dX12_numberAt_1 rfl (by decide) rfl rfl rfl ?_
  refine r_iconst (v := 0) (pc1 := 3) dX12_numberAt_2 ki_0 rfl ?_
  refine r_istore_n (pc1 := 4) (i := 3) dX12_numberAt_3 rfl (by decide) rfl rfl rfl ?_
  exact r_wk (t_lp_X12_numberAt_4 a1 s0 FU 0 0) ⟨Or.inr rfl, Or.inr rfl, Or.inr rfl, Or.inr rfl, trivial⟩
/-! f_X12_check -/
noncomputable def lp_X12_check_44 (a1 : Int32) (s3 : SS) (k7 : Int32 → Int32 → Res) (v10 : Int32) (k14 : Res) : Nat → Int32 → Res
  | 0, _ => none
  | n16 + 1, v15 => if (3 : Int32) ≤ (v15 : Int32) then k14 else bdp (f_X12_numberAt ((3 * v10) + v15) s3) (fun (v18 : Int32) => bdp (f_X12_book v10 v15 s3) (fun (v19 : Int32) => if (v18 : Int32) = (v19 : Int32) then lp_X12_check_44 a1 s3 k7 v10 k14 n16 (v15 + 1) else k7 v10 v15))
noncomputable def lp_X12_check_25 (a1 : Int32) (s3 : SS) (k4 : Res) (k7 : Int32 → Int32 → Res) (k8 : Res) : Nat → Int32 → Res
  | 0, _ => none
  | n11 + 1, v10 => if (s3 56 9 : Int32) ≤ (v10 : Int32) then k8 else if (v10 : Int32) = (a1 : Int32) then k4 else jn (lp_X12_check_25 a1 s3 k4 k7 k8 n11 (v10 + 1)) (fun (k14 : Res) => lp_X12_check_44 a1 s3 k7 v10 k14 FU 0)
noncomputable def f_X12_check (a1 : Int32) (s0 : SS) : Res := if (a1 : Int32) < 0 then some ((-2), s0) else gd (¬ (12 : Int32) = 0) (if (a1 : Int32) ≤ ((s0 56 1) / 12 : Int32) then lts (up s0 56 1 0) (fun (s3 : SS) => jn (some (3 * a1, s3)) (fun (k4 : Res) => jn (fun (v5 : Int32) (v6 : Int32) => some ((3 * v5) + v6, s3)) (fun (k7 : Int32 → Int32 → Res) => jn (if (a1 : Int32) = (s3 56 9 : Int32) then some ((-1), s3) else some (3 * (s3 56 9), s3)) (fun (k8 : Res) => lp_X12_check_25 a1 s3 k4 k7 k8 FU 0)))) else some ((-2), s0))
set_option maxRecDepth 100000 in
set_option maxHeartbeats 4000000 in
theorem t_lp_X12_check_44 {l : Launch} (a1 : Int32) (s3 : SS) (k7 : Int32 → Int32 → Res) (v10 : Int32) (k14 : Res) (hk7 : ∀ (v5 : Int32) (v6 : Int32), RC l wF RX12 cX12_check 4 (some .int) 2 67 [.ref 56, .null, .int v5, .int v6] [] s3 (k7 v5 v6)) (hk14 : RC l wF RX12 cX12_check 4 (some .int) 2 79 [.ref 56, .int a1, .int v10, .null] [] s3 k14) : ∀ (n16 : Nat) (v15 : Int32), RC l wF RX12 cX12_check 4 (some .int) 2 44 [.ref 56, .int a1, .int v10, .int v15] [] s3 (lp_X12_check_44 a1 s3 k7 v10 k14 n16 v15) := by
  intro n16
  induction n16 with
  | zero =>
    intro v15
    rw [lp_X12_check_44]
    exact r_none
  | succ n16 ih =>
    intro v15
    rw [lp_X12_check_44]
    refine r_iload_n (pc1 := 45) (i := 3) dX12_check_44 rfl rfl rfl ?_
    refine r_iconst (v := 3) (pc1 := 46) dX12_check_45 ki_3 rfl ?_
    refine r_icmp_ge (tgt := 79) (pc1 := 49) dX12_check_46 (by decide) rfl (fun q17 => ?_) (fun q17 => ?_)
    · exact r_wk (hk14) ⟨Or.inr rfl, Or.inr rfl, Or.inr rfl, Or.inl rfl, trivial⟩
    · refine r_aload_n (pc1 := 50) (i := 0) dX12_check_49 rfl rfl rfl ?_
      refine r_iconst (v := 3) (pc1 := 51) dX12_check_50 ki_3 rfl ?_
      refine r_iload_n (pc1 := 52) (i := 2) dX12_check_51 rfl rfl rfl ?_
      refine r_imul (pc1 := 53) dX12_check_52 rfl ?_
      refine r_iload_n (pc1 := 54) (i := 3) dX12_check_53 rfl rfl rfl ?_
      refine r_iadd (pc1 := 55) dX12_check_54 rfl ?_
      refine r_callVp (pc1 := 58) (rv_of w_56 cl_12) lkX12_500 (c_X12_numberAt _ _) rfl rfl ⟨Nat.le_of_ble_eq_true rfl, Nat.le_of_ble_eq_true rfl⟩ (Nat.le_of_ble_eq_true rfl) dX12_check_55 rfl (fun v18 => ?_)
      refine r_aload_n (pc1 := 59) (i := 0) dX12_check_58 rfl rfl rfl ?_
      refine r_iload_n (pc1 := 60) (i := 2) dX12_check_59 rfl rfl rfl ?_
      refine r_iload_n (pc1 := 61) (i := 3) dX12_check_60 rfl rfl rfl ?_
      refine r_callVp (pc1 := 64) (rv_of w_56 cl_12) lkX12_503 (c_X12_book _ _ _) rfl rfl ⟨Nat.le_of_ble_eq_true rfl, Nat.le_of_ble_eq_true rfl⟩ (Nat.le_of_ble_eq_true rfl) dX12_check_61 rfl (fun v19 => ?_)
      refine r_icmp_eq (tgt := 73) (pc1 := 67) dX12_check_64 (by decide) rfl (fun q20 => ?_) (fun q20 => ?_)
      · refine r_iinc (pc1 := 76) dX12_check_73 rfl (kn_1 _) (by decide) rfl rfl rfl ?_
        refine r_goto (tgt := 44) dX12_check_76 (by decide) ?_
        exact r_wk (ih (v15 + 1)) ⟨Or.inr rfl, Or.inr rfl, Or.inr rfl, Or.inr rfl, trivial⟩
      · exact r_wk (hk7 v10 v15) ⟨Or.inr rfl, Or.inl rfl, Or.inr rfl, Or.inr rfl, trivial⟩
set_option maxRecDepth 100000 in
set_option maxHeartbeats 4000000 in
theorem t_lp_X12_check_25 {l : Launch} (a1 : Int32) (s3 : SS) (k4 : Res) (k7 : Int32 → Int32 → Res) (k8 : Res) (hk4 : RC l wF RX12 cX12_check 4 (some .int) 2 38 [.ref 56, .int a1, .null, .null] [] s3 k4) (hk7 : ∀ (v5 : Int32) (v6 : Int32), RC l wF RX12 cX12_check 4 (some .int) 2 67 [.ref 56, .null, .int v5, .int v6] [] s3 (k7 v5 v6)) (hk8 : RC l wF RX12 cX12_check 4 (some .int) 2 85 [.ref 56, .int a1, .null, .null] [] s3 k8) : ∀ (n11 : Nat) (v10 : Int32), RC l wF RX12 cX12_check 4 (some .int) 2 25 [.ref 56, .int a1, .int v10, .null] [] s3 (lp_X12_check_25 a1 s3 k4 k7 k8 n11 v10) := by
  intro n11
  induction n11 with
  | zero =>
    intro v10
    rw [lp_X12_check_25]
    exact r_none
  | succ n11 ih =>
    intro v10
    rw [lp_X12_check_25]
    refine r_iload_n (pc1 := 26) (i := 2) dX12_check_25 rfl rfl rfl ?_
    refine r_aload_n (pc1 := 27) (i := 0) dX12_check_26 rfl rfl rfl ?_
    refine r_getI (pc1 := 30) w_56 gfX12_372 rfl dX12_check_27 rfl ?_
    refine r_icmp_ge (tgt := 85) (pc1 := 33) dX12_check_30 (by decide) rfl (fun q12 => ?_) (fun q12 => ?_)
    · exact r_wk (hk8) ⟨Or.inr rfl, Or.inr rfl, Or.inl rfl, Or.inl rfl, trivial⟩
    · refine r_iload_n (pc1 := 34) (i := 2) dX12_check_33 rfl rfl rfl ?_
      refine r_iload_n (pc1 := 35) (i := 1) dX12_check_34 rfl rfl rfl ?_
      refine r_icmp_ne (tgt := 42) (pc1 := 38) dX12_check_35 (by decide) rfl (fun q13 => ?_) (fun q13 => ?_)
      · exact r_wk (hk4) ⟨Or.inr rfl, Or.inr rfl, Or.inl rfl, Or.inl rfl, trivial⟩
      · refine r_iconst (v := 0) (pc1 := 43) dX12_check_42 ki_0 rfl ?_
        refine r_istore_n (pc1 := 44) (i := 3) dX12_check_43 rfl (by decide) rfl rfl rfl ?_
        refine r_jn (hyp := fun (k14 : Res) => RC l wF RX12 cX12_check 4 (some .int) 2 79 [.ref 56, .int a1, .int v10, .null] [] s3 k14) (?_) (fun k14 hk14 => ?_)
        · refine r_iinc (pc1 := 82) dX12_check_79 rfl (kn_1 _) (by decide) rfl rfl rfl ?_
          refine r_goto (tgt := 25) dX12_check_82 (by decide) ?_
          exact r_wk (ih (v10 + 1)) ⟨Or.inr rfl, Or.inr rfl, Or.inr rfl, Or.inl rfl, trivial⟩
        · exact r_wk (t_lp_X12_check_44 a1 s3 k7 v10 k14 hk7 hk14 FU 0) ⟨Or.inr rfl, Or.inr rfl, Or.inr rfl, Or.inr rfl, trivial⟩
set_option maxRecDepth 100000 in
set_option maxHeartbeats 4000000 in
theorem c_X12_check {l : Launch} (a1 : Int32) (s0 : SS) : Ct l wF yX12_check cX12_check 4 (some .int) 2 [.ref 56, .int a1] s0 (f_X12_check a1 s0) := by
  refine ct_of (y := yX12_check) plX12 (Nat.le_of_ble_eq_true rfl) ?_
  refine r_pad0 2 (L1 := [.ref 56, .int a1, .null, .null]) rfl ?_
  unfold f_X12_check
  refine r_iload_n (pc1 := 1) (i := 1) dX12_check_0 rfl rfl rfl ?_
  refine r_if_lt (tgt := 15) (pc1 := 4) dX12_check_1 (by decide) rfl (fun q1 => ?_) (fun q1 => ?_)
  · refine r_bipush (v := (-2)) (pc1 := 17) dX12_check_15 kb_m2 rfl ?_
    exact r_iret rfl rfl dX12_check_17
  · refine r_iload_n (pc1 := 5) (i := 1) dX12_check_4 rfl rfl rfl ?_
    refine r_aload_n (pc1 := 6) (i := 0) dX12_check_5 rfl rfl rfl ?_
    refine r_getI (pc1 := 9) w_56 gfX12_165 rfl dX12_check_6 rfl ?_
    refine r_bipush (v := 12) (pc1 := 11) dX12_check_9 kb_12 rfl ?_
    refine r_idiv (pc1 := 12) dX12_check_11 rfl ?_
    refine r_icmp_le (tgt := 18) (pc1 := 15) dX12_check_12 (by decide) rfl (fun q2 => ?_) (fun q2 => ?_)
    · refine r_aload_n (pc1 := 19) (i := 0) dX12_check_18 rfl rfl rfl ?_
      refine r_iconst (v := 0) (pc1 := 20) dX12_check_19 ki_0 rfl ?_
      refine r_putI (pc1 := 23) w_56 pfX12_165 rfl ⟨rfl, rfl⟩ dX12_check_20 rfl ?_
      refine r_lts (fun s3 => ?_)
      refine r_iconst (v := 0) (pc1 := 24) dX12_check_23 ki_0 rfl ?_
      refine r_istore_n (pc1 := 25) (i := 2) dX12_check_24 rfl (by decide) rfl rfl rfl ?_
      refine r_jn (hyp := fun (k4 : Res) => RC l wF RX12 cX12_check 4 (some .int) 2 38 [.ref 56, .int a1, .null, .null] [] s3 k4) (?_) (fun k4 hk4 => ?_)
      · refine r_iconst (v := 3) (pc1 := 39) dX12_check_38 ki_3 rfl ?_
        refine r_iload_n (pc1 := 40) (i := 1) dX12_check_39 rfl rfl rfl ?_
        refine r_imul (pc1 := 41) dX12_check_40 rfl ?_
        exact r_iret rfl rfl dX12_check_41
      · refine r_jn (hyp := fun (k7 : Int32 → Int32 → Res) => ∀ (v5 : Int32) (v6 : Int32), RC l wF RX12 cX12_check 4 (some .int) 2 67 [.ref 56, .null, .int v5, .int v6] [] s3 (k7 v5 v6)) (fun v5 v6 => ?_) (fun k7 hk7 => ?_)
        · refine r_iconst (v := 3) (pc1 := 68) dX12_check_67 ki_3 rfl ?_
          refine r_iload_n (pc1 := 69) (i := 2) dX12_check_68 rfl rfl rfl ?_
          refine r_imul (pc1 := 70) dX12_check_69 rfl ?_
          refine r_iload_n (pc1 := 71) (i := 3) dX12_check_70 rfl rfl rfl ?_
          refine r_iadd (pc1 := 72) dX12_check_71 rfl ?_
          exact r_iret rfl rfl dX12_check_72
        · refine r_jn (hyp := fun (k8 : Res) => RC l wF RX12 cX12_check 4 (some .int) 2 85 [.ref 56, .int a1, .null, .null] [] s3 k8) (?_) (fun k8 hk8 => ?_)
          · refine r_iload_n (pc1 := 86) (i := 1) dX12_check_85 rfl rfl rfl ?_
            refine r_aload_n (pc1 := 87) (i := 0) dX12_check_86 rfl rfl rfl ?_
            refine r_getI (pc1 := 90) w_56 gfX12_372 rfl dX12_check_87 rfl ?_
            refine r_icmp_ne (tgt := 97) (pc1 := 93) dX12_check_90 (by decide) rfl (fun q9 => ?_) (fun q9 => ?_)
            · refine r_iconst (v := (-1)) (pc1 := 94) dX12_check_93 ki_m1 rfl ?_
              refine r_goto (tgt := 103) dX12_check_94 (by decide) ?_
              exact r_iret rfl rfl dX12_check_103
            · refine r_iconst (v := 3) (pc1 := 98) dX12_check_97 ki_3 rfl ?_
              refine r_aload_n (pc1 := 99) (i := 0) dX12_check_98 rfl rfl rfl ?_
              refine r_getI (pc1 := 102) w_56 gfX12_372 rfl dX12_check_99 rfl ?_
              refine r_imul (pc1 := 103) dX12_check_102 rfl ?_
              exact r_iret rfl rfl dX12_check_103
          · exact r_wk (t_lp_X12_check_25 a1 s3 k4 k7 k8 hk4 hk7 hk8 FU 0) ⟨Or.inr rfl, Or.inr rfl, Or.inr rfl, Or.inl rfl, trivial⟩
    · refine r_bipush (v := (-2)) (pc1 := 17) dX12_check_15 kb_m2 rfl ?_
      exact r_iret rfl rfl dX12_check_17
/-! f_X12_count -/
noncomputable def f_X12_count (a1 : Int32) (s0 : SS) : Option Int32 := bdp (f_X12_lies ((a1 - 10 : Int32).toInt64) 0 (((s0 56 5) - 1 : Int32).toInt64) s0) (fun (v1 : Int32) => if (v1 : Int32) = 0 then if (Int32.toInt a1 < 0 ∨ 8 < Int32.toInt a1) then some ((-1)) else if (a1 : Int32) = 0 then some (s0 56 2) else if (a1 : Int32) = 1 then bdp (f_X12_manyOf (s0 56 4) s0) (fun (v13 : Int32) => some v13) else if (a1 : Int32) = 2 then some (s0 56 3) else if (a1 : Int32) = 3 then some (s0 56 17) else if (a1 : Int32) = 4 then some (s0 56 1) else if (a1 : Int32) = 5 then some (s0 56 8) else if (a1 : Int32) = 6 then some (s0 56 7) else if (a1 : Int32) = 7 then some (s0 56 6) else if (a1 : Int32) = 8 then some (s0 56 9) else none else gd (inb (a1 - 10) 4) (some (s0 62 (Int32.toNatClampNeg (a1 - 10)))))
set_option maxRecDepth 100000 in
set_option maxHeartbeats 4000000 in
theorem c_X12_count {l : Launch} (a1 : Int32) (s0 : SS) : Ct l wF yX12_count cX12_count 2 (some .int) 1 [.ref 56, .int a1] s0 (pu (f_X12_count a1 s0) s0) := by
  refine ct_of (y := yX12_count) plX12 (Nat.le_of_ble_eq_true rfl) ?_
  refine r_pad0 0 (L1 := [.ref 56, .int a1]) rfl ?_
  unfold f_X12_count
  refine r_iload_n (pc1 := 1) (i := 1) dX12_count_0 rfl rfl rfl ?_
  refine r_bipush (v := 10) (pc1 := 3) dX12_count_1 kb_10 rfl ?_
  refine r_isub (pc1 := 4) dX12_count_3 rfl ?_
  refine r_i2l (pc1 := 5) dX12_count_4 rfl ?_
  refine r_lconst (v := 0) (pc1 := 6) dX12_count_5 kl_0 rfl ?_
  refine r_aload_n (pc1 := 7) (i := 0) dX12_count_6 rfl rfl rfl ?_
  refine r_getI (pc1 := 10) w_56 gfX12_17 rfl dX12_count_7 rfl ?_
  refine r_iconst (v := 1) (pc1 := 11) dX12_count_10 ki_1 rfl ?_
  refine r_isub (pc1 := 12) dX12_count_11 rfl ?_
  refine r_i2l (pc1 := 13) dX12_count_12 rfl ?_
  refine p_callSp (pc1 := 16) lkX12_140 (c_X12_lies _ _ _ _) rfl rfl ⟨Nat.le_of_ble_eq_true rfl, Nat.le_of_ble_eq_true rfl⟩ (Nat.le_of_ble_eq_true rfl) dX12_count_13 rfl (fun v1 => ?_)
  refine p_if_eq (tgt := 29) (pc1 := 19) dX12_count_16 (by decide) rfl (fun q2 => ?_) (fun q2 => ?_)
  · refine r_iload_n (pc1 := 30) (i := 1) dX12_count_29 rfl rfl rfl ?_
    refine p_ite (fun q12 => ?_) (fun q12 => ?_)
    · refine r_tabOut (tgt := 128) dX12_count_30 q12 (by decide) ?_
      refine r_iconst (v := (-1)) (pc1 := 129) dX12_count_128 ki_m1 rfl ?_
      exact p_iret rfl rfl dX12_count_129
    · refine p_ite (fun q3 => ?_) (fun q3 => ?_)
      · refine r_tabIn (tgt := 80) (off := 50) dX12_count_30 (fun z => q12 (Or.inl z)) (fun z => q12 (Or.inr z)) (by rw [q3]; rfl) (by decide) ?_
        refine r_aload_n (pc1 := 81) (i := 0) dX12_count_80 rfl rfl rfl ?_
        refine r_getI (pc1 := 84) w_56 gfX12_144 rfl dX12_count_81 rfl ?_
        exact p_iret rfl rfl dX12_count_84
      · refine p_ite (fun q4 => ?_) (fun q4 => ?_)
        · refine r_tabIn (tgt := 85) (off := 55) dX12_count_30 (fun z => q12 (Or.inl z)) (fun z => q12 (Or.inr z)) (by rw [q4]; rfl) (by decide) ?_
          refine r_aload_n (pc1 := 86) (i := 0) dX12_count_85 rfl rfl rfl ?_
          refine r_getI (pc1 := 89) w_56 gfX12_158 rfl dX12_count_86 rfl ?_
          refine p_callSp (pc1 := 92) lkX12_323 (c_X12_manyOf _ _) rfl rfl ⟨Nat.le_of_ble_eq_true rfl, Nat.le_of_ble_eq_true rfl⟩ (Nat.le_of_ble_eq_true rfl) dX12_count_89 rfl (fun v13 => ?_)
          exact p_iret rfl rfl dX12_count_92
        · refine p_ite (fun q5 => ?_) (fun q5 => ?_)
          · refine r_tabIn (tgt := 93) (off := 63) dX12_count_30 (fun z => q12 (Or.inl z)) (fun z => q12 (Or.inr z)) (by rw [q5]; rfl) (by decide) ?_
            refine r_aload_n (pc1 := 94) (i := 0) dX12_count_93 rfl rfl rfl ?_
            refine r_getI (pc1 := 97) w_56 gfX12_13 rfl dX12_count_94 rfl ?_
            exact p_iret rfl rfl dX12_count_97
          · refine p_ite (fun q6 => ?_) (fun q6 => ?_)
            · refine r_tabIn (tgt := 98) (off := 68) dX12_count_30 (fun z => q12 (Or.inl z)) (fun z => q12 (Or.inr z)) (by rw [q6]; rfl) (by decide) ?_
              refine r_aload_n (pc1 := 99) (i := 0) dX12_count_98 rfl rfl rfl ?_
              refine r_getI (pc1 := 102) w_56 gfX12_288 rfl dX12_count_99 rfl ?_
              exact p_iret rfl rfl dX12_count_102
            · refine p_ite (fun q7 => ?_) (fun q7 => ?_)
              · refine r_tabIn (tgt := 103) (off := 73) dX12_count_30 (fun z => q12 (Or.inl z)) (fun z => q12 (Or.inr z)) (by rw [q7]; rfl) (by decide) ?_
                refine r_aload_n (pc1 := 104) (i := 0) dX12_count_103 rfl rfl rfl ?_
                refine r_getI (pc1 := 107) w_56 gfX12_165 rfl dX12_count_104 rfl ?_
                exact p_iret rfl rfl dX12_count_107
              · refine p_ite (fun q8 => ?_) (fun q8 => ?_)
                · refine r_tabIn (tgt := 108) (off := 78) dX12_count_30 (fun z => q12 (Or.inl z)) (fun z => q12 (Or.inr z)) (by rw [q8]; rfl) (by decide) ?_
                  refine r_aload_n (pc1 := 109) (i := 0) dX12_count_108 rfl rfl rfl ?_
                  refine r_getI (pc1 := 112) w_56 gfX12_20 rfl dX12_count_109 rfl ?_
                  exact p_iret rfl rfl dX12_count_112
                · refine p_ite (fun q9 => ?_) (fun q9 => ?_)
                  · refine r_tabIn (tgt := 113) (off := 83) dX12_count_30 (fun z => q12 (Or.inl z)) (fun z => q12 (Or.inr z)) (by rw [q9]; rfl) (by decide) ?_
                    refine r_aload_n (pc1 := 114) (i := 0) dX12_count_113 rfl rfl rfl ?_
                    refine r_getI (pc1 := 117) w_56 gfX12_375 rfl dX12_count_114 rfl ?_
                    exact p_iret rfl rfl dX12_count_117
                  · refine p_ite (fun q10 => ?_) (fun q10 => ?_)
                    · refine r_tabIn (tgt := 118) (off := 88) dX12_count_30 (fun z => q12 (Or.inl z)) (fun z => q12 (Or.inr z)) (by rw [q10]; rfl) (by decide) ?_
                      refine r_aload_n (pc1 := 119) (i := 0) dX12_count_118 rfl rfl rfl ?_
                      refine r_getI (pc1 := 122) w_56 gfX12_172 rfl dX12_count_119 rfl ?_
                      exact p_iret rfl rfl dX12_count_122
                    · refine p_ite (fun q11 => ?_) (fun q11 => ?_)
                      · refine r_tabIn (tgt := 123) (off := 93) dX12_count_30 (fun z => q12 (Or.inl z)) (fun z => q12 (Or.inr z)) (by rw [q11]; rfl) (by decide) ?_
                        refine r_aload_n (pc1 := 124) (i := 0) dX12_count_123 rfl rfl rfl ?_
                        refine r_getI (pc1 := 127) w_56 gfX12_372 rfl dX12_count_124 rfl ?_
                        exact p_iret rfl rfl dX12_count_127
                      · exact p_none
  · refine r_aload_n (pc1 := 20) (i := 0) dX12_count_19 rfl rfl rfl ?_
    refine r_getR (pc1 := 23) w_56 gfX12_36 rfl dX12_count_20 rfl ?_
    refine r_iload_n (pc1 := 24) (i := 1) dX12_count_23 rfl rfl rfl ?_
    refine r_bipush (v := 10) (pc1 := 26) dX12_count_24 kb_10 rfl ?_
    refine r_isub (pc1 := 27) dX12_count_26 rfl ?_
    refine p_iald (pc1 := 28) w_62 dX12_count_27 rfl ?_
    exact p_iret rfl rfl dX12_count_28
/-! f_X6_listAll -/
noncomputable def lp_X6_listAll_15 (a1 : Int32) (v1 : Int32) (v2 : Int32) : Nat → Int32 → SS → Res
  | 0, _, _ => none
  | n5 + 1, v3, s4 => if (v2 : Int32) ≤ (v3 : Int32) then some (0, s4) else if (5348 : Int32) ≤ (v3 : Int32) then some (0, s4) else jn (fun (v8 : Int32) (v9 : Int32) (v10 : Int32) => gd (inb v3 5348) (lts (up s4 4 (Int32.toNatClampNeg v3) (((v9 ||| (v10 <<< (8 &&& 31))) ||| (v8 <<< (12 &&& 31))) ||| (a1 <<< (16 &&& 31)))) (fun (s12 : SS) => jn (fun (v13 : Int32) => gd (inb v3 5348) (lts (up s12 8 (Int32.toNatClampNeg v3) ((v1 + (((v3 - v1) - v13) * 8)) + 1)) (fun (s15 : SS) => lp_X6_listAll_15 a1 v1 v2 n5 (v3 + 1) s15))) (fun (k14 : Int32 → Res) => if (v8 : Int32) = (a1 : Int32) then k14 ((v10 + 1) <<< ((3 * (a1 - 1)) &&& 31)) else k14 0)))) (fun (k11 : Int32 → Int32 → Int32 → Res) => if (v3 : Int32) ≤ (v1 : Int32) then k11 0 0 8 else gd (¬ (8 : Int32) = 0) (lt (((v3 - v1) - 1) - ((v3 - v1) - 1) / 8 * 8) (fun (v18 : Int32) => gd (¬ (8 : Int32) = 0) (lt (v1 + (((v3 - v1) - 1) / 8)) (fun (v19 : Int32) => bdp (f_X6_sizeOf v19 s4) (fun (v20 : Int32) => lt (v20 + 1) (fun (v21 : Int32) => bdp (f_X6_standingOn v19 s4) (fun (v22 : Int32) => lt (v22 ||| (1 <<< (v18 &&& 31))) (fun (v23 : Int32) => jn (fun (v24 : Int32) => k11 v21 v23 v24) (fun (k25 : Int32 → Res) => if (v19 : Int32) = (v1 : Int32) then k25 v18 else bdp (f_X6_oldestOn v19 s4) (fun (v27 : Int32) => k25 v27)))))))))))
noncomputable def f_X6_listAll (a1 : Int32) (s0 : SS) : Res := bdp (f_X6_bareOf a1 s0) (fun (v1 : Int32) => bdp (f_X6_bareOf (a1 + 1) s0) (fun (v2 : Int32) => lp_X6_listAll_15 a1 v1 v2 FU v1 s0))
set_option maxRecDepth 100000 in
set_option maxHeartbeats 4000000 in
theorem t_lp_X6_listAll_15 {l : Launch} {wl : WT} (w_3 : WI wl 3 (OE 6 [some 4, some 8])) (w_4 : WI wl 4 (AE 0 5348)) (w_8 : WI wl 8 (AE 0 5348)) (a1 : Int32) (v1 : Int32) (v2 : Int32)  : ∀ (n5 : Nat) (v3 : Int32) (s4 : SS), RC l wl RX6 cX6_listAll 10 none 1 15 [.ref 3, .int a1, .int v1, .int v2, .int v3, .null, .null, .null, .null, .null] [] s4 (lp_X6_listAll_15 a1 v1 v2 n5 v3 s4) := by
  intro n5
  induction n5 with
  | zero =>
    intro v3 s4
    rw [lp_X6_listAll_15]
    exact r_none
  | succ n5 ih =>
    intro v3 s4
    rw [lp_X6_listAll_15]
    refine r_iload (pc1 := 17) dX6_listAll_15 rfl rfl ?_
    refine r_iload_n (pc1 := 18) (i := 3) dX6_listAll_17 rfl rfl rfl ?_
    refine r_icmp_ge (tgt := 186) (pc1 := 21) dX6_listAll_18 (by decide) rfl (fun q6 => ?_) (fun q6 => ?_)
    · exact r_vret rfl dX6_listAll_186
    · refine r_iload (pc1 := 23) dX6_listAll_21 rfl rfl ?_
      refine r_sipush (v := 5348) (pc1 := 26) dX6_listAll_23 ks_5348 rfl ?_
      refine r_icmp_ge (tgt := 186) (pc1 := 29) dX6_listAll_26 (by decide) rfl (fun q7 => ?_) (fun q7 => ?_)
      · exact r_vret rfl dX6_listAll_186
      · refine r_iconst (v := 0) (pc1 := 30) dX6_listAll_29 ki_0 rfl ?_
        refine r_istore (pc1 := 32) dX6_listAll_30 (by decide) rfl rfl rfl ?_
        refine r_iconst (v := 0) (pc1 := 33) dX6_listAll_32 ki_0 rfl ?_
        refine r_istore (pc1 := 35) dX6_listAll_33 (by decide) rfl rfl rfl ?_
        refine r_bipush (v := 8) (pc1 := 37) dX6_listAll_35 kb_8 rfl ?_
        refine r_istore (pc1 := 39) dX6_listAll_37 (by decide) rfl rfl rfl ?_
        refine r_iload (pc1 := 41) dX6_listAll_39 rfl rfl ?_
        refine r_iload_n (pc1 := 42) (i := 2) dX6_listAll_41 rfl rfl rfl ?_
        refine r_jn (hyp := fun (k11 : Int32 → Int32 → Int32 → Res) => ∀ (v8 : Int32) (v9 : Int32) (v10 : Int32), RC l wl RX6 cX6_listAll 10 none 1 111 [.ref 3, .int a1, .int v1, .int v2, .int v3, .int v8, .int v9, .int v10, .null, .null] [] s4 (k11 v8 v9 v10)) (fun v8 v9 v10 => ?_) (fun k11 hk11 => ?_)
        · refine r_aload_n (pc1 := 112) (i := 0) dX6_listAll_111 rfl rfl rfl ?_
          refine r_getR (pc1 := 115) w_3 gfX6_11 rfl dX6_listAll_112 rfl ?_
          refine r_iload (pc1 := 117) dX6_listAll_115 rfl rfl ?_
          refine r_iload (pc1 := 119) dX6_listAll_117 rfl rfl ?_
          refine r_iload (pc1 := 121) dX6_listAll_119 rfl rfl ?_
          refine r_bipush (v := 8) (pc1 := 123) dX6_listAll_121 kb_8 rfl ?_
          refine r_ishl (pc1 := 124) dX6_listAll_123 rfl ?_
          refine r_ior (pc1 := 125) dX6_listAll_124 rfl ?_
          refine r_iload (pc1 := 127) dX6_listAll_125 rfl rfl ?_
          refine r_bipush (v := 12) (pc1 := 129) dX6_listAll_127 kb_12 rfl ?_
          refine r_ishl (pc1 := 130) dX6_listAll_129 rfl ?_
          refine r_ior (pc1 := 131) dX6_listAll_130 rfl ?_
          refine r_iload_n (pc1 := 132) (i := 1) dX6_listAll_131 rfl rfl rfl ?_
          refine r_bipush (v := 16) (pc1 := 134) dX6_listAll_132 kb_16 rfl ?_
          refine r_ishl (pc1 := 135) dX6_listAll_134 rfl ?_
          refine r_ior (pc1 := 136) dX6_listAll_135 rfl ?_
          refine r_iast (pc1 := 137) w_4 dX6_listAll_136 rfl ?_
          refine r_lts (fun s12 => ?_)
          refine r_iload (pc1 := 139) dX6_listAll_137 rfl rfl ?_
          refine r_iload_n (pc1 := 140) (i := 1) dX6_listAll_139 rfl rfl rfl ?_
          refine r_jn (hyp := fun (k14 : Int32 → Res) => ∀ (v13 : Int32), RC l wl RX6 cX6_listAll 10 none 1 157 [.ref 3, .int a1, .int v1, .int v2, .int v3, .null, .null, .null, .null, .null] [.int v13] s12 (k14 v13)) (fun v13 => ?_) (fun k14 hk14 => ?_)
          · refine r_istore (pc1 := 159) dX6_listAll_157 (by decide) rfl rfl rfl ?_
            refine r_aload_n (pc1 := 160) (i := 0) dX6_listAll_159 rfl rfl rfl ?_
            refine r_getR (pc1 := 163) w_3 gfX6_15 rfl dX6_listAll_160 rfl ?_
            refine r_iload (pc1 := 165) dX6_listAll_163 rfl rfl ?_
            refine r_iload_n (pc1 := 166) (i := 2) dX6_listAll_165 rfl rfl rfl ?_
            refine r_iload (pc1 := 168) dX6_listAll_166 rfl rfl ?_
            refine r_iload_n (pc1 := 169) (i := 2) dX6_listAll_168 rfl rfl rfl ?_
            refine r_isub (pc1 := 170) dX6_listAll_169 rfl ?_
            refine r_iload (pc1 := 172) dX6_listAll_170 rfl rfl ?_
            refine r_isub (pc1 := 173) dX6_listAll_172 rfl ?_
            refine r_bipush (v := 8) (pc1 := 175) dX6_listAll_173 kb_8 rfl ?_
            refine r_imul (pc1 := 176) dX6_listAll_175 rfl ?_
            refine r_iadd (pc1 := 177) dX6_listAll_176 rfl ?_
            refine r_iconst (v := 1) (pc1 := 178) dX6_listAll_177 ki_1 rfl ?_
            refine r_iadd (pc1 := 179) dX6_listAll_178 rfl ?_
            refine r_iast (pc1 := 180) w_8 dX6_listAll_179 rfl ?_
            refine r_lts (fun s15 => ?_)
            refine r_iinc (pc1 := 183) dX6_listAll_180 rfl (kn_1 _) (by decide) rfl rfl rfl ?_
            refine r_goto (tgt := 15) dX6_listAll_183 (by decide) ?_
            exact r_wk (ih (v3 + 1) s15) ⟨Or.inr rfl, Or.inr rfl, Or.inr rfl, Or.inr rfl, Or.inr rfl, Or.inl rfl, Or.inl rfl, Or.inl rfl, Or.inl rfl, Or.inl rfl, trivial⟩
          · refine r_icmp_ne (tgt := 156) (pc1 := 143) dX6_listAll_140 (by decide) rfl (fun q16 => ?_) (fun q16 => ?_)
            · refine r_iload (pc1 := 145) dX6_listAll_143 rfl rfl ?_
              refine r_iconst (v := 1) (pc1 := 146) dX6_listAll_145 ki_1 rfl ?_
              refine r_iadd (pc1 := 147) dX6_listAll_146 rfl ?_
              refine r_iconst (v := 3) (pc1 := 148) dX6_listAll_147 ki_3 rfl ?_
              refine r_iload_n (pc1 := 149) (i := 1) dX6_listAll_148 rfl rfl rfl ?_
              refine r_iconst (v := 1) (pc1 := 150) dX6_listAll_149 ki_1 rfl ?_
              refine r_isub (pc1 := 151) dX6_listAll_150 rfl ?_
              refine r_imul (pc1 := 152) dX6_listAll_151 rfl ?_
              refine r_ishl (pc1 := 153) dX6_listAll_152 rfl ?_
              refine r_goto (tgt := 157) dX6_listAll_153 (by decide) ?_
              exact r_wk (hk14 ((v10 + 1) <<< ((3 * (a1 - 1)) &&& 31))) ⟨Or.inr rfl, Or.inr rfl, Or.inr rfl, Or.inr rfl, Or.inr rfl, Or.inl rfl, Or.inl rfl, Or.inl rfl, Or.inl rfl, Or.inl rfl, trivial⟩
            · refine r_iconst (v := 0) (pc1 := 157) dX6_listAll_156 ki_0 rfl ?_
              exact r_wk (hk14 0) ⟨Or.inr rfl, Or.inr rfl, Or.inr rfl, Or.inr rfl, Or.inr rfl, Or.inl rfl, Or.inl rfl, Or.inl rfl, Or.inl rfl, Or.inl rfl, trivial⟩
        · refine r_icmp_le (tgt := 111) (pc1 := 45) dX6_listAll_42 (by decide) rfl (fun q17 => ?_) (fun q17 => ?_)
          · exact r_wk (hk11 0 0 8) ⟨Or.inr rfl, Or.inr rfl, Or.inr rfl, Or.inr rfl, Or.inr rfl, Or.inr rfl, Or.inr rfl, Or.inr rfl, Or.inl rfl, Or.inl rfl, trivial⟩
          · refine r_iload (pc1 := 47) dX6_listAll_45 rfl rfl ?_
            refine r_iload_n (pc1 := 48) (i := 2) dX6_listAll_47 rfl rfl rfl ?_
            refine r_isub (pc1 := 49) dX6_listAll_48 rfl ?_
            refine r_iconst (v := 1) (pc1 := 50) dX6_listAll_49 ki_1 rfl ?_
            refine r_isub (pc1 := 51) dX6_listAll_50 rfl ?_
            refine r_bipush (v := 8) (pc1 := 53) dX6_listAll_51 kb_8 rfl ?_
            refine r_irem (pc1 := 54) dX6_listAll_53 rfl ?_
            refine r_lt (fun v18 => ?_)
            refine r_istore (pc1 := 56) dX6_listAll_54 (by decide) rfl rfl rfl ?_
            refine r_iload_n (pc1 := 57) (i := 2) dX6_listAll_56 rfl rfl rfl ?_
            refine r_iload (pc1 := 59) dX6_listAll_57 rfl rfl ?_
            refine r_iload_n (pc1 := 60) (i := 2) dX6_listAll_59 rfl rfl rfl ?_
            refine r_isub (pc1 := 61) dX6_listAll_60 rfl ?_
            refine r_iconst (v := 1) (pc1 := 62) dX6_listAll_61 ki_1 rfl ?_
            refine r_isub (pc1 := 63) dX6_listAll_62 rfl ?_
            refine r_bipush (v := 8) (pc1 := 65) dX6_listAll_63 kb_8 rfl ?_
            refine r_idiv (pc1 := 66) dX6_listAll_65 rfl ?_
            refine r_iadd (pc1 := 67) dX6_listAll_66 rfl ?_
            refine r_lt (fun v19 => ?_)
            refine r_istore (pc1 := 69) dX6_listAll_67 (by decide) rfl rfl rfl ?_
            refine r_aload_n (pc1 := 70) (i := 0) dX6_listAll_69 rfl rfl rfl ?_
            refine r_iload (pc1 := 72) dX6_listAll_70 rfl rfl ?_
            refine r_callVp (pc1 := 75) (rv_of w_3 cl_6) lkX6_26 (c_X6_sizeOf w_3 w_4 w_8 _ _) rfl rfl ⟨Nat.le_of_ble_eq_true rfl, Nat.le_of_ble_eq_true rfl⟩ (Nat.le_of_ble_eq_true rfl) dX6_listAll_72 rfl (fun v20 => ?_)
            refine r_iconst (v := 1) (pc1 := 76) dX6_listAll_75 ki_1 rfl ?_
            refine r_iadd (pc1 := 77) dX6_listAll_76 rfl ?_
            refine r_lt (fun v21 => ?_)
            refine r_istore (pc1 := 79) dX6_listAll_77 (by decide) rfl rfl rfl ?_
            refine r_aload_n (pc1 := 80) (i := 0) dX6_listAll_79 rfl rfl rfl ?_
            refine r_iload (pc1 := 82) dX6_listAll_80 rfl rfl ?_
            refine r_callVp (pc1 := 85) (rv_of w_3 cl_6) lkX6_29 (c_X6_standingOn w_3 w_4 w_8 _ _) rfl rfl ⟨Nat.le_of_ble_eq_true rfl, Nat.le_of_ble_eq_true rfl⟩ (Nat.le_of_ble_eq_true rfl) dX6_listAll_82 rfl (fun v22 => ?_)
            refine r_iconst (v := 1) (pc1 := 86) dX6_listAll_85 ki_1 rfl ?_
            refine r_iload (pc1 := 88) dX6_listAll_86 rfl rfl ?_
            refine r_ishl (pc1 := 89) dX6_listAll_88 rfl ?_
            refine r_ior (pc1 := 90) dX6_listAll_89 rfl ?_
            refine r_lt (fun v23 => ?_)
            refine r_istore (pc1 := 92) dX6_listAll_90 (by decide) rfl rfl rfl ?_
            refine r_iload (pc1 := 94) dX6_listAll_92 rfl rfl ?_
            refine r_iload_n (pc1 := 95) (i := 2) dX6_listAll_94 rfl rfl rfl ?_
            refine r_jn (hyp := fun (k25 : Int32 → Res) => ∀ (v24 : Int32), RC l wl RX6 cX6_listAll 10 none 1 109 [.ref 3, .int a1, .int v1, .int v2, .int v3, .int v21, .int v23, .null, .null, .null] [.int v24] s4 (k25 v24)) (fun v24 => ?_) (fun k25 hk25 => ?_)
            · refine r_istore (pc1 := 111) dX6_listAll_109 (by decide) rfl rfl rfl ?_
              exact r_wk (hk11 v21 v23 v24) ⟨Or.inr rfl, Or.inr rfl, Or.inr rfl, Or.inr rfl, Or.inr rfl, Or.inr rfl, Or.inr rfl, Or.inr rfl, Or.inl rfl, Or.inl rfl, trivial⟩
            · refine r_icmp_ne (tgt := 103) (pc1 := 98) dX6_listAll_95 (by decide) rfl (fun q26 => ?_) (fun q26 => ?_)
              · refine r_iload (pc1 := 100) dX6_listAll_98 rfl rfl ?_
                refine r_goto (tgt := 109) dX6_listAll_100 (by decide) ?_
                exact r_wk (hk25 v18) ⟨Or.inr rfl, Or.inr rfl, Or.inr rfl, Or.inr rfl, Or.inr rfl, Or.inr rfl, Or.inr rfl, Or.inl rfl, Or.inl rfl, Or.inl rfl, trivial⟩
              · refine r_aload_n (pc1 := 104) (i := 0) dX6_listAll_103 rfl rfl rfl ?_
                refine r_iload (pc1 := 106) dX6_listAll_104 rfl rfl ?_
                refine r_callVp (pc1 := 109) (rv_of w_3 cl_6) lkX6_32 (c_X6_oldestOn w_3 w_4 w_8 _ _) rfl rfl ⟨Nat.le_of_ble_eq_true rfl, Nat.le_of_ble_eq_true rfl⟩ (Nat.le_of_ble_eq_true rfl) dX6_listAll_106 rfl (fun v27 => ?_)
                exact r_wk (hk25 v27) ⟨Or.inr rfl, Or.inr rfl, Or.inr rfl, Or.inr rfl, Or.inr rfl, Or.inr rfl, Or.inr rfl, Or.inl rfl, Or.inl rfl, Or.inl rfl, trivial⟩
set_option maxRecDepth 100000 in
set_option maxHeartbeats 4000000 in
theorem c_X6_listAll {l : Launch} {wl : WT} (w_3 : WI wl 3 (OE 6 [some 4, some 8])) (w_4 : WI wl 4 (AE 0 5348)) (w_8 : WI wl 8 (AE 0 5348)) (a1 : Int32) (s0 : SS) : Ct l wl yX6_listAll cX6_listAll 10 none 1 [.ref 3, .int a1] s0 (f_X6_listAll a1 s0) := by
  refine ct_of (y := yX6_listAll) plX6 (Nat.le_of_ble_eq_true rfl) ?_
  refine r_pad0 8 (L1 := [.ref 3, .int a1, .null, .null, .null, .null, .null, .null, .null, .null]) rfl ?_
  unfold f_X6_listAll
  refine r_iload_n (pc1 := 1) (i := 1) dX6_listAll_0 rfl rfl rfl ?_
  refine r_callSp (pc1 := 4) lkX6_22 (c_X6_bareOf w_3 w_4 w_8 _ _) rfl rfl ⟨Nat.le_of_ble_eq_true rfl, Nat.le_of_ble_eq_true rfl⟩ (Nat.le_of_ble_eq_true rfl) dX6_listAll_1 rfl (fun v1 => ?_)
  refine r_istore_n (pc1 := 5) (i := 2) dX6_listAll_4 rfl (by decide) rfl rfl rfl ?_
  refine r_iload_n (pc1 := 6) (i := 1) dX6_listAll_5 rfl rfl rfl ?_
  refine r_iconst (v := 1) (pc1 := 7) dX6_listAll_6 ki_1 rfl ?_
  refine r_iadd (pc1 := 8) dX6_listAll_7 rfl ?_
  refine r_callSp (pc1 := 11) lkX6_22 (c_X6_bareOf w_3 w_4 w_8 _ _) rfl rfl ⟨Nat.le_of_ble_eq_true rfl, Nat.le_of_ble_eq_true rfl⟩ (Nat.le_of_ble_eq_true rfl) dX6_listAll_8 rfl (fun v2 => ?_)
  refine r_istore_n (pc1 := 12) (i := 3) dX6_listAll_11 rfl (by decide) rfl rfl rfl ?_
  refine r_iload_n (pc1 := 13) (i := 2) dX6_listAll_12 rfl rfl rfl ?_
  refine r_istore (pc1 := 15) dX6_listAll_13 (by decide) rfl rfl rfl ?_
  exact r_wk (t_lp_X6_listAll_15 w_3 w_4 w_8 a1 v1 v2 FU v1 s0) ⟨Or.inr rfl, Or.inr rfl, Or.inr rfl, Or.inr rfl, Or.inr rfl, Or.inl rfl, Or.inl rfl, Or.inl rfl, Or.inl rfl, Or.inl rfl, trivial⟩
