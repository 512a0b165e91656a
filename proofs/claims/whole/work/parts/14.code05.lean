theorem dX0_comeTo_0 : decode cX0_comeTo 0 = .ok (.aload_n 0, 1) := by decide +kernel
theorem dX0_comeTo_1 : decode cX0_comeTo 1 = .ok (.getfield 67, 3) := by decide +kernel
theorem dX0_comeTo_4 : decode cX0_comeTo 4 = .ok (.ifCond .ge 33, 3) := by decide +kernel
theorem dX0_comeTo_7 : decode cX0_comeTo 7 = .ok (.aload_n 0, 1) := by decide +kernel
theorem dX0_comeTo_8 : decode cX0_comeTo 8 = .ok (.getfield 64, 3) := by decide +kernel
theorem dX0_comeTo_11 : decode cX0_comeTo 11 = .ok (.ifCond .lt 26, 3) := by decide +kernel
theorem dX0_comeTo_14 : decode cX0_comeTo 14 = .ok (.aload_n 0, 1) := by decide +kernel
theorem dX0_comeTo_15 : decode cX0_comeTo 15 = .ok (.getfield 64, 3) := by decide +kernel
theorem dX0_comeTo_18 : decode cX0_comeTo 18 = .ok (.sipush 21392, 3) := by decide +kernel
theorem dX0_comeTo_21 : decode cX0_comeTo 21 = .ok (.if_icmp .ge 16, 3) := by decide +kernel
theorem dX0_comeTo_24 : decode cX0_comeTo 24 = .ok (.iload_n 1, 1) := by decide +kernel
theorem dX0_comeTo_25 : decode cX0_comeTo 25 = .ok (.ifCond .lt 12, 3) := by decide +kernel
theorem dX0_comeTo_28 : decode cX0_comeTo 28 = .ok (.iload_n 1, 1) := by decide +kernel
theorem dX0_comeTo_29 : decode cX0_comeTo 29 = .ok (.aload_n 0, 1) := by decide +kernel
theorem dX0_comeTo_30 : decode cX0_comeTo 30 = .ok (.getfield 17, 3) := by decide +kernel
theorem dX0_comeTo_33 : decode cX0_comeTo 33 = .ok (.arraylength, 1) := by decide +kernel
theorem dX0_comeTo_34 : decode cX0_comeTo 34 = .ok (.if_icmp .lt 4, 3) := by decide +kernel
theorem dX0_comeTo_37 : decode cX0_comeTo 37 = .ok (.return_, 1) := by decide +kernel
theorem dX0_comeTo_38 : decode cX0_comeTo 38 = .ok (.aload_n 0, 1) := by decide +kernel
theorem dX0_comeTo_39 : decode cX0_comeTo 39 = .ok (.getfield 17, 3) := by decide +kernel
theorem dX0_comeTo_42 : decode cX0_comeTo 42 = .ok (.iload_n 1, 1) := by decide +kernel
theorem dX0_comeTo_43 : decode cX0_comeTo 43 = .ok (.iaload, 1) := by decide +kernel
theorem dX0_comeTo_44 : decode cX0_comeTo 44 = .ok (.iload_n 2, 1) := by decide +kernel
theorem dX0_comeTo_45 : decode cX0_comeTo 45 = .ok (.ishr, 1) := by decide +kernel
theorem dX0_comeTo_46 : decode cX0_comeTo 46 = .ok (.iconst 1, 1) := by decide +kernel
theorem dX0_comeTo_47 : decode cX0_comeTo 47 = .ok (.iand, 1) := by decide +kernel
theorem dX0_comeTo_48 : decode cX0_comeTo 48 = .ok (.iconst 1, 1) := by decide +kernel
theorem dX0_comeTo_49 : decode cX0_comeTo 49 = .ok (.if_icmp .ne 4, 3) := by decide +kernel
theorem dX0_comeTo_52 : decode cX0_comeTo 52 = .ok (.return_, 1) := by decide +kernel
theorem dX0_comeTo_53 : decode cX0_comeTo 53 = .ok (.aload_n 0, 1) := by decide +kernel
theorem dX0_comeTo_54 : decode cX0_comeTo 54 = .ok (.getfield 17, 3) := by decide +kernel
theorem dX0_comeTo_57 : decode cX0_comeTo 57 = .ok (.iload_n 1, 1) := by decide +kernel
theorem dX0_comeTo_58 : decode cX0_comeTo 58 = .ok (.dup2, 1) := by decide +kernel
theorem dX0_comeTo_59 : decode cX0_comeTo 59 = .ok (.iaload, 1) := by decide +kernel
theorem dX0_comeTo_60 : decode cX0_comeTo 60 = .ok (.iconst 1, 1) := by decide +kernel
theorem dX0_comeTo_61 : decode cX0_comeTo 61 = .ok (.iload_n 2, 1) := by decide +kernel
theorem dX0_comeTo_62 : decode cX0_comeTo 62 = .ok (.ishl, 1) := by decide +kernel
theorem dX0_comeTo_63 : decode cX0_comeTo 63 = .ok (.ior, 1) := by decide +kernel
theorem dX0_comeTo_64 : decode cX0_comeTo 64 = .ok (.iastore, 1) := by decide +kernel
theorem dX0_comeTo_65 : decode cX0_comeTo 65 = .ok (.aload_n 0, 1) := by decide +kernel
theorem dX0_comeTo_66 : decode cX0_comeTo 66 = .ok (.getfield 33, 3) := by decide +kernel
theorem dX0_comeTo_69 : decode cX0_comeTo 69 = .ok (.iload_n 1, 1) := by decide +kernel
theorem dX0_comeTo_70 : decode cX0_comeTo 70 = .ok (.invokevirtual 101, 3) := by decide +kernel
theorem dX0_comeTo_73 : decode cX0_comeTo 73 = .ok (.ifCond .eq 11, 3) := by decide +kernel
theorem dX0_comeTo_76 : decode cX0_comeTo 76 = .ok (.aload_n 0, 1) := by decide +kernel
theorem dX0_comeTo_77 : decode cX0_comeTo 77 = .ok (.aload_n 0, 1) := by decide +kernel
theorem dX0_comeTo_78 : decode cX0_comeTo 78 = .ok (.getfield 64, 3) := by decide +kernel
theorem dX0_comeTo_81 : decode cX0_comeTo 81 = .ok (.putfield 67, 3) := by decide +kernel
theorem dX0_comeTo_84 : decode cX0_comeTo 84 = .ok (.lconst 0, 1) := by decide +kernel
theorem dX0_comeTo_85 : decode cX0_comeTo 85 = .ok (.iconst 0, 1) := by decide +kernel
theorem dX0_comeTo_86 : decode cX0_comeTo 86 = .ok (.bipush 16, 2) := by decide +kernel
theorem dX0_comeTo_88 : decode cX0_comeTo 88 = .ok (.iload_n 1, 1) := by decide +kernel
theorem dX0_comeTo_89 : decode cX0_comeTo 89 = .ok (.invokestatic 105, 3) := by decide +kernel
theorem dX0_comeTo_92 : decode cX0_comeTo 92 = .ok (.iconst 1, 1) := by decide +kernel
theorem dX0_comeTo_93 : decode cX0_comeTo 93 = .ok (.bipush 16, 2) := by decide +kernel
theorem dX0_comeTo_95 : decode cX0_comeTo 95 = .ok (.iload_n 2, 1) := by decide +kernel
theorem dX0_comeTo_96 : decode cX0_comeTo 96 = .ok (.invokestatic 105, 3) := by decide +kernel
theorem dX0_comeTo_99 : decode cX0_comeTo 99 = .ok (.lstore 5, 2) := by decide +kernel
theorem dX0_comeTo_101 : decode cX0_comeTo 101 = .ok (.aload_n 0, 1) := by decide +kernel
theorem dX0_comeTo_102 : decode cX0_comeTo 102 = .ok (.getfield 13, 3) := by decide +kernel
theorem dX0_comeTo_105 : decode cX0_comeTo 105 = .ok (.aload_n 0, 1) := by decide +kernel
theorem dX0_comeTo_106 : decode cX0_comeTo 106 = .ok (.getfield 64, 3) := by decide +kernel
theorem dX0_comeTo_109 : decode cX0_comeTo 109 = .ok (.lload 5, 2) := by decide +kernel
theorem dX0_comeTo_111 : decode cX0_comeTo 111 = .ok (.iconst 2, 1) := by decide +kernel
theorem dX0_comeTo_112 : decode cX0_comeTo 112 = .ok (.bipush 16, 2) := by decide +kernel
theorem dX0_comeTo_114 : decode cX0_comeTo 114 = .ok (.iload_n 3, 1) := by decide +kernel
theorem dX0_comeTo_115 : decode cX0_comeTo 115 = .ok (.invokestatic 105, 3) := by decide +kernel
theorem dX0_comeTo_118 : decode cX0_comeTo 118 = .ok (.iconst 3, 1) := by decide +kernel
theorem dX0_comeTo_119 : decode cX0_comeTo 119 = .ok (.bipush 16, 2) := by decide +kernel
theorem dX0_comeTo_121 : decode cX0_comeTo 121 = .ok (.iload 4, 2) := by decide +kernel
theorem dX0_comeTo_123 : decode cX0_comeTo 123 = .ok (.invokestatic 105, 3) := by decide +kernel
theorem dX0_comeTo_126 : decode cX0_comeTo 126 = .ok (.lastore, 1) := by decide +kernel
theorem dX0_comeTo_127 : decode cX0_comeTo 127 = .ok (.aload_n 0, 1) := by decide +kernel
theorem dX0_comeTo_128 : decode cX0_comeTo 128 = .ok (.dup, 1) := by decide +kernel
theorem dX0_comeTo_129 : decode cX0_comeTo 129 = .ok (.getfield 64, 3) := by decide +kernel
theorem dX0_comeTo_132 : decode cX0_comeTo 132 = .ok (.iconst 1, 1) := by decide +kernel
theorem dX0_comeTo_133 : decode cX0_comeTo 133 = .ok (.iadd, 1) := by decide +kernel
theorem dX0_comeTo_134 : decode cX0_comeTo 134 = .ok (.putfield 64, 3) := by decide +kernel
theorem dX0_comeTo_137 : decode cX0_comeTo 137 = .ok (.return_, 1) := by decide +kernel
theorem dX0_daysTo_0 : decode cX0_daysTo 0 = .ok (.iconst 0, 1) := by decide +kernel
theorem dX0_daysTo_1 : decode cX0_daysTo 1 = .ok (.istore_n 2, 1) := by decide +kernel
theorem dX0_daysTo_2 : decode cX0_daysTo 2 = .ok (.iload_n 1, 1) := by decide +kernel
theorem dX0_daysTo_3 : decode cX0_daysTo 3 = .ok (.istore_n 3, 1) := by decide +kernel
theorem dX0_daysTo_4 : decode cX0_daysTo 4 = .ok (.iload_n 3, 1) := by decide +kernel
theorem dX0_daysTo_5 : decode cX0_daysTo 5 = .ok (.ifCond .le 36, 3) := by decide +kernel
theorem dX0_daysTo_8 : decode cX0_daysTo 8 = .ok (.iload_n 3, 1) := by decide +kernel
theorem dX0_daysTo_9 : decode cX0_daysTo 9 = .ok (.sipush 21392, 3) := by decide +kernel
theorem dX0_daysTo_12 : decode cX0_daysTo 12 = .ok (.if_icmp .ge 29, 3) := by decide +kernel
theorem dX0_daysTo_15 : decode cX0_daysTo 15 = .ok (.iload_n 2, 1) := by decide +kernel
theorem dX0_daysTo_16 : decode cX0_daysTo 16 = .ok (.sipush 21392, 3) := by decide +kernel
theorem dX0_daysTo_19 : decode cX0_daysTo 19 = .ok (.if_icmp .ge 22, 3) := by decide +kernel
theorem dX0_daysTo_22 : decode cX0_daysTo 22 = .ok (.aload_n 0, 1) := by decide +kernel
theorem dX0_daysTo_23 : decode cX0_daysTo 23 = .ok (.getfield 13, 3) := by decide +kernel
theorem dX0_daysTo_26 : decode cX0_daysTo 26 = .ok (.iload_n 3, 1) := by decide +kernel
theorem dX0_daysTo_27 : decode cX0_daysTo 27 = .ok (.laload, 1) := by decide +kernel
theorem dX0_daysTo_28 : decode cX0_daysTo 28 = .ok (.iconst 3, 1) := by decide +kernel
theorem dX0_daysTo_29 : decode cX0_daysTo 29 = .ok (.bipush 16, 2) := by decide +kernel
theorem dX0_daysTo_31 : decode cX0_daysTo 31 = .ok (.invokestatic 74, 3) := by decide +kernel
theorem dX0_daysTo_34 : decode cX0_daysTo 34 = .ok (.istore_n 3, 1) := by decide +kernel
theorem dX0_daysTo_35 : decode cX0_daysTo 35 = .ok (.iinc 2 1, 3) := by decide +kernel
theorem dX0_daysTo_38 : decode cX0_daysTo 38 = .ok (.goto (-34), 3) := by decide +kernel
theorem dX0_daysTo_41 : decode cX0_daysTo 41 = .ok (.iload_n 2, 1) := by decide +kernel
theorem dX0_daysTo_42 : decode cX0_daysTo 42 = .ok (.ireturn, 1) := by decide +kernel
theorem dX0_solve_0 : decode cX0_solve 0 = .ok (.aload_n 0, 1) := by decide +kernel
theorem dX0_solve_1 : decode cX0_solve 1 = .ok (.getfield 21, 3) := by decide +kernel
theorem dX0_solve_4 : decode cX0_solve 4 = .ok (.iload_n 2, 1) := by decide +kernel
theorem dX0_solve_5 : decode cX0_solve 5 = .ok (.if_icmp .ne 26, 3) := by decide +kernel
theorem dX0_solve_8 : decode cX0_solve 8 = .ok (.aload_n 0, 1) := by decide +kernel
theorem dX0_solve_9 : decode cX0_solve 9 = .ok (.getfield 37, 3) := by decide +kernel
theorem dX0_solve_12 : decode cX0_solve 12 = .ok (.aload_n 1, 1) := by decide +kernel
theorem dX0_solve_13 : decode cX0_solve 13 = .ok (.getfield 40, 3) := by decide +kernel
theorem dX0_solve_16 : decode cX0_solve 16 = .ok (.if_icmp .ne 15, 3) := by decide +kernel
theorem dX0_solve_19 : decode cX0_solve 19 = .ok (.aload_n 0, 1) := by decide +kernel
theorem dX0_solve_20 : decode cX0_solve 20 = .ok (.getfield 45, 3) := by decide +kernel
theorem dX0_solve_23 : decode cX0_solve 23 = .ok (.aload_n 1, 1) := by decide +kernel
theorem dX0_solve_24 : decode cX0_solve 24 = .ok (.getfield 48, 3) := by decide +kernel
theorem dX0_solve_27 : decode cX0_solve 27 = .ok (.if_icmp .ne 4, 3) := by decide +kernel
theorem dX0_solve_30 : decode cX0_solve 30 = .ok (.return_, 1) := by decide +kernel
theorem dX0_solve_31 : decode cX0_solve 31 = .ok (.aload_n 0, 1) := by decide +kernel
theorem dX0_solve_32 : decode cX0_solve 32 = .ok (.iload_n 2, 1) := by decide +kernel
theorem dX0_solve_33 : decode cX0_solve 33 = .ok (.putfield 21, 3) := by decide +kernel
theorem dX0_solve_36 : decode cX0_solve 36 = .ok (.aload_n 0, 1) := by decide +kernel
theorem dX0_solve_37 : decode cX0_solve 37 = .ok (.aload_n 1, 1) := by decide +kernel
theorem dX0_solve_38 : decode cX0_solve 38 = .ok (.getfield 40, 3) := by decide +kernel
theorem dX0_solve_41 : decode cX0_solve 41 = .ok (.putfield 37, 3) := by decide +kernel
theorem dX0_solve_44 : decode cX0_solve 44 = .ok (.aload_n 0, 1) := by decide +kernel
theorem dX0_solve_45 : decode cX0_solve 45 = .ok (.aload_n 1, 1) := by decide +kernel
theorem dX0_solve_46 : decode cX0_solve 46 = .ok (.getfield 48, 3) := by decide +kernel
theorem dX0_solve_49 : decode cX0_solve 49 = .ok (.putfield 45, 3) := by decide +kernel
theorem dX0_solve_52 : decode cX0_solve 52 = .ok (.aload_n 0, 1) := by decide +kernel
theorem dX0_solve_53 : decode cX0_solve 53 = .ok (.getfield 25, 3) := by decide +kernel
theorem dX0_solve_56 : decode cX0_solve 56 = .ok (.aload_n 1, 1) := by decide +kernel
theorem dX0_solve_57 : decode cX0_solve 57 = .ok (.getfield 40, 3) := by decide +kernel
theorem dX0_solve_60 : decode cX0_solve 60 = .ok (.invokevirtual 51, 3) := by decide +kernel
theorem dX0_solve_63 : decode cX0_solve 63 = .ok (.istore_n 3, 1) := by decide +kernel
theorem dX0_solve_64 : decode cX0_solve 64 = .ok (.aload_n 0, 1) := by decide +kernel
theorem dX0_solve_65 : decode cX0_solve 65 = .ok (.getfield 17, 3) := by decide +kernel
theorem dX0_solve_68 : decode cX0_solve 68 = .ok (.iload_n 3, 1) := by decide +kernel
theorem dX0_solve_69 : decode cX0_solve 69 = .ok (.invokestatic 55, 3) := by decide +kernel
theorem dX0_solve_72 : decode cX0_solve 72 = .ok (.iload_n 3, 1) := by decide +kernel
theorem dX0_solve_73 : decode cX0_solve 73 = .ok (.iconst 1, 1) := by decide +kernel
theorem dX0_solve_74 : decode cX0_solve 74 = .ok (.iadd, 1) := by decide +kernel
theorem dX0_solve_75 : decode cX0_solve 75 = .ok (.invokestatic 55, 3) := by decide +kernel
theorem dX0_solve_78 : decode cX0_solve 78 = .ok (.iconst 0, 1) := by decide +kernel
theorem dX0_solve_79 : decode cX0_solve 79 = .ok (.invokestatic 58, 3) := by decide +kernel
theorem dX0_solve_82 : decode cX0_solve 82 = .ok (.aload_n 0, 1) := by decide +kernel
theorem dX0_solve_83 : decode cX0_solve 83 = .ok (.iconst 0, 1) := by decide +kernel
theorem dX0_solve_84 : decode cX0_solve 84 = .ok (.putfield 64, 3) := by decide +kernel
theorem dX0_solve_87 : decode cX0_solve 87 = .ok (.aload_n 0, 1) := by decide +kernel
theorem dX0_solve_88 : decode cX0_solve 88 = .ok (.iconst (-1), 1) := by decide +kernel
theorem dX0_solve_89 : decode cX0_solve 89 = .ok (.putfield 67, 3) := by decide +kernel
theorem dX0_solve_92 : decode cX0_solve 92 = .ok (.aload_n 0, 1) := by decide +kernel
theorem dX0_solve_93 : decode cX0_solve 93 = .ok (.aload_n 1, 1) := by decide +kernel
theorem dX0_solve_94 : decode cX0_solve 94 = .ok (.getfield 40, 3) := by decide +kernel
theorem dX0_solve_97 : decode cX0_solve 97 = .ok (.aload_n 1, 1) := by decide +kernel
theorem dX0_solve_98 : decode cX0_solve 98 = .ok (.getfield 48, 3) := by decide +kernel
theorem dX0_solve_101 : decode cX0_solve 101 = .ok (.bipush 8, 2) := by decide +kernel
theorem dX0_solve_103 : decode cX0_solve 103 = .ok (.iconst 0, 1) := by decide +kernel
theorem dX0_solve_104 : decode cX0_solve 104 = .ok (.invokevirtual 70, 3) := by decide +kernel
theorem dX0_solve_107 : decode cX0_solve 107 = .ok (.iconst 0, 1) := by decide +kernel
theorem dX0_solve_108 : decode cX0_solve 108 = .ok (.istore 4, 2) := by decide +kernel
theorem dX0_solve_110 : decode cX0_solve 110 = .ok (.iload 4, 2) := by decide +kernel
theorem dX0_solve_112 : decode cX0_solve 112 = .ok (.aload_n 0, 1) := by decide +kernel
theorem dX0_solve_113 : decode cX0_solve 113 = .ok (.getfield 64, 3) := by decide +kernel
theorem dX0_solve_116 : decode cX0_solve 116 = .ok (.if_icmp .ge 145, 3) := by decide +kernel
theorem dX0_solve_119 : decode cX0_solve 119 = .ok (.iload 4, 2) := by decide +kernel
theorem dX0_solve_121 : decode cX0_solve 121 = .ok (.sipush 21392, 3) := by decide +kernel
theorem dX0_solve_124 : decode cX0_solve 124 = .ok (.if_icmp .ge 137, 3) := by decide +kernel
theorem dX0_solve_127 : decode cX0_solve 127 = .ok (.aload_n 0, 1) := by decide +kernel
theorem dX0_solve_128 : decode cX0_solve 128 = .ok (.getfield 67, 3) := by decide +kernel
theorem dX0_solve_131 : decode cX0_solve 131 = .ok (.ifCond .ge 130, 3) := by decide +kernel
theorem dX0_solve_134 : decode cX0_solve 134 = .ok (.aload_n 0, 1) := by decide +kernel
theorem dX0_solve_135 : decode cX0_solve 135 = .ok (.getfield 13, 3) := by decide +kernel
theorem dX0_solve_138 : decode cX0_solve 138 = .ok (.iload 4, 2) := by decide +kernel
theorem dX0_solve_140 : decode cX0_solve 140 = .ok (.laload, 1) := by decide +kernel
theorem dX0_solve_141 : decode cX0_solve 141 = .ok (.iconst 0, 1) := by decide +kernel
theorem dX0_solve_142 : decode cX0_solve 142 = .ok (.bipush 16, 2) := by decide +kernel
theorem dX0_solve_144 : decode cX0_solve 144 = .ok (.invokestatic 74, 3) := by decide +kernel
theorem dX0_solve_147 : decode cX0_solve 147 = .ok (.istore 5, 2) := by decide +kernel
theorem dX0_solve_149 : decode cX0_solve 149 = .ok (.aload_n 0, 1) := by decide +kernel
theorem dX0_solve_150 : decode cX0_solve 150 = .ok (.getfield 13, 3) := by decide +kernel
theorem dX0_solve_153 : decode cX0_solve 153 = .ok (.iload 4, 2) := by decide +kernel
theorem dX0_solve_155 : decode cX0_solve 155 = .ok (.laload, 1) := by decide +kernel
theorem dX0_solve_156 : decode cX0_solve 156 = .ok (.iconst 1, 1) := by decide +kernel
theorem dX0_solve_157 : decode cX0_solve 157 = .ok (.bipush 16, 2) := by decide +kernel
theorem dX0_solve_159 : decode cX0_solve 159 = .ok (.invokestatic 74, 3) := by decide +kernel
theorem dX0_solve_162 : decode cX0_solve 162 = .ok (.istore 6, 2) := by decide +kernel
theorem dX0_solve_164 : decode cX0_solve 164 = .ok (.aload_n 0, 1) := by decide +kernel
theorem dX0_solve_165 : decode cX0_solve 165 = .ok (.getfield 29, 3) := by decide +kernel
theorem dX0_solve_168 : decode cX0_solve 168 = .ok (.iload 5, 2) := by decide +kernel
theorem dX0_solve_170 : decode cX0_solve 170 = .ok (.aload_n 0, 1) := by decide +kernel
theorem dX0_solve_171 : decode cX0_solve 171 = .ok (.getfield 33, 3) := by decide +kernel
theorem dX0_solve_174 : decode cX0_solve 174 = .ok (.iload 6, 2) := by decide +kernel
theorem dX0_solve_176 : decode cX0_solve 176 = .ok (.invokevirtual 78, 3) := by decide +kernel
theorem dX0_solve_179 : decode cX0_solve 179 = .ok (.invokevirtual 83, 3) := by decide +kernel
theorem dX0_solve_182 : decode cX0_solve 182 = .ok (.istore 7, 2) := by decide +kernel
theorem dX0_solve_184 : decode cX0_solve 184 = .ok (.aload_n 0, 1) := by decide +kernel
theorem dX0_solve_185 : decode cX0_solve 185 = .ok (.getfield 33, 3) := by decide +kernel
theorem dX0_solve_188 : decode cX0_solve 188 = .ok (.iload 6, 2) := by decide +kernel
theorem dX0_solve_190 : decode cX0_solve 190 = .ok (.invokevirtual 89, 3) := by decide +kernel
theorem dX0_solve_193 : decode cX0_solve 193 = .ok (.istore 8, 2) := by decide +kernel
theorem dX0_solve_195 : decode cX0_solve 195 = .ok (.aload_n 0, 1) := by decide +kernel
theorem dX0_solve_196 : decode cX0_solve 196 = .ok (.iload 5, 2) := by decide +kernel
theorem dX0_solve_198 : decode cX0_solve 198 = .ok (.iload 8, 2) := by decide +kernel
theorem dX0_solve_200 : decode cX0_solve 200 = .ok (.bipush 8, 2) := by decide +kernel
theorem dX0_solve_202 : decode cX0_solve 202 = .ok (.iload 4, 2) := by decide +kernel
theorem dX0_solve_204 : decode cX0_solve 204 = .ok (.invokevirtual 70, 3) := by decide +kernel
theorem dX0_solve_207 : decode cX0_solve 207 = .ok (.iconst 0, 1) := by decide +kernel
theorem dX0_solve_208 : decode cX0_solve 208 = .ok (.istore 9, 2) := by decide +kernel
theorem dX0_solve_210 : decode cX0_solve 210 = .ok (.iload 9, 2) := by decide +kernel
theorem dX0_solve_212 : decode cX0_solve 212 = .ok (.bipush 8, 2) := by decide +kernel
theorem dX0_solve_214 : decode cX0_solve 214 = .ok (.if_icmp .ge 41, 3) := by decide +kernel
theorem dX0_solve_217 : decode cX0_solve 217 = .ok (.iload 7, 2) := by decide +kernel
theorem dX0_solve_219 : decode cX0_solve 219 = .ok (.iload 9, 2) := by decide +kernel
theorem dX0_solve_221 : decode cX0_solve 221 = .ok (.ishr, 1) := by decide +kernel
theorem dX0_solve_222 : decode cX0_solve 222 = .ok (.iconst 1, 1) := by decide +kernel
theorem dX0_solve_223 : decode cX0_solve 223 = .ok (.iand, 1) := by decide +kernel
theorem dX0_solve_224 : decode cX0_solve 224 = .ok (.iconst 1, 1) := by decide +kernel
theorem dX0_solve_225 : decode cX0_solve 225 = .ok (.if_icmp .ne 24, 3) := by decide +kernel
theorem dX0_solve_228 : decode cX0_solve 228 = .ok (.aload_n 0, 1) := by decide +kernel
theorem dX0_solve_229 : decode cX0_solve 229 = .ok (.aload_n 0, 1) := by decide +kernel
theorem dX0_solve_230 : decode cX0_solve 230 = .ok (.getfield 25, 3) := by decide +kernel
theorem dX0_solve_233 : decode cX0_solve 233 = .ok (.iload 5, 2) := by decide +kernel
theorem dX0_solve_235 : decode cX0_solve 235 = .ok (.iload 9, 2) := by decide +kernel
theorem dX0_solve_237 : decode cX0_solve 237 = .ok (.invokevirtual 92, 3) := by decide +kernel
theorem dX0_solve_240 : decode cX0_solve 240 = .ok (.iload 8, 2) := by decide +kernel
theorem dX0_solve_242 : decode cX0_solve 242 = .ok (.iload 9, 2) := by decide +kernel
theorem dX0_solve_244 : decode cX0_solve 244 = .ok (.iload 4, 2) := by decide +kernel
theorem dX0_solve_246 : decode cX0_solve 246 = .ok (.invokevirtual 70, 3) := by decide +kernel
theorem dX0_solve_249 : decode cX0_solve 249 = .ok (.iinc 9 1, 3) := by decide +kernel
theorem dX0_solve_252 : decode cX0_solve 252 = .ok (.goto (-42), 3) := by decide +kernel
theorem dX0_solve_255 : decode cX0_solve 255 = .ok (.iinc 4 1, 3) := by decide +kernel
theorem dX0_solve_258 : decode cX0_solve 258 = .ok (.goto (-148), 3) := by decide +kernel
theorem dX0_solve_261 : decode cX0_solve 261 = .ok (.aload_n 0, 1) := by decide +kernel
theorem dX0_solve_262 : decode cX0_solve 262 = .ok (.aload_n 0, 1) := by decide +kernel
theorem dX0_solve_263 : decode cX0_solve 263 = .ok (.getfield 67, 3) := by decide +kernel
theorem dX0_solve_266 : decode cX0_solve 266 = .ok (.ifCond .ge 7, 3) := by decide +kernel
theorem dX0_solve_269 : decode cX0_solve 269 = .ok (.iconst (-1), 1) := by decide +kernel
theorem dX0_solve_270 : decode cX0_solve 270 = .ok (.goto 11, 3) := by decide +kernel
theorem dX0_solve_273 : decode cX0_solve 273 = .ok (.aload_n 0, 1) := by decide +kernel
theorem dX0_solve_274 : decode cX0_solve 274 = .ok (.aload_n 0, 1) := by decide +kernel
theorem dX0_solve_275 : decode cX0_solve 275 = .ok (.getfield 67, 3) := by decide +kernel
theorem dX0_solve_278 : decode cX0_solve 278 = .ok (.invokevirtual 95, 3) := by decide +kernel
theorem dX0_solve_281 : decode cX0_solve 281 = .ok (.putfield 98, 3) := by decide +kernel
theorem dX0_solve_284 : decode cX0_solve 284 = .ok (.return_, 1) := by decide +kernel
theorem dX0_madeOn_0 : decode cX0_madeOn 0 = .ok (.iload_n 1, 1) := by decide +kernel
theorem dX0_madeOn_1 : decode cX0_madeOn 1 = .ok (.ifCond .lt 11, 3) := by decide +kernel
theorem dX0_madeOn_4 : decode cX0_madeOn 4 = .ok (.iload_n 1, 1) := by decide +kernel
theorem dX0_madeOn_5 : decode cX0_madeOn 5 = .ok (.aload_n 0, 1) := by decide +kernel
theorem dX0_madeOn_6 : decode cX0_madeOn 6 = .ok (.getfield 98, 3) := by decide +kernel
theorem dX0_madeOn_9 : decode cX0_madeOn 9 = .ok (.if_icmp .lt 5, 3) := by decide +kernel
theorem dX0_madeOn_12 : decode cX0_madeOn 12 = .ok (.iconst (-1), 1) := by decide +kernel
theorem dX0_madeOn_13 : decode cX0_madeOn 13 = .ok (.ireturn, 1) := by decide +kernel
theorem dX0_madeOn_14 : decode cX0_madeOn 14 = .ok (.aload_n 0, 1) := by decide +kernel
theorem dX0_madeOn_15 : decode cX0_madeOn 15 = .ok (.getfield 67, 3) := by decide +kernel
theorem dX0_madeOn_18 : decode cX0_madeOn 18 = .ok (.istore_n 2, 1) := by decide +kernel
theorem dX0_madeOn_19 : decode cX0_madeOn 19 = .ok (.aload_n 0, 1) := by decide +kernel
theorem dX0_madeOn_20 : decode cX0_madeOn 20 = .ok (.getfield 98, 3) := by decide +kernel
theorem dX0_madeOn_23 : decode cX0_madeOn 23 = .ok (.iconst 1, 1) := by decide +kernel
theorem dX0_madeOn_24 : decode cX0_madeOn 24 = .ok (.isub, 1) := by decide +kernel
theorem dX0_madeOn_25 : decode cX0_madeOn 25 = .ok (.istore_n 3, 1) := by decide +kernel
theorem dX0_madeOn_26 : decode cX0_madeOn 26 = .ok (.iload_n 3, 1) := by decide +kernel
theorem dX0_madeOn_27 : decode cX0_madeOn 27 = .ok (.iload_n 1, 1) := by decide +kernel
theorem dX0_madeOn_28 : decode cX0_madeOn 28 = .ok (.if_icmp .le 33, 3) := by decide +kernel
theorem dX0_madeOn_31 : decode cX0_madeOn 31 = .ok (.iload_n 2, 1) := by decide +kernel
theorem dX0_madeOn_32 : decode cX0_madeOn 32 = .ok (.ifCond .lt 29, 3) := by decide +kernel
theorem dX0_madeOn_35 : decode cX0_madeOn 35 = .ok (.iload_n 2, 1) := by decide +kernel
theorem dX0_madeOn_36 : decode cX0_madeOn 36 = .ok (.sipush 21392, 3) := by decide +kernel
theorem dX0_madeOn_39 : decode cX0_madeOn 39 = .ok (.if_icmp .ge 22, 3) := by decide +kernel
theorem dX0_madeOn_42 : decode cX0_madeOn 42 = .ok (.aload_n 0, 1) := by decide +kernel
theorem dX0_madeOn_43 : decode cX0_madeOn 43 = .ok (.getfield 13, 3) := by decide +kernel
theorem dX0_madeOn_46 : decode cX0_madeOn 46 = .ok (.iload_n 2, 1) := by decide +kernel
theorem dX0_madeOn_47 : decode cX0_madeOn 47 = .ok (.laload, 1) := by decide +kernel
theorem dX0_madeOn_48 : decode cX0_madeOn 48 = .ok (.iconst 3, 1) := by decide +kernel
theorem dX0_madeOn_49 : decode cX0_madeOn 49 = .ok (.bipush 16, 2) := by decide +kernel
theorem dX0_madeOn_51 : decode cX0_madeOn 51 = .ok (.invokestatic 74, 3) := by decide +kernel
theorem dX0_madeOn_54 : decode cX0_madeOn 54 = .ok (.istore_n 2, 1) := by decide +kernel
theorem dX0_madeOn_55 : decode cX0_madeOn 55 = .ok (.iinc 3 (-1), 3) := by decide +kernel
theorem dX0_madeOn_58 : decode cX0_madeOn 58 = .ok (.goto (-32), 3) := by decide +kernel
theorem dX0_madeOn_61 : decode cX0_madeOn 61 = .ok (.iload_n 2, 1) := by decide +kernel
theorem dX0_madeOn_62 : decode cX0_madeOn 62 = .ok (.ifCond .lt 25, 3) := by decide +kernel
theorem dX0_madeOn_65 : decode cX0_madeOn 65 = .ok (.iload_n 2, 1) := by decide +kernel
theorem dX0_madeOn_66 : decode cX0_madeOn 66 = .ok (.sipush 21392, 3) := by decide +kernel
theorem dX0_madeOn_69 : decode cX0_madeOn 69 = .ok (.if_icmp .ge 18, 3) := by decide +kernel
theorem dX0_madeOn_72 : decode cX0_madeOn 72 = .ok (.aload_n 0, 1) := by decide +kernel
theorem dX0_madeOn_73 : decode cX0_madeOn 73 = .ok (.getfield 13, 3) := by decide +kernel
theorem dX0_madeOn_76 : decode cX0_madeOn 76 = .ok (.iload_n 2, 1) := by decide +kernel
theorem dX0_madeOn_77 : decode cX0_madeOn 77 = .ok (.laload, 1) := by decide +kernel
theorem dX0_madeOn_78 : decode cX0_madeOn 78 = .ok (.iconst 2, 1) := by decide +kernel
theorem dX0_madeOn_79 : decode cX0_madeOn 79 = .ok (.bipush 16, 2) := by decide +kernel
theorem dX0_madeOn_81 : decode cX0_madeOn 81 = .ok (.invokestatic 74, 3) := by decide +kernel
theorem dX0_madeOn_84 : decode cX0_madeOn 84 = .ok (.goto 4, 3) := by decide +kernel
theorem dX0_madeOn_87 : decode cX0_madeOn 87 = .ok (.iconst (-1), 1) := by decide +kernel
theorem dX0_madeOn_88 : decode cX0_madeOn 88 = .ok (.ireturn, 1) := by decide +kernel
theorem dX11_soon_0 : decode cX11_soon 0 = .ok (.iload_n 1, 1) := by decide +kernel
theorem dX11_soon_1 : decode cX11_soon 1 = .ok (.iconst (-1), 1) := by decide +kernel
theorem dX11_soon_2 : decode cX11_soon 2 = .ok (.if_icmp .ge 5, 3) := by decide +kernel
theorem dX11_soon_5 : decode cX11_soon 5 = .ok (.iconst (-1), 1) := by decide +kernel
theorem dX11_soon_6 : decode cX11_soon 6 = .ok (.ireturn, 1) := by decide +kernel
theorem dX11_soon_7 : decode cX11_soon 7 = .ok (.aload_n 0, 1) := by decide +kernel
theorem dX11_soon_8 : decode cX11_soon 8 = .ok (.getfield 74, 3) := by decide +kernel
theorem dX11_soon_11 : decode cX11_soon 11 = .ok (.aload_n 0, 1) := by decide +kernel
theorem dX11_soon_12 : decode cX11_soon 12 = .ok (.getfield 88, 3) := by decide +kernel
theorem dX11_soon_15 : decode cX11_soon 15 = .ok (.aload_n 0, 1) := by decide +kernel
theorem dX11_soon_16 : decode cX11_soon 16 = .ok (.getfield 110, 3) := by decide +kernel
theorem dX11_soon_19 : decode cX11_soon 19 = .ok (.invokevirtual 269, 3) := by decide +kernel
theorem dX11_soon_22 : decode cX11_soon 22 = .ok (.aload_n 0, 1) := by decide +kernel
theorem dX11_soon_23 : decode cX11_soon 23 = .ok (.getfield 74, 3) := by decide +kernel
theorem dX11_soon_26 : decode cX11_soon 26 = .ok (.getfield 272, 3) := by decide +kernel
theorem dX11_soon_29 : decode cX11_soon 29 = .ok (.ifCond .ge 6, 3) := by decide +kernel
theorem dX11_soon_32 : decode cX11_soon 32 = .ok (.bipush (-2), 2) := by decide +kernel
theorem dX11_soon_34 : decode cX11_soon 34 = .ok (.ireturn, 1) := by decide +kernel
theorem dX11_soon_35 : decode cX11_soon 35 = .ok (.iload_n 1, 1) := by decide +kernel
theorem dX11_soon_36 : decode cX11_soon 36 = .ok (.iconst (-1), 1) := by decide +kernel
theorem dX11_soon_37 : decode cX11_soon 37 = .ok (.if_icmp .ne 13, 3) := by decide +kernel
theorem dX11_soon_40 : decode cX11_soon 40 = .ok (.aload_n 0, 1) := by decide +kernel
theorem dX11_soon_41 : decode cX11_soon 41 = .ok (.getfield 74, 3) := by decide +kernel
theorem dX11_soon_44 : decode cX11_soon 44 = .ok (.getfield 272, 3) := by decide +kernel
theorem dX11_soon_47 : decode cX11_soon 47 = .ok (.goto 11, 3) := by decide +kernel
theorem dX11_soon_50 : decode cX11_soon 50 = .ok (.aload_n 0, 1) := by decide +kernel
theorem dX11_soon_51 : decode cX11_soon 51 = .ok (.getfield 74, 3) := by decide +kernel
theorem dX11_soon_54 : decode cX11_soon 54 = .ok (.iload_n 1, 1) := by decide +kernel
theorem dX11_soon_55 : decode cX11_soon 55 = .ok (.invokevirtual 273, 3) := by decide +kernel
theorem dX11_soon_58 : decode cX11_soon 58 = .ok (.ireturn, 1) := by decide +kernel
theorem dX7_spanBehind_0 : decode cX7_spanBehind 0 = .ok (.aload_n 0, 1) := by decide +kernel
theorem dX7_spanBehind_1 : decode cX7_spanBehind 1 = .ok (.getfield 17, 3) := by decide +kernel
theorem dX7_spanBehind_4 : decode cX7_spanBehind 4 = .ok (.iload_n 1, 1) := by decide +kernel
theorem dX7_spanBehind_5 : decode cX7_spanBehind 5 = .ok (.invokevirtual 101, 3) := by decide +kernel
theorem dX7_spanBehind_8 : decode cX7_spanBehind 8 = .ok (.aload_n 0, 1) := by decide +kernel
theorem dX7_spanBehind_9 : decode cX7_spanBehind 9 = .ok (.getfield 29, 3) := by decide +kernel
theorem dX7_spanBehind_12 : decode cX7_spanBehind 12 = .ok (.iand, 1) := by decide +kernel
theorem dX7_spanBehind_13 : decode cX7_spanBehind 13 = .ok (.aload_n 0, 1) := by decide +kernel
theorem dX7_spanBehind_14 : decode cX7_spanBehind 14 = .ok (.getfield 29, 3) := by decide +kernel
theorem dX7_spanBehind_17 : decode cX7_spanBehind 17 = .ok (.if_icmp .ne 7, 3) := by decide +kernel
theorem dX7_spanBehind_20 : decode cX7_spanBehind 20 = .ok (.iconst 1, 1) := by decide +kernel
theorem dX7_spanBehind_21 : decode cX7_spanBehind 21 = .ok (.goto 4, 3) := by decide +kernel
theorem dX7_spanBehind_24 : decode cX7_spanBehind 24 = .ok (.iconst 0, 1) := by decide +kernel
theorem dX7_spanBehind_25 : decode cX7_spanBehind 25 = .ok (.istore 4, 2) := by decide +kernel
theorem dX7_spanBehind_27 : decode cX7_spanBehind 27 = .ok (.iload 4, 2) := by decide +kernel
theorem dX7_spanBehind_29 : decode cX7_spanBehind 29 = .ok (.ifCond .eq 17, 3) := by decide +kernel
theorem dX7_spanBehind_32 : decode cX7_spanBehind 32 = .ok (.iconst 1, 1) := by decide +kernel
theorem dX7_spanBehind_33 : decode cX7_spanBehind 33 = .ok (.aload_n 0, 1) := by decide +kernel
theorem dX7_spanBehind_34 : decode cX7_spanBehind 34 = .ok (.iload_n 1, 1) := by decide +kernel
theorem dX7_spanBehind_35 : decode cX7_spanBehind 35 = .ok (.iload_n 2, 1) := by decide +kernel
theorem dX7_spanBehind_36 : decode cX7_spanBehind 36 = .ok (.iload_n 3, 1) := by decide +kernel
theorem dX7_spanBehind_37 : decode cX7_spanBehind 37 = .ok (.iconst 1, 1) := by decide +kernel
theorem dX7_spanBehind_38 : decode cX7_spanBehind 38 = .ok (.isub, 1) := by decide +kernel
theorem dX7_spanBehind_39 : decode cX7_spanBehind 39 = .ok (.invokevirtual 57, 3) := by decide +kernel
theorem dX7_spanBehind_42 : decode cX7_spanBehind 42 = .ok (.iadd, 1) := by decide +kernel
theorem dX7_spanBehind_43 : decode cX7_spanBehind 43 = .ok (.goto 4, 3) := by decide +kernel
theorem dX7_spanBehind_46 : decode cX7_spanBehind 46 = .ok (.iconst 0, 1) := by decide +kernel
theorem dX7_spanBehind_47 : decode cX7_spanBehind 47 = .ok (.ireturn, 1) := by decide +kernel
theorem dX7_spanFrom_0 : decode cX7_spanFrom 0 = .ok (.iload_n 3, 1) := by decide +kernel
theorem dX7_spanFrom_1 : decode cX7_spanFrom 1 = .ok (.iconst 1, 1) := by decide +kernel
theorem dX7_spanFrom_2 : decode cX7_spanFrom 2 = .ok (.if_icmp .lt 22, 3) := by decide +kernel
theorem dX7_spanFrom_5 : decode cX7_spanFrom 5 = .ok (.iload_n 3, 1) := by decide +kernel
theorem dX7_spanFrom_6 : decode cX7_spanFrom 6 = .ok (.bipush 12, 2) := by decide +kernel
theorem dX7_spanFrom_8 : decode cX7_spanFrom 8 = .ok (.if_icmp .gt 16, 3) := by decide +kernel
theorem dX7_spanFrom_11 : decode cX7_spanFrom 11 = .ok (.iload_n 1, 1) := by decide +kernel
theorem dX7_spanFrom_12 : decode cX7_spanFrom 12 = .ok (.ifCond .lt 12, 3) := by decide +kernel
theorem dX7_spanFrom_15 : decode cX7_spanFrom 15 = .ok (.iload_n 1, 1) := by decide +kernel
theorem dX7_spanFrom_16 : decode cX7_spanFrom 16 = .ok (.aload_n 0, 1) := by decide +kernel
theorem dX7_spanFrom_17 : decode cX7_spanFrom 17 = .ok (.getfield 11, 3) := by decide +kernel
theorem dX7_spanFrom_20 : decode cX7_spanFrom 20 = .ok (.arraylength, 1) := by decide +kernel
theorem dX7_spanFrom_21 : decode cX7_spanFrom 21 = .ok (.if_icmp .lt 5, 3) := by decide +kernel
theorem dX7_spanFrom_24 : decode cX7_spanFrom 24 = .ok (.iconst 0, 1) := by decide +kernel
theorem dX7_spanFrom_25 : decode cX7_spanFrom 25 = .ok (.ireturn, 1) := by decide +kernel
theorem dX7_spanFrom_26 : decode cX7_spanFrom 26 = .ok (.aload_n 0, 1) := by decide +kernel
theorem dX7_spanFrom_27 : decode cX7_spanFrom 27 = .ok (.getfield 11, 3) := by decide +kernel
theorem dX7_spanFrom_30 : decode cX7_spanFrom 30 = .ok (.iload_n 1, 1) := by decide +kernel
theorem dX7_spanFrom_31 : decode cX7_spanFrom 31 = .ok (.laload, 1) := by decide +kernel
theorem dX7_spanFrom_32 : decode cX7_spanFrom 32 = .ok (.iload_n 3, 1) := by decide +kernel
theorem dX7_spanFrom_33 : decode cX7_spanFrom 33 = .ok (.iconst 1, 1) := by decide +kernel
theorem dX7_spanFrom_34 : decode cX7_spanFrom 34 = .ok (.isub, 1) := by decide +kernel
theorem dX7_spanFrom_35 : decode cX7_spanFrom 35 = .ok (.iconst 4, 1) := by decide +kernel
theorem dX7_spanFrom_36 : decode cX7_spanFrom 36 = .ok (.invokestatic 61, 3) := by decide +kernel
theorem dX7_spanFrom_39 : decode cX7_spanFrom 39 = .ok (.istore 4, 2) := by decide +kernel
theorem dX7_spanFrom_41 : decode cX7_spanFrom 41 = .ok (.iload 4, 2) := by decide +kernel
theorem dX7_spanFrom_43 : decode cX7_spanFrom 43 = .ok (.ifCond .eq 8, 3) := by decide +kernel
theorem dX7_spanFrom_46 : decode cX7_spanFrom 46 = .ok (.iload 4, 2) := by decide +kernel
theorem dX7_spanFrom_48 : decode cX7_spanFrom 48 = .ok (.iconst 1, 1) := by decide +kernel
theorem dX7_spanFrom_49 : decode cX7_spanFrom 49 = .ok (.isub, 1) := by decide +kernel
theorem dX7_spanFrom_50 : decode cX7_spanFrom 50 = .ok (.ireturn, 1) := by decide +kernel
theorem dX7_spanFrom_51 : decode cX7_spanFrom 51 = .ok (.aload_n 0, 1) := by decide +kernel
theorem dX7_spanFrom_52 : decode cX7_spanFrom 52 = .ok (.getfield 25, 3) := by decide +kernel
theorem dX7_spanFrom_55 : decode cX7_spanFrom 55 = .ok (.iload_n 2, 1) := by decide +kernel
theorem dX7_spanFrom_56 : decode cX7_spanFrom 56 = .ok (.invokevirtual 65, 3) := by decide +kernel
theorem dX7_spanFrom_59 : decode cX7_spanFrom 59 = .ok (.istore 5, 2) := by decide +kernel
theorem dX7_spanFrom_61 : decode cX7_spanFrom 61 = .ok (.iload 5, 2) := by decide +kernel
theorem dX7_spanFrom_63 : decode cX7_spanFrom 63 = .ok (.invokestatic 70, 3) := by decide +kernel
theorem dX7_spanFrom_66 : decode cX7_spanFrom 66 = .ok (.ifCond .eq 20, 3) := by decide +kernel
theorem dX7_spanFrom_69 : decode cX7_spanFrom 69 = .ok (.aload_n 0, 1) := by decide +kernel
theorem dX7_spanFrom_70 : decode cX7_spanFrom 70 = .ok (.getfield 33, 3) := by decide +kernel
theorem dX7_spanFrom_73 : decode cX7_spanFrom 73 = .ok (.iload 5, 2) := by decide +kernel
theorem dX7_spanFrom_75 : decode cX7_spanFrom 75 = .ok (.ishr, 1) := by decide +kernel
theorem dX7_spanFrom_76 : decode cX7_spanFrom 76 = .ok (.iconst 1, 1) := by decide +kernel
theorem dX7_spanFrom_77 : decode cX7_spanFrom 77 = .ok (.iand, 1) := by decide +kernel
theorem dX7_spanFrom_78 : decode cX7_spanFrom 78 = .ok (.iconst 1, 1) := by decide +kernel
theorem dX7_spanFrom_79 : decode cX7_spanFrom 79 = .ok (.if_icmp .ne 7, 3) := by decide +kernel
theorem dX7_spanFrom_82 : decode cX7_spanFrom 82 = .ok (.iconst 1, 1) := by decide +kernel
theorem dX7_spanFrom_83 : decode cX7_spanFrom 83 = .ok (.goto 4, 3) := by decide +kernel
theorem dX7_spanFrom_86 : decode cX7_spanFrom 86 = .ok (.iconst 0, 1) := by decide +kernel
theorem dX7_spanFrom_87 : decode cX7_spanFrom 87 = .ok (.istore 6, 2) := by decide +kernel
theorem dX7_spanFrom_89 : decode cX7_spanFrom 89 = .ok (.iload 6, 2) := by decide +kernel
theorem dX7_spanFrom_91 : decode cX7_spanFrom 91 = .ok (.ifCond .eq 7, 3) := by decide +kernel
theorem dX7_spanFrom_94 : decode cX7_spanFrom 94 = .ok (.iload_n 3, 1) := by decide +kernel
theorem dX7_spanFrom_95 : decode cX7_spanFrom 95 = .ok (.goto 4, 3) := by decide +kernel
theorem dX7_spanFrom_98 : decode cX7_spanFrom 98 = .ok (.iconst 0, 1) := by decide +kernel
theorem dX7_spanFrom_99 : decode cX7_spanFrom 99 = .ok (.istore 7, 2) := by decide +kernel
theorem dX7_spanFrom_101 : decode cX7_spanFrom 101 = .ok (.aload_n 0, 1) := by decide +kernel
theorem dX7_spanFrom_102 : decode cX7_spanFrom 102 = .ok (.getfield 21, 3) := by decide +kernel
theorem dX7_spanFrom_105 : decode cX7_spanFrom 105 = .ok (.iload_n 1, 1) := by decide +kernel
theorem dX7_spanFrom_106 : decode cX7_spanFrom 106 = .ok (.iload 5, 2) := by decide +kernel
theorem dX7_spanFrom_108 : decode cX7_spanFrom 108 = .ok (.invokevirtual 74, 3) := by decide +kernel
theorem dX7_spanFrom_111 : decode cX7_spanFrom 111 = .ok (.istore 8, 2) := by decide +kernel
theorem dX7_spanFrom_113 : decode cX7_spanFrom 113 = .ok (.aload_n 0, 1) := by decide +kernel
theorem dX7_spanFrom_114 : decode cX7_spanFrom 114 = .ok (.getfield 25, 3) := by decide +kernel
theorem dX7_spanFrom_117 : decode cX7_spanFrom 117 = .ok (.iload_n 2, 1) := by decide +kernel
theorem dX7_spanFrom_118 : decode cX7_spanFrom 118 = .ok (.invokevirtual 80, 3) := by decide +kernel
theorem dX7_spanFrom_121 : decode cX7_spanFrom 121 = .ok (.istore 9, 2) := by decide +kernel
theorem dX7_spanFrom_123 : decode cX7_spanFrom 123 = .ok (.aload_n 0, 1) := by decide +kernel
theorem dX7_spanFrom_124 : decode cX7_spanFrom 124 = .ok (.iload_n 1, 1) := by decide +kernel
theorem dX7_spanFrom_125 : decode cX7_spanFrom 125 = .ok (.iload 9, 2) := by decide +kernel
theorem dX7_spanFrom_127 : decode cX7_spanFrom 127 = .ok (.iload_n 3, 1) := by decide +kernel
theorem dX7_spanFrom_128 : decode cX7_spanFrom 128 = .ok (.invokevirtual 83, 3) := by decide +kernel
theorem dX7_spanFrom_131 : decode cX7_spanFrom 131 = .ok (.istore 10, 2) := by decide +kernel
theorem dX7_spanFrom_133 : decode cX7_spanFrom 133 = .ok (.iconst 0, 1) := by decide +kernel
theorem dX7_spanFrom_134 : decode cX7_spanFrom 134 = .ok (.istore 11, 2) := by decide +kernel
theorem dX7_spanFrom_136 : decode cX7_spanFrom 136 = .ok (.iload 11, 2) := by decide +kernel
theorem dX7_spanFrom_138 : decode cX7_spanFrom 138 = .ok (.bipush 8, 2) := by decide +kernel
theorem dX7_spanFrom_140 : decode cX7_spanFrom 140 = .ok (.if_icmp .ge 70, 3) := by decide +kernel
theorem dX7_spanFrom_143 : decode cX7_spanFrom 143 = .ok (.iload 10, 2) := by decide +kernel
theorem dX7_spanFrom_145 : decode cX7_spanFrom 145 = .ok (.iload 7, 2) := by decide +kernel
theorem dX7_spanFrom_147 : decode cX7_spanFrom 147 = .ok (.if_icmp .eq 63, 3) := by decide +kernel
theorem dX7_spanFrom_150 : decode cX7_spanFrom 150 = .ok (.iload 8, 2) := by decide +kernel
theorem dX7_spanFrom_152 : decode cX7_spanFrom 152 = .ok (.iload 11, 2) := by decide +kernel
theorem dX7_spanFrom_154 : decode cX7_spanFrom 154 = .ok (.ishr, 1) := by decide +kernel
theorem dX7_spanFrom_155 : decode cX7_spanFrom 155 = .ok (.iconst 1, 1) := by decide +kernel
theorem dX7_spanFrom_156 : decode cX7_spanFrom 156 = .ok (.iand, 1) := by decide +kernel
theorem dX7_spanFrom_157 : decode cX7_spanFrom 157 = .ok (.iconst 1, 1) := by decide +kernel
theorem dX7_spanFrom_158 : decode cX7_spanFrom 158 = .ok (.if_icmp .ne 46, 3) := by decide +kernel
theorem dX7_spanFrom_161 : decode cX7_spanFrom 161 = .ok (.aload_n 0, 1) := by decide +kernel
theorem dX7_spanFrom_162 : decode cX7_spanFrom 162 = .ok (.aload_n 0, 1) := by decide +kernel
theorem dX7_spanFrom_163 : decode cX7_spanFrom 163 = .ok (.getfield 17, 3) := by decide +kernel
theorem dX7_spanFrom_166 : decode cX7_spanFrom 166 = .ok (.iload_n 1, 1) := by decide +kernel
theorem dX7_spanFrom_167 : decode cX7_spanFrom 167 = .ok (.iload 11, 2) := by decide +kernel
theorem dX7_spanFrom_169 : decode cX7_spanFrom 169 = .ok (.invokevirtual 86, 3) := by decide +kernel
theorem dX7_spanFrom_172 : decode cX7_spanFrom 172 = .ok (.iload 9, 2) := by decide +kernel
theorem dX7_spanFrom_174 : decode cX7_spanFrom 174 = .ok (.iload_n 3, 1) := by decide +kernel
theorem dX7_spanFrom_175 : decode cX7_spanFrom 175 = .ok (.invokevirtual 83, 3) := by decide +kernel
theorem dX7_spanFrom_178 : decode cX7_spanFrom 178 = .ok (.istore 12, 2) := by decide +kernel
theorem dX7_spanFrom_180 : decode cX7_spanFrom 180 = .ok (.iload 6, 2) := by decide +kernel
theorem dX7_spanFrom_182 : decode cX7_spanFrom 182 = .ok (.ifCond .eq 13, 3) := by decide +kernel
theorem dX7_spanFrom_185 : decode cX7_spanFrom 185 = .ok (.iload 10, 2) := by decide +kernel
theorem dX7_spanFrom_187 : decode cX7_spanFrom 187 = .ok (.iload 12, 2) := by decide +kernel
theorem dX7_spanFrom_189 : decode cX7_spanFrom 189 = .ok (.invokestatic 89, 3) := by decide +kernel
theorem dX7_spanFrom_192 : decode cX7_spanFrom 192 = .ok (.goto 10, 3) := by decide +kernel
theorem dX7_spanFrom_195 : decode cX7_spanFrom 195 = .ok (.iload 10, 2) := by decide +kernel
theorem dX7_spanFrom_197 : decode cX7_spanFrom 197 = .ok (.iload 12, 2) := by decide +kernel
theorem dX7_spanFrom_199 : decode cX7_spanFrom 199 = .ok (.invokestatic 94, 3) := by decide +kernel
theorem dX7_spanFrom_202 : decode cX7_spanFrom 202 = .ok (.istore 10, 2) := by decide +kernel
theorem dX7_spanFrom_204 : decode cX7_spanFrom 204 = .ok (.iinc 11 1, 3) := by decide +kernel
theorem dX7_spanFrom_207 : decode cX7_spanFrom 207 = .ok (.goto (-71), 3) := by decide +kernel
theorem dX7_spanFrom_210 : decode cX7_spanFrom 210 = .ok (.aload_n 0, 1) := by decide +kernel
theorem dX7_spanFrom_211 : decode cX7_spanFrom 211 = .ok (.getfield 11, 3) := by decide +kernel
theorem dX7_spanFrom_214 : decode cX7_spanFrom 214 = .ok (.iload_n 1, 1) := by decide +kernel
theorem dX7_spanFrom_215 : decode cX7_spanFrom 215 = .ok (.aload_n 0, 1) := by decide +kernel
theorem dX7_spanFrom_216 : decode cX7_spanFrom 216 = .ok (.getfield 11, 3) := by decide +kernel
theorem dX7_spanFrom_219 : decode cX7_spanFrom 219 = .ok (.iload_n 1, 1) := by decide +kernel
theorem dX7_spanFrom_220 : decode cX7_spanFrom 220 = .ok (.laload, 1) := by decide +kernel
theorem dX7_spanFrom_221 : decode cX7_spanFrom 221 = .ok (.iload_n 3, 1) := by decide +kernel
theorem dX7_spanFrom_222 : decode cX7_spanFrom 222 = .ok (.iconst 1, 1) := by decide +kernel
theorem dX7_spanFrom_223 : decode cX7_spanFrom 223 = .ok (.isub, 1) := by decide +kernel
theorem dX7_spanFrom_224 : decode cX7_spanFrom 224 = .ok (.iconst 4, 1) := by decide +kernel
theorem dX7_spanFrom_225 : decode cX7_spanFrom 225 = .ok (.iload 10, 2) := by decide +kernel
theorem dX7_spanFrom_227 : decode cX7_spanFrom 227 = .ok (.iconst 1, 1) := by decide +kernel
theorem dX7_spanFrom_228 : decode cX7_spanFrom 228 = .ok (.iadd, 1) := by decide +kernel
theorem dX7_spanFrom_229 : decode cX7_spanFrom 229 = .ok (.invokestatic 97, 3) := by decide +kernel
theorem dX7_spanFrom_232 : decode cX7_spanFrom 232 = .ok (.lastore, 1) := by decide +kernel
theorem dX7_spanFrom_233 : decode cX7_spanFrom 233 = .ok (.iload 10, 2) := by decide +kernel
theorem dX7_spanFrom_235 : decode cX7_spanFrom 235 = .ok (.ireturn, 1) := by decide +kernel
theorem dX7_solve_0 : decode cX7_solve 0 = .ok (.aload_n 0, 1) := by decide +kernel
theorem dX7_solve_1 : decode cX7_solve 1 = .ok (.iload_n 2, 1) := by decide +kernel
theorem dX7_solve_2 : decode cX7_solve 2 = .ok (.putfield 29, 3) := by decide +kernel
theorem dX7_solve_5 : decode cX7_solve 5 = .ok (.aload_n 0, 1) := by decide +kernel
theorem dX7_solve_6 : decode cX7_solve 6 = .ok (.iload_n 3, 1) := by decide +kernel
theorem dX7_solve_7 : decode cX7_solve 7 = .ok (.putfield 33, 3) := by decide +kernel
theorem dX7_solve_10 : decode cX7_solve 10 = .ok (.aload_n 0, 1) := by decide +kernel
theorem dX7_solve_11 : decode cX7_solve 11 = .ok (.getfield 17, 3) := by decide +kernel
theorem dX7_solve_14 : decode cX7_solve 14 = .ok (.aload_n 1, 1) := by decide +kernel
theorem dX7_solve_15 : decode cX7_solve 15 = .ok (.getfield 36, 3) := by decide +kernel
theorem dX7_solve_18 : decode cX7_solve 18 = .ok (.invokevirtual 41, 3) := by decide +kernel
theorem dX7_solve_21 : decode cX7_solve 21 = .ok (.istore 4, 2) := by decide +kernel
theorem dX7_solve_23 : decode cX7_solve 23 = .ok (.aload_n 0, 1) := by decide +kernel
theorem dX7_solve_24 : decode cX7_solve 24 = .ok (.getfield 11, 3) := by decide +kernel
theorem dX7_solve_27 : decode cX7_solve 27 = .ok (.iload 4, 2) := by decide +kernel
theorem dX7_solve_29 : decode cX7_solve 29 = .ok (.invokestatic 45, 3) := by decide +kernel
theorem dX7_solve_32 : decode cX7_solve 32 = .ok (.iload 4, 2) := by decide +kernel
theorem dX7_solve_34 : decode cX7_solve 34 = .ok (.iconst 1, 1) := by decide +kernel
theorem dX7_solve_35 : decode cX7_solve 35 = .ok (.iadd, 1) := by decide +kernel
theorem dX7_solve_36 : decode cX7_solve 36 = .ok (.invokestatic 45, 3) := by decide +kernel
theorem dX7_solve_39 : decode cX7_solve 39 = .ok (.lconst 0, 1) := by decide +kernel
theorem dX7_solve_40 : decode cX7_solve 40 = .ok (.invokestatic 48, 3) := by decide +kernel
theorem dX7_solve_43 : decode cX7_solve 43 = .ok (.aload_n 0, 1) := by decide +kernel
theorem dX7_solve_44 : decode cX7_solve 44 = .ok (.aload_n 1, 1) := by decide +kernel
theorem dX7_solve_45 : decode cX7_solve 45 = .ok (.getfield 36, 3) := by decide +kernel
theorem dX7_solve_48 : decode cX7_solve 48 = .ok (.aload_n 1, 1) := by decide +kernel
theorem dX7_solve_49 : decode cX7_solve 49 = .ok (.getfield 54, 3) := by decide +kernel
theorem dX7_solve_52 : decode cX7_solve 52 = .ok (.bipush 12, 2) := by decide +kernel
theorem dX7_solve_54 : decode cX7_solve 54 = .ok (.invokevirtual 57, 3) := by decide +kernel
theorem dX7_solve_57 : decode cX7_solve 57 = .ok (.ireturn, 1) := by decide +kernel
theorem dX11_held_0 : decode cX11_held 0 = .ok (.aload_n 0, 1) := by decide +kernel
theorem dX11_held_1 : decode cX11_held 1 = .ok (.iload_n 1, 1) := by decide +kernel
theorem dX11_held_2 : decode cX11_held 2 = .ok (.invokevirtual 146, 3) := by decide +kernel
theorem dX11_held_5 : decode cX11_held 5 = .ok (.ifCond .eq 20, 3) := by decide +kernel
theorem dX11_held_8 : decode cX11_held 8 = .ok (.aload_n 0, 1) := by decide +kernel
theorem dX11_held_9 : decode cX11_held 9 = .ok (.iload_n 2, 1) := by decide +kernel
theorem dX11_held_10 : decode cX11_held 10 = .ok (.invokevirtual 146, 3) := by decide +kernel
theorem dX11_held_13 : decode cX11_held 13 = .ok (.ifCond .eq 12, 3) := by decide +kernel
theorem dX11_held_16 : decode cX11_held 16 = .ok (.iload_n 3, 1) := by decide +kernel
theorem dX11_held_17 : decode cX11_held 17 = .ok (.bipush 15, 2) := by decide +kernel
theorem dX11_held_19 : decode cX11_held 19 = .ok (.invokestatic 102, 3) := by decide +kernel
theorem dX11_held_22 : decode cX11_held 22 = .ok (.ifCond .ne 5, 3) := by decide +kernel
theorem dX11_held_25 : decode cX11_held 25 = .ok (.iconst (-1), 1) := by decide +kernel
theorem dX11_held_26 : decode cX11_held 26 = .ok (.ireturn, 1) := by decide +kernel
theorem dX11_held_27 : decode cX11_held 27 = .ok (.aload_n 0, 1) := by decide +kernel
theorem dX11_held_28 : decode cX11_held 28 = .ok (.getfield 81, 3) := by decide +kernel
theorem dX11_held_31 : decode cX11_held 31 = .ok (.aload_n 0, 1) := by decide +kernel
theorem dX11_held_32 : decode cX11_held 32 = .ok (.getfield 88, 3) := by decide +kernel
theorem dX11_held_35 : decode cX11_held 35 = .ok (.iconst 1, 1) := by decide +kernel
theorem dX11_held_36 : decode cX11_held 36 = .ok (.iload_n 1, 1) := by decide +kernel
theorem dX11_held_37 : decode cX11_held 37 = .ok (.ishl, 1) := by decide +kernel
theorem dX11_held_38 : decode cX11_held 38 = .ok (.iconst 1, 1) := by decide +kernel
theorem dX11_held_39 : decode cX11_held 39 = .ok (.iload_n 2, 1) := by decide +kernel
theorem dX11_held_40 : decode cX11_held 40 = .ok (.ishl, 1) := by decide +kernel
theorem dX11_held_41 : decode cX11_held 41 = .ok (.ior, 1) := by decide +kernel
theorem dX11_held_42 : decode cX11_held 42 = .ok (.iload_n 3, 1) := by decide +kernel
theorem dX11_held_43 : decode cX11_held 43 = .ok (.invokevirtual 274, 3) := by decide +kernel
theorem dX11_held_46 : decode cX11_held 46 = .ok (.ireturn, 1) := by decide +kernel
theorem dX11_number_0 : decode cX11_number 0 = .ok (.iload_n 1, 1) := by decide +kernel
theorem dX11_number_1 : decode cX11_number 1 = .ok (.invokestatic 142, 3) := by decide +kernel
theorem dX11_number_4 : decode cX11_number 4 = .ok (.ifCond .eq 11, 3) := by decide +kernel
theorem dX11_number_7 : decode cX11_number 7 = .ok (.iload_n 2, 1) := by decide +kernel
theorem dX11_number_8 : decode cX11_number 8 = .ok (.iconst 2, 1) := by decide +kernel
theorem dX11_number_9 : decode cX11_number 9 = .ok (.invokestatic 102, 3) := by decide +kernel
theorem dX11_number_12 : decode cX11_number 12 = .ok (.ifCond .ne 6, 3) := by decide +kernel
theorem dX11_number_15 : decode cX11_number 15 = .ok (.ldc 191, 2) := by decide +kernel
theorem dX11_number_17 : decode cX11_number 17 = .ok (.ireturn, 1) := by decide +kernel
theorem dX11_number_18 : decode cX11_number 18 = .ok (.iconst 0, 1) := by decide +kernel
theorem dX11_number_19 : decode cX11_number 19 = .ok (.istore_n 3, 1) := by decide +kernel
theorem dX11_number_20 : decode cX11_number 20 = .ok (.iconst 0, 1) := by decide +kernel
theorem dX11_number_21 : decode cX11_number 21 = .ok (.istore 4, 2) := by decide +kernel
theorem dX11_number_23 : decode cX11_number 23 = .ok (.iconst 1, 1) := by decide +kernel
theorem dX11_number_24 : decode cX11_number 24 = .ok (.istore 5, 2) := by decide +kernel
theorem dX11_number_26 : decode cX11_number 26 = .ok (.iconst 1, 1) := by decide +kernel
theorem dX11_number_27 : decode cX11_number 27 = .ok (.istore 6, 2) := by decide +kernel
theorem dX11_number_29 : decode cX11_number 29 = .ok (.iload 6, 2) := by decide +kernel
theorem dX11_number_31 : decode cX11_number 31 = .ok (.iconst 4, 1) := by decide +kernel
theorem dX11_number_32 : decode cX11_number 32 = .ok (.if_icmp .gt 75, 3) := by decide +kernel
theorem dX11_number_35 : decode cX11_number 35 = .ok (.aload_n 0, 1) := by decide +kernel
theorem dX11_number_36 : decode cX11_number 36 = .ok (.getfield 60, 3) := by decide +kernel
theorem dX11_number_39 : decode cX11_number 39 = .ok (.iload 6, 2) := by decide +kernel
theorem dX11_number_41 : decode cX11_number 41 = .ok (.invokestatic 118, 3) := by decide +kernel
theorem dX11_number_44 : decode cX11_number 44 = .ok (.iconst 0, 1) := by decide +kernel
theorem dX11_number_45 : decode cX11_number 45 = .ok (.invokevirtual 238, 3) := by decide +kernel
theorem dX11_number_48 : decode cX11_number 48 = .ok (.aload_n 0, 1) := by decide +kernel
theorem dX11_number_49 : decode cX11_number 49 = .ok (.getfield 60, 3) := by decide +kernel
theorem dX11_number_52 : decode cX11_number 52 = .ok (.iload_n 1, 1) := by decide +kernel
theorem dX11_number_53 : decode cX11_number 53 = .ok (.invokevirtual 246, 3) := by decide +kernel
theorem dX11_number_56 : decode cX11_number 56 = .ok (.istore 7, 2) := by decide +kernel
theorem dX11_number_58 : decode cX11_number 58 = .ok (.iload_n 3, 1) := by decide +kernel
theorem dX11_number_59 : decode cX11_number 59 = .ok (.ifCond .eq 26, 3) := by decide +kernel
theorem dX11_number_62 : decode cX11_number 62 = .ok (.iload 7, 2) := by decide +kernel
theorem dX11_number_64 : decode cX11_number 64 = .ok (.i2l, 1) := by decide +kernel
theorem dX11_number_65 : decode cX11_number 65 = .ok (.iload 5, 2) := by decide +kernel
theorem dX11_number_67 : decode cX11_number 67 = .ok (.i2l, 1) := by decide +kernel
theorem dX11_number_68 : decode cX11_number 68 = .ok (.lmul, 1) := by decide +kernel
theorem dX11_number_69 : decode cX11_number 69 = .ok (.iload 4, 2) := by decide +kernel
theorem dX11_number_71 : decode cX11_number 71 = .ok (.i2l, 1) := by decide +kernel
theorem dX11_number_72 : decode cX11_number 72 = .ok (.aload_n 0, 1) := by decide +kernel
theorem dX11_number_73 : decode cX11_number 73 = .ok (.getfield 60, 3) := by decide +kernel
theorem dX11_number_76 : decode cX11_number 76 = .ok (.getfield 245, 3) := by decide +kernel
theorem dX11_number_79 : decode cX11_number 79 = .ok (.i2l, 1) := by decide +kernel
theorem dX11_number_80 : decode cX11_number 80 = .ok (.lmul, 1) := by decide +kernel
theorem dX11_number_81 : decode cX11_number 81 = .ok (.lcmp, 1) := by decide +kernel
theorem dX11_number_82 : decode cX11_number 82 = .ok (.ifCond .le 19, 3) := by decide +kernel
theorem dX11_number_85 : decode cX11_number 85 = .ok (.iload 6, 2) := by decide +kernel
theorem dX11_number_87 : decode cX11_number 87 = .ok (.istore_n 3, 1) := by decide +kernel
theorem dX11_number_88 : decode cX11_number 88 = .ok (.iload 7, 2) := by decide +kernel
theorem dX11_number_90 : decode cX11_number 90 = .ok (.istore 4, 2) := by decide +kernel
theorem dX11_number_92 : decode cX11_number 92 = .ok (.aload_n 0, 1) := by decide +kernel
theorem dX11_number_93 : decode cX11_number 93 = .ok (.getfield 60, 3) := by decide +kernel
theorem dX11_number_96 : decode cX11_number 96 = .ok (.getfield 245, 3) := by decide +kernel
theorem dX11_number_99 : decode cX11_number 99 = .ok (.istore 5, 2) := by decide +kernel
theorem dX11_number_101 : decode cX11_number 101 = .ok (.iinc 6 1, 3) := by decide +kernel
theorem dX11_number_104 : decode cX11_number 104 = .ok (.goto (-75), 3) := by decide +kernel
theorem dX11_number_107 : decode cX11_number 107 = .ok (.iload_n 2, 1) := by decide +kernel
theorem dX11_number_108 : decode cX11_number 108 = .ok (.ifCond .ne 5, 3) := by decide +kernel
theorem dX11_number_111 : decode cX11_number 111 = .ok (.iload_n 3, 1) := by decide +kernel
theorem dX11_number_112 : decode cX11_number 112 = .ok (.ireturn, 1) := by decide +kernel
theorem dX11_number_113 : decode cX11_number 113 = .ok (.iload_n 2, 1) := by decide +kernel
theorem dX11_number_114 : decode cX11_number 114 = .ok (.iconst 1, 1) := by decide +kernel
theorem dX11_number_115 : decode cX11_number 115 = .ok (.if_icmp .ne 8, 3) := by decide +kernel
theorem dX11_number_118 : decode cX11_number 118 = .ok (.iload 4, 2) := by decide +kernel
theorem dX11_number_120 : decode cX11_number 120 = .ok (.goto 5, 3) := by decide +kernel
theorem dX11_number_123 : decode cX11_number 123 = .ok (.iload 5, 2) := by decide +kernel
theorem dX11_number_125 : decode cX11_number 125 = .ok (.iload 4, 2) := by decide +kernel
theorem dX11_number_127 : decode cX11_number 127 = .ok (.iload 5, 2) := by decide +kernel
theorem dX11_number_129 : decode cX11_number 129 = .ok (.invokestatic 249, 3) := by decide +kernel
theorem dX11_number_132 : decode cX11_number 132 = .ok (.ireturn, 1) := by decide +kernel
theorem dX11_deed_0 : decode cX11_deed 0 = .ok (.iload_n 1, 1) := by decide +kernel
theorem dX11_deed_1 : decode cX11_deed 1 = .ok (.ifCond .lt 19, 3) := by decide +kernel
theorem dX11_deed_4 : decode cX11_deed 4 = .ok (.iload_n 1, 1) := by decide +kernel
theorem dX11_deed_5 : decode cX11_deed 5 = .ok (.bipush 8, 2) := by decide +kernel
theorem dX11_deed_7 : decode cX11_deed 7 = .ok (.if_icmp .ge 13, 3) := by decide +kernel
theorem dX11_deed_10 : decode cX11_deed 10 = .ok (.iload_n 2, 1) := by decide +kernel
theorem dX11_deed_11 : decode cX11_deed 11 = .ok (.sipush 255, 3) := by decide +kernel
theorem dX11_deed_14 : decode cX11_deed 14 = .ok (.invokestatic 102, 3) := by decide +kernel
theorem dX11_deed_17 : decode cX11_deed 17 = .ok (.ifCond .ne 5, 3) := by decide +kernel
theorem dX11_deed_20 : decode cX11_deed 20 = .ok (.iconst 0, 1) := by decide +kernel
theorem dX11_deed_21 : decode cX11_deed 21 = .ok (.ireturn, 1) := by decide +kernel
theorem dX11_deed_22 : decode cX11_deed 22 = .ok (.aload_n 0, 1) := by decide +kernel
theorem dX11_deed_23 : decode cX11_deed 23 = .ok (.getfield 95, 3) := by decide +kernel
theorem dX11_deed_26 : decode cX11_deed 26 = .ok (.iload_n 1, 1) := by decide +kernel
theorem dX11_deed_27 : decode cX11_deed 27 = .ok (.iload_n 2, 1) := by decide +kernel
theorem dX11_deed_28 : decode cX11_deed 28 = .ok (.iastore, 1) := by decide +kernel
theorem dX11_deed_29 : decode cX11_deed 29 = .ok (.iconst 1, 1) := by decide +kernel
theorem dX11_deed_30 : decode cX11_deed 30 = .ok (.ireturn, 1) := by decide +kernel
theorem dX11_lawful_0 : decode cX11_lawful 0 = .ok (.iload_n 1, 1) := by decide +kernel
theorem dX11_lawful_1 : decode cX11_lawful 1 = .ok (.ifCond .lt 9, 3) := by decide +kernel
theorem dX11_lawful_4 : decode cX11_lawful 4 = .ok (.iload_n 1, 1) := by decide +kernel
theorem dX11_lawful_5 : decode cX11_lawful 5 = .ok (.bipush 8, 2) := by decide +kernel
theorem dX11_lawful_7 : decode cX11_lawful 7 = .ok (.if_icmp .lt 5, 3) := by decide +kernel
theorem dX11_lawful_10 : decode cX11_lawful 10 = .ok (.iconst (-1), 1) := by decide +kernel
theorem dX11_lawful_11 : decode cX11_lawful 11 = .ok (.ireturn, 1) := by decide +kernel
theorem dX11_lawful_12 : decode cX11_lawful 12 = .ok (.aload_n 0, 1) := by decide +kernel
theorem dX11_lawful_13 : decode cX11_lawful 13 = .ok (.getfield 95, 3) := by decide +kernel
theorem dX11_lawful_16 : decode cX11_lawful 16 = .ok (.iload_n 1, 1) := by decide +kernel
theorem dX11_lawful_17 : decode cX11_lawful 17 = .ok (.iaload, 1) := by decide +kernel
theorem dX11_lawful_18 : decode cX11_lawful 18 = .ok (.aload_n 0, 1) := by decide +kernel
theorem dX11_lawful_19 : decode cX11_lawful 19 = .ok (.getfield 42, 3) := by decide +kernel
theorem dX11_lawful_22 : decode cX11_lawful 22 = .ok (.aload_n 0, 1) := by decide +kernel
theorem dX11_lawful_23 : decode cX11_lawful 23 = .ok (.getfield 88, 3) := by decide +kernel
theorem dX11_lawful_26 : decode cX11_lawful 26 = .ok (.getfield 122, 3) := by decide +kernel
theorem dX11_lawful_29 : decode cX11_lawful 29 = .ok (.invokevirtual 185, 3) := by decide +kernel
theorem dX11_lawful_32 : decode cX11_lawful 32 = .ok (.iand, 1) := by decide +kernel
theorem dX11_lawful_33 : decode cX11_lawful 33 = .ok (.ifCond .ne 7, 3) := by decide +kernel
theorem dX11_lawful_36 : decode cX11_lawful 36 = .ok (.iconst 1, 1) := by decide +kernel
theorem dX11_lawful_37 : decode cX11_lawful 37 = .ok (.goto 4, 3) := by decide +kernel
theorem dX11_lawful_40 : decode cX11_lawful 40 = .ok (.iconst 0, 1) := by decide +kernel
theorem dX11_lawful_41 : decode cX11_lawful 41 = .ok (.ireturn, 1) := by decide +kernel
theorem dX11_toldDeedsAreFine_0 : decode cX11_toldDeedsAreFine 0 = .ok (.iconst 0, 1) := by decide +kernel
theorem dX11_toldDeedsAreFine_1 : decode cX11_toldDeedsAreFine 1 = .ok (.istore_n 2, 1) := by decide +kernel
theorem dX11_toldDeedsAreFine_2 : decode cX11_toldDeedsAreFine 2 = .ok (.iload_n 2, 1) := by decide +kernel
theorem dX11_toldDeedsAreFine_3 : decode cX11_toldDeedsAreFine 3 = .ok (.iload_n 1, 1) := by decide +kernel
theorem dX11_toldDeedsAreFine_4 : decode cX11_toldDeedsAreFine 4 = .ok (.if_icmp .ge 48, 3) := by decide +kernel
theorem dX11_toldDeedsAreFine_7 : decode cX11_toldDeedsAreFine 7 = .ok (.aload_n 0, 1) := by decide +kernel
theorem dX11_toldDeedsAreFine_8 : decode cX11_toldDeedsAreFine 8 = .ok (.getfield 10, 3) := by decide +kernel
theorem dX11_toldDeedsAreFine_11 : decode cX11_toldDeedsAreFine 11 = .ok (.iconst 2, 1) := by decide +kernel
theorem dX11_toldDeedsAreFine_12 : decode cX11_toldDeedsAreFine 12 = .ok (.iload_n 2, 1) := by decide +kernel
theorem dX11_toldDeedsAreFine_13 : decode cX11_toldDeedsAreFine 13 = .ok (.imul, 1) := by decide +kernel
theorem dX11_toldDeedsAreFine_14 : decode cX11_toldDeedsAreFine 14 = .ok (.invokevirtual 303, 3) := by decide +kernel
theorem dX11_toldDeedsAreFine_17 : decode cX11_toldDeedsAreFine 17 = .ok (.bipush 7, 2) := by decide +kernel
theorem dX11_toldDeedsAreFine_19 : decode cX11_toldDeedsAreFine 19 = .ok (.invokestatic 102, 3) := by decide +kernel
theorem dX11_toldDeedsAreFine_22 : decode cX11_toldDeedsAreFine 22 = .ok (.ifCond .eq 22, 3) := by decide +kernel
theorem dX11_toldDeedsAreFine_25 : decode cX11_toldDeedsAreFine 25 = .ok (.aload_n 0, 1) := by decide +kernel
theorem dX11_toldDeedsAreFine_26 : decode cX11_toldDeedsAreFine 26 = .ok (.getfield 10, 3) := by decide +kernel
theorem dX11_toldDeedsAreFine_29 : decode cX11_toldDeedsAreFine 29 = .ok (.iconst 2, 1) := by decide +kernel
theorem dX11_toldDeedsAreFine_30 : decode cX11_toldDeedsAreFine 30 = .ok (.iload_n 2, 1) := by decide +kernel
theorem dX11_toldDeedsAreFine_31 : decode cX11_toldDeedsAreFine 31 = .ok (.imul, 1) := by decide +kernel
theorem dX11_toldDeedsAreFine_32 : decode cX11_toldDeedsAreFine 32 = .ok (.iconst 1, 1) := by decide +kernel
theorem dX11_toldDeedsAreFine_33 : decode cX11_toldDeedsAreFine 33 = .ok (.iadd, 1) := by decide +kernel
theorem dX11_toldDeedsAreFine_34 : decode cX11_toldDeedsAreFine 34 = .ok (.invokevirtual 303, 3) := by decide +kernel
theorem dX11_toldDeedsAreFine_37 : decode cX11_toldDeedsAreFine 37 = .ok (.iconst 1, 1) := by decide +kernel
theorem dX11_toldDeedsAreFine_38 : decode cX11_toldDeedsAreFine 38 = .ok (.invokestatic 102, 3) := by decide +kernel
theorem dX11_toldDeedsAreFine_41 : decode cX11_toldDeedsAreFine 41 = .ok (.ifCond .ne 5, 3) := by decide +kernel
theorem dX11_toldDeedsAreFine_44 : decode cX11_toldDeedsAreFine 44 = .ok (.iconst 0, 1) := by decide +kernel
theorem dX11_toldDeedsAreFine_45 : decode cX11_toldDeedsAreFine 45 = .ok (.ireturn, 1) := by decide +kernel
theorem dX11_toldDeedsAreFine_46 : decode cX11_toldDeedsAreFine 46 = .ok (.iinc 2 1, 3) := by decide +kernel
theorem dX11_toldDeedsAreFine_49 : decode cX11_toldDeedsAreFine 49 = .ok (.goto (-47), 3) := by decide +kernel
theorem dX11_toldDeedsAreFine_52 : decode cX11_toldDeedsAreFine 52 = .ok (.iconst 1, 1) := by decide +kernel
theorem dX11_toldDeedsAreFine_53 : decode cX11_toldDeedsAreFine 53 = .ok (.ireturn, 1) := by decide +kernel
theorem dX11_fitsTold_0 : decode cX11_fitsTold 0 = .ok (.iconst 0, 1) := by decide +kernel
theorem dX11_fitsTold_1 : decode cX11_fitsTold 1 = .ok (.istore_n 3, 1) := by decide +kernel
theorem dX11_fitsTold_2 : decode cX11_fitsTold 2 = .ok (.iload_n 3, 1) := by decide +kernel
theorem dX11_fitsTold_3 : decode cX11_fitsTold 3 = .ok (.iload_n 2, 1) := by decide +kernel
theorem dX11_fitsTold_4 : decode cX11_fitsTold 4 = .ok (.if_icmp .ge 73, 3) := by decide +kernel
theorem dX11_fitsTold_7 : decode cX11_fitsTold 7 = .ok (.aload_n 0, 1) := by decide +kernel
theorem dX11_fitsTold_8 : decode cX11_fitsTold 8 = .ok (.getfield 10, 3) := by decide +kernel
theorem dX11_fitsTold_11 : decode cX11_fitsTold 11 = .ok (.iconst 2, 1) := by decide +kernel
theorem dX11_fitsTold_12 : decode cX11_fitsTold 12 = .ok (.iload_n 3, 1) := by decide +kernel
theorem dX11_fitsTold_13 : decode cX11_fitsTold 13 = .ok (.imul, 1) := by decide +kernel
theorem dX11_fitsTold_14 : decode cX11_fitsTold 14 = .ok (.invokevirtual 303, 3) := by decide +kernel
theorem dX11_fitsTold_17 : decode cX11_fitsTold 17 = .ok (.istore 4, 2) := by decide +kernel
theorem dX11_fitsTold_19 : decode cX11_fitsTold 19 = .ok (.iload 4, 2) := by decide +kernel
theorem dX11_fitsTold_21 : decode cX11_fitsTold 21 = .ok (.ifCond .lt 10, 3) := by decide +kernel
theorem dX11_fitsTold_24 : decode cX11_fitsTold 24 = .ok (.iload 4, 2) := by decide +kernel
theorem dX11_fitsTold_26 : decode cX11_fitsTold 26 = .ok (.bipush 8, 2) := by decide +kernel
theorem dX11_fitsTold_28 : decode cX11_fitsTold 28 = .ok (.if_icmp .lt 5, 3) := by decide +kernel
theorem dX11_fitsTold_31 : decode cX11_fitsTold 31 = .ok (.iconst 0, 1) := by decide +kernel
theorem dX11_fitsTold_32 : decode cX11_fitsTold 32 = .ok (.ireturn, 1) := by decide +kernel
theorem dX11_fitsTold_33 : decode cX11_fitsTold 33 = .ok (.aload_n 0, 1) := by decide +kernel
theorem dX11_fitsTold_34 : decode cX11_fitsTold 34 = .ok (.getfield 95, 3) := by decide +kernel
theorem dX11_fitsTold_37 : decode cX11_fitsTold 37 = .ok (.iload 4, 2) := by decide +kernel
theorem dX11_fitsTold_39 : decode cX11_fitsTold 39 = .ok (.iaload, 1) := by decide +kernel
theorem dX11_fitsTold_40 : decode cX11_fitsTold 40 = .ok (.iload_n 1, 1) := by decide +kernel
theorem dX11_fitsTold_41 : decode cX11_fitsTold 41 = .ok (.iand, 1) := by decide +kernel
theorem dX11_fitsTold_42 : decode cX11_fitsTold 42 = .ok (.ifCond .ne 7, 3) := by decide +kernel
theorem dX11_fitsTold_45 : decode cX11_fitsTold 45 = .ok (.iconst 1, 1) := by decide +kernel
theorem dX11_fitsTold_46 : decode cX11_fitsTold 46 = .ok (.goto 4, 3) := by decide +kernel
theorem dX11_fitsTold_49 : decode cX11_fitsTold 49 = .ok (.iconst 0, 1) := by decide +kernel
theorem dX11_fitsTold_50 : decode cX11_fitsTold 50 = .ok (.istore 5, 2) := by decide +kernel
theorem dX11_fitsTold_52 : decode cX11_fitsTold 52 = .ok (.iload 5, 2) := by decide +kernel
theorem dX11_fitsTold_54 : decode cX11_fitsTold 54 = .ok (.aload_n 0, 1) := by decide +kernel
theorem dX11_fitsTold_55 : decode cX11_fitsTold 55 = .ok (.getfield 10, 3) := by decide +kernel
theorem dX11_fitsTold_58 : decode cX11_fitsTold 58 = .ok (.iconst 2, 1) := by decide +kernel
theorem dX11_fitsTold_59 : decode cX11_fitsTold 59 = .ok (.iload_n 3, 1) := by decide +kernel
theorem dX11_fitsTold_60 : decode cX11_fitsTold 60 = .ok (.imul, 1) := by decide +kernel
theorem dX11_fitsTold_61 : decode cX11_fitsTold 61 = .ok (.iconst 1, 1) := by decide +kernel
theorem dX11_fitsTold_62 : decode cX11_fitsTold 62 = .ok (.iadd, 1) := by decide +kernel
theorem dX11_fitsTold_63 : decode cX11_fitsTold 63 = .ok (.invokevirtual 303, 3) := by decide +kernel
theorem dX11_fitsTold_66 : decode cX11_fitsTold 66 = .ok (.if_icmp .eq 5, 3) := by decide +kernel
theorem dX11_fitsTold_69 : decode cX11_fitsTold 69 = .ok (.iconst 0, 1) := by decide +kernel
theorem dX11_fitsTold_70 : decode cX11_fitsTold 70 = .ok (.ireturn, 1) := by decide +kernel
theorem dX11_fitsTold_71 : decode cX11_fitsTold 71 = .ok (.iinc 3 1, 3) := by decide +kernel
theorem dX11_fitsTold_74 : decode cX11_fitsTold 74 = .ok (.goto (-72), 3) := by decide +kernel
theorem dX11_fitsTold_77 : decode cX11_fitsTold 77 = .ok (.iconst 1, 1) := by decide +kernel
theorem dX11_fitsTold_78 : decode cX11_fitsTold 78 = .ok (.ireturn, 1) := by decide +kernel
theorem dX11_reckonFits_0 : decode cX11_reckonFits 0 = .ok (.aload_n 0, 1) := by decide +kernel
theorem dX11_reckonFits_1 : decode cX11_reckonFits 1 = .ok (.getfield 19, 3) := by decide +kernel
theorem dX11_reckonFits_4 : decode cX11_reckonFits 4 = .ok (.aload_n 0, 1) := by decide +kernel
theorem dX11_reckonFits_5 : decode cX11_reckonFits 5 = .ok (.getfield 88, 3) := by decide +kernel
theorem dX11_reckonFits_8 : decode cX11_reckonFits 8 = .ok (.getfield 122, 3) := by decide +kernel
theorem dX11_reckonFits_11 : decode cX11_reckonFits 11 = .ok (.invokevirtual 277, 3) := by decide +kernel
theorem dX11_reckonFits_14 : decode cX11_reckonFits 14 = .ok (.istore_n 3, 1) := by decide +kernel
theorem dX11_reckonFits_15 : decode cX11_reckonFits 15 = .ok (.iconst 0, 1) := by decide +kernel
theorem dX11_reckonFits_16 : decode cX11_reckonFits 16 = .ok (.istore 4, 2) := by decide +kernel
theorem dX11_reckonFits_18 : decode cX11_reckonFits 18 = .ok (.sipush 255, 3) := by decide +kernel
theorem dX11_reckonFits_21 : decode cX11_reckonFits 21 = .ok (.istore 5, 2) := by decide +kernel
theorem dX11_reckonFits_23 : decode cX11_reckonFits 23 = .ok (.iconst 0, 1) := by decide +kernel
theorem dX11_reckonFits_24 : decode cX11_reckonFits 24 = .ok (.istore 6, 2) := by decide +kernel
theorem dX11_reckonFits_26 : decode cX11_reckonFits 26 = .ok (.iload_n 3, 1) := by decide +kernel
theorem dX11_reckonFits_27 : decode cX11_reckonFits 27 = .ok (.iconst 1, 1) := by decide +kernel
theorem dX11_reckonFits_28 : decode cX11_reckonFits 28 = .ok (.iadd, 1) := by decide +kernel
theorem dX11_reckonFits_29 : decode cX11_reckonFits 29 = .ok (.invokestatic 118, 3) := by decide +kernel
theorem dX11_reckonFits_32 : decode cX11_reckonFits 32 = .ok (.istore 7, 2) := by decide +kernel
theorem dX11_reckonFits_34 : decode cX11_reckonFits 34 = .ok (.iload_n 3, 1) := by decide +kernel
theorem dX11_reckonFits_35 : decode cX11_reckonFits 35 = .ok (.invokestatic 280, 3) := by decide +kernel
theorem dX11_reckonFits_38 : decode cX11_reckonFits 38 = .ok (.istore 8, 2) := by decide +kernel
theorem dX11_reckonFits_40 : decode cX11_reckonFits 40 = .ok (.iload 8, 2) := by decide +kernel
theorem dX11_reckonFits_42 : decode cX11_reckonFits 42 = .ok (.iload 7, 2) := by decide +kernel
theorem dX11_reckonFits_44 : decode cX11_reckonFits 44 = .ok (.if_icmp .ge 69, 3) := by decide +kernel
theorem dX11_reckonFits_47 : decode cX11_reckonFits 47 = .ok (.aload_n 0, 1) := by decide +kernel
theorem dX11_reckonFits_48 : decode cX11_reckonFits 48 = .ok (.getfield 42, 3) := by decide +kernel
theorem dX11_reckonFits_51 : decode cX11_reckonFits 51 = .ok (.iload 8, 2) := by decide +kernel
theorem dX11_reckonFits_53 : decode cX11_reckonFits 53 = .ok (.invokevirtual 283, 3) := by decide +kernel
theorem dX11_reckonFits_56 : decode cX11_reckonFits 56 = .ok (.ifCond .eq 51, 3) := by decide +kernel
theorem dX11_reckonFits_59 : decode cX11_reckonFits 59 = .ok (.aload_n 0, 1) := by decide +kernel
theorem dX11_reckonFits_60 : decode cX11_reckonFits 60 = .ok (.aload_n 0, 1) := by decide +kernel
theorem dX11_reckonFits_61 : decode cX11_reckonFits 61 = .ok (.getfield 42, 3) := by decide +kernel
theorem dX11_reckonFits_64 : decode cX11_reckonFits 64 = .ok (.iload 8, 2) := by decide +kernel
theorem dX11_reckonFits_66 : decode cX11_reckonFits 66 = .ok (.invokevirtual 185, 3) := by decide +kernel
theorem dX11_reckonFits_69 : decode cX11_reckonFits 69 = .ok (.iload_n 1, 1) := by decide +kernel
theorem dX11_reckonFits_70 : decode cX11_reckonFits 70 = .ok (.invokevirtual 306, 3) := by decide +kernel
theorem dX11_reckonFits_73 : decode cX11_reckonFits 73 = .ok (.ifCond .eq 34, 3) := by decide +kernel
theorem dX11_reckonFits_76 : decode cX11_reckonFits 76 = .ok (.iinc 4 1, 3) := by decide +kernel
theorem dX11_reckonFits_79 : decode cX11_reckonFits 79 = .ok (.iload 5, 2) := by decide +kernel
theorem dX11_reckonFits_81 : decode cX11_reckonFits 81 = .ok (.aload_n 0, 1) := by decide +kernel
theorem dX11_reckonFits_82 : decode cX11_reckonFits 82 = .ok (.getfield 19, 3) := by decide +kernel
theorem dX11_reckonFits_85 : decode cX11_reckonFits 85 = .ok (.iload 8, 2) := by decide +kernel
theorem dX11_reckonFits_87 : decode cX11_reckonFits 87 = .ok (.invokevirtual 286, 3) := by decide +kernel
theorem dX11_reckonFits_90 : decode cX11_reckonFits 90 = .ok (.iand, 1) := by decide +kernel
theorem dX11_reckonFits_91 : decode cX11_reckonFits 91 = .ok (.istore 5, 2) := by decide +kernel
theorem dX11_reckonFits_93 : decode cX11_reckonFits 93 = .ok (.iload 6, 2) := by decide +kernel
theorem dX11_reckonFits_95 : decode cX11_reckonFits 95 = .ok (.aload_n 0, 1) := by decide +kernel
theorem dX11_reckonFits_96 : decode cX11_reckonFits 96 = .ok (.getfield 19, 3) := by decide +kernel
theorem dX11_reckonFits_99 : decode cX11_reckonFits 99 = .ok (.iload 8, 2) := by decide +kernel
theorem dX11_reckonFits_101 : decode cX11_reckonFits 101 = .ok (.invokevirtual 286, 3) := by decide +kernel
theorem dX11_reckonFits_104 : decode cX11_reckonFits 104 = .ok (.ior, 1) := by decide +kernel
theorem dX11_reckonFits_105 : decode cX11_reckonFits 105 = .ok (.istore 6, 2) := by decide +kernel
theorem dX11_reckonFits_107 : decode cX11_reckonFits 107 = .ok (.iinc 8 1, 3) := by decide +kernel
theorem dX11_reckonFits_110 : decode cX11_reckonFits 110 = .ok (.goto (-70), 3) := by decide +kernel
theorem dX11_reckonFits_113 : decode cX11_reckonFits 113 = .ok (.iload_n 2, 1) := by decide +kernel
theorem dX11_reckonFits_114 : decode cX11_reckonFits 114 = .ok (.ifCond .eq 8, 3) := by decide +kernel
theorem dX11_reckonFits_117 : decode cX11_reckonFits 117 = .ok (.iload 4, 2) := by decide +kernel
theorem dX11_reckonFits_119 : decode cX11_reckonFits 119 = .ok (.ifCond .ne 6, 3) := by decide +kernel
theorem dX11_reckonFits_122 : decode cX11_reckonFits 122 = .ok (.iload 4, 2) := by decide +kernel
theorem dX11_reckonFits_124 : decode cX11_reckonFits 124 = .ok (.ireturn, 1) := by decide +kernel
theorem dX11_reckonFits_125 : decode cX11_reckonFits 125 = .ok (.iload_n 2, 1) := by decide +kernel
theorem dX11_reckonFits_126 : decode cX11_reckonFits 126 = .ok (.iconst 1, 1) := by decide +kernel
theorem dX11_reckonFits_127 : decode cX11_reckonFits 127 = .ok (.if_icmp .ne 8, 3) := by decide +kernel
theorem dX11_reckonFits_130 : decode cX11_reckonFits 130 = .ok (.iload 5, 2) := by decide +kernel
theorem dX11_reckonFits_132 : decode cX11_reckonFits 132 = .ok (.goto 15, 3) := by decide +kernel
theorem dX11_reckonFits_135 : decode cX11_reckonFits 135 = .ok (.aload_n 0, 1) := by decide +kernel
theorem dX11_reckonFits_136 : decode cX11_reckonFits 136 = .ok (.getfield 42, 3) := by decide +kernel
theorem dX11_reckonFits_139 : decode cX11_reckonFits 139 = .ok (.invokevirtual 309, 3) := by decide +kernel
theorem dX11_reckonFits_142 : decode cX11_reckonFits 142 = .ok (.iload 6, 2) := by decide +kernel
theorem dX11_reckonFits_144 : decode cX11_reckonFits 144 = .ok (.iconst (-1), 1) := by decide +kernel
theorem dX11_reckonFits_145 : decode cX11_reckonFits 145 = .ok (.ixor, 1) := by decide +kernel
theorem dX11_reckonFits_146 : decode cX11_reckonFits 146 = .ok (.iand, 1) := by decide +kernel
theorem dX11_reckonFits_147 : decode cX11_reckonFits 147 = .ok (.ireturn, 1) := by decide +kernel
theorem dX11_fits_0 : decode cX11_fits 0 = .ok (.iload_n 1, 1) := by decide +kernel
theorem dX11_fits_1 : decode cX11_fits 1 = .ok (.bipush 20, 2) := by decide +kernel
theorem dX11_fits_3 : decode cX11_fits 3 = .ok (.invokestatic 102, 3) := by decide +kernel
theorem dX11_fits_6 : decode cX11_fits 6 = .ok (.ifCond .eq 24, 3) := by decide +kernel
theorem dX11_fits_9 : decode cX11_fits 9 = .ok (.iload_n 2, 1) := by decide +kernel
theorem dX11_fits_10 : decode cX11_fits 10 = .ok (.iconst 2, 1) := by decide +kernel
theorem dX11_fits_11 : decode cX11_fits 11 = .ok (.invokestatic 102, 3) := by decide +kernel
theorem dX11_fits_14 : decode cX11_fits 14 = .ok (.ifCond .eq 16, 3) := by decide +kernel
theorem dX11_fits_17 : decode cX11_fits 17 = .ok (.iconst 2, 1) := by decide +kernel
theorem dX11_fits_18 : decode cX11_fits 18 = .ok (.iload_n 1, 1) := by decide +kernel
theorem dX11_fits_19 : decode cX11_fits 19 = .ok (.imul, 1) := by decide +kernel
theorem dX11_fits_20 : decode cX11_fits 20 = .ok (.aload_n 0, 1) := by decide +kernel
theorem dX11_fits_21 : decode cX11_fits 21 = .ok (.getfield 10, 3) := by decide +kernel
theorem dX11_fits_24 : decode cX11_fits 24 = .ok (.invokevirtual 129, 3) := by decide +kernel
theorem dX11_fits_27 : decode cX11_fits 27 = .ok (.if_icmp .le 5, 3) := by decide +kernel
theorem dX11_fits_30 : decode cX11_fits 30 = .ok (.iconst (-1), 1) := by decide +kernel
theorem dX11_fits_31 : decode cX11_fits 31 = .ok (.ireturn, 1) := by decide +kernel
theorem dX11_fits_32 : decode cX11_fits 32 = .ok (.aload_n 0, 1) := by decide +kernel
theorem dX11_fits_33 : decode cX11_fits 33 = .ok (.iload_n 1, 1) := by decide +kernel
theorem dX11_fits_34 : decode cX11_fits 34 = .ok (.invokevirtual 297, 3) := by decide +kernel
theorem dX11_fits_37 : decode cX11_fits 37 = .ok (.ifCond .eq 12, 3) := by decide +kernel
theorem dX11_fits_40 : decode cX11_fits 40 = .ok (.aload_n 0, 1) := by decide +kernel
theorem dX11_fits_41 : decode cX11_fits 41 = .ok (.iload_n 1, 1) := by decide +kernel
theorem dX11_fits_42 : decode cX11_fits 42 = .ok (.iload_n 2, 1) := by decide +kernel
theorem dX11_fits_43 : decode cX11_fits 43 = .ok (.invokevirtual 300, 3) := by decide +kernel
theorem dX11_fits_46 : decode cX11_fits 46 = .ok (.goto 5, 3) := by decide +kernel
theorem dX11_fits_49 : decode cX11_fits 49 = .ok (.bipush (-2), 2) := by decide +kernel
theorem dX11_fits_51 : decode cX11_fits 51 = .ok (.istore_n 3, 1) := by decide +kernel
theorem dX11_fits_52 : decode cX11_fits 52 = .ok (.aload_n 0, 1) := by decide +kernel
theorem dX11_fits_53 : decode cX11_fits 53 = .ok (.getfield 10, 3) := by decide +kernel
theorem dX11_fits_56 : decode cX11_fits 56 = .ok (.invokevirtual 136, 3) := by decide +kernel
theorem dX11_fits_59 : decode cX11_fits 59 = .ok (.iload_n 3, 1) := by decide +kernel
theorem dX11_fits_60 : decode cX11_fits 60 = .ok (.ireturn, 1) := by decide +kernel
theorem dX11_seed_0 : decode cX11_seed 0 = .ok (.iload_n 1, 1) := by decide +kernel
theorem dX11_seed_1 : decode cX11_seed 1 = .ok (.ldc 174, 2) := by decide +kernel
theorem dX11_seed_3 : decode cX11_seed 3 = .ok (.invokestatic 102, 3) := by decide +kernel
theorem dX11_seed_6 : decode cX11_seed 6 = .ok (.ifCond .ne 5, 3) := by decide +kernel
theorem dX11_seed_9 : decode cX11_seed 9 = .ok (.iconst 0, 1) := by decide +kernel
theorem dX11_seed_10 : decode cX11_seed 10 = .ok (.ireturn, 1) := by decide +kernel
theorem dX11_seed_11 : decode cX11_seed 11 = .ok (.aload_n 0, 1) := by decide +kernel
theorem dX11_seed_12 : decode cX11_seed 12 = .ok (.getfield 88, 3) := by decide +kernel
theorem dX11_seed_15 : decode cX11_seed 15 = .ok (.iload_n 1, 1) := by decide +kernel
theorem dX11_seed_16 : decode cX11_seed 16 = .ok (.putfield 175, 3) := by decide +kernel
theorem dX11_seed_19 : decode cX11_seed 19 = .ok (.iconst 1, 1) := by decide +kernel
theorem dX11_seed_20 : decode cX11_seed 20 = .ok (.ireturn, 1) := by decide +kernel
theorem dX11_draw_0 : decode cX11_draw 0 = .ok (.iload_n 1, 1) := by decide +kernel
theorem dX11_draw_1 : decode cX11_draw 1 = .ok (.iconst 1, 1) := by decide +kernel
theorem dX11_draw_2 : decode cX11_draw 2 = .ok (.if_icmp .lt 9, 3) := by decide +kernel
theorem dX11_draw_5 : decode cX11_draw 5 = .ok (.iload_n 1, 1) := by decide +kernel
theorem dX11_draw_6 : decode cX11_draw 6 = .ok (.bipush 100, 2) := by decide +kernel
theorem dX11_draw_8 : decode cX11_draw 8 = .ok (.if_icmp .le 5, 3) := by decide +kernel
theorem dX11_draw_11 : decode cX11_draw 11 = .ok (.iconst (-1), 1) := by decide +kernel
theorem dX11_draw_12 : decode cX11_draw 12 = .ok (.ireturn, 1) := by decide +kernel
theorem dX11_draw_13 : decode cX11_draw 13 = .ok (.iconst 0, 1) := by decide +kernel
theorem dX11_draw_14 : decode cX11_draw 14 = .ok (.istore_n 2, 1) := by decide +kernel
theorem dX11_draw_15 : decode cX11_draw 15 = .ok (.iconst 0, 1) := by decide +kernel
theorem dX11_draw_16 : decode cX11_draw 16 = .ok (.istore_n 3, 1) := by decide +kernel
theorem dX11_draw_17 : decode cX11_draw 17 = .ok (.iload_n 3, 1) := by decide +kernel
theorem dX11_draw_18 : decode cX11_draw 18 = .ok (.iload_n 1, 1) := by decide +kernel
theorem dX11_draw_19 : decode cX11_draw 19 = .ok (.if_icmp .ge 82, 3) := by decide +kernel
theorem dX11_draw_22 : decode cX11_draw 22 = .ok (.aload_n 0, 1) := by decide +kernel
theorem dX11_draw_23 : decode cX11_draw 23 = .ok (.getfield 88, 3) := by decide +kernel
theorem dX11_draw_26 : decode cX11_draw 26 = .ok (.sipush 25173, 3) := by decide +kernel
theorem dX11_draw_29 : decode cX11_draw 29 = .ok (.aload_n 0, 1) := by decide +kernel
theorem dX11_draw_30 : decode cX11_draw 30 = .ok (.getfield 88, 3) := by decide +kernel
theorem dX11_draw_33 : decode cX11_draw 33 = .ok (.getfield 175, 3) := by decide +kernel
theorem dX11_draw_36 : decode cX11_draw 36 = .ok (.imul, 1) := by decide +kernel
theorem dX11_draw_37 : decode cX11_draw 37 = .ok (.sipush 13849, 3) := by decide +kernel
theorem dX11_draw_40 : decode cX11_draw 40 = .ok (.iadd, 1) := by decide +kernel
theorem dX11_draw_41 : decode cX11_draw 41 = .ok (.ldc 204, 2) := by decide +kernel
theorem dX11_draw_43 : decode cX11_draw 43 = .ok (.irem, 1) := by decide +kernel
theorem dX11_draw_44 : decode cX11_draw 44 = .ok (.putfield 175, 3) := by decide +kernel
theorem dX11_draw_47 : decode cX11_draw 47 = .ok (.aload_n 0, 1) := by decide +kernel
theorem dX11_draw_48 : decode cX11_draw 48 = .ok (.getfield 88, 3) := by decide +kernel
theorem dX11_draw_51 : decode cX11_draw 51 = .ok (.getfield 175, 3) := by decide +kernel
theorem dX11_draw_54 : decode cX11_draw 54 = .ok (.iconst 4, 1) := by decide +kernel
theorem dX11_draw_55 : decode cX11_draw 55 = .ok (.irem, 1) := by decide +kernel
theorem dX11_draw_56 : decode cX11_draw 56 = .ok (.istore 4, 2) := by decide +kernel
theorem dX11_draw_58 : decode cX11_draw 58 = .ok (.aload_n 0, 1) := by decide +kernel
theorem dX11_draw_59 : decode cX11_draw 59 = .ok (.getfield 51, 3) := by decide +kernel
theorem dX11_draw_62 : decode cX11_draw 62 = .ok (.iload 4, 2) := by decide +kernel
theorem dX11_draw_64 : decode cX11_draw 64 = .ok (.aload_n 0, 1) := by decide +kernel
theorem dX11_draw_65 : decode cX11_draw 65 = .ok (.getfield 88, 3) := by decide +kernel
theorem dX11_draw_68 : decode cX11_draw 68 = .ok (.getfield 122, 3) := by decide +kernel
theorem dX11_draw_71 : decode cX11_draw 71 = .ok (.invokevirtual 192, 3) := by decide +kernel
theorem dX11_draw_74 : decode cX11_draw 74 = .ok (.istore 5, 2) := by decide +kernel
theorem dX11_draw_76 : decode cX11_draw 76 = .ok (.iload 5, 2) := by decide +kernel
theorem dX11_draw_78 : decode cX11_draw 78 = .ok (.bipush 8, 2) := by decide +kernel
theorem dX11_draw_80 : decode cX11_draw 80 = .ok (.if_icmp .eq 6, 3) := by decide +kernel
theorem dX11_draw_83 : decode cX11_draw 83 = .ok (.iinc 2 1, 3) := by decide +kernel
theorem dX11_draw_86 : decode cX11_draw 86 = .ok (.aload_n 0, 1) := by decide +kernel
theorem dX11_draw_87 : decode cX11_draw 87 = .ok (.iload 4, 2) := by decide +kernel
theorem dX11_draw_89 : decode cX11_draw 89 = .ok (.iload 5, 2) := by decide +kernel
theorem dX11_draw_91 : decode cX11_draw 91 = .ok (.invokevirtual 201, 3) := by decide +kernel
theorem dX11_draw_94 : decode cX11_draw 94 = .ok (.pop, 1) := by decide +kernel
theorem dX11_draw_95 : decode cX11_draw 95 = .ok (.iinc 3 1, 3) := by decide +kernel
theorem dX11_draw_98 : decode cX11_draw 98 = .ok (.goto (-81), 3) := by decide +kernel
theorem dX11_draw_101 : decode cX11_draw 101 = .ok (.iload_n 2, 1) := by decide +kernel
theorem dX11_draw_102 : decode cX11_draw 102 = .ok (.ireturn, 1) := by decide +kernel
/-! f_X0_comeTo -/
noncomputable def f_X0_comeTo (a1 : Int32) (a2 : Int32) (a3 : Int32) (a4 : Int32) (s0 : SS) : Res := if (0 : Int32) ≤ (s0 46 6) then some (0, s0) else if (s0 46 5 : Int32) < 0 then some (0, s0) else if (21392 : Int32) ≤ (s0 46 5 : Int32) then some (0, s0) else if (a1 : Int32) < 0 then some (0, s0) else if (a1 : Int32) < (5348 : Int32) then gd (inb a1 5348) (if (((s0 48 (Int32.toNatClampNeg a1)) >>> (a2 &&& 31)) &&& 1 : Int32) = (1 : Int32) then some (0, s0) else gd (inb a1 5348) (gd (inb a1 5348) (lts (up s0 48 (Int32.toNatClampNeg a1) ((s0 48 (Int32.toNatClampNeg a1)) ||| (1 <<< (a2 &&& 31)))) (fun (s7 : SS) => bd (f_X2_quietOn a1 s7) (fun (v8 : Int32) (s9 : SS) => jn (fun (s10 : SS) => gd (inb (s10 46 5) 21392) (lts (upl s10 47 (Int32.toNatClampNeg (s10 46 5)) (wsl (wsl (wsl (wsl 0 0 16 a1) 1 16 a2) 2 16 a3) 3 16 a4)) (fun (s12 : SS) => lts (up s12 46 5 ((s12 46 5) + 1)) (fun (s13 : SS) => some (0, s13))))) (fun (k11 : SS → Res) => if (v8 : Int32) = 0 then k11 s9 else lts (up s9 46 6 (s9 46 5)) (fun (s15 : SS) => k11 s15))))))) else some (0, s0)
set_option maxRecDepth 100000 in
set_option maxHeartbeats 4000000 in
theorem c_X0_comeTo {l : Launch} (a1 : Int32) (a2 : Int32) (a3 : Int32) (a4 : Int32) (s0 : SS) : Ct l wF yX0_comeTo cX0_comeTo 7 none 5 [.ref 46, .int a1, .int a2, .int a3, .int a4] s0 (f_X0_comeTo a1 a2 a3 a4 s0) := by
  refine ct_of (y := yX0_comeTo) plX0 (Nat.le_of_ble_eq_true rfl) ?_
  refine r_pad0 2 (L1 := [.ref 46, .int a1, .int a2, .int a3, .int a4, .null, .null]) rfl ?_
  unfold f_X0_comeTo
  refine r_aload_n (pc1 := 1) (i := 0) dX0_comeTo_0 rfl rfl rfl ?_
  refine r_getI (pc1 := 4) w_46 gfX0_67 rfl dX0_comeTo_1 rfl ?_
  refine r_if_ge (tgt := 37) (pc1 := 7) dX0_comeTo_4 (by decide) rfl (fun q1 => ?_) (fun q1 => ?_)
  · exact r_vret rfl dX0_comeTo_37
  · refine r_aload_n (pc1 := 8) (i := 0) dX0_comeTo_7 rfl rfl rfl ?_
    refine r_getI (pc1 := 11) w_46 gfX0_64 rfl dX0_comeTo_8 rfl ?_
    refine r_if_lt (tgt := 37) (pc1 := 14) dX0_comeTo_11 (by decide) rfl (fun q2 => ?_) (fun q2 => ?_)
    · exact r_vret rfl dX0_comeTo_37
    · refine r_aload_n (pc1 := 15) (i := 0) dX0_comeTo_14 rfl rfl rfl ?_
      refine r_getI (pc1 := 18) w_46 gfX0_64 rfl dX0_comeTo_15 rfl ?_
      refine r_sipush (v := 21392) (pc1 := 21) dX0_comeTo_18 ks_21392 rfl ?_
      refine r_icmp_ge (tgt := 37) (pc1 := 24) dX0_comeTo_21 (by decide) rfl (fun q3 => ?_) (fun q3 => ?_)
      · exact r_vret rfl dX0_comeTo_37
      · refine r_iload_n (pc1 := 25) (i := 1) dX0_comeTo_24 rfl rfl rfl ?_
        refine r_if_lt (tgt := 37) (pc1 := 28) dX0_comeTo_25 (by decide) rfl (fun q4 => ?_) (fun q4 => ?_)
        · exact r_vret rfl dX0_comeTo_37
        · refine r_iload_n (pc1 := 29) (i := 1) dX0_comeTo_28 rfl rfl rfl ?_
          refine r_aload_n (pc1 := 30) (i := 0) dX0_comeTo_29 rfl rfl rfl ?_
          refine r_getR (pc1 := 33) w_46 gfX0_17 rfl dX0_comeTo_30 rfl ?_
          refine r_alen (t := 0) (v := 5348) (pc1 := 34) w_48 (fun _ => rfl) (al_5348) dX0_comeTo_33 rfl ?_
          refine r_icmp_lt (tgt := 38) (pc1 := 37) dX0_comeTo_34 (by decide) rfl (fun q5 => ?_) (fun q5 => ?_)
          · refine r_aload_n (pc1 := 39) (i := 0) dX0_comeTo_38 rfl rfl rfl ?_
            refine r_getR (pc1 := 42) w_46 gfX0_17 rfl dX0_comeTo_39 rfl ?_
            refine r_iload_n (pc1 := 43) (i := 1) dX0_comeTo_42 rfl rfl rfl ?_
            refine r_iald (pc1 := 44) w_48 dX0_comeTo_43 rfl ?_
            refine r_iload_n (pc1 := 45) (i := 2) dX0_comeTo_44 rfl rfl rfl ?_
            refine r_ishr (pc1 := 46) dX0_comeTo_45 rfl ?_
            refine r_iconst (v := 1) (pc1 := 47) dX0_comeTo_46 ki_1 rfl ?_
            refine r_iand (pc1 := 48) dX0_comeTo_47 rfl ?_
            refine r_iconst (v := 1) (pc1 := 49) dX0_comeTo_48 ki_1 rfl ?_
            refine r_icmp_ne (tgt := 53) (pc1 := 52) dX0_comeTo_49 (by decide) rfl (fun q6 => ?_) (fun q6 => ?_)
            · exact r_vret rfl dX0_comeTo_52
            · refine r_aload_n (pc1 := 54) (i := 0) dX0_comeTo_53 rfl rfl rfl ?_
              refine r_getR (pc1 := 57) w_46 gfX0_17 rfl dX0_comeTo_54 rfl ?_
              refine r_iload_n (pc1 := 58) (i := 1) dX0_comeTo_57 rfl rfl rfl ?_
              refine r_dup2 (pc1 := 59) dX0_comeTo_58 rfl rfl rfl ?_
              refine r_iald (pc1 := 60) w_48 dX0_comeTo_59 rfl ?_
              refine r_iconst (v := 1) (pc1 := 61) dX0_comeTo_60 ki_1 rfl ?_
              refine r_iload_n (pc1 := 62) (i := 2) dX0_comeTo_61 rfl rfl rfl ?_
              refine r_ishl (pc1 := 63) dX0_comeTo_62 rfl ?_
              refine r_ior (pc1 := 64) dX0_comeTo_63 rfl ?_
              refine r_iast (pc1 := 65) w_48 dX0_comeTo_64 rfl ?_
              refine r_lts (fun s7 => ?_)
              refine r_aload_n (pc1 := 66) (i := 0) dX0_comeTo_65 rfl rfl rfl ?_
              refine r_getR (pc1 := 69) w_46 gfX0_33 rfl dX0_comeTo_66 rfl ?_
              refine r_iload_n (pc1 := 70) (i := 1) dX0_comeTo_69 rfl rfl rfl ?_
              refine r_callVi (pc1 := 73) (rv_of w_35 cl_2) lkX0_101 (c_X2_quietOn _ _) rfl rfl ⟨Nat.le_of_ble_eq_true rfl, Nat.le_of_ble_eq_true rfl⟩ (Nat.le_of_ble_eq_true rfl) dX0_comeTo_70 rfl (fun v8 s9 => ?_)
              refine r_jn (hyp := fun (k11 : SS → Res) => ∀ (s10 : SS), RC l wF RX0 cX0_comeTo 7 none 5 84 [.ref 46, .int a1, .int a2, .int a3, .int a4, .null, .null] [] s10 (k11 s10)) (fun s10 => ?_) (fun k11 hk11 => ?_)
              · refine r_lconst (v := 0) (pc1 := 85) dX0_comeTo_84 kl_0 rfl ?_
                refine r_iconst (v := 0) (pc1 := 86) dX0_comeTo_85 ki_0 rfl ?_
                refine r_bipush (v := 16) (pc1 := 88) dX0_comeTo_86 kb_16 rfl ?_
                refine r_iload_n (pc1 := 89) (i := 1) dX0_comeTo_88 rfl rfl rfl ?_
                refine r_callSNl (pc1 := 92) lkX0_105 (c_withSlot _ _ _ _) rfl rfl ⟨Nat.le_of_ble_eq_true rfl, Nat.le_of_ble_eq_true rfl⟩ (Nat.le_of_ble_eq_true rfl) dX0_comeTo_89 rfl ?_
                refine r_iconst (v := 1) (pc1 := 93) dX0_comeTo_92 ki_1 rfl ?_
                refine r_bipush (v := 16) (pc1 := 95) dX0_comeTo_93 kb_16 rfl ?_
                refine r_iload_n (pc1 := 96) (i := 2) dX0_comeTo_95 rfl rfl rfl ?_
                refine r_callSNl (pc1 := 99) lkX0_105 (c_withSlot _ _ _ _) rfl rfl ⟨Nat.le_of_ble_eq_true rfl, Nat.le_of_ble_eq_true rfl⟩ (Nat.le_of_ble_eq_true rfl) dX0_comeTo_96 rfl ?_
                refine r_lstore (pc1 := 101) dX0_comeTo_99 (by decide) rfl rfl rfl ?_
                refine r_aload_n (pc1 := 102) (i := 0) dX0_comeTo_101 rfl rfl rfl ?_
                refine r_getR (pc1 := 105) w_46 gfX0_13 rfl dX0_comeTo_102 rfl ?_
                refine r_aload_n (pc1 := 106) (i := 0) dX0_comeTo_105 rfl rfl rfl ?_
                refine r_getI (pc1 := 109) w_46 gfX0_64 rfl dX0_comeTo_106 rfl ?_
                refine r_lload (pc1 := 111) dX0_comeTo_109 rfl rfl ?_
                refine r_iconst (v := 2) (pc1 := 112) dX0_comeTo_111 ki_2 rfl ?_
                refine r_bipush (v := 16) (pc1 := 114) dX0_comeTo_112 kb_16 rfl ?_
                refine r_iload_n (pc1 := 115) (i := 3) dX0_comeTo_114 rfl rfl rfl ?_
                refine r_callSNl (pc1 := 118) lkX0_105 (c_withSlot _ _ _ _) rfl rfl ⟨Nat.le_of_ble_eq_true rfl, Nat.le_of_ble_eq_true rfl⟩ (Nat.le_of_ble_eq_true rfl) dX0_comeTo_115 rfl ?_
                refine r_iconst (v := 3) (pc1 := 119) dX0_comeTo_118 ki_3 rfl ?_
                refine r_bipush (v := 16) (pc1 := 121) dX0_comeTo_119 kb_16 rfl ?_
                refine r_iload (pc1 := 123) dX0_comeTo_121 rfl rfl ?_
                refine r_callSNl (pc1 := 126) lkX0_105 (c_withSlot _ _ _ _) rfl rfl ⟨Nat.le_of_ble_eq_true rfl, Nat.le_of_ble_eq_true rfl⟩ (Nat.le_of_ble_eq_true rfl) dX0_comeTo_123 rfl ?_
                refine r_last (pc1 := 127) w_47 dX0_comeTo_126 rfl ?_
                refine r_lts (fun s12 => ?_)
                refine r_aload_n (pc1 := 128) (i := 0) dX0_comeTo_127 rfl rfl rfl ?_
                refine r_dup (pc1 := 129) dX0_comeTo_128 rfl rfl ?_
                refine r_getI (pc1 := 132) w_46 gfX0_64 rfl dX0_comeTo_129 rfl ?_
                refine r_iconst (v := 1) (pc1 := 133) dX0_comeTo_132 ki_1 rfl ?_
                refine r_iadd (pc1 := 134) dX0_comeTo_133 rfl ?_
                refine r_putI (pc1 := 137) w_46 pfX0_64 rfl ⟨rfl, rfl⟩ dX0_comeTo_134 rfl ?_
                refine r_lts (fun s13 => ?_)
                exact r_vret rfl dX0_comeTo_137
              · refine r_if_eq (tgt := 84) (pc1 := 76) dX0_comeTo_73 (by decide) rfl (fun q14 => ?_) (fun q14 => ?_)
                · exact r_wk (hk11 s9) ⟨Or.inr rfl, Or.inr rfl, Or.inr rfl, Or.inr rfl, Or.inr rfl, Or.inl rfl, Or.inl rfl, trivial⟩
                · refine r_aload_n (pc1 := 77) (i := 0) dX0_comeTo_76 rfl rfl rfl ?_
                  refine r_aload_n (pc1 := 78) (i := 0) dX0_comeTo_77 rfl rfl rfl ?_
                  refine r_getI (pc1 := 81) w_46 gfX0_64 rfl dX0_comeTo_78 rfl ?_
                  refine r_putI (pc1 := 84) w_46 pfX0_67 rfl ⟨rfl, rfl⟩ dX0_comeTo_81 rfl ?_
                  refine r_lts (fun s15 => ?_)
                  exact r_wk (hk11 s15) ⟨Or.inr rfl, Or.inr rfl, Or.inr rfl, Or.inr rfl, Or.inr rfl, Or.inl rfl, Or.inl rfl, trivial⟩
          · exact r_vret rfl dX0_comeTo_37
/-! f_X0_daysTo -/
noncomputable def lp_X0_daysTo_4 (s0 : SS) : Nat → Int32 → Int32 → Option Int32
  | 0, _, _ => none
  | n3 + 1, v1, v2 => if (v2 : Int32) ≤ 0 then some v1 else if (21392 : Int32) ≤ (v2 : Int32) then some v1 else if (21392 : Int32) ≤ (v1 : Int32) then some v1 else gd (inb v2 21392) (bdp (f_X11_slotOf (lgt (s0 47) (Int32.toNatClampNeg v2)) 3 16 s0) (fun (v7 : Int32) => lp_X0_daysTo_4 s0 n3 (v1 + 1) v7))
noncomputable def f_X0_daysTo (a1 : Int32) (s0 : SS) : Option Int32 := lp_X0_daysTo_4 s0 FU 0 a1
set_option maxRecDepth 100000 in
set_option maxHeartbeats 4000000 in
theorem t_lp_X0_daysTo_4 {l : Launch} (s0 : SS)  : ∀ (n3 : Nat) (v1 : Int32) (v2 : Int32), RC l wF RX0 cX0_daysTo 4 (some .int) 1 4 [.ref 46, .null, .int v1, .int v2] [] s0 (pu (lp_X0_daysTo_4 s0 n3 v1 v2) s0) := by
  intro n3
  induction n3 with
  | zero =>
    intro v1 v2
    rw [lp_X0_daysTo_4]
    exact p_none
  | succ n3 ih =>
    intro v1 v2
    rw [lp_X0_daysTo_4]
    refine r_iload_n (pc1 := 5) (i := 3) dX0_daysTo_4 rfl rfl rfl ?_
    refine p_if_le (tgt := 41) (pc1 := 8) dX0_daysTo_5 (by decide) rfl (fun q4 => ?_) (fun q4 => ?_)
    · refine r_iload_n (pc1 := 42) (i := 2) dX0_daysTo_41 rfl rfl rfl ?_
      exact p_iret rfl rfl dX0_daysTo_42
    · refine r_iload_n (pc1 := 9) (i := 3) dX0_daysTo_8 rfl rfl rfl ?_
      refine r_sipush (v := 21392) (pc1 := 12) dX0_daysTo_9 ks_21392 rfl ?_
      refine p_icmp_ge (tgt := 41) (pc1 := 15) dX0_daysTo_12 (by decide) rfl (fun q5 => ?_) (fun q5 => ?_)
      · refine r_iload_n (pc1 := 42) (i := 2) dX0_daysTo_41 rfl rfl rfl ?_
        exact p_iret rfl rfl dX0_daysTo_42
      · refine r_iload_n (pc1 := 16) (i := 2) dX0_daysTo_15 rfl rfl rfl ?_
        refine r_sipush (v := 21392) (pc1 := 19) dX0_daysTo_16 ks_21392 rfl ?_
        refine p_icmp_ge (tgt := 41) (pc1 := 22) dX0_daysTo_19 (by decide) rfl (fun q6 => ?_) (fun q6 => ?_)
        · refine r_iload_n (pc1 := 42) (i := 2) dX0_daysTo_41 rfl rfl rfl ?_
          exact p_iret rfl rfl dX0_daysTo_42
        · refine r_aload_n (pc1 := 23) (i := 0) dX0_daysTo_22 rfl rfl rfl ?_
          refine r_getR (pc1 := 26) w_46 gfX0_13 rfl dX0_daysTo_23 rfl ?_
          refine r_iload_n (pc1 := 27) (i := 3) dX0_daysTo_26 rfl rfl rfl ?_
          refine p_lald (pc1 := 28) w_47 dX0_daysTo_27 rfl ?_
          refine r_iconst (v := 3) (pc1 := 29) dX0_daysTo_28 ki_3 rfl ?_
          refine r_bipush (v := 16) (pc1 := 31) dX0_daysTo_29 kb_16 rfl ?_
          refine p_callSNp (pc1 := 34) lkX0_74 (c_X11_slotOf _ _ _ _) rfl rfl ⟨Nat.le_of_ble_eq_true rfl, Nat.le_of_ble_eq_true rfl⟩ (Nat.le_of_ble_eq_true rfl) dX0_daysTo_31 rfl (fun v7 => ?_)
          refine r_istore_n (pc1 := 35) (i := 3) dX0_daysTo_34 rfl (by decide) rfl rfl rfl ?_
          refine r_iinc (pc1 := 38) dX0_daysTo_35 rfl (kn_1 _) (by decide) rfl rfl rfl ?_
          refine r_goto (tgt := 4) dX0_daysTo_38 (by decide) ?_
          exact r_wk (ih (v1 + 1) v7) ⟨Or.inr rfl, Or.inl rfl, Or.inr rfl, Or.inr rfl, trivial⟩
set_option maxRecDepth 100000 in
set_option maxHeartbeats 4000000 in
theorem c_X0_daysTo {l : Launch} (a1 : Int32) (s0 : SS) : Ct l wF yX0_daysTo cX0_daysTo 4 (some .int) 1 [.ref 46, .int a1] s0 (pu (f_X0_daysTo a1 s0) s0) := by
  refine ct_of (y := yX0_daysTo) plX0 (Nat.le_of_ble_eq_true rfl) ?_
  refine r_pad0 2 (L1 := [.ref 46, .int a1, .null, .null]) rfl ?_
  unfold f_X0_daysTo
  refine r_iconst (v := 0) (pc1 := 1) dX0_daysTo_0 ki_0 rfl ?_
  refine r_istore_n (pc1 := 2) (i := 2) dX0_daysTo_1 rfl (by decide) rfl rfl rfl ?_
  refine r_iload_n (pc1 := 3) (i := 1) dX0_daysTo_2 rfl rfl rfl ?_
  refine r_istore_n (pc1 := 4) (i := 3) dX0_daysTo_3 rfl (by decide) rfl rfl rfl ?_
  exact r_wk (t_lp_X0_daysTo_4 s0 FU 0 a1) ⟨Or.inr rfl, Or.inl rfl, Or.inr rfl, Or.inr rfl, trivial⟩
/-! f_X0_solve -/
noncomputable def lp_X0_solve_210 (v21 : Int32) (v27 : Int32) (v30 : Int32) (v32 : Int32) (k36 : SS → Res) : Nat → Int32 → SS → Res
  | 0, _, _ => none
  | n39 + 1, v37, s38 => if (8 : Int32) ≤ (v37 : Int32) then k36 s38 else jn (fun (s41 : SS) => lp_X0_solve_210 v21 v27 v30 v32 k36 n39 (v37 + 1) s41) (fun (k42 : SS → Res) => if ((v30 >>> (v37 &&& 31)) &&& 1 : Int32) = (1 : Int32) then bdp (f_X6_behind v27 v37 s38) (fun (v44 : Int32) => bd (f_X0_comeTo v44 v32 v37 v21 s38) (fun (v45 : Int32) (s46 : SS) => k42 s46)) else k42 s38)
noncomputable def lp_X0_solve_110 (k15 : SS → Res) : Nat → Int32 → SS → Res
  | 0, _, _ => none
  | n23 + 1, v21, s22 => if (s22 46 5 : Int32) ≤ (v21 : Int32) then k15 s22 else if (21392 : Int32) ≤ (v21 : Int32) then k15 s22 else if (0 : Int32) ≤ (s22 46 6) then k15 s22 else gd (inb v21 21392) (bdp (f_X11_slotOf (lgt (s22 47) (Int32.toNatClampNeg v21)) 0 16 s22) (fun (v27 : Int32) => gd (inb v21 21392) (bdp (f_X11_slotOf (lgt (s22 47) (Int32.toNatClampNeg v21)) 1 16 s22) (fun (v28 : Int32) => bdp (f_X2_onTurn v28 s22) (fun (v29 : Int32) => bd (f_X10_mayOf v27 v29 s22) (fun (v30 : Int32) (s31 : SS) => bdp (f_X2_placeAfter v28 s31) (fun (v32 : Int32) => bd (f_X0_comeTo v27 v32 8 v21 s31) (fun (v33 : Int32) (s34 : SS) => jn (fun (s35 : SS) => lp_X0_solve_110 k15 n23 (v21 + 1) s35) (fun (k36 : SS → Res) => lp_X0_solve_210 v21 v27 v30 v32 k36 FU 0 s34)))))))))
noncomputable def f_X0_solve (a1 : Int32) (s0 : SS) : Res := jn (lts (up s0 46 8 a1) (fun (s2 : SS) => lts (up s2 46 9 (s2 52 0)) (fun (s3 : SS) => lts (up s3 46 10 (s3 52 1)) (fun (s4 : SS) => bdp (f_X6_lengthOf (s4 52 0) s4) (fun (v5 : Int32) => bdp (f_X6_bareOf v5 s4) (fun (v6 : Int32) => bdp (f_X6_bareOf (v5 + 1) s4) (fun (v7 : Int32) => bd (f_J7_fill_fda19 v6 v7 0 s4) (fun (v8 : Int32) (s9 : SS) => lts (up s9 46 5 0) (fun (s10 : SS) => lts (up s10 46 6 ((-1))) (fun (s11 : SS) => bd (f_X0_comeTo (s11 52 0) (s11 52 1) 8 0 s11) (fun (v12 : Int32) (s13 : SS) => jn (fun (s14 : SS) => jn (fun (v16 : Int32) => lts (up s14 46 7 v16) (fun (s18 : SS) => some (0, s18))) (fun (k17 : Int32 → Res) => if (0 : Int32) ≤ (s14 46 6) then bdp (f_X0_daysTo (s14 46 6) s14) (fun (v20 : Int32) => k17 v20) else k17 ((-1)))) (fun (k15 : SS → Res) => lp_X0_solve_110 k15 FU 0 s13)))))))))))) (fun (k1 : Res) => if (s0 46 8 : Int32) = (a1 : Int32) then if (s0 46 9 : Int32) = (s0 52 0 : Int32) then if (s0 46 10 : Int32) = (s0 52 1 : Int32) then some (0, s0) else k1 else k1 else k1)
set_option maxRecDepth 100000 in
set_option maxHeartbeats 4000000 in
theorem t_lp_X0_solve_210 {l : Launch} (v21 : Int32) (v27 : Int32) (v30 : Int32) (v32 : Int32) (k36 : SS → Res) (hk36 : ∀ (s35 : SS), RC l wF RX0 cX0_solve 10 none 6 255 [.ref 46, .ref 52, .null, .null, .int v21, .null, .null, .null, .null, .null] [] s35 (k36 s35)) : ∀ (n39 : Nat) (v37 : Int32) (s38 : SS), RC l wF RX0 cX0_solve 10 none 6 210 [.ref 46, .ref 52, .null, .null, .int v21, .int v27, .null, .int v30, .int v32, .int v37] [] s38 (lp_X0_solve_210 v21 v27 v30 v32 k36 n39 v37 s38) := by
  intro n39
  induction n39 with
  | zero =>
    intro v37 s38
    rw [lp_X0_solve_210]
    exact r_none
  | succ n39 ih =>
    intro v37 s38
    rw [lp_X0_solve_210]
    refine r_iload (pc1 := 212) dX0_solve_210 rfl rfl ?_
    refine r_bipush (v := 8) (pc1 := 214) dX0_solve_212 kb_8 rfl ?_
    refine r_icmp_ge (tgt := 255) (pc1 := 217) dX0_solve_214 (by decide) rfl (fun q40 => ?_) (fun q40 => ?_)
    · exact r_wk (hk36 s38) ⟨Or.inr rfl, Or.inr rfl, Or.inl rfl, Or.inl rfl, Or.inr rfl, Or.inl rfl, Or.inl rfl, Or.inl rfl, Or.inl rfl, Or.inl rfl, trivial⟩
    · refine r_iload (pc1 := 219) dX0_solve_217 rfl rfl ?_
      refine r_iload (pc1 := 221) dX0_solve_219 rfl rfl ?_
      refine r_ishr (pc1 := 222) dX0_solve_221 rfl ?_
      refine r_iconst (v := 1) (pc1 := 223) dX0_solve_222 ki_1 rfl ?_
      refine r_iand (pc1 := 224) dX0_solve_223 rfl ?_
      refine r_iconst (v := 1) (pc1 := 225) dX0_solve_224 ki_1 rfl ?_
      refine r_jn (hyp := fun (k42 : SS → Res) => ∀ (s41 : SS), RC l wF RX0 cX0_solve 10 none 6 249 [.ref 46, .ref 52, .null, .null, .int v21, .int v27, .null, .int v30, .int v32, .int v37] [] s41 (k42 s41)) (fun s41 => ?_) (fun k42 hk42 => ?_)
      · refine r_iinc (pc1 := 252) dX0_solve_249 rfl (kn_1 _) (by decide) rfl rfl rfl ?_
        refine r_goto (tgt := 210) dX0_solve_252 (by decide) ?_
        exact r_wk (ih (v37 + 1) s41) ⟨Or.inr rfl, Or.inr rfl, Or.inl rfl, Or.inl rfl, Or.inr rfl, Or.inr rfl, Or.inl rfl, Or.inr rfl, Or.inr rfl, Or.inr rfl, trivial⟩
      · refine r_icmp_ne (tgt := 249) (pc1 := 228) dX0_solve_225 (by decide) rfl (fun q43 => ?_) (fun q43 => ?_)
        · refine r_aload_n (pc1 := 229) (i := 0) dX0_solve_228 rfl rfl rfl ?_
          refine r_aload_n (pc1 := 230) (i := 0) dX0_solve_229 rfl rfl rfl ?_
          refine r_getR (pc1 := 233) w_46 gfX0_25 rfl dX0_solve_230 rfl ?_
          refine r_iload (pc1 := 235) dX0_solve_233 rfl rfl ?_
          refine r_iload (pc1 := 237) dX0_solve_235 rfl rfl ?_
          refine r_callVp (pc1 := 240) (rv_of w_3 cl_6) lkX0_92 (c_X6_behind w_3 w_4 w_8 _ _ _) rfl rfl ⟨Nat.le_of_ble_eq_true rfl, Nat.le_of_ble_eq_true rfl⟩ (Nat.le_of_ble_eq_true rfl) dX0_solve_237 rfl (fun v44 => ?_)
          refine r_iload (pc1 := 242) dX0_solve_240 rfl rfl ?_
          refine r_iload (pc1 := 244) dX0_solve_242 rfl rfl ?_
          refine r_iload (pc1 := 246) dX0_solve_244 rfl rfl ?_
          refine r_callVv (pc1 := 249) (rv_of w_46 cl_0) lkX0_70 (c_X0_comeTo _ _ _ _ _) rfl rfl ⟨Nat.le_of_ble_eq_true rfl, Nat.le_of_ble_eq_true rfl⟩ (Nat.le_of_ble_eq_true rfl) dX0_solve_246 rfl (fun v45 s46 => ?_)
          exact r_wk (hk42 s46) ⟨Or.inr rfl, Or.inr rfl, Or.inl rfl, Or.inl rfl, Or.inr rfl, Or.inr rfl, Or.inl rfl, Or.inr rfl, Or.inr rfl, Or.inr rfl, trivial⟩
        · exact r_wk (hk42 s38) ⟨Or.inr rfl, Or.inr rfl, Or.inl rfl, Or.inl rfl, Or.inr rfl, Or.inr rfl, Or.inl rfl, Or.inr rfl, Or.inr rfl, Or.inr rfl, trivial⟩
set_option maxRecDepth 100000 in
set_option maxHeartbeats 4000000 in
theorem t_lp_X0_solve_110 {l : Launch} (k15 : SS → Res) (hk15 : ∀ (s14 : SS), RC l wF RX0 cX0_solve 10 none 6 261 [.ref 46, .ref 52, .null, .null, .null, .null, .null, .null, .null, .null] [] s14 (k15 s14)) : ∀ (n23 : Nat) (v21 : Int32) (s22 : SS), RC l wF RX0 cX0_solve 10 none 6 110 [.ref 46, .ref 52, .null, .null, .int v21, .null, .null, .null, .null, .null] [] s22 (lp_X0_solve_110 k15 n23 v21 s22) := by
  intro n23
  induction n23 with
  | zero =>
    intro v21 s22
    rw [lp_X0_solve_110]
    exact r_none
  | succ n23 ih =>
    intro v21 s22
    rw [lp_X0_solve_110]
    refine r_iload (pc1 := 112) dX0_solve_110 rfl rfl ?_
    refine r_aload_n (pc1 := 113) (i := 0) dX0_solve_112 rfl rfl rfl ?_
    refine r_getI (pc1 := 116) w_46 gfX0_64 rfl dX0_solve_113 rfl ?_
    refine r_icmp_ge (tgt := 261) (pc1 := 119) dX0_solve_116 (by decide) rfl (fun q24 => ?_) (fun q24 => ?_)
    · exact r_wk (hk15 s22) ⟨Or.inr rfl, Or.inr rfl, Or.inl rfl, Or.inl rfl, Or.inl rfl, Or.inl rfl, Or.inl rfl, Or.inl rfl, Or.inl rfl, Or.inl rfl, trivial⟩
    · refine r_iload (pc1 := 121) dX0_solve_119 rfl rfl ?_
      refine r_sipush (v := 21392) (pc1 := 124) dX0_solve_121 ks_21392 rfl ?_
      refine r_icmp_ge (tgt := 261) (pc1 := 127) dX0_solve_124 (by decide) rfl (fun q25 => ?_) (fun q25 => ?_)
      · exact r_wk (hk15 s22) ⟨Or.inr rfl, Or.inr rfl, Or.inl rfl, Or.inl rfl, Or.inl rfl, Or.inl rfl, Or.inl rfl, Or.inl rfl, Or.inl rfl, Or.inl rfl, trivial⟩
      · refine r_aload_n (pc1 := 128) (i := 0) dX0_solve_127 rfl rfl rfl ?_
        refine r_getI (pc1 := 131) w_46 gfX0_67 rfl dX0_solve_128 rfl ?_
        refine r_if_ge (tgt := 261) (pc1 := 134) dX0_solve_131 (by decide) rfl (fun q26 => ?_) (fun q26 => ?_)
        · exact r_wk (hk15 s22) ⟨Or.inr rfl, Or.inr rfl, Or.inl rfl, Or.inl rfl, Or.inl rfl, Or.inl rfl, Or.inl rfl, Or.inl rfl, Or.inl rfl, Or.inl rfl, trivial⟩
        · refine r_aload_n (pc1 := 135) (i := 0) dX0_solve_134 rfl rfl rfl ?_
          refine r_getR (pc1 := 138) w_46 gfX0_13 rfl dX0_solve_135 rfl ?_
          refine r_iload (pc1 := 140) dX0_solve_138 rfl rfl ?_
          refine r_lald (pc1 := 141) w_47 dX0_solve_140 rfl ?_
          refine r_iconst (v := 0) (pc1 := 142) dX0_solve_141 ki_0 rfl ?_
          refine r_bipush (v := 16) (pc1 := 144) dX0_solve_142 kb_16 rfl ?_
          refine r_callSNp (pc1 := 147) lkX0_74 (c_X11_slotOf _ _ _ _) rfl rfl ⟨Nat.le_of_ble_eq_true rfl, Nat.le_of_ble_eq_true rfl⟩ (Nat.le_of_ble_eq_true rfl) dX0_solve_144 rfl (fun v27 => ?_)
          refine r_istore (pc1 := 149) dX0_solve_147 (by decide) rfl rfl rfl ?_
          refine r_aload_n (pc1 := 150) (i := 0) dX0_solve_149 rfl rfl rfl ?_
          refine r_getR (pc1 := 153) w_46 gfX0_13 rfl dX0_solve_150 rfl ?_
          refine r_iload (pc1 := 155) dX0_solve_153 rfl rfl ?_
          refine r_lald (pc1 := 156) w_47 dX0_solve_155 rfl ?_
          refine r_iconst (v := 1) (pc1 := 157) dX0_solve_156 ki_1 rfl ?_
          refine r_bipush (v := 16) (pc1 := 159) dX0_solve_157 kb_16 rfl ?_
          refine r_callSNp (pc1 := 162) lkX0_74 (c_X11_slotOf _ _ _ _) rfl rfl ⟨Nat.le_of_ble_eq_true rfl, Nat.le_of_ble_eq_true rfl⟩ (Nat.le_of_ble_eq_true rfl) dX0_solve_159 rfl (fun v28 => ?_)
          refine r_istore (pc1 := 164) dX0_solve_162 (by decide) rfl rfl rfl ?_
          refine r_aload_n (pc1 := 165) (i := 0) dX0_solve_164 rfl rfl rfl ?_
          refine r_getR (pc1 := 168) w_46 gfX0_29 rfl dX0_solve_165 rfl ?_
          refine r_iload (pc1 := 170) dX0_solve_168 rfl rfl ?_
          refine r_aload_n (pc1 := 171) (i := 0) dX0_solve_170 rfl rfl rfl ?_
          refine r_getR (pc1 := 174) w_46 gfX0_33 rfl dX0_solve_171 rfl ?_
          refine r_iload (pc1 := 176) dX0_solve_174 rfl rfl ?_
          refine r_callVp (pc1 := 179) (rv_of w_35 cl_2) lkX0_78 (c_X2_onTurn _ _) rfl rfl ⟨Nat.le_of_ble_eq_true rfl, Nat.le_of_ble_eq_true rfl⟩ (Nat.le_of_ble_eq_true rfl) dX0_solve_176 rfl (fun v29 => ?_)
          refine r_callVi (pc1 := 182) (rv_of w_27 cl_10) lkX0_83 (c_X10_mayOf _ _ _) rfl rfl ⟨Nat.le_of_ble_eq_true rfl, Nat.le_of_ble_eq_true rfl⟩ (Nat.le_of_ble_eq_true rfl) dX0_solve_179 rfl (fun v30 s31 => ?_)
          refine r_istore (pc1 := 184) dX0_solve_182 (by decide) rfl rfl rfl ?_
          refine r_aload_n (pc1 := 185) (i := 0) dX0_solve_184 rfl rfl rfl ?_
          refine r_getR (pc1 := 188) w_46 gfX0_33 rfl dX0_solve_185 rfl ?_
          refine r_iload (pc1 := 190) dX0_solve_188 rfl rfl ?_
          refine r_callVp (pc1 := 193) (rv_of w_35 cl_2) lkX0_89 (c_X2_placeAfter _ _) rfl rfl ⟨Nat.le_of_ble_eq_true rfl, Nat.le_of_ble_eq_true rfl⟩ (Nat.le_of_ble_eq_true rfl) dX0_solve_190 rfl (fun v32 => ?_)
          refine r_istore (pc1 := 195) dX0_solve_193 (by decide) rfl rfl rfl ?_
          refine r_aload_n (pc1 := 196) (i := 0) dX0_solve_195 rfl rfl rfl ?_
          refine r_iload (pc1 := 198) dX0_solve_196 rfl rfl ?_
          refine r_iload (pc1 := 200) dX0_solve_198 rfl rfl ?_
          refine r_bipush (v := 8) (pc1 := 202) dX0_solve_200 kb_8 rfl ?_
          refine r_iload (pc1 := 204) dX0_solve_202 rfl rfl ?_
          refine r_callVv (pc1 := 207) (rv_of w_46 cl_0) lkX0_70 (c_X0_comeTo _ _ _ _ _) rfl rfl ⟨Nat.le_of_ble_eq_true rfl, Nat.le_of_ble_eq_true rfl⟩ (Nat.le_of_ble_eq_true rfl) dX0_solve_204 rfl (fun v33 s34 => ?_)
          refine r_iconst (v := 0) (pc1 := 208) dX0_solve_207 ki_0 rfl ?_
          refine r_istore (pc1 := 210) dX0_solve_208 (by decide) rfl rfl rfl ?_
          refine r_jn (hyp := fun (k36 : SS → Res) => ∀ (s35 : SS), RC l wF RX0 cX0_solve 10 none 6 255 [.ref 46, .ref 52, .null, .null, .int v21, .null, .null, .null, .null, .null] [] s35 (k36 s35)) (fun s35 => ?_) (fun k36 hk36 => ?_)
          · refine r_iinc (pc1 := 258) dX0_solve_255 rfl (kn_1 _) (by decide) rfl rfl rfl ?_
            refine r_goto (tgt := 110) dX0_solve_258 (by decide) ?_
            exact r_wk (ih (v21 + 1) s35) ⟨Or.inr rfl, Or.inr rfl, Or.inl rfl, Or.inl rfl, Or.inr rfl, Or.inl rfl, Or.inl rfl, Or.inl rfl, Or.inl rfl, Or.inl rfl, trivial⟩
          · exact r_wk (t_lp_X0_solve_210 v21 v27 v30 v32 k36 hk36 FU 0 s34) ⟨Or.inr rfl, Or.inr rfl, Or.inl rfl, Or.inl rfl, Or.inr rfl, Or.inr rfl, Or.inl rfl, Or.inr rfl, Or.inr rfl, Or.inr rfl, trivial⟩
set_option maxRecDepth 100000 in
set_option maxHeartbeats 4000000 in
theorem c_X0_solve {l : Launch} (a1 : Int32) (s0 : SS) : Ct l wF yX0_solve cX0_solve 10 none 6 [.ref 46, .ref 52, .int a1] s0 (f_X0_solve a1 s0) := by
  refine ct_of (y := yX0_solve) plX0 (Nat.le_of_ble_eq_true rfl) ?_
  refine r_pad0 7 (L1 := [.ref 46, .ref 52, .int a1, .null, .null, .null, .null, .null, .null, .null]) rfl ?_
  unfold f_X0_solve
  refine r_aload_n (pc1 := 1) (i := 0) dX0_solve_0 rfl rfl rfl ?_
  refine r_getI (pc1 := 4) w_46 gfX0_21 rfl dX0_solve_1 rfl ?_
  refine r_iload_n (pc1 := 5) (i := 2) dX0_solve_4 rfl rfl rfl ?_
  refine r_jn (hyp := fun (k1 : Res) => RC l wF RX0 cX0_solve 10 none 6 31 [.ref 46, .ref 52, .int a1, .null, .null, .null, .null, .null, .null, .null] [] s0 k1) (?_) (fun k1 hk1 => ?_)
  · refine r_aload_n (pc1 := 32) (i := 0) dX0_solve_31 rfl rfl rfl ?_
    refine r_iload_n (pc1 := 33) (i := 2) dX0_solve_32 rfl rfl rfl ?_
    refine r_putI (pc1 := 36) w_46 pfX0_21 rfl ⟨rfl, rfl⟩ dX0_solve_33 rfl ?_
    refine r_lts (fun s2 => ?_)
    refine r_aload_n (pc1 := 37) (i := 0) dX0_solve_36 rfl rfl rfl ?_
    refine r_aload_n (pc1 := 38) (i := 1) dX0_solve_37 rfl rfl rfl ?_
    refine r_getI (pc1 := 41) w_52 gfX0_40 rfl dX0_solve_38 rfl ?_
    refine r_putI (pc1 := 44) w_46 pfX0_37 rfl ⟨rfl, rfl⟩ dX0_solve_41 rfl ?_
    refine r_lts (fun s3 => ?_)
    refine r_aload_n (pc1 := 45) (i := 0) dX0_solve_44 rfl rfl rfl ?_
    refine r_aload_n (pc1 := 46) (i := 1) dX0_solve_45 rfl rfl rfl ?_
    refine r_getI (pc1 := 49) w_52 gfX0_48 rfl dX0_solve_46 rfl ?_
    refine r_putI (pc1 := 52) w_46 pfX0_45 rfl ⟨rfl, rfl⟩ dX0_solve_49 rfl ?_
    refine r_lts (fun s4 => ?_)
    refine r_aload_n (pc1 := 53) (i := 0) dX0_solve_52 rfl rfl rfl ?_
    refine r_getR (pc1 := 56) w_46 gfX0_25 rfl dX0_solve_53 rfl ?_
    refine r_aload_n (pc1 := 57) (i := 1) dX0_solve_56 rfl rfl rfl ?_
    refine r_getI (pc1 := 60) w_52 gfX0_40 rfl dX0_solve_57 rfl ?_
    refine r_callVp (pc1 := 63) (rv_of w_3 cl_6) lkX0_51 (c_X6_lengthOf w_3 w_4 w_8 _ _) rfl rfl ⟨Nat.le_of_ble_eq_true rfl, Nat.le_of_ble_eq_true rfl⟩ (Nat.le_of_ble_eq_true rfl) dX0_solve_60 rfl (fun v5 => ?_)
    refine r_istore_n (pc1 := 64) (i := 3) dX0_solve_63 rfl (by decide) rfl rfl rfl ?_
    refine r_aload_n (pc1 := 65) (i := 0) dX0_solve_64 rfl rfl rfl ?_
    refine r_getR (pc1 := 68) w_46 gfX0_17 rfl dX0_solve_65 rfl ?_
    refine r_iload_n (pc1 := 69) (i := 3) dX0_solve_68 rfl rfl rfl ?_
    refine r_callSp (pc1 := 72) lkX0_55 (c_X6_bareOf w_3 w_4 w_8 _ _) rfl rfl ⟨Nat.le_of_ble_eq_true rfl, Nat.le_of_ble_eq_true rfl⟩ (Nat.le_of_ble_eq_true rfl) dX0_solve_69 rfl (fun v6 => ?_)
    refine r_iload_n (pc1 := 73) (i := 3) dX0_solve_72 rfl rfl rfl ?_
    refine r_iconst (v := 1) (pc1 := 74) dX0_solve_73 ki_1 rfl ?_
    refine r_iadd (pc1 := 75) dX0_solve_74 rfl ?_
    refine r_callSp (pc1 := 78) lkX0_55 (c_X6_bareOf w_3 w_4 w_8 _ _) rfl rfl ⟨Nat.le_of_ble_eq_true rfl, Nat.le_of_ble_eq_true rfl⟩ (Nat.le_of_ble_eq_true rfl) dX0_solve_75 rfl (fun v7 => ?_)
    refine r_iconst (v := 0) (pc1 := 79) dX0_solve_78 ki_0 rfl ?_
    refine r_callSv (pc1 := 82) lkX0_58 (c_J7_fill_fda19 _ _ _ _) rfl rfl ⟨Nat.le_of_ble_eq_true rfl, Nat.le_of_ble_eq_true rfl⟩ (Nat.le_of_ble_eq_true rfl) dX0_solve_79 rfl (fun v8 s9 => ?_)
    refine r_aload_n (pc1 := 83) (i := 0) dX0_solve_82 rfl rfl rfl ?_
    refine r_iconst (v := 0) (pc1 := 84) dX0_solve_83 ki_0 rfl ?_
    refine r_putI (pc1 := 87) w_46 pfX0_64 rfl ⟨rfl, rfl⟩ dX0_solve_84 rfl ?_
    refine r_lts (fun s10 => ?_)
    refine r_aload_n (pc1 := 88) (i := 0) dX0_solve_87 rfl rfl rfl ?_
    refine r_iconst (v := (-1)) (pc1 := 89) dX0_solve_88 ki_m1 rfl ?_
    refine r_putI (pc1 := 92) w_46 pfX0_67 rfl ⟨rfl, rfl⟩ dX0_solve_89 rfl ?_
    refine r_lts (fun s11 => ?_)
    refine r_aload_n (pc1 := 93) (i := 0) dX0_solve_92 rfl rfl rfl ?_
    refine r_aload_n (pc1 := 94) (i := 1) dX0_solve_93 rfl rfl rfl ?_
    refine r_getI (pc1 := 97) w_52 gfX0_40 rfl dX0_solve_94 rfl ?_
    refine r_aload_n (pc1 := 98) (i := 1) dX0_solve_97 rfl rfl rfl ?_
    refine r_getI (pc1 := 101) w_52 gfX0_48 rfl dX0_solve_98 rfl ?_
    refine r_bipush (v := 8) (pc1 := 103) dX0_solve_101 kb_8 rfl ?_
    refine r_iconst (v := 0) (pc1 := 104) dX0_solve_103 ki_0 rfl ?_
    refine r_callVv (pc1 := 107) (rv_of w_46 cl_0) lkX0_70 (c_X0_comeTo _ _ _ _ _) rfl rfl ⟨Nat.le_of_ble_eq_true rfl, Nat.le_of_ble_eq_true rfl⟩ (Nat.le_of_ble_eq_true rfl) dX0_solve_104 rfl (fun v12 s13 => ?_)
    refine r_iconst (v := 0) (pc1 := 108) dX0_solve_107 ki_0 rfl ?_
    refine r_istore (pc1 := 110) dX0_solve_108 (by decide) rfl rfl rfl ?_
    refine r_jn (hyp := fun (k15 : SS → Res) => ∀ (s14 : SS), RC l wF RX0 cX0_solve 10 none 6 261 [.ref 46, .ref 52, .null, .null, .null, .null, .null, .null, .null, .null] [] s14 (k15 s14)) (fun s14 => ?_) (fun k15 hk15 => ?_)
    · refine r_aload_n (pc1 := 262) (i := 0) dX0_solve_261 rfl rfl rfl ?_
      refine r_aload_n (pc1 := 263) (i := 0) dX0_solve_262 rfl rfl rfl ?_
      refine r_getI (pc1 := 266) w_46 gfX0_67 rfl dX0_solve_263 rfl ?_
      refine r_jn (hyp := fun (k17 : Int32 → Res) => ∀ (v16 : Int32), RC l wF RX0 cX0_solve 10 none 6 281 [.ref 46, .ref 52, .null, .null, .null, .null, .null, .null, .null, .null] [.int v16, .ref 46] s14 (k17 v16)) (fun v16 => ?_) (fun k17 hk17 => ?_)
      · refine r_putI (pc1 := 284) w_46 pfX0_98 rfl ⟨rfl, rfl⟩ dX0_solve_281 rfl ?_
        refine r_lts (fun s18 => ?_)
        exact r_vret rfl dX0_solve_284
      · refine r_if_ge (tgt := 273) (pc1 := 269) dX0_solve_266 (by decide) rfl (fun q19 => ?_) (fun q19 => ?_)
        · refine r_aload_n (pc1 := 274) (i := 0) dX0_solve_273 rfl rfl rfl ?_
          refine r_aload_n (pc1 := 275) (i := 0) dX0_solve_274 rfl rfl rfl ?_
          refine r_getI (pc1 := 278) w_46 gfX0_67 rfl dX0_solve_275 rfl ?_
          refine r_callVp (pc1 := 281) (rv_of w_46 cl_0) lkX0_95 (c_X0_daysTo _ _) rfl rfl ⟨Nat.le_of_ble_eq_true rfl, Nat.le_of_ble_eq_true rfl⟩ (Nat.le_of_ble_eq_true rfl) dX0_solve_278 rfl (fun v20 => ?_)
          exact r_wk (hk17 v20) ⟨Or.inr rfl, Or.inr rfl, Or.inl rfl, Or.inl rfl, Or.inl rfl, Or.inl rfl, Or.inl rfl, Or.inl rfl, Or.inl rfl, Or.inl rfl, trivial⟩
        · refine r_iconst (v := (-1)) (pc1 := 270) dX0_solve_269 ki_m1 rfl ?_
          refine r_goto (tgt := 281) dX0_solve_270 (by decide) ?_
          exact r_wk (hk17 ((-1))) ⟨Or.inr rfl, Or.inr rfl, Or.inl rfl, Or.inl rfl, Or.inl rfl, Or.inl rfl, Or.inl rfl, Or.inl rfl, Or.inl rfl, Or.inl rfl, trivial⟩
    · exact r_wk (t_lp_X0_solve_110 k15 hk15 FU 0 s13) ⟨Or.inr rfl, Or.inr rfl, Or.inl rfl, Or.inl rfl, Or.inr rfl, Or.inl rfl, Or.inl rfl, Or.inl rfl, Or.inl rfl, Or.inl rfl, trivial⟩
  · refine r_icmp_ne (tgt := 31) (pc1 := 8) dX0_solve_5 (by decide) rfl (fun q47 => ?_) (fun q47 => ?_)
    · refine r_aload_n (pc1 := 9) (i := 0) dX0_solve_8 rfl rfl rfl ?_
      refine r_getI (pc1 := 12) w_46 gfX0_37 rfl dX0_solve_9 rfl ?_
      refine r_aload_n (pc1 := 13) (i := 1) dX0_solve_12 rfl rfl rfl ?_
      refine r_getI (pc1 := 16) w_52 gfX0_40 rfl dX0_solve_13 rfl ?_
      refine r_icmp_ne (tgt := 31) (pc1 := 19) dX0_solve_16 (by decide) rfl (fun q48 => ?_) (fun q48 => ?_)
      · refine r_aload_n (pc1 := 20) (i := 0) dX0_solve_19 rfl rfl rfl ?_
        refine r_getI (pc1 := 23) w_46 gfX0_45 rfl dX0_solve_20 rfl ?_
        refine r_aload_n (pc1 := 24) (i := 1) dX0_solve_23 rfl rfl rfl ?_
        refine r_getI (pc1 := 27) w_52 gfX0_48 rfl dX0_solve_24 rfl ?_
        refine r_icmp_ne (tgt := 31) (pc1 := 30) dX0_solve_27 (by decide) rfl (fun q49 => ?_) (fun q49 => ?_)
        · exact r_vret rfl dX0_solve_30
        · exact r_wk (hk1) ⟨Or.inr rfl, Or.inr rfl, Or.inr rfl, Or.inl rfl, Or.inl rfl, Or.inl rfl, Or.inl rfl, Or.inl rfl, Or.inl rfl, Or.inl rfl, trivial⟩
      · exact r_wk (hk1) ⟨Or.inr rfl, Or.inr rfl, Or.inr rfl, Or.inl rfl, Or.inl rfl, Or.inl rfl, Or.inl rfl, Or.inl rfl, Or.inl rfl, Or.inl rfl, trivial⟩
    · exact r_wk (hk1) ⟨Or.inr rfl, Or.inr rfl, Or.inr rfl, Or.inl rfl, Or.inl rfl, Or.inl rfl, Or.inl rfl, Or.inl rfl, Or.inl rfl, Or.inl rfl, trivial⟩
/-! f_X0_madeOn -/
noncomputable def lp_X0_madeOn_26 (a1 : Int32) (s0 : SS) (k6 : Int32 → Option Int32) : Nat → Int32 → Int32 → Option Int32
  | 0, _, _ => none
  | n12 + 1, v10, v11 => if (v11 : Int32) ≤ (a1 : Int32) then k6 v10 else if (v10 : Int32) < 0 then k6 v10 else if (21392 : Int32) ≤ (v10 : Int32) then k6 v10 else gd (inb v10 21392) (bdp (f_X11_slotOf (lgt (s0 47) (Int32.toNatClampNeg v10)) 3 16 s0) (fun (v16 : Int32) => lp_X0_madeOn_26 a1 s0 k6 n12 v16 (v11 + (-1))))
noncomputable def f_X0_madeOn (a1 : Int32) (s0 : SS) : Option Int32 := if (a1 : Int32) < 0 then some ((-1)) else if (a1 : Int32) < (s0 46 7 : Int32) then lt (s0 46 6) (fun (v3 : Int32) => lt ((s0 46 7) - 1) (fun (v4 : Int32) => jn (fun (v5 : Int32) => if (v5 : Int32) < 0 then some ((-1)) else if (21392 : Int32) ≤ (v5 : Int32) then some ((-1)) else gd (inb v5 21392) (bdp (f_X11_slotOf (lgt (s0 47) (Int32.toNatClampNeg v5)) 2 16 s0) (fun (v9 : Int32) => some v9))) (fun (k6 : Int32 → Option Int32) => lp_X0_madeOn_26 a1 s0 k6 FU v3 v4))) else some ((-1))
set_option maxRecDepth 100000 in
set_option maxHeartbeats 4000000 in
theorem t_lp_X0_madeOn_26 {l : Launch} (a1 : Int32) (s0 : SS) (k6 : Int32 → Option Int32) (hk6 : ∀ (v5 : Int32), RC l wF RX0 cX0_madeOn 4 (some .int) 1 61 [.ref 46, .null, .int v5, .null] [] s0 (pu (k6 v5) s0)) : ∀ (n12 : Nat) (v10 : Int32) (v11 : Int32), RC l wF RX0 cX0_madeOn 4 (some .int) 1 26 [.ref 46, .int a1, .int v10, .int v11] [] s0 (pu (lp_X0_madeOn_26 a1 s0 k6 n12 v10 v11) s0) := by
  intro n12
  induction n12 with
  | zero =>
    intro v10 v11
    rw [lp_X0_madeOn_26]
    exact p_none
  | succ n12 ih =>
    intro v10 v11
    rw [lp_X0_madeOn_26]
    refine r_iload_n (pc1 := 27) (i := 3) dX0_madeOn_26 rfl rfl rfl ?_
    refine r_iload_n (pc1 := 28) (i := 1) dX0_madeOn_27 rfl rfl rfl ?_
    refine p_icmp_le (tgt := 61) (pc1 := 31) dX0_madeOn_28 (by decide) rfl (fun q13 => ?_) (fun q13 => ?_)
    · exact r_wk (hk6 v10) ⟨Or.inr rfl, Or.inl rfl, Or.inr rfl, Or.inl rfl, trivial⟩
    · refine r_iload_n (pc1 := 32) (i := 2) dX0_madeOn_31 rfl rfl rfl ?_
      refine p_if_lt (tgt := 61) (pc1 := 35) dX0_madeOn_32 (by decide) rfl (fun q14 => ?_) (fun q14 => ?_)
      · exact r_wk (hk6 v10) ⟨Or.inr rfl, Or.inl rfl, Or.inr rfl, Or.inl rfl, trivial⟩
      · refine r_iload_n (pc1 := 36) (i := 2) dX0_madeOn_35 rfl rfl rfl ?_
        refine r_sipush (v := 21392) (pc1 := 39) dX0_madeOn_36 ks_21392 rfl ?_
        refine p_icmp_ge (tgt := 61) (pc1 := 42) dX0_madeOn_39 (by decide) rfl (fun q15 => ?_) (fun q15 => ?_)
        · exact r_wk (hk6 v10) ⟨Or.inr rfl, Or.inl rfl, Or.inr rfl, Or.inl rfl, trivial⟩
        · refine r_aload_n (pc1 := 43) (i := 0) dX0_madeOn_42 rfl rfl rfl ?_
          refine r_getR (pc1 := 46) w_46 gfX0_13 rfl dX0_madeOn_43 rfl ?_
          refine r_iload_n (pc1 := 47) (i := 2) dX0_madeOn_46 rfl rfl rfl ?_
          refine p_lald (pc1 := 48) w_47 dX0_madeOn_47 rfl ?_
          refine r_iconst (v := 3) (pc1 := 49) dX0_madeOn_48 ki_3 rfl ?_
          refine r_bipush (v := 16) (pc1 := 51) dX0_madeOn_49 kb_16 rfl ?_
          refine p_callSNp (pc1 := 54) lkX0_74 (c_X11_slotOf _ _ _ _) rfl rfl ⟨Nat.le_of_ble_eq_true rfl, Nat.le_of_ble_eq_true rfl⟩ (Nat.le_of_ble_eq_true rfl) dX0_madeOn_51 rfl (fun v16 => ?_)
          refine r_istore_n (pc1 := 55) (i := 2) dX0_madeOn_54 rfl (by decide) rfl rfl rfl ?_
          refine r_iinc (pc1 := 58) dX0_madeOn_55 rfl (kn_m1 _) (by decide) rfl rfl rfl ?_
          refine r_goto (tgt := 26) dX0_madeOn_58 (by decide) ?_
          exact r_wk (ih v16 (v11 + (-1))) ⟨Or.inr rfl, Or.inr rfl, Or.inr rfl, Or.inr rfl, trivial⟩
set_option maxRecDepth 100000 in
set_option maxHeartbeats 4000000 in
theorem c_X0_madeOn {l : Launch} (a1 : Int32) (s0 : SS) : Ct l wF yX0_madeOn cX0_madeOn 4 (some .int) 1 [.ref 46, .int a1] s0 (pu (f_X0_madeOn a1 s0) s0) := by
  refine ct_of (y := yX0_madeOn) plX0 (Nat.le_of_ble_eq_true rfl) ?_
  refine r_pad0 2 (L1 := [.ref 46, .int a1, .null, .null]) rfl ?_
  unfold f_X0_madeOn
  refine r_iload_n (pc1 := 1) (i := 1) dX0_madeOn_0 rfl rfl rfl ?_
  refine p_if_lt (tgt := 12) (pc1 := 4) dX0_madeOn_1 (by decide) rfl (fun q1 => ?_) (fun q1 => ?_)
  · refine r_iconst (v := (-1)) (pc1 := 13) dX0_madeOn_12 ki_m1 rfl ?_
    exact p_iret rfl rfl dX0_madeOn_13
  · refine r_iload_n (pc1 := 5) (i := 1) dX0_madeOn_4 rfl rfl rfl ?_
    refine r_aload_n (pc1 := 6) (i := 0) dX0_madeOn_5 rfl rfl rfl ?_
    refine r_getI (pc1 := 9) w_46 gfX0_98 rfl dX0_madeOn_6 rfl ?_
    refine p_icmp_lt (tgt := 14) (pc1 := 12) dX0_madeOn_9 (by decide) rfl (fun q2 => ?_) (fun q2 => ?_)
    · refine r_aload_n (pc1 := 15) (i := 0) dX0_madeOn_14 rfl rfl rfl ?_
      refine r_getI (pc1 := 18) w_46 gfX0_67 rfl dX0_madeOn_15 rfl ?_
      refine p_lt (fun v3 => ?_)
      refine r_istore_n (pc1 := 19) (i := 2) dX0_madeOn_18 rfl (by decide) rfl rfl rfl ?_
      refine r_aload_n (pc1 := 20) (i := 0) dX0_madeOn_19 rfl rfl rfl ?_
      refine r_getI (pc1 := 23) w_46 gfX0_98 rfl dX0_madeOn_20 rfl ?_
      refine r_iconst (v := 1) (pc1 := 24) dX0_madeOn_23 ki_1 rfl ?_
      refine r_isub (pc1 := 25) dX0_madeOn_24 rfl ?_
      refine p_lt (fun v4 => ?_)
      refine r_istore_n (pc1 := 26) (i := 3) dX0_madeOn_25 rfl (by decide) rfl rfl rfl ?_
      refine p_jn (hyp := fun (k6 : Int32 → Option Int32) => ∀ (v5 : Int32), RC l wF RX0 cX0_madeOn 4 (some .int) 1 61 [.ref 46, .null, .int v5, .null] [] s0 (pu (k6 v5) s0)) (fun v5 => ?_) (fun k6 hk6 => ?_)
      · refine r_iload_n (pc1 := 62) (i := 2) dX0_madeOn_61 rfl rfl rfl ?_
        refine p_if_lt (tgt := 87) (pc1 := 65) dX0_madeOn_62 (by decide) rfl (fun q7 => ?_) (fun q7 => ?_)
        · refine r_iconst (v := (-1)) (pc1 := 88) dX0_madeOn_87 ki_m1 rfl ?_
          exact p_iret rfl rfl dX0_madeOn_88
        · refine r_iload_n (pc1 := 66) (i := 2) dX0_madeOn_65 rfl rfl rfl ?_
          refine r_sipush (v := 21392) (pc1 := 69) dX0_madeOn_66 ks_21392 rfl ?_
          refine p_icmp_ge (tgt := 87) (pc1 := 72) dX0_madeOn_69 (by decide) rfl (fun q8 => ?_) (fun q8 => ?_)
          · refine r_iconst (v := (-1)) (pc1 := 88) dX0_madeOn_87 ki_m1 rfl ?_
            exact p_iret rfl rfl dX0_madeOn_88
          · refine r_aload_n (pc1 := 73) (i := 0) dX0_madeOn_72 rfl rfl rfl ?_
            refine r_getR (pc1 := 76) w_46 gfX0_13 rfl dX0_madeOn_73 rfl ?_
            refine r_iload_n (pc1 := 77) (i := 2) dX0_madeOn_76 rfl rfl rfl ?_
            refine p_lald (pc1 := 78) w_47 dX0_madeOn_77 rfl ?_
            refine r_iconst (v := 2) (pc1 := 79) dX0_madeOn_78 ki_2 rfl ?_
            refine r_bipush (v := 16) (pc1 := 81) dX0_madeOn_79 kb_16 rfl ?_
            refine p_callSNp (pc1 := 84) lkX0_74 (c_X11_slotOf _ _ _ _) rfl rfl ⟨Nat.le_of_ble_eq_true rfl, Nat.le_of_ble_eq_true rfl⟩ (Nat.le_of_ble_eq_true rfl) dX0_madeOn_81 rfl (fun v9 => ?_)
            refine r_goto (tgt := 88) dX0_madeOn_84 (by decide) ?_
            exact p_iret rfl rfl dX0_madeOn_88
      · exact r_wk (t_lp_X0_madeOn_26 a1 s0 k6 hk6 FU v3 v4) ⟨Or.inr rfl, Or.inr rfl, Or.inr rfl, Or.inr rfl, trivial⟩
    · refine r_iconst (v := (-1)) (pc1 := 13) dX0_madeOn_12 ki_m1 rfl ?_
      exact p_iret rfl rfl dX0_madeOn_13
/-! f_X11_soon -/
noncomputable def f_X11_soon (a1 : Int32) (s0 : SS) : Res := if ((-1) : Int32) ≤ (a1 : Int32) then bd (f_X0_solve (s0 0 15) s0) (fun (v2 : Int32) (s3 : SS) => if (0 : Int32) ≤ (s3 46 7) then if (a1 : Int32) = ((-1) : Int32) then some (s3 46 7, s3) else bdp (f_X0_madeOn a1 s3) (fun (v6 : Int32) => some (v6, s3)) else some ((-2), s3)) else some ((-1), s0)
set_option maxRecDepth 100000 in
set_option maxHeartbeats 4000000 in
theorem c_X11_soon {l : Launch} (a1 : Int32) (s0 : SS) : Ct l wF yX11_soon cX11_soon 2 (some .int) 7 [.ref 0, .int a1] s0 (f_X11_soon a1 s0) := by
  refine ct_of (y := yX11_soon) plX11 (Nat.le_of_ble_eq_true rfl) ?_
  refine r_pad0 0 (L1 := [.ref 0, .int a1]) rfl ?_
  unfold f_X11_soon
  refine r_iload_n (pc1 := 1) (i := 1) dX11_soon_0 rfl rfl rfl ?_
  refine r_iconst (v := (-1)) (pc1 := 2) dX11_soon_1 ki_m1 rfl ?_
  refine r_icmp_ge (tgt := 7) (pc1 := 5) dX11_soon_2 (by decide) rfl (fun q1 => ?_) (fun q1 => ?_)
  · refine r_aload_n (pc1 := 8) (i := 0) dX11_soon_7 rfl rfl rfl ?_
    refine r_getR (pc1 := 11) w_0 gfX11_74 rfl dX11_soon_8 rfl ?_
    refine r_aload_n (pc1 := 12) (i := 0) dX11_soon_11 rfl rfl rfl ?_
    refine r_getR (pc1 := 15) w_0 gfX11_88 rfl dX11_soon_12 rfl ?_
    refine r_aload_n (pc1 := 16) (i := 0) dX11_soon_15 rfl rfl rfl ?_
    refine r_getI (pc1 := 19) w_0 gfX11_110 rfl dX11_soon_16 rfl ?_
    refine r_callVv (pc1 := 22) (rv_of w_46 cl_0) lkX11_269 (c_X0_solve _ _) rfl rfl ⟨Nat.le_of_ble_eq_true rfl, Nat.le_of_ble_eq_true rfl⟩ (Nat.le_of_ble_eq_true rfl) dX11_soon_19 rfl (fun v2 s3 => ?_)
    refine r_aload_n (pc1 := 23) (i := 0) dX11_soon_22 rfl rfl rfl ?_
    refine r_getR (pc1 := 26) w_0 gfX11_74 rfl dX11_soon_23 rfl ?_
    refine r_getI (pc1 := 29) w_46 gfX11_272 rfl dX11_soon_26 rfl ?_
    refine r_if_ge (tgt := 35) (pc1 := 32) dX11_soon_29 (by decide) rfl (fun q4 => ?_) (fun q4 => ?_)
    · refine r_iload_n (pc1 := 36) (i := 1) dX11_soon_35 rfl rfl rfl ?_
      refine r_iconst (v := (-1)) (pc1 := 37) dX11_soon_36 ki_m1 rfl ?_
      refine r_icmp_ne (tgt := 50) (pc1 := 40) dX11_soon_37 (by decide) rfl (fun q5 => ?_) (fun q5 => ?_)
      · refine r_aload_n (pc1 := 41) (i := 0) dX11_soon_40 rfl rfl rfl ?_
        refine r_getR (pc1 := 44) w_0 gfX11_74 rfl dX11_soon_41 rfl ?_
        refine r_getI (pc1 := 47) w_46 gfX11_272 rfl dX11_soon_44 rfl ?_
        refine r_goto (tgt := 58) dX11_soon_47 (by decide) ?_
        exact r_iret rfl rfl dX11_soon_58
      · refine r_aload_n (pc1 := 51) (i := 0) dX11_soon_50 rfl rfl rfl ?_
        refine r_getR (pc1 := 54) w_0 gfX11_74 rfl dX11_soon_51 rfl ?_
        refine r_iload_n (pc1 := 55) (i := 1) dX11_soon_54 rfl rfl rfl ?_
        refine r_callVp (pc1 := 58) (rv_of w_46 cl_0) lkX11_273 (c_X0_madeOn _ _) rfl rfl ⟨Nat.le_of_ble_eq_true rfl, Nat.le_of_ble_eq_true rfl⟩ (Nat.le_of_ble_eq_true rfl) dX11_soon_55 rfl (fun v6 => ?_)
        exact r_iret rfl rfl dX11_soon_58
    · refine r_bipush (v := (-2)) (pc1 := 34) dX11_soon_32 kb_m2 rfl ?_
      exact r_iret rfl rfl dX11_soon_34
  · refine r_iconst (v := (-1)) (pc1 := 6) dX11_soon_5 ki_m1 rfl ?_
    exact r_iret rfl rfl dX11_soon_6
/-! f_J7_fill_bad5a_51 -/
noncomputable def lp_J7_fill_bad5a_51_10 (a2 : Int32) (a3 : Int64) : Nat → Int32 → SS → Res
  | 0, _, _ => none
  | n5 + 1, v3, s4 => if (a2 : Int32) ≤ (v3 : Int32) then some (0, s4) else gd (inb v3 5348) (lts (upl s4 51 (Int32.toNatClampNeg v3) a3) (fun (s7 : SS) => lp_J7_fill_bad5a_51_10 a2 a3 n5 (v3 + 1) s7))
noncomputable def f_J7_fill_bad5a_51 (a1 : Int32) (a2 : Int32) (a3 : Int64) (s0 : SS) : Res := bd (f_J7_rangeCheck_23922 5348 a1 a2 s0) (fun (v1 : Int32) (s2 : SS) => lp_J7_fill_bad5a_51_10 a2 a3 FU a1 s2)
set_option maxRecDepth 100000 in
set_option maxHeartbeats 4000000 in
theorem t_lp_J7_fill_bad5a_51_10 {l : Launch} (a2 : Int32) (a3 : Int64)  : ∀ (n5 : Nat) (v3 : Int32) (s4 : SS), RC l wF RJ7 cJ7_fill_bad5a 6 none 1 10 [.ref 51, .null, .int a2, .long a3, .null, .int v3] [] s4 (lp_J7_fill_bad5a_51_10 a2 a3 n5 v3 s4) := by
  intro n5
  induction n5 with
  | zero =>
    intro v3 s4
    rw [lp_J7_fill_bad5a_51_10]
    exact r_none
  | succ n5 ih =>
    intro v3 s4
    rw [lp_J7_fill_bad5a_51_10]
    refine r_iload (pc1 := 12) dJ7_fill_bad5a_10 rfl rfl ?_
    refine r_iload_n (pc1 := 13) (i := 2) dJ7_fill_bad5a_12 rfl rfl rfl ?_
    refine r_icmp_ge (tgt := 27) (pc1 := 16) dJ7_fill_bad5a_13 (by decide) rfl (fun q6 => ?_) (fun q6 => ?_)
    · exact r_vret rfl dJ7_fill_bad5a_27
    · refine r_aload_n (pc1 := 17) (i := 0) dJ7_fill_bad5a_16 rfl rfl rfl ?_
      refine r_iload (pc1 := 19) dJ7_fill_bad5a_17 rfl rfl ?_
      refine r_lload_n (pc1 := 20) (i := 3) dJ7_fill_bad5a_19 rfl rfl rfl ?_
      refine r_last (pc1 := 21) w_51 dJ7_fill_bad5a_20 rfl ?_
      refine r_lts (fun s7 => ?_)
      refine r_iinc (pc1 := 24) dJ7_fill_bad5a_21 rfl (kn_1 _) (by decide) rfl rfl rfl ?_
      refine r_goto (tgt := 10) dJ7_fill_bad5a_24 (by decide) ?_
      exact r_wk (ih (v3 + 1) s7) ⟨Or.inr rfl, Or.inl rfl, Or.inr rfl, Or.inr rfl, Or.inl rfl, Or.inr rfl, trivial⟩
set_option maxRecDepth 100000 in
set_option maxHeartbeats 4000000 in
theorem c_J7_fill_bad5a_51 {l : Launch} (a1 : Int32) (a2 : Int32) (a3 : Int64) (s0 : SS) : Ct l wF yJ7_fill_bad5a cJ7_fill_bad5a 6 none 1 [.ref 51, .int a1, .int a2, .long a3] s0 (f_J7_fill_bad5a_51 a1 a2 a3 s0) := by
  refine ct_of (y := yJ7_fill_bad5a) plJ7 (Nat.le_of_ble_eq_true rfl) ?_
  refine r_pad0 1 (L1 := [.ref 51, .int a1, .int a2, .long a3, .null, .null]) rfl ?_
  unfold f_J7_fill_bad5a_51
  refine r_aload_n (pc1 := 1) (i := 0) dJ7_fill_bad5a_0 rfl rfl rfl ?_
  refine r_alenL (t := 3) (v := 5348) (pc1 := 2) w_51 (fun _ => rfl) (al_5348) dJ7_fill_bad5a_1 rfl ?_
  refine r_iload_n (pc1 := 3) (i := 1) dJ7_fill_bad5a_2 rfl rfl rfl ?_
  refine r_iload_n (pc1 := 4) (i := 2) dJ7_fill_bad5a_3 rfl rfl rfl ?_
  refine r_callSv (pc1 := 7) lkJ7_13 (c_J7_rangeCheck_23922 _ _ _ _) rfl rfl ⟨Nat.le_of_ble_eq_true rfl, Nat.le_of_ble_eq_true rfl⟩ (Nat.le_of_ble_eq_true rfl) dJ7_fill_bad5a_4 rfl (fun v1 s2 => ?_)
  refine r_iload_n (pc1 := 8) (i := 1) dJ7_fill_bad5a_7 rfl rfl rfl ?_
  refine r_istore (pc1 := 10) dJ7_fill_bad5a_8 (by decide) rfl rfl rfl ?_
  exact r_wk (t_lp_J7_fill_bad5a_51_10 a2 a3 FU a1 s2) ⟨Or.inr rfl, Or.inl rfl, Or.inr rfl, Or.inr rfl, Or.inl rfl, Or.inr rfl, trivial⟩
/-! f_X7_spanBehind -/
noncomputable def f_X7_spanBehind (rf : Int32 → Int32 → Int32 → SS → Res) (a1 : Int32) (a2 : Int32) (a3 : Int32) (s0 : SS) : Res := bdp (f_X6_standingOn a1 s0) (fun (v1 : Int32) => jn (fun (v2 : Int32) => if (v2 : Int32) = 0 then some (0, s0) else bd (rf a1 a2 (a3 - 1) s0) (fun (v5 : Int32) (s6 : SS) => some (1 + v5, s6))) (fun (k3 : Int32 → Res) => if (v1 &&& (s0 50 4) : Int32) = (s0 50 4 : Int32) then k3 1 else k3 0))
set_option maxRecDepth 100000 in
set_option maxHeartbeats 4000000 in
theorem c_X7_spanBehind {l : Launch} {dr : Nat} (hdr : 4 ≤ dr) {rf : Int32 → Int32 → Int32 → SS → Res} (hrf : ∀ (x0 x1 x2 : Int32) (z : SS), Ct l wF yX7_spanFrom cX7_spanFrom 13 (some .int) dr [.ref 50, .int x0, .int x1, .int x2] z (rf x0 x1 x2 z)) (a1 : Int32) (a2 : Int32) (a3 : Int32) (s0 : SS) : Ct l wF yX7_spanBehind cX7_spanBehind 5 (some .int) (dr + 1) [.ref 50, .int a1, .int a2, .int a3] s0 (f_X7_spanBehind rf a1 a2 a3 s0) := by
  refine ct_of (y := yX7_spanBehind) plX7 (Nat.le_of_ble_eq_true rfl) ?_
  refine r_pad0 1 (L1 := [.ref 50, .int a1, .int a2, .int a3, .null]) rfl ?_
  unfold f_X7_spanBehind
  refine r_aload_n (pc1 := 1) (i := 0) dX7_spanBehind_0 rfl rfl rfl ?_
  refine r_getR (pc1 := 4) w_50 gfX7_17 rfl dX7_spanBehind_1 rfl ?_
  refine r_iload_n (pc1 := 5) (i := 1) dX7_spanBehind_4 rfl rfl rfl ?_
  refine r_callVp (pc1 := 8) (rv_of w_3 cl_6) lkX7_101 (c_X6_standingOn w_3 w_4 w_8 _ _) rfl rfl ⟨by omega, Nat.le_of_ble_eq_true rfl⟩ (Nat.le_of_ble_eq_true rfl) dX7_spanBehind_5 rfl (fun v1 => ?_)
  refine r_aload_n (pc1 := 9) (i := 0) dX7_spanBehind_8 rfl rfl rfl ?_
  refine r_getI (pc1 := 12) w_50 gfX7_29 rfl dX7_spanBehind_9 rfl ?_
  refine r_iand (pc1 := 13) dX7_spanBehind_12 rfl ?_
  refine r_aload_n (pc1 := 14) (i := 0) dX7_spanBehind_13 rfl rfl rfl ?_
  refine r_getI (pc1 := 17) w_50 gfX7_29 rfl dX7_spanBehind_14 rfl ?_
  refine r_jn (hyp := fun (k3 : Int32 → Res) => ∀ (v2 : Int32), RC l wF RX7 cX7_spanBehind 5 (some .int) (dr + 1) 25 [.ref 50, .int a1, .int a2, .int a3, .null] [.int v2] s0 (k3 v2)) (fun v2 => ?_) (fun k3 hk3 => ?_)
  · refine r_istore (pc1 := 27) dX7_spanBehind_25 (by decide) rfl rfl rfl ?_
    refine r_iload (pc1 := 29) dX7_spanBehind_27 rfl rfl ?_
    refine r_if_eq (tgt := 46) (pc1 := 32) dX7_spanBehind_29 (by decide) rfl (fun q4 => ?_) (fun q4 => ?_)
    · refine r_iconst (v := 0) (pc1 := 47) dX7_spanBehind_46 ki_0 rfl ?_
      exact r_iret rfl rfl dX7_spanBehind_47
    · refine r_iconst (v := 1) (pc1 := 33) dX7_spanBehind_32 ki_1 rfl ?_
      refine r_aload_n (pc1 := 34) (i := 0) dX7_spanBehind_33 rfl rfl rfl ?_
      refine r_iload_n (pc1 := 35) (i := 1) dX7_spanBehind_34 rfl rfl rfl ?_
      refine r_iload_n (pc1 := 36) (i := 2) dX7_spanBehind_35 rfl rfl rfl ?_
      refine r_iload_n (pc1 := 37) (i := 3) dX7_spanBehind_36 rfl rfl rfl ?_
      refine r_iconst (v := 1) (pc1 := 38) dX7_spanBehind_37 ki_1 rfl ?_
      refine r_isub (pc1 := 39) dX7_spanBehind_38 rfl ?_
      refine r_callVi (pc1 := 42) (rv_of w_50 cl_7) lkX7_57 (hrf _ _ _ _) rfl rfl ⟨by omega, Nat.le_of_ble_eq_true rfl⟩ (Nat.le_of_ble_eq_true rfl) dX7_spanBehind_39 rfl (fun v5 s6 => ?_)
      refine r_iadd (pc1 := 43) dX7_spanBehind_42 rfl ?_
      refine r_goto (tgt := 47) dX7_spanBehind_43 (by decide) ?_
      exact r_iret rfl rfl dX7_spanBehind_47
  · refine r_icmp_ne (tgt := 24) (pc1 := 20) dX7_spanBehind_17 (by decide) rfl (fun q7 => ?_) (fun q7 => ?_)
    · refine r_iconst (v := 1) (pc1 := 21) dX7_spanBehind_20 ki_1 rfl ?_
      refine r_goto (tgt := 25) dX7_spanBehind_21 (by decide) ?_
      exact r_wk (hk3 1) ⟨Or.inr rfl, Or.inr rfl, Or.inr rfl, Or.inr rfl, Or.inl rfl, trivial⟩
    · refine r_iconst (v := 0) (pc1 := 25) dX7_spanBehind_24 ki_0 rfl ?_
      exact r_wk (hk3 0) ⟨Or.inr rfl, Or.inr rfl, Or.inr rfl, Or.inr rfl, Or.inl rfl, trivial⟩
/-! f_X7_spanFrom -/
noncomputable def lp_X7_spanFrom_136 (rf : Int32 → Int32 → Int32 → SS → Res) (a1 : Int32) (a3 : Int32) (v9 : Int32) (v11 : Int32) (v13 : Int32) (v15 : Int32) (k20 : Int32 → SS → Res) : Nat → Int32 → Int32 → SS → Res
  | 0, _, _, _ => none
  | n25 + 1, v22, v23, s24 => if (8 : Int32) ≤ (v23 : Int32) then k20 v22 s24 else if (v22 : Int32) = (v11 : Int32) then k20 v22 s24 else jn (fun (v28 : Int32) (s29 : SS) => lp_X7_spanFrom_136 rf a1 a3 v9 v11 v13 v15 k20 n25 v28 (v23 + 1) s29) (fun (k30 : Int32 → SS → Res) => if ((v13 >>> (v23 &&& 31)) &&& 1 : Int32) = (1 : Int32) then bdp (f_X6_behind a1 v23 s24) (fun (v32 : Int32) => bd (f_X7_spanBehind rf v32 v15 a3 s24) (fun (v33 : Int32) (s34 : SS) => jn (fun (v35 : Int32) => k30 v35 s34) (fun (k36 : Int32 → Res) => if (v9 : Int32) = 0 then lt (if (v33 : Int32) < (v22 : Int32) then v33 else v22) (fun (v38 : Int32) => k36 v38) else lt (if (v22 : Int32) < (v33 : Int32) then v33 else v22) (fun (v39 : Int32) => k36 v39)))) else k30 v22 s24)
noncomputable def o_X7_spanFrom (rf : Int32 → Int32 → Int32 → SS → Res) (a1 : Int32) (a2 : Int32) (a3 : Int32) (s0 : SS) : Res := if (a3 : Int32) < (1 : Int32) then some (0, s0) else if (12 : Int32) < (a3 : Int32) then some (0, s0) else if (a1 : Int32) < 0 then some (0, s0) else if (a1 : Int32) < (5348 : Int32) then gd (inb a1 5348) (bdp (f_X11_slotOf (lgt (s0 51) (Int32.toNatClampNeg a1)) (a3 - 1) 4 s0) (fun (v5 : Int32) => if (v5 : Int32) = 0 then bdp (f_X2_onTurn a2 s0) (fun (v7 : Int32) => bdp (f_X11_isPerson v7 s0) (fun (v8 : Int32) => jn (fun (v9 : Int32) => jn (fun (v11 : Int32) => bd (f_X10_mayOf a1 v7 s0) (fun (v13 : Int32) (s14 : SS) => bdp (f_X2_placeAfter a2 s14) (fun (v15 : Int32) => bd (f_X7_spanBehind rf a1 v15 a3 s14) (fun (v16 : Int32) (s17 : SS) => jn (fun (v18 : Int32) (s19 : SS) => gd (inb a1 5348) (gd (inb a1 5348) (lts (upl s19 51 (Int32.toNatClampNeg a1) (wsl (lgt (s19 51) (Int32.toNatClampNeg a1)) (a3 - 1) 4 (v18 + 1))) (fun (s21 : SS) => some (v18, s21))))) (fun (k20 : Int32 → SS → Res) => lp_X7_spanFrom_136 rf a1 a3 v9 v11 v13 v15 k20 FU v16 0 s17))))) (fun (k12 : Int32 → Res) => if (v9 : Int32) = 0 then k12 0 else k12 a3)) (fun (k10 : Int32 → Res) => jn (k10 0) (fun (k41 : Res) => if (v8 : Int32) = 0 then k41 else if (((s0 50 5) >>> (v7 &&& 31)) &&& 1 : Int32) = (1 : Int32) then k10 1 else k41)))) else some (v5 - 1, s0))) else some (0, s0)
set_option maxRecDepth 100000 in
set_option maxHeartbeats 4000000 in
theorem t_lp_X7_spanFrom_136 {l : Launch} {dr : Nat} (hdr : 4 ≤ dr) {rf : Int32 → Int32 → Int32 → SS → Res} (hrf : ∀ (x0 x1 x2 : Int32) (z : SS), Ct l wF yX7_spanFrom cX7_spanFrom 13 (some .int) dr [.ref 50, .int x0, .int x1, .int x2] z (rf x0 x1 x2 z)) (a1 : Int32) (a3 : Int32) (v9 : Int32) (v11 : Int32) (v13 : Int32) (v15 : Int32) (k20 : Int32 → SS → Res) (hk20 : ∀ (v18 : Int32) (s19 : SS), RC l wF RX7 cX7_spanFrom 13 (some .int) (dr + 2) 210 [.ref 50, .int a1, .null, .int a3, .null, .null, .null, .null, .null, .null, .int v18, .null, .null] [] s19 (k20 v18 s19)) : ∀ (n25 : Nat) (v22 : Int32) (v23 : Int32) (s24 : SS), RC l wF RX7 cX7_spanFrom 13 (some .int) (dr + 2) 136 [.ref 50, .int a1, .null, .int a3, .null, .null, .int v9, .int v11, .int v13, .int v15, .int v22, .int v23, .null] [] s24 (lp_X7_spanFrom_136 rf a1 a3 v9 v11 v13 v15 k20 n25 v22 v23 s24) := by
  intro n25
  induction n25 with
  | zero =>
    intro v22 v23 s24
    rw [lp_X7_spanFrom_136]
    exact r_none
  | succ n25 ih =>
    intro v22 v23 s24
    rw [lp_X7_spanFrom_136]
    refine r_iload (pc1 := 138) dX7_spanFrom_136 rfl rfl ?_
    refine r_bipush (v := 8) (pc1 := 140) dX7_spanFrom_138 kb_8 rfl ?_
    refine r_icmp_ge (tgt := 210) (pc1 := 143) dX7_spanFrom_140 (by decide) rfl (fun q26 => ?_) (fun q26 => ?_)
    · exact r_wk (hk20 v22 s24) ⟨Or.inr rfl, Or.inr rfl, Or.inl rfl, Or.inr rfl, Or.inl rfl, Or.inl rfl, Or.inl rfl, Or.inl rfl, Or.inl rfl, Or.inl rfl, Or.inr rfl, Or.inl rfl, Or.inl rfl, trivial⟩
    · refine r_iload (pc1 := 145) dX7_spanFrom_143 rfl rfl ?_
      refine r_iload (pc1 := 147) dX7_spanFrom_145 rfl rfl ?_
      refine r_icmp_eq (tgt := 210) (pc1 := 150) dX7_spanFrom_147 (by decide) rfl (fun q27 => ?_) (fun q27 => ?_)
      · exact r_wk (hk20 v22 s24) ⟨Or.inr rfl, Or.inr rfl, Or.inl rfl, Or.inr rfl, Or.inl rfl, Or.inl rfl, Or.inl rfl, Or.inl rfl, Or.inl rfl, Or.inl rfl, Or.inr rfl, Or.inl rfl, Or.inl rfl, trivial⟩
      · refine r_iload (pc1 := 152) dX7_spanFrom_150 rfl rfl ?_
        refine r_iload (pc1 := 154) dX7_spanFrom_152 rfl rfl ?_
        refine r_ishr (pc1 := 155) dX7_spanFrom_154 rfl ?_
        refine r_iconst (v := 1) (pc1 := 156) dX7_spanFrom_155 ki_1 rfl ?_
        refine r_iand (pc1 := 157) dX7_spanFrom_156 rfl ?_
        refine r_iconst (v := 1) (pc1 := 158) dX7_spanFrom_157 ki_1 rfl ?_
        refine r_jn (hyp := fun (k30 : Int32 → SS → Res) => ∀ (v28 : Int32) (s29 : SS), RC l wF RX7 cX7_spanFrom 13 (some .int) (dr + 2) 204 [.ref 50, .int a1, .null, .int a3, .null, .null, .int v9, .int v11, .int v13, .int v15, .int v28, .int v23, .null] [] s29 (k30 v28 s29)) (fun v28 s29 => ?_) (fun k30 hk30 => ?_)
        · refine r_iinc (pc1 := 207) dX7_spanFrom_204 rfl (kn_1 _) (by decide) rfl rfl rfl ?_
          refine r_goto (tgt := 136) dX7_spanFrom_207 (by decide) ?_
          exact r_wk (ih v28 (v23 + 1) s29) ⟨Or.inr rfl, Or.inr rfl, Or.inl rfl, Or.inr rfl, Or.inl rfl, Or.inl rfl, Or.inr rfl, Or.inr rfl, Or.inr rfl, Or.inr rfl, Or.inr rfl, Or.inr rfl, Or.inl rfl, trivial⟩
        · refine r_icmp_ne (tgt := 204) (pc1 := 161) dX7_spanFrom_158 (by decide) rfl (fun q31 => ?_) (fun q31 => ?_)
          · refine r_aload_n (pc1 := 162) (i := 0) dX7_spanFrom_161 rfl rfl rfl ?_
            refine r_aload_n (pc1 := 163) (i := 0) dX7_spanFrom_162 rfl rfl rfl ?_
            refine r_getR (pc1 := 166) w_50 gfX7_17 rfl dX7_spanFrom_163 rfl ?_
            refine r_iload_n (pc1 := 167) (i := 1) dX7_spanFrom_166 rfl rfl rfl ?_
            refine r_iload (pc1 := 169) dX7_spanFrom_167 rfl rfl ?_
            refine r_callVp (pc1 := 172) (rv_of w_3 cl_6) lkX7_86 (c_X6_behind w_3 w_4 w_8 _ _ _) rfl rfl ⟨by omega, Nat.le_of_ble_eq_true rfl⟩ (Nat.le_of_ble_eq_true rfl) dX7_spanFrom_169 rfl (fun v32 => ?_)
            refine r_iload (pc1 := 174) dX7_spanFrom_172 rfl rfl ?_
            refine r_iload_n (pc1 := 175) (i := 3) dX7_spanFrom_174 rfl rfl rfl ?_
            refine r_callVi (pc1 := 178) (rv_of w_50 cl_7) lkX7_83 (c_X7_spanBehind hdr hrf _ _ _ _) rfl rfl ⟨by omega, Nat.le_of_ble_eq_true rfl⟩ (Nat.le_of_ble_eq_true rfl) dX7_spanFrom_175 rfl (fun v33 s34 => ?_)
            refine r_istore (pc1 := 180) dX7_spanFrom_178 (by decide) rfl rfl rfl ?_
            refine r_iload (pc1 := 182) dX7_spanFrom_180 rfl rfl ?_
            refine r_jn (hyp := fun (k36 : Int32 → Res) => ∀ (v35 : Int32), RC l wF RX7 cX7_spanFrom 13 (some .int) (dr + 2) 202 [.ref 50, .int a1, .null, .int a3, .null, .null, .int v9, .int v11, .int v13, .int v15, .null, .int v23, .null] [.int v35] s34 (k36 v35)) (fun v35 => ?_) (fun k36 hk36 => ?_)
            · refine r_istore (pc1 := 204) dX7_spanFrom_202 (by decide) rfl rfl rfl ?_
              exact r_wk (hk30 v35 s34) ⟨Or.inr rfl, Or.inr rfl, Or.inl rfl, Or.inr rfl, Or.inl rfl, Or.inl rfl, Or.inr rfl, Or.inr rfl, Or.inr rfl, Or.inr rfl, Or.inr rfl, Or.inr rfl, Or.inl rfl, trivial⟩
            · refine r_if_eq (tgt := 195) (pc1 := 185) dX7_spanFrom_182 (by decide) rfl (fun q37 => ?_) (fun q37 => ?_)
              · refine r_iload (pc1 := 197) dX7_spanFrom_195 rfl rfl ?_
                refine r_iload (pc1 := 199) dX7_spanFrom_197 rfl rfl ?_
                refine r_mmin (pc1 := 202) mlX7_94 (by omega) dX7_spanFrom_199 rfl (Nat.le_of_ble_eq_true rfl) ?_
                refine r_lt (fun v38 => ?_)
                exact r_wk (hk36 v38) ⟨Or.inr rfl, Or.inr rfl, Or.inl rfl, Or.inr rfl, Or.inl rfl, Or.inl rfl, Or.inr rfl, Or.inr rfl, Or.inr rfl, Or.inr rfl, Or.inl rfl, Or.inr rfl, Or.inl rfl, trivial⟩
              · refine r_iload (pc1 := 187) dX7_spanFrom_185 rfl rfl ?_
                refine r_iload (pc1 := 189) dX7_spanFrom_187 rfl rfl ?_
                refine r_mmax (pc1 := 192) mlX7_89 (by omega) dX7_spanFrom_189 rfl (Nat.le_of_ble_eq_true rfl) ?_
                refine r_lt (fun v39 => ?_)
                refine r_goto (tgt := 202) dX7_spanFrom_192 (by decide) ?_
                exact r_wk (hk36 v39) ⟨Or.inr rfl, Or.inr rfl, Or.inl rfl, Or.inr rfl, Or.inl rfl, Or.inl rfl, Or.inr rfl, Or.inr rfl, Or.inr rfl, Or.inr rfl, Or.inl rfl, Or.inr rfl, Or.inl rfl, trivial⟩
          · exact r_wk (hk30 v22 s24) ⟨Or.inr rfl, Or.inr rfl, Or.inl rfl, Or.inr rfl, Or.inl rfl, Or.inl rfl, Or.inr rfl, Or.inr rfl, Or.inr rfl, Or.inr rfl, Or.inr rfl, Or.inr rfl, Or.inl rfl, trivial⟩
set_option maxRecDepth 100000 in
set_option maxHeartbeats 4000000 in
theorem c_o_X7_spanFrom {l : Launch} {dr : Nat} (hdr : 4 ≤ dr) {rf : Int32 → Int32 → Int32 → SS → Res} (hrf : ∀ (x0 x1 x2 : Int32) (z : SS), Ct l wF yX7_spanFrom cX7_spanFrom 13 (some .int) dr [.ref 50, .int x0, .int x1, .int x2] z (rf x0 x1 x2 z)) (a1 : Int32) (a2 : Int32) (a3 : Int32) (s0 : SS) : Ct l wF yX7_spanFrom cX7_spanFrom 13 (some .int) (dr + 2) [.ref 50, .int a1, .int a2, .int a3] s0 (o_X7_spanFrom rf a1 a2 a3 s0) := by
  refine ct_of (y := yX7_spanFrom) plX7 (Nat.le_of_ble_eq_true rfl) ?_
  refine r_pad0 9 (L1 := [.ref 50, .int a1, .int a2, .int a3, .null, .null, .null, .null, .null, .null, .null, .null, .null]) rfl ?_
  unfold o_X7_spanFrom
  refine r_iload_n (pc1 := 1) (i := 3) dX7_spanFrom_0 rfl rfl rfl ?_
  refine r_iconst (v := 1) (pc1 := 2) dX7_spanFrom_1 ki_1 rfl ?_
  refine r_icmp_lt (tgt := 24) (pc1 := 5) dX7_spanFrom_2 (by decide) rfl (fun q1 => ?_) (fun q1 => ?_)
  · refine r_iconst (v := 0) (pc1 := 25) dX7_spanFrom_24 ki_0 rfl ?_
    exact r_iret rfl rfl dX7_spanFrom_25
  · refine r_iload_n (pc1 := 6) (i := 3) dX7_spanFrom_5 rfl rfl rfl ?_
    refine r_bipush (v := 12) (pc1 := 8) dX7_spanFrom_6 kb_12 rfl ?_
    refine r_icmp_gt (tgt := 24) (pc1 := 11) dX7_spanFrom_8 (by decide) rfl (fun q2 => ?_) (fun q2 => ?_)
    · refine r_iconst (v := 0) (pc1 := 25) dX7_spanFrom_24 ki_0 rfl ?_
      exact r_iret rfl rfl dX7_spanFrom_25
    · refine r_iload_n (pc1 := 12) (i := 1) dX7_spanFrom_11 rfl rfl rfl ?_
      refine r_if_lt (tgt := 24) (pc1 := 15) dX7_spanFrom_12 (by decide) rfl (fun q3 => ?_) (fun q3 => ?_)
      · refine r_iconst (v := 0) (pc1 := 25) dX7_spanFrom_24 ki_0 rfl ?_
        exact r_iret rfl rfl dX7_spanFrom_25
      · refine r_iload_n (pc1 := 16) (i := 1) dX7_spanFrom_15 rfl rfl rfl ?_
        refine r_aload_n (pc1 := 17) (i := 0) dX7_spanFrom_16 rfl rfl rfl ?_
        refine r_getR (pc1 := 20) w_50 gfX7_11 rfl dX7_spanFrom_17 rfl ?_
        refine r_alenL (t := 3) (v := 5348) (pc1 := 21) w_51 (fun _ => rfl) (al_5348) dX7_spanFrom_20 rfl ?_
        refine r_icmp_lt (tgt := 26) (pc1 := 24) dX7_spanFrom_21 (by decide) rfl (fun q4 => ?_) (fun q4 => ?_)
        · refine r_aload_n (pc1 := 27) (i := 0) dX7_spanFrom_26 rfl rfl rfl ?_
          refine r_getR (pc1 := 30) w_50 gfX7_11 rfl dX7_spanFrom_27 rfl ?_
          refine r_iload_n (pc1 := 31) (i := 1) dX7_spanFrom_30 rfl rfl rfl ?_
          refine r_lald (pc1 := 32) w_51 dX7_spanFrom_31 rfl ?_
          refine r_iload_n (pc1 := 33) (i := 3) dX7_spanFrom_32 rfl rfl rfl ?_
          refine r_iconst (v := 1) (pc1 := 34) dX7_spanFrom_33 ki_1 rfl ?_
          refine r_isub (pc1 := 35) dX7_spanFrom_34 rfl ?_
          refine r_iconst (v := 4) (pc1 := 36) dX7_spanFrom_35 ki_4 rfl ?_
          refine r_callSNp (pc1 := 39) lkX7_61 (c_X11_slotOf _ _ _ _) rfl rfl ⟨by omega, Nat.le_of_ble_eq_true rfl⟩ (Nat.le_of_ble_eq_true rfl) dX7_spanFrom_36 rfl (fun v5 => ?_)
          refine r_istore (pc1 := 41) dX7_spanFrom_39 (by decide) rfl rfl rfl ?_
          refine r_iload (pc1 := 43) dX7_spanFrom_41 rfl rfl ?_
          refine r_if_eq (tgt := 51) (pc1 := 46) dX7_spanFrom_43 (by decide) rfl (fun q6 => ?_) (fun q6 => ?_)
          · refine r_aload_n (pc1 := 52) (i := 0) dX7_spanFrom_51 rfl rfl rfl ?_
            refine r_getR (pc1 := 55) w_50 gfX7_25 rfl dX7_spanFrom_52 rfl ?_
            refine r_iload_n (pc1 := 56) (i := 2) dX7_spanFrom_55 rfl rfl rfl ?_
            refine r_callVp (pc1 := 59) (rv_of w_35 cl_2) lkX7_65 (c_X2_onTurn _ _) rfl rfl ⟨by omega, Nat.le_of_ble_eq_true rfl⟩ (Nat.le_of_ble_eq_true rfl) dX7_spanFrom_56 rfl (fun v7 => ?_)
            refine r_istore (pc1 := 61) dX7_spanFrom_59 (by decide) rfl rfl rfl ?_
            refine r_iload (pc1 := 63) dX7_spanFrom_61 rfl rfl ?_
            refine r_callSNp (pc1 := 66) lkX7_70 (c_X11_isPerson _ _) rfl rfl ⟨by omega, Nat.le_of_ble_eq_true rfl⟩ (Nat.le_of_ble_eq_true rfl) dX7_spanFrom_63 rfl (fun v8 => ?_)
            refine r_jn (hyp := fun (k10 : Int32 → Res) => ∀ (v9 : Int32), RC l wF RX7 cX7_spanFrom 13 (some .int) (dr + 2) 87 [.ref 50, .int a1, .int a2, .int a3, .null, .int v7, .null, .null, .null, .null, .null, .null, .null] [.int v9] s0 (k10 v9)) (fun v9 => ?_) (fun k10 hk10 => ?_)
            · refine r_istore (pc1 := 89) dX7_spanFrom_87 (by decide) rfl rfl rfl ?_
              refine r_iload (pc1 := 91) dX7_spanFrom_89 rfl rfl ?_
              refine r_jn (hyp := fun (k12 : Int32 → Res) => ∀ (v11 : Int32), RC l wF RX7 cX7_spanFrom 13 (some .int) (dr + 2) 99 [.ref 50, .int a1, .int a2, .int a3, .null, .int v7, .int v9, .null, .null, .null, .null, .null, .null] [.int v11] s0 (k12 v11)) (fun v11 => ?_) (fun k12 hk12 => ?_)
              · refine r_istore (pc1 := 101) dX7_spanFrom_99 (by decide) rfl rfl rfl ?_
                refine r_aload_n (pc1 := 102) (i := 0) dX7_spanFrom_101 rfl rfl rfl ?_
                refine r_getR (pc1 := 105) w_50 gfX7_21 rfl dX7_spanFrom_102 rfl ?_
                refine r_iload_n (pc1 := 106) (i := 1) dX7_spanFrom_105 rfl rfl rfl ?_
                refine r_iload (pc1 := 108) dX7_spanFrom_106 rfl rfl ?_
                refine r_callVi (pc1 := 111) (rv_of w_27 cl_10) lkX7_74 (c_X10_mayOf _ _ _) rfl rfl ⟨by omega, Nat.le_of_ble_eq_true rfl⟩ (Nat.le_of_ble_eq_true rfl) dX7_spanFrom_108 rfl (fun v13 s14 => ?_)
                refine r_istore (pc1 := 113) dX7_spanFrom_111 (by decide) rfl rfl rfl ?_
                refine r_aload_n (pc1 := 114) (i := 0) dX7_spanFrom_113 rfl rfl rfl ?_
                refine r_getR (pc1 := 117) w_50 gfX7_25 rfl dX7_spanFrom_114 rfl ?_
                refine r_iload_n (pc1 := 118) (i := 2) dX7_spanFrom_117 rfl rfl rfl ?_
                refine r_callVp (pc1 := 121) (rv_of w_35 cl_2) lkX7_80 (c_X2_placeAfter _ _) rfl rfl ⟨by omega, Nat.le_of_ble_eq_true rfl⟩ (Nat.le_of_ble_eq_true rfl) dX7_spanFrom_118 rfl (fun v15 => ?_)
                refine r_istore (pc1 := 123) dX7_spanFrom_121 (by decide) rfl rfl rfl ?_
                refine r_aload_n (pc1 := 124) (i := 0) dX7_spanFrom_123 rfl rfl rfl ?_
                refine r_iload_n (pc1 := 125) (i := 1) dX7_spanFrom_124 rfl rfl rfl ?_
                refine r_iload (pc1 := 127) dX7_spanFrom_125 rfl rfl ?_
                refine r_iload_n (pc1 := 128) (i := 3) dX7_spanFrom_127 rfl rfl rfl ?_
                refine r_callVi (pc1 := 131) (rv_of w_50 cl_7) lkX7_83 (c_X7_spanBehind hdr hrf _ _ _ _) rfl rfl ⟨by omega, Nat.le_of_ble_eq_true rfl⟩ (Nat.le_of_ble_eq_true rfl) dX7_spanFrom_128 rfl (fun v16 s17 => ?_)
                refine r_istore (pc1 := 133) dX7_spanFrom_131 (by decide) rfl rfl rfl ?_
                refine r_iconst (v := 0) (pc1 := 134) dX7_spanFrom_133 ki_0 rfl ?_
                refine r_istore (pc1 := 136) dX7_spanFrom_134 (by decide) rfl rfl rfl ?_
                refine r_jn (hyp := fun (k20 : Int32 → SS → Res) => ∀ (v18 : Int32) (s19 : SS), RC l wF RX7 cX7_spanFrom 13 (some .int) (dr + 2) 210 [.ref 50, .int a1, .null, .int a3, .null, .null, .null, .null, .null, .null, .int v18, .null, .null] [] s19 (k20 v18 s19)) (fun v18 s19 => ?_) (fun k20 hk20 => ?_)
                · refine r_aload_n (pc1 := 211) (i := 0) dX7_spanFrom_210 rfl rfl rfl ?_
                  refine r_getR (pc1 := 214) w_50 gfX7_11 rfl dX7_spanFrom_211 rfl ?_
                  refine r_iload_n (pc1 := 215) (i := 1) dX7_spanFrom_214 rfl rfl rfl ?_
                  refine r_aload_n (pc1 := 216) (i := 0) dX7_spanFrom_215 rfl rfl rfl ?_
                  refine r_getR (pc1 := 219) w_50 gfX7_11 rfl dX7_spanFrom_216 rfl ?_
                  refine r_iload_n (pc1 := 220) (i := 1) dX7_spanFrom_219 rfl rfl rfl ?_
                  refine r_lald (pc1 := 221) w_51 dX7_spanFrom_220 rfl ?_
                  refine r_iload_n (pc1 := 222) (i := 3) dX7_spanFrom_221 rfl rfl rfl ?_
                  refine r_iconst (v := 1) (pc1 := 223) dX7_spanFrom_222 ki_1 rfl ?_
                  refine r_isub (pc1 := 224) dX7_spanFrom_223 rfl ?_
                  refine r_iconst (v := 4) (pc1 := 225) dX7_spanFrom_224 ki_4 rfl ?_
                  refine r_iload (pc1 := 227) dX7_spanFrom_225 rfl rfl ?_
                  refine r_iconst (v := 1) (pc1 := 228) dX7_spanFrom_227 ki_1 rfl ?_
                  refine r_iadd (pc1 := 229) dX7_spanFrom_228 rfl ?_
                  refine r_callSNl (pc1 := 232) lkX7_97 (c_withSlot _ _ _ _) rfl rfl ⟨by omega, Nat.le_of_ble_eq_true rfl⟩ (Nat.le_of_ble_eq_true rfl) dX7_spanFrom_229 rfl ?_
                  refine r_last (pc1 := 233) w_51 dX7_spanFrom_232 rfl ?_
                  refine r_lts (fun s21 => ?_)
                  refine r_iload (pc1 := 235) dX7_spanFrom_233 rfl rfl ?_
                  exact r_iret rfl rfl dX7_spanFrom_235
                · exact r_wk (t_lp_X7_spanFrom_136 hdr hrf a1 a3 v9 v11 v13 v15 k20 hk20 FU v16 0 s17) ⟨Or.inr rfl, Or.inr rfl, Or.inl rfl, Or.inr rfl, Or.inl rfl, Or.inl rfl, Or.inr rfl, Or.inr rfl, Or.inr rfl, Or.inr rfl, Or.inr rfl, Or.inr rfl, Or.inl rfl, trivial⟩
              · refine r_if_eq (tgt := 98) (pc1 := 94) dX7_spanFrom_91 (by decide) rfl (fun q40 => ?_) (fun q40 => ?_)
                · refine r_iconst (v := 0) (pc1 := 99) dX7_spanFrom_98 ki_0 rfl ?_
                  exact r_wk (hk12 0) ⟨Or.inr rfl, Or.inr rfl, Or.inr rfl, Or.inr rfl, Or.inl rfl, Or.inr rfl, Or.inr rfl, Or.inl rfl, Or.inl rfl, Or.inl rfl, Or.inl rfl, Or.inl rfl, Or.inl rfl, trivial⟩
                · refine r_iload_n (pc1 := 95) (i := 3) dX7_spanFrom_94 rfl rfl rfl ?_
                  refine r_goto (tgt := 99) dX7_spanFrom_95 (by decide) ?_
                  exact r_wk (hk12 a3) ⟨Or.inr rfl, Or.inr rfl, Or.inr rfl, Or.inr rfl, Or.inl rfl, Or.inr rfl, Or.inr rfl, Or.inl rfl, Or.inl rfl, Or.inl rfl, Or.inl rfl, Or.inl rfl, Or.inl rfl, trivial⟩
            · refine r_jn (hyp := fun (k41 : Res) => RC l wF RX7 cX7_spanFrom 13 (some .int) (dr + 2) 86 [.ref 50, .int a1, .int a2, .int a3, .null, .int v7, .null, .null, .null, .null, .null, .null, .null] [] s0 k41) (?_) (fun k41 hk41 => ?_)
              · refine r_iconst (v := 0) (pc1 := 87) dX7_spanFrom_86 ki_0 rfl ?_
                exact r_wk (hk10 0) ⟨Or.inr rfl, Or.inr rfl, Or.inr rfl, Or.inr rfl, Or.inl rfl, Or.inr rfl, Or.inl rfl, Or.inl rfl, Or.inl rfl, Or.inl rfl, Or.inl rfl, Or.inl rfl, Or.inl rfl, trivial⟩
              · refine r_if_eq (tgt := 86) (pc1 := 69) dX7_spanFrom_66 (by decide) rfl (fun q42 => ?_) (fun q42 => ?_)
                · exact r_wk (hk41) ⟨Or.inr rfl, Or.inr rfl, Or.inr rfl, Or.inr rfl, Or.inl rfl, Or.inr rfl, Or.inl rfl, Or.inl rfl, Or.inl rfl, Or.inl rfl, Or.inl rfl, Or.inl rfl, Or.inl rfl, trivial⟩
                · refine r_aload_n (pc1 := 70) (i := 0) dX7_spanFrom_69 rfl rfl rfl ?_
                  refine r_getI (pc1 := 73) w_50 gfX7_33 rfl dX7_spanFrom_70 rfl ?_
                  refine r_iload (pc1 := 75) dX7_spanFrom_73 rfl rfl ?_
                  refine r_ishr (pc1 := 76) dX7_spanFrom_75 rfl ?_
                  refine r_iconst (v := 1) (pc1 := 77) dX7_spanFrom_76 ki_1 rfl ?_
                  refine r_iand (pc1 := 78) dX7_spanFrom_77 rfl ?_
                  refine r_iconst (v := 1) (pc1 := 79) dX7_spanFrom_78 ki_1 rfl ?_
                  refine r_icmp_ne (tgt := 86) (pc1 := 82) dX7_spanFrom_79 (by decide) rfl (fun q43 => ?_) (fun q43 => ?_)
                  · refine r_iconst (v := 1) (pc1 := 83) dX7_spanFrom_82 ki_1 rfl ?_
                    refine r_goto (tgt := 87) dX7_spanFrom_83 (by decide) ?_
                    exact r_wk (hk10 1) ⟨Or.inr rfl, Or.inr rfl, Or.inr rfl, Or.inr rfl, Or.inl rfl, Or.inr rfl, Or.inl rfl, Or.inl rfl, Or.inl rfl, Or.inl rfl, Or.inl rfl, Or.inl rfl, Or.inl rfl, trivial⟩
                  · exact r_wk (hk41) ⟨Or.inr rfl, Or.inr rfl, Or.inr rfl, Or.inr rfl, Or.inl rfl, Or.inr rfl, Or.inl rfl, Or.inl rfl, Or.inl rfl, Or.inl rfl, Or.inl rfl, Or.inl rfl, Or.inl rfl, trivial⟩
          · refine r_iload (pc1 := 48) dX7_spanFrom_46 rfl rfl ?_
            refine r_iconst (v := 1) (pc1 := 49) dX7_spanFrom_48 ki_1 rfl ?_
            refine r_isub (pc1 := 50) dX7_spanFrom_49 rfl ?_
            exact r_iret rfl rfl dX7_spanFrom_50
        · refine r_iconst (v := 0) (pc1 := 25) dX7_spanFrom_24 ki_0 rfl ?_
          exact r_iret rfl rfl dX7_spanFrom_25
noncomputable def f_X7_spanFrom : Nat → Int32 → Int32 → Int32 → SS → Res
  | 0, _, _, _, _ => none
  | n + 1, a1, a2, a3, s0 => o_X7_spanFrom (f_X7_spanFrom n) a1 a2 a3 s0
theorem c_X7_spanFrom {l : Launch} : ∀ (n : Nat) (a1 : Int32) (a2 : Int32) (a3 : Int32) (s0 : SS), Ct l wF yX7_spanFrom cX7_spanFrom 13 (some .int) (4 + 2 * n) [.ref 50, .int a1, .int a2, .int a3] s0 (f_X7_spanFrom n a1 a2 a3 s0)
  | 0, _, _, _, _ => fun r s1 he => by cases he
  | n + 1, a1, a2, a3, s0 => c_o_X7_spanFrom (by omega) (fun x0 x1 x2 z => c_X7_spanFrom n x0 x1 x2 z) a1 a2 a3 s0
/-! f_X7_solve -/
noncomputable def f_X7_solve (a1 : Int32) (a2 : Int32) (s0 : SS) : Res := lts (up s0 50 4 a1) (fun (s1 : SS) => lts (up s1 50 5 a2) (fun (s2 : SS) => bdp (f_X6_lengthOf (s2 52 0) s2) (fun (v3 : Int32) => bdp (f_X6_bareOf v3 s2) (fun (v4 : Int32) => bdp (f_X6_bareOf (v3 + 1) s2) (fun (v5 : Int32) => bd (f_J7_fill_bad5a_51 v4 v5 0 s2) (fun (v6 : Int32) (s7 : SS) => bd (f_X7_spanFrom 40 (s7 52 0) (s7 52 1) 12 s7) (fun (v8 : Int32) (s9 : SS) => some (v8, s9))))))))
set_option maxRecDepth 100000 in
set_option maxHeartbeats 4000000 in
theorem c_X7_solve {l : Launch} (a1 : Int32) (a2 : Int32) (s0 : SS) : Ct l wF yX7_solve cX7_solve 5 (some .int) 85 [.ref 50, .ref 52, .int a1, .int a2] s0 (f_X7_solve a1 a2 s0) := by
  refine ct_of (y := yX7_solve) plX7 (Nat.le_of_ble_eq_true rfl) ?_
  refine r_pad0 1 (L1 := [.ref 50, .ref 52, .int a1, .int a2, .null]) rfl ?_
  unfold f_X7_solve
  refine r_aload_n (pc1 := 1) (i := 0) dX7_solve_0 rfl rfl rfl ?_
  refine r_iload_n (pc1 := 2) (i := 2) dX7_solve_1 rfl rfl rfl ?_
  refine r_putI (pc1 := 5) w_50 pfX7_29 rfl ⟨rfl, rfl⟩ dX7_solve_2 rfl ?_
  refine r_lts (fun s1 => ?_)
  refine r_aload_n (pc1 := 6) (i := 0) dX7_solve_5 rfl rfl rfl ?_
  refine r_iload_n (pc1 := 7) (i := 3) dX7_solve_6 rfl rfl rfl ?_
  refine r_putI (pc1 := 10) w_50 pfX7_33 rfl ⟨rfl, rfl⟩ dX7_solve_7 rfl ?_
  refine r_lts (fun s2 => ?_)
  refine r_aload_n (pc1 := 11) (i := 0) dX7_solve_10 rfl rfl rfl ?_
  refine r_getR (pc1 := 14) w_50 gfX7_17 rfl dX7_solve_11 rfl ?_
  refine r_aload_n (pc1 := 15) (i := 1) dX7_solve_14 rfl rfl rfl ?_
  refine r_getI (pc1 := 18) w_52 gfX7_36 rfl dX7_solve_15 rfl ?_
  refine r_callVp (pc1 := 21) (rv_of w_3 cl_6) lkX7_41 (c_X6_lengthOf w_3 w_4 w_8 _ _) rfl rfl ⟨Nat.le_of_ble_eq_true rfl, Nat.le_of_ble_eq_true rfl⟩ (Nat.le_of_ble_eq_true rfl) dX7_solve_18 rfl (fun v3 => ?_)
  refine r_istore (pc1 := 23) dX7_solve_21 (by decide) rfl rfl rfl ?_
  refine r_aload_n (pc1 := 24) (i := 0) dX7_solve_23 rfl rfl rfl ?_
  refine r_getR (pc1 := 27) w_50 gfX7_11 rfl dX7_solve_24 rfl ?_
  refine r_iload (pc1 := 29) dX7_solve_27 rfl rfl ?_
  refine r_callSp (pc1 := 32) lkX7_45 (c_X6_bareOf w_3 w_4 w_8 _ _) rfl rfl ⟨Nat.le_of_ble_eq_true rfl, Nat.le_of_ble_eq_true rfl⟩ (Nat.le_of_ble_eq_true rfl) dX7_solve_29 rfl (fun v4 => ?_)
  refine r_iload (pc1 := 34) dX7_solve_32 rfl rfl ?_
  refine r_iconst (v := 1) (pc1 := 35) dX7_solve_34 ki_1 rfl ?_
  refine r_iadd (pc1 := 36) dX7_solve_35 rfl ?_
  refine r_callSp (pc1 := 39) lkX7_45 (c_X6_bareOf w_3 w_4 w_8 _ _) rfl rfl ⟨Nat.le_of_ble_eq_true rfl, Nat.le_of_ble_eq_true rfl⟩ (Nat.le_of_ble_eq_true rfl) dX7_solve_36 rfl (fun v5 => ?_)
  refine r_lconst (v := 0) (pc1 := 40) dX7_solve_39 kl_0 rfl ?_
  refine r_callSv (pc1 := 43) lkX7_48 (c_J7_fill_bad5a_51 _ _ _ _) rfl rfl ⟨Nat.le_of_ble_eq_true rfl, Nat.le_of_ble_eq_true rfl⟩ (Nat.le_of_ble_eq_true rfl) dX7_solve_40 rfl (fun v6 s7 => ?_)
  refine r_aload_n (pc1 := 44) (i := 0) dX7_solve_43 rfl rfl rfl ?_
  refine r_aload_n (pc1 := 45) (i := 1) dX7_solve_44 rfl rfl rfl ?_
  refine r_getI (pc1 := 48) w_52 gfX7_36 rfl dX7_solve_45 rfl ?_
  refine r_aload_n (pc1 := 49) (i := 1) dX7_solve_48 rfl rfl rfl ?_
  refine r_getI (pc1 := 52) w_52 gfX7_54 rfl dX7_solve_49 rfl ?_
  refine r_bipush (v := 12) (pc1 := 54) dX7_solve_52 kb_12 rfl ?_
  refine r_callVi (pc1 := 57) (rv_of w_50 cl_7) lkX7_57 (c_X7_spanFrom 40 _ _ _ _) rfl rfl ⟨Nat.le_of_ble_eq_true rfl, Nat.le_of_ble_eq_true rfl⟩ (Nat.le_of_ble_eq_true rfl) dX7_solve_54 rfl (fun v8 s9 => ?_)
  exact r_iret rfl rfl dX7_solve_57
/-! f_X11_held -/
noncomputable def f_X11_held (a1 : Int32) (a2 : Int32) (a3 : Int32) (s0 : SS) : Res := bdp (f_X11_isLaw a1 s0) (fun (v1 : Int32) => if (v1 : Int32) = 0 then some ((-1), s0) else bdp (f_X11_isLaw a2 s0) (fun (v3 : Int32) => if (v3 : Int32) = 0 then some ((-1), s0) else bdp (f_X11_within a3 15 s0) (fun (v5 : Int32) => if (v5 : Int32) = 0 then some ((-1), s0) else bd (f_X7_solve ((1 <<< (a1 &&& 31)) ||| (1 <<< (a2 &&& 31))) a3 s0) (fun (v7 : Int32) (s8 : SS) => some (v7, s8)))))
set_option maxRecDepth 100000 in
set_option maxHeartbeats 4000000 in
theorem c_X11_held {l : Launch} (a1 : Int32) (a2 : Int32) (a3 : Int32) (s0 : SS) : Ct l wF yX11_held cX11_held 4 (some .int) 86 [.ref 0, .int a1, .int a2, .int a3] s0 (f_X11_held a1 a2 a3 s0) := by
  refine ct_of (y := yX11_held) plX11 (Nat.le_of_ble_eq_true rfl) ?_
  refine r_pad0 0 (L1 := [.ref 0, .int a1, .int a2, .int a3]) rfl ?_
  unfold f_X11_held
  refine r_aload_n (pc1 := 1) (i := 0) dX11_held_0 rfl rfl rfl ?_
  refine r_iload_n (pc1 := 2) (i := 1) dX11_held_1 rfl rfl rfl ?_
  refine r_callVp (pc1 := 5) (rv_of w_0 cl_11) lkX11_146 (c_X11_isLaw _ _) rfl rfl ⟨Nat.le_of_ble_eq_true rfl, Nat.le_of_ble_eq_true rfl⟩ (Nat.le_of_ble_eq_true rfl) dX11_held_2 rfl (fun v1 => ?_)
  refine r_if_eq (tgt := 25) (pc1 := 8) dX11_held_5 (by decide) rfl (fun q2 => ?_) (fun q2 => ?_)
  · refine r_iconst (v := (-1)) (pc1 := 26) dX11_held_25 ki_m1 rfl ?_
    exact r_iret rfl rfl dX11_held_26
  · refine r_aload_n (pc1 := 9) (i := 0) dX11_held_8 rfl rfl rfl ?_
    refine r_iload_n (pc1 := 10) (i := 2) dX11_held_9 rfl rfl rfl ?_
    refine r_callVp (pc1 := 13) (rv_of w_0 cl_11) lkX11_146 (c_X11_isLaw _ _) rfl rfl ⟨Nat.le_of_ble_eq_true rfl, Nat.le_of_ble_eq_true rfl⟩ (Nat.le_of_ble_eq_true rfl) dX11_held_10 rfl (fun v3 => ?_)
    refine r_if_eq (tgt := 25) (pc1 := 16) dX11_held_13 (by decide) rfl (fun q4 => ?_) (fun q4 => ?_)
    · refine r_iconst (v := (-1)) (pc1 := 26) dX11_held_25 ki_m1 rfl ?_
      exact r_iret rfl rfl dX11_held_26
    · refine r_iload_n (pc1 := 17) (i := 3) dX11_held_16 rfl rfl rfl ?_
      refine r_bipush (v := 15) (pc1 := 19) dX11_held_17 kb_15 rfl ?_
      refine r_callSp (pc1 := 22) lkX11_102 (c_X11_within _ _ _) rfl rfl ⟨Nat.le_of_ble_eq_true rfl, Nat.le_of_ble_eq_true rfl⟩ (Nat.le_of_ble_eq_true rfl) dX11_held_19 rfl (fun v5 => ?_)
      refine r_if_ne (tgt := 27) (pc1 := 25) dX11_held_22 (by decide) rfl (fun q6 => ?_) (fun q6 => ?_)
      · refine r_iconst (v := (-1)) (pc1 := 26) dX11_held_25 ki_m1 rfl ?_
        exact r_iret rfl rfl dX11_held_26
      · refine r_aload_n (pc1 := 28) (i := 0) dX11_held_27 rfl rfl rfl ?_
        refine r_getR (pc1 := 31) w_0 gfX11_81 rfl dX11_held_28 rfl ?_
        refine r_aload_n (pc1 := 32) (i := 0) dX11_held_31 rfl rfl rfl ?_
        refine r_getR (pc1 := 35) w_0 gfX11_88 rfl dX11_held_32 rfl ?_
        refine r_iconst (v := 1) (pc1 := 36) dX11_held_35 ki_1 rfl ?_
        refine r_iload_n (pc1 := 37) (i := 1) dX11_held_36 rfl rfl rfl ?_
        refine r_ishl (pc1 := 38) dX11_held_37 rfl ?_
        refine r_iconst (v := 1) (pc1 := 39) dX11_held_38 ki_1 rfl ?_
        refine r_iload_n (pc1 := 40) (i := 2) dX11_held_39 rfl rfl rfl ?_
        refine r_ishl (pc1 := 41) dX11_held_40 rfl ?_
        refine r_ior (pc1 := 42) dX11_held_41 rfl ?_
        refine r_iload_n (pc1 := 43) (i := 3) dX11_held_42 rfl rfl rfl ?_
        refine r_callVi (pc1 := 46) (rv_of w_50 cl_7) lkX11_274 (c_X7_solve _ _ _) rfl rfl ⟨Nat.le_of_ble_eq_true rfl, Nat.le_of_ble_eq_true rfl⟩ (Nat.le_of_ble_eq_true rfl) dX11_held_43 rfl (fun v7 s8 => ?_)
        exact r_iret rfl rfl dX11_held_46
/-! f_X11_number -/
noncomputable def lp_X11_number_29 (a1 : Int32) (a2 : Int32) (k9 : Int32 → Int32 → Int32 → SS → Res) : Nat → Int32 → Int32 → Int32 → Int32 → SS → Res
  | 0, _, _, _, _, _ => none
  | n20 + 1, v15, v16, v17, v18, s19 => if (4 : Int32) < (v18 : Int32) then k9 v15 v16 v17 s19 else bdp (f_X6_bareOf v18 s19) (fun (v22 : Int32) => bd (f_X5_find v22 0 s19) (fun (v23 : Int32) (s24 : SS) => bd (f_X5_sumOf a1 s24) (fun (v25 : Int32) (s26 : SS) => jn (fun (v27 : Int32) (v28 : Int32) (v29 : Int32) => lp_X11_number_29 a1 a2 k9 n20 v27 v28 v29 (v18 + 1) s26) (fun (k30 : Int32 → Int32 → Int32 → Res) => jn (lt (s26 39 4) (fun (v32 : Int32) => k30 v18 v25 v32)) (fun (k31 : Res) => if (v15 : Int32) = 0 then k31 else if (lg_cmp (((v25 : Int32).toInt64) * ((v17 : Int32).toInt64)) (((v16 : Int32).toInt64) * ((s26 39 4 : Int32).toInt64)) : Int32) ≤ 0 then k30 v15 v16 v17 else k31)))))
noncomputable def f_X11_number (a1 : Int32) (a2 : Int32) (s0 : SS) : Res := bdp (f_X11_isPerson a1 s0) (fun (v1 : Int32) => if (v1 : Int32) = 0 then some ((-1000000), s0) else bdp (f_X11_within a2 2 s0) (fun (v3 : Int32) => if (v3 : Int32) = 0 then some ((-1000000), s0) else jn (fun (v5 : Int32) (v6 : Int32) (v7 : Int32) (s8 : SS) => if (a2 : Int32) = 0 then some (v5, s8) else jn (fun (v11 : Int32) => bdp (f_X11_reduced v11 v6 v7 s8) (fun (v13 : Int32) => some (v13, s8))) (fun (k12 : Int32 → Res) => if (a2 : Int32) = (1 : Int32) then k12 v6 else k12 v7)) (fun (k9 : Int32 → Int32 → Int32 → SS → Res) => lp_X11_number_29 a1 a2 k9 FU 0 0 1 1 s0)))
set_option maxRecDepth 100000 in
set_option maxHeartbeats 4000000 in
theorem t_lp_X11_number_29 {l : Launch} (a1 : Int32) (a2 : Int32) (k9 : Int32 → Int32 → Int32 → SS → Res) (hk9 : ∀ (v5 : Int32) (v6 : Int32) (v7 : Int32) (s8 : SS), RC l wF RX11 cX11_number 8 (some .int) 7 107 [.ref 0, .null, .int a2, .int v5, .int v6, .int v7, .null, .null] [] s8 (k9 v5 v6 v7 s8)) : ∀ (n20 : Nat) (v15 : Int32) (v16 : Int32) (v17 : Int32) (v18 : Int32) (s19 : SS), RC l wF RX11 cX11_number 8 (some .int) 7 29 [.ref 0, .int a1, .int a2, .int v15, .int v16, .int v17, .int v18, .null] [] s19 (lp_X11_number_29 a1 a2 k9 n20 v15 v16 v17 v18 s19) := by
  intro n20
  induction n20 with
  | zero =>
    intro v15 v16 v17 v18 s19
    rw [lp_X11_number_29]
    exact r_none
  | succ n20 ih =>
    intro v15 v16 v17 v18 s19
    rw [lp_X11_number_29]
    refine r_iload (pc1 := 31) dX11_number_29 rfl rfl ?_
    refine r_iconst (v := 4) (pc1 := 32) dX11_number_31 ki_4 rfl ?_
    refine r_icmp_gt (tgt := 107) (pc1 := 35) dX11_number_32 (by decide) rfl (fun q21 => ?_) (fun q21 => ?_)
    · exact r_wk (hk9 v15 v16 v17 s19) ⟨Or.inr rfl, Or.inl rfl, Or.inr rfl, Or.inr rfl, Or.inr rfl, Or.inr rfl, Or.inl rfl, Or.inl rfl, trivial⟩
    · refine r_aload_n (pc1 := 36) (i := 0) dX11_number_35 rfl rfl rfl ?_
      refine r_getR (pc1 := 39) w_0 gfX11_60 rfl dX11_number_36 rfl ?_
      refine r_iload (pc1 := 41) dX11_number_39 rfl rfl ?_
      refine r_callSp (pc1 := 44) lkX11_118 (c_X6_bareOf w_3 w_4 w_8 _ _) rfl rfl ⟨Nat.le_of_ble_eq_true rfl, Nat.le_of_ble_eq_true rfl⟩ (Nat.le_of_ble_eq_true rfl) dX11_number_41 rfl (fun v22 => ?_)
      refine r_iconst (v := 0) (pc1 := 45) dX11_number_44 ki_0 rfl ?_
      refine r_callVv (pc1 := 48) (rv_of w_39 cl_5) lkX11_238 (c_X5_find _ _ _) rfl rfl ⟨Nat.le_of_ble_eq_true rfl, Nat.le_of_ble_eq_true rfl⟩ (Nat.le_of_ble_eq_true rfl) dX11_number_45 rfl (fun v23 s24 => ?_)
      refine r_aload_n (pc1 := 49) (i := 0) dX11_number_48 rfl rfl rfl ?_
      refine r_getR (pc1 := 52) w_0 gfX11_60 rfl dX11_number_49 rfl ?_
      refine r_iload_n (pc1 := 53) (i := 1) dX11_number_52 rfl rfl rfl ?_
      refine r_callVi (pc1 := 56) (rv_of w_39 cl_5) lkX11_246 (c_X5_sumOf _ _) rfl rfl ⟨Nat.le_of_ble_eq_true rfl, Nat.le_of_ble_eq_true rfl⟩ (Nat.le_of_ble_eq_true rfl) dX11_number_53 rfl (fun v25 s26 => ?_)
      refine r_istore (pc1 := 58) dX11_number_56 (by decide) rfl rfl rfl ?_
      refine r_iload_n (pc1 := 59) (i := 3) dX11_number_58 rfl rfl rfl ?_
      refine r_jn (hyp := fun (k30 : Int32 → Int32 → Int32 → Res) => ∀ (v27 : Int32) (v28 : Int32) (v29 : Int32), RC l wF RX11 cX11_number 8 (some .int) 7 101 [.ref 0, .int a1, .int a2, .int v27, .int v28, .int v29, .int v18, .null] [] s26 (k30 v27 v28 v29)) (fun v27 v28 v29 => ?_) (fun k30 hk30 => ?_)
      · refine r_iinc (pc1 := 104) dX11_number_101 rfl (kn_1 _) (by decide) rfl rfl rfl ?_
        refine r_goto (tgt := 29) dX11_number_104 (by decide) ?_
        exact r_wk (ih v27 v28 v29 (v18 + 1) s26) ⟨Or.inr rfl, Or.inr rfl, Or.inr rfl, Or.inr rfl, Or.inr rfl, Or.inr rfl, Or.inr rfl, Or.inl rfl, trivial⟩
      · refine r_jn (hyp := fun (k31 : Res) => RC l wF RX11 cX11_number 8 (some .int) 7 85 [.ref 0, .int a1, .int a2, .null, .null, .null, .int v18, .int v25] [] s26 k31) (?_) (fun k31 hk31 => ?_)
        · refine r_iload (pc1 := 87) dX11_number_85 rfl rfl ?_
          refine r_istore_n (pc1 := 88) (i := 3) dX11_number_87 rfl (by decide) rfl rfl rfl ?_
          refine r_iload (pc1 := 90) dX11_number_88 rfl rfl ?_
          refine r_istore (pc1 := 92) dX11_number_90 (by decide) rfl rfl rfl ?_
          refine r_aload_n (pc1 := 93) (i := 0) dX11_number_92 rfl rfl rfl ?_
          refine r_getR (pc1 := 96) w_0 gfX11_60 rfl dX11_number_93 rfl ?_
          refine r_getI (pc1 := 99) w_39 gfX11_245 rfl dX11_number_96 rfl ?_
          refine r_lt (fun v32 => ?_)
          refine r_istore (pc1 := 101) dX11_number_99 (by decide) rfl rfl rfl ?_
          exact r_wk (hk30 v18 v25 v32) ⟨Or.inr rfl, Or.inr rfl, Or.inr rfl, Or.inr rfl, Or.inr rfl, Or.inr rfl, Or.inr rfl, Or.inl rfl, trivial⟩
        · refine r_if_eq (tgt := 85) (pc1 := 62) dX11_number_59 (by decide) rfl (fun q33 => ?_) (fun q33 => ?_)
          · exact r_wk (hk31) ⟨Or.inr rfl, Or.inr rfl, Or.inr rfl, Or.inl rfl, Or.inl rfl, Or.inl rfl, Or.inr rfl, Or.inr rfl, trivial⟩
          · refine r_iload (pc1 := 64) dX11_number_62 rfl rfl ?_
            refine r_i2l (pc1 := 65) dX11_number_64 rfl ?_
            refine r_iload (pc1 := 67) dX11_number_65 rfl rfl ?_
            refine r_i2l (pc1 := 68) dX11_number_67 rfl ?_
            refine r_lmul (pc1 := 69) dX11_number_68 rfl ?_
            refine r_iload (pc1 := 71) dX11_number_69 rfl rfl ?_
            refine r_i2l (pc1 := 72) dX11_number_71 rfl ?_
            refine r_aload_n (pc1 := 73) (i := 0) dX11_number_72 rfl rfl rfl ?_
            refine r_getR (pc1 := 76) w_0 gfX11_60 rfl dX11_number_73 rfl ?_
            refine r_getI (pc1 := 79) w_39 gfX11_245 rfl dX11_number_76 rfl ?_
            refine r_i2l (pc1 := 80) dX11_number_79 rfl ?_
            refine r_lmul (pc1 := 81) dX11_number_80 rfl ?_
            refine r_lcmp (pc1 := 82) dX11_number_81 rfl ?_
            refine r_if_le (tgt := 101) (pc1 := 85) dX11_number_82 (by decide) rfl (fun q34 => ?_) (fun q34 => ?_)
            · exact r_wk (hk30 v15 v16 v17) ⟨Or.inr rfl, Or.inr rfl, Or.inr rfl, Or.inr rfl, Or.inr rfl, Or.inr rfl, Or.inr rfl, Or.inl rfl, trivial⟩
            · exact r_wk (hk31) ⟨Or.inr rfl, Or.inr rfl, Or.inr rfl, Or.inl rfl, Or.inl rfl, Or.inl rfl, Or.inr rfl, Or.inr rfl, trivial⟩
set_option maxRecDepth 100000 in
set_option maxHeartbeats 4000000 in
theorem c_X11_number {l : Launch} (a1 : Int32) (a2 : Int32) (s0 : SS) : Ct l wF yX11_number cX11_number 8 (some .int) 7 [.ref 0, .int a1, .int a2] s0 (f_X11_number a1 a2 s0) := by
  refine ct_of (y := yX11_number) plX11 (Nat.le_of_ble_eq_true rfl) ?_
  refine r_pad0 5 (L1 := [.ref 0, .int a1, .int a2, .null, .null, .null, .null, .null]) rfl ?_
  unfold f_X11_number
  refine r_iload_n (pc1 := 1) (i := 1) dX11_number_0 rfl rfl rfl ?_
  refine r_callSp (pc1 := 4) lkX11_142 (c_X11_isPerson _ _) rfl rfl ⟨Nat.le_of_ble_eq_true rfl, Nat.le_of_ble_eq_true rfl⟩ (Nat.le_of_ble_eq_true rfl) dX11_number_1 rfl (fun v1 => ?_)
  refine r_if_eq (tgt := 15) (pc1 := 7) dX11_number_4 (by decide) rfl (fun q2 => ?_) (fun q2 => ?_)
  · refine r_ldc (v := (-1000000)) (pc1 := 17) dX11_number_15 cnX11_191 rfl ?_
    exact r_iret rfl rfl dX11_number_17
  · refine r_iload_n (pc1 := 8) (i := 2) dX11_number_7 rfl rfl rfl ?_
    refine r_iconst (v := 2) (pc1 := 9) dX11_number_8 ki_2 rfl ?_
    refine r_callSp (pc1 := 12) lkX11_102 (c_X11_within _ _ _) rfl rfl ⟨Nat.le_of_ble_eq_true rfl, Nat.le_of_ble_eq_true rfl⟩ (Nat.le_of_ble_eq_true rfl) dX11_number_9 rfl (fun v3 => ?_)
    refine r_if_ne (tgt := 18) (pc1 := 15) dX11_number_12 (by decide) rfl (fun q4 => ?_) (fun q4 => ?_)
    · refine r_ldc (v := (-1000000)) (pc1 := 17) dX11_number_15 cnX11_191 rfl ?_
      exact r_iret rfl rfl dX11_number_17
    · refine r_iconst (v := 0) (pc1 := 19) dX11_number_18 ki_0 rfl ?_
      refine r_istore_n (pc1 := 20) (i := 3) dX11_number_19 rfl (by decide) rfl rfl rfl ?_
      refine r_iconst (v := 0) (pc1 := 21) dX11_number_20 ki_0 rfl ?_
      refine r_istore (pc1 := 23) dX11_number_21 (by decide) rfl rfl rfl ?_
      refine r_iconst (v := 1) (pc1 := 24) dX11_number_23 ki_1 rfl ?_
      refine r_istore (pc1 := 26) dX11_number_24 (by decide) rfl rfl rfl ?_
      refine r_iconst (v := 1) (pc1 := 27) dX11_number_26 ki_1 rfl ?_
      refine r_istore (pc1 := 29) dX11_number_27 (by decide) rfl rfl rfl ?_
      refine r_jn (hyp := fun (k9 : Int32 → Int32 → Int32 → SS → Res) => ∀ (v5 : Int32) (v6 : Int32) (v7 : Int32) (s8 : SS), RC l wF RX11 cX11_number 8 (some .int) 7 107 [.ref 0, .null, .int a2, .int v5, .int v6, .int v7, .null, .null] [] s8 (k9 v5 v6 v7 s8)) (fun v5 v6 v7 s8 => ?_) (fun k9 hk9 => ?_)
      · refine r_iload_n (pc1 := 108) (i := 2) dX11_number_107 rfl rfl rfl ?_
        refine r_if_ne (tgt := 113) (pc1 := 111) dX11_number_108 (by decide) rfl (fun q10 => ?_) (fun q10 => ?_)
        · refine r_iload_n (pc1 := 112) (i := 3) dX11_number_111 rfl rfl rfl ?_
          exact r_iret rfl rfl dX11_number_112
        · refine r_iload_n (pc1 := 114) (i := 2) dX11_number_113 rfl rfl rfl ?_
          refine r_iconst (v := 1) (pc1 := 115) dX11_number_114 ki_1 rfl ?_
          refine r_jn (hyp := fun (k12 : Int32 → Res) => ∀ (v11 : Int32), RC l wF RX11 cX11_number 8 (some .int) 7 125 [.ref 0, .null, .null, .null, .int v6, .int v7, .null, .null] [.int v11] s8 (k12 v11)) (fun v11 => ?_) (fun k12 hk12 => ?_)
          · refine r_iload (pc1 := 127) dX11_number_125 rfl rfl ?_
            refine r_iload (pc1 := 129) dX11_number_127 rfl rfl ?_
            refine r_callSp (pc1 := 132) lkX11_249 (c_X11_reduced _ _ _ _) rfl rfl ⟨Nat.le_of_ble_eq_true rfl, Nat.le_of_ble_eq_true rfl⟩ (Nat.le_of_ble_eq_true rfl) dX11_number_129 rfl (fun v13 => ?_)
            exact r_iret rfl rfl dX11_number_132
          · refine r_icmp_ne (tgt := 123) (pc1 := 118) dX11_number_115 (by decide) rfl (fun q14 => ?_) (fun q14 => ?_)
            · refine r_iload (pc1 := 120) dX11_number_118 rfl rfl ?_
              refine r_goto (tgt := 125) dX11_number_120 (by decide) ?_
              exact r_wk (hk12 v6) ⟨Or.inr rfl, Or.inl rfl, Or.inl rfl, Or.inl rfl, Or.inr rfl, Or.inr rfl, Or.inl rfl, Or.inl rfl, trivial⟩
            · refine r_iload (pc1 := 125) dX11_number_123 rfl rfl ?_
              exact r_wk (hk12 v7) ⟨Or.inr rfl, Or.inl rfl, Or.inl rfl, Or.inl rfl, Or.inr rfl, Or.inr rfl, Or.inl rfl, Or.inl rfl, trivial⟩
      · exact r_wk (t_lp_X11_number_29 a1 a2 k9 hk9 FU 0 0 1 1 s0) ⟨Or.inr rfl, Or.inr rfl, Or.inr rfl, Or.inr rfl, Or.inr rfl, Or.inr rfl, Or.inr rfl, Or.inl rfl, trivial⟩
/-! f_X11_deed -/
noncomputable def f_X11_deed (a1 : Int32) (a2 : Int32) (s0 : SS) : Res := if (a1 : Int32) < 0 then some (0, s0) else if (8 : Int32) ≤ (a1 : Int32) then some (0, s0) else bdp (f_X11_within a2 255 s0) (fun (v3 : Int32) => if (v3 : Int32) = 0 then some (0, s0) else gd (inb a1 8) (lts (up s0 54 (Int32.toNatClampNeg a1) a2) (fun (s5 : SS) => some (1, s5))))
set_option maxRecDepth 100000 in
set_option maxHeartbeats 4000000 in
theorem c_X11_deed {l : Launch} (a1 : Int32) (a2 : Int32) (s0 : SS) : Ct l wF yX11_deed cX11_deed 3 (some .boolean) 1 [.ref 0, .int a1, .int a2] s0 (f_X11_deed a1 a2 s0) := by
  refine ct_of (y := yX11_deed) plX11 (Nat.le_of_ble_eq_true rfl) ?_
  refine r_pad0 0 (L1 := [.ref 0, .int a1, .int a2]) rfl ?_
  unfold f_X11_deed
  refine r_iload_n (pc1 := 1) (i := 1) dX11_deed_0 rfl rfl rfl ?_
  refine r_if_lt (tgt := 20) (pc1 := 4) dX11_deed_1 (by decide) rfl (fun q1 => ?_) (fun q1 => ?_)
  · refine r_iconst (v := 0) (pc1 := 21) dX11_deed_20 ki_0 rfl ?_
    exact r_iret rfl rfl dX11_deed_21
  · refine r_iload_n (pc1 := 5) (i := 1) dX11_deed_4 rfl rfl rfl ?_
    refine r_bipush (v := 8) (pc1 := 7) dX11_deed_5 kb_8 rfl ?_
    refine r_icmp_ge (tgt := 20) (pc1 := 10) dX11_deed_7 (by decide) rfl (fun q2 => ?_) (fun q2 => ?_)
    · refine r_iconst (v := 0) (pc1 := 21) dX11_deed_20 ki_0 rfl ?_
      exact r_iret rfl rfl dX11_deed_21
    · refine r_iload_n (pc1 := 11) (i := 2) dX11_deed_10 rfl rfl rfl ?_
      refine r_sipush (v := 255) (pc1 := 14) dX11_deed_11 ks_255 rfl ?_
      refine r_callSp (pc1 := 17) lkX11_102 (c_X11_within _ _ _) rfl rfl ⟨Nat.le_of_ble_eq_true rfl, Nat.le_of_ble_eq_true rfl⟩ (Nat.le_of_ble_eq_true rfl) dX11_deed_14 rfl (fun v3 => ?_)
      refine r_if_ne (tgt := 22) (pc1 := 20) dX11_deed_17 (by decide) rfl (fun q4 => ?_) (fun q4 => ?_)
      · refine r_iconst (v := 0) (pc1 := 21) dX11_deed_20 ki_0 rfl ?_
        exact r_iret rfl rfl dX11_deed_21
      · refine r_aload_n (pc1 := 23) (i := 0) dX11_deed_22 rfl rfl rfl ?_
        refine r_getR (pc1 := 26) w_0 gfX11_95 rfl dX11_deed_23 rfl ?_
        refine r_iload_n (pc1 := 27) (i := 1) dX11_deed_26 rfl rfl rfl ?_
        refine r_iload_n (pc1 := 28) (i := 2) dX11_deed_27 rfl rfl rfl ?_
        refine r_iast (pc1 := 29) w_54 dX11_deed_28 rfl ?_
        refine r_lts (fun s5 => ?_)
        refine r_iconst (v := 1) (pc1 := 30) dX11_deed_29 ki_1 rfl ?_
        exact r_iret rfl rfl dX11_deed_30
/-! f_X11_lawful -/
noncomputable def f_X11_lawful (a1 : Int32) (s0 : SS) : Option Int32 := if (a1 : Int32) < 0 then some ((-1)) else if (a1 : Int32) < (8 : Int32) then gd (inb a1 8) (bdp (f_X10_holdingOn (s0 52 0) s0) (fun (v3 : Int32) => if ((s0 54 (Int32.toNatClampNeg a1)) &&& v3 : Int32) = 0 then some 1 else some 0)) else some ((-1))
set_option maxRecDepth 100000 in
set_option maxHeartbeats 4000000 in
theorem c_X11_lawful {l : Launch} (a1 : Int32) (s0 : SS) : Ct l wF yX11_lawful cX11_lawful 2 (some .int) 2 [.ref 0, .int a1] s0 (pu (f_X11_lawful a1 s0) s0) := by
  refine ct_of (y := yX11_lawful) plX11 (Nat.le_of_ble_eq_true rfl) ?_
  refine r_pad0 0 (L1 := [.ref 0, .int a1]) rfl ?_
  unfold f_X11_lawful
  refine r_iload_n (pc1 := 1) (i := 1) dX11_lawful_0 rfl rfl rfl ?_
  refine p_if_lt (tgt := 10) (pc1 := 4) dX11_lawful_1 (by decide) rfl (fun q1 => ?_) (fun q1 => ?_)
  · refine r_iconst (v := (-1)) (pc1 := 11) dX11_lawful_10 ki_m1 rfl ?_
    exact p_iret rfl rfl dX11_lawful_11
  · refine r_iload_n (pc1 := 5) (i := 1) dX11_lawful_4 rfl rfl rfl ?_
    refine r_bipush (v := 8) (pc1 := 7) dX11_lawful_5 kb_8 rfl ?_
    refine p_icmp_lt (tgt := 12) (pc1 := 10) dX11_lawful_7 (by decide) rfl (fun q2 => ?_) (fun q2 => ?_)
    · refine r_aload_n (pc1 := 13) (i := 0) dX11_lawful_12 rfl rfl rfl ?_
      refine r_getR (pc1 := 16) w_0 gfX11_95 rfl dX11_lawful_13 rfl ?_
      refine r_iload_n (pc1 := 17) (i := 1) dX11_lawful_16 rfl rfl rfl ?_
      refine p_iald (pc1 := 18) w_54 dX11_lawful_17 rfl ?_
      refine r_aload_n (pc1 := 19) (i := 0) dX11_lawful_18 rfl rfl rfl ?_
      refine r_getR (pc1 := 22) w_0 gfX11_42 rfl dX11_lawful_19 rfl ?_
      refine r_aload_n (pc1 := 23) (i := 0) dX11_lawful_22 rfl rfl rfl ?_
      refine r_getR (pc1 := 26) w_0 gfX11_88 rfl dX11_lawful_23 rfl ?_
      refine r_getI (pc1 := 29) w_52 gfX11_122 rfl dX11_lawful_26 rfl ?_
      refine p_callVp (pc1 := 32) (rv_of w_27 cl_10) lkX11_185 (c_X10_holdingOn _ _) rfl rfl ⟨Nat.le_of_ble_eq_true rfl, Nat.le_of_ble_eq_true rfl⟩ (Nat.le_of_ble_eq_true rfl) dX11_lawful_29 rfl (fun v3 => ?_)
      refine r_iand (pc1 := 33) dX11_lawful_32 rfl ?_
      refine p_if_ne (tgt := 40) (pc1 := 36) dX11_lawful_33 (by decide) rfl (fun q4 => ?_) (fun q4 => ?_)
      · refine r_iconst (v := 1) (pc1 := 37) dX11_lawful_36 ki_1 rfl ?_
        refine r_goto (tgt := 41) dX11_lawful_37 (by decide) ?_
        exact p_iret rfl rfl dX11_lawful_41
      · refine r_iconst (v := 0) (pc1 := 41) dX11_lawful_40 ki_0 rfl ?_
        exact p_iret rfl rfl dX11_lawful_41
    · refine r_iconst (v := (-1)) (pc1 := 11) dX11_lawful_10 ki_m1 rfl ?_
      exact p_iret rfl rfl dX11_lawful_11
/-! f_X11_toldDeedsAreFine -/
noncomputable def lp_X11_toldDeedsAreFine_2 (a1 : Int32) (s0 : SS) : Nat → Int32 → Option Int32
  | 0, _ => none
  | n2 + 1, v1 => if (a1 : Int32) ≤ (v1 : Int32) then some 1 else bdp (f_X9_byteOn (2 * v1) s0) (fun (v4 : Int32) => bdp (f_X11_within v4 7 s0) (fun (v5 : Int32) => if (v5 : Int32) = 0 then some 0 else bdp (f_X9_byteOn ((2 * v1) + 1) s0) (fun (v7 : Int32) => bdp (f_X11_within v7 1 s0) (fun (v8 : Int32) => if (v8 : Int32) = 0 then some 0 else lp_X11_toldDeedsAreFine_2 a1 s0 n2 (v1 + 1)))))
noncomputable def f_X11_toldDeedsAreFine (a1 : Int32) (s0 : SS) : Option Int32 := lp_X11_toldDeedsAreFine_2 a1 s0 FU 0
set_option maxRecDepth 100000 in
set_option maxHeartbeats 4000000 in
theorem t_lp_X11_toldDeedsAreFine_2 {l : Launch} (a1 : Int32) (s0 : SS)  : ∀ (n2 : Nat) (v1 : Int32), RC l wF RX11 cX11_toldDeedsAreFine 3 (some .boolean) 1 2 [.ref 0, .int a1, .int v1] [] s0 (pu (lp_X11_toldDeedsAreFine_2 a1 s0 n2 v1) s0) := by
  intro n2
  induction n2 with
  | zero =>
    intro v1
    rw [lp_X11_toldDeedsAreFine_2]
    exact p_none
  | succ n2 ih =>
    intro v1
    rw [lp_X11_toldDeedsAreFine_2]
    refine r_iload_n (pc1 := 3) (i := 2) dX11_toldDeedsAreFine_2 rfl rfl rfl ?_
    refine r_iload_n (pc1 := 4) (i := 1) dX11_toldDeedsAreFine_3 rfl rfl rfl ?_
    refine p_icmp_ge (tgt := 52) (pc1 := 7) dX11_toldDeedsAreFine_4 (by decide) rfl (fun q3 => ?_) (fun q3 => ?_)
    · refine r_iconst (v := 1) (pc1 := 53) dX11_toldDeedsAreFine_52 ki_1 rfl ?_
      exact p_iret rfl rfl dX11_toldDeedsAreFine_53
    · refine r_aload_n (pc1 := 8) (i := 0) dX11_toldDeedsAreFine_7 rfl rfl rfl ?_
      refine r_getR (pc1 := 11) w_0 gfX11_10 rfl dX11_toldDeedsAreFine_8 rfl ?_
      refine r_iconst (v := 2) (pc1 := 12) dX11_toldDeedsAreFine_11 ki_2 rfl ?_
      refine r_iload_n (pc1 := 13) (i := 2) dX11_toldDeedsAreFine_12 rfl rfl rfl ?_
      refine r_imul (pc1 := 14) dX11_toldDeedsAreFine_13 rfl ?_
      refine p_callVp (pc1 := 17) (rv_of w_1 cl_9) lkX11_303 (c_X9_byteOn _ _) rfl rfl ⟨Nat.le_of_ble_eq_true rfl, Nat.le_of_ble_eq_true rfl⟩ (Nat.le_of_ble_eq_true rfl) dX11_toldDeedsAreFine_14 rfl (fun v4 => ?_)
      refine r_bipush (v := 7) (pc1 := 19) dX11_toldDeedsAreFine_17 kb_7 rfl ?_
      refine p_callSp (pc1 := 22) lkX11_102 (c_X11_within _ _ _) rfl rfl ⟨Nat.le_of_ble_eq_true rfl, Nat.le_of_ble_eq_true rfl⟩ (Nat.le_of_ble_eq_true rfl) dX11_toldDeedsAreFine_19 rfl (fun v5 => ?_)
      refine p_if_eq (tgt := 44) (pc1 := 25) dX11_toldDeedsAreFine_22 (by decide) rfl (fun q6 => ?_) (fun q6 => ?_)
      · refine r_iconst (v := 0) (pc1 := 45) dX11_toldDeedsAreFine_44 ki_0 rfl ?_
        exact p_iret rfl rfl dX11_toldDeedsAreFine_45
      · refine r_aload_n (pc1 := 26) (i := 0) dX11_toldDeedsAreFine_25 rfl rfl rfl ?_
        refine r_getR (pc1 := 29) w_0 gfX11_10 rfl dX11_toldDeedsAreFine_26 rfl ?_
        refine r_iconst (v := 2) (pc1 := 30) dX11_toldDeedsAreFine_29 ki_2 rfl ?_
        refine r_iload_n (pc1 := 31) (i := 2) dX11_toldDeedsAreFine_30 rfl rfl rfl ?_
        refine r_imul (pc1 := 32) dX11_toldDeedsAreFine_31 rfl ?_
        refine r_iconst (v := 1) (pc1 := 33) dX11_toldDeedsAreFine_32 ki_1 rfl ?_
        refine r_iadd (pc1 := 34) dX11_toldDeedsAreFine_33 rfl ?_
        refine p_callVp (pc1 := 37) (rv_of w_1 cl_9) lkX11_303 (c_X9_byteOn _ _) rfl rfl ⟨Nat.le_of_ble_eq_true rfl, Nat.le_of_ble_eq_true rfl⟩ (Nat.le_of_ble_eq_true rfl) dX11_toldDeedsAreFine_34 rfl (fun v7 => ?_)
        refine r_iconst (v := 1) (pc1 := 38) dX11_toldDeedsAreFine_37 ki_1 rfl ?_
        refine p_callSp (pc1 := 41) lkX11_102 (c_X11_within _ _ _) rfl rfl ⟨Nat.le_of_ble_eq_true rfl, Nat.le_of_ble_eq_true rfl⟩ (Nat.le_of_ble_eq_true rfl) dX11_toldDeedsAreFine_38 rfl (fun v8 => ?_)
        refine p_if_ne (tgt := 46) (pc1 := 44) dX11_toldDeedsAreFine_41 (by decide) rfl (fun q9 => ?_) (fun q9 => ?_)
        · refine r_iconst (v := 0) (pc1 := 45) dX11_toldDeedsAreFine_44 ki_0 rfl ?_
          exact p_iret rfl rfl dX11_toldDeedsAreFine_45
        · refine r_iinc (pc1 := 49) dX11_toldDeedsAreFine_46 rfl (kn_1 _) (by decide) rfl rfl rfl ?_
          refine r_goto (tgt := 2) dX11_toldDeedsAreFine_49 (by decide) ?_
          exact r_wk (ih (v1 + 1)) ⟨Or.inr rfl, Or.inr rfl, Or.inr rfl, trivial⟩
set_option maxRecDepth 100000 in
set_option maxHeartbeats 4000000 in
theorem c_X11_toldDeedsAreFine {l : Launch} (a1 : Int32) (s0 : SS) : Ct l wF yX11_toldDeedsAreFine cX11_toldDeedsAreFine 3 (some .boolean) 1 [.ref 0, .int a1] s0 (pu (f_X11_toldDeedsAreFine a1 s0) s0) := by
  refine ct_of (y := yX11_toldDeedsAreFine) plX11 (Nat.le_of_ble_eq_true rfl) ?_
  refine r_pad0 1 (L1 := [.ref 0, .int a1, .null]) rfl ?_
  unfold f_X11_toldDeedsAreFine
  refine r_iconst (v := 0) (pc1 := 1) dX11_toldDeedsAreFine_0 ki_0 rfl ?_
  refine r_istore_n (pc1 := 2) (i := 2) dX11_toldDeedsAreFine_1 rfl (by decide) rfl rfl rfl ?_
  exact r_wk (t_lp_X11_toldDeedsAreFine_2 a1 s0 FU 0) ⟨Or.inr rfl, Or.inr rfl, Or.inr rfl, trivial⟩
/-! f_X11_fitsTold -/
noncomputable def lp_X11_fitsTold_2 (a1 : Int32) (a2 : Int32) (s0 : SS) : Nat → Int32 → Option Int32
  | 0, _ => none
  | n2 + 1, v1 => if (a2 : Int32) ≤ (v1 : Int32) then some 1 else bdp (f_X9_byteOn (2 * v1) s0) (fun (v4 : Int32) => if (v4 : Int32) < 0 then some 0 else if (v4 : Int32) < (8 : Int32) then gd (inb v4 8) (jn (fun (v7 : Int32) => bdp (f_X9_byteOn ((2 * v1) + 1) s0) (fun (v9 : Int32) => if (v7 : Int32) = (v9 : Int32) then lp_X11_fitsTold_2 a1 a2 s0 n2 (v1 + 1) else some 0)) (fun (k8 : Int32 → Option Int32) => if ((s0 54 (Int32.toNatClampNeg v4)) &&& a1 : Int32) = 0 then k8 1 else k8 0)) else some 0)
noncomputable def f_X11_fitsTold (a1 : Int32) (a2 : Int32) (s0 : SS) : Option Int32 := lp_X11_fitsTold_2 a1 a2 s0 FU 0
set_option maxRecDepth 100000 in
set_option maxHeartbeats 4000000 in
theorem t_lp_X11_fitsTold_2 {l : Launch} (a1 : Int32) (a2 : Int32) (s0 : SS)  : ∀ (n2 : Nat) (v1 : Int32), RC l wF RX11 cX11_fitsTold 6 (some .boolean) 1 2 [.ref 0, .int a1, .int a2, .int v1, .null, .null] [] s0 (pu (lp_X11_fitsTold_2 a1 a2 s0 n2 v1) s0) := by
  intro n2
  induction n2 with
  | zero =>
    intro v1
    rw [lp_X11_fitsTold_2]
    exact p_none
  | succ n2 ih =>
    intro v1
    rw [lp_X11_fitsTold_2]
    refine r_iload_n (pc1 := 3) (i := 3) dX11_fitsTold_2 rfl rfl rfl ?_
    refine r_iload_n (pc1 := 4) (i := 2) dX11_fitsTold_3 rfl rfl rfl ?_
    refine p_icmp_ge (tgt := 77) (pc1 := 7) dX11_fitsTold_4 (by decide) rfl (fun q3 => ?_) (fun q3 => ?_)
    · refine r_iconst (v := 1) (pc1 := 78) dX11_fitsTold_77 ki_1 rfl ?_
      exact p_iret rfl rfl dX11_fitsTold_78
    · refine r_aload_n (pc1 := 8) (i := 0) dX11_fitsTold_7 rfl rfl rfl ?_
      refine r_getR (pc1 := 11) w_0 gfX11_10 rfl dX11_fitsTold_8 rfl ?_
      refine r_iconst (v := 2) (pc1 := 12) dX11_fitsTold_11 ki_2 rfl ?_
      refine r_iload_n (pc1 := 13) (i := 3) dX11_fitsTold_12 rfl rfl rfl ?_
      refine r_imul (pc1 := 14) dX11_fitsTold_13 rfl ?_
      refine p_callVp (pc1 := 17) (rv_of w_1 cl_9) lkX11_303 (c_X9_byteOn _ _) rfl rfl ⟨Nat.le_of_ble_eq_true rfl, Nat.le_of_ble_eq_true rfl⟩ (Nat.le_of_ble_eq_true rfl) dX11_fitsTold_14 rfl (fun v4 => ?_)
      refine r_istore (pc1 := 19) dX11_fitsTold_17 (by decide) rfl rfl rfl ?_
      refine r_iload (pc1 := 21) dX11_fitsTold_19 rfl rfl ?_
      refine p_if_lt (tgt := 31) (pc1 := 24) dX11_fitsTold_21 (by decide) rfl (fun q5 => ?_) (fun q5 => ?_)
      · refine r_iconst (v := 0) (pc1 := 32) dX11_fitsTold_31 ki_0 rfl ?_
        exact p_iret rfl rfl dX11_fitsTold_32
      · refine r_iload (pc1 := 26) dX11_fitsTold_24 rfl rfl ?_
        refine r_bipush (v := 8) (pc1 := 28) dX11_fitsTold_26 kb_8 rfl ?_
        refine p_icmp_lt (tgt := 33) (pc1 := 31) dX11_fitsTold_28 (by decide) rfl (fun q6 => ?_) (fun q6 => ?_)
        · refine r_aload_n (pc1 := 34) (i := 0) dX11_fitsTold_33 rfl rfl rfl ?_
          refine r_getR (pc1 := 37) w_0 gfX11_95 rfl dX11_fitsTold_34 rfl ?_
          refine r_iload (pc1 := 39) dX11_fitsTold_37 rfl rfl ?_
          refine p_iald (pc1 := 40) w_54 dX11_fitsTold_39 rfl ?_
          refine r_iload_n (pc1 := 41) (i := 1) dX11_fitsTold_40 rfl rfl rfl ?_
          refine r_iand (pc1 := 42) dX11_fitsTold_41 rfl ?_
          refine p_jn (hyp := fun (k8 : Int32 → Option Int32) => ∀ (v7 : Int32), RC l wF RX11 cX11_fitsTold 6 (some .boolean) 1 50 [.ref 0, .int a1, .int a2, .int v1, .null, .null] [.int v7] s0 (pu (k8 v7) s0)) (fun v7 => ?_) (fun k8 hk8 => ?_)
          · refine r_istore (pc1 := 52) dX11_fitsTold_50 (by decide) rfl rfl rfl ?_
            refine r_iload (pc1 := 54) dX11_fitsTold_52 rfl rfl ?_
            refine r_aload_n (pc1 := 55) (i := 0) dX11_fitsTold_54 rfl rfl rfl ?_
            refine r_getR (pc1 := 58) w_0 gfX11_10 rfl dX11_fitsTold_55 rfl ?_
            refine r_iconst (v := 2) (pc1 := 59) dX11_fitsTold_58 ki_2 rfl ?_
            refine r_iload_n (pc1 := 60) (i := 3) dX11_fitsTold_59 rfl rfl rfl ?_
            refine r_imul (pc1 := 61) dX11_fitsTold_60 rfl ?_
            refine r_iconst (v := 1) (pc1 := 62) dX11_fitsTold_61 ki_1 rfl ?_
            refine r_iadd (pc1 := 63) dX11_fitsTold_62 rfl ?_
            refine p_callVp (pc1 := 66) (rv_of w_1 cl_9) lkX11_303 (c_X9_byteOn _ _) rfl rfl ⟨Nat.le_of_ble_eq_true rfl, Nat.le_of_ble_eq_true rfl⟩ (Nat.le_of_ble_eq_true rfl) dX11_fitsTold_63 rfl (fun v9 => ?_)
            refine p_icmp_eq (tgt := 71) (pc1 := 69) dX11_fitsTold_66 (by decide) rfl (fun q10 => ?_) (fun q10 => ?_)
            · refine r_iinc (pc1 := 74) dX11_fitsTold_71 rfl (kn_1 _) (by decide) rfl rfl rfl ?_
              refine r_goto (tgt := 2) dX11_fitsTold_74 (by decide) ?_
              exact r_wk (ih (v1 + 1)) ⟨Or.inr rfl, Or.inr rfl, Or.inr rfl, Or.inr rfl, Or.inl rfl, Or.inl rfl, trivial⟩
            · refine r_iconst (v := 0) (pc1 := 70) dX11_fitsTold_69 ki_0 rfl ?_
              exact p_iret rfl rfl dX11_fitsTold_70
          · refine p_if_ne (tgt := 49) (pc1 := 45) dX11_fitsTold_42 (by decide) rfl (fun q11 => ?_) (fun q11 => ?_)
            · refine r_iconst (v := 1) (pc1 := 46) dX11_fitsTold_45 ki_1 rfl ?_
              refine r_goto (tgt := 50) dX11_fitsTold_46 (by decide) ?_
              exact r_wk (hk8 1) ⟨Or.inr rfl, Or.inr rfl, Or.inr rfl, Or.inr rfl, Or.inl rfl, Or.inl rfl, trivial⟩
            · refine r_iconst (v := 0) (pc1 := 50) dX11_fitsTold_49 ki_0 rfl ?_
              exact r_wk (hk8 0) ⟨Or.inr rfl, Or.inr rfl, Or.inr rfl, Or.inr rfl, Or.inl rfl, Or.inl rfl, trivial⟩
        · refine r_iconst (v := 0) (pc1 := 32) dX11_fitsTold_31 ki_0 rfl ?_
          exact p_iret rfl rfl dX11_fitsTold_32
set_option maxRecDepth 100000 in
set_option maxHeartbeats 4000000 in
theorem c_X11_fitsTold {l : Launch} (a1 : Int32) (a2 : Int32) (s0 : SS) : Ct l wF yX11_fitsTold cX11_fitsTold 6 (some .boolean) 1 [.ref 0, .int a1, .int a2] s0 (pu (f_X11_fitsTold a1 a2 s0) s0) := by
  refine ct_of (y := yX11_fitsTold) plX11 (Nat.le_of_ble_eq_true rfl) ?_
  refine r_pad0 3 (L1 := [.ref 0, .int a1, .int a2, .null, .null, .null]) rfl ?_
  unfold f_X11_fitsTold
  refine r_iconst (v := 0) (pc1 := 1) dX11_fitsTold_0 ki_0 rfl ?_
  refine r_istore_n (pc1 := 2) (i := 3) dX11_fitsTold_1 rfl (by decide) rfl rfl rfl ?_
  exact r_wk (t_lp_X11_fitsTold_2 a1 a2 s0 FU 0) ⟨Or.inr rfl, Or.inr rfl, Or.inr rfl, Or.inr rfl, Or.inl rfl, Or.inl rfl, trivial⟩
/-! f_X11_reckonFits -/
noncomputable def lp_X11_reckonFits_40 (a1 : Int32) (a2 : Int32) (s0 : SS) (v2 : Int32) (k7 : Int32 → Int32 → Int32 → Option Int32) : Nat → Int32 → Int32 → Int32 → Int32 → Option Int32
  | 0, _, _, _, _ => none
  | n16 + 1, v12, v13, v14, v15 => if (v2 : Int32) ≤ (v15 : Int32) then k7 v12 v13 v14 else bdp (f_X10_isOfLaws v15 s0) (fun (v18 : Int32) => jn (fun (v19 : Int32) (v20 : Int32) (v21 : Int32) => lp_X11_reckonFits_40 a1 a2 s0 v2 k7 n16 v19 v20 v21 (v15 + 1)) (fun (k22 : Int32 → Int32 → Int32 → Option Int32) => if (v18 : Int32) = 0 then k22 v12 v13 v14 else bdp (f_X10_holdingOn v15 s0) (fun (v24 : Int32) => bdp (f_X11_fitsTold v24 a1 s0) (fun (v25 : Int32) => if (v25 : Int32) = 0 then k22 v12 v13 v14 else bdp (f_X6_standingOn v15 s0) (fun (v27 : Int32) => lt (v13 &&& v27) (fun (v28 : Int32) => bdp (f_X6_standingOn v15 s0) (fun (v29 : Int32) => lt (v14 ||| v29) (fun (v30 : Int32) => k22 (v12 + 1) v28 v30))))))))
noncomputable def f_X11_reckonFits (a1 : Int32) (a2 : Int32) (s0 : SS) : Option Int32 := bdp (f_X6_lengthOf (s0 52 0) s0) (fun (v1 : Int32) => bdp (f_X6_bareOf (v1 + 1) s0) (fun (v2 : Int32) => bdp (f_X6_firstFullOf v1 s0) (fun (v3 : Int32) => jn (fun (v4 : Int32) (v5 : Int32) (v6 : Int32) => if (a2 : Int32) = 0 then some v4 else if (v4 : Int32) = 0 then some v4 else if (a2 : Int32) = (1 : Int32) then some v5 else bdp (f_X10_allLaws s0) (fun (v11 : Int32) => some (v11 &&& (v6 ^^^ ((-1)))))) (fun (k7 : Int32 → Int32 → Int32 → Option Int32) => lp_X11_reckonFits_40 a1 a2 s0 v2 k7 FU 0 255 0 v3))))
set_option maxRecDepth 100000 in
set_option maxHeartbeats 4000000 in
theorem t_lp_X11_reckonFits_40 {l : Launch} (a1 : Int32) (a2 : Int32) (s0 : SS) (v2 : Int32) (k7 : Int32 → Int32 → Int32 → Option Int32) (hk7 : ∀ (v4 : Int32) (v5 : Int32) (v6 : Int32), RC l wF RX11 cX11_reckonFits 9 (some .int) 2 113 [.ref 0, .null, .int a2, .null, .int v4, .int v5, .int v6, .null, .null] [] s0 (pu (k7 v4 v5 v6) s0)) : ∀ (n16 : Nat) (v12 : Int32) (v13 : Int32) (v14 : Int32) (v15 : Int32), RC l wF RX11 cX11_reckonFits 9 (some .int) 2 40 [.ref 0, .int a1, .int a2, .null, .int v12, .int v13, .int v14, .int v2, .int v15] [] s0 (pu (lp_X11_reckonFits_40 a1 a2 s0 v2 k7 n16 v12 v13 v14 v15) s0) := by
  intro n16
  induction n16 with
  | zero =>
    intro v12 v13 v14 v15
    rw [lp_X11_reckonFits_40]
    exact p_none
  | succ n16 ih =>
    intro v12 v13 v14 v15
    rw [lp_X11_reckonFits_40]
    refine r_iload (pc1 := 42) dX11_reckonFits_40 rfl rfl ?_
    refine r_iload (pc1 := 44) dX11_reckonFits_42 rfl rfl ?_
    refine p_icmp_ge (tgt := 113) (pc1 := 47) dX11_reckonFits_44 (by decide) rfl (fun q17 => ?_) (fun q17 => ?_)
    · exact r_wk (hk7 v12 v13 v14) ⟨Or.inr rfl, Or.inl rfl, Or.inr rfl, Or.inl rfl, Or.inr rfl, Or.inr rfl, Or.inr rfl, Or.inl rfl, Or.inl rfl, trivial⟩
    · refine r_aload_n (pc1 := 48) (i := 0) dX11_reckonFits_47 rfl rfl rfl ?_
      refine r_getR (pc1 := 51) w_0 gfX11_42 rfl dX11_reckonFits_48 rfl ?_
      refine r_iload (pc1 := 53) dX11_reckonFits_51 rfl rfl ?_
      refine p_callVp (pc1 := 56) (rv_of w_27 cl_10) lkX11_283 (c_X10_isOfLaws _ _) rfl rfl ⟨Nat.le_of_ble_eq_true rfl, Nat.le_of_ble_eq_true rfl⟩ (Nat.le_of_ble_eq_true rfl) dX11_reckonFits_53 rfl (fun v18 => ?_)
      refine p_jn (hyp := fun (k22 : Int32 → Int32 → Int32 → Option Int32) => ∀ (v19 : Int32) (v20 : Int32) (v21 : Int32), RC l wF RX11 cX11_reckonFits 9 (some .int) 2 107 [.ref 0, .int a1, .int a2, .null, .int v19, .int v20, .int v21, .int v2, .int v15] [] s0 (pu (k22 v19 v20 v21) s0)) (fun v19 v20 v21 => ?_) (fun k22 hk22 => ?_)
      · refine r_iinc (pc1 := 110) dX11_reckonFits_107 rfl (kn_1 _) (by decide) rfl rfl rfl ?_
        refine r_goto (tgt := 40) dX11_reckonFits_110 (by decide) ?_
        exact r_wk (ih v19 v20 v21 (v15 + 1)) ⟨Or.inr rfl, Or.inr rfl, Or.inr rfl, Or.inl rfl, Or.inr rfl, Or.inr rfl, Or.inr rfl, Or.inr rfl, Or.inr rfl, trivial⟩
      · refine p_if_eq (tgt := 107) (pc1 := 59) dX11_reckonFits_56 (by decide) rfl (fun q23 => ?_) (fun q23 => ?_)
        · exact r_wk (hk22 v12 v13 v14) ⟨Or.inr rfl, Or.inr rfl, Or.inr rfl, Or.inl rfl, Or.inr rfl, Or.inr rfl, Or.inr rfl, Or.inr rfl, Or.inr rfl, trivial⟩
        · refine r_aload_n (pc1 := 60) (i := 0) dX11_reckonFits_59 rfl rfl rfl ?_
          refine r_aload_n (pc1 := 61) (i := 0) dX11_reckonFits_60 rfl rfl rfl ?_
          refine r_getR (pc1 := 64) w_0 gfX11_42 rfl dX11_reckonFits_61 rfl ?_
          refine r_iload (pc1 := 66) dX11_reckonFits_64 rfl rfl ?_
          refine p_callVp (pc1 := 69) (rv_of w_27 cl_10) lkX11_185 (c_X10_holdingOn _ _) rfl rfl ⟨Nat.le_of_ble_eq_true rfl, Nat.le_of_ble_eq_true rfl⟩ (Nat.le_of_ble_eq_true rfl) dX11_reckonFits_66 rfl (fun v24 => ?_)
          refine r_iload_n (pc1 := 70) (i := 1) dX11_reckonFits_69 rfl rfl rfl ?_
          refine p_callVp (pc1 := 73) (rv_of w_0 cl_11) lkX11_306 (c_X11_fitsTold _ _ _) rfl rfl ⟨Nat.le_of_ble_eq_true rfl, Nat.le_of_ble_eq_true rfl⟩ (Nat.le_of_ble_eq_true rfl) dX11_reckonFits_70 rfl (fun v25 => ?_)
          refine p_if_eq (tgt := 107) (pc1 := 76) dX11_reckonFits_73 (by decide) rfl (fun q26 => ?_) (fun q26 => ?_)
          · exact r_wk (hk22 v12 v13 v14) ⟨Or.inr rfl, Or.inr rfl, Or.inr rfl, Or.inl rfl, Or.inr rfl, Or.inr rfl, Or.inr rfl, Or.inr rfl, Or.inr rfl, trivial⟩
          · refine r_iinc (pc1 := 79) dX11_reckonFits_76 rfl (kn_1 _) (by decide) rfl rfl rfl ?_
            refine r_iload (pc1 := 81) dX11_reckonFits_79 rfl rfl ?_
            refine r_aload_n (pc1 := 82) (i := 0) dX11_reckonFits_81 rfl rfl rfl ?_
            refine r_getR (pc1 := 85) w_0 gfX11_19 rfl dX11_reckonFits_82 rfl ?_
            refine r_iload (pc1 := 87) dX11_reckonFits_85 rfl rfl ?_
            refine p_callVp (pc1 := 90) (rv_of w_3 cl_6) lkX11_286 (c_X6_standingOn w_3 w_4 w_8 _ _) rfl rfl ⟨Nat.le_of_ble_eq_true rfl, Nat.le_of_ble_eq_true rfl⟩ (Nat.le_of_ble_eq_true rfl) dX11_reckonFits_87 rfl (fun v27 => ?_)
            refine r_iand (pc1 := 91) dX11_reckonFits_90 rfl ?_
            refine p_lt (fun v28 => ?_)
            refine r_istore (pc1 := 93) dX11_reckonFits_91 (by decide) rfl rfl rfl ?_
            refine r_iload (pc1 := 95) dX11_reckonFits_93 rfl rfl ?_
            refine r_aload_n (pc1 := 96) (i := 0) dX11_reckonFits_95 rfl rfl rfl ?_
            refine r_getR (pc1 := 99) w_0 gfX11_19 rfl dX11_reckonFits_96 rfl ?_
            refine r_iload (pc1 := 101) dX11_reckonFits_99 rfl rfl ?_
            refine p_callVp (pc1 := 104) (rv_of w_3 cl_6) lkX11_286 (c_X6_standingOn w_3 w_4 w_8 _ _) rfl rfl ⟨Nat.le_of_ble_eq_true rfl, Nat.le_of_ble_eq_true rfl⟩ (Nat.le_of_ble_eq_true rfl) dX11_reckonFits_101 rfl (fun v29 => ?_)
            refine r_ior (pc1 := 105) dX11_reckonFits_104 rfl ?_
            refine p_lt (fun v30 => ?_)
            refine r_istore (pc1 := 107) dX11_reckonFits_105 (by decide) rfl rfl rfl ?_
            exact r_wk (hk22 (v12 + 1) v28 v30) ⟨Or.inr rfl, Or.inr rfl, Or.inr rfl, Or.inl rfl, Or.inr rfl, Or.inr rfl, Or.inr rfl, Or.inr rfl, Or.inr rfl, trivial⟩
set_option maxRecDepth 100000 in
set_option maxHeartbeats 4000000 in
theorem c_X11_reckonFits {l : Launch} (a1 : Int32) (a2 : Int32) (s0 : SS) : Ct l wF yX11_reckonFits cX11_reckonFits 9 (some .int) 2 [.ref 0, .int a1, .int a2] s0 (pu (f_X11_reckonFits a1 a2 s0) s0) := by
  refine ct_of (y := yX11_reckonFits) plX11 (Nat.le_of_ble_eq_true rfl) ?_
  refine r_pad0 6 (L1 := [.ref 0, .int a1, .int a2, .null, .null, .null, .null, .null, .null]) rfl ?_
  unfold f_X11_reckonFits
  refine r_aload_n (pc1 := 1) (i := 0) dX11_reckonFits_0 rfl rfl rfl ?_
  refine r_getR (pc1 := 4) w_0 gfX11_19 rfl dX11_reckonFits_1 rfl ?_
  refine r_aload_n (pc1 := 5) (i := 0) dX11_reckonFits_4 rfl rfl rfl ?_
  refine r_getR (pc1 := 8) w_0 gfX11_88 rfl dX11_reckonFits_5 rfl ?_
  refine r_getI (pc1 := 11) w_52 gfX11_122 rfl dX11_reckonFits_8 rfl ?_
  refine p_callVp (pc1 := 14) (rv_of w_3 cl_6) lkX11_277 (c_X6_lengthOf w_3 w_4 w_8 _ _) rfl rfl ⟨Nat.le_of_ble_eq_true rfl, Nat.le_of_ble_eq_true rfl⟩ (Nat.le_of_ble_eq_true rfl) dX11_reckonFits_11 rfl (fun v1 => ?_)
  refine r_istore_n (pc1 := 15) (i := 3) dX11_reckonFits_14 rfl (by decide) rfl rfl rfl ?_
  refine r_iconst (v := 0) (pc1 := 16) dX11_reckonFits_15 ki_0 rfl ?_
  refine r_istore (pc1 := 18) dX11_reckonFits_16 (by decide) rfl rfl rfl ?_
  refine r_sipush (v := 255) (pc1 := 21) dX11_reckonFits_18 ks_255 rfl ?_
  refine r_istore (pc1 := 23) dX11_reckonFits_21 (by decide) rfl rfl rfl ?_
  refine r_iconst (v := 0) (pc1 := 24) dX11_reckonFits_23 ki_0 rfl ?_
  refine r_istore (pc1 := 26) dX11_reckonFits_24 (by decide) rfl rfl rfl ?_
  refine r_iload_n (pc1 := 27) (i := 3) dX11_reckonFits_26 rfl rfl rfl ?_
  refine r_iconst (v := 1) (pc1 := 28) dX11_reckonFits_27 ki_1 rfl ?_
  refine r_iadd (pc1 := 29) dX11_reckonFits_28 rfl ?_
  refine p_callSp (pc1 := 32) lkX11_118 (c_X6_bareOf w_3 w_4 w_8 _ _) rfl rfl ⟨Nat.le_of_ble_eq_true rfl, Nat.le_of_ble_eq_true rfl⟩ (Nat.le_of_ble_eq_true rfl) dX11_reckonFits_29 rfl (fun v2 => ?_)
  refine r_istore (pc1 := 34) dX11_reckonFits_32 (by decide) rfl rfl rfl ?_
  refine r_iload_n (pc1 := 35) (i := 3) dX11_reckonFits_34 rfl rfl rfl ?_
  refine p_callSp (pc1 := 38) lkX11_280 (c_X6_firstFullOf w_3 w_4 w_8 _ _) rfl rfl ⟨Nat.le_of_ble_eq_true rfl, Nat.le_of_ble_eq_true rfl⟩ (Nat.le_of_ble_eq_true rfl) dX11_reckonFits_35 rfl (fun v3 => ?_)
  refine r_istore (pc1 := 40) dX11_reckonFits_38 (by decide) rfl rfl rfl ?_
  refine p_jn (hyp := fun (k7 : Int32 → Int32 → Int32 → Option Int32) => ∀ (v4 : Int32) (v5 : Int32) (v6 : Int32), RC l wF RX11 cX11_reckonFits 9 (some .int) 2 113 [.ref 0, .null, .int a2, .null, .int v4, .int v5, .int v6, .null, .null] [] s0 (pu (k7 v4 v5 v6) s0)) (fun v4 v5 v6 => ?_) (fun k7 hk7 => ?_)
  · refine r_iload_n (pc1 := 114) (i := 2) dX11_reckonFits_113 rfl rfl rfl ?_
    refine p_if_eq (tgt := 122) (pc1 := 117) dX11_reckonFits_114 (by decide) rfl (fun q8 => ?_) (fun q8 => ?_)
    · refine r_iload (pc1 := 124) dX11_reckonFits_122 rfl rfl ?_
      exact p_iret rfl rfl dX11_reckonFits_124
    · refine r_iload (pc1 := 119) dX11_reckonFits_117 rfl rfl ?_
      refine p_if_ne (tgt := 125) (pc1 := 122) dX11_reckonFits_119 (by decide) rfl (fun q9 => ?_) (fun q9 => ?_)
      · refine r_iload (pc1 := 124) dX11_reckonFits_122 rfl rfl ?_
        exact p_iret rfl rfl dX11_reckonFits_124
      · refine r_iload_n (pc1 := 126) (i := 2) dX11_reckonFits_125 rfl rfl rfl ?_
        refine r_iconst (v := 1) (pc1 := 127) dX11_reckonFits_126 ki_1 rfl ?_
        refine p_icmp_ne (tgt := 135) (pc1 := 130) dX11_reckonFits_127 (by decide) rfl (fun q10 => ?_) (fun q10 => ?_)
        · refine r_iload (pc1 := 132) dX11_reckonFits_130 rfl rfl ?_
          refine r_goto (tgt := 147) dX11_reckonFits_132 (by decide) ?_
          exact p_iret rfl rfl dX11_reckonFits_147
        · refine r_aload_n (pc1 := 136) (i := 0) dX11_reckonFits_135 rfl rfl rfl ?_
          refine r_getR (pc1 := 139) w_0 gfX11_42 rfl dX11_reckonFits_136 rfl ?_
          refine p_callVp (pc1 := 142) (rv_of w_27 cl_10) lkX11_309 (c_X10_allLaws _) rfl rfl ⟨Nat.le_of_ble_eq_true rfl, Nat.le_of_ble_eq_true rfl⟩ (Nat.le_of_ble_eq_true rfl) dX11_reckonFits_139 rfl (fun v11 => ?_)
          refine r_iload (pc1 := 144) dX11_reckonFits_142 rfl rfl ?_
          refine r_iconst (v := (-1)) (pc1 := 145) dX11_reckonFits_144 ki_m1 rfl ?_
          refine r_ixor (pc1 := 146) dX11_reckonFits_145 rfl ?_
          refine r_iand (pc1 := 147) dX11_reckonFits_146 rfl ?_
          exact p_iret rfl rfl dX11_reckonFits_147
  · exact r_wk (t_lp_X11_reckonFits_40 a1 a2 s0 v2 k7 hk7 FU 0 255 0 v3) ⟨Or.inr rfl, Or.inr rfl, Or.inr rfl, Or.inl rfl, Or.inr rfl, Or.inr rfl, Or.inr rfl, Or.inr rfl, Or.inr rfl, trivial⟩
/-! f_X11_fits -/
noncomputable def f_X11_fits (a1 : Int32) (a2 : Int32) (s0 : SS) : Res := bdp (f_X11_within a1 20 s0) (fun (v1 : Int32) => if (v1 : Int32) = 0 then some ((-1), s0) else bdp (f_X11_within a2 2 s0) (fun (v3 : Int32) => if (v3 : Int32) = 0 then some ((-1), s0) else bdp (f_X9_size s0) (fun (v5 : Int32) => if (2 * a1 : Int32) ≤ (v5 : Int32) then bdp (f_X11_toldDeedsAreFine a1 s0) (fun (v7 : Int32) => jn (fun (v8 : Int32) => bd (f_X9_clear s0) (fun (v10 : Int32) (s11 : SS) => some (v8, s11))) (fun (k9 : Int32 → Res) => if (v7 : Int32) = 0 then k9 ((-2)) else bdp (f_X11_reckonFits a1 a2 s0) (fun (v13 : Int32) => k9 v13))) else some ((-1), s0))))
set_option maxRecDepth 100000 in
set_option maxHeartbeats 4000000 in
theorem c_X11_fits {l : Launch} (a1 : Int32) (a2 : Int32) (s0 : SS) : Ct l wF yX11_fits cX11_fits 4 (some .int) 3 [.ref 0, .int a1, .int a2] s0 (f_X11_fits a1 a2 s0) := by
  refine ct_of (y := yX11_fits) plX11 (Nat.le_of_ble_eq_true rfl) ?_
  refine r_pad0 1 (L1 := [.ref 0, .int a1, .int a2, .null]) rfl ?_
  unfold f_X11_fits
  refine r_iload_n (pc1 := 1) (i := 1) dX11_fits_0 rfl rfl rfl ?_
  refine r_bipush (v := 20) (pc1 := 3) dX11_fits_1 kb_20 rfl ?_
  refine r_callSp (pc1 := 6) lkX11_102 (c_X11_within _ _ _) rfl rfl ⟨Nat.le_of_ble_eq_true rfl, Nat.le_of_ble_eq_true rfl⟩ (Nat.le_of_ble_eq_true rfl) dX11_fits_3 rfl (fun v1 => ?_)
  refine r_if_eq (tgt := 30) (pc1 := 9) dX11_fits_6 (by decide) rfl (fun q2 => ?_) (fun q2 => ?_)
  · refine r_iconst (v := (-1)) (pc1 := 31) dX11_fits_30 ki_m1 rfl ?_
    exact r_iret rfl rfl dX11_fits_31
  · refine r_iload_n (pc1 := 10) (i := 2) dX11_fits_9 rfl rfl rfl ?_
    refine r_iconst (v := 2) (pc1 := 11) dX11_fits_10 ki_2 rfl ?_
    refine r_callSp (pc1 := 14) lkX11_102 (c_X11_within _ _ _) rfl rfl ⟨Nat.le_of_ble_eq_true rfl, Nat.le_of_ble_eq_true rfl⟩ (Nat.le_of_ble_eq_true rfl) dX11_fits_11 rfl (fun v3 => ?_)
    refine r_if_eq (tgt := 30) (pc1 := 17) dX11_fits_14 (by decide) rfl (fun q4 => ?_) (fun q4 => ?_)
    · refine r_iconst (v := (-1)) (pc1 := 31) dX11_fits_30 ki_m1 rfl ?_
      exact r_iret rfl rfl dX11_fits_31
    · refine r_iconst (v := 2) (pc1 := 18) dX11_fits_17 ki_2 rfl ?_
      refine r_iload_n (pc1 := 19) (i := 1) dX11_fits_18 rfl rfl rfl ?_
      refine r_imul (pc1 := 20) dX11_fits_19 rfl ?_
      refine r_aload_n (pc1 := 21) (i := 0) dX11_fits_20 rfl rfl rfl ?_
      refine r_getR (pc1 := 24) w_0 gfX11_10 rfl dX11_fits_21 rfl ?_
      refine r_callVp (pc1 := 27) (rv_of w_1 cl_9) lkX11_129 (c_X9_size _) rfl rfl ⟨Nat.le_of_ble_eq_true rfl, Nat.le_of_ble_eq_true rfl⟩ (Nat.le_of_ble_eq_true rfl) dX11_fits_24 rfl (fun v5 => ?_)
      refine r_icmp_le (tgt := 32) (pc1 := 30) dX11_fits_27 (by decide) rfl (fun q6 => ?_) (fun q6 => ?_)
      · refine r_aload_n (pc1 := 33) (i := 0) dX11_fits_32 rfl rfl rfl ?_
        refine r_iload_n (pc1 := 34) (i := 1) dX11_fits_33 rfl rfl rfl ?_
        refine r_callVp (pc1 := 37) (rv_of w_0 cl_11) lkX11_297 (c_X11_toldDeedsAreFine _ _) rfl rfl ⟨Nat.le_of_ble_eq_true rfl, Nat.le_of_ble_eq_true rfl⟩ (Nat.le_of_ble_eq_true rfl) dX11_fits_34 rfl (fun v7 => ?_)
        refine r_jn (hyp := fun (k9 : Int32 → Res) => ∀ (v8 : Int32), RC l wF RX11 cX11_fits 4 (some .int) 3 51 [.ref 0, .null, .null, .null] [.int v8] s0 (k9 v8)) (fun v8 => ?_) (fun k9 hk9 => ?_)
        · refine r_istore_n (pc1 := 52) (i := 3) dX11_fits_51 rfl (by decide) rfl rfl rfl ?_
          refine r_aload_n (pc1 := 53) (i := 0) dX11_fits_52 rfl rfl rfl ?_
          refine r_getR (pc1 := 56) w_0 gfX11_10 rfl dX11_fits_53 rfl ?_
          refine r_callVv (pc1 := 59) (rv_of w_1 cl_9) lkX11_136 (c_X9_clear _) rfl rfl ⟨Nat.le_of_ble_eq_true rfl, Nat.le_of_ble_eq_true rfl⟩ (Nat.le_of_ble_eq_true rfl) dX11_fits_56 rfl (fun v10 s11 => ?_)
          refine r_iload_n (pc1 := 60) (i := 3) dX11_fits_59 rfl rfl rfl ?_
          exact r_iret rfl rfl dX11_fits_60
        · refine r_if_eq (tgt := 49) (pc1 := 40) dX11_fits_37 (by decide) rfl (fun q12 => ?_) (fun q12 => ?_)
          · refine r_bipush (v := (-2)) (pc1 := 51) dX11_fits_49 kb_m2 rfl ?_
            exact r_wk (hk9 ((-2))) ⟨Or.inr rfl, Or.inl rfl, Or.inl rfl, Or.inl rfl, trivial⟩
          · refine r_aload_n (pc1 := 41) (i := 0) dX11_fits_40 rfl rfl rfl ?_
            refine r_iload_n (pc1 := 42) (i := 1) dX11_fits_41 rfl rfl rfl ?_
            refine r_iload_n (pc1 := 43) (i := 2) dX11_fits_42 rfl rfl rfl ?_
            refine r_callVp (pc1 := 46) (rv_of w_0 cl_11) lkX11_300 (c_X11_reckonFits _ _ _) rfl rfl ⟨Nat.le_of_ble_eq_true rfl, Nat.le_of_ble_eq_true rfl⟩ (Nat.le_of_ble_eq_true rfl) dX11_fits_43 rfl (fun v13 => ?_)
            refine r_goto (tgt := 51) dX11_fits_46 (by decide) ?_
            exact r_wk (hk9 v13) ⟨Or.inr rfl, Or.inl rfl, Or.inl rfl, Or.inl rfl, trivial⟩
      · refine r_iconst (v := (-1)) (pc1 := 31) dX11_fits_30 ki_m1 rfl ?_
        exact r_iret rfl rfl dX11_fits_31
/-! f_X11_seed -/
noncomputable def f_X11_seed (a1 : Int32) (s0 : SS) : Res := bdp (f_X11_within a1 65535 s0) (fun (v1 : Int32) => if (v1 : Int32) = 0 then some (0, s0) else lts (up s0 52 3 a1) (fun (s3 : SS) => some (1, s3)))
set_option maxRecDepth 100000 in
set_option maxHeartbeats 4000000 in
theorem c_X11_seed {l : Launch} (a1 : Int32) (s0 : SS) : Ct l wF yX11_seed cX11_seed 2 (some .boolean) 1 [.ref 0, .int a1] s0 (f_X11_seed a1 s0) := by
  refine ct_of (y := yX11_seed) plX11 (Nat.le_of_ble_eq_true rfl) ?_
  refine r_pad0 0 (L1 := [.ref 0, .int a1]) rfl ?_
  unfold f_X11_seed
  refine r_iload_n (pc1 := 1) (i := 1) dX11_seed_0 rfl rfl rfl ?_
  refine r_ldc (v := 65535) (pc1 := 3) dX11_seed_1 cnX11_174 rfl ?_
  refine r_callSp (pc1 := 6) lkX11_102 (c_X11_within _ _ _) rfl rfl ⟨Nat.le_of_ble_eq_true rfl, Nat.le_of_ble_eq_true rfl⟩ (Nat.le_of_ble_eq_true rfl) dX11_seed_3 rfl (fun v1 => ?_)
  refine r_if_ne (tgt := 11) (pc1 := 9) dX11_seed_6 (by decide) rfl (fun q2 => ?_) (fun q2 => ?_)
  · refine r_iconst (v := 0) (pc1 := 10) dX11_seed_9 ki_0 rfl ?_
    exact r_iret rfl rfl dX11_seed_10
  · refine r_aload_n (pc1 := 12) (i := 0) dX11_seed_11 rfl rfl rfl ?_
    refine r_getR (pc1 := 15) w_0 gfX11_88 rfl dX11_seed_12 rfl ?_
    refine r_iload_n (pc1 := 16) (i := 1) dX11_seed_15 rfl rfl rfl ?_
    refine r_putI (pc1 := 19) w_52 pfX11_175 rfl ⟨rfl, rfl⟩ dX11_seed_16 rfl ?_
    refine r_lts (fun s3 => ?_)
    refine r_iconst (v := 1) (pc1 := 20) dX11_seed_19 ki_1 rfl ?_
    exact r_iret rfl rfl dX11_seed_20
/-! f_X11_draw -/
noncomputable def lp_X11_draw_17 (a1 : Int32) : Nat → Int32 → Int32 → SS → Res
  | 0, _, _, _ => none
  | n6 + 1, v3, v4, s5 => if (a1 : Int32) ≤ (v4 : Int32) then some (v3, s5) else gd (¬ (65536 : Int32) = 0) (lts (up s5 52 3 (((25173 * (s5 52 3)) + 13849) - ((25173 * (s5 52 3)) + 13849) / 65536 * 65536)) (fun (s8 : SS) => gd (¬ (4 : Int32) = 0) (lt ((s8 52 3) - (s8 52 3) / 4 * 4) (fun (v9 : Int32) => bd (f_X2_choice v9 (s8 52 0) s8) (fun (v10 : Int32) (s11 : SS) => jn (fun (v12 : Int32) => bd (f_X11_passDay v9 v10 s11) (fun (v14 : Int32) (s15 : SS) => lp_X11_draw_17 a1 n6 v12 (v4 + 1) s15)) (fun (k13 : Int32 → Res) => if (v10 : Int32) = (8 : Int32) then k13 v3 else k13 (v3 + 1)))))))
noncomputable def f_X11_draw (a1 : Int32) (s0 : SS) : Res := if (a1 : Int32) < (1 : Int32) then some ((-1), s0) else if (a1 : Int32) ≤ (100 : Int32) then lp_X11_draw_17 a1 FU 0 0 s0 else some ((-1), s0)
set_option maxRecDepth 100000 in
set_option maxHeartbeats 4000000 in
theorem t_lp_X11_draw_17 {l : Launch} (a1 : Int32)  : ∀ (n6 : Nat) (v3 : Int32) (v4 : Int32) (s5 : SS), RC l wF RX11 cX11_draw 6 (some .int) 5 17 [.ref 0, .int a1, .int v3, .int v4, .null, .null] [] s5 (lp_X11_draw_17 a1 n6 v3 v4 s5) := by
  intro n6
  induction n6 with
  | zero =>
    intro v3 v4 s5
    rw [lp_X11_draw_17]
    exact r_none
  | succ n6 ih =>
    intro v3 v4 s5
    rw [lp_X11_draw_17]
    refine r_iload_n (pc1 := 18) (i := 3) dX11_draw_17 rfl rfl rfl ?_
    refine r_iload_n (pc1 := 19) (i := 1) dX11_draw_18 rfl rfl rfl ?_
    refine r_icmp_ge (tgt := 101) (pc1 := 22) dX11_draw_19 (by decide) rfl (fun q7 => ?_) (fun q7 => ?_)
    · refine r_iload_n (pc1 := 102) (i := 2) dX11_draw_101 rfl rfl rfl ?_
      exact r_iret rfl rfl dX11_draw_102
    · refine r_aload_n (pc1 := 23) (i := 0) dX11_draw_22 rfl rfl rfl ?_
      refine r_getR (pc1 := 26) w_0 gfX11_88 rfl dX11_draw_23 rfl ?_
      refine r_sipush (v := 25173) (pc1 := 29) dX11_draw_26 ks_25173 rfl ?_
      refine r_aload_n (pc1 := 30) (i := 0) dX11_draw_29 rfl rfl rfl ?_
      refine r_getR (pc1 := 33) w_0 gfX11_88 rfl dX11_draw_30 rfl ?_
      refine r_getI (pc1 := 36) w_52 gfX11_175 rfl dX11_draw_33 rfl ?_
      refine r_imul (pc1 := 37) dX11_draw_36 rfl ?_
      refine r_sipush (v := 13849) (pc1 := 40) dX11_draw_37 ks_13849 rfl ?_
      refine r_iadd (pc1 := 41) dX11_draw_40 rfl ?_
      refine r_ldc (v := 65536) (pc1 := 43) dX11_draw_41 cnX11_204 rfl ?_
      refine r_irem (pc1 := 44) dX11_draw_43 rfl ?_
      refine r_putI (pc1 := 47) w_52 pfX11_175 rfl ⟨rfl, rfl⟩ dX11_draw_44 rfl ?_
      refine r_lts (fun s8 => ?_)
      refine r_aload_n (pc1 := 48) (i := 0) dX11_draw_47 rfl rfl rfl ?_
      refine r_getR (pc1 := 51) w_0 gfX11_88 rfl dX11_draw_48 rfl ?_
      refine r_getI (pc1 := 54) w_52 gfX11_175 rfl dX11_draw_51 rfl ?_
      refine r_iconst (v := 4) (pc1 := 55) dX11_draw_54 ki_4 rfl ?_
      refine r_irem (pc1 := 56) dX11_draw_55 rfl ?_
      refine r_lt (fun v9 => ?_)
      refine r_istore (pc1 := 58) dX11_draw_56 (by decide) rfl rfl rfl ?_
      refine r_aload_n (pc1 := 59) (i := 0) dX11_draw_58 rfl rfl rfl ?_
      refine r_getR (pc1 := 62) w_0 gfX11_51 rfl dX11_draw_59 rfl ?_
      refine r_iload (pc1 := 64) dX11_draw_62 rfl rfl ?_
      refine r_aload_n (pc1 := 65) (i := 0) dX11_draw_64 rfl rfl rfl ?_
      refine r_getR (pc1 := 68) w_0 gfX11_88 rfl dX11_draw_65 rfl ?_
      refine r_getI (pc1 := 71) w_52 gfX11_122 rfl dX11_draw_68 rfl ?_
      refine r_callVi (pc1 := 74) (rv_of w_35 cl_2) lkX11_192 (c_X2_choice _ _ _) rfl rfl ⟨Nat.le_of_ble_eq_true rfl, Nat.le_of_ble_eq_true rfl⟩ (Nat.le_of_ble_eq_true rfl) dX11_draw_71 rfl (fun v10 s11 => ?_)
      refine r_istore (pc1 := 76) dX11_draw_74 (by decide) rfl rfl rfl ?_
      refine r_iload (pc1 := 78) dX11_draw_76 rfl rfl ?_
      refine r_bipush (v := 8) (pc1 := 80) dX11_draw_78 kb_8 rfl ?_
      refine r_jn (hyp := fun (k13 : Int32 → Res) => ∀ (v12 : Int32), RC l wF RX11 cX11_draw 6 (some .int) 5 86 [.ref 0, .int a1, .int v12, .int v4, .int v9, .int v10] [] s11 (k13 v12)) (fun v12 => ?_) (fun k13 hk13 => ?_)
      · refine r_aload_n (pc1 := 87) (i := 0) dX11_draw_86 rfl rfl rfl ?_
        refine r_iload (pc1 := 89) dX11_draw_87 rfl rfl ?_
        refine r_iload (pc1 := 91) dX11_draw_89 rfl rfl ?_
        refine r_callVi (pc1 := 94) (rv_of w_0 cl_11) lkX11_201 (c_X11_passDay _ _ _) rfl rfl ⟨Nat.le_of_ble_eq_true rfl, Nat.le_of_ble_eq_true rfl⟩ (Nat.le_of_ble_eq_true rfl) dX11_draw_91 rfl (fun v14 s15 => ?_)
        refine r_pop (pc1 := 95) dX11_draw_94 rfl rfl ?_
        refine r_iinc (pc1 := 98) dX11_draw_95 rfl (kn_1 _) (by decide) rfl rfl rfl ?_
        refine r_goto (tgt := 17) dX11_draw_98 (by decide) ?_
        exact r_wk (ih v12 (v4 + 1) s15) ⟨Or.inr rfl, Or.inr rfl, Or.inr rfl, Or.inr rfl, Or.inl rfl, Or.inl rfl, trivial⟩
      · refine r_icmp_eq (tgt := 86) (pc1 := 83) dX11_draw_80 (by decide) rfl (fun q16 => ?_) (fun q16 => ?_)
        · exact r_wk (hk13 v3) ⟨Or.inr rfl, Or.inr rfl, Or.inr rfl, Or.inr rfl, Or.inr rfl, Or.inr rfl, trivial⟩
        · refine r_iinc (pc1 := 86) dX11_draw_83 rfl (kn_1 _) (by decide) rfl rfl rfl ?_
          exact r_wk (hk13 (v3 + 1)) ⟨Or.inr rfl, Or.inr rfl, Or.inr rfl, Or.inr rfl, Or.inr rfl, Or.inr rfl, trivial⟩
set_option maxRecDepth 100000 in
set_option maxHeartbeats 4000000 in
theorem c_X11_draw {l : Launch} (a1 : Int32) (s0 : SS) : Ct l wF yX11_draw cX11_draw 6 (some .int) 5 [.ref 0, .int a1] s0 (f_X11_draw a1 s0) := by
  refine ct_of (y := yX11_draw) plX11 (Nat.le_of_ble_eq_true rfl) ?_
  refine r_pad0 4 (L1 := [.ref 0, .int a1, .null, .null, .null, .null]) rfl ?_
  unfold f_X11_draw
  refine r_iload_n (pc1 := 1) (i := 1) dX11_draw_0 rfl rfl rfl ?_
  refine r_iconst (v := 1) (pc1 := 2) dX11_draw_1 ki_1 rfl ?_
  refine r_icmp_lt (tgt := 11) (pc1 := 5) dX11_draw_2 (by decide) rfl (fun q1 => ?_) (fun q1 => ?_)
  · refine r_iconst (v := (-1)) (pc1 := 12) dX11_draw_11 ki_m1 rfl ?_
    exact r_iret rfl rfl dX11_draw_12
  · refine r_iload_n (pc1 := 6) (i := 1) dX11_draw_5 rfl rfl rfl ?_
    refine r_bipush (v := 100) (pc1 := 8) dX11_draw_6 kb_100 rfl ?_
    refine r_icmp_le (tgt := 13) (pc1 := 11) dX11_draw_8 (by decide) rfl (fun q2 => ?_) (fun q2 => ?_)
    · refine r_iconst (v := 0) (pc1 := 14) dX11_draw_13 ki_0 rfl ?_
      refine r_istore_n (pc1 := 15) (i := 2) dX11_draw_14 rfl (by decide) rfl rfl rfl ?_
      refine r_iconst (v := 0) (pc1 := 16) dX11_draw_15 ki_0 rfl ?_
      refine r_istore_n (pc1 := 17) (i := 3) dX11_draw_16 rfl (by decide) rfl rfl rfl ?_
      exact r_wk (t_lp_X11_draw_17 a1 FU 0 0 s0) ⟨Or.inr rfl, Or.inr rfl, Or.inr rfl, Or.inr rfl, Or.inl rfl, Or.inl rfl, trivial⟩
    · refine r_iconst (v := (-1)) (pc1 := 12) dX11_draw_11 ki_m1 rfl ?_
      exact r_iret rfl rfl dX11_draw_12
