theorem dX12_reaches_0 : decode cX12_reaches 0 = .ok (.iconst 0, 1) := by decide +kernel
theorem dX12_reaches_1 : decode cX12_reaches 1 = .ok (.istore_n 3, 1) := by decide +kernel
theorem dX12_reaches_2 : decode cX12_reaches 2 = .ok (.iload_n 3, 1) := by decide +kernel
theorem dX12_reaches_3 : decode cX12_reaches 3 = .ok (.sipush 4681, 3) := by decide +kernel
theorem dX12_reaches_6 : decode cX12_reaches 6 = .ok (.iload_n 1, 1) := by decide +kernel
theorem dX12_reaches_7 : decode cX12_reaches 7 = .ok (.iconst 1, 1) := by decide +kernel
theorem dX12_reaches_8 : decode cX12_reaches 8 = .ok (.iadd, 1) := by decide +kernel
theorem dX12_reaches_9 : decode cX12_reaches 9 = .ok (.imul, 1) := by decide +kernel
theorem dX12_reaches_10 : decode cX12_reaches 10 = .ok (.if_icmp .ge 16, 3) := by decide +kernel
theorem dX12_reaches_13 : decode cX12_reaches 13 = .ok (.aload_n 0, 1) := by decide +kernel
theorem dX12_reaches_14 : decode cX12_reaches 14 = .ok (.getfield 122, 3) := by decide +kernel
theorem dX12_reaches_17 : decode cX12_reaches 17 = .ok (.iload_n 3, 1) := by decide +kernel
theorem dX12_reaches_18 : decode cX12_reaches 18 = .ok (.iconst 0, 1) := by decide +kernel
theorem dX12_reaches_19 : decode cX12_reaches 19 = .ok (.bastore, 1) := by decide +kernel
theorem dX12_reaches_20 : decode cX12_reaches 20 = .ok (.iinc 3 1, 3) := by decide +kernel
theorem dX12_reaches_23 : decode cX12_reaches 23 = .ok (.goto (-21), 3) := by decide +kernel
theorem dX12_reaches_26 : decode cX12_reaches 26 = .ok (.aload_n 0, 1) := by decide +kernel
theorem dX12_reaches_27 : decode cX12_reaches 27 = .ok (.getfield 122, 3) := by decide +kernel
theorem dX12_reaches_30 : decode cX12_reaches 30 = .ok (.aload_n 0, 1) := by decide +kernel
theorem dX12_reaches_31 : decode cX12_reaches 31 = .ok (.getfield 158, 3) := by decide +kernel
theorem dX12_reaches_34 : decode cX12_reaches 34 = .ok (.iconst 1, 1) := by decide +kernel
theorem dX12_reaches_35 : decode cX12_reaches 35 = .ok (.bastore, 1) := by decide +kernel
theorem dX12_reaches_36 : decode cX12_reaches 36 = .ok (.iconst 0, 1) := by decide +kernel
theorem dX12_reaches_37 : decode cX12_reaches 37 = .ok (.istore_n 3, 1) := by decide +kernel
theorem dX12_reaches_38 : decode cX12_reaches 38 = .ok (.iload_n 3, 1) := by decide +kernel
theorem dX12_reaches_39 : decode cX12_reaches 39 = .ok (.iload_n 1, 1) := by decide +kernel
theorem dX12_reaches_40 : decode cX12_reaches 40 = .ok (.if_icmp .ge 167, 3) := by decide +kernel
theorem dX12_reaches_43 : decode cX12_reaches 43 = .ok (.aload_n 0, 1) := by decide +kernel
theorem dX12_reaches_44 : decode cX12_reaches 44 = .ok (.iload_n 3, 1) := by decide +kernel
theorem dX12_reaches_45 : decode cX12_reaches 45 = .ok (.invokevirtual 394, 3) := by decide +kernel
theorem dX12_reaches_48 : decode cX12_reaches 48 = .ok (.istore 4, 2) := by decide +kernel
theorem dX12_reaches_50 : decode cX12_reaches 50 = .ok (.iconst 0, 1) := by decide +kernel
theorem dX12_reaches_51 : decode cX12_reaches 51 = .ok (.istore 5, 2) := by decide +kernel
theorem dX12_reaches_53 : decode cX12_reaches 53 = .ok (.iload 5, 2) := by decide +kernel
theorem dX12_reaches_55 : decode cX12_reaches 55 = .ok (.sipush 4681, 3) := by decide +kernel
theorem dX12_reaches_58 : decode cX12_reaches 58 = .ok (.if_icmp .ge 143, 3) := by decide +kernel
theorem dX12_reaches_61 : decode cX12_reaches 61 = .ok (.aload_n 0, 1) := by decide +kernel
theorem dX12_reaches_62 : decode cX12_reaches 62 = .ok (.getfield 122, 3) := by decide +kernel
theorem dX12_reaches_65 : decode cX12_reaches 65 = .ok (.sipush 4681, 3) := by decide +kernel
theorem dX12_reaches_68 : decode cX12_reaches 68 = .ok (.iload_n 3, 1) := by decide +kernel
theorem dX12_reaches_69 : decode cX12_reaches 69 = .ok (.imul, 1) := by decide +kernel
theorem dX12_reaches_70 : decode cX12_reaches 70 = .ok (.iload 5, 2) := by decide +kernel
theorem dX12_reaches_72 : decode cX12_reaches 72 = .ok (.iadd, 1) := by decide +kernel
theorem dX12_reaches_73 : decode cX12_reaches 73 = .ok (.baload, 1) := by decide +kernel
theorem dX12_reaches_74 : decode cX12_reaches 74 = .ok (.ifCond .ne 6, 3) := by decide +kernel
theorem dX12_reaches_77 : decode cX12_reaches 77 = .ok (.goto 118, 3) := by decide +kernel
theorem dX12_reaches_80 : decode cX12_reaches 80 = .ok (.iload_n 2, 1) := by decide +kernel
theorem dX12_reaches_81 : decode cX12_reaches 81 = .ok (.bipush 9, 2) := by decide +kernel
theorem dX12_reaches_83 : decode cX12_reaches 83 = .ok (.if_icmp .eq 40, 3) := by decide +kernel
theorem dX12_reaches_86 : decode cX12_reaches 86 = .ok (.iload_n 2, 1) := by decide +kernel
theorem dX12_reaches_87 : decode cX12_reaches 87 = .ok (.iload 4, 2) := by decide +kernel
theorem dX12_reaches_89 : decode cX12_reaches 89 = .ok (.if_icmp .eq 34, 3) := by decide +kernel
theorem dX12_reaches_92 : decode cX12_reaches 92 = .ok (.aload_n 0, 1) := by decide +kernel
theorem dX12_reaches_93 : decode cX12_reaches 93 = .ok (.getfield 122, 3) := by decide +kernel
theorem dX12_reaches_96 : decode cX12_reaches 96 = .ok (.sipush 4681, 3) := by decide +kernel
theorem dX12_reaches_99 : decode cX12_reaches 99 = .ok (.iload_n 3, 1) := by decide +kernel
theorem dX12_reaches_100 : decode cX12_reaches 100 = .ok (.iconst 1, 1) := by decide +kernel
theorem dX12_reaches_101 : decode cX12_reaches 101 = .ok (.iadd, 1) := by decide +kernel
theorem dX12_reaches_102 : decode cX12_reaches 102 = .ok (.imul, 1) := by decide +kernel
theorem dX12_reaches_103 : decode cX12_reaches 103 = .ok (.aload_n 0, 1) := by decide +kernel
theorem dX12_reaches_104 : decode cX12_reaches 104 = .ok (.iload 5, 2) := by decide +kernel
theorem dX12_reaches_106 : decode cX12_reaches 106 = .ok (.aload_n 0, 1) := by decide +kernel
theorem dX12_reaches_107 : decode cX12_reaches 107 = .ok (.iload 5, 2) := by decide +kernel
theorem dX12_reaches_109 : decode cX12_reaches 109 = .ok (.iload 4, 2) := by decide +kernel
theorem dX12_reaches_111 : decode cX12_reaches 111 = .ok (.invokevirtual 385, 3) := by decide +kernel
theorem dX12_reaches_114 : decode cX12_reaches 114 = .ok (.invokevirtual 362, 3) := by decide +kernel
theorem dX12_reaches_117 : decode cX12_reaches 117 = .ok (.iadd, 1) := by decide +kernel
theorem dX12_reaches_118 : decode cX12_reaches 118 = .ok (.iconst 1, 1) := by decide +kernel
theorem dX12_reaches_119 : decode cX12_reaches 119 = .ok (.bastore, 1) := by decide +kernel
theorem dX12_reaches_120 : decode cX12_reaches 120 = .ok (.goto 75, 3) := by decide +kernel
theorem dX12_reaches_123 : decode cX12_reaches 123 = .ok (.aload_n 0, 1) := by decide +kernel
theorem dX12_reaches_124 : decode cX12_reaches 124 = .ok (.getfield 122, 3) := by decide +kernel
theorem dX12_reaches_127 : decode cX12_reaches 127 = .ok (.sipush 4681, 3) := by decide +kernel
theorem dX12_reaches_130 : decode cX12_reaches 130 = .ok (.iload_n 3, 1) := by decide +kernel
theorem dX12_reaches_131 : decode cX12_reaches 131 = .ok (.iconst 1, 1) := by decide +kernel
theorem dX12_reaches_132 : decode cX12_reaches 132 = .ok (.iadd, 1) := by decide +kernel
theorem dX12_reaches_133 : decode cX12_reaches 133 = .ok (.imul, 1) := by decide +kernel
theorem dX12_reaches_134 : decode cX12_reaches 134 = .ok (.iload 5, 2) := by decide +kernel
theorem dX12_reaches_136 : decode cX12_reaches 136 = .ok (.iadd, 1) := by decide +kernel
theorem dX12_reaches_137 : decode cX12_reaches 137 = .ok (.iconst 1, 1) := by decide +kernel
theorem dX12_reaches_138 : decode cX12_reaches 138 = .ok (.bastore, 1) := by decide +kernel
theorem dX12_reaches_139 : decode cX12_reaches 139 = .ok (.iconst 0, 1) := by decide +kernel
theorem dX12_reaches_140 : decode cX12_reaches 140 = .ok (.istore 6, 2) := by decide +kernel
theorem dX12_reaches_142 : decode cX12_reaches 142 = .ok (.iload 6, 2) := by decide +kernel
theorem dX12_reaches_144 : decode cX12_reaches 144 = .ok (.aload_n 0, 1) := by decide +kernel
theorem dX12_reaches_145 : decode cX12_reaches 145 = .ok (.getfield 144, 3) := by decide +kernel
theorem dX12_reaches_148 : decode cX12_reaches 148 = .ok (.if_icmp .ge 47, 3) := by decide +kernel
theorem dX12_reaches_151 : decode cX12_reaches 151 = .ok (.aload_n 0, 1) := by decide +kernel
theorem dX12_reaches_152 : decode cX12_reaches 152 = .ok (.iload 5, 2) := by decide +kernel
theorem dX12_reaches_154 : decode cX12_reaches 154 = .ok (.iload 4, 2) := by decide +kernel
theorem dX12_reaches_156 : decode cX12_reaches 156 = .ok (.invokevirtual 359, 3) := by decide +kernel
theorem dX12_reaches_159 : decode cX12_reaches 159 = .ok (.iload 6, 2) := by decide +kernel
theorem dX12_reaches_161 : decode cX12_reaches 161 = .ok (.invokestatic 335, 3) := by decide +kernel
theorem dX12_reaches_164 : decode cX12_reaches 164 = .ok (.ifCond .eq 25, 3) := by decide +kernel
theorem dX12_reaches_167 : decode cX12_reaches 167 = .ok (.aload_n 0, 1) := by decide +kernel
theorem dX12_reaches_168 : decode cX12_reaches 168 = .ok (.getfield 122, 3) := by decide +kernel
theorem dX12_reaches_171 : decode cX12_reaches 171 = .ok (.sipush 4681, 3) := by decide +kernel
theorem dX12_reaches_174 : decode cX12_reaches 174 = .ok (.iload_n 3, 1) := by decide +kernel
theorem dX12_reaches_175 : decode cX12_reaches 175 = .ok (.iconst 1, 1) := by decide +kernel
theorem dX12_reaches_176 : decode cX12_reaches 176 = .ok (.iadd, 1) := by decide +kernel
theorem dX12_reaches_177 : decode cX12_reaches 177 = .ok (.imul, 1) := by decide +kernel
theorem dX12_reaches_178 : decode cX12_reaches 178 = .ok (.aload_n 0, 1) := by decide +kernel
theorem dX12_reaches_179 : decode cX12_reaches 179 = .ok (.iload 5, 2) := by decide +kernel
theorem dX12_reaches_181 : decode cX12_reaches 181 = .ok (.iload 6, 2) := by decide +kernel
theorem dX12_reaches_183 : decode cX12_reaches 183 = .ok (.invokevirtual 362, 3) := by decide +kernel
theorem dX12_reaches_186 : decode cX12_reaches 186 = .ok (.iadd, 1) := by decide +kernel
theorem dX12_reaches_187 : decode cX12_reaches 187 = .ok (.iconst 1, 1) := by decide +kernel
theorem dX12_reaches_188 : decode cX12_reaches 188 = .ok (.bastore, 1) := by decide +kernel
theorem dX12_reaches_189 : decode cX12_reaches 189 = .ok (.iinc 6 1, 3) := by decide +kernel
theorem dX12_reaches_192 : decode cX12_reaches 192 = .ok (.goto (-50), 3) := by decide +kernel
theorem dX12_reaches_195 : decode cX12_reaches 195 = .ok (.iinc 5 1, 3) := by decide +kernel
theorem dX12_reaches_198 : decode cX12_reaches 198 = .ok (.goto (-145), 3) := by decide +kernel
theorem dX12_reaches_201 : decode cX12_reaches 201 = .ok (.iinc 3 1, 3) := by decide +kernel
theorem dX12_reaches_204 : decode cX12_reaches 204 = .ok (.goto (-166), 3) := by decide +kernel
theorem dX12_reaches_207 : decode cX12_reaches 207 = .ok (.return_, 1) := by decide +kernel
theorem dX12_bestBy_0 : decode cX12_bestBy 0 = .ok (.aload_n 0, 1) := by decide +kernel
theorem dX12_bestBy_1 : decode cX12_bestBy 1 = .ok (.aload_n 0, 1) := by decide +kernel
theorem dX12_bestBy_2 : decode cX12_bestBy 2 = .ok (.iload_n 2, 1) := by decide +kernel
theorem dX12_bestBy_3 : decode cX12_bestBy 3 = .ok (.iload_n 3, 1) := by decide +kernel
theorem dX12_bestBy_4 : decode cX12_bestBy 4 = .ok (.invokevirtual 362, 3) := by decide +kernel
theorem dX12_bestBy_7 : decode cX12_bestBy 7 = .ok (.iload 4, 2) := by decide +kernel
theorem dX12_bestBy_9 : decode cX12_bestBy 9 = .ok (.invokevirtual 355, 3) := by decide +kernel
theorem dX12_bestBy_12 : decode cX12_bestBy 12 = .ok (.aload_n 0, 1) := by decide +kernel
theorem dX12_bestBy_13 : decode cX12_bestBy 13 = .ok (.getfield 125, 3) := by decide +kernel
theorem dX12_bestBy_16 : decode cX12_bestBy 16 = .ok (.sipush 4681, 3) := by decide +kernel
theorem dX12_bestBy_19 : decode cX12_bestBy 19 = .ok (.iload_n 1, 1) := by decide +kernel
theorem dX12_bestBy_20 : decode cX12_bestBy 20 = .ok (.iconst 1, 1) := by decide +kernel
theorem dX12_bestBy_21 : decode cX12_bestBy 21 = .ok (.iadd, 1) := by decide +kernel
theorem dX12_bestBy_22 : decode cX12_bestBy 22 = .ok (.imul, 1) := by decide +kernel
theorem dX12_bestBy_23 : decode cX12_bestBy 23 = .ok (.aload_n 0, 1) := by decide +kernel
theorem dX12_bestBy_24 : decode cX12_bestBy 24 = .ok (.iload_n 2, 1) := by decide +kernel
theorem dX12_bestBy_25 : decode cX12_bestBy 25 = .ok (.iload_n 3, 1) := by decide +kernel
theorem dX12_bestBy_26 : decode cX12_bestBy 26 = .ok (.invokevirtual 362, 3) := by decide +kernel
theorem dX12_bestBy_29 : decode cX12_bestBy 29 = .ok (.iadd, 1) := by decide +kernel
theorem dX12_bestBy_30 : decode cX12_bestBy 30 = .ok (.iaload, 1) := by decide +kernel
theorem dX12_bestBy_31 : decode cX12_bestBy 31 = .ok (.iadd, 1) := by decide +kernel
theorem dX12_bestBy_32 : decode cX12_bestBy 32 = .ok (.ireturn, 1) := by decide +kernel
theorem dX12_bestOn_0 : decode cX12_bestOn 0 = .ok (.bipush 8, 2) := by decide +kernel
theorem dX12_bestOn_2 : decode cX12_bestOn 2 = .ok (.istore 4, 2) := by decide +kernel
theorem dX12_bestOn_4 : decode cX12_bestOn 4 = .ok (.iconst 0, 1) := by decide +kernel
theorem dX12_bestOn_5 : decode cX12_bestOn 5 = .ok (.istore 5, 2) := by decide +kernel
theorem dX12_bestOn_7 : decode cX12_bestOn 7 = .ok (.iload 5, 2) := by decide +kernel
theorem dX12_bestOn_9 : decode cX12_bestOn 9 = .ok (.aload_n 0, 1) := by decide +kernel
theorem dX12_bestOn_10 : decode cX12_bestOn 10 = .ok (.getfield 144, 3) := by decide +kernel
theorem dX12_bestOn_13 : decode cX12_bestOn 13 = .ok (.if_icmp .ge 48, 3) := by decide +kernel
theorem dX12_bestOn_16 : decode cX12_bestOn 16 = .ok (.aload_n 0, 1) := by decide +kernel
theorem dX12_bestOn_17 : decode cX12_bestOn 17 = .ok (.iload_n 2, 1) := by decide +kernel
theorem dX12_bestOn_18 : decode cX12_bestOn 18 = .ok (.iload_n 3, 1) := by decide +kernel
theorem dX12_bestOn_19 : decode cX12_bestOn 19 = .ok (.invokevirtual 359, 3) := by decide +kernel
theorem dX12_bestOn_22 : decode cX12_bestOn 22 = .ok (.iload 5, 2) := by decide +kernel
theorem dX12_bestOn_24 : decode cX12_bestOn 24 = .ok (.invokestatic 335, 3) := by decide +kernel
theorem dX12_bestOn_27 : decode cX12_bestOn 27 = .ok (.ifCond .eq 28, 3) := by decide +kernel
theorem dX12_bestOn_30 : decode cX12_bestOn 30 = .ok (.aload_n 0, 1) := by decide +kernel
theorem dX12_bestOn_31 : decode cX12_bestOn 31 = .ok (.iload_n 1, 1) := by decide +kernel
theorem dX12_bestOn_32 : decode cX12_bestOn 32 = .ok (.iload_n 2, 1) := by decide +kernel
theorem dX12_bestOn_33 : decode cX12_bestOn 33 = .ok (.iload 5, 2) := by decide +kernel
theorem dX12_bestOn_35 : decode cX12_bestOn 35 = .ok (.iload_n 3, 1) := by decide +kernel
theorem dX12_bestOn_36 : decode cX12_bestOn 36 = .ok (.invokevirtual 417, 3) := by decide +kernel
theorem dX12_bestOn_39 : decode cX12_bestOn 39 = .ok (.aload_n 0, 1) := by decide +kernel
theorem dX12_bestOn_40 : decode cX12_bestOn 40 = .ok (.iload_n 1, 1) := by decide +kernel
theorem dX12_bestOn_41 : decode cX12_bestOn 41 = .ok (.iload_n 2, 1) := by decide +kernel
theorem dX12_bestOn_42 : decode cX12_bestOn 42 = .ok (.iload 4, 2) := by decide +kernel
theorem dX12_bestOn_44 : decode cX12_bestOn 44 = .ok (.iload_n 3, 1) := by decide +kernel
theorem dX12_bestOn_45 : decode cX12_bestOn 45 = .ok (.invokevirtual 417, 3) := by decide +kernel
theorem dX12_bestOn_48 : decode cX12_bestOn 48 = .ok (.if_icmp .le 7, 3) := by decide +kernel
theorem dX12_bestOn_51 : decode cX12_bestOn 51 = .ok (.iload 5, 2) := by decide +kernel
theorem dX12_bestOn_53 : decode cX12_bestOn 53 = .ok (.istore 4, 2) := by decide +kernel
theorem dX12_bestOn_55 : decode cX12_bestOn 55 = .ok (.iinc 5 1, 3) := by decide +kernel
theorem dX12_bestOn_58 : decode cX12_bestOn 58 = .ok (.goto (-51), 3) := by decide +kernel
theorem dX12_bestOn_61 : decode cX12_bestOn 61 = .ok (.iload 4, 2) := by decide +kernel
theorem dX12_bestOn_63 : decode cX12_bestOn 63 = .ok (.ireturn, 1) := by decide +kernel
theorem dX12_laysBest_0 : decode cX12_laysBest 0 = .ok (.aload_n 0, 1) := by decide +kernel
theorem dX12_laysBest_1 : decode cX12_laysBest 1 = .ok (.iload_n 1, 1) := by decide +kernel
theorem dX12_laysBest_2 : decode cX12_laysBest 2 = .ok (.iload_n 2, 1) := by decide +kernel
theorem dX12_laysBest_3 : decode cX12_laysBest 3 = .ok (.invokevirtual 421, 3) := by decide +kernel
theorem dX12_laysBest_6 : decode cX12_laysBest 6 = .ok (.iconst 0, 1) := by decide +kernel
theorem dX12_laysBest_7 : decode cX12_laysBest 7 = .ok (.istore_n 3, 1) := by decide +kernel
theorem dX12_laysBest_8 : decode cX12_laysBest 8 = .ok (.iload_n 3, 1) := by decide +kernel
theorem dX12_laysBest_9 : decode cX12_laysBest 9 = .ok (.sipush 4681, 3) := by decide +kernel
theorem dX12_laysBest_12 : decode cX12_laysBest 12 = .ok (.if_icmp .ge 22, 3) := by decide +kernel
theorem dX12_laysBest_15 : decode cX12_laysBest 15 = .ok (.aload_n 0, 1) := by decide +kernel
theorem dX12_laysBest_16 : decode cX12_laysBest 16 = .ok (.getfield 125, 3) := by decide +kernel
theorem dX12_laysBest_19 : decode cX12_laysBest 19 = .ok (.sipush 4681, 3) := by decide +kernel
theorem dX12_laysBest_22 : decode cX12_laysBest 22 = .ok (.iload_n 1, 1) := by decide +kernel
theorem dX12_laysBest_23 : decode cX12_laysBest 23 = .ok (.imul, 1) := by decide +kernel
theorem dX12_laysBest_24 : decode cX12_laysBest 24 = .ok (.iload_n 3, 1) := by decide +kernel
theorem dX12_laysBest_25 : decode cX12_laysBest 25 = .ok (.iadd, 1) := by decide +kernel
theorem dX12_laysBest_26 : decode cX12_laysBest 26 = .ok (.iconst 0, 1) := by decide +kernel
theorem dX12_laysBest_27 : decode cX12_laysBest 27 = .ok (.iastore, 1) := by decide +kernel
theorem dX12_laysBest_28 : decode cX12_laysBest 28 = .ok (.iinc 3 1, 3) := by decide +kernel
theorem dX12_laysBest_31 : decode cX12_laysBest 31 = .ok (.goto (-23), 3) := by decide +kernel
theorem dX12_laysBest_34 : decode cX12_laysBest 34 = .ok (.iload_n 1, 1) := by decide +kernel
theorem dX12_laysBest_35 : decode cX12_laysBest 35 = .ok (.iconst 1, 1) := by decide +kernel
theorem dX12_laysBest_36 : decode cX12_laysBest 36 = .ok (.isub, 1) := by decide +kernel
theorem dX12_laysBest_37 : decode cX12_laysBest 37 = .ok (.istore_n 3, 1) := by decide +kernel
theorem dX12_laysBest_38 : decode cX12_laysBest 38 = .ok (.iload_n 3, 1) := by decide +kernel
theorem dX12_laysBest_39 : decode cX12_laysBest 39 = .ok (.ifCond .lt 101, 3) := by decide +kernel
theorem dX12_laysBest_42 : decode cX12_laysBest 42 = .ok (.iconst 0, 1) := by decide +kernel
theorem dX12_laysBest_43 : decode cX12_laysBest 43 = .ok (.istore 4, 2) := by decide +kernel
theorem dX12_laysBest_45 : decode cX12_laysBest 45 = .ok (.iload 4, 2) := by decide +kernel
theorem dX12_laysBest_47 : decode cX12_laysBest 47 = .ok (.sipush 4681, 3) := by decide +kernel
theorem dX12_laysBest_50 : decode cX12_laysBest 50 = .ok (.if_icmp .ge 84, 3) := by decide +kernel
theorem dX12_laysBest_53 : decode cX12_laysBest 53 = .ok (.aload_n 0, 1) := by decide +kernel
theorem dX12_laysBest_54 : decode cX12_laysBest 54 = .ok (.getfield 122, 3) := by decide +kernel
theorem dX12_laysBest_57 : decode cX12_laysBest 57 = .ok (.sipush 4681, 3) := by decide +kernel
theorem dX12_laysBest_60 : decode cX12_laysBest 60 = .ok (.iload_n 3, 1) := by decide +kernel
theorem dX12_laysBest_61 : decode cX12_laysBest 61 = .ok (.imul, 1) := by decide +kernel
theorem dX12_laysBest_62 : decode cX12_laysBest 62 = .ok (.iload 4, 2) := by decide +kernel
theorem dX12_laysBest_64 : decode cX12_laysBest 64 = .ok (.iadd, 1) := by decide +kernel
theorem dX12_laysBest_65 : decode cX12_laysBest 65 = .ok (.baload, 1) := by decide +kernel
theorem dX12_laysBest_66 : decode cX12_laysBest 66 = .ok (.ifCond .ne 6, 3) := by decide +kernel
theorem dX12_laysBest_69 : decode cX12_laysBest 69 = .ok (.goto 59, 3) := by decide +kernel
theorem dX12_laysBest_72 : decode cX12_laysBest 72 = .ok (.aload_n 0, 1) := by decide +kernel
theorem dX12_laysBest_73 : decode cX12_laysBest 73 = .ok (.iload_n 3, 1) := by decide +kernel
theorem dX12_laysBest_74 : decode cX12_laysBest 74 = .ok (.invokevirtual 394, 3) := by decide +kernel
theorem dX12_laysBest_77 : decode cX12_laysBest 77 = .ok (.iload_n 2, 1) := by decide +kernel
theorem dX12_laysBest_78 : decode cX12_laysBest 78 = .ok (.if_icmp .ne 14, 3) := by decide +kernel
theorem dX12_laysBest_81 : decode cX12_laysBest 81 = .ok (.aload_n 0, 1) := by decide +kernel
theorem dX12_laysBest_82 : decode cX12_laysBest 82 = .ok (.iload_n 3, 1) := by decide +kernel
theorem dX12_laysBest_83 : decode cX12_laysBest 83 = .ok (.iload 4, 2) := by decide +kernel
theorem dX12_laysBest_85 : decode cX12_laysBest 85 = .ok (.iload_n 2, 1) := by decide +kernel
theorem dX12_laysBest_86 : decode cX12_laysBest 86 = .ok (.invokevirtual 424, 3) := by decide +kernel
theorem dX12_laysBest_89 : decode cX12_laysBest 89 = .ok (.goto 14, 3) := by decide +kernel
theorem dX12_laysBest_92 : decode cX12_laysBest 92 = .ok (.aload_n 0, 1) := by decide +kernel
theorem dX12_laysBest_93 : decode cX12_laysBest 93 = .ok (.iload 4, 2) := by decide +kernel
theorem dX12_laysBest_95 : decode cX12_laysBest 95 = .ok (.aload_n 0, 1) := by decide +kernel
theorem dX12_laysBest_96 : decode cX12_laysBest 96 = .ok (.iload_n 3, 1) := by decide +kernel
theorem dX12_laysBest_97 : decode cX12_laysBest 97 = .ok (.invokevirtual 394, 3) := by decide +kernel
theorem dX12_laysBest_100 : decode cX12_laysBest 100 = .ok (.invokevirtual 385, 3) := by decide +kernel
theorem dX12_laysBest_103 : decode cX12_laysBest 103 = .ok (.istore 5, 2) := by decide +kernel
theorem dX12_laysBest_105 : decode cX12_laysBest 105 = .ok (.aload_n 0, 1) := by decide +kernel
theorem dX12_laysBest_106 : decode cX12_laysBest 106 = .ok (.getfield 125, 3) := by decide +kernel
theorem dX12_laysBest_109 : decode cX12_laysBest 109 = .ok (.sipush 4681, 3) := by decide +kernel
theorem dX12_laysBest_112 : decode cX12_laysBest 112 = .ok (.iload_n 3, 1) := by decide +kernel
theorem dX12_laysBest_113 : decode cX12_laysBest 113 = .ok (.imul, 1) := by decide +kernel
theorem dX12_laysBest_114 : decode cX12_laysBest 114 = .ok (.iload 4, 2) := by decide +kernel
theorem dX12_laysBest_116 : decode cX12_laysBest 116 = .ok (.iadd, 1) := by decide +kernel
theorem dX12_laysBest_117 : decode cX12_laysBest 117 = .ok (.aload_n 0, 1) := by decide +kernel
theorem dX12_laysBest_118 : decode cX12_laysBest 118 = .ok (.iload_n 3, 1) := by decide +kernel
theorem dX12_laysBest_119 : decode cX12_laysBest 119 = .ok (.iload 4, 2) := by decide +kernel
theorem dX12_laysBest_121 : decode cX12_laysBest 121 = .ok (.iload 5, 2) := by decide +kernel
theorem dX12_laysBest_123 : decode cX12_laysBest 123 = .ok (.iload_n 2, 1) := by decide +kernel
theorem dX12_laysBest_124 : decode cX12_laysBest 124 = .ok (.invokevirtual 417, 3) := by decide +kernel
theorem dX12_laysBest_127 : decode cX12_laysBest 127 = .ok (.iastore, 1) := by decide +kernel
theorem dX12_laysBest_128 : decode cX12_laysBest 128 = .ok (.iinc 4 1, 3) := by decide +kernel
theorem dX12_laysBest_131 : decode cX12_laysBest 131 = .ok (.goto (-86), 3) := by decide +kernel
theorem dX12_laysBest_134 : decode cX12_laysBest 134 = .ok (.iinc 3 (-1), 3) := by decide +kernel
theorem dX12_laysBest_137 : decode cX12_laysBest 137 = .ok (.goto (-99), 3) := by decide +kernel
theorem dX12_laysBest_140 : decode cX12_laysBest 140 = .ok (.return_, 1) := by decide +kernel
theorem dX12_best_0 : decode cX12_best 0 = .ok (.iload_n 1, 1) := by decide +kernel
theorem dX12_best_1 : decode cX12_best 1 = .ok (.invokestatic 168, 3) := by decide +kernel
theorem dX12_best_4 : decode cX12_best 4 = .ok (.ifCond .eq 30, 3) := by decide +kernel
theorem dX12_best_7 : decode cX12_best 7 = .ok (.iload_n 2, 1) := by decide +kernel
theorem dX12_best_8 : decode cX12_best 8 = .ok (.i2l, 1) := by decide +kernel
theorem dX12_best_9 : decode cX12_best 9 = .ok (.lconst 1, 1) := by decide +kernel
theorem dX12_best_10 : decode cX12_best 10 = .ok (.ldc2_w 427, 3) := by decide +kernel
theorem dX12_best_13 : decode cX12_best 13 = .ok (.invokestatic 140, 3) := by decide +kernel
theorem dX12_best_16 : decode cX12_best 16 = .ok (.ifCond .eq 18, 3) := by decide +kernel
theorem dX12_best_19 : decode cX12_best 19 = .ok (.iload_n 3, 1) := by decide +kernel
theorem dX12_best_20 : decode cX12_best 20 = .ok (.i2l, 1) := by decide +kernel
theorem dX12_best_21 : decode cX12_best 21 = .ok (.ldc2_w 429, 3) := by decide +kernel
theorem dX12_best_24 : decode cX12_best 24 = .ok (.iload_n 2, 1) := by decide +kernel
theorem dX12_best_25 : decode cX12_best 25 = .ok (.iconst 1, 1) := by decide +kernel
theorem dX12_best_26 : decode cX12_best 26 = .ok (.isub, 1) := by decide +kernel
theorem dX12_best_27 : decode cX12_best 27 = .ok (.i2l, 1) := by decide +kernel
theorem dX12_best_28 : decode cX12_best 28 = .ok (.invokestatic 140, 3) := by decide +kernel
theorem dX12_best_31 : decode cX12_best 31 = .ok (.ifCond .ne 7, 3) := by decide +kernel
theorem dX12_best_34 : decode cX12_best 34 = .ok (.ldc_w 384, 3) := by decide +kernel
theorem dX12_best_37 : decode cX12_best 37 = .ok (.ireturn, 1) := by decide +kernel
theorem dX12_best_38 : decode cX12_best 38 = .ok (.aload_n 0, 1) := by decide +kernel
theorem dX12_best_39 : decode cX12_best 39 = .ok (.iload_n 2, 1) := by decide +kernel
theorem dX12_best_40 : decode cX12_best 40 = .ok (.iload_n 1, 1) := by decide +kernel
theorem dX12_best_41 : decode cX12_best 41 = .ok (.invokevirtual 431, 3) := by decide +kernel
theorem dX12_best_44 : decode cX12_best 44 = .ok (.iload_n 3, 1) := by decide +kernel
theorem dX12_best_45 : decode cX12_best 45 = .ok (.iconst (-1), 1) := by decide +kernel
theorem dX12_best_46 : decode cX12_best 46 = .ok (.if_icmp .ne 13, 3) := by decide +kernel
theorem dX12_best_49 : decode cX12_best 49 = .ok (.aload_n 0, 1) := by decide +kernel
theorem dX12_best_50 : decode cX12_best 50 = .ok (.getfield 125, 3) := by decide +kernel
theorem dX12_best_53 : decode cX12_best 53 = .ok (.aload_n 0, 1) := by decide +kernel
theorem dX12_best_54 : decode cX12_best 54 = .ok (.getfield 158, 3) := by decide +kernel
theorem dX12_best_57 : decode cX12_best 57 = .ok (.iaload, 1) := by decide +kernel
theorem dX12_best_58 : decode cX12_best 58 = .ok (.ireturn, 1) := by decide +kernel
theorem dX12_best_59 : decode cX12_best 59 = .ok (.aload_n 0, 1) := by decide +kernel
theorem dX12_best_60 : decode cX12_best 60 = .ok (.getfield 158, 3) := by decide +kernel
theorem dX12_best_63 : decode cX12_best 63 = .ok (.istore 4, 2) := by decide +kernel
theorem dX12_best_65 : decode cX12_best 65 = .ok (.bipush 8, 2) := by decide +kernel
theorem dX12_best_67 : decode cX12_best 67 = .ok (.istore 5, 2) := by decide +kernel
theorem dX12_best_69 : decode cX12_best 69 = .ok (.iconst 0, 1) := by decide +kernel
theorem dX12_best_70 : decode cX12_best 70 = .ok (.istore 6, 2) := by decide +kernel
theorem dX12_best_72 : decode cX12_best 72 = .ok (.iload 6, 2) := by decide +kernel
theorem dX12_best_74 : decode cX12_best 74 = .ok (.iload_n 3, 1) := by decide +kernel
theorem dX12_best_75 : decode cX12_best 75 = .ok (.if_icmp .gt 55, 3) := by decide +kernel
theorem dX12_best_78 : decode cX12_best 78 = .ok (.aload_n 0, 1) := by decide +kernel
theorem dX12_best_79 : decode cX12_best 79 = .ok (.iload 6, 2) := by decide +kernel
theorem dX12_best_81 : decode cX12_best 81 = .ok (.invokevirtual 394, 3) := by decide +kernel
theorem dX12_best_84 : decode cX12_best 84 = .ok (.iload_n 1, 1) := by decide +kernel
theorem dX12_best_85 : decode cX12_best 85 = .ok (.if_icmp .ne 15, 3) := by decide +kernel
theorem dX12_best_88 : decode cX12_best 88 = .ok (.aload_n 0, 1) := by decide +kernel
theorem dX12_best_89 : decode cX12_best 89 = .ok (.iload 6, 2) := by decide +kernel
theorem dX12_best_91 : decode cX12_best 91 = .ok (.iload 4, 2) := by decide +kernel
theorem dX12_best_93 : decode cX12_best 93 = .ok (.iload_n 1, 1) := by decide +kernel
theorem dX12_best_94 : decode cX12_best 94 = .ok (.invokevirtual 424, 3) := by decide +kernel
theorem dX12_best_97 : decode cX12_best 97 = .ok (.goto 15, 3) := by decide +kernel
theorem dX12_best_100 : decode cX12_best 100 = .ok (.aload_n 0, 1) := by decide +kernel
theorem dX12_best_101 : decode cX12_best 101 = .ok (.iload 4, 2) := by decide +kernel
theorem dX12_best_103 : decode cX12_best 103 = .ok (.aload_n 0, 1) := by decide +kernel
theorem dX12_best_104 : decode cX12_best 104 = .ok (.iload 6, 2) := by decide +kernel
theorem dX12_best_106 : decode cX12_best 106 = .ok (.invokevirtual 394, 3) := by decide +kernel
theorem dX12_best_109 : decode cX12_best 109 = .ok (.invokevirtual 385, 3) := by decide +kernel
theorem dX12_best_112 : decode cX12_best 112 = .ok (.istore 5, 2) := by decide +kernel
theorem dX12_best_114 : decode cX12_best 114 = .ok (.aload_n 0, 1) := by decide +kernel
theorem dX12_best_115 : decode cX12_best 115 = .ok (.iload 4, 2) := by decide +kernel
theorem dX12_best_117 : decode cX12_best 117 = .ok (.iload 5, 2) := by decide +kernel
theorem dX12_best_119 : decode cX12_best 119 = .ok (.invokevirtual 362, 3) := by decide +kernel
theorem dX12_best_122 : decode cX12_best 122 = .ok (.istore 4, 2) := by decide +kernel
theorem dX12_best_124 : decode cX12_best 124 = .ok (.iinc 6 1, 3) := by decide +kernel
theorem dX12_best_127 : decode cX12_best 127 = .ok (.goto (-55), 3) := by decide +kernel
theorem dX12_best_130 : decode cX12_best 130 = .ok (.iload 5, 2) := by decide +kernel
theorem dX12_best_132 : decode cX12_best 132 = .ok (.ireturn, 1) := by decide +kernel
theorem dX12_allBy_0 : decode cX12_allBy 0 = .ok (.aload_n 0, 1) := by decide +kernel
theorem dX12_allBy_1 : decode cX12_allBy 1 = .ok (.aload_n 0, 1) := by decide +kernel
theorem dX12_allBy_2 : decode cX12_allBy 2 = .ok (.iload_n 2, 1) := by decide +kernel
theorem dX12_allBy_3 : decode cX12_allBy 3 = .ok (.iload_n 3, 1) := by decide +kernel
theorem dX12_allBy_4 : decode cX12_allBy 4 = .ok (.invokevirtual 362, 3) := by decide +kernel
theorem dX12_allBy_7 : decode cX12_allBy 7 = .ok (.iload 4, 2) := by decide +kernel
theorem dX12_allBy_9 : decode cX12_allBy 9 = .ok (.invokevirtual 355, 3) := by decide +kernel
theorem dX12_allBy_12 : decode cX12_allBy 12 = .ok (.aload_n 0, 1) := by decide +kernel
theorem dX12_allBy_13 : decode cX12_allBy 13 = .ok (.getfield 129, 3) := by decide +kernel
theorem dX12_allBy_16 : decode cX12_allBy 16 = .ok (.iconst 4, 1) := by decide +kernel
theorem dX12_allBy_17 : decode cX12_allBy 17 = .ok (.sipush 4681, 3) := by decide +kernel
theorem dX12_allBy_20 : decode cX12_allBy 20 = .ok (.iload_n 1, 1) := by decide +kernel
theorem dX12_allBy_21 : decode cX12_allBy 21 = .ok (.iconst 1, 1) := by decide +kernel
theorem dX12_allBy_22 : decode cX12_allBy 22 = .ok (.iadd, 1) := by decide +kernel
theorem dX12_allBy_23 : decode cX12_allBy 23 = .ok (.imul, 1) := by decide +kernel
theorem dX12_allBy_24 : decode cX12_allBy 24 = .ok (.aload_n 0, 1) := by decide +kernel
theorem dX12_allBy_25 : decode cX12_allBy 25 = .ok (.iload_n 2, 1) := by decide +kernel
theorem dX12_allBy_26 : decode cX12_allBy 26 = .ok (.iload_n 3, 1) := by decide +kernel
theorem dX12_allBy_27 : decode cX12_allBy 27 = .ok (.invokevirtual 362, 3) := by decide +kernel
theorem dX12_allBy_30 : decode cX12_allBy 30 = .ok (.iadd, 1) := by decide +kernel
theorem dX12_allBy_31 : decode cX12_allBy 31 = .ok (.imul, 1) := by decide +kernel
theorem dX12_allBy_32 : decode cX12_allBy 32 = .ok (.iload 4, 2) := by decide +kernel
theorem dX12_allBy_34 : decode cX12_allBy 34 = .ok (.iadd, 1) := by decide +kernel
theorem dX12_allBy_35 : decode cX12_allBy 35 = .ok (.iaload, 1) := by decide +kernel
theorem dX12_allBy_36 : decode cX12_allBy 36 = .ok (.iadd, 1) := by decide +kernel
theorem dX12_allBy_37 : decode cX12_allBy 37 = .ok (.ireturn, 1) := by decide +kernel
theorem dX12_allOn_0 : decode cX12_allOn 0 = .ok (.aload_n 0, 1) := by decide +kernel
theorem dX12_allOn_1 : decode cX12_allOn 1 = .ok (.iload_n 1, 1) := by decide +kernel
theorem dX12_allOn_2 : decode cX12_allOn 2 = .ok (.invokevirtual 394, 3) := by decide +kernel
theorem dX12_allOn_5 : decode cX12_allOn 5 = .ok (.istore_n 3, 1) := by decide +kernel
theorem dX12_allOn_6 : decode cX12_allOn 6 = .ok (.bipush 8, 2) := by decide +kernel
theorem dX12_allOn_8 : decode cX12_allOn 8 = .ok (.istore 4, 2) := by decide +kernel
theorem dX12_allOn_10 : decode cX12_allOn 10 = .ok (.iconst 0, 1) := by decide +kernel
theorem dX12_allOn_11 : decode cX12_allOn 11 = .ok (.istore 5, 2) := by decide +kernel
theorem dX12_allOn_13 : decode cX12_allOn 13 = .ok (.iload 5, 2) := by decide +kernel
theorem dX12_allOn_15 : decode cX12_allOn 15 = .ok (.aload_n 0, 1) := by decide +kernel
theorem dX12_allOn_16 : decode cX12_allOn 16 = .ok (.getfield 144, 3) := by decide +kernel
theorem dX12_allOn_19 : decode cX12_allOn 19 = .ok (.if_icmp .ge 48, 3) := by decide +kernel
theorem dX12_allOn_22 : decode cX12_allOn 22 = .ok (.aload_n 0, 1) := by decide +kernel
theorem dX12_allOn_23 : decode cX12_allOn 23 = .ok (.iload_n 2, 1) := by decide +kernel
theorem dX12_allOn_24 : decode cX12_allOn 24 = .ok (.iload_n 3, 1) := by decide +kernel
theorem dX12_allOn_25 : decode cX12_allOn 25 = .ok (.invokevirtual 359, 3) := by decide +kernel
theorem dX12_allOn_28 : decode cX12_allOn 28 = .ok (.iload 5, 2) := by decide +kernel
theorem dX12_allOn_30 : decode cX12_allOn 30 = .ok (.invokestatic 335, 3) := by decide +kernel
theorem dX12_allOn_33 : decode cX12_allOn 33 = .ok (.ifCond .eq 28, 3) := by decide +kernel
theorem dX12_allOn_36 : decode cX12_allOn 36 = .ok (.aload_n 0, 1) := by decide +kernel
theorem dX12_allOn_37 : decode cX12_allOn 37 = .ok (.iload_n 1, 1) := by decide +kernel
theorem dX12_allOn_38 : decode cX12_allOn 38 = .ok (.iload_n 2, 1) := by decide +kernel
theorem dX12_allOn_39 : decode cX12_allOn 39 = .ok (.iload 5, 2) := by decide +kernel
theorem dX12_allOn_41 : decode cX12_allOn 41 = .ok (.iload_n 3, 1) := by decide +kernel
theorem dX12_allOn_42 : decode cX12_allOn 42 = .ok (.invokevirtual 434, 3) := by decide +kernel
theorem dX12_allOn_45 : decode cX12_allOn 45 = .ok (.aload_n 0, 1) := by decide +kernel
theorem dX12_allOn_46 : decode cX12_allOn 46 = .ok (.iload_n 1, 1) := by decide +kernel
theorem dX12_allOn_47 : decode cX12_allOn 47 = .ok (.iload_n 2, 1) := by decide +kernel
theorem dX12_allOn_48 : decode cX12_allOn 48 = .ok (.iload 4, 2) := by decide +kernel
theorem dX12_allOn_50 : decode cX12_allOn 50 = .ok (.iload_n 3, 1) := by decide +kernel
theorem dX12_allOn_51 : decode cX12_allOn 51 = .ok (.invokevirtual 434, 3) := by decide +kernel
theorem dX12_allOn_54 : decode cX12_allOn 54 = .ok (.if_icmp .le 7, 3) := by decide +kernel
theorem dX12_allOn_57 : decode cX12_allOn 57 = .ok (.iload 5, 2) := by decide +kernel
theorem dX12_allOn_59 : decode cX12_allOn 59 = .ok (.istore 4, 2) := by decide +kernel
theorem dX12_allOn_61 : decode cX12_allOn 61 = .ok (.iinc 5 1, 3) := by decide +kernel
theorem dX12_allOn_64 : decode cX12_allOn 64 = .ok (.goto (-51), 3) := by decide +kernel
theorem dX12_allOn_67 : decode cX12_allOn 67 = .ok (.iload 4, 2) := by decide +kernel
theorem dX12_allOn_69 : decode cX12_allOn 69 = .ok (.ireturn, 1) := by decide +kernel
theorem dX12_all_0 : decode cX12_all 0 = .ok (.iload_n 1, 1) := by decide +kernel
theorem dX12_all_1 : decode cX12_all 1 = .ok (.i2l, 1) := by decide +kernel
theorem dX12_all_2 : decode cX12_all 2 = .ok (.lconst 1, 1) := by decide +kernel
theorem dX12_all_3 : decode cX12_all 3 = .ok (.ldc2_w 427, 3) := by decide +kernel
theorem dX12_all_6 : decode cX12_all 6 = .ok (.invokestatic 140, 3) := by decide +kernel
theorem dX12_all_9 : decode cX12_all 9 = .ok (.ifCond .eq 26, 3) := by decide +kernel
theorem dX12_all_12 : decode cX12_all 12 = .ok (.iload_n 2, 1) := by decide +kernel
theorem dX12_all_13 : decode cX12_all 13 = .ok (.invokestatic 381, 3) := by decide +kernel
theorem dX12_all_16 : decode cX12_all 16 = .ok (.ifCond .ne 23, 3) := by decide +kernel
theorem dX12_all_19 : decode cX12_all 19 = .ok (.iload_n 2, 1) := by decide +kernel
theorem dX12_all_20 : decode cX12_all 20 = .ok (.i2l, 1) := by decide +kernel
theorem dX12_all_21 : decode cX12_all 21 = .ok (.ldc2_w 390, 3) := by decide +kernel
theorem dX12_all_24 : decode cX12_all 24 = .ok (.bipush 9, 2) := by decide +kernel
theorem dX12_all_26 : decode cX12_all 26 = .ok (.iload_n 1, 1) := by decide +kernel
theorem dX12_all_27 : decode cX12_all 27 = .ok (.iadd, 1) := by decide +kernel
theorem dX12_all_28 : decode cX12_all 28 = .ok (.i2l, 1) := by decide +kernel
theorem dX12_all_29 : decode cX12_all 29 = .ok (.invokestatic 140, 3) := by decide +kernel
theorem dX12_all_32 : decode cX12_all 32 = .ok (.ifCond .ne 7, 3) := by decide +kernel
theorem dX12_all_35 : decode cX12_all 35 = .ok (.ldc_w 384, 3) := by decide +kernel
theorem dX12_all_38 : decode cX12_all 38 = .ok (.ireturn, 1) := by decide +kernel
theorem dX12_all_39 : decode cX12_all 39 = .ok (.aload_n 0, 1) := by decide +kernel
theorem dX12_all_40 : decode cX12_all 40 = .ok (.iload_n 1, 1) := by decide +kernel
theorem dX12_all_41 : decode cX12_all 41 = .ok (.bipush 9, 2) := by decide +kernel
theorem dX12_all_43 : decode cX12_all 43 = .ok (.invokevirtual 421, 3) := by decide +kernel
theorem dX12_all_46 : decode cX12_all 46 = .ok (.iconst 0, 1) := by decide +kernel
theorem dX12_all_47 : decode cX12_all 47 = .ok (.istore_n 3, 1) := by decide +kernel
theorem dX12_all_48 : decode cX12_all 48 = .ok (.iload_n 3, 1) := by decide +kernel
theorem dX12_all_49 : decode cX12_all 49 = .ok (.sipush 18724, 3) := by decide +kernel
theorem dX12_all_52 : decode cX12_all 52 = .ok (.if_icmp .ge 22, 3) := by decide +kernel
theorem dX12_all_55 : decode cX12_all 55 = .ok (.aload_n 0, 1) := by decide +kernel
theorem dX12_all_56 : decode cX12_all 56 = .ok (.getfield 129, 3) := by decide +kernel
theorem dX12_all_59 : decode cX12_all 59 = .ok (.sipush 18724, 3) := by decide +kernel
theorem dX12_all_62 : decode cX12_all 62 = .ok (.iload_n 1, 1) := by decide +kernel
theorem dX12_all_63 : decode cX12_all 63 = .ok (.imul, 1) := by decide +kernel
theorem dX12_all_64 : decode cX12_all 64 = .ok (.iload_n 3, 1) := by decide +kernel
theorem dX12_all_65 : decode cX12_all 65 = .ok (.iadd, 1) := by decide +kernel
theorem dX12_all_66 : decode cX12_all 66 = .ok (.iconst 0, 1) := by decide +kernel
theorem dX12_all_67 : decode cX12_all 67 = .ok (.iastore, 1) := by decide +kernel
theorem dX12_all_68 : decode cX12_all 68 = .ok (.iinc 3 1, 3) := by decide +kernel
theorem dX12_all_71 : decode cX12_all 71 = .ok (.goto (-23), 3) := by decide +kernel
theorem dX12_all_74 : decode cX12_all 74 = .ok (.iload_n 1, 1) := by decide +kernel
theorem dX12_all_75 : decode cX12_all 75 = .ok (.iconst 1, 1) := by decide +kernel
theorem dX12_all_76 : decode cX12_all 76 = .ok (.isub, 1) := by decide +kernel
theorem dX12_all_77 : decode cX12_all 77 = .ok (.istore_n 3, 1) := by decide +kernel
theorem dX12_all_78 : decode cX12_all 78 = .ok (.iload_n 3, 1) := by decide +kernel
theorem dX12_all_79 : decode cX12_all 79 = .ok (.ifCond .lt 98, 3) := by decide +kernel
theorem dX12_all_82 : decode cX12_all 82 = .ok (.iconst 0, 1) := by decide +kernel
theorem dX12_all_83 : decode cX12_all 83 = .ok (.istore 4, 2) := by decide +kernel
theorem dX12_all_85 : decode cX12_all 85 = .ok (.iload 4, 2) := by decide +kernel
theorem dX12_all_87 : decode cX12_all 87 = .ok (.sipush 4681, 3) := by decide +kernel
theorem dX12_all_90 : decode cX12_all 90 = .ok (.if_icmp .ge 81, 3) := by decide +kernel
theorem dX12_all_93 : decode cX12_all 93 = .ok (.aload_n 0, 1) := by decide +kernel
theorem dX12_all_94 : decode cX12_all 94 = .ok (.getfield 122, 3) := by decide +kernel
theorem dX12_all_97 : decode cX12_all 97 = .ok (.sipush 4681, 3) := by decide +kernel
theorem dX12_all_100 : decode cX12_all 100 = .ok (.iload_n 3, 1) := by decide +kernel
theorem dX12_all_101 : decode cX12_all 101 = .ok (.imul, 1) := by decide +kernel
theorem dX12_all_102 : decode cX12_all 102 = .ok (.iload 4, 2) := by decide +kernel
theorem dX12_all_104 : decode cX12_all 104 = .ok (.iadd, 1) := by decide +kernel
theorem dX12_all_105 : decode cX12_all 105 = .ok (.baload, 1) := by decide +kernel
theorem dX12_all_106 : decode cX12_all 106 = .ok (.ifCond .ne 6, 3) := by decide +kernel
theorem dX12_all_109 : decode cX12_all 109 = .ok (.goto 56, 3) := by decide +kernel
theorem dX12_all_112 : decode cX12_all 112 = .ok (.aload_n 0, 1) := by decide +kernel
theorem dX12_all_113 : decode cX12_all 113 = .ok (.iload_n 3, 1) := by decide +kernel
theorem dX12_all_114 : decode cX12_all 114 = .ok (.iload 4, 2) := by decide +kernel
theorem dX12_all_116 : decode cX12_all 116 = .ok (.invokevirtual 437, 3) := by decide +kernel
theorem dX12_all_119 : decode cX12_all 119 = .ok (.istore 5, 2) := by decide +kernel
theorem dX12_all_121 : decode cX12_all 121 = .ok (.iconst 0, 1) := by decide +kernel
theorem dX12_all_122 : decode cX12_all 122 = .ok (.istore 6, 2) := by decide +kernel
theorem dX12_all_124 : decode cX12_all 124 = .ok (.iload 6, 2) := by decide +kernel
theorem dX12_all_126 : decode cX12_all 126 = .ok (.iconst 4, 1) := by decide +kernel
theorem dX12_all_127 : decode cX12_all 127 = .ok (.if_icmp .ge 38, 3) := by decide +kernel
theorem dX12_all_130 : decode cX12_all 130 = .ok (.aload_n 0, 1) := by decide +kernel
theorem dX12_all_131 : decode cX12_all 131 = .ok (.getfield 129, 3) := by decide +kernel
theorem dX12_all_134 : decode cX12_all 134 = .ok (.iconst 4, 1) := by decide +kernel
theorem dX12_all_135 : decode cX12_all 135 = .ok (.sipush 4681, 3) := by decide +kernel
theorem dX12_all_138 : decode cX12_all 138 = .ok (.iload_n 3, 1) := by decide +kernel
theorem dX12_all_139 : decode cX12_all 139 = .ok (.imul, 1) := by decide +kernel
theorem dX12_all_140 : decode cX12_all 140 = .ok (.iload 4, 2) := by decide +kernel
theorem dX12_all_142 : decode cX12_all 142 = .ok (.iadd, 1) := by decide +kernel
theorem dX12_all_143 : decode cX12_all 143 = .ok (.imul, 1) := by decide +kernel
theorem dX12_all_144 : decode cX12_all 144 = .ok (.iload 6, 2) := by decide +kernel
theorem dX12_all_146 : decode cX12_all 146 = .ok (.iadd, 1) := by decide +kernel
theorem dX12_all_147 : decode cX12_all 147 = .ok (.aload_n 0, 1) := by decide +kernel
theorem dX12_all_148 : decode cX12_all 148 = .ok (.iload_n 3, 1) := by decide +kernel
theorem dX12_all_149 : decode cX12_all 149 = .ok (.iload 4, 2) := by decide +kernel
theorem dX12_all_151 : decode cX12_all 151 = .ok (.iload 5, 2) := by decide +kernel
theorem dX12_all_153 : decode cX12_all 153 = .ok (.iload 6, 2) := by decide +kernel
theorem dX12_all_155 : decode cX12_all 155 = .ok (.invokevirtual 434, 3) := by decide +kernel
theorem dX12_all_158 : decode cX12_all 158 = .ok (.iastore, 1) := by decide +kernel
theorem dX12_all_159 : decode cX12_all 159 = .ok (.iinc 6 1, 3) := by decide +kernel
theorem dX12_all_162 : decode cX12_all 162 = .ok (.goto (-38), 3) := by decide +kernel
theorem dX12_all_165 : decode cX12_all 165 = .ok (.iinc 4 1, 3) := by decide +kernel
theorem dX12_all_168 : decode cX12_all 168 = .ok (.goto (-83), 3) := by decide +kernel
theorem dX12_all_171 : decode cX12_all 171 = .ok (.iinc 3 (-1), 3) := by decide +kernel
theorem dX12_all_174 : decode cX12_all 174 = .ok (.goto (-96), 3) := by decide +kernel
theorem dX12_all_177 : decode cX12_all 177 = .ok (.iload_n 2, 1) := by decide +kernel
theorem dX12_all_178 : decode cX12_all 178 = .ok (.invokestatic 381, 3) := by decide +kernel
theorem dX12_all_181 : decode cX12_all 181 = .ok (.ifCond .eq 17, 3) := by decide +kernel
theorem dX12_all_184 : decode cX12_all 184 = .ok (.aload_n 0, 1) := by decide +kernel
theorem dX12_all_185 : decode cX12_all 185 = .ok (.getfield 129, 3) := by decide +kernel
theorem dX12_all_188 : decode cX12_all 188 = .ok (.iconst 4, 1) := by decide +kernel
theorem dX12_all_189 : decode cX12_all 189 = .ok (.aload_n 0, 1) := by decide +kernel
theorem dX12_all_190 : decode cX12_all 190 = .ok (.getfield 158, 3) := by decide +kernel
theorem dX12_all_193 : decode cX12_all 193 = .ok (.imul, 1) := by decide +kernel
theorem dX12_all_194 : decode cX12_all 194 = .ok (.iload_n 2, 1) := by decide +kernel
theorem dX12_all_195 : decode cX12_all 195 = .ok (.iadd, 1) := by decide +kernel
theorem dX12_all_196 : decode cX12_all 196 = .ok (.iaload, 1) := by decide +kernel
theorem dX12_all_197 : decode cX12_all 197 = .ok (.ireturn, 1) := by decide +kernel
theorem dX12_all_198 : decode cX12_all 198 = .ok (.aload_n 0, 1) := by decide +kernel
theorem dX12_all_199 : decode cX12_all 199 = .ok (.getfield 158, 3) := by decide +kernel
theorem dX12_all_202 : decode cX12_all 202 = .ok (.istore_n 3, 1) := by decide +kernel
theorem dX12_all_203 : decode cX12_all 203 = .ok (.bipush 8, 2) := by decide +kernel
theorem dX12_all_205 : decode cX12_all 205 = .ok (.istore 4, 2) := by decide +kernel
theorem dX12_all_207 : decode cX12_all 207 = .ok (.iconst 0, 1) := by decide +kernel
theorem dX12_all_208 : decode cX12_all 208 = .ok (.istore 5, 2) := by decide +kernel
theorem dX12_all_210 : decode cX12_all 210 = .ok (.iload 5, 2) := by decide +kernel
theorem dX12_all_212 : decode cX12_all 212 = .ok (.iload_n 2, 1) := by decide +kernel
theorem dX12_all_213 : decode cX12_all 213 = .ok (.bipush 10, 2) := by decide +kernel
theorem dX12_all_215 : decode cX12_all 215 = .ok (.isub, 1) := by decide +kernel
theorem dX12_all_216 : decode cX12_all 216 = .ok (.if_icmp .gt 26, 3) := by decide +kernel
theorem dX12_all_219 : decode cX12_all 219 = .ok (.aload_n 0, 1) := by decide +kernel
theorem dX12_all_220 : decode cX12_all 220 = .ok (.iload 5, 2) := by decide +kernel
theorem dX12_all_222 : decode cX12_all 222 = .ok (.iload_n 3, 1) := by decide +kernel
theorem dX12_all_223 : decode cX12_all 223 = .ok (.invokevirtual 437, 3) := by decide +kernel
theorem dX12_all_226 : decode cX12_all 226 = .ok (.istore 4, 2) := by decide +kernel
theorem dX12_all_228 : decode cX12_all 228 = .ok (.aload_n 0, 1) := by decide +kernel
theorem dX12_all_229 : decode cX12_all 229 = .ok (.iload_n 3, 1) := by decide +kernel
theorem dX12_all_230 : decode cX12_all 230 = .ok (.iload 4, 2) := by decide +kernel
theorem dX12_all_232 : decode cX12_all 232 = .ok (.invokevirtual 362, 3) := by decide +kernel
theorem dX12_all_235 : decode cX12_all 235 = .ok (.istore_n 3, 1) := by decide +kernel
theorem dX12_all_236 : decode cX12_all 236 = .ok (.iinc 5 1, 3) := by decide +kernel
theorem dX12_all_239 : decode cX12_all 239 = .ok (.goto (-29), 3) := by decide +kernel
theorem dX12_all_242 : decode cX12_all 242 = .ok (.iload 4, 2) := by decide +kernel
theorem dX12_all_244 : decode cX12_all 244 = .ok (.ireturn, 1) := by decide +kernel
theorem dX12_areDifferent_0 : decode cX12_areDifferent 0 = .ok (.iconst 0, 1) := by decide +kernel
theorem dX12_areDifferent_1 : decode cX12_areDifferent 1 = .ok (.istore_n 1, 1) := by decide +kernel
theorem dX12_areDifferent_2 : decode cX12_areDifferent 2 = .ok (.iconst 0, 1) := by decide +kernel
theorem dX12_areDifferent_3 : decode cX12_areDifferent 3 = .ok (.istore_n 2, 1) := by decide +kernel
theorem dX12_areDifferent_4 : decode cX12_areDifferent 4 = .ok (.iload_n 2, 1) := by decide +kernel
theorem dX12_areDifferent_5 : decode cX12_areDifferent 5 = .ok (.aload_n 0, 1) := by decide +kernel
theorem dX12_areDifferent_6 : decode cX12_areDifferent 6 = .ok (.getfield 297, 3) := by decide +kernel
theorem dX12_areDifferent_9 : decode cX12_areDifferent 9 = .ok (.if_icmp .ge 48, 3) := by decide +kernel
theorem dX12_areDifferent_12 : decode cX12_areDifferent 12 = .ok (.iload_n 1, 1) := by decide +kernel
theorem dX12_areDifferent_13 : decode cX12_areDifferent 13 = .ok (.aload_n 0, 1) := by decide +kernel
theorem dX12_areDifferent_14 : decode cX12_areDifferent 14 = .ok (.getfield 91, 3) := by decide +kernel
theorem dX12_areDifferent_17 : decode cX12_areDifferent 17 = .ok (.iload_n 2, 1) := by decide +kernel
theorem dX12_areDifferent_18 : decode cX12_areDifferent 18 = .ok (.iaload, 1) := by decide +kernel
theorem dX12_areDifferent_19 : decode cX12_areDifferent 19 = .ok (.invokestatic 335, 3) := by decide +kernel
theorem dX12_areDifferent_22 : decode cX12_areDifferent 22 = .ok (.ifCond .ne 16, 3) := by decide +kernel
theorem dX12_areDifferent_25 : decode cX12_areDifferent 25 = .ok (.aload_n 0, 1) := by decide +kernel
theorem dX12_areDifferent_26 : decode cX12_areDifferent 26 = .ok (.getfield 91, 3) := by decide +kernel
theorem dX12_areDifferent_29 : decode cX12_areDifferent 29 = .ok (.iload_n 2, 1) := by decide +kernel
theorem dX12_areDifferent_30 : decode cX12_areDifferent 30 = .ok (.iaload, 1) := by decide +kernel
theorem dX12_areDifferent_31 : decode cX12_areDifferent 31 = .ok (.aload_n 0, 1) := by decide +kernel
theorem dX12_areDifferent_32 : decode cX12_areDifferent 32 = .ok (.getfield 144, 3) := by decide +kernel
theorem dX12_areDifferent_35 : decode cX12_areDifferent 35 = .ok (.if_icmp .lt 5, 3) := by decide +kernel
theorem dX12_areDifferent_38 : decode cX12_areDifferent 38 = .ok (.iconst 0, 1) := by decide +kernel
theorem dX12_areDifferent_39 : decode cX12_areDifferent 39 = .ok (.ireturn, 1) := by decide +kernel
theorem dX12_areDifferent_40 : decode cX12_areDifferent 40 = .ok (.iload_n 1, 1) := by decide +kernel
theorem dX12_areDifferent_41 : decode cX12_areDifferent 41 = .ok (.iconst 1, 1) := by decide +kernel
theorem dX12_areDifferent_42 : decode cX12_areDifferent 42 = .ok (.aload_n 0, 1) := by decide +kernel
theorem dX12_areDifferent_43 : decode cX12_areDifferent 43 = .ok (.getfield 91, 3) := by decide +kernel
theorem dX12_areDifferent_46 : decode cX12_areDifferent 46 = .ok (.iload_n 2, 1) := by decide +kernel
theorem dX12_areDifferent_47 : decode cX12_areDifferent 47 = .ok (.iaload, 1) := by decide +kernel
theorem dX12_areDifferent_48 : decode cX12_areDifferent 48 = .ok (.ishl, 1) := by decide +kernel
theorem dX12_areDifferent_49 : decode cX12_areDifferent 49 = .ok (.ior, 1) := by decide +kernel
theorem dX12_areDifferent_50 : decode cX12_areDifferent 50 = .ok (.istore_n 1, 1) := by decide +kernel
theorem dX12_areDifferent_51 : decode cX12_areDifferent 51 = .ok (.iinc 2 1, 3) := by decide +kernel
theorem dX12_areDifferent_54 : decode cX12_areDifferent 54 = .ok (.goto (-50), 3) := by decide +kernel
theorem dX12_areDifferent_57 : decode cX12_areDifferent 57 = .ok (.iconst 1, 1) := by decide +kernel
theorem dX12_areDifferent_58 : decode cX12_areDifferent 58 = .ok (.ireturn, 1) := by decide +kernel
theorem dX12_bestRow_0 : decode cX12_bestRow 0 = .ok (.iload_n 1, 1) := by decide +kernel
theorem dX12_bestRow_1 : decode cX12_bestRow 1 = .ok (.iconst (-1), 1) := by decide +kernel
theorem dX12_bestRow_2 : decode cX12_bestRow 2 = .ok (.if_icmp .eq 10, 3) := by decide +kernel
theorem dX12_bestRow_5 : decode cX12_bestRow 5 = .ok (.iload_n 1, 1) := by decide +kernel
theorem dX12_bestRow_6 : decode cX12_bestRow 6 = .ok (.invokestatic 381, 3) := by decide +kernel
theorem dX12_bestRow_9 : decode cX12_bestRow 9 = .ok (.ifCond .eq 32, 3) := by decide +kernel
theorem dX12_bestRow_12 : decode cX12_bestRow 12 = .ok (.iload_n 2, 1) := by decide +kernel
theorem dX12_bestRow_13 : decode cX12_bestRow 13 = .ok (.i2l, 1) := by decide +kernel
theorem dX12_bestRow_14 : decode cX12_bestRow 14 = .ok (.ldc2_w 429, 3) := by decide +kernel
theorem dX12_bestRow_17 : decode cX12_bestRow 17 = .ok (.aload_n 0, 1) := by decide +kernel
theorem dX12_bestRow_18 : decode cX12_bestRow 18 = .ok (.getfield 13, 3) := by decide +kernel
theorem dX12_bestRow_21 : decode cX12_bestRow 21 = .ok (.iconst 1, 1) := by decide +kernel
theorem dX12_bestRow_22 : decode cX12_bestRow 22 = .ok (.isub, 1) := by decide +kernel
theorem dX12_bestRow_23 : decode cX12_bestRow 23 = .ok (.i2l, 1) := by decide +kernel
theorem dX12_bestRow_24 : decode cX12_bestRow 24 = .ok (.invokestatic 140, 3) := by decide +kernel
theorem dX12_bestRow_27 : decode cX12_bestRow 27 = .ok (.ifCond .eq 14, 3) := by decide +kernel
theorem dX12_bestRow_30 : decode cX12_bestRow 30 = .ok (.aload_n 0, 1) := by decide +kernel
theorem dX12_bestRow_31 : decode cX12_bestRow 31 = .ok (.getfield 144, 3) := by decide +kernel
theorem dX12_bestRow_34 : decode cX12_bestRow 34 = .ok (.aload_n 0, 1) := by decide +kernel
theorem dX12_bestRow_35 : decode cX12_bestRow 35 = .ok (.getfield 13, 3) := by decide +kernel
theorem dX12_bestRow_38 : decode cX12_bestRow 38 = .ok (.if_icmp .ge 7, 3) := by decide +kernel
theorem dX12_bestRow_41 : decode cX12_bestRow 41 = .ok (.ldc_w 384, 3) := by decide +kernel
theorem dX12_bestRow_44 : decode cX12_bestRow 44 = .ok (.ireturn, 1) := by decide +kernel
theorem dX12_bestRow_45 : decode cX12_bestRow 45 = .ok (.iconst (-1), 1) := by decide +kernel
theorem dX12_bestRow_46 : decode cX12_bestRow 46 = .ok (.istore_n 3, 1) := by decide +kernel
theorem dX12_bestRow_47 : decode cX12_bestRow 47 = .ok (.iconst 0, 1) := by decide +kernel
theorem dX12_bestRow_48 : decode cX12_bestRow 48 = .ok (.istore 4, 2) := by decide +kernel
theorem dX12_bestRow_50 : decode cX12_bestRow 50 = .ok (.aload_n 0, 1) := by decide +kernel
theorem dX12_bestRow_51 : decode cX12_bestRow 51 = .ok (.getfield 13, 3) := by decide +kernel
theorem dX12_bestRow_54 : decode cX12_bestRow 54 = .ok (.iconst 4, 1) := by decide +kernel
theorem dX12_bestRow_55 : decode cX12_bestRow 55 = .ok (.if_icmp .ne 9, 3) := by decide +kernel
theorem dX12_bestRow_58 : decode cX12_bestRow 58 = .ok (.sipush 4681, 3) := by decide +kernel
theorem dX12_bestRow_61 : decode cX12_bestRow 61 = .ok (.goto 12, 3) := by decide +kernel
theorem dX12_bestRow_64 : decode cX12_bestRow 64 = .ok (.aload_n 0, 1) := by decide +kernel
theorem dX12_bestRow_65 : decode cX12_bestRow 65 = .ok (.getfield 13, 3) := by decide +kernel
theorem dX12_bestRow_68 : decode cX12_bestRow 68 = .ok (.iconst 1, 1) := by decide +kernel
theorem dX12_bestRow_69 : decode cX12_bestRow 69 = .ok (.iadd, 1) := by decide +kernel
theorem dX12_bestRow_70 : decode cX12_bestRow 70 = .ok (.invokestatic 326, 3) := by decide +kernel
theorem dX12_bestRow_73 : decode cX12_bestRow 73 = .ok (.istore 5, 2) := by decide +kernel
theorem dX12_bestRow_75 : decode cX12_bestRow 75 = .ok (.aload_n 0, 1) := by decide +kernel
theorem dX12_bestRow_76 : decode cX12_bestRow 76 = .ok (.getfield 13, 3) := by decide +kernel
theorem dX12_bestRow_79 : decode cX12_bestRow 79 = .ok (.invokestatic 326, 3) := by decide +kernel
theorem dX12_bestRow_82 : decode cX12_bestRow 82 = .ok (.istore 6, 2) := by decide +kernel
theorem dX12_bestRow_84 : decode cX12_bestRow 84 = .ok (.iload 6, 2) := by decide +kernel
theorem dX12_bestRow_86 : decode cX12_bestRow 86 = .ok (.iload 5, 2) := by decide +kernel
theorem dX12_bestRow_88 : decode cX12_bestRow 88 = .ok (.if_icmp .ge 93, 3) := by decide +kernel
theorem dX12_bestRow_91 : decode cX12_bestRow 91 = .ok (.aload_n 0, 1) := by decide +kernel
theorem dX12_bestRow_92 : decode cX12_bestRow 92 = .ok (.iload 6, 2) := by decide +kernel
theorem dX12_bestRow_94 : decode cX12_bestRow 94 = .ok (.invokevirtual 339, 3) := by decide +kernel
theorem dX12_bestRow_97 : decode cX12_bestRow 97 = .ok (.aload_n 0, 1) := by decide +kernel
theorem dX12_bestRow_98 : decode cX12_bestRow 98 = .ok (.invokevirtual 440, 3) := by decide +kernel
theorem dX12_bestRow_101 : decode cX12_bestRow 101 = .ok (.ifCond .ne 6, 3) := by decide +kernel
theorem dX12_bestRow_104 : decode cX12_bestRow 104 = .ok (.goto 71, 3) := by decide +kernel
theorem dX12_bestRow_107 : decode cX12_bestRow 107 = .ok (.iconst 0, 1) := by decide +kernel
theorem dX12_bestRow_108 : decode cX12_bestRow 108 = .ok (.istore 7, 2) := by decide +kernel
theorem dX12_bestRow_110 : decode cX12_bestRow 110 = .ok (.iconst 0, 1) := by decide +kernel
theorem dX12_bestRow_111 : decode cX12_bestRow 111 = .ok (.istore 8, 2) := by decide +kernel
theorem dX12_bestRow_113 : decode cX12_bestRow 113 = .ok (.iload 8, 2) := by decide +kernel
theorem dX12_bestRow_115 : decode cX12_bestRow 115 = .ok (.iconst 4, 1) := by decide +kernel
theorem dX12_bestRow_116 : decode cX12_bestRow 116 = .ok (.if_icmp .ge 37, 3) := by decide +kernel
theorem dX12_bestRow_119 : decode cX12_bestRow 119 = .ok (.iload 7, 2) := by decide +kernel
theorem dX12_bestRow_121 : decode cX12_bestRow 121 = .ok (.iload_n 1, 1) := by decide +kernel
theorem dX12_bestRow_122 : decode cX12_bestRow 122 = .ok (.iconst (-1), 1) := by decide +kernel
theorem dX12_bestRow_123 : decode cX12_bestRow 123 = .ok (.if_icmp .eq 9, 3) := by decide +kernel
theorem dX12_bestRow_126 : decode cX12_bestRow 126 = .ok (.iload_n 1, 1) := by decide +kernel
theorem dX12_bestRow_127 : decode cX12_bestRow 127 = .ok (.iload 8, 2) := by decide +kernel
theorem dX12_bestRow_129 : decode cX12_bestRow 129 = .ok (.if_icmp .ne 14, 3) := by decide +kernel
theorem dX12_bestRow_132 : decode cX12_bestRow 132 = .ok (.aload_n 0, 1) := by decide +kernel
theorem dX12_bestRow_133 : decode cX12_bestRow 133 = .ok (.iload 6, 2) := by decide +kernel
theorem dX12_bestRow_135 : decode cX12_bestRow 135 = .ok (.iload 8, 2) := by decide +kernel
theorem dX12_bestRow_137 : decode cX12_bestRow 137 = .ok (.invokevirtual 355, 3) := by decide +kernel
theorem dX12_bestRow_140 : decode cX12_bestRow 140 = .ok (.goto 4, 3) := by decide +kernel
theorem dX12_bestRow_143 : decode cX12_bestRow 143 = .ok (.iconst 0, 1) := by decide +kernel
theorem dX12_bestRow_144 : decode cX12_bestRow 144 = .ok (.iadd, 1) := by decide +kernel
theorem dX12_bestRow_145 : decode cX12_bestRow 145 = .ok (.istore 7, 2) := by decide +kernel
theorem dX12_bestRow_147 : decode cX12_bestRow 147 = .ok (.iinc 8 1, 3) := by decide +kernel
theorem dX12_bestRow_150 : decode cX12_bestRow 150 = .ok (.goto (-37), 3) := by decide +kernel
theorem dX12_bestRow_153 : decode cX12_bestRow 153 = .ok (.iload_n 3, 1) := by decide +kernel
theorem dX12_bestRow_154 : decode cX12_bestRow 154 = .ok (.iconst (-1), 1) := by decide +kernel
theorem dX12_bestRow_155 : decode cX12_bestRow 155 = .ok (.if_icmp .eq 13, 3) := by decide +kernel
theorem dX12_bestRow_158 : decode cX12_bestRow 158 = .ok (.iload 7, 2) := by decide +kernel
theorem dX12_bestRow_160 : decode cX12_bestRow 160 = .ok (.iload 4, 2) := by decide +kernel
theorem dX12_bestRow_162 : decode cX12_bestRow 162 = .ok (.if_icmp .gt 6, 3) := by decide +kernel
theorem dX12_bestRow_165 : decode cX12_bestRow 165 = .ok (.goto 10, 3) := by decide +kernel
theorem dX12_bestRow_168 : decode cX12_bestRow 168 = .ok (.iload 6, 2) := by decide +kernel
theorem dX12_bestRow_170 : decode cX12_bestRow 170 = .ok (.istore_n 3, 1) := by decide +kernel
theorem dX12_bestRow_171 : decode cX12_bestRow 171 = .ok (.iload 7, 2) := by decide +kernel
theorem dX12_bestRow_173 : decode cX12_bestRow 173 = .ok (.istore 4, 2) := by decide +kernel
theorem dX12_bestRow_175 : decode cX12_bestRow 175 = .ok (.iinc 6 1, 3) := by decide +kernel
theorem dX12_bestRow_178 : decode cX12_bestRow 178 = .ok (.goto (-94), 3) := by decide +kernel
theorem dX12_bestRow_181 : decode cX12_bestRow 181 = .ok (.aload_n 0, 1) := by decide +kernel
theorem dX12_bestRow_182 : decode cX12_bestRow 182 = .ok (.iload_n 3, 1) := by decide +kernel
theorem dX12_bestRow_183 : decode cX12_bestRow 183 = .ok (.invokevirtual 339, 3) := by decide +kernel
theorem dX12_bestRow_186 : decode cX12_bestRow 186 = .ok (.iload_n 2, 1) := by decide +kernel
theorem dX12_bestRow_187 : decode cX12_bestRow 187 = .ok (.iconst (-1), 1) := by decide +kernel
theorem dX12_bestRow_188 : decode cX12_bestRow 188 = .ok (.if_icmp .ne 8, 3) := by decide +kernel
theorem dX12_bestRow_191 : decode cX12_bestRow 191 = .ok (.iload 4, 2) := by decide +kernel
theorem dX12_bestRow_193 : decode cX12_bestRow 193 = .ok (.goto 9, 3) := by decide +kernel
theorem dX12_bestRow_196 : decode cX12_bestRow 196 = .ok (.aload_n 0, 1) := by decide +kernel
theorem dX12_bestRow_197 : decode cX12_bestRow 197 = .ok (.getfield 91, 3) := by decide +kernel
theorem dX12_bestRow_200 : decode cX12_bestRow 200 = .ok (.iload_n 2, 1) := by decide +kernel
theorem dX12_bestRow_201 : decode cX12_bestRow 201 = .ok (.iaload, 1) := by decide +kernel
theorem dX12_bestRow_202 : decode cX12_bestRow 202 = .ok (.ireturn, 1) := by decide +kernel
theorem dX12_isQuiet_0 : decode cX12_isQuiet 0 = .ok (.iconst 0, 1) := by decide +kernel
theorem dX12_isQuiet_1 : decode cX12_isQuiet 1 = .ok (.istore_n 2, 1) := by decide +kernel
theorem dX12_isQuiet_2 : decode cX12_isQuiet 2 = .ok (.iload_n 2, 1) := by decide +kernel
theorem dX12_isQuiet_3 : decode cX12_isQuiet 3 = .ok (.aload_n 0, 1) := by decide +kernel
theorem dX12_isQuiet_4 : decode cX12_isQuiet 4 = .ok (.getfield 17, 3) := by decide +kernel
theorem dX12_isQuiet_7 : decode cX12_isQuiet 7 = .ok (.if_icmp .ge 25, 3) := by decide +kernel
theorem dX12_isQuiet_10 : decode cX12_isQuiet 10 = .ok (.aload_n 0, 1) := by decide +kernel
theorem dX12_isQuiet_11 : decode cX12_isQuiet 11 = .ok (.iload_n 1, 1) := by decide +kernel
theorem dX12_isQuiet_12 : decode cX12_isQuiet 12 = .ok (.aload_n 0, 1) := by decide +kernel
theorem dX12_isQuiet_13 : decode cX12_isQuiet 13 = .ok (.getfield 36, 3) := by decide +kernel
theorem dX12_isQuiet_16 : decode cX12_isQuiet 16 = .ok (.iload_n 2, 1) := by decide +kernel
theorem dX12_isQuiet_17 : decode cX12_isQuiet 17 = .ok (.iaload, 1) := by decide +kernel
theorem dX12_isQuiet_18 : decode cX12_isQuiet 18 = .ok (.invokevirtual 359, 3) := by decide +kernel
theorem dX12_isQuiet_21 : decode cX12_isQuiet 21 = .ok (.ifCond .eq 5, 3) := by decide +kernel
theorem dX12_isQuiet_24 : decode cX12_isQuiet 24 = .ok (.iconst 0, 1) := by decide +kernel
theorem dX12_isQuiet_25 : decode cX12_isQuiet 25 = .ok (.ireturn, 1) := by decide +kernel
theorem dX12_isQuiet_26 : decode cX12_isQuiet 26 = .ok (.iinc 2 1, 3) := by decide +kernel
theorem dX12_isQuiet_29 : decode cX12_isQuiet 29 = .ok (.goto (-27), 3) := by decide +kernel
theorem dX12_isQuiet_32 : decode cX12_isQuiet 32 = .ok (.iconst 1, 1) := by decide +kernel
theorem dX12_isQuiet_33 : decode cX12_isQuiet 33 = .ok (.ireturn, 1) := by decide +kernel
theorem dX12_quiet_0 : decode cX12_quiet 0 = .ok (.aload_n 0, 1) := by decide +kernel
theorem dX12_quiet_1 : decode cX12_quiet 1 = .ok (.aload_n 0, 1) := by decide +kernel
theorem dX12_quiet_2 : decode cX12_quiet 2 = .ok (.getfield 158, 3) := by decide +kernel
theorem dX12_quiet_5 : decode cX12_quiet 5 = .ok (.invokevirtual 443, 3) := by decide +kernel
theorem dX12_quiet_8 : decode cX12_quiet 8 = .ok (.ireturn, 1) := by decide +kernel
theorem dX12_isRow_0 : decode cX12_isRow 0 = .ok (.aload_n 0, 1) := by decide +kernel
theorem dX12_isRow_1 : decode cX12_isRow 1 = .ok (.iload_n 1, 1) := by decide +kernel
theorem dX12_isRow_2 : decode cX12_isRow 2 = .ok (.invokevirtual 339, 3) := by decide +kernel
theorem dX12_isRow_5 : decode cX12_isRow 5 = .ok (.iconst 0, 1) := by decide +kernel
theorem dX12_isRow_6 : decode cX12_isRow 6 = .ok (.istore_n 2, 1) := by decide +kernel
theorem dX12_isRow_7 : decode cX12_isRow 7 = .ok (.iload_n 2, 1) := by decide +kernel
theorem dX12_isRow_8 : decode cX12_isRow 8 = .ok (.aload_n 0, 1) := by decide +kernel
theorem dX12_isRow_9 : decode cX12_isRow 9 = .ok (.getfield 297, 3) := by decide +kernel
theorem dX12_isRow_12 : decode cX12_isRow 12 = .ok (.if_icmp .ge 24, 3) := by decide +kernel
theorem dX12_isRow_15 : decode cX12_isRow 15 = .ok (.aload_n 0, 1) := by decide +kernel
theorem dX12_isRow_16 : decode cX12_isRow 16 = .ok (.getfield 91, 3) := by decide +kernel
theorem dX12_isRow_19 : decode cX12_isRow 19 = .ok (.iload_n 2, 1) := by decide +kernel
theorem dX12_isRow_20 : decode cX12_isRow 20 = .ok (.iaload, 1) := by decide +kernel
theorem dX12_isRow_21 : decode cX12_isRow 21 = .ok (.aload_n 0, 1) := by decide +kernel
theorem dX12_isRow_22 : decode cX12_isRow 22 = .ok (.getfield 144, 3) := by decide +kernel
theorem dX12_isRow_25 : decode cX12_isRow 25 = .ok (.if_icmp .lt 5, 3) := by decide +kernel
theorem dX12_isRow_28 : decode cX12_isRow 28 = .ok (.iconst 0, 1) := by decide +kernel
theorem dX12_isRow_29 : decode cX12_isRow 29 = .ok (.ireturn, 1) := by decide +kernel
theorem dX12_isRow_30 : decode cX12_isRow 30 = .ok (.iinc 2 1, 3) := by decide +kernel
theorem dX12_isRow_33 : decode cX12_isRow 33 = .ok (.goto (-26), 3) := by decide +kernel
theorem dX12_isRow_36 : decode cX12_isRow 36 = .ok (.iconst 1, 1) := by decide +kernel
theorem dX12_isRow_37 : decode cX12_isRow 37 = .ok (.ireturn, 1) := by decide +kernel
theorem dX12_quietBy_0 : decode cX12_quietBy 0 = .ok (.aload_n 0, 1) := by decide +kernel
theorem dX12_quietBy_1 : decode cX12_quietBy 1 = .ok (.getfield 132, 3) := by decide +kernel
theorem dX12_quietBy_4 : decode cX12_quietBy 4 = .ok (.iconst 4, 1) := by decide +kernel
theorem dX12_quietBy_5 : decode cX12_quietBy 5 = .ok (.aload_n 0, 1) := by decide +kernel
theorem dX12_quietBy_6 : decode cX12_quietBy 6 = .ok (.iload_n 1, 1) := by decide +kernel
theorem dX12_quietBy_7 : decode cX12_quietBy 7 = .ok (.iload_n 3, 1) := by decide +kernel
theorem dX12_quietBy_8 : decode cX12_quietBy 8 = .ok (.invokevirtual 362, 3) := by decide +kernel
theorem dX12_quietBy_11 : decode cX12_quietBy 11 = .ok (.imul, 1) := by decide +kernel
theorem dX12_quietBy_12 : decode cX12_quietBy 12 = .ok (.iload_n 2, 1) := by decide +kernel
theorem dX12_quietBy_13 : decode cX12_quietBy 13 = .ok (.iconst 1, 1) := by decide +kernel
theorem dX12_quietBy_14 : decode cX12_quietBy 14 = .ok (.iadd, 1) := by decide +kernel
theorem dX12_quietBy_15 : decode cX12_quietBy 15 = .ok (.aload_n 0, 1) := by decide +kernel
theorem dX12_quietBy_16 : decode cX12_quietBy 16 = .ok (.getfield 17, 3) := by decide +kernel
theorem dX12_quietBy_19 : decode cX12_quietBy 19 = .ok (.irem, 1) := by decide +kernel
theorem dX12_quietBy_20 : decode cX12_quietBy 20 = .ok (.iadd, 1) := by decide +kernel
theorem dX12_quietBy_21 : decode cX12_quietBy 21 = .ok (.iaload, 1) := by decide +kernel
theorem dX12_quietBy_22 : decode cX12_quietBy 22 = .ok (.ireturn, 1) := by decide +kernel
theorem dX12_isQuietIn_0 : decode cX12_isQuietIn 0 = .ok (.aload_n 0, 1) := by decide +kernel
theorem dX12_isQuietIn_1 : decode cX12_isQuietIn 1 = .ok (.iload_n 1, 1) := by decide +kernel
theorem dX12_isQuietIn_2 : decode cX12_isQuietIn 2 = .ok (.iload_n 2, 1) := by decide +kernel
theorem dX12_isQuietIn_3 : decode cX12_isQuietIn 3 = .ok (.bipush 8, 2) := by decide +kernel
theorem dX12_isQuietIn_5 : decode cX12_isQuietIn 5 = .ok (.invokevirtual 446, 3) := by decide +kernel
theorem dX12_isQuietIn_8 : decode cX12_isQuietIn 8 = .ok (.iload_n 3, 1) := by decide +kernel
theorem dX12_isQuietIn_9 : decode cX12_isQuietIn 9 = .ok (.if_icmp .ne 5, 3) := by decide +kernel
theorem dX12_isQuietIn_12 : decode cX12_isQuietIn 12 = .ok (.iconst 1, 1) := by decide +kernel
theorem dX12_isQuietIn_13 : decode cX12_isQuietIn 13 = .ok (.ireturn, 1) := by decide +kernel
theorem dX12_isQuietIn_14 : decode cX12_isQuietIn 14 = .ok (.iconst 0, 1) := by decide +kernel
theorem dX12_isQuietIn_15 : decode cX12_isQuietIn 15 = .ok (.istore 4, 2) := by decide +kernel
theorem dX12_isQuietIn_17 : decode cX12_isQuietIn 17 = .ok (.iload 4, 2) := by decide +kernel
theorem dX12_isQuietIn_19 : decode cX12_isQuietIn 19 = .ok (.aload_n 0, 1) := by decide +kernel
theorem dX12_isQuietIn_20 : decode cX12_isQuietIn 20 = .ok (.getfield 144, 3) := by decide +kernel
theorem dX12_isQuietIn_23 : decode cX12_isQuietIn 23 = .ok (.if_icmp .ge 42, 3) := by decide +kernel
theorem dX12_isQuietIn_26 : decode cX12_isQuietIn 26 = .ok (.aload_n 0, 1) := by decide +kernel
theorem dX12_isQuietIn_27 : decode cX12_isQuietIn 27 = .ok (.iload_n 1, 1) := by decide +kernel
theorem dX12_isQuietIn_28 : decode cX12_isQuietIn 28 = .ok (.aload_n 0, 1) := by decide +kernel
theorem dX12_isQuietIn_29 : decode cX12_isQuietIn 29 = .ok (.getfield 36, 3) := by decide +kernel
theorem dX12_isQuietIn_32 : decode cX12_isQuietIn 32 = .ok (.iload_n 2, 1) := by decide +kernel
theorem dX12_isQuietIn_33 : decode cX12_isQuietIn 33 = .ok (.iaload, 1) := by decide +kernel
theorem dX12_isQuietIn_34 : decode cX12_isQuietIn 34 = .ok (.invokevirtual 359, 3) := by decide +kernel
theorem dX12_isQuietIn_37 : decode cX12_isQuietIn 37 = .ok (.iload 4, 2) := by decide +kernel
theorem dX12_isQuietIn_39 : decode cX12_isQuietIn 39 = .ok (.invokestatic 335, 3) := by decide +kernel
theorem dX12_isQuietIn_42 : decode cX12_isQuietIn 42 = .ok (.ifCond .eq 17, 3) := by decide +kernel
theorem dX12_isQuietIn_45 : decode cX12_isQuietIn 45 = .ok (.aload_n 0, 1) := by decide +kernel
theorem dX12_isQuietIn_46 : decode cX12_isQuietIn 46 = .ok (.iload_n 1, 1) := by decide +kernel
theorem dX12_isQuietIn_47 : decode cX12_isQuietIn 47 = .ok (.iload_n 2, 1) := by decide +kernel
theorem dX12_isQuietIn_48 : decode cX12_isQuietIn 48 = .ok (.iload 4, 2) := by decide +kernel
theorem dX12_isQuietIn_50 : decode cX12_isQuietIn 50 = .ok (.invokevirtual 446, 3) := by decide +kernel
theorem dX12_isQuietIn_53 : decode cX12_isQuietIn 53 = .ok (.iload_n 3, 1) := by decide +kernel
theorem dX12_isQuietIn_54 : decode cX12_isQuietIn 54 = .ok (.if_icmp .ne 5, 3) := by decide +kernel
theorem dX12_isQuietIn_57 : decode cX12_isQuietIn 57 = .ok (.iconst 1, 1) := by decide +kernel
theorem dX12_isQuietIn_58 : decode cX12_isQuietIn 58 = .ok (.ireturn, 1) := by decide +kernel
theorem dX12_isQuietIn_59 : decode cX12_isQuietIn 59 = .ok (.iinc 4 1, 3) := by decide +kernel
theorem dX12_isQuietIn_62 : decode cX12_isQuietIn 62 = .ok (.goto (-45), 3) := by decide +kernel
theorem dX12_isQuietIn_65 : decode cX12_isQuietIn 65 = .ok (.iconst 0, 1) := by decide +kernel
theorem dX12_isQuietIn_66 : decode cX12_isQuietIn 66 = .ok (.ireturn, 1) := by decide +kernel
theorem dX12_laysQuiet_0 : decode cX12_laysQuiet 0 = .ok (.aload_n 0, 1) := by decide +kernel
theorem dX12_laysQuiet_1 : decode cX12_laysQuiet 1 = .ok (.getfield 13, 3) := by decide +kernel
theorem dX12_laysQuiet_4 : decode cX12_laysQuiet 4 = .ok (.iconst 4, 1) := by decide +kernel
theorem dX12_laysQuiet_5 : decode cX12_laysQuiet 5 = .ok (.if_icmp .ne 9, 3) := by decide +kernel
theorem dX12_laysQuiet_8 : decode cX12_laysQuiet 8 = .ok (.sipush 4681, 3) := by decide +kernel
theorem dX12_laysQuiet_11 : decode cX12_laysQuiet 11 = .ok (.goto 12, 3) := by decide +kernel
theorem dX12_laysQuiet_14 : decode cX12_laysQuiet 14 = .ok (.aload_n 0, 1) := by decide +kernel
theorem dX12_laysQuiet_15 : decode cX12_laysQuiet 15 = .ok (.getfield 13, 3) := by decide +kernel
theorem dX12_laysQuiet_18 : decode cX12_laysQuiet 18 = .ok (.iconst 1, 1) := by decide +kernel
theorem dX12_laysQuiet_19 : decode cX12_laysQuiet 19 = .ok (.iadd, 1) := by decide +kernel
theorem dX12_laysQuiet_20 : decode cX12_laysQuiet 20 = .ok (.invokestatic 326, 3) := by decide +kernel
theorem dX12_laysQuiet_23 : decode cX12_laysQuiet 23 = .ok (.istore_n 1, 1) := by decide +kernel
theorem dX12_laysQuiet_24 : decode cX12_laysQuiet 24 = .ok (.iconst 0, 1) := by decide +kernel
theorem dX12_laysQuiet_25 : decode cX12_laysQuiet 25 = .ok (.istore_n 2, 1) := by decide +kernel
theorem dX12_laysQuiet_26 : decode cX12_laysQuiet 26 = .ok (.iload_n 2, 1) := by decide +kernel
theorem dX12_laysQuiet_27 : decode cX12_laysQuiet 27 = .ok (.sipush 4681, 3) := by decide +kernel
theorem dX12_laysQuiet_30 : decode cX12_laysQuiet 30 = .ok (.if_icmp .ge 63, 3) := by decide +kernel
theorem dX12_laysQuiet_33 : decode cX12_laysQuiet 33 = .ok (.iconst 0, 1) := by decide +kernel
theorem dX12_laysQuiet_34 : decode cX12_laysQuiet 34 = .ok (.istore_n 3, 1) := by decide +kernel
theorem dX12_laysQuiet_35 : decode cX12_laysQuiet 35 = .ok (.iload_n 3, 1) := by decide +kernel
theorem dX12_laysQuiet_36 : decode cX12_laysQuiet 36 = .ok (.aload_n 0, 1) := by decide +kernel
theorem dX12_laysQuiet_37 : decode cX12_laysQuiet 37 = .ok (.getfield 17, 3) := by decide +kernel
theorem dX12_laysQuiet_40 : decode cX12_laysQuiet 40 = .ok (.if_icmp .ge 47, 3) := by decide +kernel
theorem dX12_laysQuiet_43 : decode cX12_laysQuiet 43 = .ok (.aload_n 0, 1) := by decide +kernel
theorem dX12_laysQuiet_44 : decode cX12_laysQuiet 44 = .ok (.getfield 132, 3) := by decide +kernel
theorem dX12_laysQuiet_47 : decode cX12_laysQuiet 47 = .ok (.iconst 4, 1) := by decide +kernel
theorem dX12_laysQuiet_48 : decode cX12_laysQuiet 48 = .ok (.iload_n 2, 1) := by decide +kernel
theorem dX12_laysQuiet_49 : decode cX12_laysQuiet 49 = .ok (.imul, 1) := by decide +kernel
theorem dX12_laysQuiet_50 : decode cX12_laysQuiet 50 = .ok (.iload_n 3, 1) := by decide +kernel
theorem dX12_laysQuiet_51 : decode cX12_laysQuiet 51 = .ok (.iadd, 1) := by decide +kernel
theorem dX12_laysQuiet_52 : decode cX12_laysQuiet 52 = .ok (.iload_n 2, 1) := by decide +kernel
theorem dX12_laysQuiet_53 : decode cX12_laysQuiet 53 = .ok (.iload_n 1, 1) := by decide +kernel
theorem dX12_laysQuiet_54 : decode cX12_laysQuiet 54 = .ok (.if_icmp .ge 23, 3) := by decide +kernel
theorem dX12_laysQuiet_57 : decode cX12_laysQuiet 57 = .ok (.aload_n 0, 1) := by decide +kernel
theorem dX12_laysQuiet_58 : decode cX12_laysQuiet 58 = .ok (.iload_n 2, 1) := by decide +kernel
theorem dX12_laysQuiet_59 : decode cX12_laysQuiet 59 = .ok (.invokevirtual 449, 3) := by decide +kernel
theorem dX12_laysQuiet_62 : decode cX12_laysQuiet 62 = .ok (.ifCond .eq 15, 3) := by decide +kernel
theorem dX12_laysQuiet_65 : decode cX12_laysQuiet 65 = .ok (.aload_n 0, 1) := by decide +kernel
theorem dX12_laysQuiet_66 : decode cX12_laysQuiet 66 = .ok (.iload_n 2, 1) := by decide +kernel
theorem dX12_laysQuiet_67 : decode cX12_laysQuiet 67 = .ok (.invokevirtual 443, 3) := by decide +kernel
theorem dX12_laysQuiet_70 : decode cX12_laysQuiet 70 = .ok (.ifCond .eq 7, 3) := by decide +kernel
theorem dX12_laysQuiet_73 : decode cX12_laysQuiet 73 = .ok (.iconst 0, 1) := by decide +kernel
theorem dX12_laysQuiet_74 : decode cX12_laysQuiet 74 = .ok (.goto 6, 3) := by decide +kernel
theorem dX12_laysQuiet_77 : decode cX12_laysQuiet 77 = .ok (.ldc_w 452, 3) := by decide +kernel
theorem dX12_laysQuiet_80 : decode cX12_laysQuiet 80 = .ok (.iastore, 1) := by decide +kernel
theorem dX12_laysQuiet_81 : decode cX12_laysQuiet 81 = .ok (.iinc 3 1, 3) := by decide +kernel
theorem dX12_laysQuiet_84 : decode cX12_laysQuiet 84 = .ok (.goto (-49), 3) := by decide +kernel
theorem dX12_laysQuiet_87 : decode cX12_laysQuiet 87 = .ok (.iinc 2 1, 3) := by decide +kernel
theorem dX12_laysQuiet_90 : decode cX12_laysQuiet 90 = .ok (.goto (-64), 3) := by decide +kernel
theorem dX12_laysQuiet_93 : decode cX12_laysQuiet 93 = .ok (.iconst 1, 1) := by decide +kernel
theorem dX12_laysQuiet_94 : decode cX12_laysQuiet 94 = .ok (.istore_n 2, 1) := by decide +kernel
theorem dX12_laysQuiet_95 : decode cX12_laysQuiet 95 = .ok (.iconst 0, 1) := by decide +kernel
theorem dX12_laysQuiet_96 : decode cX12_laysQuiet 96 = .ok (.istore_n 3, 1) := by decide +kernel
theorem dX12_laysQuiet_97 : decode cX12_laysQuiet 97 = .ok (.iload_n 2, 1) := by decide +kernel
theorem dX12_laysQuiet_98 : decode cX12_laysQuiet 98 = .ok (.ifCond .eq 103, 3) := by decide +kernel
theorem dX12_laysQuiet_101 : decode cX12_laysQuiet 101 = .ok (.iconst 0, 1) := by decide +kernel
theorem dX12_laysQuiet_102 : decode cX12_laysQuiet 102 = .ok (.istore_n 2, 1) := by decide +kernel
theorem dX12_laysQuiet_103 : decode cX12_laysQuiet 103 = .ok (.iconst 0, 1) := by decide +kernel
theorem dX12_laysQuiet_104 : decode cX12_laysQuiet 104 = .ok (.istore 4, 2) := by decide +kernel
theorem dX12_laysQuiet_106 : decode cX12_laysQuiet 106 = .ok (.iload 4, 2) := by decide +kernel
theorem dX12_laysQuiet_108 : decode cX12_laysQuiet 108 = .ok (.iload_n 1, 1) := by decide +kernel
theorem dX12_laysQuiet_109 : decode cX12_laysQuiet 109 = .ok (.if_icmp .ge 86, 3) := by decide +kernel
theorem dX12_laysQuiet_112 : decode cX12_laysQuiet 112 = .ok (.iconst 0, 1) := by decide +kernel
theorem dX12_laysQuiet_113 : decode cX12_laysQuiet 113 = .ok (.istore 5, 2) := by decide +kernel
theorem dX12_laysQuiet_115 : decode cX12_laysQuiet 115 = .ok (.iload 5, 2) := by decide +kernel
theorem dX12_laysQuiet_117 : decode cX12_laysQuiet 117 = .ok (.aload_n 0, 1) := by decide +kernel
theorem dX12_laysQuiet_118 : decode cX12_laysQuiet 118 = .ok (.getfield 17, 3) := by decide +kernel
theorem dX12_laysQuiet_121 : decode cX12_laysQuiet 121 = .ok (.if_icmp .ge 68, 3) := by decide +kernel
theorem dX12_laysQuiet_124 : decode cX12_laysQuiet 124 = .ok (.aload_n 0, 1) := by decide +kernel
theorem dX12_laysQuiet_125 : decode cX12_laysQuiet 125 = .ok (.getfield 132, 3) := by decide +kernel
theorem dX12_laysQuiet_128 : decode cX12_laysQuiet 128 = .ok (.iconst 4, 1) := by decide +kernel
theorem dX12_laysQuiet_129 : decode cX12_laysQuiet 129 = .ok (.iload 4, 2) := by decide +kernel
theorem dX12_laysQuiet_131 : decode cX12_laysQuiet 131 = .ok (.imul, 1) := by decide +kernel
theorem dX12_laysQuiet_132 : decode cX12_laysQuiet 132 = .ok (.iload 5, 2) := by decide +kernel
theorem dX12_laysQuiet_134 : decode cX12_laysQuiet 134 = .ok (.iadd, 1) := by decide +kernel
theorem dX12_laysQuiet_135 : decode cX12_laysQuiet 135 = .ok (.iaload, 1) := by decide +kernel
theorem dX12_laysQuiet_136 : decode cX12_laysQuiet 136 = .ok (.ldc_w 452, 3) := by decide +kernel
theorem dX12_laysQuiet_139 : decode cX12_laysQuiet 139 = .ok (.if_icmp .ne 44, 3) := by decide +kernel
theorem dX12_laysQuiet_142 : decode cX12_laysQuiet 142 = .ok (.aload_n 0, 1) := by decide +kernel
theorem dX12_laysQuiet_143 : decode cX12_laysQuiet 143 = .ok (.iload 4, 2) := by decide +kernel
theorem dX12_laysQuiet_145 : decode cX12_laysQuiet 145 = .ok (.invokevirtual 449, 3) := by decide +kernel
theorem dX12_laysQuiet_148 : decode cX12_laysQuiet 148 = .ok (.ifCond .eq 35, 3) := by decide +kernel
theorem dX12_laysQuiet_151 : decode cX12_laysQuiet 151 = .ok (.aload_n 0, 1) := by decide +kernel
theorem dX12_laysQuiet_152 : decode cX12_laysQuiet 152 = .ok (.iload 4, 2) := by decide +kernel
theorem dX12_laysQuiet_154 : decode cX12_laysQuiet 154 = .ok (.iload 5, 2) := by decide +kernel
theorem dX12_laysQuiet_156 : decode cX12_laysQuiet 156 = .ok (.iload_n 3, 1) := by decide +kernel
theorem dX12_laysQuiet_157 : decode cX12_laysQuiet 157 = .ok (.invokevirtual 453, 3) := by decide +kernel
theorem dX12_laysQuiet_160 : decode cX12_laysQuiet 160 = .ok (.ifCond .ne 6, 3) := by decide +kernel
theorem dX12_laysQuiet_163 : decode cX12_laysQuiet 163 = .ok (.goto 20, 3) := by decide +kernel
theorem dX12_laysQuiet_166 : decode cX12_laysQuiet 166 = .ok (.aload_n 0, 1) := by decide +kernel
theorem dX12_laysQuiet_167 : decode cX12_laysQuiet 167 = .ok (.getfield 132, 3) := by decide +kernel
theorem dX12_laysQuiet_170 : decode cX12_laysQuiet 170 = .ok (.iconst 4, 1) := by decide +kernel
theorem dX12_laysQuiet_171 : decode cX12_laysQuiet 171 = .ok (.iload 4, 2) := by decide +kernel
theorem dX12_laysQuiet_173 : decode cX12_laysQuiet 173 = .ok (.imul, 1) := by decide +kernel
theorem dX12_laysQuiet_174 : decode cX12_laysQuiet 174 = .ok (.iload 5, 2) := by decide +kernel
theorem dX12_laysQuiet_176 : decode cX12_laysQuiet 176 = .ok (.iadd, 1) := by decide +kernel
theorem dX12_laysQuiet_177 : decode cX12_laysQuiet 177 = .ok (.iload_n 3, 1) := by decide +kernel
theorem dX12_laysQuiet_178 : decode cX12_laysQuiet 178 = .ok (.iconst 1, 1) := by decide +kernel
theorem dX12_laysQuiet_179 : decode cX12_laysQuiet 179 = .ok (.iadd, 1) := by decide +kernel
theorem dX12_laysQuiet_180 : decode cX12_laysQuiet 180 = .ok (.iastore, 1) := by decide +kernel
theorem dX12_laysQuiet_181 : decode cX12_laysQuiet 181 = .ok (.iconst 1, 1) := by decide +kernel
theorem dX12_laysQuiet_182 : decode cX12_laysQuiet 182 = .ok (.istore_n 2, 1) := by decide +kernel
theorem dX12_laysQuiet_183 : decode cX12_laysQuiet 183 = .ok (.iinc 5 1, 3) := by decide +kernel
theorem dX12_laysQuiet_186 : decode cX12_laysQuiet 186 = .ok (.goto (-71), 3) := by decide +kernel
theorem dX12_laysQuiet_189 : decode cX12_laysQuiet 189 = .ok (.iinc 4 1, 3) := by decide +kernel
theorem dX12_laysQuiet_192 : decode cX12_laysQuiet 192 = .ok (.goto (-86), 3) := by decide +kernel
theorem dX12_laysQuiet_195 : decode cX12_laysQuiet 195 = .ok (.iinc 3 1, 3) := by decide +kernel
theorem dX12_laysQuiet_198 : decode cX12_laysQuiet 198 = .ok (.goto (-101), 3) := by decide +kernel
theorem dX12_laysQuiet_201 : decode cX12_laysQuiet 201 = .ok (.return_, 1) := by decide +kernel
theorem dX12_soon_0 : decode cX12_soon 0 = .ok (.iload_n 1, 1) := by decide +kernel
theorem dX12_soon_1 : decode cX12_soon 1 = .ok (.iconst (-1), 1) := by decide +kernel
theorem dX12_soon_2 : decode cX12_soon 2 = .ok (.if_icmp .ge 5, 3) := by decide +kernel
theorem dX12_soon_5 : decode cX12_soon 5 = .ok (.iconst (-1), 1) := by decide +kernel
theorem dX12_soon_6 : decode cX12_soon 6 = .ok (.ireturn, 1) := by decide +kernel
theorem dX12_soon_7 : decode cX12_soon 7 = .ok (.aload_n 0, 1) := by decide +kernel
theorem dX12_soon_8 : decode cX12_soon 8 = .ok (.invokevirtual 457, 3) := by decide +kernel
theorem dX12_soon_11 : decode cX12_soon 11 = .ok (.aload_n 0, 1) := by decide +kernel
theorem dX12_soon_12 : decode cX12_soon 12 = .ok (.getfield 132, 3) := by decide +kernel
theorem dX12_soon_15 : decode cX12_soon 15 = .ok (.iconst 4, 1) := by decide +kernel
theorem dX12_soon_16 : decode cX12_soon 16 = .ok (.aload_n 0, 1) := by decide +kernel
theorem dX12_soon_17 : decode cX12_soon 17 = .ok (.getfield 158, 3) := by decide +kernel
theorem dX12_soon_20 : decode cX12_soon 20 = .ok (.imul, 1) := by decide +kernel
theorem dX12_soon_21 : decode cX12_soon 21 = .ok (.aload_n 0, 1) := by decide +kernel
theorem dX12_soon_22 : decode cX12_soon 22 = .ok (.getfield 172, 3) := by decide +kernel
theorem dX12_soon_25 : decode cX12_soon 25 = .ok (.iadd, 1) := by decide +kernel
theorem dX12_soon_26 : decode cX12_soon 26 = .ok (.iaload, 1) := by decide +kernel
theorem dX12_soon_27 : decode cX12_soon 27 = .ok (.istore_n 2, 1) := by decide +kernel
theorem dX12_soon_28 : decode cX12_soon 28 = .ok (.iload_n 2, 1) := by decide +kernel
theorem dX12_soon_29 : decode cX12_soon 29 = .ok (.ldc_w 452, 3) := by decide +kernel
theorem dX12_soon_32 : decode cX12_soon 32 = .ok (.if_icmp .ne 6, 3) := by decide +kernel
theorem dX12_soon_35 : decode cX12_soon 35 = .ok (.bipush (-2), 2) := by decide +kernel
theorem dX12_soon_37 : decode cX12_soon 37 = .ok (.ireturn, 1) := by decide +kernel
theorem dX12_soon_38 : decode cX12_soon 38 = .ok (.iload_n 1, 1) := by decide +kernel
theorem dX12_soon_39 : decode cX12_soon 39 = .ok (.iconst (-1), 1) := by decide +kernel
theorem dX12_soon_40 : decode cX12_soon 40 = .ok (.if_icmp .ne 5, 3) := by decide +kernel
theorem dX12_soon_43 : decode cX12_soon 43 = .ok (.iload_n 2, 1) := by decide +kernel
theorem dX12_soon_44 : decode cX12_soon 44 = .ok (.ireturn, 1) := by decide +kernel
theorem dX12_soon_45 : decode cX12_soon 45 = .ok (.iload_n 1, 1) := by decide +kernel
theorem dX12_soon_46 : decode cX12_soon 46 = .ok (.iload_n 2, 1) := by decide +kernel
theorem dX12_soon_47 : decode cX12_soon 47 = .ok (.if_icmp .lt 5, 3) := by decide +kernel
theorem dX12_soon_50 : decode cX12_soon 50 = .ok (.iconst (-1), 1) := by decide +kernel
theorem dX12_soon_51 : decode cX12_soon 51 = .ok (.ireturn, 1) := by decide +kernel
theorem dX12_soon_52 : decode cX12_soon 52 = .ok (.aload_n 0, 1) := by decide +kernel
theorem dX12_soon_53 : decode cX12_soon 53 = .ok (.getfield 158, 3) := by decide +kernel
theorem dX12_soon_56 : decode cX12_soon 56 = .ok (.istore_n 3, 1) := by decide +kernel
theorem dX12_soon_57 : decode cX12_soon 57 = .ok (.aload_n 0, 1) := by decide +kernel
theorem dX12_soon_58 : decode cX12_soon 58 = .ok (.getfield 172, 3) := by decide +kernel
theorem dX12_soon_61 : decode cX12_soon 61 = .ok (.istore 4, 2) := by decide +kernel
theorem dX12_soon_63 : decode cX12_soon 63 = .ok (.bipush 8, 2) := by decide +kernel
theorem dX12_soon_65 : decode cX12_soon 65 = .ok (.istore 5, 2) := by decide +kernel
theorem dX12_soon_67 : decode cX12_soon 67 = .ok (.iconst 0, 1) := by decide +kernel
theorem dX12_soon_68 : decode cX12_soon 68 = .ok (.istore 6, 2) := by decide +kernel
theorem dX12_soon_70 : decode cX12_soon 70 = .ok (.iload 6, 2) := by decide +kernel
theorem dX12_soon_72 : decode cX12_soon 72 = .ok (.iload_n 1, 1) := by decide +kernel
theorem dX12_soon_73 : decode cX12_soon 73 = .ok (.if_icmp .gt 90, 3) := by decide +kernel
theorem dX12_soon_76 : decode cX12_soon 76 = .ok (.bipush 8, 2) := by decide +kernel
theorem dX12_soon_78 : decode cX12_soon 78 = .ok (.istore 5, 2) := by decide +kernel
theorem dX12_soon_80 : decode cX12_soon 80 = .ok (.iconst 0, 1) := by decide +kernel
theorem dX12_soon_81 : decode cX12_soon 81 = .ok (.istore 7, 2) := by decide +kernel
theorem dX12_soon_83 : decode cX12_soon 83 = .ok (.aload_n 0, 1) := by decide +kernel
theorem dX12_soon_84 : decode cX12_soon 84 = .ok (.iload_n 3, 1) := by decide +kernel
theorem dX12_soon_85 : decode cX12_soon 85 = .ok (.iload 4, 2) := by decide +kernel
theorem dX12_soon_87 : decode cX12_soon 87 = .ok (.iload 5, 2) := by decide +kernel
theorem dX12_soon_89 : decode cX12_soon 89 = .ok (.invokevirtual 446, 3) := by decide +kernel
theorem dX12_soon_92 : decode cX12_soon 92 = .ok (.iload_n 2, 1) := by decide +kernel
theorem dX12_soon_93 : decode cX12_soon 93 = .ok (.iload 6, 2) := by decide +kernel
theorem dX12_soon_95 : decode cX12_soon 95 = .ok (.isub, 1) := by decide +kernel
theorem dX12_soon_96 : decode cX12_soon 96 = .ok (.iconst 1, 1) := by decide +kernel
theorem dX12_soon_97 : decode cX12_soon 97 = .ok (.isub, 1) := by decide +kernel
theorem dX12_soon_98 : decode cX12_soon 98 = .ok (.if_icmp .ne 30, 3) := by decide +kernel
theorem dX12_soon_101 : decode cX12_soon 101 = .ok (.iload 5, 2) := by decide +kernel
theorem dX12_soon_103 : decode cX12_soon 103 = .ok (.bipush 8, 2) := by decide +kernel
theorem dX12_soon_105 : decode cX12_soon 105 = .ok (.if_icmp .ge 33, 3) := by decide +kernel
theorem dX12_soon_108 : decode cX12_soon 108 = .ok (.aload_n 0, 1) := by decide +kernel
theorem dX12_soon_109 : decode cX12_soon 109 = .ok (.iload_n 3, 1) := by decide +kernel
theorem dX12_soon_110 : decode cX12_soon 110 = .ok (.aload_n 0, 1) := by decide +kernel
theorem dX12_soon_111 : decode cX12_soon 111 = .ok (.getfield 36, 3) := by decide +kernel
theorem dX12_soon_114 : decode cX12_soon 114 = .ok (.iload 4, 2) := by decide +kernel
theorem dX12_soon_116 : decode cX12_soon 116 = .ok (.iaload, 1) := by decide +kernel
theorem dX12_soon_117 : decode cX12_soon 117 = .ok (.invokevirtual 359, 3) := by decide +kernel
theorem dX12_soon_120 : decode cX12_soon 120 = .ok (.iload 5, 2) := by decide +kernel
theorem dX12_soon_122 : decode cX12_soon 122 = .ok (.invokestatic 335, 3) := by decide +kernel
theorem dX12_soon_125 : decode cX12_soon 125 = .ok (.ifCond .ne 13, 3) := by decide +kernel
theorem dX12_soon_128 : decode cX12_soon 128 = .ok (.iload 7, 2) := by decide +kernel
theorem dX12_soon_130 : decode cX12_soon 130 = .ok (.istore 5, 2) := by decide +kernel
theorem dX12_soon_132 : decode cX12_soon 132 = .ok (.iinc 7 1, 3) := by decide +kernel
theorem dX12_soon_135 : decode cX12_soon 135 = .ok (.goto (-52), 3) := by decide +kernel
theorem dX12_soon_138 : decode cX12_soon 138 = .ok (.aload_n 0, 1) := by decide +kernel
theorem dX12_soon_139 : decode cX12_soon 139 = .ok (.iload_n 3, 1) := by decide +kernel
theorem dX12_soon_140 : decode cX12_soon 140 = .ok (.iload 5, 2) := by decide +kernel
theorem dX12_soon_142 : decode cX12_soon 142 = .ok (.invokevirtual 362, 3) := by decide +kernel
theorem dX12_soon_145 : decode cX12_soon 145 = .ok (.istore_n 3, 1) := by decide +kernel
theorem dX12_soon_146 : decode cX12_soon 146 = .ok (.iload 4, 2) := by decide +kernel
theorem dX12_soon_148 : decode cX12_soon 148 = .ok (.iconst 1, 1) := by decide +kernel
theorem dX12_soon_149 : decode cX12_soon 149 = .ok (.iadd, 1) := by decide +kernel
theorem dX12_soon_150 : decode cX12_soon 150 = .ok (.aload_n 0, 1) := by decide +kernel
theorem dX12_soon_151 : decode cX12_soon 151 = .ok (.getfield 17, 3) := by decide +kernel
theorem dX12_soon_154 : decode cX12_soon 154 = .ok (.irem, 1) := by decide +kernel
theorem dX12_soon_155 : decode cX12_soon 155 = .ok (.istore 4, 2) := by decide +kernel
theorem dX12_soon_157 : decode cX12_soon 157 = .ok (.iinc 6 1, 3) := by decide +kernel
theorem dX12_soon_160 : decode cX12_soon 160 = .ok (.goto (-90), 3) := by decide +kernel
theorem dX12_soon_163 : decode cX12_soon 163 = .ok (.iload 5, 2) := by decide +kernel
theorem dX12_soon_165 : decode cX12_soon 165 = .ok (.ireturn, 1) := by decide +kernel
/-! f_X12_reaches -/
noncomputable def lp_X12_reaches_142 (a1 : Int32) (a2 : Int32) (v4 : Int32) (v8 : Int32) (v11 : Int32) (k16 : SS → Res) : Nat → Int32 → SS → Res
  | 0, _, _ => none
  | n22 + 1, v20, s21 => if (s21 56 2 : Int32) ≤ (v20 : Int32) then k16 s21 else bd (f_X12_mayOf v11 v8 s21) (fun (v24 : Int32) (s25 : SS) => bdp (f_X12_has v24 v20 s25) (fun (v26 : Int32) => jn (fun (s27 : SS) => lp_X12_reaches_142 a1 a2 v4 v8 v11 k16 n22 (v20 + 1) s27) (fun (k28 : SS → Res) => if (v26 : Int32) = 0 then k28 s25 else bdp (f_X12_behind v11 v20 s25) (fun (v30 : Int32) => gd (inb ((4681 * (v4 + 1)) + v30) 60853) (lts (up s25 90 (Int32.toNatClampNeg ((4681 * (v4 + 1)) + v30)) (vp_nar .boolean 1)) (fun (s31 : SS) => k28 s31))))))
noncomputable def lp_X12_reaches_53 (a1 : Int32) (a2 : Int32) (v4 : Int32) (v8 : Int32) (k10 : SS → Res) : Nat → Int32 → SS → Res
  | 0, _, _ => none
  | n13 + 1, v11, s12 => if (4681 : Int32) ≤ (v11 : Int32) then k10 s12 else gd (inb ((4681 * v4) + v11) 60853) (jn (fun (s15 : SS) => lp_X12_reaches_53 a1 a2 v4 v8 k10 n13 (v11 + 1) s15) (fun (k16 : SS → Res) => if (s12 90 (Int32.toNatClampNeg ((4681 * v4) + v11)) : Int32) = 0 then k16 s12 else jn (gd (inb ((4681 * (v4 + 1)) + v11) 60853) (lts (up s12 90 (Int32.toNatClampNeg ((4681 * (v4 + 1)) + v11)) (vp_nar .boolean 1)) (fun (s19 : SS) => lp_X12_reaches_142 a1 a2 v4 v8 v11 k16 FU 0 s19))) (fun (k18 : Res) => if (a2 : Int32) = (9 : Int32) then k18 else if (a2 : Int32) = (v8 : Int32) then k18 else bd (f_X12_makes v11 v8 s12) (fun (v34 : Int32) (s35 : SS) => bdp (f_X12_behind v11 v34 s35) (fun (v36 : Int32) => gd (inb ((4681 * (v4 + 1)) + v36) 60853) (lts (up s35 90 (Int32.toNatClampNeg ((4681 * (v4 + 1)) + v36)) (vp_nar .boolean 1)) (fun (s37 : SS) => k16 s37)))))))
noncomputable def lp_X12_reaches_38 (a1 : Int32) (a2 : Int32) : Nat → Int32 → SS → Res
  | 0, _, _ => none
  | n6 + 1, v4, s5 => if (a1 : Int32) ≤ (v4 : Int32) then some (0, s5) else bdp (f_X12_makerOn v4 s5) (fun (v8 : Int32) => jn (fun (s9 : SS) => lp_X12_reaches_38 a1 a2 n6 (v4 + 1) s9) (fun (k10 : SS → Res) => lp_X12_reaches_53 a1 a2 v4 v8 k10 FU 0 s5))
noncomputable def lp_X12_reaches_2 (a1 : Int32) (a2 : Int32) (k2 : SS → Res) : Nat → Int32 → SS → Res
  | 0, _, _ => none
  | n40 + 1, v38, s39 => if (4681 * (a1 + 1) : Int32) ≤ (v38 : Int32) then k2 s39 else gd (inb v38 60853) (lts (up s39 90 (Int32.toNatClampNeg v38) (vp_nar .boolean 0)) (fun (s42 : SS) => lp_X12_reaches_2 a1 a2 k2 n40 (v38 + 1) s42))
noncomputable def f_X12_reaches (a1 : Int32) (a2 : Int32) (s0 : SS) : Res := jn (fun (s1 : SS) => gd (inb (s1 56 4) 60853) (lts (up s1 90 (Int32.toNatClampNeg (s1 56 4)) (vp_nar .boolean 1)) (fun (s3 : SS) => lp_X12_reaches_38 a1 a2 FU 0 s3))) (fun (k2 : SS → Res) => lp_X12_reaches_2 a1 a2 k2 FU 0 s0)
set_option maxRecDepth 100000 in
set_option maxHeartbeats 4000000 in
theorem t_lp_X12_reaches_142 {l : Launch} (a1 : Int32) (a2 : Int32) (v4 : Int32) (v8 : Int32) (v11 : Int32) (k16 : SS → Res) (hk16 : ∀ (s15 : SS), RC l wF RX12 cX12_reaches 7 none 8 195 [.ref 56, .int a1, .int a2, .int v4, .int v8, .int v11, .null] [] s15 (k16 s15)) : ∀ (n22 : Nat) (v20 : Int32) (s21 : SS), RC l wF RX12 cX12_reaches 7 none 8 142 [.ref 56, .int a1, .int a2, .int v4, .int v8, .int v11, .int v20] [] s21 (lp_X12_reaches_142 a1 a2 v4 v8 v11 k16 n22 v20 s21) := by
  intro n22
  induction n22 with
  | zero =>
    intro v20 s21
    rw [lp_X12_reaches_142]
    exact r_none
  | succ n22 ih =>
    intro v20 s21
    rw [lp_X12_reaches_142]
    refine r_iload (pc1 := 144) dX12_reaches_142 rfl rfl ?_
    refine r_aload_n (pc1 := 145) (i := 0) dX12_reaches_144 rfl rfl rfl ?_
    refine r_getI (pc1 := 148) w_56 gfX12_144 rfl dX12_reaches_145 rfl ?_
    refine r_icmp_ge (tgt := 195) (pc1 := 151) dX12_reaches_148 (by decide) rfl (fun q23 => ?_) (fun q23 => ?_)
    · exact r_wk (hk16 s21) ⟨Or.inr rfl, Or.inr rfl, Or.inr rfl, Or.inr rfl, Or.inr rfl, Or.inr rfl, Or.inl rfl, trivial⟩
    · refine r_aload_n (pc1 := 152) (i := 0) dX12_reaches_151 rfl rfl rfl ?_
      refine r_iload (pc1 := 154) dX12_reaches_152 rfl rfl ?_
      refine r_iload (pc1 := 156) dX12_reaches_154 rfl rfl ?_
      refine r_callVi (pc1 := 159) (rv_of w_56 cl_12) lkX12_359 (c_X12_mayOf _ _ _) rfl rfl ⟨Nat.le_of_ble_eq_true rfl, Nat.le_of_ble_eq_true rfl⟩ (Nat.le_of_ble_eq_true rfl) dX12_reaches_156 rfl (fun v24 s25 => ?_)
      refine r_iload (pc1 := 161) dX12_reaches_159 rfl rfl ?_
      refine r_callSp (pc1 := 164) lkX12_335 (c_X12_has _ _ _) rfl rfl ⟨Nat.le_of_ble_eq_true rfl, Nat.le_of_ble_eq_true rfl⟩ (Nat.le_of_ble_eq_true rfl) dX12_reaches_161 rfl (fun v26 => ?_)
      refine r_jn (hyp := fun (k28 : SS → Res) => ∀ (s27 : SS), RC l wF RX12 cX12_reaches 7 none 8 189 [.ref 56, .int a1, .int a2, .int v4, .int v8, .int v11, .int v20] [] s27 (k28 s27)) (fun s27 => ?_) (fun k28 hk28 => ?_)
      · refine r_iinc (pc1 := 192) dX12_reaches_189 rfl (kn_1 _) (by decide) rfl rfl rfl ?_
        refine r_goto (tgt := 142) dX12_reaches_192 (by decide) ?_
        exact r_wk (ih (v20 + 1) s27) ⟨Or.inr rfl, Or.inr rfl, Or.inr rfl, Or.inr rfl, Or.inr rfl, Or.inr rfl, Or.inr rfl, trivial⟩
      · refine r_if_eq (tgt := 189) (pc1 := 167) dX12_reaches_164 (by decide) rfl (fun q29 => ?_) (fun q29 => ?_)
        · exact r_wk (hk28 s25) ⟨Or.inr rfl, Or.inr rfl, Or.inr rfl, Or.inr rfl, Or.inr rfl, Or.inr rfl, Or.inr rfl, trivial⟩
        · refine r_aload_n (pc1 := 168) (i := 0) dX12_reaches_167 rfl rfl rfl ?_
          refine r_getR (pc1 := 171) w_56 gfX12_122 rfl dX12_reaches_168 rfl ?_
          refine r_sipush (v := 4681) (pc1 := 174) dX12_reaches_171 ks_4681 rfl ?_
          refine r_iload_n (pc1 := 175) (i := 3) dX12_reaches_174 rfl rfl rfl ?_
          refine r_iconst (v := 1) (pc1 := 176) dX12_reaches_175 ki_1 rfl ?_
          refine r_iadd (pc1 := 177) dX12_reaches_176 rfl ?_
          refine r_imul (pc1 := 178) dX12_reaches_177 rfl ?_
          refine r_aload_n (pc1 := 179) (i := 0) dX12_reaches_178 rfl rfl rfl ?_
          refine r_iload (pc1 := 181) dX12_reaches_179 rfl rfl ?_
          refine r_iload (pc1 := 183) dX12_reaches_181 rfl rfl ?_
          refine r_callVp (pc1 := 186) (rv_of w_56 cl_12) lkX12_362 (c_X12_behind _ _ _) rfl rfl ⟨Nat.le_of_ble_eq_true rfl, Nat.le_of_ble_eq_true rfl⟩ (Nat.le_of_ble_eq_true rfl) dX12_reaches_183 rfl (fun v30 => ?_)
          refine r_iadd (pc1 := 187) dX12_reaches_186 rfl ?_
          refine r_iconst (v := 1) (pc1 := 188) dX12_reaches_187 ki_1 rfl ?_
          refine r_zast (pc1 := 189) w_90 dX12_reaches_188 rfl ?_
          refine r_lts (fun s31 => ?_)
          exact r_wk (hk28 s31) ⟨Or.inr rfl, Or.inr rfl, Or.inr rfl, Or.inr rfl, Or.inr rfl, Or.inr rfl, Or.inr rfl, trivial⟩
set_option maxRecDepth 100000 in
set_option maxHeartbeats 4000000 in
theorem t_lp_X12_reaches_53 {l : Launch} (a1 : Int32) (a2 : Int32) (v4 : Int32) (v8 : Int32) (k10 : SS → Res) (hk10 : ∀ (s9 : SS), RC l wF RX12 cX12_reaches 7 none 8 201 [.ref 56, .int a1, .int a2, .int v4, .null, .null, .null] [] s9 (k10 s9)) : ∀ (n13 : Nat) (v11 : Int32) (s12 : SS), RC l wF RX12 cX12_reaches 7 none 8 53 [.ref 56, .int a1, .int a2, .int v4, .int v8, .int v11, .null] [] s12 (lp_X12_reaches_53 a1 a2 v4 v8 k10 n13 v11 s12) := by
  intro n13
  induction n13 with
  | zero =>
    intro v11 s12
    rw [lp_X12_reaches_53]
    exact r_none
  | succ n13 ih =>
    intro v11 s12
    rw [lp_X12_reaches_53]
    refine r_iload (pc1 := 55) dX12_reaches_53 rfl rfl ?_
    refine r_sipush (v := 4681) (pc1 := 58) dX12_reaches_55 ks_4681 rfl ?_
    refine r_icmp_ge (tgt := 201) (pc1 := 61) dX12_reaches_58 (by decide) rfl (fun q14 => ?_) (fun q14 => ?_)
    · exact r_wk (hk10 s12) ⟨Or.inr rfl, Or.inr rfl, Or.inr rfl, Or.inr rfl, Or.inl rfl, Or.inl rfl, Or.inl rfl, trivial⟩
    · refine r_aload_n (pc1 := 62) (i := 0) dX12_reaches_61 rfl rfl rfl ?_
      refine r_getR (pc1 := 65) w_56 gfX12_122 rfl dX12_reaches_62 rfl ?_
      refine r_sipush (v := 4681) (pc1 := 68) dX12_reaches_65 ks_4681 rfl ?_
      refine r_iload_n (pc1 := 69) (i := 3) dX12_reaches_68 rfl rfl rfl ?_
      refine r_imul (pc1 := 70) dX12_reaches_69 rfl ?_
      refine r_iload (pc1 := 72) dX12_reaches_70 rfl rfl ?_
      refine r_iadd (pc1 := 73) dX12_reaches_72 rfl ?_
      refine r_zald (pc1 := 74) w_90 dX12_reaches_73 rfl ?_
      refine r_jn (hyp := fun (k16 : SS → Res) => ∀ (s15 : SS), RC l wF RX12 cX12_reaches 7 none 8 195 [.ref 56, .int a1, .int a2, .int v4, .int v8, .int v11, .null] [] s15 (k16 s15)) (fun s15 => ?_) (fun k16 hk16 => ?_)
      · refine r_iinc (pc1 := 198) dX12_reaches_195 rfl (kn_1 _) (by decide) rfl rfl rfl ?_
        refine r_goto (tgt := 53) dX12_reaches_198 (by decide) ?_
        exact r_wk (ih (v11 + 1) s15) ⟨Or.inr rfl, Or.inr rfl, Or.inr rfl, Or.inr rfl, Or.inr rfl, Or.inr rfl, Or.inl rfl, trivial⟩
      · refine r_if_ne (tgt := 80) (pc1 := 77) dX12_reaches_74 (by decide) rfl (fun q17 => ?_) (fun q17 => ?_)
        · refine r_goto (tgt := 195) dX12_reaches_77 (by decide) ?_
          exact r_wk (hk16 s12) ⟨Or.inr rfl, Or.inr rfl, Or.inr rfl, Or.inr rfl, Or.inr rfl, Or.inr rfl, Or.inl rfl, trivial⟩
        · refine r_iload_n (pc1 := 81) (i := 2) dX12_reaches_80 rfl rfl rfl ?_
          refine r_bipush (v := 9) (pc1 := 83) dX12_reaches_81 kb_9 rfl ?_
          refine r_jn (hyp := fun (k18 : Res) => RC l wF RX12 cX12_reaches 7 none 8 123 [.ref 56, .int a1, .int a2, .int v4, .int v8, .int v11, .null] [] s12 k18) (?_) (fun k18 hk18 => ?_)
          · refine r_aload_n (pc1 := 124) (i := 0) dX12_reaches_123 rfl rfl rfl ?_
            refine r_getR (pc1 := 127) w_56 gfX12_122 rfl dX12_reaches_124 rfl ?_
            refine r_sipush (v := 4681) (pc1 := 130) dX12_reaches_127 ks_4681 rfl ?_
            refine r_iload_n (pc1 := 131) (i := 3) dX12_reaches_130 rfl rfl rfl ?_
            refine r_iconst (v := 1) (pc1 := 132) dX12_reaches_131 ki_1 rfl ?_
            refine r_iadd (pc1 := 133) dX12_reaches_132 rfl ?_
            refine r_imul (pc1 := 134) dX12_reaches_133 rfl ?_
            refine r_iload (pc1 := 136) dX12_reaches_134 rfl rfl ?_
            refine r_iadd (pc1 := 137) dX12_reaches_136 rfl ?_
            refine r_iconst (v := 1) (pc1 := 138) dX12_reaches_137 ki_1 rfl ?_
            refine r_zast (pc1 := 139) w_90 dX12_reaches_138 rfl ?_
            refine r_lts (fun s19 => ?_)
            refine r_iconst (v := 0) (pc1 := 140) dX12_reaches_139 ki_0 rfl ?_
            refine r_istore (pc1 := 142) dX12_reaches_140 (by decide) rfl rfl rfl ?_
            exact r_wk (t_lp_X12_reaches_142 a1 a2 v4 v8 v11 k16 hk16 FU 0 s19) ⟨Or.inr rfl, Or.inr rfl, Or.inr rfl, Or.inr rfl, Or.inr rfl, Or.inr rfl, Or.inr rfl, trivial⟩
          · refine r_icmp_eq (tgt := 123) (pc1 := 86) dX12_reaches_83 (by decide) rfl (fun q32 => ?_) (fun q32 => ?_)
            · exact r_wk (hk18) ⟨Or.inr rfl, Or.inr rfl, Or.inr rfl, Or.inr rfl, Or.inr rfl, Or.inr rfl, Or.inl rfl, trivial⟩
            · refine r_iload_n (pc1 := 87) (i := 2) dX12_reaches_86 rfl rfl rfl ?_
              refine r_iload (pc1 := 89) dX12_reaches_87 rfl rfl ?_
              refine r_icmp_eq (tgt := 123) (pc1 := 92) dX12_reaches_89 (by decide) rfl (fun q33 => ?_) (fun q33 => ?_)
              · exact r_wk (hk18) ⟨Or.inr rfl, Or.inr rfl, Or.inr rfl, Or.inr rfl, Or.inr rfl, Or.inr rfl, Or.inl rfl, trivial⟩
              · refine r_aload_n (pc1 := 93) (i := 0) dX12_reaches_92 rfl rfl rfl ?_
                refine r_getR (pc1 := 96) w_56 gfX12_122 rfl dX12_reaches_93 rfl ?_
                refine r_sipush (v := 4681) (pc1 := 99) dX12_reaches_96 ks_4681 rfl ?_
                refine r_iload_n (pc1 := 100) (i := 3) dX12_reaches_99 rfl rfl rfl ?_
                refine r_iconst (v := 1) (pc1 := 101) dX12_reaches_100 ki_1 rfl ?_
                refine r_iadd (pc1 := 102) dX12_reaches_101 rfl ?_
                refine r_imul (pc1 := 103) dX12_reaches_102 rfl ?_
                refine r_aload_n (pc1 := 104) (i := 0) dX12_reaches_103 rfl rfl rfl ?_
                refine r_iload (pc1 := 106) dX12_reaches_104 rfl rfl ?_
                refine r_aload_n (pc1 := 107) (i := 0) dX12_reaches_106 rfl rfl rfl ?_
                refine r_iload (pc1 := 109) dX12_reaches_107 rfl rfl ?_
                refine r_iload (pc1 := 111) dX12_reaches_109 rfl rfl ?_
                refine r_callVi (pc1 := 114) (rv_of w_56 cl_12) lkX12_385 (c_X12_makes _ _ _) rfl rfl ⟨Nat.le_of_ble_eq_true rfl, Nat.le_of_ble_eq_true rfl⟩ (Nat.le_of_ble_eq_true rfl) dX12_reaches_111 rfl (fun v34 s35 => ?_)
                refine r_callVp (pc1 := 117) (rv_of w_56 cl_12) lkX12_362 (c_X12_behind _ _ _) rfl rfl ⟨Nat.le_of_ble_eq_true rfl, Nat.le_of_ble_eq_true rfl⟩ (Nat.le_of_ble_eq_true rfl) dX12_reaches_114 rfl (fun v36 => ?_)
                refine r_iadd (pc1 := 118) dX12_reaches_117 rfl ?_
                refine r_iconst (v := 1) (pc1 := 119) dX12_reaches_118 ki_1 rfl ?_
                refine r_zast (pc1 := 120) w_90 dX12_reaches_119 rfl ?_
                refine r_lts (fun s37 => ?_)
                refine r_goto (tgt := 195) dX12_reaches_120 (by decide) ?_
                exact r_wk (hk16 s37) ⟨Or.inr rfl, Or.inr rfl, Or.inr rfl, Or.inr rfl, Or.inr rfl, Or.inr rfl, Or.inl rfl, trivial⟩
set_option maxRecDepth 100000 in
set_option maxHeartbeats 4000000 in
theorem t_lp_X12_reaches_38 {l : Launch} (a1 : Int32) (a2 : Int32)  : ∀ (n6 : Nat) (v4 : Int32) (s5 : SS), RC l wF RX12 cX12_reaches 7 none 8 38 [.ref 56, .int a1, .int a2, .int v4, .null, .null, .null] [] s5 (lp_X12_reaches_38 a1 a2 n6 v4 s5) := by
  intro n6
  induction n6 with
  | zero =>
    intro v4 s5
    rw [lp_X12_reaches_38]
    exact r_none
  | succ n6 ih =>
    intro v4 s5
    rw [lp_X12_reaches_38]
    refine r_iload_n (pc1 := 39) (i := 3) dX12_reaches_38 rfl rfl rfl ?_
    refine r_iload_n (pc1 := 40) (i := 1) dX12_reaches_39 rfl rfl rfl ?_
    refine r_icmp_ge (tgt := 207) (pc1 := 43) dX12_reaches_40 (by decide) rfl (fun q7 => ?_) (fun q7 => ?_)
    · exact r_vret rfl dX12_reaches_207
    · refine r_aload_n (pc1 := 44) (i := 0) dX12_reaches_43 rfl rfl rfl ?_
      refine r_iload_n (pc1 := 45) (i := 3) dX12_reaches_44 rfl rfl rfl ?_
      refine r_callVp (pc1 := 48) (rv_of w_56 cl_12) lkX12_394 (c_X12_makerOn _ _) rfl rfl ⟨Nat.le_of_ble_eq_true rfl, Nat.le_of_ble_eq_true rfl⟩ (Nat.le_of_ble_eq_true rfl) dX12_reaches_45 rfl (fun v8 => ?_)
      refine r_istore (pc1 := 50) dX12_reaches_48 (by decide) rfl rfl rfl ?_
      refine r_iconst (v := 0) (pc1 := 51) dX12_reaches_50 ki_0 rfl ?_
      refine r_istore (pc1 := 53) dX12_reaches_51 (by decide) rfl rfl rfl ?_
      refine r_jn (hyp := fun (k10 : SS → Res) => ∀ (s9 : SS), RC l wF RX12 cX12_reaches 7 none 8 201 [.ref 56, .int a1, .int a2, .int v4, .null, .null, .null] [] s9 (k10 s9)) (fun s9 => ?_) (fun k10 hk10 => ?_)
      · refine r_iinc (pc1 := 204) dX12_reaches_201 rfl (kn_1 _) (by decide) rfl rfl rfl ?_
        refine r_goto (tgt := 38) dX12_reaches_204 (by decide) ?_
        exact r_wk (ih (v4 + 1) s9) ⟨Or.inr rfl, Or.inr rfl, Or.inr rfl, Or.inr rfl, Or.inl rfl, Or.inl rfl, Or.inl rfl, trivial⟩
      · exact r_wk (t_lp_X12_reaches_53 a1 a2 v4 v8 k10 hk10 FU 0 s5) ⟨Or.inr rfl, Or.inr rfl, Or.inr rfl, Or.inr rfl, Or.inr rfl, Or.inr rfl, Or.inl rfl, trivial⟩
set_option maxRecDepth 100000 in
set_option maxHeartbeats 4000000 in
theorem t_lp_X12_reaches_2 {l : Launch} (a1 : Int32) (a2 : Int32) (k2 : SS → Res) (hk2 : ∀ (s1 : SS), RC l wF RX12 cX12_reaches 7 none 8 26 [.ref 56, .int a1, .int a2, .null, .null, .null, .null] [] s1 (k2 s1)) : ∀ (n40 : Nat) (v38 : Int32) (s39 : SS), RC l wF RX12 cX12_reaches 7 none 8 2 [.ref 56, .int a1, .int a2, .int v38, .null, .null, .null] [] s39 (lp_X12_reaches_2 a1 a2 k2 n40 v38 s39) := by
  intro n40
  induction n40 with
  | zero =>
    intro v38 s39
    rw [lp_X12_reaches_2]
    exact r_none
  | succ n40 ih =>
    intro v38 s39
    rw [lp_X12_reaches_2]
    refine r_iload_n (pc1 := 3) (i := 3) dX12_reaches_2 rfl rfl rfl ?_
    refine r_sipush (v := 4681) (pc1 := 6) dX12_reaches_3 ks_4681 rfl ?_
    refine r_iload_n (pc1 := 7) (i := 1) dX12_reaches_6 rfl rfl rfl ?_
    refine r_iconst (v := 1) (pc1 := 8) dX12_reaches_7 ki_1 rfl ?_
    refine r_iadd (pc1 := 9) dX12_reaches_8 rfl ?_
    refine r_imul (pc1 := 10) dX12_reaches_9 rfl ?_
    refine r_icmp_ge (tgt := 26) (pc1 := 13) dX12_reaches_10 (by decide) rfl (fun q41 => ?_) (fun q41 => ?_)
    · exact r_wk (hk2 s39) ⟨Or.inr rfl, Or.inr rfl, Or.inr rfl, Or.inl rfl, Or.inl rfl, Or.inl rfl, Or.inl rfl, trivial⟩
    · refine r_aload_n (pc1 := 14) (i := 0) dX12_reaches_13 rfl rfl rfl ?_
      refine r_getR (pc1 := 17) w_56 gfX12_122 rfl dX12_reaches_14 rfl ?_
      refine r_iload_n (pc1 := 18) (i := 3) dX12_reaches_17 rfl rfl rfl ?_
      refine r_iconst (v := 0) (pc1 := 19) dX12_reaches_18 ki_0 rfl ?_
      refine r_zast (pc1 := 20) w_90 dX12_reaches_19 rfl ?_
      refine r_lts (fun s42 => ?_)
      refine r_iinc (pc1 := 23) dX12_reaches_20 rfl (kn_1 _) (by decide) rfl rfl rfl ?_
      refine r_goto (tgt := 2) dX12_reaches_23 (by decide) ?_
      exact r_wk (ih (v38 + 1) s42) ⟨Or.inr rfl, Or.inr rfl, Or.inr rfl, Or.inr rfl, Or.inl rfl, Or.inl rfl, Or.inl rfl, trivial⟩
set_option maxRecDepth 100000 in
set_option maxHeartbeats 4000000 in
theorem c_X12_reaches {l : Launch} (a1 : Int32) (a2 : Int32) (s0 : SS) : Ct l wF yX12_reaches cX12_reaches 7 none 8 [.ref 56, .int a1, .int a2] s0 (f_X12_reaches a1 a2 s0) := by
  refine ct_of (y := yX12_reaches) plX12 (Nat.le_of_ble_eq_true rfl) ?_
  refine r_pad0 4 (L1 := [.ref 56, .int a1, .int a2, .null, .null, .null, .null]) rfl ?_
  unfold f_X12_reaches
  refine r_iconst (v := 0) (pc1 := 1) dX12_reaches_0 ki_0 rfl ?_
  refine r_istore_n (pc1 := 2) (i := 3) dX12_reaches_1 rfl (by decide) rfl rfl rfl ?_
  refine r_jn (hyp := fun (k2 : SS → Res) => ∀ (s1 : SS), RC l wF RX12 cX12_reaches 7 none 8 26 [.ref 56, .int a1, .int a2, .null, .null, .null, .null] [] s1 (k2 s1)) (fun s1 => ?_) (fun k2 hk2 => ?_)
  · refine r_aload_n (pc1 := 27) (i := 0) dX12_reaches_26 rfl rfl rfl ?_
    refine r_getR (pc1 := 30) w_56 gfX12_122 rfl dX12_reaches_27 rfl ?_
    refine r_aload_n (pc1 := 31) (i := 0) dX12_reaches_30 rfl rfl rfl ?_
    refine r_getI (pc1 := 34) w_56 gfX12_158 rfl dX12_reaches_31 rfl ?_
    refine r_iconst (v := 1) (pc1 := 35) dX12_reaches_34 ki_1 rfl ?_
    refine r_zast (pc1 := 36) w_90 dX12_reaches_35 rfl ?_
    refine r_lts (fun s3 => ?_)
    refine r_iconst (v := 0) (pc1 := 37) dX12_reaches_36 ki_0 rfl ?_
    refine r_istore_n (pc1 := 38) (i := 3) dX12_reaches_37 rfl (by decide) rfl rfl rfl ?_
    exact r_wk (t_lp_X12_reaches_38 a1 a2 FU 0 s3) ⟨Or.inr rfl, Or.inr rfl, Or.inr rfl, Or.inr rfl, Or.inl rfl, Or.inl rfl, Or.inl rfl, trivial⟩
  · exact r_wk (t_lp_X12_reaches_2 a1 a2 k2 hk2 FU 0 s0) ⟨Or.inr rfl, Or.inr rfl, Or.inr rfl, Or.inr rfl, Or.inl rfl, Or.inl rfl, Or.inl rfl, trivial⟩
/-! f_X12_bestBy -/
noncomputable def f_X12_bestBy (a1 : Int32) (a2 : Int32) (a3 : Int32) (a4 : Int32) (s0 : SS) : Res := bdp (f_X12_behind a2 a3 s0) (fun (v1 : Int32) => bd (f_X12_worthOf v1 a4 s0) (fun (v2 : Int32) (s3 : SS) => bdp (f_X12_behind a2 a3 s3) (fun (v4 : Int32) => gd (inb ((4681 * (a1 + 1)) + v4) 60853) (some (v2 + (s3 91 (Int32.toNatClampNeg ((4681 * (a1 + 1)) + v4))), s3)))))
set_option maxRecDepth 100000 in
set_option maxHeartbeats 4000000 in
theorem c_X12_bestBy {l : Launch} (a1 : Int32) (a2 : Int32) (a3 : Int32) (a4 : Int32) (s0 : SS) : Ct l wF yX12_bestBy cX12_bestBy 5 (some .int) 6 [.ref 56, .int a1, .int a2, .int a3, .int a4] s0 (f_X12_bestBy a1 a2 a3 a4 s0) := by
  refine ct_of (y := yX12_bestBy) plX12 (Nat.le_of_ble_eq_true rfl) ?_
  refine r_pad0 0 (L1 := [.ref 56, .int a1, .int a2, .int a3, .int a4]) rfl ?_
  unfold f_X12_bestBy
  refine r_aload_n (pc1 := 1) (i := 0) dX12_bestBy_0 rfl rfl rfl ?_
  refine r_aload_n (pc1 := 2) (i := 0) dX12_bestBy_1 rfl rfl rfl ?_
  refine r_iload_n (pc1 := 3) (i := 2) dX12_bestBy_2 rfl rfl rfl ?_
  refine r_iload_n (pc1 := 4) (i := 3) dX12_bestBy_3 rfl rfl rfl ?_
  refine r_callVp (pc1 := 7) (rv_of w_56 cl_12) lkX12_362 (c_X12_behind _ _ _) rfl rfl ⟨Nat.le_of_ble_eq_true rfl, Nat.le_of_ble_eq_true rfl⟩ (Nat.le_of_ble_eq_true rfl) dX12_bestBy_4 rfl (fun v1 => ?_)
  refine r_iload (pc1 := 9) dX12_bestBy_7 rfl rfl ?_
  refine r_callVi (pc1 := 12) (rv_of w_56 cl_12) lkX12_355 (c_X12_worthOf _ _ _) rfl rfl ⟨Nat.le_of_ble_eq_true rfl, Nat.le_of_ble_eq_true rfl⟩ (Nat.le_of_ble_eq_true rfl) dX12_bestBy_9 rfl (fun v2 s3 => ?_)
  refine r_aload_n (pc1 := 13) (i := 0) dX12_bestBy_12 rfl rfl rfl ?_
  refine r_getR (pc1 := 16) w_56 gfX12_125 rfl dX12_bestBy_13 rfl ?_
  refine r_sipush (v := 4681) (pc1 := 19) dX12_bestBy_16 ks_4681 rfl ?_
  refine r_iload_n (pc1 := 20) (i := 1) dX12_bestBy_19 rfl rfl rfl ?_
  refine r_iconst (v := 1) (pc1 := 21) dX12_bestBy_20 ki_1 rfl ?_
  refine r_iadd (pc1 := 22) dX12_bestBy_21 rfl ?_
  refine r_imul (pc1 := 23) dX12_bestBy_22 rfl ?_
  refine r_aload_n (pc1 := 24) (i := 0) dX12_bestBy_23 rfl rfl rfl ?_
  refine r_iload_n (pc1 := 25) (i := 2) dX12_bestBy_24 rfl rfl rfl ?_
  refine r_iload_n (pc1 := 26) (i := 3) dX12_bestBy_25 rfl rfl rfl ?_
  refine r_callVp (pc1 := 29) (rv_of w_56 cl_12) lkX12_362 (c_X12_behind _ _ _) rfl rfl ⟨Nat.le_of_ble_eq_true rfl, Nat.le_of_ble_eq_true rfl⟩ (Nat.le_of_ble_eq_true rfl) dX12_bestBy_26 rfl (fun v4 => ?_)
  refine r_iadd (pc1 := 30) dX12_bestBy_29 rfl ?_
  refine r_iald (pc1 := 31) w_91 dX12_bestBy_30 rfl ?_
  refine r_iadd (pc1 := 32) dX12_bestBy_31 rfl ?_
  exact r_iret rfl rfl dX12_bestBy_32
/-! f_X12_bestOn -/
noncomputable def lp_X12_bestOn_7 (a1 : Int32) (a2 : Int32) (a3 : Int32) : Nat → Int32 → Int32 → SS → Res
  | 0, _, _, _ => none
  | n4 + 1, v1, v2, s3 => if (s3 56 2 : Int32) ≤ (v2 : Int32) then some (v1, s3) else bd (f_X12_mayOf a2 a3 s3) (fun (v6 : Int32) (s7 : SS) => bdp (f_X12_has v6 v2 s7) (fun (v8 : Int32) => jn (fun (v9 : Int32) (s10 : SS) => lp_X12_bestOn_7 a1 a2 a3 n4 v9 (v2 + 1) s10) (fun (k11 : Int32 → SS → Res) => if (v8 : Int32) = 0 then k11 v1 s7 else bd (f_X12_bestBy a1 a2 v2 a3 s7) (fun (v13 : Int32) (s14 : SS) => bd (f_X12_bestBy a1 a2 v1 a3 s14) (fun (v15 : Int32) (s16 : SS) => if (v13 : Int32) ≤ (v15 : Int32) then k11 v1 s16 else k11 v2 s16)))))
noncomputable def f_X12_bestOn (a1 : Int32) (a2 : Int32) (a3 : Int32) (s0 : SS) : Res := lp_X12_bestOn_7 a1 a2 a3 FU 8 0 s0
set_option maxRecDepth 100000 in
set_option maxHeartbeats 4000000 in
theorem t_lp_X12_bestOn_7 {l : Launch} (a1 : Int32) (a2 : Int32) (a3 : Int32)  : ∀ (n4 : Nat) (v1 : Int32) (v2 : Int32) (s3 : SS), RC l wF RX12 cX12_bestOn 6 (some .int) 7 7 [.ref 56, .int a1, .int a2, .int a3, .int v1, .int v2] [] s3 (lp_X12_bestOn_7 a1 a2 a3 n4 v1 v2 s3) := by
  intro n4
  induction n4 with
  | zero =>
    intro v1 v2 s3
    rw [lp_X12_bestOn_7]
    exact r_none
  | succ n4 ih =>
    intro v1 v2 s3
    rw [lp_X12_bestOn_7]
    refine r_iload (pc1 := 9) dX12_bestOn_7 rfl rfl ?_
    refine r_aload_n (pc1 := 10) (i := 0) dX12_bestOn_9 rfl rfl rfl ?_
    refine r_getI (pc1 := 13) w_56 gfX12_144 rfl dX12_bestOn_10 rfl ?_
    refine r_icmp_ge (tgt := 61) (pc1 := 16) dX12_bestOn_13 (by decide) rfl (fun q5 => ?_) (fun q5 => ?_)
    · refine r_iload (pc1 := 63) dX12_bestOn_61 rfl rfl ?_
      exact r_iret rfl rfl dX12_bestOn_63
    · refine r_aload_n (pc1 := 17) (i := 0) dX12_bestOn_16 rfl rfl rfl ?_
      refine r_iload_n (pc1 := 18) (i := 2) dX12_bestOn_17 rfl rfl rfl ?_
      refine r_iload_n (pc1 := 19) (i := 3) dX12_bestOn_18 rfl rfl rfl ?_
      refine r_callVi (pc1 := 22) (rv_of w_56 cl_12) lkX12_359 (c_X12_mayOf _ _ _) rfl rfl ⟨Nat.le_of_ble_eq_true rfl, Nat.le_of_ble_eq_true rfl⟩ (Nat.le_of_ble_eq_true rfl) dX12_bestOn_19 rfl (fun v6 s7 => ?_)
      refine r_iload (pc1 := 24) dX12_bestOn_22 rfl rfl ?_
      refine r_callSp (pc1 := 27) lkX12_335 (c_X12_has _ _ _) rfl rfl ⟨Nat.le_of_ble_eq_true rfl, Nat.le_of_ble_eq_true rfl⟩ (Nat.le_of_ble_eq_true rfl) dX12_bestOn_24 rfl (fun v8 => ?_)
      refine r_jn (hyp := fun (k11 : Int32 → SS → Res) => ∀ (v9 : Int32) (s10 : SS), RC l wF RX12 cX12_bestOn 6 (some .int) 7 55 [.ref 56, .int a1, .int a2, .int a3, .int v9, .int v2] [] s10 (k11 v9 s10)) (fun v9 s10 => ?_) (fun k11 hk11 => ?_)
      · refine r_iinc (pc1 := 58) dX12_bestOn_55 rfl (kn_1 _) (by decide) rfl rfl rfl ?_
        refine r_goto (tgt := 7) dX12_bestOn_58 (by decide) ?_
        exact r_wk (ih v9 (v2 + 1) s10) ⟨Or.inr rfl, Or.inr rfl, Or.inr rfl, Or.inr rfl, Or.inr rfl, Or.inr rfl, trivial⟩
      · refine r_if_eq (tgt := 55) (pc1 := 30) dX12_bestOn_27 (by decide) rfl (fun q12 => ?_) (fun q12 => ?_)
        · exact r_wk (hk11 v1 s7) ⟨Or.inr rfl, Or.inr rfl, Or.inr rfl, Or.inr rfl, Or.inr rfl, Or.inr rfl, trivial⟩
        · refine r_aload_n (pc1 := 31) (i := 0) dX12_bestOn_30 rfl rfl rfl ?_
          refine r_iload_n (pc1 := 32) (i := 1) dX12_bestOn_31 rfl rfl rfl ?_
          refine r_iload_n (pc1 := 33) (i := 2) dX12_bestOn_32 rfl rfl rfl ?_
          refine r_iload (pc1 := 35) dX12_bestOn_33 rfl rfl ?_
          refine r_iload_n (pc1 := 36) (i := 3) dX12_bestOn_35 rfl rfl rfl ?_
          refine r_callVi (pc1 := 39) (rv_of w_56 cl_12) lkX12_417 (c_X12_bestBy _ _ _ _ _) rfl rfl ⟨Nat.le_of_ble_eq_true rfl, Nat.le_of_ble_eq_true rfl⟩ (Nat.le_of_ble_eq_true rfl) dX12_bestOn_36 rfl (fun v13 s14 => ?_)
          refine r_aload_n (pc1 := 40) (i := 0) dX12_bestOn_39 rfl rfl rfl ?_
          refine r_iload_n (pc1 := 41) (i := 1) dX12_bestOn_40 rfl rfl rfl ?_
          refine r_iload_n (pc1 := 42) (i := 2) dX12_bestOn_41 rfl rfl rfl ?_
          refine r_iload (pc1 := 44) dX12_bestOn_42 rfl rfl ?_
          refine r_iload_n (pc1 := 45) (i := 3) dX12_bestOn_44 rfl rfl rfl ?_
          refine r_callVi (pc1 := 48) (rv_of w_56 cl_12) lkX12_417 (c_X12_bestBy _ _ _ _ _) rfl rfl ⟨Nat.le_of_ble_eq_true rfl, Nat.le_of_ble_eq_true rfl⟩ (Nat.le_of_ble_eq_true rfl) dX12_bestOn_45 rfl (fun v15 s16 => ?_)
          refine r_icmp_le (tgt := 55) (pc1 := 51) dX12_bestOn_48 (by decide) rfl (fun q17 => ?_) (fun q17 => ?_)
          · exact r_wk (hk11 v1 s16) ⟨Or.inr rfl, Or.inr rfl, Or.inr rfl, Or.inr rfl, Or.inr rfl, Or.inr rfl, trivial⟩
          · refine r_iload (pc1 := 53) dX12_bestOn_51 rfl rfl ?_
            refine r_istore (pc1 := 55) dX12_bestOn_53 (by decide) rfl rfl rfl ?_
            exact r_wk (hk11 v2 s16) ⟨Or.inr rfl, Or.inr rfl, Or.inr rfl, Or.inr rfl, Or.inr rfl, Or.inr rfl, trivial⟩
set_option maxRecDepth 100000 in
set_option maxHeartbeats 4000000 in
theorem c_X12_bestOn {l : Launch} (a1 : Int32) (a2 : Int32) (a3 : Int32) (s0 : SS) : Ct l wF yX12_bestOn cX12_bestOn 6 (some .int) 7 [.ref 56, .int a1, .int a2, .int a3] s0 (f_X12_bestOn a1 a2 a3 s0) := by
  refine ct_of (y := yX12_bestOn) plX12 (Nat.le_of_ble_eq_true rfl) ?_
  refine r_pad0 2 (L1 := [.ref 56, .int a1, .int a2, .int a3, .null, .null]) rfl ?_
  unfold f_X12_bestOn
  refine r_bipush (v := 8) (pc1 := 2) dX12_bestOn_0 kb_8 rfl ?_
  refine r_istore (pc1 := 4) dX12_bestOn_2 (by decide) rfl rfl rfl ?_
  refine r_iconst (v := 0) (pc1 := 5) dX12_bestOn_4 ki_0 rfl ?_
  refine r_istore (pc1 := 7) dX12_bestOn_5 (by decide) rfl rfl rfl ?_
  exact r_wk (t_lp_X12_bestOn_7 a1 a2 a3 FU 8 0 s0) ⟨Or.inr rfl, Or.inr rfl, Or.inr rfl, Or.inr rfl, Or.inr rfl, Or.inr rfl, trivial⟩
/-! f_X12_laysBest -/
noncomputable def lp_X12_laysBest_45 (a2 : Int32) (v6 : Int32) (k11 : SS → Res) : Nat → Int32 → SS → Res
  | 0, _, _ => none
  | n14 + 1, v12, s13 => if (4681 : Int32) ≤ (v12 : Int32) then k11 s13 else gd (inb ((4681 * v6) + v12) 60853) (jn (fun (s16 : SS) => lp_X12_laysBest_45 a2 v6 k11 n14 (v12 + 1) s16) (fun (k17 : SS → Res) => if (s13 90 (Int32.toNatClampNeg ((4681 * v6) + v12)) : Int32) = 0 then k17 s13 else bdp (f_X12_makerOn v6 s13) (fun (v19 : Int32) => jn (fun (v20 : Int32) (s21 : SS) => bd (f_X12_bestBy v6 v12 v20 a2 s21) (fun (v23 : Int32) (s24 : SS) => gd (inb ((4681 * v6) + v12) 60853) (lts (up s24 91 (Int32.toNatClampNeg ((4681 * v6) + v12)) v23) (fun (s25 : SS) => k17 s25)))) (fun (k22 : Int32 → SS → Res) => if (v19 : Int32) = (a2 : Int32) then bd (f_X12_bestOn v6 v12 a2 s13) (fun (v27 : Int32) (s28 : SS) => k22 v27 s28) else bdp (f_X12_makerOn v6 s13) (fun (v29 : Int32) => bd (f_X12_makes v12 v29 s13) (fun (v30 : Int32) (s31 : SS) => k22 v30 s31))))))
noncomputable def lp_X12_laysBest_38 (a2 : Int32) : Nat → Int32 → SS → Res
  | 0, _, _ => none
  | n8 + 1, v6, s7 => if (v6 : Int32) < 0 then some (0, s7) else jn (fun (s10 : SS) => lp_X12_laysBest_38 a2 n8 (v6 + (-1)) s10) (fun (k11 : SS → Res) => lp_X12_laysBest_45 a2 v6 k11 FU 0 s7)
noncomputable def lp_X12_laysBest_8 (a1 : Int32) (a2 : Int32) (k4 : SS → Res) : Nat → Int32 → SS → Res
  | 0, _, _ => none
  | n34 + 1, v32, s33 => if (4681 : Int32) ≤ (v32 : Int32) then k4 s33 else gd (inb ((4681 * a1) + v32) 60853) (lts (up s33 91 (Int32.toNatClampNeg ((4681 * a1) + v32)) 0) (fun (s36 : SS) => lp_X12_laysBest_8 a1 a2 k4 n34 (v32 + 1) s36))
noncomputable def f_X12_laysBest (a1 : Int32) (a2 : Int32) (s0 : SS) : Res := bd (f_X12_reaches a1 a2 s0) (fun (v1 : Int32) (s2 : SS) => jn (fun (s3 : SS) => lt (a1 - 1) (fun (v5 : Int32) => lp_X12_laysBest_38 a2 FU v5 s3)) (fun (k4 : SS → Res) => lp_X12_laysBest_8 a1 a2 k4 FU 0 s2))
set_option maxRecDepth 100000 in
set_option maxHeartbeats 4000000 in
theorem t_lp_X12_laysBest_45 {l : Launch} (a2 : Int32) (v6 : Int32) (k11 : SS → Res) (hk11 : ∀ (s10 : SS), RC l wF RX12 cX12_laysBest 6 none 9 134 [.ref 56, .null, .int a2, .int v6, .null, .null] [] s10 (k11 s10)) : ∀ (n14 : Nat) (v12 : Int32) (s13 : SS), RC l wF RX12 cX12_laysBest 6 none 9 45 [.ref 56, .null, .int a2, .int v6, .int v12, .null] [] s13 (lp_X12_laysBest_45 a2 v6 k11 n14 v12 s13) := by
  intro n14
  induction n14 with
  | zero =>
    intro v12 s13
    rw [lp_X12_laysBest_45]
    exact r_none
  | succ n14 ih =>
    intro v12 s13
    rw [lp_X12_laysBest_45]
    refine r_iload (pc1 := 47) dX12_laysBest_45 rfl rfl ?_
    refine r_sipush (v := 4681) (pc1 := 50) dX12_laysBest_47 ks_4681 rfl ?_
    refine r_icmp_ge (tgt := 134) (pc1 := 53) dX12_laysBest_50 (by decide) rfl (fun q15 => ?_) (fun q15 => ?_)
    · exact r_wk (hk11 s13) ⟨Or.inr rfl, Or.inl rfl, Or.inr rfl, Or.inr rfl, Or.inl rfl, Or.inl rfl, trivial⟩
    · refine r_aload_n (pc1 := 54) (i := 0) dX12_laysBest_53 rfl rfl rfl ?_
      refine r_getR (pc1 := 57) w_56 gfX12_122 rfl dX12_laysBest_54 rfl ?_
      refine r_sipush (v := 4681) (pc1 := 60) dX12_laysBest_57 ks_4681 rfl ?_
      refine r_iload_n (pc1 := 61) (i := 3) dX12_laysBest_60 rfl rfl rfl ?_
      refine r_imul (pc1 := 62) dX12_laysBest_61 rfl ?_
      refine r_iload (pc1 := 64) dX12_laysBest_62 rfl rfl ?_
      refine r_iadd (pc1 := 65) dX12_laysBest_64 rfl ?_
      refine r_zald (pc1 := 66) w_90 dX12_laysBest_65 rfl ?_
      refine r_jn (hyp := fun (k17 : SS → Res) => ∀ (s16 : SS), RC l wF RX12 cX12_laysBest 6 none 9 128 [.ref 56, .null, .int a2, .int v6, .int v12, .null] [] s16 (k17 s16)) (fun s16 => ?_) (fun k17 hk17 => ?_)
      · refine r_iinc (pc1 := 131) dX12_laysBest_128 rfl (kn_1 _) (by decide) rfl rfl rfl ?_
        refine r_goto (tgt := 45) dX12_laysBest_131 (by decide) ?_
        exact r_wk (ih (v12 + 1) s16) ⟨Or.inr rfl, Or.inl rfl, Or.inr rfl, Or.inr rfl, Or.inr rfl, Or.inl rfl, trivial⟩
      · refine r_if_ne (tgt := 72) (pc1 := 69) dX12_laysBest_66 (by decide) rfl (fun q18 => ?_) (fun q18 => ?_)
        · refine r_goto (tgt := 128) dX12_laysBest_69 (by decide) ?_
          exact r_wk (hk17 s13) ⟨Or.inr rfl, Or.inl rfl, Or.inr rfl, Or.inr rfl, Or.inr rfl, Or.inl rfl, trivial⟩
        · refine r_aload_n (pc1 := 73) (i := 0) dX12_laysBest_72 rfl rfl rfl ?_
          refine r_iload_n (pc1 := 74) (i := 3) dX12_laysBest_73 rfl rfl rfl ?_
          refine r_callVp (pc1 := 77) (rv_of w_56 cl_12) lkX12_394 (c_X12_makerOn _ _) rfl rfl ⟨Nat.le_of_ble_eq_true rfl, Nat.le_of_ble_eq_true rfl⟩ (Nat.le_of_ble_eq_true rfl) dX12_laysBest_74 rfl (fun v19 => ?_)
          refine r_iload_n (pc1 := 78) (i := 2) dX12_laysBest_77 rfl rfl rfl ?_
          refine r_jn (hyp := fun (k22 : Int32 → SS → Res) => ∀ (v20 : Int32) (s21 : SS), RC l wF RX12 cX12_laysBest 6 none 9 103 [.ref 56, .null, .int a2, .int v6, .int v12, .null] [.int v20] s21 (k22 v20 s21)) (fun v20 s21 => ?_) (fun k22 hk22 => ?_)
          · refine r_istore (pc1 := 105) dX12_laysBest_103 (by decide) rfl rfl rfl ?_
            refine r_aload_n (pc1 := 106) (i := 0) dX12_laysBest_105 rfl rfl rfl ?_
            refine r_getR (pc1 := 109) w_56 gfX12_125 rfl dX12_laysBest_106 rfl ?_
            refine r_sipush (v := 4681) (pc1 := 112) dX12_laysBest_109 ks_4681 rfl ?_
            refine r_iload_n (pc1 := 113) (i := 3) dX12_laysBest_112 rfl rfl rfl ?_
            refine r_imul (pc1 := 114) dX12_laysBest_113 rfl ?_
            refine r_iload (pc1 := 116) dX12_laysBest_114 rfl rfl ?_
            refine r_iadd (pc1 := 117) dX12_laysBest_116 rfl ?_
            refine r_aload_n (pc1 := 118) (i := 0) dX12_laysBest_117 rfl rfl rfl ?_
            refine r_iload_n (pc1 := 119) (i := 3) dX12_laysBest_118 rfl rfl rfl ?_
            refine r_iload (pc1 := 121) dX12_laysBest_119 rfl rfl ?_
            refine r_iload (pc1 := 123) dX12_laysBest_121 rfl rfl ?_
            refine r_iload_n (pc1 := 124) (i := 2) dX12_laysBest_123 rfl rfl rfl ?_
            refine r_callVi (pc1 := 127) (rv_of w_56 cl_12) lkX12_417 (c_X12_bestBy _ _ _ _ _) rfl rfl ⟨Nat.le_of_ble_eq_true rfl, Nat.le_of_ble_eq_true rfl⟩ (Nat.le_of_ble_eq_true rfl) dX12_laysBest_124 rfl (fun v23 s24 => ?_)
            refine r_iast (pc1 := 128) w_91 dX12_laysBest_127 rfl ?_
            refine r_lts (fun s25 => ?_)
            exact r_wk (hk17 s25) ⟨Or.inr rfl, Or.inl rfl, Or.inr rfl, Or.inr rfl, Or.inr rfl, Or.inl rfl, trivial⟩
          · refine r_icmp_ne (tgt := 92) (pc1 := 81) dX12_laysBest_78 (by decide) rfl (fun q26 => ?_) (fun q26 => ?_)
            · refine r_aload_n (pc1 := 82) (i := 0) dX12_laysBest_81 rfl rfl rfl ?_
              refine r_iload_n (pc1 := 83) (i := 3) dX12_laysBest_82 rfl rfl rfl ?_
              refine r_iload (pc1 := 85) dX12_laysBest_83 rfl rfl ?_
              refine r_iload_n (pc1 := 86) (i := 2) dX12_laysBest_85 rfl rfl rfl ?_
              refine r_callVi (pc1 := 89) (rv_of w_56 cl_12) lkX12_424 (c_X12_bestOn _ _ _ _) rfl rfl ⟨Nat.le_of_ble_eq_true rfl, Nat.le_of_ble_eq_true rfl⟩ (Nat.le_of_ble_eq_true rfl) dX12_laysBest_86 rfl (fun v27 s28 => ?_)
              refine r_goto (tgt := 103) dX12_laysBest_89 (by decide) ?_
              exact r_wk (hk22 v27 s28) ⟨Or.inr rfl, Or.inl rfl, Or.inr rfl, Or.inr rfl, Or.inr rfl, Or.inl rfl, trivial⟩
            · refine r_aload_n (pc1 := 93) (i := 0) dX12_laysBest_92 rfl rfl rfl ?_
              refine r_iload (pc1 := 95) dX12_laysBest_93 rfl rfl ?_
              refine r_aload_n (pc1 := 96) (i := 0) dX12_laysBest_95 rfl rfl rfl ?_
              refine r_iload_n (pc1 := 97) (i := 3) dX12_laysBest_96 rfl rfl rfl ?_
              refine r_callVp (pc1 := 100) (rv_of w_56 cl_12) lkX12_394 (c_X12_makerOn _ _) rfl rfl ⟨Nat.le_of_ble_eq_true rfl, Nat.le_of_ble_eq_true rfl⟩ (Nat.le_of_ble_eq_true rfl) dX12_laysBest_97 rfl (fun v29 => ?_)
              refine r_callVi (pc1 := 103) (rv_of w_56 cl_12) lkX12_385 (c_X12_makes _ _ _) rfl rfl ⟨Nat.le_of_ble_eq_true rfl, Nat.le_of_ble_eq_true rfl⟩ (Nat.le_of_ble_eq_true rfl) dX12_laysBest_100 rfl (fun v30 s31 => ?_)
              exact r_wk (hk22 v30 s31) ⟨Or.inr rfl, Or.inl rfl, Or.inr rfl, Or.inr rfl, Or.inr rfl, Or.inl rfl, trivial⟩
set_option maxRecDepth 100000 in
set_option maxHeartbeats 4000000 in
theorem t_lp_X12_laysBest_38 {l : Launch} (a2 : Int32)  : ∀ (n8 : Nat) (v6 : Int32) (s7 : SS), RC l wF RX12 cX12_laysBest 6 none 9 38 [.ref 56, .null, .int a2, .int v6, .null, .null] [] s7 (lp_X12_laysBest_38 a2 n8 v6 s7) := by
  intro n8
  induction n8 with
  | zero =>
    intro v6 s7
    rw [lp_X12_laysBest_38]
    exact r_none
  | succ n8 ih =>
    intro v6 s7
    rw [lp_X12_laysBest_38]
    refine r_iload_n (pc1 := 39) (i := 3) dX12_laysBest_38 rfl rfl rfl ?_
    refine r_if_lt (tgt := 140) (pc1 := 42) dX12_laysBest_39 (by decide) rfl (fun q9 => ?_) (fun q9 => ?_)
    · exact r_vret rfl dX12_laysBest_140
    · refine r_iconst (v := 0) (pc1 := 43) dX12_laysBest_42 ki_0 rfl ?_
      refine r_istore (pc1 := 45) dX12_laysBest_43 (by decide) rfl rfl rfl ?_
      refine r_jn (hyp := fun (k11 : SS → Res) => ∀ (s10 : SS), RC l wF RX12 cX12_laysBest 6 none 9 134 [.ref 56, .null, .int a2, .int v6, .null, .null] [] s10 (k11 s10)) (fun s10 => ?_) (fun k11 hk11 => ?_)
      · refine r_iinc (pc1 := 137) dX12_laysBest_134 rfl (kn_m1 _) (by decide) rfl rfl rfl ?_
        refine r_goto (tgt := 38) dX12_laysBest_137 (by decide) ?_
        exact r_wk (ih (v6 + (-1)) s10) ⟨Or.inr rfl, Or.inl rfl, Or.inr rfl, Or.inr rfl, Or.inl rfl, Or.inl rfl, trivial⟩
      · exact r_wk (t_lp_X12_laysBest_45 a2 v6 k11 hk11 FU 0 s7) ⟨Or.inr rfl, Or.inl rfl, Or.inr rfl, Or.inr rfl, Or.inr rfl, Or.inl rfl, trivial⟩
set_option maxRecDepth 100000 in
set_option maxHeartbeats 4000000 in
theorem t_lp_X12_laysBest_8 {l : Launch} (a1 : Int32) (a2 : Int32) (k4 : SS → Res) (hk4 : ∀ (s3 : SS), RC l wF RX12 cX12_laysBest 6 none 9 34 [.ref 56, .int a1, .int a2, .null, .null, .null] [] s3 (k4 s3)) : ∀ (n34 : Nat) (v32 : Int32) (s33 : SS), RC l wF RX12 cX12_laysBest 6 none 9 8 [.ref 56, .int a1, .int a2, .int v32, .null, .null] [] s33 (lp_X12_laysBest_8 a1 a2 k4 n34 v32 s33) := by
  intro n34
  induction n34 with
  | zero =>
    intro v32 s33
    rw [lp_X12_laysBest_8]
    exact r_none
  | succ n34 ih =>
    intro v32 s33
    rw [lp_X12_laysBest_8]
    refine r_iload_n (pc1 := 9) (i := 3) dX12_laysBest_8 rfl rfl rfl ?_
    refine r_sipush (v := 4681) (pc1 := 12) dX12_laysBest_9 ks_4681 rfl ?_
    refine r_icmp_ge (tgt := 34) (pc1 := 15) dX12_laysBest_12 (by decide) rfl (fun q35 => ?_) (fun q35 => ?_)
    · exact r_wk (hk4 s33) ⟨Or.inr rfl, Or.inr rfl, Or.inr rfl, Or.inl rfl, Or.inl rfl, Or.inl rfl, trivial⟩
    · refine r_aload_n (pc1 := 16) (i := 0) dX12_laysBest_15 rfl rfl rfl ?_
      refine r_getR (pc1 := 19) w_56 gfX12_125 rfl dX12_laysBest_16 rfl ?_
      refine r_sipush (v := 4681) (pc1 := 22) dX12_laysBest_19 ks_4681 rfl ?_
      refine r_iload_n (pc1 := 23) (i := 1) dX12_laysBest_22 rfl rfl rfl ?_
      refine r_imul (pc1 := 24) dX12_laysBest_23 rfl ?_
      refine r_iload_n (pc1 := 25) (i := 3) dX12_laysBest_24 rfl rfl rfl ?_
      refine r_iadd (pc1 := 26) dX12_laysBest_25 rfl ?_
      refine r_iconst (v := 0) (pc1 := 27) dX12_laysBest_26 ki_0 rfl ?_
      refine r_iast (pc1 := 28) w_91 dX12_laysBest_27 rfl ?_
      refine r_lts (fun s36 => ?_)
      refine r_iinc (pc1 := 31) dX12_laysBest_28 rfl (kn_1 _) (by decide) rfl rfl rfl ?_
      refine r_goto (tgt := 8) dX12_laysBest_31 (by decide) ?_
      exact r_wk (ih (v32 + 1) s36) ⟨Or.inr rfl, Or.inr rfl, Or.inr rfl, Or.inr rfl, Or.inl rfl, Or.inl rfl, trivial⟩
set_option maxRecDepth 100000 in
set_option maxHeartbeats 4000000 in
theorem c_X12_laysBest {l : Launch} (a1 : Int32) (a2 : Int32) (s0 : SS) : Ct l wF yX12_laysBest cX12_laysBest 6 none 9 [.ref 56, .int a1, .int a2] s0 (f_X12_laysBest a1 a2 s0) := by
  refine ct_of (y := yX12_laysBest) plX12 (Nat.le_of_ble_eq_true rfl) ?_
  refine r_pad0 3 (L1 := [.ref 56, .int a1, .int a2, .null, .null, .null]) rfl ?_
  unfold f_X12_laysBest
  refine r_aload_n (pc1 := 1) (i := 0) dX12_laysBest_0 rfl rfl rfl ?_
  refine r_iload_n (pc1 := 2) (i := 1) dX12_laysBest_1 rfl rfl rfl ?_
  refine r_iload_n (pc1 := 3) (i := 2) dX12_laysBest_2 rfl rfl rfl ?_
  refine r_callVv (pc1 := 6) (rv_of w_56 cl_12) lkX12_421 (c_X12_reaches _ _ _) rfl rfl ⟨Nat.le_of_ble_eq_true rfl, Nat.le_of_ble_eq_true rfl⟩ (Nat.le_of_ble_eq_true rfl) dX12_laysBest_3 rfl (fun v1 s2 => ?_)
  refine r_iconst (v := 0) (pc1 := 7) dX12_laysBest_6 ki_0 rfl ?_
  refine r_istore_n (pc1 := 8) (i := 3) dX12_laysBest_7 rfl (by decide) rfl rfl rfl ?_
  refine r_jn (hyp := fun (k4 : SS → Res) => ∀ (s3 : SS), RC l wF RX12 cX12_laysBest 6 none 9 34 [.ref 56, .int a1, .int a2, .null, .null, .null] [] s3 (k4 s3)) (fun s3 => ?_) (fun k4 hk4 => ?_)
  · refine r_iload_n (pc1 := 35) (i := 1) dX12_laysBest_34 rfl rfl rfl ?_
    refine r_iconst (v := 1) (pc1 := 36) dX12_laysBest_35 ki_1 rfl ?_
    refine r_isub (pc1 := 37) dX12_laysBest_36 rfl ?_
    refine r_lt (fun v5 => ?_)
    refine r_istore_n (pc1 := 38) (i := 3) dX12_laysBest_37 rfl (by decide) rfl rfl rfl ?_
    exact r_wk (t_lp_X12_laysBest_38 a2 FU v5 s3) ⟨Or.inr rfl, Or.inl rfl, Or.inr rfl, Or.inr rfl, Or.inl rfl, Or.inl rfl, trivial⟩
  · exact r_wk (t_lp_X12_laysBest_8 a1 a2 k4 hk4 FU 0 s2) ⟨Or.inr rfl, Or.inr rfl, Or.inr rfl, Or.inr rfl, Or.inl rfl, Or.inl rfl, trivial⟩
/-! f_X12_best -/
noncomputable def lp_X12_best_72 (a1 : Int32) (a3 : Int32) : Nat → Int32 → Int32 → Int32 → SS → Res
  | 0, _, _, _, _ => none
  | n15 + 1, v11, v12, v13, s14 => if (a3 : Int32) < (v13 : Int32) then some (v12, s14) else bdp (f_X12_makerOn v13 s14) (fun (v17 : Int32) => jn (fun (v18 : Int32) (s19 : SS) => bdp (f_X12_behind v11 v18 s19) (fun (v21 : Int32) => lp_X12_best_72 a1 a3 n15 v21 v18 (v13 + 1) s19)) (fun (k20 : Int32 → SS → Res) => if (v17 : Int32) = (a1 : Int32) then bd (f_X12_bestOn v13 v11 a1 s14) (fun (v23 : Int32) (s24 : SS) => k20 v23 s24) else bdp (f_X12_makerOn v13 s14) (fun (v25 : Int32) => bd (f_X12_makes v11 v25 s14) (fun (v26 : Int32) (s27 : SS) => k20 v26 s27))))
noncomputable def f_X12_best (a1 : Int32) (a2 : Int32) (a3 : Int32) (s0 : SS) : Res := bdp (f_X12_isMaker a1 s0) (fun (v1 : Int32) => if (v1 : Int32) = 0 then some ((-1000000), s0) else bdp (f_X12_lies ((a2 : Int32).toInt64) 1 8 s0) (fun (v3 : Int32) => if (v3 : Int32) = 0 then some ((-1000000), s0) else bdp (f_X12_lies ((a3 : Int32).toInt64) ((-1)) ((a2 - 1 : Int32).toInt64) s0) (fun (v5 : Int32) => if (v5 : Int32) = 0 then some ((-1000000), s0) else bd (f_X12_laysBest a2 a1 s0) (fun (v7 : Int32) (s8 : SS) => if (a3 : Int32) = ((-1) : Int32) then gd (inb (s8 56 4) 60853) (some (s8 91 (Int32.toNatClampNeg (s8 56 4)), s8)) else lt (s8 56 4) (fun (v10 : Int32) => lp_X12_best_72 a1 a3 FU v10 8 0 s8)))))
set_option maxRecDepth 100000 in
set_option maxHeartbeats 4000000 in
theorem t_lp_X12_best_72 {l : Launch} (a1 : Int32) (a3 : Int32)  : ∀ (n15 : Nat) (v11 : Int32) (v12 : Int32) (v13 : Int32) (s14 : SS), RC l wF RX12 cX12_best 7 (some .int) 10 72 [.ref 56, .int a1, .null, .int a3, .int v11, .int v12, .int v13] [] s14 (lp_X12_best_72 a1 a3 n15 v11 v12 v13 s14) := by
  intro n15
  induction n15 with
  | zero =>
    intro v11 v12 v13 s14
    rw [lp_X12_best_72]
    exact r_none
  | succ n15 ih =>
    intro v11 v12 v13 s14
    rw [lp_X12_best_72]
    refine r_iload (pc1 := 74) dX12_best_72 rfl rfl ?_
    refine r_iload_n (pc1 := 75) (i := 3) dX12_best_74 rfl rfl rfl ?_
    refine r_icmp_gt (tgt := 130) (pc1 := 78) dX12_best_75 (by decide) rfl (fun q16 => ?_) (fun q16 => ?_)
    · refine r_iload (pc1 := 132) dX12_best_130 rfl rfl ?_
      exact r_iret rfl rfl dX12_best_132
    · refine r_aload_n (pc1 := 79) (i := 0) dX12_best_78 rfl rfl rfl ?_
      refine r_iload (pc1 := 81) dX12_best_79 rfl rfl ?_
      refine r_callVp (pc1 := 84) (rv_of w_56 cl_12) lkX12_394 (c_X12_makerOn _ _) rfl rfl ⟨Nat.le_of_ble_eq_true rfl, Nat.le_of_ble_eq_true rfl⟩ (Nat.le_of_ble_eq_true rfl) dX12_best_81 rfl (fun v17 => ?_)
      refine r_iload_n (pc1 := 85) (i := 1) dX12_best_84 rfl rfl rfl ?_
      refine r_jn (hyp := fun (k20 : Int32 → SS → Res) => ∀ (v18 : Int32) (s19 : SS), RC l wF RX12 cX12_best 7 (some .int) 10 112 [.ref 56, .int a1, .null, .int a3, .int v11, .null, .int v13] [.int v18] s19 (k20 v18 s19)) (fun v18 s19 => ?_) (fun k20 hk20 => ?_)
      · refine r_istore (pc1 := 114) dX12_best_112 (by decide) rfl rfl rfl ?_
        refine r_aload_n (pc1 := 115) (i := 0) dX12_best_114 rfl rfl rfl ?_
        refine r_iload (pc1 := 117) dX12_best_115 rfl rfl ?_
        refine r_iload (pc1 := 119) dX12_best_117 rfl rfl ?_
        refine r_callVp (pc1 := 122) (rv_of w_56 cl_12) lkX12_362 (c_X12_behind _ _ _) rfl rfl ⟨Nat.le_of_ble_eq_true rfl, Nat.le_of_ble_eq_true rfl⟩ (Nat.le_of_ble_eq_true rfl) dX12_best_119 rfl (fun v21 => ?_)
        refine r_istore (pc1 := 124) dX12_best_122 (by decide) rfl rfl rfl ?_
        refine r_iinc (pc1 := 127) dX12_best_124 rfl (kn_1 _) (by decide) rfl rfl rfl ?_
        refine r_goto (tgt := 72) dX12_best_127 (by decide) ?_
        exact r_wk (ih v21 v18 (v13 + 1) s19) ⟨Or.inr rfl, Or.inr rfl, Or.inl rfl, Or.inr rfl, Or.inr rfl, Or.inr rfl, Or.inr rfl, trivial⟩
      · refine r_icmp_ne (tgt := 100) (pc1 := 88) dX12_best_85 (by decide) rfl (fun q22 => ?_) (fun q22 => ?_)
        · refine r_aload_n (pc1 := 89) (i := 0) dX12_best_88 rfl rfl rfl ?_
          refine r_iload (pc1 := 91) dX12_best_89 rfl rfl ?_
          refine r_iload (pc1 := 93) dX12_best_91 rfl rfl ?_
          refine r_iload_n (pc1 := 94) (i := 1) dX12_best_93 rfl rfl rfl ?_
          refine r_callVi (pc1 := 97) (rv_of w_56 cl_12) lkX12_424 (c_X12_bestOn _ _ _ _) rfl rfl ⟨Nat.le_of_ble_eq_true rfl, Nat.le_of_ble_eq_true rfl⟩ (Nat.le_of_ble_eq_true rfl) dX12_best_94 rfl (fun v23 s24 => ?_)
          refine r_goto (tgt := 112) dX12_best_97 (by decide) ?_
          exact r_wk (hk20 v23 s24) ⟨Or.inr rfl, Or.inr rfl, Or.inl rfl, Or.inr rfl, Or.inr rfl, Or.inl rfl, Or.inr rfl, trivial⟩
        · refine r_aload_n (pc1 := 101) (i := 0) dX12_best_100 rfl rfl rfl ?_
          refine r_iload (pc1 := 103) dX12_best_101 rfl rfl ?_
          refine r_aload_n (pc1 := 104) (i := 0) dX12_best_103 rfl rfl rfl ?_
          refine r_iload (pc1 := 106) dX12_best_104 rfl rfl ?_
          refine r_callVp (pc1 := 109) (rv_of w_56 cl_12) lkX12_394 (c_X12_makerOn _ _) rfl rfl ⟨Nat.le_of_ble_eq_true rfl, Nat.le_of_ble_eq_true rfl⟩ (Nat.le_of_ble_eq_true rfl) dX12_best_106 rfl (fun v25 => ?_)
          refine r_callVi (pc1 := 112) (rv_of w_56 cl_12) lkX12_385 (c_X12_makes _ _ _) rfl rfl ⟨Nat.le_of_ble_eq_true rfl, Nat.le_of_ble_eq_true rfl⟩ (Nat.le_of_ble_eq_true rfl) dX12_best_109 rfl (fun v26 s27 => ?_)
          exact r_wk (hk20 v26 s27) ⟨Or.inr rfl, Or.inr rfl, Or.inl rfl, Or.inr rfl, Or.inr rfl, Or.inl rfl, Or.inr rfl, trivial⟩
set_option maxRecDepth 100000 in
set_option maxHeartbeats 4000000 in
theorem c_X12_best {l : Launch} (a1 : Int32) (a2 : Int32) (a3 : Int32) (s0 : SS) : Ct l wF yX12_best cX12_best 7 (some .int) 10 [.ref 56, .int a1, .int a2, .int a3] s0 (f_X12_best a1 a2 a3 s0) := by
  refine ct_of (y := yX12_best) plX12 (Nat.le_of_ble_eq_true rfl) ?_
  refine r_pad0 3 (L1 := [.ref 56, .int a1, .int a2, .int a3, .null, .null, .null]) rfl ?_
  unfold f_X12_best
  refine r_iload_n (pc1 := 1) (i := 1) dX12_best_0 rfl rfl rfl ?_
  refine r_callSp (pc1 := 4) lkX12_168 (c_X12_isMaker _ _) rfl rfl ⟨Nat.le_of_ble_eq_true rfl, Nat.le_of_ble_eq_true rfl⟩ (Nat.le_of_ble_eq_true rfl) dX12_best_1 rfl (fun v1 => ?_)
  refine r_if_eq (tgt := 34) (pc1 := 7) dX12_best_4 (by decide) rfl (fun q2 => ?_) (fun q2 => ?_)
  · refine r_ldcw (v := (-1000000)) (pc1 := 37) dX12_best_34 cnX12_384 rfl ?_
    exact r_iret rfl rfl dX12_best_37
  · refine r_iload_n (pc1 := 8) (i := 2) dX12_best_7 rfl rfl rfl ?_
    refine r_i2l (pc1 := 9) dX12_best_8 rfl ?_
    refine r_lconst (v := 1) (pc1 := 10) dX12_best_9 kl_1 rfl ?_
    refine r_ldc2 (v := 8) (pc1 := 13) dX12_best_10 cnX12_427 rfl ?_
    refine r_callSp (pc1 := 16) lkX12_140 (c_X12_lies _ _ _ _) rfl rfl ⟨Nat.le_of_ble_eq_true rfl, Nat.le_of_ble_eq_true rfl⟩ (Nat.le_of_ble_eq_true rfl) dX12_best_13 rfl (fun v3 => ?_)
    refine r_if_eq (tgt := 34) (pc1 := 19) dX12_best_16 (by decide) rfl (fun q4 => ?_) (fun q4 => ?_)
    · refine r_ldcw (v := (-1000000)) (pc1 := 37) dX12_best_34 cnX12_384 rfl ?_
      exact r_iret rfl rfl dX12_best_37
    · refine r_iload_n (pc1 := 20) (i := 3) dX12_best_19 rfl rfl rfl ?_
      refine r_i2l (pc1 := 21) dX12_best_20 rfl ?_
      refine r_ldc2 (v := (-1)) (pc1 := 24) dX12_best_21 cnX12_429 rfl ?_
      refine r_iload_n (pc1 := 25) (i := 2) dX12_best_24 rfl rfl rfl ?_
      refine r_iconst (v := 1) (pc1 := 26) dX12_best_25 ki_1 rfl ?_
      refine r_isub (pc1 := 27) dX12_best_26 rfl ?_
      refine r_i2l (pc1 := 28) dX12_best_27 rfl ?_
      refine r_callSp (pc1 := 31) lkX12_140 (c_X12_lies _ _ _ _) rfl rfl ⟨Nat.le_of_ble_eq_true rfl, Nat.le_of_ble_eq_true rfl⟩ (Nat.le_of_ble_eq_true rfl) dX12_best_28 rfl (fun v5 => ?_)
      refine r_if_ne (tgt := 38) (pc1 := 34) dX12_best_31 (by decide) rfl (fun q6 => ?_) (fun q6 => ?_)
      · refine r_ldcw (v := (-1000000)) (pc1 := 37) dX12_best_34 cnX12_384 rfl ?_
        exact r_iret rfl rfl dX12_best_37
      · refine r_aload_n (pc1 := 39) (i := 0) dX12_best_38 rfl rfl rfl ?_
        refine r_iload_n (pc1 := 40) (i := 2) dX12_best_39 rfl rfl rfl ?_
        refine r_iload_n (pc1 := 41) (i := 1) dX12_best_40 rfl rfl rfl ?_
        refine r_callVv (pc1 := 44) (rv_of w_56 cl_12) lkX12_431 (c_X12_laysBest _ _ _) rfl rfl ⟨Nat.le_of_ble_eq_true rfl, Nat.le_of_ble_eq_true rfl⟩ (Nat.le_of_ble_eq_true rfl) dX12_best_41 rfl (fun v7 s8 => ?_)
        refine r_iload_n (pc1 := 45) (i := 3) dX12_best_44 rfl rfl rfl ?_
        refine r_iconst (v := (-1)) (pc1 := 46) dX12_best_45 ki_m1 rfl ?_
        refine r_icmp_ne (tgt := 59) (pc1 := 49) dX12_best_46 (by decide) rfl (fun q9 => ?_) (fun q9 => ?_)
        · refine r_aload_n (pc1 := 50) (i := 0) dX12_best_49 rfl rfl rfl ?_
          refine r_getR (pc1 := 53) w_56 gfX12_125 rfl dX12_best_50 rfl ?_
          refine r_aload_n (pc1 := 54) (i := 0) dX12_best_53 rfl rfl rfl ?_
          refine r_getI (pc1 := 57) w_56 gfX12_158 rfl dX12_best_54 rfl ?_
          refine r_iald (pc1 := 58) w_91 dX12_best_57 rfl ?_
          exact r_iret rfl rfl dX12_best_58
        · refine r_aload_n (pc1 := 60) (i := 0) dX12_best_59 rfl rfl rfl ?_
          refine r_getI (pc1 := 63) w_56 gfX12_158 rfl dX12_best_60 rfl ?_
          refine r_lt (fun v10 => ?_)
          refine r_istore (pc1 := 65) dX12_best_63 (by decide) rfl rfl rfl ?_
          refine r_bipush (v := 8) (pc1 := 67) dX12_best_65 kb_8 rfl ?_
          refine r_istore (pc1 := 69) dX12_best_67 (by decide) rfl rfl rfl ?_
          refine r_iconst (v := 0) (pc1 := 70) dX12_best_69 ki_0 rfl ?_
          refine r_istore (pc1 := 72) dX12_best_70 (by decide) rfl rfl rfl ?_
          exact r_wk (t_lp_X12_best_72 a1 a3 FU v10 8 0 s8) ⟨Or.inr rfl, Or.inr rfl, Or.inl rfl, Or.inr rfl, Or.inr rfl, Or.inr rfl, Or.inr rfl, trivial⟩
/-! f_X12_allBy -/
noncomputable def f_X12_allBy (a1 : Int32) (a2 : Int32) (a3 : Int32) (a4 : Int32) (s0 : SS) : Res := bdp (f_X12_behind a2 a3 s0) (fun (v1 : Int32) => bd (f_X12_worthOf v1 a4 s0) (fun (v2 : Int32) (s3 : SS) => bdp (f_X12_behind a2 a3 s3) (fun (v4 : Int32) => gd (inb ((4 * ((4681 * (a1 + 1)) + v4)) + a4) 168516) (some (v2 + (s3 92 (Int32.toNatClampNeg ((4 * ((4681 * (a1 + 1)) + v4)) + a4))), s3)))))
set_option maxRecDepth 100000 in
set_option maxHeartbeats 4000000 in
theorem c_X12_allBy {l : Launch} (a1 : Int32) (a2 : Int32) (a3 : Int32) (a4 : Int32) (s0 : SS) : Ct l wF yX12_allBy cX12_allBy 5 (some .int) 6 [.ref 56, .int a1, .int a2, .int a3, .int a4] s0 (f_X12_allBy a1 a2 a3 a4 s0) := by
  refine ct_of (y := yX12_allBy) plX12 (Nat.le_of_ble_eq_true rfl) ?_
  refine r_pad0 0 (L1 := [.ref 56, .int a1, .int a2, .int a3, .int a4]) rfl ?_
  unfold f_X12_allBy
  refine r_aload_n (pc1 := 1) (i := 0) dX12_allBy_0 rfl rfl rfl ?_
  refine r_aload_n (pc1 := 2) (i := 0) dX12_allBy_1 rfl rfl rfl ?_
  refine r_iload_n (pc1 := 3) (i := 2) dX12_allBy_2 rfl rfl rfl ?_
  refine r_iload_n (pc1 := 4) (i := 3) dX12_allBy_3 rfl rfl rfl ?_
  refine r_callVp (pc1 := 7) (rv_of w_56 cl_12) lkX12_362 (c_X12_behind _ _ _) rfl rfl ⟨Nat.le_of_ble_eq_true rfl, Nat.le_of_ble_eq_true rfl⟩ (Nat.le_of_ble_eq_true rfl) dX12_allBy_4 rfl (fun v1 => ?_)
  refine r_iload (pc1 := 9) dX12_allBy_7 rfl rfl ?_
  refine r_callVi (pc1 := 12) (rv_of w_56 cl_12) lkX12_355 (c_X12_worthOf _ _ _) rfl rfl ⟨Nat.le_of_ble_eq_true rfl, Nat.le_of_ble_eq_true rfl⟩ (Nat.le_of_ble_eq_true rfl) dX12_allBy_9 rfl (fun v2 s3 => ?_)
  refine r_aload_n (pc1 := 13) (i := 0) dX12_allBy_12 rfl rfl rfl ?_
  refine r_getR (pc1 := 16) w_56 gfX12_129 rfl dX12_allBy_13 rfl ?_
  refine r_iconst (v := 4) (pc1 := 17) dX12_allBy_16 ki_4 rfl ?_
  refine r_sipush (v := 4681) (pc1 := 20) dX12_allBy_17 ks_4681 rfl ?_
  refine r_iload_n (pc1 := 21) (i := 1) dX12_allBy_20 rfl rfl rfl ?_
  refine r_iconst (v := 1) (pc1 := 22) dX12_allBy_21 ki_1 rfl ?_
  refine r_iadd (pc1 := 23) dX12_allBy_22 rfl ?_
  refine r_imul (pc1 := 24) dX12_allBy_23 rfl ?_
  refine r_aload_n (pc1 := 25) (i := 0) dX12_allBy_24 rfl rfl rfl ?_
  refine r_iload_n (pc1 := 26) (i := 2) dX12_allBy_25 rfl rfl rfl ?_
  refine r_iload_n (pc1 := 27) (i := 3) dX12_allBy_26 rfl rfl rfl ?_
  refine r_callVp (pc1 := 30) (rv_of w_56 cl_12) lkX12_362 (c_X12_behind _ _ _) rfl rfl ⟨Nat.le_of_ble_eq_true rfl, Nat.le_of_ble_eq_true rfl⟩ (Nat.le_of_ble_eq_true rfl) dX12_allBy_27 rfl (fun v4 => ?_)
  refine r_iadd (pc1 := 31) dX12_allBy_30 rfl ?_
  refine r_imul (pc1 := 32) dX12_allBy_31 rfl ?_
  refine r_iload (pc1 := 34) dX12_allBy_32 rfl rfl ?_
  refine r_iadd (pc1 := 35) dX12_allBy_34 rfl ?_
  refine r_iald (pc1 := 36) w_92 dX12_allBy_35 rfl ?_
  refine r_iadd (pc1 := 37) dX12_allBy_36 rfl ?_
  exact r_iret rfl rfl dX12_allBy_37
/-! f_X12_allOn -/
noncomputable def lp_X12_allOn_13 (a1 : Int32) (a2 : Int32) (v1 : Int32) : Nat → Int32 → Int32 → SS → Res
  | 0, _, _, _ => none
  | n5 + 1, v2, v3, s4 => if (s4 56 2 : Int32) ≤ (v3 : Int32) then some (v2, s4) else bd (f_X12_mayOf a2 v1 s4) (fun (v7 : Int32) (s8 : SS) => bdp (f_X12_has v7 v3 s8) (fun (v9 : Int32) => jn (fun (v10 : Int32) (s11 : SS) => lp_X12_allOn_13 a1 a2 v1 n5 v10 (v3 + 1) s11) (fun (k12 : Int32 → SS → Res) => if (v9 : Int32) = 0 then k12 v2 s8 else bd (f_X12_allBy a1 a2 v3 v1 s8) (fun (v14 : Int32) (s15 : SS) => bd (f_X12_allBy a1 a2 v2 v1 s15) (fun (v16 : Int32) (s17 : SS) => if (v14 : Int32) ≤ (v16 : Int32) then k12 v2 s17 else k12 v3 s17)))))
noncomputable def f_X12_allOn (a1 : Int32) (a2 : Int32) (s0 : SS) : Res := bdp (f_X12_makerOn a1 s0) (fun (v1 : Int32) => lp_X12_allOn_13 a1 a2 v1 FU 8 0 s0)
set_option maxRecDepth 100000 in
set_option maxHeartbeats 4000000 in
theorem t_lp_X12_allOn_13 {l : Launch} (a1 : Int32) (a2 : Int32) (v1 : Int32)  : ∀ (n5 : Nat) (v2 : Int32) (v3 : Int32) (s4 : SS), RC l wF RX12 cX12_allOn 6 (some .int) 7 13 [.ref 56, .int a1, .int a2, .int v1, .int v2, .int v3] [] s4 (lp_X12_allOn_13 a1 a2 v1 n5 v2 v3 s4) := by
  intro n5
  induction n5 with
  | zero =>
    intro v2 v3 s4
    rw [lp_X12_allOn_13]
    exact r_none
  | succ n5 ih =>
    intro v2 v3 s4
    rw [lp_X12_allOn_13]
    refine r_iload (pc1 := 15) dX12_allOn_13 rfl rfl ?_
    refine r_aload_n (pc1 := 16) (i := 0) dX12_allOn_15 rfl rfl rfl ?_
    refine r_getI (pc1 := 19) w_56 gfX12_144 rfl dX12_allOn_16 rfl ?_
    refine r_icmp_ge (tgt := 67) (pc1 := 22) dX12_allOn_19 (by decide) rfl (fun q6 => ?_) (fun q6 => ?_)
    · refine r_iload (pc1 := 69) dX12_allOn_67 rfl rfl ?_
      exact r_iret rfl rfl dX12_allOn_69
    · refine r_aload_n (pc1 := 23) (i := 0) dX12_allOn_22 rfl rfl rfl ?_
      refine r_iload_n (pc1 := 24) (i := 2) dX12_allOn_23 rfl rfl rfl ?_
      refine r_iload_n (pc1 := 25) (i := 3) dX12_allOn_24 rfl rfl rfl ?_
      refine r_callVi (pc1 := 28) (rv_of w_56 cl_12) lkX12_359 (c_X12_mayOf _ _ _) rfl rfl ⟨Nat.le_of_ble_eq_true rfl, Nat.le_of_ble_eq_true rfl⟩ (Nat.le_of_ble_eq_true rfl) dX12_allOn_25 rfl (fun v7 s8 => ?_)
      refine r_iload (pc1 := 30) dX12_allOn_28 rfl rfl ?_
      refine r_callSp (pc1 := 33) lkX12_335 (c_X12_has _ _ _) rfl rfl ⟨Nat.le_of_ble_eq_true rfl, Nat.le_of_ble_eq_true rfl⟩ (Nat.le_of_ble_eq_true rfl) dX12_allOn_30 rfl (fun v9 => ?_)
      refine r_jn (hyp := fun (k12 : Int32 → SS → Res) => ∀ (v10 : Int32) (s11 : SS), RC l wF RX12 cX12_allOn 6 (some .int) 7 61 [.ref 56, .int a1, .int a2, .int v1, .int v10, .int v3] [] s11 (k12 v10 s11)) (fun v10 s11 => ?_) (fun k12 hk12 => ?_)
      · refine r_iinc (pc1 := 64) dX12_allOn_61 rfl (kn_1 _) (by decide) rfl rfl rfl ?_
        refine r_goto (tgt := 13) dX12_allOn_64 (by decide) ?_
        exact r_wk (ih v10 (v3 + 1) s11) ⟨Or.inr rfl, Or.inr rfl, Or.inr rfl, Or.inr rfl, Or.inr rfl, Or.inr rfl, trivial⟩
      · refine r_if_eq (tgt := 61) (pc1 := 36) dX12_allOn_33 (by decide) rfl (fun q13 => ?_) (fun q13 => ?_)
        · exact r_wk (hk12 v2 s8) ⟨Or.inr rfl, Or.inr rfl, Or.inr rfl, Or.inr rfl, Or.inr rfl, Or.inr rfl, trivial⟩
        · refine r_aload_n (pc1 := 37) (i := 0) dX12_allOn_36 rfl rfl rfl ?_
          refine r_iload_n (pc1 := 38) (i := 1) dX12_allOn_37 rfl rfl rfl ?_
          refine r_iload_n (pc1 := 39) (i := 2) dX12_allOn_38 rfl rfl rfl ?_
          refine r_iload (pc1 := 41) dX12_allOn_39 rfl rfl ?_
          refine r_iload_n (pc1 := 42) (i := 3) dX12_allOn_41 rfl rfl rfl ?_
          refine r_callVi (pc1 := 45) (rv_of w_56 cl_12) lkX12_434 (c_X12_allBy _ _ _ _ _) rfl rfl ⟨Nat.le_of_ble_eq_true rfl, Nat.le_of_ble_eq_true rfl⟩ (Nat.le_of_ble_eq_true rfl) dX12_allOn_42 rfl (fun v14 s15 => ?_)
          refine r_aload_n (pc1 := 46) (i := 0) dX12_allOn_45 rfl rfl rfl ?_
          refine r_iload_n (pc1 := 47) (i := 1) dX12_allOn_46 rfl rfl rfl ?_
          refine r_iload_n (pc1 := 48) (i := 2) dX12_allOn_47 rfl rfl rfl ?_
          refine r_iload (pc1 := 50) dX12_allOn_48 rfl rfl ?_
          refine r_iload_n (pc1 := 51) (i := 3) dX12_allOn_50 rfl rfl rfl ?_
          refine r_callVi (pc1 := 54) (rv_of w_56 cl_12) lkX12_434 (c_X12_allBy _ _ _ _ _) rfl rfl ⟨Nat.le_of_ble_eq_true rfl, Nat.le_of_ble_eq_true rfl⟩ (Nat.le_of_ble_eq_true rfl) dX12_allOn_51 rfl (fun v16 s17 => ?_)
          refine r_icmp_le (tgt := 61) (pc1 := 57) dX12_allOn_54 (by decide) rfl (fun q18 => ?_) (fun q18 => ?_)
          · exact r_wk (hk12 v2 s17) ⟨Or.inr rfl, Or.inr rfl, Or.inr rfl, Or.inr rfl, Or.inr rfl, Or.inr rfl, trivial⟩
          · refine r_iload (pc1 := 59) dX12_allOn_57 rfl rfl ?_
            refine r_istore (pc1 := 61) dX12_allOn_59 (by decide) rfl rfl rfl ?_
            exact r_wk (hk12 v3 s17) ⟨Or.inr rfl, Or.inr rfl, Or.inr rfl, Or.inr rfl, Or.inr rfl, Or.inr rfl, trivial⟩
set_option maxRecDepth 100000 in
set_option maxHeartbeats 4000000 in
theorem c_X12_allOn {l : Launch} (a1 : Int32) (a2 : Int32) (s0 : SS) : Ct l wF yX12_allOn cX12_allOn 6 (some .int) 7 [.ref 56, .int a1, .int a2] s0 (f_X12_allOn a1 a2 s0) := by
  refine ct_of (y := yX12_allOn) plX12 (Nat.le_of_ble_eq_true rfl) ?_
  refine r_pad0 3 (L1 := [.ref 56, .int a1, .int a2, .null, .null, .null]) rfl ?_
  unfold f_X12_allOn
  refine r_aload_n (pc1 := 1) (i := 0) dX12_allOn_0 rfl rfl rfl ?_
  refine r_iload_n (pc1 := 2) (i := 1) dX12_allOn_1 rfl rfl rfl ?_
  refine r_callVp (pc1 := 5) (rv_of w_56 cl_12) lkX12_394 (c_X12_makerOn _ _) rfl rfl ⟨Nat.le_of_ble_eq_true rfl, Nat.le_of_ble_eq_true rfl⟩ (Nat.le_of_ble_eq_true rfl) dX12_allOn_2 rfl (fun v1 => ?_)
  refine r_istore_n (pc1 := 6) (i := 3) dX12_allOn_5 rfl (by decide) rfl rfl rfl ?_
  refine r_bipush (v := 8) (pc1 := 8) dX12_allOn_6 kb_8 rfl ?_
  refine r_istore (pc1 := 10) dX12_allOn_8 (by decide) rfl rfl rfl ?_
  refine r_iconst (v := 0) (pc1 := 11) dX12_allOn_10 ki_0 rfl ?_
  refine r_istore (pc1 := 13) dX12_allOn_11 (by decide) rfl rfl rfl ?_
  exact r_wk (t_lp_X12_allOn_13 a1 a2 v1 FU 8 0 s0) ⟨Or.inr rfl, Or.inr rfl, Or.inr rfl, Or.inr rfl, Or.inr rfl, Or.inr rfl, trivial⟩
/-! f_X12_all -/
noncomputable def lp_X12_all_210 (a2 : Int32) : Nat → Int32 → Int32 → Int32 → SS → Res
  | 0, _, _, _, _ => none
  | n19 + 1, v15, v16, v17, s18 => if (a2 - 10 : Int32) < (v17 : Int32) then some (v16, s18) else bd (f_X12_allOn v17 v15 s18) (fun (v21 : Int32) (s22 : SS) => bdp (f_X12_behind v15 v21 s22) (fun (v23 : Int32) => lp_X12_all_210 a2 n19 v23 v21 (v17 + 1) s22))
noncomputable def lp_X12_all_124 (a2 : Int32) (v24 : Int32) (v30 : Int32) (k35 : SS → Res) (v37 : Int32) : Nat → Int32 → SS → Res
  | 0, _, _ => none
  | n41 + 1, v39, s40 => if (4 : Int32) ≤ (v39 : Int32) then k35 s40 else bd (f_X12_allBy v24 v30 v37 v39 s40) (fun (v43 : Int32) (s44 : SS) => gd (inb ((4 * ((4681 * v24) + v30)) + v39) 168516) (lts (up s44 92 (Int32.toNatClampNeg ((4 * ((4681 * v24) + v30)) + v39)) v43) (fun (s45 : SS) => lp_X12_all_124 a2 v24 v30 k35 v37 n41 (v39 + 1) s45)))
noncomputable def lp_X12_all_85 (a2 : Int32) (v24 : Int32) (k29 : SS → Res) : Nat → Int32 → SS → Res
  | 0, _, _ => none
  | n32 + 1, v30, s31 => if (4681 : Int32) ≤ (v30 : Int32) then k29 s31 else gd (inb ((4681 * v24) + v30) 60853) (jn (fun (s34 : SS) => lp_X12_all_85 a2 v24 k29 n32 (v30 + 1) s34) (fun (k35 : SS → Res) => if (s31 90 (Int32.toNatClampNeg ((4681 * v24) + v30)) : Int32) = 0 then k35 s31 else bd (f_X12_allOn v24 v30 s31) (fun (v37 : Int32) (s38 : SS) => lp_X12_all_124 a2 v24 v30 k35 v37 FU 0 s38)))
noncomputable def lp_X12_all_78 (a2 : Int32) (k11 : SS → Res) : Nat → Int32 → SS → Res
  | 0, _, _ => none
  | n26 + 1, v24, s25 => if (v24 : Int32) < 0 then k11 s25 else jn (fun (s28 : SS) => lp_X12_all_78 a2 k11 n26 (v24 + (-1)) s28) (fun (k29 : SS → Res) => lp_X12_all_85 a2 v24 k29 FU 0 s25)
noncomputable def lp_X12_all_48 (a1 : Int32) (a2 : Int32) (k8 : SS → Res) : Nat → Int32 → SS → Res
  | 0, _, _ => none
  | n48 + 1, v46, s47 => if (18724 : Int32) ≤ (v46 : Int32) then k8 s47 else gd (inb ((18724 * a1) + v46) 168516) (lts (up s47 92 (Int32.toNatClampNeg ((18724 * a1) + v46)) 0) (fun (s50 : SS) => lp_X12_all_48 a1 a2 k8 n48 (v46 + 1) s50))
noncomputable def f_X12_all (a1 : Int32) (a2 : Int32) (s0 : SS) : Res := bdp (f_X12_lies ((a1 : Int32).toInt64) 1 8 s0) (fun (v1 : Int32) => if (v1 : Int32) = 0 then some ((-1000000), s0) else bdp (f_X12_isSort a2 s0) (fun (v3 : Int32) => jn (bd (f_X12_reaches a1 9 s0) (fun (v5 : Int32) (s6 : SS) => jn (fun (s7 : SS) => lt (a1 - 1) (fun (v9 : Int32) => jn (fun (s10 : SS) => bdp (f_X12_isSort a2 s10) (fun (v12 : Int32) => if (v12 : Int32) = 0 then lt (s10 56 4) (fun (v14 : Int32) => lp_X12_all_210 a2 FU v14 8 0 s10) else gd (inb ((4 * (s10 56 4)) + a2) 168516) (some (s10 92 (Int32.toNatClampNeg ((4 * (s10 56 4)) + a2)), s10)))) (fun (k11 : SS → Res) => lp_X12_all_78 a2 k11 FU v9 s7))) (fun (k8 : SS → Res) => lp_X12_all_48 a1 a2 k8 FU 0 s6))) (fun (k4 : Res) => if (v3 : Int32) = 0 then bdp (f_X12_lies ((a2 : Int32).toInt64) 10 ((9 + a1 : Int32).toInt64) s0) (fun (v52 : Int32) => if (v52 : Int32) = 0 then some ((-1000000), s0) else k4) else k4)))
set_option maxRecDepth 100000 in
set_option maxHeartbeats 4000000 in
theorem t_lp_X12_all_210 {l : Launch} (a2 : Int32)  : ∀ (n19 : Nat) (v15 : Int32) (v16 : Int32) (v17 : Int32) (s18 : SS), RC l wF RX12 cX12_all 7 (some .int) 9 210 [.ref 56, .null, .int a2, .int v15, .int v16, .int v17, .null] [] s18 (lp_X12_all_210 a2 n19 v15 v16 v17 s18) := by
  intro n19
  induction n19 with
  | zero =>
    intro v15 v16 v17 s18
    rw [lp_X12_all_210]
    exact r_none
  | succ n19 ih =>
    intro v15 v16 v17 s18
    rw [lp_X12_all_210]
    refine r_iload (pc1 := 212) dX12_all_210 rfl rfl ?_
    refine r_iload_n (pc1 := 213) (i := 2) dX12_all_212 rfl rfl rfl ?_
    refine r_bipush (v := 10) (pc1 := 215) dX12_all_213 kb_10 rfl ?_
    refine r_isub (pc1 := 216) dX12_all_215 rfl ?_
    refine r_icmp_gt (tgt := 242) (pc1 := 219) dX12_all_216 (by decide) rfl (fun q20 => ?_) (fun q20 => ?_)
    · refine r_iload (pc1 := 244) dX12_all_242 rfl rfl ?_
      exact r_iret rfl rfl dX12_all_244
    · refine r_aload_n (pc1 := 220) (i := 0) dX12_all_219 rfl rfl rfl ?_
      refine r_iload (pc1 := 222) dX12_all_220 rfl rfl ?_
      refine r_iload_n (pc1 := 223) (i := 3) dX12_all_222 rfl rfl rfl ?_
      refine r_callVi (pc1 := 226) (rv_of w_56 cl_12) lkX12_437 (c_X12_allOn _ _ _) rfl rfl ⟨Nat.le_of_ble_eq_true rfl, Nat.le_of_ble_eq_true rfl⟩ (Nat.le_of_ble_eq_true rfl) dX12_all_223 rfl (fun v21 s22 => ?_)
      refine r_istore (pc1 := 228) dX12_all_226 (by decide) rfl rfl rfl ?_
      refine r_aload_n (pc1 := 229) (i := 0) dX12_all_228 rfl rfl rfl ?_
      refine r_iload_n (pc1 := 230) (i := 3) dX12_all_229 rfl rfl rfl ?_
      refine r_iload (pc1 := 232) dX12_all_230 rfl rfl ?_
      refine r_callVp (pc1 := 235) (rv_of w_56 cl_12) lkX12_362 (c_X12_behind _ _ _) rfl rfl ⟨Nat.le_of_ble_eq_true rfl, Nat.le_of_ble_eq_true rfl⟩ (Nat.le_of_ble_eq_true rfl) dX12_all_232 rfl (fun v23 => ?_)
      refine r_istore_n (pc1 := 236) (i := 3) dX12_all_235 rfl (by decide) rfl rfl rfl ?_
      refine r_iinc (pc1 := 239) dX12_all_236 rfl (kn_1 _) (by decide) rfl rfl rfl ?_
      refine r_goto (tgt := 210) dX12_all_239 (by decide) ?_
      exact r_wk (ih v23 v21 (v17 + 1) s22) ⟨Or.inr rfl, Or.inl rfl, Or.inr rfl, Or.inr rfl, Or.inr rfl, Or.inr rfl, Or.inl rfl, trivial⟩
set_option maxRecDepth 100000 in
set_option maxHeartbeats 4000000 in
theorem t_lp_X12_all_124 {l : Launch} (a2 : Int32) (v24 : Int32) (v30 : Int32) (k35 : SS → Res) (v37 : Int32) (hk35 : ∀ (s34 : SS), RC l wF RX12 cX12_all 7 (some .int) 9 165 [.ref 56, .null, .int a2, .int v24, .int v30, .null, .null] [] s34 (k35 s34)) : ∀ (n41 : Nat) (v39 : Int32) (s40 : SS), RC l wF RX12 cX12_all 7 (some .int) 9 124 [.ref 56, .null, .int a2, .int v24, .int v30, .int v37, .int v39] [] s40 (lp_X12_all_124 a2 v24 v30 k35 v37 n41 v39 s40) := by
  intro n41
  induction n41 with
  | zero =>
    intro v39 s40
    rw [lp_X12_all_124]
    exact r_none
  | succ n41 ih =>
    intro v39 s40
    rw [lp_X12_all_124]
    refine r_iload (pc1 := 126) dX12_all_124 rfl rfl ?_
    refine r_iconst (v := 4) (pc1 := 127) dX12_all_126 ki_4 rfl ?_
    refine r_icmp_ge (tgt := 165) (pc1 := 130) dX12_all_127 (by decide) rfl (fun q42 => ?_) (fun q42 => ?_)
    · exact r_wk (hk35 s40) ⟨Or.inr rfl, Or.inl rfl, Or.inr rfl, Or.inr rfl, Or.inr rfl, Or.inl rfl, Or.inl rfl, trivial⟩
    · refine r_aload_n (pc1 := 131) (i := 0) dX12_all_130 rfl rfl rfl ?_
      refine r_getR (pc1 := 134) w_56 gfX12_129 rfl dX12_all_131 rfl ?_
      refine r_iconst (v := 4) (pc1 := 135) dX12_all_134 ki_4 rfl ?_
      refine r_sipush (v := 4681) (pc1 := 138) dX12_all_135 ks_4681 rfl ?_
      refine r_iload_n (pc1 := 139) (i := 3) dX12_all_138 rfl rfl rfl ?_
      refine r_imul (pc1 := 140) dX12_all_139 rfl ?_
      refine r_iload (pc1 := 142) dX12_all_140 rfl rfl ?_
      refine r_iadd (pc1 := 143) dX12_all_142 rfl ?_
      refine r_imul (pc1 := 144) dX12_all_143 rfl ?_
      refine r_iload (pc1 := 146) dX12_all_144 rfl rfl ?_
      refine r_iadd (pc1 := 147) dX12_all_146 rfl ?_
      refine r_aload_n (pc1 := 148) (i := 0) dX12_all_147 rfl rfl rfl ?_
      refine r_iload_n (pc1 := 149) (i := 3) dX12_all_148 rfl rfl rfl ?_
      refine r_iload (pc1 := 151) dX12_all_149 rfl rfl ?_
      refine r_iload (pc1 := 153) dX12_all_151 rfl rfl ?_
      refine r_iload (pc1 := 155) dX12_all_153 rfl rfl ?_
      refine r_callVi (pc1 := 158) (rv_of w_56 cl_12) lkX12_434 (c_X12_allBy _ _ _ _ _) rfl rfl ⟨Nat.le_of_ble_eq_true rfl, Nat.le_of_ble_eq_true rfl⟩ (Nat.le_of_ble_eq_true rfl) dX12_all_155 rfl (fun v43 s44 => ?_)
      refine r_iast (pc1 := 159) w_92 dX12_all_158 rfl ?_
      refine r_lts (fun s45 => ?_)
      refine r_iinc (pc1 := 162) dX12_all_159 rfl (kn_1 _) (by decide) rfl rfl rfl ?_
      refine r_goto (tgt := 124) dX12_all_162 (by decide) ?_
      exact r_wk (ih (v39 + 1) s45) ⟨Or.inr rfl, Or.inl rfl, Or.inr rfl, Or.inr rfl, Or.inr rfl, Or.inr rfl, Or.inr rfl, trivial⟩
set_option maxRecDepth 100000 in
set_option maxHeartbeats 4000000 in
theorem t_lp_X12_all_85 {l : Launch} (a2 : Int32) (v24 : Int32) (k29 : SS → Res) (hk29 : ∀ (s28 : SS), RC l wF RX12 cX12_all 7 (some .int) 9 171 [.ref 56, .null, .int a2, .int v24, .null, .null, .null] [] s28 (k29 s28)) : ∀ (n32 : Nat) (v30 : Int32) (s31 : SS), RC l wF RX12 cX12_all 7 (some .int) 9 85 [.ref 56, .null, .int a2, .int v24, .int v30, .null, .null] [] s31 (lp_X12_all_85 a2 v24 k29 n32 v30 s31) := by
  intro n32
  induction n32 with
  | zero =>
    intro v30 s31
    rw [lp_X12_all_85]
    exact r_none
  | succ n32 ih =>
    intro v30 s31
    rw [lp_X12_all_85]
    refine r_iload (pc1 := 87) dX12_all_85 rfl rfl ?_
    refine r_sipush (v := 4681) (pc1 := 90) dX12_all_87 ks_4681 rfl ?_
    refine r_icmp_ge (tgt := 171) (pc1 := 93) dX12_all_90 (by decide) rfl (fun q33 => ?_) (fun q33 => ?_)
    · exact r_wk (hk29 s31) ⟨Or.inr rfl, Or.inl rfl, Or.inr rfl, Or.inr rfl, Or.inl rfl, Or.inl rfl, Or.inl rfl, trivial⟩
    · refine r_aload_n (pc1 := 94) (i := 0) dX12_all_93 rfl rfl rfl ?_
      refine r_getR (pc1 := 97) w_56 gfX12_122 rfl dX12_all_94 rfl ?_
      refine r_sipush (v := 4681) (pc1 := 100) dX12_all_97 ks_4681 rfl ?_
      refine r_iload_n (pc1 := 101) (i := 3) dX12_all_100 rfl rfl rfl ?_
      refine r_imul (pc1 := 102) dX12_all_101 rfl ?_
      refine r_iload (pc1 := 104) dX12_all_102 rfl rfl ?_
      refine r_iadd (pc1 := 105) dX12_all_104 rfl ?_
      refine r_zald (pc1 := 106) w_90 dX12_all_105 rfl ?_
      refine r_jn (hyp := fun (k35 : SS → Res) => ∀ (s34 : SS), RC l wF RX12 cX12_all 7 (some .int) 9 165 [.ref 56, .null, .int a2, .int v24, .int v30, .null, .null] [] s34 (k35 s34)) (fun s34 => ?_) (fun k35 hk35 => ?_)
      · refine r_iinc (pc1 := 168) dX12_all_165 rfl (kn_1 _) (by decide) rfl rfl rfl ?_
        refine r_goto (tgt := 85) dX12_all_168 (by decide) ?_
        exact r_wk (ih (v30 + 1) s34) ⟨Or.inr rfl, Or.inl rfl, Or.inr rfl, Or.inr rfl, Or.inr rfl, Or.inl rfl, Or.inl rfl, trivial⟩
      · refine r_if_ne (tgt := 112) (pc1 := 109) dX12_all_106 (by decide) rfl (fun q36 => ?_) (fun q36 => ?_)
        · refine r_goto (tgt := 165) dX12_all_109 (by decide) ?_
          exact r_wk (hk35 s31) ⟨Or.inr rfl, Or.inl rfl, Or.inr rfl, Or.inr rfl, Or.inr rfl, Or.inl rfl, Or.inl rfl, trivial⟩
        · refine r_aload_n (pc1 := 113) (i := 0) dX12_all_112 rfl rfl rfl ?_
          refine r_iload_n (pc1 := 114) (i := 3) dX12_all_113 rfl rfl rfl ?_
          refine r_iload (pc1 := 116) dX12_all_114 rfl rfl ?_
          refine r_callVi (pc1 := 119) (rv_of w_56 cl_12) lkX12_437 (c_X12_allOn _ _ _) rfl rfl ⟨Nat.le_of_ble_eq_true rfl, Nat.le_of_ble_eq_true rfl⟩ (Nat.le_of_ble_eq_true rfl) dX12_all_116 rfl (fun v37 s38 => ?_)
          refine r_istore (pc1 := 121) dX12_all_119 (by decide) rfl rfl rfl ?_
          refine r_iconst (v := 0) (pc1 := 122) dX12_all_121 ki_0 rfl ?_
          refine r_istore (pc1 := 124) dX12_all_122 (by decide) rfl rfl rfl ?_
          exact r_wk (t_lp_X12_all_124 a2 v24 v30 k35 v37 hk35 FU 0 s38) ⟨Or.inr rfl, Or.inl rfl, Or.inr rfl, Or.inr rfl, Or.inr rfl, Or.inr rfl, Or.inr rfl, trivial⟩
set_option maxRecDepth 100000 in
set_option maxHeartbeats 4000000 in
theorem t_lp_X12_all_78 {l : Launch} (a2 : Int32) (k11 : SS → Res) (hk11 : ∀ (s10 : SS), RC l wF RX12 cX12_all 7 (some .int) 9 177 [.ref 56, .null, .int a2, .null, .null, .null, .null] [] s10 (k11 s10)) : ∀ (n26 : Nat) (v24 : Int32) (s25 : SS), RC l wF RX12 cX12_all 7 (some .int) 9 78 [.ref 56, .null, .int a2, .int v24, .null, .null, .null] [] s25 (lp_X12_all_78 a2 k11 n26 v24 s25) := by
  intro n26
  induction n26 with
  | zero =>
    intro v24 s25
    rw [lp_X12_all_78]
    exact r_none
  | succ n26 ih =>
    intro v24 s25
    rw [lp_X12_all_78]
    refine r_iload_n (pc1 := 79) (i := 3) dX12_all_78 rfl rfl rfl ?_
    refine r_if_lt (tgt := 177) (pc1 := 82) dX12_all_79 (by decide) rfl (fun q27 => ?_) (fun q27 => ?_)
    · exact r_wk (hk11 s25) ⟨Or.inr rfl, Or.inl rfl, Or.inr rfl, Or.inl rfl, Or.inl rfl, Or.inl rfl, Or.inl rfl, trivial⟩
    · refine r_iconst (v := 0) (pc1 := 83) dX12_all_82 ki_0 rfl ?_
      refine r_istore (pc1 := 85) dX12_all_83 (by decide) rfl rfl rfl ?_
      refine r_jn (hyp := fun (k29 : SS → Res) => ∀ (s28 : SS), RC l wF RX12 cX12_all 7 (some .int) 9 171 [.ref 56, .null, .int a2, .int v24, .null, .null, .null] [] s28 (k29 s28)) (fun s28 => ?_) (fun k29 hk29 => ?_)
      · refine r_iinc (pc1 := 174) dX12_all_171 rfl (kn_m1 _) (by decide) rfl rfl rfl ?_
        refine r_goto (tgt := 78) dX12_all_174 (by decide) ?_
        exact r_wk (ih (v24 + (-1)) s28) ⟨Or.inr rfl, Or.inl rfl, Or.inr rfl, Or.inr rfl, Or.inl rfl, Or.inl rfl, Or.inl rfl, trivial⟩
      · exact r_wk (t_lp_X12_all_85 a2 v24 k29 hk29 FU 0 s25) ⟨Or.inr rfl, Or.inl rfl, Or.inr rfl, Or.inr rfl, Or.inr rfl, Or.inl rfl, Or.inl rfl, trivial⟩
set_option maxRecDepth 100000 in
set_option maxHeartbeats 4000000 in
theorem t_lp_X12_all_48 {l : Launch} (a1 : Int32) (a2 : Int32) (k8 : SS → Res) (hk8 : ∀ (s7 : SS), RC l wF RX12 cX12_all 7 (some .int) 9 74 [.ref 56, .int a1, .int a2, .null, .null, .null, .null] [] s7 (k8 s7)) : ∀ (n48 : Nat) (v46 : Int32) (s47 : SS), RC l wF RX12 cX12_all 7 (some .int) 9 48 [.ref 56, .int a1, .int a2, .int v46, .null, .null, .null] [] s47 (lp_X12_all_48 a1 a2 k8 n48 v46 s47) := by
  intro n48
  induction n48 with
  | zero =>
    intro v46 s47
    rw [lp_X12_all_48]
    exact r_none
  | succ n48 ih =>
    intro v46 s47
    rw [lp_X12_all_48]
    refine r_iload_n (pc1 := 49) (i := 3) dX12_all_48 rfl rfl rfl ?_
    refine r_sipush (v := 18724) (pc1 := 52) dX12_all_49 ks_18724 rfl ?_
    refine r_icmp_ge (tgt := 74) (pc1 := 55) dX12_all_52 (by decide) rfl (fun q49 => ?_) (fun q49 => ?_)
    · exact r_wk (hk8 s47) ⟨Or.inr rfl, Or.inr rfl, Or.inr rfl, Or.inl rfl, Or.inl rfl, Or.inl rfl, Or.inl rfl, trivial⟩
    · refine r_aload_n (pc1 := 56) (i := 0) dX12_all_55 rfl rfl rfl ?_
      refine r_getR (pc1 := 59) w_56 gfX12_129 rfl dX12_all_56 rfl ?_
      refine r_sipush (v := 18724) (pc1 := 62) dX12_all_59 ks_18724 rfl ?_
      refine r_iload_n (pc1 := 63) (i := 1) dX12_all_62 rfl rfl rfl ?_
      refine r_imul (pc1 := 64) dX12_all_63 rfl ?_
      refine r_iload_n (pc1 := 65) (i := 3) dX12_all_64 rfl rfl rfl ?_
      refine r_iadd (pc1 := 66) dX12_all_65 rfl ?_
      refine r_iconst (v := 0) (pc1 := 67) dX12_all_66 ki_0 rfl ?_
      refine r_iast (pc1 := 68) w_92 dX12_all_67 rfl ?_
      refine r_lts (fun s50 => ?_)
      refine r_iinc (pc1 := 71) dX12_all_68 rfl (kn_1 _) (by decide) rfl rfl rfl ?_
      refine r_goto (tgt := 48) dX12_all_71 (by decide) ?_
      exact r_wk (ih (v46 + 1) s50) ⟨Or.inr rfl, Or.inr rfl, Or.inr rfl, Or.inr rfl, Or.inl rfl, Or.inl rfl, Or.inl rfl, trivial⟩
set_option maxRecDepth 100000 in
set_option maxHeartbeats 4000000 in
theorem c_X12_all {l : Launch} (a1 : Int32) (a2 : Int32) (s0 : SS) : Ct l wF yX12_all cX12_all 7 (some .int) 9 [.ref 56, .int a1, .int a2] s0 (f_X12_all a1 a2 s0) := by
  refine ct_of (y := yX12_all) plX12 (Nat.le_of_ble_eq_true rfl) ?_
  refine r_pad0 4 (L1 := [.ref 56, .int a1, .int a2, .null, .null, .null, .null]) rfl ?_
  unfold f_X12_all
  refine r_iload_n (pc1 := 1) (i := 1) dX12_all_0 rfl rfl rfl ?_
  refine r_i2l (pc1 := 2) dX12_all_1 rfl ?_
  refine r_lconst (v := 1) (pc1 := 3) dX12_all_2 kl_1 rfl ?_
  refine r_ldc2 (v := 8) (pc1 := 6) dX12_all_3 cnX12_427 rfl ?_
  refine r_callSp (pc1 := 9) lkX12_140 (c_X12_lies _ _ _ _) rfl rfl ⟨Nat.le_of_ble_eq_true rfl, Nat.le_of_ble_eq_true rfl⟩ (Nat.le_of_ble_eq_true rfl) dX12_all_6 rfl (fun v1 => ?_)
  refine r_if_eq (tgt := 35) (pc1 := 12) dX12_all_9 (by decide) rfl (fun q2 => ?_) (fun q2 => ?_)
  · refine r_ldcw (v := (-1000000)) (pc1 := 38) dX12_all_35 cnX12_384 rfl ?_
    exact r_iret rfl rfl dX12_all_38
  · refine r_iload_n (pc1 := 13) (i := 2) dX12_all_12 rfl rfl rfl ?_
    refine r_callSp (pc1 := 16) lkX12_381 (c_X12_isSort _ _) rfl rfl ⟨Nat.le_of_ble_eq_true rfl, Nat.le_of_ble_eq_true rfl⟩ (Nat.le_of_ble_eq_true rfl) dX12_all_13 rfl (fun v3 => ?_)
    refine r_jn (hyp := fun (k4 : Res) => RC l wF RX12 cX12_all 7 (some .int) 9 39 [.ref 56, .int a1, .int a2, .null, .null, .null, .null] [] s0 k4) (?_) (fun k4 hk4 => ?_)
    · refine r_aload_n (pc1 := 40) (i := 0) dX12_all_39 rfl rfl rfl ?_
      refine r_iload_n (pc1 := 41) (i := 1) dX12_all_40 rfl rfl rfl ?_
      refine r_bipush (v := 9) (pc1 := 43) dX12_all_41 kb_9 rfl ?_
      refine r_callVv (pc1 := 46) (rv_of w_56 cl_12) lkX12_421 (c_X12_reaches _ _ _) rfl rfl ⟨Nat.le_of_ble_eq_true rfl, Nat.le_of_ble_eq_true rfl⟩ (Nat.le_of_ble_eq_true rfl) dX12_all_43 rfl (fun v5 s6 => ?_)
      refine r_iconst (v := 0) (pc1 := 47) dX12_all_46 ki_0 rfl ?_
      refine r_istore_n (pc1 := 48) (i := 3) dX12_all_47 rfl (by decide) rfl rfl rfl ?_
      refine r_jn (hyp := fun (k8 : SS → Res) => ∀ (s7 : SS), RC l wF RX12 cX12_all 7 (some .int) 9 74 [.ref 56, .int a1, .int a2, .null, .null, .null, .null] [] s7 (k8 s7)) (fun s7 => ?_) (fun k8 hk8 => ?_)
      · refine r_iload_n (pc1 := 75) (i := 1) dX12_all_74 rfl rfl rfl ?_
        refine r_iconst (v := 1) (pc1 := 76) dX12_all_75 ki_1 rfl ?_
        refine r_isub (pc1 := 77) dX12_all_76 rfl ?_
        refine r_lt (fun v9 => ?_)
        refine r_istore_n (pc1 := 78) (i := 3) dX12_all_77 rfl (by decide) rfl rfl rfl ?_
        refine r_jn (hyp := fun (k11 : SS → Res) => ∀ (s10 : SS), RC l wF RX12 cX12_all 7 (some .int) 9 177 [.ref 56, .null, .int a2, .null, .null, .null, .null] [] s10 (k11 s10)) (fun s10 => ?_) (fun k11 hk11 => ?_)
        · refine r_iload_n (pc1 := 178) (i := 2) dX12_all_177 rfl rfl rfl ?_
          refine r_callSp (pc1 := 181) lkX12_381 (c_X12_isSort _ _) rfl rfl ⟨Nat.le_of_ble_eq_true rfl, Nat.le_of_ble_eq_true rfl⟩ (Nat.le_of_ble_eq_true rfl) dX12_all_178 rfl (fun v12 => ?_)
          refine r_if_eq (tgt := 198) (pc1 := 184) dX12_all_181 (by decide) rfl (fun q13 => ?_) (fun q13 => ?_)
          · refine r_aload_n (pc1 := 199) (i := 0) dX12_all_198 rfl rfl rfl ?_
            refine r_getI (pc1 := 202) w_56 gfX12_158 rfl dX12_all_199 rfl ?_
            refine r_lt (fun v14 => ?_)
            refine r_istore_n (pc1 := 203) (i := 3) dX12_all_202 rfl (by decide) rfl rfl rfl ?_
            refine r_bipush (v := 8) (pc1 := 205) dX12_all_203 kb_8 rfl ?_
            refine r_istore (pc1 := 207) dX12_all_205 (by decide) rfl rfl rfl ?_
            refine r_iconst (v := 0) (pc1 := 208) dX12_all_207 ki_0 rfl ?_
            refine r_istore (pc1 := 210) dX12_all_208 (by decide) rfl rfl rfl ?_
            exact r_wk (t_lp_X12_all_210 a2 FU v14 8 0 s10) ⟨Or.inr rfl, Or.inl rfl, Or.inr rfl, Or.inr rfl, Or.inr rfl, Or.inr rfl, Or.inl rfl, trivial⟩
          · refine r_aload_n (pc1 := 185) (i := 0) dX12_all_184 rfl rfl rfl ?_
            refine r_getR (pc1 := 188) w_56 gfX12_129 rfl dX12_all_185 rfl ?_
            refine r_iconst (v := 4) (pc1 := 189) dX12_all_188 ki_4 rfl ?_
            refine r_aload_n (pc1 := 190) (i := 0) dX12_all_189 rfl rfl rfl ?_
            refine r_getI (pc1 := 193) w_56 gfX12_158 rfl dX12_all_190 rfl ?_
            refine r_imul (pc1 := 194) dX12_all_193 rfl ?_
            refine r_iload_n (pc1 := 195) (i := 2) dX12_all_194 rfl rfl rfl ?_
            refine r_iadd (pc1 := 196) dX12_all_195 rfl ?_
            refine r_iald (pc1 := 197) w_92 dX12_all_196 rfl ?_
            exact r_iret rfl rfl dX12_all_197
        · exact r_wk (t_lp_X12_all_78 a2 k11 hk11 FU v9 s7) ⟨Or.inr rfl, Or.inl rfl, Or.inr rfl, Or.inr rfl, Or.inl rfl, Or.inl rfl, Or.inl rfl, trivial⟩
      · exact r_wk (t_lp_X12_all_48 a1 a2 k8 hk8 FU 0 s6) ⟨Or.inr rfl, Or.inr rfl, Or.inr rfl, Or.inr rfl, Or.inl rfl, Or.inl rfl, Or.inl rfl, trivial⟩
    · refine r_if_ne (tgt := 39) (pc1 := 19) dX12_all_16 (by decide) rfl (fun q51 => ?_) (fun q51 => ?_)
      · refine r_iload_n (pc1 := 20) (i := 2) dX12_all_19 rfl rfl rfl ?_
        refine r_i2l (pc1 := 21) dX12_all_20 rfl ?_
        refine r_ldc2 (v := 10) (pc1 := 24) dX12_all_21 cnX12_390 rfl ?_
        refine r_bipush (v := 9) (pc1 := 26) dX12_all_24 kb_9 rfl ?_
        refine r_iload_n (pc1 := 27) (i := 1) dX12_all_26 rfl rfl rfl ?_
        refine r_iadd (pc1 := 28) dX12_all_27 rfl ?_
        refine r_i2l (pc1 := 29) dX12_all_28 rfl ?_
        refine r_callSp (pc1 := 32) lkX12_140 (c_X12_lies _ _ _ _) rfl rfl ⟨Nat.le_of_ble_eq_true rfl, Nat.le_of_ble_eq_true rfl⟩ (Nat.le_of_ble_eq_true rfl) dX12_all_29 rfl (fun v52 => ?_)
        refine r_if_ne (tgt := 39) (pc1 := 35) dX12_all_32 (by decide) rfl (fun q53 => ?_) (fun q53 => ?_)
        · refine r_ldcw (v := (-1000000)) (pc1 := 38) dX12_all_35 cnX12_384 rfl ?_
          exact r_iret rfl rfl dX12_all_38
        · exact r_wk (hk4) ⟨Or.inr rfl, Or.inr rfl, Or.inr rfl, Or.inl rfl, Or.inl rfl, Or.inl rfl, Or.inl rfl, trivial⟩
      · exact r_wk (hk4) ⟨Or.inr rfl, Or.inr rfl, Or.inr rfl, Or.inl rfl, Or.inl rfl, Or.inl rfl, Or.inl rfl, trivial⟩
/-! f_X12_areDifferent -/
noncomputable def lp_X12_areDifferent_4 (s0 : SS) : Nat → Int32 → Int32 → Option Int32
  | 0, _, _ => none
  | n3 + 1, v1, v2 => if (s0 56 48 : Int32) ≤ (v2 : Int32) then some 1 else gd (inb v2 4) (bdp (f_X12_has v1 (s0 80 (Int32.toNatClampNeg v2)) s0) (fun (v5 : Int32) => if (v5 : Int32) = 0 then gd (inb v2 4) (if (s0 80 (Int32.toNatClampNeg v2) : Int32) < (s0 56 2 : Int32) then gd (inb v2 4) (lt (v1 ||| (1 <<< ((s0 80 (Int32.toNatClampNeg v2)) &&& 31))) (fun (v8 : Int32) => lp_X12_areDifferent_4 s0 n3 v8 (v2 + 1))) else some 0) else some 0))
noncomputable def f_X12_areDifferent  (s0 : SS) : Option Int32 := lp_X12_areDifferent_4 s0 FU 0 0
set_option maxRecDepth 100000 in
set_option maxHeartbeats 4000000 in
theorem t_lp_X12_areDifferent_4 {l : Launch} (s0 : SS)  : ∀ (n3 : Nat) (v1 : Int32) (v2 : Int32), RC l wF RX12 cX12_areDifferent 3 (some .boolean) 1 4 [.ref 56, .int v1, .int v2] [] s0 (pu (lp_X12_areDifferent_4 s0 n3 v1 v2) s0) := by
  intro n3
  induction n3 with
  | zero =>
    intro v1 v2
    rw [lp_X12_areDifferent_4]
    exact p_none
  | succ n3 ih =>
    intro v1 v2
    rw [lp_X12_areDifferent_4]
    refine r_iload_n (pc1 := 5) (i := 2) dX12_areDifferent_4 rfl rfl rfl ?_
    refine r_aload_n (pc1 := 6) (i := 0) dX12_areDifferent_5 rfl rfl rfl ?_
    refine r_getI (pc1 := 9) w_56 gfX12_297 rfl dX12_areDifferent_6 rfl ?_
    refine p_icmp_ge (tgt := 57) (pc1 := 12) dX12_areDifferent_9 (by decide) rfl (fun q4 => ?_) (fun q4 => ?_)
    · refine r_iconst (v := 1) (pc1 := 58) dX12_areDifferent_57 ki_1 rfl ?_
      exact p_iret rfl rfl dX12_areDifferent_58
    · refine r_iload_n (pc1 := 13) (i := 1) dX12_areDifferent_12 rfl rfl rfl ?_
      refine r_aload_n (pc1 := 14) (i := 0) dX12_areDifferent_13 rfl rfl rfl ?_
      refine r_getR (pc1 := 17) w_56 gfX12_91 rfl dX12_areDifferent_14 rfl ?_
      refine r_iload_n (pc1 := 18) (i := 2) dX12_areDifferent_17 rfl rfl rfl ?_
      refine p_iald (pc1 := 19) w_80 dX12_areDifferent_18 rfl ?_
      refine p_callSp (pc1 := 22) lkX12_335 (c_X12_has _ _ _) rfl rfl ⟨Nat.le_of_ble_eq_true rfl, Nat.le_of_ble_eq_true rfl⟩ (Nat.le_of_ble_eq_true rfl) dX12_areDifferent_19 rfl (fun v5 => ?_)
      refine p_if_ne (tgt := 38) (pc1 := 25) dX12_areDifferent_22 (by decide) rfl (fun q6 => ?_) (fun q6 => ?_)
      · refine r_aload_n (pc1 := 26) (i := 0) dX12_areDifferent_25 rfl rfl rfl ?_
        refine r_getR (pc1 := 29) w_56 gfX12_91 rfl dX12_areDifferent_26 rfl ?_
        refine r_iload_n (pc1 := 30) (i := 2) dX12_areDifferent_29 rfl rfl rfl ?_
        refine p_iald (pc1 := 31) w_80 dX12_areDifferent_30 rfl ?_
        refine r_aload_n (pc1 := 32) (i := 0) dX12_areDifferent_31 rfl rfl rfl ?_
        refine r_getI (pc1 := 35) w_56 gfX12_144 rfl dX12_areDifferent_32 rfl ?_
        refine p_icmp_lt (tgt := 40) (pc1 := 38) dX12_areDifferent_35 (by decide) rfl (fun q7 => ?_) (fun q7 => ?_)
        · refine r_iload_n (pc1 := 41) (i := 1) dX12_areDifferent_40 rfl rfl rfl ?_
          refine r_iconst (v := 1) (pc1 := 42) dX12_areDifferent_41 ki_1 rfl ?_
          refine r_aload_n (pc1 := 43) (i := 0) dX12_areDifferent_42 rfl rfl rfl ?_
          refine r_getR (pc1 := 46) w_56 gfX12_91 rfl dX12_areDifferent_43 rfl ?_
          refine r_iload_n (pc1 := 47) (i := 2) dX12_areDifferent_46 rfl rfl rfl ?_
          refine p_iald (pc1 := 48) w_80 dX12_areDifferent_47 rfl ?_
          refine r_ishl (pc1 := 49) dX12_areDifferent_48 rfl ?_
          refine r_ior (pc1 := 50) dX12_areDifferent_49 rfl ?_
          refine p_lt (fun v8 => ?_)
          refine r_istore_n (pc1 := 51) (i := 1) dX12_areDifferent_50 rfl (by decide) rfl rfl rfl ?_
          refine r_iinc (pc1 := 54) dX12_areDifferent_51 rfl (kn_1 _) (by decide) rfl rfl rfl ?_
          refine r_goto (tgt := 4) dX12_areDifferent_54 (by decide) ?_
          exact r_wk (ih v8 (v2 + 1)) ⟨Or.inr rfl, Or.inr rfl, Or.inr rfl, trivial⟩
        · refine r_iconst (v := 0) (pc1 := 39) dX12_areDifferent_38 ki_0 rfl ?_
          exact p_iret rfl rfl dX12_areDifferent_39
      · refine r_iconst (v := 0) (pc1 := 39) dX12_areDifferent_38 ki_0 rfl ?_
        exact p_iret rfl rfl dX12_areDifferent_39
set_option maxRecDepth 100000 in
set_option maxHeartbeats 4000000 in
theorem c_X12_areDifferent {l : Launch}  (s0 : SS) : Ct l wF yX12_areDifferent cX12_areDifferent 3 (some .boolean) 1 [.ref 56] s0 (pu (f_X12_areDifferent s0) s0) := by
  refine ct_of (y := yX12_areDifferent) plX12 (Nat.le_of_ble_eq_true rfl) ?_
  refine r_pad0 2 (L1 := [.ref 56, .null, .null]) rfl ?_
  unfold f_X12_areDifferent
  refine r_iconst (v := 0) (pc1 := 1) dX12_areDifferent_0 ki_0 rfl ?_
  refine r_istore_n (pc1 := 2) (i := 1) dX12_areDifferent_1 rfl (by decide) rfl rfl rfl ?_
  refine r_iconst (v := 0) (pc1 := 3) dX12_areDifferent_2 ki_0 rfl ?_
  refine r_istore_n (pc1 := 4) (i := 2) dX12_areDifferent_3 rfl (by decide) rfl rfl rfl ?_
  exact r_wk (t_lp_X12_areDifferent_4 s0 FU 0 0) ⟨Or.inr rfl, Or.inr rfl, Or.inr rfl, trivial⟩
/-! f_X12_bestRow -/
noncomputable def lp_X12_bestRow_113 (a1 : Int32) (a2 : Int32) (v5 : Int32) (v15 : Int32) (v16 : Int32) (v17 : Int32) (k31 : Int32 → SS → Res) : Nat → Int32 → Int32 → SS → Res
  | 0, _, _, _ => none
  | n38 + 1, v35, v36, s37 => if (4 : Int32) ≤ (v36 : Int32) then k31 v35 s37 else jn (fun (v40 : Int32) (s41 : SS) => lt (v35 + v40) (fun (v43 : Int32) => lp_X12_bestRow_113 a1 a2 v5 v15 v16 v17 k31 n38 v43 (v36 + 1) s41)) (fun (k42 : Int32 → SS → Res) => jn (bd (f_X12_worthOf v17 v36 s37) (fun (v45 : Int32) (s46 : SS) => k42 v45 s46)) (fun (k44 : Res) => if (a1 : Int32) = ((-1) : Int32) then k44 else if (a1 : Int32) = (v36 : Int32) then k44 else k42 0 s37))
noncomputable def lp_X12_bestRow_84 (a1 : Int32) (a2 : Int32) (v5 : Int32) (k11 : Int32 → Int32 → SS → Res) : Nat → Int32 → Int32 → Int32 → SS → Res
  | 0, _, _, _, _ => none
  | n19 + 1, v15, v16, v17, s18 => if (v5 : Int32) ≤ (v17 : Int32) then k11 v15 v16 s18 else bd (f_X12_laysRow v17 s18) (fun (v21 : Int32) (s22 : SS) => bdp (f_X12_areDifferent s22) (fun (v23 : Int32) => jn (fun (v24 : Int32) (v25 : Int32) (s26 : SS) => lp_X12_bestRow_84 a1 a2 v5 k11 n19 v24 v25 (v17 + 1) s26) (fun (k27 : Int32 → Int32 → SS → Res) => if (v23 : Int32) = 0 then k27 v15 v16 s22 else jn (fun (v29 : Int32) (s30 : SS) => jn (k27 v17 v29 s30) (fun (k32 : Res) => if (v15 : Int32) = ((-1) : Int32) then k32 else if (v16 : Int32) < (v29 : Int32) then k32 else k27 v15 v16 s30)) (fun (k31 : Int32 → SS → Res) => lp_X12_bestRow_113 a1 a2 v5 v15 v16 v17 k31 FU 0 0 s22))))
noncomputable def f_X12_bestRow (a1 : Int32) (a2 : Int32) (s0 : SS) : Res := jn (bdp (f_X12_lies ((a2 : Int32).toInt64) ((-1)) (((s0 56 3) - 1 : Int32).toInt64) s0) (fun (v2 : Int32) => if (v2 : Int32) = 0 then some ((-1000000), s0) else if (s0 56 3 : Int32) ≤ (s0 56 2 : Int32) then jn (fun (v5 : Int32) => bdp (f_X12_firstOf (s0 56 3) s0) (fun (v7 : Int32) => jn (fun (v8 : Int32) (v9 : Int32) (s10 : SS) => bd (f_X12_laysRow v8 s10) (fun (v12 : Int32) (s13 : SS) => if (a2 : Int32) = ((-1) : Int32) then some (v9, s13) else gd (inb a2 4) (some (s13 80 (Int32.toNatClampNeg a2), s13)))) (fun (k11 : Int32 → Int32 → SS → Res) => lp_X12_bestRow_84 a1 a2 v5 k11 FU ((-1)) 0 v7 s0))) (fun (k6 : Int32 → Res) => if (s0 56 3 : Int32) = (4 : Int32) then k6 4681 else bdp (f_X12_firstOf ((s0 56 3) + 1) s0) (fun (v50 : Int32) => k6 v50)) else some ((-1000000), s0))) (fun (k1 : Res) => if (a1 : Int32) = ((-1) : Int32) then k1 else bdp (f_X12_isSort a1 s0) (fun (v52 : Int32) => if (v52 : Int32) = 0 then some ((-1000000), s0) else k1))
set_option maxRecDepth 100000 in
set_option maxHeartbeats 4000000 in
theorem t_lp_X12_bestRow_113 {l : Launch} (a1 : Int32) (a2 : Int32) (v5 : Int32) (v15 : Int32) (v16 : Int32) (v17 : Int32) (k31 : Int32 → SS → Res) (hk31 : ∀ (v29 : Int32) (s30 : SS), RC l wF RX12 cX12_bestRow 9 (some .int) 6 153 [.ref 56, .int a1, .int a2, .int v15, .int v16, .int v5, .int v17, .int v29, .null] [] s30 (k31 v29 s30)) : ∀ (n38 : Nat) (v35 : Int32) (v36 : Int32) (s37 : SS), RC l wF RX12 cX12_bestRow 9 (some .int) 6 113 [.ref 56, .int a1, .int a2, .int v15, .int v16, .int v5, .int v17, .int v35, .int v36] [] s37 (lp_X12_bestRow_113 a1 a2 v5 v15 v16 v17 k31 n38 v35 v36 s37) := by
  intro n38
  induction n38 with
  | zero =>
    intro v35 v36 s37
    rw [lp_X12_bestRow_113]
    exact r_none
  | succ n38 ih =>
    intro v35 v36 s37
    rw [lp_X12_bestRow_113]
    refine r_iload (pc1 := 115) dX12_bestRow_113 rfl rfl ?_
    refine r_iconst (v := 4) (pc1 := 116) dX12_bestRow_115 ki_4 rfl ?_
    refine r_icmp_ge (tgt := 153) (pc1 := 119) dX12_bestRow_116 (by decide) rfl (fun q39 => ?_) (fun q39 => ?_)
    · exact r_wk (hk31 v35 s37) ⟨Or.inr rfl, Or.inr rfl, Or.inr rfl, Or.inr rfl, Or.inr rfl, Or.inr rfl, Or.inr rfl, Or.inr rfl, Or.inl rfl, trivial⟩
    · refine r_iload (pc1 := 121) dX12_bestRow_119 rfl rfl ?_
      refine r_iload_n (pc1 := 122) (i := 1) dX12_bestRow_121 rfl rfl rfl ?_
      refine r_iconst (v := (-1)) (pc1 := 123) dX12_bestRow_122 ki_m1 rfl ?_
      refine r_jn (hyp := fun (k42 : Int32 → SS → Res) => ∀ (v40 : Int32) (s41 : SS), RC l wF RX12 cX12_bestRow 9 (some .int) 6 144 [.ref 56, .int a1, .int a2, .int v15, .int v16, .int v5, .int v17, .null, .int v36] [.int v40, .int v35] s41 (k42 v40 s41)) (fun v40 s41 => ?_) (fun k42 hk42 => ?_)
      · refine r_iadd (pc1 := 145) dX12_bestRow_144 rfl ?_
        refine r_lt (fun v43 => ?_)
        refine r_istore (pc1 := 147) dX12_bestRow_145 (by decide) rfl rfl rfl ?_
        refine r_iinc (pc1 := 150) dX12_bestRow_147 rfl (kn_1 _) (by decide) rfl rfl rfl ?_
        refine r_goto (tgt := 113) dX12_bestRow_150 (by decide) ?_
        exact r_wk (ih v43 (v36 + 1) s41) ⟨Or.inr rfl, Or.inr rfl, Or.inr rfl, Or.inr rfl, Or.inr rfl, Or.inr rfl, Or.inr rfl, Or.inr rfl, Or.inr rfl, trivial⟩
      · refine r_jn (hyp := fun (k44 : Res) => RC l wF RX12 cX12_bestRow 9 (some .int) 6 132 [.ref 56, .int a1, .int a2, .int v15, .int v16, .int v5, .int v17, .null, .int v36] [.int v35] s37 k44) (?_) (fun k44 hk44 => ?_)
        · refine r_aload_n (pc1 := 133) (i := 0) dX12_bestRow_132 rfl rfl rfl ?_
          refine r_iload (pc1 := 135) dX12_bestRow_133 rfl rfl ?_
          refine r_iload (pc1 := 137) dX12_bestRow_135 rfl rfl ?_
          refine r_callVi (pc1 := 140) (rv_of w_56 cl_12) lkX12_355 (c_X12_worthOf _ _ _) rfl rfl ⟨Nat.le_of_ble_eq_true rfl, Nat.le_of_ble_eq_true rfl⟩ (Nat.le_of_ble_eq_true rfl) dX12_bestRow_137 rfl (fun v45 s46 => ?_)
          refine r_goto (tgt := 144) dX12_bestRow_140 (by decide) ?_
          exact r_wk (hk42 v45 s46) ⟨Or.inr rfl, Or.inr rfl, Or.inr rfl, Or.inr rfl, Or.inr rfl, Or.inr rfl, Or.inr rfl, Or.inl rfl, Or.inr rfl, trivial⟩
        · refine r_icmp_eq (tgt := 132) (pc1 := 126) dX12_bestRow_123 (by decide) rfl (fun q47 => ?_) (fun q47 => ?_)
          · exact r_wk (hk44) ⟨Or.inr rfl, Or.inr rfl, Or.inr rfl, Or.inr rfl, Or.inr rfl, Or.inr rfl, Or.inr rfl, Or.inl rfl, Or.inr rfl, trivial⟩
          · refine r_iload_n (pc1 := 127) (i := 1) dX12_bestRow_126 rfl rfl rfl ?_
            refine r_iload (pc1 := 129) dX12_bestRow_127 rfl rfl ?_
            refine r_icmp_ne (tgt := 143) (pc1 := 132) dX12_bestRow_129 (by decide) rfl (fun q48 => ?_) (fun q48 => ?_)
            · exact r_wk (hk44) ⟨Or.inr rfl, Or.inr rfl, Or.inr rfl, Or.inr rfl, Or.inr rfl, Or.inr rfl, Or.inr rfl, Or.inl rfl, Or.inr rfl, trivial⟩
            · refine r_iconst (v := 0) (pc1 := 144) dX12_bestRow_143 ki_0 rfl ?_
              exact r_wk (hk42 0 s37) ⟨Or.inr rfl, Or.inr rfl, Or.inr rfl, Or.inr rfl, Or.inr rfl, Or.inr rfl, Or.inr rfl, Or.inl rfl, Or.inr rfl, trivial⟩
set_option maxRecDepth 100000 in
set_option maxHeartbeats 4000000 in
theorem t_lp_X12_bestRow_84 {l : Launch} (a1 : Int32) (a2 : Int32) (v5 : Int32) (k11 : Int32 → Int32 → SS → Res) (hk11 : ∀ (v8 : Int32) (v9 : Int32) (s10 : SS), RC l wF RX12 cX12_bestRow 9 (some .int) 6 181 [.ref 56, .null, .int a2, .int v8, .int v9, .null, .null, .null, .null] [] s10 (k11 v8 v9 s10)) : ∀ (n19 : Nat) (v15 : Int32) (v16 : Int32) (v17 : Int32) (s18 : SS), RC l wF RX12 cX12_bestRow 9 (some .int) 6 84 [.ref 56, .int a1, .int a2, .int v15, .int v16, .int v5, .int v17, .null, .null] [] s18 (lp_X12_bestRow_84 a1 a2 v5 k11 n19 v15 v16 v17 s18) := by
  intro n19
  induction n19 with
  | zero =>
    intro v15 v16 v17 s18
    rw [lp_X12_bestRow_84]
    exact r_none
  | succ n19 ih =>
    intro v15 v16 v17 s18
    rw [lp_X12_bestRow_84]
    refine r_iload (pc1 := 86) dX12_bestRow_84 rfl rfl ?_
    refine r_iload (pc1 := 88) dX12_bestRow_86 rfl rfl ?_
    refine r_icmp_ge (tgt := 181) (pc1 := 91) dX12_bestRow_88 (by decide) rfl (fun q20 => ?_) (fun q20 => ?_)
    · exact r_wk (hk11 v15 v16 s18) ⟨Or.inr rfl, Or.inl rfl, Or.inr rfl, Or.inr rfl, Or.inr rfl, Or.inl rfl, Or.inl rfl, Or.inl rfl, Or.inl rfl, trivial⟩
    · refine r_aload_n (pc1 := 92) (i := 0) dX12_bestRow_91 rfl rfl rfl ?_
      refine r_iload (pc1 := 94) dX12_bestRow_92 rfl rfl ?_
      refine r_callVv (pc1 := 97) (rv_of w_56 cl_12) lkX12_339 (c_X12_laysRow _ _) rfl rfl ⟨Nat.le_of_ble_eq_true rfl, Nat.le_of_ble_eq_true rfl⟩ (Nat.le_of_ble_eq_true rfl) dX12_bestRow_94 rfl (fun v21 s22 => ?_)
      refine r_aload_n (pc1 := 98) (i := 0) dX12_bestRow_97 rfl rfl rfl ?_
      refine r_callVp (pc1 := 101) (rv_of w_56 cl_12) lkX12_440 (c_X12_areDifferent _) rfl rfl ⟨Nat.le_of_ble_eq_true rfl, Nat.le_of_ble_eq_true rfl⟩ (Nat.le_of_ble_eq_true rfl) dX12_bestRow_98 rfl (fun v23 => ?_)
      refine r_jn (hyp := fun (k27 : Int32 → Int32 → SS → Res) => ∀ (v24 : Int32) (v25 : Int32) (s26 : SS), RC l wF RX12 cX12_bestRow 9 (some .int) 6 175 [.ref 56, .int a1, .int a2, .int v24, .int v25, .int v5, .int v17, .null, .null] [] s26 (k27 v24 v25 s26)) (fun v24 v25 s26 => ?_) (fun k27 hk27 => ?_)
      · refine r_iinc (pc1 := 178) dX12_bestRow_175 rfl (kn_1 _) (by decide) rfl rfl rfl ?_
        refine r_goto (tgt := 84) dX12_bestRow_178 (by decide) ?_
        exact r_wk (ih v24 v25 (v17 + 1) s26) ⟨Or.inr rfl, Or.inr rfl, Or.inr rfl, Or.inr rfl, Or.inr rfl, Or.inr rfl, Or.inr rfl, Or.inl rfl, Or.inl rfl, trivial⟩
      · refine r_if_ne (tgt := 107) (pc1 := 104) dX12_bestRow_101 (by decide) rfl (fun q28 => ?_) (fun q28 => ?_)
        · refine r_goto (tgt := 175) dX12_bestRow_104 (by decide) ?_
          exact r_wk (hk27 v15 v16 s22) ⟨Or.inr rfl, Or.inr rfl, Or.inr rfl, Or.inr rfl, Or.inr rfl, Or.inr rfl, Or.inr rfl, Or.inl rfl, Or.inl rfl, trivial⟩
        · refine r_iconst (v := 0) (pc1 := 108) dX12_bestRow_107 ki_0 rfl ?_
          refine r_istore (pc1 := 110) dX12_bestRow_108 (by decide) rfl rfl rfl ?_
          refine r_iconst (v := 0) (pc1 := 111) dX12_bestRow_110 ki_0 rfl ?_
          refine r_istore (pc1 := 113) dX12_bestRow_111 (by decide) rfl rfl rfl ?_
          refine r_jn (hyp := fun (k31 : Int32 → SS → Res) => ∀ (v29 : Int32) (s30 : SS), RC l wF RX12 cX12_bestRow 9 (some .int) 6 153 [.ref 56, .int a1, .int a2, .int v15, .int v16, .int v5, .int v17, .int v29, .null] [] s30 (k31 v29 s30)) (fun v29 s30 => ?_) (fun k31 hk31 => ?_)
          · refine r_iload_n (pc1 := 154) (i := 3) dX12_bestRow_153 rfl rfl rfl ?_
            refine r_iconst (v := (-1)) (pc1 := 155) dX12_bestRow_154 ki_m1 rfl ?_
            refine r_jn (hyp := fun (k32 : Res) => RC l wF RX12 cX12_bestRow 9 (some .int) 6 168 [.ref 56, .int a1, .int a2, .null, .null, .int v5, .int v17, .int v29, .null] [] s30 k32) (?_) (fun k32 hk32 => ?_)
            · refine r_iload (pc1 := 170) dX12_bestRow_168 rfl rfl ?_
              refine r_istore_n (pc1 := 171) (i := 3) dX12_bestRow_170 rfl (by decide) rfl rfl rfl ?_
              refine r_iload (pc1 := 173) dX12_bestRow_171 rfl rfl ?_
              refine r_istore (pc1 := 175) dX12_bestRow_173 (by decide) rfl rfl rfl ?_
              exact r_wk (hk27 v17 v29 s30) ⟨Or.inr rfl, Or.inr rfl, Or.inr rfl, Or.inr rfl, Or.inr rfl, Or.inr rfl, Or.inr rfl, Or.inl rfl, Or.inl rfl, trivial⟩
            · refine r_icmp_eq (tgt := 168) (pc1 := 158) dX12_bestRow_155 (by decide) rfl (fun q33 => ?_) (fun q33 => ?_)
              · exact r_wk (hk32) ⟨Or.inr rfl, Or.inr rfl, Or.inr rfl, Or.inl rfl, Or.inl rfl, Or.inr rfl, Or.inr rfl, Or.inr rfl, Or.inl rfl, trivial⟩
              · refine r_iload (pc1 := 160) dX12_bestRow_158 rfl rfl ?_
                refine r_iload (pc1 := 162) dX12_bestRow_160 rfl rfl ?_
                refine r_icmp_gt (tgt := 168) (pc1 := 165) dX12_bestRow_162 (by decide) rfl (fun q34 => ?_) (fun q34 => ?_)
                · exact r_wk (hk32) ⟨Or.inr rfl, Or.inr rfl, Or.inr rfl, Or.inl rfl, Or.inl rfl, Or.inr rfl, Or.inr rfl, Or.inr rfl, Or.inl rfl, trivial⟩
                · refine r_goto (tgt := 175) dX12_bestRow_165 (by decide) ?_
                  exact r_wk (hk27 v15 v16 s30) ⟨Or.inr rfl, Or.inr rfl, Or.inr rfl, Or.inr rfl, Or.inr rfl, Or.inr rfl, Or.inr rfl, Or.inl rfl, Or.inl rfl, trivial⟩
          · exact r_wk (t_lp_X12_bestRow_113 a1 a2 v5 v15 v16 v17 k31 hk31 FU 0 0 s22) ⟨Or.inr rfl, Or.inr rfl, Or.inr rfl, Or.inr rfl, Or.inr rfl, Or.inr rfl, Or.inr rfl, Or.inr rfl, Or.inr rfl, trivial⟩
set_option maxRecDepth 100000 in
set_option maxHeartbeats 4000000 in
theorem c_X12_bestRow {l : Launch} (a1 : Int32) (a2 : Int32) (s0 : SS) : Ct l wF yX12_bestRow cX12_bestRow 9 (some .int) 6 [.ref 56, .int a1, .int a2] s0 (f_X12_bestRow a1 a2 s0) := by
  refine ct_of (y := yX12_bestRow) plX12 (Nat.le_of_ble_eq_true rfl) ?_
  refine r_pad0 6 (L1 := [.ref 56, .int a1, .int a2, .null, .null, .null, .null, .null, .null]) rfl ?_
  unfold f_X12_bestRow
  refine r_iload_n (pc1 := 1) (i := 1) dX12_bestRow_0 rfl rfl rfl ?_
  refine r_iconst (v := (-1)) (pc1 := 2) dX12_bestRow_1 ki_m1 rfl ?_
  refine r_jn (hyp := fun (k1 : Res) => RC l wF RX12 cX12_bestRow 9 (some .int) 6 12 [.ref 56, .int a1, .int a2, .null, .null, .null, .null, .null, .null] [] s0 k1) (?_) (fun k1 hk1 => ?_)
  · refine r_iload_n (pc1 := 13) (i := 2) dX12_bestRow_12 rfl rfl rfl ?_
    refine r_i2l (pc1 := 14) dX12_bestRow_13 rfl ?_
    refine r_ldc2 (v := (-1)) (pc1 := 17) dX12_bestRow_14 cnX12_429 rfl ?_
    refine r_aload_n (pc1 := 18) (i := 0) dX12_bestRow_17 rfl rfl rfl ?_
    refine r_getI (pc1 := 21) w_56 gfX12_13 rfl dX12_bestRow_18 rfl ?_
    refine r_iconst (v := 1) (pc1 := 22) dX12_bestRow_21 ki_1 rfl ?_
    refine r_isub (pc1 := 23) dX12_bestRow_22 rfl ?_
    refine r_i2l (pc1 := 24) dX12_bestRow_23 rfl ?_
    refine r_callSp (pc1 := 27) lkX12_140 (c_X12_lies _ _ _ _) rfl rfl ⟨Nat.le_of_ble_eq_true rfl, Nat.le_of_ble_eq_true rfl⟩ (Nat.le_of_ble_eq_true rfl) dX12_bestRow_24 rfl (fun v2 => ?_)
    refine r_if_eq (tgt := 41) (pc1 := 30) dX12_bestRow_27 (by decide) rfl (fun q3 => ?_) (fun q3 => ?_)
    · refine r_ldcw (v := (-1000000)) (pc1 := 44) dX12_bestRow_41 cnX12_384 rfl ?_
      exact r_iret rfl rfl dX12_bestRow_44
    · refine r_aload_n (pc1 := 31) (i := 0) dX12_bestRow_30 rfl rfl rfl ?_
      refine r_getI (pc1 := 34) w_56 gfX12_144 rfl dX12_bestRow_31 rfl ?_
      refine r_aload_n (pc1 := 35) (i := 0) dX12_bestRow_34 rfl rfl rfl ?_
      refine r_getI (pc1 := 38) w_56 gfX12_13 rfl dX12_bestRow_35 rfl ?_
      refine r_icmp_ge (tgt := 45) (pc1 := 41) dX12_bestRow_38 (by decide) rfl (fun q4 => ?_) (fun q4 => ?_)
      · refine r_iconst (v := (-1)) (pc1 := 46) dX12_bestRow_45 ki_m1 rfl ?_
        refine r_istore_n (pc1 := 47) (i := 3) dX12_bestRow_46 rfl (by decide) rfl rfl rfl ?_
        refine r_iconst (v := 0) (pc1 := 48) dX12_bestRow_47 ki_0 rfl ?_
        refine r_istore (pc1 := 50) dX12_bestRow_48 (by decide) rfl rfl rfl ?_
        refine r_aload_n (pc1 := 51) (i := 0) dX12_bestRow_50 rfl rfl rfl ?_
        refine r_getI (pc1 := 54) w_56 gfX12_13 rfl dX12_bestRow_51 rfl ?_
        refine r_iconst (v := 4) (pc1 := 55) dX12_bestRow_54 ki_4 rfl ?_
        refine r_jn (hyp := fun (k6 : Int32 → Res) => ∀ (v5 : Int32), RC l wF RX12 cX12_bestRow 9 (some .int) 6 73 [.ref 56, .int a1, .int a2, .int ((-1)), .int 0, .null, .null, .null, .null] [.int v5] s0 (k6 v5)) (fun v5 => ?_) (fun k6 hk6 => ?_)
        · refine r_istore (pc1 := 75) dX12_bestRow_73 (by decide) rfl rfl rfl ?_
          refine r_aload_n (pc1 := 76) (i := 0) dX12_bestRow_75 rfl rfl rfl ?_
          refine r_getI (pc1 := 79) w_56 gfX12_13 rfl dX12_bestRow_76 rfl ?_
          refine r_callSp (pc1 := 82) lkX12_326 (c_X12_firstOf _ _) rfl rfl ⟨Nat.le_of_ble_eq_true rfl, Nat.le_of_ble_eq_true rfl⟩ (Nat.le_of_ble_eq_true rfl) dX12_bestRow_79 rfl (fun v7 => ?_)
          refine r_istore (pc1 := 84) dX12_bestRow_82 (by decide) rfl rfl rfl ?_
          refine r_jn (hyp := fun (k11 : Int32 → Int32 → SS → Res) => ∀ (v8 : Int32) (v9 : Int32) (s10 : SS), RC l wF RX12 cX12_bestRow 9 (some .int) 6 181 [.ref 56, .null, .int a2, .int v8, .int v9, .null, .null, .null, .null] [] s10 (k11 v8 v9 s10)) (fun v8 v9 s10 => ?_) (fun k11 hk11 => ?_)
          · refine r_aload_n (pc1 := 182) (i := 0) dX12_bestRow_181 rfl rfl rfl ?_
            refine r_iload_n (pc1 := 183) (i := 3) dX12_bestRow_182 rfl rfl rfl ?_
            refine r_callVv (pc1 := 186) (rv_of w_56 cl_12) lkX12_339 (c_X12_laysRow _ _) rfl rfl ⟨Nat.le_of_ble_eq_true rfl, Nat.le_of_ble_eq_true rfl⟩ (Nat.le_of_ble_eq_true rfl) dX12_bestRow_183 rfl (fun v12 s13 => ?_)
            refine r_iload_n (pc1 := 187) (i := 2) dX12_bestRow_186 rfl rfl rfl ?_
            refine r_iconst (v := (-1)) (pc1 := 188) dX12_bestRow_187 ki_m1 rfl ?_
            refine r_icmp_ne (tgt := 196) (pc1 := 191) dX12_bestRow_188 (by decide) rfl (fun q14 => ?_) (fun q14 => ?_)
            · refine r_iload (pc1 := 193) dX12_bestRow_191 rfl rfl ?_
              refine r_goto (tgt := 202) dX12_bestRow_193 (by decide) ?_
              exact r_iret rfl rfl dX12_bestRow_202
            · refine r_aload_n (pc1 := 197) (i := 0) dX12_bestRow_196 rfl rfl rfl ?_
              refine r_getR (pc1 := 200) w_56 gfX12_91 rfl dX12_bestRow_197 rfl ?_
              refine r_iload_n (pc1 := 201) (i := 2) dX12_bestRow_200 rfl rfl rfl ?_
              refine r_iald (pc1 := 202) w_80 dX12_bestRow_201 rfl ?_
              exact r_iret rfl rfl dX12_bestRow_202
          · exact r_wk (t_lp_X12_bestRow_84 a1 a2 v5 k11 hk11 FU ((-1)) 0 v7 s0) ⟨Or.inr rfl, Or.inr rfl, Or.inr rfl, Or.inr rfl, Or.inr rfl, Or.inr rfl, Or.inr rfl, Or.inl rfl, Or.inl rfl, trivial⟩
        · refine r_icmp_ne (tgt := 64) (pc1 := 58) dX12_bestRow_55 (by decide) rfl (fun q49 => ?_) (fun q49 => ?_)
          · refine r_sipush (v := 4681) (pc1 := 61) dX12_bestRow_58 ks_4681 rfl ?_
            refine r_goto (tgt := 73) dX12_bestRow_61 (by decide) ?_
            exact r_wk (hk6 4681) ⟨Or.inr rfl, Or.inr rfl, Or.inr rfl, Or.inr rfl, Or.inr rfl, Or.inl rfl, Or.inl rfl, Or.inl rfl, Or.inl rfl, trivial⟩
          · refine r_aload_n (pc1 := 65) (i := 0) dX12_bestRow_64 rfl rfl rfl ?_
            refine r_getI (pc1 := 68) w_56 gfX12_13 rfl dX12_bestRow_65 rfl ?_
            refine r_iconst (v := 1) (pc1 := 69) dX12_bestRow_68 ki_1 rfl ?_
            refine r_iadd (pc1 := 70) dX12_bestRow_69 rfl ?_
            refine r_callSp (pc1 := 73) lkX12_326 (c_X12_firstOf _ _) rfl rfl ⟨Nat.le_of_ble_eq_true rfl, Nat.le_of_ble_eq_true rfl⟩ (Nat.le_of_ble_eq_true rfl) dX12_bestRow_70 rfl (fun v50 => ?_)
            exact r_wk (hk6 v50) ⟨Or.inr rfl, Or.inr rfl, Or.inr rfl, Or.inr rfl, Or.inr rfl, Or.inl rfl, Or.inl rfl, Or.inl rfl, Or.inl rfl, trivial⟩
      · refine r_ldcw (v := (-1000000)) (pc1 := 44) dX12_bestRow_41 cnX12_384 rfl ?_
        exact r_iret rfl rfl dX12_bestRow_44
  · refine r_icmp_eq (tgt := 12) (pc1 := 5) dX12_bestRow_2 (by decide) rfl (fun q51 => ?_) (fun q51 => ?_)
    · exact r_wk (hk1) ⟨Or.inr rfl, Or.inr rfl, Or.inr rfl, Or.inl rfl, Or.inl rfl, Or.inl rfl, Or.inl rfl, Or.inl rfl, Or.inl rfl, trivial⟩
    · refine r_iload_n (pc1 := 6) (i := 1) dX12_bestRow_5 rfl rfl rfl ?_
      refine r_callSp (pc1 := 9) lkX12_381 (c_X12_isSort _ _) rfl rfl ⟨Nat.le_of_ble_eq_true rfl, Nat.le_of_ble_eq_true rfl⟩ (Nat.le_of_ble_eq_true rfl) dX12_bestRow_6 rfl (fun v52 => ?_)
      refine r_if_eq (tgt := 41) (pc1 := 12) dX12_bestRow_9 (by decide) rfl (fun q53 => ?_) (fun q53 => ?_)
      · refine r_ldcw (v := (-1000000)) (pc1 := 44) dX12_bestRow_41 cnX12_384 rfl ?_
        exact r_iret rfl rfl dX12_bestRow_44
      · exact r_wk (hk1) ⟨Or.inr rfl, Or.inr rfl, Or.inr rfl, Or.inl rfl, Or.inl rfl, Or.inl rfl, Or.inl rfl, Or.inl rfl, Or.inl rfl, trivial⟩
/-! f_X12_isQuiet -/
noncomputable def lp_X12_isQuiet_2 (a1 : Int32) : Nat → Int32 → SS → Res
  | 0, _, _ => none
  | n3 + 1, v1, s2 => if (s2 56 5 : Int32) ≤ (v1 : Int32) then some (1, s2) else gd (inb v1 4) (bd (f_X12_mayOf a1 (s2 62 (Int32.toNatClampNeg v1)) s2) (fun (v5 : Int32) (s6 : SS) => if (v5 : Int32) = 0 then lp_X12_isQuiet_2 a1 n3 (v1 + 1) s6 else some (0, s6)))
noncomputable def f_X12_isQuiet (a1 : Int32) (s0 : SS) : Res := lp_X12_isQuiet_2 a1 FU 0 s0
set_option maxRecDepth 100000 in
set_option maxHeartbeats 4000000 in
theorem t_lp_X12_isQuiet_2 {l : Launch} (a1 : Int32)  : ∀ (n3 : Nat) (v1 : Int32) (s2 : SS), RC l wF RX12 cX12_isQuiet 3 (some .boolean) 6 2 [.ref 56, .int a1, .int v1] [] s2 (lp_X12_isQuiet_2 a1 n3 v1 s2) := by
  intro n3
  induction n3 with
  | zero =>
    intro v1 s2
    rw [lp_X12_isQuiet_2]
    exact r_none
  | succ n3 ih =>
    intro v1 s2
    rw [lp_X12_isQuiet_2]
    refine r_iload_n (pc1 := 3) (i := 2) dX12_isQuiet_2 rfl rfl rfl ?_
    refine r_aload_n (pc1 := 4) (i := 0) dX12_isQuiet_3 rfl rfl rfl ?_
    refine r_getI (pc1 := 7) w_56 gfX12_17 rfl dX12_isQuiet_4 rfl ?_
    refine r_icmp_ge (tgt := 32) (pc1 := 10) dX12_isQuiet_7 (by decide) rfl (fun q4 => ?_) (fun q4 => ?_)
    · refine r_iconst (v := 1) (pc1 := 33) dX12_isQuiet_32 ki_1 rfl ?_
      exact r_iret rfl rfl dX12_isQuiet_33
    · refine r_aload_n (pc1 := 11) (i := 0) dX12_isQuiet_10 rfl rfl rfl ?_
      refine r_iload_n (pc1 := 12) (i := 1) dX12_isQuiet_11 rfl rfl rfl ?_
      refine r_aload_n (pc1 := 13) (i := 0) dX12_isQuiet_12 rfl rfl rfl ?_
      refine r_getR (pc1 := 16) w_56 gfX12_36 rfl dX12_isQuiet_13 rfl ?_
      refine r_iload_n (pc1 := 17) (i := 2) dX12_isQuiet_16 rfl rfl rfl ?_
      refine r_iald (pc1 := 18) w_62 dX12_isQuiet_17 rfl ?_
      refine r_callVi (pc1 := 21) (rv_of w_56 cl_12) lkX12_359 (c_X12_mayOf _ _ _) rfl rfl ⟨Nat.le_of_ble_eq_true rfl, Nat.le_of_ble_eq_true rfl⟩ (Nat.le_of_ble_eq_true rfl) dX12_isQuiet_18 rfl (fun v5 s6 => ?_)
      refine r_if_eq (tgt := 26) (pc1 := 24) dX12_isQuiet_21 (by decide) rfl (fun q7 => ?_) (fun q7 => ?_)
      · refine r_iinc (pc1 := 29) dX12_isQuiet_26 rfl (kn_1 _) (by decide) rfl rfl rfl ?_
        refine r_goto (tgt := 2) dX12_isQuiet_29 (by decide) ?_
        exact r_wk (ih (v1 + 1) s6) ⟨Or.inr rfl, Or.inr rfl, Or.inr rfl, trivial⟩
      · refine r_iconst (v := 0) (pc1 := 25) dX12_isQuiet_24 ki_0 rfl ?_
        exact r_iret rfl rfl dX12_isQuiet_25
set_option maxRecDepth 100000 in
set_option maxHeartbeats 4000000 in
theorem c_X12_isQuiet {l : Launch} (a1 : Int32) (s0 : SS) : Ct l wF yX12_isQuiet cX12_isQuiet 3 (some .boolean) 6 [.ref 56, .int a1] s0 (f_X12_isQuiet a1 s0) := by
  refine ct_of (y := yX12_isQuiet) plX12 (Nat.le_of_ble_eq_true rfl) ?_
  refine r_pad0 1 (L1 := [.ref 56, .int a1, .null]) rfl ?_
  unfold f_X12_isQuiet
  refine r_iconst (v := 0) (pc1 := 1) dX12_isQuiet_0 ki_0 rfl ?_
  refine r_istore_n (pc1 := 2) (i := 2) dX12_isQuiet_1 rfl (by decide) rfl rfl rfl ?_
  exact r_wk (t_lp_X12_isQuiet_2 a1 FU 0 s0) ⟨Or.inr rfl, Or.inr rfl, Or.inr rfl, trivial⟩
/-! f_X12_quiet -/
noncomputable def f_X12_quiet  (s0 : SS) : Res := bd (f_X12_isQuiet (s0 56 4) s0) (fun (v1 : Int32) (s2 : SS) => gd ((v1 : Int32) = 0 ∨ (v1 : Int32) = 1) (some (v1, s2)))
set_option maxRecDepth 100000 in
set_option maxHeartbeats 4000000 in
theorem c_X12_quiet {l : Launch}  (s0 : SS) : Ct l wF yX12_quiet cX12_quiet 1 (some .boolean) 7 [.ref 56] s0 (f_X12_quiet s0) := by
  refine ct_of (y := yX12_quiet) plX12 (Nat.le_of_ble_eq_true rfl) ?_
  refine r_pad0 0 (L1 := [.ref 56]) rfl ?_
  unfold f_X12_quiet
  refine r_aload_n (pc1 := 1) (i := 0) dX12_quiet_0 rfl rfl rfl ?_
  refine r_aload_n (pc1 := 2) (i := 0) dX12_quiet_1 rfl rfl rfl ?_
  refine r_getI (pc1 := 5) w_56 gfX12_158 rfl dX12_quiet_2 rfl ?_
  refine r_callVi (pc1 := 8) (rv_of w_56 cl_12) lkX12_443 (c_X12_isQuiet _ _) rfl rfl ⟨Nat.le_of_ble_eq_true rfl, Nat.le_of_ble_eq_true rfl⟩ (Nat.le_of_ble_eq_true rfl) dX12_quiet_5 rfl (fun v1 s2 => ?_)
  refine r_gd (fun q3 => ?_)
  exact r_iret rfl (zb_ok q3).1 dX12_quiet_8
/-! f_X12_isRow -/
noncomputable def lp_X12_isRow_7 (s2 : SS) : Nat → Int32 → Res
  | 0, _ => none
  | n4 + 1, v3 => if (s2 56 48 : Int32) ≤ (v3 : Int32) then some (1, s2) else gd (inb v3 4) (if (s2 80 (Int32.toNatClampNeg v3) : Int32) < (s2 56 2 : Int32) then lp_X12_isRow_7 s2 n4 (v3 + 1) else some (0, s2))
noncomputable def f_X12_isRow (a1 : Int32) (s0 : SS) : Res := bd (f_X12_laysRow a1 s0) (fun (v1 : Int32) (s2 : SS) => lp_X12_isRow_7 s2 FU 0)
set_option maxRecDepth 100000 in
set_option maxHeartbeats 4000000 in
theorem t_lp_X12_isRow_7 {l : Launch} (s2 : SS)  : ∀ (n4 : Nat) (v3 : Int32), RC l wF RX12 cX12_isRow 3 (some .boolean) 2 7 [.ref 56, .null, .int v3] [] s2 (lp_X12_isRow_7 s2 n4 v3) := by
  intro n4
  induction n4 with
  | zero =>
    intro v3
    rw [lp_X12_isRow_7]
    exact r_none
  | succ n4 ih =>
    intro v3
    rw [lp_X12_isRow_7]
    refine r_iload_n (pc1 := 8) (i := 2) dX12_isRow_7 rfl rfl rfl ?_
    refine r_aload_n (pc1 := 9) (i := 0) dX12_isRow_8 rfl rfl rfl ?_
    refine r_getI (pc1 := 12) w_56 gfX12_297 rfl dX12_isRow_9 rfl ?_
    refine r_icmp_ge (tgt := 36) (pc1 := 15) dX12_isRow_12 (by decide) rfl (fun q5 => ?_) (fun q5 => ?_)
    · refine r_iconst (v := 1) (pc1 := 37) dX12_isRow_36 ki_1 rfl ?_
      exact r_iret rfl rfl dX12_isRow_37
    · refine r_aload_n (pc1 := 16) (i := 0) dX12_isRow_15 rfl rfl rfl ?_
      refine r_getR (pc1 := 19) w_56 gfX12_91 rfl dX12_isRow_16 rfl ?_
      refine r_iload_n (pc1 := 20) (i := 2) dX12_isRow_19 rfl rfl rfl ?_
      refine r_iald (pc1 := 21) w_80 dX12_isRow_20 rfl ?_
      refine r_aload_n (pc1 := 22) (i := 0) dX12_isRow_21 rfl rfl rfl ?_
      refine r_getI (pc1 := 25) w_56 gfX12_144 rfl dX12_isRow_22 rfl ?_
      refine r_icmp_lt (tgt := 30) (pc1 := 28) dX12_isRow_25 (by decide) rfl (fun q6 => ?_) (fun q6 => ?_)
      · refine r_iinc (pc1 := 33) dX12_isRow_30 rfl (kn_1 _) (by decide) rfl rfl rfl ?_
        refine r_goto (tgt := 7) dX12_isRow_33 (by decide) ?_
        exact r_wk (ih (v3 + 1)) ⟨Or.inr rfl, Or.inl rfl, Or.inr rfl, trivial⟩
      · refine r_iconst (v := 0) (pc1 := 29) dX12_isRow_28 ki_0 rfl ?_
        exact r_iret rfl rfl dX12_isRow_29
set_option maxRecDepth 100000 in
set_option maxHeartbeats 4000000 in
theorem c_X12_isRow {l : Launch} (a1 : Int32) (s0 : SS) : Ct l wF yX12_isRow cX12_isRow 3 (some .boolean) 2 [.ref 56, .int a1] s0 (f_X12_isRow a1 s0) := by
  refine ct_of (y := yX12_isRow) plX12 (Nat.le_of_ble_eq_true rfl) ?_
  refine r_pad0 1 (L1 := [.ref 56, .int a1, .null]) rfl ?_
  unfold f_X12_isRow
  refine r_aload_n (pc1 := 1) (i := 0) dX12_isRow_0 rfl rfl rfl ?_
  refine r_iload_n (pc1 := 2) (i := 1) dX12_isRow_1 rfl rfl rfl ?_
  refine r_callVv (pc1 := 5) (rv_of w_56 cl_12) lkX12_339 (c_X12_laysRow _ _) rfl rfl ⟨Nat.le_of_ble_eq_true rfl, Nat.le_of_ble_eq_true rfl⟩ (Nat.le_of_ble_eq_true rfl) dX12_isRow_2 rfl (fun v1 s2 => ?_)
  refine r_iconst (v := 0) (pc1 := 6) dX12_isRow_5 ki_0 rfl ?_
  refine r_istore_n (pc1 := 7) (i := 2) dX12_isRow_6 rfl (by decide) rfl rfl rfl ?_
  exact r_wk (t_lp_X12_isRow_7 s2 FU 0) ⟨Or.inr rfl, Or.inl rfl, Or.inr rfl, trivial⟩
/-! f_X12_quietBy -/
noncomputable def f_X12_quietBy (a1 : Int32) (a2 : Int32) (a3 : Int32) (s0 : SS) : Option Int32 := bdp (f_X12_behind a1 a3 s0) (fun (v1 : Int32) => gd (¬ ((s0 56 5) : Int32) = 0) (gd (inb ((4 * v1) + ((a2 + 1) - (a2 + 1) / (s0 56 5) * (s0 56 5))) 18724) (some (s0 93 (Int32.toNatClampNeg ((4 * v1) + ((a2 + 1) - (a2 + 1) / (s0 56 5) * (s0 56 5))))))))
set_option maxRecDepth 100000 in
set_option maxHeartbeats 4000000 in
theorem c_X12_quietBy {l : Launch} (a1 : Int32) (a2 : Int32) (a3 : Int32) (s0 : SS) : Ct l wF yX12_quietBy cX12_quietBy 4 (some .int) 2 [.ref 56, .int a1, .int a2, .int a3] s0 (pu (f_X12_quietBy a1 a2 a3 s0) s0) := by
  refine ct_of (y := yX12_quietBy) plX12 (Nat.le_of_ble_eq_true rfl) ?_
  refine r_pad0 0 (L1 := [.ref 56, .int a1, .int a2, .int a3]) rfl ?_
  unfold f_X12_quietBy
  refine r_aload_n (pc1 := 1) (i := 0) dX12_quietBy_0 rfl rfl rfl ?_
  refine r_getR (pc1 := 4) w_56 gfX12_132 rfl dX12_quietBy_1 rfl ?_
  refine r_iconst (v := 4) (pc1 := 5) dX12_quietBy_4 ki_4 rfl ?_
  refine r_aload_n (pc1 := 6) (i := 0) dX12_quietBy_5 rfl rfl rfl ?_
  refine r_iload_n (pc1 := 7) (i := 1) dX12_quietBy_6 rfl rfl rfl ?_
  refine r_iload_n (pc1 := 8) (i := 3) dX12_quietBy_7 rfl rfl rfl ?_
  refine p_callVp (pc1 := 11) (rv_of w_56 cl_12) lkX12_362 (c_X12_behind _ _ _) rfl rfl ⟨Nat.le_of_ble_eq_true rfl, Nat.le_of_ble_eq_true rfl⟩ (Nat.le_of_ble_eq_true rfl) dX12_quietBy_8 rfl (fun v1 => ?_)
  refine r_imul (pc1 := 12) dX12_quietBy_11 rfl ?_
  refine r_iload_n (pc1 := 13) (i := 2) dX12_quietBy_12 rfl rfl rfl ?_
  refine r_iconst (v := 1) (pc1 := 14) dX12_quietBy_13 ki_1 rfl ?_
  refine r_iadd (pc1 := 15) dX12_quietBy_14 rfl ?_
  refine r_aload_n (pc1 := 16) (i := 0) dX12_quietBy_15 rfl rfl rfl ?_
  refine r_getI (pc1 := 19) w_56 gfX12_17 rfl dX12_quietBy_16 rfl ?_
  refine p_irem (pc1 := 20) dX12_quietBy_19 rfl ?_
  refine r_iadd (pc1 := 21) dX12_quietBy_20 rfl ?_
  refine p_iald (pc1 := 22) w_93 dX12_quietBy_21 rfl ?_
  exact p_iret rfl rfl dX12_quietBy_22
/-! f_X12_isQuietIn -/
noncomputable def lp_X12_isQuietIn_17 (a1 : Int32) (a2 : Int32) (a3 : Int32) : Nat → Int32 → SS → Res
  | 0, _, _ => none
  | n5 + 1, v3, s4 => if (s4 56 2 : Int32) ≤ (v3 : Int32) then some (0, s4) else gd (inb a2 4) (bd (f_X12_mayOf a1 (s4 62 (Int32.toNatClampNeg a2)) s4) (fun (v7 : Int32) (s8 : SS) => bdp (f_X12_has v7 v3 s8) (fun (v9 : Int32) => jn (lp_X12_isQuietIn_17 a1 a2 a3 n5 (v3 + 1) s8) (fun (k10 : Res) => if (v9 : Int32) = 0 then k10 else bdp (f_X12_quietBy a1 a2 v3 s8) (fun (v12 : Int32) => if (v12 : Int32) = (a3 : Int32) then some (1, s8) else k10)))))
noncomputable def f_X12_isQuietIn (a1 : Int32) (a2 : Int32) (a3 : Int32) (s0 : SS) : Res := bdp (f_X12_quietBy a1 a2 8 s0) (fun (v1 : Int32) => if (v1 : Int32) = (a3 : Int32) then some (1, s0) else lp_X12_isQuietIn_17 a1 a2 a3 FU 0 s0)
set_option maxRecDepth 100000 in
set_option maxHeartbeats 4000000 in
theorem t_lp_X12_isQuietIn_17 {l : Launch} (a1 : Int32) (a2 : Int32) (a3 : Int32)  : ∀ (n5 : Nat) (v3 : Int32) (s4 : SS), RC l wF RX12 cX12_isQuietIn 5 (some .boolean) 6 17 [.ref 56, .int a1, .int a2, .int a3, .int v3] [] s4 (lp_X12_isQuietIn_17 a1 a2 a3 n5 v3 s4) := by
  intro n5
  induction n5 with
  | zero =>
    intro v3 s4
    rw [lp_X12_isQuietIn_17]
    exact r_none
  | succ n5 ih =>
    intro v3 s4
    rw [lp_X12_isQuietIn_17]
    refine r_iload (pc1 := 19) dX12_isQuietIn_17 rfl rfl ?_
    refine r_aload_n (pc1 := 20) (i := 0) dX12_isQuietIn_19 rfl rfl rfl ?_
    refine r_getI (pc1 := 23) w_56 gfX12_144 rfl dX12_isQuietIn_20 rfl ?_
    refine r_icmp_ge (tgt := 65) (pc1 := 26) dX12_isQuietIn_23 (by decide) rfl (fun q6 => ?_) (fun q6 => ?_)
    · refine r_iconst (v := 0) (pc1 := 66) dX12_isQuietIn_65 ki_0 rfl ?_
      exact r_iret rfl rfl dX12_isQuietIn_66
    · refine r_aload_n (pc1 := 27) (i := 0) dX12_isQuietIn_26 rfl rfl rfl ?_
      refine r_iload_n (pc1 := 28) (i := 1) dX12_isQuietIn_27 rfl rfl rfl ?_
      refine r_aload_n (pc1 := 29) (i := 0) dX12_isQuietIn_28 rfl rfl rfl ?_
      refine r_getR (pc1 := 32) w_56 gfX12_36 rfl dX12_isQuietIn_29 rfl ?_
      refine r_iload_n (pc1 := 33) (i := 2) dX12_isQuietIn_32 rfl rfl rfl ?_
      refine r_iald (pc1 := 34) w_62 dX12_isQuietIn_33 rfl ?_
      refine r_callVi (pc1 := 37) (rv_of w_56 cl_12) lkX12_359 (c_X12_mayOf _ _ _) rfl rfl ⟨Nat.le_of_ble_eq_true rfl, Nat.le_of_ble_eq_true rfl⟩ (Nat.le_of_ble_eq_true rfl) dX12_isQuietIn_34 rfl (fun v7 s8 => ?_)
      refine r_iload (pc1 := 39) dX12_isQuietIn_37 rfl rfl ?_
      refine r_callSp (pc1 := 42) lkX12_335 (c_X12_has _ _ _) rfl rfl ⟨Nat.le_of_ble_eq_true rfl, Nat.le_of_ble_eq_true rfl⟩ (Nat.le_of_ble_eq_true rfl) dX12_isQuietIn_39 rfl (fun v9 => ?_)
      refine r_jn (hyp := fun (k10 : Res) => RC l wF RX12 cX12_isQuietIn 5 (some .boolean) 6 59 [.ref 56, .int a1, .int a2, .int a3, .int v3] [] s8 k10) (?_) (fun k10 hk10 => ?_)
      · refine r_iinc (pc1 := 62) dX12_isQuietIn_59 rfl (kn_1 _) (by decide) rfl rfl rfl ?_
        refine r_goto (tgt := 17) dX12_isQuietIn_62 (by decide) ?_
        exact r_wk (ih (v3 + 1) s8) ⟨Or.inr rfl, Or.inr rfl, Or.inr rfl, Or.inr rfl, Or.inr rfl, trivial⟩
      · refine r_if_eq (tgt := 59) (pc1 := 45) dX12_isQuietIn_42 (by decide) rfl (fun q11 => ?_) (fun q11 => ?_)
        · exact r_wk (hk10) ⟨Or.inr rfl, Or.inr rfl, Or.inr rfl, Or.inr rfl, Or.inr rfl, trivial⟩
        · refine r_aload_n (pc1 := 46) (i := 0) dX12_isQuietIn_45 rfl rfl rfl ?_
          refine r_iload_n (pc1 := 47) (i := 1) dX12_isQuietIn_46 rfl rfl rfl ?_
          refine r_iload_n (pc1 := 48) (i := 2) dX12_isQuietIn_47 rfl rfl rfl ?_
          refine r_iload (pc1 := 50) dX12_isQuietIn_48 rfl rfl ?_
          refine r_callVp (pc1 := 53) (rv_of w_56 cl_12) lkX12_446 (c_X12_quietBy _ _ _ _) rfl rfl ⟨Nat.le_of_ble_eq_true rfl, Nat.le_of_ble_eq_true rfl⟩ (Nat.le_of_ble_eq_true rfl) dX12_isQuietIn_50 rfl (fun v12 => ?_)
          refine r_iload_n (pc1 := 54) (i := 3) dX12_isQuietIn_53 rfl rfl rfl ?_
          refine r_icmp_ne (tgt := 59) (pc1 := 57) dX12_isQuietIn_54 (by decide) rfl (fun q13 => ?_) (fun q13 => ?_)
          · refine r_iconst (v := 1) (pc1 := 58) dX12_isQuietIn_57 ki_1 rfl ?_
            exact r_iret rfl rfl dX12_isQuietIn_58
          · exact r_wk (hk10) ⟨Or.inr rfl, Or.inr rfl, Or.inr rfl, Or.inr rfl, Or.inr rfl, trivial⟩
set_option maxRecDepth 100000 in
set_option maxHeartbeats 4000000 in
theorem c_X12_isQuietIn {l : Launch} (a1 : Int32) (a2 : Int32) (a3 : Int32) (s0 : SS) : Ct l wF yX12_isQuietIn cX12_isQuietIn 5 (some .boolean) 6 [.ref 56, .int a1, .int a2, .int a3] s0 (f_X12_isQuietIn a1 a2 a3 s0) := by
  refine ct_of (y := yX12_isQuietIn) plX12 (Nat.le_of_ble_eq_true rfl) ?_
  refine r_pad0 1 (L1 := [.ref 56, .int a1, .int a2, .int a3, .null]) rfl ?_
  unfold f_X12_isQuietIn
  refine r_aload_n (pc1 := 1) (i := 0) dX12_isQuietIn_0 rfl rfl rfl ?_
  refine r_iload_n (pc1 := 2) (i := 1) dX12_isQuietIn_1 rfl rfl rfl ?_
  refine r_iload_n (pc1 := 3) (i := 2) dX12_isQuietIn_2 rfl rfl rfl ?_
  refine r_bipush (v := 8) (pc1 := 5) dX12_isQuietIn_3 kb_8 rfl ?_
  refine r_callVp (pc1 := 8) (rv_of w_56 cl_12) lkX12_446 (c_X12_quietBy _ _ _ _) rfl rfl ⟨Nat.le_of_ble_eq_true rfl, Nat.le_of_ble_eq_true rfl⟩ (Nat.le_of_ble_eq_true rfl) dX12_isQuietIn_5 rfl (fun v1 => ?_)
  refine r_iload_n (pc1 := 9) (i := 3) dX12_isQuietIn_8 rfl rfl rfl ?_
  refine r_icmp_ne (tgt := 14) (pc1 := 12) dX12_isQuietIn_9 (by decide) rfl (fun q2 => ?_) (fun q2 => ?_)
  · refine r_iconst (v := 1) (pc1 := 13) dX12_isQuietIn_12 ki_1 rfl ?_
    exact r_iret rfl rfl dX12_isQuietIn_13
  · refine r_iconst (v := 0) (pc1 := 15) dX12_isQuietIn_14 ki_0 rfl ?_
    refine r_istore (pc1 := 17) dX12_isQuietIn_15 (by decide) rfl rfl rfl ?_
    exact r_wk (t_lp_X12_isQuietIn_17 a1 a2 a3 FU 0 s0) ⟨Or.inr rfl, Or.inr rfl, Or.inr rfl, Or.inr rfl, Or.inr rfl, trivial⟩
/-! f_X12_laysQuiet -/
noncomputable def lp_X12_laysQuiet_115 (v1 : Int32) (v6 : Int32) (v14 : Int32) (k20 : Int32 → SS → Res) : Nat → Int32 → Int32 → SS → Res
  | 0, _, _, _ => none
  | n24 + 1, v21, v22, s23 => if (s23 56 5 : Int32) ≤ (v22 : Int32) then k20 v21 s23 else gd (inb ((4 * v14) + v22) 18724) (jn (fun (v26 : Int32) (s27 : SS) => lp_X12_laysQuiet_115 v1 v6 v14 k20 n24 v26 (v22 + 1) s27) (fun (k28 : Int32 → SS → Res) => if (s23 93 (Int32.toNatClampNeg ((4 * v14) + v22)) : Int32) = (1000000000 : Int32) then bd (f_X12_isRow v14 s23) (fun (v30 : Int32) (s31 : SS) => if (v30 : Int32) = 0 then k28 v21 s31 else bd (f_X12_isQuietIn v14 v22 v6 s31) (fun (v33 : Int32) (s34 : SS) => if (v33 : Int32) = 0 then k28 v21 s34 else gd (inb ((4 * v14) + v22) 18724) (lts (up s34 93 (Int32.toNatClampNeg ((4 * v14) + v22)) (v6 + 1)) (fun (s36 : SS) => k28 1 s36)))) else k28 v21 s23))
noncomputable def lp_X12_laysQuiet_106 (v1 : Int32) (v6 : Int32) (k12 : Int32 → SS → Res) : Nat → Int32 → Int32 → SS → Res
  | 0, _, _, _ => none
  | n16 + 1, v13, v14, s15 => if (v1 : Int32) ≤ (v14 : Int32) then k12 v13 s15 else jn (fun (v18 : Int32) (s19 : SS) => lp_X12_laysQuiet_106 v1 v6 k12 n16 v18 (v14 + 1) s19) (fun (k20 : Int32 → SS → Res) => lp_X12_laysQuiet_115 v1 v6 v14 k20 FU v13 0 s15)
noncomputable def lp_X12_laysQuiet_97 (v1 : Int32) : Nat → Int32 → Int32 → SS → Res
  | 0, _, _, _ => none
  | n8 + 1, v5, v6, s7 => if (v5 : Int32) = 0 then some (0, s7) else jn (fun (v10 : Int32) (s11 : SS) => lp_X12_laysQuiet_97 v1 n8 v10 (v6 + 1) s11) (fun (k12 : Int32 → SS → Res) => lp_X12_laysQuiet_106 v1 v6 k12 FU 0 0 s7)
noncomputable def lp_X12_laysQuiet_35 (v1 : Int32) (v37 : Int32) (k42 : SS → Res) : Nat → Int32 → SS → Res
  | 0, _, _ => none
  | n45 + 1, v43, s44 => if (s44 56 5 : Int32) ≤ (v43 : Int32) then k42 s44 else jn (fun (v47 : Int32) (s48 : SS) => gd (inb ((4 * v37) + v43) 18724) (lts (up s48 93 (Int32.toNatClampNeg ((4 * v37) + v43)) v47) (fun (s50 : SS) => lp_X12_laysQuiet_35 v1 v37 k42 n45 (v43 + 1) s50))) (fun (k49 : Int32 → SS → Res) => jn (fun (s51 : SS) => k49 1000000000 s51) (fun (k52 : SS → Res) => if (v1 : Int32) ≤ (v37 : Int32) then k52 s44 else bd (f_X12_isRow v37 s44) (fun (v54 : Int32) (s55 : SS) => if (v54 : Int32) = 0 then k52 s55 else bd (f_X12_isQuiet v37 s55) (fun (v57 : Int32) (s58 : SS) => if (v57 : Int32) = 0 then k52 s58 else k49 0 s58))))
noncomputable def lp_X12_laysQuiet_26 (v1 : Int32) (k4 : SS → Res) : Nat → Int32 → SS → Res
  | 0, _, _ => none
  | n39 + 1, v37, s38 => if (4681 : Int32) ≤ (v37 : Int32) then k4 s38 else jn (fun (s41 : SS) => lp_X12_laysQuiet_26 v1 k4 n39 (v37 + 1) s41) (fun (k42 : SS → Res) => lp_X12_laysQuiet_35 v1 v37 k42 FU 0 s38)
noncomputable def f_X12_laysQuiet  (s0 : SS) : Res := jn (fun (v1 : Int32) => jn (fun (s3 : SS) => lp_X12_laysQuiet_97 v1 FU 1 0 s3) (fun (k4 : SS → Res) => lp_X12_laysQuiet_26 v1 k4 FU 0 s0)) (fun (k2 : Int32 → Res) => if (s0 56 3 : Int32) = (4 : Int32) then k2 4681 else bdp (f_X12_firstOf ((s0 56 3) + 1) s0) (fun (v61 : Int32) => k2 v61))
set_option maxRecDepth 100000 in
set_option maxHeartbeats 4000000 in
theorem t_lp_X12_laysQuiet_115 {l : Launch} (v1 : Int32) (v6 : Int32) (v14 : Int32) (k20 : Int32 → SS → Res) (hk20 : ∀ (v18 : Int32) (s19 : SS), RC l wF RX12 cX12_laysQuiet 6 none 7 189 [.ref 56, .int v1, .int v18, .int v6, .int v14, .null] [] s19 (k20 v18 s19)) : ∀ (n24 : Nat) (v21 : Int32) (v22 : Int32) (s23 : SS), RC l wF RX12 cX12_laysQuiet 6 none 7 115 [.ref 56, .int v1, .int v21, .int v6, .int v14, .int v22] [] s23 (lp_X12_laysQuiet_115 v1 v6 v14 k20 n24 v21 v22 s23) := by
  intro n24
  induction n24 with
  | zero =>
    intro v21 v22 s23
    rw [lp_X12_laysQuiet_115]
    exact r_none
  | succ n24 ih =>
    intro v21 v22 s23
    rw [lp_X12_laysQuiet_115]
    refine r_iload (pc1 := 117) dX12_laysQuiet_115 rfl rfl ?_
    refine r_aload_n (pc1 := 118) (i := 0) dX12_laysQuiet_117 rfl rfl rfl ?_
    refine r_getI (pc1 := 121) w_56 gfX12_17 rfl dX12_laysQuiet_118 rfl ?_
    refine r_icmp_ge (tgt := 189) (pc1 := 124) dX12_laysQuiet_121 (by decide) rfl (fun q25 => ?_) (fun q25 => ?_)
    · exact r_wk (hk20 v21 s23) ⟨Or.inr rfl, Or.inr rfl, Or.inr rfl, Or.inr rfl, Or.inr rfl, Or.inl rfl, trivial⟩
    · refine r_aload_n (pc1 := 125) (i := 0) dX12_laysQuiet_124 rfl rfl rfl ?_
      refine r_getR (pc1 := 128) w_56 gfX12_132 rfl dX12_laysQuiet_125 rfl ?_
      refine r_iconst (v := 4) (pc1 := 129) dX12_laysQuiet_128 ki_4 rfl ?_
      refine r_iload (pc1 := 131) dX12_laysQuiet_129 rfl rfl ?_
      refine r_imul (pc1 := 132) dX12_laysQuiet_131 rfl ?_
      refine r_iload (pc1 := 134) dX12_laysQuiet_132 rfl rfl ?_
      refine r_iadd (pc1 := 135) dX12_laysQuiet_134 rfl ?_
      refine r_iald (pc1 := 136) w_93 dX12_laysQuiet_135 rfl ?_
      refine r_ldcw (v := 1000000000) (pc1 := 139) dX12_laysQuiet_136 cnX12_452 rfl ?_
      refine r_jn (hyp := fun (k28 : Int32 → SS → Res) => ∀ (v26 : Int32) (s27 : SS), RC l wF RX12 cX12_laysQuiet 6 none 7 183 [.ref 56, .int v1, .int v26, .int v6, .int v14, .int v22] [] s27 (k28 v26 s27)) (fun v26 s27 => ?_) (fun k28 hk28 => ?_)
      · refine r_iinc (pc1 := 186) dX12_laysQuiet_183 rfl (kn_1 _) (by decide) rfl rfl rfl ?_
        refine r_goto (tgt := 115) dX12_laysQuiet_186 (by decide) ?_
        exact r_wk (ih v26 (v22 + 1) s27) ⟨Or.inr rfl, Or.inr rfl, Or.inr rfl, Or.inr rfl, Or.inr rfl, Or.inr rfl, trivial⟩
      · refine r_icmp_ne (tgt := 183) (pc1 := 142) dX12_laysQuiet_139 (by decide) rfl (fun q29 => ?_) (fun q29 => ?_)
        · refine r_aload_n (pc1 := 143) (i := 0) dX12_laysQuiet_142 rfl rfl rfl ?_
          refine r_iload (pc1 := 145) dX12_laysQuiet_143 rfl rfl ?_
          refine r_callVi (pc1 := 148) (rv_of w_56 cl_12) lkX12_449 (c_X12_isRow _ _) rfl rfl ⟨Nat.le_of_ble_eq_true rfl, Nat.le_of_ble_eq_true rfl⟩ (Nat.le_of_ble_eq_true rfl) dX12_laysQuiet_145 rfl (fun v30 s31 => ?_)
          refine r_if_eq (tgt := 183) (pc1 := 151) dX12_laysQuiet_148 (by decide) rfl (fun q32 => ?_) (fun q32 => ?_)
          · exact r_wk (hk28 v21 s31) ⟨Or.inr rfl, Or.inr rfl, Or.inr rfl, Or.inr rfl, Or.inr rfl, Or.inr rfl, trivial⟩
          · refine r_aload_n (pc1 := 152) (i := 0) dX12_laysQuiet_151 rfl rfl rfl ?_
            refine r_iload (pc1 := 154) dX12_laysQuiet_152 rfl rfl ?_
            refine r_iload (pc1 := 156) dX12_laysQuiet_154 rfl rfl ?_
            refine r_iload_n (pc1 := 157) (i := 3) dX12_laysQuiet_156 rfl rfl rfl ?_
            refine r_callVi (pc1 := 160) (rv_of w_56 cl_12) lkX12_453 (c_X12_isQuietIn _ _ _ _) rfl rfl ⟨Nat.le_of_ble_eq_true rfl, Nat.le_of_ble_eq_true rfl⟩ (Nat.le_of_ble_eq_true rfl) dX12_laysQuiet_157 rfl (fun v33 s34 => ?_)
            refine r_if_ne (tgt := 166) (pc1 := 163) dX12_laysQuiet_160 (by decide) rfl (fun q35 => ?_) (fun q35 => ?_)
            · refine r_goto (tgt := 183) dX12_laysQuiet_163 (by decide) ?_
              exact r_wk (hk28 v21 s34) ⟨Or.inr rfl, Or.inr rfl, Or.inr rfl, Or.inr rfl, Or.inr rfl, Or.inr rfl, trivial⟩
            · refine r_aload_n (pc1 := 167) (i := 0) dX12_laysQuiet_166 rfl rfl rfl ?_
              refine r_getR (pc1 := 170) w_56 gfX12_132 rfl dX12_laysQuiet_167 rfl ?_
              refine r_iconst (v := 4) (pc1 := 171) dX12_laysQuiet_170 ki_4 rfl ?_
              refine r_iload (pc1 := 173) dX12_laysQuiet_171 rfl rfl ?_
              refine r_imul (pc1 := 174) dX12_laysQuiet_173 rfl ?_
              refine r_iload (pc1 := 176) dX12_laysQuiet_174 rfl rfl ?_
              refine r_iadd (pc1 := 177) dX12_laysQuiet_176 rfl ?_
              refine r_iload_n (pc1 := 178) (i := 3) dX12_laysQuiet_177 rfl rfl rfl ?_
              refine r_iconst (v := 1) (pc1 := 179) dX12_laysQuiet_178 ki_1 rfl ?_
              refine r_iadd (pc1 := 180) dX12_laysQuiet_179 rfl ?_
              refine r_iast (pc1 := 181) w_93 dX12_laysQuiet_180 rfl ?_
              refine r_lts (fun s36 => ?_)
              refine r_iconst (v := 1) (pc1 := 182) dX12_laysQuiet_181 ki_1 rfl ?_
              refine r_istore_n (pc1 := 183) (i := 2) dX12_laysQuiet_182 rfl (by decide) rfl rfl rfl ?_
              exact r_wk (hk28 1 s36) ⟨Or.inr rfl, Or.inr rfl, Or.inr rfl, Or.inr rfl, Or.inr rfl, Or.inr rfl, trivial⟩
        · exact r_wk (hk28 v21 s23) ⟨Or.inr rfl, Or.inr rfl, Or.inr rfl, Or.inr rfl, Or.inr rfl, Or.inr rfl, trivial⟩
set_option maxRecDepth 100000 in
set_option maxHeartbeats 4000000 in
theorem t_lp_X12_laysQuiet_106 {l : Launch} (v1 : Int32) (v6 : Int32) (k12 : Int32 → SS → Res) (hk12 : ∀ (v10 : Int32) (s11 : SS), RC l wF RX12 cX12_laysQuiet 6 none 7 195 [.ref 56, .int v1, .int v10, .int v6, .null, .null] [] s11 (k12 v10 s11)) : ∀ (n16 : Nat) (v13 : Int32) (v14 : Int32) (s15 : SS), RC l wF RX12 cX12_laysQuiet 6 none 7 106 [.ref 56, .int v1, .int v13, .int v6, .int v14, .null] [] s15 (lp_X12_laysQuiet_106 v1 v6 k12 n16 v13 v14 s15) := by
  intro n16
  induction n16 with
  | zero =>
    intro v13 v14 s15
    rw [lp_X12_laysQuiet_106]
    exact r_none
  | succ n16 ih =>
    intro v13 v14 s15
    rw [lp_X12_laysQuiet_106]
    refine r_iload (pc1 := 108) dX12_laysQuiet_106 rfl rfl ?_
    refine r_iload_n (pc1 := 109) (i := 1) dX12_laysQuiet_108 rfl rfl rfl ?_
    refine r_icmp_ge (tgt := 195) (pc1 := 112) dX12_laysQuiet_109 (by decide) rfl (fun q17 => ?_) (fun q17 => ?_)
    · exact r_wk (hk12 v13 s15) ⟨Or.inr rfl, Or.inr rfl, Or.inr rfl, Or.inr rfl, Or.inl rfl, Or.inl rfl, trivial⟩
    · refine r_iconst (v := 0) (pc1 := 113) dX12_laysQuiet_112 ki_0 rfl ?_
      refine r_istore (pc1 := 115) dX12_laysQuiet_113 (by decide) rfl rfl rfl ?_
      refine r_jn (hyp := fun (k20 : Int32 → SS → Res) => ∀ (v18 : Int32) (s19 : SS), RC l wF RX12 cX12_laysQuiet 6 none 7 189 [.ref 56, .int v1, .int v18, .int v6, .int v14, .null] [] s19 (k20 v18 s19)) (fun v18 s19 => ?_) (fun k20 hk20 => ?_)
      · refine r_iinc (pc1 := 192) dX12_laysQuiet_189 rfl (kn_1 _) (by decide) rfl rfl rfl ?_
        refine r_goto (tgt := 106) dX12_laysQuiet_192 (by decide) ?_
        exact r_wk (ih v18 (v14 + 1) s19) ⟨Or.inr rfl, Or.inr rfl, Or.inr rfl, Or.inr rfl, Or.inr rfl, Or.inl rfl, trivial⟩
      · exact r_wk (t_lp_X12_laysQuiet_115 v1 v6 v14 k20 hk20 FU v13 0 s15) ⟨Or.inr rfl, Or.inr rfl, Or.inr rfl, Or.inr rfl, Or.inr rfl, Or.inr rfl, trivial⟩
set_option maxRecDepth 100000 in
set_option maxHeartbeats 4000000 in
theorem t_lp_X12_laysQuiet_97 {l : Launch} (v1 : Int32)  : ∀ (n8 : Nat) (v5 : Int32) (v6 : Int32) (s7 : SS), RC l wF RX12 cX12_laysQuiet 6 none 7 97 [.ref 56, .int v1, .int v5, .int v6, .null, .null] [] s7 (lp_X12_laysQuiet_97 v1 n8 v5 v6 s7) := by
  intro n8
  induction n8 with
  | zero =>
    intro v5 v6 s7
    rw [lp_X12_laysQuiet_97]
    exact r_none
  | succ n8 ih =>
    intro v5 v6 s7
    rw [lp_X12_laysQuiet_97]
    refine r_iload_n (pc1 := 98) (i := 2) dX12_laysQuiet_97 rfl rfl rfl ?_
    refine r_if_eq (tgt := 201) (pc1 := 101) dX12_laysQuiet_98 (by decide) rfl (fun q9 => ?_) (fun q9 => ?_)
    · exact r_vret rfl dX12_laysQuiet_201
    · refine r_iconst (v := 0) (pc1 := 102) dX12_laysQuiet_101 ki_0 rfl ?_
      refine r_istore_n (pc1 := 103) (i := 2) dX12_laysQuiet_102 rfl (by decide) rfl rfl rfl ?_
      refine r_iconst (v := 0) (pc1 := 104) dX12_laysQuiet_103 ki_0 rfl ?_
      refine r_istore (pc1 := 106) dX12_laysQuiet_104 (by decide) rfl rfl rfl ?_
      refine r_jn (hyp := fun (k12 : Int32 → SS → Res) => ∀ (v10 : Int32) (s11 : SS), RC l wF RX12 cX12_laysQuiet 6 none 7 195 [.ref 56, .int v1, .int v10, .int v6, .null, .null] [] s11 (k12 v10 s11)) (fun v10 s11 => ?_) (fun k12 hk12 => ?_)
      · refine r_iinc (pc1 := 198) dX12_laysQuiet_195 rfl (kn_1 _) (by decide) rfl rfl rfl ?_
        refine r_goto (tgt := 97) dX12_laysQuiet_198 (by decide) ?_
        exact r_wk (ih v10 (v6 + 1) s11) ⟨Or.inr rfl, Or.inr rfl, Or.inr rfl, Or.inr rfl, Or.inl rfl, Or.inl rfl, trivial⟩
      · exact r_wk (t_lp_X12_laysQuiet_106 v1 v6 k12 hk12 FU 0 0 s7) ⟨Or.inr rfl, Or.inr rfl, Or.inr rfl, Or.inr rfl, Or.inr rfl, Or.inl rfl, trivial⟩
set_option maxRecDepth 100000 in
set_option maxHeartbeats 4000000 in
theorem t_lp_X12_laysQuiet_35 {l : Launch} (v1 : Int32) (v37 : Int32) (k42 : SS → Res) (hk42 : ∀ (s41 : SS), RC l wF RX12 cX12_laysQuiet 6 none 7 87 [.ref 56, .int v1, .int v37, .null, .null, .null] [] s41 (k42 s41)) : ∀ (n45 : Nat) (v43 : Int32) (s44 : SS), RC l wF RX12 cX12_laysQuiet 6 none 7 35 [.ref 56, .int v1, .int v37, .int v43, .null, .null] [] s44 (lp_X12_laysQuiet_35 v1 v37 k42 n45 v43 s44) := by
  intro n45
  induction n45 with
  | zero =>
    intro v43 s44
    rw [lp_X12_laysQuiet_35]
    exact r_none
  | succ n45 ih =>
    intro v43 s44
    rw [lp_X12_laysQuiet_35]
    refine r_iload_n (pc1 := 36) (i := 3) dX12_laysQuiet_35 rfl rfl rfl ?_
    refine r_aload_n (pc1 := 37) (i := 0) dX12_laysQuiet_36 rfl rfl rfl ?_
    refine r_getI (pc1 := 40) w_56 gfX12_17 rfl dX12_laysQuiet_37 rfl ?_
    refine r_icmp_ge (tgt := 87) (pc1 := 43) dX12_laysQuiet_40 (by decide) rfl (fun q46 => ?_) (fun q46 => ?_)
    · exact r_wk (hk42 s44) ⟨Or.inr rfl, Or.inr rfl, Or.inr rfl, Or.inl rfl, Or.inl rfl, Or.inl rfl, trivial⟩
    · refine r_aload_n (pc1 := 44) (i := 0) dX12_laysQuiet_43 rfl rfl rfl ?_
      refine r_getR (pc1 := 47) w_56 gfX12_132 rfl dX12_laysQuiet_44 rfl ?_
      refine r_iconst (v := 4) (pc1 := 48) dX12_laysQuiet_47 ki_4 rfl ?_
      refine r_iload_n (pc1 := 49) (i := 2) dX12_laysQuiet_48 rfl rfl rfl ?_
      refine r_imul (pc1 := 50) dX12_laysQuiet_49 rfl ?_
      refine r_iload_n (pc1 := 51) (i := 3) dX12_laysQuiet_50 rfl rfl rfl ?_
      refine r_iadd (pc1 := 52) dX12_laysQuiet_51 rfl ?_
      refine r_iload_n (pc1 := 53) (i := 2) dX12_laysQuiet_52 rfl rfl rfl ?_
      refine r_iload_n (pc1 := 54) (i := 1) dX12_laysQuiet_53 rfl rfl rfl ?_
      refine r_jn (hyp := fun (k49 : Int32 → SS → Res) => ∀ (v47 : Int32) (s48 : SS), RC l wF RX12 cX12_laysQuiet 6 none 7 80 [.ref 56, .int v1, .int v37, .int v43, .null, .null] [.int v47, .int ((4 * v37) + v43), .ref 93] s48 (k49 v47 s48)) (fun v47 s48 => ?_) (fun k49 hk49 => ?_)
      · refine r_iast (pc1 := 81) w_93 dX12_laysQuiet_80 rfl ?_
        refine r_lts (fun s50 => ?_)
        refine r_iinc (pc1 := 84) dX12_laysQuiet_81 rfl (kn_1 _) (by decide) rfl rfl rfl ?_
        refine r_goto (tgt := 35) dX12_laysQuiet_84 (by decide) ?_
        exact r_wk (ih (v43 + 1) s50) ⟨Or.inr rfl, Or.inr rfl, Or.inr rfl, Or.inr rfl, Or.inl rfl, Or.inl rfl, trivial⟩
      · refine r_jn (hyp := fun (k52 : SS → Res) => ∀ (s51 : SS), RC l wF RX12 cX12_laysQuiet 6 none 7 77 [.ref 56, .int v1, .int v37, .int v43, .null, .null] [.int ((4 * v37) + v43), .ref 93] s51 (k52 s51)) (fun s51 => ?_) (fun k52 hk52 => ?_)
        · refine r_ldcw (v := 1000000000) (pc1 := 80) dX12_laysQuiet_77 cnX12_452 rfl ?_
          exact r_wk (hk49 1000000000 s51) ⟨Or.inr rfl, Or.inr rfl, Or.inr rfl, Or.inr rfl, Or.inl rfl, Or.inl rfl, trivial⟩
        · refine r_icmp_ge (tgt := 77) (pc1 := 57) dX12_laysQuiet_54 (by decide) rfl (fun q53 => ?_) (fun q53 => ?_)
          · exact r_wk (hk52 s44) ⟨Or.inr rfl, Or.inr rfl, Or.inr rfl, Or.inr rfl, Or.inl rfl, Or.inl rfl, trivial⟩
          · refine r_aload_n (pc1 := 58) (i := 0) dX12_laysQuiet_57 rfl rfl rfl ?_
            refine r_iload_n (pc1 := 59) (i := 2) dX12_laysQuiet_58 rfl rfl rfl ?_
            refine r_callVi (pc1 := 62) (rv_of w_56 cl_12) lkX12_449 (c_X12_isRow _ _) rfl rfl ⟨Nat.le_of_ble_eq_true rfl, Nat.le_of_ble_eq_true rfl⟩ (Nat.le_of_ble_eq_true rfl) dX12_laysQuiet_59 rfl (fun v54 s55 => ?_)
            refine r_if_eq (tgt := 77) (pc1 := 65) dX12_laysQuiet_62 (by decide) rfl (fun q56 => ?_) (fun q56 => ?_)
            · exact r_wk (hk52 s55) ⟨Or.inr rfl, Or.inr rfl, Or.inr rfl, Or.inr rfl, Or.inl rfl, Or.inl rfl, trivial⟩
            · refine r_aload_n (pc1 := 66) (i := 0) dX12_laysQuiet_65 rfl rfl rfl ?_
              refine r_iload_n (pc1 := 67) (i := 2) dX12_laysQuiet_66 rfl rfl rfl ?_
              refine r_callVi (pc1 := 70) (rv_of w_56 cl_12) lkX12_443 (c_X12_isQuiet _ _) rfl rfl ⟨Nat.le_of_ble_eq_true rfl, Nat.le_of_ble_eq_true rfl⟩ (Nat.le_of_ble_eq_true rfl) dX12_laysQuiet_67 rfl (fun v57 s58 => ?_)
              refine r_if_eq (tgt := 77) (pc1 := 73) dX12_laysQuiet_70 (by decide) rfl (fun q59 => ?_) (fun q59 => ?_)
              · exact r_wk (hk52 s58) ⟨Or.inr rfl, Or.inr rfl, Or.inr rfl, Or.inr rfl, Or.inl rfl, Or.inl rfl, trivial⟩
              · refine r_iconst (v := 0) (pc1 := 74) dX12_laysQuiet_73 ki_0 rfl ?_
                refine r_goto (tgt := 80) dX12_laysQuiet_74 (by decide) ?_
                exact r_wk (hk49 0 s58) ⟨Or.inr rfl, Or.inr rfl, Or.inr rfl, Or.inr rfl, Or.inl rfl, Or.inl rfl, trivial⟩
set_option maxRecDepth 100000 in
set_option maxHeartbeats 4000000 in
theorem t_lp_X12_laysQuiet_26 {l : Launch} (v1 : Int32) (k4 : SS → Res) (hk4 : ∀ (s3 : SS), RC l wF RX12 cX12_laysQuiet 6 none 7 93 [.ref 56, .int v1, .null, .null, .null, .null] [] s3 (k4 s3)) : ∀ (n39 : Nat) (v37 : Int32) (s38 : SS), RC l wF RX12 cX12_laysQuiet 6 none 7 26 [.ref 56, .int v1, .int v37, .null, .null, .null] [] s38 (lp_X12_laysQuiet_26 v1 k4 n39 v37 s38) := by
  intro n39
  induction n39 with
  | zero =>
    intro v37 s38
    rw [lp_X12_laysQuiet_26]
    exact r_none
  | succ n39 ih =>
    intro v37 s38
    rw [lp_X12_laysQuiet_26]
    refine r_iload_n (pc1 := 27) (i := 2) dX12_laysQuiet_26 rfl rfl rfl ?_
    refine r_sipush (v := 4681) (pc1 := 30) dX12_laysQuiet_27 ks_4681 rfl ?_
    refine r_icmp_ge (tgt := 93) (pc1 := 33) dX12_laysQuiet_30 (by decide) rfl (fun q40 => ?_) (fun q40 => ?_)
    · exact r_wk (hk4 s38) ⟨Or.inr rfl, Or.inr rfl, Or.inl rfl, Or.inl rfl, Or.inl rfl, Or.inl rfl, trivial⟩
    · refine r_iconst (v := 0) (pc1 := 34) dX12_laysQuiet_33 ki_0 rfl ?_
      refine r_istore_n (pc1 := 35) (i := 3) dX12_laysQuiet_34 rfl (by decide) rfl rfl rfl ?_
      refine r_jn (hyp := fun (k42 : SS → Res) => ∀ (s41 : SS), RC l wF RX12 cX12_laysQuiet 6 none 7 87 [.ref 56, .int v1, .int v37, .null, .null, .null] [] s41 (k42 s41)) (fun s41 => ?_) (fun k42 hk42 => ?_)
      · refine r_iinc (pc1 := 90) dX12_laysQuiet_87 rfl (kn_1 _) (by decide) rfl rfl rfl ?_
        refine r_goto (tgt := 26) dX12_laysQuiet_90 (by decide) ?_
        exact r_wk (ih (v37 + 1) s41) ⟨Or.inr rfl, Or.inr rfl, Or.inr rfl, Or.inl rfl, Or.inl rfl, Or.inl rfl, trivial⟩
      · exact r_wk (t_lp_X12_laysQuiet_35 v1 v37 k42 hk42 FU 0 s38) ⟨Or.inr rfl, Or.inr rfl, Or.inr rfl, Or.inr rfl, Or.inl rfl, Or.inl rfl, trivial⟩
set_option maxRecDepth 100000 in
set_option maxHeartbeats 4000000 in
theorem c_X12_laysQuiet {l : Launch}  (s0 : SS) : Ct l wF yX12_laysQuiet cX12_laysQuiet 6 none 7 [.ref 56] s0 (f_X12_laysQuiet s0) := by
  refine ct_of (y := yX12_laysQuiet) plX12 (Nat.le_of_ble_eq_true rfl) ?_
  refine r_pad0 5 (L1 := [.ref 56, .null, .null, .null, .null, .null]) rfl ?_
  unfold f_X12_laysQuiet
  refine r_aload_n (pc1 := 1) (i := 0) dX12_laysQuiet_0 rfl rfl rfl ?_
  refine r_getI (pc1 := 4) w_56 gfX12_13 rfl dX12_laysQuiet_1 rfl ?_
  refine r_iconst (v := 4) (pc1 := 5) dX12_laysQuiet_4 ki_4 rfl ?_
  refine r_jn (hyp := fun (k2 : Int32 → Res) => ∀ (v1 : Int32), RC l wF RX12 cX12_laysQuiet 6 none 7 23 [.ref 56, .null, .null, .null, .null, .null] [.int v1] s0 (k2 v1)) (fun v1 => ?_) (fun k2 hk2 => ?_)
  · refine r_istore_n (pc1 := 24) (i := 1) dX12_laysQuiet_23 rfl (by decide) rfl rfl rfl ?_
    refine r_iconst (v := 0) (pc1 := 25) dX12_laysQuiet_24 ki_0 rfl ?_
    refine r_istore_n (pc1 := 26) (i := 2) dX12_laysQuiet_25 rfl (by decide) rfl rfl rfl ?_
    refine r_jn (hyp := fun (k4 : SS → Res) => ∀ (s3 : SS), RC l wF RX12 cX12_laysQuiet 6 none 7 93 [.ref 56, .int v1, .null, .null, .null, .null] [] s3 (k4 s3)) (fun s3 => ?_) (fun k4 hk4 => ?_)
    · refine r_iconst (v := 1) (pc1 := 94) dX12_laysQuiet_93 ki_1 rfl ?_
      refine r_istore_n (pc1 := 95) (i := 2) dX12_laysQuiet_94 rfl (by decide) rfl rfl rfl ?_
      refine r_iconst (v := 0) (pc1 := 96) dX12_laysQuiet_95 ki_0 rfl ?_
      refine r_istore_n (pc1 := 97) (i := 3) dX12_laysQuiet_96 rfl (by decide) rfl rfl rfl ?_
      exact r_wk (t_lp_X12_laysQuiet_97 v1 FU 1 0 s3) ⟨Or.inr rfl, Or.inr rfl, Or.inr rfl, Or.inr rfl, Or.inl rfl, Or.inl rfl, trivial⟩
    · exact r_wk (t_lp_X12_laysQuiet_26 v1 k4 hk4 FU 0 s0) ⟨Or.inr rfl, Or.inr rfl, Or.inr rfl, Or.inl rfl, Or.inl rfl, Or.inl rfl, trivial⟩
  · refine r_icmp_ne (tgt := 14) (pc1 := 8) dX12_laysQuiet_5 (by decide) rfl (fun q60 => ?_) (fun q60 => ?_)
    · refine r_sipush (v := 4681) (pc1 := 11) dX12_laysQuiet_8 ks_4681 rfl ?_
      refine r_goto (tgt := 23) dX12_laysQuiet_11 (by decide) ?_
      exact r_wk (hk2 4681) ⟨Or.inr rfl, Or.inl rfl, Or.inl rfl, Or.inl rfl, Or.inl rfl, Or.inl rfl, trivial⟩
    · refine r_aload_n (pc1 := 15) (i := 0) dX12_laysQuiet_14 rfl rfl rfl ?_
      refine r_getI (pc1 := 18) w_56 gfX12_13 rfl dX12_laysQuiet_15 rfl ?_
      refine r_iconst (v := 1) (pc1 := 19) dX12_laysQuiet_18 ki_1 rfl ?_
      refine r_iadd (pc1 := 20) dX12_laysQuiet_19 rfl ?_
      refine r_callSp (pc1 := 23) lkX12_326 (c_X12_firstOf _ _) rfl rfl ⟨Nat.le_of_ble_eq_true rfl, Nat.le_of_ble_eq_true rfl⟩ (Nat.le_of_ble_eq_true rfl) dX12_laysQuiet_20 rfl (fun v61 => ?_)
      exact r_wk (hk2 v61) ⟨Or.inr rfl, Or.inl rfl, Or.inl rfl, Or.inl rfl, Or.inl rfl, Or.inl rfl, trivial⟩
/-! f_X12_soon -/
noncomputable def lp_X12_soon_83 (a1 : Int32) (v4 : Int32) (v10 : Int32) (v11 : Int32) (v13 : Int32) (k19 : Int32 → SS → Res) : Nat → Int32 → Int32 → SS → Res
  | 0, _, _, _ => none
  | n25 + 1, v22, v23, s24 => bdp (f_X12_quietBy v10 v11 v22 s24) (fun (v26 : Int32) => jn (fun (s27 : SS) => lp_X12_soon_83 a1 v4 v10 v11 v13 k19 n25 v23 (v23 + 1) s27) (fun (k28 : SS → Res) => if (v26 : Int32) = ((v4 - v13) - 1 : Int32) then if (8 : Int32) ≤ (v22 : Int32) then k19 v22 s24 else gd (inb v11 4) (bd (f_X12_mayOf v10 (s24 62 (Int32.toNatClampNeg v11)) s24) (fun (v31 : Int32) (s32 : SS) => bdp (f_X12_has v31 v22 s32) (fun (v33 : Int32) => if (v33 : Int32) = 0 then k28 s32 else k19 v22 s32))) else k28 s24))
noncomputable def lp_X12_soon_70 (a1 : Int32) (v4 : Int32) : Nat → Int32 → Int32 → Int32 → Int32 → SS → Res
  | 0, _, _, _, _, _ => none
  | n15 + 1, v10, v11, v12, v13, s14 => if (a1 : Int32) < (v13 : Int32) then some (v12, s14) else jn (fun (v17 : Int32) (s18 : SS) => bdp (f_X12_behind v10 v17 s18) (fun (v20 : Int32) => gd (¬ ((s18 56 5) : Int32) = 0) (lt ((v11 + 1) - (v11 + 1) / (s18 56 5) * (s18 56 5)) (fun (v21 : Int32) => lp_X12_soon_70 a1 v4 n15 v20 v21 v17 (v13 + 1) s18)))) (fun (k19 : Int32 → SS → Res) => lp_X12_soon_83 a1 v4 v10 v11 v13 k19 FU 8 0 s14)
noncomputable def f_X12_soon (a1 : Int32) (s0 : SS) : Res := if ((-1) : Int32) ≤ (a1 : Int32) then bd (f_X12_laysQuiet s0) (fun (v2 : Int32) (s3 : SS) => gd (inb ((4 * (s3 56 4)) + (s3 56 6)) 18724) (lt (s3 93 (Int32.toNatClampNeg ((4 * (s3 56 4)) + (s3 56 6)))) (fun (v4 : Int32) => if (v4 : Int32) = (1000000000 : Int32) then some ((-2), s3) else if (a1 : Int32) = ((-1) : Int32) then some (v4, s3) else if (a1 : Int32) < (v4 : Int32) then lt (s3 56 4) (fun (v8 : Int32) => lt (s3 56 6) (fun (v9 : Int32) => lp_X12_soon_70 a1 v4 FU v8 v9 8 0 s3)) else some ((-1), s3)))) else some ((-1), s0)
set_option maxRecDepth 100000 in
set_option maxHeartbeats 4000000 in
theorem t_lp_X12_soon_83 {l : Launch} (a1 : Int32) (v4 : Int32) (v10 : Int32) (v11 : Int32) (v13 : Int32) (k19 : Int32 → SS → Res) (hk19 : ∀ (v17 : Int32) (s18 : SS), RC l wF RX12 cX12_soon 8 (some .int) 8 138 [.ref 56, .int a1, .int v4, .int v10, .int v11, .int v17, .int v13, .null] [] s18 (k19 v17 s18)) : ∀ (n25 : Nat) (v22 : Int32) (v23 : Int32) (s24 : SS), RC l wF RX12 cX12_soon 8 (some .int) 8 83 [.ref 56, .int a1, .int v4, .int v10, .int v11, .int v22, .int v13, .int v23] [] s24 (lp_X12_soon_83 a1 v4 v10 v11 v13 k19 n25 v22 v23 s24) := by
  intro n25
  induction n25 with
  | zero =>
    intro v22 v23 s24
    rw [lp_X12_soon_83]
    exact r_none
  | succ n25 ih =>
    intro v22 v23 s24
    rw [lp_X12_soon_83]
    refine r_aload_n (pc1 := 84) (i := 0) dX12_soon_83 rfl rfl rfl ?_
    refine r_iload_n (pc1 := 85) (i := 3) dX12_soon_84 rfl rfl rfl ?_
    refine r_iload (pc1 := 87) dX12_soon_85 rfl rfl ?_
    refine r_iload (pc1 := 89) dX12_soon_87 rfl rfl ?_
    refine r_callVp (pc1 := 92) (rv_of w_56 cl_12) lkX12_446 (c_X12_quietBy _ _ _ _) rfl rfl ⟨Nat.le_of_ble_eq_true rfl, Nat.le_of_ble_eq_true rfl⟩ (Nat.le_of_ble_eq_true rfl) dX12_soon_89 rfl (fun v26 => ?_)
    refine r_iload_n (pc1 := 93) (i := 2) dX12_soon_92 rfl rfl rfl ?_
    refine r_iload (pc1 := 95) dX12_soon_93 rfl rfl ?_
    refine r_isub (pc1 := 96) dX12_soon_95 rfl ?_
    refine r_iconst (v := 1) (pc1 := 97) dX12_soon_96 ki_1 rfl ?_
    refine r_isub (pc1 := 98) dX12_soon_97 rfl ?_
    refine r_jn (hyp := fun (k28 : SS → Res) => ∀ (s27 : SS), RC l wF RX12 cX12_soon 8 (some .int) 8 128 [.ref 56, .int a1, .int v4, .int v10, .int v11, .null, .int v13, .int v23] [] s27 (k28 s27)) (fun s27 => ?_) (fun k28 hk28 => ?_)
    · refine r_iload (pc1 := 130) dX12_soon_128 rfl rfl ?_
      refine r_istore (pc1 := 132) dX12_soon_130 (by decide) rfl rfl rfl ?_
      refine r_iinc (pc1 := 135) dX12_soon_132 rfl (kn_1 _) (by decide) rfl rfl rfl ?_
      refine r_goto (tgt := 83) dX12_soon_135 (by decide) ?_
      exact r_wk (ih v23 (v23 + 1) s27) ⟨Or.inr rfl, Or.inr rfl, Or.inr rfl, Or.inr rfl, Or.inr rfl, Or.inr rfl, Or.inr rfl, Or.inr rfl, trivial⟩
    · refine r_icmp_ne (tgt := 128) (pc1 := 101) dX12_soon_98 (by decide) rfl (fun q29 => ?_) (fun q29 => ?_)
      · refine r_iload (pc1 := 103) dX12_soon_101 rfl rfl ?_
        refine r_bipush (v := 8) (pc1 := 105) dX12_soon_103 kb_8 rfl ?_
        refine r_icmp_ge (tgt := 138) (pc1 := 108) dX12_soon_105 (by decide) rfl (fun q30 => ?_) (fun q30 => ?_)
        · exact r_wk (hk19 v22 s24) ⟨Or.inr rfl, Or.inr rfl, Or.inr rfl, Or.inr rfl, Or.inr rfl, Or.inr rfl, Or.inr rfl, Or.inl rfl, trivial⟩
        · refine r_aload_n (pc1 := 109) (i := 0) dX12_soon_108 rfl rfl rfl ?_
          refine r_iload_n (pc1 := 110) (i := 3) dX12_soon_109 rfl rfl rfl ?_
          refine r_aload_n (pc1 := 111) (i := 0) dX12_soon_110 rfl rfl rfl ?_
          refine r_getR (pc1 := 114) w_56 gfX12_36 rfl dX12_soon_111 rfl ?_
          refine r_iload (pc1 := 116) dX12_soon_114 rfl rfl ?_
          refine r_iald (pc1 := 117) w_62 dX12_soon_116 rfl ?_
          refine r_callVi (pc1 := 120) (rv_of w_56 cl_12) lkX12_359 (c_X12_mayOf _ _ _) rfl rfl ⟨Nat.le_of_ble_eq_true rfl, Nat.le_of_ble_eq_true rfl⟩ (Nat.le_of_ble_eq_true rfl) dX12_soon_117 rfl (fun v31 s32 => ?_)
          refine r_iload (pc1 := 122) dX12_soon_120 rfl rfl ?_
          refine r_callSp (pc1 := 125) lkX12_335 (c_X12_has _ _ _) rfl rfl ⟨Nat.le_of_ble_eq_true rfl, Nat.le_of_ble_eq_true rfl⟩ (Nat.le_of_ble_eq_true rfl) dX12_soon_122 rfl (fun v33 => ?_)
          refine r_if_ne (tgt := 138) (pc1 := 128) dX12_soon_125 (by decide) rfl (fun q34 => ?_) (fun q34 => ?_)
          · exact r_wk (hk28 s32) ⟨Or.inr rfl, Or.inr rfl, Or.inr rfl, Or.inr rfl, Or.inr rfl, Or.inl rfl, Or.inr rfl, Or.inr rfl, trivial⟩
          · exact r_wk (hk19 v22 s32) ⟨Or.inr rfl, Or.inr rfl, Or.inr rfl, Or.inr rfl, Or.inr rfl, Or.inr rfl, Or.inr rfl, Or.inl rfl, trivial⟩
      · exact r_wk (hk28 s24) ⟨Or.inr rfl, Or.inr rfl, Or.inr rfl, Or.inr rfl, Or.inr rfl, Or.inl rfl, Or.inr rfl, Or.inr rfl, trivial⟩
set_option maxRecDepth 100000 in
set_option maxHeartbeats 4000000 in
theorem t_lp_X12_soon_70 {l : Launch} (a1 : Int32) (v4 : Int32)  : ∀ (n15 : Nat) (v10 : Int32) (v11 : Int32) (v12 : Int32) (v13 : Int32) (s14 : SS), RC l wF RX12 cX12_soon 8 (some .int) 8 70 [.ref 56, .int a1, .int v4, .int v10, .int v11, .int v12, .int v13, .null] [] s14 (lp_X12_soon_70 a1 v4 n15 v10 v11 v12 v13 s14) := by
  intro n15
  induction n15 with
  | zero =>
    intro v10 v11 v12 v13 s14
    rw [lp_X12_soon_70]
    exact r_none
  | succ n15 ih =>
    intro v10 v11 v12 v13 s14
    rw [lp_X12_soon_70]
    refine r_iload (pc1 := 72) dX12_soon_70 rfl rfl ?_
    refine r_iload_n (pc1 := 73) (i := 1) dX12_soon_72 rfl rfl rfl ?_
    refine r_icmp_gt (tgt := 163) (pc1 := 76) dX12_soon_73 (by decide) rfl (fun q16 => ?_) (fun q16 => ?_)
    · refine r_iload (pc1 := 165) dX12_soon_163 rfl rfl ?_
      exact r_iret rfl rfl dX12_soon_165
    · refine r_bipush (v := 8) (pc1 := 78) dX12_soon_76 kb_8 rfl ?_
      refine r_istore (pc1 := 80) dX12_soon_78 (by decide) rfl rfl rfl ?_
      refine r_iconst (v := 0) (pc1 := 81) dX12_soon_80 ki_0 rfl ?_
      refine r_istore (pc1 := 83) dX12_soon_81 (by decide) rfl rfl rfl ?_
      refine r_jn (hyp := fun (k19 : Int32 → SS → Res) => ∀ (v17 : Int32) (s18 : SS), RC l wF RX12 cX12_soon 8 (some .int) 8 138 [.ref 56, .int a1, .int v4, .int v10, .int v11, .int v17, .int v13, .null] [] s18 (k19 v17 s18)) (fun v17 s18 => ?_) (fun k19 hk19 => ?_)
      · refine r_aload_n (pc1 := 139) (i := 0) dX12_soon_138 rfl rfl rfl ?_
        refine r_iload_n (pc1 := 140) (i := 3) dX12_soon_139 rfl rfl rfl ?_
        refine r_iload (pc1 := 142) dX12_soon_140 rfl rfl ?_
        refine r_callVp (pc1 := 145) (rv_of w_56 cl_12) lkX12_362 (c_X12_behind _ _ _) rfl rfl ⟨Nat.le_of_ble_eq_true rfl, Nat.le_of_ble_eq_true rfl⟩ (Nat.le_of_ble_eq_true rfl) dX12_soon_142 rfl (fun v20 => ?_)
        refine r_istore_n (pc1 := 146) (i := 3) dX12_soon_145 rfl (by decide) rfl rfl rfl ?_
        refine r_iload (pc1 := 148) dX12_soon_146 rfl rfl ?_
        refine r_iconst (v := 1) (pc1 := 149) dX12_soon_148 ki_1 rfl ?_
        refine r_iadd (pc1 := 150) dX12_soon_149 rfl ?_
        refine r_aload_n (pc1 := 151) (i := 0) dX12_soon_150 rfl rfl rfl ?_
        refine r_getI (pc1 := 154) w_56 gfX12_17 rfl dX12_soon_151 rfl ?_
        refine r_irem (pc1 := 155) dX12_soon_154 rfl ?_
        refine r_lt (fun v21 => ?_)
        refine r_istore (pc1 := 157) dX12_soon_155 (by decide) rfl rfl rfl ?_
        refine r_iinc (pc1 := 160) dX12_soon_157 rfl (kn_1 _) (by decide) rfl rfl rfl ?_
        refine r_goto (tgt := 70) dX12_soon_160 (by decide) ?_
        exact r_wk (ih v20 v21 v17 (v13 + 1) s18) ⟨Or.inr rfl, Or.inr rfl, Or.inr rfl, Or.inr rfl, Or.inr rfl, Or.inr rfl, Or.inr rfl, Or.inl rfl, trivial⟩
      · exact r_wk (t_lp_X12_soon_83 a1 v4 v10 v11 v13 k19 hk19 FU 8 0 s14) ⟨Or.inr rfl, Or.inr rfl, Or.inr rfl, Or.inr rfl, Or.inr rfl, Or.inr rfl, Or.inr rfl, Or.inr rfl, trivial⟩
set_option maxRecDepth 100000 in
set_option maxHeartbeats 4000000 in
theorem c_X12_soon {l : Launch} (a1 : Int32) (s0 : SS) : Ct l wF yX12_soon cX12_soon 8 (some .int) 8 [.ref 56, .int a1] s0 (f_X12_soon a1 s0) := by
  refine ct_of (y := yX12_soon) plX12 (Nat.le_of_ble_eq_true rfl) ?_
  refine r_pad0 6 (L1 := [.ref 56, .int a1, .null, .null, .null, .null, .null, .null]) rfl ?_
  unfold f_X12_soon
  refine r_iload_n (pc1 := 1) (i := 1) dX12_soon_0 rfl rfl rfl ?_
  refine r_iconst (v := (-1)) (pc1 := 2) dX12_soon_1 ki_m1 rfl ?_
  refine r_icmp_ge (tgt := 7) (pc1 := 5) dX12_soon_2 (by decide) rfl (fun q1 => ?_) (fun q1 => ?_)
  · refine r_aload_n (pc1 := 8) (i := 0) dX12_soon_7 rfl rfl rfl ?_
    refine r_callVv (pc1 := 11) (rv_of w_56 cl_12) lkX12_457 (c_X12_laysQuiet _) rfl rfl ⟨Nat.le_of_ble_eq_true rfl, Nat.le_of_ble_eq_true rfl⟩ (Nat.le_of_ble_eq_true rfl) dX12_soon_8 rfl (fun v2 s3 => ?_)
    refine r_aload_n (pc1 := 12) (i := 0) dX12_soon_11 rfl rfl rfl ?_
    refine r_getR (pc1 := 15) w_56 gfX12_132 rfl dX12_soon_12 rfl ?_
    refine r_iconst (v := 4) (pc1 := 16) dX12_soon_15 ki_4 rfl ?_
    refine r_aload_n (pc1 := 17) (i := 0) dX12_soon_16 rfl rfl rfl ?_
    refine r_getI (pc1 := 20) w_56 gfX12_158 rfl dX12_soon_17 rfl ?_
    refine r_imul (pc1 := 21) dX12_soon_20 rfl ?_
    refine r_aload_n (pc1 := 22) (i := 0) dX12_soon_21 rfl rfl rfl ?_
    refine r_getI (pc1 := 25) w_56 gfX12_172 rfl dX12_soon_22 rfl ?_
    refine r_iadd (pc1 := 26) dX12_soon_25 rfl ?_
    refine r_iald (pc1 := 27) w_93 dX12_soon_26 rfl ?_
    refine r_lt (fun v4 => ?_)
    refine r_istore_n (pc1 := 28) (i := 2) dX12_soon_27 rfl (by decide) rfl rfl rfl ?_
    refine r_iload_n (pc1 := 29) (i := 2) dX12_soon_28 rfl rfl rfl ?_
    refine r_ldcw (v := 1000000000) (pc1 := 32) dX12_soon_29 cnX12_452 rfl ?_
    refine r_icmp_ne (tgt := 38) (pc1 := 35) dX12_soon_32 (by decide) rfl (fun q5 => ?_) (fun q5 => ?_)
    · refine r_bipush (v := (-2)) (pc1 := 37) dX12_soon_35 kb_m2 rfl ?_
      exact r_iret rfl rfl dX12_soon_37
    · refine r_iload_n (pc1 := 39) (i := 1) dX12_soon_38 rfl rfl rfl ?_
      refine r_iconst (v := (-1)) (pc1 := 40) dX12_soon_39 ki_m1 rfl ?_
      refine r_icmp_ne (tgt := 45) (pc1 := 43) dX12_soon_40 (by decide) rfl (fun q6 => ?_) (fun q6 => ?_)
      · refine r_iload_n (pc1 := 44) (i := 2) dX12_soon_43 rfl rfl rfl ?_
        exact r_iret rfl rfl dX12_soon_44
      · refine r_iload_n (pc1 := 46) (i := 1) dX12_soon_45 rfl rfl rfl ?_
        refine r_iload_n (pc1 := 47) (i := 2) dX12_soon_46 rfl rfl rfl ?_
        refine r_icmp_lt (tgt := 52) (pc1 := 50) dX12_soon_47 (by decide) rfl (fun q7 => ?_) (fun q7 => ?_)
        · refine r_aload_n (pc1 := 53) (i := 0) dX12_soon_52 rfl rfl rfl ?_
          refine r_getI (pc1 := 56) w_56 gfX12_158 rfl dX12_soon_53 rfl ?_
          refine r_lt (fun v8 => ?_)
          refine r_istore_n (pc1 := 57) (i := 3) dX12_soon_56 rfl (by decide) rfl rfl rfl ?_
          refine r_aload_n (pc1 := 58) (i := 0) dX12_soon_57 rfl rfl rfl ?_
          refine r_getI (pc1 := 61) w_56 gfX12_172 rfl dX12_soon_58 rfl ?_
          refine r_lt (fun v9 => ?_)
          refine r_istore (pc1 := 63) dX12_soon_61 (by decide) rfl rfl rfl ?_
          refine r_bipush (v := 8) (pc1 := 65) dX12_soon_63 kb_8 rfl ?_
          refine r_istore (pc1 := 67) dX12_soon_65 (by decide) rfl rfl rfl ?_
          refine r_iconst (v := 0) (pc1 := 68) dX12_soon_67 ki_0 rfl ?_
          refine r_istore (pc1 := 70) dX12_soon_68 (by decide) rfl rfl rfl ?_
          exact r_wk (t_lp_X12_soon_70 a1 v4 FU v8 v9 8 0 s3) ⟨Or.inr rfl, Or.inr rfl, Or.inr rfl, Or.inr rfl, Or.inr rfl, Or.inr rfl, Or.inr rfl, Or.inl rfl, trivial⟩
        · refine r_iconst (v := (-1)) (pc1 := 51) dX12_soon_50 ki_m1 rfl ?_
          exact r_iret rfl rfl dX12_soon_51
  · refine r_iconst (v := (-1)) (pc1 := 6) dX12_soon_5 ki_m1 rfl ?_
    exact r_iret rfl rfl dX12_soon_6
