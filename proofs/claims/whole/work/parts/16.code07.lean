theorem dX12_isSign_0 : decode cX12_isSign 0 = .ok (.iload_n 0, 1) := by decide +kernel
theorem dX12_isSign_1 : decode cX12_isSign 1 = .ok (.bipush 60, 2) := by decide +kernel
theorem dX12_isSign_3 : decode cX12_isSign 3 = .ok (.if_icmp .eq 15, 3) := by decide +kernel
theorem dX12_isSign_6 : decode cX12_isSign 6 = .ok (.iload_n 0, 1) := by decide +kernel
theorem dX12_isSign_7 : decode cX12_isSign 7 = .ok (.bipush 62, 2) := by decide +kernel
theorem dX12_isSign_9 : decode cX12_isSign 9 = .ok (.if_icmp .eq 9, 3) := by decide +kernel
theorem dX12_isSign_12 : decode cX12_isSign 12 = .ok (.iload_n 0, 1) := by decide +kernel
theorem dX12_isSign_13 : decode cX12_isSign 13 = .ok (.bipush 61, 2) := by decide +kernel
theorem dX12_isSign_15 : decode cX12_isSign 15 = .ok (.if_icmp .ne 7, 3) := by decide +kernel
theorem dX12_isSign_18 : decode cX12_isSign 18 = .ok (.iconst 1, 1) := by decide +kernel
theorem dX12_isSign_19 : decode cX12_isSign 19 = .ok (.goto 4, 3) := by decide +kernel
theorem dX12_isSign_22 : decode cX12_isSign 22 = .ok (.iconst 0, 1) := by decide +kernel
theorem dX12_isSign_23 : decode cX12_isSign 23 = .ok (.ireturn, 1) := by decide +kernel
theorem dX12_ends_0 : decode cX12_ends 0 = .ok (.aload_n 0, 1) := by decide +kernel
theorem dX12_ends_1 : decode cX12_ends 1 = .ok (.invokevirtual 222, 3) := by decide +kernel
theorem dX12_ends_4 : decode cX12_ends 4 = .ok (.bipush 33, 2) := by decide +kernel
theorem dX12_ends_6 : decode cX12_ends 6 = .ok (.if_icmp .ne 32, 3) := by decide +kernel
theorem dX12_ends_9 : decode cX12_ends 9 = .ok (.aload_n 0, 1) := by decide +kernel
theorem dX12_ends_10 : decode cX12_ends 10 = .ok (.iconst 2, 1) := by decide +kernel
theorem dX12_ends_11 : decode cX12_ends 11 = .ok (.iconst 0, 1) := by decide +kernel
theorem dX12_ends_12 : decode cX12_ends 12 = .ok (.invokevirtual 231, 3) := by decide +kernel
theorem dX12_ends_15 : decode cX12_ends 15 = .ok (.aload_n 0, 1) := by decide +kernel
theorem dX12_ends_16 : decode cX12_ends 16 = .ok (.dup, 1) := by decide +kernel
theorem dX12_ends_17 : decode cX12_ends 17 = .ok (.getfield 198, 3) := by decide +kernel
theorem dX12_ends_20 : decode cX12_ends 20 = .ok (.iconst 1, 1) := by decide +kernel
theorem dX12_ends_21 : decode cX12_ends 21 = .ok (.isub, 1) := by decide +kernel
theorem dX12_ends_22 : decode cX12_ends 22 = .ok (.putfield 198, 3) := by decide +kernel
theorem dX12_ends_25 : decode cX12_ends 25 = .ok (.aload_n 0, 1) := by decide +kernel
theorem dX12_ends_26 : decode cX12_ends 26 = .ok (.dup, 1) := by decide +kernel
theorem dX12_ends_27 : decode cX12_ends 27 = .ok (.getfield 201, 3) := by decide +kernel
theorem dX12_ends_30 : decode cX12_ends 30 = .ok (.iconst 1, 1) := by decide +kernel
theorem dX12_ends_31 : decode cX12_ends 31 = .ok (.isub, 1) := by decide +kernel
theorem dX12_ends_32 : decode cX12_ends 32 = .ok (.putfield 201, 3) := by decide +kernel
theorem dX12_ends_35 : decode cX12_ends 35 = .ok (.goto (-35), 3) := by decide +kernel
theorem dX12_ends_38 : decode cX12_ends 38 = .ok (.return_, 1) := by decide +kernel
theorem dX12_pieceOfC_0 : decode cX12_pieceOfC 0 = .ok (.aload_n 0, 1) := by decide +kernel
theorem dX12_pieceOfC_1 : decode cX12_pieceOfC 1 = .ok (.invokevirtual 191, 3) := by decide +kernel
theorem dX12_pieceOfC_4 : decode cX12_pieceOfC 4 = .ok (.ifCond .eq 28, 3) := by decide +kernel
theorem dX12_pieceOfC_7 : decode cX12_pieceOfC 7 = .ok (.aload_n 0, 1) := by decide +kernel
theorem dX12_pieceOfC_8 : decode cX12_pieceOfC 8 = .ok (.invokevirtual 208, 3) := by decide +kernel
theorem dX12_pieceOfC_11 : decode cX12_pieceOfC 11 = .ok (.bipush 33, 2) := by decide +kernel
theorem dX12_pieceOfC_13 : decode cX12_pieceOfC 13 = .ok (.if_icmp .eq 12, 3) := by decide +kernel
theorem dX12_pieceOfC_16 : decode cX12_pieceOfC 16 = .ok (.aload_n 0, 1) := by decide +kernel
theorem dX12_pieceOfC_17 : decode cX12_pieceOfC 17 = .ok (.invokevirtual 208, 3) := by decide +kernel
theorem dX12_pieceOfC_20 : decode cX12_pieceOfC 20 = .ok (.bipush 40, 2) := by decide +kernel
theorem dX12_pieceOfC_22 : decode cX12_pieceOfC 22 = .ok (.if_icmp .ne 10, 3) := by decide +kernel
theorem dX12_pieceOfC_25 : decode cX12_pieceOfC 25 = .ok (.aload_n 0, 1) := by decide +kernel
theorem dX12_pieceOfC_26 : decode cX12_pieceOfC 26 = .ok (.invokevirtual 234, 3) := by decide +kernel
theorem dX12_pieceOfC_29 : decode cX12_pieceOfC 29 = .ok (.goto (-29), 3) := by decide +kernel
theorem dX12_pieceOfC_32 : decode cX12_pieceOfC 32 = .ok (.aload_n 0, 1) := by decide +kernel
theorem dX12_pieceOfC_33 : decode cX12_pieceOfC 33 = .ok (.invokevirtual 191, 3) := by decide +kernel
theorem dX12_pieceOfC_36 : decode cX12_pieceOfC 36 = .ok (.ifCond .eq 7, 3) := by decide +kernel
theorem dX12_pieceOfC_39 : decode cX12_pieceOfC 39 = .ok (.aload_n 0, 1) := by decide +kernel
theorem dX12_pieceOfC_40 : decode cX12_pieceOfC 40 = .ok (.invokevirtual 256, 3) := by decide +kernel
theorem dX12_pieceOfC_43 : decode cX12_pieceOfC 43 = .ok (.aload_n 0, 1) := by decide +kernel
theorem dX12_pieceOfC_44 : decode cX12_pieceOfC 44 = .ok (.invokevirtual 191, 3) := by decide +kernel
theorem dX12_pieceOfC_47 : decode cX12_pieceOfC 47 = .ok (.ifCond .ne 4, 3) := by decide +kernel
theorem dX12_pieceOfC_50 : decode cX12_pieceOfC 50 = .ok (.return_, 1) := by decide +kernel
theorem dX12_pieceOfC_51 : decode cX12_pieceOfC 51 = .ok (.aload_n 0, 1) := by decide +kernel
theorem dX12_pieceOfC_52 : decode cX12_pieceOfC 52 = .ok (.invokevirtual 208, 3) := by decide +kernel
theorem dX12_pieceOfC_55 : decode cX12_pieceOfC 55 = .ok (.istore_n 1, 1) := by decide +kernel
theorem dX12_pieceOfC_56 : decode cX12_pieceOfC 56 = .ok (.iload_n 1, 1) := by decide +kernel
theorem dX12_pieceOfC_57 : decode cX12_pieceOfC 57 = .ok (.invokestatic 259, 3) := by decide +kernel
theorem dX12_pieceOfC_60 : decode cX12_pieceOfC 60 = .ok (.ifCond .ne 13, 3) := by decide +kernel
theorem dX12_pieceOfC_63 : decode cX12_pieceOfC 63 = .ok (.aload_n 0, 1) := by decide +kernel
theorem dX12_pieceOfC_64 : decode cX12_pieceOfC 64 = .ok (.iconst 1, 1) := by decide +kernel
theorem dX12_pieceOfC_65 : decode cX12_pieceOfC 65 = .ok (.aload_n 0, 1) := by decide +kernel
theorem dX12_pieceOfC_66 : decode cX12_pieceOfC 66 = .ok (.getfield 182, 3) := by decide +kernel
theorem dX12_pieceOfC_69 : decode cX12_pieceOfC 69 = .ok (.invokevirtual 204, 3) := by decide +kernel
theorem dX12_pieceOfC_72 : decode cX12_pieceOfC 72 = .ok (.return_, 1) := by decide +kernel
theorem dX12_pieceOfC_73 : decode cX12_pieceOfC 73 = .ok (.aload_n 0, 1) := by decide +kernel
theorem dX12_pieceOfC_74 : decode cX12_pieceOfC 74 = .ok (.iload_n 1, 1) := by decide +kernel
theorem dX12_pieceOfC_75 : decode cX12_pieceOfC 75 = .ok (.invokevirtual 212, 3) := by decide +kernel
theorem dX12_pieceOfC_78 : decode cX12_pieceOfC 78 = .ok (.aload_n 0, 1) := by decide +kernel
theorem dX12_pieceOfC_79 : decode cX12_pieceOfC 79 = .ok (.invokevirtual 256, 3) := by decide +kernel
theorem dX12_pieceOfC_82 : decode cX12_pieceOfC 82 = .ok (.aload_n 0, 1) := by decide +kernel
theorem dX12_pieceOfC_83 : decode cX12_pieceOfC 83 = .ok (.invokevirtual 191, 3) := by decide +kernel
theorem dX12_pieceOfC_86 : decode cX12_pieceOfC 86 = .ok (.ifCond .ne 4, 3) := by decide +kernel
theorem dX12_pieceOfC_89 : decode cX12_pieceOfC 89 = .ok (.return_, 1) := by decide +kernel
theorem dX12_pieceOfC_90 : decode cX12_pieceOfC 90 = .ok (.aload_n 0, 1) := by decide +kernel
theorem dX12_pieceOfC_91 : decode cX12_pieceOfC 91 = .ok (.aload_n 0, 1) := by decide +kernel
theorem dX12_pieceOfC_92 : decode cX12_pieceOfC 92 = .ok (.invokevirtual 222, 3) := by decide +kernel
theorem dX12_pieceOfC_95 : decode cX12_pieceOfC 95 = .ok (.iconst 0, 1) := by decide +kernel
theorem dX12_pieceOfC_96 : decode cX12_pieceOfC 96 = .ok (.invokevirtual 231, 3) := by decide +kernel
theorem dX12_pieceOfC_99 : decode cX12_pieceOfC 99 = .ok (.aload_n 0, 1) := by decide +kernel
theorem dX12_pieceOfC_100 : decode cX12_pieceOfC 100 = .ok (.dup, 1) := by decide +kernel
theorem dX12_pieceOfC_101 : decode cX12_pieceOfC 101 = .ok (.getfield 198, 3) := by decide +kernel
theorem dX12_pieceOfC_104 : decode cX12_pieceOfC 104 = .ok (.iconst 1, 1) := by decide +kernel
theorem dX12_pieceOfC_105 : decode cX12_pieceOfC 105 = .ok (.isub, 1) := by decide +kernel
theorem dX12_pieceOfC_106 : decode cX12_pieceOfC 106 = .ok (.putfield 198, 3) := by decide +kernel
theorem dX12_pieceOfC_109 : decode cX12_pieceOfC 109 = .ok (.aload_n 0, 1) := by decide +kernel
theorem dX12_pieceOfC_110 : decode cX12_pieceOfC 110 = .ok (.invokevirtual 262, 3) := by decide +kernel
theorem dX12_pieceOfC_113 : decode cX12_pieceOfC 113 = .ok (.return_, 1) := by decide +kernel
theorem dX12_joins_0 : decode cX12_joins 0 = .ok (.aload_n 0, 1) := by decide +kernel
theorem dX12_joins_1 : decode cX12_joins 1 = .ok (.invokevirtual 222, 3) := by decide +kernel
theorem dX12_joins_4 : decode cX12_joins 4 = .ok (.bipush 38, 2) := by decide +kernel
theorem dX12_joins_6 : decode cX12_joins 6 = .ok (.if_icmp .eq 16, 3) := by decide +kernel
theorem dX12_joins_9 : decode cX12_joins 9 = .ok (.iload_n 1, 1) := by decide +kernel
theorem dX12_joins_10 : decode cX12_joins 10 = .ok (.ifCond .eq 34, 3) := by decide +kernel
theorem dX12_joins_13 : decode cX12_joins 13 = .ok (.aload_n 0, 1) := by decide +kernel
theorem dX12_joins_14 : decode cX12_joins 14 = .ok (.invokevirtual 222, 3) := by decide +kernel
theorem dX12_joins_17 : decode cX12_joins 17 = .ok (.bipush 124, 2) := by decide +kernel
theorem dX12_joins_19 : decode cX12_joins 19 = .ok (.if_icmp .ne 25, 3) := by decide +kernel
theorem dX12_joins_22 : decode cX12_joins 22 = .ok (.aload_n 0, 1) := by decide +kernel
theorem dX12_joins_23 : decode cX12_joins 23 = .ok (.aload_n 0, 1) := by decide +kernel
theorem dX12_joins_24 : decode cX12_joins 24 = .ok (.invokevirtual 222, 3) := by decide +kernel
theorem dX12_joins_27 : decode cX12_joins 27 = .ok (.iconst 0, 1) := by decide +kernel
theorem dX12_joins_28 : decode cX12_joins 28 = .ok (.invokevirtual 231, 3) := by decide +kernel
theorem dX12_joins_31 : decode cX12_joins 31 = .ok (.aload_n 0, 1) := by decide +kernel
theorem dX12_joins_32 : decode cX12_joins 32 = .ok (.dup, 1) := by decide +kernel
theorem dX12_joins_33 : decode cX12_joins 33 = .ok (.getfield 198, 3) := by decide +kernel
theorem dX12_joins_36 : decode cX12_joins 36 = .ok (.iconst 1, 1) := by decide +kernel
theorem dX12_joins_37 : decode cX12_joins 37 = .ok (.isub, 1) := by decide +kernel
theorem dX12_joins_38 : decode cX12_joins 38 = .ok (.putfield 198, 3) := by decide +kernel
theorem dX12_joins_41 : decode cX12_joins 41 = .ok (.goto (-41), 3) := by decide +kernel
theorem dX12_joins_44 : decode cX12_joins 44 = .ok (.return_, 1) := by decide +kernel
theorem dX12_goesBehind_0 : decode cX12_goesBehind 0 = .ok (.aload_n 0, 1) := by decide +kernel
theorem dX12_goesBehind_1 : decode cX12_goesBehind 1 = .ok (.invokevirtual 208, 3) := by decide +kernel
theorem dX12_goesBehind_4 : decode cX12_goesBehind 4 = .ok (.istore_n 1, 1) := by decide +kernel
theorem dX12_goesBehind_5 : decode cX12_goesBehind 5 = .ok (.iload_n 1, 1) := by decide +kernel
theorem dX12_goesBehind_6 : decode cX12_goesBehind 6 = .ok (.bipush 38, 2) := by decide +kernel
theorem dX12_goesBehind_8 : decode cX12_goesBehind 8 = .ok (.if_icmp .eq 9, 3) := by decide +kernel
theorem dX12_goesBehind_11 : decode cX12_goesBehind 11 = .ok (.iload_n 1, 1) := by decide +kernel
theorem dX12_goesBehind_12 : decode cX12_goesBehind 12 = .ok (.bipush 124, 2) := by decide +kernel
theorem dX12_goesBehind_14 : decode cX12_goesBehind 14 = .ok (.if_icmp .ne 25, 3) := by decide +kernel
theorem dX12_goesBehind_17 : decode cX12_goesBehind 17 = .ok (.aload_n 0, 1) := by decide +kernel
theorem dX12_goesBehind_18 : decode cX12_goesBehind 18 = .ok (.iload_n 1, 1) := by decide +kernel
theorem dX12_goesBehind_19 : decode cX12_goesBehind 19 = .ok (.bipush 124, 2) := by decide +kernel
theorem dX12_goesBehind_21 : decode cX12_goesBehind 21 = .ok (.if_icmp .ne 7, 3) := by decide +kernel
theorem dX12_goesBehind_24 : decode cX12_goesBehind 24 = .ok (.iconst 1, 1) := by decide +kernel
theorem dX12_goesBehind_25 : decode cX12_goesBehind 25 = .ok (.goto 4, 3) := by decide +kernel
theorem dX12_goesBehind_28 : decode cX12_goesBehind 28 = .ok (.iconst 0, 1) := by decide +kernel
theorem dX12_goesBehind_29 : decode cX12_goesBehind 29 = .ok (.invokevirtual 265, 3) := by decide +kernel
theorem dX12_goesBehind_32 : decode cX12_goesBehind 32 = .ok (.aload_n 0, 1) := by decide +kernel
theorem dX12_goesBehind_33 : decode cX12_goesBehind 33 = .ok (.iload_n 1, 1) := by decide +kernel
theorem dX12_goesBehind_34 : decode cX12_goesBehind 34 = .ok (.invokevirtual 212, 3) := by decide +kernel
theorem dX12_goesBehind_37 : decode cX12_goesBehind 37 = .ok (.iconst 1, 1) := by decide +kernel
theorem dX12_goesBehind_38 : decode cX12_goesBehind 38 = .ok (.ireturn, 1) := by decide +kernel
theorem dX12_goesBehind_39 : decode cX12_goesBehind 39 = .ok (.iload_n 1, 1) := by decide +kernel
theorem dX12_goesBehind_40 : decode cX12_goesBehind 40 = .ok (.bipush 41, 2) := by decide +kernel
theorem dX12_goesBehind_42 : decode cX12_goesBehind 42 = .ok (.if_icmp .eq 14, 3) := by decide +kernel
theorem dX12_goesBehind_45 : decode cX12_goesBehind 45 = .ok (.aload_n 0, 1) := by decide +kernel
theorem dX12_goesBehind_46 : decode cX12_goesBehind 46 = .ok (.iconst 1, 1) := by decide +kernel
theorem dX12_goesBehind_47 : decode cX12_goesBehind 47 = .ok (.aload_n 0, 1) := by decide +kernel
theorem dX12_goesBehind_48 : decode cX12_goesBehind 48 = .ok (.getfield 182, 3) := by decide +kernel
theorem dX12_goesBehind_51 : decode cX12_goesBehind 51 = .ok (.invokevirtual 204, 3) := by decide +kernel
theorem dX12_goesBehind_54 : decode cX12_goesBehind 54 = .ok (.iconst 0, 1) := by decide +kernel
theorem dX12_goesBehind_55 : decode cX12_goesBehind 55 = .ok (.ireturn, 1) := by decide +kernel
theorem dX12_goesBehind_56 : decode cX12_goesBehind 56 = .ok (.aload_n 0, 1) := by decide +kernel
theorem dX12_goesBehind_57 : decode cX12_goesBehind 57 = .ok (.iconst 1, 1) := by decide +kernel
theorem dX12_goesBehind_58 : decode cX12_goesBehind 58 = .ok (.invokevirtual 265, 3) := by decide +kernel
theorem dX12_goesBehind_61 : decode cX12_goesBehind 61 = .ok (.aload_n 0, 1) := by decide +kernel
theorem dX12_goesBehind_62 : decode cX12_goesBehind 62 = .ok (.dup, 1) := by decide +kernel
theorem dX12_goesBehind_63 : decode cX12_goesBehind 63 = .ok (.getfield 198, 3) := by decide +kernel
theorem dX12_goesBehind_66 : decode cX12_goesBehind 66 = .ok (.iconst 1, 1) := by decide +kernel
theorem dX12_goesBehind_67 : decode cX12_goesBehind 67 = .ok (.isub, 1) := by decide +kernel
theorem dX12_goesBehind_68 : decode cX12_goesBehind 68 = .ok (.putfield 198, 3) := by decide +kernel
theorem dX12_goesBehind_71 : decode cX12_goesBehind 71 = .ok (.aload_n 0, 1) := by decide +kernel
theorem dX12_goesBehind_72 : decode cX12_goesBehind 72 = .ok (.dup, 1) := by decide +kernel
theorem dX12_goesBehind_73 : decode cX12_goesBehind 73 = .ok (.getfield 201, 3) := by decide +kernel
theorem dX12_goesBehind_76 : decode cX12_goesBehind 76 = .ok (.iconst 1, 1) := by decide +kernel
theorem dX12_goesBehind_77 : decode cX12_goesBehind 77 = .ok (.isub, 1) := by decide +kernel
theorem dX12_goesBehind_78 : decode cX12_goesBehind 78 = .ok (.putfield 201, 3) := by decide +kernel
theorem dX12_goesBehind_81 : decode cX12_goesBehind 81 = .ok (.aload_n 0, 1) := by decide +kernel
theorem dX12_goesBehind_82 : decode cX12_goesBehind 82 = .ok (.dup, 1) := by decide +kernel
theorem dX12_goesBehind_83 : decode cX12_goesBehind 83 = .ok (.getfield 182, 3) := by decide +kernel
theorem dX12_goesBehind_86 : decode cX12_goesBehind 86 = .ok (.iconst 1, 1) := by decide +kernel
theorem dX12_goesBehind_87 : decode cX12_goesBehind 87 = .ok (.iadd, 1) := by decide +kernel
theorem dX12_goesBehind_88 : decode cX12_goesBehind 88 = .ok (.putfield 182, 3) := by decide +kernel
theorem dX12_goesBehind_91 : decode cX12_goesBehind 91 = .ok (.aload_n 0, 1) := by decide +kernel
theorem dX12_goesBehind_92 : decode cX12_goesBehind 92 = .ok (.aload_n 0, 1) := by decide +kernel
theorem dX12_goesBehind_93 : decode cX12_goesBehind 93 = .ok (.getfield 198, 3) := by decide +kernel
theorem dX12_goesBehind_96 : decode cX12_goesBehind 96 = .ok (.ifCond .ne 7, 3) := by decide +kernel
theorem dX12_goesBehind_99 : decode cX12_goesBehind 99 = .ok (.iconst 1, 1) := by decide +kernel
theorem dX12_goesBehind_100 : decode cX12_goesBehind 100 = .ok (.goto 4, 3) := by decide +kernel
theorem dX12_goesBehind_103 : decode cX12_goesBehind 103 = .ok (.iconst 0, 1) := by decide +kernel
theorem dX12_goesBehind_104 : decode cX12_goesBehind 104 = .ok (.putfield 268, 3) := by decide +kernel
theorem dX12_goesBehind_107 : decode cX12_goesBehind 107 = .ok (.aload_n 0, 1) := by decide +kernel
theorem dX12_goesBehind_108 : decode cX12_goesBehind 108 = .ok (.getfield 268, 3) := by decide +kernel
theorem dX12_goesBehind_111 : decode cX12_goesBehind 111 = .ok (.ifCond .ne 7, 3) := by decide +kernel
theorem dX12_goesBehind_114 : decode cX12_goesBehind 114 = .ok (.aload_n 0, 1) := by decide +kernel
theorem dX12_goesBehind_115 : decode cX12_goesBehind 115 = .ok (.invokevirtual 262, 3) := by decide +kernel
theorem dX12_goesBehind_118 : decode cX12_goesBehind 118 = .ok (.iconst 0, 1) := by decide +kernel
theorem dX12_goesBehind_119 : decode cX12_goesBehind 119 = .ok (.ireturn, 1) := by decide +kernel
theorem dX12_condition_0 : decode cX12_condition 0 = .ok (.aload_n 0, 1) := by decide +kernel
theorem dX12_condition_1 : decode cX12_condition 1 = .ok (.iconst 0, 1) := by decide +kernel
theorem dX12_condition_2 : decode cX12_condition 2 = .ok (.putfield 268, 3) := by decide +kernel
theorem dX12_condition_5 : decode cX12_condition 5 = .ok (.aload_n 0, 1) := by decide +kernel
theorem dX12_condition_6 : decode cX12_condition 6 = .ok (.invokevirtual 208, 3) := by decide +kernel
theorem dX12_condition_9 : decode cX12_condition 9 = .ok (.bipush 40, 2) := by decide +kernel
theorem dX12_condition_11 : decode cX12_condition 11 = .ok (.if_icmp .eq 12, 3) := by decide +kernel
theorem dX12_condition_14 : decode cX12_condition 14 = .ok (.aload_n 0, 1) := by decide +kernel
theorem dX12_condition_15 : decode cX12_condition 15 = .ok (.iconst 1, 1) := by decide +kernel
theorem dX12_condition_16 : decode cX12_condition 16 = .ok (.aload_n 0, 1) := by decide +kernel
theorem dX12_condition_17 : decode cX12_condition 17 = .ok (.getfield 182, 3) := by decide +kernel
theorem dX12_condition_20 : decode cX12_condition 20 = .ok (.invokevirtual 204, 3) := by decide +kernel
theorem dX12_condition_23 : decode cX12_condition 23 = .ok (.aload_n 0, 1) := by decide +kernel
theorem dX12_condition_24 : decode cX12_condition 24 = .ok (.invokevirtual 191, 3) := by decide +kernel
theorem dX12_condition_27 : decode cX12_condition 27 = .ok (.ifCond .ne 4, 3) := by decide +kernel
theorem dX12_condition_30 : decode cX12_condition 30 = .ok (.return_, 1) := by decide +kernel
theorem dX12_condition_31 : decode cX12_condition 31 = .ok (.aload_n 0, 1) := by decide +kernel
theorem dX12_condition_32 : decode cX12_condition 32 = .ok (.invokevirtual 234, 3) := by decide +kernel
theorem dX12_condition_35 : decode cX12_condition 35 = .ok (.iconst 1, 1) := by decide +kernel
theorem dX12_condition_36 : decode cX12_condition 36 = .ok (.istore_n 1, 1) := by decide +kernel
theorem dX12_condition_37 : decode cX12_condition 37 = .ok (.aload_n 0, 1) := by decide +kernel
theorem dX12_condition_38 : decode cX12_condition 38 = .ok (.invokevirtual 191, 3) := by decide +kernel
theorem dX12_condition_41 : decode cX12_condition 41 = .ok (.ifCond .eq 33, 3) := by decide +kernel
theorem dX12_condition_44 : decode cX12_condition 44 = .ok (.aload_n 0, 1) := by decide +kernel
theorem dX12_condition_45 : decode cX12_condition 45 = .ok (.getfield 268, 3) := by decide +kernel
theorem dX12_condition_48 : decode cX12_condition 48 = .ok (.ifCond .ne 26, 3) := by decide +kernel
theorem dX12_condition_51 : decode cX12_condition 51 = .ok (.iload_n 1, 1) := by decide +kernel
theorem dX12_condition_52 : decode cX12_condition 52 = .ok (.ifCond .eq 7, 3) := by decide +kernel
theorem dX12_condition_55 : decode cX12_condition 55 = .ok (.aload_n 0, 1) := by decide +kernel
theorem dX12_condition_56 : decode cX12_condition 56 = .ok (.invokevirtual 271, 3) := by decide +kernel
theorem dX12_condition_59 : decode cX12_condition 59 = .ok (.aload_n 0, 1) := by decide +kernel
theorem dX12_condition_60 : decode cX12_condition 60 = .ok (.invokevirtual 191, 3) := by decide +kernel
theorem dX12_condition_63 : decode cX12_condition 63 = .ok (.ifCond .eq (-26), 3) := by decide +kernel
theorem dX12_condition_66 : decode cX12_condition 66 = .ok (.aload_n 0, 1) := by decide +kernel
theorem dX12_condition_67 : decode cX12_condition 67 = .ok (.invokevirtual 274, 3) := by decide +kernel
theorem dX12_condition_70 : decode cX12_condition 70 = .ok (.istore_n 1, 1) := by decide +kernel
theorem dX12_condition_71 : decode cX12_condition 71 = .ok (.goto (-34), 3) := by decide +kernel
theorem dX12_condition_74 : decode cX12_condition 74 = .ok (.return_, 1) := by decide +kernel
theorem dX12_clause_0 : decode cX12_clause 0 = .ok (.aload_n 0, 1) := by decide +kernel
theorem dX12_clause_1 : decode cX12_clause 1 = .ok (.invokevirtual 208, 3) := by decide +kernel
theorem dX12_clause_4 : decode cX12_clause 4 = .ok (.istore_n 1, 1) := by decide +kernel
theorem dX12_clause_5 : decode cX12_clause 5 = .ok (.iload_n 1, 1) := by decide +kernel
theorem dX12_clause_6 : decode cX12_clause 6 = .ok (.bipush 118, 2) := by decide +kernel
theorem dX12_clause_8 : decode cX12_clause 8 = .ok (.if_icmp .eq 21, 3) := by decide +kernel
theorem dX12_clause_11 : decode cX12_clause 11 = .ok (.iload_n 1, 1) := by decide +kernel
theorem dX12_clause_12 : decode cX12_clause 12 = .ok (.bipush 109, 2) := by decide +kernel
theorem dX12_clause_14 : decode cX12_clause 14 = .ok (.if_icmp .eq 15, 3) := by decide +kernel
theorem dX12_clause_17 : decode cX12_clause 17 = .ok (.aload_n 0, 1) := by decide +kernel
theorem dX12_clause_18 : decode cX12_clause 18 = .ok (.iconst 1, 1) := by decide +kernel
theorem dX12_clause_19 : decode cX12_clause 19 = .ok (.aload_n 0, 1) := by decide +kernel
theorem dX12_clause_20 : decode cX12_clause 20 = .ok (.getfield 182, 3) := by decide +kernel
theorem dX12_clause_23 : decode cX12_clause 23 = .ok (.invokevirtual 204, 3) := by decide +kernel
theorem dX12_clause_26 : decode cX12_clause 26 = .ok (.goto 21, 3) := by decide +kernel
theorem dX12_clause_29 : decode cX12_clause 29 = .ok (.aload_n 0, 1) := by decide +kernel
theorem dX12_clause_30 : decode cX12_clause 30 = .ok (.getfield 277, 3) := by decide +kernel
theorem dX12_clause_33 : decode cX12_clause 33 = .ok (.bipush 14, 2) := by decide +kernel
theorem dX12_clause_35 : decode cX12_clause 35 = .ok (.if_icmp .ne 12, 3) := by decide +kernel
theorem dX12_clause_38 : decode cX12_clause 38 = .ok (.aload_n 0, 1) := by decide +kernel
theorem dX12_clause_39 : decode cX12_clause 39 = .ok (.iconst 4, 1) := by decide +kernel
theorem dX12_clause_40 : decode cX12_clause 40 = .ok (.aload_n 0, 1) := by decide +kernel
theorem dX12_clause_41 : decode cX12_clause 41 = .ok (.getfield 182, 3) := by decide +kernel
theorem dX12_clause_44 : decode cX12_clause 44 = .ok (.invokevirtual 204, 3) := by decide +kernel
theorem dX12_clause_47 : decode cX12_clause 47 = .ok (.aload_n 0, 1) := by decide +kernel
theorem dX12_clause_48 : decode cX12_clause 48 = .ok (.invokevirtual 191, 3) := by decide +kernel
theorem dX12_clause_51 : decode cX12_clause 51 = .ok (.ifCond .ne 4, 3) := by decide +kernel
theorem dX12_clause_54 : decode cX12_clause 54 = .ok (.return_, 1) := by decide +kernel
theorem dX12_clause_55 : decode cX12_clause 55 = .ok (.aload_n 0, 1) := by decide +kernel
theorem dX12_clause_56 : decode cX12_clause 56 = .ok (.getfield 63, 3) := by decide +kernel
theorem dX12_clause_59 : decode cX12_clause 59 = .ok (.aload_n 0, 1) := by decide +kernel
theorem dX12_clause_60 : decode cX12_clause 60 = .ok (.getfield 277, 3) := by decide +kernel
theorem dX12_clause_63 : decode cX12_clause 63 = .ok (.iload_n 1, 1) := by decide +kernel
theorem dX12_clause_64 : decode cX12_clause 64 = .ok (.iastore, 1) := by decide +kernel
theorem dX12_clause_65 : decode cX12_clause 65 = .ok (.aload_n 0, 1) := by decide +kernel
theorem dX12_clause_66 : decode cX12_clause 66 = .ok (.getfield 66, 3) := by decide +kernel
theorem dX12_clause_69 : decode cX12_clause 69 = .ok (.aload_n 0, 1) := by decide +kernel
theorem dX12_clause_70 : decode cX12_clause 70 = .ok (.getfield 277, 3) := by decide +kernel
theorem dX12_clause_73 : decode cX12_clause 73 = .ok (.aload_n 0, 1) := by decide +kernel
theorem dX12_clause_74 : decode cX12_clause 74 = .ok (.getfield 195, 3) := by decide +kernel
theorem dX12_clause_77 : decode cX12_clause 77 = .ok (.iastore, 1) := by decide +kernel
theorem dX12_clause_78 : decode cX12_clause 78 = .ok (.aload_n 0, 1) := by decide +kernel
theorem dX12_clause_79 : decode cX12_clause 79 = .ok (.dup, 1) := by decide +kernel
theorem dX12_clause_80 : decode cX12_clause 80 = .ok (.getfield 182, 3) := by decide +kernel
theorem dX12_clause_83 : decode cX12_clause 83 = .ok (.iconst 1, 1) := by decide +kernel
theorem dX12_clause_84 : decode cX12_clause 84 = .ok (.iadd, 1) := by decide +kernel
theorem dX12_clause_85 : decode cX12_clause 85 = .ok (.putfield 182, 3) := by decide +kernel
theorem dX12_clause_88 : decode cX12_clause 88 = .ok (.aload_n 0, 1) := by decide +kernel
theorem dX12_clause_89 : decode cX12_clause 89 = .ok (.iconst 0, 1) := by decide +kernel
theorem dX12_clause_90 : decode cX12_clause 90 = .ok (.putfield 198, 3) := by decide +kernel
theorem dX12_clause_93 : decode cX12_clause 93 = .ok (.aload_n 0, 1) := by decide +kernel
theorem dX12_clause_94 : decode cX12_clause 94 = .ok (.iconst 0, 1) := by decide +kernel
theorem dX12_clause_95 : decode cX12_clause 95 = .ok (.putfield 201, 3) := by decide +kernel
theorem dX12_clause_98 : decode cX12_clause 98 = .ok (.aload_n 0, 1) := by decide +kernel
theorem dX12_clause_99 : decode cX12_clause 99 = .ok (.invokevirtual 256, 3) := by decide +kernel
theorem dX12_clause_102 : decode cX12_clause 102 = .ok (.aload_n 0, 1) := by decide +kernel
theorem dX12_clause_103 : decode cX12_clause 103 = .ok (.getfield 69, 3) := by decide +kernel
theorem dX12_clause_106 : decode cX12_clause 106 = .ok (.aload_n 0, 1) := by decide +kernel
theorem dX12_clause_107 : decode cX12_clause 107 = .ok (.getfield 277, 3) := by decide +kernel
theorem dX12_clause_110 : decode cX12_clause 110 = .ok (.aload_n 0, 1) := by decide +kernel
theorem dX12_clause_111 : decode cX12_clause 111 = .ok (.getfield 195, 3) := by decide +kernel
theorem dX12_clause_114 : decode cX12_clause 114 = .ok (.iastore, 1) := by decide +kernel
theorem dX12_clause_115 : decode cX12_clause 115 = .ok (.aload_n 0, 1) := by decide +kernel
theorem dX12_clause_116 : decode cX12_clause 116 = .ok (.invokevirtual 191, 3) := by decide +kernel
theorem dX12_clause_119 : decode cX12_clause 119 = .ok (.ifCond .eq 7, 3) := by decide +kernel
theorem dX12_clause_122 : decode cX12_clause 122 = .ok (.aload_n 0, 1) := by decide +kernel
theorem dX12_clause_123 : decode cX12_clause 123 = .ok (.invokevirtual 280, 3) := by decide +kernel
theorem dX12_clause_126 : decode cX12_clause 126 = .ok (.aload_n 0, 1) := by decide +kernel
theorem dX12_clause_127 : decode cX12_clause 127 = .ok (.getfield 72, 3) := by decide +kernel
theorem dX12_clause_130 : decode cX12_clause 130 = .ok (.aload_n 0, 1) := by decide +kernel
theorem dX12_clause_131 : decode cX12_clause 131 = .ok (.getfield 277, 3) := by decide +kernel
theorem dX12_clause_134 : decode cX12_clause 134 = .ok (.aload_n 0, 1) := by decide +kernel
theorem dX12_clause_135 : decode cX12_clause 135 = .ok (.getfield 195, 3) := by decide +kernel
theorem dX12_clause_138 : decode cX12_clause 138 = .ok (.iastore, 1) := by decide +kernel
theorem dX12_clause_139 : decode cX12_clause 139 = .ok (.aload_n 0, 1) := by decide +kernel
theorem dX12_clause_140 : decode cX12_clause 140 = .ok (.dup, 1) := by decide +kernel
theorem dX12_clause_141 : decode cX12_clause 141 = .ok (.getfield 277, 3) := by decide +kernel
theorem dX12_clause_144 : decode cX12_clause 144 = .ok (.iconst 1, 1) := by decide +kernel
theorem dX12_clause_145 : decode cX12_clause 145 = .ok (.iadd, 1) := by decide +kernel
theorem dX12_clause_146 : decode cX12_clause 146 = .ok (.putfield 277, 3) := by decide +kernel
theorem dX12_clause_149 : decode cX12_clause 149 = .ok (.return_, 1) := by decide +kernel
theorem dX12_text_0 : decode cX12_text 0 = .ok (.iload_n 1, 1) := by decide +kernel
theorem dX12_text_1 : decode cX12_text 1 = .ok (.i2l, 1) := by decide +kernel
theorem dX12_text_2 : decode cX12_text 2 = .ok (.lconst 1, 1) := by decide +kernel
theorem dX12_text_3 : decode cX12_text 3 = .ok (.ldc2_w 283, 3) := by decide +kernel
theorem dX12_text_6 : decode cX12_text 6 = .ok (.invokestatic 140, 3) := by decide +kernel
theorem dX12_text_9 : decode cX12_text 9 = .ok (.ifCond .eq 11, 3) := by decide +kernel
theorem dX12_text_12 : decode cX12_text 12 = .ok (.iload_n 1, 1) := by decide +kernel
theorem dX12_text_13 : decode cX12_text 13 = .ok (.aload_n 0, 1) := by decide +kernel
theorem dX12_text_14 : decode cX12_text 14 = .ok (.getfield 165, 3) := by decide +kernel
theorem dX12_text_17 : decode cX12_text 17 = .ok (.if_icmp .le 5, 3) := by decide +kernel
theorem dX12_text_20 : decode cX12_text 20 = .ok (.iconst (-1), 1) := by decide +kernel
theorem dX12_text_21 : decode cX12_text 21 = .ok (.ireturn, 1) := by decide +kernel
theorem dX12_text_22 : decode cX12_text 22 = .ok (.aload_n 0, 1) := by decide +kernel
theorem dX12_text_23 : decode cX12_text 23 = .ok (.iconst 0, 1) := by decide +kernel
theorem dX12_text_24 : decode cX12_text 24 = .ok (.putfield 165, 3) := by decide +kernel
theorem dX12_text_27 : decode cX12_text 27 = .ok (.aload_n 0, 1) := by decide +kernel
theorem dX12_text_28 : decode cX12_text 28 = .ok (.iconst 0, 1) := by decide +kernel
theorem dX12_text_29 : decode cX12_text 29 = .ok (.putfield 182, 3) := by decide +kernel
theorem dX12_text_32 : decode cX12_text 32 = .ok (.aload_n 0, 1) := by decide +kernel
theorem dX12_text_33 : decode cX12_text 33 = .ok (.iload_n 1, 1) := by decide +kernel
theorem dX12_text_34 : decode cX12_text 34 = .ok (.putfield 185, 3) := by decide +kernel
theorem dX12_text_37 : decode cX12_text 37 = .ok (.aload_n 0, 1) := by decide +kernel
theorem dX12_text_38 : decode cX12_text 38 = .ok (.iconst 0, 1) := by decide +kernel
theorem dX12_text_39 : decode cX12_text 39 = .ok (.putfield 188, 3) := by decide +kernel
theorem dX12_text_42 : decode cX12_text 42 = .ok (.aload_n 0, 1) := by decide +kernel
theorem dX12_text_43 : decode cX12_text 43 = .ok (.iconst 0, 1) := by decide +kernel
theorem dX12_text_44 : decode cX12_text 44 = .ok (.putfield 277, 3) := by decide +kernel
theorem dX12_text_47 : decode cX12_text 47 = .ok (.aload_n 0, 1) := by decide +kernel
theorem dX12_text_48 : decode cX12_text 48 = .ok (.iconst 0, 1) := by decide +kernel
theorem dX12_text_49 : decode cX12_text 49 = .ok (.putfield 195, 3) := by decide +kernel
theorem dX12_text_52 : decode cX12_text 52 = .ok (.iconst 1, 1) := by decide +kernel
theorem dX12_text_53 : decode cX12_text 53 = .ok (.istore_n 2, 1) := by decide +kernel
theorem dX12_text_54 : decode cX12_text 54 = .ok (.iload_n 2, 1) := by decide +kernel
theorem dX12_text_55 : decode cX12_text 55 = .ok (.ifCond .eq 73, 3) := by decide +kernel
theorem dX12_text_58 : decode cX12_text 58 = .ok (.aload_n 0, 1) := by decide +kernel
theorem dX12_text_59 : decode cX12_text 59 = .ok (.invokevirtual 191, 3) := by decide +kernel
theorem dX12_text_62 : decode cX12_text 62 = .ok (.ifCond .eq 66, 3) := by decide +kernel
theorem dX12_text_65 : decode cX12_text 65 = .ok (.aload_n 0, 1) := by decide +kernel
theorem dX12_text_66 : decode cX12_text 66 = .ok (.invokevirtual 285, 3) := by decide +kernel
theorem dX12_text_69 : decode cX12_text 69 = .ok (.aload_n 0, 1) := by decide +kernel
theorem dX12_text_70 : decode cX12_text 70 = .ok (.invokevirtual 191, 3) := by decide +kernel
theorem dX12_text_73 : decode cX12_text 73 = .ok (.ifCond .eq 18, 3) := by decide +kernel
theorem dX12_text_76 : decode cX12_text 76 = .ok (.aload_n 0, 1) := by decide +kernel
theorem dX12_text_77 : decode cX12_text 77 = .ok (.getfield 182, 3) := by decide +kernel
theorem dX12_text_80 : decode cX12_text 80 = .ok (.aload_n 0, 1) := by decide +kernel
theorem dX12_text_81 : decode cX12_text 81 = .ok (.getfield 185, 3) := by decide +kernel
theorem dX12_text_84 : decode cX12_text 84 = .ok (.if_icmp .ge 7, 3) := by decide +kernel
theorem dX12_text_87 : decode cX12_text 87 = .ok (.iconst 1, 1) := by decide +kernel
theorem dX12_text_88 : decode cX12_text 88 = .ok (.goto 4, 3) := by decide +kernel
theorem dX12_text_91 : decode cX12_text 91 = .ok (.iconst 0, 1) := by decide +kernel
theorem dX12_text_92 : decode cX12_text 92 = .ok (.istore_n 2, 1) := by decide +kernel
theorem dX12_text_93 : decode cX12_text 93 = .ok (.iload_n 2, 1) := by decide +kernel
theorem dX12_text_94 : decode cX12_text 94 = .ok (.ifCond .eq (-40), 3) := by decide +kernel
theorem dX12_text_97 : decode cX12_text 97 = .ok (.aload_n 0, 1) := by decide +kernel
theorem dX12_text_98 : decode cX12_text 98 = .ok (.invokevirtual 208, 3) := by decide +kernel
theorem dX12_text_101 : decode cX12_text 101 = .ok (.bipush 59, 2) := by decide +kernel
theorem dX12_text_103 : decode cX12_text 103 = .ok (.if_icmp .eq 12, 3) := by decide +kernel
theorem dX12_text_106 : decode cX12_text 106 = .ok (.aload_n 0, 1) := by decide +kernel
theorem dX12_text_107 : decode cX12_text 107 = .ok (.iconst 1, 1) := by decide +kernel
theorem dX12_text_108 : decode cX12_text 108 = .ok (.aload_n 0, 1) := by decide +kernel
theorem dX12_text_109 : decode cX12_text 109 = .ok (.getfield 182, 3) := by decide +kernel
theorem dX12_text_112 : decode cX12_text 112 = .ok (.invokevirtual 204, 3) := by decide +kernel
theorem dX12_text_115 : decode cX12_text 115 = .ok (.aload_n 0, 1) := by decide +kernel
theorem dX12_text_116 : decode cX12_text 116 = .ok (.dup, 1) := by decide +kernel
theorem dX12_text_117 : decode cX12_text 117 = .ok (.getfield 182, 3) := by decide +kernel
theorem dX12_text_120 : decode cX12_text 120 = .ok (.iconst 1, 1) := by decide +kernel
theorem dX12_text_121 : decode cX12_text 121 = .ok (.iadd, 1) := by decide +kernel
theorem dX12_text_122 : decode cX12_text 122 = .ok (.putfield 182, 3) := by decide +kernel
theorem dX12_text_125 : decode cX12_text 125 = .ok (.goto (-71), 3) := by decide +kernel
theorem dX12_text_128 : decode cX12_text 128 = .ok (.aload_n 0, 1) := by decide +kernel
theorem dX12_text_129 : decode cX12_text 129 = .ok (.getfield 188, 3) := by decide +kernel
theorem dX12_text_132 : decode cX12_text 132 = .ok (.ifCond .ge 8, 3) := by decide +kernel
theorem dX12_text_135 : decode cX12_text 135 = .ok (.aload_n 0, 1) := by decide +kernel
theorem dX12_text_136 : decode cX12_text 136 = .ok (.getfield 188, 3) := by decide +kernel
theorem dX12_text_139 : decode cX12_text 139 = .ok (.ireturn, 1) := by decide +kernel
theorem dX12_text_140 : decode cX12_text 140 = .ok (.iconst 0, 1) := by decide +kernel
theorem dX12_text_141 : decode cX12_text 141 = .ok (.istore_n 3, 1) := by decide +kernel
theorem dX12_text_142 : decode cX12_text 142 = .ok (.iload_n 3, 1) := by decide +kernel
theorem dX12_text_143 : decode cX12_text 143 = .ok (.aload_n 0, 1) := by decide +kernel
theorem dX12_text_144 : decode cX12_text 144 = .ok (.getfield 277, 3) := by decide +kernel
theorem dX12_text_147 : decode cX12_text 147 = .ok (.if_icmp .ge 57, 3) := by decide +kernel
theorem dX12_text_150 : decode cX12_text 150 = .ok (.aload_n 0, 1) := by decide +kernel
theorem dX12_text_151 : decode cX12_text 151 = .ok (.getfield 45, 3) := by decide +kernel
theorem dX12_text_154 : decode cX12_text 154 = .ok (.iload_n 3, 1) := by decide +kernel
theorem dX12_text_155 : decode cX12_text 155 = .ok (.aload_n 0, 1) := by decide +kernel
theorem dX12_text_156 : decode cX12_text 156 = .ok (.getfield 63, 3) := by decide +kernel
theorem dX12_text_159 : decode cX12_text 159 = .ok (.iload_n 3, 1) := by decide +kernel
theorem dX12_text_160 : decode cX12_text 160 = .ok (.iaload, 1) := by decide +kernel
theorem dX12_text_161 : decode cX12_text 161 = .ok (.iastore, 1) := by decide +kernel
theorem dX12_text_162 : decode cX12_text 162 = .ok (.aload_n 0, 1) := by decide +kernel
theorem dX12_text_163 : decode cX12_text 163 = .ok (.getfield 48, 3) := by decide +kernel
theorem dX12_text_166 : decode cX12_text 166 = .ok (.iload_n 3, 1) := by decide +kernel
theorem dX12_text_167 : decode cX12_text 167 = .ok (.aload_n 0, 1) := by decide +kernel
theorem dX12_text_168 : decode cX12_text 168 = .ok (.getfield 66, 3) := by decide +kernel
theorem dX12_text_171 : decode cX12_text 171 = .ok (.iload_n 3, 1) := by decide +kernel
theorem dX12_text_172 : decode cX12_text 172 = .ok (.iaload, 1) := by decide +kernel
theorem dX12_text_173 : decode cX12_text 173 = .ok (.iastore, 1) := by decide +kernel
theorem dX12_text_174 : decode cX12_text 174 = .ok (.aload_n 0, 1) := by decide +kernel
theorem dX12_text_175 : decode cX12_text 175 = .ok (.getfield 51, 3) := by decide +kernel
theorem dX12_text_178 : decode cX12_text 178 = .ok (.iload_n 3, 1) := by decide +kernel
theorem dX12_text_179 : decode cX12_text 179 = .ok (.aload_n 0, 1) := by decide +kernel
theorem dX12_text_180 : decode cX12_text 180 = .ok (.getfield 69, 3) := by decide +kernel
theorem dX12_text_183 : decode cX12_text 183 = .ok (.iload_n 3, 1) := by decide +kernel
theorem dX12_text_184 : decode cX12_text 184 = .ok (.iaload, 1) := by decide +kernel
theorem dX12_text_185 : decode cX12_text 185 = .ok (.iastore, 1) := by decide +kernel
theorem dX12_text_186 : decode cX12_text 186 = .ok (.aload_n 0, 1) := by decide +kernel
theorem dX12_text_187 : decode cX12_text 187 = .ok (.getfield 54, 3) := by decide +kernel
theorem dX12_text_190 : decode cX12_text 190 = .ok (.iload_n 3, 1) := by decide +kernel
theorem dX12_text_191 : decode cX12_text 191 = .ok (.aload_n 0, 1) := by decide +kernel
theorem dX12_text_192 : decode cX12_text 192 = .ok (.getfield 72, 3) := by decide +kernel
theorem dX12_text_195 : decode cX12_text 195 = .ok (.iload_n 3, 1) := by decide +kernel
theorem dX12_text_196 : decode cX12_text 196 = .ok (.iaload, 1) := by decide +kernel
theorem dX12_text_197 : decode cX12_text 197 = .ok (.iastore, 1) := by decide +kernel
theorem dX12_text_198 : decode cX12_text 198 = .ok (.iinc 3 1, 3) := by decide +kernel
theorem dX12_text_201 : decode cX12_text 201 = .ok (.goto (-59), 3) := by decide +kernel
theorem dX12_text_204 : decode cX12_text 204 = .ok (.iconst 0, 1) := by decide +kernel
theorem dX12_text_205 : decode cX12_text 205 = .ok (.istore_n 3, 1) := by decide +kernel
theorem dX12_text_206 : decode cX12_text 206 = .ok (.iload_n 3, 1) := by decide +kernel
theorem dX12_text_207 : decode cX12_text 207 = .ok (.aload_n 0, 1) := by decide +kernel
theorem dX12_text_208 : decode cX12_text 208 = .ok (.getfield 195, 3) := by decide +kernel
theorem dX12_text_211 : decode cX12_text 211 = .ok (.if_icmp .ge 33, 3) := by decide +kernel
theorem dX12_text_214 : decode cX12_text 214 = .ok (.aload_n 0, 1) := by decide +kernel
theorem dX12_text_215 : decode cX12_text 215 = .ok (.getfield 57, 3) := by decide +kernel
theorem dX12_text_218 : decode cX12_text 218 = .ok (.iload_n 3, 1) := by decide +kernel
theorem dX12_text_219 : decode cX12_text 219 = .ok (.aload_n 0, 1) := by decide +kernel
theorem dX12_text_220 : decode cX12_text 220 = .ok (.getfield 75, 3) := by decide +kernel
theorem dX12_text_223 : decode cX12_text 223 = .ok (.iload_n 3, 1) := by decide +kernel
theorem dX12_text_224 : decode cX12_text 224 = .ok (.iaload, 1) := by decide +kernel
theorem dX12_text_225 : decode cX12_text 225 = .ok (.iastore, 1) := by decide +kernel
theorem dX12_text_226 : decode cX12_text 226 = .ok (.aload_n 0, 1) := by decide +kernel
theorem dX12_text_227 : decode cX12_text 227 = .ok (.getfield 60, 3) := by decide +kernel
theorem dX12_text_230 : decode cX12_text 230 = .ok (.iload_n 3, 1) := by decide +kernel
theorem dX12_text_231 : decode cX12_text 231 = .ok (.aload_n 0, 1) := by decide +kernel
theorem dX12_text_232 : decode cX12_text 232 = .ok (.getfield 78, 3) := by decide +kernel
theorem dX12_text_235 : decode cX12_text 235 = .ok (.iload_n 3, 1) := by decide +kernel
theorem dX12_text_236 : decode cX12_text 236 = .ok (.iaload, 1) := by decide +kernel
theorem dX12_text_237 : decode cX12_text 237 = .ok (.iastore, 1) := by decide +kernel
theorem dX12_text_238 : decode cX12_text 238 = .ok (.iinc 3 1, 3) := by decide +kernel
theorem dX12_text_241 : decode cX12_text 241 = .ok (.goto (-35), 3) := by decide +kernel
theorem dX12_text_244 : decode cX12_text 244 = .ok (.aload_n 0, 1) := by decide +kernel
theorem dX12_text_245 : decode cX12_text 245 = .ok (.aload_n 0, 1) := by decide +kernel
theorem dX12_text_246 : decode cX12_text 246 = .ok (.getfield 277, 3) := by decide +kernel
theorem dX12_text_249 : decode cX12_text 249 = .ok (.putfield 288, 3) := by decide +kernel
theorem dX12_text_252 : decode cX12_text 252 = .ok (.aload_n 0, 1) := by decide +kernel
theorem dX12_text_253 : decode cX12_text 253 = .ok (.invokevirtual 153, 3) := by decide +kernel
theorem dX12_text_256 : decode cX12_text 256 = .ok (.aload_n 0, 1) := by decide +kernel
theorem dX12_text_257 : decode cX12_text 257 = .ok (.getfield 288, 3) := by decide +kernel
theorem dX12_text_260 : decode cX12_text 260 = .ok (.ireturn, 1) := by decide +kernel
theorem dX12_manyOf_0 : decode cX12_manyOf 0 = .ok (.iload_n 0, 1) := by decide +kernel
theorem dX12_manyOf_1 : decode cX12_manyOf 1 = .ok (.iconst 1, 1) := by decide +kernel
theorem dX12_manyOf_2 : decode cX12_manyOf 2 = .ok (.if_icmp .ge 7, 3) := by decide +kernel
theorem dX12_manyOf_5 : decode cX12_manyOf 5 = .ok (.iconst 0, 1) := by decide +kernel
theorem dX12_manyOf_6 : decode cX12_manyOf 6 = .ok (.goto 35, 3) := by decide +kernel
theorem dX12_manyOf_9 : decode cX12_manyOf 9 = .ok (.iload_n 0, 1) := by decide +kernel
theorem dX12_manyOf_10 : decode cX12_manyOf 10 = .ok (.bipush 9, 2) := by decide +kernel
theorem dX12_manyOf_12 : decode cX12_manyOf 12 = .ok (.if_icmp .ge 7, 3) := by decide +kernel
theorem dX12_manyOf_15 : decode cX12_manyOf 15 = .ok (.iconst 1, 1) := by decide +kernel
theorem dX12_manyOf_16 : decode cX12_manyOf 16 = .ok (.goto 25, 3) := by decide +kernel
theorem dX12_manyOf_19 : decode cX12_manyOf 19 = .ok (.iload_n 0, 1) := by decide +kernel
theorem dX12_manyOf_20 : decode cX12_manyOf 20 = .ok (.bipush 73, 2) := by decide +kernel
theorem dX12_manyOf_22 : decode cX12_manyOf 22 = .ok (.if_icmp .ge 7, 3) := by decide +kernel
theorem dX12_manyOf_25 : decode cX12_manyOf 25 = .ok (.iconst 2, 1) := by decide +kernel
theorem dX12_manyOf_26 : decode cX12_manyOf 26 = .ok (.goto 15, 3) := by decide +kernel
theorem dX12_manyOf_29 : decode cX12_manyOf 29 = .ok (.iload_n 0, 1) := by decide +kernel
theorem dX12_manyOf_30 : decode cX12_manyOf 30 = .ok (.sipush 585, 3) := by decide +kernel
theorem dX12_manyOf_33 : decode cX12_manyOf 33 = .ok (.if_icmp .ge 7, 3) := by decide +kernel
theorem dX12_manyOf_36 : decode cX12_manyOf 36 = .ok (.iconst 3, 1) := by decide +kernel
theorem dX12_manyOf_37 : decode cX12_manyOf 37 = .ok (.goto 4, 3) := by decide +kernel
theorem dX12_manyOf_40 : decode cX12_manyOf 40 = .ok (.iconst 4, 1) := by decide +kernel
theorem dX12_manyOf_41 : decode cX12_manyOf 41 = .ok (.ireturn, 1) := by decide +kernel
theorem dX12_firstOf_0 : decode cX12_firstOf 0 = .ok (.iload_n 0, 1) := by decide +kernel
theorem dX12_firstOf_1 : decode cX12_firstOf 1 = .ok (.ifCond .ne 7, 3) := by decide +kernel
theorem dX12_firstOf_4 : decode cX12_firstOf 4 = .ok (.iconst 0, 1) := by decide +kernel
theorem dX12_firstOf_5 : decode cX12_firstOf 5 = .ok (.goto 35, 3) := by decide +kernel
theorem dX12_firstOf_8 : decode cX12_firstOf 8 = .ok (.iload_n 0, 1) := by decide +kernel
theorem dX12_firstOf_9 : decode cX12_firstOf 9 = .ok (.iconst 1, 1) := by decide +kernel
theorem dX12_firstOf_10 : decode cX12_firstOf 10 = .ok (.if_icmp .ne 7, 3) := by decide +kernel
theorem dX12_firstOf_13 : decode cX12_firstOf 13 = .ok (.iconst 1, 1) := by decide +kernel
theorem dX12_firstOf_14 : decode cX12_firstOf 14 = .ok (.goto 26, 3) := by decide +kernel
theorem dX12_firstOf_17 : decode cX12_firstOf 17 = .ok (.iload_n 0, 1) := by decide +kernel
theorem dX12_firstOf_18 : decode cX12_firstOf 18 = .ok (.iconst 2, 1) := by decide +kernel
theorem dX12_firstOf_19 : decode cX12_firstOf 19 = .ok (.if_icmp .ne 8, 3) := by decide +kernel
theorem dX12_firstOf_22 : decode cX12_firstOf 22 = .ok (.bipush 9, 2) := by decide +kernel
theorem dX12_firstOf_24 : decode cX12_firstOf 24 = .ok (.goto 16, 3) := by decide +kernel
theorem dX12_firstOf_27 : decode cX12_firstOf 27 = .ok (.iload_n 0, 1) := by decide +kernel
theorem dX12_firstOf_28 : decode cX12_firstOf 28 = .ok (.iconst 3, 1) := by decide +kernel
theorem dX12_firstOf_29 : decode cX12_firstOf 29 = .ok (.if_icmp .ne 8, 3) := by decide +kernel
theorem dX12_firstOf_32 : decode cX12_firstOf 32 = .ok (.bipush 73, 2) := by decide +kernel
theorem dX12_firstOf_34 : decode cX12_firstOf 34 = .ok (.goto 6, 3) := by decide +kernel
theorem dX12_firstOf_37 : decode cX12_firstOf 37 = .ok (.sipush 585, 3) := by decide +kernel
theorem dX12_firstOf_40 : decode cX12_firstOf 40 = .ok (.ireturn, 1) := by decide +kernel
theorem dX12_has_0 : decode cX12_has 0 = .ok (.iload_n 0, 1) := by decide +kernel
theorem dX12_has_1 : decode cX12_has 1 = .ok (.iload_n 1, 1) := by decide +kernel
theorem dX12_has_2 : decode cX12_has 2 = .ok (.ishr, 1) := by decide +kernel
theorem dX12_has_3 : decode cX12_has 3 = .ok (.iconst 1, 1) := by decide +kernel
theorem dX12_has_4 : decode cX12_has 4 = .ok (.iand, 1) := by decide +kernel
theorem dX12_has_5 : decode cX12_has 5 = .ok (.iconst 1, 1) := by decide +kernel
theorem dX12_has_6 : decode cX12_has 6 = .ok (.if_icmp .ne 7, 3) := by decide +kernel
theorem dX12_has_9 : decode cX12_has 9 = .ok (.iconst 1, 1) := by decide +kernel
theorem dX12_has_10 : decode cX12_has 10 = .ok (.goto 4, 3) := by decide +kernel
theorem dX12_has_13 : decode cX12_has 13 = .ok (.iconst 0, 1) := by decide +kernel
theorem dX12_has_14 : decode cX12_has 14 = .ok (.ireturn, 1) := by decide +kernel
theorem dX12_laysRow_0 : decode cX12_laysRow 0 = .ok (.aload_n 0, 1) := by decide +kernel
theorem dX12_laysRow_1 : decode cX12_laysRow 1 = .ok (.iload_n 1, 1) := by decide +kernel
theorem dX12_laysRow_2 : decode cX12_laysRow 2 = .ok (.invokestatic 323, 3) := by decide +kernel
theorem dX12_laysRow_5 : decode cX12_laysRow 5 = .ok (.putfield 297, 3) := by decide +kernel
theorem dX12_laysRow_8 : decode cX12_laysRow 8 = .ok (.iload_n 1, 1) := by decide +kernel
theorem dX12_laysRow_9 : decode cX12_laysRow 9 = .ok (.aload_n 0, 1) := by decide +kernel
theorem dX12_laysRow_10 : decode cX12_laysRow 10 = .ok (.getfield 297, 3) := by decide +kernel
theorem dX12_laysRow_13 : decode cX12_laysRow 13 = .ok (.invokestatic 326, 3) := by decide +kernel
theorem dX12_laysRow_16 : decode cX12_laysRow 16 = .ok (.isub, 1) := by decide +kernel
theorem dX12_laysRow_17 : decode cX12_laysRow 17 = .ok (.istore_n 2, 1) := by decide +kernel
theorem dX12_laysRow_18 : decode cX12_laysRow 18 = .ok (.aload_n 0, 1) := by decide +kernel
theorem dX12_laysRow_19 : decode cX12_laysRow 19 = .ok (.iconst 0, 1) := by decide +kernel
theorem dX12_laysRow_20 : decode cX12_laysRow 20 = .ok (.putfield 329, 3) := by decide +kernel
theorem dX12_laysRow_23 : decode cX12_laysRow 23 = .ok (.aload_n 0, 1) := by decide +kernel
theorem dX12_laysRow_24 : decode cX12_laysRow 24 = .ok (.getfield 297, 3) := by decide +kernel
theorem dX12_laysRow_27 : decode cX12_laysRow 27 = .ok (.iconst 1, 1) := by decide +kernel
theorem dX12_laysRow_28 : decode cX12_laysRow 28 = .ok (.isub, 1) := by decide +kernel
theorem dX12_laysRow_29 : decode cX12_laysRow 29 = .ok (.istore_n 3, 1) := by decide +kernel
theorem dX12_laysRow_30 : decode cX12_laysRow 30 = .ok (.iload_n 3, 1) := by decide +kernel
theorem dX12_laysRow_31 : decode cX12_laysRow 31 = .ok (.ifCond .lt 41, 3) := by decide +kernel
theorem dX12_laysRow_34 : decode cX12_laysRow 34 = .ok (.aload_n 0, 1) := by decide +kernel
theorem dX12_laysRow_35 : decode cX12_laysRow 35 = .ok (.getfield 91, 3) := by decide +kernel
theorem dX12_laysRow_38 : decode cX12_laysRow 38 = .ok (.iload_n 3, 1) := by decide +kernel
theorem dX12_laysRow_39 : decode cX12_laysRow 39 = .ok (.iload_n 2, 1) := by decide +kernel
theorem dX12_laysRow_40 : decode cX12_laysRow 40 = .ok (.bipush 8, 2) := by decide +kernel
theorem dX12_laysRow_42 : decode cX12_laysRow 42 = .ok (.irem, 1) := by decide +kernel
theorem dX12_laysRow_43 : decode cX12_laysRow 43 = .ok (.iastore, 1) := by decide +kernel
theorem dX12_laysRow_44 : decode cX12_laysRow 44 = .ok (.iload_n 2, 1) := by decide +kernel
theorem dX12_laysRow_45 : decode cX12_laysRow 45 = .ok (.bipush 8, 2) := by decide +kernel
theorem dX12_laysRow_47 : decode cX12_laysRow 47 = .ok (.idiv, 1) := by decide +kernel
theorem dX12_laysRow_48 : decode cX12_laysRow 48 = .ok (.istore_n 2, 1) := by decide +kernel
theorem dX12_laysRow_49 : decode cX12_laysRow 49 = .ok (.aload_n 0, 1) := by decide +kernel
theorem dX12_laysRow_50 : decode cX12_laysRow 50 = .ok (.dup, 1) := by decide +kernel
theorem dX12_laysRow_51 : decode cX12_laysRow 51 = .ok (.getfield 329, 3) := by decide +kernel
theorem dX12_laysRow_54 : decode cX12_laysRow 54 = .ok (.iconst 1, 1) := by decide +kernel
theorem dX12_laysRow_55 : decode cX12_laysRow 55 = .ok (.aload_n 0, 1) := by decide +kernel
theorem dX12_laysRow_56 : decode cX12_laysRow 56 = .ok (.getfield 91, 3) := by decide +kernel
theorem dX12_laysRow_59 : decode cX12_laysRow 59 = .ok (.iload_n 3, 1) := by decide +kernel
theorem dX12_laysRow_60 : decode cX12_laysRow 60 = .ok (.iaload, 1) := by decide +kernel
theorem dX12_laysRow_61 : decode cX12_laysRow 61 = .ok (.ishl, 1) := by decide +kernel
theorem dX12_laysRow_62 : decode cX12_laysRow 62 = .ok (.ior, 1) := by decide +kernel
theorem dX12_laysRow_63 : decode cX12_laysRow 63 = .ok (.putfield 329, 3) := by decide +kernel
theorem dX12_laysRow_66 : decode cX12_laysRow 66 = .ok (.iinc 3 (-1), 3) := by decide +kernel
theorem dX12_laysRow_69 : decode cX12_laysRow 69 = .ok (.goto (-39), 3) := by decide +kernel
theorem dX12_laysRow_72 : decode cX12_laysRow 72 = .ok (.aload_n 0, 1) := by decide +kernel
theorem dX12_laysRow_73 : decode cX12_laysRow 73 = .ok (.iconst 0, 1) := by decide +kernel
theorem dX12_laysRow_74 : decode cX12_laysRow 74 = .ok (.putfield 332, 3) := by decide +kernel
theorem dX12_laysRow_77 : decode cX12_laysRow 77 = .ok (.iconst 0, 1) := by decide +kernel
theorem dX12_laysRow_78 : decode cX12_laysRow 78 = .ok (.istore_n 3, 1) := by decide +kernel
theorem dX12_laysRow_79 : decode cX12_laysRow 79 = .ok (.iload_n 3, 1) := by decide +kernel
theorem dX12_laysRow_80 : decode cX12_laysRow 80 = .ok (.aload_n 0, 1) := by decide +kernel
theorem dX12_laysRow_81 : decode cX12_laysRow 81 = .ok (.getfield 144, 3) := by decide +kernel
theorem dX12_laysRow_84 : decode cX12_laysRow 84 = .ok (.if_icmp .ge 52, 3) := by decide +kernel
theorem dX12_laysRow_87 : decode cX12_laysRow 87 = .ok (.aload_n 0, 1) := by decide +kernel
theorem dX12_laysRow_88 : decode cX12_laysRow 88 = .ok (.dup, 1) := by decide +kernel
theorem dX12_laysRow_89 : decode cX12_laysRow 89 = .ok (.getfield 332, 3) := by decide +kernel
theorem dX12_laysRow_92 : decode cX12_laysRow 92 = .ok (.aload_n 0, 1) := by decide +kernel
theorem dX12_laysRow_93 : decode cX12_laysRow 93 = .ok (.getfield 329, 3) := by decide +kernel
theorem dX12_laysRow_96 : decode cX12_laysRow 96 = .ok (.iload_n 3, 1) := by decide +kernel
theorem dX12_laysRow_97 : decode cX12_laysRow 97 = .ok (.invokestatic 335, 3) := by decide +kernel
theorem dX12_laysRow_100 : decode cX12_laysRow 100 = .ok (.ifCond .eq 25, 3) := by decide +kernel
theorem dX12_laysRow_103 : decode cX12_laysRow 103 = .ok (.aload_n 0, 1) := by decide +kernel
theorem dX12_laysRow_104 : decode cX12_laysRow 104 = .ok (.getfield 27, 3) := by decide +kernel
theorem dX12_laysRow_107 : decode cX12_laysRow 107 = .ok (.iload_n 3, 1) := by decide +kernel
theorem dX12_laysRow_108 : decode cX12_laysRow 108 = .ok (.iaload, 1) := by decide +kernel
theorem dX12_laysRow_109 : decode cX12_laysRow 109 = .ok (.aload_n 0, 1) := by decide +kernel
theorem dX12_laysRow_110 : decode cX12_laysRow 110 = .ok (.getfield 329, 3) := by decide +kernel
theorem dX12_laysRow_113 : decode cX12_laysRow 113 = .ok (.iconst (-1), 1) := by decide +kernel
theorem dX12_laysRow_114 : decode cX12_laysRow 114 = .ok (.ixor, 1) := by decide +kernel
theorem dX12_laysRow_115 : decode cX12_laysRow 115 = .ok (.iand, 1) := by decide +kernel
theorem dX12_laysRow_116 : decode cX12_laysRow 116 = .ok (.ifCond .ne 9, 3) := by decide +kernel
theorem dX12_laysRow_119 : decode cX12_laysRow 119 = .ok (.iconst 1, 1) := by decide +kernel
theorem dX12_laysRow_120 : decode cX12_laysRow 120 = .ok (.iload_n 3, 1) := by decide +kernel
theorem dX12_laysRow_121 : decode cX12_laysRow 121 = .ok (.ishl, 1) := by decide +kernel
theorem dX12_laysRow_122 : decode cX12_laysRow 122 = .ok (.goto 4, 3) := by decide +kernel
theorem dX12_laysRow_125 : decode cX12_laysRow 125 = .ok (.iconst 0, 1) := by decide +kernel
theorem dX12_laysRow_126 : decode cX12_laysRow 126 = .ok (.ior, 1) := by decide +kernel
theorem dX12_laysRow_127 : decode cX12_laysRow 127 = .ok (.putfield 332, 3) := by decide +kernel
theorem dX12_laysRow_130 : decode cX12_laysRow 130 = .ok (.iinc 3 1, 3) := by decide +kernel
theorem dX12_laysRow_133 : decode cX12_laysRow 133 = .ok (.goto (-54), 3) := by decide +kernel
theorem dX12_laysRow_136 : decode cX12_laysRow 136 = .ok (.return_, 1) := by decide +kernel
theorem dX12_oftenOf_0 : decode cX12_oftenOf 0 = .ok (.iconst 0, 1) := by decide +kernel
theorem dX12_oftenOf_1 : decode cX12_oftenOf 1 = .ok (.istore_n 2, 1) := by decide +kernel
theorem dX12_oftenOf_2 : decode cX12_oftenOf 2 = .ok (.iconst 0, 1) := by decide +kernel
theorem dX12_oftenOf_3 : decode cX12_oftenOf 3 = .ok (.istore_n 3, 1) := by decide +kernel
theorem dX12_oftenOf_4 : decode cX12_oftenOf 4 = .ok (.iload_n 3, 1) := by decide +kernel
theorem dX12_oftenOf_5 : decode cX12_oftenOf 5 = .ok (.aload_n 0, 1) := by decide +kernel
theorem dX12_oftenOf_6 : decode cX12_oftenOf 6 = .ok (.getfield 297, 3) := by decide +kernel
theorem dX12_oftenOf_9 : decode cX12_oftenOf 9 = .ok (.if_icmp .ge 27, 3) := by decide +kernel
theorem dX12_oftenOf_12 : decode cX12_oftenOf 12 = .ok (.iload_n 2, 1) := by decide +kernel
theorem dX12_oftenOf_13 : decode cX12_oftenOf 13 = .ok (.aload_n 0, 1) := by decide +kernel
theorem dX12_oftenOf_14 : decode cX12_oftenOf 14 = .ok (.getfield 91, 3) := by decide +kernel
theorem dX12_oftenOf_17 : decode cX12_oftenOf 17 = .ok (.iload_n 3, 1) := by decide +kernel
theorem dX12_oftenOf_18 : decode cX12_oftenOf 18 = .ok (.iaload, 1) := by decide +kernel
theorem dX12_oftenOf_19 : decode cX12_oftenOf 19 = .ok (.iload_n 1, 1) := by decide +kernel
theorem dX12_oftenOf_20 : decode cX12_oftenOf 20 = .ok (.if_icmp .ne 7, 3) := by decide +kernel
theorem dX12_oftenOf_23 : decode cX12_oftenOf 23 = .ok (.iconst 1, 1) := by decide +kernel
theorem dX12_oftenOf_24 : decode cX12_oftenOf 24 = .ok (.goto 4, 3) := by decide +kernel
theorem dX12_oftenOf_27 : decode cX12_oftenOf 27 = .ok (.iconst 0, 1) := by decide +kernel
theorem dX12_oftenOf_28 : decode cX12_oftenOf 28 = .ok (.iadd, 1) := by decide +kernel
theorem dX12_oftenOf_29 : decode cX12_oftenOf 29 = .ok (.istore_n 2, 1) := by decide +kernel
theorem dX12_oftenOf_30 : decode cX12_oftenOf 30 = .ok (.iinc 3 1, 3) := by decide +kernel
theorem dX12_oftenOf_33 : decode cX12_oftenOf 33 = .ok (.goto (-29), 3) := by decide +kernel
theorem dX12_oftenOf_36 : decode cX12_oftenOf 36 = .ok (.iload_n 2, 1) := by decide +kernel
theorem dX12_oftenOf_37 : decode cX12_oftenOf 37 = .ok (.ireturn, 1) := by decide +kernel
theorem dX12_worked_0 : decode cX12_worked 0 = .ok (.iload_n 0, 1) := by decide +kernel
theorem dX12_worked_1 : decode cX12_worked 1 = .ok (.lookupswitch 125 #[(37, 91), (42, 75), (43, 67), (45, 71), (47, 79), (60, 103), (62, 114)], 67) := by decide +kernel
theorem dX12_worked_68 : decode cX12_worked 68 = .ok (.iload_n 1, 1) := by decide +kernel
theorem dX12_worked_69 : decode cX12_worked 69 = .ok (.iload_n 2, 1) := by decide +kernel
theorem dX12_worked_70 : decode cX12_worked 70 = .ok (.iadd, 1) := by decide +kernel
theorem dX12_worked_71 : decode cX12_worked 71 = .ok (.ireturn, 1) := by decide +kernel
theorem dX12_worked_72 : decode cX12_worked 72 = .ok (.iload_n 1, 1) := by decide +kernel
theorem dX12_worked_73 : decode cX12_worked 73 = .ok (.iload_n 2, 1) := by decide +kernel
theorem dX12_worked_74 : decode cX12_worked 74 = .ok (.isub, 1) := by decide +kernel
theorem dX12_worked_75 : decode cX12_worked 75 = .ok (.ireturn, 1) := by decide +kernel
theorem dX12_worked_76 : decode cX12_worked 76 = .ok (.iload_n 1, 1) := by decide +kernel
theorem dX12_worked_77 : decode cX12_worked 77 = .ok (.iload_n 2, 1) := by decide +kernel
theorem dX12_worked_78 : decode cX12_worked 78 = .ok (.imul, 1) := by decide +kernel
theorem dX12_worked_79 : decode cX12_worked 79 = .ok (.ireturn, 1) := by decide +kernel
theorem dX12_worked_80 : decode cX12_worked 80 = .ok (.iload_n 2, 1) := by decide +kernel
theorem dX12_worked_81 : decode cX12_worked 81 = .ok (.ifCond .ne 7, 3) := by decide +kernel
theorem dX12_worked_84 : decode cX12_worked 84 = .ok (.iconst 0, 1) := by decide +kernel
theorem dX12_worked_85 : decode cX12_worked 85 = .ok (.goto 6, 3) := by decide +kernel
theorem dX12_worked_88 : decode cX12_worked 88 = .ok (.iload_n 1, 1) := by decide +kernel
theorem dX12_worked_89 : decode cX12_worked 89 = .ok (.iload_n 2, 1) := by decide +kernel
theorem dX12_worked_90 : decode cX12_worked 90 = .ok (.idiv, 1) := by decide +kernel
theorem dX12_worked_91 : decode cX12_worked 91 = .ok (.ireturn, 1) := by decide +kernel
theorem dX12_worked_92 : decode cX12_worked 92 = .ok (.iload_n 2, 1) := by decide +kernel
theorem dX12_worked_93 : decode cX12_worked 93 = .ok (.ifCond .ne 7, 3) := by decide +kernel
theorem dX12_worked_96 : decode cX12_worked 96 = .ok (.iconst 0, 1) := by decide +kernel
theorem dX12_worked_97 : decode cX12_worked 97 = .ok (.goto 6, 3) := by decide +kernel
theorem dX12_worked_100 : decode cX12_worked 100 = .ok (.iload_n 1, 1) := by decide +kernel
theorem dX12_worked_101 : decode cX12_worked 101 = .ok (.iload_n 2, 1) := by decide +kernel
theorem dX12_worked_102 : decode cX12_worked 102 = .ok (.irem, 1) := by decide +kernel
theorem dX12_worked_103 : decode cX12_worked 103 = .ok (.ireturn, 1) := by decide +kernel
theorem dX12_worked_104 : decode cX12_worked 104 = .ok (.iload_n 1, 1) := by decide +kernel
theorem dX12_worked_105 : decode cX12_worked 105 = .ok (.iload_n 2, 1) := by decide +kernel
theorem dX12_worked_106 : decode cX12_worked 106 = .ok (.if_icmp .ge 7, 3) := by decide +kernel
theorem dX12_worked_109 : decode cX12_worked 109 = .ok (.iconst 1, 1) := by decide +kernel
theorem dX12_worked_110 : decode cX12_worked 110 = .ok (.goto 4, 3) := by decide +kernel
theorem dX12_worked_113 : decode cX12_worked 113 = .ok (.iconst 0, 1) := by decide +kernel
theorem dX12_worked_114 : decode cX12_worked 114 = .ok (.ireturn, 1) := by decide +kernel
theorem dX12_worked_115 : decode cX12_worked 115 = .ok (.iload_n 1, 1) := by decide +kernel
theorem dX12_worked_116 : decode cX12_worked 116 = .ok (.iload_n 2, 1) := by decide +kernel
theorem dX12_worked_117 : decode cX12_worked 117 = .ok (.if_icmp .le 7, 3) := by decide +kernel
theorem dX12_worked_120 : decode cX12_worked 120 = .ok (.iconst 1, 1) := by decide +kernel
theorem dX12_worked_121 : decode cX12_worked 121 = .ok (.goto 4, 3) := by decide +kernel
theorem dX12_worked_124 : decode cX12_worked 124 = .ok (.iconst 0, 1) := by decide +kernel
theorem dX12_worked_125 : decode cX12_worked 125 = .ok (.ireturn, 1) := by decide +kernel
theorem dX12_worked_126 : decode cX12_worked 126 = .ok (.iload_n 1, 1) := by decide +kernel
theorem dX12_worked_127 : decode cX12_worked 127 = .ok (.iload_n 2, 1) := by decide +kernel
theorem dX12_worked_128 : decode cX12_worked 128 = .ok (.if_icmp .ne 7, 3) := by decide +kernel
theorem dX12_worked_131 : decode cX12_worked 131 = .ok (.iconst 1, 1) := by decide +kernel
theorem dX12_worked_132 : decode cX12_worked 132 = .ok (.goto 4, 3) := by decide +kernel
theorem dX12_worked_135 : decode cX12_worked 135 = .ok (.iconst 0, 1) := by decide +kernel
theorem dX12_worked_136 : decode cX12_worked 136 = .ok (.ireturn, 1) := by decide +kernel
theorem dX12_does_0 : decode cX12_does 0 = .ok (.iload_n 2, 1) := by decide +kernel
theorem dX12_does_1 : decode cX12_does 1 = .ok (.iconst 1, 1) := by decide +kernel
theorem dX12_does_2 : decode cX12_does 2 = .ok (.iadd, 1) := by decide +kernel
theorem dX12_does_3 : decode cX12_does 3 = .ok (.istore_n 3, 1) := by decide +kernel
theorem dX12_does_4 : decode cX12_does 4 = .ok (.iload_n 1, 1) := by decide +kernel
theorem dX12_does_5 : decode cX12_does 5 = .ok (.bipush 38, 2) := by decide +kernel
theorem dX12_does_7 : decode cX12_does 7 = .ok (.if_icmp .eq 9, 3) := by decide +kernel
theorem dX12_does_10 : decode cX12_does 10 = .ok (.iload_n 1, 1) := by decide +kernel
theorem dX12_does_11 : decode cX12_does 11 = .ok (.bipush 124, 2) := by decide +kernel
theorem dX12_does_13 : decode cX12_does 13 = .ok (.if_icmp .ne 58, 3) := by decide +kernel
theorem dX12_does_16 : decode cX12_does 16 = .ok (.aload_n 0, 1) := by decide +kernel
theorem dX12_does_17 : decode cX12_does 17 = .ok (.getfield 87, 3) := by decide +kernel
theorem dX12_does_20 : decode cX12_does 20 = .ok (.iload_n 2, 1) := by decide +kernel
theorem dX12_does_21 : decode cX12_does 21 = .ok (.baload, 1) := by decide +kernel
theorem dX12_does_22 : decode cX12_does 22 = .ok (.ifCond .ne 23, 3) := by decide +kernel
theorem dX12_does_25 : decode cX12_does 25 = .ok (.aload_n 0, 1) := by decide +kernel
theorem dX12_does_26 : decode cX12_does 26 = .ok (.getfield 84, 3) := by decide +kernel
theorem dX12_does_29 : decode cX12_does 29 = .ok (.iload_n 2, 1) := by decide +kernel
theorem dX12_does_30 : decode cX12_does 30 = .ok (.iaload, 1) := by decide +kernel
theorem dX12_does_31 : decode cX12_does 31 = .ok (.iload_n 1, 1) := by decide +kernel
theorem dX12_does_32 : decode cX12_does 32 = .ok (.bipush 38, 2) := by decide +kernel
theorem dX12_does_34 : decode cX12_does 34 = .ok (.if_icmp .ne 7, 3) := by decide +kernel
theorem dX12_does_37 : decode cX12_does 37 = .ok (.iconst 1, 1) := by decide +kernel
theorem dX12_does_38 : decode cX12_does 38 = .ok (.goto 4, 3) := by decide +kernel
theorem dX12_does_41 : decode cX12_does 41 = .ok (.iconst 0, 1) := by decide +kernel
theorem dX12_does_42 : decode cX12_does 42 = .ok (.if_icmp .eq 4, 3) := by decide +kernel
theorem dX12_does_45 : decode cX12_does 45 = .ok (.return_, 1) := by decide +kernel
theorem dX12_does_46 : decode cX12_does 46 = .ok (.aload_n 0, 1) := by decide +kernel
theorem dX12_does_47 : decode cX12_does 47 = .ok (.getfield 84, 3) := by decide +kernel
theorem dX12_does_50 : decode cX12_does 50 = .ok (.iload_n 2, 1) := by decide +kernel
theorem dX12_does_51 : decode cX12_does 51 = .ok (.aload_n 0, 1) := by decide +kernel
theorem dX12_does_52 : decode cX12_does 52 = .ok (.getfield 84, 3) := by decide +kernel
theorem dX12_does_55 : decode cX12_does 55 = .ok (.iload_n 3, 1) := by decide +kernel
theorem dX12_does_56 : decode cX12_does 56 = .ok (.iaload, 1) := by decide +kernel
theorem dX12_does_57 : decode cX12_does 57 = .ok (.iastore, 1) := by decide +kernel
theorem dX12_does_58 : decode cX12_does 58 = .ok (.aload_n 0, 1) := by decide +kernel
theorem dX12_does_59 : decode cX12_does 59 = .ok (.getfield 87, 3) := by decide +kernel
theorem dX12_does_62 : decode cX12_does 62 = .ok (.iload_n 2, 1) := by decide +kernel
theorem dX12_does_63 : decode cX12_does 63 = .ok (.aload_n 0, 1) := by decide +kernel
theorem dX12_does_64 : decode cX12_does 64 = .ok (.getfield 87, 3) := by decide +kernel
theorem dX12_does_67 : decode cX12_does 67 = .ok (.iload_n 3, 1) := by decide +kernel
theorem dX12_does_68 : decode cX12_does 68 = .ok (.baload, 1) := by decide +kernel
theorem dX12_does_69 : decode cX12_does 69 = .ok (.bastore, 1) := by decide +kernel
theorem dX12_does_70 : decode cX12_does 70 = .ok (.return_, 1) := by decide +kernel
theorem dX12_does_71 : decode cX12_does 71 = .ok (.aload_n 0, 1) := by decide +kernel
theorem dX12_does_72 : decode cX12_does 72 = .ok (.getfield 87, 3) := by decide +kernel
theorem dX12_does_75 : decode cX12_does 75 = .ok (.iload_n 2, 1) := by decide +kernel
theorem dX12_does_76 : decode cX12_does 76 = .ok (.aload_n 0, 1) := by decide +kernel
theorem dX12_does_77 : decode cX12_does 77 = .ok (.getfield 87, 3) := by decide +kernel
theorem dX12_does_80 : decode cX12_does 80 = .ok (.iload_n 2, 1) := by decide +kernel
theorem dX12_does_81 : decode cX12_does 81 = .ok (.baload, 1) := by decide +kernel
theorem dX12_does_82 : decode cX12_does 82 = .ok (.ifCond .ne 33, 3) := by decide +kernel
theorem dX12_does_85 : decode cX12_does 85 = .ok (.aload_n 0, 1) := by decide +kernel
theorem dX12_does_86 : decode cX12_does 86 = .ok (.getfield 87, 3) := by decide +kernel
theorem dX12_does_89 : decode cX12_does 89 = .ok (.iload_n 3, 1) := by decide +kernel
theorem dX12_does_90 : decode cX12_does 90 = .ok (.baload, 1) := by decide +kernel
theorem dX12_does_91 : decode cX12_does 91 = .ok (.ifCond .ne 24, 3) := by decide +kernel
theorem dX12_does_94 : decode cX12_does 94 = .ok (.iload_n 1, 1) := by decide +kernel
theorem dX12_does_95 : decode cX12_does 95 = .ok (.bipush 47, 2) := by decide +kernel
theorem dX12_does_97 : decode cX12_does 97 = .ok (.if_icmp .eq 9, 3) := by decide +kernel
theorem dX12_does_100 : decode cX12_does 100 = .ok (.iload_n 1, 1) := by decide +kernel
theorem dX12_does_101 : decode cX12_does 101 = .ok (.bipush 37, 2) := by decide +kernel
theorem dX12_does_103 : decode cX12_does 103 = .ok (.if_icmp .ne 16, 3) := by decide +kernel
theorem dX12_does_106 : decode cX12_does 106 = .ok (.aload_n 0, 1) := by decide +kernel
theorem dX12_does_107 : decode cX12_does 107 = .ok (.getfield 84, 3) := by decide +kernel
theorem dX12_does_110 : decode cX12_does 110 = .ok (.iload_n 3, 1) := by decide +kernel
theorem dX12_does_111 : decode cX12_does 111 = .ok (.iaload, 1) := by decide +kernel
theorem dX12_does_112 : decode cX12_does 112 = .ok (.ifCond .ne 7, 3) := by decide +kernel
theorem dX12_does_115 : decode cX12_does 115 = .ok (.iconst 1, 1) := by decide +kernel
theorem dX12_does_116 : decode cX12_does 116 = .ok (.goto 4, 3) := by decide +kernel
theorem dX12_does_119 : decode cX12_does 119 = .ok (.iconst 0, 1) := by decide +kernel
theorem dX12_does_120 : decode cX12_does 120 = .ok (.bastore, 1) := by decide +kernel
theorem dX12_does_121 : decode cX12_does 121 = .ok (.aload_n 0, 1) := by decide +kernel
theorem dX12_does_122 : decode cX12_does 122 = .ok (.getfield 84, 3) := by decide +kernel
theorem dX12_does_125 : decode cX12_does 125 = .ok (.iload_n 2, 1) := by decide +kernel
theorem dX12_does_126 : decode cX12_does 126 = .ok (.iload_n 1, 1) := by decide +kernel
theorem dX12_does_127 : decode cX12_does 127 = .ok (.aload_n 0, 1) := by decide +kernel
theorem dX12_does_128 : decode cX12_does 128 = .ok (.getfield 84, 3) := by decide +kernel
theorem dX12_does_131 : decode cX12_does 131 = .ok (.iload_n 2, 1) := by decide +kernel
theorem dX12_does_132 : decode cX12_does 132 = .ok (.iaload, 1) := by decide +kernel
theorem dX12_does_133 : decode cX12_does 133 = .ok (.aload_n 0, 1) := by decide +kernel
theorem dX12_does_134 : decode cX12_does 134 = .ok (.getfield 84, 3) := by decide +kernel
theorem dX12_does_137 : decode cX12_does 137 = .ok (.iload_n 3, 1) := by decide +kernel
theorem dX12_does_138 : decode cX12_does 138 = .ok (.iaload, 1) := by decide +kernel
theorem dX12_does_139 : decode cX12_does 139 = .ok (.invokestatic 309, 3) := by decide +kernel
theorem dX12_does_142 : decode cX12_does 142 = .ok (.iastore, 1) := by decide +kernel
theorem dX12_does_143 : decode cX12_does 143 = .ok (.return_, 1) := by decide +kernel
theorem dX12_valueOf_0 : decode cX12_valueOf 0 = .ok (.iload_n 1, 1) := by decide +kernel
theorem dX12_valueOf_1 : decode cX12_valueOf 1 = .ok (.tableswitch 195 102 121 #[130, 195, 125, 147, 195, 105, 95, 195, 115, 152, 100, 195, 195, 120, 195, 195, 195, 195, 195, 171], 95) := by decide +kernel
theorem dX12_valueOf_96 : decode cX12_valueOf 96 = .ok (.aload_n 0, 1) := by decide +kernel
theorem dX12_valueOf_97 : decode cX12_valueOf 97 = .ok (.getfield 291, 3) := by decide +kernel
theorem dX12_valueOf_100 : decode cX12_valueOf 100 = .ok (.ireturn, 1) := by decide +kernel
theorem dX12_valueOf_101 : decode cX12_valueOf 101 = .ok (.aload_n 0, 1) := by decide +kernel
theorem dX12_valueOf_102 : decode cX12_valueOf 102 = .ok (.getfield 294, 3) := by decide +kernel
theorem dX12_valueOf_105 : decode cX12_valueOf 105 = .ok (.ireturn, 1) := by decide +kernel
theorem dX12_valueOf_106 : decode cX12_valueOf 106 = .ok (.aload_n 0, 1) := by decide +kernel
theorem dX12_valueOf_107 : decode cX12_valueOf 107 = .ok (.getfield 23, 3) := by decide +kernel
theorem dX12_valueOf_110 : decode cX12_valueOf 110 = .ok (.aload_n 0, 1) := by decide +kernel
theorem dX12_valueOf_111 : decode cX12_valueOf 111 = .ok (.getfield 291, 3) := by decide +kernel
theorem dX12_valueOf_114 : decode cX12_valueOf 114 = .ok (.iaload, 1) := by decide +kernel
theorem dX12_valueOf_115 : decode cX12_valueOf 115 = .ok (.ireturn, 1) := by decide +kernel
theorem dX12_valueOf_116 : decode cX12_valueOf 116 = .ok (.aload_n 0, 1) := by decide +kernel
theorem dX12_valueOf_117 : decode cX12_valueOf 117 = .ok (.getfield 297, 3) := by decide +kernel
theorem dX12_valueOf_120 : decode cX12_valueOf 120 = .ok (.ireturn, 1) := by decide +kernel
theorem dX12_valueOf_121 : decode cX12_valueOf 121 = .ok (.aload_n 0, 1) := by decide +kernel
theorem dX12_valueOf_122 : decode cX12_valueOf 122 = .ok (.getfield 300, 3) := by decide +kernel
theorem dX12_valueOf_125 : decode cX12_valueOf 125 = .ok (.ireturn, 1) := by decide +kernel
theorem dX12_valueOf_126 : decode cX12_valueOf 126 = .ok (.aload_n 0, 1) := by decide +kernel
theorem dX12_valueOf_127 : decode cX12_valueOf 127 = .ok (.getfield 303, 3) := by decide +kernel
theorem dX12_valueOf_130 : decode cX12_valueOf 130 = .ok (.ireturn, 1) := by decide +kernel
theorem dX12_valueOf_131 : decode cX12_valueOf 131 = .ok (.aload_n 0, 1) := by decide +kernel
theorem dX12_valueOf_132 : decode cX12_valueOf 132 = .ok (.getfield 297, 3) := by decide +kernel
theorem dX12_valueOf_135 : decode cX12_valueOf 135 = .ok (.aload_n 0, 1) := by decide +kernel
theorem dX12_valueOf_136 : decode cX12_valueOf 136 = .ok (.getfield 13, 3) := by decide +kernel
theorem dX12_valueOf_139 : decode cX12_valueOf 139 = .ok (.if_icmp .ne 7, 3) := by decide +kernel
theorem dX12_valueOf_142 : decode cX12_valueOf 142 = .ok (.iconst 1, 1) := by decide +kernel
theorem dX12_valueOf_143 : decode cX12_valueOf 143 = .ok (.goto 4, 3) := by decide +kernel
theorem dX12_valueOf_146 : decode cX12_valueOf 146 = .ok (.iconst 0, 1) := by decide +kernel
theorem dX12_valueOf_147 : decode cX12_valueOf 147 = .ok (.ireturn, 1) := by decide +kernel
theorem dX12_valueOf_148 : decode cX12_valueOf 148 = .ok (.aload_n 0, 1) := by decide +kernel
theorem dX12_valueOf_149 : decode cX12_valueOf 149 = .ok (.getfield 306, 3) := by decide +kernel
theorem dX12_valueOf_152 : decode cX12_valueOf 152 = .ok (.ireturn, 1) := by decide +kernel
theorem dX12_valueOf_153 : decode cX12_valueOf 153 = .ok (.aload_n 0, 1) := by decide +kernel
theorem dX12_valueOf_154 : decode cX12_valueOf 154 = .ok (.getfield 297, 3) := by decide +kernel
theorem dX12_valueOf_157 : decode cX12_valueOf 157 = .ok (.ifCond .ne 8, 3) := by decide +kernel
theorem dX12_valueOf_160 : decode cX12_valueOf 160 = .ok (.bipush 8, 2) := by decide +kernel
theorem dX12_valueOf_162 : decode cX12_valueOf 162 = .ok (.goto 9, 3) := by decide +kernel
theorem dX12_valueOf_165 : decode cX12_valueOf 165 = .ok (.aload_n 0, 1) := by decide +kernel
theorem dX12_valueOf_166 : decode cX12_valueOf 166 = .ok (.getfield 91, 3) := by decide +kernel
theorem dX12_valueOf_169 : decode cX12_valueOf 169 = .ok (.iconst 0, 1) := by decide +kernel
theorem dX12_valueOf_170 : decode cX12_valueOf 170 = .ok (.iaload, 1) := by decide +kernel
theorem dX12_valueOf_171 : decode cX12_valueOf 171 = .ok (.ireturn, 1) := by decide +kernel
theorem dX12_valueOf_172 : decode cX12_valueOf 172 = .ok (.aload_n 0, 1) := by decide +kernel
theorem dX12_valueOf_173 : decode cX12_valueOf 173 = .ok (.getfield 297, 3) := by decide +kernel
theorem dX12_valueOf_176 : decode cX12_valueOf 176 = .ok (.ifCond .ne 8, 3) := by decide +kernel
theorem dX12_valueOf_179 : decode cX12_valueOf 179 = .ok (.bipush 8, 2) := by decide +kernel
theorem dX12_valueOf_181 : decode cX12_valueOf 181 = .ok (.goto 14, 3) := by decide +kernel
theorem dX12_valueOf_184 : decode cX12_valueOf 184 = .ok (.aload_n 0, 1) := by decide +kernel
theorem dX12_valueOf_185 : decode cX12_valueOf 185 = .ok (.getfield 91, 3) := by decide +kernel
theorem dX12_valueOf_188 : decode cX12_valueOf 188 = .ok (.aload_n 0, 1) := by decide +kernel
theorem dX12_valueOf_189 : decode cX12_valueOf 189 = .ok (.getfield 297, 3) := by decide +kernel
theorem dX12_valueOf_192 : decode cX12_valueOf 192 = .ok (.iconst 1, 1) := by decide +kernel
theorem dX12_valueOf_193 : decode cX12_valueOf 193 = .ok (.isub, 1) := by decide +kernel
theorem dX12_valueOf_194 : decode cX12_valueOf 194 = .ok (.iaload, 1) := by decide +kernel
theorem dX12_valueOf_195 : decode cX12_valueOf 195 = .ok (.ireturn, 1) := by decide +kernel
theorem dX12_valueOf_196 : decode cX12_valueOf 196 = .ok (.aload_n 0, 1) := by decide +kernel
theorem dX12_valueOf_197 : decode cX12_valueOf 197 = .ok (.getfield 13, 3) := by decide +kernel
theorem dX12_valueOf_200 : decode cX12_valueOf 200 = .ok (.ireturn, 1) := by decide +kernel
theorem dX12_works_0 : decode cX12_works 0 = .ok (.iconst 0, 1) := by decide +kernel
theorem dX12_works_1 : decode cX12_works 1 = .ok (.istore_n 3, 1) := by decide +kernel
theorem dX12_works_2 : decode cX12_works 2 = .ok (.iload_n 1, 1) := by decide +kernel
theorem dX12_works_3 : decode cX12_works 3 = .ok (.istore 4, 2) := by decide +kernel
theorem dX12_works_5 : decode cX12_works 5 = .ok (.iload 4, 2) := by decide +kernel
theorem dX12_works_7 : decode cX12_works 7 = .ok (.iload_n 2, 1) := by decide +kernel
theorem dX12_works_8 : decode cX12_works 8 = .ok (.if_icmp .ge 119, 3) := by decide +kernel
theorem dX12_works_11 : decode cX12_works 11 = .ok (.aload_n 0, 1) := by decide +kernel
theorem dX12_works_12 : decode cX12_works 12 = .ok (.getfield 57, 3) := by decide +kernel
theorem dX12_works_15 : decode cX12_works 15 = .ok (.iload 4, 2) := by decide +kernel
theorem dX12_works_17 : decode cX12_works 17 = .ok (.iaload, 1) := by decide +kernel
theorem dX12_works_18 : decode cX12_works 18 = .ok (.iconst 2, 1) := by decide +kernel
theorem dX12_works_19 : decode cX12_works 19 = .ok (.if_icmp .le 23, 3) := by decide +kernel
theorem dX12_works_22 : decode cX12_works 22 = .ok (.iinc 3 (-1), 3) := by decide +kernel
theorem dX12_works_25 : decode cX12_works 25 = .ok (.aload_n 0, 1) := by decide +kernel
theorem dX12_works_26 : decode cX12_works 26 = .ok (.aload_n 0, 1) := by decide +kernel
theorem dX12_works_27 : decode cX12_works 27 = .ok (.getfield 57, 3) := by decide +kernel
theorem dX12_works_30 : decode cX12_works 30 = .ok (.iload 4, 2) := by decide +kernel
theorem dX12_works_32 : decode cX12_works 32 = .ok (.iaload, 1) := by decide +kernel
theorem dX12_works_33 : decode cX12_works 33 = .ok (.iload_n 3, 1) := by decide +kernel
theorem dX12_works_34 : decode cX12_works 34 = .ok (.iconst 1, 1) := by decide +kernel
theorem dX12_works_35 : decode cX12_works 35 = .ok (.isub, 1) := by decide +kernel
theorem dX12_works_36 : decode cX12_works 36 = .ok (.invokevirtual 313, 3) := by decide +kernel
theorem dX12_works_39 : decode cX12_works 39 = .ok (.goto 82, 3) := by decide +kernel
theorem dX12_works_42 : decode cX12_works 42 = .ok (.aload_n 0, 1) := by decide +kernel
theorem dX12_works_43 : decode cX12_works 43 = .ok (.getfield 57, 3) := by decide +kernel
theorem dX12_works_46 : decode cX12_works 46 = .ok (.iload 4, 2) := by decide +kernel
theorem dX12_works_48 : decode cX12_works 48 = .ok (.iaload, 1) := by decide +kernel
theorem dX12_works_49 : decode cX12_works 49 = .ok (.iconst 2, 1) := by decide +kernel
theorem dX12_works_50 : decode cX12_works 50 = .ok (.if_icmp .ne 24, 3) := by decide +kernel
theorem dX12_works_53 : decode cX12_works 53 = .ok (.aload_n 0, 1) := by decide +kernel
theorem dX12_works_54 : decode cX12_works 54 = .ok (.getfield 84, 3) := by decide +kernel
theorem dX12_works_57 : decode cX12_works 57 = .ok (.iload_n 3, 1) := by decide +kernel
theorem dX12_works_58 : decode cX12_works 58 = .ok (.iconst 1, 1) := by decide +kernel
theorem dX12_works_59 : decode cX12_works 59 = .ok (.isub, 1) := by decide +kernel
theorem dX12_works_60 : decode cX12_works 60 = .ok (.iconst 1, 1) := by decide +kernel
theorem dX12_works_61 : decode cX12_works 61 = .ok (.aload_n 0, 1) := by decide +kernel
theorem dX12_works_62 : decode cX12_works 62 = .ok (.getfield 84, 3) := by decide +kernel
theorem dX12_works_65 : decode cX12_works 65 = .ok (.iload_n 3, 1) := by decide +kernel
theorem dX12_works_66 : decode cX12_works 66 = .ok (.iconst 1, 1) := by decide +kernel
theorem dX12_works_67 : decode cX12_works 67 = .ok (.isub, 1) := by decide +kernel
theorem dX12_works_68 : decode cX12_works 68 = .ok (.iaload, 1) := by decide +kernel
theorem dX12_works_69 : decode cX12_works 69 = .ok (.isub, 1) := by decide +kernel
theorem dX12_works_70 : decode cX12_works 70 = .ok (.iastore, 1) := by decide +kernel
theorem dX12_works_71 : decode cX12_works 71 = .ok (.goto 50, 3) := by decide +kernel
theorem dX12_works_74 : decode cX12_works 74 = .ok (.aload_n 0, 1) := by decide +kernel
theorem dX12_works_75 : decode cX12_works 75 = .ok (.getfield 87, 3) := by decide +kernel
theorem dX12_works_78 : decode cX12_works 78 = .ok (.iload_n 3, 1) := by decide +kernel
theorem dX12_works_79 : decode cX12_works 79 = .ok (.iconst 0, 1) := by decide +kernel
theorem dX12_works_80 : decode cX12_works 80 = .ok (.bastore, 1) := by decide +kernel
theorem dX12_works_81 : decode cX12_works 81 = .ok (.aload_n 0, 1) := by decide +kernel
theorem dX12_works_82 : decode cX12_works 82 = .ok (.getfield 84, 3) := by decide +kernel
theorem dX12_works_85 : decode cX12_works 85 = .ok (.iload_n 3, 1) := by decide +kernel
theorem dX12_works_86 : decode cX12_works 86 = .ok (.aload_n 0, 1) := by decide +kernel
theorem dX12_works_87 : decode cX12_works 87 = .ok (.getfield 57, 3) := by decide +kernel
theorem dX12_works_90 : decode cX12_works 90 = .ok (.iload 4, 2) := by decide +kernel
theorem dX12_works_92 : decode cX12_works 92 = .ok (.iaload, 1) := by decide +kernel
theorem dX12_works_93 : decode cX12_works 93 = .ok (.ifCond .ne 13, 3) := by decide +kernel
theorem dX12_works_96 : decode cX12_works 96 = .ok (.aload_n 0, 1) := by decide +kernel
theorem dX12_works_97 : decode cX12_works 97 = .ok (.getfield 60, 3) := by decide +kernel
theorem dX12_works_100 : decode cX12_works 100 = .ok (.iload 4, 2) := by decide +kernel
theorem dX12_works_102 : decode cX12_works 102 = .ok (.iaload, 1) := by decide +kernel
theorem dX12_works_103 : decode cX12_works 103 = .ok (.goto 14, 3) := by decide +kernel
theorem dX12_works_106 : decode cX12_works 106 = .ok (.aload_n 0, 1) := by decide +kernel
theorem dX12_works_107 : decode cX12_works 107 = .ok (.aload_n 0, 1) := by decide +kernel
theorem dX12_works_108 : decode cX12_works 108 = .ok (.getfield 60, 3) := by decide +kernel
theorem dX12_works_111 : decode cX12_works 111 = .ok (.iload 4, 2) := by decide +kernel
theorem dX12_works_113 : decode cX12_works 113 = .ok (.iaload, 1) := by decide +kernel
theorem dX12_works_114 : decode cX12_works 114 = .ok (.invokevirtual 316, 3) := by decide +kernel
theorem dX12_works_117 : decode cX12_works 117 = .ok (.iastore, 1) := by decide +kernel
theorem dX12_works_118 : decode cX12_works 118 = .ok (.iinc 3 1, 3) := by decide +kernel
theorem dX12_works_121 : decode cX12_works 121 = .ok (.iinc 4 1, 3) := by decide +kernel
theorem dX12_works_124 : decode cX12_works 124 = .ok (.goto (-119), 3) := by decide +kernel
theorem dX12_works_127 : decode cX12_works 127 = .ok (.return_, 1) := by decide +kernel
theorem dX12_tells_0 : decode cX12_tells 0 = .ok (.iconst 0, 1) := by decide +kernel
theorem dX12_tells_1 : decode cX12_tells 1 = .ok (.istore 4, 2) := by decide +kernel
theorem dX12_tells_3 : decode cX12_tells 3 = .ok (.iload 4, 2) := by decide +kernel
theorem dX12_tells_5 : decode cX12_tells 5 = .ok (.aload_n 0, 1) := by decide +kernel
theorem dX12_tells_6 : decode cX12_tells 6 = .ok (.getfield 288, 3) := by decide +kernel
theorem dX12_tells_9 : decode cX12_tells 9 = .ok (.if_icmp .ge 125, 3) := by decide +kernel
theorem dX12_tells_12 : decode cX12_tells 12 = .ok (.aload_n 0, 1) := by decide +kernel
theorem dX12_tells_13 : decode cX12_tells 13 = .ok (.getfield 45, 3) := by decide +kernel
theorem dX12_tells_16 : decode cX12_tells 16 = .ok (.iload 4, 2) := by decide +kernel
theorem dX12_tells_18 : decode cX12_tells 18 = .ok (.iaload, 1) := by decide +kernel
theorem dX12_tells_19 : decode cX12_tells 19 = .ok (.iload_n 1, 1) := by decide +kernel
theorem dX12_tells_20 : decode cX12_tells 20 = .ok (.if_icmp .eq 6, 3) := by decide +kernel
theorem dX12_tells_23 : decode cX12_tells 23 = .ok (.goto 105, 3) := by decide +kernel
theorem dX12_tells_26 : decode cX12_tells 26 = .ok (.aload_n 0, 1) := by decide +kernel
theorem dX12_tells_27 : decode cX12_tells 27 = .ok (.aload_n 0, 1) := by decide +kernel
theorem dX12_tells_28 : decode cX12_tells 28 = .ok (.getfield 51, 3) := by decide +kernel
theorem dX12_tells_31 : decode cX12_tells 31 = .ok (.iload 4, 2) := by decide +kernel
theorem dX12_tells_33 : decode cX12_tells 33 = .ok (.iaload, 1) := by decide +kernel
theorem dX12_tells_34 : decode cX12_tells 34 = .ok (.aload_n 0, 1) := by decide +kernel
theorem dX12_tells_35 : decode cX12_tells 35 = .ok (.getfield 54, 3) := by decide +kernel
theorem dX12_tells_38 : decode cX12_tells 38 = .ok (.iload 4, 2) := by decide +kernel
theorem dX12_tells_40 : decode cX12_tells 40 = .ok (.iaload, 1) := by decide +kernel
theorem dX12_tells_41 : decode cX12_tells 41 = .ok (.invokevirtual 320, 3) := by decide +kernel
theorem dX12_tells_44 : decode cX12_tells 44 = .ok (.aload_n 0, 1) := by decide +kernel
theorem dX12_tells_45 : decode cX12_tells 45 = .ok (.getfield 87, 3) := by decide +kernel
theorem dX12_tells_48 : decode cX12_tells 48 = .ok (.iconst 0, 1) := by decide +kernel
theorem dX12_tells_49 : decode cX12_tells 49 = .ok (.baload, 1) := by decide +kernel
theorem dX12_tells_50 : decode cX12_tells 50 = .ok (.ifCond .ne 78, 3) := by decide +kernel
theorem dX12_tells_53 : decode cX12_tells 53 = .ok (.aload_n 0, 1) := by decide +kernel
theorem dX12_tells_54 : decode cX12_tells 54 = .ok (.getfield 84, 3) := by decide +kernel
theorem dX12_tells_57 : decode cX12_tells 57 = .ok (.iconst 0, 1) := by decide +kernel
theorem dX12_tells_58 : decode cX12_tells 58 = .ok (.iaload, 1) := by decide +kernel
theorem dX12_tells_59 : decode cX12_tells 59 = .ok (.iconst 1, 1) := by decide +kernel
theorem dX12_tells_60 : decode cX12_tells 60 = .ok (.if_icmp .eq 6, 3) := by decide +kernel
theorem dX12_tells_63 : decode cX12_tells 63 = .ok (.goto 65, 3) := by decide +kernel
theorem dX12_tells_66 : decode cX12_tells 66 = .ok (.aload_n 0, 1) := by decide +kernel
theorem dX12_tells_67 : decode cX12_tells 67 = .ok (.aload_n 0, 1) := by decide +kernel
theorem dX12_tells_68 : decode cX12_tells 68 = .ok (.getfield 48, 3) := by decide +kernel
theorem dX12_tells_71 : decode cX12_tells 71 = .ok (.iload 4, 2) := by decide +kernel
theorem dX12_tells_73 : decode cX12_tells 73 = .ok (.iaload, 1) := by decide +kernel
theorem dX12_tells_74 : decode cX12_tells 74 = .ok (.aload_n 0, 1) := by decide +kernel
theorem dX12_tells_75 : decode cX12_tells 75 = .ok (.getfield 51, 3) := by decide +kernel
theorem dX12_tells_78 : decode cX12_tells 78 = .ok (.iload 4, 2) := by decide +kernel
theorem dX12_tells_80 : decode cX12_tells 80 = .ok (.iaload, 1) := by decide +kernel
theorem dX12_tells_81 : decode cX12_tells 81 = .ok (.invokevirtual 320, 3) := by decide +kernel
theorem dX12_tells_84 : decode cX12_tells 84 = .ok (.aload_n 0, 1) := by decide +kernel
theorem dX12_tells_85 : decode cX12_tells 85 = .ok (.getfield 87, 3) := by decide +kernel
theorem dX12_tells_88 : decode cX12_tells 88 = .ok (.iconst 0, 1) := by decide +kernel
theorem dX12_tells_89 : decode cX12_tells 89 = .ok (.baload, 1) := by decide +kernel
theorem dX12_tells_90 : decode cX12_tells 90 = .ok (.ifCond .eq 7, 3) := by decide +kernel
theorem dX12_tells_93 : decode cX12_tells 93 = .ok (.iconst 0, 1) := by decide +kernel
theorem dX12_tells_94 : decode cX12_tells 94 = .ok (.goto 9, 3) := by decide +kernel
theorem dX12_tells_97 : decode cX12_tells 97 = .ok (.aload_n 0, 1) := by decide +kernel
theorem dX12_tells_98 : decode cX12_tells 98 = .ok (.getfield 84, 3) := by decide +kernel
theorem dX12_tells_101 : decode cX12_tells 101 = .ok (.iconst 0, 1) := by decide +kernel
theorem dX12_tells_102 : decode cX12_tells 102 = .ok (.iaload, 1) := by decide +kernel
theorem dX12_tells_103 : decode cX12_tells 103 = .ok (.istore 5, 2) := by decide +kernel
theorem dX12_tells_105 : decode cX12_tells 105 = .ok (.iload 5, 2) := by decide +kernel
theorem dX12_tells_107 : decode cX12_tells 107 = .ok (.iload_n 2, 1) := by decide +kernel
theorem dX12_tells_108 : decode cX12_tells 108 = .ok (.if_icmp .ge 7, 3) := by decide +kernel
theorem dX12_tells_111 : decode cX12_tells 111 = .ok (.iload_n 2, 1) := by decide +kernel
theorem dX12_tells_112 : decode cX12_tells 112 = .ok (.goto 15, 3) := by decide +kernel
theorem dX12_tells_115 : decode cX12_tells 115 = .ok (.iload 5, 2) := by decide +kernel
theorem dX12_tells_117 : decode cX12_tells 117 = .ok (.iload_n 3, 1) := by decide +kernel
theorem dX12_tells_118 : decode cX12_tells 118 = .ok (.if_icmp .le 7, 3) := by decide +kernel
theorem dX12_tells_121 : decode cX12_tells 121 = .ok (.iload_n 3, 1) := by decide +kernel
theorem dX12_tells_122 : decode cX12_tells 122 = .ok (.goto 5, 3) := by decide +kernel
theorem dX12_tells_125 : decode cX12_tells 125 = .ok (.iload 5, 2) := by decide +kernel
theorem dX12_tells_127 : decode cX12_tells 127 = .ok (.ireturn, 1) := by decide +kernel
theorem dX12_tells_128 : decode cX12_tells 128 = .ok (.iinc 4 1, 3) := by decide +kernel
theorem dX12_tells_131 : decode cX12_tells 131 = .ok (.goto (-128), 3) := by decide +kernel
theorem dX12_tells_134 : decode cX12_tells 134 = .ok (.iconst 0, 1) := by decide +kernel
theorem dX12_tells_135 : decode cX12_tells 135 = .ok (.ireturn, 1) := by decide +kernel
/-! f_X12_isSign -/
noncomputable def f_X12_isSign (a1 : Int32) (s0 : SS) : Option Int32 := jn (some 1) (fun (k1 : Option Int32) => if (a1 : Int32) = (60 : Int32) then k1 else if (a1 : Int32) = (62 : Int32) then k1 else if (a1 : Int32) = (61 : Int32) then k1 else some 0)
set_option maxRecDepth 100000 in
set_option maxHeartbeats 4000000 in
theorem c_X12_isSign {l : Launch} (a1 : Int32) (s0 : SS) : Ct l wF yX12_isSign cX12_isSign 1 (some .boolean) 0 [.int a1] s0 (pu (f_X12_isSign a1 s0) s0) := by
  refine ct_of (y := yX12_isSign) plX12 (Nat.le_of_ble_eq_true rfl) ?_
  refine r_pad0 0 (L1 := [.int a1]) rfl ?_
  unfold f_X12_isSign
  refine r_iload_n (pc1 := 1) (i := 0) dX12_isSign_0 rfl rfl rfl ?_
  refine r_bipush (v := 60) (pc1 := 3) dX12_isSign_1 kb_60 rfl ?_
  refine p_jn (hyp := fun (k1 : Option Int32) => RC l wF RX12 cX12_isSign 1 (some .boolean) 0 18 [.null] [] s0 (pu k1 s0)) (?_) (fun k1 hk1 => ?_)
  · refine r_iconst (v := 1) (pc1 := 19) dX12_isSign_18 ki_1 rfl ?_
    refine r_goto (tgt := 23) dX12_isSign_19 (by decide) ?_
    exact p_iret rfl rfl dX12_isSign_23
  · refine p_icmp_eq (tgt := 18) (pc1 := 6) dX12_isSign_3 (by decide) rfl (fun q2 => ?_) (fun q2 => ?_)
    · exact r_wk (hk1) ⟨Or.inl rfl, trivial⟩
    · refine r_iload_n (pc1 := 7) (i := 0) dX12_isSign_6 rfl rfl rfl ?_
      refine r_bipush (v := 62) (pc1 := 9) dX12_isSign_7 kb_62 rfl ?_
      refine p_icmp_eq (tgt := 18) (pc1 := 12) dX12_isSign_9 (by decide) rfl (fun q3 => ?_) (fun q3 => ?_)
      · exact r_wk (hk1) ⟨Or.inl rfl, trivial⟩
      · refine r_iload_n (pc1 := 13) (i := 0) dX12_isSign_12 rfl rfl rfl ?_
        refine r_bipush (v := 61) (pc1 := 15) dX12_isSign_13 kb_61 rfl ?_
        refine p_icmp_ne (tgt := 22) (pc1 := 18) dX12_isSign_15 (by decide) rfl (fun q4 => ?_) (fun q4 => ?_)
        · exact r_wk (hk1) ⟨Or.inl rfl, trivial⟩
        · refine r_iconst (v := 0) (pc1 := 23) dX12_isSign_22 ki_0 rfl ?_
          exact p_iret rfl rfl dX12_isSign_23
/-! f_X12_ends -/
noncomputable def lp_X12_ends_0  : Nat → SS → Res
  | 0, _ => none
  | n2 + 1, s1 => bdp (f_X12_top s1) (fun (v3 : Int32) => if (v3 : Int32) = (33 : Int32) then bd (f_X12_emit 2 0 s1) (fun (v5 : Int32) (s6 : SS) => lts (up s6 56 36 ((s6 56 36) - 1)) (fun (s7 : SS) => lts (up s7 56 35 ((s7 56 35) - 1)) (fun (s8 : SS) => lp_X12_ends_0 n2 s8))) else some (0, s1))
noncomputable def f_X12_ends  (s0 : SS) : Res := lp_X12_ends_0 FU s0
set_option maxRecDepth 100000 in
set_option maxHeartbeats 4000000 in
theorem t_lp_X12_ends_0 {l : Launch}   : ∀ (n2 : Nat) (s1 : SS), RC l wF RX12 cX12_ends 1 none 2 0 [.ref 56] [] s1 (lp_X12_ends_0 n2 s1) := by
  intro n2
  induction n2 with
  | zero =>
    intro s1
    rw [lp_X12_ends_0]
    exact r_none
  | succ n2 ih =>
    intro s1
    rw [lp_X12_ends_0]
    refine r_aload_n (pc1 := 1) (i := 0) dX12_ends_0 rfl rfl rfl ?_
    refine r_callVp (pc1 := 4) (rv_of w_56 cl_12) lkX12_222 (c_X12_top _) rfl rfl ⟨Nat.le_of_ble_eq_true rfl, Nat.le_of_ble_eq_true rfl⟩ (Nat.le_of_ble_eq_true rfl) dX12_ends_1 rfl (fun v3 => ?_)
    refine r_bipush (v := 33) (pc1 := 6) dX12_ends_4 kb_33 rfl ?_
    refine r_icmp_ne (tgt := 38) (pc1 := 9) dX12_ends_6 (by decide) rfl (fun q4 => ?_) (fun q4 => ?_)
    · refine r_aload_n (pc1 := 10) (i := 0) dX12_ends_9 rfl rfl rfl ?_
      refine r_iconst (v := 2) (pc1 := 11) dX12_ends_10 ki_2 rfl ?_
      refine r_iconst (v := 0) (pc1 := 12) dX12_ends_11 ki_0 rfl ?_
      refine r_callVv (pc1 := 15) (rv_of w_56 cl_12) lkX12_231 (c_X12_emit _ _ _) rfl rfl ⟨Nat.le_of_ble_eq_true rfl, Nat.le_of_ble_eq_true rfl⟩ (Nat.le_of_ble_eq_true rfl) dX12_ends_12 rfl (fun v5 s6 => ?_)
      refine r_aload_n (pc1 := 16) (i := 0) dX12_ends_15 rfl rfl rfl ?_
      refine r_dup (pc1 := 17) dX12_ends_16 rfl rfl ?_
      refine r_getI (pc1 := 20) w_56 gfX12_198 rfl dX12_ends_17 rfl ?_
      refine r_iconst (v := 1) (pc1 := 21) dX12_ends_20 ki_1 rfl ?_
      refine r_isub (pc1 := 22) dX12_ends_21 rfl ?_
      refine r_putI (pc1 := 25) w_56 pfX12_198 rfl ⟨rfl, rfl⟩ dX12_ends_22 rfl ?_
      refine r_lts (fun s7 => ?_)
      refine r_aload_n (pc1 := 26) (i := 0) dX12_ends_25 rfl rfl rfl ?_
      refine r_dup (pc1 := 27) dX12_ends_26 rfl rfl ?_
      refine r_getI (pc1 := 30) w_56 gfX12_201 rfl dX12_ends_27 rfl ?_
      refine r_iconst (v := 1) (pc1 := 31) dX12_ends_30 ki_1 rfl ?_
      refine r_isub (pc1 := 32) dX12_ends_31 rfl ?_
      refine r_putI (pc1 := 35) w_56 pfX12_201 rfl ⟨rfl, rfl⟩ dX12_ends_32 rfl ?_
      refine r_lts (fun s8 => ?_)
      refine r_goto (tgt := 0) dX12_ends_35 (by decide) ?_
      exact r_wk (ih s8) ⟨Or.inr rfl, trivial⟩
    · exact r_vret rfl dX12_ends_38
set_option maxRecDepth 100000 in
set_option maxHeartbeats 4000000 in
theorem c_X12_ends {l : Launch}  (s0 : SS) : Ct l wF yX12_ends cX12_ends 1 none 2 [.ref 56] s0 (f_X12_ends s0) := by
  refine ct_of (y := yX12_ends) plX12 (Nat.le_of_ble_eq_true rfl) ?_
  refine r_pad0 0 (L1 := [.ref 56]) rfl ?_
  unfold f_X12_ends
  exact r_wk (t_lp_X12_ends_0 FU s0) ⟨Or.inr rfl, trivial⟩
/-! f_X12_pieceOfC -/
noncomputable def lp_X12_pieceOfC_0 (k2 : SS → Res) : Nat → SS → Res
  | 0, _ => none
  | n29 + 1, s28 => bdp (f_X12_isGood s28) (fun (v30 : Int32) => if (v30 : Int32) = 0 then k2 s28 else bdp (f_X12_here s28) (fun (v32 : Int32) => jn (bd (f_X12_opens s28) (fun (v34 : Int32) (s35 : SS) => lp_X12_pieceOfC_0 k2 n29 s35)) (fun (k33 : Res) => if (v32 : Int32) = (33 : Int32) then k33 else bdp (f_X12_here s28) (fun (v37 : Int32) => if (v37 : Int32) = (40 : Int32) then k33 else k2 s28))))
noncomputable def f_X12_pieceOfC  (s0 : SS) : Res := jn (fun (s1 : SS) => bdp (f_X12_isGood s1) (fun (v3 : Int32) => jn (fun (s4 : SS) => bdp (f_X12_isGood s4) (fun (v6 : Int32) => if (v6 : Int32) = 0 then some (0, s4) else bdp (f_X12_here s4) (fun (v8 : Int32) => bdp (f_X12_isSign v8 s4) (fun (v9 : Int32) => if (v9 : Int32) = 0 then bd (f_X12_wrongs 1 (s4 56 30) s4) (fun (v11 : Int32) (s12 : SS) => some (0, s12)) else bd (f_X12_puts v8 s4) (fun (v13 : Int32) (s14 : SS) => bd (f_X12_value s14) (fun (v15 : Int32) (s16 : SS) => bdp (f_X12_isGood s16) (fun (v17 : Int32) => if (v17 : Int32) = 0 then some (0, s16) else bdp (f_X12_top s16) (fun (v19 : Int32) => bd (f_X12_emit v19 0 s16) (fun (v20 : Int32) (s21 : SS) => lts (up s21 56 36 ((s21 56 36) - 1)) (fun (s22 : SS) => bd (f_X12_ends s22) (fun (v23 : Int32) (s24 : SS) => some (0, s24)))))))))))) (fun (k5 : SS → Res) => if (v3 : Int32) = 0 then k5 s1 else bd (f_X12_value s1) (fun (v26 : Int32) (s27 : SS) => k5 s27)))) (fun (k2 : SS → Res) => lp_X12_pieceOfC_0 k2 FU s0)
set_option maxRecDepth 100000 in
set_option maxHeartbeats 4000000 in
theorem t_lp_X12_pieceOfC_0 {l : Launch} (k2 : SS → Res) (hk2 : ∀ (s1 : SS), RC l wF RX12 cX12_pieceOfC 2 none 5 32 [.ref 56, .null] [] s1 (k2 s1)) : ∀ (n29 : Nat) (s28 : SS), RC l wF RX12 cX12_pieceOfC 2 none 5 0 [.ref 56, .null] [] s28 (lp_X12_pieceOfC_0 k2 n29 s28) := by
  intro n29
  induction n29 with
  | zero =>
    intro s28
    rw [lp_X12_pieceOfC_0]
    exact r_none
  | succ n29 ih =>
    intro s28
    rw [lp_X12_pieceOfC_0]
    refine r_aload_n (pc1 := 1) (i := 0) dX12_pieceOfC_0 rfl rfl rfl ?_
    refine r_callVp (pc1 := 4) (rv_of w_56 cl_12) lkX12_191 (c_X12_isGood _) rfl rfl ⟨Nat.le_of_ble_eq_true rfl, Nat.le_of_ble_eq_true rfl⟩ (Nat.le_of_ble_eq_true rfl) dX12_pieceOfC_1 rfl (fun v30 => ?_)
    refine r_if_eq (tgt := 32) (pc1 := 7) dX12_pieceOfC_4 (by decide) rfl (fun q31 => ?_) (fun q31 => ?_)
    · exact r_wk (hk2 s28) ⟨Or.inr rfl, Or.inl rfl, trivial⟩
    · refine r_aload_n (pc1 := 8) (i := 0) dX12_pieceOfC_7 rfl rfl rfl ?_
      refine r_callVp (pc1 := 11) (rv_of w_56 cl_12) lkX12_208 (c_X12_here _) rfl rfl ⟨Nat.le_of_ble_eq_true rfl, Nat.le_of_ble_eq_true rfl⟩ (Nat.le_of_ble_eq_true rfl) dX12_pieceOfC_8 rfl (fun v32 => ?_)
      refine r_bipush (v := 33) (pc1 := 13) dX12_pieceOfC_11 kb_33 rfl ?_
      refine r_jn (hyp := fun (k33 : Res) => RC l wF RX12 cX12_pieceOfC 2 none 5 25 [.ref 56, .null] [] s28 k33) (?_) (fun k33 hk33 => ?_)
      · refine r_aload_n (pc1 := 26) (i := 0) dX12_pieceOfC_25 rfl rfl rfl ?_
        refine r_callVv (pc1 := 29) (rv_of w_56 cl_12) lkX12_234 (c_X12_opens _) rfl rfl ⟨Nat.le_of_ble_eq_true rfl, Nat.le_of_ble_eq_true rfl⟩ (Nat.le_of_ble_eq_true rfl) dX12_pieceOfC_26 rfl (fun v34 s35 => ?_)
        refine r_goto (tgt := 0) dX12_pieceOfC_29 (by decide) ?_
        exact r_wk (ih s35) ⟨Or.inr rfl, Or.inl rfl, trivial⟩
      · refine r_icmp_eq (tgt := 25) (pc1 := 16) dX12_pieceOfC_13 (by decide) rfl (fun q36 => ?_) (fun q36 => ?_)
        · exact r_wk (hk33) ⟨Or.inr rfl, Or.inl rfl, trivial⟩
        · refine r_aload_n (pc1 := 17) (i := 0) dX12_pieceOfC_16 rfl rfl rfl ?_
          refine r_callVp (pc1 := 20) (rv_of w_56 cl_12) lkX12_208 (c_X12_here _) rfl rfl ⟨Nat.le_of_ble_eq_true rfl, Nat.le_of_ble_eq_true rfl⟩ (Nat.le_of_ble_eq_true rfl) dX12_pieceOfC_17 rfl (fun v37 => ?_)
          refine r_bipush (v := 40) (pc1 := 22) dX12_pieceOfC_20 kb_40 rfl ?_
          refine r_icmp_ne (tgt := 32) (pc1 := 25) dX12_pieceOfC_22 (by decide) rfl (fun q38 => ?_) (fun q38 => ?_)
          · exact r_wk (hk33) ⟨Or.inr rfl, Or.inl rfl, trivial⟩
          · exact r_wk (hk2 s28) ⟨Or.inr rfl, Or.inl rfl, trivial⟩
set_option maxRecDepth 100000 in
set_option maxHeartbeats 4000000 in
theorem c_X12_pieceOfC {l : Launch}  (s0 : SS) : Ct l wF yX12_pieceOfC cX12_pieceOfC 2 none 5 [.ref 56] s0 (f_X12_pieceOfC s0) := by
  refine ct_of (y := yX12_pieceOfC) plX12 (Nat.le_of_ble_eq_true rfl) ?_
  refine r_pad0 1 (L1 := [.ref 56, .null]) rfl ?_
  unfold f_X12_pieceOfC
  refine r_jn (hyp := fun (k2 : SS → Res) => ∀ (s1 : SS), RC l wF RX12 cX12_pieceOfC 2 none 5 32 [.ref 56, .null] [] s1 (k2 s1)) (fun s1 => ?_) (fun k2 hk2 => ?_)
  · refine r_aload_n (pc1 := 33) (i := 0) dX12_pieceOfC_32 rfl rfl rfl ?_
    refine r_callVp (pc1 := 36) (rv_of w_56 cl_12) lkX12_191 (c_X12_isGood _) rfl rfl ⟨Nat.le_of_ble_eq_true rfl, Nat.le_of_ble_eq_true rfl⟩ (Nat.le_of_ble_eq_true rfl) dX12_pieceOfC_33 rfl (fun v3 => ?_)
    refine r_jn (hyp := fun (k5 : SS → Res) => ∀ (s4 : SS), RC l wF RX12 cX12_pieceOfC 2 none 5 43 [.ref 56, .null] [] s4 (k5 s4)) (fun s4 => ?_) (fun k5 hk5 => ?_)
    · refine r_aload_n (pc1 := 44) (i := 0) dX12_pieceOfC_43 rfl rfl rfl ?_
      refine r_callVp (pc1 := 47) (rv_of w_56 cl_12) lkX12_191 (c_X12_isGood _) rfl rfl ⟨Nat.le_of_ble_eq_true rfl, Nat.le_of_ble_eq_true rfl⟩ (Nat.le_of_ble_eq_true rfl) dX12_pieceOfC_44 rfl (fun v6 => ?_)
      refine r_if_ne (tgt := 51) (pc1 := 50) dX12_pieceOfC_47 (by decide) rfl (fun q7 => ?_) (fun q7 => ?_)
      · exact r_vret rfl dX12_pieceOfC_50
      · refine r_aload_n (pc1 := 52) (i := 0) dX12_pieceOfC_51 rfl rfl rfl ?_
        refine r_callVp (pc1 := 55) (rv_of w_56 cl_12) lkX12_208 (c_X12_here _) rfl rfl ⟨Nat.le_of_ble_eq_true rfl, Nat.le_of_ble_eq_true rfl⟩ (Nat.le_of_ble_eq_true rfl) dX12_pieceOfC_52 rfl (fun v8 => ?_)
        refine r_istore_n (pc1 := 56) (i := 1) dX12_pieceOfC_55 rfl (by decide) rfl rfl rfl ?_
        refine r_iload_n (pc1 := 57) (i := 1) dX12_pieceOfC_56 rfl rfl rfl ?_
        refine r_callSp (pc1 := 60) lkX12_259 (c_X12_isSign _ _) rfl rfl ⟨Nat.le_of_ble_eq_true rfl, Nat.le_of_ble_eq_true rfl⟩ (Nat.le_of_ble_eq_true rfl) dX12_pieceOfC_57 rfl (fun v9 => ?_)
        refine r_if_ne (tgt := 73) (pc1 := 63) dX12_pieceOfC_60 (by decide) rfl (fun q10 => ?_) (fun q10 => ?_)
        · refine r_aload_n (pc1 := 64) (i := 0) dX12_pieceOfC_63 rfl rfl rfl ?_
          refine r_iconst (v := 1) (pc1 := 65) dX12_pieceOfC_64 ki_1 rfl ?_
          refine r_aload_n (pc1 := 66) (i := 0) dX12_pieceOfC_65 rfl rfl rfl ?_
          refine r_getI (pc1 := 69) w_56 gfX12_182 rfl dX12_pieceOfC_66 rfl ?_
          refine r_callVv (pc1 := 72) (rv_of w_56 cl_12) lkX12_204 (c_X12_wrongs _ _ _) rfl rfl ⟨Nat.le_of_ble_eq_true rfl, Nat.le_of_ble_eq_true rfl⟩ (Nat.le_of_ble_eq_true rfl) dX12_pieceOfC_69 rfl (fun v11 s12 => ?_)
          exact r_vret rfl dX12_pieceOfC_72
        · refine r_aload_n (pc1 := 74) (i := 0) dX12_pieceOfC_73 rfl rfl rfl ?_
          refine r_iload_n (pc1 := 75) (i := 1) dX12_pieceOfC_74 rfl rfl rfl ?_
          refine r_callVv (pc1 := 78) (rv_of w_56 cl_12) lkX12_212 (c_X12_puts _ _) rfl rfl ⟨Nat.le_of_ble_eq_true rfl, Nat.le_of_ble_eq_true rfl⟩ (Nat.le_of_ble_eq_true rfl) dX12_pieceOfC_75 rfl (fun v13 s14 => ?_)
          refine r_aload_n (pc1 := 79) (i := 0) dX12_pieceOfC_78 rfl rfl rfl ?_
          refine r_callVv (pc1 := 82) (rv_of w_56 cl_12) lkX12_256 (c_X12_value _) rfl rfl ⟨Nat.le_of_ble_eq_true rfl, Nat.le_of_ble_eq_true rfl⟩ (Nat.le_of_ble_eq_true rfl) dX12_pieceOfC_79 rfl (fun v15 s16 => ?_)
          refine r_aload_n (pc1 := 83) (i := 0) dX12_pieceOfC_82 rfl rfl rfl ?_
          refine r_callVp (pc1 := 86) (rv_of w_56 cl_12) lkX12_191 (c_X12_isGood _) rfl rfl ⟨Nat.le_of_ble_eq_true rfl, Nat.le_of_ble_eq_true rfl⟩ (Nat.le_of_ble_eq_true rfl) dX12_pieceOfC_83 rfl (fun v17 => ?_)
          refine r_if_ne (tgt := 90) (pc1 := 89) dX12_pieceOfC_86 (by decide) rfl (fun q18 => ?_) (fun q18 => ?_)
          · exact r_vret rfl dX12_pieceOfC_89
          · refine r_aload_n (pc1 := 91) (i := 0) dX12_pieceOfC_90 rfl rfl rfl ?_
            refine r_aload_n (pc1 := 92) (i := 0) dX12_pieceOfC_91 rfl rfl rfl ?_
            refine r_callVp (pc1 := 95) (rv_of w_56 cl_12) lkX12_222 (c_X12_top _) rfl rfl ⟨Nat.le_of_ble_eq_true rfl, Nat.le_of_ble_eq_true rfl⟩ (Nat.le_of_ble_eq_true rfl) dX12_pieceOfC_92 rfl (fun v19 => ?_)
            refine r_iconst (v := 0) (pc1 := 96) dX12_pieceOfC_95 ki_0 rfl ?_
            refine r_callVv (pc1 := 99) (rv_of w_56 cl_12) lkX12_231 (c_X12_emit _ _ _) rfl rfl ⟨Nat.le_of_ble_eq_true rfl, Nat.le_of_ble_eq_true rfl⟩ (Nat.le_of_ble_eq_true rfl) dX12_pieceOfC_96 rfl (fun v20 s21 => ?_)
            refine r_aload_n (pc1 := 100) (i := 0) dX12_pieceOfC_99 rfl rfl rfl ?_
            refine r_dup (pc1 := 101) dX12_pieceOfC_100 rfl rfl ?_
            refine r_getI (pc1 := 104) w_56 gfX12_198 rfl dX12_pieceOfC_101 rfl ?_
            refine r_iconst (v := 1) (pc1 := 105) dX12_pieceOfC_104 ki_1 rfl ?_
            refine r_isub (pc1 := 106) dX12_pieceOfC_105 rfl ?_
            refine r_putI (pc1 := 109) w_56 pfX12_198 rfl ⟨rfl, rfl⟩ dX12_pieceOfC_106 rfl ?_
            refine r_lts (fun s22 => ?_)
            refine r_aload_n (pc1 := 110) (i := 0) dX12_pieceOfC_109 rfl rfl rfl ?_
            refine r_callVv (pc1 := 113) (rv_of w_56 cl_12) lkX12_262 (c_X12_ends _) rfl rfl ⟨Nat.le_of_ble_eq_true rfl, Nat.le_of_ble_eq_true rfl⟩ (Nat.le_of_ble_eq_true rfl) dX12_pieceOfC_110 rfl (fun v23 s24 => ?_)
            exact r_vret rfl dX12_pieceOfC_113
    · refine r_if_eq (tgt := 43) (pc1 := 39) dX12_pieceOfC_36 (by decide) rfl (fun q25 => ?_) (fun q25 => ?_)
      · exact r_wk (hk5 s1) ⟨Or.inr rfl, Or.inl rfl, trivial⟩
      · refine r_aload_n (pc1 := 40) (i := 0) dX12_pieceOfC_39 rfl rfl rfl ?_
        refine r_callVv (pc1 := 43) (rv_of w_56 cl_12) lkX12_256 (c_X12_value _) rfl rfl ⟨Nat.le_of_ble_eq_true rfl, Nat.le_of_ble_eq_true rfl⟩ (Nat.le_of_ble_eq_true rfl) dX12_pieceOfC_40 rfl (fun v26 s27 => ?_)
        exact r_wk (hk5 s27) ⟨Or.inr rfl, Or.inl rfl, trivial⟩
  · exact r_wk (t_lp_X12_pieceOfC_0 k2 hk2 FU s0) ⟨Or.inr rfl, Or.inl rfl, trivial⟩
/-! f_X12_joins -/
noncomputable def lp_X12_joins_0 (a1 : Int32) : Nat → SS → Res
  | 0, _ => none
  | n2 + 1, s1 => bdp (f_X12_top s1) (fun (v3 : Int32) => jn (bdp (f_X12_top s1) (fun (v5 : Int32) => bd (f_X12_emit v5 0 s1) (fun (v6 : Int32) (s7 : SS) => lts (up s7 56 36 ((s7 56 36) - 1)) (fun (s8 : SS) => lp_X12_joins_0 a1 n2 s8)))) (fun (k4 : Res) => if (v3 : Int32) = (38 : Int32) then k4 else if (a1 : Int32) = 0 then some (0, s1) else bdp (f_X12_top s1) (fun (v11 : Int32) => if (v11 : Int32) = (124 : Int32) then k4 else some (0, s1))))
noncomputable def f_X12_joins (a1 : Int32) (s0 : SS) : Res := lp_X12_joins_0 a1 FU s0
set_option maxRecDepth 100000 in
set_option maxHeartbeats 4000000 in
theorem t_lp_X12_joins_0 {l : Launch} (a1 : Int32)  : ∀ (n2 : Nat) (s1 : SS), RC l wF RX12 cX12_joins 2 none 2 0 [.ref 56, .int a1] [] s1 (lp_X12_joins_0 a1 n2 s1) := by
  intro n2
  induction n2 with
  | zero =>
    intro s1
    rw [lp_X12_joins_0]
    exact r_none
  | succ n2 ih =>
    intro s1
    rw [lp_X12_joins_0]
    refine r_aload_n (pc1 := 1) (i := 0) dX12_joins_0 rfl rfl rfl ?_
    refine r_callVp (pc1 := 4) (rv_of w_56 cl_12) lkX12_222 (c_X12_top _) rfl rfl ⟨Nat.le_of_ble_eq_true rfl, Nat.le_of_ble_eq_true rfl⟩ (Nat.le_of_ble_eq_true rfl) dX12_joins_1 rfl (fun v3 => ?_)
    refine r_bipush (v := 38) (pc1 := 6) dX12_joins_4 kb_38 rfl ?_
    refine r_jn (hyp := fun (k4 : Res) => RC l wF RX12 cX12_joins 2 none 2 22 [.ref 56, .int a1] [] s1 k4) (?_) (fun k4 hk4 => ?_)
    · refine r_aload_n (pc1 := 23) (i := 0) dX12_joins_22 rfl rfl rfl ?_
      refine r_aload_n (pc1 := 24) (i := 0) dX12_joins_23 rfl rfl rfl ?_
      refine r_callVp (pc1 := 27) (rv_of w_56 cl_12) lkX12_222 (c_X12_top _) rfl rfl ⟨Nat.le_of_ble_eq_true rfl, Nat.le_of_ble_eq_true rfl⟩ (Nat.le_of_ble_eq_true rfl) dX12_joins_24 rfl (fun v5 => ?_)
      refine r_iconst (v := 0) (pc1 := 28) dX12_joins_27 ki_0 rfl ?_
      refine r_callVv (pc1 := 31) (rv_of w_56 cl_12) lkX12_231 (c_X12_emit _ _ _) rfl rfl ⟨Nat.le_of_ble_eq_true rfl, Nat.le_of_ble_eq_true rfl⟩ (Nat.le_of_ble_eq_true rfl) dX12_joins_28 rfl (fun v6 s7 => ?_)
      refine r_aload_n (pc1 := 32) (i := 0) dX12_joins_31 rfl rfl rfl ?_
      refine r_dup (pc1 := 33) dX12_joins_32 rfl rfl ?_
      refine r_getI (pc1 := 36) w_56 gfX12_198 rfl dX12_joins_33 rfl ?_
      refine r_iconst (v := 1) (pc1 := 37) dX12_joins_36 ki_1 rfl ?_
      refine r_isub (pc1 := 38) dX12_joins_37 rfl ?_
      refine r_putI (pc1 := 41) w_56 pfX12_198 rfl ⟨rfl, rfl⟩ dX12_joins_38 rfl ?_
      refine r_lts (fun s8 => ?_)
      refine r_goto (tgt := 0) dX12_joins_41 (by decide) ?_
      exact r_wk (ih s8) ⟨Or.inr rfl, Or.inr rfl, trivial⟩
    · refine r_icmp_eq (tgt := 22) (pc1 := 9) dX12_joins_6 (by decide) rfl (fun q9 => ?_) (fun q9 => ?_)
      · exact r_wk (hk4) ⟨Or.inr rfl, Or.inr rfl, trivial⟩
      · refine r_iload_n (pc1 := 10) (i := 1) dX12_joins_9 rfl rfl rfl ?_
        refine r_if_eq (tgt := 44) (pc1 := 13) dX12_joins_10 (by decide) rfl (fun q10 => ?_) (fun q10 => ?_)
        · exact r_vret rfl dX12_joins_44
        · refine r_aload_n (pc1 := 14) (i := 0) dX12_joins_13 rfl rfl rfl ?_
          refine r_callVp (pc1 := 17) (rv_of w_56 cl_12) lkX12_222 (c_X12_top _) rfl rfl ⟨Nat.le_of_ble_eq_true rfl, Nat.le_of_ble_eq_true rfl⟩ (Nat.le_of_ble_eq_true rfl) dX12_joins_14 rfl (fun v11 => ?_)
          refine r_bipush (v := 124) (pc1 := 19) dX12_joins_17 kb_124 rfl ?_
          refine r_icmp_ne (tgt := 44) (pc1 := 22) dX12_joins_19 (by decide) rfl (fun q12 => ?_) (fun q12 => ?_)
          · exact r_wk (hk4) ⟨Or.inr rfl, Or.inr rfl, trivial⟩
          · exact r_vret rfl dX12_joins_44
set_option maxRecDepth 100000 in
set_option maxHeartbeats 4000000 in
theorem c_X12_joins {l : Launch} (a1 : Int32) (s0 : SS) : Ct l wF yX12_joins cX12_joins 2 none 2 [.ref 56, .int a1] s0 (f_X12_joins a1 s0) := by
  refine ct_of (y := yX12_joins) plX12 (Nat.le_of_ble_eq_true rfl) ?_
  refine r_pad0 0 (L1 := [.ref 56, .int a1]) rfl ?_
  unfold f_X12_joins
  exact r_wk (t_lp_X12_joins_0 a1 FU s0) ⟨Or.inr rfl, Or.inr rfl, trivial⟩
/-! f_X12_goesBehind -/
noncomputable def f_X12_goesBehind  (s0 : SS) : Res := bdp (f_X12_here s0) (fun (v1 : Int32) => jn (jn (fun (v3 : Int32) => bd (f_X12_joins v3 s0) (fun (v5 : Int32) (s6 : SS) => bd (f_X12_puts v1 s6) (fun (v7 : Int32) (s8 : SS) => some (1, s8)))) (fun (k4 : Int32 → Res) => if (v1 : Int32) = (124 : Int32) then k4 1 else k4 0)) (fun (k2 : Res) => if (v1 : Int32) = (38 : Int32) then k2 else if (v1 : Int32) = (124 : Int32) then k2 else if (v1 : Int32) = (41 : Int32) then bd (f_X12_joins 1 s0) (fun (v13 : Int32) (s14 : SS) => lts (up s14 56 36 ((s14 56 36) - 1)) (fun (s15 : SS) => lts (up s15 56 35 ((s15 56 35) - 1)) (fun (s16 : SS) => lts (up s16 56 30 ((s16 56 30) + 1)) (fun (s17 : SS) => jn (fun (v18 : Int32) => gd ((v18 : Int32) = 0 ∨ (v18 : Int32) = 1) (lts (up s17 56 37 v18) (fun (s21 : SS) => if (s21 56 37 : Int32) = 0 then bd (f_X12_ends s21) (fun (v23 : Int32) (s24 : SS) => some (0, s24)) else some (0, s21)))) (fun (k19 : Int32 → Res) => if (s17 56 36 : Int32) = 0 then k19 1 else k19 0))))) else bd (f_X12_wrongs 1 (s0 56 30) s0) (fun (v26 : Int32) (s27 : SS) => some (0, s27))))
set_option maxRecDepth 100000 in
set_option maxHeartbeats 4000000 in
theorem c_X12_goesBehind {l : Launch}  (s0 : SS) : Ct l wF yX12_goesBehind cX12_goesBehind 2 (some .boolean) 3 [.ref 56] s0 (f_X12_goesBehind s0) := by
  refine ct_of (y := yX12_goesBehind) plX12 (Nat.le_of_ble_eq_true rfl) ?_
  refine r_pad0 1 (L1 := [.ref 56, .null]) rfl ?_
  unfold f_X12_goesBehind
  refine r_aload_n (pc1 := 1) (i := 0) dX12_goesBehind_0 rfl rfl rfl ?_
  refine r_callVp (pc1 := 4) (rv_of w_56 cl_12) lkX12_208 (c_X12_here _) rfl rfl ⟨Nat.le_of_ble_eq_true rfl, Nat.le_of_ble_eq_true rfl⟩ (Nat.le_of_ble_eq_true rfl) dX12_goesBehind_1 rfl (fun v1 => ?_)
  refine r_istore_n (pc1 := 5) (i := 1) dX12_goesBehind_4 rfl (by decide) rfl rfl rfl ?_
  refine r_iload_n (pc1 := 6) (i := 1) dX12_goesBehind_5 rfl rfl rfl ?_
  refine r_bipush (v := 38) (pc1 := 8) dX12_goesBehind_6 kb_38 rfl ?_
  refine r_jn (hyp := fun (k2 : Res) => RC l wF RX12 cX12_goesBehind 2 (some .boolean) 3 17 [.ref 56, .int v1] [] s0 k2) (?_) (fun k2 hk2 => ?_)
  · refine r_aload_n (pc1 := 18) (i := 0) dX12_goesBehind_17 rfl rfl rfl ?_
    refine r_iload_n (pc1 := 19) (i := 1) dX12_goesBehind_18 rfl rfl rfl ?_
    refine r_bipush (v := 124) (pc1 := 21) dX12_goesBehind_19 kb_124 rfl ?_
    refine r_jn (hyp := fun (k4 : Int32 → Res) => ∀ (v3 : Int32), RC l wF RX12 cX12_goesBehind 2 (some .boolean) 3 29 [.ref 56, .int v1] [.int v3, .ref 56] s0 (k4 v3)) (fun v3 => ?_) (fun k4 hk4 => ?_)
    · refine r_callVv (pc1 := 32) (rv_of w_56 cl_12) lkX12_265 (c_X12_joins _ _) rfl rfl ⟨Nat.le_of_ble_eq_true rfl, Nat.le_of_ble_eq_true rfl⟩ (Nat.le_of_ble_eq_true rfl) dX12_goesBehind_29 rfl (fun v5 s6 => ?_)
      refine r_aload_n (pc1 := 33) (i := 0) dX12_goesBehind_32 rfl rfl rfl ?_
      refine r_iload_n (pc1 := 34) (i := 1) dX12_goesBehind_33 rfl rfl rfl ?_
      refine r_callVv (pc1 := 37) (rv_of w_56 cl_12) lkX12_212 (c_X12_puts _ _) rfl rfl ⟨Nat.le_of_ble_eq_true rfl, Nat.le_of_ble_eq_true rfl⟩ (Nat.le_of_ble_eq_true rfl) dX12_goesBehind_34 rfl (fun v7 s8 => ?_)
      refine r_iconst (v := 1) (pc1 := 38) dX12_goesBehind_37 ki_1 rfl ?_
      exact r_iret rfl rfl dX12_goesBehind_38
    · refine r_icmp_ne (tgt := 28) (pc1 := 24) dX12_goesBehind_21 (by decide) rfl (fun q9 => ?_) (fun q9 => ?_)
      · refine r_iconst (v := 1) (pc1 := 25) dX12_goesBehind_24 ki_1 rfl ?_
        refine r_goto (tgt := 29) dX12_goesBehind_25 (by decide) ?_
        exact r_wk (hk4 1) ⟨Or.inr rfl, Or.inr rfl, trivial⟩
      · refine r_iconst (v := 0) (pc1 := 29) dX12_goesBehind_28 ki_0 rfl ?_
        exact r_wk (hk4 0) ⟨Or.inr rfl, Or.inr rfl, trivial⟩
  · refine r_icmp_eq (tgt := 17) (pc1 := 11) dX12_goesBehind_8 (by decide) rfl (fun q10 => ?_) (fun q10 => ?_)
    · exact r_wk (hk2) ⟨Or.inr rfl, Or.inr rfl, trivial⟩
    · refine r_iload_n (pc1 := 12) (i := 1) dX12_goesBehind_11 rfl rfl rfl ?_
      refine r_bipush (v := 124) (pc1 := 14) dX12_goesBehind_12 kb_124 rfl ?_
      refine r_icmp_ne (tgt := 39) (pc1 := 17) dX12_goesBehind_14 (by decide) rfl (fun q11 => ?_) (fun q11 => ?_)
      · exact r_wk (hk2) ⟨Or.inr rfl, Or.inr rfl, trivial⟩
      · refine r_iload_n (pc1 := 40) (i := 1) dX12_goesBehind_39 rfl rfl rfl ?_
        refine r_bipush (v := 41) (pc1 := 42) dX12_goesBehind_40 kb_41 rfl ?_
        refine r_icmp_eq (tgt := 56) (pc1 := 45) dX12_goesBehind_42 (by decide) rfl (fun q12 => ?_) (fun q12 => ?_)
        · refine r_aload_n (pc1 := 57) (i := 0) dX12_goesBehind_56 rfl rfl rfl ?_
          refine r_iconst (v := 1) (pc1 := 58) dX12_goesBehind_57 ki_1 rfl ?_
          refine r_callVv (pc1 := 61) (rv_of w_56 cl_12) lkX12_265 (c_X12_joins _ _) rfl rfl ⟨Nat.le_of_ble_eq_true rfl, Nat.le_of_ble_eq_true rfl⟩ (Nat.le_of_ble_eq_true rfl) dX12_goesBehind_58 rfl (fun v13 s14 => ?_)
          refine r_aload_n (pc1 := 62) (i := 0) dX12_goesBehind_61 rfl rfl rfl ?_
          refine r_dup (pc1 := 63) dX12_goesBehind_62 rfl rfl ?_
          refine r_getI (pc1 := 66) w_56 gfX12_198 rfl dX12_goesBehind_63 rfl ?_
          refine r_iconst (v := 1) (pc1 := 67) dX12_goesBehind_66 ki_1 rfl ?_
          refine r_isub (pc1 := 68) dX12_goesBehind_67 rfl ?_
          refine r_putI (pc1 := 71) w_56 pfX12_198 rfl ⟨rfl, rfl⟩ dX12_goesBehind_68 rfl ?_
          refine r_lts (fun s15 => ?_)
          refine r_aload_n (pc1 := 72) (i := 0) dX12_goesBehind_71 rfl rfl rfl ?_
          refine r_dup (pc1 := 73) dX12_goesBehind_72 rfl rfl ?_
          refine r_getI (pc1 := 76) w_56 gfX12_201 rfl dX12_goesBehind_73 rfl ?_
          refine r_iconst (v := 1) (pc1 := 77) dX12_goesBehind_76 ki_1 rfl ?_
          refine r_isub (pc1 := 78) dX12_goesBehind_77 rfl ?_
          refine r_putI (pc1 := 81) w_56 pfX12_201 rfl ⟨rfl, rfl⟩ dX12_goesBehind_78 rfl ?_
          refine r_lts (fun s16 => ?_)
          refine r_aload_n (pc1 := 82) (i := 0) dX12_goesBehind_81 rfl rfl rfl ?_
          refine r_dup (pc1 := 83) dX12_goesBehind_82 rfl rfl ?_
          refine r_getI (pc1 := 86) w_56 gfX12_182 rfl dX12_goesBehind_83 rfl ?_
          refine r_iconst (v := 1) (pc1 := 87) dX12_goesBehind_86 ki_1 rfl ?_
          refine r_iadd (pc1 := 88) dX12_goesBehind_87 rfl ?_
          refine r_putI (pc1 := 91) w_56 pfX12_182 rfl ⟨rfl, rfl⟩ dX12_goesBehind_88 rfl ?_
          refine r_lts (fun s17 => ?_)
          refine r_aload_n (pc1 := 92) (i := 0) dX12_goesBehind_91 rfl rfl rfl ?_
          refine r_aload_n (pc1 := 93) (i := 0) dX12_goesBehind_92 rfl rfl rfl ?_
          refine r_getI (pc1 := 96) w_56 gfX12_198 rfl dX12_goesBehind_93 rfl ?_
          refine r_jn (hyp := fun (k19 : Int32 → Res) => ∀ (v18 : Int32), RC l wF RX12 cX12_goesBehind 2 (some .boolean) 3 104 [.ref 56, .null] [.int v18, .ref 56] s17 (k19 v18)) (fun v18 => ?_) (fun k19 hk19 => ?_)
          · refine r_gd (fun q20 => ?_)
            refine r_putI (pc1 := 107) w_56 pfX12_268 rfl (zb_ok q20) dX12_goesBehind_104 rfl ?_
            refine r_lts (fun s21 => ?_)
            refine r_aload_n (pc1 := 108) (i := 0) dX12_goesBehind_107 rfl rfl rfl ?_
            refine r_getI (pc1 := 111) w_56 gfX12_268 rfl dX12_goesBehind_108 rfl ?_
            refine r_if_ne (tgt := 118) (pc1 := 114) dX12_goesBehind_111 (by decide) rfl (fun q22 => ?_) (fun q22 => ?_)
            · refine r_aload_n (pc1 := 115) (i := 0) dX12_goesBehind_114 rfl rfl rfl ?_
              refine r_callVv (pc1 := 118) (rv_of w_56 cl_12) lkX12_262 (c_X12_ends _) rfl rfl ⟨Nat.le_of_ble_eq_true rfl, Nat.le_of_ble_eq_true rfl⟩ (Nat.le_of_ble_eq_true rfl) dX12_goesBehind_115 rfl (fun v23 s24 => ?_)
              refine r_iconst (v := 0) (pc1 := 119) dX12_goesBehind_118 ki_0 rfl ?_
              exact r_iret rfl rfl dX12_goesBehind_119
            · refine r_iconst (v := 0) (pc1 := 119) dX12_goesBehind_118 ki_0 rfl ?_
              exact r_iret rfl rfl dX12_goesBehind_119
          · refine r_if_ne (tgt := 103) (pc1 := 99) dX12_goesBehind_96 (by decide) rfl (fun q25 => ?_) (fun q25 => ?_)
            · refine r_iconst (v := 1) (pc1 := 100) dX12_goesBehind_99 ki_1 rfl ?_
              refine r_goto (tgt := 104) dX12_goesBehind_100 (by decide) ?_
              exact r_wk (hk19 1) ⟨Or.inr rfl, Or.inl rfl, trivial⟩
            · refine r_iconst (v := 0) (pc1 := 104) dX12_goesBehind_103 ki_0 rfl ?_
              exact r_wk (hk19 0) ⟨Or.inr rfl, Or.inl rfl, trivial⟩
        · refine r_aload_n (pc1 := 46) (i := 0) dX12_goesBehind_45 rfl rfl rfl ?_
          refine r_iconst (v := 1) (pc1 := 47) dX12_goesBehind_46 ki_1 rfl ?_
          refine r_aload_n (pc1 := 48) (i := 0) dX12_goesBehind_47 rfl rfl rfl ?_
          refine r_getI (pc1 := 51) w_56 gfX12_182 rfl dX12_goesBehind_48 rfl ?_
          refine r_callVv (pc1 := 54) (rv_of w_56 cl_12) lkX12_204 (c_X12_wrongs _ _ _) rfl rfl ⟨Nat.le_of_ble_eq_true rfl, Nat.le_of_ble_eq_true rfl⟩ (Nat.le_of_ble_eq_true rfl) dX12_goesBehind_51 rfl (fun v26 s27 => ?_)
          refine r_iconst (v := 0) (pc1 := 55) dX12_goesBehind_54 ki_0 rfl ?_
          exact r_iret rfl rfl dX12_goesBehind_55
/-! f_X12_condition -/
noncomputable def lp_X12_condition_37  : Nat → Int32 → SS → Res
  | 0, _, _ => none
  | n11 + 1, v9, s10 => bdp (f_X12_isGood s10) (fun (v12 : Int32) => if (v12 : Int32) = 0 then some (0, s10) else if (s10 56 37 : Int32) = 0 then jn (fun (s15 : SS) => bdp (f_X12_isGood s15) (fun (v17 : Int32) => if (v17 : Int32) = 0 then lp_X12_condition_37 n11 v9 s15 else bd (f_X12_goesBehind s15) (fun (v19 : Int32) (s20 : SS) => lp_X12_condition_37 n11 v19 s20))) (fun (k16 : SS → Res) => if (v9 : Int32) = 0 then k16 s10 else bd (f_X12_pieceOfC s10) (fun (v22 : Int32) (s23 : SS) => k16 s23)) else some (0, s10))
noncomputable def f_X12_condition  (s0 : SS) : Res := lts (up s0 56 37 0) (fun (s1 : SS) => bdp (f_X12_here s1) (fun (v2 : Int32) => jn (fun (s3 : SS) => bdp (f_X12_isGood s3) (fun (v5 : Int32) => if (v5 : Int32) = 0 then some (0, s3) else bd (f_X12_opens s3) (fun (v7 : Int32) (s8 : SS) => lp_X12_condition_37 FU 1 s8))) (fun (k4 : SS → Res) => if (v2 : Int32) = (40 : Int32) then k4 s1 else bd (f_X12_wrongs 1 (s1 56 30) s1) (fun (v25 : Int32) (s26 : SS) => k4 s26))))
set_option maxRecDepth 100000 in
set_option maxHeartbeats 4000000 in
theorem t_lp_X12_condition_37 {l : Launch}   : ∀ (n11 : Nat) (v9 : Int32) (s10 : SS), RC l wF RX12 cX12_condition 2 none 6 37 [.ref 56, .int v9] [] s10 (lp_X12_condition_37 n11 v9 s10) := by
  intro n11
  induction n11 with
  | zero =>
    intro v9 s10
    rw [lp_X12_condition_37]
    exact r_none
  | succ n11 ih =>
    intro v9 s10
    rw [lp_X12_condition_37]
    refine r_aload_n (pc1 := 38) (i := 0) dX12_condition_37 rfl rfl rfl ?_
    refine r_callVp (pc1 := 41) (rv_of w_56 cl_12) lkX12_191 (c_X12_isGood _) rfl rfl ⟨Nat.le_of_ble_eq_true rfl, Nat.le_of_ble_eq_true rfl⟩ (Nat.le_of_ble_eq_true rfl) dX12_condition_38 rfl (fun v12 => ?_)
    refine r_if_eq (tgt := 74) (pc1 := 44) dX12_condition_41 (by decide) rfl (fun q13 => ?_) (fun q13 => ?_)
    · exact r_vret rfl dX12_condition_74
    · refine r_aload_n (pc1 := 45) (i := 0) dX12_condition_44 rfl rfl rfl ?_
      refine r_getI (pc1 := 48) w_56 gfX12_268 rfl dX12_condition_45 rfl ?_
      refine r_if_ne (tgt := 74) (pc1 := 51) dX12_condition_48 (by decide) rfl (fun q14 => ?_) (fun q14 => ?_)
      · refine r_iload_n (pc1 := 52) (i := 1) dX12_condition_51 rfl rfl rfl ?_
        refine r_jn (hyp := fun (k16 : SS → Res) => ∀ (s15 : SS), RC l wF RX12 cX12_condition 2 none 6 59 [.ref 56, .int v9] [] s15 (k16 s15)) (fun s15 => ?_) (fun k16 hk16 => ?_)
        · refine r_aload_n (pc1 := 60) (i := 0) dX12_condition_59 rfl rfl rfl ?_
          refine r_callVp (pc1 := 63) (rv_of w_56 cl_12) lkX12_191 (c_X12_isGood _) rfl rfl ⟨Nat.le_of_ble_eq_true rfl, Nat.le_of_ble_eq_true rfl⟩ (Nat.le_of_ble_eq_true rfl) dX12_condition_60 rfl (fun v17 => ?_)
          refine r_if_eq (tgt := 37) (pc1 := 66) dX12_condition_63 (by decide) rfl (fun q18 => ?_) (fun q18 => ?_)
          · exact r_wk (ih v9 s15) ⟨Or.inr rfl, Or.inr rfl, trivial⟩
          · refine r_aload_n (pc1 := 67) (i := 0) dX12_condition_66 rfl rfl rfl ?_
            refine r_callVi (pc1 := 70) (rv_of w_56 cl_12) lkX12_274 (c_X12_goesBehind _) rfl rfl ⟨Nat.le_of_ble_eq_true rfl, Nat.le_of_ble_eq_true rfl⟩ (Nat.le_of_ble_eq_true rfl) dX12_condition_67 rfl (fun v19 s20 => ?_)
            refine r_istore_n (pc1 := 71) (i := 1) dX12_condition_70 rfl (by decide) rfl rfl rfl ?_
            refine r_goto (tgt := 37) dX12_condition_71 (by decide) ?_
            exact r_wk (ih v19 s20) ⟨Or.inr rfl, Or.inr rfl, trivial⟩
        · refine r_if_eq (tgt := 59) (pc1 := 55) dX12_condition_52 (by decide) rfl (fun q21 => ?_) (fun q21 => ?_)
          · exact r_wk (hk16 s10) ⟨Or.inr rfl, Or.inr rfl, trivial⟩
          · refine r_aload_n (pc1 := 56) (i := 0) dX12_condition_55 rfl rfl rfl ?_
            refine r_callVv (pc1 := 59) (rv_of w_56 cl_12) lkX12_271 (c_X12_pieceOfC _) rfl rfl ⟨Nat.le_of_ble_eq_true rfl, Nat.le_of_ble_eq_true rfl⟩ (Nat.le_of_ble_eq_true rfl) dX12_condition_56 rfl (fun v22 s23 => ?_)
            exact r_wk (hk16 s23) ⟨Or.inr rfl, Or.inr rfl, trivial⟩
      · exact r_vret rfl dX12_condition_74
set_option maxRecDepth 100000 in
set_option maxHeartbeats 4000000 in
theorem c_X12_condition {l : Launch}  (s0 : SS) : Ct l wF yX12_condition cX12_condition 2 none 6 [.ref 56] s0 (f_X12_condition s0) := by
  refine ct_of (y := yX12_condition) plX12 (Nat.le_of_ble_eq_true rfl) ?_
  refine r_pad0 1 (L1 := [.ref 56, .null]) rfl ?_
  unfold f_X12_condition
  refine r_aload_n (pc1 := 1) (i := 0) dX12_condition_0 rfl rfl rfl ?_
  refine r_iconst (v := 0) (pc1 := 2) dX12_condition_1 ki_0 rfl ?_
  refine r_putI (pc1 := 5) w_56 pfX12_268 rfl ⟨rfl, rfl⟩ dX12_condition_2 rfl ?_
  refine r_lts (fun s1 => ?_)
  refine r_aload_n (pc1 := 6) (i := 0) dX12_condition_5 rfl rfl rfl ?_
  refine r_callVp (pc1 := 9) (rv_of w_56 cl_12) lkX12_208 (c_X12_here _) rfl rfl ⟨Nat.le_of_ble_eq_true rfl, Nat.le_of_ble_eq_true rfl⟩ (Nat.le_of_ble_eq_true rfl) dX12_condition_6 rfl (fun v2 => ?_)
  refine r_bipush (v := 40) (pc1 := 11) dX12_condition_9 kb_40 rfl ?_
  refine r_jn (hyp := fun (k4 : SS → Res) => ∀ (s3 : SS), RC l wF RX12 cX12_condition 2 none 6 23 [.ref 56, .null] [] s3 (k4 s3)) (fun s3 => ?_) (fun k4 hk4 => ?_)
  · refine r_aload_n (pc1 := 24) (i := 0) dX12_condition_23 rfl rfl rfl ?_
    refine r_callVp (pc1 := 27) (rv_of w_56 cl_12) lkX12_191 (c_X12_isGood _) rfl rfl ⟨Nat.le_of_ble_eq_true rfl, Nat.le_of_ble_eq_true rfl⟩ (Nat.le_of_ble_eq_true rfl) dX12_condition_24 rfl (fun v5 => ?_)
    refine r_if_ne (tgt := 31) (pc1 := 30) dX12_condition_27 (by decide) rfl (fun q6 => ?_) (fun q6 => ?_)
    · exact r_vret rfl dX12_condition_30
    · refine r_aload_n (pc1 := 32) (i := 0) dX12_condition_31 rfl rfl rfl ?_
      refine r_callVv (pc1 := 35) (rv_of w_56 cl_12) lkX12_234 (c_X12_opens _) rfl rfl ⟨Nat.le_of_ble_eq_true rfl, Nat.le_of_ble_eq_true rfl⟩ (Nat.le_of_ble_eq_true rfl) dX12_condition_32 rfl (fun v7 s8 => ?_)
      refine r_iconst (v := 1) (pc1 := 36) dX12_condition_35 ki_1 rfl ?_
      refine r_istore_n (pc1 := 37) (i := 1) dX12_condition_36 rfl (by decide) rfl rfl rfl ?_
      exact r_wk (t_lp_X12_condition_37 FU 1 s8) ⟨Or.inr rfl, Or.inr rfl, trivial⟩
  · refine r_icmp_eq (tgt := 23) (pc1 := 14) dX12_condition_11 (by decide) rfl (fun q24 => ?_) (fun q24 => ?_)
    · exact r_wk (hk4 s1) ⟨Or.inr rfl, Or.inl rfl, trivial⟩
    · refine r_aload_n (pc1 := 15) (i := 0) dX12_condition_14 rfl rfl rfl ?_
      refine r_iconst (v := 1) (pc1 := 16) dX12_condition_15 ki_1 rfl ?_
      refine r_aload_n (pc1 := 17) (i := 0) dX12_condition_16 rfl rfl rfl ?_
      refine r_getI (pc1 := 20) w_56 gfX12_182 rfl dX12_condition_17 rfl ?_
      refine r_callVv (pc1 := 23) (rv_of w_56 cl_12) lkX12_204 (c_X12_wrongs _ _ _) rfl rfl ⟨Nat.le_of_ble_eq_true rfl, Nat.le_of_ble_eq_true rfl⟩ (Nat.le_of_ble_eq_true rfl) dX12_condition_20 rfl (fun v25 s26 => ?_)
      exact r_wk (hk4 s26) ⟨Or.inr rfl, Or.inl rfl, trivial⟩
/-! f_X12_clause -/
noncomputable def f_X12_clause  (s0 : SS) : Res := bdp (f_X12_here s0) (fun (v1 : Int32) => jn (fun (s2 : SS) => bdp (f_X12_isGood s2) (fun (v4 : Int32) => if (v4 : Int32) = 0 then some (0, s2) else gd (inb (s2 56 33) 14) (lts (up s2 71 (Int32.toNatClampNeg (s2 56 33)) v1) (fun (s6 : SS) => gd (inb (s6 56 33) 14) (lts (up s6 72 (Int32.toNatClampNeg (s6 56 33)) (s6 56 34)) (fun (s7 : SS) => lts (up s7 56 30 ((s7 56 30) + 1)) (fun (s8 : SS) => lts (up s8 56 36 0) (fun (s9 : SS) => lts (up s9 56 35 0) (fun (s10 : SS) => bd (f_X12_value s10) (fun (v11 : Int32) (s12 : SS) => gd (inb (s12 56 33) 14) (lts (up s12 73 (Int32.toNatClampNeg (s12 56 33)) (s12 56 34)) (fun (s13 : SS) => bdp (f_X12_isGood s13) (fun (v14 : Int32) => jn (fun (s15 : SS) => gd (inb (s15 56 33) 14) (lts (up s15 74 (Int32.toNatClampNeg (s15 56 33)) (s15 56 34)) (fun (s17 : SS) => lts (up s17 56 33 ((s17 56 33) + 1)) (fun (s18 : SS) => some (0, s18))))) (fun (k16 : SS → Res) => if (v14 : Int32) = 0 then k16 s13 else bd (f_X12_condition s13) (fun (v20 : Int32) (s21 : SS) => k16 s21))))))))))))))) (fun (k3 : SS → Res) => jn (if (s0 56 33 : Int32) = (14 : Int32) then bd (f_X12_wrongs 4 (s0 56 30) s0) (fun (v24 : Int32) (s25 : SS) => k3 s25) else k3 s0) (fun (k22 : Res) => if (v1 : Int32) = (118 : Int32) then k22 else if (v1 : Int32) = (109 : Int32) then k22 else bd (f_X12_wrongs 1 (s0 56 30) s0) (fun (v28 : Int32) (s29 : SS) => k3 s29))))
set_option maxRecDepth 100000 in
set_option maxHeartbeats 4000000 in
theorem c_X12_clause {l : Launch}  (s0 : SS) : Ct l wF yX12_clause cX12_clause 2 none 7 [.ref 56] s0 (f_X12_clause s0) := by
  refine ct_of (y := yX12_clause) plX12 (Nat.le_of_ble_eq_true rfl) ?_
  refine r_pad0 1 (L1 := [.ref 56, .null]) rfl ?_
  unfold f_X12_clause
  refine r_aload_n (pc1 := 1) (i := 0) dX12_clause_0 rfl rfl rfl ?_
  refine r_callVp (pc1 := 4) (rv_of w_56 cl_12) lkX12_208 (c_X12_here _) rfl rfl ⟨Nat.le_of_ble_eq_true rfl, Nat.le_of_ble_eq_true rfl⟩ (Nat.le_of_ble_eq_true rfl) dX12_clause_1 rfl (fun v1 => ?_)
  refine r_istore_n (pc1 := 5) (i := 1) dX12_clause_4 rfl (by decide) rfl rfl rfl ?_
  refine r_iload_n (pc1 := 6) (i := 1) dX12_clause_5 rfl rfl rfl ?_
  refine r_bipush (v := 118) (pc1 := 8) dX12_clause_6 kb_118 rfl ?_
  refine r_jn (hyp := fun (k3 : SS → Res) => ∀ (s2 : SS), RC l wF RX12 cX12_clause 2 none 7 47 [.ref 56, .int v1] [] s2 (k3 s2)) (fun s2 => ?_) (fun k3 hk3 => ?_)
  · refine r_aload_n (pc1 := 48) (i := 0) dX12_clause_47 rfl rfl rfl ?_
    refine r_callVp (pc1 := 51) (rv_of w_56 cl_12) lkX12_191 (c_X12_isGood _) rfl rfl ⟨Nat.le_of_ble_eq_true rfl, Nat.le_of_ble_eq_true rfl⟩ (Nat.le_of_ble_eq_true rfl) dX12_clause_48 rfl (fun v4 => ?_)
    refine r_if_ne (tgt := 55) (pc1 := 54) dX12_clause_51 (by decide) rfl (fun q5 => ?_) (fun q5 => ?_)
    · exact r_vret rfl dX12_clause_54
    · refine r_aload_n (pc1 := 56) (i := 0) dX12_clause_55 rfl rfl rfl ?_
      refine r_getR (pc1 := 59) w_56 gfX12_63 rfl dX12_clause_56 rfl ?_
      refine r_aload_n (pc1 := 60) (i := 0) dX12_clause_59 rfl rfl rfl ?_
      refine r_getI (pc1 := 63) w_56 gfX12_277 rfl dX12_clause_60 rfl ?_
      refine r_iload_n (pc1 := 64) (i := 1) dX12_clause_63 rfl rfl rfl ?_
      refine r_iast (pc1 := 65) w_71 dX12_clause_64 rfl ?_
      refine r_lts (fun s6 => ?_)
      refine r_aload_n (pc1 := 66) (i := 0) dX12_clause_65 rfl rfl rfl ?_
      refine r_getR (pc1 := 69) w_56 gfX12_66 rfl dX12_clause_66 rfl ?_
      refine r_aload_n (pc1 := 70) (i := 0) dX12_clause_69 rfl rfl rfl ?_
      refine r_getI (pc1 := 73) w_56 gfX12_277 rfl dX12_clause_70 rfl ?_
      refine r_aload_n (pc1 := 74) (i := 0) dX12_clause_73 rfl rfl rfl ?_
      refine r_getI (pc1 := 77) w_56 gfX12_195 rfl dX12_clause_74 rfl ?_
      refine r_iast (pc1 := 78) w_72 dX12_clause_77 rfl ?_
      refine r_lts (fun s7 => ?_)
      refine r_aload_n (pc1 := 79) (i := 0) dX12_clause_78 rfl rfl rfl ?_
      refine r_dup (pc1 := 80) dX12_clause_79 rfl rfl ?_
      refine r_getI (pc1 := 83) w_56 gfX12_182 rfl dX12_clause_80 rfl ?_
      refine r_iconst (v := 1) (pc1 := 84) dX12_clause_83 ki_1 rfl ?_
      refine r_iadd (pc1 := 85) dX12_clause_84 rfl ?_
      refine r_putI (pc1 := 88) w_56 pfX12_182 rfl ⟨rfl, rfl⟩ dX12_clause_85 rfl ?_
      refine r_lts (fun s8 => ?_)
      refine r_aload_n (pc1 := 89) (i := 0) dX12_clause_88 rfl rfl rfl ?_
      refine r_iconst (v := 0) (pc1 := 90) dX12_clause_89 ki_0 rfl ?_
      refine r_putI (pc1 := 93) w_56 pfX12_198 rfl ⟨rfl, rfl⟩ dX12_clause_90 rfl ?_
      refine r_lts (fun s9 => ?_)
      refine r_aload_n (pc1 := 94) (i := 0) dX12_clause_93 rfl rfl rfl ?_
      refine r_iconst (v := 0) (pc1 := 95) dX12_clause_94 ki_0 rfl ?_
      refine r_putI (pc1 := 98) w_56 pfX12_201 rfl ⟨rfl, rfl⟩ dX12_clause_95 rfl ?_
      refine r_lts (fun s10 => ?_)
      refine r_aload_n (pc1 := 99) (i := 0) dX12_clause_98 rfl rfl rfl ?_
      refine r_callVv (pc1 := 102) (rv_of w_56 cl_12) lkX12_256 (c_X12_value _) rfl rfl ⟨Nat.le_of_ble_eq_true rfl, Nat.le_of_ble_eq_true rfl⟩ (Nat.le_of_ble_eq_true rfl) dX12_clause_99 rfl (fun v11 s12 => ?_)
      refine r_aload_n (pc1 := 103) (i := 0) dX12_clause_102 rfl rfl rfl ?_
      refine r_getR (pc1 := 106) w_56 gfX12_69 rfl dX12_clause_103 rfl ?_
      refine r_aload_n (pc1 := 107) (i := 0) dX12_clause_106 rfl rfl rfl ?_
      refine r_getI (pc1 := 110) w_56 gfX12_277 rfl dX12_clause_107 rfl ?_
      refine r_aload_n (pc1 := 111) (i := 0) dX12_clause_110 rfl rfl rfl ?_
      refine r_getI (pc1 := 114) w_56 gfX12_195 rfl dX12_clause_111 rfl ?_
      refine r_iast (pc1 := 115) w_73 dX12_clause_114 rfl ?_
      refine r_lts (fun s13 => ?_)
      refine r_aload_n (pc1 := 116) (i := 0) dX12_clause_115 rfl rfl rfl ?_
      refine r_callVp (pc1 := 119) (rv_of w_56 cl_12) lkX12_191 (c_X12_isGood _) rfl rfl ⟨Nat.le_of_ble_eq_true rfl, Nat.le_of_ble_eq_true rfl⟩ (Nat.le_of_ble_eq_true rfl) dX12_clause_116 rfl (fun v14 => ?_)
      refine r_jn (hyp := fun (k16 : SS → Res) => ∀ (s15 : SS), RC l wF RX12 cX12_clause 2 none 7 126 [.ref 56, .null] [] s15 (k16 s15)) (fun s15 => ?_) (fun k16 hk16 => ?_)
      · refine r_aload_n (pc1 := 127) (i := 0) dX12_clause_126 rfl rfl rfl ?_
        refine r_getR (pc1 := 130) w_56 gfX12_72 rfl dX12_clause_127 rfl ?_
        refine r_aload_n (pc1 := 131) (i := 0) dX12_clause_130 rfl rfl rfl ?_
        refine r_getI (pc1 := 134) w_56 gfX12_277 rfl dX12_clause_131 rfl ?_
        refine r_aload_n (pc1 := 135) (i := 0) dX12_clause_134 rfl rfl rfl ?_
        refine r_getI (pc1 := 138) w_56 gfX12_195 rfl dX12_clause_135 rfl ?_
        refine r_iast (pc1 := 139) w_74 dX12_clause_138 rfl ?_
        refine r_lts (fun s17 => ?_)
        refine r_aload_n (pc1 := 140) (i := 0) dX12_clause_139 rfl rfl rfl ?_
        refine r_dup (pc1 := 141) dX12_clause_140 rfl rfl ?_
        refine r_getI (pc1 := 144) w_56 gfX12_277 rfl dX12_clause_141 rfl ?_
        refine r_iconst (v := 1) (pc1 := 145) dX12_clause_144 ki_1 rfl ?_
        refine r_iadd (pc1 := 146) dX12_clause_145 rfl ?_
        refine r_putI (pc1 := 149) w_56 pfX12_277 rfl ⟨rfl, rfl⟩ dX12_clause_146 rfl ?_
        refine r_lts (fun s18 => ?_)
        exact r_vret rfl dX12_clause_149
      · refine r_if_eq (tgt := 126) (pc1 := 122) dX12_clause_119 (by decide) rfl (fun q19 => ?_) (fun q19 => ?_)
        · exact r_wk (hk16 s13) ⟨Or.inr rfl, Or.inl rfl, trivial⟩
        · refine r_aload_n (pc1 := 123) (i := 0) dX12_clause_122 rfl rfl rfl ?_
          refine r_callVv (pc1 := 126) (rv_of w_56 cl_12) lkX12_280 (c_X12_condition _) rfl rfl ⟨Nat.le_of_ble_eq_true rfl, Nat.le_of_ble_eq_true rfl⟩ (Nat.le_of_ble_eq_true rfl) dX12_clause_123 rfl (fun v20 s21 => ?_)
          exact r_wk (hk16 s21) ⟨Or.inr rfl, Or.inl rfl, trivial⟩
  · refine r_jn (hyp := fun (k22 : Res) => RC l wF RX12 cX12_clause 2 none 7 29 [.ref 56, .int v1] [] s0 k22) (?_) (fun k22 hk22 => ?_)
    · refine r_aload_n (pc1 := 30) (i := 0) dX12_clause_29 rfl rfl rfl ?_
      refine r_getI (pc1 := 33) w_56 gfX12_277 rfl dX12_clause_30 rfl ?_
      refine r_bipush (v := 14) (pc1 := 35) dX12_clause_33 kb_14 rfl ?_
      refine r_icmp_ne (tgt := 47) (pc1 := 38) dX12_clause_35 (by decide) rfl (fun q23 => ?_) (fun q23 => ?_)
      · refine r_aload_n (pc1 := 39) (i := 0) dX12_clause_38 rfl rfl rfl ?_
        refine r_iconst (v := 4) (pc1 := 40) dX12_clause_39 ki_4 rfl ?_
        refine r_aload_n (pc1 := 41) (i := 0) dX12_clause_40 rfl rfl rfl ?_
        refine r_getI (pc1 := 44) w_56 gfX12_182 rfl dX12_clause_41 rfl ?_
        refine r_callVv (pc1 := 47) (rv_of w_56 cl_12) lkX12_204 (c_X12_wrongs _ _ _) rfl rfl ⟨Nat.le_of_ble_eq_true rfl, Nat.le_of_ble_eq_true rfl⟩ (Nat.le_of_ble_eq_true rfl) dX12_clause_44 rfl (fun v24 s25 => ?_)
        exact r_wk (hk3 s25) ⟨Or.inr rfl, Or.inr rfl, trivial⟩
      · exact r_wk (hk3 s0) ⟨Or.inr rfl, Or.inr rfl, trivial⟩
    · refine r_icmp_eq (tgt := 29) (pc1 := 11) dX12_clause_8 (by decide) rfl (fun q26 => ?_) (fun q26 => ?_)
      · exact r_wk (hk22) ⟨Or.inr rfl, Or.inr rfl, trivial⟩
      · refine r_iload_n (pc1 := 12) (i := 1) dX12_clause_11 rfl rfl rfl ?_
        refine r_bipush (v := 109) (pc1 := 14) dX12_clause_12 kb_109 rfl ?_
        refine r_icmp_eq (tgt := 29) (pc1 := 17) dX12_clause_14 (by decide) rfl (fun q27 => ?_) (fun q27 => ?_)
        · exact r_wk (hk22) ⟨Or.inr rfl, Or.inr rfl, trivial⟩
        · refine r_aload_n (pc1 := 18) (i := 0) dX12_clause_17 rfl rfl rfl ?_
          refine r_iconst (v := 1) (pc1 := 19) dX12_clause_18 ki_1 rfl ?_
          refine r_aload_n (pc1 := 20) (i := 0) dX12_clause_19 rfl rfl rfl ?_
          refine r_getI (pc1 := 23) w_56 gfX12_182 rfl dX12_clause_20 rfl ?_
          refine r_callVv (pc1 := 26) (rv_of w_56 cl_12) lkX12_204 (c_X12_wrongs _ _ _) rfl rfl ⟨Nat.le_of_ble_eq_true rfl, Nat.le_of_ble_eq_true rfl⟩ (Nat.le_of_ble_eq_true rfl) dX12_clause_23 rfl (fun v28 s29 => ?_)
          refine r_goto (tgt := 47) dX12_clause_26 (by decide) ?_
          exact r_wk (hk3 s29) ⟨Or.inr rfl, Or.inr rfl, trivial⟩
/-! f_X12_text -/
noncomputable def lp_X12_text_206 (k16 : SS → Res) : Nat → Int32 → SS → Res
  | 0, _, _ => none
  | n22 + 1, v20, s21 => if (s21 56 34 : Int32) ≤ (v20 : Int32) then k16 s21 else gd (inb v20 200) (gd (inb v20 200) (lts (up s21 69 (Int32.toNatClampNeg v20) (s21 75 (Int32.toNatClampNeg v20))) (fun (s24 : SS) => gd (inb v20 200) (gd (inb v20 200) (lts (up s24 70 (Int32.toNatClampNeg v20) (s24 76 (Int32.toNatClampNeg v20))) (fun (s25 : SS) => lp_X12_text_206 k16 n22 (v20 + 1) s25))))))
noncomputable def lp_X12_text_142 (k14 : SS → Res) : Nat → Int32 → SS → Res
  | 0, _, _ => none
  | n28 + 1, v26, s27 => if (s27 56 33 : Int32) ≤ (v26 : Int32) then k14 s27 else gd (inb v26 14) (gd (inb v26 14) (lts (up s27 65 (Int32.toNatClampNeg v26) (s27 71 (Int32.toNatClampNeg v26))) (fun (s30 : SS) => gd (inb v26 14) (gd (inb v26 14) (lts (up s30 66 (Int32.toNatClampNeg v26) (s30 72 (Int32.toNatClampNeg v26))) (fun (s31 : SS) => gd (inb v26 14) (gd (inb v26 14) (lts (up s31 67 (Int32.toNatClampNeg v26) (s31 73 (Int32.toNatClampNeg v26))) (fun (s32 : SS) => gd (inb v26 14) (gd (inb v26 14) (lts (up s32 68 (Int32.toNatClampNeg v26) (s32 74 (Int32.toNatClampNeg v26))) (fun (s33 : SS) => lp_X12_text_142 k14 n28 (v26 + 1) s33))))))))))))
noncomputable def lp_X12_text_54 (k11 : SS → Res) : Nat → Int32 → SS → Res
  | 0, _, _ => none
  | n36 + 1, v34, s35 => if (v34 : Int32) = 0 then k11 s35 else bdp (f_X12_isGood s35) (fun (v38 : Int32) => if (v38 : Int32) = 0 then k11 s35 else bd (f_X12_clause s35) (fun (v40 : Int32) (s41 : SS) => bdp (f_X12_isGood s41) (fun (v42 : Int32) => jn (fun (v43 : Int32) => if (v43 : Int32) = 0 then lp_X12_text_54 k11 n36 v43 s41 else bdp (f_X12_here s41) (fun (v46 : Int32) => jn (fun (s47 : SS) => lts (up s47 56 30 ((s47 56 30) + 1)) (fun (s49 : SS) => lp_X12_text_54 k11 n36 v43 s49)) (fun (k48 : SS → Res) => if (v46 : Int32) = (59 : Int32) then k48 s41 else bd (f_X12_wrongs 1 (s41 56 30) s41) (fun (v51 : Int32) (s52 : SS) => k48 s52)))) (fun (k44 : Int32 → Res) => jn (k44 0) (fun (k53 : Res) => if (v42 : Int32) = 0 then k53 else if (s41 56 31 : Int32) ≤ (s41 56 30 : Int32) then k53 else k44 1)))))
noncomputable def f_X12_text (a1 : Int32) (s0 : SS) : Res := bdp (f_X12_lies ((a1 : Int32).toInt64) 1 200 s0) (fun (v1 : Int32) => if (v1 : Int32) = 0 then some ((-1), s0) else if (a1 : Int32) ≤ (s0 56 1 : Int32) then lts (up s0 56 1 0) (fun (s4 : SS) => lts (up s4 56 30 0) (fun (s5 : SS) => lts (up s5 56 31 a1) (fun (s6 : SS) => lts (up s6 56 32 0) (fun (s7 : SS) => lts (up s7 56 33 0) (fun (s8 : SS) => lts (up s8 56 34 0) (fun (s9 : SS) => jn (fun (s10 : SS) => if (0 : Int32) ≤ (s10 56 32) then jn (fun (s13 : SS) => jn (fun (s15 : SS) => lts (up s15 56 17 (s15 56 33)) (fun (s17 : SS) => bd (f_X12_changes s17) (fun (v18 : Int32) (s19 : SS) => some (s19 56 17, s19)))) (fun (k16 : SS → Res) => lp_X12_text_206 k16 FU 0 s13)) (fun (k14 : SS → Res) => lp_X12_text_142 k14 FU 0 s10) else some (s10 56 32, s10)) (fun (k11 : SS → Res) => lp_X12_text_54 k11 FU 1 s9))))))) else some ((-1), s0))
set_option maxRecDepth 100000 in
set_option maxHeartbeats 4000000 in
theorem t_lp_X12_text_206 {l : Launch} (k16 : SS → Res) (hk16 : ∀ (s15 : SS), RC l wF RX12 cX12_text 4 (some .int) 8 244 [.ref 56, .null, .null, .null] [] s15 (k16 s15)) : ∀ (n22 : Nat) (v20 : Int32) (s21 : SS), RC l wF RX12 cX12_text 4 (some .int) 8 206 [.ref 56, .null, .null, .int v20] [] s21 (lp_X12_text_206 k16 n22 v20 s21) := by
  intro n22
  induction n22 with
  | zero =>
    intro v20 s21
    rw [lp_X12_text_206]
    exact r_none
  | succ n22 ih =>
    intro v20 s21
    rw [lp_X12_text_206]
    refine r_iload_n (pc1 := 207) (i := 3) dX12_text_206 rfl rfl rfl ?_
    refine r_aload_n (pc1 := 208) (i := 0) dX12_text_207 rfl rfl rfl ?_
    refine r_getI (pc1 := 211) w_56 gfX12_195 rfl dX12_text_208 rfl ?_
    refine r_icmp_ge (tgt := 244) (pc1 := 214) dX12_text_211 (by decide) rfl (fun q23 => ?_) (fun q23 => ?_)
    · exact r_wk (hk16 s21) ⟨Or.inr rfl, Or.inl rfl, Or.inl rfl, Or.inl rfl, trivial⟩
    · refine r_aload_n (pc1 := 215) (i := 0) dX12_text_214 rfl rfl rfl ?_
      refine r_getR (pc1 := 218) w_56 gfX12_57 rfl dX12_text_215 rfl ?_
      refine r_iload_n (pc1 := 219) (i := 3) dX12_text_218 rfl rfl rfl ?_
      refine r_aload_n (pc1 := 220) (i := 0) dX12_text_219 rfl rfl rfl ?_
      refine r_getR (pc1 := 223) w_56 gfX12_75 rfl dX12_text_220 rfl ?_
      refine r_iload_n (pc1 := 224) (i := 3) dX12_text_223 rfl rfl rfl ?_
      refine r_iald (pc1 := 225) w_75 dX12_text_224 rfl ?_
      refine r_iast (pc1 := 226) w_69 dX12_text_225 rfl ?_
      refine r_lts (fun s24 => ?_)
      refine r_aload_n (pc1 := 227) (i := 0) dX12_text_226 rfl rfl rfl ?_
      refine r_getR (pc1 := 230) w_56 gfX12_60 rfl dX12_text_227 rfl ?_
      refine r_iload_n (pc1 := 231) (i := 3) dX12_text_230 rfl rfl rfl ?_
      refine r_aload_n (pc1 := 232) (i := 0) dX12_text_231 rfl rfl rfl ?_
      refine r_getR (pc1 := 235) w_56 gfX12_78 rfl dX12_text_232 rfl ?_
      refine r_iload_n (pc1 := 236) (i := 3) dX12_text_235 rfl rfl rfl ?_
      refine r_iald (pc1 := 237) w_76 dX12_text_236 rfl ?_
      refine r_iast (pc1 := 238) w_70 dX12_text_237 rfl ?_
      refine r_lts (fun s25 => ?_)
      refine r_iinc (pc1 := 241) dX12_text_238 rfl (kn_1 _) (by decide) rfl rfl rfl ?_
      refine r_goto (tgt := 206) dX12_text_241 (by decide) ?_
      exact r_wk (ih (v20 + 1) s25) ⟨Or.inr rfl, Or.inl rfl, Or.inl rfl, Or.inr rfl, trivial⟩
set_option maxRecDepth 100000 in
set_option maxHeartbeats 4000000 in
theorem t_lp_X12_text_142 {l : Launch} (k14 : SS → Res) (hk14 : ∀ (s13 : SS), RC l wF RX12 cX12_text 4 (some .int) 8 204 [.ref 56, .null, .null, .null] [] s13 (k14 s13)) : ∀ (n28 : Nat) (v26 : Int32) (s27 : SS), RC l wF RX12 cX12_text 4 (some .int) 8 142 [.ref 56, .null, .null, .int v26] [] s27 (lp_X12_text_142 k14 n28 v26 s27) := by
  intro n28
  induction n28 with
  | zero =>
    intro v26 s27
    rw [lp_X12_text_142]
    exact r_none
  | succ n28 ih =>
    intro v26 s27
    rw [lp_X12_text_142]
    refine r_iload_n (pc1 := 143) (i := 3) dX12_text_142 rfl rfl rfl ?_
    refine r_aload_n (pc1 := 144) (i := 0) dX12_text_143 rfl rfl rfl ?_
    refine r_getI (pc1 := 147) w_56 gfX12_277 rfl dX12_text_144 rfl ?_
    refine r_icmp_ge (tgt := 204) (pc1 := 150) dX12_text_147 (by decide) rfl (fun q29 => ?_) (fun q29 => ?_)
    · exact r_wk (hk14 s27) ⟨Or.inr rfl, Or.inl rfl, Or.inl rfl, Or.inl rfl, trivial⟩
    · refine r_aload_n (pc1 := 151) (i := 0) dX12_text_150 rfl rfl rfl ?_
      refine r_getR (pc1 := 154) w_56 gfX12_45 rfl dX12_text_151 rfl ?_
      refine r_iload_n (pc1 := 155) (i := 3) dX12_text_154 rfl rfl rfl ?_
      refine r_aload_n (pc1 := 156) (i := 0) dX12_text_155 rfl rfl rfl ?_
      refine r_getR (pc1 := 159) w_56 gfX12_63 rfl dX12_text_156 rfl ?_
      refine r_iload_n (pc1 := 160) (i := 3) dX12_text_159 rfl rfl rfl ?_
      refine r_iald (pc1 := 161) w_71 dX12_text_160 rfl ?_
      refine r_iast (pc1 := 162) w_65 dX12_text_161 rfl ?_
      refine r_lts (fun s30 => ?_)
      refine r_aload_n (pc1 := 163) (i := 0) dX12_text_162 rfl rfl rfl ?_
      refine r_getR (pc1 := 166) w_56 gfX12_48 rfl dX12_text_163 rfl ?_
      refine r_iload_n (pc1 := 167) (i := 3) dX12_text_166 rfl rfl rfl ?_
      refine r_aload_n (pc1 := 168) (i := 0) dX12_text_167 rfl rfl rfl ?_
      refine r_getR (pc1 := 171) w_56 gfX12_66 rfl dX12_text_168 rfl ?_
      refine r_iload_n (pc1 := 172) (i := 3) dX12_text_171 rfl rfl rfl ?_
      refine r_iald (pc1 := 173) w_72 dX12_text_172 rfl ?_
      refine r_iast (pc1 := 174) w_66 dX12_text_173 rfl ?_
      refine r_lts (fun s31 => ?_)
      refine r_aload_n (pc1 := 175) (i := 0) dX12_text_174 rfl rfl rfl ?_
      refine r_getR (pc1 := 178) w_56 gfX12_51 rfl dX12_text_175 rfl ?_
      refine r_iload_n (pc1 := 179) (i := 3) dX12_text_178 rfl rfl rfl ?_
      refine r_aload_n (pc1 := 180) (i := 0) dX12_text_179 rfl rfl rfl ?_
      refine r_getR (pc1 := 183) w_56 gfX12_69 rfl dX12_text_180 rfl ?_
      refine r_iload_n (pc1 := 184) (i := 3) dX12_text_183 rfl rfl rfl ?_
      refine r_iald (pc1 := 185) w_73 dX12_text_184 rfl ?_
      refine r_iast (pc1 := 186) w_67 dX12_text_185 rfl ?_
      refine r_lts (fun s32 => ?_)
      refine r_aload_n (pc1 := 187) (i := 0) dX12_text_186 rfl rfl rfl ?_
      refine r_getR (pc1 := 190) w_56 gfX12_54 rfl dX12_text_187 rfl ?_
      refine r_iload_n (pc1 := 191) (i := 3) dX12_text_190 rfl rfl rfl ?_
      refine r_aload_n (pc1 := 192) (i := 0) dX12_text_191 rfl rfl rfl ?_
      refine r_getR (pc1 := 195) w_56 gfX12_72 rfl dX12_text_192 rfl ?_
      refine r_iload_n (pc1 := 196) (i := 3) dX12_text_195 rfl rfl rfl ?_
      refine r_iald (pc1 := 197) w_74 dX12_text_196 rfl ?_
      refine r_iast (pc1 := 198) w_68 dX12_text_197 rfl ?_
      refine r_lts (fun s33 => ?_)
      refine r_iinc (pc1 := 201) dX12_text_198 rfl (kn_1 _) (by decide) rfl rfl rfl ?_
      refine r_goto (tgt := 142) dX12_text_201 (by decide) ?_
      exact r_wk (ih (v26 + 1) s33) ⟨Or.inr rfl, Or.inl rfl, Or.inl rfl, Or.inr rfl, trivial⟩
set_option maxRecDepth 100000 in
set_option maxHeartbeats 4000000 in
theorem t_lp_X12_text_54 {l : Launch} (k11 : SS → Res) (hk11 : ∀ (s10 : SS), RC l wF RX12 cX12_text 4 (some .int) 8 128 [.ref 56, .null, .null, .null] [] s10 (k11 s10)) : ∀ (n36 : Nat) (v34 : Int32) (s35 : SS), RC l wF RX12 cX12_text 4 (some .int) 8 54 [.ref 56, .null, .int v34, .null] [] s35 (lp_X12_text_54 k11 n36 v34 s35) := by
  intro n36
  induction n36 with
  | zero =>
    intro v34 s35
    rw [lp_X12_text_54]
    exact r_none
  | succ n36 ih =>
    intro v34 s35
    rw [lp_X12_text_54]
    refine r_iload_n (pc1 := 55) (i := 2) dX12_text_54 rfl rfl rfl ?_
    refine r_if_eq (tgt := 128) (pc1 := 58) dX12_text_55 (by decide) rfl (fun q37 => ?_) (fun q37 => ?_)
    · exact r_wk (hk11 s35) ⟨Or.inr rfl, Or.inl rfl, Or.inl rfl, Or.inl rfl, trivial⟩
    · refine r_aload_n (pc1 := 59) (i := 0) dX12_text_58 rfl rfl rfl ?_
      refine r_callVp (pc1 := 62) (rv_of w_56 cl_12) lkX12_191 (c_X12_isGood _) rfl rfl ⟨Nat.le_of_ble_eq_true rfl, Nat.le_of_ble_eq_true rfl⟩ (Nat.le_of_ble_eq_true rfl) dX12_text_59 rfl (fun v38 => ?_)
      refine r_if_eq (tgt := 128) (pc1 := 65) dX12_text_62 (by decide) rfl (fun q39 => ?_) (fun q39 => ?_)
      · exact r_wk (hk11 s35) ⟨Or.inr rfl, Or.inl rfl, Or.inl rfl, Or.inl rfl, trivial⟩
      · refine r_aload_n (pc1 := 66) (i := 0) dX12_text_65 rfl rfl rfl ?_
        refine r_callVv (pc1 := 69) (rv_of w_56 cl_12) lkX12_285 (c_X12_clause _) rfl rfl ⟨Nat.le_of_ble_eq_true rfl, Nat.le_of_ble_eq_true rfl⟩ (Nat.le_of_ble_eq_true rfl) dX12_text_66 rfl (fun v40 s41 => ?_)
        refine r_aload_n (pc1 := 70) (i := 0) dX12_text_69 rfl rfl rfl ?_
        refine r_callVp (pc1 := 73) (rv_of w_56 cl_12) lkX12_191 (c_X12_isGood _) rfl rfl ⟨Nat.le_of_ble_eq_true rfl, Nat.le_of_ble_eq_true rfl⟩ (Nat.le_of_ble_eq_true rfl) dX12_text_70 rfl (fun v42 => ?_)
        refine r_jn (hyp := fun (k44 : Int32 → Res) => ∀ (v43 : Int32), RC l wF RX12 cX12_text 4 (some .int) 8 92 [.ref 56, .null, .null, .null] [.int v43] s41 (k44 v43)) (fun v43 => ?_) (fun k44 hk44 => ?_)
        · refine r_istore_n (pc1 := 93) (i := 2) dX12_text_92 rfl (by decide) rfl rfl rfl ?_
          refine r_iload_n (pc1 := 94) (i := 2) dX12_text_93 rfl rfl rfl ?_
          refine r_if_eq (tgt := 54) (pc1 := 97) dX12_text_94 (by decide) rfl (fun q45 => ?_) (fun q45 => ?_)
          · exact r_wk (ih v43 s41) ⟨Or.inr rfl, Or.inl rfl, Or.inr rfl, Or.inl rfl, trivial⟩
          · refine r_aload_n (pc1 := 98) (i := 0) dX12_text_97 rfl rfl rfl ?_
            refine r_callVp (pc1 := 101) (rv_of w_56 cl_12) lkX12_208 (c_X12_here _) rfl rfl ⟨Nat.le_of_ble_eq_true rfl, Nat.le_of_ble_eq_true rfl⟩ (Nat.le_of_ble_eq_true rfl) dX12_text_98 rfl (fun v46 => ?_)
            refine r_bipush (v := 59) (pc1 := 103) dX12_text_101 kb_59 rfl ?_
            refine r_jn (hyp := fun (k48 : SS → Res) => ∀ (s47 : SS), RC l wF RX12 cX12_text 4 (some .int) 8 115 [.ref 56, .null, .int v43, .null] [] s47 (k48 s47)) (fun s47 => ?_) (fun k48 hk48 => ?_)
            · refine r_aload_n (pc1 := 116) (i := 0) dX12_text_115 rfl rfl rfl ?_
              refine r_dup (pc1 := 117) dX12_text_116 rfl rfl ?_
              refine r_getI (pc1 := 120) w_56 gfX12_182 rfl dX12_text_117 rfl ?_
              refine r_iconst (v := 1) (pc1 := 121) dX12_text_120 ki_1 rfl ?_
              refine r_iadd (pc1 := 122) dX12_text_121 rfl ?_
              refine r_putI (pc1 := 125) w_56 pfX12_182 rfl ⟨rfl, rfl⟩ dX12_text_122 rfl ?_
              refine r_lts (fun s49 => ?_)
              refine r_goto (tgt := 54) dX12_text_125 (by decide) ?_
              exact r_wk (ih v43 s49) ⟨Or.inr rfl, Or.inl rfl, Or.inr rfl, Or.inl rfl, trivial⟩
            · refine r_icmp_eq (tgt := 115) (pc1 := 106) dX12_text_103 (by decide) rfl (fun q50 => ?_) (fun q50 => ?_)
              · exact r_wk (hk48 s41) ⟨Or.inr rfl, Or.inl rfl, Or.inr rfl, Or.inl rfl, trivial⟩
              · refine r_aload_n (pc1 := 107) (i := 0) dX12_text_106 rfl rfl rfl ?_
                refine r_iconst (v := 1) (pc1 := 108) dX12_text_107 ki_1 rfl ?_
                refine r_aload_n (pc1 := 109) (i := 0) dX12_text_108 rfl rfl rfl ?_
                refine r_getI (pc1 := 112) w_56 gfX12_182 rfl dX12_text_109 rfl ?_
                refine r_callVv (pc1 := 115) (rv_of w_56 cl_12) lkX12_204 (c_X12_wrongs _ _ _) rfl rfl ⟨Nat.le_of_ble_eq_true rfl, Nat.le_of_ble_eq_true rfl⟩ (Nat.le_of_ble_eq_true rfl) dX12_text_112 rfl (fun v51 s52 => ?_)
                exact r_wk (hk48 s52) ⟨Or.inr rfl, Or.inl rfl, Or.inr rfl, Or.inl rfl, trivial⟩
        · refine r_jn (hyp := fun (k53 : Res) => RC l wF RX12 cX12_text 4 (some .int) 8 91 [.ref 56, .null, .null, .null] [] s41 k53) (?_) (fun k53 hk53 => ?_)
          · refine r_iconst (v := 0) (pc1 := 92) dX12_text_91 ki_0 rfl ?_
            exact r_wk (hk44 0) ⟨Or.inr rfl, Or.inl rfl, Or.inl rfl, Or.inl rfl, trivial⟩
          · refine r_if_eq (tgt := 91) (pc1 := 76) dX12_text_73 (by decide) rfl (fun q54 => ?_) (fun q54 => ?_)
            · exact r_wk (hk53) ⟨Or.inr rfl, Or.inl rfl, Or.inl rfl, Or.inl rfl, trivial⟩
            · refine r_aload_n (pc1 := 77) (i := 0) dX12_text_76 rfl rfl rfl ?_
              refine r_getI (pc1 := 80) w_56 gfX12_182 rfl dX12_text_77 rfl ?_
              refine r_aload_n (pc1 := 81) (i := 0) dX12_text_80 rfl rfl rfl ?_
              refine r_getI (pc1 := 84) w_56 gfX12_185 rfl dX12_text_81 rfl ?_
              refine r_icmp_ge (tgt := 91) (pc1 := 87) dX12_text_84 (by decide) rfl (fun q55 => ?_) (fun q55 => ?_)
              · exact r_wk (hk53) ⟨Or.inr rfl, Or.inl rfl, Or.inl rfl, Or.inl rfl, trivial⟩
              · refine r_iconst (v := 1) (pc1 := 88) dX12_text_87 ki_1 rfl ?_
                refine r_goto (tgt := 92) dX12_text_88 (by decide) ?_
                exact r_wk (hk44 1) ⟨Or.inr rfl, Or.inl rfl, Or.inl rfl, Or.inl rfl, trivial⟩
set_option maxRecDepth 100000 in
set_option maxHeartbeats 4000000 in
theorem c_X12_text {l : Launch} (a1 : Int32) (s0 : SS) : Ct l wF yX12_text cX12_text 4 (some .int) 8 [.ref 56, .int a1] s0 (f_X12_text a1 s0) := by
  refine ct_of (y := yX12_text) plX12 (Nat.le_of_ble_eq_true rfl) ?_
  refine r_pad0 2 (L1 := [.ref 56, .int a1, .null, .null]) rfl ?_
  unfold f_X12_text
  refine r_iload_n (pc1 := 1) (i := 1) dX12_text_0 rfl rfl rfl ?_
  refine r_i2l (pc1 := 2) dX12_text_1 rfl ?_
  refine r_lconst (v := 1) (pc1 := 3) dX12_text_2 kl_1 rfl ?_
  refine r_ldc2 (v := 200) (pc1 := 6) dX12_text_3 cnX12_283 rfl ?_
  refine r_callSp (pc1 := 9) lkX12_140 (c_X12_lies _ _ _ _) rfl rfl ⟨Nat.le_of_ble_eq_true rfl, Nat.le_of_ble_eq_true rfl⟩ (Nat.le_of_ble_eq_true rfl) dX12_text_6 rfl (fun v1 => ?_)
  refine r_if_eq (tgt := 20) (pc1 := 12) dX12_text_9 (by decide) rfl (fun q2 => ?_) (fun q2 => ?_)
  · refine r_iconst (v := (-1)) (pc1 := 21) dX12_text_20 ki_m1 rfl ?_
    exact r_iret rfl rfl dX12_text_21
  · refine r_iload_n (pc1 := 13) (i := 1) dX12_text_12 rfl rfl rfl ?_
    refine r_aload_n (pc1 := 14) (i := 0) dX12_text_13 rfl rfl rfl ?_
    refine r_getI (pc1 := 17) w_56 gfX12_165 rfl dX12_text_14 rfl ?_
    refine r_icmp_le (tgt := 22) (pc1 := 20) dX12_text_17 (by decide) rfl (fun q3 => ?_) (fun q3 => ?_)
    · refine r_aload_n (pc1 := 23) (i := 0) dX12_text_22 rfl rfl rfl ?_
      refine r_iconst (v := 0) (pc1 := 24) dX12_text_23 ki_0 rfl ?_
      refine r_putI (pc1 := 27) w_56 pfX12_165 rfl ⟨rfl, rfl⟩ dX12_text_24 rfl ?_
      refine r_lts (fun s4 => ?_)
      refine r_aload_n (pc1 := 28) (i := 0) dX12_text_27 rfl rfl rfl ?_
      refine r_iconst (v := 0) (pc1 := 29) dX12_text_28 ki_0 rfl ?_
      refine r_putI (pc1 := 32) w_56 pfX12_182 rfl ⟨rfl, rfl⟩ dX12_text_29 rfl ?_
      refine r_lts (fun s5 => ?_)
      refine r_aload_n (pc1 := 33) (i := 0) dX12_text_32 rfl rfl rfl ?_
      refine r_iload_n (pc1 := 34) (i := 1) dX12_text_33 rfl rfl rfl ?_
      refine r_putI (pc1 := 37) w_56 pfX12_185 rfl ⟨rfl, rfl⟩ dX12_text_34 rfl ?_
      refine r_lts (fun s6 => ?_)
      refine r_aload_n (pc1 := 38) (i := 0) dX12_text_37 rfl rfl rfl ?_
      refine r_iconst (v := 0) (pc1 := 39) dX12_text_38 ki_0 rfl ?_
      refine r_putI (pc1 := 42) w_56 pfX12_188 rfl ⟨rfl, rfl⟩ dX12_text_39 rfl ?_
      refine r_lts (fun s7 => ?_)
      refine r_aload_n (pc1 := 43) (i := 0) dX12_text_42 rfl rfl rfl ?_
      refine r_iconst (v := 0) (pc1 := 44) dX12_text_43 ki_0 rfl ?_
      refine r_putI (pc1 := 47) w_56 pfX12_277 rfl ⟨rfl, rfl⟩ dX12_text_44 rfl ?_
      refine r_lts (fun s8 => ?_)
      refine r_aload_n (pc1 := 48) (i := 0) dX12_text_47 rfl rfl rfl ?_
      refine r_iconst (v := 0) (pc1 := 49) dX12_text_48 ki_0 rfl ?_
      refine r_putI (pc1 := 52) w_56 pfX12_195 rfl ⟨rfl, rfl⟩ dX12_text_49 rfl ?_
      refine r_lts (fun s9 => ?_)
      refine r_iconst (v := 1) (pc1 := 53) dX12_text_52 ki_1 rfl ?_
      refine r_istore_n (pc1 := 54) (i := 2) dX12_text_53 rfl (by decide) rfl rfl rfl ?_
      refine r_jn (hyp := fun (k11 : SS → Res) => ∀ (s10 : SS), RC l wF RX12 cX12_text 4 (some .int) 8 128 [.ref 56, .null, .null, .null] [] s10 (k11 s10)) (fun s10 => ?_) (fun k11 hk11 => ?_)
      · refine r_aload_n (pc1 := 129) (i := 0) dX12_text_128 rfl rfl rfl ?_
        refine r_getI (pc1 := 132) w_56 gfX12_188 rfl dX12_text_129 rfl ?_
        refine r_if_ge (tgt := 140) (pc1 := 135) dX12_text_132 (by decide) rfl (fun q12 => ?_) (fun q12 => ?_)
        · refine r_iconst (v := 0) (pc1 := 141) dX12_text_140 ki_0 rfl ?_
          refine r_istore_n (pc1 := 142) (i := 3) dX12_text_141 rfl (by decide) rfl rfl rfl ?_
          refine r_jn (hyp := fun (k14 : SS → Res) => ∀ (s13 : SS), RC l wF RX12 cX12_text 4 (some .int) 8 204 [.ref 56, .null, .null, .null] [] s13 (k14 s13)) (fun s13 => ?_) (fun k14 hk14 => ?_)
          · refine r_iconst (v := 0) (pc1 := 205) dX12_text_204 ki_0 rfl ?_
            refine r_istore_n (pc1 := 206) (i := 3) dX12_text_205 rfl (by decide) rfl rfl rfl ?_
            refine r_jn (hyp := fun (k16 : SS → Res) => ∀ (s15 : SS), RC l wF RX12 cX12_text 4 (some .int) 8 244 [.ref 56, .null, .null, .null] [] s15 (k16 s15)) (fun s15 => ?_) (fun k16 hk16 => ?_)
            · refine r_aload_n (pc1 := 245) (i := 0) dX12_text_244 rfl rfl rfl ?_
              refine r_aload_n (pc1 := 246) (i := 0) dX12_text_245 rfl rfl rfl ?_
              refine r_getI (pc1 := 249) w_56 gfX12_277 rfl dX12_text_246 rfl ?_
              refine r_putI (pc1 := 252) w_56 pfX12_288 rfl ⟨rfl, rfl⟩ dX12_text_249 rfl ?_
              refine r_lts (fun s17 => ?_)
              refine r_aload_n (pc1 := 253) (i := 0) dX12_text_252 rfl rfl rfl ?_
              refine r_callVv (pc1 := 256) (rv_of w_56 cl_12) lkX12_153 (c_X12_changes _) rfl rfl ⟨Nat.le_of_ble_eq_true rfl, Nat.le_of_ble_eq_true rfl⟩ (Nat.le_of_ble_eq_true rfl) dX12_text_253 rfl (fun v18 s19 => ?_)
              refine r_aload_n (pc1 := 257) (i := 0) dX12_text_256 rfl rfl rfl ?_
              refine r_getI (pc1 := 260) w_56 gfX12_288 rfl dX12_text_257 rfl ?_
              exact r_iret rfl rfl dX12_text_260
            · exact r_wk (t_lp_X12_text_206 k16 hk16 FU 0 s13) ⟨Or.inr rfl, Or.inl rfl, Or.inl rfl, Or.inr rfl, trivial⟩
          · exact r_wk (t_lp_X12_text_142 k14 hk14 FU 0 s10) ⟨Or.inr rfl, Or.inl rfl, Or.inl rfl, Or.inr rfl, trivial⟩
        · refine r_aload_n (pc1 := 136) (i := 0) dX12_text_135 rfl rfl rfl ?_
          refine r_getI (pc1 := 139) w_56 gfX12_188 rfl dX12_text_136 rfl ?_
          exact r_iret rfl rfl dX12_text_139
      · exact r_wk (t_lp_X12_text_54 k11 hk11 FU 1 s9) ⟨Or.inr rfl, Or.inl rfl, Or.inr rfl, Or.inl rfl, trivial⟩
    · refine r_iconst (v := (-1)) (pc1 := 21) dX12_text_20 ki_m1 rfl ?_
      exact r_iret rfl rfl dX12_text_21
/-! f_X12_manyOf -/
noncomputable def f_X12_manyOf (a1 : Int32) (s0 : SS) : Option Int32 := if (1 : Int32) ≤ (a1 : Int32) then if (9 : Int32) ≤ (a1 : Int32) then if (73 : Int32) ≤ (a1 : Int32) then if (585 : Int32) ≤ (a1 : Int32) then some 4 else some 3 else some 2 else some 1 else some 0
set_option maxRecDepth 100000 in
set_option maxHeartbeats 4000000 in
theorem c_X12_manyOf {l : Launch} (a1 : Int32) (s0 : SS) : Ct l wF yX12_manyOf cX12_manyOf 1 (some .int) 0 [.int a1] s0 (pu (f_X12_manyOf a1 s0) s0) := by
  refine ct_of (y := yX12_manyOf) plX12 (Nat.le_of_ble_eq_true rfl) ?_
  refine r_pad0 0 (L1 := [.int a1]) rfl ?_
  unfold f_X12_manyOf
  refine r_iload_n (pc1 := 1) (i := 0) dX12_manyOf_0 rfl rfl rfl ?_
  refine r_iconst (v := 1) (pc1 := 2) dX12_manyOf_1 ki_1 rfl ?_
  refine p_icmp_ge (tgt := 9) (pc1 := 5) dX12_manyOf_2 (by decide) rfl (fun q1 => ?_) (fun q1 => ?_)
  · refine r_iload_n (pc1 := 10) (i := 0) dX12_manyOf_9 rfl rfl rfl ?_
    refine r_bipush (v := 9) (pc1 := 12) dX12_manyOf_10 kb_9 rfl ?_
    refine p_icmp_ge (tgt := 19) (pc1 := 15) dX12_manyOf_12 (by decide) rfl (fun q2 => ?_) (fun q2 => ?_)
    · refine r_iload_n (pc1 := 20) (i := 0) dX12_manyOf_19 rfl rfl rfl ?_
      refine r_bipush (v := 73) (pc1 := 22) dX12_manyOf_20 kb_73 rfl ?_
      refine p_icmp_ge (tgt := 29) (pc1 := 25) dX12_manyOf_22 (by decide) rfl (fun q3 => ?_) (fun q3 => ?_)
      · refine r_iload_n (pc1 := 30) (i := 0) dX12_manyOf_29 rfl rfl rfl ?_
        refine r_sipush (v := 585) (pc1 := 33) dX12_manyOf_30 ks_585 rfl ?_
        refine p_icmp_ge (tgt := 40) (pc1 := 36) dX12_manyOf_33 (by decide) rfl (fun q4 => ?_) (fun q4 => ?_)
        · refine r_iconst (v := 4) (pc1 := 41) dX12_manyOf_40 ki_4 rfl ?_
          exact p_iret rfl rfl dX12_manyOf_41
        · refine r_iconst (v := 3) (pc1 := 37) dX12_manyOf_36 ki_3 rfl ?_
          refine r_goto (tgt := 41) dX12_manyOf_37 (by decide) ?_
          exact p_iret rfl rfl dX12_manyOf_41
      · refine r_iconst (v := 2) (pc1 := 26) dX12_manyOf_25 ki_2 rfl ?_
        refine r_goto (tgt := 41) dX12_manyOf_26 (by decide) ?_
        exact p_iret rfl rfl dX12_manyOf_41
    · refine r_iconst (v := 1) (pc1 := 16) dX12_manyOf_15 ki_1 rfl ?_
      refine r_goto (tgt := 41) dX12_manyOf_16 (by decide) ?_
      exact p_iret rfl rfl dX12_manyOf_41
  · refine r_iconst (v := 0) (pc1 := 6) dX12_manyOf_5 ki_0 rfl ?_
    refine r_goto (tgt := 41) dX12_manyOf_6 (by decide) ?_
    exact p_iret rfl rfl dX12_manyOf_41
/-! f_X12_firstOf -/
noncomputable def f_X12_firstOf (a1 : Int32) (s0 : SS) : Option Int32 := if (a1 : Int32) = 0 then some 0 else if (a1 : Int32) = (1 : Int32) then some 1 else if (a1 : Int32) = (2 : Int32) then some 9 else if (a1 : Int32) = (3 : Int32) then some 73 else some 585
set_option maxRecDepth 100000 in
set_option maxHeartbeats 4000000 in
theorem c_X12_firstOf {l : Launch} (a1 : Int32) (s0 : SS) : Ct l wF yX12_firstOf cX12_firstOf 1 (some .int) 0 [.int a1] s0 (pu (f_X12_firstOf a1 s0) s0) := by
  refine ct_of (y := yX12_firstOf) plX12 (Nat.le_of_ble_eq_true rfl) ?_
  refine r_pad0 0 (L1 := [.int a1]) rfl ?_
  unfold f_X12_firstOf
  refine r_iload_n (pc1 := 1) (i := 0) dX12_firstOf_0 rfl rfl rfl ?_
  refine p_if_ne (tgt := 8) (pc1 := 4) dX12_firstOf_1 (by decide) rfl (fun q1 => ?_) (fun q1 => ?_)
  · refine r_iconst (v := 0) (pc1 := 5) dX12_firstOf_4 ki_0 rfl ?_
    refine r_goto (tgt := 40) dX12_firstOf_5 (by decide) ?_
    exact p_iret rfl rfl dX12_firstOf_40
  · refine r_iload_n (pc1 := 9) (i := 0) dX12_firstOf_8 rfl rfl rfl ?_
    refine r_iconst (v := 1) (pc1 := 10) dX12_firstOf_9 ki_1 rfl ?_
    refine p_icmp_ne (tgt := 17) (pc1 := 13) dX12_firstOf_10 (by decide) rfl (fun q2 => ?_) (fun q2 => ?_)
    · refine r_iconst (v := 1) (pc1 := 14) dX12_firstOf_13 ki_1 rfl ?_
      refine r_goto (tgt := 40) dX12_firstOf_14 (by decide) ?_
      exact p_iret rfl rfl dX12_firstOf_40
    · refine r_iload_n (pc1 := 18) (i := 0) dX12_firstOf_17 rfl rfl rfl ?_
      refine r_iconst (v := 2) (pc1 := 19) dX12_firstOf_18 ki_2 rfl ?_
      refine p_icmp_ne (tgt := 27) (pc1 := 22) dX12_firstOf_19 (by decide) rfl (fun q3 => ?_) (fun q3 => ?_)
      · refine r_bipush (v := 9) (pc1 := 24) dX12_firstOf_22 kb_9 rfl ?_
        refine r_goto (tgt := 40) dX12_firstOf_24 (by decide) ?_
        exact p_iret rfl rfl dX12_firstOf_40
      · refine r_iload_n (pc1 := 28) (i := 0) dX12_firstOf_27 rfl rfl rfl ?_
        refine r_iconst (v := 3) (pc1 := 29) dX12_firstOf_28 ki_3 rfl ?_
        refine p_icmp_ne (tgt := 37) (pc1 := 32) dX12_firstOf_29 (by decide) rfl (fun q4 => ?_) (fun q4 => ?_)
        · refine r_bipush (v := 73) (pc1 := 34) dX12_firstOf_32 kb_73 rfl ?_
          refine r_goto (tgt := 40) dX12_firstOf_34 (by decide) ?_
          exact p_iret rfl rfl dX12_firstOf_40
        · refine r_sipush (v := 585) (pc1 := 40) dX12_firstOf_37 ks_585 rfl ?_
          exact p_iret rfl rfl dX12_firstOf_40
/-! f_X12_has -/
noncomputable def f_X12_has (a1 : Int32) (a2 : Int32) (s0 : SS) : Option Int32 := if ((a1 >>> (a2 &&& 31)) &&& 1 : Int32) = (1 : Int32) then some 1 else some 0
set_option maxRecDepth 100000 in
set_option maxHeartbeats 4000000 in
theorem c_X12_has {l : Launch} (a1 : Int32) (a2 : Int32) (s0 : SS) : Ct l wF yX12_has cX12_has 2 (some .boolean) 0 [.int a1, .int a2] s0 (pu (f_X12_has a1 a2 s0) s0) := by
  refine ct_of (y := yX12_has) plX12 (Nat.le_of_ble_eq_true rfl) ?_
  refine r_pad0 0 (L1 := [.int a1, .int a2]) rfl ?_
  unfold f_X12_has
  refine r_iload_n (pc1 := 1) (i := 0) dX12_has_0 rfl rfl rfl ?_
  refine r_iload_n (pc1 := 2) (i := 1) dX12_has_1 rfl rfl rfl ?_
  refine r_ishr (pc1 := 3) dX12_has_2 rfl ?_
  refine r_iconst (v := 1) (pc1 := 4) dX12_has_3 ki_1 rfl ?_
  refine r_iand (pc1 := 5) dX12_has_4 rfl ?_
  refine r_iconst (v := 1) (pc1 := 6) dX12_has_5 ki_1 rfl ?_
  refine p_icmp_ne (tgt := 13) (pc1 := 9) dX12_has_6 (by decide) rfl (fun q1 => ?_) (fun q1 => ?_)
  · refine r_iconst (v := 1) (pc1 := 10) dX12_has_9 ki_1 rfl ?_
    refine r_goto (tgt := 14) dX12_has_10 (by decide) ?_
    exact p_iret rfl rfl dX12_has_14
  · refine r_iconst (v := 0) (pc1 := 14) dX12_has_13 ki_0 rfl ?_
    exact p_iret rfl rfl dX12_has_14
/-! f_X12_laysRow -/
noncomputable def lp_X12_laysRow_79  : Nat → Int32 → SS → Res
  | 0, _, _ => none
  | n12 + 1, v10, s11 => if (s11 56 2 : Int32) ≤ (v10 : Int32) then some (0, s11) else bdp (f_X12_has (s11 56 49) v10 s11) (fun (v14 : Int32) => jn (fun (v15 : Int32) => lts (up s11 56 50 ((s11 56 50) ||| v15)) (fun (s17 : SS) => lp_X12_laysRow_79 n12 (v10 + 1) s17)) (fun (k16 : Int32 → Res) => jn (k16 0) (fun (k18 : Res) => if (v14 : Int32) = 0 then k18 else gd (inb v10 8) (if ((s11 59 (Int32.toNatClampNeg v10)) &&& ((s11 56 49) ^^^ ((-1))) : Int32) = 0 then k16 (1 <<< (v10 &&& 31)) else k18))))
noncomputable def lp_X12_laysRow_30 (k8 : SS → Res) : Nat → Int32 → Int32 → SS → Res
  | 0, _, _, _ => none
  | n24 + 1, v21, v22, s23 => if (v22 : Int32) < 0 then k8 s23 else gd (¬ (8 : Int32) = 0) (gd (inb v22 4) (lts (up s23 80 (Int32.toNatClampNeg v22) (v21 - v21 / 8 * 8)) (fun (s26 : SS) => gd (¬ (8 : Int32) = 0) (lt (v21 / 8) (fun (v27 : Int32) => gd (inb v22 4) (lts (up s26 56 49 ((s26 56 49) ||| (1 <<< ((s26 80 (Int32.toNatClampNeg v22)) &&& 31)))) (fun (s28 : SS) => lp_X12_laysRow_30 k8 n24 v27 (v22 + (-1)) s28)))))))
noncomputable def f_X12_laysRow (a1 : Int32) (s0 : SS) : Res := bdp (f_X12_manyOf a1 s0) (fun (v1 : Int32) => lts (up s0 56 48 v1) (fun (s2 : SS) => bdp (f_X12_firstOf (s2 56 48) s2) (fun (v3 : Int32) => lt (a1 - v3) (fun (v4 : Int32) => lts (up s2 56 49 0) (fun (s5 : SS) => lt ((s5 56 48) - 1) (fun (v6 : Int32) => jn (fun (s7 : SS) => lts (up s7 56 50 0) (fun (s9 : SS) => lp_X12_laysRow_79 FU 0 s9)) (fun (k8 : SS → Res) => lp_X12_laysRow_30 k8 FU v4 v6 s5)))))))
set_option maxRecDepth 100000 in
set_option maxHeartbeats 4000000 in
theorem t_lp_X12_laysRow_79 {l : Launch}   : ∀ (n12 : Nat) (v10 : Int32) (s11 : SS), RC l wF RX12 cX12_laysRow 4 none 1 79 [.ref 56, .null, .null, .int v10] [] s11 (lp_X12_laysRow_79 n12 v10 s11) := by
  intro n12
  induction n12 with
  | zero =>
    intro v10 s11
    rw [lp_X12_laysRow_79]
    exact r_none
  | succ n12 ih =>
    intro v10 s11
    rw [lp_X12_laysRow_79]
    refine r_iload_n (pc1 := 80) (i := 3) dX12_laysRow_79 rfl rfl rfl ?_
    refine r_aload_n (pc1 := 81) (i := 0) dX12_laysRow_80 rfl rfl rfl ?_
    refine r_getI (pc1 := 84) w_56 gfX12_144 rfl dX12_laysRow_81 rfl ?_
    refine r_icmp_ge (tgt := 136) (pc1 := 87) dX12_laysRow_84 (by decide) rfl (fun q13 => ?_) (fun q13 => ?_)
    · exact r_vret rfl dX12_laysRow_136
    · refine r_aload_n (pc1 := 88) (i := 0) dX12_laysRow_87 rfl rfl rfl ?_
      refine r_dup (pc1 := 89) dX12_laysRow_88 rfl rfl ?_
      refine r_getI (pc1 := 92) w_56 gfX12_332 rfl dX12_laysRow_89 rfl ?_
      refine r_aload_n (pc1 := 93) (i := 0) dX12_laysRow_92 rfl rfl rfl ?_
      refine r_getI (pc1 := 96) w_56 gfX12_329 rfl dX12_laysRow_93 rfl ?_
      refine r_iload_n (pc1 := 97) (i := 3) dX12_laysRow_96 rfl rfl rfl ?_
      refine r_callSp (pc1 := 100) lkX12_335 (c_X12_has _ _ _) rfl rfl ⟨Nat.le_of_ble_eq_true rfl, Nat.le_of_ble_eq_true rfl⟩ (Nat.le_of_ble_eq_true rfl) dX12_laysRow_97 rfl (fun v14 => ?_)
      refine r_jn (hyp := fun (k16 : Int32 → Res) => ∀ (v15 : Int32), RC l wF RX12 cX12_laysRow 4 none 1 126 [.ref 56, .null, .null, .int v10] [.int v15, .int (s11 56 50), .ref 56] s11 (k16 v15)) (fun v15 => ?_) (fun k16 hk16 => ?_)
      · refine r_ior (pc1 := 127) dX12_laysRow_126 rfl ?_
        refine r_putI (pc1 := 130) w_56 pfX12_332 rfl ⟨rfl, rfl⟩ dX12_laysRow_127 rfl ?_
        refine r_lts (fun s17 => ?_)
        refine r_iinc (pc1 := 133) dX12_laysRow_130 rfl (kn_1 _) (by decide) rfl rfl rfl ?_
        refine r_goto (tgt := 79) dX12_laysRow_133 (by decide) ?_
        exact r_wk (ih (v10 + 1) s17) ⟨Or.inr rfl, Or.inl rfl, Or.inl rfl, Or.inr rfl, trivial⟩
      · refine r_jn (hyp := fun (k18 : Res) => RC l wF RX12 cX12_laysRow 4 none 1 125 [.ref 56, .null, .null, .int v10] [.int (s11 56 50), .ref 56] s11 k18) (?_) (fun k18 hk18 => ?_)
        · refine r_iconst (v := 0) (pc1 := 126) dX12_laysRow_125 ki_0 rfl ?_
          exact r_wk (hk16 0) ⟨Or.inr rfl, Or.inl rfl, Or.inl rfl, Or.inr rfl, trivial⟩
        · refine r_if_eq (tgt := 125) (pc1 := 103) dX12_laysRow_100 (by decide) rfl (fun q19 => ?_) (fun q19 => ?_)
          · exact r_wk (hk18) ⟨Or.inr rfl, Or.inl rfl, Or.inl rfl, Or.inr rfl, trivial⟩
          · refine r_aload_n (pc1 := 104) (i := 0) dX12_laysRow_103 rfl rfl rfl ?_
            refine r_getR (pc1 := 107) w_56 gfX12_27 rfl dX12_laysRow_104 rfl ?_
            refine r_iload_n (pc1 := 108) (i := 3) dX12_laysRow_107 rfl rfl rfl ?_
            refine r_iald (pc1 := 109) w_59 dX12_laysRow_108 rfl ?_
            refine r_aload_n (pc1 := 110) (i := 0) dX12_laysRow_109 rfl rfl rfl ?_
            refine r_getI (pc1 := 113) w_56 gfX12_329 rfl dX12_laysRow_110 rfl ?_
            refine r_iconst (v := (-1)) (pc1 := 114) dX12_laysRow_113 ki_m1 rfl ?_
            refine r_ixor (pc1 := 115) dX12_laysRow_114 rfl ?_
            refine r_iand (pc1 := 116) dX12_laysRow_115 rfl ?_
            refine r_if_ne (tgt := 125) (pc1 := 119) dX12_laysRow_116 (by decide) rfl (fun q20 => ?_) (fun q20 => ?_)
            · refine r_iconst (v := 1) (pc1 := 120) dX12_laysRow_119 ki_1 rfl ?_
              refine r_iload_n (pc1 := 121) (i := 3) dX12_laysRow_120 rfl rfl rfl ?_
              refine r_ishl (pc1 := 122) dX12_laysRow_121 rfl ?_
              refine r_goto (tgt := 126) dX12_laysRow_122 (by decide) ?_
              exact r_wk (hk16 (1 <<< (v10 &&& 31))) ⟨Or.inr rfl, Or.inl rfl, Or.inl rfl, Or.inr rfl, trivial⟩
            · exact r_wk (hk18) ⟨Or.inr rfl, Or.inl rfl, Or.inl rfl, Or.inr rfl, trivial⟩
set_option maxRecDepth 100000 in
set_option maxHeartbeats 4000000 in
theorem t_lp_X12_laysRow_30 {l : Launch} (k8 : SS → Res) (hk8 : ∀ (s7 : SS), RC l wF RX12 cX12_laysRow 4 none 1 72 [.ref 56, .null, .null, .null] [] s7 (k8 s7)) : ∀ (n24 : Nat) (v21 : Int32) (v22 : Int32) (s23 : SS), RC l wF RX12 cX12_laysRow 4 none 1 30 [.ref 56, .null, .int v21, .int v22] [] s23 (lp_X12_laysRow_30 k8 n24 v21 v22 s23) := by
  intro n24
  induction n24 with
  | zero =>
    intro v21 v22 s23
    rw [lp_X12_laysRow_30]
    exact r_none
  | succ n24 ih =>
    intro v21 v22 s23
    rw [lp_X12_laysRow_30]
    refine r_iload_n (pc1 := 31) (i := 3) dX12_laysRow_30 rfl rfl rfl ?_
    refine r_if_lt (tgt := 72) (pc1 := 34) dX12_laysRow_31 (by decide) rfl (fun q25 => ?_) (fun q25 => ?_)
    · exact r_wk (hk8 s23) ⟨Or.inr rfl, Or.inl rfl, Or.inl rfl, Or.inl rfl, trivial⟩
    · refine r_aload_n (pc1 := 35) (i := 0) dX12_laysRow_34 rfl rfl rfl ?_
      refine r_getR (pc1 := 38) w_56 gfX12_91 rfl dX12_laysRow_35 rfl ?_
      refine r_iload_n (pc1 := 39) (i := 3) dX12_laysRow_38 rfl rfl rfl ?_
      refine r_iload_n (pc1 := 40) (i := 2) dX12_laysRow_39 rfl rfl rfl ?_
      refine r_bipush (v := 8) (pc1 := 42) dX12_laysRow_40 kb_8 rfl ?_
      refine r_irem (pc1 := 43) dX12_laysRow_42 rfl ?_
      refine r_iast (pc1 := 44) w_80 dX12_laysRow_43 rfl ?_
      refine r_lts (fun s26 => ?_)
      refine r_iload_n (pc1 := 45) (i := 2) dX12_laysRow_44 rfl rfl rfl ?_
      refine r_bipush (v := 8) (pc1 := 47) dX12_laysRow_45 kb_8 rfl ?_
      refine r_idiv (pc1 := 48) dX12_laysRow_47 rfl ?_
      refine r_lt (fun v27 => ?_)
      refine r_istore_n (pc1 := 49) (i := 2) dX12_laysRow_48 rfl (by decide) rfl rfl rfl ?_
      refine r_aload_n (pc1 := 50) (i := 0) dX12_laysRow_49 rfl rfl rfl ?_
      refine r_dup (pc1 := 51) dX12_laysRow_50 rfl rfl ?_
      refine r_getI (pc1 := 54) w_56 gfX12_329 rfl dX12_laysRow_51 rfl ?_
      refine r_iconst (v := 1) (pc1 := 55) dX12_laysRow_54 ki_1 rfl ?_
      refine r_aload_n (pc1 := 56) (i := 0) dX12_laysRow_55 rfl rfl rfl ?_
      refine r_getR (pc1 := 59) w_56 gfX12_91 rfl dX12_laysRow_56 rfl ?_
      refine r_iload_n (pc1 := 60) (i := 3) dX12_laysRow_59 rfl rfl rfl ?_
      refine r_iald (pc1 := 61) w_80 dX12_laysRow_60 rfl ?_
      refine r_ishl (pc1 := 62) dX12_laysRow_61 rfl ?_
      refine r_ior (pc1 := 63) dX12_laysRow_62 rfl ?_
      refine r_putI (pc1 := 66) w_56 pfX12_329 rfl ⟨rfl, rfl⟩ dX12_laysRow_63 rfl ?_
      refine r_lts (fun s28 => ?_)
      refine r_iinc (pc1 := 69) dX12_laysRow_66 rfl (kn_m1 _) (by decide) rfl rfl rfl ?_
      refine r_goto (tgt := 30) dX12_laysRow_69 (by decide) ?_
      exact r_wk (ih v27 (v22 + (-1)) s28) ⟨Or.inr rfl, Or.inl rfl, Or.inr rfl, Or.inr rfl, trivial⟩
set_option maxRecDepth 100000 in
set_option maxHeartbeats 4000000 in
theorem c_X12_laysRow {l : Launch} (a1 : Int32) (s0 : SS) : Ct l wF yX12_laysRow cX12_laysRow 4 none 1 [.ref 56, .int a1] s0 (f_X12_laysRow a1 s0) := by
  refine ct_of (y := yX12_laysRow) plX12 (Nat.le_of_ble_eq_true rfl) ?_
  refine r_pad0 2 (L1 := [.ref 56, .int a1, .null, .null]) rfl ?_
  unfold f_X12_laysRow
  refine r_aload_n (pc1 := 1) (i := 0) dX12_laysRow_0 rfl rfl rfl ?_
  refine r_iload_n (pc1 := 2) (i := 1) dX12_laysRow_1 rfl rfl rfl ?_
  refine r_callSp (pc1 := 5) lkX12_323 (c_X12_manyOf _ _) rfl rfl ⟨Nat.le_of_ble_eq_true rfl, Nat.le_of_ble_eq_true rfl⟩ (Nat.le_of_ble_eq_true rfl) dX12_laysRow_2 rfl (fun v1 => ?_)
  refine r_putI (pc1 := 8) w_56 pfX12_297 rfl ⟨rfl, rfl⟩ dX12_laysRow_5 rfl ?_
  refine r_lts (fun s2 => ?_)
  refine r_iload_n (pc1 := 9) (i := 1) dX12_laysRow_8 rfl rfl rfl ?_
  refine r_aload_n (pc1 := 10) (i := 0) dX12_laysRow_9 rfl rfl rfl ?_
  refine r_getI (pc1 := 13) w_56 gfX12_297 rfl dX12_laysRow_10 rfl ?_
  refine r_callSp (pc1 := 16) lkX12_326 (c_X12_firstOf _ _) rfl rfl ⟨Nat.le_of_ble_eq_true rfl, Nat.le_of_ble_eq_true rfl⟩ (Nat.le_of_ble_eq_true rfl) dX12_laysRow_13 rfl (fun v3 => ?_)
  refine r_isub (pc1 := 17) dX12_laysRow_16 rfl ?_
  refine r_lt (fun v4 => ?_)
  refine r_istore_n (pc1 := 18) (i := 2) dX12_laysRow_17 rfl (by decide) rfl rfl rfl ?_
  refine r_aload_n (pc1 := 19) (i := 0) dX12_laysRow_18 rfl rfl rfl ?_
  refine r_iconst (v := 0) (pc1 := 20) dX12_laysRow_19 ki_0 rfl ?_
  refine r_putI (pc1 := 23) w_56 pfX12_329 rfl ⟨rfl, rfl⟩ dX12_laysRow_20 rfl ?_
  refine r_lts (fun s5 => ?_)
  refine r_aload_n (pc1 := 24) (i := 0) dX12_laysRow_23 rfl rfl rfl ?_
  refine r_getI (pc1 := 27) w_56 gfX12_297 rfl dX12_laysRow_24 rfl ?_
  refine r_iconst (v := 1) (pc1 := 28) dX12_laysRow_27 ki_1 rfl ?_
  refine r_isub (pc1 := 29) dX12_laysRow_28 rfl ?_
  refine r_lt (fun v6 => ?_)
  refine r_istore_n (pc1 := 30) (i := 3) dX12_laysRow_29 rfl (by decide) rfl rfl rfl ?_
  refine r_jn (hyp := fun (k8 : SS → Res) => ∀ (s7 : SS), RC l wF RX12 cX12_laysRow 4 none 1 72 [.ref 56, .null, .null, .null] [] s7 (k8 s7)) (fun s7 => ?_) (fun k8 hk8 => ?_)
  · refine r_aload_n (pc1 := 73) (i := 0) dX12_laysRow_72 rfl rfl rfl ?_
    refine r_iconst (v := 0) (pc1 := 74) dX12_laysRow_73 ki_0 rfl ?_
    refine r_putI (pc1 := 77) w_56 pfX12_332 rfl ⟨rfl, rfl⟩ dX12_laysRow_74 rfl ?_
    refine r_lts (fun s9 => ?_)
    refine r_iconst (v := 0) (pc1 := 78) dX12_laysRow_77 ki_0 rfl ?_
    refine r_istore_n (pc1 := 79) (i := 3) dX12_laysRow_78 rfl (by decide) rfl rfl rfl ?_
    exact r_wk (t_lp_X12_laysRow_79 FU 0 s9) ⟨Or.inr rfl, Or.inl rfl, Or.inl rfl, Or.inr rfl, trivial⟩
  · exact r_wk (t_lp_X12_laysRow_30 k8 hk8 FU v4 v6 s5) ⟨Or.inr rfl, Or.inl rfl, Or.inr rfl, Or.inr rfl, trivial⟩
/-! f_X12_oftenOf -/
noncomputable def lp_X12_oftenOf_4 (a1 : Int32) (s0 : SS) : Nat → Int32 → Int32 → Option Int32
  | 0, _, _ => none
  | n3 + 1, v1, v2 => if (s0 56 48 : Int32) ≤ (v2 : Int32) then some v1 else gd (inb v2 4) (jn (fun (v5 : Int32) => lt (v1 + v5) (fun (v7 : Int32) => lp_X12_oftenOf_4 a1 s0 n3 v7 (v2 + 1))) (fun (k6 : Int32 → Option Int32) => if (s0 80 (Int32.toNatClampNeg v2) : Int32) = (a1 : Int32) then k6 1 else k6 0))
noncomputable def f_X12_oftenOf (a1 : Int32) (s0 : SS) : Option Int32 := lp_X12_oftenOf_4 a1 s0 FU 0 0
set_option maxRecDepth 100000 in
set_option maxHeartbeats 4000000 in
theorem t_lp_X12_oftenOf_4 {l : Launch} (a1 : Int32) (s0 : SS)  : ∀ (n3 : Nat) (v1 : Int32) (v2 : Int32), RC l wF RX12 cX12_oftenOf 4 (some .int) 0 4 [.ref 56, .int a1, .int v1, .int v2] [] s0 (pu (lp_X12_oftenOf_4 a1 s0 n3 v1 v2) s0) := by
  intro n3
  induction n3 with
  | zero =>
    intro v1 v2
    rw [lp_X12_oftenOf_4]
    exact p_none
  | succ n3 ih =>
    intro v1 v2
    rw [lp_X12_oftenOf_4]
    refine r_iload_n (pc1 := 5) (i := 3) dX12_oftenOf_4 rfl rfl rfl ?_
    refine r_aload_n (pc1 := 6) (i := 0) dX12_oftenOf_5 rfl rfl rfl ?_
    refine r_getI (pc1 := 9) w_56 gfX12_297 rfl dX12_oftenOf_6 rfl ?_
    refine p_icmp_ge (tgt := 36) (pc1 := 12) dX12_oftenOf_9 (by decide) rfl (fun q4 => ?_) (fun q4 => ?_)
    · refine r_iload_n (pc1 := 37) (i := 2) dX12_oftenOf_36 rfl rfl rfl ?_
      exact p_iret rfl rfl dX12_oftenOf_37
    · refine r_iload_n (pc1 := 13) (i := 2) dX12_oftenOf_12 rfl rfl rfl ?_
      refine r_aload_n (pc1 := 14) (i := 0) dX12_oftenOf_13 rfl rfl rfl ?_
      refine r_getR (pc1 := 17) w_56 gfX12_91 rfl dX12_oftenOf_14 rfl ?_
      refine r_iload_n (pc1 := 18) (i := 3) dX12_oftenOf_17 rfl rfl rfl ?_
      refine p_iald (pc1 := 19) w_80 dX12_oftenOf_18 rfl ?_
      refine r_iload_n (pc1 := 20) (i := 1) dX12_oftenOf_19 rfl rfl rfl ?_
      refine p_jn (hyp := fun (k6 : Int32 → Option Int32) => ∀ (v5 : Int32), RC l wF RX12 cX12_oftenOf 4 (some .int) 0 28 [.ref 56, .int a1, .null, .int v2] [.int v5, .int v1] s0 (pu (k6 v5) s0)) (fun v5 => ?_) (fun k6 hk6 => ?_)
      · refine r_iadd (pc1 := 29) dX12_oftenOf_28 rfl ?_
        refine p_lt (fun v7 => ?_)
        refine r_istore_n (pc1 := 30) (i := 2) dX12_oftenOf_29 rfl (by decide) rfl rfl rfl ?_
        refine r_iinc (pc1 := 33) dX12_oftenOf_30 rfl (kn_1 _) (by decide) rfl rfl rfl ?_
        refine r_goto (tgt := 4) dX12_oftenOf_33 (by decide) ?_
        exact r_wk (ih v7 (v2 + 1)) ⟨Or.inr rfl, Or.inr rfl, Or.inr rfl, Or.inr rfl, trivial⟩
      · refine p_icmp_ne (tgt := 27) (pc1 := 23) dX12_oftenOf_20 (by decide) rfl (fun q8 => ?_) (fun q8 => ?_)
        · refine r_iconst (v := 1) (pc1 := 24) dX12_oftenOf_23 ki_1 rfl ?_
          refine r_goto (tgt := 28) dX12_oftenOf_24 (by decide) ?_
          exact r_wk (hk6 1) ⟨Or.inr rfl, Or.inr rfl, Or.inl rfl, Or.inr rfl, trivial⟩
        · refine r_iconst (v := 0) (pc1 := 28) dX12_oftenOf_27 ki_0 rfl ?_
          exact r_wk (hk6 0) ⟨Or.inr rfl, Or.inr rfl, Or.inl rfl, Or.inr rfl, trivial⟩
set_option maxRecDepth 100000 in
set_option maxHeartbeats 4000000 in
theorem c_X12_oftenOf {l : Launch} (a1 : Int32) (s0 : SS) : Ct l wF yX12_oftenOf cX12_oftenOf 4 (some .int) 0 [.ref 56, .int a1] s0 (pu (f_X12_oftenOf a1 s0) s0) := by
  refine ct_of (y := yX12_oftenOf) plX12 (Nat.le_of_ble_eq_true rfl) ?_
  refine r_pad0 2 (L1 := [.ref 56, .int a1, .null, .null]) rfl ?_
  unfold f_X12_oftenOf
  refine r_iconst (v := 0) (pc1 := 1) dX12_oftenOf_0 ki_0 rfl ?_
  refine r_istore_n (pc1 := 2) (i := 2) dX12_oftenOf_1 rfl (by decide) rfl rfl rfl ?_
  refine r_iconst (v := 0) (pc1 := 3) dX12_oftenOf_2 ki_0 rfl ?_
  refine r_istore_n (pc1 := 4) (i := 3) dX12_oftenOf_3 rfl (by decide) rfl rfl rfl ?_
  exact r_wk (t_lp_X12_oftenOf_4 a1 s0 FU 0 0) ⟨Or.inr rfl, Or.inr rfl, Or.inr rfl, Or.inr rfl, trivial⟩
/-! f_X12_worked -/
noncomputable def f_X12_worked (a1 : Int32) (a2 : Int32) (a3 : Int32) (s0 : SS) : Option Int32 := if (a1 : Int32) = 37 then if (a3 : Int32) = 0 then some 0 else gd (¬ (a3 : Int32) = 0) (some (a2 - a2 / a3 * a3)) else if (a1 : Int32) = 42 then some (a2 * a3) else if (a1 : Int32) = 43 then some (a2 + a3) else if (a1 : Int32) = 45 then some (a2 - a3) else if (a1 : Int32) = 47 then if (a3 : Int32) = 0 then some 0 else gd (¬ (a3 : Int32) = 0) (some (a2 / a3)) else if (a1 : Int32) = 60 then if (a3 : Int32) ≤ (a2 : Int32) then some 0 else some 1 else if (a1 : Int32) = 62 then if (a2 : Int32) ≤ (a3 : Int32) then some 0 else some 1 else if (a2 : Int32) = (a3 : Int32) then some 1 else some 0
set_option maxRecDepth 100000 in
set_option maxHeartbeats 4000000 in
theorem c_X12_worked {l : Launch} (a1 : Int32) (a2 : Int32) (a3 : Int32) (s0 : SS) : Ct l wF yX12_worked cX12_worked 3 (some .int) 0 [.int a1, .int a2, .int a3] s0 (pu (f_X12_worked a1 a2 a3 s0) s0) := by
  refine ct_of (y := yX12_worked) plX12 (Nat.le_of_ble_eq_true rfl) ?_
  refine r_pad0 0 (L1 := [.int a1, .int a2, .int a3]) rfl ?_
  unfold f_X12_worked
  refine r_iload_n (pc1 := 1) (i := 0) dX12_worked_0 rfl rfl rfl ?_
  refine p_ite (fun q1 => ?_) (fun q1 => ?_)
  · refine r_look (tgt := 92) (off := 91) dX12_worked_1 (by decide) (by rw [q1]; rfl) (by decide) ?_
    refine r_iload_n (pc1 := 93) (i := 2) dX12_worked_92 rfl rfl rfl ?_
    refine p_if_ne (tgt := 100) (pc1 := 96) dX12_worked_93 (by decide) rfl (fun q12 => ?_) (fun q12 => ?_)
    · refine r_iconst (v := 0) (pc1 := 97) dX12_worked_96 ki_0 rfl ?_
      refine r_goto (tgt := 103) dX12_worked_97 (by decide) ?_
      exact p_iret rfl rfl dX12_worked_103
    · refine r_iload_n (pc1 := 101) (i := 1) dX12_worked_100 rfl rfl rfl ?_
      refine r_iload_n (pc1 := 102) (i := 2) dX12_worked_101 rfl rfl rfl ?_
      refine p_irem (pc1 := 103) dX12_worked_102 rfl ?_
      exact p_iret rfl rfl dX12_worked_103
  · refine p_ite (fun q2 => ?_) (fun q2 => ?_)
    · refine r_look (tgt := 76) (off := 75) dX12_worked_1 (by decide) (by rw [q2]; rfl) (by decide) ?_
      refine r_iload_n (pc1 := 77) (i := 1) dX12_worked_76 rfl rfl rfl ?_
      refine r_iload_n (pc1 := 78) (i := 2) dX12_worked_77 rfl rfl rfl ?_
      refine r_imul (pc1 := 79) dX12_worked_78 rfl ?_
      exact p_iret rfl rfl dX12_worked_79
    · refine p_ite (fun q3 => ?_) (fun q3 => ?_)
      · refine r_look (tgt := 68) (off := 67) dX12_worked_1 (by decide) (by rw [q3]; rfl) (by decide) ?_
        refine r_iload_n (pc1 := 69) (i := 1) dX12_worked_68 rfl rfl rfl ?_
        refine r_iload_n (pc1 := 70) (i := 2) dX12_worked_69 rfl rfl rfl ?_
        refine r_iadd (pc1 := 71) dX12_worked_70 rfl ?_
        exact p_iret rfl rfl dX12_worked_71
      · refine p_ite (fun q4 => ?_) (fun q4 => ?_)
        · refine r_look (tgt := 72) (off := 71) dX12_worked_1 (by decide) (by rw [q4]; rfl) (by decide) ?_
          refine r_iload_n (pc1 := 73) (i := 1) dX12_worked_72 rfl rfl rfl ?_
          refine r_iload_n (pc1 := 74) (i := 2) dX12_worked_73 rfl rfl rfl ?_
          refine r_isub (pc1 := 75) dX12_worked_74 rfl ?_
          exact p_iret rfl rfl dX12_worked_75
        · refine p_ite (fun q5 => ?_) (fun q5 => ?_)
          · refine r_look (tgt := 80) (off := 79) dX12_worked_1 (by decide) (by rw [q5]; rfl) (by decide) ?_
            refine r_iload_n (pc1 := 81) (i := 2) dX12_worked_80 rfl rfl rfl ?_
            refine p_if_ne (tgt := 88) (pc1 := 84) dX12_worked_81 (by decide) rfl (fun q11 => ?_) (fun q11 => ?_)
            · refine r_iconst (v := 0) (pc1 := 85) dX12_worked_84 ki_0 rfl ?_
              refine r_goto (tgt := 91) dX12_worked_85 (by decide) ?_
              exact p_iret rfl rfl dX12_worked_91
            · refine r_iload_n (pc1 := 89) (i := 1) dX12_worked_88 rfl rfl rfl ?_
              refine r_iload_n (pc1 := 90) (i := 2) dX12_worked_89 rfl rfl rfl ?_
              refine p_idiv (pc1 := 91) dX12_worked_90 rfl ?_
              exact p_iret rfl rfl dX12_worked_91
          · refine p_ite (fun q6 => ?_) (fun q6 => ?_)
            · refine r_look (tgt := 104) (off := 103) dX12_worked_1 (by decide) (by rw [q6]; rfl) (by decide) ?_
              refine r_iload_n (pc1 := 105) (i := 1) dX12_worked_104 rfl rfl rfl ?_
              refine r_iload_n (pc1 := 106) (i := 2) dX12_worked_105 rfl rfl rfl ?_
              refine p_icmp_ge (tgt := 113) (pc1 := 109) dX12_worked_106 (by decide) rfl (fun q10 => ?_) (fun q10 => ?_)
              · refine r_iconst (v := 0) (pc1 := 114) dX12_worked_113 ki_0 rfl ?_
                exact p_iret rfl rfl dX12_worked_114
              · refine r_iconst (v := 1) (pc1 := 110) dX12_worked_109 ki_1 rfl ?_
                refine r_goto (tgt := 114) dX12_worked_110 (by decide) ?_
                exact p_iret rfl rfl dX12_worked_114
            · refine p_ite (fun q7 => ?_) (fun q7 => ?_)
              · refine r_look (tgt := 115) (off := 114) dX12_worked_1 (by decide) (by rw [q7]; rfl) (by decide) ?_
                refine r_iload_n (pc1 := 116) (i := 1) dX12_worked_115 rfl rfl rfl ?_
                refine r_iload_n (pc1 := 117) (i := 2) dX12_worked_116 rfl rfl rfl ?_
                refine p_icmp_le (tgt := 124) (pc1 := 120) dX12_worked_117 (by decide) rfl (fun q9 => ?_) (fun q9 => ?_)
                · refine r_iconst (v := 0) (pc1 := 125) dX12_worked_124 ki_0 rfl ?_
                  exact p_iret rfl rfl dX12_worked_125
                · refine r_iconst (v := 1) (pc1 := 121) dX12_worked_120 ki_1 rfl ?_
                  refine r_goto (tgt := 125) dX12_worked_121 (by decide) ?_
                  exact p_iret rfl rfl dX12_worked_125
              · refine r_look (tgt := 126) (off := 125) dX12_worked_1 (by decide) (by show Op.lookupswitch.offset [(37, 91), (42, 75), (43, 67), (45, 71), (47, 79), (60, 103), (62, 114)] 125 _ = _; rw [lv_osw (a := 37) q1 rfl, lv_osw (a := 42) q2 rfl, lv_osw (a := 43) q3 rfl, lv_osw (a := 45) q4 rfl, lv_osw (a := 47) q5 rfl, lv_osw (a := 60) q6 rfl, lv_osw (a := 62) q7 rfl]; rfl) (by decide) ?_
                refine r_iload_n (pc1 := 127) (i := 1) dX12_worked_126 rfl rfl rfl ?_
                refine r_iload_n (pc1 := 128) (i := 2) dX12_worked_127 rfl rfl rfl ?_
                refine p_icmp_ne (tgt := 135) (pc1 := 131) dX12_worked_128 (by decide) rfl (fun q8 => ?_) (fun q8 => ?_)
                · refine r_iconst (v := 1) (pc1 := 132) dX12_worked_131 ki_1 rfl ?_
                  refine r_goto (tgt := 136) dX12_worked_132 (by decide) ?_
                  exact p_iret rfl rfl dX12_worked_136
                · refine r_iconst (v := 0) (pc1 := 136) dX12_worked_135 ki_0 rfl ?_
                  exact p_iret rfl rfl dX12_worked_136
/-! f_X12_does -/
noncomputable def f_X12_does (a1 : Int32) (a2 : Int32) (s0 : SS) : Res := lt (a2 + 1) (fun (v1 : Int32) => jn (gd (inb a2 240) (if (s0 79 (Int32.toNatClampNeg a2) : Int32) = 0 then gd (inb a2 240) (jn (fun (v4 : Int32) => if (s0 78 (Int32.toNatClampNeg a2) : Int32) = (v4 : Int32) then gd (inb v1 240) (gd (inb a2 240) (lts (up s0 78 (Int32.toNatClampNeg a2) (s0 78 (Int32.toNatClampNeg v1))) (fun (s7 : SS) => gd (inb v1 240) (gd (inb a2 240) (lts (up s7 79 (Int32.toNatClampNeg a2) (vp_nar .boolean (s7 79 (Int32.toNatClampNeg v1)))) (fun (s8 : SS) => some (0, s8))))))) else some (0, s0)) (fun (k5 : Int32 → Res) => if (a1 : Int32) = (38 : Int32) then k5 1 else k5 0)) else some (0, s0))) (fun (k2 : Res) => if (a1 : Int32) = (38 : Int32) then k2 else if (a1 : Int32) = (124 : Int32) then k2 else gd (inb a2 240) (jn (fun (v12 : Int32) => gd (inb a2 240) (lts (up s0 79 (Int32.toNatClampNeg a2) (vp_nar .boolean v12)) (fun (s14 : SS) => gd (inb a2 240) (gd (inb v1 240) (bdp (f_X12_worked a1 (s14 78 (Int32.toNatClampNeg a2)) (s14 78 (Int32.toNatClampNeg v1)) s14) (fun (v15 : Int32) => gd (inb a2 240) (lts (up s14 78 (Int32.toNatClampNeg a2) v15) (fun (s16 : SS) => some (0, s16))))))))) (fun (k13 : Int32 → Res) => jn (k13 1) (fun (k17 : Res) => if (s0 79 (Int32.toNatClampNeg a2) : Int32) = 0 then gd (inb v1 240) (if (s0 79 (Int32.toNatClampNeg v1) : Int32) = 0 then jn (k13 0) (fun (k20 : Res) => jn (gd (inb v1 240) (if (s0 78 (Int32.toNatClampNeg v1) : Int32) = 0 then k17 else k20)) (fun (k21 : Res) => if (a1 : Int32) = (47 : Int32) then k21 else if (a1 : Int32) = (37 : Int32) then k21 else k20)) else k17) else k17)))))
set_option maxRecDepth 100000 in
set_option maxHeartbeats 4000000 in
theorem c_X12_does {l : Launch} (a1 : Int32) (a2 : Int32) (s0 : SS) : Ct l wF yX12_does cX12_does 4 none 1 [.ref 56, .int a1, .int a2] s0 (f_X12_does a1 a2 s0) := by
  refine ct_of (y := yX12_does) plX12 (Nat.le_of_ble_eq_true rfl) ?_
  refine r_pad0 1 (L1 := [.ref 56, .int a1, .int a2, .null]) rfl ?_
  unfold f_X12_does
  refine r_iload_n (pc1 := 1) (i := 2) dX12_does_0 rfl rfl rfl ?_
  refine r_iconst (v := 1) (pc1 := 2) dX12_does_1 ki_1 rfl ?_
  refine r_iadd (pc1 := 3) dX12_does_2 rfl ?_
  refine r_lt (fun v1 => ?_)
  refine r_istore_n (pc1 := 4) (i := 3) dX12_does_3 rfl (by decide) rfl rfl rfl ?_
  refine r_iload_n (pc1 := 5) (i := 1) dX12_does_4 rfl rfl rfl ?_
  refine r_bipush (v := 38) (pc1 := 7) dX12_does_5 kb_38 rfl ?_
  refine r_jn (hyp := fun (k2 : Res) => RC l wF RX12 cX12_does 4 none 1 16 [.ref 56, .int a1, .int a2, .int v1] [] s0 k2) (?_) (fun k2 hk2 => ?_)
  · refine r_aload_n (pc1 := 17) (i := 0) dX12_does_16 rfl rfl rfl ?_
    refine r_getR (pc1 := 20) w_56 gfX12_87 rfl dX12_does_17 rfl ?_
    refine r_iload_n (pc1 := 21) (i := 2) dX12_does_20 rfl rfl rfl ?_
    refine r_zald (pc1 := 22) w_79 dX12_does_21 rfl ?_
    refine r_if_ne (tgt := 45) (pc1 := 25) dX12_does_22 (by decide) rfl (fun q3 => ?_) (fun q3 => ?_)
    · refine r_aload_n (pc1 := 26) (i := 0) dX12_does_25 rfl rfl rfl ?_
      refine r_getR (pc1 := 29) w_56 gfX12_84 rfl dX12_does_26 rfl ?_
      refine r_iload_n (pc1 := 30) (i := 2) dX12_does_29 rfl rfl rfl ?_
      refine r_iald (pc1 := 31) w_78 dX12_does_30 rfl ?_
      refine r_iload_n (pc1 := 32) (i := 1) dX12_does_31 rfl rfl rfl ?_
      refine r_bipush (v := 38) (pc1 := 34) dX12_does_32 kb_38 rfl ?_
      refine r_jn (hyp := fun (k5 : Int32 → Res) => ∀ (v4 : Int32), RC l wF RX12 cX12_does 4 none 1 42 [.ref 56, .null, .int a2, .int v1] [.int v4, .int (s0 78 (Int32.toNatClampNeg a2))] s0 (k5 v4)) (fun v4 => ?_) (fun k5 hk5 => ?_)
      · refine r_icmp_eq (tgt := 46) (pc1 := 45) dX12_does_42 (by decide) rfl (fun q6 => ?_) (fun q6 => ?_)
        · refine r_aload_n (pc1 := 47) (i := 0) dX12_does_46 rfl rfl rfl ?_
          refine r_getR (pc1 := 50) w_56 gfX12_84 rfl dX12_does_47 rfl ?_
          refine r_iload_n (pc1 := 51) (i := 2) dX12_does_50 rfl rfl rfl ?_
          refine r_aload_n (pc1 := 52) (i := 0) dX12_does_51 rfl rfl rfl ?_
          refine r_getR (pc1 := 55) w_56 gfX12_84 rfl dX12_does_52 rfl ?_
          refine r_iload_n (pc1 := 56) (i := 3) dX12_does_55 rfl rfl rfl ?_
          refine r_iald (pc1 := 57) w_78 dX12_does_56 rfl ?_
          refine r_iast (pc1 := 58) w_78 dX12_does_57 rfl ?_
          refine r_lts (fun s7 => ?_)
          refine r_aload_n (pc1 := 59) (i := 0) dX12_does_58 rfl rfl rfl ?_
          refine r_getR (pc1 := 62) w_56 gfX12_87 rfl dX12_does_59 rfl ?_
          refine r_iload_n (pc1 := 63) (i := 2) dX12_does_62 rfl rfl rfl ?_
          refine r_aload_n (pc1 := 64) (i := 0) dX12_does_63 rfl rfl rfl ?_
          refine r_getR (pc1 := 67) w_56 gfX12_87 rfl dX12_does_64 rfl ?_
          refine r_iload_n (pc1 := 68) (i := 3) dX12_does_67 rfl rfl rfl ?_
          refine r_zald (pc1 := 69) w_79 dX12_does_68 rfl ?_
          refine r_zast (pc1 := 70) w_79 dX12_does_69 rfl ?_
          refine r_lts (fun s8 => ?_)
          exact r_vret rfl dX12_does_70
        · exact r_vret rfl dX12_does_45
      · refine r_icmp_ne (tgt := 41) (pc1 := 37) dX12_does_34 (by decide) rfl (fun q9 => ?_) (fun q9 => ?_)
        · refine r_iconst (v := 1) (pc1 := 38) dX12_does_37 ki_1 rfl ?_
          refine r_goto (tgt := 42) dX12_does_38 (by decide) ?_
          exact r_wk (hk5 1) ⟨Or.inr rfl, Or.inl rfl, Or.inr rfl, Or.inr rfl, trivial⟩
        · refine r_iconst (v := 0) (pc1 := 42) dX12_does_41 ki_0 rfl ?_
          exact r_wk (hk5 0) ⟨Or.inr rfl, Or.inl rfl, Or.inr rfl, Or.inr rfl, trivial⟩
    · exact r_vret rfl dX12_does_45
  · refine r_icmp_eq (tgt := 16) (pc1 := 10) dX12_does_7 (by decide) rfl (fun q10 => ?_) (fun q10 => ?_)
    · exact r_wk (hk2) ⟨Or.inr rfl, Or.inr rfl, Or.inr rfl, Or.inr rfl, trivial⟩
    · refine r_iload_n (pc1 := 11) (i := 1) dX12_does_10 rfl rfl rfl ?_
      refine r_bipush (v := 124) (pc1 := 13) dX12_does_11 kb_124 rfl ?_
      refine r_icmp_ne (tgt := 71) (pc1 := 16) dX12_does_13 (by decide) rfl (fun q11 => ?_) (fun q11 => ?_)
      · exact r_wk (hk2) ⟨Or.inr rfl, Or.inr rfl, Or.inr rfl, Or.inr rfl, trivial⟩
      · refine r_aload_n (pc1 := 72) (i := 0) dX12_does_71 rfl rfl rfl ?_
        refine r_getR (pc1 := 75) w_56 gfX12_87 rfl dX12_does_72 rfl ?_
        refine r_iload_n (pc1 := 76) (i := 2) dX12_does_75 rfl rfl rfl ?_
        refine r_aload_n (pc1 := 77) (i := 0) dX12_does_76 rfl rfl rfl ?_
        refine r_getR (pc1 := 80) w_56 gfX12_87 rfl dX12_does_77 rfl ?_
        refine r_iload_n (pc1 := 81) (i := 2) dX12_does_80 rfl rfl rfl ?_
        refine r_zald (pc1 := 82) w_79 dX12_does_81 rfl ?_
        refine r_jn (hyp := fun (k13 : Int32 → Res) => ∀ (v12 : Int32), RC l wF RX12 cX12_does 4 none 1 120 [.ref 56, .int a1, .int a2, .int v1] [.int v12, .int a2, .ref 79] s0 (k13 v12)) (fun v12 => ?_) (fun k13 hk13 => ?_)
        · refine r_zast (pc1 := 121) w_79 dX12_does_120 rfl ?_
          refine r_lts (fun s14 => ?_)
          refine r_aload_n (pc1 := 122) (i := 0) dX12_does_121 rfl rfl rfl ?_
          refine r_getR (pc1 := 125) w_56 gfX12_84 rfl dX12_does_122 rfl ?_
          refine r_iload_n (pc1 := 126) (i := 2) dX12_does_125 rfl rfl rfl ?_
          refine r_iload_n (pc1 := 127) (i := 1) dX12_does_126 rfl rfl rfl ?_
          refine r_aload_n (pc1 := 128) (i := 0) dX12_does_127 rfl rfl rfl ?_
          refine r_getR (pc1 := 131) w_56 gfX12_84 rfl dX12_does_128 rfl ?_
          refine r_iload_n (pc1 := 132) (i := 2) dX12_does_131 rfl rfl rfl ?_
          refine r_iald (pc1 := 133) w_78 dX12_does_132 rfl ?_
          refine r_aload_n (pc1 := 134) (i := 0) dX12_does_133 rfl rfl rfl ?_
          refine r_getR (pc1 := 137) w_56 gfX12_84 rfl dX12_does_134 rfl ?_
          refine r_iload_n (pc1 := 138) (i := 3) dX12_does_137 rfl rfl rfl ?_
          refine r_iald (pc1 := 139) w_78 dX12_does_138 rfl ?_
          refine r_callSp (pc1 := 142) lkX12_309 (c_X12_worked _ _ _ _) rfl rfl ⟨Nat.le_of_ble_eq_true rfl, Nat.le_of_ble_eq_true rfl⟩ (Nat.le_of_ble_eq_true rfl) dX12_does_139 rfl (fun v15 => ?_)
          refine r_iast (pc1 := 143) w_78 dX12_does_142 rfl ?_
          refine r_lts (fun s16 => ?_)
          exact r_vret rfl dX12_does_143
        · refine r_jn (hyp := fun (k17 : Res) => RC l wF RX12 cX12_does 4 none 1 115 [.ref 56, .int a1, .int a2, .int v1] [.int a2, .ref 79] s0 k17) (?_) (fun k17 hk17 => ?_)
          · refine r_iconst (v := 1) (pc1 := 116) dX12_does_115 ki_1 rfl ?_
            refine r_goto (tgt := 120) dX12_does_116 (by decide) ?_
            exact r_wk (hk13 1) ⟨Or.inr rfl, Or.inr rfl, Or.inr rfl, Or.inr rfl, trivial⟩
          · refine r_if_ne (tgt := 115) (pc1 := 85) dX12_does_82 (by decide) rfl (fun q18 => ?_) (fun q18 => ?_)
            · refine r_aload_n (pc1 := 86) (i := 0) dX12_does_85 rfl rfl rfl ?_
              refine r_getR (pc1 := 89) w_56 gfX12_87 rfl dX12_does_86 rfl ?_
              refine r_iload_n (pc1 := 90) (i := 3) dX12_does_89 rfl rfl rfl ?_
              refine r_zald (pc1 := 91) w_79 dX12_does_90 rfl ?_
              refine r_if_ne (tgt := 115) (pc1 := 94) dX12_does_91 (by decide) rfl (fun q19 => ?_) (fun q19 => ?_)
              · refine r_iload_n (pc1 := 95) (i := 1) dX12_does_94 rfl rfl rfl ?_
                refine r_bipush (v := 47) (pc1 := 97) dX12_does_95 kb_47 rfl ?_
                refine r_jn (hyp := fun (k20 : Res) => RC l wF RX12 cX12_does 4 none 1 119 [.ref 56, .int a1, .int a2, .int v1] [.int a2, .ref 79] s0 k20) (?_) (fun k20 hk20 => ?_)
                · refine r_iconst (v := 0) (pc1 := 120) dX12_does_119 ki_0 rfl ?_
                  exact r_wk (hk13 0) ⟨Or.inr rfl, Or.inr rfl, Or.inr rfl, Or.inr rfl, trivial⟩
                · refine r_jn (hyp := fun (k21 : Res) => RC l wF RX12 cX12_does 4 none 1 106 [.ref 56, .int a1, .int a2, .int v1] [.int a2, .ref 79] s0 k21) (?_) (fun k21 hk21 => ?_)
                  · refine r_aload_n (pc1 := 107) (i := 0) dX12_does_106 rfl rfl rfl ?_
                    refine r_getR (pc1 := 110) w_56 gfX12_84 rfl dX12_does_107 rfl ?_
                    refine r_iload_n (pc1 := 111) (i := 3) dX12_does_110 rfl rfl rfl ?_
                    refine r_iald (pc1 := 112) w_78 dX12_does_111 rfl ?_
                    refine r_if_ne (tgt := 119) (pc1 := 115) dX12_does_112 (by decide) rfl (fun q22 => ?_) (fun q22 => ?_)
                    · exact r_wk (hk17) ⟨Or.inr rfl, Or.inr rfl, Or.inr rfl, Or.inr rfl, trivial⟩
                    · exact r_wk (hk20) ⟨Or.inr rfl, Or.inr rfl, Or.inr rfl, Or.inr rfl, trivial⟩
                  · refine r_icmp_eq (tgt := 106) (pc1 := 100) dX12_does_97 (by decide) rfl (fun q23 => ?_) (fun q23 => ?_)
                    · exact r_wk (hk21) ⟨Or.inr rfl, Or.inr rfl, Or.inr rfl, Or.inr rfl, trivial⟩
                    · refine r_iload_n (pc1 := 101) (i := 1) dX12_does_100 rfl rfl rfl ?_
                      refine r_bipush (v := 37) (pc1 := 103) dX12_does_101 kb_37 rfl ?_
                      refine r_icmp_ne (tgt := 119) (pc1 := 106) dX12_does_103 (by decide) rfl (fun q24 => ?_) (fun q24 => ?_)
                      · exact r_wk (hk21) ⟨Or.inr rfl, Or.inr rfl, Or.inr rfl, Or.inr rfl, trivial⟩
                      · exact r_wk (hk20) ⟨Or.inr rfl, Or.inr rfl, Or.inr rfl, Or.inr rfl, trivial⟩
              · exact r_wk (hk17) ⟨Or.inr rfl, Or.inr rfl, Or.inr rfl, Or.inr rfl, trivial⟩
            · exact r_wk (hk17) ⟨Or.inr rfl, Or.inr rfl, Or.inr rfl, Or.inr rfl, trivial⟩
/-! f_X12_valueOf -/
noncomputable def f_X12_valueOf (a1 : Int32) (s0 : SS) : Option Int32 := if (Int32.toInt a1 < 102 ∨ 121 < Int32.toInt a1) then some (s0 56 3) else if (a1 : Int32) = 102 then if (s0 56 48 : Int32) = (s0 56 3 : Int32) then some 1 else some 0 else if (a1 : Int32) = 103 then some (s0 56 3) else if (a1 : Int32) = 104 then some (s0 56 43) else if (a1 : Int32) = 105 then some (s0 56 44) else if (a1 : Int32) = 106 then some (s0 56 3) else if (a1 : Int32) = 107 then gd (inb (s0 56 40) 8) (some (s0 58 (Int32.toNatClampNeg (s0 56 40)))) else if (a1 : Int32) = 108 then some (s0 56 40) else if (a1 : Int32) = 109 then some (s0 56 3) else if (a1 : Int32) = 110 then some (s0 56 48) else if (a1 : Int32) = 111 then if (s0 56 48 : Int32) = 0 then some 8 else gd (inb 0 4) (some (s0 80 (Int32.toNatClampNeg 0))) else if (a1 : Int32) = 112 then some (s0 56 41) else if (a1 : Int32) = 113 then some (s0 56 3) else if (a1 : Int32) = 114 then some (s0 56 3) else if (a1 : Int32) = 115 then some (s0 56 42) else if (a1 : Int32) = 116 then some (s0 56 3) else if (a1 : Int32) = 117 then some (s0 56 3) else if (a1 : Int32) = 118 then some (s0 56 3) else if (a1 : Int32) = 119 then some (s0 56 3) else if (a1 : Int32) = 120 then some (s0 56 3) else if (a1 : Int32) = 121 then if (s0 56 48 : Int32) = 0 then some 8 else gd (inb ((s0 56 48) - 1) 4) (some (s0 80 (Int32.toNatClampNeg ((s0 56 48) - 1)))) else none
set_option maxRecDepth 100000 in
set_option maxHeartbeats 4000000 in
theorem c_X12_valueOf {l : Launch} (a1 : Int32) (s0 : SS) : Ct l wF yX12_valueOf cX12_valueOf 2 (some .int) 0 [.ref 56, .int a1] s0 (pu (f_X12_valueOf a1 s0) s0) := by
  refine ct_of (y := yX12_valueOf) plX12 (Nat.le_of_ble_eq_true rfl) ?_
  refine r_pad0 0 (L1 := [.ref 56, .int a1]) rfl ?_
  unfold f_X12_valueOf
  refine r_iload_n (pc1 := 1) (i := 1) dX12_valueOf_0 rfl rfl rfl ?_
  refine p_ite (fun q21 => ?_) (fun q21 => ?_)
  · refine r_tabOut (tgt := 196) dX12_valueOf_1 q21 (by decide) ?_
    refine r_aload_n (pc1 := 197) (i := 0) dX12_valueOf_196 rfl rfl rfl ?_
    refine r_getI (pc1 := 200) w_56 gfX12_13 rfl dX12_valueOf_197 rfl ?_
    exact p_iret rfl rfl dX12_valueOf_200
  · refine p_ite (fun q1 => ?_) (fun q1 => ?_)
    · refine r_tabIn (tgt := 131) (off := 130) dX12_valueOf_1 (fun z => q21 (Or.inl z)) (fun z => q21 (Or.inr z)) (by rw [q1]; rfl) (by decide) ?_
      refine r_aload_n (pc1 := 132) (i := 0) dX12_valueOf_131 rfl rfl rfl ?_
      refine r_getI (pc1 := 135) w_56 gfX12_297 rfl dX12_valueOf_132 rfl ?_
      refine r_aload_n (pc1 := 136) (i := 0) dX12_valueOf_135 rfl rfl rfl ?_
      refine r_getI (pc1 := 139) w_56 gfX12_13 rfl dX12_valueOf_136 rfl ?_
      refine p_icmp_ne (tgt := 146) (pc1 := 142) dX12_valueOf_139 (by decide) rfl (fun q24 => ?_) (fun q24 => ?_)
      · refine r_iconst (v := 1) (pc1 := 143) dX12_valueOf_142 ki_1 rfl ?_
        refine r_goto (tgt := 147) dX12_valueOf_143 (by decide) ?_
        exact p_iret rfl rfl dX12_valueOf_147
      · refine r_iconst (v := 0) (pc1 := 147) dX12_valueOf_146 ki_0 rfl ?_
        exact p_iret rfl rfl dX12_valueOf_147
    · refine p_ite (fun q2 => ?_) (fun q2 => ?_)
      · refine r_tabIn (tgt := 196) (off := 195) dX12_valueOf_1 (fun z => q21 (Or.inl z)) (fun z => q21 (Or.inr z)) (by rw [q2]; rfl) (by decide) ?_
        refine r_aload_n (pc1 := 197) (i := 0) dX12_valueOf_196 rfl rfl rfl ?_
        refine r_getI (pc1 := 200) w_56 gfX12_13 rfl dX12_valueOf_197 rfl ?_
        exact p_iret rfl rfl dX12_valueOf_200
      · refine p_ite (fun q3 => ?_) (fun q3 => ?_)
        · refine r_tabIn (tgt := 126) (off := 125) dX12_valueOf_1 (fun z => q21 (Or.inl z)) (fun z => q21 (Or.inr z)) (by rw [q3]; rfl) (by decide) ?_
          refine r_aload_n (pc1 := 127) (i := 0) dX12_valueOf_126 rfl rfl rfl ?_
          refine r_getI (pc1 := 130) w_56 gfX12_303 rfl dX12_valueOf_127 rfl ?_
          exact p_iret rfl rfl dX12_valueOf_130
        · refine p_ite (fun q4 => ?_) (fun q4 => ?_)
          · refine r_tabIn (tgt := 148) (off := 147) dX12_valueOf_1 (fun z => q21 (Or.inl z)) (fun z => q21 (Or.inr z)) (by rw [q4]; rfl) (by decide) ?_
            refine r_aload_n (pc1 := 149) (i := 0) dX12_valueOf_148 rfl rfl rfl ?_
            refine r_getI (pc1 := 152) w_56 gfX12_306 rfl dX12_valueOf_149 rfl ?_
            exact p_iret rfl rfl dX12_valueOf_152
          · refine p_ite (fun q5 => ?_) (fun q5 => ?_)
            · refine r_tabIn (tgt := 196) (off := 195) dX12_valueOf_1 (fun z => q21 (Or.inl z)) (fun z => q21 (Or.inr z)) (by rw [q5]; rfl) (by decide) ?_
              refine r_aload_n (pc1 := 197) (i := 0) dX12_valueOf_196 rfl rfl rfl ?_
              refine r_getI (pc1 := 200) w_56 gfX12_13 rfl dX12_valueOf_197 rfl ?_
              exact p_iret rfl rfl dX12_valueOf_200
            · refine p_ite (fun q6 => ?_) (fun q6 => ?_)
              · refine r_tabIn (tgt := 106) (off := 105) dX12_valueOf_1 (fun z => q21 (Or.inl z)) (fun z => q21 (Or.inr z)) (by rw [q6]; rfl) (by decide) ?_
                refine r_aload_n (pc1 := 107) (i := 0) dX12_valueOf_106 rfl rfl rfl ?_
                refine r_getR (pc1 := 110) w_56 gfX12_23 rfl dX12_valueOf_107 rfl ?_
                refine r_aload_n (pc1 := 111) (i := 0) dX12_valueOf_110 rfl rfl rfl ?_
                refine r_getI (pc1 := 114) w_56 gfX12_291 rfl dX12_valueOf_111 rfl ?_
                refine p_iald (pc1 := 115) w_58 dX12_valueOf_114 rfl ?_
                exact p_iret rfl rfl dX12_valueOf_115
              · refine p_ite (fun q7 => ?_) (fun q7 => ?_)
                · refine r_tabIn (tgt := 96) (off := 95) dX12_valueOf_1 (fun z => q21 (Or.inl z)) (fun z => q21 (Or.inr z)) (by rw [q7]; rfl) (by decide) ?_
                  refine r_aload_n (pc1 := 97) (i := 0) dX12_valueOf_96 rfl rfl rfl ?_
                  refine r_getI (pc1 := 100) w_56 gfX12_291 rfl dX12_valueOf_97 rfl ?_
                  exact p_iret rfl rfl dX12_valueOf_100
                · refine p_ite (fun q8 => ?_) (fun q8 => ?_)
                  · refine r_tabIn (tgt := 196) (off := 195) dX12_valueOf_1 (fun z => q21 (Or.inl z)) (fun z => q21 (Or.inr z)) (by rw [q8]; rfl) (by decide) ?_
                    refine r_aload_n (pc1 := 197) (i := 0) dX12_valueOf_196 rfl rfl rfl ?_
                    refine r_getI (pc1 := 200) w_56 gfX12_13 rfl dX12_valueOf_197 rfl ?_
                    exact p_iret rfl rfl dX12_valueOf_200
                  · refine p_ite (fun q9 => ?_) (fun q9 => ?_)
                    · refine r_tabIn (tgt := 116) (off := 115) dX12_valueOf_1 (fun z => q21 (Or.inl z)) (fun z => q21 (Or.inr z)) (by rw [q9]; rfl) (by decide) ?_
                      refine r_aload_n (pc1 := 117) (i := 0) dX12_valueOf_116 rfl rfl rfl ?_
                      refine r_getI (pc1 := 120) w_56 gfX12_297 rfl dX12_valueOf_117 rfl ?_
                      exact p_iret rfl rfl dX12_valueOf_120
                    · refine p_ite (fun q10 => ?_) (fun q10 => ?_)
                      · refine r_tabIn (tgt := 153) (off := 152) dX12_valueOf_1 (fun z => q21 (Or.inl z)) (fun z => q21 (Or.inr z)) (by rw [q10]; rfl) (by decide) ?_
                        refine r_aload_n (pc1 := 154) (i := 0) dX12_valueOf_153 rfl rfl rfl ?_
                        refine r_getI (pc1 := 157) w_56 gfX12_297 rfl dX12_valueOf_154 rfl ?_
                        refine p_if_ne (tgt := 165) (pc1 := 160) dX12_valueOf_157 (by decide) rfl (fun q23 => ?_) (fun q23 => ?_)
                        · refine r_bipush (v := 8) (pc1 := 162) dX12_valueOf_160 kb_8 rfl ?_
                          refine r_goto (tgt := 171) dX12_valueOf_162 (by decide) ?_
                          exact p_iret rfl rfl dX12_valueOf_171
                        · refine r_aload_n (pc1 := 166) (i := 0) dX12_valueOf_165 rfl rfl rfl ?_
                          refine r_getR (pc1 := 169) w_56 gfX12_91 rfl dX12_valueOf_166 rfl ?_
                          refine r_iconst (v := 0) (pc1 := 170) dX12_valueOf_169 ki_0 rfl ?_
                          refine p_iald (pc1 := 171) w_80 dX12_valueOf_170 rfl ?_
                          exact p_iret rfl rfl dX12_valueOf_171
                      · refine p_ite (fun q11 => ?_) (fun q11 => ?_)
                        · refine r_tabIn (tgt := 101) (off := 100) dX12_valueOf_1 (fun z => q21 (Or.inl z)) (fun z => q21 (Or.inr z)) (by rw [q11]; rfl) (by decide) ?_
                          refine r_aload_n (pc1 := 102) (i := 0) dX12_valueOf_101 rfl rfl rfl ?_
                          refine r_getI (pc1 := 105) w_56 gfX12_294 rfl dX12_valueOf_102 rfl ?_
                          exact p_iret rfl rfl dX12_valueOf_105
                        · refine p_ite (fun q12 => ?_) (fun q12 => ?_)
                          · refine r_tabIn (tgt := 196) (off := 195) dX12_valueOf_1 (fun z => q21 (Or.inl z)) (fun z => q21 (Or.inr z)) (by rw [q12]; rfl) (by decide) ?_
                            refine r_aload_n (pc1 := 197) (i := 0) dX12_valueOf_196 rfl rfl rfl ?_
                            refine r_getI (pc1 := 200) w_56 gfX12_13 rfl dX12_valueOf_197 rfl ?_
                            exact p_iret rfl rfl dX12_valueOf_200
                          · refine p_ite (fun q13 => ?_) (fun q13 => ?_)
                            · refine r_tabIn (tgt := 196) (off := 195) dX12_valueOf_1 (fun z => q21 (Or.inl z)) (fun z => q21 (Or.inr z)) (by rw [q13]; rfl) (by decide) ?_
                              refine r_aload_n (pc1 := 197) (i := 0) dX12_valueOf_196 rfl rfl rfl ?_
                              refine r_getI (pc1 := 200) w_56 gfX12_13 rfl dX12_valueOf_197 rfl ?_
                              exact p_iret rfl rfl dX12_valueOf_200
                            · refine p_ite (fun q14 => ?_) (fun q14 => ?_)
                              · refine r_tabIn (tgt := 121) (off := 120) dX12_valueOf_1 (fun z => q21 (Or.inl z)) (fun z => q21 (Or.inr z)) (by rw [q14]; rfl) (by decide) ?_
                                refine r_aload_n (pc1 := 122) (i := 0) dX12_valueOf_121 rfl rfl rfl ?_
                                refine r_getI (pc1 := 125) w_56 gfX12_300 rfl dX12_valueOf_122 rfl ?_
                                exact p_iret rfl rfl dX12_valueOf_125
                              · refine p_ite (fun q15 => ?_) (fun q15 => ?_)
                                · refine r_tabIn (tgt := 196) (off := 195) dX12_valueOf_1 (fun z => q21 (Or.inl z)) (fun z => q21 (Or.inr z)) (by rw [q15]; rfl) (by decide) ?_
                                  refine r_aload_n (pc1 := 197) (i := 0) dX12_valueOf_196 rfl rfl rfl ?_
                                  refine r_getI (pc1 := 200) w_56 gfX12_13 rfl dX12_valueOf_197 rfl ?_
                                  exact p_iret rfl rfl dX12_valueOf_200
                                · refine p_ite (fun q16 => ?_) (fun q16 => ?_)
                                  · refine r_tabIn (tgt := 196) (off := 195) dX12_valueOf_1 (fun z => q21 (Or.inl z)) (fun z => q21 (Or.inr z)) (by rw [q16]; rfl) (by decide) ?_
                                    refine r_aload_n (pc1 := 197) (i := 0) dX12_valueOf_196 rfl rfl rfl ?_
                                    refine r_getI (pc1 := 200) w_56 gfX12_13 rfl dX12_valueOf_197 rfl ?_
                                    exact p_iret rfl rfl dX12_valueOf_200
                                  · refine p_ite (fun q17 => ?_) (fun q17 => ?_)
                                    · refine r_tabIn (tgt := 196) (off := 195) dX12_valueOf_1 (fun z => q21 (Or.inl z)) (fun z => q21 (Or.inr z)) (by rw [q17]; rfl) (by decide) ?_
                                      refine r_aload_n (pc1 := 197) (i := 0) dX12_valueOf_196 rfl rfl rfl ?_
                                      refine r_getI (pc1 := 200) w_56 gfX12_13 rfl dX12_valueOf_197 rfl ?_
                                      exact p_iret rfl rfl dX12_valueOf_200
                                    · refine p_ite (fun q18 => ?_) (fun q18 => ?_)
                                      · refine r_tabIn (tgt := 196) (off := 195) dX12_valueOf_1 (fun z => q21 (Or.inl z)) (fun z => q21 (Or.inr z)) (by rw [q18]; rfl) (by decide) ?_
                                        refine r_aload_n (pc1 := 197) (i := 0) dX12_valueOf_196 rfl rfl rfl ?_
                                        refine r_getI (pc1 := 200) w_56 gfX12_13 rfl dX12_valueOf_197 rfl ?_
                                        exact p_iret rfl rfl dX12_valueOf_200
                                      · refine p_ite (fun q19 => ?_) (fun q19 => ?_)
                                        · refine r_tabIn (tgt := 196) (off := 195) dX12_valueOf_1 (fun z => q21 (Or.inl z)) (fun z => q21 (Or.inr z)) (by rw [q19]; rfl) (by decide) ?_
                                          refine r_aload_n (pc1 := 197) (i := 0) dX12_valueOf_196 rfl rfl rfl ?_
                                          refine r_getI (pc1 := 200) w_56 gfX12_13 rfl dX12_valueOf_197 rfl ?_
                                          exact p_iret rfl rfl dX12_valueOf_200
                                        · refine p_ite (fun q20 => ?_) (fun q20 => ?_)
                                          · refine r_tabIn (tgt := 172) (off := 171) dX12_valueOf_1 (fun z => q21 (Or.inl z)) (fun z => q21 (Or.inr z)) (by rw [q20]; rfl) (by decide) ?_
                                            refine r_aload_n (pc1 := 173) (i := 0) dX12_valueOf_172 rfl rfl rfl ?_
                                            refine r_getI (pc1 := 176) w_56 gfX12_297 rfl dX12_valueOf_173 rfl ?_
                                            refine p_if_ne (tgt := 184) (pc1 := 179) dX12_valueOf_176 (by decide) rfl (fun q22 => ?_) (fun q22 => ?_)
                                            · refine r_bipush (v := 8) (pc1 := 181) dX12_valueOf_179 kb_8 rfl ?_
                                              refine r_goto (tgt := 195) dX12_valueOf_181 (by decide) ?_
                                              exact p_iret rfl rfl dX12_valueOf_195
                                            · refine r_aload_n (pc1 := 185) (i := 0) dX12_valueOf_184 rfl rfl rfl ?_
                                              refine r_getR (pc1 := 188) w_56 gfX12_91 rfl dX12_valueOf_185 rfl ?_
                                              refine r_aload_n (pc1 := 189) (i := 0) dX12_valueOf_188 rfl rfl rfl ?_
                                              refine r_getI (pc1 := 192) w_56 gfX12_297 rfl dX12_valueOf_189 rfl ?_
                                              refine r_iconst (v := 1) (pc1 := 193) dX12_valueOf_192 ki_1 rfl ?_
                                              refine r_isub (pc1 := 194) dX12_valueOf_193 rfl ?_
                                              refine p_iald (pc1 := 195) w_80 dX12_valueOf_194 rfl ?_
                                              exact p_iret rfl rfl dX12_valueOf_195
                                          · exact p_none
/-! f_X12_works -/
noncomputable def lp_X12_works_5 (a2 : Int32) : Nat → Int32 → Int32 → SS → Res
  | 0, _, _, _ => none
  | n4 + 1, v1, v2, s3 => if (a2 : Int32) ≤ (v2 : Int32) then some (0, s3) else gd (inb v2 200) (jn (fun (v6 : Int32) (s7 : SS) => lp_X12_works_5 a2 n4 v6 (v2 + 1) s7) (fun (k8 : Int32 → SS → Res) => if (s3 69 (Int32.toNatClampNeg v2) : Int32) ≤ (2 : Int32) then gd (inb v2 200) (if (s3 69 (Int32.toNatClampNeg v2) : Int32) = (2 : Int32) then gd (inb (v1 - 1) 240) (gd (inb (v1 - 1) 240) (lts (up s3 78 (Int32.toNatClampNeg (v1 - 1)) (1 - (s3 78 (Int32.toNatClampNeg (v1 - 1))))) (fun (s11 : SS) => k8 v1 s11))) else gd (inb v1 240) (lts (up s3 79 (Int32.toNatClampNeg v1) (vp_nar .boolean 0)) (fun (s12 : SS) => gd (inb v2 200) (jn (fun (v13 : Int32) => gd (inb v1 240) (lts (up s12 78 (Int32.toNatClampNeg v1) v13) (fun (s15 : SS) => k8 (v1 + 1) s15))) (fun (k14 : Int32 → Res) => if (s12 69 (Int32.toNatClampNeg v2) : Int32) = 0 then gd (inb v2 200) (k14 (s12 70 (Int32.toNatClampNeg v2))) else gd (inb v2 200) (bdp (f_X12_valueOf (s12 70 (Int32.toNatClampNeg v2)) s12) (fun (v17 : Int32) => k14 v17))))))) else gd (inb v2 200) (bd (f_X12_does (s3 69 (Int32.toNatClampNeg v2)) ((v1 + (-1)) - 1) s3) (fun (v18 : Int32) (s19 : SS) => k8 (v1 + (-1)) s19))))
noncomputable def f_X12_works (a1 : Int32) (a2 : Int32) (s0 : SS) : Res := lp_X12_works_5 a2 FU 0 a1 s0
set_option maxRecDepth 100000 in
set_option maxHeartbeats 4000000 in
theorem t_lp_X12_works_5 {l : Launch} (a2 : Int32)  : ∀ (n4 : Nat) (v1 : Int32) (v2 : Int32) (s3 : SS), RC l wF RX12 cX12_works 5 none 2 5 [.ref 56, .null, .int a2, .int v1, .int v2] [] s3 (lp_X12_works_5 a2 n4 v1 v2 s3) := by
  intro n4
  induction n4 with
  | zero =>
    intro v1 v2 s3
    rw [lp_X12_works_5]
    exact r_none
  | succ n4 ih =>
    intro v1 v2 s3
    rw [lp_X12_works_5]
    refine r_iload (pc1 := 7) dX12_works_5 rfl rfl ?_
    refine r_iload_n (pc1 := 8) (i := 2) dX12_works_7 rfl rfl rfl ?_
    refine r_icmp_ge (tgt := 127) (pc1 := 11) dX12_works_8 (by decide) rfl (fun q5 => ?_) (fun q5 => ?_)
    · exact r_vret rfl dX12_works_127
    · refine r_aload_n (pc1 := 12) (i := 0) dX12_works_11 rfl rfl rfl ?_
      refine r_getR (pc1 := 15) w_56 gfX12_57 rfl dX12_works_12 rfl ?_
      refine r_iload (pc1 := 17) dX12_works_15 rfl rfl ?_
      refine r_iald (pc1 := 18) w_69 dX12_works_17 rfl ?_
      refine r_iconst (v := 2) (pc1 := 19) dX12_works_18 ki_2 rfl ?_
      refine r_jn (hyp := fun (k8 : Int32 → SS → Res) => ∀ (v6 : Int32) (s7 : SS), RC l wF RX12 cX12_works 5 none 2 121 [.ref 56, .null, .int a2, .int v6, .int v2] [] s7 (k8 v6 s7)) (fun v6 s7 => ?_) (fun k8 hk8 => ?_)
      · refine r_iinc (pc1 := 124) dX12_works_121 rfl (kn_1 _) (by decide) rfl rfl rfl ?_
        refine r_goto (tgt := 5) dX12_works_124 (by decide) ?_
        exact r_wk (ih v6 (v2 + 1) s7) ⟨Or.inr rfl, Or.inl rfl, Or.inr rfl, Or.inr rfl, Or.inr rfl, trivial⟩
      · refine r_icmp_le (tgt := 42) (pc1 := 22) dX12_works_19 (by decide) rfl (fun q9 => ?_) (fun q9 => ?_)
        · refine r_aload_n (pc1 := 43) (i := 0) dX12_works_42 rfl rfl rfl ?_
          refine r_getR (pc1 := 46) w_56 gfX12_57 rfl dX12_works_43 rfl ?_
          refine r_iload (pc1 := 48) dX12_works_46 rfl rfl ?_
          refine r_iald (pc1 := 49) w_69 dX12_works_48 rfl ?_
          refine r_iconst (v := 2) (pc1 := 50) dX12_works_49 ki_2 rfl ?_
          refine r_icmp_ne (tgt := 74) (pc1 := 53) dX12_works_50 (by decide) rfl (fun q10 => ?_) (fun q10 => ?_)
          · refine r_aload_n (pc1 := 54) (i := 0) dX12_works_53 rfl rfl rfl ?_
            refine r_getR (pc1 := 57) w_56 gfX12_84 rfl dX12_works_54 rfl ?_
            refine r_iload_n (pc1 := 58) (i := 3) dX12_works_57 rfl rfl rfl ?_
            refine r_iconst (v := 1) (pc1 := 59) dX12_works_58 ki_1 rfl ?_
            refine r_isub (pc1 := 60) dX12_works_59 rfl ?_
            refine r_iconst (v := 1) (pc1 := 61) dX12_works_60 ki_1 rfl ?_
            refine r_aload_n (pc1 := 62) (i := 0) dX12_works_61 rfl rfl rfl ?_
            refine r_getR (pc1 := 65) w_56 gfX12_84 rfl dX12_works_62 rfl ?_
            refine r_iload_n (pc1 := 66) (i := 3) dX12_works_65 rfl rfl rfl ?_
            refine r_iconst (v := 1) (pc1 := 67) dX12_works_66 ki_1 rfl ?_
            refine r_isub (pc1 := 68) dX12_works_67 rfl ?_
            refine r_iald (pc1 := 69) w_78 dX12_works_68 rfl ?_
            refine r_isub (pc1 := 70) dX12_works_69 rfl ?_
            refine r_iast (pc1 := 71) w_78 dX12_works_70 rfl ?_
            refine r_lts (fun s11 => ?_)
            refine r_goto (tgt := 121) dX12_works_71 (by decide) ?_
            exact r_wk (hk8 v1 s11) ⟨Or.inr rfl, Or.inl rfl, Or.inr rfl, Or.inr rfl, Or.inr rfl, trivial⟩
          · refine r_aload_n (pc1 := 75) (i := 0) dX12_works_74 rfl rfl rfl ?_
            refine r_getR (pc1 := 78) w_56 gfX12_87 rfl dX12_works_75 rfl ?_
            refine r_iload_n (pc1 := 79) (i := 3) dX12_works_78 rfl rfl rfl ?_
            refine r_iconst (v := 0) (pc1 := 80) dX12_works_79 ki_0 rfl ?_
            refine r_zast (pc1 := 81) w_79 dX12_works_80 rfl ?_
            refine r_lts (fun s12 => ?_)
            refine r_aload_n (pc1 := 82) (i := 0) dX12_works_81 rfl rfl rfl ?_
            refine r_getR (pc1 := 85) w_56 gfX12_84 rfl dX12_works_82 rfl ?_
            refine r_iload_n (pc1 := 86) (i := 3) dX12_works_85 rfl rfl rfl ?_
            refine r_aload_n (pc1 := 87) (i := 0) dX12_works_86 rfl rfl rfl ?_
            refine r_getR (pc1 := 90) w_56 gfX12_57 rfl dX12_works_87 rfl ?_
            refine r_iload (pc1 := 92) dX12_works_90 rfl rfl ?_
            refine r_iald (pc1 := 93) w_69 dX12_works_92 rfl ?_
            refine r_jn (hyp := fun (k14 : Int32 → Res) => ∀ (v13 : Int32), RC l wF RX12 cX12_works 5 none 2 117 [.ref 56, .null, .int a2, .int v1, .int v2] [.int v13, .int v1, .ref 78] s12 (k14 v13)) (fun v13 => ?_) (fun k14 hk14 => ?_)
            · refine r_iast (pc1 := 118) w_78 dX12_works_117 rfl ?_
              refine r_lts (fun s15 => ?_)
              refine r_iinc (pc1 := 121) dX12_works_118 rfl (kn_1 _) (by decide) rfl rfl rfl ?_
              exact r_wk (hk8 (v1 + 1) s15) ⟨Or.inr rfl, Or.inl rfl, Or.inr rfl, Or.inr rfl, Or.inr rfl, trivial⟩
            · refine r_if_ne (tgt := 106) (pc1 := 96) dX12_works_93 (by decide) rfl (fun q16 => ?_) (fun q16 => ?_)
              · refine r_aload_n (pc1 := 97) (i := 0) dX12_works_96 rfl rfl rfl ?_
                refine r_getR (pc1 := 100) w_56 gfX12_60 rfl dX12_works_97 rfl ?_
                refine r_iload (pc1 := 102) dX12_works_100 rfl rfl ?_
                refine r_iald (pc1 := 103) w_70 dX12_works_102 rfl ?_
                refine r_goto (tgt := 117) dX12_works_103 (by decide) ?_
                exact r_wk (hk14 (s12 70 (Int32.toNatClampNeg v2))) ⟨Or.inr rfl, Or.inl rfl, Or.inr rfl, Or.inr rfl, Or.inr rfl, trivial⟩
              · refine r_aload_n (pc1 := 107) (i := 0) dX12_works_106 rfl rfl rfl ?_
                refine r_aload_n (pc1 := 108) (i := 0) dX12_works_107 rfl rfl rfl ?_
                refine r_getR (pc1 := 111) w_56 gfX12_60 rfl dX12_works_108 rfl ?_
                refine r_iload (pc1 := 113) dX12_works_111 rfl rfl ?_
                refine r_iald (pc1 := 114) w_70 dX12_works_113 rfl ?_
                refine r_callVp (pc1 := 117) (rv_of w_56 cl_12) lkX12_316 (c_X12_valueOf _ _) rfl rfl ⟨Nat.le_of_ble_eq_true rfl, Nat.le_of_ble_eq_true rfl⟩ (Nat.le_of_ble_eq_true rfl) dX12_works_114 rfl (fun v17 => ?_)
                exact r_wk (hk14 v17) ⟨Or.inr rfl, Or.inl rfl, Or.inr rfl, Or.inr rfl, Or.inr rfl, trivial⟩
        · refine r_iinc (pc1 := 25) dX12_works_22 rfl (kn_m1 _) (by decide) rfl rfl rfl ?_
          refine r_aload_n (pc1 := 26) (i := 0) dX12_works_25 rfl rfl rfl ?_
          refine r_aload_n (pc1 := 27) (i := 0) dX12_works_26 rfl rfl rfl ?_
          refine r_getR (pc1 := 30) w_56 gfX12_57 rfl dX12_works_27 rfl ?_
          refine r_iload (pc1 := 32) dX12_works_30 rfl rfl ?_
          refine r_iald (pc1 := 33) w_69 dX12_works_32 rfl ?_
          refine r_iload_n (pc1 := 34) (i := 3) dX12_works_33 rfl rfl rfl ?_
          refine r_iconst (v := 1) (pc1 := 35) dX12_works_34 ki_1 rfl ?_
          refine r_isub (pc1 := 36) dX12_works_35 rfl ?_
          refine r_callVv (pc1 := 39) (rv_of w_56 cl_12) lkX12_313 (c_X12_does _ _ _) rfl rfl ⟨Nat.le_of_ble_eq_true rfl, Nat.le_of_ble_eq_true rfl⟩ (Nat.le_of_ble_eq_true rfl) dX12_works_36 rfl (fun v18 s19 => ?_)
          refine r_goto (tgt := 121) dX12_works_39 (by decide) ?_
          exact r_wk (hk8 (v1 + (-1)) s19) ⟨Or.inr rfl, Or.inl rfl, Or.inr rfl, Or.inr rfl, Or.inr rfl, trivial⟩
set_option maxRecDepth 100000 in
set_option maxHeartbeats 4000000 in
theorem c_X12_works {l : Launch} (a1 : Int32) (a2 : Int32) (s0 : SS) : Ct l wF yX12_works cX12_works 5 none 2 [.ref 56, .int a1, .int a2] s0 (f_X12_works a1 a2 s0) := by
  refine ct_of (y := yX12_works) plX12 (Nat.le_of_ble_eq_true rfl) ?_
  refine r_pad0 2 (L1 := [.ref 56, .int a1, .int a2, .null, .null]) rfl ?_
  unfold f_X12_works
  refine r_iconst (v := 0) (pc1 := 1) dX12_works_0 ki_0 rfl ?_
  refine r_istore_n (pc1 := 2) (i := 3) dX12_works_1 rfl (by decide) rfl rfl rfl ?_
  refine r_iload_n (pc1 := 3) (i := 1) dX12_works_2 rfl rfl rfl ?_
  refine r_istore (pc1 := 5) dX12_works_3 (by decide) rfl rfl rfl ?_
  exact r_wk (t_lp_X12_works_5 a2 FU 0 a1 s0) ⟨Or.inr rfl, Or.inl rfl, Or.inr rfl, Or.inr rfl, Or.inr rfl, trivial⟩
/-! f_X12_tells -/
noncomputable def lp_X12_tells_3 (a1 : Int32) (a2 : Int32) (a3 : Int32) (k3 : Int32 → SS → Res) : Nat → Int32 → SS → Res
  | 0, _, _ => none
  | n13 + 1, v11, s12 => if (s12 56 17 : Int32) ≤ (v11 : Int32) then some (0, s12) else gd (inb v11 14) (jn (fun (s15 : SS) => lp_X12_tells_3 a1 a2 a3 k3 n13 (v11 + 1) s15) (fun (k16 : SS → Res) => if (s12 65 (Int32.toNatClampNeg v11) : Int32) = (a1 : Int32) then gd (inb v11 14) (gd (inb v11 14) (bd (f_X12_works (s12 67 (Int32.toNatClampNeg v11)) (s12 68 (Int32.toNatClampNeg v11)) s12) (fun (v18 : Int32) (s19 : SS) => gd (inb 0 240) (if (s19 79 (Int32.toNatClampNeg 0) : Int32) = 0 then gd (inb 0 240) (if (s19 78 (Int32.toNatClampNeg 0) : Int32) = (1 : Int32) then k3 v11 s19 else k16 s19) else k16 s19)))) else k16 s12))
noncomputable def f_X12_tells (a1 : Int32) (a2 : Int32) (a3 : Int32) (s0 : SS) : Res := jn (fun (v1 : Int32) (s2 : SS) => gd (inb v1 14) (gd (inb v1 14) (bd (f_X12_works (s2 66 (Int32.toNatClampNeg v1)) (s2 67 (Int32.toNatClampNeg v1)) s2) (fun (v4 : Int32) (s5 : SS) => gd (inb 0 240) (jn (fun (v6 : Int32) => if (a2 : Int32) ≤ (v6 : Int32) then if (v6 : Int32) ≤ (a3 : Int32) then some (v6, s5) else some (a3, s5) else some (a2, s5)) (fun (k7 : Int32 → Res) => if (s5 79 (Int32.toNatClampNeg 0) : Int32) = 0 then gd (inb 0 240) (k7 (s5 78 (Int32.toNatClampNeg 0))) else k7 0)))))) (fun (k3 : Int32 → SS → Res) => lp_X12_tells_3 a1 a2 a3 k3 FU 0 s0)
set_option maxRecDepth 100000 in
set_option maxHeartbeats 4000000 in
theorem t_lp_X12_tells_3 {l : Launch} (a1 : Int32) (a2 : Int32) (a3 : Int32) (k3 : Int32 → SS → Res) (hk3 : ∀ (v1 : Int32) (s2 : SS), RC l wF RX12 cX12_tells 6 (some .int) 3 66 [.ref 56, .null, .int a2, .int a3, .int v1, .null] [] s2 (k3 v1 s2)) : ∀ (n13 : Nat) (v11 : Int32) (s12 : SS), RC l wF RX12 cX12_tells 6 (some .int) 3 3 [.ref 56, .int a1, .int a2, .int a3, .int v11, .null] [] s12 (lp_X12_tells_3 a1 a2 a3 k3 n13 v11 s12) := by
  intro n13
  induction n13 with
  | zero =>
    intro v11 s12
    rw [lp_X12_tells_3]
    exact r_none
  | succ n13 ih =>
    intro v11 s12
    rw [lp_X12_tells_3]
    refine r_iload (pc1 := 5) dX12_tells_3 rfl rfl ?_
    refine r_aload_n (pc1 := 6) (i := 0) dX12_tells_5 rfl rfl rfl ?_
    refine r_getI (pc1 := 9) w_56 gfX12_288 rfl dX12_tells_6 rfl ?_
    refine r_icmp_ge (tgt := 134) (pc1 := 12) dX12_tells_9 (by decide) rfl (fun q14 => ?_) (fun q14 => ?_)
    · refine r_iconst (v := 0) (pc1 := 135) dX12_tells_134 ki_0 rfl ?_
      exact r_iret rfl rfl dX12_tells_135
    · refine r_aload_n (pc1 := 13) (i := 0) dX12_tells_12 rfl rfl rfl ?_
      refine r_getR (pc1 := 16) w_56 gfX12_45 rfl dX12_tells_13 rfl ?_
      refine r_iload (pc1 := 18) dX12_tells_16 rfl rfl ?_
      refine r_iald (pc1 := 19) w_65 dX12_tells_18 rfl ?_
      refine r_iload_n (pc1 := 20) (i := 1) dX12_tells_19 rfl rfl rfl ?_
      refine r_jn (hyp := fun (k16 : SS → Res) => ∀ (s15 : SS), RC l wF RX12 cX12_tells 6 (some .int) 3 128 [.ref 56, .int a1, .int a2, .int a3, .int v11, .null] [] s15 (k16 s15)) (fun s15 => ?_) (fun k16 hk16 => ?_)
      · refine r_iinc (pc1 := 131) dX12_tells_128 rfl (kn_1 _) (by decide) rfl rfl rfl ?_
        refine r_goto (tgt := 3) dX12_tells_131 (by decide) ?_
        exact r_wk (ih (v11 + 1) s15) ⟨Or.inr rfl, Or.inr rfl, Or.inr rfl, Or.inr rfl, Or.inr rfl, Or.inl rfl, trivial⟩
      · refine r_icmp_eq (tgt := 26) (pc1 := 23) dX12_tells_20 (by decide) rfl (fun q17 => ?_) (fun q17 => ?_)
        · refine r_aload_n (pc1 := 27) (i := 0) dX12_tells_26 rfl rfl rfl ?_
          refine r_aload_n (pc1 := 28) (i := 0) dX12_tells_27 rfl rfl rfl ?_
          refine r_getR (pc1 := 31) w_56 gfX12_51 rfl dX12_tells_28 rfl ?_
          refine r_iload (pc1 := 33) dX12_tells_31 rfl rfl ?_
          refine r_iald (pc1 := 34) w_67 dX12_tells_33 rfl ?_
          refine r_aload_n (pc1 := 35) (i := 0) dX12_tells_34 rfl rfl rfl ?_
          refine r_getR (pc1 := 38) w_56 gfX12_54 rfl dX12_tells_35 rfl ?_
          refine r_iload (pc1 := 40) dX12_tells_38 rfl rfl ?_
          refine r_iald (pc1 := 41) w_68 dX12_tells_40 rfl ?_
          refine r_callVv (pc1 := 44) (rv_of w_56 cl_12) lkX12_320 (c_X12_works _ _ _) rfl rfl ⟨Nat.le_of_ble_eq_true rfl, Nat.le_of_ble_eq_true rfl⟩ (Nat.le_of_ble_eq_true rfl) dX12_tells_41 rfl (fun v18 s19 => ?_)
          refine r_aload_n (pc1 := 45) (i := 0) dX12_tells_44 rfl rfl rfl ?_
          refine r_getR (pc1 := 48) w_56 gfX12_87 rfl dX12_tells_45 rfl ?_
          refine r_iconst (v := 0) (pc1 := 49) dX12_tells_48 ki_0 rfl ?_
          refine r_zald (pc1 := 50) w_79 dX12_tells_49 rfl ?_
          refine r_if_ne (tgt := 128) (pc1 := 53) dX12_tells_50 (by decide) rfl (fun q20 => ?_) (fun q20 => ?_)
          · refine r_aload_n (pc1 := 54) (i := 0) dX12_tells_53 rfl rfl rfl ?_
            refine r_getR (pc1 := 57) w_56 gfX12_84 rfl dX12_tells_54 rfl ?_
            refine r_iconst (v := 0) (pc1 := 58) dX12_tells_57 ki_0 rfl ?_
            refine r_iald (pc1 := 59) w_78 dX12_tells_58 rfl ?_
            refine r_iconst (v := 1) (pc1 := 60) dX12_tells_59 ki_1 rfl ?_
            refine r_icmp_eq (tgt := 66) (pc1 := 63) dX12_tells_60 (by decide) rfl (fun q21 => ?_) (fun q21 => ?_)
            · exact r_wk (hk3 v11 s19) ⟨Or.inr rfl, Or.inl rfl, Or.inr rfl, Or.inr rfl, Or.inr rfl, Or.inl rfl, trivial⟩
            · refine r_goto (tgt := 128) dX12_tells_63 (by decide) ?_
              exact r_wk (hk16 s19) ⟨Or.inr rfl, Or.inr rfl, Or.inr rfl, Or.inr rfl, Or.inr rfl, Or.inl rfl, trivial⟩
          · exact r_wk (hk16 s19) ⟨Or.inr rfl, Or.inr rfl, Or.inr rfl, Or.inr rfl, Or.inr rfl, Or.inl rfl, trivial⟩
        · refine r_goto (tgt := 128) dX12_tells_23 (by decide) ?_
          exact r_wk (hk16 s12) ⟨Or.inr rfl, Or.inr rfl, Or.inr rfl, Or.inr rfl, Or.inr rfl, Or.inl rfl, trivial⟩
set_option maxRecDepth 100000 in
set_option maxHeartbeats 4000000 in
theorem c_X12_tells {l : Launch} (a1 : Int32) (a2 : Int32) (a3 : Int32) (s0 : SS) : Ct l wF yX12_tells cX12_tells 6 (some .int) 3 [.ref 56, .int a1, .int a2, .int a3] s0 (f_X12_tells a1 a2 a3 s0) := by
  refine ct_of (y := yX12_tells) plX12 (Nat.le_of_ble_eq_true rfl) ?_
  refine r_pad0 2 (L1 := [.ref 56, .int a1, .int a2, .int a3, .null, .null]) rfl ?_
  unfold f_X12_tells
  refine r_iconst (v := 0) (pc1 := 1) dX12_tells_0 ki_0 rfl ?_
  refine r_istore (pc1 := 3) dX12_tells_1 (by decide) rfl rfl rfl ?_
  refine r_jn (hyp := fun (k3 : Int32 → SS → Res) => ∀ (v1 : Int32) (s2 : SS), RC l wF RX12 cX12_tells 6 (some .int) 3 66 [.ref 56, .null, .int a2, .int a3, .int v1, .null] [] s2 (k3 v1 s2)) (fun v1 s2 => ?_) (fun k3 hk3 => ?_)
  · refine r_aload_n (pc1 := 67) (i := 0) dX12_tells_66 rfl rfl rfl ?_
    refine r_aload_n (pc1 := 68) (i := 0) dX12_tells_67 rfl rfl rfl ?_
    refine r_getR (pc1 := 71) w_56 gfX12_48 rfl dX12_tells_68 rfl ?_
    refine r_iload (pc1 := 73) dX12_tells_71 rfl rfl ?_
    refine r_iald (pc1 := 74) w_66 dX12_tells_73 rfl ?_
    refine r_aload_n (pc1 := 75) (i := 0) dX12_tells_74 rfl rfl rfl ?_
    refine r_getR (pc1 := 78) w_56 gfX12_51 rfl dX12_tells_75 rfl ?_
    refine r_iload (pc1 := 80) dX12_tells_78 rfl rfl ?_
    refine r_iald (pc1 := 81) w_67 dX12_tells_80 rfl ?_
    refine r_callVv (pc1 := 84) (rv_of w_56 cl_12) lkX12_320 (c_X12_works _ _ _) rfl rfl ⟨Nat.le_of_ble_eq_true rfl, Nat.le_of_ble_eq_true rfl⟩ (Nat.le_of_ble_eq_true rfl) dX12_tells_81 rfl (fun v4 s5 => ?_)
    refine r_aload_n (pc1 := 85) (i := 0) dX12_tells_84 rfl rfl rfl ?_
    refine r_getR (pc1 := 88) w_56 gfX12_87 rfl dX12_tells_85 rfl ?_
    refine r_iconst (v := 0) (pc1 := 89) dX12_tells_88 ki_0 rfl ?_
    refine r_zald (pc1 := 90) w_79 dX12_tells_89 rfl ?_
    refine r_jn (hyp := fun (k7 : Int32 → Res) => ∀ (v6 : Int32), RC l wF RX12 cX12_tells 6 (some .int) 3 103 [.ref 56, .null, .int a2, .int a3, .null, .null] [.int v6] s5 (k7 v6)) (fun v6 => ?_) (fun k7 hk7 => ?_)
    · refine r_istore (pc1 := 105) dX12_tells_103 (by decide) rfl rfl rfl ?_
      refine r_iload (pc1 := 107) dX12_tells_105 rfl rfl ?_
      refine r_iload_n (pc1 := 108) (i := 2) dX12_tells_107 rfl rfl rfl ?_
      refine r_icmp_ge (tgt := 115) (pc1 := 111) dX12_tells_108 (by decide) rfl (fun q8 => ?_) (fun q8 => ?_)
      · refine r_iload (pc1 := 117) dX12_tells_115 rfl rfl ?_
        refine r_iload_n (pc1 := 118) (i := 3) dX12_tells_117 rfl rfl rfl ?_
        refine r_icmp_le (tgt := 125) (pc1 := 121) dX12_tells_118 (by decide) rfl (fun q9 => ?_) (fun q9 => ?_)
        · refine r_iload (pc1 := 127) dX12_tells_125 rfl rfl ?_
          exact r_iret rfl rfl dX12_tells_127
        · refine r_iload_n (pc1 := 122) (i := 3) dX12_tells_121 rfl rfl rfl ?_
          refine r_goto (tgt := 127) dX12_tells_122 (by decide) ?_
          exact r_iret rfl rfl dX12_tells_127
      · refine r_iload_n (pc1 := 112) (i := 2) dX12_tells_111 rfl rfl rfl ?_
        refine r_goto (tgt := 127) dX12_tells_112 (by decide) ?_
        exact r_iret rfl rfl dX12_tells_127
    · refine r_if_eq (tgt := 97) (pc1 := 93) dX12_tells_90 (by decide) rfl (fun q10 => ?_) (fun q10 => ?_)
      · refine r_aload_n (pc1 := 98) (i := 0) dX12_tells_97 rfl rfl rfl ?_
        refine r_getR (pc1 := 101) w_56 gfX12_84 rfl dX12_tells_98 rfl ?_
        refine r_iconst (v := 0) (pc1 := 102) dX12_tells_101 ki_0 rfl ?_
        refine r_iald (pc1 := 103) w_78 dX12_tells_102 rfl ?_
        exact r_wk (hk7 (s5 78 (Int32.toNatClampNeg 0))) ⟨Or.inr rfl, Or.inl rfl, Or.inr rfl, Or.inr rfl, Or.inl rfl, Or.inl rfl, trivial⟩
      · refine r_iconst (v := 0) (pc1 := 94) dX12_tells_93 ki_0 rfl ?_
        refine r_goto (tgt := 103) dX12_tells_94 (by decide) ?_
        exact r_wk (hk7 0) ⟨Or.inr rfl, Or.inl rfl, Or.inr rfl, Or.inr rfl, Or.inl rfl, Or.inl rfl, trivial⟩
  · exact r_wk (t_lp_X12_tells_3 a1 a2 a3 k3 hk3 FU 0 s0) ⟨Or.inr rfl, Or.inr rfl, Or.inr rfl, Or.inr rfl, Or.inr rfl, Or.inl rfl, trivial⟩
