theorem dX11_commonDivisor_0 : decode cX11_commonDivisor 0 = .ok (.iload_n 0, 1) := by decide +kernel
theorem dX11_commonDivisor_1 : decode cX11_commonDivisor 1 = .ok (.invokestatic 256, 3) := by decide +kernel
theorem dX11_commonDivisor_4 : decode cX11_commonDivisor 4 = .ok (.istore_n 2, 1) := by decide +kernel
theorem dX11_commonDivisor_5 : decode cX11_commonDivisor 5 = .ok (.iload_n 1, 1) := by decide +kernel
theorem dX11_commonDivisor_6 : decode cX11_commonDivisor 6 = .ok (.invokestatic 256, 3) := by decide +kernel
theorem dX11_commonDivisor_9 : decode cX11_commonDivisor 9 = .ok (.istore_n 3, 1) := by decide +kernel
theorem dX11_commonDivisor_10 : decode cX11_commonDivisor 10 = .ok (.iconst 0, 1) := by decide +kernel
theorem dX11_commonDivisor_11 : decode cX11_commonDivisor 11 = .ok (.istore 4, 2) := by decide +kernel
theorem dX11_commonDivisor_13 : decode cX11_commonDivisor 13 = .ok (.iload 4, 2) := by decide +kernel
theorem dX11_commonDivisor_15 : decode cX11_commonDivisor 15 = .ok (.bipush 100, 2) := by decide +kernel
theorem dX11_commonDivisor_17 : decode cX11_commonDivisor 17 = .ok (.if_icmp .ge 23, 3) := by decide +kernel
theorem dX11_commonDivisor_20 : decode cX11_commonDivisor 20 = .ok (.iload_n 3, 1) := by decide +kernel
theorem dX11_commonDivisor_21 : decode cX11_commonDivisor 21 = .ok (.ifCond .eq 19, 3) := by decide +kernel
theorem dX11_commonDivisor_24 : decode cX11_commonDivisor 24 = .ok (.iload_n 2, 1) := by decide +kernel
theorem dX11_commonDivisor_25 : decode cX11_commonDivisor 25 = .ok (.iload_n 3, 1) := by decide +kernel
theorem dX11_commonDivisor_26 : decode cX11_commonDivisor 26 = .ok (.irem, 1) := by decide +kernel
theorem dX11_commonDivisor_27 : decode cX11_commonDivisor 27 = .ok (.istore 5, 2) := by decide +kernel
theorem dX11_commonDivisor_29 : decode cX11_commonDivisor 29 = .ok (.iload_n 3, 1) := by decide +kernel
theorem dX11_commonDivisor_30 : decode cX11_commonDivisor 30 = .ok (.istore_n 2, 1) := by decide +kernel
theorem dX11_commonDivisor_31 : decode cX11_commonDivisor 31 = .ok (.iload 5, 2) := by decide +kernel
theorem dX11_commonDivisor_33 : decode cX11_commonDivisor 33 = .ok (.istore_n 3, 1) := by decide +kernel
theorem dX11_commonDivisor_34 : decode cX11_commonDivisor 34 = .ok (.iinc 4 1, 3) := by decide +kernel
theorem dX11_commonDivisor_37 : decode cX11_commonDivisor 37 = .ok (.goto (-24), 3) := by decide +kernel
theorem dX11_commonDivisor_40 : decode cX11_commonDivisor 40 = .ok (.iload_n 2, 1) := by decide +kernel
theorem dX11_commonDivisor_41 : decode cX11_commonDivisor 41 = .ok (.ireturn, 1) := by decide +kernel
theorem dX11_reduced_0 : decode cX11_reduced 0 = .ok (.iload_n 1, 1) := by decide +kernel
theorem dX11_reduced_1 : decode cX11_reduced 1 = .ok (.iload_n 2, 1) := by decide +kernel
theorem dX11_reduced_2 : decode cX11_reduced 2 = .ok (.invokestatic 253, 3) := by decide +kernel
theorem dX11_reduced_5 : decode cX11_reduced 5 = .ok (.istore_n 3, 1) := by decide +kernel
theorem dX11_reduced_6 : decode cX11_reduced 6 = .ok (.iload_n 3, 1) := by decide +kernel
theorem dX11_reduced_7 : decode cX11_reduced 7 = .ok (.ifCond .ne 7, 3) := by decide +kernel
theorem dX11_reduced_10 : decode cX11_reduced 10 = .ok (.iload_n 0, 1) := by decide +kernel
theorem dX11_reduced_11 : decode cX11_reduced 11 = .ok (.goto 6, 3) := by decide +kernel
theorem dX11_reduced_14 : decode cX11_reduced 14 = .ok (.iload_n 0, 1) := by decide +kernel
theorem dX11_reduced_15 : decode cX11_reduced 15 = .ok (.iload_n 3, 1) := by decide +kernel
theorem dX11_reduced_16 : decode cX11_reduced 16 = .ok (.idiv, 1) := by decide +kernel
theorem dX11_reduced_17 : decode cX11_reduced 17 = .ok (.ireturn, 1) := by decide +kernel
theorem dX11_mean_0 : decode cX11_mean 0 = .ok (.iload_n 1, 1) := by decide +kernel
theorem dX11_mean_1 : decode cX11_mean 1 = .ok (.bipush 10, 2) := by decide +kernel
theorem dX11_mean_3 : decode cX11_mean 3 = .ok (.if_icmp .lt 13, 3) := by decide +kernel
theorem dX11_mean_6 : decode cX11_mean 6 = .ok (.iload_n 1, 1) := by decide +kernel
theorem dX11_mean_7 : decode cX11_mean 7 = .ok (.bipush 13, 2) := by decide +kernel
theorem dX11_mean_9 : decode cX11_mean 9 = .ok (.if_icmp .gt 7, 3) := by decide +kernel
theorem dX11_mean_12 : decode cX11_mean 12 = .ok (.iconst 1, 1) := by decide +kernel
theorem dX11_mean_13 : decode cX11_mean 13 = .ok (.goto 4, 3) := by decide +kernel
theorem dX11_mean_16 : decode cX11_mean 16 = .ok (.iconst 0, 1) := by decide +kernel
theorem dX11_mean_17 : decode cX11_mean 17 = .ok (.istore_n 2, 1) := by decide +kernel
theorem dX11_mean_18 : decode cX11_mean 18 = .ok (.iload_n 1, 1) := by decide +kernel
theorem dX11_mean_19 : decode cX11_mean 19 = .ok (.bipush 20, 2) := by decide +kernel
theorem dX11_mean_21 : decode cX11_mean 21 = .ok (.if_icmp .lt 13, 3) := by decide +kernel
theorem dX11_mean_24 : decode cX11_mean 24 = .ok (.iload_n 1, 1) := by decide +kernel
theorem dX11_mean_25 : decode cX11_mean 25 = .ok (.bipush 23, 2) := by decide +kernel
theorem dX11_mean_27 : decode cX11_mean 27 = .ok (.if_icmp .gt 7, 3) := by decide +kernel
theorem dX11_mean_30 : decode cX11_mean 30 = .ok (.iconst 1, 1) := by decide +kernel
theorem dX11_mean_31 : decode cX11_mean 31 = .ok (.goto 4, 3) := by decide +kernel
theorem dX11_mean_34 : decode cX11_mean 34 = .ok (.iconst 0, 1) := by decide +kernel
theorem dX11_mean_35 : decode cX11_mean 35 = .ok (.istore_n 3, 1) := by decide +kernel
theorem dX11_mean_36 : decode cX11_mean 36 = .ok (.iload_n 1, 1) := by decide +kernel
theorem dX11_mean_37 : decode cX11_mean 37 = .ok (.ifCond .eq 19, 3) := by decide +kernel
theorem dX11_mean_40 : decode cX11_mean 40 = .ok (.iload_n 1, 1) := by decide +kernel
theorem dX11_mean_41 : decode cX11_mean 41 = .ok (.iconst 1, 1) := by decide +kernel
theorem dX11_mean_42 : decode cX11_mean 42 = .ok (.if_icmp .eq 14, 3) := by decide +kernel
theorem dX11_mean_45 : decode cX11_mean 45 = .ok (.iload_n 2, 1) := by decide +kernel
theorem dX11_mean_46 : decode cX11_mean 46 = .ok (.ifCond .ne 10, 3) := by decide +kernel
theorem dX11_mean_49 : decode cX11_mean 49 = .ok (.iload_n 3, 1) := by decide +kernel
theorem dX11_mean_50 : decode cX11_mean 50 = .ok (.ifCond .ne 6, 3) := by decide +kernel
theorem dX11_mean_53 : decode cX11_mean 53 = .ok (.ldc 191, 2) := by decide +kernel
theorem dX11_mean_55 : decode cX11_mean 55 = .ok (.ireturn, 1) := by decide +kernel
theorem dX11_mean_56 : decode cX11_mean 56 = .ok (.aload_n 0, 1) := by decide +kernel
theorem dX11_mean_57 : decode cX11_mean 57 = .ok (.getfield 60, 3) := by decide +kernel
theorem dX11_mean_60 : decode cX11_mean 60 = .ok (.aload_n 0, 1) := by decide +kernel
theorem dX11_mean_61 : decode cX11_mean 61 = .ok (.getfield 88, 3) := by decide +kernel
theorem dX11_mean_64 : decode cX11_mean 64 = .ok (.getfield 122, 3) := by decide +kernel
theorem dX11_mean_67 : decode cX11_mean 67 = .ok (.aload_n 0, 1) := by decide +kernel
theorem dX11_mean_68 : decode cX11_mean 68 = .ok (.getfield 88, 3) := by decide +kernel
theorem dX11_mean_71 : decode cX11_mean 71 = .ok (.getfield 139, 3) := by decide +kernel
theorem dX11_mean_74 : decode cX11_mean 74 = .ok (.invokevirtual 238, 3) := by decide +kernel
theorem dX11_mean_77 : decode cX11_mean 77 = .ok (.iload_n 1, 1) := by decide +kernel
theorem dX11_mean_78 : decode cX11_mean 78 = .ok (.ifCond .ne 11, 3) := by decide +kernel
theorem dX11_mean_81 : decode cX11_mean 81 = .ok (.aload_n 0, 1) := by decide +kernel
theorem dX11_mean_82 : decode cX11_mean 82 = .ok (.getfield 60, 3) := by decide +kernel
theorem dX11_mean_85 : decode cX11_mean 85 = .ok (.getfield 242, 3) := by decide +kernel
theorem dX11_mean_88 : decode cX11_mean 88 = .ok (.ireturn, 1) := by decide +kernel
theorem dX11_mean_89 : decode cX11_mean 89 = .ok (.iload_n 1, 1) := by decide +kernel
theorem dX11_mean_90 : decode cX11_mean 90 = .ok (.iconst 1, 1) := by decide +kernel
theorem dX11_mean_91 : decode cX11_mean 91 = .ok (.if_icmp .ne 11, 3) := by decide +kernel
theorem dX11_mean_94 : decode cX11_mean 94 = .ok (.aload_n 0, 1) := by decide +kernel
theorem dX11_mean_95 : decode cX11_mean 95 = .ok (.getfield 60, 3) := by decide +kernel
theorem dX11_mean_98 : decode cX11_mean 98 = .ok (.getfield 245, 3) := by decide +kernel
theorem dX11_mean_101 : decode cX11_mean 101 = .ok (.ireturn, 1) := by decide +kernel
theorem dX11_mean_102 : decode cX11_mean 102 = .ok (.aload_n 0, 1) := by decide +kernel
theorem dX11_mean_103 : decode cX11_mean 103 = .ok (.getfield 60, 3) := by decide +kernel
theorem dX11_mean_106 : decode cX11_mean 106 = .ok (.iload_n 1, 1) := by decide +kernel
theorem dX11_mean_107 : decode cX11_mean 107 = .ok (.bipush 10, 2) := by decide +kernel
theorem dX11_mean_109 : decode cX11_mean 109 = .ok (.irem, 1) := by decide +kernel
theorem dX11_mean_110 : decode cX11_mean 110 = .ok (.invokevirtual 246, 3) := by decide +kernel
theorem dX11_mean_113 : decode cX11_mean 113 = .ok (.istore 4, 2) := by decide +kernel
theorem dX11_mean_115 : decode cX11_mean 115 = .ok (.iload_n 2, 1) := by decide +kernel
theorem dX11_mean_116 : decode cX11_mean 116 = .ok (.ifCond .eq 8, 3) := by decide +kernel
theorem dX11_mean_119 : decode cX11_mean 119 = .ok (.iload 4, 2) := by decide +kernel
theorem dX11_mean_121 : decode cX11_mean 121 = .ok (.goto 10, 3) := by decide +kernel
theorem dX11_mean_124 : decode cX11_mean 124 = .ok (.aload_n 0, 1) := by decide +kernel
theorem dX11_mean_125 : decode cX11_mean 125 = .ok (.getfield 60, 3) := by decide +kernel
theorem dX11_mean_128 : decode cX11_mean 128 = .ok (.getfield 245, 3) := by decide +kernel
theorem dX11_mean_131 : decode cX11_mean 131 = .ok (.iload 4, 2) := by decide +kernel
theorem dX11_mean_133 : decode cX11_mean 133 = .ok (.aload_n 0, 1) := by decide +kernel
theorem dX11_mean_134 : decode cX11_mean 134 = .ok (.getfield 60, 3) := by decide +kernel
theorem dX11_mean_137 : decode cX11_mean 137 = .ok (.getfield 245, 3) := by decide +kernel
theorem dX11_mean_140 : decode cX11_mean 140 = .ok (.invokestatic 249, 3) := by decide +kernel
theorem dX11_mean_143 : decode cX11_mean 143 = .ok (.ireturn, 1) := by decide +kernel
theorem dX2_placeAfterDays_0 : decode cX2_placeAfterDays 0 = .ok (.aload_n 0, 1) := by decide +kernel
theorem dX2_placeAfterDays_1 : decode cX2_placeAfterDays 1 = .ok (.getfield 21, 3) := by decide +kernel
theorem dX2_placeAfterDays_4 : decode cX2_placeAfterDays 4 = .ok (.iconst 1, 1) := by decide +kernel
theorem dX2_placeAfterDays_5 : decode cX2_placeAfterDays 5 = .ok (.if_icmp .ge 7, 3) := by decide +kernel
theorem dX2_placeAfterDays_8 : decode cX2_placeAfterDays 8 = .ok (.iconst 0, 1) := by decide +kernel
theorem dX2_placeAfterDays_9 : decode cX2_placeAfterDays 9 = .ok (.goto 11, 3) := by decide +kernel
theorem dX2_placeAfterDays_12 : decode cX2_placeAfterDays 12 = .ok (.iload_n 1, 1) := by decide +kernel
theorem dX2_placeAfterDays_13 : decode cX2_placeAfterDays 13 = .ok (.iload_n 2, 1) := by decide +kernel
theorem dX2_placeAfterDays_14 : decode cX2_placeAfterDays 14 = .ok (.iadd, 1) := by decide +kernel
theorem dX2_placeAfterDays_15 : decode cX2_placeAfterDays 15 = .ok (.aload_n 0, 1) := by decide +kernel
theorem dX2_placeAfterDays_16 : decode cX2_placeAfterDays 16 = .ok (.getfield 21, 3) := by decide +kernel
theorem dX2_placeAfterDays_19 : decode cX2_placeAfterDays 19 = .ok (.irem, 1) := by decide +kernel
theorem dX2_placeAfterDays_20 : decode cX2_placeAfterDays 20 = .ok (.ireturn, 1) := by decide +kernel
theorem dJ7_rangeCheck_23922_0 : decode cJ7_rangeCheck_23922 0 = .ok (.iload_n 1, 1) := by decide +kernel
theorem dJ7_rangeCheck_23922_1 : decode cJ7_rangeCheck_23922 1 = .ok (.iload_n 2, 1) := by decide +kernel
theorem dJ7_rangeCheck_23922_2 : decode cJ7_rangeCheck_23922 2 = .ok (.if_icmp .le 44, 3) := by decide +kernel
theorem dJ7_rangeCheck_23922_5 : decode cJ7_rangeCheck_23922 5 = .ok (.new 43, 3) := by decide +kernel
theorem dJ7_rangeCheck_23922_8 : decode cJ7_rangeCheck_23922 8 = .ok (.dup, 1) := by decide +kernel
theorem dJ7_rangeCheck_23922_9 : decode cJ7_rangeCheck_23922 9 = .ok (.new 45, 3) := by decide +kernel
theorem dJ7_rangeCheck_23922_12 : decode cJ7_rangeCheck_23922 12 = .ok (.dup, 1) := by decide +kernel
theorem dJ7_rangeCheck_23922_13 : decode cJ7_rangeCheck_23922 13 = .ok (.invokespecial 47, 3) := by decide +kernel
theorem dJ7_rangeCheck_23922_16 : decode cJ7_rangeCheck_23922 16 = .ok (.ldc 48, 2) := by decide +kernel
theorem dJ7_rangeCheck_23922_18 : decode cJ7_rangeCheck_23922 18 = .ok (.invokevirtual 50, 3) := by decide +kernel
theorem dJ7_rangeCheck_23922_21 : decode cJ7_rangeCheck_23922 21 = .ok (.iload_n 1, 1) := by decide +kernel
theorem dJ7_rangeCheck_23922_22 : decode cJ7_rangeCheck_23922 22 = .ok (.invokevirtual 54, 3) := by decide +kernel
theorem dJ7_rangeCheck_23922_25 : decode cJ7_rangeCheck_23922 25 = .ok (.ldc 57, 2) := by decide +kernel
theorem dJ7_rangeCheck_23922_27 : decode cJ7_rangeCheck_23922 27 = .ok (.invokevirtual 50, 3) := by decide +kernel
theorem dJ7_rangeCheck_23922_30 : decode cJ7_rangeCheck_23922 30 = .ok (.iload_n 2, 1) := by decide +kernel
theorem dJ7_rangeCheck_23922_31 : decode cJ7_rangeCheck_23922 31 = .ok (.invokevirtual 54, 3) := by decide +kernel
theorem dJ7_rangeCheck_23922_34 : decode cJ7_rangeCheck_23922 34 = .ok (.ldc 59, 2) := by decide +kernel
theorem dJ7_rangeCheck_23922_36 : decode cJ7_rangeCheck_23922 36 = .ok (.invokevirtual 50, 3) := by decide +kernel
theorem dJ7_rangeCheck_23922_39 : decode cJ7_rangeCheck_23922 39 = .ok (.invokevirtual 61, 3) := by decide +kernel
theorem dJ7_rangeCheck_23922_42 : decode cJ7_rangeCheck_23922 42 = .ok (.invokespecial 65, 3) := by decide +kernel
theorem dJ7_rangeCheck_23922_45 : decode cJ7_rangeCheck_23922 45 = .ok (.athrow, 1) := by decide +kernel
theorem dJ7_rangeCheck_23922_46 : decode cJ7_rangeCheck_23922 46 = .ok (.iload_n 1, 1) := by decide +kernel
theorem dJ7_rangeCheck_23922_47 : decode cJ7_rangeCheck_23922 47 = .ok (.ifCond .ge 12, 3) := by decide +kernel
theorem dJ7_rangeCheck_23922_50 : decode cJ7_rangeCheck_23922 50 = .ok (.new 68, 3) := by decide +kernel
theorem dJ7_rangeCheck_23922_53 : decode cJ7_rangeCheck_23922 53 = .ok (.dup, 1) := by decide +kernel
theorem dJ7_rangeCheck_23922_54 : decode cJ7_rangeCheck_23922 54 = .ok (.iload_n 1, 1) := by decide +kernel
theorem dJ7_rangeCheck_23922_55 : decode cJ7_rangeCheck_23922 55 = .ok (.invokespecial 70, 3) := by decide +kernel
theorem dJ7_rangeCheck_23922_58 : decode cJ7_rangeCheck_23922 58 = .ok (.athrow, 1) := by decide +kernel
theorem dJ7_rangeCheck_23922_59 : decode cJ7_rangeCheck_23922 59 = .ok (.iload_n 2, 1) := by decide +kernel
theorem dJ7_rangeCheck_23922_60 : decode cJ7_rangeCheck_23922 60 = .ok (.iload_n 0, 1) := by decide +kernel
theorem dJ7_rangeCheck_23922_61 : decode cJ7_rangeCheck_23922 61 = .ok (.if_icmp .le 12, 3) := by decide +kernel
theorem dJ7_rangeCheck_23922_64 : decode cJ7_rangeCheck_23922 64 = .ok (.new 68, 3) := by decide +kernel
theorem dJ7_rangeCheck_23922_67 : decode cJ7_rangeCheck_23922 67 = .ok (.dup, 1) := by decide +kernel
theorem dJ7_rangeCheck_23922_68 : decode cJ7_rangeCheck_23922 68 = .ok (.iload_n 2, 1) := by decide +kernel
theorem dJ7_rangeCheck_23922_69 : decode cJ7_rangeCheck_23922 69 = .ok (.invokespecial 70, 3) := by decide +kernel
theorem dJ7_rangeCheck_23922_72 : decode cJ7_rangeCheck_23922 72 = .ok (.athrow, 1) := by decide +kernel
theorem dJ7_rangeCheck_23922_73 : decode cJ7_rangeCheck_23922 73 = .ok (.return_, 1) := by decide +kernel
theorem dJ7_fill_bad5a_0 : decode cJ7_fill_bad5a 0 = .ok (.aload_n 0, 1) := by decide +kernel
theorem dJ7_fill_bad5a_1 : decode cJ7_fill_bad5a 1 = .ok (.arraylength, 1) := by decide +kernel
theorem dJ7_fill_bad5a_2 : decode cJ7_fill_bad5a 2 = .ok (.iload_n 1, 1) := by decide +kernel
theorem dJ7_fill_bad5a_3 : decode cJ7_fill_bad5a 3 = .ok (.iload_n 2, 1) := by decide +kernel
theorem dJ7_fill_bad5a_4 : decode cJ7_fill_bad5a 4 = .ok (.invokestatic 13, 3) := by decide +kernel
theorem dJ7_fill_bad5a_7 : decode cJ7_fill_bad5a 7 = .ok (.iload_n 1, 1) := by decide +kernel
theorem dJ7_fill_bad5a_8 : decode cJ7_fill_bad5a 8 = .ok (.istore 5, 2) := by decide +kernel
theorem dJ7_fill_bad5a_10 : decode cJ7_fill_bad5a 10 = .ok (.iload 5, 2) := by decide +kernel
theorem dJ7_fill_bad5a_12 : decode cJ7_fill_bad5a 12 = .ok (.iload_n 2, 1) := by decide +kernel
theorem dJ7_fill_bad5a_13 : decode cJ7_fill_bad5a 13 = .ok (.if_icmp .ge 14, 3) := by decide +kernel
theorem dJ7_fill_bad5a_16 : decode cJ7_fill_bad5a 16 = .ok (.aload_n 0, 1) := by decide +kernel
theorem dJ7_fill_bad5a_17 : decode cJ7_fill_bad5a 17 = .ok (.iload 5, 2) := by decide +kernel
theorem dJ7_fill_bad5a_19 : decode cJ7_fill_bad5a 19 = .ok (.lload_n 3, 1) := by decide +kernel
theorem dJ7_fill_bad5a_20 : decode cJ7_fill_bad5a 20 = .ok (.lastore, 1) := by decide +kernel
theorem dJ7_fill_bad5a_21 : decode cJ7_fill_bad5a 21 = .ok (.iinc 5 1, 3) := by decide +kernel
theorem dJ7_fill_bad5a_24 : decode cJ7_fill_bad5a 24 = .ok (.goto (-14), 3) := by decide +kernel
theorem dJ7_fill_bad5a_27 : decode cJ7_fill_bad5a 27 = .ok (.return_, 1) := by decide +kernel
theorem dX3_recall_0 : decode cX3_recall 0 = .ok (.aload_n 0, 1) := by decide +kernel
theorem dX3_recall_1 : decode cX3_recall 1 = .ok (.getfield 28, 3) := by decide +kernel
theorem dX3_recall_4 : decode cX3_recall 4 = .ok (.iload 4, 2) := by decide +kernel
theorem dX3_recall_6 : decode cX3_recall 6 = .ok (.if_icmp .ne 15, 3) := by decide +kernel
theorem dX3_recall_9 : decode cX3_recall 9 = .ok (.aload_n 0, 1) := by decide +kernel
theorem dX3_recall_10 : decode cX3_recall 10 = .ok (.getfield 90, 3) := by decide +kernel
theorem dX3_recall_13 : decode cX3_recall 13 = .ok (.iload_n 1, 1) := by decide +kernel
theorem dX3_recall_14 : decode cX3_recall 14 = .ok (.if_icmp .ne 7, 3) := by decide +kernel
theorem dX3_recall_17 : decode cX3_recall 17 = .ok (.iconst 1, 1) := by decide +kernel
theorem dX3_recall_18 : decode cX3_recall 18 = .ok (.goto 4, 3) := by decide +kernel
theorem dX3_recall_21 : decode cX3_recall 21 = .ok (.iconst 0, 1) := by decide +kernel
theorem dX3_recall_22 : decode cX3_recall 22 = .ok (.istore 5, 2) := by decide +kernel
theorem dX3_recall_24 : decode cX3_recall 24 = .ok (.iload 5, 2) := by decide +kernel
theorem dX3_recall_26 : decode cX3_recall 26 = .ok (.ifCond .eq 20, 3) := by decide +kernel
theorem dX3_recall_29 : decode cX3_recall 29 = .ok (.aload_n 0, 1) := by decide +kernel
theorem dX3_recall_30 : decode cX3_recall 30 = .ok (.getfield 93, 3) := by decide +kernel
theorem dX3_recall_33 : decode cX3_recall 33 = .ok (.iload_n 2, 1) := by decide +kernel
theorem dX3_recall_34 : decode cX3_recall 34 = .ok (.if_icmp .ne 12, 3) := by decide +kernel
theorem dX3_recall_37 : decode cX3_recall 37 = .ok (.aload_n 0, 1) := by decide +kernel
theorem dX3_recall_38 : decode cX3_recall 38 = .ok (.getfield 96, 3) := by decide +kernel
theorem dX3_recall_41 : decode cX3_recall 41 = .ok (.iload_n 3, 1) := by decide +kernel
theorem dX3_recall_42 : decode cX3_recall 42 = .ok (.if_icmp .ne 4, 3) := by decide +kernel
theorem dX3_recall_45 : decode cX3_recall 45 = .ok (.return_, 1) := by decide +kernel
theorem dX3_recall_46 : decode cX3_recall 46 = .ok (.aload_n 0, 1) := by decide +kernel
theorem dX3_recall_47 : decode cX3_recall 47 = .ok (.iload 4, 2) := by decide +kernel
theorem dX3_recall_49 : decode cX3_recall 49 = .ok (.putfield 28, 3) := by decide +kernel
theorem dX3_recall_52 : decode cX3_recall 52 = .ok (.aload_n 0, 1) := by decide +kernel
theorem dX3_recall_53 : decode cX3_recall 53 = .ok (.iload_n 1, 1) := by decide +kernel
theorem dX3_recall_54 : decode cX3_recall 54 = .ok (.putfield 90, 3) := by decide +kernel
theorem dX3_recall_57 : decode cX3_recall 57 = .ok (.aload_n 0, 1) := by decide +kernel
theorem dX3_recall_58 : decode cX3_recall 58 = .ok (.iload_n 2, 1) := by decide +kernel
theorem dX3_recall_59 : decode cX3_recall 59 = .ok (.putfield 93, 3) := by decide +kernel
theorem dX3_recall_62 : decode cX3_recall 62 = .ok (.aload_n 0, 1) := by decide +kernel
theorem dX3_recall_63 : decode cX3_recall 63 = .ok (.iload_n 3, 1) := by decide +kernel
theorem dX3_recall_64 : decode cX3_recall 64 = .ok (.putfield 96, 3) := by decide +kernel
theorem dX3_recall_67 : decode cX3_recall 67 = .ok (.aload_n 0, 1) := by decide +kernel
theorem dX3_recall_68 : decode cX3_recall 68 = .ok (.getfield 11, 3) := by decide +kernel
theorem dX3_recall_71 : decode cX3_recall 71 = .ok (.iload_n 1, 1) := by decide +kernel
theorem dX3_recall_72 : decode cX3_recall 72 = .ok (.invokestatic 99, 3) := by decide +kernel
theorem dX3_recall_75 : decode cX3_recall 75 = .ok (.iload_n 1, 1) := by decide +kernel
theorem dX3_recall_76 : decode cX3_recall 76 = .ok (.iconst 1, 1) := by decide +kernel
theorem dX3_recall_77 : decode cX3_recall 77 = .ok (.iadd, 1) := by decide +kernel
theorem dX3_recall_78 : decode cX3_recall 78 = .ok (.invokestatic 99, 3) := by decide +kernel
theorem dX3_recall_81 : decode cX3_recall 81 = .ok (.lconst 0, 1) := by decide +kernel
theorem dX3_recall_82 : decode cX3_recall 82 = .ok (.invokestatic 102, 3) := by decide +kernel
theorem dX3_recall_85 : decode cX3_recall 85 = .ok (.return_, 1) := by decide +kernel
theorem dX3_totalOf_0 : decode cX3_totalOf 0 = .ok (.iload_n 1, 1) := by decide +kernel
theorem dX3_totalOf_1 : decode cX3_totalOf 1 = .ok (.bipush 8, 2) := by decide +kernel
theorem dX3_totalOf_3 : decode cX3_totalOf 3 = .ok (.imul, 1) := by decide +kernel
theorem dX3_totalOf_4 : decode cX3_totalOf 4 = .ok (.iload_n 2, 1) := by decide +kernel
theorem dX3_totalOf_5 : decode cX3_totalOf 5 = .ok (.iadd, 1) := by decide +kernel
theorem dX3_totalOf_6 : decode cX3_totalOf 6 = .ok (.istore 4, 2) := by decide +kernel
theorem dX3_totalOf_8 : decode cX3_totalOf 8 = .ok (.iload_n 2, 1) := by decide +kernel
theorem dX3_totalOf_9 : decode cX3_totalOf 9 = .ok (.ifCond .lt 18, 3) := by decide +kernel
theorem dX3_totalOf_12 : decode cX3_totalOf 12 = .ok (.iload 4, 2) := by decide +kernel
theorem dX3_totalOf_14 : decode cX3_totalOf 14 = .ok (.ifCond .lt 13, 3) := by decide +kernel
theorem dX3_totalOf_17 : decode cX3_totalOf 17 = .ok (.iload 4, 2) := by decide +kernel
theorem dX3_totalOf_19 : decode cX3_totalOf 19 = .ok (.aload_n 0, 1) := by decide +kernel
theorem dX3_totalOf_20 : decode cX3_totalOf 20 = .ok (.getfield 18, 3) := by decide +kernel
theorem dX3_totalOf_23 : decode cX3_totalOf 23 = .ok (.arraylength, 1) := by decide +kernel
theorem dX3_totalOf_24 : decode cX3_totalOf 24 = .ok (.if_icmp .lt 5, 3) := by decide +kernel
theorem dX3_totalOf_27 : decode cX3_totalOf 27 = .ok (.iconst 0, 1) := by decide +kernel
theorem dX3_totalOf_28 : decode cX3_totalOf 28 = .ok (.ireturn, 1) := by decide +kernel
theorem dX3_totalOf_29 : decode cX3_totalOf 29 = .ok (.aload_n 0, 1) := by decide +kernel
theorem dX3_totalOf_30 : decode cX3_totalOf 30 = .ok (.getfield 18, 3) := by decide +kernel
theorem dX3_totalOf_33 : decode cX3_totalOf 33 = .ok (.iload 4, 2) := by decide +kernel
theorem dX3_totalOf_35 : decode cX3_totalOf 35 = .ok (.laload, 1) := by decide +kernel
theorem dX3_totalOf_36 : decode cX3_totalOf 36 = .ok (.iload_n 3, 1) := by decide +kernel
theorem dX3_totalOf_37 : decode cX3_totalOf 37 = .ok (.bipush 16, 2) := by decide +kernel
theorem dX3_totalOf_39 : decode cX3_totalOf 39 = .ok (.invokestatic 108, 3) := by decide +kernel
theorem dX3_totalOf_42 : decode cX3_totalOf 42 = .ok (.sipush 10000, 3) := by decide +kernel
theorem dX3_totalOf_45 : decode cX3_totalOf 45 = .ok (.isub, 1) := by decide +kernel
theorem dX3_totalOf_46 : decode cX3_totalOf 46 = .ok (.ireturn, 1) := by decide +kernel
theorem dX3_pickOn_0 : decode cX3_pickOn 0 = .ok (.aload_n 0, 1) := by decide +kernel
theorem dX3_pickOn_1 : decode cX3_pickOn 1 = .ok (.getfield 40, 3) := by decide +kernel
theorem dX3_pickOn_4 : decode cX3_pickOn 4 = .ok (.iload_n 2, 1) := by decide +kernel
theorem dX3_pickOn_5 : decode cX3_pickOn 5 = .ok (.invokevirtual 121, 3) := by decide +kernel
theorem dX3_pickOn_8 : decode cX3_pickOn 8 = .ok (.istore 4, 2) := by decide +kernel
theorem dX3_pickOn_10 : decode cX3_pickOn 10 = .ok (.iload 4, 2) := by decide +kernel
theorem dX3_pickOn_12 : decode cX3_pickOn 12 = .ok (.invokestatic 44, 3) := by decide +kernel
theorem dX3_pickOn_15 : decode cX3_pickOn 15 = .ok (.ifCond .eq 15, 3) := by decide +kernel
theorem dX3_pickOn_18 : decode cX3_pickOn 18 = .ok (.aload_n 0, 1) := by decide +kernel
theorem dX3_pickOn_19 : decode cX3_pickOn 19 = .ok (.getfield 96, 3) := by decide +kernel
theorem dX3_pickOn_22 : decode cX3_pickOn 22 = .ok (.iload 4, 2) := by decide +kernel
theorem dX3_pickOn_24 : decode cX3_pickOn 24 = .ok (.ishr, 1) := by decide +kernel
theorem dX3_pickOn_25 : decode cX3_pickOn 25 = .ok (.iconst 1, 1) := by decide +kernel
theorem dX3_pickOn_26 : decode cX3_pickOn 26 = .ok (.iand, 1) := by decide +kernel
theorem dX3_pickOn_27 : decode cX3_pickOn 27 = .ok (.ifCond .ne 14, 3) := by decide +kernel
theorem dX3_pickOn_30 : decode cX3_pickOn 30 = .ok (.aload_n 0, 1) := by decide +kernel
theorem dX3_pickOn_31 : decode cX3_pickOn 31 = .ok (.getfield 40, 3) := by decide +kernel
theorem dX3_pickOn_34 : decode cX3_pickOn 34 = .ok (.iload 4, 2) := by decide +kernel
theorem dX3_pickOn_36 : decode cX3_pickOn 36 = .ok (.iload_n 1, 1) := by decide +kernel
theorem dX3_pickOn_37 : decode cX3_pickOn 37 = .ok (.invokevirtual 124, 3) := by decide +kernel
theorem dX3_pickOn_40 : decode cX3_pickOn 40 = .ok (.ireturn, 1) := by decide +kernel
theorem dX3_pickOn_41 : decode cX3_pickOn 41 = .ok (.aload_n 0, 1) := by decide +kernel
theorem dX3_pickOn_42 : decode cX3_pickOn 42 = .ok (.getfield 40, 3) := by decide +kernel
theorem dX3_pickOn_45 : decode cX3_pickOn 45 = .ok (.iload_n 2, 1) := by decide +kernel
theorem dX3_pickOn_46 : decode cX3_pickOn 46 = .ok (.invokevirtual 77, 3) := by decide +kernel
theorem dX3_pickOn_49 : decode cX3_pickOn 49 = .ok (.istore 5, 2) := by decide +kernel
theorem dX3_pickOn_51 : decode cX3_pickOn 51 = .ok (.aload_n 0, 1) := by decide +kernel
theorem dX3_pickOn_52 : decode cX3_pickOn 52 = .ok (.getfield 36, 3) := by decide +kernel
theorem dX3_pickOn_55 : decode cX3_pickOn 55 = .ok (.iload_n 1, 1) := by decide +kernel
theorem dX3_pickOn_56 : decode cX3_pickOn 56 = .ok (.iload 4, 2) := by decide +kernel
theorem dX3_pickOn_58 : decode cX3_pickOn 58 = .ok (.invokevirtual 127, 3) := by decide +kernel
theorem dX3_pickOn_61 : decode cX3_pickOn 61 = .ok (.istore 6, 2) := by decide +kernel
theorem dX3_pickOn_63 : decode cX3_pickOn 63 = .ok (.aload_n 0, 1) := by decide +kernel
theorem dX3_pickOn_64 : decode cX3_pickOn 64 = .ok (.iload_n 1, 1) := by decide +kernel
theorem dX3_pickOn_65 : decode cX3_pickOn 65 = .ok (.iload 5, 2) := by decide +kernel
theorem dX3_pickOn_67 : decode cX3_pickOn 67 = .ok (.iload_n 3, 1) := by decide +kernel
theorem dX3_pickOn_68 : decode cX3_pickOn 68 = .ok (.iconst 1, 1) := by decide +kernel
theorem dX3_pickOn_69 : decode cX3_pickOn 69 = .ok (.isub, 1) := by decide +kernel
theorem dX3_pickOn_70 : decode cX3_pickOn 70 = .ok (.invokevirtual 80, 3) := by decide +kernel
theorem dX3_pickOn_73 : decode cX3_pickOn 73 = .ok (.bipush 8, 2) := by decide +kernel
theorem dX3_pickOn_75 : decode cX3_pickOn 75 = .ok (.istore 7, 2) := by decide +kernel
theorem dX3_pickOn_77 : decode cX3_pickOn 77 = .ok (.aload_n 0, 1) := by decide +kernel
theorem dX3_pickOn_78 : decode cX3_pickOn 78 = .ok (.iload_n 1, 1) := by decide +kernel
theorem dX3_pickOn_79 : decode cX3_pickOn 79 = .ok (.iload_n 3, 1) := by decide +kernel
theorem dX3_pickOn_80 : decode cX3_pickOn 80 = .ok (.iconst 1, 1) := by decide +kernel
theorem dX3_pickOn_81 : decode cX3_pickOn 81 = .ok (.isub, 1) := by decide +kernel
theorem dX3_pickOn_82 : decode cX3_pickOn 82 = .ok (.iload 4, 2) := by decide +kernel
theorem dX3_pickOn_84 : decode cX3_pickOn 84 = .ok (.invokevirtual 84, 3) := by decide +kernel
theorem dX3_pickOn_87 : decode cX3_pickOn 87 = .ok (.istore 8, 2) := by decide +kernel
theorem dX3_pickOn_89 : decode cX3_pickOn 89 = .ok (.iconst 0, 1) := by decide +kernel
theorem dX3_pickOn_90 : decode cX3_pickOn 90 = .ok (.istore 9, 2) := by decide +kernel
theorem dX3_pickOn_92 : decode cX3_pickOn 92 = .ok (.iload 9, 2) := by decide +kernel
theorem dX3_pickOn_94 : decode cX3_pickOn 94 = .ok (.bipush 8, 2) := by decide +kernel
theorem dX3_pickOn_96 : decode cX3_pickOn 96 = .ok (.if_icmp .ge 71, 3) := by decide +kernel
theorem dX3_pickOn_99 : decode cX3_pickOn 99 = .ok (.iload 6, 2) := by decide +kernel
theorem dX3_pickOn_101 : decode cX3_pickOn 101 = .ok (.iload 9, 2) := by decide +kernel
theorem dX3_pickOn_103 : decode cX3_pickOn 103 = .ok (.ishr, 1) := by decide +kernel
theorem dX3_pickOn_104 : decode cX3_pickOn 104 = .ok (.iconst 1, 1) := by decide +kernel
theorem dX3_pickOn_105 : decode cX3_pickOn 105 = .ok (.iand, 1) := by decide +kernel
theorem dX3_pickOn_106 : decode cX3_pickOn 106 = .ok (.iconst 1, 1) := by decide +kernel
theorem dX3_pickOn_107 : decode cX3_pickOn 107 = .ok (.if_icmp .ne 54, 3) := by decide +kernel
theorem dX3_pickOn_110 : decode cX3_pickOn 110 = .ok (.aload_n 0, 1) := by decide +kernel
theorem dX3_pickOn_111 : decode cX3_pickOn 111 = .ok (.getfield 32, 3) := by decide +kernel
theorem dX3_pickOn_114 : decode cX3_pickOn 114 = .ok (.iload_n 1, 1) := by decide +kernel
theorem dX3_pickOn_115 : decode cX3_pickOn 115 = .ok (.iload 9, 2) := by decide +kernel
theorem dX3_pickOn_117 : decode cX3_pickOn 117 = .ok (.invokevirtual 74, 3) := by decide +kernel
theorem dX3_pickOn_120 : decode cX3_pickOn 120 = .ok (.istore 10, 2) := by decide +kernel
theorem dX3_pickOn_122 : decode cX3_pickOn 122 = .ok (.aload_n 0, 1) := by decide +kernel
theorem dX3_pickOn_123 : decode cX3_pickOn 123 = .ok (.iload 10, 2) := by decide +kernel
theorem dX3_pickOn_125 : decode cX3_pickOn 125 = .ok (.iload 5, 2) := by decide +kernel
theorem dX3_pickOn_127 : decode cX3_pickOn 127 = .ok (.iload_n 3, 1) := by decide +kernel
theorem dX3_pickOn_128 : decode cX3_pickOn 128 = .ok (.iconst 1, 1) := by decide +kernel
theorem dX3_pickOn_129 : decode cX3_pickOn 129 = .ok (.isub, 1) := by decide +kernel
theorem dX3_pickOn_130 : decode cX3_pickOn 130 = .ok (.invokevirtual 80, 3) := by decide +kernel
theorem dX3_pickOn_133 : decode cX3_pickOn 133 = .ok (.aload_n 0, 1) := by decide +kernel
theorem dX3_pickOn_134 : decode cX3_pickOn 134 = .ok (.iload 10, 2) := by decide +kernel
theorem dX3_pickOn_136 : decode cX3_pickOn 136 = .ok (.iload_n 3, 1) := by decide +kernel
theorem dX3_pickOn_137 : decode cX3_pickOn 137 = .ok (.iconst 1, 1) := by decide +kernel
theorem dX3_pickOn_138 : decode cX3_pickOn 138 = .ok (.isub, 1) := by decide +kernel
theorem dX3_pickOn_139 : decode cX3_pickOn 139 = .ok (.iload 4, 2) := by decide +kernel
theorem dX3_pickOn_141 : decode cX3_pickOn 141 = .ok (.invokevirtual 84, 3) := by decide +kernel
theorem dX3_pickOn_144 : decode cX3_pickOn 144 = .ok (.istore 11, 2) := by decide +kernel
theorem dX3_pickOn_146 : decode cX3_pickOn 146 = .ok (.iload 11, 2) := by decide +kernel
theorem dX3_pickOn_148 : decode cX3_pickOn 148 = .ok (.iload 8, 2) := by decide +kernel
theorem dX3_pickOn_150 : decode cX3_pickOn 150 = .ok (.if_icmp .le 11, 3) := by decide +kernel
theorem dX3_pickOn_153 : decode cX3_pickOn 153 = .ok (.iload 9, 2) := by decide +kernel
theorem dX3_pickOn_155 : decode cX3_pickOn 155 = .ok (.istore 7, 2) := by decide +kernel
theorem dX3_pickOn_157 : decode cX3_pickOn 157 = .ok (.iload 11, 2) := by decide +kernel
theorem dX3_pickOn_159 : decode cX3_pickOn 159 = .ok (.istore 8, 2) := by decide +kernel
theorem dX3_pickOn_161 : decode cX3_pickOn 161 = .ok (.iinc 9 1, 3) := by decide +kernel
theorem dX3_pickOn_164 : decode cX3_pickOn 164 = .ok (.goto (-72), 3) := by decide +kernel
theorem dX3_pickOn_167 : decode cX3_pickOn 167 = .ok (.iload 7, 2) := by decide +kernel
theorem dX3_pickOn_169 : decode cX3_pickOn 169 = .ok (.ireturn, 1) := by decide +kernel
theorem dX3_look_0 : decode cX3_look 0 = .ok (.iload_n 1, 1) := by decide +kernel
theorem dX3_look_1 : decode cX3_look 1 = .ok (.bipush 8, 2) := by decide +kernel
theorem dX3_look_3 : decode cX3_look 3 = .ok (.imul, 1) := by decide +kernel
theorem dX3_look_4 : decode cX3_look 4 = .ok (.iload_n 3, 1) := by decide +kernel
theorem dX3_look_5 : decode cX3_look 5 = .ok (.iadd, 1) := by decide +kernel
theorem dX3_look_6 : decode cX3_look 6 = .ok (.istore 4, 2) := by decide +kernel
theorem dX3_look_8 : decode cX3_look 8 = .ok (.iload_n 3, 1) := by decide +kernel
theorem dX3_look_9 : decode cX3_look 9 = .ok (.ifCond .lt 32, 3) := by decide +kernel
theorem dX3_look_12 : decode cX3_look 12 = .ok (.iload_n 3, 1) := by decide +kernel
theorem dX3_look_13 : decode cX3_look 13 = .ok (.bipush 8, 2) := by decide +kernel
theorem dX3_look_15 : decode cX3_look 15 = .ok (.if_icmp .ge 26, 3) := by decide +kernel
theorem dX3_look_18 : decode cX3_look 18 = .ok (.iload_n 1, 1) := by decide +kernel
theorem dX3_look_19 : decode cX3_look 19 = .ok (.ifCond .lt 22, 3) := by decide +kernel
theorem dX3_look_22 : decode cX3_look 22 = .ok (.iload_n 1, 1) := by decide +kernel
theorem dX3_look_23 : decode cX3_look 23 = .ok (.aload_n 0, 1) := by decide +kernel
theorem dX3_look_24 : decode cX3_look 24 = .ok (.getfield 11, 3) := by decide +kernel
theorem dX3_look_27 : decode cX3_look 27 = .ok (.arraylength, 1) := by decide +kernel
theorem dX3_look_28 : decode cX3_look 28 = .ok (.if_icmp .ge 13, 3) := by decide +kernel
theorem dX3_look_31 : decode cX3_look 31 = .ok (.iload 4, 2) := by decide +kernel
theorem dX3_look_33 : decode cX3_look 33 = .ok (.aload_n 0, 1) := by decide +kernel
theorem dX3_look_34 : decode cX3_look 34 = .ok (.getfield 18, 3) := by decide +kernel
theorem dX3_look_37 : decode cX3_look 37 = .ok (.arraylength, 1) := by decide +kernel
theorem dX3_look_38 : decode cX3_look 38 = .ok (.if_icmp .lt 4, 3) := by decide +kernel
theorem dX3_look_41 : decode cX3_look 41 = .ok (.return_, 1) := by decide +kernel
theorem dX3_look_42 : decode cX3_look 42 = .ok (.aload_n 0, 1) := by decide +kernel
theorem dX3_look_43 : decode cX3_look 43 = .ok (.getfield 11, 3) := by decide +kernel
theorem dX3_look_46 : decode cX3_look 46 = .ok (.iload_n 1, 1) := by decide +kernel
theorem dX3_look_47 : decode cX3_look 47 = .ok (.laload, 1) := by decide +kernel
theorem dX3_look_48 : decode cX3_look 48 = .ok (.iload_n 3, 1) := by decide +kernel
theorem dX3_look_49 : decode cX3_look 49 = .ok (.iconst 4, 1) := by decide +kernel
theorem dX3_look_50 : decode cX3_look 50 = .ok (.invokestatic 108, 3) := by decide +kernel
theorem dX3_look_53 : decode cX3_look 53 = .ok (.ifCond .eq 4, 3) := by decide +kernel
theorem dX3_look_56 : decode cX3_look 56 = .ok (.return_, 1) := by decide +kernel
theorem dX3_look_57 : decode cX3_look 57 = .ok (.iload_n 3, 1) := by decide +kernel
theorem dX3_look_58 : decode cX3_look 58 = .ok (.ifCond .ne 8, 3) := by decide +kernel
theorem dX3_look_61 : decode cX3_look 61 = .ok (.bipush 8, 2) := by decide +kernel
theorem dX3_look_63 : decode cX3_look 63 = .ok (.goto 10, 3) := by decide +kernel
theorem dX3_look_66 : decode cX3_look 66 = .ok (.aload_n 0, 1) := by decide +kernel
theorem dX3_look_67 : decode cX3_look 67 = .ok (.iload_n 1, 1) := by decide +kernel
theorem dX3_look_68 : decode cX3_look 68 = .ok (.iload_n 2, 1) := by decide +kernel
theorem dX3_look_69 : decode cX3_look 69 = .ok (.iload_n 3, 1) := by decide +kernel
theorem dX3_look_70 : decode cX3_look 70 = .ok (.invokevirtual 70, 3) := by decide +kernel
theorem dX3_look_73 : decode cX3_look 73 = .ok (.istore 5, 2) := by decide +kernel
theorem dX3_look_75 : decode cX3_look 75 = .ok (.aload_n 0, 1) := by decide +kernel
theorem dX3_look_76 : decode cX3_look 76 = .ok (.getfield 32, 3) := by decide +kernel
theorem dX3_look_79 : decode cX3_look 79 = .ok (.iload_n 1, 1) := by decide +kernel
theorem dX3_look_80 : decode cX3_look 80 = .ok (.iload 5, 2) := by decide +kernel
theorem dX3_look_82 : decode cX3_look 82 = .ok (.invokevirtual 74, 3) := by decide +kernel
theorem dX3_look_85 : decode cX3_look 85 = .ok (.istore 6, 2) := by decide +kernel
theorem dX3_look_87 : decode cX3_look 87 = .ok (.aload_n 0, 1) := by decide +kernel
theorem dX3_look_88 : decode cX3_look 88 = .ok (.iload 6, 2) := by decide +kernel
theorem dX3_look_90 : decode cX3_look 90 = .ok (.aload_n 0, 1) := by decide +kernel
theorem dX3_look_91 : decode cX3_look 91 = .ok (.getfield 40, 3) := by decide +kernel
theorem dX3_look_94 : decode cX3_look 94 = .ok (.iload_n 2, 1) := by decide +kernel
theorem dX3_look_95 : decode cX3_look 95 = .ok (.invokevirtual 77, 3) := by decide +kernel
theorem dX3_look_98 : decode cX3_look 98 = .ok (.iload_n 3, 1) := by decide +kernel
theorem dX3_look_99 : decode cX3_look 99 = .ok (.iconst 1, 1) := by decide +kernel
theorem dX3_look_100 : decode cX3_look 100 = .ok (.isub, 1) := by decide +kernel
theorem dX3_look_101 : decode cX3_look 101 = .ok (.invokevirtual 80, 3) := by decide +kernel
theorem dX3_look_104 : decode cX3_look 104 = .ok (.lconst 0, 1) := by decide +kernel
theorem dX3_look_105 : decode cX3_look 105 = .ok (.lstore 7, 2) := by decide +kernel
theorem dX3_look_107 : decode cX3_look 107 = .ok (.iconst 0, 1) := by decide +kernel
theorem dX3_look_108 : decode cX3_look 108 = .ok (.istore 9, 2) := by decide +kernel
theorem dX3_look_110 : decode cX3_look 110 = .ok (.iload 9, 2) := by decide +kernel
theorem dX3_look_112 : decode cX3_look 112 = .ok (.iconst 4, 1) := by decide +kernel
theorem dX3_look_113 : decode cX3_look 113 = .ok (.if_icmp .ge 50, 3) := by decide +kernel
theorem dX3_look_116 : decode cX3_look 116 = .ok (.aload_n 0, 1) := by decide +kernel
theorem dX3_look_117 : decode cX3_look 117 = .ok (.getfield 36, 3) := by decide +kernel
theorem dX3_look_120 : decode cX3_look 120 = .ok (.iload_n 1, 1) := by decide +kernel
theorem dX3_look_121 : decode cX3_look 121 = .ok (.iload 9, 2) := by decide +kernel
theorem dX3_look_123 : decode cX3_look 123 = .ok (.invokevirtual 112, 3) := by decide +kernel
theorem dX3_look_126 : decode cX3_look 126 = .ok (.aload_n 0, 1) := by decide +kernel
theorem dX3_look_127 : decode cX3_look 127 = .ok (.iload 6, 2) := by decide +kernel
theorem dX3_look_129 : decode cX3_look 129 = .ok (.iload_n 3, 1) := by decide +kernel
theorem dX3_look_130 : decode cX3_look 130 = .ok (.iconst 1, 1) := by decide +kernel
theorem dX3_look_131 : decode cX3_look 131 = .ok (.isub, 1) := by decide +kernel
theorem dX3_look_132 : decode cX3_look 132 = .ok (.iload 9, 2) := by decide +kernel
theorem dX3_look_134 : decode cX3_look 134 = .ok (.invokevirtual 84, 3) := by decide +kernel
theorem dX3_look_137 : decode cX3_look 137 = .ok (.iadd, 1) := by decide +kernel
theorem dX3_look_138 : decode cX3_look 138 = .ok (.istore 10, 2) := by decide +kernel
theorem dX3_look_140 : decode cX3_look 140 = .ok (.lload 7, 2) := by decide +kernel
theorem dX3_look_142 : decode cX3_look 142 = .ok (.iload 9, 2) := by decide +kernel
theorem dX3_look_144 : decode cX3_look 144 = .ok (.bipush 16, 2) := by decide +kernel
theorem dX3_look_146 : decode cX3_look 146 = .ok (.iload 10, 2) := by decide +kernel
theorem dX3_look_148 : decode cX3_look 148 = .ok (.sipush 10000, 3) := by decide +kernel
theorem dX3_look_151 : decode cX3_look 151 = .ok (.iadd, 1) := by decide +kernel
theorem dX3_look_152 : decode cX3_look 152 = .ok (.invokestatic 117, 3) := by decide +kernel
theorem dX3_look_155 : decode cX3_look 155 = .ok (.lstore 7, 2) := by decide +kernel
theorem dX3_look_157 : decode cX3_look 157 = .ok (.iinc 9 1, 3) := by decide +kernel
theorem dX3_look_160 : decode cX3_look 160 = .ok (.goto (-50), 3) := by decide +kernel
theorem dX3_look_163 : decode cX3_look 163 = .ok (.aload_n 0, 1) := by decide +kernel
theorem dX3_look_164 : decode cX3_look 164 = .ok (.getfield 18, 3) := by decide +kernel
theorem dX3_look_167 : decode cX3_look 167 = .ok (.iload 4, 2) := by decide +kernel
theorem dX3_look_169 : decode cX3_look 169 = .ok (.lload 7, 2) := by decide +kernel
theorem dX3_look_171 : decode cX3_look 171 = .ok (.lastore, 1) := by decide +kernel
theorem dX3_look_172 : decode cX3_look 172 = .ok (.aload_n 0, 1) := by decide +kernel
theorem dX3_look_173 : decode cX3_look 173 = .ok (.getfield 11, 3) := by decide +kernel
theorem dX3_look_176 : decode cX3_look 176 = .ok (.iload_n 1, 1) := by decide +kernel
theorem dX3_look_177 : decode cX3_look 177 = .ok (.aload_n 0, 1) := by decide +kernel
theorem dX3_look_178 : decode cX3_look 178 = .ok (.getfield 11, 3) := by decide +kernel
theorem dX3_look_181 : decode cX3_look 181 = .ok (.iload_n 1, 1) := by decide +kernel
theorem dX3_look_182 : decode cX3_look 182 = .ok (.laload, 1) := by decide +kernel
theorem dX3_look_183 : decode cX3_look 183 = .ok (.iload_n 3, 1) := by decide +kernel
theorem dX3_look_184 : decode cX3_look 184 = .ok (.iconst 4, 1) := by decide +kernel
theorem dX3_look_185 : decode cX3_look 185 = .ok (.iload 5, 2) := by decide +kernel
theorem dX3_look_187 : decode cX3_look 187 = .ok (.iconst 1, 1) := by decide +kernel
theorem dX3_look_188 : decode cX3_look 188 = .ok (.iadd, 1) := by decide +kernel
theorem dX3_look_189 : decode cX3_look 189 = .ok (.invokestatic 117, 3) := by decide +kernel
theorem dX3_look_192 : decode cX3_look 192 = .ok (.lastore, 1) := by decide +kernel
theorem dX3_look_193 : decode cX3_look 193 = .ok (.return_, 1) := by decide +kernel
theorem dX3_tell_0 : decode cX3_tell 0 = .ok (.aload_n 0, 1) := by decide +kernel
theorem dX3_tell_1 : decode cX3_tell 1 = .ok (.getfield 21, 3) := by decide +kernel
theorem dX3_tell_4 : decode cX3_tell 4 = .ok (.iconst 0, 1) := by decide +kernel
theorem dX3_tell_5 : decode cX3_tell 5 = .ok (.iload_n 1, 1) := by decide +kernel
theorem dX3_tell_6 : decode cX3_tell 6 = .ok (.iastore, 1) := by decide +kernel
theorem dX3_tell_7 : decode cX3_tell 7 = .ok (.iload_n 2, 1) := by decide +kernel
theorem dX3_tell_8 : decode cX3_tell 8 = .ok (.istore 4, 2) := by decide +kernel
theorem dX3_tell_10 : decode cX3_tell 10 = .ok (.iconst 1, 1) := by decide +kernel
theorem dX3_tell_11 : decode cX3_tell 11 = .ok (.istore 5, 2) := by decide +kernel
theorem dX3_tell_13 : decode cX3_tell 13 = .ok (.iload 5, 2) := by decide +kernel
theorem dX3_tell_15 : decode cX3_tell 15 = .ok (.iload_n 3, 1) := by decide +kernel
theorem dX3_tell_16 : decode cX3_tell 16 = .ok (.if_icmp .ge 78, 3) := by decide +kernel
theorem dX3_tell_19 : decode cX3_tell 19 = .ok (.iload 5, 2) := by decide +kernel
theorem dX3_tell_21 : decode cX3_tell 21 = .ok (.bipush 8, 2) := by decide +kernel
theorem dX3_tell_23 : decode cX3_tell 23 = .ok (.if_icmp .ge 71, 3) := by decide +kernel
theorem dX3_tell_26 : decode cX3_tell 26 = .ok (.aload_n 0, 1) := by decide +kernel
theorem dX3_tell_27 : decode cX3_tell 27 = .ok (.getfield 21, 3) := by decide +kernel
theorem dX3_tell_30 : decode cX3_tell 30 = .ok (.iload 5, 2) := by decide +kernel
theorem dX3_tell_32 : decode cX3_tell 32 = .ok (.iload 4, 2) := by decide +kernel
theorem dX3_tell_34 : decode cX3_tell 34 = .ok (.ifCond .lt 13, 3) := by decide +kernel
theorem dX3_tell_37 : decode cX3_tell 37 = .ok (.iload 4, 2) := by decide +kernel
theorem dX3_tell_39 : decode cX3_tell 39 = .ok (.aload_n 0, 1) := by decide +kernel
theorem dX3_tell_40 : decode cX3_tell 40 = .ok (.getfield 11, 3) := by decide +kernel
theorem dX3_tell_43 : decode cX3_tell 43 = .ok (.arraylength, 1) := by decide +kernel
theorem dX3_tell_44 : decode cX3_tell 44 = .ok (.if_icmp .lt 8, 3) := by decide +kernel
theorem dX3_tell_47 : decode cX3_tell 47 = .ok (.bipush 8, 2) := by decide +kernel
theorem dX3_tell_49 : decode cX3_tell 49 = .ok (.goto 20, 3) := by decide +kernel
theorem dX3_tell_52 : decode cX3_tell 52 = .ok (.aload_n 0, 1) := by decide +kernel
theorem dX3_tell_53 : decode cX3_tell 53 = .ok (.getfield 11, 3) := by decide +kernel
theorem dX3_tell_56 : decode cX3_tell 56 = .ok (.iload 4, 2) := by decide +kernel
theorem dX3_tell_58 : decode cX3_tell 58 = .ok (.laload, 1) := by decide +kernel
theorem dX3_tell_59 : decode cX3_tell 59 = .ok (.iload_n 3, 1) := by decide +kernel
theorem dX3_tell_60 : decode cX3_tell 60 = .ok (.iload 5, 2) := by decide +kernel
theorem dX3_tell_62 : decode cX3_tell 62 = .ok (.isub, 1) := by decide +kernel
theorem dX3_tell_63 : decode cX3_tell 63 = .ok (.iconst 4, 1) := by decide +kernel
theorem dX3_tell_64 : decode cX3_tell 64 = .ok (.invokestatic 108, 3) := by decide +kernel
theorem dX3_tell_67 : decode cX3_tell 67 = .ok (.iconst 1, 1) := by decide +kernel
theorem dX3_tell_68 : decode cX3_tell 68 = .ok (.isub, 1) := by decide +kernel
theorem dX3_tell_69 : decode cX3_tell 69 = .ok (.iastore, 1) := by decide +kernel
theorem dX3_tell_70 : decode cX3_tell 70 = .ok (.aload_n 0, 1) := by decide +kernel
theorem dX3_tell_71 : decode cX3_tell 71 = .ok (.getfield 32, 3) := by decide +kernel
theorem dX3_tell_74 : decode cX3_tell 74 = .ok (.iload 4, 2) := by decide +kernel
theorem dX3_tell_76 : decode cX3_tell 76 = .ok (.aload_n 0, 1) := by decide +kernel
theorem dX3_tell_77 : decode cX3_tell 77 = .ok (.getfield 21, 3) := by decide +kernel
theorem dX3_tell_80 : decode cX3_tell 80 = .ok (.iload 5, 2) := by decide +kernel
theorem dX3_tell_82 : decode cX3_tell 82 = .ok (.iaload, 1) := by decide +kernel
theorem dX3_tell_83 : decode cX3_tell 83 = .ok (.invokevirtual 74, 3) := by decide +kernel
theorem dX3_tell_86 : decode cX3_tell 86 = .ok (.istore 4, 2) := by decide +kernel
theorem dX3_tell_88 : decode cX3_tell 88 = .ok (.iinc 5 1, 3) := by decide +kernel
theorem dX3_tell_91 : decode cX3_tell 91 = .ok (.goto (-78), 3) := by decide +kernel
theorem dX3_tell_94 : decode cX3_tell 94 = .ok (.return_, 1) := by decide +kernel
theorem dX3_solve_0 : decode cX3_solve 0 = .ok (.aload_n 0, 1) := by decide +kernel
theorem dX3_solve_1 : decode cX3_solve 1 = .ok (.aload_n 0, 1) := by decide +kernel
theorem dX3_solve_2 : decode cX3_solve 2 = .ok (.getfield 32, 3) := by decide +kernel
theorem dX3_solve_5 : decode cX3_solve 5 = .ok (.aload_n 1, 1) := by decide +kernel
theorem dX3_solve_6 : decode cX3_solve 6 = .ok (.getfield 48, 3) := by decide +kernel
theorem dX3_solve_9 : decode cX3_solve 9 = .ok (.invokevirtual 53, 3) := by decide +kernel
theorem dX3_solve_12 : decode cX3_solve 12 = .ok (.aload_n 0, 1) := by decide +kernel
theorem dX3_solve_13 : decode cX3_solve 13 = .ok (.getfield 40, 3) := by decide +kernel
theorem dX3_solve_16 : decode cX3_solve 16 = .ok (.aload_n 1, 1) := by decide +kernel
theorem dX3_solve_17 : decode cX3_solve 17 = .ok (.getfield 57, 3) := by decide +kernel
theorem dX3_solve_20 : decode cX3_solve 20 = .ok (.iload_n 2, 1) := by decide +kernel
theorem dX3_solve_21 : decode cX3_solve 21 = .ok (.invokevirtual 60, 3) := by decide +kernel
theorem dX3_solve_24 : decode cX3_solve 24 = .ok (.iload_n 3, 1) := by decide +kernel
theorem dX3_solve_25 : decode cX3_solve 25 = .ok (.iload 4, 2) := by decide +kernel
theorem dX3_solve_27 : decode cX3_solve 27 = .ok (.invokevirtual 66, 3) := by decide +kernel
theorem dX3_solve_30 : decode cX3_solve 30 = .ok (.aload_n 0, 1) := by decide +kernel
theorem dX3_solve_31 : decode cX3_solve 31 = .ok (.aload_n 1, 1) := by decide +kernel
theorem dX3_solve_32 : decode cX3_solve 32 = .ok (.getfield 48, 3) := by decide +kernel
theorem dX3_solve_35 : decode cX3_solve 35 = .ok (.aload_n 1, 1) := by decide +kernel
theorem dX3_solve_36 : decode cX3_solve 36 = .ok (.getfield 57, 3) := by decide +kernel
theorem dX3_solve_39 : decode cX3_solve 39 = .ok (.iload_n 2, 1) := by decide +kernel
theorem dX3_solve_40 : decode cX3_solve 40 = .ok (.invokevirtual 70, 3) := by decide +kernel
theorem dX3_solve_43 : decode cX3_solve 43 = .ok (.istore 5, 2) := by decide +kernel
theorem dX3_solve_45 : decode cX3_solve 45 = .ok (.aload_n 0, 1) := by decide +kernel
theorem dX3_solve_46 : decode cX3_solve 46 = .ok (.getfield 32, 3) := by decide +kernel
theorem dX3_solve_49 : decode cX3_solve 49 = .ok (.aload_n 1, 1) := by decide +kernel
theorem dX3_solve_50 : decode cX3_solve 50 = .ok (.getfield 48, 3) := by decide +kernel
theorem dX3_solve_53 : decode cX3_solve 53 = .ok (.iload 5, 2) := by decide +kernel
theorem dX3_solve_55 : decode cX3_solve 55 = .ok (.invokevirtual 74, 3) := by decide +kernel
theorem dX3_solve_58 : decode cX3_solve 58 = .ok (.istore 6, 2) := by decide +kernel
theorem dX3_solve_60 : decode cX3_solve 60 = .ok (.aload_n 0, 1) := by decide +kernel
theorem dX3_solve_61 : decode cX3_solve 61 = .ok (.iload 6, 2) := by decide +kernel
theorem dX3_solve_63 : decode cX3_solve 63 = .ok (.aload_n 0, 1) := by decide +kernel
theorem dX3_solve_64 : decode cX3_solve 64 = .ok (.getfield 40, 3) := by decide +kernel
theorem dX3_solve_67 : decode cX3_solve 67 = .ok (.aload_n 1, 1) := by decide +kernel
theorem dX3_solve_68 : decode cX3_solve 68 = .ok (.getfield 57, 3) := by decide +kernel
theorem dX3_solve_71 : decode cX3_solve 71 = .ok (.invokevirtual 77, 3) := by decide +kernel
theorem dX3_solve_74 : decode cX3_solve 74 = .ok (.iload_n 2, 1) := by decide +kernel
theorem dX3_solve_75 : decode cX3_solve 75 = .ok (.iconst 1, 1) := by decide +kernel
theorem dX3_solve_76 : decode cX3_solve 76 = .ok (.isub, 1) := by decide +kernel
theorem dX3_solve_77 : decode cX3_solve 77 = .ok (.invokevirtual 80, 3) := by decide +kernel
theorem dX3_solve_80 : decode cX3_solve 80 = .ok (.iconst 0, 1) := by decide +kernel
theorem dX3_solve_81 : decode cX3_solve 81 = .ok (.istore 7, 2) := by decide +kernel
theorem dX3_solve_83 : decode cX3_solve 83 = .ok (.iload 7, 2) := by decide +kernel
theorem dX3_solve_85 : decode cX3_solve 85 = .ok (.iconst 4, 1) := by decide +kernel
theorem dX3_solve_86 : decode cX3_solve 86 = .ok (.if_icmp .ge 27, 3) := by decide +kernel
theorem dX3_solve_89 : decode cX3_solve 89 = .ok (.aload_n 0, 1) := by decide +kernel
theorem dX3_solve_90 : decode cX3_solve 90 = .ok (.getfield 25, 3) := by decide +kernel
theorem dX3_solve_93 : decode cX3_solve 93 = .ok (.iload 7, 2) := by decide +kernel
theorem dX3_solve_95 : decode cX3_solve 95 = .ok (.aload_n 0, 1) := by decide +kernel
theorem dX3_solve_96 : decode cX3_solve 96 = .ok (.iload 6, 2) := by decide +kernel
theorem dX3_solve_98 : decode cX3_solve 98 = .ok (.iload_n 2, 1) := by decide +kernel
theorem dX3_solve_99 : decode cX3_solve 99 = .ok (.iconst 1, 1) := by decide +kernel
theorem dX3_solve_100 : decode cX3_solve 100 = .ok (.isub, 1) := by decide +kernel
theorem dX3_solve_101 : decode cX3_solve 101 = .ok (.iload 7, 2) := by decide +kernel
theorem dX3_solve_103 : decode cX3_solve 103 = .ok (.invokevirtual 84, 3) := by decide +kernel
theorem dX3_solve_106 : decode cX3_solve 106 = .ok (.iastore, 1) := by decide +kernel
theorem dX3_solve_107 : decode cX3_solve 107 = .ok (.iinc 7 1, 3) := by decide +kernel
theorem dX3_solve_110 : decode cX3_solve 110 = .ok (.goto (-27), 3) := by decide +kernel
theorem dX3_solve_113 : decode cX3_solve 113 = .ok (.aload_n 0, 1) := by decide +kernel
theorem dX3_solve_114 : decode cX3_solve 114 = .ok (.iload 5, 2) := by decide +kernel
theorem dX3_solve_116 : decode cX3_solve 116 = .ok (.iload 6, 2) := by decide +kernel
theorem dX3_solve_118 : decode cX3_solve 118 = .ok (.iload_n 2, 1) := by decide +kernel
theorem dX3_solve_119 : decode cX3_solve 119 = .ok (.invokevirtual 87, 3) := by decide +kernel
theorem dX3_solve_122 : decode cX3_solve 122 = .ok (.return_, 1) := by decide +kernel
theorem dX3_sumOf_0 : decode cX3_sumOf 0 = .ok (.iload_n 1, 1) := by decide +kernel
theorem dX3_sumOf_1 : decode cX3_sumOf 1 = .ok (.invokestatic 44, 3) := by decide +kernel
theorem dX3_sumOf_4 : decode cX3_sumOf 4 = .ok (.ifCond .eq 12, 3) := by decide +kernel
theorem dX3_sumOf_7 : decode cX3_sumOf 7 = .ok (.aload_n 0, 1) := by decide +kernel
theorem dX3_sumOf_8 : decode cX3_sumOf 8 = .ok (.getfield 25, 3) := by decide +kernel
theorem dX3_sumOf_11 : decode cX3_sumOf 11 = .ok (.iload_n 1, 1) := by decide +kernel
theorem dX3_sumOf_12 : decode cX3_sumOf 12 = .ok (.iaload, 1) := by decide +kernel
theorem dX3_sumOf_13 : decode cX3_sumOf 13 = .ok (.goto 4, 3) := by decide +kernel
theorem dX3_sumOf_16 : decode cX3_sumOf 16 = .ok (.iconst 0, 1) := by decide +kernel
theorem dX3_sumOf_17 : decode cX3_sumOf 17 = .ok (.ireturn, 1) := by decide +kernel
theorem dX3_madeOn_0 : decode cX3_madeOn 0 = .ok (.iload_n 1, 1) := by decide +kernel
theorem dX3_madeOn_1 : decode cX3_madeOn 1 = .ok (.ifCond .lt 18, 3) := by decide +kernel
theorem dX3_madeOn_4 : decode cX3_madeOn 4 = .ok (.iload_n 1, 1) := by decide +kernel
theorem dX3_madeOn_5 : decode cX3_madeOn 5 = .ok (.bipush 8, 2) := by decide +kernel
theorem dX3_madeOn_7 : decode cX3_madeOn 7 = .ok (.if_icmp .ge 12, 3) := by decide +kernel
theorem dX3_madeOn_10 : decode cX3_madeOn 10 = .ok (.aload_n 0, 1) := by decide +kernel
theorem dX3_madeOn_11 : decode cX3_madeOn 11 = .ok (.getfield 21, 3) := by decide +kernel
theorem dX3_madeOn_14 : decode cX3_madeOn 14 = .ok (.iload_n 1, 1) := by decide +kernel
theorem dX3_madeOn_15 : decode cX3_madeOn 15 = .ok (.iaload, 1) := by decide +kernel
theorem dX3_madeOn_16 : decode cX3_madeOn 16 = .ok (.goto 4, 3) := by decide +kernel
theorem dX3_madeOn_19 : decode cX3_madeOn 19 = .ok (.iconst (-1), 1) := by decide +kernel
theorem dX3_madeOn_20 : decode cX3_madeOn 20 = .ok (.ireturn, 1) := by decide +kernel
theorem dX11_best_0 : decode cX11_best 0 = .ok (.iload_n 1, 1) := by decide +kernel
theorem dX11_best_1 : decode cX11_best 1 = .ok (.invokestatic 142, 3) := by decide +kernel
theorem dX11_best_4 : decode cX11_best 4 = .ok (.ifCond .eq 24, 3) := by decide +kernel
theorem dX11_best_7 : decode cX11_best 7 = .ok (.iload_n 2, 1) := by decide +kernel
theorem dX11_best_8 : decode cX11_best 8 = .ok (.iconst 1, 1) := by decide +kernel
theorem dX11_best_9 : decode cX11_best 9 = .ok (.if_icmp .lt 19, 3) := by decide +kernel
theorem dX11_best_12 : decode cX11_best 12 = .ok (.iload_n 2, 1) := by decide +kernel
theorem dX11_best_13 : decode cX11_best 13 = .ok (.bipush 8, 2) := by decide +kernel
theorem dX11_best_15 : decode cX11_best 15 = .ok (.if_icmp .gt 13, 3) := by decide +kernel
theorem dX11_best_18 : decode cX11_best 18 = .ok (.iload_n 3, 1) := by decide +kernel
theorem dX11_best_19 : decode cX11_best 19 = .ok (.iconst (-1), 1) := by decide +kernel
theorem dX11_best_20 : decode cX11_best 20 = .ok (.if_icmp .lt 8, 3) := by decide +kernel
theorem dX11_best_23 : decode cX11_best 23 = .ok (.iload_n 3, 1) := by decide +kernel
theorem dX11_best_24 : decode cX11_best 24 = .ok (.iload_n 2, 1) := by decide +kernel
theorem dX11_best_25 : decode cX11_best 25 = .ok (.if_icmp .lt 6, 3) := by decide +kernel
theorem dX11_best_28 : decode cX11_best 28 = .ok (.ldc 191, 2) := by decide +kernel
theorem dX11_best_30 : decode cX11_best 30 = .ok (.ireturn, 1) := by decide +kernel
theorem dX11_best_31 : decode cX11_best 31 = .ok (.aload_n 0, 1) := by decide +kernel
theorem dX11_best_32 : decode cX11_best 32 = .ok (.getfield 67, 3) := by decide +kernel
theorem dX11_best_35 : decode cX11_best 35 = .ok (.aload_n 0, 1) := by decide +kernel
theorem dX11_best_36 : decode cX11_best 36 = .ok (.getfield 88, 3) := by decide +kernel
theorem dX11_best_39 : decode cX11_best 39 = .ok (.iload_n 2, 1) := by decide +kernel
theorem dX11_best_40 : decode cX11_best 40 = .ok (.iconst 1, 1) := by decide +kernel
theorem dX11_best_41 : decode cX11_best 41 = .ok (.iload_n 1, 1) := by decide +kernel
theorem dX11_best_42 : decode cX11_best 42 = .ok (.ishl, 1) := by decide +kernel
theorem dX11_best_43 : decode cX11_best 43 = .ok (.aload_n 0, 1) := by decide +kernel
theorem dX11_best_44 : decode cX11_best 44 = .ok (.getfield 110, 3) := by decide +kernel
theorem dX11_best_47 : decode cX11_best 47 = .ok (.invokevirtual 261, 3) := by decide +kernel
theorem dX11_best_50 : decode cX11_best 50 = .ok (.iload_n 3, 1) := by decide +kernel
theorem dX11_best_51 : decode cX11_best 51 = .ok (.iconst (-1), 1) := by decide +kernel
theorem dX11_best_52 : decode cX11_best 52 = .ok (.if_icmp .ne 14, 3) := by decide +kernel
theorem dX11_best_55 : decode cX11_best 55 = .ok (.aload_n 0, 1) := by decide +kernel
theorem dX11_best_56 : decode cX11_best 56 = .ok (.getfield 67, 3) := by decide +kernel
theorem dX11_best_59 : decode cX11_best 59 = .ok (.iload_n 1, 1) := by decide +kernel
theorem dX11_best_60 : decode cX11_best 60 = .ok (.invokevirtual 265, 3) := by decide +kernel
theorem dX11_best_63 : decode cX11_best 63 = .ok (.goto 11, 3) := by decide +kernel
theorem dX11_best_66 : decode cX11_best 66 = .ok (.aload_n 0, 1) := by decide +kernel
theorem dX11_best_67 : decode cX11_best 67 = .ok (.getfield 67, 3) := by decide +kernel
theorem dX11_best_70 : decode cX11_best 70 = .ok (.iload_n 3, 1) := by decide +kernel
theorem dX11_best_71 : decode cX11_best 71 = .ok (.invokevirtual 266, 3) := by decide +kernel
theorem dX11_best_74 : decode cX11_best 74 = .ok (.ireturn, 1) := by decide +kernel
theorem dX11_all_0 : decode cX11_all 0 = .ok (.iload_n 1, 1) := by decide +kernel
theorem dX11_all_1 : decode cX11_all 1 = .ok (.iconst 1, 1) := by decide +kernel
theorem dX11_all_2 : decode cX11_all 2 = .ok (.if_icmp .lt 31, 3) := by decide +kernel
theorem dX11_all_5 : decode cX11_all 5 = .ok (.iload_n 1, 1) := by decide +kernel
theorem dX11_all_6 : decode cX11_all 6 = .ok (.bipush 8, 2) := by decide +kernel
theorem dX11_all_8 : decode cX11_all 8 = .ok (.if_icmp .gt 25, 3) := by decide +kernel
theorem dX11_all_11 : decode cX11_all 11 = .ok (.iload_n 2, 1) := by decide +kernel
theorem dX11_all_12 : decode cX11_all 12 = .ok (.iconst 3, 1) := by decide +kernel
theorem dX11_all_13 : decode cX11_all 13 = .ok (.invokestatic 102, 3) := by decide +kernel
theorem dX11_all_16 : decode cX11_all 16 = .ok (.ifCond .ne 20, 3) := by decide +kernel
theorem dX11_all_19 : decode cX11_all 19 = .ok (.iload_n 2, 1) := by decide +kernel
theorem dX11_all_20 : decode cX11_all 20 = .ok (.bipush 10, 2) := by decide +kernel
theorem dX11_all_22 : decode cX11_all 22 = .ok (.if_icmp .lt 11, 3) := by decide +kernel
theorem dX11_all_25 : decode cX11_all 25 = .ok (.iload_n 2, 1) := by decide +kernel
theorem dX11_all_26 : decode cX11_all 26 = .ok (.bipush 10, 2) := by decide +kernel
theorem dX11_all_28 : decode cX11_all 28 = .ok (.iload_n 1, 1) := by decide +kernel
theorem dX11_all_29 : decode cX11_all 29 = .ok (.iadd, 1) := by decide +kernel
theorem dX11_all_30 : decode cX11_all 30 = .ok (.if_icmp .lt 6, 3) := by decide +kernel
theorem dX11_all_33 : decode cX11_all 33 = .ok (.ldc 191, 2) := by decide +kernel
theorem dX11_all_35 : decode cX11_all 35 = .ok (.ireturn, 1) := by decide +kernel
theorem dX11_all_36 : decode cX11_all 36 = .ok (.aload_n 0, 1) := by decide +kernel
theorem dX11_all_37 : decode cX11_all 37 = .ok (.getfield 67, 3) := by decide +kernel
theorem dX11_all_40 : decode cX11_all 40 = .ok (.aload_n 0, 1) := by decide +kernel
theorem dX11_all_41 : decode cX11_all 41 = .ok (.getfield 88, 3) := by decide +kernel
theorem dX11_all_44 : decode cX11_all 44 = .ok (.iload_n 1, 1) := by decide +kernel
theorem dX11_all_45 : decode cX11_all 45 = .ok (.bipush 15, 2) := by decide +kernel
theorem dX11_all_47 : decode cX11_all 47 = .ok (.aload_n 0, 1) := by decide +kernel
theorem dX11_all_48 : decode cX11_all 48 = .ok (.getfield 110, 3) := by decide +kernel
theorem dX11_all_51 : decode cX11_all 51 = .ok (.invokevirtual 261, 3) := by decide +kernel
theorem dX11_all_54 : decode cX11_all 54 = .ok (.iload_n 2, 1) := by decide +kernel
theorem dX11_all_55 : decode cX11_all 55 = .ok (.iconst 3, 1) := by decide +kernel
theorem dX11_all_56 : decode cX11_all 56 = .ok (.if_icmp .gt 14, 3) := by decide +kernel
theorem dX11_all_59 : decode cX11_all 59 = .ok (.aload_n 0, 1) := by decide +kernel
theorem dX11_all_60 : decode cX11_all 60 = .ok (.getfield 67, 3) := by decide +kernel
theorem dX11_all_63 : decode cX11_all 63 = .ok (.iload_n 2, 1) := by decide +kernel
theorem dX11_all_64 : decode cX11_all 64 = .ok (.invokevirtual 265, 3) := by decide +kernel
theorem dX11_all_67 : decode cX11_all 67 = .ok (.goto 14, 3) := by decide +kernel
theorem dX11_all_70 : decode cX11_all 70 = .ok (.aload_n 0, 1) := by decide +kernel
theorem dX11_all_71 : decode cX11_all 71 = .ok (.getfield 67, 3) := by decide +kernel
theorem dX11_all_74 : decode cX11_all 74 = .ok (.iload_n 2, 1) := by decide +kernel
theorem dX11_all_75 : decode cX11_all 75 = .ok (.bipush 10, 2) := by decide +kernel
theorem dX11_all_77 : decode cX11_all 77 = .ok (.isub, 1) := by decide +kernel
theorem dX11_all_78 : decode cX11_all 78 = .ok (.invokevirtual 266, 3) := by decide +kernel
theorem dX11_all_81 : decode cX11_all 81 = .ok (.ireturn, 1) := by decide +kernel
theorem dX6_firstFullOf_0 : decode cX6_firstFullOf 0 = .ok (.iload_n 0, 1) := by decide +kernel
theorem dX6_firstFullOf_1 : decode cX6_firstFullOf 1 = .ok (.invokestatic 22, 3) := by decide +kernel
theorem dX6_firstFullOf_4 : decode cX6_firstFullOf 4 = .ok (.istore_n 1, 1) := by decide +kernel
theorem dX6_firstFullOf_5 : decode cX6_firstFullOf 5 = .ok (.iconst 0, 1) := by decide +kernel
theorem dX6_firstFullOf_6 : decode cX6_firstFullOf 6 = .ok (.istore_n 2, 1) := by decide +kernel
theorem dX6_firstFullOf_7 : decode cX6_firstFullOf 7 = .ok (.iconst 1, 1) := by decide +kernel
theorem dX6_firstFullOf_8 : decode cX6_firstFullOf 8 = .ok (.istore_n 3, 1) := by decide +kernel
theorem dX6_firstFullOf_9 : decode cX6_firstFullOf 9 = .ok (.iload_n 2, 1) := by decide +kernel
theorem dX6_firstFullOf_10 : decode cX6_firstFullOf 10 = .ok (.iload_n 0, 1) := by decide +kernel
theorem dX6_firstFullOf_11 : decode cX6_firstFullOf 11 = .ok (.if_icmp .ge 23, 3) := by decide +kernel
theorem dX6_firstFullOf_14 : decode cX6_firstFullOf 14 = .ok (.iload_n 2, 1) := by decide +kernel
theorem dX6_firstFullOf_15 : decode cX6_firstFullOf 15 = .ok (.iconst 4, 1) := by decide +kernel
theorem dX6_firstFullOf_16 : decode cX6_firstFullOf 16 = .ok (.if_icmp .ge 18, 3) := by decide +kernel
theorem dX6_firstFullOf_19 : decode cX6_firstFullOf 19 = .ok (.iload_n 1, 1) := by decide +kernel
theorem dX6_firstFullOf_20 : decode cX6_firstFullOf 20 = .ok (.iload_n 3, 1) := by decide +kernel
theorem dX6_firstFullOf_21 : decode cX6_firstFullOf 21 = .ok (.iadd, 1) := by decide +kernel
theorem dX6_firstFullOf_22 : decode cX6_firstFullOf 22 = .ok (.istore_n 1, 1) := by decide +kernel
theorem dX6_firstFullOf_23 : decode cX6_firstFullOf 23 = .ok (.iinc 2 1, 3) := by decide +kernel
theorem dX6_firstFullOf_26 : decode cX6_firstFullOf 26 = .ok (.iload_n 3, 1) := by decide +kernel
theorem dX6_firstFullOf_27 : decode cX6_firstFullOf 27 = .ok (.bipush 8, 2) := by decide +kernel
theorem dX6_firstFullOf_29 : decode cX6_firstFullOf 29 = .ok (.imul, 1) := by decide +kernel
theorem dX6_firstFullOf_30 : decode cX6_firstFullOf 30 = .ok (.istore_n 3, 1) := by decide +kernel
theorem dX6_firstFullOf_31 : decode cX6_firstFullOf 31 = .ok (.goto (-22), 3) := by decide +kernel
theorem dX6_firstFullOf_34 : decode cX6_firstFullOf 34 = .ok (.iload_n 1, 1) := by decide +kernel
theorem dX6_firstFullOf_35 : decode cX6_firstFullOf 35 = .ok (.ireturn, 1) := by decide +kernel
theorem dX10_isOfLaws_0 : decode cX10_isOfLaws 0 = .ok (.aload_n 0, 1) := by decide +kernel
theorem dX10_isOfLaws_1 : decode cX10_isOfLaws 1 = .ok (.getfield 36, 3) := by decide +kernel
theorem dX10_isOfLaws_4 : decode cX10_isOfLaws 4 = .ok (.iload_n 1, 1) := by decide +kernel
theorem dX10_isOfLaws_5 : decode cX10_isOfLaws 5 = .ok (.invokevirtual 48, 3) := by decide +kernel
theorem dX10_isOfLaws_8 : decode cX10_isOfLaws 8 = .ok (.aload_n 0, 1) := by decide +kernel
theorem dX10_isOfLaws_9 : decode cX10_isOfLaws 9 = .ok (.invokevirtual 52, 3) := by decide +kernel
theorem dX10_isOfLaws_12 : decode cX10_isOfLaws 12 = .ok (.iconst (-1), 1) := by decide +kernel
theorem dX10_isOfLaws_13 : decode cX10_isOfLaws 13 = .ok (.ixor, 1) := by decide +kernel
theorem dX10_isOfLaws_14 : decode cX10_isOfLaws 14 = .ok (.iand, 1) := by decide +kernel
theorem dX10_isOfLaws_15 : decode cX10_isOfLaws 15 = .ok (.ifCond .ne 7, 3) := by decide +kernel
theorem dX10_isOfLaws_18 : decode cX10_isOfLaws 18 = .ok (.iconst 1, 1) := by decide +kernel
theorem dX10_isOfLaws_19 : decode cX10_isOfLaws 19 = .ok (.goto 4, 3) := by decide +kernel
theorem dX10_isOfLaws_22 : decode cX10_isOfLaws 22 = .ok (.iconst 0, 1) := by decide +kernel
theorem dX10_isOfLaws_23 : decode cX10_isOfLaws 23 = .ok (.ireturn, 1) := by decide +kernel
theorem dJ6_bitCount_0f7a4_0 : decode cJ6_bitCount_0f7a4 0 = .ok (.iload_n 0, 1) := by decide +kernel
theorem dJ6_bitCount_0f7a4_1 : decode cJ6_bitCount_0f7a4 1 = .ok (.iload_n 0, 1) := by decide +kernel
theorem dJ6_bitCount_0f7a4_2 : decode cJ6_bitCount_0f7a4 2 = .ok (.iconst 1, 1) := by decide +kernel
theorem dJ6_bitCount_0f7a4_3 : decode cJ6_bitCount_0f7a4 3 = .ok (.iushr, 1) := by decide +kernel
theorem dJ6_bitCount_0f7a4_4 : decode cJ6_bitCount_0f7a4 4 = .ok (.ldc_w 265, 3) := by decide +kernel
theorem dJ6_bitCount_0f7a4_7 : decode cJ6_bitCount_0f7a4 7 = .ok (.iand, 1) := by decide +kernel
theorem dJ6_bitCount_0f7a4_8 : decode cJ6_bitCount_0f7a4 8 = .ok (.isub, 1) := by decide +kernel
theorem dJ6_bitCount_0f7a4_9 : decode cJ6_bitCount_0f7a4 9 = .ok (.istore_n 0, 1) := by decide +kernel
theorem dJ6_bitCount_0f7a4_10 : decode cJ6_bitCount_0f7a4 10 = .ok (.iload_n 0, 1) := by decide +kernel
theorem dJ6_bitCount_0f7a4_11 : decode cJ6_bitCount_0f7a4 11 = .ok (.ldc_w 266, 3) := by decide +kernel
theorem dJ6_bitCount_0f7a4_14 : decode cJ6_bitCount_0f7a4 14 = .ok (.iand, 1) := by decide +kernel
theorem dJ6_bitCount_0f7a4_15 : decode cJ6_bitCount_0f7a4 15 = .ok (.iload_n 0, 1) := by decide +kernel
theorem dJ6_bitCount_0f7a4_16 : decode cJ6_bitCount_0f7a4 16 = .ok (.iconst 2, 1) := by decide +kernel
theorem dJ6_bitCount_0f7a4_17 : decode cJ6_bitCount_0f7a4 17 = .ok (.iushr, 1) := by decide +kernel
theorem dJ6_bitCount_0f7a4_18 : decode cJ6_bitCount_0f7a4 18 = .ok (.ldc_w 266, 3) := by decide +kernel
theorem dJ6_bitCount_0f7a4_21 : decode cJ6_bitCount_0f7a4 21 = .ok (.iand, 1) := by decide +kernel
theorem dJ6_bitCount_0f7a4_22 : decode cJ6_bitCount_0f7a4 22 = .ok (.iadd, 1) := by decide +kernel
theorem dJ6_bitCount_0f7a4_23 : decode cJ6_bitCount_0f7a4 23 = .ok (.istore_n 0, 1) := by decide +kernel
theorem dJ6_bitCount_0f7a4_24 : decode cJ6_bitCount_0f7a4 24 = .ok (.iload_n 0, 1) := by decide +kernel
theorem dJ6_bitCount_0f7a4_25 : decode cJ6_bitCount_0f7a4 25 = .ok (.iload_n 0, 1) := by decide +kernel
theorem dJ6_bitCount_0f7a4_26 : decode cJ6_bitCount_0f7a4 26 = .ok (.iconst 4, 1) := by decide +kernel
theorem dJ6_bitCount_0f7a4_27 : decode cJ6_bitCount_0f7a4 27 = .ok (.iushr, 1) := by decide +kernel
theorem dJ6_bitCount_0f7a4_28 : decode cJ6_bitCount_0f7a4 28 = .ok (.iadd, 1) := by decide +kernel
theorem dJ6_bitCount_0f7a4_29 : decode cJ6_bitCount_0f7a4 29 = .ok (.ldc_w 267, 3) := by decide +kernel
theorem dJ6_bitCount_0f7a4_32 : decode cJ6_bitCount_0f7a4 32 = .ok (.iand, 1) := by decide +kernel
theorem dJ6_bitCount_0f7a4_33 : decode cJ6_bitCount_0f7a4 33 = .ok (.istore_n 0, 1) := by decide +kernel
theorem dJ6_bitCount_0f7a4_34 : decode cJ6_bitCount_0f7a4 34 = .ok (.iload_n 0, 1) := by decide +kernel
theorem dJ6_bitCount_0f7a4_35 : decode cJ6_bitCount_0f7a4 35 = .ok (.iload_n 0, 1) := by decide +kernel
theorem dJ6_bitCount_0f7a4_36 : decode cJ6_bitCount_0f7a4 36 = .ok (.bipush 8, 2) := by decide +kernel
theorem dJ6_bitCount_0f7a4_38 : decode cJ6_bitCount_0f7a4 38 = .ok (.iushr, 1) := by decide +kernel
theorem dJ6_bitCount_0f7a4_39 : decode cJ6_bitCount_0f7a4 39 = .ok (.iadd, 1) := by decide +kernel
theorem dJ6_bitCount_0f7a4_40 : decode cJ6_bitCount_0f7a4 40 = .ok (.istore_n 0, 1) := by decide +kernel
theorem dJ6_bitCount_0f7a4_41 : decode cJ6_bitCount_0f7a4 41 = .ok (.iload_n 0, 1) := by decide +kernel
theorem dJ6_bitCount_0f7a4_42 : decode cJ6_bitCount_0f7a4 42 = .ok (.iload_n 0, 1) := by decide +kernel
theorem dJ6_bitCount_0f7a4_43 : decode cJ6_bitCount_0f7a4 43 = .ok (.bipush 16, 2) := by decide +kernel
theorem dJ6_bitCount_0f7a4_45 : decode cJ6_bitCount_0f7a4 45 = .ok (.iushr, 1) := by decide +kernel
theorem dJ6_bitCount_0f7a4_46 : decode cJ6_bitCount_0f7a4 46 = .ok (.iadd, 1) := by decide +kernel
theorem dJ6_bitCount_0f7a4_47 : decode cJ6_bitCount_0f7a4 47 = .ok (.istore_n 0, 1) := by decide +kernel
theorem dJ6_bitCount_0f7a4_48 : decode cJ6_bitCount_0f7a4 48 = .ok (.iload_n 0, 1) := by decide +kernel
theorem dJ6_bitCount_0f7a4_49 : decode cJ6_bitCount_0f7a4 49 = .ok (.bipush 63, 2) := by decide +kernel
theorem dJ6_bitCount_0f7a4_51 : decode cJ6_bitCount_0f7a4 51 = .ok (.iand, 1) := by decide +kernel
theorem dJ6_bitCount_0f7a4_52 : decode cJ6_bitCount_0f7a4 52 = .ok (.ireturn, 1) := by decide +kernel
theorem dX11_worthToAll_0 : decode cX11_worthToAll 0 = .ok (.iconst 0, 1) := by decide +kernel
theorem dX11_worthToAll_1 : decode cX11_worthToAll 1 = .ok (.istore_n 2, 1) := by decide +kernel
theorem dX11_worthToAll_2 : decode cX11_worthToAll 2 = .ok (.iconst 0, 1) := by decide +kernel
theorem dX11_worthToAll_3 : decode cX11_worthToAll 3 = .ok (.istore_n 3, 1) := by decide +kernel
theorem dX11_worthToAll_4 : decode cX11_worthToAll 4 = .ok (.iload_n 3, 1) := by decide +kernel
theorem dX11_worthToAll_5 : decode cX11_worthToAll 5 = .ok (.iconst 4, 1) := by decide +kernel
theorem dX11_worthToAll_6 : decode cX11_worthToAll 6 = .ok (.if_icmp .ge 21, 3) := by decide +kernel
theorem dX11_worthToAll_9 : decode cX11_worthToAll 9 = .ok (.iload_n 2, 1) := by decide +kernel
theorem dX11_worthToAll_10 : decode cX11_worthToAll 10 = .ok (.aload_n 0, 1) := by decide +kernel
theorem dX11_worthToAll_11 : decode cX11_worthToAll 11 = .ok (.getfield 42, 3) := by decide +kernel
theorem dX11_worthToAll_14 : decode cX11_worthToAll 14 = .ok (.iload_n 1, 1) := by decide +kernel
theorem dX11_worthToAll_15 : decode cX11_worthToAll 15 = .ok (.iload_n 3, 1) := by decide +kernel
theorem dX11_worthToAll_16 : decode cX11_worthToAll 16 = .ok (.invokevirtual 188, 3) := by decide +kernel
theorem dX11_worthToAll_19 : decode cX11_worthToAll 19 = .ok (.iadd, 1) := by decide +kernel
theorem dX11_worthToAll_20 : decode cX11_worthToAll 20 = .ok (.istore_n 2, 1) := by decide +kernel
theorem dX11_worthToAll_21 : decode cX11_worthToAll 21 = .ok (.iinc 3 1, 3) := by decide +kernel
theorem dX11_worthToAll_24 : decode cX11_worthToAll 24 = .ok (.goto (-20), 3) := by decide +kernel
theorem dX11_worthToAll_27 : decode cX11_worthToAll 27 = .ok (.iload_n 2, 1) := by decide +kernel
theorem dX11_worthToAll_28 : decode cX11_worthToAll 28 = .ok (.ireturn, 1) := by decide +kernel
theorem dX11_bestRow_0 : decode cX11_bestRow 0 = .ok (.aload_n 0, 1) := by decide +kernel
theorem dX11_bestRow_1 : decode cX11_bestRow 1 = .ok (.getfield 19, 3) := by decide +kernel
theorem dX11_bestRow_4 : decode cX11_bestRow 4 = .ok (.aload_n 0, 1) := by decide +kernel
theorem dX11_bestRow_5 : decode cX11_bestRow 5 = .ok (.getfield 88, 3) := by decide +kernel
theorem dX11_bestRow_8 : decode cX11_bestRow 8 = .ok (.getfield 122, 3) := by decide +kernel
theorem dX11_bestRow_11 : decode cX11_bestRow 11 = .ok (.invokevirtual 277, 3) := by decide +kernel
theorem dX11_bestRow_14 : decode cX11_bestRow 14 = .ok (.istore_n 3, 1) := by decide +kernel
theorem dX11_bestRow_15 : decode cX11_bestRow 15 = .ok (.iload_n 1, 1) := by decide +kernel
theorem dX11_bestRow_16 : decode cX11_bestRow 16 = .ok (.iconst (-1), 1) := by decide +kernel
theorem dX11_bestRow_17 : decode cX11_bestRow 17 = .ok (.if_icmp .lt 29, 3) := by decide +kernel
theorem dX11_bestRow_20 : decode cX11_bestRow 20 = .ok (.iload_n 1, 1) := by decide +kernel
theorem dX11_bestRow_21 : decode cX11_bestRow 21 = .ok (.iconst 4, 1) := by decide +kernel
theorem dX11_bestRow_22 : decode cX11_bestRow 22 = .ok (.if_icmp .ge 24, 3) := by decide +kernel
theorem dX11_bestRow_25 : decode cX11_bestRow 25 = .ok (.iload_n 2, 1) := by decide +kernel
theorem dX11_bestRow_26 : decode cX11_bestRow 26 = .ok (.iconst (-1), 1) := by decide +kernel
theorem dX11_bestRow_27 : decode cX11_bestRow 27 = .ok (.if_icmp .lt 19, 3) := by decide +kernel
theorem dX11_bestRow_30 : decode cX11_bestRow 30 = .ok (.iload_n 2, 1) := by decide +kernel
theorem dX11_bestRow_31 : decode cX11_bestRow 31 = .ok (.iload_n 3, 1) := by decide +kernel
theorem dX11_bestRow_32 : decode cX11_bestRow 32 = .ok (.if_icmp .ge 14, 3) := by decide +kernel
theorem dX11_bestRow_35 : decode cX11_bestRow 35 = .ok (.aload_n 0, 1) := by decide +kernel
theorem dX11_bestRow_36 : decode cX11_bestRow 36 = .ok (.getfield 42, 3) := by decide +kernel
theorem dX11_bestRow_39 : decode cX11_bestRow 39 = .ok (.invokevirtual 106, 3) := by decide +kernel
theorem dX11_bestRow_42 : decode cX11_bestRow 42 = .ok (.iload_n 3, 1) := by decide +kernel
theorem dX11_bestRow_43 : decode cX11_bestRow 43 = .ok (.if_icmp .ge 6, 3) := by decide +kernel
theorem dX11_bestRow_46 : decode cX11_bestRow 46 = .ok (.ldc 191, 2) := by decide +kernel
theorem dX11_bestRow_48 : decode cX11_bestRow 48 = .ok (.ireturn, 1) := by decide +kernel
theorem dX11_bestRow_49 : decode cX11_bestRow 49 = .ok (.iconst (-1), 1) := by decide +kernel
theorem dX11_bestRow_50 : decode cX11_bestRow 50 = .ok (.istore 4, 2) := by decide +kernel
theorem dX11_bestRow_52 : decode cX11_bestRow 52 = .ok (.iconst 0, 1) := by decide +kernel
theorem dX11_bestRow_53 : decode cX11_bestRow 53 = .ok (.istore 5, 2) := by decide +kernel
theorem dX11_bestRow_55 : decode cX11_bestRow 55 = .ok (.iload_n 3, 1) := by decide +kernel
theorem dX11_bestRow_56 : decode cX11_bestRow 56 = .ok (.iconst 1, 1) := by decide +kernel
theorem dX11_bestRow_57 : decode cX11_bestRow 57 = .ok (.iadd, 1) := by decide +kernel
theorem dX11_bestRow_58 : decode cX11_bestRow 58 = .ok (.invokestatic 118, 3) := by decide +kernel
theorem dX11_bestRow_61 : decode cX11_bestRow 61 = .ok (.istore 6, 2) := by decide +kernel
theorem dX11_bestRow_63 : decode cX11_bestRow 63 = .ok (.iload_n 3, 1) := by decide +kernel
theorem dX11_bestRow_64 : decode cX11_bestRow 64 = .ok (.invokestatic 280, 3) := by decide +kernel
theorem dX11_bestRow_67 : decode cX11_bestRow 67 = .ok (.istore 7, 2) := by decide +kernel
theorem dX11_bestRow_69 : decode cX11_bestRow 69 = .ok (.iload 7, 2) := by decide +kernel
theorem dX11_bestRow_71 : decode cX11_bestRow 71 = .ok (.iload 6, 2) := by decide +kernel
theorem dX11_bestRow_73 : decode cX11_bestRow 73 = .ok (.if_icmp .ge 87, 3) := by decide +kernel
theorem dX11_bestRow_76 : decode cX11_bestRow 76 = .ok (.aload_n 0, 1) := by decide +kernel
theorem dX11_bestRow_77 : decode cX11_bestRow 77 = .ok (.getfield 42, 3) := by decide +kernel
theorem dX11_bestRow_80 : decode cX11_bestRow 80 = .ok (.iload 7, 2) := by decide +kernel
theorem dX11_bestRow_82 : decode cX11_bestRow 82 = .ok (.invokevirtual 283, 3) := by decide +kernel
theorem dX11_bestRow_85 : decode cX11_bestRow 85 = .ok (.ifCond .eq 69, 3) := by decide +kernel
theorem dX11_bestRow_88 : decode cX11_bestRow 88 = .ok (.aload_n 0, 1) := by decide +kernel
theorem dX11_bestRow_89 : decode cX11_bestRow 89 = .ok (.getfield 19, 3) := by decide +kernel
theorem dX11_bestRow_92 : decode cX11_bestRow 92 = .ok (.iload 7, 2) := by decide +kernel
theorem dX11_bestRow_94 : decode cX11_bestRow 94 = .ok (.invokevirtual 286, 3) := by decide +kernel
theorem dX11_bestRow_97 : decode cX11_bestRow 97 = .ok (.invokestatic 289, 3) := by decide +kernel
theorem dX11_bestRow_100 : decode cX11_bestRow 100 = .ok (.iload_n 3, 1) := by decide +kernel
theorem dX11_bestRow_101 : decode cX11_bestRow 101 = .ok (.if_icmp .ge 6, 3) := by decide +kernel
theorem dX11_bestRow_104 : decode cX11_bestRow 104 = .ok (.goto 50, 3) := by decide +kernel
theorem dX11_bestRow_107 : decode cX11_bestRow 107 = .ok (.iload_n 1, 1) := by decide +kernel
theorem dX11_bestRow_108 : decode cX11_bestRow 108 = .ok (.iconst (-1), 1) := by decide +kernel
theorem dX11_bestRow_109 : decode cX11_bestRow 109 = .ok (.if_icmp .ne 12, 3) := by decide +kernel
theorem dX11_bestRow_112 : decode cX11_bestRow 112 = .ok (.aload_n 0, 1) := by decide +kernel
theorem dX11_bestRow_113 : decode cX11_bestRow 113 = .ok (.iload 7, 2) := by decide +kernel
theorem dX11_bestRow_115 : decode cX11_bestRow 115 = .ok (.invokevirtual 294, 3) := by decide +kernel
theorem dX11_bestRow_118 : decode cX11_bestRow 118 = .ok (.goto 13, 3) := by decide +kernel
theorem dX11_bestRow_121 : decode cX11_bestRow 121 = .ok (.aload_n 0, 1) := by decide +kernel
theorem dX11_bestRow_122 : decode cX11_bestRow 122 = .ok (.getfield 42, 3) := by decide +kernel
theorem dX11_bestRow_125 : decode cX11_bestRow 125 = .ok (.iload 7, 2) := by decide +kernel
theorem dX11_bestRow_127 : decode cX11_bestRow 127 = .ok (.iload_n 1, 1) := by decide +kernel
theorem dX11_bestRow_128 : decode cX11_bestRow 128 = .ok (.invokevirtual 188, 3) := by decide +kernel
theorem dX11_bestRow_131 : decode cX11_bestRow 131 = .ok (.istore 8, 2) := by decide +kernel
theorem dX11_bestRow_133 : decode cX11_bestRow 133 = .ok (.iload 4, 2) := by decide +kernel
theorem dX11_bestRow_135 : decode cX11_bestRow 135 = .ok (.iconst (-1), 1) := by decide +kernel
theorem dX11_bestRow_136 : decode cX11_bestRow 136 = .ok (.if_icmp .eq 10, 3) := by decide +kernel
theorem dX11_bestRow_139 : decode cX11_bestRow 139 = .ok (.iload 8, 2) := by decide +kernel
theorem dX11_bestRow_141 : decode cX11_bestRow 141 = .ok (.iload 5, 2) := by decide +kernel
theorem dX11_bestRow_143 : decode cX11_bestRow 143 = .ok (.if_icmp .le 11, 3) := by decide +kernel
theorem dX11_bestRow_146 : decode cX11_bestRow 146 = .ok (.iload 7, 2) := by decide +kernel
theorem dX11_bestRow_148 : decode cX11_bestRow 148 = .ok (.istore 4, 2) := by decide +kernel
theorem dX11_bestRow_150 : decode cX11_bestRow 150 = .ok (.iload 8, 2) := by decide +kernel
theorem dX11_bestRow_152 : decode cX11_bestRow 152 = .ok (.istore 5, 2) := by decide +kernel
theorem dX11_bestRow_154 : decode cX11_bestRow 154 = .ok (.iinc 7 1, 3) := by decide +kernel
theorem dX11_bestRow_157 : decode cX11_bestRow 157 = .ok (.goto (-88), 3) := by decide +kernel
theorem dX11_bestRow_160 : decode cX11_bestRow 160 = .ok (.iload_n 2, 1) := by decide +kernel
theorem dX11_bestRow_161 : decode cX11_bestRow 161 = .ok (.iconst (-1), 1) := by decide +kernel
theorem dX11_bestRow_162 : decode cX11_bestRow 162 = .ok (.if_icmp .ne 8, 3) := by decide +kernel
theorem dX11_bestRow_165 : decode cX11_bestRow 165 = .ok (.iload 5, 2) := by decide +kernel
theorem dX11_bestRow_167 : decode cX11_bestRow 167 = .ok (.goto 13, 3) := by decide +kernel
theorem dX11_bestRow_170 : decode cX11_bestRow 170 = .ok (.aload_n 0, 1) := by decide +kernel
theorem dX11_bestRow_171 : decode cX11_bestRow 171 = .ok (.getfield 19, 3) := by decide +kernel
theorem dX11_bestRow_174 : decode cX11_bestRow 174 = .ok (.iload 4, 2) := by decide +kernel
theorem dX11_bestRow_176 : decode cX11_bestRow 176 = .ok (.iload_n 2, 1) := by decide +kernel
theorem dX11_bestRow_177 : decode cX11_bestRow 177 = .ok (.invokevirtual 182, 3) := by decide +kernel
theorem dX11_bestRow_180 : decode cX11_bestRow 180 = .ok (.ireturn, 1) := by decide +kernel
theorem dX2_quietOn_0 : decode cX2_quietOn 0 = .ok (.iconst 0, 1) := by decide +kernel
theorem dX2_quietOn_1 : decode cX2_quietOn 1 = .ok (.istore_n 2, 1) := by decide +kernel
theorem dX2_quietOn_2 : decode cX2_quietOn 2 = .ok (.iload_n 2, 1) := by decide +kernel
theorem dX2_quietOn_3 : decode cX2_quietOn 3 = .ok (.aload_n 0, 1) := by decide +kernel
theorem dX2_quietOn_4 : decode cX2_quietOn 4 = .ok (.getfield 21, 3) := by decide +kernel
theorem dX2_quietOn_7 : decode cX2_quietOn 7 = .ok (.if_icmp .ge 33, 3) := by decide +kernel
theorem dX2_quietOn_10 : decode cX2_quietOn 10 = .ok (.iload_n 2, 1) := by decide +kernel
theorem dX2_quietOn_11 : decode cX2_quietOn 11 = .ok (.iconst 4, 1) := by decide +kernel
theorem dX2_quietOn_12 : decode cX2_quietOn 12 = .ok (.if_icmp .ge 28, 3) := by decide +kernel
theorem dX2_quietOn_15 : decode cX2_quietOn 15 = .ok (.aload_n 0, 1) := by decide +kernel
theorem dX2_quietOn_16 : decode cX2_quietOn 16 = .ok (.getfield 29, 3) := by decide +kernel
theorem dX2_quietOn_19 : decode cX2_quietOn 19 = .ok (.iload_n 1, 1) := by decide +kernel
theorem dX2_quietOn_20 : decode cX2_quietOn 20 = .ok (.aload_n 0, 1) := by decide +kernel
theorem dX2_quietOn_21 : decode cX2_quietOn 21 = .ok (.getfield 18, 3) := by decide +kernel
theorem dX2_quietOn_24 : decode cX2_quietOn 24 = .ok (.iload_n 2, 1) := by decide +kernel
theorem dX2_quietOn_25 : decode cX2_quietOn 25 = .ok (.iaload, 1) := by decide +kernel
theorem dX2_quietOn_26 : decode cX2_quietOn 26 = .ok (.invokevirtual 43, 3) := by decide +kernel
theorem dX2_quietOn_29 : decode cX2_quietOn 29 = .ok (.ifCond .eq 5, 3) := by decide +kernel
theorem dX2_quietOn_32 : decode cX2_quietOn 32 = .ok (.iconst 0, 1) := by decide +kernel
theorem dX2_quietOn_33 : decode cX2_quietOn 33 = .ok (.ireturn, 1) := by decide +kernel
theorem dX2_quietOn_34 : decode cX2_quietOn 34 = .ok (.iinc 2 1, 3) := by decide +kernel
theorem dX2_quietOn_37 : decode cX2_quietOn 37 = .ok (.goto (-35), 3) := by decide +kernel
theorem dX2_quietOn_40 : decode cX2_quietOn 40 = .ok (.iconst 1, 1) := by decide +kernel
theorem dX2_quietOn_41 : decode cX2_quietOn 41 = .ok (.ireturn, 1) := by decide +kernel
theorem dX11_quiet_0 : decode cX11_quiet 0 = .ok (.aload_n 0, 1) := by decide +kernel
theorem dX11_quiet_1 : decode cX11_quiet 1 = .ok (.getfield 51, 3) := by decide +kernel
theorem dX11_quiet_4 : decode cX11_quiet 4 = .ok (.aload_n 0, 1) := by decide +kernel
theorem dX11_quiet_5 : decode cX11_quiet 5 = .ok (.getfield 88, 3) := by decide +kernel
theorem dX11_quiet_8 : decode cX11_quiet 8 = .ok (.getfield 122, 3) := by decide +kernel
theorem dX11_quiet_11 : decode cX11_quiet 11 = .ok (.invokevirtual 195, 3) := by decide +kernel
theorem dX11_quiet_14 : decode cX11_quiet 14 = .ok (.ireturn, 1) := by decide +kernel
theorem dJ7_fill_fda19_0 : decode cJ7_fill_fda19 0 = .ok (.aload_n 0, 1) := by decide +kernel
theorem dJ7_fill_fda19_1 : decode cJ7_fill_fda19 1 = .ok (.arraylength, 1) := by decide +kernel
theorem dJ7_fill_fda19_2 : decode cJ7_fill_fda19 2 = .ok (.iload_n 1, 1) := by decide +kernel
theorem dJ7_fill_fda19_3 : decode cJ7_fill_fda19 3 = .ok (.iload_n 2, 1) := by decide +kernel
theorem dJ7_fill_fda19_4 : decode cJ7_fill_fda19 4 = .ok (.invokestatic 13, 3) := by decide +kernel
theorem dJ7_fill_fda19_7 : decode cJ7_fill_fda19 7 = .ok (.iload_n 1, 1) := by decide +kernel
theorem dJ7_fill_fda19_8 : decode cJ7_fill_fda19 8 = .ok (.istore 4, 2) := by decide +kernel
theorem dJ7_fill_fda19_10 : decode cJ7_fill_fda19 10 = .ok (.iload 4, 2) := by decide +kernel
theorem dJ7_fill_fda19_12 : decode cJ7_fill_fda19 12 = .ok (.iload_n 2, 1) := by decide +kernel
theorem dJ7_fill_fda19_13 : decode cJ7_fill_fda19 13 = .ok (.if_icmp .ge 14, 3) := by decide +kernel
theorem dJ7_fill_fda19_16 : decode cJ7_fill_fda19 16 = .ok (.aload_n 0, 1) := by decide +kernel
theorem dJ7_fill_fda19_17 : decode cJ7_fill_fda19 17 = .ok (.iload 4, 2) := by decide +kernel
theorem dJ7_fill_fda19_19 : decode cJ7_fill_fda19 19 = .ok (.iload_n 3, 1) := by decide +kernel
theorem dJ7_fill_fda19_20 : decode cJ7_fill_fda19 20 = .ok (.iastore, 1) := by decide +kernel
theorem dJ7_fill_fda19_21 : decode cJ7_fill_fda19 21 = .ok (.iinc 4 1, 3) := by decide +kernel
theorem dJ7_fill_fda19_24 : decode cJ7_fill_fda19 24 = .ok (.goto (-14), 3) := by decide +kernel
theorem dJ7_fill_fda19_27 : decode cJ7_fill_fda19 27 = .ok (.return_, 1) := by decide +kernel
/-! f_X11_commonDivisor -/
noncomputable def lp_X11_commonDivisor_13 (s0 : SS) : Nat → Int32 → Int32 → Int32 → Option Int32
  | 0, _, _, _ => none
  | n6 + 1, v3, v4, v5 => if (100 : Int32) ≤ (v5 : Int32) then some v3 else if (v4 : Int32) = 0 then some v3 else gd (¬ (v4 : Int32) = 0) (lt (v3 - v3 / v4 * v4) (fun (v9 : Int32) => lp_X11_commonDivisor_13 s0 n6 v4 v9 (v5 + 1)))
noncomputable def f_X11_commonDivisor (a1 : Int32) (a2 : Int32) (s0 : SS) : Option Int32 := lt (if (0 : Int32) ≤ a1 then a1 else 0 - a1) (fun (v1 : Int32) => lt (if (0 : Int32) ≤ a2 then a2 else 0 - a2) (fun (v2 : Int32) => lp_X11_commonDivisor_13 s0 FU v1 v2 0))
set_option maxRecDepth 100000 in
set_option maxHeartbeats 4000000 in
theorem t_lp_X11_commonDivisor_13 {l : Launch} (s0 : SS)  : ∀ (n6 : Nat) (v3 : Int32) (v4 : Int32) (v5 : Int32), RC l wF RX11 cX11_commonDivisor 6 (some .int) 1 13 [.null, .null, .int v3, .int v4, .int v5, .null] [] s0 (pu (lp_X11_commonDivisor_13 s0 n6 v3 v4 v5) s0) := by
  intro n6
  induction n6 with
  | zero =>
    intro v3 v4 v5
    rw [lp_X11_commonDivisor_13]
    exact p_none
  | succ n6 ih =>
    intro v3 v4 v5
    rw [lp_X11_commonDivisor_13]
    refine r_iload (pc1 := 15) dX11_commonDivisor_13 rfl rfl ?_
    refine r_bipush (v := 100) (pc1 := 17) dX11_commonDivisor_15 kb_100 rfl ?_
    refine p_icmp_ge (tgt := 40) (pc1 := 20) dX11_commonDivisor_17 (by decide) rfl (fun q7 => ?_) (fun q7 => ?_)
    · refine r_iload_n (pc1 := 41) (i := 2) dX11_commonDivisor_40 rfl rfl rfl ?_
      exact p_iret rfl rfl dX11_commonDivisor_41
    · refine r_iload_n (pc1 := 21) (i := 3) dX11_commonDivisor_20 rfl rfl rfl ?_
      refine p_if_eq (tgt := 40) (pc1 := 24) dX11_commonDivisor_21 (by decide) rfl (fun q8 => ?_) (fun q8 => ?_)
      · refine r_iload_n (pc1 := 41) (i := 2) dX11_commonDivisor_40 rfl rfl rfl ?_
        exact p_iret rfl rfl dX11_commonDivisor_41
      · refine r_iload_n (pc1 := 25) (i := 2) dX11_commonDivisor_24 rfl rfl rfl ?_
        refine r_iload_n (pc1 := 26) (i := 3) dX11_commonDivisor_25 rfl rfl rfl ?_
        refine p_irem (pc1 := 27) dX11_commonDivisor_26 rfl ?_
        refine p_lt (fun v9 => ?_)
        refine r_istore (pc1 := 29) dX11_commonDivisor_27 (by decide) rfl rfl rfl ?_
        refine r_iload_n (pc1 := 30) (i := 3) dX11_commonDivisor_29 rfl rfl rfl ?_
        refine r_istore_n (pc1 := 31) (i := 2) dX11_commonDivisor_30 rfl (by decide) rfl rfl rfl ?_
        refine r_iload (pc1 := 33) dX11_commonDivisor_31 rfl rfl ?_
        refine r_istore_n (pc1 := 34) (i := 3) dX11_commonDivisor_33 rfl (by decide) rfl rfl rfl ?_
        refine r_iinc (pc1 := 37) dX11_commonDivisor_34 rfl (kn_1 _) (by decide) rfl rfl rfl ?_
        refine r_goto (tgt := 13) dX11_commonDivisor_37 (by decide) ?_
        exact r_wk (ih v4 v9 (v5 + 1)) ⟨Or.inl rfl, Or.inl rfl, Or.inr rfl, Or.inr rfl, Or.inr rfl, Or.inl rfl, trivial⟩
set_option maxRecDepth 100000 in
set_option maxHeartbeats 4000000 in
theorem c_X11_commonDivisor {l : Launch} (a1 : Int32) (a2 : Int32) (s0 : SS) : Ct l wF yX11_commonDivisor cX11_commonDivisor 6 (some .int) 1 [.int a1, .int a2] s0 (pu (f_X11_commonDivisor a1 a2 s0) s0) := by
  refine ct_of (y := yX11_commonDivisor) plX11 (Nat.le_of_ble_eq_true rfl) ?_
  refine r_pad0 4 (L1 := [.int a1, .int a2, .null, .null, .null, .null]) rfl ?_
  unfold f_X11_commonDivisor
  refine r_iload_n (pc1 := 1) (i := 0) dX11_commonDivisor_0 rfl rfl rfl ?_
  refine r_mabs (pc1 := 4) mlX11_256 (by omega) dX11_commonDivisor_1 rfl (Nat.le_of_ble_eq_true rfl) ?_
  refine p_lt (fun v1 => ?_)
  refine r_istore_n (pc1 := 5) (i := 2) dX11_commonDivisor_4 rfl (by decide) rfl rfl rfl ?_
  refine r_iload_n (pc1 := 6) (i := 1) dX11_commonDivisor_5 rfl rfl rfl ?_
  refine r_mabs (pc1 := 9) mlX11_256 (by omega) dX11_commonDivisor_6 rfl (Nat.le_of_ble_eq_true rfl) ?_
  refine p_lt (fun v2 => ?_)
  refine r_istore_n (pc1 := 10) (i := 3) dX11_commonDivisor_9 rfl (by decide) rfl rfl rfl ?_
  refine r_iconst (v := 0) (pc1 := 11) dX11_commonDivisor_10 ki_0 rfl ?_
  refine r_istore (pc1 := 13) dX11_commonDivisor_11 (by decide) rfl rfl rfl ?_
  exact r_wk (t_lp_X11_commonDivisor_13 s0 FU v1 v2 0) ⟨Or.inl rfl, Or.inl rfl, Or.inr rfl, Or.inr rfl, Or.inr rfl, Or.inl rfl, trivial⟩
/-! f_X11_reduced -/
noncomputable def f_X11_reduced (a1 : Int32) (a2 : Int32) (a3 : Int32) (s0 : SS) : Option Int32 := bdp (f_X11_commonDivisor a2 a3 s0) (fun (v1 : Int32) => if (v1 : Int32) = 0 then some a1 else gd (¬ (v1 : Int32) = 0) (some (a1 / v1)))
set_option maxRecDepth 100000 in
set_option maxHeartbeats 4000000 in
theorem c_X11_reduced {l : Launch} (a1 : Int32) (a2 : Int32) (a3 : Int32) (s0 : SS) : Ct l wF yX11_reduced cX11_reduced 4 (some .int) 2 [.int a1, .int a2, .int a3] s0 (pu (f_X11_reduced a1 a2 a3 s0) s0) := by
  refine ct_of (y := yX11_reduced) plX11 (Nat.le_of_ble_eq_true rfl) ?_
  refine r_pad0 1 (L1 := [.int a1, .int a2, .int a3, .null]) rfl ?_
  unfold f_X11_reduced
  refine r_iload_n (pc1 := 1) (i := 1) dX11_reduced_0 rfl rfl rfl ?_
  refine r_iload_n (pc1 := 2) (i := 2) dX11_reduced_1 rfl rfl rfl ?_
  refine p_callSp (pc1 := 5) lkX11_253 (c_X11_commonDivisor _ _ _) rfl rfl ⟨Nat.le_of_ble_eq_true rfl, Nat.le_of_ble_eq_true rfl⟩ (Nat.le_of_ble_eq_true rfl) dX11_reduced_2 rfl (fun v1 => ?_)
  refine r_istore_n (pc1 := 6) (i := 3) dX11_reduced_5 rfl (by decide) rfl rfl rfl ?_
  refine r_iload_n (pc1 := 7) (i := 3) dX11_reduced_6 rfl rfl rfl ?_
  refine p_if_ne (tgt := 14) (pc1 := 10) dX11_reduced_7 (by decide) rfl (fun q2 => ?_) (fun q2 => ?_)
  · refine r_iload_n (pc1 := 11) (i := 0) dX11_reduced_10 rfl rfl rfl ?_
    refine r_goto (tgt := 17) dX11_reduced_11 (by decide) ?_
    exact p_iret rfl rfl dX11_reduced_17
  · refine r_iload_n (pc1 := 15) (i := 0) dX11_reduced_14 rfl rfl rfl ?_
    refine r_iload_n (pc1 := 16) (i := 3) dX11_reduced_15 rfl rfl rfl ?_
    refine p_idiv (pc1 := 17) dX11_reduced_16 rfl ?_
    exact p_iret rfl rfl dX11_reduced_17
/-! f_X11_mean -/
noncomputable def f_X11_mean (a1 : Int32) (s0 : SS) : Res := jn (fun (v1 : Int32) => jn (fun (v3 : Int32) => jn (bd (f_X5_find (s0 52 0) (s0 52 1) s0) (fun (v6 : Int32) (s7 : SS) => if (a1 : Int32) = 0 then some (s7 39 3, s7) else if (a1 : Int32) = (1 : Int32) then some (s7 39 4, s7) else gd (¬ (10 : Int32) = 0) (bd (f_X5_sumOf (a1 - a1 / 10 * 10) s7) (fun (v10 : Int32) (s11 : SS) => jn (fun (v12 : Int32) => bdp (f_X11_reduced v12 v10 (s11 39 4) s11) (fun (v14 : Int32) => some (v14, s11))) (fun (k13 : Int32 → Res) => if (v1 : Int32) = 0 then k13 (s11 39 4) else k13 v10))))) (fun (k5 : Res) => if (a1 : Int32) = 0 then k5 else if (a1 : Int32) = (1 : Int32) then k5 else if (v1 : Int32) = 0 then if (v3 : Int32) = 0 then some ((-1000000), s0) else k5 else k5)) (fun (k4 : Int32 → Res) => jn (k4 0) (fun (k20 : Res) => if (a1 : Int32) < (20 : Int32) then k20 else if (23 : Int32) < (a1 : Int32) then k20 else k4 1))) (fun (k2 : Int32 → Res) => jn (k2 0) (fun (k23 : Res) => if (a1 : Int32) < (10 : Int32) then k23 else if (13 : Int32) < (a1 : Int32) then k23 else k2 1))
set_option maxRecDepth 100000 in
set_option maxHeartbeats 4000000 in
theorem c_X11_mean {l : Launch} (a1 : Int32) (s0 : SS) : Ct l wF yX11_mean cX11_mean 5 (some .int) 7 [.ref 0, .int a1] s0 (f_X11_mean a1 s0) := by
  refine ct_of (y := yX11_mean) plX11 (Nat.le_of_ble_eq_true rfl) ?_
  refine r_pad0 3 (L1 := [.ref 0, .int a1, .null, .null, .null]) rfl ?_
  unfold f_X11_mean
  refine r_iload_n (pc1 := 1) (i := 1) dX11_mean_0 rfl rfl rfl ?_
  refine r_bipush (v := 10) (pc1 := 3) dX11_mean_1 kb_10 rfl ?_
  refine r_jn (hyp := fun (k2 : Int32 → Res) => ∀ (v1 : Int32), RC l wF RX11 cX11_mean 5 (some .int) 7 17 [.ref 0, .int a1, .null, .null, .null] [.int v1] s0 (k2 v1)) (fun v1 => ?_) (fun k2 hk2 => ?_)
  · refine r_istore_n (pc1 := 18) (i := 2) dX11_mean_17 rfl (by decide) rfl rfl rfl ?_
    refine r_iload_n (pc1 := 19) (i := 1) dX11_mean_18 rfl rfl rfl ?_
    refine r_bipush (v := 20) (pc1 := 21) dX11_mean_19 kb_20 rfl ?_
    refine r_jn (hyp := fun (k4 : Int32 → Res) => ∀ (v3 : Int32), RC l wF RX11 cX11_mean 5 (some .int) 7 35 [.ref 0, .int a1, .int v1, .null, .null] [.int v3] s0 (k4 v3)) (fun v3 => ?_) (fun k4 hk4 => ?_)
    · refine r_istore_n (pc1 := 36) (i := 3) dX11_mean_35 rfl (by decide) rfl rfl rfl ?_
      refine r_iload_n (pc1 := 37) (i := 1) dX11_mean_36 rfl rfl rfl ?_
      refine r_jn (hyp := fun (k5 : Res) => RC l wF RX11 cX11_mean 5 (some .int) 7 56 [.ref 0, .int a1, .int v1, .null, .null] [] s0 k5) (?_) (fun k5 hk5 => ?_)
      · refine r_aload_n (pc1 := 57) (i := 0) dX11_mean_56 rfl rfl rfl ?_
        refine r_getR (pc1 := 60) w_0 gfX11_60 rfl dX11_mean_57 rfl ?_
        refine r_aload_n (pc1 := 61) (i := 0) dX11_mean_60 rfl rfl rfl ?_
        refine r_getR (pc1 := 64) w_0 gfX11_88 rfl dX11_mean_61 rfl ?_
        refine r_getI (pc1 := 67) w_52 gfX11_122 rfl dX11_mean_64 rfl ?_
        refine r_aload_n (pc1 := 68) (i := 0) dX11_mean_67 rfl rfl rfl ?_
        refine r_getR (pc1 := 71) w_0 gfX11_88 rfl dX11_mean_68 rfl ?_
        refine r_getI (pc1 := 74) w_52 gfX11_139 rfl dX11_mean_71 rfl ?_
        refine r_callVv (pc1 := 77) (rv_of w_39 cl_5) lkX11_238 (c_X5_find _ _ _) rfl rfl ⟨Nat.le_of_ble_eq_true rfl, Nat.le_of_ble_eq_true rfl⟩ (Nat.le_of_ble_eq_true rfl) dX11_mean_74 rfl (fun v6 s7 => ?_)
        refine r_iload_n (pc1 := 78) (i := 1) dX11_mean_77 rfl rfl rfl ?_
        refine r_if_ne (tgt := 89) (pc1 := 81) dX11_mean_78 (by decide) rfl (fun q8 => ?_) (fun q8 => ?_)
        · refine r_aload_n (pc1 := 82) (i := 0) dX11_mean_81 rfl rfl rfl ?_
          refine r_getR (pc1 := 85) w_0 gfX11_60 rfl dX11_mean_82 rfl ?_
          refine r_getI (pc1 := 88) w_39 gfX11_242 rfl dX11_mean_85 rfl ?_
          exact r_iret rfl rfl dX11_mean_88
        · refine r_iload_n (pc1 := 90) (i := 1) dX11_mean_89 rfl rfl rfl ?_
          refine r_iconst (v := 1) (pc1 := 91) dX11_mean_90 ki_1 rfl ?_
          refine r_icmp_ne (tgt := 102) (pc1 := 94) dX11_mean_91 (by decide) rfl (fun q9 => ?_) (fun q9 => ?_)
          · refine r_aload_n (pc1 := 95) (i := 0) dX11_mean_94 rfl rfl rfl ?_
            refine r_getR (pc1 := 98) w_0 gfX11_60 rfl dX11_mean_95 rfl ?_
            refine r_getI (pc1 := 101) w_39 gfX11_245 rfl dX11_mean_98 rfl ?_
            exact r_iret rfl rfl dX11_mean_101
          · refine r_aload_n (pc1 := 103) (i := 0) dX11_mean_102 rfl rfl rfl ?_
            refine r_getR (pc1 := 106) w_0 gfX11_60 rfl dX11_mean_103 rfl ?_
            refine r_iload_n (pc1 := 107) (i := 1) dX11_mean_106 rfl rfl rfl ?_
            refine r_bipush (v := 10) (pc1 := 109) dX11_mean_107 kb_10 rfl ?_
            refine r_irem (pc1 := 110) dX11_mean_109 rfl ?_
            refine r_callVi (pc1 := 113) (rv_of w_39 cl_5) lkX11_246 (c_X5_sumOf _ _) rfl rfl ⟨Nat.le_of_ble_eq_true rfl, Nat.le_of_ble_eq_true rfl⟩ (Nat.le_of_ble_eq_true rfl) dX11_mean_110 rfl (fun v10 s11 => ?_)
            refine r_istore (pc1 := 115) dX11_mean_113 (by decide) rfl rfl rfl ?_
            refine r_iload_n (pc1 := 116) (i := 2) dX11_mean_115 rfl rfl rfl ?_
            refine r_jn (hyp := fun (k13 : Int32 → Res) => ∀ (v12 : Int32), RC l wF RX11 cX11_mean 5 (some .int) 7 131 [.ref 0, .null, .null, .null, .int v10] [.int v12] s11 (k13 v12)) (fun v12 => ?_) (fun k13 hk13 => ?_)
            · refine r_iload (pc1 := 133) dX11_mean_131 rfl rfl ?_
              refine r_aload_n (pc1 := 134) (i := 0) dX11_mean_133 rfl rfl rfl ?_
              refine r_getR (pc1 := 137) w_0 gfX11_60 rfl dX11_mean_134 rfl ?_
              refine r_getI (pc1 := 140) w_39 gfX11_245 rfl dX11_mean_137 rfl ?_
              refine r_callSp (pc1 := 143) lkX11_249 (c_X11_reduced _ _ _ _) rfl rfl ⟨Nat.le_of_ble_eq_true rfl, Nat.le_of_ble_eq_true rfl⟩ (Nat.le_of_ble_eq_true rfl) dX11_mean_140 rfl (fun v14 => ?_)
              exact r_iret rfl rfl dX11_mean_143
            · refine r_if_eq (tgt := 124) (pc1 := 119) dX11_mean_116 (by decide) rfl (fun q15 => ?_) (fun q15 => ?_)
              · refine r_aload_n (pc1 := 125) (i := 0) dX11_mean_124 rfl rfl rfl ?_
                refine r_getR (pc1 := 128) w_0 gfX11_60 rfl dX11_mean_125 rfl ?_
                refine r_getI (pc1 := 131) w_39 gfX11_245 rfl dX11_mean_128 rfl ?_
                exact r_wk (hk13 (s11 39 4)) ⟨Or.inr rfl, Or.inl rfl, Or.inl rfl, Or.inl rfl, Or.inr rfl, trivial⟩
              · refine r_iload (pc1 := 121) dX11_mean_119 rfl rfl ?_
                refine r_goto (tgt := 131) dX11_mean_121 (by decide) ?_
                exact r_wk (hk13 v10) ⟨Or.inr rfl, Or.inl rfl, Or.inl rfl, Or.inl rfl, Or.inr rfl, trivial⟩
      · refine r_if_eq (tgt := 56) (pc1 := 40) dX11_mean_37 (by decide) rfl (fun q16 => ?_) (fun q16 => ?_)
        · exact r_wk (hk5) ⟨Or.inr rfl, Or.inr rfl, Or.inr rfl, Or.inl rfl, Or.inl rfl, trivial⟩
        · refine r_iload_n (pc1 := 41) (i := 1) dX11_mean_40 rfl rfl rfl ?_
          refine r_iconst (v := 1) (pc1 := 42) dX11_mean_41 ki_1 rfl ?_
          refine r_icmp_eq (tgt := 56) (pc1 := 45) dX11_mean_42 (by decide) rfl (fun q17 => ?_) (fun q17 => ?_)
          · exact r_wk (hk5) ⟨Or.inr rfl, Or.inr rfl, Or.inr rfl, Or.inl rfl, Or.inl rfl, trivial⟩
          · refine r_iload_n (pc1 := 46) (i := 2) dX11_mean_45 rfl rfl rfl ?_
            refine r_if_ne (tgt := 56) (pc1 := 49) dX11_mean_46 (by decide) rfl (fun q18 => ?_) (fun q18 => ?_)
            · refine r_iload_n (pc1 := 50) (i := 3) dX11_mean_49 rfl rfl rfl ?_
              refine r_if_ne (tgt := 56) (pc1 := 53) dX11_mean_50 (by decide) rfl (fun q19 => ?_) (fun q19 => ?_)
              · refine r_ldc (v := (-1000000)) (pc1 := 55) dX11_mean_53 cnX11_191 rfl ?_
                exact r_iret rfl rfl dX11_mean_55
              · exact r_wk (hk5) ⟨Or.inr rfl, Or.inr rfl, Or.inr rfl, Or.inl rfl, Or.inl rfl, trivial⟩
            · exact r_wk (hk5) ⟨Or.inr rfl, Or.inr rfl, Or.inr rfl, Or.inl rfl, Or.inl rfl, trivial⟩
    · refine r_jn (hyp := fun (k20 : Res) => RC l wF RX11 cX11_mean 5 (some .int) 7 34 [.ref 0, .int a1, .int v1, .null, .null] [] s0 k20) (?_) (fun k20 hk20 => ?_)
      · refine r_iconst (v := 0) (pc1 := 35) dX11_mean_34 ki_0 rfl ?_
        exact r_wk (hk4 0) ⟨Or.inr rfl, Or.inr rfl, Or.inr rfl, Or.inl rfl, Or.inl rfl, trivial⟩
      · refine r_icmp_lt (tgt := 34) (pc1 := 24) dX11_mean_21 (by decide) rfl (fun q21 => ?_) (fun q21 => ?_)
        · exact r_wk (hk20) ⟨Or.inr rfl, Or.inr rfl, Or.inr rfl, Or.inl rfl, Or.inl rfl, trivial⟩
        · refine r_iload_n (pc1 := 25) (i := 1) dX11_mean_24 rfl rfl rfl ?_
          refine r_bipush (v := 23) (pc1 := 27) dX11_mean_25 kb_23 rfl ?_
          refine r_icmp_gt (tgt := 34) (pc1 := 30) dX11_mean_27 (by decide) rfl (fun q22 => ?_) (fun q22 => ?_)
          · exact r_wk (hk20) ⟨Or.inr rfl, Or.inr rfl, Or.inr rfl, Or.inl rfl, Or.inl rfl, trivial⟩
          · refine r_iconst (v := 1) (pc1 := 31) dX11_mean_30 ki_1 rfl ?_
            refine r_goto (tgt := 35) dX11_mean_31 (by decide) ?_
            exact r_wk (hk4 1) ⟨Or.inr rfl, Or.inr rfl, Or.inr rfl, Or.inl rfl, Or.inl rfl, trivial⟩
  · refine r_jn (hyp := fun (k23 : Res) => RC l wF RX11 cX11_mean 5 (some .int) 7 16 [.ref 0, .int a1, .null, .null, .null] [] s0 k23) (?_) (fun k23 hk23 => ?_)
    · refine r_iconst (v := 0) (pc1 := 17) dX11_mean_16 ki_0 rfl ?_
      exact r_wk (hk2 0) ⟨Or.inr rfl, Or.inr rfl, Or.inl rfl, Or.inl rfl, Or.inl rfl, trivial⟩
    · refine r_icmp_lt (tgt := 16) (pc1 := 6) dX11_mean_3 (by decide) rfl (fun q24 => ?_) (fun q24 => ?_)
      · exact r_wk (hk23) ⟨Or.inr rfl, Or.inr rfl, Or.inl rfl, Or.inl rfl, Or.inl rfl, trivial⟩
      · refine r_iload_n (pc1 := 7) (i := 1) dX11_mean_6 rfl rfl rfl ?_
        refine r_bipush (v := 13) (pc1 := 9) dX11_mean_7 kb_13 rfl ?_
        refine r_icmp_gt (tgt := 16) (pc1 := 12) dX11_mean_9 (by decide) rfl (fun q25 => ?_) (fun q25 => ?_)
        · exact r_wk (hk23) ⟨Or.inr rfl, Or.inr rfl, Or.inl rfl, Or.inl rfl, Or.inl rfl, trivial⟩
        · refine r_iconst (v := 1) (pc1 := 13) dX11_mean_12 ki_1 rfl ?_
          refine r_goto (tgt := 17) dX11_mean_13 (by decide) ?_
          exact r_wk (hk2 1) ⟨Or.inr rfl, Or.inr rfl, Or.inl rfl, Or.inl rfl, Or.inl rfl, trivial⟩
/-! f_X2_placeAfterDays -/
noncomputable def f_X2_placeAfterDays (a1 : Int32) (a2 : Int32) (s0 : SS) : Option Int32 := if (1 : Int32) ≤ (s0 35 5 : Int32) then gd (¬ ((s0 35 5) : Int32) = 0) (some ((a1 + a2) - (a1 + a2) / (s0 35 5) * (s0 35 5))) else some 0
set_option maxRecDepth 100000 in
set_option maxHeartbeats 4000000 in
theorem c_X2_placeAfterDays {l : Launch} (a1 : Int32) (a2 : Int32) (s0 : SS) : Ct l wF yX2_placeAfterDays cX2_placeAfterDays 3 (some .int) 0 [.ref 35, .int a1, .int a2] s0 (pu (f_X2_placeAfterDays a1 a2 s0) s0) := by
  refine ct_of (y := yX2_placeAfterDays) plX2 (Nat.le_of_ble_eq_true rfl) ?_
  refine r_pad0 0 (L1 := [.ref 35, .int a1, .int a2]) rfl ?_
  unfold f_X2_placeAfterDays
  refine r_aload_n (pc1 := 1) (i := 0) dX2_placeAfterDays_0 rfl rfl rfl ?_
  refine r_getI (pc1 := 4) w_35 gfX2_21 rfl dX2_placeAfterDays_1 rfl ?_
  refine r_iconst (v := 1) (pc1 := 5) dX2_placeAfterDays_4 ki_1 rfl ?_
  refine p_icmp_ge (tgt := 12) (pc1 := 8) dX2_placeAfterDays_5 (by decide) rfl (fun q1 => ?_) (fun q1 => ?_)
  · refine r_iload_n (pc1 := 13) (i := 1) dX2_placeAfterDays_12 rfl rfl rfl ?_
    refine r_iload_n (pc1 := 14) (i := 2) dX2_placeAfterDays_13 rfl rfl rfl ?_
    refine r_iadd (pc1 := 15) dX2_placeAfterDays_14 rfl ?_
    refine r_aload_n (pc1 := 16) (i := 0) dX2_placeAfterDays_15 rfl rfl rfl ?_
    refine r_getI (pc1 := 19) w_35 gfX2_21 rfl dX2_placeAfterDays_16 rfl ?_
    refine p_irem (pc1 := 20) dX2_placeAfterDays_19 rfl ?_
    exact p_iret rfl rfl dX2_placeAfterDays_20
  · refine r_iconst (v := 0) (pc1 := 9) dX2_placeAfterDays_8 ki_0 rfl ?_
    refine r_goto (tgt := 20) dX2_placeAfterDays_9 (by decide) ?_
    exact p_iret rfl rfl dX2_placeAfterDays_20
/-! f_J7_rangeCheck_23922 -/
noncomputable def f_J7_rangeCheck_23922 (a1 : Int32) (a2 : Int32) (a3 : Int32) (s0 : SS) : Res := if (a2 : Int32) ≤ (a3 : Int32) then if (0 : Int32) ≤ a2 then if (a3 : Int32) ≤ (a1 : Int32) then some (0, s0) else none else none else none
set_option maxRecDepth 100000 in
set_option maxHeartbeats 4000000 in
theorem c_J7_rangeCheck_23922 {l : Launch} (a1 : Int32) (a2 : Int32) (a3 : Int32) (s0 : SS) : Ct l wF yJ7_rangeCheck_23922 cJ7_rangeCheck_23922 3 none 0 [.int a1, .int a2, .int a3] s0 (f_J7_rangeCheck_23922 a1 a2 a3 s0) := by
  refine ct_of (y := yJ7_rangeCheck_23922) plJ7 (Nat.le_of_ble_eq_true rfl) ?_
  refine r_pad0 0 (L1 := [.int a1, .int a2, .int a3]) rfl ?_
  unfold f_J7_rangeCheck_23922
  refine r_iload_n (pc1 := 1) (i := 1) dJ7_rangeCheck_23922_0 rfl rfl rfl ?_
  refine r_iload_n (pc1 := 2) (i := 2) dJ7_rangeCheck_23922_1 rfl rfl rfl ?_
  refine r_icmp_le (tgt := 46) (pc1 := 5) dJ7_rangeCheck_23922_2 (by decide) rfl (fun q1 => ?_) (fun q1 => ?_)
  · refine r_iload_n (pc1 := 47) (i := 1) dJ7_rangeCheck_23922_46 rfl rfl rfl ?_
    refine r_if_ge (tgt := 59) (pc1 := 50) dJ7_rangeCheck_23922_47 (by decide) rfl (fun q2 => ?_) (fun q2 => ?_)
    · refine r_iload_n (pc1 := 60) (i := 2) dJ7_rangeCheck_23922_59 rfl rfl rfl ?_
      refine r_iload_n (pc1 := 61) (i := 0) dJ7_rangeCheck_23922_60 rfl rfl rfl ?_
      refine r_icmp_le (tgt := 73) (pc1 := 64) dJ7_rangeCheck_23922_61 (by decide) rfl (fun q3 => ?_) (fun q3 => ?_)
      · exact r_vret rfl dJ7_rangeCheck_23922_73
      · exact r_none
    · exact r_none
  · exact r_none
/-! f_J7_fill_bad5a_42 -/
noncomputable def lp_J7_fill_bad5a_42_10 (a2 : Int32) (a3 : Int64) : Nat → Int32 → SS → Res
  | 0, _, _ => none
  | n5 + 1, v3, s4 => if (a2 : Int32) ≤ (v3 : Int32) then some (0, s4) else gd (inb v3 5348) (lts (upl s4 42 (Int32.toNatClampNeg v3) a3) (fun (s7 : SS) => lp_J7_fill_bad5a_42_10 a2 a3 n5 (v3 + 1) s7))
noncomputable def f_J7_fill_bad5a_42 (a1 : Int32) (a2 : Int32) (a3 : Int64) (s0 : SS) : Res := bd (f_J7_rangeCheck_23922 5348 a1 a2 s0) (fun (v1 : Int32) (s2 : SS) => lp_J7_fill_bad5a_42_10 a2 a3 FU a1 s2)
set_option maxRecDepth 100000 in
set_option maxHeartbeats 4000000 in
theorem t_lp_J7_fill_bad5a_42_10 {l : Launch} (a2 : Int32) (a3 : Int64)  : ∀ (n5 : Nat) (v3 : Int32) (s4 : SS), RC l wF RJ7 cJ7_fill_bad5a 6 none 1 10 [.ref 42, .null, .int a2, .long a3, .null, .int v3] [] s4 (lp_J7_fill_bad5a_42_10 a2 a3 n5 v3 s4) := by
  intro n5
  induction n5 with
  | zero =>
    intro v3 s4
    rw [lp_J7_fill_bad5a_42_10]
    exact r_none
  | succ n5 ih =>
    intro v3 s4
    rw [lp_J7_fill_bad5a_42_10]
    refine r_iload (pc1 := 12) dJ7_fill_bad5a_10 rfl rfl ?_
    refine r_iload_n (pc1 := 13) (i := 2) dJ7_fill_bad5a_12 rfl rfl rfl ?_
    refine r_icmp_ge (tgt := 27) (pc1 := 16) dJ7_fill_bad5a_13 (by decide) rfl (fun q6 => ?_) (fun q6 => ?_)
    · exact r_vret rfl dJ7_fill_bad5a_27
    · refine r_aload_n (pc1 := 17) (i := 0) dJ7_fill_bad5a_16 rfl rfl rfl ?_
      refine r_iload (pc1 := 19) dJ7_fill_bad5a_17 rfl rfl ?_
      refine r_lload_n (pc1 := 20) (i := 3) dJ7_fill_bad5a_19 rfl rfl rfl ?_
      refine r_last (pc1 := 21) w_42 dJ7_fill_bad5a_20 rfl ?_
      refine r_lts (fun s7 => ?_)
      refine r_iinc (pc1 := 24) dJ7_fill_bad5a_21 rfl (kn_1 _) (by decide) rfl rfl rfl ?_
      refine r_goto (tgt := 10) dJ7_fill_bad5a_24 (by decide) ?_
      exact r_wk (ih (v3 + 1) s7) ⟨Or.inr rfl, Or.inl rfl, Or.inr rfl, Or.inr rfl, Or.inl rfl, Or.inr rfl, trivial⟩
set_option maxRecDepth 100000 in
set_option maxHeartbeats 4000000 in
theorem c_J7_fill_bad5a_42 {l : Launch} (a1 : Int32) (a2 : Int32) (a3 : Int64) (s0 : SS) : Ct l wF yJ7_fill_bad5a cJ7_fill_bad5a 6 none 1 [.ref 42, .int a1, .int a2, .long a3] s0 (f_J7_fill_bad5a_42 a1 a2 a3 s0) := by
  refine ct_of (y := yJ7_fill_bad5a) plJ7 (Nat.le_of_ble_eq_true rfl) ?_
  refine r_pad0 1 (L1 := [.ref 42, .int a1, .int a2, .long a3, .null, .null]) rfl ?_
  unfold f_J7_fill_bad5a_42
  refine r_aload_n (pc1 := 1) (i := 0) dJ7_fill_bad5a_0 rfl rfl rfl ?_
  refine r_alenL (t := 3) (v := 5348) (pc1 := 2) w_42 (fun _ => rfl) (al_5348) dJ7_fill_bad5a_1 rfl ?_
  refine r_iload_n (pc1 := 3) (i := 1) dJ7_fill_bad5a_2 rfl rfl rfl ?_
  refine r_iload_n (pc1 := 4) (i := 2) dJ7_fill_bad5a_3 rfl rfl rfl ?_
  refine r_callSv (pc1 := 7) lkJ7_13 (c_J7_rangeCheck_23922 _ _ _ _) rfl rfl ⟨Nat.le_of_ble_eq_true rfl, Nat.le_of_ble_eq_true rfl⟩ (Nat.le_of_ble_eq_true rfl) dJ7_fill_bad5a_4 rfl (fun v1 s2 => ?_)
  refine r_iload_n (pc1 := 8) (i := 1) dJ7_fill_bad5a_7 rfl rfl rfl ?_
  refine r_istore (pc1 := 10) dJ7_fill_bad5a_8 (by decide) rfl rfl rfl ?_
  exact r_wk (t_lp_J7_fill_bad5a_42_10 a2 a3 FU a1 s2) ⟨Or.inr rfl, Or.inl rfl, Or.inr rfl, Or.inr rfl, Or.inl rfl, Or.inr rfl, trivial⟩
/-! f_X3_recall -/
noncomputable def f_X3_recall (a1 : Int32) (a2 : Int32) (a3 : Int32) (a4 : Int32) (s0 : SS) : Res := jn (fun (v1 : Int32) => jn (lts (up s0 41 8 a4) (fun (s4 : SS) => lts (up s4 41 9 a1) (fun (s5 : SS) => lts (up s5 41 10 a2) (fun (s6 : SS) => lts (up s6 41 7 a3) (fun (s7 : SS) => bdp (f_X6_bareOf a1 s7) (fun (v8 : Int32) => bdp (f_X6_bareOf (a1 + 1) s7) (fun (v9 : Int32) => bd (f_J7_fill_bad5a_42 v8 v9 0 s7) (fun (v10 : Int32) (s11 : SS) => some (0, s11))))))))) (fun (k3 : Res) => if (v1 : Int32) = 0 then k3 else if (s0 41 10 : Int32) = (a2 : Int32) then if (s0 41 7 : Int32) = (a3 : Int32) then some (0, s0) else k3 else k3)) (fun (k2 : Int32 → Res) => jn (k2 0) (fun (k15 : Res) => if (s0 41 8 : Int32) = (a4 : Int32) then if (s0 41 9 : Int32) = (a1 : Int32) then k2 1 else k15 else k15))
set_option maxRecDepth 100000 in
set_option maxHeartbeats 4000000 in
theorem c_X3_recall {l : Launch} (a1 : Int32) (a2 : Int32) (a3 : Int32) (a4 : Int32) (s0 : SS) : Ct l wF yX3_recall cX3_recall 6 none 2 [.ref 41, .int a1, .int a2, .int a3, .int a4] s0 (f_X3_recall a1 a2 a3 a4 s0) := by
  refine ct_of (y := yX3_recall) plX3 (Nat.le_of_ble_eq_true rfl) ?_
  refine r_pad0 1 (L1 := [.ref 41, .int a1, .int a2, .int a3, .int a4, .null]) rfl ?_
  unfold f_X3_recall
  refine r_aload_n (pc1 := 1) (i := 0) dX3_recall_0 rfl rfl rfl ?_
  refine r_getI (pc1 := 4) w_41 gfX3_28 rfl dX3_recall_1 rfl ?_
  refine r_iload (pc1 := 6) dX3_recall_4 rfl rfl ?_
  refine r_jn (hyp := fun (k2 : Int32 → Res) => ∀ (v1 : Int32), RC l wF RX3 cX3_recall 6 none 2 22 [.ref 41, .int a1, .int a2, .int a3, .int a4, .null] [.int v1] s0 (k2 v1)) (fun v1 => ?_) (fun k2 hk2 => ?_)
  · refine r_istore (pc1 := 24) dX3_recall_22 (by decide) rfl rfl rfl ?_
    refine r_iload (pc1 := 26) dX3_recall_24 rfl rfl ?_
    refine r_jn (hyp := fun (k3 : Res) => RC l wF RX3 cX3_recall 6 none 2 46 [.ref 41, .int a1, .int a2, .int a3, .int a4, .null] [] s0 k3) (?_) (fun k3 hk3 => ?_)
    · refine r_aload_n (pc1 := 47) (i := 0) dX3_recall_46 rfl rfl rfl ?_
      refine r_iload (pc1 := 49) dX3_recall_47 rfl rfl ?_
      refine r_putI (pc1 := 52) w_41 pfX3_28 rfl ⟨rfl, rfl⟩ dX3_recall_49 rfl ?_
      refine r_lts (fun s4 => ?_)
      refine r_aload_n (pc1 := 53) (i := 0) dX3_recall_52 rfl rfl rfl ?_
      refine r_iload_n (pc1 := 54) (i := 1) dX3_recall_53 rfl rfl rfl ?_
      refine r_putI (pc1 := 57) w_41 pfX3_90 rfl ⟨rfl, rfl⟩ dX3_recall_54 rfl ?_
      refine r_lts (fun s5 => ?_)
      refine r_aload_n (pc1 := 58) (i := 0) dX3_recall_57 rfl rfl rfl ?_
      refine r_iload_n (pc1 := 59) (i := 2) dX3_recall_58 rfl rfl rfl ?_
      refine r_putI (pc1 := 62) w_41 pfX3_93 rfl ⟨rfl, rfl⟩ dX3_recall_59 rfl ?_
      refine r_lts (fun s6 => ?_)
      refine r_aload_n (pc1 := 63) (i := 0) dX3_recall_62 rfl rfl rfl ?_
      refine r_iload_n (pc1 := 64) (i := 3) dX3_recall_63 rfl rfl rfl ?_
      refine r_putI (pc1 := 67) w_41 pfX3_96 rfl ⟨rfl, rfl⟩ dX3_recall_64 rfl ?_
      refine r_lts (fun s7 => ?_)
      refine r_aload_n (pc1 := 68) (i := 0) dX3_recall_67 rfl rfl rfl ?_
      refine r_getR (pc1 := 71) w_41 gfX3_11 rfl dX3_recall_68 rfl ?_
      refine r_iload_n (pc1 := 72) (i := 1) dX3_recall_71 rfl rfl rfl ?_
      refine r_callSp (pc1 := 75) lkX3_99 (c_X6_bareOf w_3 w_4 w_8 _ _) rfl rfl ⟨Nat.le_of_ble_eq_true rfl, Nat.le_of_ble_eq_true rfl⟩ (Nat.le_of_ble_eq_true rfl) dX3_recall_72 rfl (fun v8 => ?_)
      refine r_iload_n (pc1 := 76) (i := 1) dX3_recall_75 rfl rfl rfl ?_
      refine r_iconst (v := 1) (pc1 := 77) dX3_recall_76 ki_1 rfl ?_
      refine r_iadd (pc1 := 78) dX3_recall_77 rfl ?_
      refine r_callSp (pc1 := 81) lkX3_99 (c_X6_bareOf w_3 w_4 w_8 _ _) rfl rfl ⟨Nat.le_of_ble_eq_true rfl, Nat.le_of_ble_eq_true rfl⟩ (Nat.le_of_ble_eq_true rfl) dX3_recall_78 rfl (fun v9 => ?_)
      refine r_lconst (v := 0) (pc1 := 82) dX3_recall_81 kl_0 rfl ?_
      refine r_callSv (pc1 := 85) lkX3_102 (c_J7_fill_bad5a_42 _ _ _ _) rfl rfl ⟨Nat.le_of_ble_eq_true rfl, Nat.le_of_ble_eq_true rfl⟩ (Nat.le_of_ble_eq_true rfl) dX3_recall_82 rfl (fun v10 s11 => ?_)
      exact r_vret rfl dX3_recall_85
    · refine r_if_eq (tgt := 46) (pc1 := 29) dX3_recall_26 (by decide) rfl (fun q12 => ?_) (fun q12 => ?_)
      · exact r_wk (hk3) ⟨Or.inr rfl, Or.inr rfl, Or.inr rfl, Or.inr rfl, Or.inr rfl, Or.inl rfl, trivial⟩
      · refine r_aload_n (pc1 := 30) (i := 0) dX3_recall_29 rfl rfl rfl ?_
        refine r_getI (pc1 := 33) w_41 gfX3_93 rfl dX3_recall_30 rfl ?_
        refine r_iload_n (pc1 := 34) (i := 2) dX3_recall_33 rfl rfl rfl ?_
        refine r_icmp_ne (tgt := 46) (pc1 := 37) dX3_recall_34 (by decide) rfl (fun q13 => ?_) (fun q13 => ?_)
        · refine r_aload_n (pc1 := 38) (i := 0) dX3_recall_37 rfl rfl rfl ?_
          refine r_getI (pc1 := 41) w_41 gfX3_96 rfl dX3_recall_38 rfl ?_
          refine r_iload_n (pc1 := 42) (i := 3) dX3_recall_41 rfl rfl rfl ?_
          refine r_icmp_ne (tgt := 46) (pc1 := 45) dX3_recall_42 (by decide) rfl (fun q14 => ?_) (fun q14 => ?_)
          · exact r_vret rfl dX3_recall_45
          · exact r_wk (hk3) ⟨Or.inr rfl, Or.inr rfl, Or.inr rfl, Or.inr rfl, Or.inr rfl, Or.inl rfl, trivial⟩
        · exact r_wk (hk3) ⟨Or.inr rfl, Or.inr rfl, Or.inr rfl, Or.inr rfl, Or.inr rfl, Or.inl rfl, trivial⟩
  · refine r_jn (hyp := fun (k15 : Res) => RC l wF RX3 cX3_recall 6 none 2 21 [.ref 41, .int a1, .int a2, .int a3, .int a4, .null] [] s0 k15) (?_) (fun k15 hk15 => ?_)
    · refine r_iconst (v := 0) (pc1 := 22) dX3_recall_21 ki_0 rfl ?_
      exact r_wk (hk2 0) ⟨Or.inr rfl, Or.inr rfl, Or.inr rfl, Or.inr rfl, Or.inr rfl, Or.inl rfl, trivial⟩
    · refine r_icmp_ne (tgt := 21) (pc1 := 9) dX3_recall_6 (by decide) rfl (fun q16 => ?_) (fun q16 => ?_)
      · refine r_aload_n (pc1 := 10) (i := 0) dX3_recall_9 rfl rfl rfl ?_
        refine r_getI (pc1 := 13) w_41 gfX3_90 rfl dX3_recall_10 rfl ?_
        refine r_iload_n (pc1 := 14) (i := 1) dX3_recall_13 rfl rfl rfl ?_
        refine r_icmp_ne (tgt := 21) (pc1 := 17) dX3_recall_14 (by decide) rfl (fun q17 => ?_) (fun q17 => ?_)
        · refine r_iconst (v := 1) (pc1 := 18) dX3_recall_17 ki_1 rfl ?_
          refine r_goto (tgt := 22) dX3_recall_18 (by decide) ?_
          exact r_wk (hk2 1) ⟨Or.inr rfl, Or.inr rfl, Or.inr rfl, Or.inr rfl, Or.inr rfl, Or.inl rfl, trivial⟩
        · exact r_wk (hk15) ⟨Or.inr rfl, Or.inr rfl, Or.inr rfl, Or.inr rfl, Or.inr rfl, Or.inl rfl, trivial⟩
      · exact r_wk (hk15) ⟨Or.inr rfl, Or.inr rfl, Or.inr rfl, Or.inr rfl, Or.inr rfl, Or.inl rfl, trivial⟩
/-! f_X3_totalOf -/
noncomputable def f_X3_totalOf (a1 : Int32) (a2 : Int32) (a3 : Int32) (s0 : SS) : Option Int32 := lt ((a1 * 8) + a2) (fun (v1 : Int32) => if (a2 : Int32) < 0 then some 0 else if (v1 : Int32) < 0 then some 0 else if (v1 : Int32) < (42784 : Int32) then gd (inb v1 42784) (bdp (f_X11_slotOf (lgt (s0 43) (Int32.toNatClampNeg v1)) a3 16 s0) (fun (v5 : Int32) => some (v5 - 10000))) else some 0)
set_option maxRecDepth 100000 in
set_option maxHeartbeats 4000000 in
theorem c_X3_totalOf {l : Launch} (a1 : Int32) (a2 : Int32) (a3 : Int32) (s0 : SS) : Ct l wF yX3_totalOf cX3_totalOf 5 (some .int) 1 [.ref 41, .int a1, .int a2, .int a3] s0 (pu (f_X3_totalOf a1 a2 a3 s0) s0) := by
  refine ct_of (y := yX3_totalOf) plX3 (Nat.le_of_ble_eq_true rfl) ?_
  refine r_pad0 1 (L1 := [.ref 41, .int a1, .int a2, .int a3, .null]) rfl ?_
  unfold f_X3_totalOf
  refine r_iload_n (pc1 := 1) (i := 1) dX3_totalOf_0 rfl rfl rfl ?_
  refine r_bipush (v := 8) (pc1 := 3) dX3_totalOf_1 kb_8 rfl ?_
  refine r_imul (pc1 := 4) dX3_totalOf_3 rfl ?_
  refine r_iload_n (pc1 := 5) (i := 2) dX3_totalOf_4 rfl rfl rfl ?_
  refine r_iadd (pc1 := 6) dX3_totalOf_5 rfl ?_
  refine p_lt (fun v1 => ?_)
  refine r_istore (pc1 := 8) dX3_totalOf_6 (by decide) rfl rfl rfl ?_
  refine r_iload_n (pc1 := 9) (i := 2) dX3_totalOf_8 rfl rfl rfl ?_
  refine p_if_lt (tgt := 27) (pc1 := 12) dX3_totalOf_9 (by decide) rfl (fun q2 => ?_) (fun q2 => ?_)
  · refine r_iconst (v := 0) (pc1 := 28) dX3_totalOf_27 ki_0 rfl ?_
    exact p_iret rfl rfl dX3_totalOf_28
  · refine r_iload (pc1 := 14) dX3_totalOf_12 rfl rfl ?_
    refine p_if_lt (tgt := 27) (pc1 := 17) dX3_totalOf_14 (by decide) rfl (fun q3 => ?_) (fun q3 => ?_)
    · refine r_iconst (v := 0) (pc1 := 28) dX3_totalOf_27 ki_0 rfl ?_
      exact p_iret rfl rfl dX3_totalOf_28
    · refine r_iload (pc1 := 19) dX3_totalOf_17 rfl rfl ?_
      refine r_aload_n (pc1 := 20) (i := 0) dX3_totalOf_19 rfl rfl rfl ?_
      refine r_getR (pc1 := 23) w_41 gfX3_18 rfl dX3_totalOf_20 rfl ?_
      refine r_alenL (t := 3) (v := 42784) (pc1 := 24) w_43 (fun _ => rfl) (al_42784) dX3_totalOf_23 rfl ?_
      refine p_icmp_lt (tgt := 29) (pc1 := 27) dX3_totalOf_24 (by decide) rfl (fun q4 => ?_) (fun q4 => ?_)
      · refine r_aload_n (pc1 := 30) (i := 0) dX3_totalOf_29 rfl rfl rfl ?_
        refine r_getR (pc1 := 33) w_41 gfX3_18 rfl dX3_totalOf_30 rfl ?_
        refine r_iload (pc1 := 35) dX3_totalOf_33 rfl rfl ?_
        refine p_lald (pc1 := 36) w_43 dX3_totalOf_35 rfl ?_
        refine r_iload_n (pc1 := 37) (i := 3) dX3_totalOf_36 rfl rfl rfl ?_
        refine r_bipush (v := 16) (pc1 := 39) dX3_totalOf_37 kb_16 rfl ?_
        refine p_callSNp (pc1 := 42) lkX3_108 (c_X11_slotOf _ _ _ _) rfl rfl ⟨Nat.le_of_ble_eq_true rfl, Nat.le_of_ble_eq_true rfl⟩ (Nat.le_of_ble_eq_true rfl) dX3_totalOf_39 rfl (fun v5 => ?_)
        refine r_sipush (v := 10000) (pc1 := 45) dX3_totalOf_42 ks_10000 rfl ?_
        refine r_isub (pc1 := 46) dX3_totalOf_45 rfl ?_
        exact p_iret rfl rfl dX3_totalOf_46
      · refine r_iconst (v := 0) (pc1 := 28) dX3_totalOf_27 ki_0 rfl ?_
        exact p_iret rfl rfl dX3_totalOf_28
/-! f_X3_pickOn -/
noncomputable def lp_X3_pickOn_92 (rf : Int32 → Int32 → Int32 → SS → Res) (a1 : Int32) (a3 : Int32) (v1 : Int32) (v8 : Int32) (v9 : Int32) : Nat → Int32 → Int32 → Int32 → SS → Res
  | 0, _, _, _, _ => none
  | n18 + 1, v14, v15, v16, s17 => if (8 : Int32) ≤ (v16 : Int32) then some (v14, s17) else jn (fun (v20 : Int32) (v21 : Int32) (s22 : SS) => lp_X3_pickOn_92 rf a1 a3 v1 v8 v9 n18 v20 v21 (v16 + 1) s22) (fun (k23 : Int32 → Int32 → SS → Res) => if ((v9 >>> (v16 &&& 31)) &&& 1 : Int32) = (1 : Int32) then bdp (f_X6_behind a1 v16 s17) (fun (v25 : Int32) => bd (rf v25 v8 (a3 - 1) s17) (fun (v26 : Int32) (s27 : SS) => bdp (f_X3_totalOf v25 (a3 - 1) v1 s27) (fun (v28 : Int32) => if (v28 : Int32) ≤ (v15 : Int32) then k23 v14 v15 s27 else k23 v16 v28 s27))) else k23 v14 v15 s17)
noncomputable def f_X3_pickOn (rf : Int32 → Int32 → Int32 → SS → Res) (a1 : Int32) (a2 : Int32) (a3 : Int32) (s0 : SS) : Res := bdp (f_X2_onTurn a2 s0) (fun (v1 : Int32) => bdp (f_X11_isPerson v1 s0) (fun (v2 : Int32) => jn (bd (f_X2_choice v1 a1 s0) (fun (v4 : Int32) (s5 : SS) => some (v4, s5))) (fun (k3 : Res) => if (v2 : Int32) = 0 then k3 else if (((s0 41 7) >>> (v1 &&& 31)) &&& 1 : Int32) = 0 then k3 else bdp (f_X2_placeAfter a2 s0) (fun (v8 : Int32) => bd (f_X10_mayOf a1 v1 s0) (fun (v9 : Int32) (s10 : SS) => bd (rf a1 v8 (a3 - 1) s10) (fun (v11 : Int32) (s12 : SS) => bdp (f_X3_totalOf a1 (a3 - 1) v1 s12) (fun (v13 : Int32) => lp_X3_pickOn_92 rf a1 a3 v1 v8 v9 FU 8 v13 0 s12)))))))
set_option maxRecDepth 100000 in
set_option maxHeartbeats 4000000 in
theorem t_lp_X3_pickOn_92 {l : Launch} {dr : Nat} (hdr : 5 ≤ dr) {rf : Int32 → Int32 → Int32 → SS → Res} (hrf : ∀ (x0 x1 x2 : Int32) (z : SS), Ct l wF yX3_look cX3_look 11 none dr [.ref 41, .int x0, .int x1, .int x2] z (rf x0 x1 x2 z)) (a1 : Int32) (a3 : Int32) (v1 : Int32) (v8 : Int32) (v9 : Int32)  : ∀ (n18 : Nat) (v14 : Int32) (v15 : Int32) (v16 : Int32) (s17 : SS), RC l wF RX3 cX3_pickOn 12 (some .int) (dr + 1) 92 [.ref 41, .int a1, .null, .int a3, .int v1, .int v8, .int v9, .int v14, .int v15, .int v16, .null, .null] [] s17 (lp_X3_pickOn_92 rf a1 a3 v1 v8 v9 n18 v14 v15 v16 s17) := by
  intro n18
  induction n18 with
  | zero =>
    intro v14 v15 v16 s17
    rw [lp_X3_pickOn_92]
    exact r_none
  | succ n18 ih =>
    intro v14 v15 v16 s17
    rw [lp_X3_pickOn_92]
    refine r_iload (pc1 := 94) dX3_pickOn_92 rfl rfl ?_
    refine r_bipush (v := 8) (pc1 := 96) dX3_pickOn_94 kb_8 rfl ?_
    refine r_icmp_ge (tgt := 167) (pc1 := 99) dX3_pickOn_96 (by decide) rfl (fun q19 => ?_) (fun q19 => ?_)
    · refine r_iload (pc1 := 169) dX3_pickOn_167 rfl rfl ?_
      exact r_iret rfl rfl dX3_pickOn_169
    · refine r_iload (pc1 := 101) dX3_pickOn_99 rfl rfl ?_
      refine r_iload (pc1 := 103) dX3_pickOn_101 rfl rfl ?_
      refine r_ishr (pc1 := 104) dX3_pickOn_103 rfl ?_
      refine r_iconst (v := 1) (pc1 := 105) dX3_pickOn_104 ki_1 rfl ?_
      refine r_iand (pc1 := 106) dX3_pickOn_105 rfl ?_
      refine r_iconst (v := 1) (pc1 := 107) dX3_pickOn_106 ki_1 rfl ?_
      refine r_jn (hyp := fun (k23 : Int32 → Int32 → SS → Res) => ∀ (v20 : Int32) (v21 : Int32) (s22 : SS), RC l wF RX3 cX3_pickOn 12 (some .int) (dr + 1) 161 [.ref 41, .int a1, .null, .int a3, .int v1, .int v8, .int v9, .int v20, .int v21, .int v16, .null, .null] [] s22 (k23 v20 v21 s22)) (fun v20 v21 s22 => ?_) (fun k23 hk23 => ?_)
      · refine r_iinc (pc1 := 164) dX3_pickOn_161 rfl (kn_1 _) (by decide) rfl rfl rfl ?_
        refine r_goto (tgt := 92) dX3_pickOn_164 (by decide) ?_
        exact r_wk (ih v20 v21 (v16 + 1) s22) ⟨Or.inr rfl, Or.inr rfl, Or.inl rfl, Or.inr rfl, Or.inr rfl, Or.inr rfl, Or.inr rfl, Or.inr rfl, Or.inr rfl, Or.inr rfl, Or.inl rfl, Or.inl rfl, trivial⟩
      · refine r_icmp_ne (tgt := 161) (pc1 := 110) dX3_pickOn_107 (by decide) rfl (fun q24 => ?_) (fun q24 => ?_)
        · refine r_aload_n (pc1 := 111) (i := 0) dX3_pickOn_110 rfl rfl rfl ?_
          refine r_getR (pc1 := 114) w_41 gfX3_32 rfl dX3_pickOn_111 rfl ?_
          refine r_iload_n (pc1 := 115) (i := 1) dX3_pickOn_114 rfl rfl rfl ?_
          refine r_iload (pc1 := 117) dX3_pickOn_115 rfl rfl ?_
          refine r_callVp (pc1 := 120) (rv_of w_3 cl_6) lkX3_74 (c_X6_behind w_3 w_4 w_8 _ _ _) rfl rfl ⟨by omega, Nat.le_of_ble_eq_true rfl⟩ (Nat.le_of_ble_eq_true rfl) dX3_pickOn_117 rfl (fun v25 => ?_)
          refine r_istore (pc1 := 122) dX3_pickOn_120 (by decide) rfl rfl rfl ?_
          refine r_aload_n (pc1 := 123) (i := 0) dX3_pickOn_122 rfl rfl rfl ?_
          refine r_iload (pc1 := 125) dX3_pickOn_123 rfl rfl ?_
          refine r_iload (pc1 := 127) dX3_pickOn_125 rfl rfl ?_
          refine r_iload_n (pc1 := 128) (i := 3) dX3_pickOn_127 rfl rfl rfl ?_
          refine r_iconst (v := 1) (pc1 := 129) dX3_pickOn_128 ki_1 rfl ?_
          refine r_isub (pc1 := 130) dX3_pickOn_129 rfl ?_
          refine r_callVv (pc1 := 133) (rv_of w_41 cl_3) lkX3_80 (hrf _ _ _ _) rfl rfl ⟨by omega, Nat.le_of_ble_eq_true rfl⟩ (Nat.le_of_ble_eq_true rfl) dX3_pickOn_130 rfl (fun v26 s27 => ?_)
          refine r_aload_n (pc1 := 134) (i := 0) dX3_pickOn_133 rfl rfl rfl ?_
          refine r_iload (pc1 := 136) dX3_pickOn_134 rfl rfl ?_
          refine r_iload_n (pc1 := 137) (i := 3) dX3_pickOn_136 rfl rfl rfl ?_
          refine r_iconst (v := 1) (pc1 := 138) dX3_pickOn_137 ki_1 rfl ?_
          refine r_isub (pc1 := 139) dX3_pickOn_138 rfl ?_
          refine r_iload (pc1 := 141) dX3_pickOn_139 rfl rfl ?_
          refine r_callVp (pc1 := 144) (rv_of w_41 cl_3) lkX3_84 (c_X3_totalOf _ _ _ _) rfl rfl ⟨by omega, Nat.le_of_ble_eq_true rfl⟩ (Nat.le_of_ble_eq_true rfl) dX3_pickOn_141 rfl (fun v28 => ?_)
          refine r_istore (pc1 := 146) dX3_pickOn_144 (by decide) rfl rfl rfl ?_
          refine r_iload (pc1 := 148) dX3_pickOn_146 rfl rfl ?_
          refine r_iload (pc1 := 150) dX3_pickOn_148 rfl rfl ?_
          refine r_icmp_le (tgt := 161) (pc1 := 153) dX3_pickOn_150 (by decide) rfl (fun q29 => ?_) (fun q29 => ?_)
          · exact r_wk (hk23 v14 v15 s27) ⟨Or.inr rfl, Or.inr rfl, Or.inl rfl, Or.inr rfl, Or.inr rfl, Or.inr rfl, Or.inr rfl, Or.inr rfl, Or.inr rfl, Or.inr rfl, Or.inl rfl, Or.inl rfl, trivial⟩
          · refine r_iload (pc1 := 155) dX3_pickOn_153 rfl rfl ?_
            refine r_istore (pc1 := 157) dX3_pickOn_155 (by decide) rfl rfl rfl ?_
            refine r_iload (pc1 := 159) dX3_pickOn_157 rfl rfl ?_
            refine r_istore (pc1 := 161) dX3_pickOn_159 (by decide) rfl rfl rfl ?_
            exact r_wk (hk23 v16 v28 s27) ⟨Or.inr rfl, Or.inr rfl, Or.inl rfl, Or.inr rfl, Or.inr rfl, Or.inr rfl, Or.inr rfl, Or.inr rfl, Or.inr rfl, Or.inr rfl, Or.inl rfl, Or.inl rfl, trivial⟩
        · exact r_wk (hk23 v14 v15 s17) ⟨Or.inr rfl, Or.inr rfl, Or.inl rfl, Or.inr rfl, Or.inr rfl, Or.inr rfl, Or.inr rfl, Or.inr rfl, Or.inr rfl, Or.inr rfl, Or.inl rfl, Or.inl rfl, trivial⟩
set_option maxRecDepth 100000 in
set_option maxHeartbeats 4000000 in
theorem c_X3_pickOn {l : Launch} {dr : Nat} (hdr : 5 ≤ dr) {rf : Int32 → Int32 → Int32 → SS → Res} (hrf : ∀ (x0 x1 x2 : Int32) (z : SS), Ct l wF yX3_look cX3_look 11 none dr [.ref 41, .int x0, .int x1, .int x2] z (rf x0 x1 x2 z)) (a1 : Int32) (a2 : Int32) (a3 : Int32) (s0 : SS) : Ct l wF yX3_pickOn cX3_pickOn 12 (some .int) (dr + 1) [.ref 41, .int a1, .int a2, .int a3] s0 (f_X3_pickOn rf a1 a2 a3 s0) := by
  refine ct_of (y := yX3_pickOn) plX3 (Nat.le_of_ble_eq_true rfl) ?_
  refine r_pad0 8 (L1 := [.ref 41, .int a1, .int a2, .int a3, .null, .null, .null, .null, .null, .null, .null, .null]) rfl ?_
  unfold f_X3_pickOn
  refine r_aload_n (pc1 := 1) (i := 0) dX3_pickOn_0 rfl rfl rfl ?_
  refine r_getR (pc1 := 4) w_41 gfX3_40 rfl dX3_pickOn_1 rfl ?_
  refine r_iload_n (pc1 := 5) (i := 2) dX3_pickOn_4 rfl rfl rfl ?_
  refine r_callVp (pc1 := 8) (rv_of w_35 cl_2) lkX3_121 (c_X2_onTurn _ _) rfl rfl ⟨by omega, Nat.le_of_ble_eq_true rfl⟩ (Nat.le_of_ble_eq_true rfl) dX3_pickOn_5 rfl (fun v1 => ?_)
  refine r_istore (pc1 := 10) dX3_pickOn_8 (by decide) rfl rfl rfl ?_
  refine r_iload (pc1 := 12) dX3_pickOn_10 rfl rfl ?_
  refine r_callSNp (pc1 := 15) lkX3_44 (c_X11_isPerson _ _) rfl rfl ⟨by omega, Nat.le_of_ble_eq_true rfl⟩ (Nat.le_of_ble_eq_true rfl) dX3_pickOn_12 rfl (fun v2 => ?_)
  refine r_jn (hyp := fun (k3 : Res) => RC l wF RX3 cX3_pickOn 12 (some .int) (dr + 1) 30 [.ref 41, .int a1, .null, .null, .int v1, .null, .null, .null, .null, .null, .null, .null] [] s0 k3) (?_) (fun k3 hk3 => ?_)
  · refine r_aload_n (pc1 := 31) (i := 0) dX3_pickOn_30 rfl rfl rfl ?_
    refine r_getR (pc1 := 34) w_41 gfX3_40 rfl dX3_pickOn_31 rfl ?_
    refine r_iload (pc1 := 36) dX3_pickOn_34 rfl rfl ?_
    refine r_iload_n (pc1 := 37) (i := 1) dX3_pickOn_36 rfl rfl rfl ?_
    refine r_callVi (pc1 := 40) (rv_of w_35 cl_2) lkX3_124 (c_X2_choice _ _ _) rfl rfl ⟨by omega, Nat.le_of_ble_eq_true rfl⟩ (Nat.le_of_ble_eq_true rfl) dX3_pickOn_37 rfl (fun v4 s5 => ?_)
    exact r_iret rfl rfl dX3_pickOn_40
  · refine r_if_eq (tgt := 30) (pc1 := 18) dX3_pickOn_15 (by decide) rfl (fun q6 => ?_) (fun q6 => ?_)
    · exact r_wk (hk3) ⟨Or.inr rfl, Or.inr rfl, Or.inl rfl, Or.inl rfl, Or.inr rfl, Or.inl rfl, Or.inl rfl, Or.inl rfl, Or.inl rfl, Or.inl rfl, Or.inl rfl, Or.inl rfl, trivial⟩
    · refine r_aload_n (pc1 := 19) (i := 0) dX3_pickOn_18 rfl rfl rfl ?_
      refine r_getI (pc1 := 22) w_41 gfX3_96 rfl dX3_pickOn_19 rfl ?_
      refine r_iload (pc1 := 24) dX3_pickOn_22 rfl rfl ?_
      refine r_ishr (pc1 := 25) dX3_pickOn_24 rfl ?_
      refine r_iconst (v := 1) (pc1 := 26) dX3_pickOn_25 ki_1 rfl ?_
      refine r_iand (pc1 := 27) dX3_pickOn_26 rfl ?_
      refine r_if_ne (tgt := 41) (pc1 := 30) dX3_pickOn_27 (by decide) rfl (fun q7 => ?_) (fun q7 => ?_)
      · exact r_wk (hk3) ⟨Or.inr rfl, Or.inr rfl, Or.inl rfl, Or.inl rfl, Or.inr rfl, Or.inl rfl, Or.inl rfl, Or.inl rfl, Or.inl rfl, Or.inl rfl, Or.inl rfl, Or.inl rfl, trivial⟩
      · refine r_aload_n (pc1 := 42) (i := 0) dX3_pickOn_41 rfl rfl rfl ?_
        refine r_getR (pc1 := 45) w_41 gfX3_40 rfl dX3_pickOn_42 rfl ?_
        refine r_iload_n (pc1 := 46) (i := 2) dX3_pickOn_45 rfl rfl rfl ?_
        refine r_callVp (pc1 := 49) (rv_of w_35 cl_2) lkX3_77 (c_X2_placeAfter _ _) rfl rfl ⟨by omega, Nat.le_of_ble_eq_true rfl⟩ (Nat.le_of_ble_eq_true rfl) dX3_pickOn_46 rfl (fun v8 => ?_)
        refine r_istore (pc1 := 51) dX3_pickOn_49 (by decide) rfl rfl rfl ?_
        refine r_aload_n (pc1 := 52) (i := 0) dX3_pickOn_51 rfl rfl rfl ?_
        refine r_getR (pc1 := 55) w_41 gfX3_36 rfl dX3_pickOn_52 rfl ?_
        refine r_iload_n (pc1 := 56) (i := 1) dX3_pickOn_55 rfl rfl rfl ?_
        refine r_iload (pc1 := 58) dX3_pickOn_56 rfl rfl ?_
        refine r_callVi (pc1 := 61) (rv_of w_27 cl_10) lkX3_127 (c_X10_mayOf _ _ _) rfl rfl ⟨by omega, Nat.le_of_ble_eq_true rfl⟩ (Nat.le_of_ble_eq_true rfl) dX3_pickOn_58 rfl (fun v9 s10 => ?_)
        refine r_istore (pc1 := 63) dX3_pickOn_61 (by decide) rfl rfl rfl ?_
        refine r_aload_n (pc1 := 64) (i := 0) dX3_pickOn_63 rfl rfl rfl ?_
        refine r_iload_n (pc1 := 65) (i := 1) dX3_pickOn_64 rfl rfl rfl ?_
        refine r_iload (pc1 := 67) dX3_pickOn_65 rfl rfl ?_
        refine r_iload_n (pc1 := 68) (i := 3) dX3_pickOn_67 rfl rfl rfl ?_
        refine r_iconst (v := 1) (pc1 := 69) dX3_pickOn_68 ki_1 rfl ?_
        refine r_isub (pc1 := 70) dX3_pickOn_69 rfl ?_
        refine r_callVv (pc1 := 73) (rv_of w_41 cl_3) lkX3_80 (hrf _ _ _ _) rfl rfl ⟨by omega, Nat.le_of_ble_eq_true rfl⟩ (Nat.le_of_ble_eq_true rfl) dX3_pickOn_70 rfl (fun v11 s12 => ?_)
        refine r_bipush (v := 8) (pc1 := 75) dX3_pickOn_73 kb_8 rfl ?_
        refine r_istore (pc1 := 77) dX3_pickOn_75 (by decide) rfl rfl rfl ?_
        refine r_aload_n (pc1 := 78) (i := 0) dX3_pickOn_77 rfl rfl rfl ?_
        refine r_iload_n (pc1 := 79) (i := 1) dX3_pickOn_78 rfl rfl rfl ?_
        refine r_iload_n (pc1 := 80) (i := 3) dX3_pickOn_79 rfl rfl rfl ?_
        refine r_iconst (v := 1) (pc1 := 81) dX3_pickOn_80 ki_1 rfl ?_
        refine r_isub (pc1 := 82) dX3_pickOn_81 rfl ?_
        refine r_iload (pc1 := 84) dX3_pickOn_82 rfl rfl ?_
        refine r_callVp (pc1 := 87) (rv_of w_41 cl_3) lkX3_84 (c_X3_totalOf _ _ _ _) rfl rfl ⟨by omega, Nat.le_of_ble_eq_true rfl⟩ (Nat.le_of_ble_eq_true rfl) dX3_pickOn_84 rfl (fun v13 => ?_)
        refine r_istore (pc1 := 89) dX3_pickOn_87 (by decide) rfl rfl rfl ?_
        refine r_iconst (v := 0) (pc1 := 90) dX3_pickOn_89 ki_0 rfl ?_
        refine r_istore (pc1 := 92) dX3_pickOn_90 (by decide) rfl rfl rfl ?_
        exact r_wk (t_lp_X3_pickOn_92 hdr hrf a1 a3 v1 v8 v9 FU 8 v13 0 s12) ⟨Or.inr rfl, Or.inr rfl, Or.inl rfl, Or.inr rfl, Or.inr rfl, Or.inr rfl, Or.inr rfl, Or.inr rfl, Or.inr rfl, Or.inr rfl, Or.inl rfl, Or.inl rfl, trivial⟩
/-! f_X3_look -/
noncomputable def lp_X3_look_110 (a1 : Int32) (a3 : Int32) (v1 : Int32) (v9 : Int32) (v12 : Int32) (k18 : Int64 → SS → Res) : Nat → Int64 → Int32 → SS → Res
  | 0, _, _, _ => none
  | n24 + 1, v21, v22, s23 => if (4 : Int32) ≤ (v22 : Int32) then k18 v21 s23 else bd (f_X10_worthOf a1 v22 s23) (fun (v26 : Int32) (s27 : SS) => bdp (f_X3_totalOf v12 (a3 - 1) v22 s27) (fun (v28 : Int32) => lt (v26 + v28) (fun (v29 : Int32) => lp_X3_look_110 a1 a3 v1 v9 v12 k18 n24 (wsl v21 v22 16 (v29 + 10000)) (v22 + 1) s27)))
noncomputable def o_X3_look (rf : Int32 → Int32 → Int32 → SS → Res) (a1 : Int32) (a2 : Int32) (a3 : Int32) (s0 : SS) : Res := lt ((a1 * 8) + a3) (fun (v1 : Int32) => if (a3 : Int32) < 0 then some (0, s0) else if (8 : Int32) ≤ (a3 : Int32) then some (0, s0) else if (a1 : Int32) < 0 then some (0, s0) else if (5348 : Int32) ≤ (a1 : Int32) then some (0, s0) else if (v1 : Int32) < (42784 : Int32) then gd (inb a1 5348) (bdp (f_X11_slotOf (lgt (s0 42) (Int32.toNatClampNeg a1)) a3 4 s0) (fun (v7 : Int32) => if (v7 : Int32) = 0 then jn (fun (v9 : Int32) (s10 : SS) => bdp (f_X6_behind a1 v9 s10) (fun (v12 : Int32) => bdp (f_X2_placeAfter a2 s10) (fun (v13 : Int32) => bd (rf v12 v13 (a3 - 1) s10) (fun (v14 : Int32) (s15 : SS) => jn (fun (v16 : Int64) (s17 : SS) => gd (inb v1 42784) (lts (upl s17 43 (Int32.toNatClampNeg v1) v16) (fun (s19 : SS) => gd (inb a1 5348) (gd (inb a1 5348) (lts (upl s19 42 (Int32.toNatClampNeg a1) (wsl (lgt (s19 42) (Int32.toNatClampNeg a1)) a3 4 (v9 + 1))) (fun (s20 : SS) => some (0, s20))))))) (fun (k18 : Int64 → SS → Res) => lp_X3_look_110 a1 a3 v1 v9 v12 k18 FU 0 0 s15))))) (fun (k11 : Int32 → SS → Res) => if (a3 : Int32) = 0 then k11 8 s0 else bd (f_X3_pickOn rf a1 a2 a3 s0) (fun (v31 : Int32) (s32 : SS) => k11 v31 s32)) else some (0, s0))) else some (0, s0))
set_option maxRecDepth 100000 in
set_option maxHeartbeats 4000000 in
theorem t_lp_X3_look_110 {l : Launch} {dr : Nat} (hdr : 5 ≤ dr) (a1 : Int32) (a3 : Int32) (v1 : Int32) (v9 : Int32) (v12 : Int32) (k18 : Int64 → SS → Res) (hk18 : ∀ (v16 : Int64) (s17 : SS), RC l wF RX3 cX3_look 11 none (dr + 2) 163 [.ref 41, .int a1, .null, .int a3, .int v1, .int v9, .null, .long v16, .null, .null, .null] [] s17 (k18 v16 s17)) : ∀ (n24 : Nat) (v21 : Int64) (v22 : Int32) (s23 : SS), RC l wF RX3 cX3_look 11 none (dr + 2) 110 [.ref 41, .int a1, .null, .int a3, .int v1, .int v9, .int v12, .long v21, .null, .int v22, .null] [] s23 (lp_X3_look_110 a1 a3 v1 v9 v12 k18 n24 v21 v22 s23) := by
  intro n24
  induction n24 with
  | zero =>
    intro v21 v22 s23
    rw [lp_X3_look_110]
    exact r_none
  | succ n24 ih =>
    intro v21 v22 s23
    rw [lp_X3_look_110]
    refine r_iload (pc1 := 112) dX3_look_110 rfl rfl ?_
    refine r_iconst (v := 4) (pc1 := 113) dX3_look_112 ki_4 rfl ?_
    refine r_icmp_ge (tgt := 163) (pc1 := 116) dX3_look_113 (by decide) rfl (fun q25 => ?_) (fun q25 => ?_)
    · exact r_wk (hk18 v21 s23) ⟨Or.inr rfl, Or.inr rfl, Or.inl rfl, Or.inr rfl, Or.inr rfl, Or.inr rfl, Or.inl rfl, Or.inr rfl, Or.inl rfl, Or.inl rfl, Or.inl rfl, trivial⟩
    · refine r_aload_n (pc1 := 117) (i := 0) dX3_look_116 rfl rfl rfl ?_
      refine r_getR (pc1 := 120) w_41 gfX3_36 rfl dX3_look_117 rfl ?_
      refine r_iload_n (pc1 := 121) (i := 1) dX3_look_120 rfl rfl rfl ?_
      refine r_iload (pc1 := 123) dX3_look_121 rfl rfl ?_
      refine r_callVi (pc1 := 126) (rv_of w_27 cl_10) lkX3_112 (c_X10_worthOf _ _ _) rfl rfl ⟨by omega, Nat.le_of_ble_eq_true rfl⟩ (Nat.le_of_ble_eq_true rfl) dX3_look_123 rfl (fun v26 s27 => ?_)
      refine r_aload_n (pc1 := 127) (i := 0) dX3_look_126 rfl rfl rfl ?_
      refine r_iload (pc1 := 129) dX3_look_127 rfl rfl ?_
      refine r_iload_n (pc1 := 130) (i := 3) dX3_look_129 rfl rfl rfl ?_
      refine r_iconst (v := 1) (pc1 := 131) dX3_look_130 ki_1 rfl ?_
      refine r_isub (pc1 := 132) dX3_look_131 rfl ?_
      refine r_iload (pc1 := 134) dX3_look_132 rfl rfl ?_
      refine r_callVp (pc1 := 137) (rv_of w_41 cl_3) lkX3_84 (c_X3_totalOf _ _ _ _) rfl rfl ⟨by omega, Nat.le_of_ble_eq_true rfl⟩ (Nat.le_of_ble_eq_true rfl) dX3_look_134 rfl (fun v28 => ?_)
      refine r_iadd (pc1 := 138) dX3_look_137 rfl ?_
      refine r_lt (fun v29 => ?_)
      refine r_istore (pc1 := 140) dX3_look_138 (by decide) rfl rfl rfl ?_
      refine r_lload (pc1 := 142) dX3_look_140 rfl rfl ?_
      refine r_iload (pc1 := 144) dX3_look_142 rfl rfl ?_
      refine r_bipush (v := 16) (pc1 := 146) dX3_look_144 kb_16 rfl ?_
      refine r_iload (pc1 := 148) dX3_look_146 rfl rfl ?_
      refine r_sipush (v := 10000) (pc1 := 151) dX3_look_148 ks_10000 rfl ?_
      refine r_iadd (pc1 := 152) dX3_look_151 rfl ?_
      refine r_callSNl (pc1 := 155) lkX3_117 (c_withSlot _ _ _ _) rfl rfl ⟨by omega, Nat.le_of_ble_eq_true rfl⟩ (Nat.le_of_ble_eq_true rfl) dX3_look_152 rfl ?_
      refine r_lstore (pc1 := 157) dX3_look_155 (by decide) rfl rfl rfl ?_
      refine r_iinc (pc1 := 160) dX3_look_157 rfl (kn_1 _) (by decide) rfl rfl rfl ?_
      refine r_goto (tgt := 110) dX3_look_160 (by decide) ?_
      exact r_wk (ih (wsl v21 v22 16 (v29 + 10000)) (v22 + 1) s27) ⟨Or.inr rfl, Or.inr rfl, Or.inl rfl, Or.inr rfl, Or.inr rfl, Or.inr rfl, Or.inr rfl, Or.inr rfl, Or.inl rfl, Or.inr rfl, Or.inl rfl, trivial⟩
set_option maxRecDepth 100000 in
set_option maxHeartbeats 4000000 in
theorem c_o_X3_look {l : Launch} {dr : Nat} (hdr : 5 ≤ dr) {rf : Int32 → Int32 → Int32 → SS → Res} (hrf : ∀ (x0 x1 x2 : Int32) (z : SS), Ct l wF yX3_look cX3_look 11 none dr [.ref 41, .int x0, .int x1, .int x2] z (rf x0 x1 x2 z)) (a1 : Int32) (a2 : Int32) (a3 : Int32) (s0 : SS) : Ct l wF yX3_look cX3_look 11 none (dr + 2) [.ref 41, .int a1, .int a2, .int a3] s0 (o_X3_look rf a1 a2 a3 s0) := by
  refine ct_of (y := yX3_look) plX3 (Nat.le_of_ble_eq_true rfl) ?_
  refine r_pad0 7 (L1 := [.ref 41, .int a1, .int a2, .int a3, .null, .null, .null, .null, .null, .null, .null]) rfl ?_
  unfold o_X3_look
  refine r_iload_n (pc1 := 1) (i := 1) dX3_look_0 rfl rfl rfl ?_
  refine r_bipush (v := 8) (pc1 := 3) dX3_look_1 kb_8 rfl ?_
  refine r_imul (pc1 := 4) dX3_look_3 rfl ?_
  refine r_iload_n (pc1 := 5) (i := 3) dX3_look_4 rfl rfl rfl ?_
  refine r_iadd (pc1 := 6) dX3_look_5 rfl ?_
  refine r_lt (fun v1 => ?_)
  refine r_istore (pc1 := 8) dX3_look_6 (by decide) rfl rfl rfl ?_
  refine r_iload_n (pc1 := 9) (i := 3) dX3_look_8 rfl rfl rfl ?_
  refine r_if_lt (tgt := 41) (pc1 := 12) dX3_look_9 (by decide) rfl (fun q2 => ?_) (fun q2 => ?_)
  · exact r_vret rfl dX3_look_41
  · refine r_iload_n (pc1 := 13) (i := 3) dX3_look_12 rfl rfl rfl ?_
    refine r_bipush (v := 8) (pc1 := 15) dX3_look_13 kb_8 rfl ?_
    refine r_icmp_ge (tgt := 41) (pc1 := 18) dX3_look_15 (by decide) rfl (fun q3 => ?_) (fun q3 => ?_)
    · exact r_vret rfl dX3_look_41
    · refine r_iload_n (pc1 := 19) (i := 1) dX3_look_18 rfl rfl rfl ?_
      refine r_if_lt (tgt := 41) (pc1 := 22) dX3_look_19 (by decide) rfl (fun q4 => ?_) (fun q4 => ?_)
      · exact r_vret rfl dX3_look_41
      · refine r_iload_n (pc1 := 23) (i := 1) dX3_look_22 rfl rfl rfl ?_
        refine r_aload_n (pc1 := 24) (i := 0) dX3_look_23 rfl rfl rfl ?_
        refine r_getR (pc1 := 27) w_41 gfX3_11 rfl dX3_look_24 rfl ?_
        refine r_alenL (t := 3) (v := 5348) (pc1 := 28) w_42 (fun _ => rfl) (al_5348) dX3_look_27 rfl ?_
        refine r_icmp_ge (tgt := 41) (pc1 := 31) dX3_look_28 (by decide) rfl (fun q5 => ?_) (fun q5 => ?_)
        · exact r_vret rfl dX3_look_41
        · refine r_iload (pc1 := 33) dX3_look_31 rfl rfl ?_
          refine r_aload_n (pc1 := 34) (i := 0) dX3_look_33 rfl rfl rfl ?_
          refine r_getR (pc1 := 37) w_41 gfX3_18 rfl dX3_look_34 rfl ?_
          refine r_alenL (t := 3) (v := 42784) (pc1 := 38) w_43 (fun _ => rfl) (al_42784) dX3_look_37 rfl ?_
          refine r_icmp_lt (tgt := 42) (pc1 := 41) dX3_look_38 (by decide) rfl (fun q6 => ?_) (fun q6 => ?_)
          · refine r_aload_n (pc1 := 43) (i := 0) dX3_look_42 rfl rfl rfl ?_
            refine r_getR (pc1 := 46) w_41 gfX3_11 rfl dX3_look_43 rfl ?_
            refine r_iload_n (pc1 := 47) (i := 1) dX3_look_46 rfl rfl rfl ?_
            refine r_lald (pc1 := 48) w_42 dX3_look_47 rfl ?_
            refine r_iload_n (pc1 := 49) (i := 3) dX3_look_48 rfl rfl rfl ?_
            refine r_iconst (v := 4) (pc1 := 50) dX3_look_49 ki_4 rfl ?_
            refine r_callSNp (pc1 := 53) lkX3_108 (c_X11_slotOf _ _ _ _) rfl rfl ⟨by omega, Nat.le_of_ble_eq_true rfl⟩ (Nat.le_of_ble_eq_true rfl) dX3_look_50 rfl (fun v7 => ?_)
            refine r_if_eq (tgt := 57) (pc1 := 56) dX3_look_53 (by decide) rfl (fun q8 => ?_) (fun q8 => ?_)
            · refine r_iload_n (pc1 := 58) (i := 3) dX3_look_57 rfl rfl rfl ?_
              refine r_jn (hyp := fun (k11 : Int32 → SS → Res) => ∀ (v9 : Int32) (s10 : SS), RC l wF RX3 cX3_look 11 none (dr + 2) 73 [.ref 41, .int a1, .int a2, .int a3, .int v1, .null, .null, .null, .null, .null, .null] [.int v9] s10 (k11 v9 s10)) (fun v9 s10 => ?_) (fun k11 hk11 => ?_)
              · refine r_istore (pc1 := 75) dX3_look_73 (by decide) rfl rfl rfl ?_
                refine r_aload_n (pc1 := 76) (i := 0) dX3_look_75 rfl rfl rfl ?_
                refine r_getR (pc1 := 79) w_41 gfX3_32 rfl dX3_look_76 rfl ?_
                refine r_iload_n (pc1 := 80) (i := 1) dX3_look_79 rfl rfl rfl ?_
                refine r_iload (pc1 := 82) dX3_look_80 rfl rfl ?_
                refine r_callVp (pc1 := 85) (rv_of w_3 cl_6) lkX3_74 (c_X6_behind w_3 w_4 w_8 _ _ _) rfl rfl ⟨by omega, Nat.le_of_ble_eq_true rfl⟩ (Nat.le_of_ble_eq_true rfl) dX3_look_82 rfl (fun v12 => ?_)
                refine r_istore (pc1 := 87) dX3_look_85 (by decide) rfl rfl rfl ?_
                refine r_aload_n (pc1 := 88) (i := 0) dX3_look_87 rfl rfl rfl ?_
                refine r_iload (pc1 := 90) dX3_look_88 rfl rfl ?_
                refine r_aload_n (pc1 := 91) (i := 0) dX3_look_90 rfl rfl rfl ?_
                refine r_getR (pc1 := 94) w_41 gfX3_40 rfl dX3_look_91 rfl ?_
                refine r_iload_n (pc1 := 95) (i := 2) dX3_look_94 rfl rfl rfl ?_
                refine r_callVp (pc1 := 98) (rv_of w_35 cl_2) lkX3_77 (c_X2_placeAfter _ _) rfl rfl ⟨by omega, Nat.le_of_ble_eq_true rfl⟩ (Nat.le_of_ble_eq_true rfl) dX3_look_95 rfl (fun v13 => ?_)
                refine r_iload_n (pc1 := 99) (i := 3) dX3_look_98 rfl rfl rfl ?_
                refine r_iconst (v := 1) (pc1 := 100) dX3_look_99 ki_1 rfl ?_
                refine r_isub (pc1 := 101) dX3_look_100 rfl ?_
                refine r_callVv (pc1 := 104) (rv_of w_41 cl_3) lkX3_80 (hrf _ _ _ _) rfl rfl ⟨by omega, Nat.le_of_ble_eq_true rfl⟩ (Nat.le_of_ble_eq_true rfl) dX3_look_101 rfl (fun v14 s15 => ?_)
                refine r_lconst (v := 0) (pc1 := 105) dX3_look_104 kl_0 rfl ?_
                refine r_lstore (pc1 := 107) dX3_look_105 (by decide) rfl rfl rfl ?_
                refine r_iconst (v := 0) (pc1 := 108) dX3_look_107 ki_0 rfl ?_
                refine r_istore (pc1 := 110) dX3_look_108 (by decide) rfl rfl rfl ?_
                refine r_jn (hyp := fun (k18 : Int64 → SS → Res) => ∀ (v16 : Int64) (s17 : SS), RC l wF RX3 cX3_look 11 none (dr + 2) 163 [.ref 41, .int a1, .null, .int a3, .int v1, .int v9, .null, .long v16, .null, .null, .null] [] s17 (k18 v16 s17)) (fun v16 s17 => ?_) (fun k18 hk18 => ?_)
                · refine r_aload_n (pc1 := 164) (i := 0) dX3_look_163 rfl rfl rfl ?_
                  refine r_getR (pc1 := 167) w_41 gfX3_18 rfl dX3_look_164 rfl ?_
                  refine r_iload (pc1 := 169) dX3_look_167 rfl rfl ?_
                  refine r_lload (pc1 := 171) dX3_look_169 rfl rfl ?_
                  refine r_last (pc1 := 172) w_43 dX3_look_171 rfl ?_
                  refine r_lts (fun s19 => ?_)
                  refine r_aload_n (pc1 := 173) (i := 0) dX3_look_172 rfl rfl rfl ?_
                  refine r_getR (pc1 := 176) w_41 gfX3_11 rfl dX3_look_173 rfl ?_
                  refine r_iload_n (pc1 := 177) (i := 1) dX3_look_176 rfl rfl rfl ?_
                  refine r_aload_n (pc1 := 178) (i := 0) dX3_look_177 rfl rfl rfl ?_
                  refine r_getR (pc1 := 181) w_41 gfX3_11 rfl dX3_look_178 rfl ?_
                  refine r_iload_n (pc1 := 182) (i := 1) dX3_look_181 rfl rfl rfl ?_
                  refine r_lald (pc1 := 183) w_42 dX3_look_182 rfl ?_
                  refine r_iload_n (pc1 := 184) (i := 3) dX3_look_183 rfl rfl rfl ?_
                  refine r_iconst (v := 4) (pc1 := 185) dX3_look_184 ki_4 rfl ?_
                  refine r_iload (pc1 := 187) dX3_look_185 rfl rfl ?_
                  refine r_iconst (v := 1) (pc1 := 188) dX3_look_187 ki_1 rfl ?_
                  refine r_iadd (pc1 := 189) dX3_look_188 rfl ?_
                  refine r_callSNl (pc1 := 192) lkX3_117 (c_withSlot _ _ _ _) rfl rfl ⟨by omega, Nat.le_of_ble_eq_true rfl⟩ (Nat.le_of_ble_eq_true rfl) dX3_look_189 rfl ?_
                  refine r_last (pc1 := 193) w_42 dX3_look_192 rfl ?_
                  refine r_lts (fun s20 => ?_)
                  exact r_vret rfl dX3_look_193
                · exact r_wk (t_lp_X3_look_110 hdr a1 a3 v1 v9 v12 k18 hk18 FU 0 0 s15) ⟨Or.inr rfl, Or.inr rfl, Or.inl rfl, Or.inr rfl, Or.inr rfl, Or.inr rfl, Or.inr rfl, Or.inr rfl, Or.inl rfl, Or.inr rfl, Or.inl rfl, trivial⟩
              · refine r_if_ne (tgt := 66) (pc1 := 61) dX3_look_58 (by decide) rfl (fun q30 => ?_) (fun q30 => ?_)
                · refine r_bipush (v := 8) (pc1 := 63) dX3_look_61 kb_8 rfl ?_
                  refine r_goto (tgt := 73) dX3_look_63 (by decide) ?_
                  exact r_wk (hk11 8 s0) ⟨Or.inr rfl, Or.inr rfl, Or.inr rfl, Or.inr rfl, Or.inr rfl, Or.inl rfl, Or.inl rfl, Or.inl rfl, Or.inl rfl, Or.inl rfl, Or.inl rfl, trivial⟩
                · refine r_aload_n (pc1 := 67) (i := 0) dX3_look_66 rfl rfl rfl ?_
                  refine r_iload_n (pc1 := 68) (i := 1) dX3_look_67 rfl rfl rfl ?_
                  refine r_iload_n (pc1 := 69) (i := 2) dX3_look_68 rfl rfl rfl ?_
                  refine r_iload_n (pc1 := 70) (i := 3) dX3_look_69 rfl rfl rfl ?_
                  refine r_callVi (pc1 := 73) (rv_of w_41 cl_3) lkX3_70 (c_X3_pickOn hdr hrf _ _ _ _) rfl rfl ⟨by omega, Nat.le_of_ble_eq_true rfl⟩ (Nat.le_of_ble_eq_true rfl) dX3_look_70 rfl (fun v31 s32 => ?_)
                  exact r_wk (hk11 v31 s32) ⟨Or.inr rfl, Or.inr rfl, Or.inr rfl, Or.inr rfl, Or.inr rfl, Or.inl rfl, Or.inl rfl, Or.inl rfl, Or.inl rfl, Or.inl rfl, Or.inl rfl, trivial⟩
            · exact r_vret rfl dX3_look_56
          · exact r_vret rfl dX3_look_41
noncomputable def f_X3_look : Nat → Int32 → Int32 → Int32 → SS → Res
  | 0, _, _, _, _ => none
  | n + 1, a1, a2, a3, s0 => o_X3_look (f_X3_look n) a1 a2 a3 s0
theorem c_X3_look {l : Launch} : ∀ (n : Nat) (a1 : Int32) (a2 : Int32) (a3 : Int32) (s0 : SS), Ct l wF yX3_look cX3_look 11 none (5 + 2 * n) [.ref 41, .int a1, .int a2, .int a3] s0 (f_X3_look n a1 a2 a3 s0)
  | 0, _, _, _, _ => fun r s1 he => by cases he
  | n + 1, a1, a2, a3, s0 => c_o_X3_look (by omega) (fun x0 x1 x2 z => c_X3_look n x0 x1 x2 z) a1 a2 a3 s0
/-! f_X3_tell -/
noncomputable def lp_X3_tell_13 (a3 : Int32) : Nat → Int32 → Int32 → SS → Res
  | 0, _, _, _ => none
  | n5 + 1, v2, v3, s4 => if (a3 : Int32) ≤ (v3 : Int32) then some (0, s4) else if (8 : Int32) ≤ (v3 : Int32) then some (0, s4) else jn (fun (v8 : Int32) => gd (inb v3 8) (lts (up s4 44 (Int32.toNatClampNeg v3) v8) (fun (s10 : SS) => gd (inb v3 8) (bdp (f_X6_behind v2 (s10 44 (Int32.toNatClampNeg v3)) s10) (fun (v11 : Int32) => lp_X3_tell_13 a3 n5 v11 (v3 + 1) s10))))) (fun (k9 : Int32 → Res) => jn (k9 8) (fun (k12 : Res) => if (v2 : Int32) < 0 then k12 else if (v2 : Int32) < (5348 : Int32) then gd (inb v2 5348) (bdp (f_X11_slotOf (lgt (s4 42) (Int32.toNatClampNeg v2)) (a3 - v3) 4 s4) (fun (v15 : Int32) => k9 (v15 - 1))) else k12))
noncomputable def f_X3_tell (a1 : Int32) (a2 : Int32) (a3 : Int32) (s0 : SS) : Res := gd (inb 0 8) (lts (up s0 44 (Int32.toNatClampNeg 0) a1) (fun (s1 : SS) => lp_X3_tell_13 a3 FU a2 1 s1))
set_option maxRecDepth 100000 in
set_option maxHeartbeats 4000000 in
theorem t_lp_X3_tell_13 {l : Launch} (a3 : Int32)  : ∀ (n5 : Nat) (v2 : Int32) (v3 : Int32) (s4 : SS), RC l wF RX3 cX3_tell 6 none 1 13 [.ref 41, .null, .null, .int a3, .int v2, .int v3] [] s4 (lp_X3_tell_13 a3 n5 v2 v3 s4) := by
  intro n5
  induction n5 with
  | zero =>
    intro v2 v3 s4
    rw [lp_X3_tell_13]
    exact r_none
  | succ n5 ih =>
    intro v2 v3 s4
    rw [lp_X3_tell_13]
    refine r_iload (pc1 := 15) dX3_tell_13 rfl rfl ?_
    refine r_iload_n (pc1 := 16) (i := 3) dX3_tell_15 rfl rfl rfl ?_
    refine r_icmp_ge (tgt := 94) (pc1 := 19) dX3_tell_16 (by decide) rfl (fun q6 => ?_) (fun q6 => ?_)
    · exact r_vret rfl dX3_tell_94
    · refine r_iload (pc1 := 21) dX3_tell_19 rfl rfl ?_
      refine r_bipush (v := 8) (pc1 := 23) dX3_tell_21 kb_8 rfl ?_
      refine r_icmp_ge (tgt := 94) (pc1 := 26) dX3_tell_23 (by decide) rfl (fun q7 => ?_) (fun q7 => ?_)
      · exact r_vret rfl dX3_tell_94
      · refine r_aload_n (pc1 := 27) (i := 0) dX3_tell_26 rfl rfl rfl ?_
        refine r_getR (pc1 := 30) w_41 gfX3_21 rfl dX3_tell_27 rfl ?_
        refine r_iload (pc1 := 32) dX3_tell_30 rfl rfl ?_
        refine r_iload (pc1 := 34) dX3_tell_32 rfl rfl ?_
        refine r_jn (hyp := fun (k9 : Int32 → Res) => ∀ (v8 : Int32), RC l wF RX3 cX3_tell 6 none 1 69 [.ref 41, .null, .null, .int a3, .int v2, .int v3] [.int v8, .int v3, .ref 44] s4 (k9 v8)) (fun v8 => ?_) (fun k9 hk9 => ?_)
        · refine r_iast (pc1 := 70) w_44 dX3_tell_69 rfl ?_
          refine r_lts (fun s10 => ?_)
          refine r_aload_n (pc1 := 71) (i := 0) dX3_tell_70 rfl rfl rfl ?_
          refine r_getR (pc1 := 74) w_41 gfX3_32 rfl dX3_tell_71 rfl ?_
          refine r_iload (pc1 := 76) dX3_tell_74 rfl rfl ?_
          refine r_aload_n (pc1 := 77) (i := 0) dX3_tell_76 rfl rfl rfl ?_
          refine r_getR (pc1 := 80) w_41 gfX3_21 rfl dX3_tell_77 rfl ?_
          refine r_iload (pc1 := 82) dX3_tell_80 rfl rfl ?_
          refine r_iald (pc1 := 83) w_44 dX3_tell_82 rfl ?_
          refine r_callVp (pc1 := 86) (rv_of w_3 cl_6) lkX3_74 (c_X6_behind w_3 w_4 w_8 _ _ _) rfl rfl ⟨Nat.le_of_ble_eq_true rfl, Nat.le_of_ble_eq_true rfl⟩ (Nat.le_of_ble_eq_true rfl) dX3_tell_83 rfl (fun v11 => ?_)
          refine r_istore (pc1 := 88) dX3_tell_86 (by decide) rfl rfl rfl ?_
          refine r_iinc (pc1 := 91) dX3_tell_88 rfl (kn_1 _) (by decide) rfl rfl rfl ?_
          refine r_goto (tgt := 13) dX3_tell_91 (by decide) ?_
          exact r_wk (ih v11 (v3 + 1) s10) ⟨Or.inr rfl, Or.inl rfl, Or.inl rfl, Or.inr rfl, Or.inr rfl, Or.inr rfl, trivial⟩
        · refine r_jn (hyp := fun (k12 : Res) => RC l wF RX3 cX3_tell 6 none 1 47 [.ref 41, .null, .null, .int a3, .int v2, .int v3] [.int v3, .ref 44] s4 k12) (?_) (fun k12 hk12 => ?_)
          · refine r_bipush (v := 8) (pc1 := 49) dX3_tell_47 kb_8 rfl ?_
            refine r_goto (tgt := 69) dX3_tell_49 (by decide) ?_
            exact r_wk (hk9 8) ⟨Or.inr rfl, Or.inl rfl, Or.inl rfl, Or.inr rfl, Or.inr rfl, Or.inr rfl, trivial⟩
          · refine r_if_lt (tgt := 47) (pc1 := 37) dX3_tell_34 (by decide) rfl (fun q13 => ?_) (fun q13 => ?_)
            · exact r_wk (hk12) ⟨Or.inr rfl, Or.inl rfl, Or.inl rfl, Or.inr rfl, Or.inr rfl, Or.inr rfl, trivial⟩
            · refine r_iload (pc1 := 39) dX3_tell_37 rfl rfl ?_
              refine r_aload_n (pc1 := 40) (i := 0) dX3_tell_39 rfl rfl rfl ?_
              refine r_getR (pc1 := 43) w_41 gfX3_11 rfl dX3_tell_40 rfl ?_
              refine r_alenL (t := 3) (v := 5348) (pc1 := 44) w_42 (fun _ => rfl) (al_5348) dX3_tell_43 rfl ?_
              refine r_icmp_lt (tgt := 52) (pc1 := 47) dX3_tell_44 (by decide) rfl (fun q14 => ?_) (fun q14 => ?_)
              · refine r_aload_n (pc1 := 53) (i := 0) dX3_tell_52 rfl rfl rfl ?_
                refine r_getR (pc1 := 56) w_41 gfX3_11 rfl dX3_tell_53 rfl ?_
                refine r_iload (pc1 := 58) dX3_tell_56 rfl rfl ?_
                refine r_lald (pc1 := 59) w_42 dX3_tell_58 rfl ?_
                refine r_iload_n (pc1 := 60) (i := 3) dX3_tell_59 rfl rfl rfl ?_
                refine r_iload (pc1 := 62) dX3_tell_60 rfl rfl ?_
                refine r_isub (pc1 := 63) dX3_tell_62 rfl ?_
                refine r_iconst (v := 4) (pc1 := 64) dX3_tell_63 ki_4 rfl ?_
                refine r_callSNp (pc1 := 67) lkX3_108 (c_X11_slotOf _ _ _ _) rfl rfl ⟨Nat.le_of_ble_eq_true rfl, Nat.le_of_ble_eq_true rfl⟩ (Nat.le_of_ble_eq_true rfl) dX3_tell_64 rfl (fun v15 => ?_)
                refine r_iconst (v := 1) (pc1 := 68) dX3_tell_67 ki_1 rfl ?_
                refine r_isub (pc1 := 69) dX3_tell_68 rfl ?_
                exact r_wk (hk9 (v15 - 1)) ⟨Or.inr rfl, Or.inl rfl, Or.inl rfl, Or.inr rfl, Or.inr rfl, Or.inr rfl, trivial⟩
              · exact r_wk (hk12) ⟨Or.inr rfl, Or.inl rfl, Or.inl rfl, Or.inr rfl, Or.inr rfl, Or.inr rfl, trivial⟩
set_option maxRecDepth 100000 in
set_option maxHeartbeats 4000000 in
theorem c_X3_tell {l : Launch} (a1 : Int32) (a2 : Int32) (a3 : Int32) (s0 : SS) : Ct l wF yX3_tell cX3_tell 6 none 1 [.ref 41, .int a1, .int a2, .int a3] s0 (f_X3_tell a1 a2 a3 s0) := by
  refine ct_of (y := yX3_tell) plX3 (Nat.le_of_ble_eq_true rfl) ?_
  refine r_pad0 2 (L1 := [.ref 41, .int a1, .int a2, .int a3, .null, .null]) rfl ?_
  unfold f_X3_tell
  refine r_aload_n (pc1 := 1) (i := 0) dX3_tell_0 rfl rfl rfl ?_
  refine r_getR (pc1 := 4) w_41 gfX3_21 rfl dX3_tell_1 rfl ?_
  refine r_iconst (v := 0) (pc1 := 5) dX3_tell_4 ki_0 rfl ?_
  refine r_iload_n (pc1 := 6) (i := 1) dX3_tell_5 rfl rfl rfl ?_
  refine r_iast (pc1 := 7) w_44 dX3_tell_6 rfl ?_
  refine r_lts (fun s1 => ?_)
  refine r_iload_n (pc1 := 8) (i := 2) dX3_tell_7 rfl rfl rfl ?_
  refine r_istore (pc1 := 10) dX3_tell_8 (by decide) rfl rfl rfl ?_
  refine r_iconst (v := 1) (pc1 := 11) dX3_tell_10 ki_1 rfl ?_
  refine r_istore (pc1 := 13) dX3_tell_11 (by decide) rfl rfl rfl ?_
  exact r_wk (t_lp_X3_tell_13 a3 FU a2 1 s1) ⟨Or.inr rfl, Or.inl rfl, Or.inl rfl, Or.inr rfl, Or.inr rfl, Or.inr rfl, trivial⟩
/-! f_X3_solve -/
noncomputable def lp_X3_solve_83 (a1 : Int32) (v5 : Int32) (v7 : Int32) (k12 : SS → Res) : Nat → Int32 → SS → Res
  | 0, _, _ => none
  | n17 + 1, v15, s16 => if (4 : Int32) ≤ (v15 : Int32) then k12 s16 else bdp (f_X3_totalOf v7 (a1 - 1) v15 s16) (fun (v19 : Int32) => gd (inb v15 4) (lts (up s16 45 (Int32.toNatClampNeg v15) v19) (fun (s20 : SS) => lp_X3_solve_83 a1 v5 v7 k12 n17 (v15 + 1) s20)))
noncomputable def f_X3_solve (a1 : Int32) (a2 : Int32) (a3 : Int32) (s0 : SS) : Res := bdp (f_X6_lengthOf (s0 52 0) s0) (fun (v1 : Int32) => bdp (f_X2_placeAfterDays (s0 52 1) a1 s0) (fun (v2 : Int32) => bd (f_X3_recall v1 v2 a2 a3 s0) (fun (v3 : Int32) (s4 : SS) => bd (f_X3_pickOn (f_X3_look 40) (s4 52 0) (s4 52 1) a1 s4) (fun (v5 : Int32) (s6 : SS) => bdp (f_X6_behind (s6 52 0) v5 s6) (fun (v7 : Int32) => bdp (f_X2_placeAfter (s6 52 1) s6) (fun (v8 : Int32) => bd (f_X3_look 40 v7 v8 (a1 - 1) s6) (fun (v9 : Int32) (s10 : SS) => jn (fun (s11 : SS) => bd (f_X3_tell v5 v7 a1 s11) (fun (v13 : Int32) (s14 : SS) => some (0, s14))) (fun (k12 : SS → Res) => lp_X3_solve_83 a1 v5 v7 k12 FU 0 s10))))))))
set_option maxRecDepth 100000 in
set_option maxHeartbeats 4000000 in
theorem t_lp_X3_solve_83 {l : Launch} (a1 : Int32) (v5 : Int32) (v7 : Int32) (k12 : SS → Res) (hk12 : ∀ (s11 : SS), RC l wF RX3 cX3_solve 8 none 87 113 [.ref 41, .ref 52, .int a1, .null, .null, .int v5, .int v7, .null] [] s11 (k12 s11)) : ∀ (n17 : Nat) (v15 : Int32) (s16 : SS), RC l wF RX3 cX3_solve 8 none 87 83 [.ref 41, .ref 52, .int a1, .null, .null, .int v5, .int v7, .int v15] [] s16 (lp_X3_solve_83 a1 v5 v7 k12 n17 v15 s16) := by
  intro n17
  induction n17 with
  | zero =>
    intro v15 s16
    rw [lp_X3_solve_83]
    exact r_none
  | succ n17 ih =>
    intro v15 s16
    rw [lp_X3_solve_83]
    refine r_iload (pc1 := 85) dX3_solve_83 rfl rfl ?_
    refine r_iconst (v := 4) (pc1 := 86) dX3_solve_85 ki_4 rfl ?_
    refine r_icmp_ge (tgt := 113) (pc1 := 89) dX3_solve_86 (by decide) rfl (fun q18 => ?_) (fun q18 => ?_)
    · exact r_wk (hk12 s16) ⟨Or.inr rfl, Or.inr rfl, Or.inr rfl, Or.inl rfl, Or.inl rfl, Or.inr rfl, Or.inr rfl, Or.inl rfl, trivial⟩
    · refine r_aload_n (pc1 := 90) (i := 0) dX3_solve_89 rfl rfl rfl ?_
      refine r_getR (pc1 := 93) w_41 gfX3_25 rfl dX3_solve_90 rfl ?_
      refine r_iload (pc1 := 95) dX3_solve_93 rfl rfl ?_
      refine r_aload_n (pc1 := 96) (i := 0) dX3_solve_95 rfl rfl rfl ?_
      refine r_iload (pc1 := 98) dX3_solve_96 rfl rfl ?_
      refine r_iload_n (pc1 := 99) (i := 2) dX3_solve_98 rfl rfl rfl ?_
      refine r_iconst (v := 1) (pc1 := 100) dX3_solve_99 ki_1 rfl ?_
      refine r_isub (pc1 := 101) dX3_solve_100 rfl ?_
      refine r_iload (pc1 := 103) dX3_solve_101 rfl rfl ?_
      refine r_callVp (pc1 := 106) (rv_of w_41 cl_3) lkX3_84 (c_X3_totalOf _ _ _ _) rfl rfl ⟨Nat.le_of_ble_eq_true rfl, Nat.le_of_ble_eq_true rfl⟩ (Nat.le_of_ble_eq_true rfl) dX3_solve_103 rfl (fun v19 => ?_)
      refine r_iast (pc1 := 107) w_45 dX3_solve_106 rfl ?_
      refine r_lts (fun s20 => ?_)
      refine r_iinc (pc1 := 110) dX3_solve_107 rfl (kn_1 _) (by decide) rfl rfl rfl ?_
      refine r_goto (tgt := 83) dX3_solve_110 (by decide) ?_
      exact r_wk (ih (v15 + 1) s20) ⟨Or.inr rfl, Or.inr rfl, Or.inr rfl, Or.inl rfl, Or.inl rfl, Or.inr rfl, Or.inr rfl, Or.inr rfl, trivial⟩
set_option maxRecDepth 100000 in
set_option maxHeartbeats 4000000 in
theorem c_X3_solve {l : Launch} (a1 : Int32) (a2 : Int32) (a3 : Int32) (s0 : SS) : Ct l wF yX3_solve cX3_solve 8 none 87 [.ref 41, .ref 52, .int a1, .int a2, .int a3] s0 (f_X3_solve a1 a2 a3 s0) := by
  refine ct_of (y := yX3_solve) plX3 (Nat.le_of_ble_eq_true rfl) ?_
  refine r_pad0 3 (L1 := [.ref 41, .ref 52, .int a1, .int a2, .int a3, .null, .null, .null]) rfl ?_
  unfold f_X3_solve
  refine r_aload_n (pc1 := 1) (i := 0) dX3_solve_0 rfl rfl rfl ?_
  refine r_aload_n (pc1 := 2) (i := 0) dX3_solve_1 rfl rfl rfl ?_
  refine r_getR (pc1 := 5) w_41 gfX3_32 rfl dX3_solve_2 rfl ?_
  refine r_aload_n (pc1 := 6) (i := 1) dX3_solve_5 rfl rfl rfl ?_
  refine r_getI (pc1 := 9) w_52 gfX3_48 rfl dX3_solve_6 rfl ?_
  refine r_callVp (pc1 := 12) (rv_of w_3 cl_6) lkX3_53 (c_X6_lengthOf w_3 w_4 w_8 _ _) rfl rfl ⟨Nat.le_of_ble_eq_true rfl, Nat.le_of_ble_eq_true rfl⟩ (Nat.le_of_ble_eq_true rfl) dX3_solve_9 rfl (fun v1 => ?_)
  refine r_aload_n (pc1 := 13) (i := 0) dX3_solve_12 rfl rfl rfl ?_
  refine r_getR (pc1 := 16) w_41 gfX3_40 rfl dX3_solve_13 rfl ?_
  refine r_aload_n (pc1 := 17) (i := 1) dX3_solve_16 rfl rfl rfl ?_
  refine r_getI (pc1 := 20) w_52 gfX3_57 rfl dX3_solve_17 rfl ?_
  refine r_iload_n (pc1 := 21) (i := 2) dX3_solve_20 rfl rfl rfl ?_
  refine r_callVp (pc1 := 24) (rv_of w_35 cl_2) lkX3_60 (c_X2_placeAfterDays _ _ _) rfl rfl ⟨Nat.le_of_ble_eq_true rfl, Nat.le_of_ble_eq_true rfl⟩ (Nat.le_of_ble_eq_true rfl) dX3_solve_21 rfl (fun v2 => ?_)
  refine r_iload_n (pc1 := 25) (i := 3) dX3_solve_24 rfl rfl rfl ?_
  refine r_iload (pc1 := 27) dX3_solve_25 rfl rfl ?_
  refine r_callVv (pc1 := 30) (rv_of w_41 cl_3) lkX3_66 (c_X3_recall _ _ _ _ _) rfl rfl ⟨Nat.le_of_ble_eq_true rfl, Nat.le_of_ble_eq_true rfl⟩ (Nat.le_of_ble_eq_true rfl) dX3_solve_27 rfl (fun v3 s4 => ?_)
  refine r_aload_n (pc1 := 31) (i := 0) dX3_solve_30 rfl rfl rfl ?_
  refine r_aload_n (pc1 := 32) (i := 1) dX3_solve_31 rfl rfl rfl ?_
  refine r_getI (pc1 := 35) w_52 gfX3_48 rfl dX3_solve_32 rfl ?_
  refine r_aload_n (pc1 := 36) (i := 1) dX3_solve_35 rfl rfl rfl ?_
  refine r_getI (pc1 := 39) w_52 gfX3_57 rfl dX3_solve_36 rfl ?_
  refine r_iload_n (pc1 := 40) (i := 2) dX3_solve_39 rfl rfl rfl ?_
  refine r_callVi (pc1 := 43) (rv_of w_41 cl_3) lkX3_70 (c_X3_pickOn (Nat.le_of_ble_eq_true rfl) (c_X3_look 40) _ _ _ _) rfl rfl ⟨Nat.le_of_ble_eq_true rfl, Nat.le_of_ble_eq_true rfl⟩ (Nat.le_of_ble_eq_true rfl) dX3_solve_40 rfl (fun v5 s6 => ?_)
  refine r_istore (pc1 := 45) dX3_solve_43 (by decide) rfl rfl rfl ?_
  refine r_aload_n (pc1 := 46) (i := 0) dX3_solve_45 rfl rfl rfl ?_
  refine r_getR (pc1 := 49) w_41 gfX3_32 rfl dX3_solve_46 rfl ?_
  refine r_aload_n (pc1 := 50) (i := 1) dX3_solve_49 rfl rfl rfl ?_
  refine r_getI (pc1 := 53) w_52 gfX3_48 rfl dX3_solve_50 rfl ?_
  refine r_iload (pc1 := 55) dX3_solve_53 rfl rfl ?_
  refine r_callVp (pc1 := 58) (rv_of w_3 cl_6) lkX3_74 (c_X6_behind w_3 w_4 w_8 _ _ _) rfl rfl ⟨Nat.le_of_ble_eq_true rfl, Nat.le_of_ble_eq_true rfl⟩ (Nat.le_of_ble_eq_true rfl) dX3_solve_55 rfl (fun v7 => ?_)
  refine r_istore (pc1 := 60) dX3_solve_58 (by decide) rfl rfl rfl ?_
  refine r_aload_n (pc1 := 61) (i := 0) dX3_solve_60 rfl rfl rfl ?_
  refine r_iload (pc1 := 63) dX3_solve_61 rfl rfl ?_
  refine r_aload_n (pc1 := 64) (i := 0) dX3_solve_63 rfl rfl rfl ?_
  refine r_getR (pc1 := 67) w_41 gfX3_40 rfl dX3_solve_64 rfl ?_
  refine r_aload_n (pc1 := 68) (i := 1) dX3_solve_67 rfl rfl rfl ?_
  refine r_getI (pc1 := 71) w_52 gfX3_57 rfl dX3_solve_68 rfl ?_
  refine r_callVp (pc1 := 74) (rv_of w_35 cl_2) lkX3_77 (c_X2_placeAfter _ _) rfl rfl ⟨Nat.le_of_ble_eq_true rfl, Nat.le_of_ble_eq_true rfl⟩ (Nat.le_of_ble_eq_true rfl) dX3_solve_71 rfl (fun v8 => ?_)
  refine r_iload_n (pc1 := 75) (i := 2) dX3_solve_74 rfl rfl rfl ?_
  refine r_iconst (v := 1) (pc1 := 76) dX3_solve_75 ki_1 rfl ?_
  refine r_isub (pc1 := 77) dX3_solve_76 rfl ?_
  refine r_callVv (pc1 := 80) (rv_of w_41 cl_3) lkX3_80 (c_X3_look 40 _ _ _ _) rfl rfl ⟨Nat.le_of_ble_eq_true rfl, Nat.le_of_ble_eq_true rfl⟩ (Nat.le_of_ble_eq_true rfl) dX3_solve_77 rfl (fun v9 s10 => ?_)
  refine r_iconst (v := 0) (pc1 := 81) dX3_solve_80 ki_0 rfl ?_
  refine r_istore (pc1 := 83) dX3_solve_81 (by decide) rfl rfl rfl ?_
  refine r_jn (hyp := fun (k12 : SS → Res) => ∀ (s11 : SS), RC l wF RX3 cX3_solve 8 none 87 113 [.ref 41, .ref 52, .int a1, .null, .null, .int v5, .int v7, .null] [] s11 (k12 s11)) (fun s11 => ?_) (fun k12 hk12 => ?_)
  · refine r_aload_n (pc1 := 114) (i := 0) dX3_solve_113 rfl rfl rfl ?_
    refine r_iload (pc1 := 116) dX3_solve_114 rfl rfl ?_
    refine r_iload (pc1 := 118) dX3_solve_116 rfl rfl ?_
    refine r_iload_n (pc1 := 119) (i := 2) dX3_solve_118 rfl rfl rfl ?_
    refine r_callVv (pc1 := 122) (rv_of w_41 cl_3) lkX3_87 (c_X3_tell _ _ _ _) rfl rfl ⟨Nat.le_of_ble_eq_true rfl, Nat.le_of_ble_eq_true rfl⟩ (Nat.le_of_ble_eq_true rfl) dX3_solve_119 rfl (fun v13 s14 => ?_)
    exact r_vret rfl dX3_solve_122
  · exact r_wk (t_lp_X3_solve_83 a1 v5 v7 k12 hk12 FU 0 s10) ⟨Or.inr rfl, Or.inr rfl, Or.inr rfl, Or.inl rfl, Or.inl rfl, Or.inr rfl, Or.inr rfl, Or.inr rfl, trivial⟩
/-! f_X3_sumOf -/
noncomputable def f_X3_sumOf (a1 : Int32) (s0 : SS) : Option Int32 := bdp (f_X11_isPerson a1 s0) (fun (v1 : Int32) => if (v1 : Int32) = 0 then some 0 else gd (inb a1 4) (some (s0 45 (Int32.toNatClampNeg a1))))
set_option maxRecDepth 100000 in
set_option maxHeartbeats 4000000 in
theorem c_X3_sumOf {l : Launch} (a1 : Int32) (s0 : SS) : Ct l wF yX3_sumOf cX3_sumOf 2 (some .int) 1 [.ref 41, .int a1] s0 (pu (f_X3_sumOf a1 s0) s0) := by
  refine ct_of (y := yX3_sumOf) plX3 (Nat.le_of_ble_eq_true rfl) ?_
  refine r_pad0 0 (L1 := [.ref 41, .int a1]) rfl ?_
  unfold f_X3_sumOf
  refine r_iload_n (pc1 := 1) (i := 1) dX3_sumOf_0 rfl rfl rfl ?_
  refine p_callSNp (pc1 := 4) lkX3_44 (c_X11_isPerson _ _) rfl rfl ⟨Nat.le_of_ble_eq_true rfl, Nat.le_of_ble_eq_true rfl⟩ (Nat.le_of_ble_eq_true rfl) dX3_sumOf_1 rfl (fun v1 => ?_)
  refine p_if_eq (tgt := 16) (pc1 := 7) dX3_sumOf_4 (by decide) rfl (fun q2 => ?_) (fun q2 => ?_)
  · refine r_iconst (v := 0) (pc1 := 17) dX3_sumOf_16 ki_0 rfl ?_
    exact p_iret rfl rfl dX3_sumOf_17
  · refine r_aload_n (pc1 := 8) (i := 0) dX3_sumOf_7 rfl rfl rfl ?_
    refine r_getR (pc1 := 11) w_41 gfX3_25 rfl dX3_sumOf_8 rfl ?_
    refine r_iload_n (pc1 := 12) (i := 1) dX3_sumOf_11 rfl rfl rfl ?_
    refine p_iald (pc1 := 13) w_45 dX3_sumOf_12 rfl ?_
    refine r_goto (tgt := 17) dX3_sumOf_13 (by decide) ?_
    exact p_iret rfl rfl dX3_sumOf_17
/-! f_X3_madeOn -/
noncomputable def f_X3_madeOn (a1 : Int32) (s0 : SS) : Option Int32 := if (a1 : Int32) < 0 then some ((-1)) else if (8 : Int32) ≤ (a1 : Int32) then some ((-1)) else gd (inb a1 8) (some (s0 44 (Int32.toNatClampNeg a1)))
set_option maxRecDepth 100000 in
set_option maxHeartbeats 4000000 in
theorem c_X3_madeOn {l : Launch} (a1 : Int32) (s0 : SS) : Ct l wF yX3_madeOn cX3_madeOn 2 (some .int) 0 [.ref 41, .int a1] s0 (pu (f_X3_madeOn a1 s0) s0) := by
  refine ct_of (y := yX3_madeOn) plX3 (Nat.le_of_ble_eq_true rfl) ?_
  refine r_pad0 0 (L1 := [.ref 41, .int a1]) rfl ?_
  unfold f_X3_madeOn
  refine r_iload_n (pc1 := 1) (i := 1) dX3_madeOn_0 rfl rfl rfl ?_
  refine p_if_lt (tgt := 19) (pc1 := 4) dX3_madeOn_1 (by decide) rfl (fun q1 => ?_) (fun q1 => ?_)
  · refine r_iconst (v := (-1)) (pc1 := 20) dX3_madeOn_19 ki_m1 rfl ?_
    exact p_iret rfl rfl dX3_madeOn_20
  · refine r_iload_n (pc1 := 5) (i := 1) dX3_madeOn_4 rfl rfl rfl ?_
    refine r_bipush (v := 8) (pc1 := 7) dX3_madeOn_5 kb_8 rfl ?_
    refine p_icmp_ge (tgt := 19) (pc1 := 10) dX3_madeOn_7 (by decide) rfl (fun q2 => ?_) (fun q2 => ?_)
    · refine r_iconst (v := (-1)) (pc1 := 20) dX3_madeOn_19 ki_m1 rfl ?_
      exact p_iret rfl rfl dX3_madeOn_20
    · refine r_aload_n (pc1 := 11) (i := 0) dX3_madeOn_10 rfl rfl rfl ?_
      refine r_getR (pc1 := 14) w_41 gfX3_21 rfl dX3_madeOn_11 rfl ?_
      refine r_iload_n (pc1 := 15) (i := 1) dX3_madeOn_14 rfl rfl rfl ?_
      refine p_iald (pc1 := 16) w_44 dX3_madeOn_15 rfl ?_
      refine r_goto (tgt := 20) dX3_madeOn_16 (by decide) ?_
      exact p_iret rfl rfl dX3_madeOn_20
/-! f_X11_best -/
noncomputable def f_X11_best (a1 : Int32) (a2 : Int32) (a3 : Int32) (s0 : SS) : Res := bdp (f_X11_isPerson a1 s0) (fun (v1 : Int32) => if (v1 : Int32) = 0 then some ((-1000000), s0) else if (a2 : Int32) < (1 : Int32) then some ((-1000000), s0) else if (8 : Int32) < (a2 : Int32) then some ((-1000000), s0) else if (a3 : Int32) < ((-1) : Int32) then some ((-1000000), s0) else if (a3 : Int32) < (a2 : Int32) then bd (f_X3_solve a2 (1 <<< (a1 &&& 31)) (s0 0 15) s0) (fun (v7 : Int32) (s8 : SS) => if (a3 : Int32) = ((-1) : Int32) then bdp (f_X3_sumOf a1 s8) (fun (v10 : Int32) => some (v10, s8)) else bdp (f_X3_madeOn a3 s8) (fun (v11 : Int32) => some (v11, s8))) else some ((-1000000), s0))
set_option maxRecDepth 100000 in
set_option maxHeartbeats 4000000 in
theorem c_X11_best {l : Launch} (a1 : Int32) (a2 : Int32) (a3 : Int32) (s0 : SS) : Ct l wF yX11_best cX11_best 4 (some .int) 88 [.ref 0, .int a1, .int a2, .int a3] s0 (f_X11_best a1 a2 a3 s0) := by
  refine ct_of (y := yX11_best) plX11 (Nat.le_of_ble_eq_true rfl) ?_
  refine r_pad0 0 (L1 := [.ref 0, .int a1, .int a2, .int a3]) rfl ?_
  unfold f_X11_best
  refine r_iload_n (pc1 := 1) (i := 1) dX11_best_0 rfl rfl rfl ?_
  refine r_callSp (pc1 := 4) lkX11_142 (c_X11_isPerson _ _) rfl rfl ⟨Nat.le_of_ble_eq_true rfl, Nat.le_of_ble_eq_true rfl⟩ (Nat.le_of_ble_eq_true rfl) dX11_best_1 rfl (fun v1 => ?_)
  refine r_if_eq (tgt := 28) (pc1 := 7) dX11_best_4 (by decide) rfl (fun q2 => ?_) (fun q2 => ?_)
  · refine r_ldc (v := (-1000000)) (pc1 := 30) dX11_best_28 cnX11_191 rfl ?_
    exact r_iret rfl rfl dX11_best_30
  · refine r_iload_n (pc1 := 8) (i := 2) dX11_best_7 rfl rfl rfl ?_
    refine r_iconst (v := 1) (pc1 := 9) dX11_best_8 ki_1 rfl ?_
    refine r_icmp_lt (tgt := 28) (pc1 := 12) dX11_best_9 (by decide) rfl (fun q3 => ?_) (fun q3 => ?_)
    · refine r_ldc (v := (-1000000)) (pc1 := 30) dX11_best_28 cnX11_191 rfl ?_
      exact r_iret rfl rfl dX11_best_30
    · refine r_iload_n (pc1 := 13) (i := 2) dX11_best_12 rfl rfl rfl ?_
      refine r_bipush (v := 8) (pc1 := 15) dX11_best_13 kb_8 rfl ?_
      refine r_icmp_gt (tgt := 28) (pc1 := 18) dX11_best_15 (by decide) rfl (fun q4 => ?_) (fun q4 => ?_)
      · refine r_ldc (v := (-1000000)) (pc1 := 30) dX11_best_28 cnX11_191 rfl ?_
        exact r_iret rfl rfl dX11_best_30
      · refine r_iload_n (pc1 := 19) (i := 3) dX11_best_18 rfl rfl rfl ?_
        refine r_iconst (v := (-1)) (pc1 := 20) dX11_best_19 ki_m1 rfl ?_
        refine r_icmp_lt (tgt := 28) (pc1 := 23) dX11_best_20 (by decide) rfl (fun q5 => ?_) (fun q5 => ?_)
        · refine r_ldc (v := (-1000000)) (pc1 := 30) dX11_best_28 cnX11_191 rfl ?_
          exact r_iret rfl rfl dX11_best_30
        · refine r_iload_n (pc1 := 24) (i := 3) dX11_best_23 rfl rfl rfl ?_
          refine r_iload_n (pc1 := 25) (i := 2) dX11_best_24 rfl rfl rfl ?_
          refine r_icmp_lt (tgt := 31) (pc1 := 28) dX11_best_25 (by decide) rfl (fun q6 => ?_) (fun q6 => ?_)
          · refine r_aload_n (pc1 := 32) (i := 0) dX11_best_31 rfl rfl rfl ?_
            refine r_getR (pc1 := 35) w_0 gfX11_67 rfl dX11_best_32 rfl ?_
            refine r_aload_n (pc1 := 36) (i := 0) dX11_best_35 rfl rfl rfl ?_
            refine r_getR (pc1 := 39) w_0 gfX11_88 rfl dX11_best_36 rfl ?_
            refine r_iload_n (pc1 := 40) (i := 2) dX11_best_39 rfl rfl rfl ?_
            refine r_iconst (v := 1) (pc1 := 41) dX11_best_40 ki_1 rfl ?_
            refine r_iload_n (pc1 := 42) (i := 1) dX11_best_41 rfl rfl rfl ?_
            refine r_ishl (pc1 := 43) dX11_best_42 rfl ?_
            refine r_aload_n (pc1 := 44) (i := 0) dX11_best_43 rfl rfl rfl ?_
            refine r_getI (pc1 := 47) w_0 gfX11_110 rfl dX11_best_44 rfl ?_
            refine r_callVv (pc1 := 50) (rv_of w_41 cl_3) lkX11_261 (c_X3_solve _ _ _ _) rfl rfl ⟨Nat.le_of_ble_eq_true rfl, Nat.le_of_ble_eq_true rfl⟩ (Nat.le_of_ble_eq_true rfl) dX11_best_47 rfl (fun v7 s8 => ?_)
            refine r_iload_n (pc1 := 51) (i := 3) dX11_best_50 rfl rfl rfl ?_
            refine r_iconst (v := (-1)) (pc1 := 52) dX11_best_51 ki_m1 rfl ?_
            refine r_icmp_ne (tgt := 66) (pc1 := 55) dX11_best_52 (by decide) rfl (fun q9 => ?_) (fun q9 => ?_)
            · refine r_aload_n (pc1 := 56) (i := 0) dX11_best_55 rfl rfl rfl ?_
              refine r_getR (pc1 := 59) w_0 gfX11_67 rfl dX11_best_56 rfl ?_
              refine r_iload_n (pc1 := 60) (i := 1) dX11_best_59 rfl rfl rfl ?_
              refine r_callVp (pc1 := 63) (rv_of w_41 cl_3) lkX11_265 (c_X3_sumOf _ _) rfl rfl ⟨Nat.le_of_ble_eq_true rfl, Nat.le_of_ble_eq_true rfl⟩ (Nat.le_of_ble_eq_true rfl) dX11_best_60 rfl (fun v10 => ?_)
              refine r_goto (tgt := 74) dX11_best_63 (by decide) ?_
              exact r_iret rfl rfl dX11_best_74
            · refine r_aload_n (pc1 := 67) (i := 0) dX11_best_66 rfl rfl rfl ?_
              refine r_getR (pc1 := 70) w_0 gfX11_67 rfl dX11_best_67 rfl ?_
              refine r_iload_n (pc1 := 71) (i := 3) dX11_best_70 rfl rfl rfl ?_
              refine r_callVp (pc1 := 74) (rv_of w_41 cl_3) lkX11_266 (c_X3_madeOn _ _) rfl rfl ⟨Nat.le_of_ble_eq_true rfl, Nat.le_of_ble_eq_true rfl⟩ (Nat.le_of_ble_eq_true rfl) dX11_best_71 rfl (fun v11 => ?_)
              exact r_iret rfl rfl dX11_best_74
          · refine r_ldc (v := (-1000000)) (pc1 := 30) dX11_best_28 cnX11_191 rfl ?_
            exact r_iret rfl rfl dX11_best_30
/-! f_X11_all -/
noncomputable def f_X11_all (a1 : Int32) (a2 : Int32) (s0 : SS) : Res := if (a1 : Int32) < (1 : Int32) then some ((-1000000), s0) else if (8 : Int32) < (a1 : Int32) then some ((-1000000), s0) else bdp (f_X11_within a2 3 s0) (fun (v3 : Int32) => jn (bd (f_X3_solve a1 15 (s0 0 15) s0) (fun (v5 : Int32) (s6 : SS) => if (3 : Int32) < (a2 : Int32) then bdp (f_X3_madeOn (a2 - 10) s6) (fun (v8 : Int32) => some (v8, s6)) else bdp (f_X3_sumOf a2 s6) (fun (v9 : Int32) => some (v9, s6)))) (fun (k4 : Res) => if (v3 : Int32) = 0 then if (a2 : Int32) < (10 : Int32) then some ((-1000000), s0) else if (a2 : Int32) < (10 + a1 : Int32) then k4 else some ((-1000000), s0) else k4))
set_option maxRecDepth 100000 in
set_option maxHeartbeats 4000000 in
theorem c_X11_all {l : Launch} (a1 : Int32) (a2 : Int32) (s0 : SS) : Ct l wF yX11_all cX11_all 3 (some .int) 88 [.ref 0, .int a1, .int a2] s0 (f_X11_all a1 a2 s0) := by
  refine ct_of (y := yX11_all) plX11 (Nat.le_of_ble_eq_true rfl) ?_
  refine r_pad0 0 (L1 := [.ref 0, .int a1, .int a2]) rfl ?_
  unfold f_X11_all
  refine r_iload_n (pc1 := 1) (i := 1) dX11_all_0 rfl rfl rfl ?_
  refine r_iconst (v := 1) (pc1 := 2) dX11_all_1 ki_1 rfl ?_
  refine r_icmp_lt (tgt := 33) (pc1 := 5) dX11_all_2 (by decide) rfl (fun q1 => ?_) (fun q1 => ?_)
  · refine r_ldc (v := (-1000000)) (pc1 := 35) dX11_all_33 cnX11_191 rfl ?_
    exact r_iret rfl rfl dX11_all_35
  · refine r_iload_n (pc1 := 6) (i := 1) dX11_all_5 rfl rfl rfl ?_
    refine r_bipush (v := 8) (pc1 := 8) dX11_all_6 kb_8 rfl ?_
    refine r_icmp_gt (tgt := 33) (pc1 := 11) dX11_all_8 (by decide) rfl (fun q2 => ?_) (fun q2 => ?_)
    · refine r_ldc (v := (-1000000)) (pc1 := 35) dX11_all_33 cnX11_191 rfl ?_
      exact r_iret rfl rfl dX11_all_35
    · refine r_iload_n (pc1 := 12) (i := 2) dX11_all_11 rfl rfl rfl ?_
      refine r_iconst (v := 3) (pc1 := 13) dX11_all_12 ki_3 rfl ?_
      refine r_callSp (pc1 := 16) lkX11_102 (c_X11_within _ _ _) rfl rfl ⟨Nat.le_of_ble_eq_true rfl, Nat.le_of_ble_eq_true rfl⟩ (Nat.le_of_ble_eq_true rfl) dX11_all_13 rfl (fun v3 => ?_)
      refine r_jn (hyp := fun (k4 : Res) => RC l wF RX11 cX11_all 3 (some .int) 88 36 [.ref 0, .int a1, .int a2] [] s0 k4) (?_) (fun k4 hk4 => ?_)
      · refine r_aload_n (pc1 := 37) (i := 0) dX11_all_36 rfl rfl rfl ?_
        refine r_getR (pc1 := 40) w_0 gfX11_67 rfl dX11_all_37 rfl ?_
        refine r_aload_n (pc1 := 41) (i := 0) dX11_all_40 rfl rfl rfl ?_
        refine r_getR (pc1 := 44) w_0 gfX11_88 rfl dX11_all_41 rfl ?_
        refine r_iload_n (pc1 := 45) (i := 1) dX11_all_44 rfl rfl rfl ?_
        refine r_bipush (v := 15) (pc1 := 47) dX11_all_45 kb_15 rfl ?_
        refine r_aload_n (pc1 := 48) (i := 0) dX11_all_47 rfl rfl rfl ?_
        refine r_getI (pc1 := 51) w_0 gfX11_110 rfl dX11_all_48 rfl ?_
        refine r_callVv (pc1 := 54) (rv_of w_41 cl_3) lkX11_261 (c_X3_solve _ _ _ _) rfl rfl ⟨Nat.le_of_ble_eq_true rfl, Nat.le_of_ble_eq_true rfl⟩ (Nat.le_of_ble_eq_true rfl) dX11_all_51 rfl (fun v5 s6 => ?_)
        refine r_iload_n (pc1 := 55) (i := 2) dX11_all_54 rfl rfl rfl ?_
        refine r_iconst (v := 3) (pc1 := 56) dX11_all_55 ki_3 rfl ?_
        refine r_icmp_gt (tgt := 70) (pc1 := 59) dX11_all_56 (by decide) rfl (fun q7 => ?_) (fun q7 => ?_)
        · refine r_aload_n (pc1 := 71) (i := 0) dX11_all_70 rfl rfl rfl ?_
          refine r_getR (pc1 := 74) w_0 gfX11_67 rfl dX11_all_71 rfl ?_
          refine r_iload_n (pc1 := 75) (i := 2) dX11_all_74 rfl rfl rfl ?_
          refine r_bipush (v := 10) (pc1 := 77) dX11_all_75 kb_10 rfl ?_
          refine r_isub (pc1 := 78) dX11_all_77 rfl ?_
          refine r_callVp (pc1 := 81) (rv_of w_41 cl_3) lkX11_266 (c_X3_madeOn _ _) rfl rfl ⟨Nat.le_of_ble_eq_true rfl, Nat.le_of_ble_eq_true rfl⟩ (Nat.le_of_ble_eq_true rfl) dX11_all_78 rfl (fun v8 => ?_)
          exact r_iret rfl rfl dX11_all_81
        · refine r_aload_n (pc1 := 60) (i := 0) dX11_all_59 rfl rfl rfl ?_
          refine r_getR (pc1 := 63) w_0 gfX11_67 rfl dX11_all_60 rfl ?_
          refine r_iload_n (pc1 := 64) (i := 2) dX11_all_63 rfl rfl rfl ?_
          refine r_callVp (pc1 := 67) (rv_of w_41 cl_3) lkX11_265 (c_X3_sumOf _ _) rfl rfl ⟨Nat.le_of_ble_eq_true rfl, Nat.le_of_ble_eq_true rfl⟩ (Nat.le_of_ble_eq_true rfl) dX11_all_64 rfl (fun v9 => ?_)
          refine r_goto (tgt := 81) dX11_all_67 (by decide) ?_
          exact r_iret rfl rfl dX11_all_81
      · refine r_if_ne (tgt := 36) (pc1 := 19) dX11_all_16 (by decide) rfl (fun q10 => ?_) (fun q10 => ?_)
        · refine r_iload_n (pc1 := 20) (i := 2) dX11_all_19 rfl rfl rfl ?_
          refine r_bipush (v := 10) (pc1 := 22) dX11_all_20 kb_10 rfl ?_
          refine r_icmp_lt (tgt := 33) (pc1 := 25) dX11_all_22 (by decide) rfl (fun q11 => ?_) (fun q11 => ?_)
          · refine r_ldc (v := (-1000000)) (pc1 := 35) dX11_all_33 cnX11_191 rfl ?_
            exact r_iret rfl rfl dX11_all_35
          · refine r_iload_n (pc1 := 26) (i := 2) dX11_all_25 rfl rfl rfl ?_
            refine r_bipush (v := 10) (pc1 := 28) dX11_all_26 kb_10 rfl ?_
            refine r_iload_n (pc1 := 29) (i := 1) dX11_all_28 rfl rfl rfl ?_
            refine r_iadd (pc1 := 30) dX11_all_29 rfl ?_
            refine r_icmp_lt (tgt := 36) (pc1 := 33) dX11_all_30 (by decide) rfl (fun q12 => ?_) (fun q12 => ?_)
            · exact r_wk (hk4) ⟨Or.inr rfl, Or.inr rfl, Or.inr rfl, trivial⟩
            · refine r_ldc (v := (-1000000)) (pc1 := 35) dX11_all_33 cnX11_191 rfl ?_
              exact r_iret rfl rfl dX11_all_35
        · exact r_wk (hk4) ⟨Or.inr rfl, Or.inr rfl, Or.inr rfl, trivial⟩
/-! f_X6_firstFullOf -/
noncomputable def lp_X6_firstFullOf_9 (a1 : Int32) (s0 : SS) : Nat → Int32 → Int32 → Int32 → Option Int32
  | 0, _, _, _ => none
  | n5 + 1, v2, v3, v4 => if (a1 : Int32) ≤ (v3 : Int32) then some v2 else if (4 : Int32) ≤ (v3 : Int32) then some v2 else lt (v2 + v4) (fun (v8 : Int32) => lt (v4 * 8) (fun (v9 : Int32) => lp_X6_firstFullOf_9 a1 s0 n5 v8 (v3 + 1) v9))
noncomputable def f_X6_firstFullOf (a1 : Int32) (s0 : SS) : Option Int32 := bdp (f_X6_bareOf a1 s0) (fun (v1 : Int32) => lp_X6_firstFullOf_9 a1 s0 FU v1 0 1)
set_option maxRecDepth 100000 in
set_option maxHeartbeats 4000000 in
theorem t_lp_X6_firstFullOf_9 {l : Launch} {wl : WT} (w_3 : WI wl 3 (OE 6 [some 4, some 8])) (w_4 : WI wl 4 (AE 0 5348)) (w_8 : WI wl 8 (AE 0 5348)) (a1 : Int32) (s0 : SS)  : ∀ (n5 : Nat) (v2 : Int32) (v3 : Int32) (v4 : Int32), RC l wl RX6 cX6_firstFullOf 4 (some .int) 1 9 [.int a1, .int v2, .int v3, .int v4] [] s0 (pu (lp_X6_firstFullOf_9 a1 s0 n5 v2 v3 v4) s0) := by
  intro n5
  induction n5 with
  | zero =>
    intro v2 v3 v4
    rw [lp_X6_firstFullOf_9]
    exact p_none
  | succ n5 ih =>
    intro v2 v3 v4
    rw [lp_X6_firstFullOf_9]
    refine r_iload_n (pc1 := 10) (i := 2) dX6_firstFullOf_9 rfl rfl rfl ?_
    refine r_iload_n (pc1 := 11) (i := 0) dX6_firstFullOf_10 rfl rfl rfl ?_
    refine p_icmp_ge (tgt := 34) (pc1 := 14) dX6_firstFullOf_11 (by decide) rfl (fun q6 => ?_) (fun q6 => ?_)
    · refine r_iload_n (pc1 := 35) (i := 1) dX6_firstFullOf_34 rfl rfl rfl ?_
      exact p_iret rfl rfl dX6_firstFullOf_35
    · refine r_iload_n (pc1 := 15) (i := 2) dX6_firstFullOf_14 rfl rfl rfl ?_
      refine r_iconst (v := 4) (pc1 := 16) dX6_firstFullOf_15 ki_4 rfl ?_
      refine p_icmp_ge (tgt := 34) (pc1 := 19) dX6_firstFullOf_16 (by decide) rfl (fun q7 => ?_) (fun q7 => ?_)
      · refine r_iload_n (pc1 := 35) (i := 1) dX6_firstFullOf_34 rfl rfl rfl ?_
        exact p_iret rfl rfl dX6_firstFullOf_35
      · refine r_iload_n (pc1 := 20) (i := 1) dX6_firstFullOf_19 rfl rfl rfl ?_
        refine r_iload_n (pc1 := 21) (i := 3) dX6_firstFullOf_20 rfl rfl rfl ?_
        refine r_iadd (pc1 := 22) dX6_firstFullOf_21 rfl ?_
        refine p_lt (fun v8 => ?_)
        refine r_istore_n (pc1 := 23) (i := 1) dX6_firstFullOf_22 rfl (by decide) rfl rfl rfl ?_
        refine r_iinc (pc1 := 26) dX6_firstFullOf_23 rfl (kn_1 _) (by decide) rfl rfl rfl ?_
        refine r_iload_n (pc1 := 27) (i := 3) dX6_firstFullOf_26 rfl rfl rfl ?_
        refine r_bipush (v := 8) (pc1 := 29) dX6_firstFullOf_27 kb_8 rfl ?_
        refine r_imul (pc1 := 30) dX6_firstFullOf_29 rfl ?_
        refine p_lt (fun v9 => ?_)
        refine r_istore_n (pc1 := 31) (i := 3) dX6_firstFullOf_30 rfl (by decide) rfl rfl rfl ?_
        refine r_goto (tgt := 9) dX6_firstFullOf_31 (by decide) ?_
        exact r_wk (ih v8 (v3 + 1) v9) ⟨Or.inr rfl, Or.inr rfl, Or.inr rfl, Or.inr rfl, trivial⟩
set_option maxRecDepth 100000 in
set_option maxHeartbeats 4000000 in
theorem c_X6_firstFullOf {l : Launch} {wl : WT} (w_3 : WI wl 3 (OE 6 [some 4, some 8])) (w_4 : WI wl 4 (AE 0 5348)) (w_8 : WI wl 8 (AE 0 5348)) (a1 : Int32) (s0 : SS) : Ct l wl yX6_firstFullOf cX6_firstFullOf 4 (some .int) 1 [.int a1] s0 (pu (f_X6_firstFullOf a1 s0) s0) := by
  refine ct_of (y := yX6_firstFullOf) plX6 (Nat.le_of_ble_eq_true rfl) ?_
  refine r_pad0 3 (L1 := [.int a1, .null, .null, .null]) rfl ?_
  unfold f_X6_firstFullOf
  refine r_iload_n (pc1 := 1) (i := 0) dX6_firstFullOf_0 rfl rfl rfl ?_
  refine p_callSp (pc1 := 4) lkX6_22 (c_X6_bareOf w_3 w_4 w_8 _ _) rfl rfl ⟨Nat.le_of_ble_eq_true rfl, Nat.le_of_ble_eq_true rfl⟩ (Nat.le_of_ble_eq_true rfl) dX6_firstFullOf_1 rfl (fun v1 => ?_)
  refine r_istore_n (pc1 := 5) (i := 1) dX6_firstFullOf_4 rfl (by decide) rfl rfl rfl ?_
  refine r_iconst (v := 0) (pc1 := 6) dX6_firstFullOf_5 ki_0 rfl ?_
  refine r_istore_n (pc1 := 7) (i := 2) dX6_firstFullOf_6 rfl (by decide) rfl rfl rfl ?_
  refine r_iconst (v := 1) (pc1 := 8) dX6_firstFullOf_7 ki_1 rfl ?_
  refine r_istore_n (pc1 := 9) (i := 3) dX6_firstFullOf_8 rfl (by decide) rfl rfl rfl ?_
  exact r_wk (t_lp_X6_firstFullOf_9 w_3 w_4 w_8 a1 s0 FU v1 0 1) ⟨Or.inr rfl, Or.inr rfl, Or.inr rfl, Or.inr rfl, trivial⟩
/-! f_X10_isOfLaws -/
noncomputable def f_X10_isOfLaws (a1 : Int32) (s0 : SS) : Option Int32 := bdp (f_X6_standingOn a1 s0) (fun (v1 : Int32) => bdp (f_X10_allLaws s0) (fun (v2 : Int32) => if (v1 &&& (v2 ^^^ ((-1))) : Int32) = 0 then some 1 else some 0))
set_option maxRecDepth 100000 in
set_option maxHeartbeats 4000000 in
theorem c_X10_isOfLaws {l : Launch} (a1 : Int32) (s0 : SS) : Ct l wF yX10_isOfLaws cX10_isOfLaws 2 (some .boolean) 1 [.ref 27, .int a1] s0 (pu (f_X10_isOfLaws a1 s0) s0) := by
  refine ct_of (y := yX10_isOfLaws) plX10 (Nat.le_of_ble_eq_true rfl) ?_
  refine r_pad0 0 (L1 := [.ref 27, .int a1]) rfl ?_
  unfold f_X10_isOfLaws
  refine r_aload_n (pc1 := 1) (i := 0) dX10_isOfLaws_0 rfl rfl rfl ?_
  refine r_getR (pc1 := 4) w_27 gfX10_36 rfl dX10_isOfLaws_1 rfl ?_
  refine r_iload_n (pc1 := 5) (i := 1) dX10_isOfLaws_4 rfl rfl rfl ?_
  refine p_callVp (pc1 := 8) (rv_of w_3 cl_6) lkX10_48 (c_X6_standingOn w_3 w_4 w_8 _ _) rfl rfl ⟨Nat.le_of_ble_eq_true rfl, Nat.le_of_ble_eq_true rfl⟩ (Nat.le_of_ble_eq_true rfl) dX10_isOfLaws_5 rfl (fun v1 => ?_)
  refine r_aload_n (pc1 := 9) (i := 0) dX10_isOfLaws_8 rfl rfl rfl ?_
  refine p_callVp (pc1 := 12) (rv_of w_27 cl_10) lkX10_52 (c_X10_allLaws _) rfl rfl ⟨Nat.le_of_ble_eq_true rfl, Nat.le_of_ble_eq_true rfl⟩ (Nat.le_of_ble_eq_true rfl) dX10_isOfLaws_9 rfl (fun v2 => ?_)
  refine r_iconst (v := (-1)) (pc1 := 13) dX10_isOfLaws_12 ki_m1 rfl ?_
  refine r_ixor (pc1 := 14) dX10_isOfLaws_13 rfl ?_
  refine r_iand (pc1 := 15) dX10_isOfLaws_14 rfl ?_
  refine p_if_ne (tgt := 22) (pc1 := 18) dX10_isOfLaws_15 (by decide) rfl (fun q3 => ?_) (fun q3 => ?_)
  · refine r_iconst (v := 1) (pc1 := 19) dX10_isOfLaws_18 ki_1 rfl ?_
    refine r_goto (tgt := 23) dX10_isOfLaws_19 (by decide) ?_
    exact p_iret rfl rfl dX10_isOfLaws_23
  · refine r_iconst (v := 0) (pc1 := 23) dX10_isOfLaws_22 ki_0 rfl ?_
    exact p_iret rfl rfl dX10_isOfLaws_23
/-! f_J6_bitCount_0f7a4 -/
noncomputable def f_J6_bitCount_0f7a4 (a1 : Int32) (s0 : SS) : Option Int32 := lt (a1 - ((((a1 : Int32).toUInt32 >>> (Int32.toUInt32 1 &&& Int32.toUInt32 31)).toInt32) &&& 1431655765)) (fun (v1 : Int32) => lt ((v1 &&& 858993459) + ((((v1 : Int32).toUInt32 >>> (Int32.toUInt32 2 &&& Int32.toUInt32 31)).toInt32) &&& 858993459)) (fun (v2 : Int32) => lt ((v2 + (((v2 : Int32).toUInt32 >>> (Int32.toUInt32 4 &&& Int32.toUInt32 31)).toInt32)) &&& 252645135) (fun (v3 : Int32) => lt (v3 + (((v3 : Int32).toUInt32 >>> (Int32.toUInt32 8 &&& Int32.toUInt32 31)).toInt32)) (fun (v4 : Int32) => lt (v4 + (((v4 : Int32).toUInt32 >>> (Int32.toUInt32 16 &&& Int32.toUInt32 31)).toInt32)) (fun (v5 : Int32) => some (v5 &&& 63))))))
set_option maxRecDepth 100000 in
set_option maxHeartbeats 4000000 in
theorem c_J6_bitCount_0f7a4 {l : Launch} (a1 : Int32) (s0 : SS) : Ct l wF yJ6_bitCount_0f7a4 cJ6_bitCount_0f7a4 1 (some .int) 0 [.int a1] s0 (pu (f_J6_bitCount_0f7a4 a1 s0) s0) := by
  refine ct_of (y := yJ6_bitCount_0f7a4) plJ6 (Nat.le_of_ble_eq_true rfl) ?_
  refine r_pad0 0 (L1 := [.int a1]) rfl ?_
  unfold f_J6_bitCount_0f7a4
  refine r_iload_n (pc1 := 1) (i := 0) dJ6_bitCount_0f7a4_0 rfl rfl rfl ?_
  refine r_iload_n (pc1 := 2) (i := 0) dJ6_bitCount_0f7a4_1 rfl rfl rfl ?_
  refine r_iconst (v := 1) (pc1 := 3) dJ6_bitCount_0f7a4_2 ki_1 rfl ?_
  refine r_iushr (pc1 := 4) dJ6_bitCount_0f7a4_3 rfl ?_
  refine r_ldcw (v := 1431655765) (pc1 := 7) dJ6_bitCount_0f7a4_4 cnJ6_265 rfl ?_
  refine r_iand (pc1 := 8) dJ6_bitCount_0f7a4_7 rfl ?_
  refine r_isub (pc1 := 9) dJ6_bitCount_0f7a4_8 rfl ?_
  refine p_lt (fun v1 => ?_)
  refine r_istore_n (pc1 := 10) (i := 0) dJ6_bitCount_0f7a4_9 rfl (by decide) rfl rfl rfl ?_
  refine r_iload_n (pc1 := 11) (i := 0) dJ6_bitCount_0f7a4_10 rfl rfl rfl ?_
  refine r_ldcw (v := 858993459) (pc1 := 14) dJ6_bitCount_0f7a4_11 cnJ6_266 rfl ?_
  refine r_iand (pc1 := 15) dJ6_bitCount_0f7a4_14 rfl ?_
  refine r_iload_n (pc1 := 16) (i := 0) dJ6_bitCount_0f7a4_15 rfl rfl rfl ?_
  refine r_iconst (v := 2) (pc1 := 17) dJ6_bitCount_0f7a4_16 ki_2 rfl ?_
  refine r_iushr (pc1 := 18) dJ6_bitCount_0f7a4_17 rfl ?_
  refine r_ldcw (v := 858993459) (pc1 := 21) dJ6_bitCount_0f7a4_18 cnJ6_266 rfl ?_
  refine r_iand (pc1 := 22) dJ6_bitCount_0f7a4_21 rfl ?_
  refine r_iadd (pc1 := 23) dJ6_bitCount_0f7a4_22 rfl ?_
  refine p_lt (fun v2 => ?_)
  refine r_istore_n (pc1 := 24) (i := 0) dJ6_bitCount_0f7a4_23 rfl (by decide) rfl rfl rfl ?_
  refine r_iload_n (pc1 := 25) (i := 0) dJ6_bitCount_0f7a4_24 rfl rfl rfl ?_
  refine r_iload_n (pc1 := 26) (i := 0) dJ6_bitCount_0f7a4_25 rfl rfl rfl ?_
  refine r_iconst (v := 4) (pc1 := 27) dJ6_bitCount_0f7a4_26 ki_4 rfl ?_
  refine r_iushr (pc1 := 28) dJ6_bitCount_0f7a4_27 rfl ?_
  refine r_iadd (pc1 := 29) dJ6_bitCount_0f7a4_28 rfl ?_
  refine r_ldcw (v := 252645135) (pc1 := 32) dJ6_bitCount_0f7a4_29 cnJ6_267 rfl ?_
  refine r_iand (pc1 := 33) dJ6_bitCount_0f7a4_32 rfl ?_
  refine p_lt (fun v3 => ?_)
  refine r_istore_n (pc1 := 34) (i := 0) dJ6_bitCount_0f7a4_33 rfl (by decide) rfl rfl rfl ?_
  refine r_iload_n (pc1 := 35) (i := 0) dJ6_bitCount_0f7a4_34 rfl rfl rfl ?_
  refine r_iload_n (pc1 := 36) (i := 0) dJ6_bitCount_0f7a4_35 rfl rfl rfl ?_
  refine r_bipush (v := 8) (pc1 := 38) dJ6_bitCount_0f7a4_36 kb_8 rfl ?_
  refine r_iushr (pc1 := 39) dJ6_bitCount_0f7a4_38 rfl ?_
  refine r_iadd (pc1 := 40) dJ6_bitCount_0f7a4_39 rfl ?_
  refine p_lt (fun v4 => ?_)
  refine r_istore_n (pc1 := 41) (i := 0) dJ6_bitCount_0f7a4_40 rfl (by decide) rfl rfl rfl ?_
  refine r_iload_n (pc1 := 42) (i := 0) dJ6_bitCount_0f7a4_41 rfl rfl rfl ?_
  refine r_iload_n (pc1 := 43) (i := 0) dJ6_bitCount_0f7a4_42 rfl rfl rfl ?_
  refine r_bipush (v := 16) (pc1 := 45) dJ6_bitCount_0f7a4_43 kb_16 rfl ?_
  refine r_iushr (pc1 := 46) dJ6_bitCount_0f7a4_45 rfl ?_
  refine r_iadd (pc1 := 47) dJ6_bitCount_0f7a4_46 rfl ?_
  refine p_lt (fun v5 => ?_)
  refine r_istore_n (pc1 := 48) (i := 0) dJ6_bitCount_0f7a4_47 rfl (by decide) rfl rfl rfl ?_
  refine r_iload_n (pc1 := 49) (i := 0) dJ6_bitCount_0f7a4_48 rfl rfl rfl ?_
  refine r_bipush (v := 63) (pc1 := 51) dJ6_bitCount_0f7a4_49 kb_63 rfl ?_
  refine r_iand (pc1 := 52) dJ6_bitCount_0f7a4_51 rfl ?_
  exact p_iret rfl rfl dJ6_bitCount_0f7a4_52
/-! f_X11_worthToAll -/
noncomputable def lp_X11_worthToAll_4 (a1 : Int32) : Nat → Int32 → Int32 → SS → Res
  | 0, _, _, _ => none
  | n4 + 1, v1, v2, s3 => if (4 : Int32) ≤ (v2 : Int32) then some (v1, s3) else bd (f_X10_worthOf a1 v2 s3) (fun (v6 : Int32) (s7 : SS) => lt (v1 + v6) (fun (v8 : Int32) => lp_X11_worthToAll_4 a1 n4 v8 (v2 + 1) s7))
noncomputable def f_X11_worthToAll (a1 : Int32) (s0 : SS) : Res := lp_X11_worthToAll_4 a1 FU 0 0 s0
set_option maxRecDepth 100000 in
set_option maxHeartbeats 4000000 in
theorem t_lp_X11_worthToAll_4 {l : Launch} (a1 : Int32)  : ∀ (n4 : Nat) (v1 : Int32) (v2 : Int32) (s3 : SS), RC l wF RX11 cX11_worthToAll 4 (some .int) 4 4 [.ref 0, .int a1, .int v1, .int v2] [] s3 (lp_X11_worthToAll_4 a1 n4 v1 v2 s3) := by
  intro n4
  induction n4 with
  | zero =>
    intro v1 v2 s3
    rw [lp_X11_worthToAll_4]
    exact r_none
  | succ n4 ih =>
    intro v1 v2 s3
    rw [lp_X11_worthToAll_4]
    refine r_iload_n (pc1 := 5) (i := 3) dX11_worthToAll_4 rfl rfl rfl ?_
    refine r_iconst (v := 4) (pc1 := 6) dX11_worthToAll_5 ki_4 rfl ?_
    refine r_icmp_ge (tgt := 27) (pc1 := 9) dX11_worthToAll_6 (by decide) rfl (fun q5 => ?_) (fun q5 => ?_)
    · refine r_iload_n (pc1 := 28) (i := 2) dX11_worthToAll_27 rfl rfl rfl ?_
      exact r_iret rfl rfl dX11_worthToAll_28
    · refine r_iload_n (pc1 := 10) (i := 2) dX11_worthToAll_9 rfl rfl rfl ?_
      refine r_aload_n (pc1 := 11) (i := 0) dX11_worthToAll_10 rfl rfl rfl ?_
      refine r_getR (pc1 := 14) w_0 gfX11_42 rfl dX11_worthToAll_11 rfl ?_
      refine r_iload_n (pc1 := 15) (i := 1) dX11_worthToAll_14 rfl rfl rfl ?_
      refine r_iload_n (pc1 := 16) (i := 3) dX11_worthToAll_15 rfl rfl rfl ?_
      refine r_callVi (pc1 := 19) (rv_of w_27 cl_10) lkX11_188 (c_X10_worthOf _ _ _) rfl rfl ⟨Nat.le_of_ble_eq_true rfl, Nat.le_of_ble_eq_true rfl⟩ (Nat.le_of_ble_eq_true rfl) dX11_worthToAll_16 rfl (fun v6 s7 => ?_)
      refine r_iadd (pc1 := 20) dX11_worthToAll_19 rfl ?_
      refine r_lt (fun v8 => ?_)
      refine r_istore_n (pc1 := 21) (i := 2) dX11_worthToAll_20 rfl (by decide) rfl rfl rfl ?_
      refine r_iinc (pc1 := 24) dX11_worthToAll_21 rfl (kn_1 _) (by decide) rfl rfl rfl ?_
      refine r_goto (tgt := 4) dX11_worthToAll_24 (by decide) ?_
      exact r_wk (ih v8 (v2 + 1) s7) ⟨Or.inr rfl, Or.inr rfl, Or.inr rfl, Or.inr rfl, trivial⟩
set_option maxRecDepth 100000 in
set_option maxHeartbeats 4000000 in
theorem c_X11_worthToAll {l : Launch} (a1 : Int32) (s0 : SS) : Ct l wF yX11_worthToAll cX11_worthToAll 4 (some .int) 4 [.ref 0, .int a1] s0 (f_X11_worthToAll a1 s0) := by
  refine ct_of (y := yX11_worthToAll) plX11 (Nat.le_of_ble_eq_true rfl) ?_
  refine r_pad0 2 (L1 := [.ref 0, .int a1, .null, .null]) rfl ?_
  unfold f_X11_worthToAll
  refine r_iconst (v := 0) (pc1 := 1) dX11_worthToAll_0 ki_0 rfl ?_
  refine r_istore_n (pc1 := 2) (i := 2) dX11_worthToAll_1 rfl (by decide) rfl rfl rfl ?_
  refine r_iconst (v := 0) (pc1 := 3) dX11_worthToAll_2 ki_0 rfl ?_
  refine r_istore_n (pc1 := 4) (i := 3) dX11_worthToAll_3 rfl (by decide) rfl rfl rfl ?_
  exact r_wk (t_lp_X11_worthToAll_4 a1 FU 0 0 s0) ⟨Or.inr rfl, Or.inr rfl, Or.inr rfl, Or.inr rfl, trivial⟩
/-! f_X11_bestRow -/
noncomputable def lp_X11_bestRow_69 (a1 : Int32) (a2 : Int32) (v1 : Int32) (v8 : Int32) (k13 : Int32 → Int32 → SS → Res) : Nat → Int32 → Int32 → Int32 → SS → Res
  | 0, _, _, _, _ => none
  | n20 + 1, v16, v17, v18, s19 => if (v8 : Int32) ≤ (v18 : Int32) then k13 v16 v17 s19 else bdp (f_X10_isOfLaws v18 s19) (fun (v22 : Int32) => jn (fun (v23 : Int32) (v24 : Int32) (s25 : SS) => lp_X11_bestRow_69 a1 a2 v1 v8 k13 n20 v23 v24 (v18 + 1) s25) (fun (k26 : Int32 → Int32 → SS → Res) => if (v22 : Int32) = 0 then k26 v16 v17 s19 else bdp (f_X6_standingOn v18 s19) (fun (v28 : Int32) => bdp (f_J6_bitCount_0f7a4 v28 s19) (fun (v29 : Int32) => if (v1 : Int32) ≤ (v29 : Int32) then jn (fun (v31 : Int32) (s32 : SS) => jn (k26 v18 v31 s32) (fun (k34 : Res) => if (v16 : Int32) = ((-1) : Int32) then k34 else if (v31 : Int32) ≤ (v17 : Int32) then k26 v16 v17 s32 else k34)) (fun (k33 : Int32 → SS → Res) => if (a1 : Int32) = ((-1) : Int32) then bd (f_X11_worthToAll v18 s19) (fun (v38 : Int32) (s39 : SS) => k33 v38 s39) else bd (f_X10_worthOf v18 a1 s19) (fun (v40 : Int32) (s41 : SS) => k33 v40 s41)) else k26 v16 v17 s19))))
noncomputable def f_X11_bestRow (a1 : Int32) (a2 : Int32) (s0 : SS) : Res := bdp (f_X6_lengthOf (s0 52 0) s0) (fun (v1 : Int32) => if (a1 : Int32) < ((-1) : Int32) then some ((-1000000), s0) else if (4 : Int32) ≤ (a1 : Int32) then some ((-1000000), s0) else if (a2 : Int32) < ((-1) : Int32) then some ((-1000000), s0) else if (v1 : Int32) ≤ (a2 : Int32) then some ((-1000000), s0) else bdp (f_X10_lawCount s0) (fun (v6 : Int32) => if (v1 : Int32) ≤ (v6 : Int32) then bdp (f_X6_bareOf (v1 + 1) s0) (fun (v8 : Int32) => bdp (f_X6_firstFullOf v1 s0) (fun (v9 : Int32) => jn (fun (v10 : Int32) (v11 : Int32) (s12 : SS) => if (a2 : Int32) = ((-1) : Int32) then some (v11, s12) else bdp (f_X6_lawOn v10 a2 s12) (fun (v15 : Int32) => some (v15, s12))) (fun (k13 : Int32 → Int32 → SS → Res) => lp_X11_bestRow_69 a1 a2 v1 v8 k13 FU ((-1)) 0 v9 s0))) else some ((-1000000), s0)))
set_option maxRecDepth 100000 in
set_option maxHeartbeats 4000000 in
theorem t_lp_X11_bestRow_69 {l : Launch} (a1 : Int32) (a2 : Int32) (v1 : Int32) (v8 : Int32) (k13 : Int32 → Int32 → SS → Res) (hk13 : ∀ (v10 : Int32) (v11 : Int32) (s12 : SS), RC l wF RX11 cX11_bestRow 9 (some .int) 5 160 [.ref 0, .null, .int a2, .null, .int v10, .int v11, .null, .null, .null] [] s12 (k13 v10 v11 s12)) : ∀ (n20 : Nat) (v16 : Int32) (v17 : Int32) (v18 : Int32) (s19 : SS), RC l wF RX11 cX11_bestRow 9 (some .int) 5 69 [.ref 0, .int a1, .int a2, .int v1, .int v16, .int v17, .int v8, .int v18, .null] [] s19 (lp_X11_bestRow_69 a1 a2 v1 v8 k13 n20 v16 v17 v18 s19) := by
  intro n20
  induction n20 with
  | zero =>
    intro v16 v17 v18 s19
    rw [lp_X11_bestRow_69]
    exact r_none
  | succ n20 ih =>
    intro v16 v17 v18 s19
    rw [lp_X11_bestRow_69]
    refine r_iload (pc1 := 71) dX11_bestRow_69 rfl rfl ?_
    refine r_iload (pc1 := 73) dX11_bestRow_71 rfl rfl ?_
    refine r_icmp_ge (tgt := 160) (pc1 := 76) dX11_bestRow_73 (by decide) rfl (fun q21 => ?_) (fun q21 => ?_)
    · exact r_wk (hk13 v16 v17 s19) ⟨Or.inr rfl, Or.inl rfl, Or.inr rfl, Or.inl rfl, Or.inr rfl, Or.inr rfl, Or.inl rfl, Or.inl rfl, Or.inl rfl, trivial⟩
    · refine r_aload_n (pc1 := 77) (i := 0) dX11_bestRow_76 rfl rfl rfl ?_
      refine r_getR (pc1 := 80) w_0 gfX11_42 rfl dX11_bestRow_77 rfl ?_
      refine r_iload (pc1 := 82) dX11_bestRow_80 rfl rfl ?_
      refine r_callVp (pc1 := 85) (rv_of w_27 cl_10) lkX11_283 (c_X10_isOfLaws _ _) rfl rfl ⟨Nat.le_of_ble_eq_true rfl, Nat.le_of_ble_eq_true rfl⟩ (Nat.le_of_ble_eq_true rfl) dX11_bestRow_82 rfl (fun v22 => ?_)
      refine r_jn (hyp := fun (k26 : Int32 → Int32 → SS → Res) => ∀ (v23 : Int32) (v24 : Int32) (s25 : SS), RC l wF RX11 cX11_bestRow 9 (some .int) 5 154 [.ref 0, .int a1, .int a2, .int v1, .int v23, .int v24, .int v8, .int v18, .null] [] s25 (k26 v23 v24 s25)) (fun v23 v24 s25 => ?_) (fun k26 hk26 => ?_)
      · refine r_iinc (pc1 := 157) dX11_bestRow_154 rfl (kn_1 _) (by decide) rfl rfl rfl ?_
        refine r_goto (tgt := 69) dX11_bestRow_157 (by decide) ?_
        exact r_wk (ih v23 v24 (v18 + 1) s25) ⟨Or.inr rfl, Or.inr rfl, Or.inr rfl, Or.inr rfl, Or.inr rfl, Or.inr rfl, Or.inr rfl, Or.inr rfl, Or.inl rfl, trivial⟩
      · refine r_if_eq (tgt := 154) (pc1 := 88) dX11_bestRow_85 (by decide) rfl (fun q27 => ?_) (fun q27 => ?_)
        · exact r_wk (hk26 v16 v17 s19) ⟨Or.inr rfl, Or.inr rfl, Or.inr rfl, Or.inr rfl, Or.inr rfl, Or.inr rfl, Or.inr rfl, Or.inr rfl, Or.inl rfl, trivial⟩
        · refine r_aload_n (pc1 := 89) (i := 0) dX11_bestRow_88 rfl rfl rfl ?_
          refine r_getR (pc1 := 92) w_0 gfX11_19 rfl dX11_bestRow_89 rfl ?_
          refine r_iload (pc1 := 94) dX11_bestRow_92 rfl rfl ?_
          refine r_callVp (pc1 := 97) (rv_of w_3 cl_6) lkX11_286 (c_X6_standingOn w_3 w_4 w_8 _ _) rfl rfl ⟨Nat.le_of_ble_eq_true rfl, Nat.le_of_ble_eq_true rfl⟩ (Nat.le_of_ble_eq_true rfl) dX11_bestRow_94 rfl (fun v28 => ?_)
          refine r_callSp (pc1 := 100) lkX11_289 (c_J6_bitCount_0f7a4 _ _) rfl rfl ⟨Nat.le_of_ble_eq_true rfl, Nat.le_of_ble_eq_true rfl⟩ (Nat.le_of_ble_eq_true rfl) dX11_bestRow_97 rfl (fun v29 => ?_)
          refine r_iload_n (pc1 := 101) (i := 3) dX11_bestRow_100 rfl rfl rfl ?_
          refine r_icmp_ge (tgt := 107) (pc1 := 104) dX11_bestRow_101 (by decide) rfl (fun q30 => ?_) (fun q30 => ?_)
          · refine r_iload_n (pc1 := 108) (i := 1) dX11_bestRow_107 rfl rfl rfl ?_
            refine r_iconst (v := (-1)) (pc1 := 109) dX11_bestRow_108 ki_m1 rfl ?_
            refine r_jn (hyp := fun (k33 : Int32 → SS → Res) => ∀ (v31 : Int32) (s32 : SS), RC l wF RX11 cX11_bestRow 9 (some .int) 5 131 [.ref 0, .int a1, .int a2, .int v1, .int v16, .int v17, .int v8, .int v18, .null] [.int v31] s32 (k33 v31 s32)) (fun v31 s32 => ?_) (fun k33 hk33 => ?_)
            · refine r_istore (pc1 := 133) dX11_bestRow_131 (by decide) rfl rfl rfl ?_
              refine r_iload (pc1 := 135) dX11_bestRow_133 rfl rfl ?_
              refine r_iconst (v := (-1)) (pc1 := 136) dX11_bestRow_135 ki_m1 rfl ?_
              refine r_jn (hyp := fun (k34 : Res) => RC l wF RX11 cX11_bestRow 9 (some .int) 5 146 [.ref 0, .int a1, .int a2, .int v1, .null, .null, .int v8, .int v18, .int v31] [] s32 k34) (?_) (fun k34 hk34 => ?_)
              · refine r_iload (pc1 := 148) dX11_bestRow_146 rfl rfl ?_
                refine r_istore (pc1 := 150) dX11_bestRow_148 (by decide) rfl rfl rfl ?_
                refine r_iload (pc1 := 152) dX11_bestRow_150 rfl rfl ?_
                refine r_istore (pc1 := 154) dX11_bestRow_152 (by decide) rfl rfl rfl ?_
                exact r_wk (hk26 v18 v31 s32) ⟨Or.inr rfl, Or.inr rfl, Or.inr rfl, Or.inr rfl, Or.inr rfl, Or.inr rfl, Or.inr rfl, Or.inr rfl, Or.inl rfl, trivial⟩
              · refine r_icmp_eq (tgt := 146) (pc1 := 139) dX11_bestRow_136 (by decide) rfl (fun q35 => ?_) (fun q35 => ?_)
                · exact r_wk (hk34) ⟨Or.inr rfl, Or.inr rfl, Or.inr rfl, Or.inr rfl, Or.inl rfl, Or.inl rfl, Or.inr rfl, Or.inr rfl, Or.inr rfl, trivial⟩
                · refine r_iload (pc1 := 141) dX11_bestRow_139 rfl rfl ?_
                  refine r_iload (pc1 := 143) dX11_bestRow_141 rfl rfl ?_
                  refine r_icmp_le (tgt := 154) (pc1 := 146) dX11_bestRow_143 (by decide) rfl (fun q36 => ?_) (fun q36 => ?_)
                  · exact r_wk (hk26 v16 v17 s32) ⟨Or.inr rfl, Or.inr rfl, Or.inr rfl, Or.inr rfl, Or.inr rfl, Or.inr rfl, Or.inr rfl, Or.inr rfl, Or.inl rfl, trivial⟩
                  · exact r_wk (hk34) ⟨Or.inr rfl, Or.inr rfl, Or.inr rfl, Or.inr rfl, Or.inl rfl, Or.inl rfl, Or.inr rfl, Or.inr rfl, Or.inr rfl, trivial⟩
            · refine r_icmp_ne (tgt := 121) (pc1 := 112) dX11_bestRow_109 (by decide) rfl (fun q37 => ?_) (fun q37 => ?_)
              · refine r_aload_n (pc1 := 113) (i := 0) dX11_bestRow_112 rfl rfl rfl ?_
                refine r_iload (pc1 := 115) dX11_bestRow_113 rfl rfl ?_
                refine r_callVi (pc1 := 118) (rv_of w_0 cl_11) lkX11_294 (c_X11_worthToAll _ _) rfl rfl ⟨Nat.le_of_ble_eq_true rfl, Nat.le_of_ble_eq_true rfl⟩ (Nat.le_of_ble_eq_true rfl) dX11_bestRow_115 rfl (fun v38 s39 => ?_)
                refine r_goto (tgt := 131) dX11_bestRow_118 (by decide) ?_
                exact r_wk (hk33 v38 s39) ⟨Or.inr rfl, Or.inr rfl, Or.inr rfl, Or.inr rfl, Or.inr rfl, Or.inr rfl, Or.inr rfl, Or.inr rfl, Or.inl rfl, trivial⟩
              · refine r_aload_n (pc1 := 122) (i := 0) dX11_bestRow_121 rfl rfl rfl ?_
                refine r_getR (pc1 := 125) w_0 gfX11_42 rfl dX11_bestRow_122 rfl ?_
                refine r_iload (pc1 := 127) dX11_bestRow_125 rfl rfl ?_
                refine r_iload_n (pc1 := 128) (i := 1) dX11_bestRow_127 rfl rfl rfl ?_
                refine r_callVi (pc1 := 131) (rv_of w_27 cl_10) lkX11_188 (c_X10_worthOf _ _ _) rfl rfl ⟨Nat.le_of_ble_eq_true rfl, Nat.le_of_ble_eq_true rfl⟩ (Nat.le_of_ble_eq_true rfl) dX11_bestRow_128 rfl (fun v40 s41 => ?_)
                exact r_wk (hk33 v40 s41) ⟨Or.inr rfl, Or.inr rfl, Or.inr rfl, Or.inr rfl, Or.inr rfl, Or.inr rfl, Or.inr rfl, Or.inr rfl, Or.inl rfl, trivial⟩
          · refine r_goto (tgt := 154) dX11_bestRow_104 (by decide) ?_
            exact r_wk (hk26 v16 v17 s19) ⟨Or.inr rfl, Or.inr rfl, Or.inr rfl, Or.inr rfl, Or.inr rfl, Or.inr rfl, Or.inr rfl, Or.inr rfl, Or.inl rfl, trivial⟩
set_option maxRecDepth 100000 in
set_option maxHeartbeats 4000000 in
theorem c_X11_bestRow {l : Launch} (a1 : Int32) (a2 : Int32) (s0 : SS) : Ct l wF yX11_bestRow cX11_bestRow 9 (some .int) 5 [.ref 0, .int a1, .int a2] s0 (f_X11_bestRow a1 a2 s0) := by
  refine ct_of (y := yX11_bestRow) plX11 (Nat.le_of_ble_eq_true rfl) ?_
  refine r_pad0 6 (L1 := [.ref 0, .int a1, .int a2, .null, .null, .null, .null, .null, .null]) rfl ?_
  unfold f_X11_bestRow
  refine r_aload_n (pc1 := 1) (i := 0) dX11_bestRow_0 rfl rfl rfl ?_
  refine r_getR (pc1 := 4) w_0 gfX11_19 rfl dX11_bestRow_1 rfl ?_
  refine r_aload_n (pc1 := 5) (i := 0) dX11_bestRow_4 rfl rfl rfl ?_
  refine r_getR (pc1 := 8) w_0 gfX11_88 rfl dX11_bestRow_5 rfl ?_
  refine r_getI (pc1 := 11) w_52 gfX11_122 rfl dX11_bestRow_8 rfl ?_
  refine r_callVp (pc1 := 14) (rv_of w_3 cl_6) lkX11_277 (c_X6_lengthOf w_3 w_4 w_8 _ _) rfl rfl ⟨Nat.le_of_ble_eq_true rfl, Nat.le_of_ble_eq_true rfl⟩ (Nat.le_of_ble_eq_true rfl) dX11_bestRow_11 rfl (fun v1 => ?_)
  refine r_istore_n (pc1 := 15) (i := 3) dX11_bestRow_14 rfl (by decide) rfl rfl rfl ?_
  refine r_iload_n (pc1 := 16) (i := 1) dX11_bestRow_15 rfl rfl rfl ?_
  refine r_iconst (v := (-1)) (pc1 := 17) dX11_bestRow_16 ki_m1 rfl ?_
  refine r_icmp_lt (tgt := 46) (pc1 := 20) dX11_bestRow_17 (by decide) rfl (fun q2 => ?_) (fun q2 => ?_)
  · refine r_ldc (v := (-1000000)) (pc1 := 48) dX11_bestRow_46 cnX11_191 rfl ?_
    exact r_iret rfl rfl dX11_bestRow_48
  · refine r_iload_n (pc1 := 21) (i := 1) dX11_bestRow_20 rfl rfl rfl ?_
    refine r_iconst (v := 4) (pc1 := 22) dX11_bestRow_21 ki_4 rfl ?_
    refine r_icmp_ge (tgt := 46) (pc1 := 25) dX11_bestRow_22 (by decide) rfl (fun q3 => ?_) (fun q3 => ?_)
    · refine r_ldc (v := (-1000000)) (pc1 := 48) dX11_bestRow_46 cnX11_191 rfl ?_
      exact r_iret rfl rfl dX11_bestRow_48
    · refine r_iload_n (pc1 := 26) (i := 2) dX11_bestRow_25 rfl rfl rfl ?_
      refine r_iconst (v := (-1)) (pc1 := 27) dX11_bestRow_26 ki_m1 rfl ?_
      refine r_icmp_lt (tgt := 46) (pc1 := 30) dX11_bestRow_27 (by decide) rfl (fun q4 => ?_) (fun q4 => ?_)
      · refine r_ldc (v := (-1000000)) (pc1 := 48) dX11_bestRow_46 cnX11_191 rfl ?_
        exact r_iret rfl rfl dX11_bestRow_48
      · refine r_iload_n (pc1 := 31) (i := 2) dX11_bestRow_30 rfl rfl rfl ?_
        refine r_iload_n (pc1 := 32) (i := 3) dX11_bestRow_31 rfl rfl rfl ?_
        refine r_icmp_ge (tgt := 46) (pc1 := 35) dX11_bestRow_32 (by decide) rfl (fun q5 => ?_) (fun q5 => ?_)
        · refine r_ldc (v := (-1000000)) (pc1 := 48) dX11_bestRow_46 cnX11_191 rfl ?_
          exact r_iret rfl rfl dX11_bestRow_48
        · refine r_aload_n (pc1 := 36) (i := 0) dX11_bestRow_35 rfl rfl rfl ?_
          refine r_getR (pc1 := 39) w_0 gfX11_42 rfl dX11_bestRow_36 rfl ?_
          refine r_callVp (pc1 := 42) (rv_of w_27 cl_10) lkX11_106 (c_X10_lawCount _) rfl rfl ⟨Nat.le_of_ble_eq_true rfl, Nat.le_of_ble_eq_true rfl⟩ (Nat.le_of_ble_eq_true rfl) dX11_bestRow_39 rfl (fun v6 => ?_)
          refine r_iload_n (pc1 := 43) (i := 3) dX11_bestRow_42 rfl rfl rfl ?_
          refine r_icmp_ge (tgt := 49) (pc1 := 46) dX11_bestRow_43 (by decide) rfl (fun q7 => ?_) (fun q7 => ?_)
          · refine r_iconst (v := (-1)) (pc1 := 50) dX11_bestRow_49 ki_m1 rfl ?_
            refine r_istore (pc1 := 52) dX11_bestRow_50 (by decide) rfl rfl rfl ?_
            refine r_iconst (v := 0) (pc1 := 53) dX11_bestRow_52 ki_0 rfl ?_
            refine r_istore (pc1 := 55) dX11_bestRow_53 (by decide) rfl rfl rfl ?_
            refine r_iload_n (pc1 := 56) (i := 3) dX11_bestRow_55 rfl rfl rfl ?_
            refine r_iconst (v := 1) (pc1 := 57) dX11_bestRow_56 ki_1 rfl ?_
            refine r_iadd (pc1 := 58) dX11_bestRow_57 rfl ?_
            refine r_callSp (pc1 := 61) lkX11_118 (c_X6_bareOf w_3 w_4 w_8 _ _) rfl rfl ⟨Nat.le_of_ble_eq_true rfl, Nat.le_of_ble_eq_true rfl⟩ (Nat.le_of_ble_eq_true rfl) dX11_bestRow_58 rfl (fun v8 => ?_)
            refine r_istore (pc1 := 63) dX11_bestRow_61 (by decide) rfl rfl rfl ?_
            refine r_iload_n (pc1 := 64) (i := 3) dX11_bestRow_63 rfl rfl rfl ?_
            refine r_callSp (pc1 := 67) lkX11_280 (c_X6_firstFullOf w_3 w_4 w_8 _ _) rfl rfl ⟨Nat.le_of_ble_eq_true rfl, Nat.le_of_ble_eq_true rfl⟩ (Nat.le_of_ble_eq_true rfl) dX11_bestRow_64 rfl (fun v9 => ?_)
            refine r_istore (pc1 := 69) dX11_bestRow_67 (by decide) rfl rfl rfl ?_
            refine r_jn (hyp := fun (k13 : Int32 → Int32 → SS → Res) => ∀ (v10 : Int32) (v11 : Int32) (s12 : SS), RC l wF RX11 cX11_bestRow 9 (some .int) 5 160 [.ref 0, .null, .int a2, .null, .int v10, .int v11, .null, .null, .null] [] s12 (k13 v10 v11 s12)) (fun v10 v11 s12 => ?_) (fun k13 hk13 => ?_)
            · refine r_iload_n (pc1 := 161) (i := 2) dX11_bestRow_160 rfl rfl rfl ?_
              refine r_iconst (v := (-1)) (pc1 := 162) dX11_bestRow_161 ki_m1 rfl ?_
              refine r_icmp_ne (tgt := 170) (pc1 := 165) dX11_bestRow_162 (by decide) rfl (fun q14 => ?_) (fun q14 => ?_)
              · refine r_iload (pc1 := 167) dX11_bestRow_165 rfl rfl ?_
                refine r_goto (tgt := 180) dX11_bestRow_167 (by decide) ?_
                exact r_iret rfl rfl dX11_bestRow_180
              · refine r_aload_n (pc1 := 171) (i := 0) dX11_bestRow_170 rfl rfl rfl ?_
                refine r_getR (pc1 := 174) w_0 gfX11_19 rfl dX11_bestRow_171 rfl ?_
                refine r_iload (pc1 := 176) dX11_bestRow_174 rfl rfl ?_
                refine r_iload_n (pc1 := 177) (i := 2) dX11_bestRow_176 rfl rfl rfl ?_
                refine r_callVp (pc1 := 180) (rv_of w_3 cl_6) lkX11_182 (c_X6_lawOn w_3 w_4 w_8 _ _ _) rfl rfl ⟨Nat.le_of_ble_eq_true rfl, Nat.le_of_ble_eq_true rfl⟩ (Nat.le_of_ble_eq_true rfl) dX11_bestRow_177 rfl (fun v15 => ?_)
                exact r_iret rfl rfl dX11_bestRow_180
            · exact r_wk (t_lp_X11_bestRow_69 a1 a2 v1 v8 k13 hk13 FU ((-1)) 0 v9 s0) ⟨Or.inr rfl, Or.inr rfl, Or.inr rfl, Or.inr rfl, Or.inr rfl, Or.inr rfl, Or.inr rfl, Or.inr rfl, Or.inl rfl, trivial⟩
          · refine r_ldc (v := (-1000000)) (pc1 := 48) dX11_bestRow_46 cnX11_191 rfl ?_
            exact r_iret rfl rfl dX11_bestRow_48
/-! f_X2_quietOn -/
noncomputable def lp_X2_quietOn_2 (a1 : Int32) : Nat → Int32 → SS → Res
  | 0, _, _ => none
  | n3 + 1, v1, s2 => if (s2 35 5 : Int32) ≤ (v1 : Int32) then some (1, s2) else if (4 : Int32) ≤ (v1 : Int32) then some (1, s2) else gd (inb v1 4) (bd (f_X10_mayOf a1 (s2 38 (Int32.toNatClampNeg v1)) s2) (fun (v6 : Int32) (s7 : SS) => if (v6 : Int32) = 0 then lp_X2_quietOn_2 a1 n3 (v1 + 1) s7 else some (0, s7)))
noncomputable def f_X2_quietOn (a1 : Int32) (s0 : SS) : Res := lp_X2_quietOn_2 a1 FU 0 s0
set_option maxRecDepth 100000 in
set_option maxHeartbeats 4000000 in
theorem t_lp_X2_quietOn_2 {l : Launch} (a1 : Int32)  : ∀ (n3 : Nat) (v1 : Int32) (s2 : SS), RC l wF RX2 cX2_quietOn 3 (some .boolean) 4 2 [.ref 35, .int a1, .int v1] [] s2 (lp_X2_quietOn_2 a1 n3 v1 s2) := by
  intro n3
  induction n3 with
  | zero =>
    intro v1 s2
    rw [lp_X2_quietOn_2]
    exact r_none
  | succ n3 ih =>
    intro v1 s2
    rw [lp_X2_quietOn_2]
    refine r_iload_n (pc1 := 3) (i := 2) dX2_quietOn_2 rfl rfl rfl ?_
    refine r_aload_n (pc1 := 4) (i := 0) dX2_quietOn_3 rfl rfl rfl ?_
    refine r_getI (pc1 := 7) w_35 gfX2_21 rfl dX2_quietOn_4 rfl ?_
    refine r_icmp_ge (tgt := 40) (pc1 := 10) dX2_quietOn_7 (by decide) rfl (fun q4 => ?_) (fun q4 => ?_)
    · refine r_iconst (v := 1) (pc1 := 41) dX2_quietOn_40 ki_1 rfl ?_
      exact r_iret rfl rfl dX2_quietOn_41
    · refine r_iload_n (pc1 := 11) (i := 2) dX2_quietOn_10 rfl rfl rfl ?_
      refine r_iconst (v := 4) (pc1 := 12) dX2_quietOn_11 ki_4 rfl ?_
      refine r_icmp_ge (tgt := 40) (pc1 := 15) dX2_quietOn_12 (by decide) rfl (fun q5 => ?_) (fun q5 => ?_)
      · refine r_iconst (v := 1) (pc1 := 41) dX2_quietOn_40 ki_1 rfl ?_
        exact r_iret rfl rfl dX2_quietOn_41
      · refine r_aload_n (pc1 := 16) (i := 0) dX2_quietOn_15 rfl rfl rfl ?_
        refine r_getR (pc1 := 19) w_35 gfX2_29 rfl dX2_quietOn_16 rfl ?_
        refine r_iload_n (pc1 := 20) (i := 1) dX2_quietOn_19 rfl rfl rfl ?_
        refine r_aload_n (pc1 := 21) (i := 0) dX2_quietOn_20 rfl rfl rfl ?_
        refine r_getR (pc1 := 24) w_35 gfX2_18 rfl dX2_quietOn_21 rfl ?_
        refine r_iload_n (pc1 := 25) (i := 2) dX2_quietOn_24 rfl rfl rfl ?_
        refine r_iald (pc1 := 26) w_38 dX2_quietOn_25 rfl ?_
        refine r_callVi (pc1 := 29) (rv_of w_27 cl_10) lkX2_43 (c_X10_mayOf _ _ _) rfl rfl ⟨Nat.le_of_ble_eq_true rfl, Nat.le_of_ble_eq_true rfl⟩ (Nat.le_of_ble_eq_true rfl) dX2_quietOn_26 rfl (fun v6 s7 => ?_)
        refine r_if_eq (tgt := 34) (pc1 := 32) dX2_quietOn_29 (by decide) rfl (fun q8 => ?_) (fun q8 => ?_)
        · refine r_iinc (pc1 := 37) dX2_quietOn_34 rfl (kn_1 _) (by decide) rfl rfl rfl ?_
          refine r_goto (tgt := 2) dX2_quietOn_37 (by decide) ?_
          exact r_wk (ih (v1 + 1) s7) ⟨Or.inr rfl, Or.inr rfl, Or.inr rfl, trivial⟩
        · refine r_iconst (v := 0) (pc1 := 33) dX2_quietOn_32 ki_0 rfl ?_
          exact r_iret rfl rfl dX2_quietOn_33
set_option maxRecDepth 100000 in
set_option maxHeartbeats 4000000 in
theorem c_X2_quietOn {l : Launch} (a1 : Int32) (s0 : SS) : Ct l wF yX2_quietOn cX2_quietOn 3 (some .boolean) 4 [.ref 35, .int a1] s0 (f_X2_quietOn a1 s0) := by
  refine ct_of (y := yX2_quietOn) plX2 (Nat.le_of_ble_eq_true rfl) ?_
  refine r_pad0 1 (L1 := [.ref 35, .int a1, .null]) rfl ?_
  unfold f_X2_quietOn
  refine r_iconst (v := 0) (pc1 := 1) dX2_quietOn_0 ki_0 rfl ?_
  refine r_istore_n (pc1 := 2) (i := 2) dX2_quietOn_1 rfl (by decide) rfl rfl rfl ?_
  exact r_wk (t_lp_X2_quietOn_2 a1 FU 0 s0) ⟨Or.inr rfl, Or.inr rfl, Or.inr rfl, trivial⟩
/-! f_X11_quiet -/
noncomputable def f_X11_quiet  (s0 : SS) : Res := bd (f_X2_quietOn (s0 52 0) s0) (fun (v1 : Int32) (s2 : SS) => gd ((v1 : Int32) = 0 ∨ (v1 : Int32) = 1) (some (v1, s2)))
set_option maxRecDepth 100000 in
set_option maxHeartbeats 4000000 in
theorem c_X11_quiet {l : Launch}  (s0 : SS) : Ct l wF yX11_quiet cX11_quiet 1 (some .boolean) 5 [.ref 0] s0 (f_X11_quiet s0) := by
  refine ct_of (y := yX11_quiet) plX11 (Nat.le_of_ble_eq_true rfl) ?_
  refine r_pad0 0 (L1 := [.ref 0]) rfl ?_
  unfold f_X11_quiet
  refine r_aload_n (pc1 := 1) (i := 0) dX11_quiet_0 rfl rfl rfl ?_
  refine r_getR (pc1 := 4) w_0 gfX11_51 rfl dX11_quiet_1 rfl ?_
  refine r_aload_n (pc1 := 5) (i := 0) dX11_quiet_4 rfl rfl rfl ?_
  refine r_getR (pc1 := 8) w_0 gfX11_88 rfl dX11_quiet_5 rfl ?_
  refine r_getI (pc1 := 11) w_52 gfX11_122 rfl dX11_quiet_8 rfl ?_
  refine r_callVi (pc1 := 14) (rv_of w_35 cl_2) lkX11_195 (c_X2_quietOn _ _) rfl rfl ⟨Nat.le_of_ble_eq_true rfl, Nat.le_of_ble_eq_true rfl⟩ (Nat.le_of_ble_eq_true rfl) dX11_quiet_11 rfl (fun v1 s2 => ?_)
  refine r_gd (fun q3 => ?_)
  exact r_iret rfl (zb_ok q3).1 dX11_quiet_14
/-! f_J7_fill_fda19 -/
noncomputable def lp_J7_fill_fda19_10 (a2 : Int32) (a3 : Int32) : Nat → Int32 → SS → Res
  | 0, _, _ => none
  | n5 + 1, v3, s4 => if (a2 : Int32) ≤ (v3 : Int32) then some (0, s4) else gd (inb v3 5348) (lts (up s4 48 (Int32.toNatClampNeg v3) a3) (fun (s7 : SS) => lp_J7_fill_fda19_10 a2 a3 n5 (v3 + 1) s7))
noncomputable def f_J7_fill_fda19 (a1 : Int32) (a2 : Int32) (a3 : Int32) (s0 : SS) : Res := bd (f_J7_rangeCheck_23922 5348 a1 a2 s0) (fun (v1 : Int32) (s2 : SS) => lp_J7_fill_fda19_10 a2 a3 FU a1 s2)
set_option maxRecDepth 100000 in
set_option maxHeartbeats 4000000 in
theorem t_lp_J7_fill_fda19_10 {l : Launch} (a2 : Int32) (a3 : Int32)  : ∀ (n5 : Nat) (v3 : Int32) (s4 : SS), RC l wF RJ7 cJ7_fill_fda19 5 none 1 10 [.ref 48, .null, .int a2, .int a3, .int v3] [] s4 (lp_J7_fill_fda19_10 a2 a3 n5 v3 s4) := by
  intro n5
  induction n5 with
  | zero =>
    intro v3 s4
    rw [lp_J7_fill_fda19_10]
    exact r_none
  | succ n5 ih =>
    intro v3 s4
    rw [lp_J7_fill_fda19_10]
    refine r_iload (pc1 := 12) dJ7_fill_fda19_10 rfl rfl ?_
    refine r_iload_n (pc1 := 13) (i := 2) dJ7_fill_fda19_12 rfl rfl rfl ?_
    refine r_icmp_ge (tgt := 27) (pc1 := 16) dJ7_fill_fda19_13 (by decide) rfl (fun q6 => ?_) (fun q6 => ?_)
    · exact r_vret rfl dJ7_fill_fda19_27
    · refine r_aload_n (pc1 := 17) (i := 0) dJ7_fill_fda19_16 rfl rfl rfl ?_
      refine r_iload (pc1 := 19) dJ7_fill_fda19_17 rfl rfl ?_
      refine r_iload_n (pc1 := 20) (i := 3) dJ7_fill_fda19_19 rfl rfl rfl ?_
      refine r_iast (pc1 := 21) w_48 dJ7_fill_fda19_20 rfl ?_
      refine r_lts (fun s7 => ?_)
      refine r_iinc (pc1 := 24) dJ7_fill_fda19_21 rfl (kn_1 _) (by decide) rfl rfl rfl ?_
      refine r_goto (tgt := 10) dJ7_fill_fda19_24 (by decide) ?_
      exact r_wk (ih (v3 + 1) s7) ⟨Or.inr rfl, Or.inl rfl, Or.inr rfl, Or.inr rfl, Or.inr rfl, trivial⟩
set_option maxRecDepth 100000 in
set_option maxHeartbeats 4000000 in
theorem c_J7_fill_fda19 {l : Launch} (a1 : Int32) (a2 : Int32) (a3 : Int32) (s0 : SS) : Ct l wF yJ7_fill_fda19 cJ7_fill_fda19 5 none 1 [.ref 48, .int a1, .int a2, .int a3] s0 (f_J7_fill_fda19 a1 a2 a3 s0) := by
  refine ct_of (y := yJ7_fill_fda19) plJ7 (Nat.le_of_ble_eq_true rfl) ?_
  refine r_pad0 1 (L1 := [.ref 48, .int a1, .int a2, .int a3, .null]) rfl ?_
  unfold f_J7_fill_fda19
  refine r_aload_n (pc1 := 1) (i := 0) dJ7_fill_fda19_0 rfl rfl rfl ?_
  refine r_alen (t := 0) (v := 5348) (pc1 := 2) w_48 (fun _ => rfl) (al_5348) dJ7_fill_fda19_1 rfl ?_
  refine r_iload_n (pc1 := 3) (i := 1) dJ7_fill_fda19_2 rfl rfl rfl ?_
  refine r_iload_n (pc1 := 4) (i := 2) dJ7_fill_fda19_3 rfl rfl rfl ?_
  refine r_callSv (pc1 := 7) lkJ7_13 (c_J7_rangeCheck_23922 _ _ _ _) rfl rfl ⟨Nat.le_of_ble_eq_true rfl, Nat.le_of_ble_eq_true rfl⟩ (Nat.le_of_ble_eq_true rfl) dJ7_fill_fda19_4 rfl (fun v1 s2 => ?_)
  refine r_iload_n (pc1 := 8) (i := 1) dJ7_fill_fda19_7 rfl rfl rfl ?_
  refine r_istore (pc1 := 10) dJ7_fill_fda19_8 (by decide) rfl rfl rfl ?_
  exact r_wk (t_lp_J7_fill_fda19_10 a2 a3 FU a1 s2) ⟨Or.inr rfl, Or.inl rfl, Or.inr rfl, Or.inr rfl, Or.inr rfl, trivial⟩
