theorem dX1_valueOf_0 : decode cX1_valueOf 0 = .ok (.iconst 0, 1) := by decide +kernel
theorem dX1_valueOf_1 : decode cX1_valueOf 1 = .ok (.istore_n 3, 1) := by decide +kernel
theorem dX1_valueOf_2 : decode cX1_valueOf 2 = .ok (.iload_n 3, 1) := by decide +kernel
theorem dX1_valueOf_3 : decode cX1_valueOf 3 = .ok (.aload_n 0, 1) := by decide +kernel
theorem dX1_valueOf_4 : decode cX1_valueOf 4 = .ok (.getfield 33, 3) := by decide +kernel
theorem dX1_valueOf_7 : decode cX1_valueOf 7 = .ok (.if_icmp .ge 96, 3) := by decide +kernel
theorem dX1_valueOf_10 : decode cX1_valueOf 10 = .ok (.iload_n 3, 1) := by decide +kernel
theorem dX1_valueOf_11 : decode cX1_valueOf 11 = .ok (.bipush 14, 2) := by decide +kernel
theorem dX1_valueOf_13 : decode cX1_valueOf 13 = .ok (.if_icmp .ge 90, 3) := by decide +kernel
theorem dX1_valueOf_16 : decode cX1_valueOf 16 = .ok (.aload_n 0, 1) := by decide +kernel
theorem dX1_valueOf_17 : decode cX1_valueOf 17 = .ok (.getfield 18, 3) := by decide +kernel
theorem dX1_valueOf_20 : decode cX1_valueOf 20 = .ok (.iload_n 3, 1) := by decide +kernel
theorem dX1_valueOf_21 : decode cX1_valueOf 21 = .ok (.iaload, 1) := by decide +kernel
theorem dX1_valueOf_22 : decode cX1_valueOf 22 = .ok (.iload_n 1, 1) := by decide +kernel
theorem dX1_valueOf_23 : decode cX1_valueOf 23 = .ok (.if_icmp .ne 74, 3) := by decide +kernel
theorem dX1_valueOf_26 : decode cX1_valueOf 26 = .ok (.aload_n 0, 1) := by decide +kernel
theorem dX1_valueOf_27 : decode cX1_valueOf 27 = .ok (.aload_n 0, 1) := by decide +kernel
theorem dX1_valueOf_28 : decode cX1_valueOf 28 = .ok (.getfield 24, 3) := by decide +kernel
theorem dX1_valueOf_31 : decode cX1_valueOf 31 = .ok (.iload_n 3, 1) := by decide +kernel
theorem dX1_valueOf_32 : decode cX1_valueOf 32 = .ok (.iaload, 1) := by decide +kernel
theorem dX1_valueOf_33 : decode cX1_valueOf 33 = .ok (.aload_n 0, 1) := by decide +kernel
theorem dX1_valueOf_34 : decode cX1_valueOf 34 = .ok (.getfield 27, 3) := by decide +kernel
theorem dX1_valueOf_37 : decode cX1_valueOf 37 = .ok (.iload_n 3, 1) := by decide +kernel
theorem dX1_valueOf_38 : decode cX1_valueOf 38 = .ok (.iaload, 1) := by decide +kernel
theorem dX1_valueOf_39 : decode cX1_valueOf 39 = .ok (.aload_n 2, 1) := by decide +kernel
theorem dX1_valueOf_40 : decode cX1_valueOf 40 = .ok (.invokevirtual 46, 3) := by decide +kernel
theorem dX1_valueOf_43 : decode cX1_valueOf 43 = .ok (.ifCond .eq 54, 3) := by decide +kernel
theorem dX1_valueOf_46 : decode cX1_valueOf 46 = .ok (.aload_n 0, 1) := by decide +kernel
theorem dX1_valueOf_47 : decode cX1_valueOf 47 = .ok (.aload_n 0, 1) := by decide +kernel
theorem dX1_valueOf_48 : decode cX1_valueOf 48 = .ok (.getfield 21, 3) := by decide +kernel
theorem dX1_valueOf_51 : decode cX1_valueOf 51 = .ok (.iload_n 3, 1) := by decide +kernel
theorem dX1_valueOf_52 : decode cX1_valueOf 52 = .ok (.iaload, 1) := by decide +kernel
theorem dX1_valueOf_53 : decode cX1_valueOf 53 = .ok (.aload_n 0, 1) := by decide +kernel
theorem dX1_valueOf_54 : decode cX1_valueOf 54 = .ok (.getfield 24, 3) := by decide +kernel
theorem dX1_valueOf_57 : decode cX1_valueOf 57 = .ok (.iload_n 3, 1) := by decide +kernel
theorem dX1_valueOf_58 : decode cX1_valueOf 58 = .ok (.iaload, 1) := by decide +kernel
theorem dX1_valueOf_59 : decode cX1_valueOf 59 = .ok (.aload_n 2, 1) := by decide +kernel
theorem dX1_valueOf_60 : decode cX1_valueOf 60 = .ok (.invokevirtual 46, 3) := by decide +kernel
theorem dX1_valueOf_63 : decode cX1_valueOf 63 = .ok (.istore 4, 2) := by decide +kernel
theorem dX1_valueOf_65 : decode cX1_valueOf 65 = .ok (.iload_n 1, 1) := by decide +kernel
theorem dX1_valueOf_66 : decode cX1_valueOf 66 = .ok (.bipush 118, 2) := by decide +kernel
theorem dX1_valueOf_68 : decode cX1_valueOf 68 = .ok (.if_icmp .ne 18, 3) := by decide +kernel
theorem dX1_valueOf_71 : decode cX1_valueOf 71 = .ok (.bipush (-100), 2) := by decide +kernel
theorem dX1_valueOf_73 : decode cX1_valueOf 73 = .ok (.bipush 100, 2) := by decide +kernel
theorem dX1_valueOf_75 : decode cX1_valueOf 75 = .ok (.iload 4, 2) := by decide +kernel
theorem dX1_valueOf_77 : decode cX1_valueOf 77 = .ok (.invokestatic 50, 3) := by decide +kernel
theorem dX1_valueOf_80 : decode cX1_valueOf 80 = .ok (.invokestatic 56, 3) := by decide +kernel
theorem dX1_valueOf_83 : decode cX1_valueOf 83 = .ok (.goto 13, 3) := by decide +kernel
theorem dX1_valueOf_86 : decode cX1_valueOf 86 = .ok (.iconst 0, 1) := by decide +kernel
theorem dX1_valueOf_87 : decode cX1_valueOf 87 = .ok (.iconst 1, 1) := by decide +kernel
theorem dX1_valueOf_88 : decode cX1_valueOf 88 = .ok (.iload 4, 2) := by decide +kernel
theorem dX1_valueOf_90 : decode cX1_valueOf 90 = .ok (.invokestatic 50, 3) := by decide +kernel
theorem dX1_valueOf_93 : decode cX1_valueOf 93 = .ok (.invokestatic 56, 3) := by decide +kernel
theorem dX1_valueOf_96 : decode cX1_valueOf 96 = .ok (.ireturn, 1) := by decide +kernel
theorem dX1_valueOf_97 : decode cX1_valueOf 97 = .ok (.iinc 3 1, 3) := by decide +kernel
theorem dX1_valueOf_100 : decode cX1_valueOf 100 = .ok (.goto (-98), 3) := by decide +kernel
theorem dX1_valueOf_103 : decode cX1_valueOf 103 = .ok (.iconst 0, 1) := by decide +kernel
theorem dX1_valueOf_104 : decode cX1_valueOf 104 = .ok (.ireturn, 1) := by decide +kernel
theorem dX10_mayOf_0 : decode cX10_mayOf 0 = .ok (.iload_n 1, 1) := by decide +kernel
theorem dX10_mayOf_1 : decode cX10_mayOf 1 = .ok (.ifCond .lt 19, 3) := by decide +kernel
theorem dX10_mayOf_4 : decode cX10_mayOf 4 = .ok (.iload_n 1, 1) := by decide +kernel
theorem dX10_mayOf_5 : decode cX10_mayOf 5 = .ok (.aload_n 0, 1) := by decide +kernel
theorem dX10_mayOf_6 : decode cX10_mayOf 6 = .ok (.getfield 33, 3) := by decide +kernel
theorem dX10_mayOf_9 : decode cX10_mayOf 9 = .ok (.arraylength, 1) := by decide +kernel
theorem dX10_mayOf_10 : decode cX10_mayOf 10 = .ok (.if_icmp .ge 10, 3) := by decide +kernel
theorem dX10_mayOf_13 : decode cX10_mayOf 13 = .ok (.iload_n 2, 1) := by decide +kernel
theorem dX10_mayOf_14 : decode cX10_mayOf 14 = .ok (.invokestatic 69, 3) := by decide +kernel
theorem dX10_mayOf_17 : decode cX10_mayOf 17 = .ok (.ifCond .ne 5, 3) := by decide +kernel
theorem dX10_mayOf_20 : decode cX10_mayOf 20 = .ok (.iconst 0, 1) := by decide +kernel
theorem dX10_mayOf_21 : decode cX10_mayOf 21 = .ok (.ireturn, 1) := by decide +kernel
theorem dX10_mayOf_22 : decode cX10_mayOf 22 = .ok (.aload_n 0, 1) := by decide +kernel
theorem dX10_mayOf_23 : decode cX10_mayOf 23 = .ok (.invokevirtual 73, 3) := by decide +kernel
theorem dX10_mayOf_26 : decode cX10_mayOf 26 = .ok (.aload_n 0, 1) := by decide +kernel
theorem dX10_mayOf_27 : decode cX10_mayOf 27 = .ok (.getfield 33, 3) := by decide +kernel
theorem dX10_mayOf_30 : decode cX10_mayOf 30 = .ok (.iload_n 1, 1) := by decide +kernel
theorem dX10_mayOf_31 : decode cX10_mayOf 31 = .ok (.laload, 1) := by decide +kernel
theorem dX10_mayOf_32 : decode cX10_mayOf 32 = .ok (.iload_n 2, 1) := by decide +kernel
theorem dX10_mayOf_33 : decode cX10_mayOf 33 = .ok (.bipush 16, 2) := by decide +kernel
theorem dX10_mayOf_35 : decode cX10_mayOf 35 = .ok (.invokestatic 76, 3) := by decide +kernel
theorem dX10_mayOf_38 : decode cX10_mayOf 38 = .ok (.istore_n 3, 1) := by decide +kernel
theorem dX10_mayOf_39 : decode cX10_mayOf 39 = .ok (.iload_n 3, 1) := by decide +kernel
theorem dX10_mayOf_40 : decode cX10_mayOf 40 = .ok (.ifCond .eq 7, 3) := by decide +kernel
theorem dX10_mayOf_43 : decode cX10_mayOf 43 = .ok (.iload_n 3, 1) := by decide +kernel
theorem dX10_mayOf_44 : decode cX10_mayOf 44 = .ok (.iconst 1, 1) := by decide +kernel
theorem dX10_mayOf_45 : decode cX10_mayOf 45 = .ok (.isub, 1) := by decide +kernel
theorem dX10_mayOf_46 : decode cX10_mayOf 46 = .ok (.ireturn, 1) := by decide +kernel
theorem dX10_mayOf_47 : decode cX10_mayOf 47 = .ok (.aload_n 0, 1) := by decide +kernel
theorem dX10_mayOf_48 : decode cX10_mayOf 48 = .ok (.iload_n 1, 1) := by decide +kernel
theorem dX10_mayOf_49 : decode cX10_mayOf 49 = .ok (.iload_n 2, 1) := by decide +kernel
theorem dX10_mayOf_50 : decode cX10_mayOf 50 = .ok (.invokevirtual 104, 3) := by decide +kernel
theorem dX10_mayOf_53 : decode cX10_mayOf 53 = .ok (.istore 4, 2) := by decide +kernel
theorem dX10_mayOf_55 : decode cX10_mayOf 55 = .ok (.iconst 0, 1) := by decide +kernel
theorem dX10_mayOf_56 : decode cX10_mayOf 56 = .ok (.istore 5, 2) := by decide +kernel
theorem dX10_mayOf_58 : decode cX10_mayOf 58 = .ok (.iconst 0, 1) := by decide +kernel
theorem dX10_mayOf_59 : decode cX10_mayOf 59 = .ok (.istore 6, 2) := by decide +kernel
theorem dX10_mayOf_61 : decode cX10_mayOf 61 = .ok (.iload 6, 2) := by decide +kernel
theorem dX10_mayOf_63 : decode cX10_mayOf 63 = .ok (.aload_n 0, 1) := by decide +kernel
theorem dX10_mayOf_64 : decode cX10_mayOf 64 = .ok (.getfield 44, 3) := by decide +kernel
theorem dX10_mayOf_67 : decode cX10_mayOf 67 = .ok (.if_icmp .ge 50, 3) := by decide +kernel
theorem dX10_mayOf_70 : decode cX10_mayOf 70 = .ok (.iload 4, 2) := by decide +kernel
theorem dX10_mayOf_72 : decode cX10_mayOf 72 = .ok (.iload 6, 2) := by decide +kernel
theorem dX10_mayOf_74 : decode cX10_mayOf 74 = .ok (.ishr, 1) := by decide +kernel
theorem dX10_mayOf_75 : decode cX10_mayOf 75 = .ok (.iconst 1, 1) := by decide +kernel
theorem dX10_mayOf_76 : decode cX10_mayOf 76 = .ok (.iand, 1) := by decide +kernel
theorem dX10_mayOf_77 : decode cX10_mayOf 77 = .ok (.iconst 1, 1) := by decide +kernel
theorem dX10_mayOf_78 : decode cX10_mayOf 78 = .ok (.if_icmp .ne 33, 3) := by decide +kernel
theorem dX10_mayOf_81 : decode cX10_mayOf 81 = .ok (.aload_n 0, 1) := by decide +kernel
theorem dX10_mayOf_82 : decode cX10_mayOf 82 = .ok (.iload_n 1, 1) := by decide +kernel
theorem dX10_mayOf_83 : decode cX10_mayOf 83 = .ok (.iload 6, 2) := by decide +kernel
theorem dX10_mayOf_85 : decode cX10_mayOf 85 = .ok (.iconst 0, 1) := by decide +kernel
theorem dX10_mayOf_86 : decode cX10_mayOf 86 = .ok (.iload_n 2, 1) := by decide +kernel
theorem dX10_mayOf_87 : decode cX10_mayOf 87 = .ok (.invokevirtual 87, 3) := by decide +kernel
theorem dX10_mayOf_90 : decode cX10_mayOf 90 = .ok (.iload 5, 2) := by decide +kernel
theorem dX10_mayOf_92 : decode cX10_mayOf 92 = .ok (.aload_n 0, 1) := by decide +kernel
theorem dX10_mayOf_93 : decode cX10_mayOf 93 = .ok (.getfield 40, 3) := by decide +kernel
theorem dX10_mayOf_96 : decode cX10_mayOf 96 = .ok (.bipush 109, 2) := by decide +kernel
theorem dX10_mayOf_98 : decode cX10_mayOf 98 = .ok (.aload_n 0, 1) := by decide +kernel
theorem dX10_mayOf_99 : decode cX10_mayOf 99 = .ok (.getfield 24, 3) := by decide +kernel
theorem dX10_mayOf_102 : decode cX10_mayOf 102 = .ok (.invokevirtual 91, 3) := by decide +kernel
theorem dX10_mayOf_105 : decode cX10_mayOf 105 = .ok (.iload 6, 2) := by decide +kernel
theorem dX10_mayOf_107 : decode cX10_mayOf 107 = .ok (.ishl, 1) := by decide +kernel
theorem dX10_mayOf_108 : decode cX10_mayOf 108 = .ok (.ior, 1) := by decide +kernel
theorem dX10_mayOf_109 : decode cX10_mayOf 109 = .ok (.istore 5, 2) := by decide +kernel
theorem dX10_mayOf_111 : decode cX10_mayOf 111 = .ok (.iinc 6 1, 3) := by decide +kernel
theorem dX10_mayOf_114 : decode cX10_mayOf 114 = .ok (.goto (-53), 3) := by decide +kernel
theorem dX10_mayOf_117 : decode cX10_mayOf 117 = .ok (.aload_n 0, 1) := by decide +kernel
theorem dX10_mayOf_118 : decode cX10_mayOf 118 = .ok (.getfield 33, 3) := by decide +kernel
theorem dX10_mayOf_121 : decode cX10_mayOf 121 = .ok (.iload_n 1, 1) := by decide +kernel
theorem dX10_mayOf_122 : decode cX10_mayOf 122 = .ok (.aload_n 0, 1) := by decide +kernel
theorem dX10_mayOf_123 : decode cX10_mayOf 123 = .ok (.getfield 33, 3) := by decide +kernel
theorem dX10_mayOf_126 : decode cX10_mayOf 126 = .ok (.iload_n 1, 1) := by decide +kernel
theorem dX10_mayOf_127 : decode cX10_mayOf 127 = .ok (.laload, 1) := by decide +kernel
theorem dX10_mayOf_128 : decode cX10_mayOf 128 = .ok (.iload_n 2, 1) := by decide +kernel
theorem dX10_mayOf_129 : decode cX10_mayOf 129 = .ok (.bipush 16, 2) := by decide +kernel
theorem dX10_mayOf_131 : decode cX10_mayOf 131 = .ok (.iload 5, 2) := by decide +kernel
theorem dX10_mayOf_133 : decode cX10_mayOf 133 = .ok (.iconst 1, 1) := by decide +kernel
theorem dX10_mayOf_134 : decode cX10_mayOf 134 = .ok (.iadd, 1) := by decide +kernel
theorem dX10_mayOf_135 : decode cX10_mayOf 135 = .ok (.invokestatic 97, 3) := by decide +kernel
theorem dX10_mayOf_138 : decode cX10_mayOf 138 = .ok (.lastore, 1) := by decide +kernel
theorem dX10_mayOf_139 : decode cX10_mayOf 139 = .ok (.iload 5, 2) := by decide +kernel
theorem dX10_mayOf_141 : decode cX10_mayOf 141 = .ok (.ireturn, 1) := by decide +kernel
theorem dX11_may_0 : decode cX11_may 0 = .ok (.iload_n 1, 1) := by decide +kernel
theorem dX11_may_1 : decode cX11_may 1 = .ok (.invokestatic 142, 3) := by decide +kernel
theorem dX11_may_4 : decode cX11_may 4 = .ok (.ifCond .eq 21, 3) := by decide +kernel
theorem dX11_may_7 : decode cX11_may 7 = .ok (.aload_n 0, 1) := by decide +kernel
theorem dX11_may_8 : decode cX11_may 8 = .ok (.getfield 42, 3) := by decide +kernel
theorem dX11_may_11 : decode cX11_may 11 = .ok (.aload_n 0, 1) := by decide +kernel
theorem dX11_may_12 : decode cX11_may 12 = .ok (.getfield 88, 3) := by decide +kernel
theorem dX11_may_15 : decode cX11_may 15 = .ok (.getfield 122, 3) := by decide +kernel
theorem dX11_may_18 : decode cX11_may 18 = .ok (.iload_n 1, 1) := by decide +kernel
theorem dX11_may_19 : decode cX11_may 19 = .ok (.invokevirtual 178, 3) := by decide +kernel
theorem dX11_may_22 : decode cX11_may 22 = .ok (.goto 4, 3) := by decide +kernel
theorem dX11_may_25 : decode cX11_may 25 = .ok (.iconst (-1), 1) := by decide +kernel
theorem dX11_may_26 : decode cX11_may 26 = .ok (.ireturn, 1) := by decide +kernel
theorem dX2_onTurn_0 : decode cX2_onTurn 0 = .ok (.iload_n 1, 1) := by decide +kernel
theorem dX2_onTurn_1 : decode cX2_onTurn 1 = .ok (.ifCond .lt 25, 3) := by decide +kernel
theorem dX2_onTurn_4 : decode cX2_onTurn 4 = .ok (.iload_n 1, 1) := by decide +kernel
theorem dX2_onTurn_5 : decode cX2_onTurn 5 = .ok (.aload_n 0, 1) := by decide +kernel
theorem dX2_onTurn_6 : decode cX2_onTurn 6 = .ok (.getfield 21, 3) := by decide +kernel
theorem dX2_onTurn_9 : decode cX2_onTurn 9 = .ok (.if_icmp .ge 17, 3) := by decide +kernel
theorem dX2_onTurn_12 : decode cX2_onTurn 12 = .ok (.iload_n 1, 1) := by decide +kernel
theorem dX2_onTurn_13 : decode cX2_onTurn 13 = .ok (.iconst 4, 1) := by decide +kernel
theorem dX2_onTurn_14 : decode cX2_onTurn 14 = .ok (.if_icmp .ge 12, 3) := by decide +kernel
theorem dX2_onTurn_17 : decode cX2_onTurn 17 = .ok (.aload_n 0, 1) := by decide +kernel
theorem dX2_onTurn_18 : decode cX2_onTurn 18 = .ok (.getfield 18, 3) := by decide +kernel
theorem dX2_onTurn_21 : decode cX2_onTurn 21 = .ok (.iload_n 1, 1) := by decide +kernel
theorem dX2_onTurn_22 : decode cX2_onTurn 22 = .ok (.iaload, 1) := by decide +kernel
theorem dX2_onTurn_23 : decode cX2_onTurn 23 = .ok (.goto 4, 3) := by decide +kernel
theorem dX2_onTurn_26 : decode cX2_onTurn 26 = .ok (.iconst (-1), 1) := by decide +kernel
theorem dX2_onTurn_27 : decode cX2_onTurn 27 = .ok (.ireturn, 1) := by decide +kernel
theorem dX6_isFull_0 : decode cX6_isFull 0 = .ok (.aload_n 0, 1) := by decide +kernel
theorem dX6_isFull_1 : decode cX6_isFull 1 = .ok (.iload_n 1, 1) := by decide +kernel
theorem dX6_isFull_2 : decode cX6_isFull 2 = .ok (.invokevirtual 26, 3) := by decide +kernel
theorem dX6_isFull_5 : decode cX6_isFull 5 = .ok (.aload_n 0, 1) := by decide +kernel
theorem dX6_isFull_6 : decode cX6_isFull 6 = .ok (.iload_n 1, 1) := by decide +kernel
theorem dX6_isFull_7 : decode cX6_isFull 7 = .ok (.invokevirtual 38, 3) := by decide +kernel
theorem dX6_isFull_10 : decode cX6_isFull 10 = .ok (.if_icmp .ne 7, 3) := by decide +kernel
theorem dX6_isFull_13 : decode cX6_isFull 13 = .ok (.iconst 1, 1) := by decide +kernel
theorem dX6_isFull_14 : decode cX6_isFull 14 = .ok (.goto 4, 3) := by decide +kernel
theorem dX6_isFull_17 : decode cX6_isFull 17 = .ok (.iconst 0, 1) := by decide +kernel
theorem dX6_isFull_18 : decode cX6_isFull 18 = .ok (.ireturn, 1) := by decide +kernel
theorem dX11_enter_0 : decode cX11_enter 0 = .ok (.aload_n 0, 1) := by decide +kernel
theorem dX11_enter_1 : decode cX11_enter 1 = .ok (.getfield 88, 3) := by decide +kernel
theorem dX11_enter_4 : decode cX11_enter 4 = .ok (.getfield 223, 3) := by decide +kernel
theorem dX11_enter_7 : decode cX11_enter 7 = .ok (.ifCond .lt 15, 3) := by decide +kernel
theorem dX11_enter_10 : decode cX11_enter 10 = .ok (.aload_n 0, 1) := by decide +kernel
theorem dX11_enter_11 : decode cX11_enter 11 = .ok (.getfield 88, 3) := by decide +kernel
theorem dX11_enter_14 : decode cX11_enter 14 = .ok (.getfield 223, 3) := by decide +kernel
theorem dX11_enter_17 : decode cX11_enter 17 = .ok (.bipush 100, 2) := by decide +kernel
theorem dX11_enter_19 : decode cX11_enter 19 = .ok (.if_icmp .lt 4, 3) := by decide +kernel
theorem dX11_enter_22 : decode cX11_enter 22 = .ok (.return_, 1) := by decide +kernel
theorem dX11_enter_23 : decode cX11_enter 23 = .ok (.aload_n 0, 1) := by decide +kernel
theorem dX11_enter_24 : decode cX11_enter 24 = .ok (.getfield 88, 3) := by decide +kernel
theorem dX11_enter_27 : decode cX11_enter 27 = .ok (.getfield 223, 3) := by decide +kernel
theorem dX11_enter_30 : decode cX11_enter 30 = .ok (.iconst 4, 1) := by decide +kernel
theorem dX11_enter_31 : decode cX11_enter 31 = .ok (.imul, 1) := by decide +kernel
theorem dX11_enter_32 : decode cX11_enter 32 = .ok (.istore 4, 2) := by decide +kernel
theorem dX11_enter_34 : decode cX11_enter 34 = .ok (.aload_n 0, 1) := by decide +kernel
theorem dX11_enter_35 : decode cX11_enter 35 = .ok (.getfield 99, 3) := by decide +kernel
theorem dX11_enter_38 : decode cX11_enter 38 = .ok (.iload 4, 2) := by decide +kernel
theorem dX11_enter_40 : decode cX11_enter 40 = .ok (.aload_n 0, 1) := by decide +kernel
theorem dX11_enter_41 : decode cX11_enter 41 = .ok (.getfield 88, 3) := by decide +kernel
theorem dX11_enter_44 : decode cX11_enter 44 = .ok (.getfield 217, 3) := by decide +kernel
theorem dX11_enter_47 : decode cX11_enter 47 = .ok (.iastore, 1) := by decide +kernel
theorem dX11_enter_48 : decode cX11_enter 48 = .ok (.aload_n 0, 1) := by decide +kernel
theorem dX11_enter_49 : decode cX11_enter 49 = .ok (.getfield 99, 3) := by decide +kernel
theorem dX11_enter_52 : decode cX11_enter 52 = .ok (.iload 4, 2) := by decide +kernel
theorem dX11_enter_54 : decode cX11_enter 54 = .ok (.iconst 1, 1) := by decide +kernel
theorem dX11_enter_55 : decode cX11_enter 55 = .ok (.iadd, 1) := by decide +kernel
theorem dX11_enter_56 : decode cX11_enter 56 = .ok (.iload_n 1, 1) := by decide +kernel
theorem dX11_enter_57 : decode cX11_enter 57 = .ok (.iastore, 1) := by decide +kernel
theorem dX11_enter_58 : decode cX11_enter 58 = .ok (.aload_n 0, 1) := by decide +kernel
theorem dX11_enter_59 : decode cX11_enter 59 = .ok (.getfield 99, 3) := by decide +kernel
theorem dX11_enter_62 : decode cX11_enter 62 = .ok (.iload 4, 2) := by decide +kernel
theorem dX11_enter_64 : decode cX11_enter 64 = .ok (.iconst 2, 1) := by decide +kernel
theorem dX11_enter_65 : decode cX11_enter 65 = .ok (.iadd, 1) := by decide +kernel
theorem dX11_enter_66 : decode cX11_enter 66 = .ok (.iload_n 2, 1) := by decide +kernel
theorem dX11_enter_67 : decode cX11_enter 67 = .ok (.iastore, 1) := by decide +kernel
theorem dX11_enter_68 : decode cX11_enter 68 = .ok (.aload_n 0, 1) := by decide +kernel
theorem dX11_enter_69 : decode cX11_enter 69 = .ok (.getfield 99, 3) := by decide +kernel
theorem dX11_enter_72 : decode cX11_enter 72 = .ok (.iload 4, 2) := by decide +kernel
theorem dX11_enter_74 : decode cX11_enter 74 = .ok (.iconst 3, 1) := by decide +kernel
theorem dX11_enter_75 : decode cX11_enter 75 = .ok (.iadd, 1) := by decide +kernel
theorem dX11_enter_76 : decode cX11_enter 76 = .ok (.iload_n 3, 1) := by decide +kernel
theorem dX11_enter_77 : decode cX11_enter 77 = .ok (.iastore, 1) := by decide +kernel
theorem dX11_enter_78 : decode cX11_enter 78 = .ok (.aload_n 0, 1) := by decide +kernel
theorem dX11_enter_79 : decode cX11_enter 79 = .ok (.getfield 88, 3) := by decide +kernel
theorem dX11_enter_82 : decode cX11_enter 82 = .ok (.dup, 1) := by decide +kernel
theorem dX11_enter_83 : decode cX11_enter 83 = .ok (.getfield 223, 3) := by decide +kernel
theorem dX11_enter_86 : decode cX11_enter 86 = .ok (.iconst 1, 1) := by decide +kernel
theorem dX11_enter_87 : decode cX11_enter 87 = .ok (.iadd, 1) := by decide +kernel
theorem dX11_enter_88 : decode cX11_enter 88 = .ok (.putfield 223, 3) := by decide +kernel
theorem dX11_enter_91 : decode cX11_enter 91 = .ok (.return_, 1) := by decide +kernel
theorem dX6_behind_0 : decode cX6_behind 0 = .ok (.iload_n 2, 1) := by decide +kernel
theorem dX6_behind_1 : decode cX6_behind 1 = .ok (.ifCond .lt 24, 3) := by decide +kernel
theorem dX6_behind_4 : decode cX6_behind 4 = .ok (.iload_n 2, 1) := by decide +kernel
theorem dX6_behind_5 : decode cX6_behind 5 = .ok (.bipush 8, 2) := by decide +kernel
theorem dX6_behind_7 : decode cX6_behind 7 = .ok (.if_icmp .ge 18, 3) := by decide +kernel
theorem dX6_behind_10 : decode cX6_behind 10 = .ok (.iload_n 1, 1) := by decide +kernel
theorem dX6_behind_11 : decode cX6_behind 11 = .ok (.ifCond .lt 14, 3) := by decide +kernel
theorem dX6_behind_14 : decode cX6_behind 14 = .ok (.iload_n 1, 1) := by decide +kernel
theorem dX6_behind_15 : decode cX6_behind 15 = .ok (.sipush 5348, 3) := by decide +kernel
theorem dX6_behind_18 : decode cX6_behind 18 = .ok (.if_icmp .ge 7, 3) := by decide +kernel
theorem dX6_behind_21 : decode cX6_behind 21 = .ok (.iconst 1, 1) := by decide +kernel
theorem dX6_behind_22 : decode cX6_behind 22 = .ok (.goto 4, 3) := by decide +kernel
theorem dX6_behind_25 : decode cX6_behind 25 = .ok (.iconst 0, 1) := by decide +kernel
theorem dX6_behind_26 : decode cX6_behind 26 = .ok (.istore_n 3, 1) := by decide +kernel
theorem dX6_behind_27 : decode cX6_behind 27 = .ok (.iload_n 3, 1) := by decide +kernel
theorem dX6_behind_28 : decode cX6_behind 28 = .ok (.ifCond .eq 14, 3) := by decide +kernel
theorem dX6_behind_31 : decode cX6_behind 31 = .ok (.aload_n 0, 1) := by decide +kernel
theorem dX6_behind_32 : decode cX6_behind 32 = .ok (.getfield 15, 3) := by decide +kernel
theorem dX6_behind_35 : decode cX6_behind 35 = .ok (.iload_n 1, 1) := by decide +kernel
theorem dX6_behind_36 : decode cX6_behind 36 = .ok (.iaload, 1) := by decide +kernel
theorem dX6_behind_37 : decode cX6_behind 37 = .ok (.iload_n 2, 1) := by decide +kernel
theorem dX6_behind_38 : decode cX6_behind 38 = .ok (.iadd, 1) := by decide +kernel
theorem dX6_behind_39 : decode cX6_behind 39 = .ok (.goto 4, 3) := by decide +kernel
theorem dX6_behind_42 : decode cX6_behind 42 = .ok (.iload_n 1, 1) := by decide +kernel
theorem dX6_behind_43 : decode cX6_behind 43 = .ok (.ireturn, 1) := by decide +kernel
theorem dX2_placeAfter_0 : decode cX2_placeAfter 0 = .ok (.iload_n 1, 1) := by decide +kernel
theorem dX2_placeAfter_1 : decode cX2_placeAfter 1 = .ok (.iconst 1, 1) := by decide +kernel
theorem dX2_placeAfter_2 : decode cX2_placeAfter 2 = .ok (.iadd, 1) := by decide +kernel
theorem dX2_placeAfter_3 : decode cX2_placeAfter 3 = .ok (.aload_n 0, 1) := by decide +kernel
theorem dX2_placeAfter_4 : decode cX2_placeAfter 4 = .ok (.getfield 21, 3) := by decide +kernel
theorem dX2_placeAfter_7 : decode cX2_placeAfter 7 = .ok (.if_icmp .ge 9, 3) := by decide +kernel
theorem dX2_placeAfter_10 : decode cX2_placeAfter 10 = .ok (.iload_n 1, 1) := by decide +kernel
theorem dX2_placeAfter_11 : decode cX2_placeAfter 11 = .ok (.iconst 1, 1) := by decide +kernel
theorem dX2_placeAfter_12 : decode cX2_placeAfter 12 = .ok (.iadd, 1) := by decide +kernel
theorem dX2_placeAfter_13 : decode cX2_placeAfter 13 = .ok (.goto 4, 3) := by decide +kernel
theorem dX2_placeAfter_16 : decode cX2_placeAfter 16 = .ok (.iconst 0, 1) := by decide +kernel
theorem dX2_placeAfter_17 : decode cX2_placeAfter 17 = .ok (.ireturn, 1) := by decide +kernel
theorem dX11_passDay_0 : decode cX11_passDay 0 = .ok (.bipush 8, 2) := by decide +kernel
theorem dX11_passDay_2 : decode cX11_passDay 2 = .ok (.istore_n 3, 1) := by decide +kernel
theorem dX11_passDay_3 : decode cX11_passDay 3 = .ok (.iload_n 2, 1) := by decide +kernel
theorem dX11_passDay_4 : decode cX11_passDay 4 = .ok (.bipush 8, 2) := by decide +kernel
theorem dX11_passDay_6 : decode cX11_passDay 6 = .ok (.if_icmp .eq 69, 3) := by decide +kernel
theorem dX11_passDay_9 : decode cX11_passDay 9 = .ok (.aload_n 0, 1) := by decide +kernel
theorem dX11_passDay_10 : decode cX11_passDay 10 = .ok (.getfield 19, 3) := by decide +kernel
theorem dX11_passDay_13 : decode cX11_passDay 13 = .ok (.aload_n 0, 1) := by decide +kernel
theorem dX11_passDay_14 : decode cX11_passDay 14 = .ok (.getfield 88, 3) := by decide +kernel
theorem dX11_passDay_17 : decode cX11_passDay 17 = .ok (.getfield 122, 3) := by decide +kernel
theorem dX11_passDay_20 : decode cX11_passDay 20 = .ok (.invokevirtual 205, 3) := by decide +kernel
theorem dX11_passDay_23 : decode cX11_passDay 23 = .ok (.ifCond .eq 20, 3) := by decide +kernel
theorem dX11_passDay_26 : decode cX11_passDay 26 = .ok (.aload_n 0, 1) := by decide +kernel
theorem dX11_passDay_27 : decode cX11_passDay 27 = .ok (.getfield 19, 3) := by decide +kernel
theorem dX11_passDay_30 : decode cX11_passDay 30 = .ok (.aload_n 0, 1) := by decide +kernel
theorem dX11_passDay_31 : decode cX11_passDay 31 = .ok (.getfield 88, 3) := by decide +kernel
theorem dX11_passDay_34 : decode cX11_passDay 34 = .ok (.getfield 122, 3) := by decide +kernel
theorem dX11_passDay_37 : decode cX11_passDay 37 = .ok (.invokevirtual 208, 3) := by decide +kernel
theorem dX11_passDay_40 : decode cX11_passDay 40 = .ok (.goto 5, 3) := by decide +kernel
theorem dX11_passDay_43 : decode cX11_passDay 43 = .ok (.bipush 8, 2) := by decide +kernel
theorem dX11_passDay_45 : decode cX11_passDay 45 = .ok (.istore_n 3, 1) := by decide +kernel
theorem dX11_passDay_46 : decode cX11_passDay 46 = .ok (.aload_n 0, 1) := by decide +kernel
theorem dX11_passDay_47 : decode cX11_passDay 47 = .ok (.iload_n 1, 1) := by decide +kernel
theorem dX11_passDay_48 : decode cX11_passDay 48 = .ok (.iload_n 2, 1) := by decide +kernel
theorem dX11_passDay_49 : decode cX11_passDay 49 = .ok (.iload_n 3, 1) := by decide +kernel
theorem dX11_passDay_50 : decode cX11_passDay 50 = .ok (.invokevirtual 211, 3) := by decide +kernel
theorem dX11_passDay_53 : decode cX11_passDay 53 = .ok (.aload_n 0, 1) := by decide +kernel
theorem dX11_passDay_54 : decode cX11_passDay 54 = .ok (.getfield 88, 3) := by decide +kernel
theorem dX11_passDay_57 : decode cX11_passDay 57 = .ok (.aload_n 0, 1) := by decide +kernel
theorem dX11_passDay_58 : decode cX11_passDay 58 = .ok (.getfield 19, 3) := by decide +kernel
theorem dX11_passDay_61 : decode cX11_passDay 61 = .ok (.aload_n 0, 1) := by decide +kernel
theorem dX11_passDay_62 : decode cX11_passDay 62 = .ok (.getfield 88, 3) := by decide +kernel
theorem dX11_passDay_65 : decode cX11_passDay 65 = .ok (.getfield 122, 3) := by decide +kernel
theorem dX11_passDay_68 : decode cX11_passDay 68 = .ok (.iload_n 2, 1) := by decide +kernel
theorem dX11_passDay_69 : decode cX11_passDay 69 = .ok (.invokevirtual 214, 3) := by decide +kernel
theorem dX11_passDay_72 : decode cX11_passDay 72 = .ok (.putfield 122, 3) := by decide +kernel
theorem dX11_passDay_75 : decode cX11_passDay 75 = .ok (.aload_n 0, 1) := by decide +kernel
theorem dX11_passDay_76 : decode cX11_passDay 76 = .ok (.getfield 88, 3) := by decide +kernel
theorem dX11_passDay_79 : decode cX11_passDay 79 = .ok (.dup, 1) := by decide +kernel
theorem dX11_passDay_80 : decode cX11_passDay 80 = .ok (.getfield 217, 3) := by decide +kernel
theorem dX11_passDay_83 : decode cX11_passDay 83 = .ok (.iconst 1, 1) := by decide +kernel
theorem dX11_passDay_84 : decode cX11_passDay 84 = .ok (.iadd, 1) := by decide +kernel
theorem dX11_passDay_85 : decode cX11_passDay 85 = .ok (.putfield 217, 3) := by decide +kernel
theorem dX11_passDay_88 : decode cX11_passDay 88 = .ok (.aload_n 0, 1) := by decide +kernel
theorem dX11_passDay_89 : decode cX11_passDay 89 = .ok (.getfield 88, 3) := by decide +kernel
theorem dX11_passDay_92 : decode cX11_passDay 92 = .ok (.aload_n 0, 1) := by decide +kernel
theorem dX11_passDay_93 : decode cX11_passDay 93 = .ok (.getfield 51, 3) := by decide +kernel
theorem dX11_passDay_96 : decode cX11_passDay 96 = .ok (.aload_n 0, 1) := by decide +kernel
theorem dX11_passDay_97 : decode cX11_passDay 97 = .ok (.getfield 88, 3) := by decide +kernel
theorem dX11_passDay_100 : decode cX11_passDay 100 = .ok (.getfield 139, 3) := by decide +kernel
theorem dX11_passDay_103 : decode cX11_passDay 103 = .ok (.invokevirtual 220, 3) := by decide +kernel
theorem dX11_passDay_106 : decode cX11_passDay 106 = .ok (.putfield 139, 3) := by decide +kernel
theorem dX11_passDay_109 : decode cX11_passDay 109 = .ok (.iload_n 3, 1) := by decide +kernel
theorem dX11_passDay_110 : decode cX11_passDay 110 = .ok (.ireturn, 1) := by decide +kernel
theorem dX11_make_0 : decode cX11_make 0 = .ok (.iload_n 1, 1) := by decide +kernel
theorem dX11_make_1 : decode cX11_make 1 = .ok (.iconst (-1), 1) := by decide +kernel
theorem dX11_make_2 : decode cX11_make 2 = .ok (.if_icmp .eq 13, 3) := by decide +kernel
theorem dX11_make_5 : decode cX11_make 5 = .ok (.aload_n 0, 1) := by decide +kernel
theorem dX11_make_6 : decode cX11_make 6 = .ok (.iload_n 1, 1) := by decide +kernel
theorem dX11_make_7 : decode cX11_make 7 = .ok (.invokevirtual 146, 3) := by decide +kernel
theorem dX11_make_10 : decode cX11_make 10 = .ok (.ifCond .ne 5, 3) := by decide +kernel
theorem dX11_make_13 : decode cX11_make 13 = .ok (.iconst (-1), 1) := by decide +kernel
theorem dX11_make_14 : decode cX11_make 14 = .ok (.ireturn, 1) := by decide +kernel
theorem dX11_make_15 : decode cX11_make 15 = .ok (.aload_n 0, 1) := by decide +kernel
theorem dX11_make_16 : decode cX11_make 16 = .ok (.getfield 51, 3) := by decide +kernel
theorem dX11_make_19 : decode cX11_make 19 = .ok (.aload_n 0, 1) := by decide +kernel
theorem dX11_make_20 : decode cX11_make 20 = .ok (.getfield 88, 3) := by decide +kernel
theorem dX11_make_23 : decode cX11_make 23 = .ok (.getfield 139, 3) := by decide +kernel
theorem dX11_make_26 : decode cX11_make 26 = .ok (.invokevirtual 198, 3) := by decide +kernel
theorem dX11_make_29 : decode cX11_make 29 = .ok (.istore_n 2, 1) := by decide +kernel
theorem dX11_make_30 : decode cX11_make 30 = .ok (.iload_n 1, 1) := by decide +kernel
theorem dX11_make_31 : decode cX11_make 31 = .ok (.iconst (-1), 1) := by decide +kernel
theorem dX11_make_32 : decode cX11_make 32 = .ok (.if_icmp .eq 28, 3) := by decide +kernel
theorem dX11_make_35 : decode cX11_make 35 = .ok (.aload_n 0, 1) := by decide +kernel
theorem dX11_make_36 : decode cX11_make 36 = .ok (.getfield 42, 3) := by decide +kernel
theorem dX11_make_39 : decode cX11_make 39 = .ok (.aload_n 0, 1) := by decide +kernel
theorem dX11_make_40 : decode cX11_make 40 = .ok (.getfield 88, 3) := by decide +kernel
theorem dX11_make_43 : decode cX11_make 43 = .ok (.getfield 122, 3) := by decide +kernel
theorem dX11_make_46 : decode cX11_make 46 = .ok (.iload_n 2, 1) := by decide +kernel
theorem dX11_make_47 : decode cX11_make 47 = .ok (.invokevirtual 178, 3) := by decide +kernel
theorem dX11_make_50 : decode cX11_make 50 = .ok (.iload_n 1, 1) := by decide +kernel
theorem dX11_make_51 : decode cX11_make 51 = .ok (.ishr, 1) := by decide +kernel
theorem dX11_make_52 : decode cX11_make 52 = .ok (.iconst 1, 1) := by decide +kernel
theorem dX11_make_53 : decode cX11_make 53 = .ok (.iand, 1) := by decide +kernel
theorem dX11_make_54 : decode cX11_make 54 = .ok (.ifCond .ne 6, 3) := by decide +kernel
theorem dX11_make_57 : decode cX11_make 57 = .ok (.bipush (-2), 2) := by decide +kernel
theorem dX11_make_59 : decode cX11_make 59 = .ok (.ireturn, 1) := by decide +kernel
theorem dX11_make_60 : decode cX11_make 60 = .ok (.aload_n 0, 1) := by decide +kernel
theorem dX11_make_61 : decode cX11_make 61 = .ok (.iload_n 2, 1) := by decide +kernel
theorem dX11_make_62 : decode cX11_make 62 = .ok (.iload_n 1, 1) := by decide +kernel
theorem dX11_make_63 : decode cX11_make 63 = .ok (.iconst (-1), 1) := by decide +kernel
theorem dX11_make_64 : decode cX11_make 64 = .ok (.if_icmp .ne 8, 3) := by decide +kernel
theorem dX11_make_67 : decode cX11_make 67 = .ok (.bipush 8, 2) := by decide +kernel
theorem dX11_make_69 : decode cX11_make 69 = .ok (.goto 4, 3) := by decide +kernel
theorem dX11_make_72 : decode cX11_make 72 = .ok (.iload_n 1, 1) := by decide +kernel
theorem dX11_make_73 : decode cX11_make 73 = .ok (.invokevirtual 201, 3) := by decide +kernel
theorem dX11_make_76 : decode cX11_make 76 = .ok (.ireturn, 1) := by decide +kernel
theorem dX11_at_0 : decode cX11_at 0 = .ok (.aload_n 0, 1) := by decide +kernel
theorem dX11_at_1 : decode cX11_at 1 = .ok (.getfield 19, 3) := by decide +kernel
theorem dX11_at_4 : decode cX11_at 4 = .ok (.aload_n 0, 1) := by decide +kernel
theorem dX11_at_5 : decode cX11_at 5 = .ok (.getfield 88, 3) := by decide +kernel
theorem dX11_at_8 : decode cX11_at 8 = .ok (.getfield 122, 3) := by decide +kernel
theorem dX11_at_11 : decode cX11_at 11 = .ok (.iload_n 1, 1) := by decide +kernel
theorem dX11_at_12 : decode cX11_at 12 = .ok (.invokevirtual 182, 3) := by decide +kernel
theorem dX11_at_15 : decode cX11_at 15 = .ok (.ireturn, 1) := by decide +kernel
theorem dX11_holding_0 : decode cX11_holding 0 = .ok (.aload_n 0, 1) := by decide +kernel
theorem dX11_holding_1 : decode cX11_holding 1 = .ok (.getfield 42, 3) := by decide +kernel
theorem dX11_holding_4 : decode cX11_holding 4 = .ok (.aload_n 0, 1) := by decide +kernel
theorem dX11_holding_5 : decode cX11_holding 5 = .ok (.getfield 88, 3) := by decide +kernel
theorem dX11_holding_8 : decode cX11_holding 8 = .ok (.getfield 122, 3) := by decide +kernel
theorem dX11_holding_11 : decode cX11_holding 11 = .ok (.invokevirtual 185, 3) := by decide +kernel
theorem dX11_holding_14 : decode cX11_holding 14 = .ok (.ireturn, 1) := by decide +kernel
theorem dX10_worthOf_0 : decode cX10_worthOf 0 = .ok (.iload_n 1, 1) := by decide +kernel
theorem dX10_worthOf_1 : decode cX10_worthOf 1 = .ok (.ifCond .lt 19, 3) := by decide +kernel
theorem dX10_worthOf_4 : decode cX10_worthOf 4 = .ok (.iload_n 1, 1) := by decide +kernel
theorem dX10_worthOf_5 : decode cX10_worthOf 5 = .ok (.aload_n 0, 1) := by decide +kernel
theorem dX10_worthOf_6 : decode cX10_worthOf 6 = .ok (.getfield 29, 3) := by decide +kernel
theorem dX10_worthOf_9 : decode cX10_worthOf 9 = .ok (.arraylength, 1) := by decide +kernel
theorem dX10_worthOf_10 : decode cX10_worthOf 10 = .ok (.if_icmp .ge 10, 3) := by decide +kernel
theorem dX10_worthOf_13 : decode cX10_worthOf 13 = .ok (.iload_n 2, 1) := by decide +kernel
theorem dX10_worthOf_14 : decode cX10_worthOf 14 = .ok (.invokestatic 69, 3) := by decide +kernel
theorem dX10_worthOf_17 : decode cX10_worthOf 17 = .ok (.ifCond .ne 5, 3) := by decide +kernel
theorem dX10_worthOf_20 : decode cX10_worthOf 20 = .ok (.iconst 0, 1) := by decide +kernel
theorem dX10_worthOf_21 : decode cX10_worthOf 21 = .ok (.ireturn, 1) := by decide +kernel
theorem dX10_worthOf_22 : decode cX10_worthOf 22 = .ok (.aload_n 0, 1) := by decide +kernel
theorem dX10_worthOf_23 : decode cX10_worthOf 23 = .ok (.invokevirtual 73, 3) := by decide +kernel
theorem dX10_worthOf_26 : decode cX10_worthOf 26 = .ok (.aload_n 0, 1) := by decide +kernel
theorem dX10_worthOf_27 : decode cX10_worthOf 27 = .ok (.getfield 29, 3) := by decide +kernel
theorem dX10_worthOf_30 : decode cX10_worthOf 30 = .ok (.iload_n 1, 1) := by decide +kernel
theorem dX10_worthOf_31 : decode cX10_worthOf 31 = .ok (.laload, 1) := by decide +kernel
theorem dX10_worthOf_32 : decode cX10_worthOf 32 = .ok (.iload_n 2, 1) := by decide +kernel
theorem dX10_worthOf_33 : decode cX10_worthOf 33 = .ok (.bipush 16, 2) := by decide +kernel
theorem dX10_worthOf_35 : decode cX10_worthOf 35 = .ok (.invokestatic 76, 3) := by decide +kernel
theorem dX10_worthOf_38 : decode cX10_worthOf 38 = .ok (.istore_n 3, 1) := by decide +kernel
theorem dX10_worthOf_39 : decode cX10_worthOf 39 = .ok (.iload_n 3, 1) := by decide +kernel
theorem dX10_worthOf_40 : decode cX10_worthOf 40 = .ok (.ifCond .eq 9, 3) := by decide +kernel
theorem dX10_worthOf_43 : decode cX10_worthOf 43 = .ok (.iload_n 3, 1) := by decide +kernel
theorem dX10_worthOf_44 : decode cX10_worthOf 44 = .ok (.sipush 1000, 3) := by decide +kernel
theorem dX10_worthOf_47 : decode cX10_worthOf 47 = .ok (.isub, 1) := by decide +kernel
theorem dX10_worthOf_48 : decode cX10_worthOf 48 = .ok (.ireturn, 1) := by decide +kernel
theorem dX10_worthOf_49 : decode cX10_worthOf 49 = .ok (.iconst 0, 1) := by decide +kernel
theorem dX10_worthOf_50 : decode cX10_worthOf 50 = .ok (.istore 4, 2) := by decide +kernel
theorem dX10_worthOf_52 : decode cX10_worthOf 52 = .ok (.aload_n 0, 1) := by decide +kernel
theorem dX10_worthOf_53 : decode cX10_worthOf 53 = .ok (.getfield 36, 3) := by decide +kernel
theorem dX10_worthOf_56 : decode cX10_worthOf 56 = .ok (.iload_n 1, 1) := by decide +kernel
theorem dX10_worthOf_57 : decode cX10_worthOf 57 = .ok (.invokevirtual 80, 3) := by decide +kernel
theorem dX10_worthOf_60 : decode cX10_worthOf 60 = .ok (.istore 5, 2) := by decide +kernel
theorem dX10_worthOf_62 : decode cX10_worthOf 62 = .ok (.iconst 0, 1) := by decide +kernel
theorem dX10_worthOf_63 : decode cX10_worthOf 63 = .ok (.istore 6, 2) := by decide +kernel
theorem dX10_worthOf_65 : decode cX10_worthOf 65 = .ok (.iload 6, 2) := by decide +kernel
theorem dX10_worthOf_67 : decode cX10_worthOf 67 = .ok (.iload 5, 2) := by decide +kernel
theorem dX10_worthOf_69 : decode cX10_worthOf 69 = .ok (.if_icmp .ge 45, 3) := by decide +kernel
theorem dX10_worthOf_72 : decode cX10_worthOf 72 = .ok (.aload_n 0, 1) := by decide +kernel
theorem dX10_worthOf_73 : decode cX10_worthOf 73 = .ok (.iload_n 1, 1) := by decide +kernel
theorem dX10_worthOf_74 : decode cX10_worthOf 74 = .ok (.aload_n 0, 1) := by decide +kernel
theorem dX10_worthOf_75 : decode cX10_worthOf 75 = .ok (.getfield 36, 3) := by decide +kernel
theorem dX10_worthOf_78 : decode cX10_worthOf 78 = .ok (.iload_n 1, 1) := by decide +kernel
theorem dX10_worthOf_79 : decode cX10_worthOf 79 = .ok (.iload 6, 2) := by decide +kernel
theorem dX10_worthOf_81 : decode cX10_worthOf 81 = .ok (.invokevirtual 83, 3) := by decide +kernel
theorem dX10_worthOf_84 : decode cX10_worthOf 84 = .ok (.iload 6, 2) := by decide +kernel
theorem dX10_worthOf_86 : decode cX10_worthOf 86 = .ok (.iload_n 2, 1) := by decide +kernel
theorem dX10_worthOf_87 : decode cX10_worthOf 87 = .ok (.invokevirtual 87, 3) := by decide +kernel
theorem dX10_worthOf_90 : decode cX10_worthOf 90 = .ok (.iload 4, 2) := by decide +kernel
theorem dX10_worthOf_92 : decode cX10_worthOf 92 = .ok (.aload_n 0, 1) := by decide +kernel
theorem dX10_worthOf_93 : decode cX10_worthOf 93 = .ok (.getfield 40, 3) := by decide +kernel
theorem dX10_worthOf_96 : decode cX10_worthOf 96 = .ok (.bipush 118, 2) := by decide +kernel
theorem dX10_worthOf_98 : decode cX10_worthOf 98 = .ok (.aload_n 0, 1) := by decide +kernel
theorem dX10_worthOf_99 : decode cX10_worthOf 99 = .ok (.getfield 24, 3) := by decide +kernel
theorem dX10_worthOf_102 : decode cX10_worthOf 102 = .ok (.invokevirtual 91, 3) := by decide +kernel
theorem dX10_worthOf_105 : decode cX10_worthOf 105 = .ok (.iadd, 1) := by decide +kernel
theorem dX10_worthOf_106 : decode cX10_worthOf 106 = .ok (.istore 4, 2) := by decide +kernel
theorem dX10_worthOf_108 : decode cX10_worthOf 108 = .ok (.iinc 6 1, 3) := by decide +kernel
theorem dX10_worthOf_111 : decode cX10_worthOf 111 = .ok (.goto (-46), 3) := by decide +kernel
theorem dX10_worthOf_114 : decode cX10_worthOf 114 = .ok (.aload_n 0, 1) := by decide +kernel
theorem dX10_worthOf_115 : decode cX10_worthOf 115 = .ok (.getfield 29, 3) := by decide +kernel
theorem dX10_worthOf_118 : decode cX10_worthOf 118 = .ok (.iload_n 1, 1) := by decide +kernel
theorem dX10_worthOf_119 : decode cX10_worthOf 119 = .ok (.aload_n 0, 1) := by decide +kernel
theorem dX10_worthOf_120 : decode cX10_worthOf 120 = .ok (.getfield 29, 3) := by decide +kernel
theorem dX10_worthOf_123 : decode cX10_worthOf 123 = .ok (.iload_n 1, 1) := by decide +kernel
theorem dX10_worthOf_124 : decode cX10_worthOf 124 = .ok (.laload, 1) := by decide +kernel
theorem dX10_worthOf_125 : decode cX10_worthOf 125 = .ok (.iload_n 2, 1) := by decide +kernel
theorem dX10_worthOf_126 : decode cX10_worthOf 126 = .ok (.bipush 16, 2) := by decide +kernel
theorem dX10_worthOf_128 : decode cX10_worthOf 128 = .ok (.iload 4, 2) := by decide +kernel
theorem dX10_worthOf_130 : decode cX10_worthOf 130 = .ok (.sipush 1000, 3) := by decide +kernel
theorem dX10_worthOf_133 : decode cX10_worthOf 133 = .ok (.iadd, 1) := by decide +kernel
theorem dX10_worthOf_134 : decode cX10_worthOf 134 = .ok (.invokestatic 97, 3) := by decide +kernel
theorem dX10_worthOf_137 : decode cX10_worthOf 137 = .ok (.lastore, 1) := by decide +kernel
theorem dX10_worthOf_138 : decode cX10_worthOf 138 = .ok (.iload 4, 2) := by decide +kernel
theorem dX10_worthOf_140 : decode cX10_worthOf 140 = .ok (.ireturn, 1) := by decide +kernel
theorem dX11_worth_0 : decode cX11_worth 0 = .ok (.iload_n 1, 1) := by decide +kernel
theorem dX11_worth_1 : decode cX11_worth 1 = .ok (.invokestatic 142, 3) := by decide +kernel
theorem dX11_worth_4 : decode cX11_worth 4 = .ok (.ifCond .eq 21, 3) := by decide +kernel
theorem dX11_worth_7 : decode cX11_worth 7 = .ok (.aload_n 0, 1) := by decide +kernel
theorem dX11_worth_8 : decode cX11_worth 8 = .ok (.getfield 42, 3) := by decide +kernel
theorem dX11_worth_11 : decode cX11_worth 11 = .ok (.aload_n 0, 1) := by decide +kernel
theorem dX11_worth_12 : decode cX11_worth 12 = .ok (.getfield 88, 3) := by decide +kernel
theorem dX11_worth_15 : decode cX11_worth 15 = .ok (.getfield 122, 3) := by decide +kernel
theorem dX11_worth_18 : decode cX11_worth 18 = .ok (.iload_n 1, 1) := by decide +kernel
theorem dX11_worth_19 : decode cX11_worth 19 = .ok (.invokevirtual 188, 3) := by decide +kernel
theorem dX11_worth_22 : decode cX11_worth 22 = .ok (.goto 5, 3) := by decide +kernel
theorem dX11_worth_25 : decode cX11_worth 25 = .ok (.ldc 191, 2) := by decide +kernel
theorem dX11_worth_27 : decode cX11_worth 27 = .ok (.ireturn, 1) := by decide +kernel
theorem dX10_valueOfOldest_0 : decode cX10_valueOfOldest 0 = .ok (.aload_n 0, 1) := by decide +kernel
theorem dX10_valueOfOldest_1 : decode cX10_valueOfOldest 1 = .ok (.iload_n 1, 1) := by decide +kernel
theorem dX10_valueOfOldest_2 : decode cX10_valueOfOldest 2 = .ok (.aload_n 0, 1) := by decide +kernel
theorem dX10_valueOfOldest_3 : decode cX10_valueOfOldest 3 = .ok (.getfield 36, 3) := by decide +kernel
theorem dX10_valueOfOldest_6 : decode cX10_valueOfOldest 6 = .ok (.iload_n 1, 1) := by decide +kernel
theorem dX10_valueOfOldest_7 : decode cX10_valueOfOldest 7 = .ok (.invokevirtual 101, 3) := by decide +kernel
theorem dX10_valueOfOldest_10 : decode cX10_valueOfOldest 10 = .ok (.iconst 0, 1) := by decide +kernel
theorem dX10_valueOfOldest_11 : decode cX10_valueOfOldest 11 = .ok (.iload_n 2, 1) := by decide +kernel
theorem dX10_valueOfOldest_12 : decode cX10_valueOfOldest 12 = .ok (.invokevirtual 87, 3) := by decide +kernel
theorem dX10_valueOfOldest_15 : decode cX10_valueOfOldest 15 = .ok (.aload_n 0, 1) := by decide +kernel
theorem dX10_valueOfOldest_16 : decode cX10_valueOfOldest 16 = .ok (.getfield 40, 3) := by decide +kernel
theorem dX10_valueOfOldest_19 : decode cX10_valueOfOldest 19 = .ok (.bipush 118, 2) := by decide +kernel
theorem dX10_valueOfOldest_21 : decode cX10_valueOfOldest 21 = .ok (.aload_n 0, 1) := by decide +kernel
theorem dX10_valueOfOldest_22 : decode cX10_valueOfOldest 22 = .ok (.getfield 24, 3) := by decide +kernel
theorem dX10_valueOfOldest_25 : decode cX10_valueOfOldest 25 = .ok (.invokevirtual 91, 3) := by decide +kernel
theorem dX10_valueOfOldest_28 : decode cX10_valueOfOldest 28 = .ok (.ireturn, 1) := by decide +kernel
theorem dX2_choice_0 : decode cX2_choice 0 = .ok (.iload_n 1, 1) := by decide +kernel
theorem dX2_choice_1 : decode cX2_choice 1 = .ok (.invokestatic 33, 3) := by decide +kernel
theorem dX2_choice_4 : decode cX2_choice 4 = .ok (.ifCond .eq 12, 3) := by decide +kernel
theorem dX2_choice_7 : decode cX2_choice 7 = .ok (.aload_n 0, 1) := by decide +kernel
theorem dX2_choice_8 : decode cX2_choice 8 = .ok (.getfield 9, 3) := by decide +kernel
theorem dX2_choice_11 : decode cX2_choice 11 = .ok (.iload_n 1, 1) := by decide +kernel
theorem dX2_choice_12 : decode cX2_choice 12 = .ok (.iaload, 1) := by decide +kernel
theorem dX2_choice_13 : decode cX2_choice 13 = .ok (.goto 4, 3) := by decide +kernel
theorem dX2_choice_16 : decode cX2_choice 16 = .ok (.iconst 0, 1) := by decide +kernel
theorem dX2_choice_17 : decode cX2_choice 17 = .ok (.istore_n 3, 1) := by decide +kernel
theorem dX2_choice_18 : decode cX2_choice 18 = .ok (.iload_n 3, 1) := by decide +kernel
theorem dX2_choice_19 : decode cX2_choice 19 = .ok (.ifCond .ne 6, 3) := by decide +kernel
theorem dX2_choice_22 : decode cX2_choice 22 = .ok (.bipush 8, 2) := by decide +kernel
theorem dX2_choice_24 : decode cX2_choice 24 = .ok (.ireturn, 1) := by decide +kernel
theorem dX2_choice_25 : decode cX2_choice 25 = .ok (.aload_n 0, 1) := by decide +kernel
theorem dX2_choice_26 : decode cX2_choice 26 = .ok (.getfield 29, 3) := by decide +kernel
theorem dX2_choice_29 : decode cX2_choice 29 = .ok (.iload_n 2, 1) := by decide +kernel
theorem dX2_choice_30 : decode cX2_choice 30 = .ok (.iload_n 1, 1) := by decide +kernel
theorem dX2_choice_31 : decode cX2_choice 31 = .ok (.invokevirtual 43, 3) := by decide +kernel
theorem dX2_choice_34 : decode cX2_choice 34 = .ok (.istore 4, 2) := by decide +kernel
theorem dX2_choice_36 : decode cX2_choice 36 = .ok (.iload_n 3, 1) := by decide +kernel
theorem dX2_choice_37 : decode cX2_choice 37 = .ok (.iconst 4, 1) := by decide +kernel
theorem dX2_choice_38 : decode cX2_choice 38 = .ok (.if_icmp .ne 44, 3) := by decide +kernel
theorem dX2_choice_41 : decode cX2_choice 41 = .ok (.aload_n 0, 1) := by decide +kernel
theorem dX2_choice_42 : decode cX2_choice 42 = .ok (.getfield 15, 3) := by decide +kernel
theorem dX2_choice_45 : decode cX2_choice 45 = .ok (.iload_n 1, 1) := by decide +kernel
theorem dX2_choice_46 : decode cX2_choice 46 = .ok (.iaload, 1) := by decide +kernel
theorem dX2_choice_47 : decode cX2_choice 47 = .ok (.bipush 7, 2) := by decide +kernel
theorem dX2_choice_49 : decode cX2_choice 49 = .ok (.iand, 1) := by decide +kernel
theorem dX2_choice_50 : decode cX2_choice 50 = .ok (.istore 5, 2) := by decide +kernel
theorem dX2_choice_52 : decode cX2_choice 52 = .ok (.iload 4, 2) := by decide +kernel
theorem dX2_choice_54 : decode cX2_choice 54 = .ok (.aload_n 0, 1) := by decide +kernel
theorem dX2_choice_55 : decode cX2_choice 55 = .ok (.getfield 25, 3) := by decide +kernel
theorem dX2_choice_58 : decode cX2_choice 58 = .ok (.iload_n 2, 1) := by decide +kernel
theorem dX2_choice_59 : decode cX2_choice 59 = .ok (.invokevirtual 49, 3) := by decide +kernel
theorem dX2_choice_62 : decode cX2_choice 62 = .ok (.iconst (-1), 1) := by decide +kernel
theorem dX2_choice_63 : decode cX2_choice 63 = .ok (.ixor, 1) := by decide +kernel
theorem dX2_choice_64 : decode cX2_choice 64 = .ok (.iand, 1) := by decide +kernel
theorem dX2_choice_65 : decode cX2_choice 65 = .ok (.iload 5, 2) := by decide +kernel
theorem dX2_choice_67 : decode cX2_choice 67 = .ok (.ishr, 1) := by decide +kernel
theorem dX2_choice_68 : decode cX2_choice 68 = .ok (.iconst 1, 1) := by decide +kernel
theorem dX2_choice_69 : decode cX2_choice 69 = .ok (.iand, 1) := by decide +kernel
theorem dX2_choice_70 : decode cX2_choice 70 = .ok (.iconst 1, 1) := by decide +kernel
theorem dX2_choice_71 : decode cX2_choice 71 = .ok (.if_icmp .ne 8, 3) := by decide +kernel
theorem dX2_choice_74 : decode cX2_choice 74 = .ok (.iload 5, 2) := by decide +kernel
theorem dX2_choice_76 : decode cX2_choice 76 = .ok (.goto 5, 3) := by decide +kernel
theorem dX2_choice_79 : decode cX2_choice 79 = .ok (.bipush 8, 2) := by decide +kernel
theorem dX2_choice_81 : decode cX2_choice 81 = .ok (.ireturn, 1) := by decide +kernel
theorem dX2_choice_82 : decode cX2_choice 82 = .ok (.iload_n 3, 1) := by decide +kernel
theorem dX2_choice_83 : decode cX2_choice 83 = .ok (.iconst 2, 1) := by decide +kernel
theorem dX2_choice_84 : decode cX2_choice 84 = .ok (.if_icmp .eq 8, 3) := by decide +kernel
theorem dX2_choice_87 : decode cX2_choice 87 = .ok (.iload_n 3, 1) := by decide +kernel
theorem dX2_choice_88 : decode cX2_choice 88 = .ok (.iconst 3, 1) := by decide +kernel
theorem dX2_choice_89 : decode cX2_choice 89 = .ok (.if_icmp .ne 76, 3) := by decide +kernel
theorem dX2_choice_92 : decode cX2_choice 92 = .ok (.aload_n 0, 1) := by decide +kernel
theorem dX2_choice_93 : decode cX2_choice 93 = .ok (.getfield 25, 3) := by decide +kernel
theorem dX2_choice_96 : decode cX2_choice 96 = .ok (.iload_n 2, 1) := by decide +kernel
theorem dX2_choice_97 : decode cX2_choice 97 = .ok (.invokevirtual 54, 3) := by decide +kernel
theorem dX2_choice_100 : decode cX2_choice 100 = .ok (.ifCond .eq 15, 3) := by decide +kernel
theorem dX2_choice_103 : decode cX2_choice 103 = .ok (.aload_n 0, 1) := by decide +kernel
theorem dX2_choice_104 : decode cX2_choice 104 = .ok (.getfield 29, 3) := by decide +kernel
theorem dX2_choice_107 : decode cX2_choice 107 = .ok (.iload_n 2, 1) := by decide +kernel
theorem dX2_choice_108 : decode cX2_choice 108 = .ok (.iload_n 1, 1) := by decide +kernel
theorem dX2_choice_109 : decode cX2_choice 109 = .ok (.invokevirtual 57, 3) := by decide +kernel
theorem dX2_choice_112 : decode cX2_choice 112 = .ok (.goto 4, 3) := by decide +kernel
theorem dX2_choice_115 : decode cX2_choice 115 = .ok (.iconst 0, 1) := by decide +kernel
theorem dX2_choice_116 : decode cX2_choice 116 = .ok (.istore 5, 2) := by decide +kernel
theorem dX2_choice_118 : decode cX2_choice 118 = .ok (.aload_n 0, 1) := by decide +kernel
theorem dX2_choice_119 : decode cX2_choice 119 = .ok (.getfield 25, 3) := by decide +kernel
theorem dX2_choice_122 : decode cX2_choice 122 = .ok (.iload_n 2, 1) := by decide +kernel
theorem dX2_choice_123 : decode cX2_choice 123 = .ok (.invokevirtual 60, 3) := by decide +kernel
theorem dX2_choice_126 : decode cX2_choice 126 = .ok (.istore 6, 2) := by decide +kernel
theorem dX2_choice_128 : decode cX2_choice 128 = .ok (.iload_n 3, 1) := by decide +kernel
theorem dX2_choice_129 : decode cX2_choice 129 = .ok (.iconst 2, 1) := by decide +kernel
theorem dX2_choice_130 : decode cX2_choice 130 = .ok (.if_icmp .ne 27, 3) := by decide +kernel
theorem dX2_choice_133 : decode cX2_choice 133 = .ok (.iload 5, 2) := by decide +kernel
theorem dX2_choice_135 : decode cX2_choice 135 = .ok (.ifCond .le 19, 3) := by decide +kernel
theorem dX2_choice_138 : decode cX2_choice 138 = .ok (.iload 4, 2) := by decide +kernel
theorem dX2_choice_140 : decode cX2_choice 140 = .ok (.iload 6, 2) := by decide +kernel
theorem dX2_choice_142 : decode cX2_choice 142 = .ok (.ishr, 1) := by decide +kernel
theorem dX2_choice_143 : decode cX2_choice 143 = .ok (.iconst 1, 1) := by decide +kernel
theorem dX2_choice_144 : decode cX2_choice 144 = .ok (.iand, 1) := by decide +kernel
theorem dX2_choice_145 : decode cX2_choice 145 = .ok (.iconst 1, 1) := by decide +kernel
theorem dX2_choice_146 : decode cX2_choice 146 = .ok (.if_icmp .ne 8, 3) := by decide +kernel
theorem dX2_choice_149 : decode cX2_choice 149 = .ok (.iload 6, 2) := by decide +kernel
theorem dX2_choice_151 : decode cX2_choice 151 = .ok (.goto 5, 3) := by decide +kernel
theorem dX2_choice_154 : decode cX2_choice 154 = .ok (.bipush 8, 2) := by decide +kernel
theorem dX2_choice_156 : decode cX2_choice 156 = .ok (.ireturn, 1) := by decide +kernel
theorem dX2_choice_157 : decode cX2_choice 157 = .ok (.iload 5, 2) := by decide +kernel
theorem dX2_choice_159 : decode cX2_choice 159 = .ok (.ifCond .lt 6, 3) := by decide +kernel
theorem dX2_choice_162 : decode cX2_choice 162 = .ok (.bipush 8, 2) := by decide +kernel
theorem dX2_choice_164 : decode cX2_choice 164 = .ok (.ireturn, 1) := by decide +kernel
theorem dX2_choice_165 : decode cX2_choice 165 = .ok (.bipush 8, 2) := by decide +kernel
theorem dX2_choice_167 : decode cX2_choice 167 = .ok (.istore 5, 2) := by decide +kernel
theorem dX2_choice_169 : decode cX2_choice 169 = .ok (.iload_n 3, 1) := by decide +kernel
theorem dX2_choice_170 : decode cX2_choice 170 = .ok (.iconst 1, 1) := by decide +kernel
theorem dX2_choice_171 : decode cX2_choice 171 = .ok (.if_icmp .ne 15, 3) := by decide +kernel
theorem dX2_choice_174 : decode cX2_choice 174 = .ok (.aload_n 0, 1) := by decide +kernel
theorem dX2_choice_175 : decode cX2_choice 175 = .ok (.getfield 29, 3) := by decide +kernel
theorem dX2_choice_178 : decode cX2_choice 178 = .ok (.iload_n 2, 1) := by decide +kernel
theorem dX2_choice_179 : decode cX2_choice 179 = .ok (.iload_n 1, 1) := by decide +kernel
theorem dX2_choice_180 : decode cX2_choice 180 = .ok (.invokevirtual 63, 3) := by decide +kernel
theorem dX2_choice_183 : decode cX2_choice 183 = .ok (.goto 5, 3) := by decide +kernel
theorem dX2_choice_186 : decode cX2_choice 186 = .ok (.ldc 66, 2) := by decide +kernel
theorem dX2_choice_188 : decode cX2_choice 188 = .ok (.istore 6, 2) := by decide +kernel
theorem dX2_choice_190 : decode cX2_choice 190 = .ok (.iconst 0, 1) := by decide +kernel
theorem dX2_choice_191 : decode cX2_choice 191 = .ok (.istore 7, 2) := by decide +kernel
theorem dX2_choice_193 : decode cX2_choice 193 = .ok (.iload 7, 2) := by decide +kernel
theorem dX2_choice_195 : decode cX2_choice 195 = .ok (.bipush 8, 2) := by decide +kernel
theorem dX2_choice_197 : decode cX2_choice 197 = .ok (.if_icmp .ge 60, 3) := by decide +kernel
theorem dX2_choice_200 : decode cX2_choice 200 = .ok (.iload 4, 2) := by decide +kernel
theorem dX2_choice_202 : decode cX2_choice 202 = .ok (.iload 7, 2) := by decide +kernel
theorem dX2_choice_204 : decode cX2_choice 204 = .ok (.ishr, 1) := by decide +kernel
theorem dX2_choice_205 : decode cX2_choice 205 = .ok (.iconst 1, 1) := by decide +kernel
theorem dX2_choice_206 : decode cX2_choice 206 = .ok (.iand, 1) := by decide +kernel
theorem dX2_choice_207 : decode cX2_choice 207 = .ok (.iconst 1, 1) := by decide +kernel
theorem dX2_choice_208 : decode cX2_choice 208 = .ok (.if_icmp .ne 24, 3) := by decide +kernel
theorem dX2_choice_211 : decode cX2_choice 211 = .ok (.aload_n 0, 1) := by decide +kernel
theorem dX2_choice_212 : decode cX2_choice 212 = .ok (.getfield 29, 3) := by decide +kernel
theorem dX2_choice_215 : decode cX2_choice 215 = .ok (.aload_n 0, 1) := by decide +kernel
theorem dX2_choice_216 : decode cX2_choice 216 = .ok (.getfield 25, 3) := by decide +kernel
theorem dX2_choice_219 : decode cX2_choice 219 = .ok (.iload_n 2, 1) := by decide +kernel
theorem dX2_choice_220 : decode cX2_choice 220 = .ok (.iload 7, 2) := by decide +kernel
theorem dX2_choice_222 : decode cX2_choice 222 = .ok (.invokevirtual 67, 3) := by decide +kernel
theorem dX2_choice_225 : decode cX2_choice 225 = .ok (.iload_n 1, 1) := by decide +kernel
theorem dX2_choice_226 : decode cX2_choice 226 = .ok (.invokevirtual 63, 3) := by decide +kernel
theorem dX2_choice_229 : decode cX2_choice 229 = .ok (.goto 5, 3) := by decide +kernel
theorem dX2_choice_232 : decode cX2_choice 232 = .ok (.ldc 66, 2) := by decide +kernel
theorem dX2_choice_234 : decode cX2_choice 234 = .ok (.istore 8, 2) := by decide +kernel
theorem dX2_choice_236 : decode cX2_choice 236 = .ok (.iload 8, 2) := by decide +kernel
theorem dX2_choice_238 : decode cX2_choice 238 = .ok (.iload 6, 2) := by decide +kernel
theorem dX2_choice_240 : decode cX2_choice 240 = .ok (.if_icmp .le 11, 3) := by decide +kernel
theorem dX2_choice_243 : decode cX2_choice 243 = .ok (.iload 7, 2) := by decide +kernel
theorem dX2_choice_245 : decode cX2_choice 245 = .ok (.istore 5, 2) := by decide +kernel
theorem dX2_choice_247 : decode cX2_choice 247 = .ok (.iload 8, 2) := by decide +kernel
theorem dX2_choice_249 : decode cX2_choice 249 = .ok (.istore 6, 2) := by decide +kernel
theorem dX2_choice_251 : decode cX2_choice 251 = .ok (.iinc 7 1, 3) := by decide +kernel
theorem dX2_choice_254 : decode cX2_choice 254 = .ok (.goto (-61), 3) := by decide +kernel
theorem dX2_choice_257 : decode cX2_choice 257 = .ok (.iload 5, 2) := by decide +kernel
theorem dX2_choice_259 : decode cX2_choice 259 = .ok (.ireturn, 1) := by decide +kernel
theorem dX11_would_0 : decode cX11_would 0 = .ok (.iload_n 1, 1) := by decide +kernel
theorem dX11_would_1 : decode cX11_would 1 = .ok (.invokestatic 142, 3) := by decide +kernel
theorem dX11_would_4 : decode cX11_would 4 = .ok (.ifCond .eq 21, 3) := by decide +kernel
theorem dX11_would_7 : decode cX11_would 7 = .ok (.aload_n 0, 1) := by decide +kernel
theorem dX11_would_8 : decode cX11_would 8 = .ok (.getfield 51, 3) := by decide +kernel
theorem dX11_would_11 : decode cX11_would 11 = .ok (.iload_n 1, 1) := by decide +kernel
theorem dX11_would_12 : decode cX11_would 12 = .ok (.aload_n 0, 1) := by decide +kernel
theorem dX11_would_13 : decode cX11_would 13 = .ok (.getfield 88, 3) := by decide +kernel
theorem dX11_would_16 : decode cX11_would 16 = .ok (.getfield 122, 3) := by decide +kernel
theorem dX11_would_19 : decode cX11_would 19 = .ok (.invokevirtual 192, 3) := by decide +kernel
theorem dX11_would_22 : decode cX11_would 22 = .ok (.goto 4, 3) := by decide +kernel
theorem dX11_would_25 : decode cX11_would 25 = .ok (.iconst (-1), 1) := by decide +kernel
theorem dX11_would_26 : decode cX11_would 26 = .ok (.ireturn, 1) := by decide +kernel
theorem dX11_run_0 : decode cX11_run 0 = .ok (.iload_n 2, 1) := by decide +kernel
theorem dX11_run_1 : decode cX11_run 1 = .ok (.iconst 3, 1) := by decide +kernel
theorem dX11_run_2 : decode cX11_run 2 = .ok (.invokestatic 102, 3) := by decide +kernel
theorem dX11_run_5 : decode cX11_run 5 = .ok (.ifCond .ne 21, 3) := by decide +kernel
theorem dX11_run_8 : decode cX11_run 8 = .ok (.iload_n 2, 1) := by decide +kernel
theorem dX11_run_9 : decode cX11_run 9 = .ok (.bipush 10, 2) := by decide +kernel
theorem dX11_run_11 : decode cX11_run 11 = .ok (.if_icmp .lt 9, 3) := by decide +kernel
theorem dX11_run_14 : decode cX11_run 14 = .ok (.iload_n 2, 1) := by decide +kernel
theorem dX11_run_15 : decode cX11_run 15 = .ok (.bipush 13, 2) := by decide +kernel
theorem dX11_run_17 : decode cX11_run 17 = .ok (.if_icmp .le 9, 3) := by decide +kernel
theorem dX11_run_20 : decode cX11_run 20 = .ok (.iload_n 2, 1) := by decide +kernel
theorem dX11_run_21 : decode cX11_run 21 = .ok (.bipush 20, 2) := by decide +kernel
theorem dX11_run_23 : decode cX11_run 23 = .ok (.if_icmp .ne 7, 3) := by decide +kernel
theorem dX11_run_26 : decode cX11_run 26 = .ok (.iconst 1, 1) := by decide +kernel
theorem dX11_run_27 : decode cX11_run 27 = .ok (.goto 4, 3) := by decide +kernel
theorem dX11_run_30 : decode cX11_run 30 = .ok (.iconst 0, 1) := by decide +kernel
theorem dX11_run_31 : decode cX11_run 31 = .ok (.istore_n 3, 1) := by decide +kernel
theorem dX11_run_32 : decode cX11_run 32 = .ok (.iload_n 1, 1) := by decide +kernel
theorem dX11_run_33 : decode cX11_run 33 = .ok (.iconst 1, 1) := by decide +kernel
theorem dX11_run_34 : decode cX11_run 34 = .ok (.if_icmp .lt 13, 3) := by decide +kernel
theorem dX11_run_37 : decode cX11_run 37 = .ok (.iload_n 1, 1) := by decide +kernel
theorem dX11_run_38 : decode cX11_run 38 = .ok (.bipush 60, 2) := by decide +kernel
theorem dX11_run_40 : decode cX11_run 40 = .ok (.if_icmp .gt 7, 3) := by decide +kernel
theorem dX11_run_43 : decode cX11_run 43 = .ok (.iload_n 3, 1) := by decide +kernel
theorem dX11_run_44 : decode cX11_run 44 = .ok (.ifCond .ne 6, 3) := by decide +kernel
theorem dX11_run_47 : decode cX11_run 47 = .ok (.ldc 191, 2) := by decide +kernel
theorem dX11_run_49 : decode cX11_run 49 = .ok (.ireturn, 1) := by decide +kernel
theorem dX11_run_50 : decode cX11_run 50 = .ok (.aload_n 0, 1) := by decide +kernel
theorem dX11_run_51 : decode cX11_run 51 = .ok (.getfield 88, 3) := by decide +kernel
theorem dX11_run_54 : decode cX11_run 54 = .ok (.getfield 122, 3) := by decide +kernel
theorem dX11_run_57 : decode cX11_run 57 = .ok (.istore 4, 2) := by decide +kernel
theorem dX11_run_59 : decode cX11_run 59 = .ok (.aload_n 0, 1) := by decide +kernel
theorem dX11_run_60 : decode cX11_run 60 = .ok (.getfield 88, 3) := by decide +kernel
theorem dX11_run_63 : decode cX11_run 63 = .ok (.getfield 139, 3) := by decide +kernel
theorem dX11_run_66 : decode cX11_run 66 = .ok (.istore 5, 2) := by decide +kernel
theorem dX11_run_68 : decode cX11_run 68 = .ok (.iconst 0, 1) := by decide +kernel
theorem dX11_run_69 : decode cX11_run 69 = .ok (.istore 6, 2) := by decide +kernel
theorem dX11_run_71 : decode cX11_run 71 = .ok (.iconst 0, 1) := by decide +kernel
theorem dX11_run_72 : decode cX11_run 72 = .ok (.istore 7, 2) := by decide +kernel
theorem dX11_run_74 : decode cX11_run 74 = .ok (.iconst 0, 1) := by decide +kernel
theorem dX11_run_75 : decode cX11_run 75 = .ok (.istore 8, 2) := by decide +kernel
theorem dX11_run_77 : decode cX11_run 77 = .ok (.iload 8, 2) := by decide +kernel
theorem dX11_run_79 : decode cX11_run 79 = .ok (.iload_n 1, 1) := by decide +kernel
theorem dX11_run_80 : decode cX11_run 80 = .ok (.if_icmp .ge 94, 3) := by decide +kernel
theorem dX11_run_83 : decode cX11_run 83 = .ok (.aload_n 0, 1) := by decide +kernel
theorem dX11_run_84 : decode cX11_run 84 = .ok (.getfield 51, 3) := by decide +kernel
theorem dX11_run_87 : decode cX11_run 87 = .ok (.aload_n 0, 1) := by decide +kernel
theorem dX11_run_88 : decode cX11_run 88 = .ok (.getfield 51, 3) := by decide +kernel
theorem dX11_run_91 : decode cX11_run 91 = .ok (.iload 5, 2) := by decide +kernel
theorem dX11_run_93 : decode cX11_run 93 = .ok (.invokevirtual 198, 3) := by decide +kernel
theorem dX11_run_96 : decode cX11_run 96 = .ok (.iload 4, 2) := by decide +kernel
theorem dX11_run_98 : decode cX11_run 98 = .ok (.invokevirtual 192, 3) := by decide +kernel
theorem dX11_run_101 : decode cX11_run 101 = .ok (.istore 9, 2) := by decide +kernel
theorem dX11_run_103 : decode cX11_run 103 = .ok (.aload_n 0, 1) := by decide +kernel
theorem dX11_run_104 : decode cX11_run 104 = .ok (.getfield 19, 3) := by decide +kernel
theorem dX11_run_107 : decode cX11_run 107 = .ok (.iload 4, 2) := by decide +kernel
theorem dX11_run_109 : decode cX11_run 109 = .ok (.iload 9, 2) := by decide +kernel
theorem dX11_run_111 : decode cX11_run 111 = .ok (.invokevirtual 214, 3) := by decide +kernel
theorem dX11_run_114 : decode cX11_run 114 = .ok (.istore 4, 2) := by decide +kernel
theorem dX11_run_116 : decode cX11_run 116 = .ok (.aload_n 0, 1) := by decide +kernel
theorem dX11_run_117 : decode cX11_run 117 = .ok (.getfield 51, 3) := by decide +kernel
theorem dX11_run_120 : decode cX11_run 120 = .ok (.iload 5, 2) := by decide +kernel
theorem dX11_run_122 : decode cX11_run 122 = .ok (.invokevirtual 220, 3) := by decide +kernel
theorem dX11_run_125 : decode cX11_run 125 = .ok (.istore 5, 2) := by decide +kernel
theorem dX11_run_127 : decode cX11_run 127 = .ok (.iload 7, 2) := by decide +kernel
theorem dX11_run_129 : decode cX11_run 129 = .ok (.iload 9, 2) := by decide +kernel
theorem dX11_run_131 : decode cX11_run 131 = .ok (.bipush 8, 2) := by decide +kernel
theorem dX11_run_133 : decode cX11_run 133 = .ok (.if_icmp .ne 7, 3) := by decide +kernel
theorem dX11_run_136 : decode cX11_run 136 = .ok (.iconst 0, 1) := by decide +kernel
theorem dX11_run_137 : decode cX11_run 137 = .ok (.goto 4, 3) := by decide +kernel
theorem dX11_run_140 : decode cX11_run 140 = .ok (.iconst 1, 1) := by decide +kernel
theorem dX11_run_141 : decode cX11_run 141 = .ok (.iadd, 1) := by decide +kernel
theorem dX11_run_142 : decode cX11_run 142 = .ok (.istore 7, 2) := by decide +kernel
theorem dX11_run_144 : decode cX11_run 144 = .ok (.iload 6, 2) := by decide +kernel
theorem dX11_run_146 : decode cX11_run 146 = .ok (.iload_n 2, 1) := by decide +kernel
theorem dX11_run_147 : decode cX11_run 147 = .ok (.iconst 3, 1) := by decide +kernel
theorem dX11_run_148 : decode cX11_run 148 = .ok (.if_icmp .gt 16, 3) := by decide +kernel
theorem dX11_run_151 : decode cX11_run 151 = .ok (.aload_n 0, 1) := by decide +kernel
theorem dX11_run_152 : decode cX11_run 152 = .ok (.getfield 42, 3) := by decide +kernel
theorem dX11_run_155 : decode cX11_run 155 = .ok (.iload 4, 2) := by decide +kernel
theorem dX11_run_157 : decode cX11_run 157 = .ok (.iload_n 2, 1) := by decide +kernel
theorem dX11_run_158 : decode cX11_run 158 = .ok (.invokevirtual 188, 3) := by decide +kernel
theorem dX11_run_161 : decode cX11_run 161 = .ok (.goto 4, 3) := by decide +kernel
theorem dX11_run_164 : decode cX11_run 164 = .ok (.iconst 0, 1) := by decide +kernel
theorem dX11_run_165 : decode cX11_run 165 = .ok (.iadd, 1) := by decide +kernel
theorem dX11_run_166 : decode cX11_run 166 = .ok (.istore 6, 2) := by decide +kernel
theorem dX11_run_168 : decode cX11_run 168 = .ok (.iinc 8 1, 3) := by decide +kernel
theorem dX11_run_171 : decode cX11_run 171 = .ok (.goto (-94), 3) := by decide +kernel
theorem dX11_run_174 : decode cX11_run 174 = .ok (.iload_n 2, 1) := by decide +kernel
theorem dX11_run_175 : decode cX11_run 175 = .ok (.bipush 20, 2) := by decide +kernel
theorem dX11_run_177 : decode cX11_run 177 = .ok (.if_icmp .ne 6, 3) := by decide +kernel
theorem dX11_run_180 : decode cX11_run 180 = .ok (.iload 7, 2) := by decide +kernel
theorem dX11_run_182 : decode cX11_run 182 = .ok (.ireturn, 1) := by decide +kernel
theorem dX11_run_183 : decode cX11_run 183 = .ok (.iload_n 2, 1) := by decide +kernel
theorem dX11_run_184 : decode cX11_run 184 = .ok (.iconst 3, 1) := by decide +kernel
theorem dX11_run_185 : decode cX11_run 185 = .ok (.if_icmp .gt 8, 3) := by decide +kernel
theorem dX11_run_188 : decode cX11_run 188 = .ok (.iload 6, 2) := by decide +kernel
theorem dX11_run_190 : decode cX11_run 190 = .ok (.goto 16, 3) := by decide +kernel
theorem dX11_run_193 : decode cX11_run 193 = .ok (.aload_n 0, 1) := by decide +kernel
theorem dX11_run_194 : decode cX11_run 194 = .ok (.getfield 19, 3) := by decide +kernel
theorem dX11_run_197 : decode cX11_run 197 = .ok (.iload 4, 2) := by decide +kernel
theorem dX11_run_199 : decode cX11_run 199 = .ok (.iload_n 2, 1) := by decide +kernel
theorem dX11_run_200 : decode cX11_run 200 = .ok (.bipush 10, 2) := by decide +kernel
theorem dX11_run_202 : decode cX11_run 202 = .ok (.isub, 1) := by decide +kernel
theorem dX11_run_203 : decode cX11_run 203 = .ok (.invokevirtual 182, 3) := by decide +kernel
theorem dX11_run_206 : decode cX11_run 206 = .ok (.ireturn, 1) := by decide +kernel
theorem dX5_stateAfter_0 : decode cX5_stateAfter 0 = .ok (.iload_n 1, 1) := by decide +kernel
theorem dX5_stateAfter_1 : decode cX5_stateAfter 1 = .ok (.iconst 4, 1) := by decide +kernel
theorem dX5_stateAfter_2 : decode cX5_stateAfter 2 = .ok (.irem, 1) := by decide +kernel
theorem dX5_stateAfter_3 : decode cX5_stateAfter 3 = .ok (.istore_n 2, 1) := by decide +kernel
theorem dX5_stateAfter_4 : decode cX5_stateAfter 4 = .ok (.iload_n 1, 1) := by decide +kernel
theorem dX5_stateAfter_5 : decode cX5_stateAfter 5 = .ok (.iconst 4, 1) := by decide +kernel
theorem dX5_stateAfter_6 : decode cX5_stateAfter 6 = .ok (.idiv, 1) := by decide +kernel
theorem dX5_stateAfter_7 : decode cX5_stateAfter 7 = .ok (.istore_n 3, 1) := by decide +kernel
theorem dX5_stateAfter_8 : decode cX5_stateAfter 8 = .ok (.aload_n 0, 1) := by decide +kernel
theorem dX5_stateAfter_9 : decode cX5_stateAfter 9 = .ok (.getfield 23, 3) := by decide +kernel
theorem dX5_stateAfter_12 : decode cX5_stateAfter 12 = .ok (.aload_n 0, 1) := by decide +kernel
theorem dX5_stateAfter_13 : decode cX5_stateAfter 13 = .ok (.getfield 23, 3) := by decide +kernel
theorem dX5_stateAfter_16 : decode cX5_stateAfter 16 = .ok (.iload_n 2, 1) := by decide +kernel
theorem dX5_stateAfter_17 : decode cX5_stateAfter 17 = .ok (.invokevirtual 38, 3) := by decide +kernel
theorem dX5_stateAfter_20 : decode cX5_stateAfter 20 = .ok (.iload_n 3, 1) := by decide +kernel
theorem dX5_stateAfter_21 : decode cX5_stateAfter 21 = .ok (.invokevirtual 43, 3) := by decide +kernel
theorem dX5_stateAfter_24 : decode cX5_stateAfter 24 = .ok (.istore 4, 2) := by decide +kernel
theorem dX5_stateAfter_26 : decode cX5_stateAfter 26 = .ok (.aload_n 0, 1) := by decide +kernel
theorem dX5_stateAfter_27 : decode cX5_stateAfter 27 = .ok (.getfield 15, 3) := by decide +kernel
theorem dX5_stateAfter_30 : decode cX5_stateAfter 30 = .ok (.iload_n 3, 1) := by decide +kernel
theorem dX5_stateAfter_31 : decode cX5_stateAfter 31 = .ok (.iload 4, 2) := by decide +kernel
theorem dX5_stateAfter_33 : decode cX5_stateAfter 33 = .ok (.invokevirtual 47, 3) := by decide +kernel
theorem dX5_stateAfter_36 : decode cX5_stateAfter 36 = .ok (.iconst 4, 1) := by decide +kernel
theorem dX5_stateAfter_37 : decode cX5_stateAfter 37 = .ok (.imul, 1) := by decide +kernel
theorem dX5_stateAfter_38 : decode cX5_stateAfter 38 = .ok (.aload_n 0, 1) := by decide +kernel
theorem dX5_stateAfter_39 : decode cX5_stateAfter 39 = .ok (.getfield 23, 3) := by decide +kernel
theorem dX5_stateAfter_42 : decode cX5_stateAfter 42 = .ok (.iload_n 2, 1) := by decide +kernel
theorem dX5_stateAfter_43 : decode cX5_stateAfter 43 = .ok (.invokevirtual 52, 3) := by decide +kernel
theorem dX5_stateAfter_46 : decode cX5_stateAfter 46 = .ok (.iadd, 1) := by decide +kernel
theorem dX5_stateAfter_47 : decode cX5_stateAfter 47 = .ok (.ireturn, 1) := by decide +kernel
theorem dX5_find_0 : decode cX5_find 0 = .ok (.iload_n 1, 1) := by decide +kernel
theorem dX5_find_1 : decode cX5_find 1 = .ok (.iconst 4, 1) := by decide +kernel
theorem dX5_find_2 : decode cX5_find 2 = .ok (.imul, 1) := by decide +kernel
theorem dX5_find_3 : decode cX5_find 3 = .ok (.iload_n 2, 1) := by decide +kernel
theorem dX5_find_4 : decode cX5_find 4 = .ok (.iadd, 1) := by decide +kernel
theorem dX5_find_5 : decode cX5_find 5 = .ok (.istore_n 3, 1) := by decide +kernel
theorem dX5_find_6 : decode cX5_find 6 = .ok (.iload_n 3, 1) := by decide +kernel
theorem dX5_find_7 : decode cX5_find 7 = .ok (.istore 4, 2) := by decide +kernel
theorem dX5_find_9 : decode cX5_find 9 = .ok (.aload_n 0, 1) := by decide +kernel
theorem dX5_find_10 : decode cX5_find 10 = .ok (.iload_n 3, 1) := by decide +kernel
theorem dX5_find_11 : decode cX5_find 11 = .ok (.invokevirtual 27, 3) := by decide +kernel
theorem dX5_find_14 : decode cX5_find 14 = .ok (.istore 5, 2) := by decide +kernel
theorem dX5_find_16 : decode cX5_find 16 = .ok (.iconst 1, 1) := by decide +kernel
theorem dX5_find_17 : decode cX5_find 17 = .ok (.istore 6, 2) := by decide +kernel
theorem dX5_find_19 : decode cX5_find 19 = .ok (.aload_n 0, 1) := by decide +kernel
theorem dX5_find_20 : decode cX5_find 20 = .ok (.iconst 1, 1) := by decide +kernel
theorem dX5_find_21 : decode cX5_find 21 = .ok (.putfield 9, 3) := by decide +kernel
theorem dX5_find_24 : decode cX5_find 24 = .ok (.iconst 0, 1) := by decide +kernel
theorem dX5_find_25 : decode cX5_find 25 = .ok (.istore 7, 2) := by decide +kernel
theorem dX5_find_27 : decode cX5_find 27 = .ok (.iload 7, 2) := by decide +kernel
theorem dX5_find_29 : decode cX5_find 29 = .ok (.ldc 31, 2) := by decide +kernel
theorem dX5_find_31 : decode cX5_find 31 = .ok (.if_icmp .ge 58, 3) := by decide +kernel
theorem dX5_find_34 : decode cX5_find 34 = .ok (.iload 5, 2) := by decide +kernel
theorem dX5_find_36 : decode cX5_find 36 = .ok (.iload 4, 2) := by decide +kernel
theorem dX5_find_38 : decode cX5_find 38 = .ok (.if_icmp .eq 51, 3) := by decide +kernel
theorem dX5_find_41 : decode cX5_find 41 = .ok (.aload_n 0, 1) := by decide +kernel
theorem dX5_find_42 : decode cX5_find 42 = .ok (.getfield 9, 3) := by decide +kernel
theorem dX5_find_45 : decode cX5_find 45 = .ok (.iload 6, 2) := by decide +kernel
theorem dX5_find_47 : decode cX5_find 47 = .ok (.if_icmp .ne 18, 3) := by decide +kernel
theorem dX5_find_50 : decode cX5_find 50 = .ok (.iload 5, 2) := by decide +kernel
theorem dX5_find_52 : decode cX5_find 52 = .ok (.istore 4, 2) := by decide +kernel
theorem dX5_find_54 : decode cX5_find 54 = .ok (.iload 6, 2) := by decide +kernel
theorem dX5_find_56 : decode cX5_find 56 = .ok (.iconst 2, 1) := by decide +kernel
theorem dX5_find_57 : decode cX5_find 57 = .ok (.imul, 1) := by decide +kernel
theorem dX5_find_58 : decode cX5_find 58 = .ok (.istore 6, 2) := by decide +kernel
theorem dX5_find_60 : decode cX5_find 60 = .ok (.aload_n 0, 1) := by decide +kernel
theorem dX5_find_61 : decode cX5_find 61 = .ok (.iconst 0, 1) := by decide +kernel
theorem dX5_find_62 : decode cX5_find 62 = .ok (.putfield 9, 3) := by decide +kernel
theorem dX5_find_65 : decode cX5_find 65 = .ok (.aload_n 0, 1) := by decide +kernel
theorem dX5_find_66 : decode cX5_find 66 = .ok (.iload 5, 2) := by decide +kernel
theorem dX5_find_68 : decode cX5_find 68 = .ok (.invokevirtual 27, 3) := by decide +kernel
theorem dX5_find_71 : decode cX5_find 71 = .ok (.istore 5, 2) := by decide +kernel
theorem dX5_find_73 : decode cX5_find 73 = .ok (.aload_n 0, 1) := by decide +kernel
theorem dX5_find_74 : decode cX5_find 74 = .ok (.dup, 1) := by decide +kernel
theorem dX5_find_75 : decode cX5_find 75 = .ok (.getfield 9, 3) := by decide +kernel
theorem dX5_find_78 : decode cX5_find 78 = .ok (.iconst 1, 1) := by decide +kernel
theorem dX5_find_79 : decode cX5_find 79 = .ok (.iadd, 1) := by decide +kernel
theorem dX5_find_80 : decode cX5_find 80 = .ok (.putfield 9, 3) := by decide +kernel
theorem dX5_find_83 : decode cX5_find 83 = .ok (.iinc 7 1, 3) := by decide +kernel
theorem dX5_find_86 : decode cX5_find 86 = .ok (.goto (-59), 3) := by decide +kernel
theorem dX5_find_89 : decode cX5_find 89 = .ok (.iload_n 3, 1) := by decide +kernel
theorem dX5_find_90 : decode cX5_find 90 = .ok (.istore 5, 2) := by decide +kernel
theorem dX5_find_92 : decode cX5_find 92 = .ok (.iconst 0, 1) := by decide +kernel
theorem dX5_find_93 : decode cX5_find 93 = .ok (.istore 7, 2) := by decide +kernel
theorem dX5_find_95 : decode cX5_find 95 = .ok (.iload 7, 2) := by decide +kernel
theorem dX5_find_97 : decode cX5_find 97 = .ok (.aload_n 0, 1) := by decide +kernel
theorem dX5_find_98 : decode cX5_find 98 = .ok (.getfield 9, 3) := by decide +kernel
theorem dX5_find_101 : decode cX5_find 101 = .ok (.if_icmp .ge 17, 3) := by decide +kernel
theorem dX5_find_104 : decode cX5_find 104 = .ok (.aload_n 0, 1) := by decide +kernel
theorem dX5_find_105 : decode cX5_find 105 = .ok (.iload 5, 2) := by decide +kernel
theorem dX5_find_107 : decode cX5_find 107 = .ok (.invokevirtual 27, 3) := by decide +kernel
theorem dX5_find_110 : decode cX5_find 110 = .ok (.istore 5, 2) := by decide +kernel
theorem dX5_find_112 : decode cX5_find 112 = .ok (.iinc 7 1, 3) := by decide +kernel
theorem dX5_find_115 : decode cX5_find 115 = .ok (.goto (-20), 3) := by decide +kernel
theorem dX5_find_118 : decode cX5_find 118 = .ok (.aload_n 0, 1) := by decide +kernel
theorem dX5_find_119 : decode cX5_find 119 = .ok (.iload_n 3, 1) := by decide +kernel
theorem dX5_find_120 : decode cX5_find 120 = .ok (.putfield 32, 3) := by decide +kernel
theorem dX5_find_123 : decode cX5_find 123 = .ok (.aload_n 0, 1) := by decide +kernel
theorem dX5_find_124 : decode cX5_find 124 = .ok (.iconst 0, 1) := by decide +kernel
theorem dX5_find_125 : decode cX5_find 125 = .ok (.putfield 35, 3) := by decide +kernel
theorem dX5_find_128 : decode cX5_find 128 = .ok (.iconst 0, 1) := by decide +kernel
theorem dX5_find_129 : decode cX5_find 129 = .ok (.istore 7, 2) := by decide +kernel
theorem dX5_find_131 : decode cX5_find 131 = .ok (.iload 7, 2) := by decide +kernel
theorem dX5_find_133 : decode cX5_find 133 = .ok (.ldc 31, 2) := by decide +kernel
theorem dX5_find_135 : decode cX5_find 135 = .ok (.if_icmp .ge 48, 3) := by decide +kernel
theorem dX5_find_138 : decode cX5_find 138 = .ok (.iload 5, 2) := by decide +kernel
theorem dX5_find_140 : decode cX5_find 140 = .ok (.aload_n 0, 1) := by decide +kernel
theorem dX5_find_141 : decode cX5_find 141 = .ok (.getfield 32, 3) := by decide +kernel
theorem dX5_find_144 : decode cX5_find 144 = .ok (.if_icmp .eq 39, 3) := by decide +kernel
theorem dX5_find_147 : decode cX5_find 147 = .ok (.aload_n 0, 1) := by decide +kernel
theorem dX5_find_148 : decode cX5_find 148 = .ok (.iload 5, 2) := by decide +kernel
theorem dX5_find_150 : decode cX5_find 150 = .ok (.invokevirtual 27, 3) := by decide +kernel
theorem dX5_find_153 : decode cX5_find 153 = .ok (.istore 5, 2) := by decide +kernel
theorem dX5_find_155 : decode cX5_find 155 = .ok (.aload_n 0, 1) := by decide +kernel
theorem dX5_find_156 : decode cX5_find 156 = .ok (.aload_n 0, 1) := by decide +kernel
theorem dX5_find_157 : decode cX5_find 157 = .ok (.aload_n 0, 1) := by decide +kernel
theorem dX5_find_158 : decode cX5_find 158 = .ok (.getfield 32, 3) := by decide +kernel
theorem dX5_find_161 : decode cX5_find 161 = .ok (.invokevirtual 27, 3) := by decide +kernel
theorem dX5_find_164 : decode cX5_find 164 = .ok (.putfield 32, 3) := by decide +kernel
theorem dX5_find_167 : decode cX5_find 167 = .ok (.aload_n 0, 1) := by decide +kernel
theorem dX5_find_168 : decode cX5_find 168 = .ok (.dup, 1) := by decide +kernel
theorem dX5_find_169 : decode cX5_find 169 = .ok (.getfield 35, 3) := by decide +kernel
theorem dX5_find_172 : decode cX5_find 172 = .ok (.iconst 1, 1) := by decide +kernel
theorem dX5_find_173 : decode cX5_find 173 = .ok (.iadd, 1) := by decide +kernel
theorem dX5_find_174 : decode cX5_find 174 = .ok (.putfield 35, 3) := by decide +kernel
theorem dX5_find_177 : decode cX5_find 177 = .ok (.iinc 7 1, 3) := by decide +kernel
theorem dX5_find_180 : decode cX5_find 180 = .ok (.goto (-49), 3) := by decide +kernel
theorem dX5_find_183 : decode cX5_find 183 = .ok (.return_, 1) := by decide +kernel
theorem dX5_sumOf_0 : decode cX5_sumOf 0 = .ok (.iconst 0, 1) := by decide +kernel
theorem dX5_sumOf_1 : decode cX5_sumOf 1 = .ok (.istore_n 2, 1) := by decide +kernel
theorem dX5_sumOf_2 : decode cX5_sumOf 2 = .ok (.aload_n 0, 1) := by decide +kernel
theorem dX5_sumOf_3 : decode cX5_sumOf 3 = .ok (.getfield 32, 3) := by decide +kernel
theorem dX5_sumOf_6 : decode cX5_sumOf 6 = .ok (.istore_n 3, 1) := by decide +kernel
theorem dX5_sumOf_7 : decode cX5_sumOf 7 = .ok (.iconst 0, 1) := by decide +kernel
theorem dX5_sumOf_8 : decode cX5_sumOf 8 = .ok (.istore 4, 2) := by decide +kernel
theorem dX5_sumOf_10 : decode cX5_sumOf 10 = .ok (.iload 4, 2) := by decide +kernel
theorem dX5_sumOf_12 : decode cX5_sumOf 12 = .ok (.aload_n 0, 1) := by decide +kernel
theorem dX5_sumOf_13 : decode cX5_sumOf 13 = .ok (.getfield 9, 3) := by decide +kernel
theorem dX5_sumOf_16 : decode cX5_sumOf 16 = .ok (.if_icmp .ge 29, 3) := by decide +kernel
theorem dX5_sumOf_19 : decode cX5_sumOf 19 = .ok (.aload_n 0, 1) := by decide +kernel
theorem dX5_sumOf_20 : decode cX5_sumOf 20 = .ok (.iload_n 3, 1) := by decide +kernel
theorem dX5_sumOf_21 : decode cX5_sumOf 21 = .ok (.invokevirtual 27, 3) := by decide +kernel
theorem dX5_sumOf_24 : decode cX5_sumOf 24 = .ok (.istore_n 3, 1) := by decide +kernel
theorem dX5_sumOf_25 : decode cX5_sumOf 25 = .ok (.iload_n 2, 1) := by decide +kernel
theorem dX5_sumOf_26 : decode cX5_sumOf 26 = .ok (.aload_n 0, 1) := by decide +kernel
theorem dX5_sumOf_27 : decode cX5_sumOf 27 = .ok (.getfield 19, 3) := by decide +kernel
theorem dX5_sumOf_30 : decode cX5_sumOf 30 = .ok (.iload_n 3, 1) := by decide +kernel
theorem dX5_sumOf_31 : decode cX5_sumOf 31 = .ok (.iconst 4, 1) := by decide +kernel
theorem dX5_sumOf_32 : decode cX5_sumOf 32 = .ok (.idiv, 1) := by decide +kernel
theorem dX5_sumOf_33 : decode cX5_sumOf 33 = .ok (.iload_n 1, 1) := by decide +kernel
theorem dX5_sumOf_34 : decode cX5_sumOf 34 = .ok (.invokevirtual 55, 3) := by decide +kernel
theorem dX5_sumOf_37 : decode cX5_sumOf 37 = .ok (.iadd, 1) := by decide +kernel
theorem dX5_sumOf_38 : decode cX5_sumOf 38 = .ok (.istore_n 2, 1) := by decide +kernel
theorem dX5_sumOf_39 : decode cX5_sumOf 39 = .ok (.iinc 4 1, 3) := by decide +kernel
theorem dX5_sumOf_42 : decode cX5_sumOf 42 = .ok (.goto (-32), 3) := by decide +kernel
theorem dX5_sumOf_45 : decode cX5_sumOf 45 = .ok (.iload_n 2, 1) := by decide +kernel
theorem dX5_sumOf_46 : decode cX5_sumOf 46 = .ok (.ireturn, 1) := by decide +kernel
/-! f_X1_valueOf -/
noncomputable def lp_X1_valueOf_2 (a1 : Int32) (k3 : Int32 → SS → Res) : Nat → Int32 → SS → Res
  | 0, _, _ => none
  | n13 + 1, v11, s12 => if (s12 9 8 : Int32) ≤ (v11 : Int32) then some (0, s12) else if (14 : Int32) ≤ (v11 : Int32) then some (0, s12) else gd (inb v11 14) (jn (fun (s16 : SS) => lp_X1_valueOf_2 a1 k3 n13 (v11 + 1) s16) (fun (k17 : SS → Res) => if (s12 12 (Int32.toNatClampNeg v11) : Int32) = (a1 : Int32) then gd (inb v11 14) (gd (inb v11 14) (bd (f_X1_reckon (s12 14 (Int32.toNatClampNeg v11)) (s12 15 (Int32.toNatClampNeg v11)) s12) (fun (v19 : Int32) (s20 : SS) => if (v19 : Int32) = 0 then k17 s20 else k3 v11 s20))) else k17 s12))
noncomputable def f_X1_valueOf (a1 : Int32) (s0 : SS) : Res := jn (fun (v1 : Int32) (s2 : SS) => gd (inb v1 14) (gd (inb v1 14) (bd (f_X1_reckon (s2 13 (Int32.toNatClampNeg v1)) (s2 14 (Int32.toNatClampNeg v1)) s2) (fun (v4 : Int32) (s5 : SS) => if (a1 : Int32) = (118 : Int32) then lt (if (v4 : Int32) < (100 : Int32) then v4 else 100) (fun (v7 : Int32) => lt (if ((-100) : Int32) < (v7 : Int32) then v7 else (-100)) (fun (v8 : Int32) => some (v8, s5))) else lt (if (v4 : Int32) < (1 : Int32) then v4 else 1) (fun (v9 : Int32) => lt (if (0 : Int32) < (v9 : Int32) then v9 else 0) (fun (v10 : Int32) => some (v10, s5))))))) (fun (k3 : Int32 → SS → Res) => lp_X1_valueOf_2 a1 k3 FU 0 s0)
set_option maxRecDepth 100000 in
set_option maxHeartbeats 4000000 in
theorem t_lp_X1_valueOf_2 {l : Launch} (a1 : Int32) (k3 : Int32 → SS → Res) (hk3 : ∀ (v1 : Int32) (s2 : SS), RC l wF RX1 cX1_valueOf 5 (some .int) 2 46 [.ref 9, .int a1, .ref 32, .int v1, .null] [] s2 (k3 v1 s2)) : ∀ (n13 : Nat) (v11 : Int32) (s12 : SS), RC l wF RX1 cX1_valueOf 5 (some .int) 2 2 [.ref 9, .int a1, .ref 32, .int v11, .null] [] s12 (lp_X1_valueOf_2 a1 k3 n13 v11 s12) := by
  intro n13
  induction n13 with
  | zero =>
    intro v11 s12
    rw [lp_X1_valueOf_2]
    exact r_none
  | succ n13 ih =>
    intro v11 s12
    rw [lp_X1_valueOf_2]
    refine r_iload_n (pc1 := 3) (i := 3) dX1_valueOf_2 rfl rfl rfl ?_
    refine r_aload_n (pc1 := 4) (i := 0) dX1_valueOf_3 rfl rfl rfl ?_
    refine r_getI (pc1 := 7) w_9 gfX1_33 rfl dX1_valueOf_4 rfl ?_
    refine r_icmp_ge (tgt := 103) (pc1 := 10) dX1_valueOf_7 (by decide) rfl (fun q14 => ?_) (fun q14 => ?_)
    · refine r_iconst (v := 0) (pc1 := 104) dX1_valueOf_103 ki_0 rfl ?_
      exact r_iret rfl rfl dX1_valueOf_104
    · refine r_iload_n (pc1 := 11) (i := 3) dX1_valueOf_10 rfl rfl rfl ?_
      refine r_bipush (v := 14) (pc1 := 13) dX1_valueOf_11 kb_14 rfl ?_
      refine r_icmp_ge (tgt := 103) (pc1 := 16) dX1_valueOf_13 (by decide) rfl (fun q15 => ?_) (fun q15 => ?_)
      · refine r_iconst (v := 0) (pc1 := 104) dX1_valueOf_103 ki_0 rfl ?_
        exact r_iret rfl rfl dX1_valueOf_104
      · refine r_aload_n (pc1 := 17) (i := 0) dX1_valueOf_16 rfl rfl rfl ?_
        refine r_getR (pc1 := 20) w_9 gfX1_18 rfl dX1_valueOf_17 rfl ?_
        refine r_iload_n (pc1 := 21) (i := 3) dX1_valueOf_20 rfl rfl rfl ?_
        refine r_iald (pc1 := 22) w_12 dX1_valueOf_21 rfl ?_
        refine r_iload_n (pc1 := 23) (i := 1) dX1_valueOf_22 rfl rfl rfl ?_
        refine r_jn (hyp := fun (k17 : SS → Res) => ∀ (s16 : SS), RC l wF RX1 cX1_valueOf 5 (some .int) 2 97 [.ref 9, .int a1, .ref 32, .int v11, .null] [] s16 (k17 s16)) (fun s16 => ?_) (fun k17 hk17 => ?_)
        · refine r_iinc (pc1 := 100) dX1_valueOf_97 rfl (kn_1 _) (by decide) rfl rfl rfl ?_
          refine r_goto (tgt := 2) dX1_valueOf_100 (by decide) ?_
          exact r_wk (ih (v11 + 1) s16) ⟨Or.inr rfl, Or.inr rfl, Or.inr rfl, Or.inr rfl, Or.inl rfl, trivial⟩
        · refine r_icmp_ne (tgt := 97) (pc1 := 26) dX1_valueOf_23 (by decide) rfl (fun q18 => ?_) (fun q18 => ?_)
          · refine r_aload_n (pc1 := 27) (i := 0) dX1_valueOf_26 rfl rfl rfl ?_
            refine r_aload_n (pc1 := 28) (i := 0) dX1_valueOf_27 rfl rfl rfl ?_
            refine r_getR (pc1 := 31) w_9 gfX1_24 rfl dX1_valueOf_28 rfl ?_
            refine r_iload_n (pc1 := 32) (i := 3) dX1_valueOf_31 rfl rfl rfl ?_
            refine r_iald (pc1 := 33) w_14 dX1_valueOf_32 rfl ?_
            refine r_aload_n (pc1 := 34) (i := 0) dX1_valueOf_33 rfl rfl rfl ?_
            refine r_getR (pc1 := 37) w_9 gfX1_27 rfl dX1_valueOf_34 rfl ?_
            refine r_iload_n (pc1 := 38) (i := 3) dX1_valueOf_37 rfl rfl rfl ?_
            refine r_iald (pc1 := 39) w_15 dX1_valueOf_38 rfl ?_
            refine r_aload_n (pc1 := 40) (i := 2) dX1_valueOf_39 rfl rfl rfl ?_
            refine r_callVi (pc1 := 43) (rv_of w_9 cl_1) lkX1_46 (c_X1_reckon _ _ _) rfl rfl ⟨Nat.le_of_ble_eq_true rfl, Nat.le_of_ble_eq_true rfl⟩ (Nat.le_of_ble_eq_true rfl) dX1_valueOf_40 rfl (fun v19 s20 => ?_)
            refine r_if_eq (tgt := 97) (pc1 := 46) dX1_valueOf_43 (by decide) rfl (fun q21 => ?_) (fun q21 => ?_)
            · exact r_wk (hk17 s20) ⟨Or.inr rfl, Or.inr rfl, Or.inr rfl, Or.inr rfl, Or.inl rfl, trivial⟩
            · exact r_wk (hk3 v11 s20) ⟨Or.inr rfl, Or.inr rfl, Or.inr rfl, Or.inr rfl, Or.inl rfl, trivial⟩
          · exact r_wk (hk17 s12) ⟨Or.inr rfl, Or.inr rfl, Or.inr rfl, Or.inr rfl, Or.inl rfl, trivial⟩
set_option maxRecDepth 100000 in
set_option maxHeartbeats 4000000 in
theorem c_X1_valueOf {l : Launch} (a1 : Int32) (s0 : SS) : Ct l wF yX1_valueOf cX1_valueOf 5 (some .int) 2 [.ref 9, .int a1, .ref 32] s0 (f_X1_valueOf a1 s0) := by
  refine ct_of (y := yX1_valueOf) plX1 (Nat.le_of_ble_eq_true rfl) ?_
  refine r_pad0 2 (L1 := [.ref 9, .int a1, .ref 32, .null, .null]) rfl ?_
  unfold f_X1_valueOf
  refine r_iconst (v := 0) (pc1 := 1) dX1_valueOf_0 ki_0 rfl ?_
  refine r_istore_n (pc1 := 2) (i := 3) dX1_valueOf_1 rfl (by decide) rfl rfl rfl ?_
  refine r_jn (hyp := fun (k3 : Int32 → SS → Res) => ∀ (v1 : Int32) (s2 : SS), RC l wF RX1 cX1_valueOf 5 (some .int) 2 46 [.ref 9, .int a1, .ref 32, .int v1, .null] [] s2 (k3 v1 s2)) (fun v1 s2 => ?_) (fun k3 hk3 => ?_)
  · refine r_aload_n (pc1 := 47) (i := 0) dX1_valueOf_46 rfl rfl rfl ?_
    refine r_aload_n (pc1 := 48) (i := 0) dX1_valueOf_47 rfl rfl rfl ?_
    refine r_getR (pc1 := 51) w_9 gfX1_21 rfl dX1_valueOf_48 rfl ?_
    refine r_iload_n (pc1 := 52) (i := 3) dX1_valueOf_51 rfl rfl rfl ?_
    refine r_iald (pc1 := 53) w_13 dX1_valueOf_52 rfl ?_
    refine r_aload_n (pc1 := 54) (i := 0) dX1_valueOf_53 rfl rfl rfl ?_
    refine r_getR (pc1 := 57) w_9 gfX1_24 rfl dX1_valueOf_54 rfl ?_
    refine r_iload_n (pc1 := 58) (i := 3) dX1_valueOf_57 rfl rfl rfl ?_
    refine r_iald (pc1 := 59) w_14 dX1_valueOf_58 rfl ?_
    refine r_aload_n (pc1 := 60) (i := 2) dX1_valueOf_59 rfl rfl rfl ?_
    refine r_callVi (pc1 := 63) (rv_of w_9 cl_1) lkX1_46 (c_X1_reckon _ _ _) rfl rfl ⟨Nat.le_of_ble_eq_true rfl, Nat.le_of_ble_eq_true rfl⟩ (Nat.le_of_ble_eq_true rfl) dX1_valueOf_60 rfl (fun v4 s5 => ?_)
    refine r_istore (pc1 := 65) dX1_valueOf_63 (by decide) rfl rfl rfl ?_
    refine r_iload_n (pc1 := 66) (i := 1) dX1_valueOf_65 rfl rfl rfl ?_
    refine r_bipush (v := 118) (pc1 := 68) dX1_valueOf_66 kb_118 rfl ?_
    refine r_icmp_ne (tgt := 86) (pc1 := 71) dX1_valueOf_68 (by decide) rfl (fun q6 => ?_) (fun q6 => ?_)
    · refine r_bipush (v := (-100)) (pc1 := 73) dX1_valueOf_71 kb_m100 rfl ?_
      refine r_bipush (v := 100) (pc1 := 75) dX1_valueOf_73 kb_100 rfl ?_
      refine r_iload (pc1 := 77) dX1_valueOf_75 rfl rfl ?_
      refine r_mmin (pc1 := 80) mlX1_50 (by omega) dX1_valueOf_77 rfl (Nat.le_of_ble_eq_true rfl) ?_
      refine r_lt (fun v7 => ?_)
      refine r_mmax (pc1 := 83) mlX1_56 (by omega) dX1_valueOf_80 rfl (Nat.le_of_ble_eq_true rfl) ?_
      refine r_lt (fun v8 => ?_)
      refine r_goto (tgt := 96) dX1_valueOf_83 (by decide) ?_
      exact r_iret rfl rfl dX1_valueOf_96
    · refine r_iconst (v := 0) (pc1 := 87) dX1_valueOf_86 ki_0 rfl ?_
      refine r_iconst (v := 1) (pc1 := 88) dX1_valueOf_87 ki_1 rfl ?_
      refine r_iload (pc1 := 90) dX1_valueOf_88 rfl rfl ?_
      refine r_mmin (pc1 := 93) mlX1_50 (by omega) dX1_valueOf_90 rfl (Nat.le_of_ble_eq_true rfl) ?_
      refine r_lt (fun v9 => ?_)
      refine r_mmax (pc1 := 96) mlX1_56 (by omega) dX1_valueOf_93 rfl (Nat.le_of_ble_eq_true rfl) ?_
      refine r_lt (fun v10 => ?_)
      exact r_iret rfl rfl dX1_valueOf_96
  · exact r_wk (t_lp_X1_valueOf_2 a1 k3 hk3 FU 0 s0) ⟨Or.inr rfl, Or.inr rfl, Or.inr rfl, Or.inr rfl, Or.inl rfl, trivial⟩
/-! f_X10_mayOf -/
noncomputable def lp_X10_mayOf_61 (a1 : Int32) (a2 : Int32) (v9 : Int32) (k12 : Int32 → SS → Res) : Nat → Int32 → Int32 → SS → Res
  | 0, _, _, _ => none
  | n17 + 1, v14, v15, s16 => if (s16 27 9 : Int32) ≤ (v15 : Int32) then k12 v14 s16 else jn (fun (v19 : Int32) (s20 : SS) => lp_X10_mayOf_61 a1 a2 v9 k12 n17 v19 (v15 + 1) s20) (fun (k21 : Int32 → SS → Res) => if ((v9 >>> (v15 &&& 31)) &&& 1 : Int32) = (1 : Int32) then bd (f_X10_describe a1 v15 0 a2 s16) (fun (v23 : Int32) (s24 : SS) => bd (f_X1_valueOf 109 s24) (fun (v25 : Int32) (s26 : SS) => lt (v14 ||| (v25 <<< (v15 &&& 31))) (fun (v27 : Int32) => k21 v27 s26))) else k21 v14 s16)
noncomputable def f_X10_mayOf (a1 : Int32) (a2 : Int32) (s0 : SS) : Res := if (a1 : Int32) < 0 then some (0, s0) else if (5348 : Int32) ≤ (a1 : Int32) then some (0, s0) else bdp (f_X11_isPerson a2 s0) (fun (v3 : Int32) => if (v3 : Int32) = 0 then some (0, s0) else bd (f_X10_freshen s0) (fun (v5 : Int32) (s6 : SS) => gd (inb a1 5348) (bdp (f_X11_slotOf (lgt (s6 34) (Int32.toNatClampNeg a1)) a2 16 s6) (fun (v7 : Int32) => if (v7 : Int32) = 0 then bdp (f_X10_openTo a1 a2 s6) (fun (v9 : Int32) => jn (fun (v10 : Int32) (s11 : SS) => gd (inb a1 5348) (gd (inb a1 5348) (lts (upl s11 34 (Int32.toNatClampNeg a1) (wsl (lgt (s11 34) (Int32.toNatClampNeg a1)) a2 16 (v10 + 1))) (fun (s13 : SS) => some (v10, s13))))) (fun (k12 : Int32 → SS → Res) => lp_X10_mayOf_61 a1 a2 v9 k12 FU 0 0 s6)) else some (v7 - 1, s6)))))
set_option maxRecDepth 100000 in
set_option maxHeartbeats 4000000 in
theorem t_lp_X10_mayOf_61 {l : Launch} (a1 : Int32) (a2 : Int32) (v9 : Int32) (k12 : Int32 → SS → Res) (hk12 : ∀ (v10 : Int32) (s11 : SS), RC l wF RX10 cX10_mayOf 7 (some .int) 3 117 [.ref 27, .int a1, .int a2, .null, .null, .int v10, .null] [] s11 (k12 v10 s11)) : ∀ (n17 : Nat) (v14 : Int32) (v15 : Int32) (s16 : SS), RC l wF RX10 cX10_mayOf 7 (some .int) 3 61 [.ref 27, .int a1, .int a2, .null, .int v9, .int v14, .int v15] [] s16 (lp_X10_mayOf_61 a1 a2 v9 k12 n17 v14 v15 s16) := by
  intro n17
  induction n17 with
  | zero =>
    intro v14 v15 s16
    rw [lp_X10_mayOf_61]
    exact r_none
  | succ n17 ih =>
    intro v14 v15 s16
    rw [lp_X10_mayOf_61]
    refine r_iload (pc1 := 63) dX10_mayOf_61 rfl rfl ?_
    refine r_aload_n (pc1 := 64) (i := 0) dX10_mayOf_63 rfl rfl rfl ?_
    refine r_getI (pc1 := 67) w_27 gfX10_44 rfl dX10_mayOf_64 rfl ?_
    refine r_icmp_ge (tgt := 117) (pc1 := 70) dX10_mayOf_67 (by decide) rfl (fun q18 => ?_) (fun q18 => ?_)
    · exact r_wk (hk12 v14 s16) ⟨Or.inr rfl, Or.inr rfl, Or.inr rfl, Or.inl rfl, Or.inl rfl, Or.inr rfl, Or.inl rfl, trivial⟩
    · refine r_iload (pc1 := 72) dX10_mayOf_70 rfl rfl ?_
      refine r_iload (pc1 := 74) dX10_mayOf_72 rfl rfl ?_
      refine r_ishr (pc1 := 75) dX10_mayOf_74 rfl ?_
      refine r_iconst (v := 1) (pc1 := 76) dX10_mayOf_75 ki_1 rfl ?_
      refine r_iand (pc1 := 77) dX10_mayOf_76 rfl ?_
      refine r_iconst (v := 1) (pc1 := 78) dX10_mayOf_77 ki_1 rfl ?_
      refine r_jn (hyp := fun (k21 : Int32 → SS → Res) => ∀ (v19 : Int32) (s20 : SS), RC l wF RX10 cX10_mayOf 7 (some .int) 3 111 [.ref 27, .int a1, .int a2, .null, .int v9, .int v19, .int v15] [] s20 (k21 v19 s20)) (fun v19 s20 => ?_) (fun k21 hk21 => ?_)
      · refine r_iinc (pc1 := 114) dX10_mayOf_111 rfl (kn_1 _) (by decide) rfl rfl rfl ?_
        refine r_goto (tgt := 61) dX10_mayOf_114 (by decide) ?_
        exact r_wk (ih v19 (v15 + 1) s20) ⟨Or.inr rfl, Or.inr rfl, Or.inr rfl, Or.inl rfl, Or.inr rfl, Or.inr rfl, Or.inr rfl, trivial⟩
      · refine r_icmp_ne (tgt := 111) (pc1 := 81) dX10_mayOf_78 (by decide) rfl (fun q22 => ?_) (fun q22 => ?_)
        · refine r_aload_n (pc1 := 82) (i := 0) dX10_mayOf_81 rfl rfl rfl ?_
          refine r_iload_n (pc1 := 83) (i := 1) dX10_mayOf_82 rfl rfl rfl ?_
          refine r_iload (pc1 := 85) dX10_mayOf_83 rfl rfl ?_
          refine r_iconst (v := 0) (pc1 := 86) dX10_mayOf_85 ki_0 rfl ?_
          refine r_iload_n (pc1 := 87) (i := 2) dX10_mayOf_86 rfl rfl rfl ?_
          refine r_callVv (pc1 := 90) (rv_of w_27 cl_10) lkX10_87 (c_X10_describe _ _ _ _ _) rfl rfl ⟨Nat.le_of_ble_eq_true rfl, Nat.le_of_ble_eq_true rfl⟩ (Nat.le_of_ble_eq_true rfl) dX10_mayOf_87 rfl (fun v23 s24 => ?_)
          refine r_iload (pc1 := 92) dX10_mayOf_90 rfl rfl ?_
          refine r_aload_n (pc1 := 93) (i := 0) dX10_mayOf_92 rfl rfl rfl ?_
          refine r_getR (pc1 := 96) w_27 gfX10_40 rfl dX10_mayOf_93 rfl ?_
          refine r_bipush (v := 109) (pc1 := 98) dX10_mayOf_96 kb_109 rfl ?_
          refine r_aload_n (pc1 := 99) (i := 0) dX10_mayOf_98 rfl rfl rfl ?_
          refine r_getR (pc1 := 102) w_27 gfX10_24 rfl dX10_mayOf_99 rfl ?_
          refine r_callVi (pc1 := 105) (rv_of w_9 cl_1) lkX10_91 (c_X1_valueOf _ _) rfl rfl ⟨Nat.le_of_ble_eq_true rfl, Nat.le_of_ble_eq_true rfl⟩ (Nat.le_of_ble_eq_true rfl) dX10_mayOf_102 rfl (fun v25 s26 => ?_)
          refine r_iload (pc1 := 107) dX10_mayOf_105 rfl rfl ?_
          refine r_ishl (pc1 := 108) dX10_mayOf_107 rfl ?_
          refine r_ior (pc1 := 109) dX10_mayOf_108 rfl ?_
          refine r_lt (fun v27 => ?_)
          refine r_istore (pc1 := 111) dX10_mayOf_109 (by decide) rfl rfl rfl ?_
          exact r_wk (hk21 v27 s26) ⟨Or.inr rfl, Or.inr rfl, Or.inr rfl, Or.inl rfl, Or.inr rfl, Or.inr rfl, Or.inr rfl, trivial⟩
        · exact r_wk (hk21 v14 s16) ⟨Or.inr rfl, Or.inr rfl, Or.inr rfl, Or.inl rfl, Or.inr rfl, Or.inr rfl, Or.inr rfl, trivial⟩
set_option maxRecDepth 100000 in
set_option maxHeartbeats 4000000 in
theorem c_X10_mayOf {l : Launch} (a1 : Int32) (a2 : Int32) (s0 : SS) : Ct l wF yX10_mayOf cX10_mayOf 7 (some .int) 3 [.ref 27, .int a1, .int a2] s0 (f_X10_mayOf a1 a2 s0) := by
  refine ct_of (y := yX10_mayOf) plX10 (Nat.le_of_ble_eq_true rfl) ?_
  refine r_pad0 4 (L1 := [.ref 27, .int a1, .int a2, .null, .null, .null, .null]) rfl ?_
  unfold f_X10_mayOf
  refine r_iload_n (pc1 := 1) (i := 1) dX10_mayOf_0 rfl rfl rfl ?_
  refine r_if_lt (tgt := 20) (pc1 := 4) dX10_mayOf_1 (by decide) rfl (fun q1 => ?_) (fun q1 => ?_)
  · refine r_iconst (v := 0) (pc1 := 21) dX10_mayOf_20 ki_0 rfl ?_
    exact r_iret rfl rfl dX10_mayOf_21
  · refine r_iload_n (pc1 := 5) (i := 1) dX10_mayOf_4 rfl rfl rfl ?_
    refine r_aload_n (pc1 := 6) (i := 0) dX10_mayOf_5 rfl rfl rfl ?_
    refine r_getR (pc1 := 9) w_27 gfX10_33 rfl dX10_mayOf_6 rfl ?_
    refine r_alenL (t := 3) (v := 5348) (pc1 := 10) w_34 (fun _ => rfl) (al_5348) dX10_mayOf_9 rfl ?_
    refine r_icmp_ge (tgt := 20) (pc1 := 13) dX10_mayOf_10 (by decide) rfl (fun q2 => ?_) (fun q2 => ?_)
    · refine r_iconst (v := 0) (pc1 := 21) dX10_mayOf_20 ki_0 rfl ?_
      exact r_iret rfl rfl dX10_mayOf_21
    · refine r_iload_n (pc1 := 14) (i := 2) dX10_mayOf_13 rfl rfl rfl ?_
      refine r_callSNp (pc1 := 17) lkX10_69 (c_X11_isPerson _ _) rfl rfl ⟨Nat.le_of_ble_eq_true rfl, Nat.le_of_ble_eq_true rfl⟩ (Nat.le_of_ble_eq_true rfl) dX10_mayOf_14 rfl (fun v3 => ?_)
      refine r_if_ne (tgt := 22) (pc1 := 20) dX10_mayOf_17 (by decide) rfl (fun q4 => ?_) (fun q4 => ?_)
      · refine r_iconst (v := 0) (pc1 := 21) dX10_mayOf_20 ki_0 rfl ?_
        exact r_iret rfl rfl dX10_mayOf_21
      · refine r_aload_n (pc1 := 23) (i := 0) dX10_mayOf_22 rfl rfl rfl ?_
        refine r_callVv (pc1 := 26) (rv_of w_27 cl_10) lkX10_73 (c_X10_freshen _) rfl rfl ⟨Nat.le_of_ble_eq_true rfl, Nat.le_of_ble_eq_true rfl⟩ (Nat.le_of_ble_eq_true rfl) dX10_mayOf_23 rfl (fun v5 s6 => ?_)
        refine r_aload_n (pc1 := 27) (i := 0) dX10_mayOf_26 rfl rfl rfl ?_
        refine r_getR (pc1 := 30) w_27 gfX10_33 rfl dX10_mayOf_27 rfl ?_
        refine r_iload_n (pc1 := 31) (i := 1) dX10_mayOf_30 rfl rfl rfl ?_
        refine r_lald (pc1 := 32) w_34 dX10_mayOf_31 rfl ?_
        refine r_iload_n (pc1 := 33) (i := 2) dX10_mayOf_32 rfl rfl rfl ?_
        refine r_bipush (v := 16) (pc1 := 35) dX10_mayOf_33 kb_16 rfl ?_
        refine r_callSNp (pc1 := 38) lkX10_76 (c_X11_slotOf _ _ _ _) rfl rfl ⟨Nat.le_of_ble_eq_true rfl, Nat.le_of_ble_eq_true rfl⟩ (Nat.le_of_ble_eq_true rfl) dX10_mayOf_35 rfl (fun v7 => ?_)
        refine r_istore_n (pc1 := 39) (i := 3) dX10_mayOf_38 rfl (by decide) rfl rfl rfl ?_
        refine r_iload_n (pc1 := 40) (i := 3) dX10_mayOf_39 rfl rfl rfl ?_
        refine r_if_eq (tgt := 47) (pc1 := 43) dX10_mayOf_40 (by decide) rfl (fun q8 => ?_) (fun q8 => ?_)
        · refine r_aload_n (pc1 := 48) (i := 0) dX10_mayOf_47 rfl rfl rfl ?_
          refine r_iload_n (pc1 := 49) (i := 1) dX10_mayOf_48 rfl rfl rfl ?_
          refine r_iload_n (pc1 := 50) (i := 2) dX10_mayOf_49 rfl rfl rfl ?_
          refine r_callVp (pc1 := 53) (rv_of w_27 cl_10) lkX10_104 (c_X10_openTo _ _ _) rfl rfl ⟨Nat.le_of_ble_eq_true rfl, Nat.le_of_ble_eq_true rfl⟩ (Nat.le_of_ble_eq_true rfl) dX10_mayOf_50 rfl (fun v9 => ?_)
          refine r_istore (pc1 := 55) dX10_mayOf_53 (by decide) rfl rfl rfl ?_
          refine r_iconst (v := 0) (pc1 := 56) dX10_mayOf_55 ki_0 rfl ?_
          refine r_istore (pc1 := 58) dX10_mayOf_56 (by decide) rfl rfl rfl ?_
          refine r_iconst (v := 0) (pc1 := 59) dX10_mayOf_58 ki_0 rfl ?_
          refine r_istore (pc1 := 61) dX10_mayOf_59 (by decide) rfl rfl rfl ?_
          refine r_jn (hyp := fun (k12 : Int32 → SS → Res) => ∀ (v10 : Int32) (s11 : SS), RC l wF RX10 cX10_mayOf 7 (some .int) 3 117 [.ref 27, .int a1, .int a2, .null, .null, .int v10, .null] [] s11 (k12 v10 s11)) (fun v10 s11 => ?_) (fun k12 hk12 => ?_)
          · refine r_aload_n (pc1 := 118) (i := 0) dX10_mayOf_117 rfl rfl rfl ?_
            refine r_getR (pc1 := 121) w_27 gfX10_33 rfl dX10_mayOf_118 rfl ?_
            refine r_iload_n (pc1 := 122) (i := 1) dX10_mayOf_121 rfl rfl rfl ?_
            refine r_aload_n (pc1 := 123) (i := 0) dX10_mayOf_122 rfl rfl rfl ?_
            refine r_getR (pc1 := 126) w_27 gfX10_33 rfl dX10_mayOf_123 rfl ?_
            refine r_iload_n (pc1 := 127) (i := 1) dX10_mayOf_126 rfl rfl rfl ?_
            refine r_lald (pc1 := 128) w_34 dX10_mayOf_127 rfl ?_
            refine r_iload_n (pc1 := 129) (i := 2) dX10_mayOf_128 rfl rfl rfl ?_
            refine r_bipush (v := 16) (pc1 := 131) dX10_mayOf_129 kb_16 rfl ?_
            refine r_iload (pc1 := 133) dX10_mayOf_131 rfl rfl ?_
            refine r_iconst (v := 1) (pc1 := 134) dX10_mayOf_133 ki_1 rfl ?_
            refine r_iadd (pc1 := 135) dX10_mayOf_134 rfl ?_
            refine r_callSNl (pc1 := 138) lkX10_97 (c_withSlot _ _ _ _) rfl rfl ⟨Nat.le_of_ble_eq_true rfl, Nat.le_of_ble_eq_true rfl⟩ (Nat.le_of_ble_eq_true rfl) dX10_mayOf_135 rfl ?_
            refine r_last (pc1 := 139) w_34 dX10_mayOf_138 rfl ?_
            refine r_lts (fun s13 => ?_)
            refine r_iload (pc1 := 141) dX10_mayOf_139 rfl rfl ?_
            exact r_iret rfl rfl dX10_mayOf_141
          · exact r_wk (t_lp_X10_mayOf_61 a1 a2 v9 k12 hk12 FU 0 0 s6) ⟨Or.inr rfl, Or.inr rfl, Or.inr rfl, Or.inl rfl, Or.inr rfl, Or.inr rfl, Or.inr rfl, trivial⟩
        · refine r_iload_n (pc1 := 44) (i := 3) dX10_mayOf_43 rfl rfl rfl ?_
          refine r_iconst (v := 1) (pc1 := 45) dX10_mayOf_44 ki_1 rfl ?_
          refine r_isub (pc1 := 46) dX10_mayOf_45 rfl ?_
          exact r_iret rfl rfl dX10_mayOf_46
/-! f_X11_may -/
noncomputable def f_X11_may (a1 : Int32) (s0 : SS) : Res := bdp (f_X11_isPerson a1 s0) (fun (v1 : Int32) => if (v1 : Int32) = 0 then some ((-1), s0) else bd (f_X10_mayOf (s0 52 0) a1 s0) (fun (v3 : Int32) (s4 : SS) => some (v3, s4)))
set_option maxRecDepth 100000 in
set_option maxHeartbeats 4000000 in
theorem c_X11_may {l : Launch} (a1 : Int32) (s0 : SS) : Ct l wF yX11_may cX11_may 2 (some .int) 4 [.ref 0, .int a1] s0 (f_X11_may a1 s0) := by
  refine ct_of (y := yX11_may) plX11 (Nat.le_of_ble_eq_true rfl) ?_
  refine r_pad0 0 (L1 := [.ref 0, .int a1]) rfl ?_
  unfold f_X11_may
  refine r_iload_n (pc1 := 1) (i := 1) dX11_may_0 rfl rfl rfl ?_
  refine r_callSp (pc1 := 4) lkX11_142 (c_X11_isPerson _ _) rfl rfl ⟨Nat.le_of_ble_eq_true rfl, Nat.le_of_ble_eq_true rfl⟩ (Nat.le_of_ble_eq_true rfl) dX11_may_1 rfl (fun v1 => ?_)
  refine r_if_eq (tgt := 25) (pc1 := 7) dX11_may_4 (by decide) rfl (fun q2 => ?_) (fun q2 => ?_)
  · refine r_iconst (v := (-1)) (pc1 := 26) dX11_may_25 ki_m1 rfl ?_
    exact r_iret rfl rfl dX11_may_26
  · refine r_aload_n (pc1 := 8) (i := 0) dX11_may_7 rfl rfl rfl ?_
    refine r_getR (pc1 := 11) w_0 gfX11_42 rfl dX11_may_8 rfl ?_
    refine r_aload_n (pc1 := 12) (i := 0) dX11_may_11 rfl rfl rfl ?_
    refine r_getR (pc1 := 15) w_0 gfX11_88 rfl dX11_may_12 rfl ?_
    refine r_getI (pc1 := 18) w_52 gfX11_122 rfl dX11_may_15 rfl ?_
    refine r_iload_n (pc1 := 19) (i := 1) dX11_may_18 rfl rfl rfl ?_
    refine r_callVi (pc1 := 22) (rv_of w_27 cl_10) lkX11_178 (c_X10_mayOf _ _ _) rfl rfl ⟨Nat.le_of_ble_eq_true rfl, Nat.le_of_ble_eq_true rfl⟩ (Nat.le_of_ble_eq_true rfl) dX11_may_19 rfl (fun v3 s4 => ?_)
    refine r_goto (tgt := 26) dX11_may_22 (by decide) ?_
    exact r_iret rfl rfl dX11_may_26
/-! f_X2_onTurn -/
noncomputable def f_X2_onTurn (a1 : Int32) (s0 : SS) : Option Int32 := if (a1 : Int32) < 0 then some ((-1)) else if (s0 35 5 : Int32) ≤ (a1 : Int32) then some ((-1)) else if (4 : Int32) ≤ (a1 : Int32) then some ((-1)) else gd (inb a1 4) (some (s0 38 (Int32.toNatClampNeg a1)))
set_option maxRecDepth 100000 in
set_option maxHeartbeats 4000000 in
theorem c_X2_onTurn {l : Launch} (a1 : Int32) (s0 : SS) : Ct l wF yX2_onTurn cX2_onTurn 2 (some .int) 0 [.ref 35, .int a1] s0 (pu (f_X2_onTurn a1 s0) s0) := by
  refine ct_of (y := yX2_onTurn) plX2 (Nat.le_of_ble_eq_true rfl) ?_
  refine r_pad0 0 (L1 := [.ref 35, .int a1]) rfl ?_
  unfold f_X2_onTurn
  refine r_iload_n (pc1 := 1) (i := 1) dX2_onTurn_0 rfl rfl rfl ?_
  refine p_if_lt (tgt := 26) (pc1 := 4) dX2_onTurn_1 (by decide) rfl (fun q1 => ?_) (fun q1 => ?_)
  · refine r_iconst (v := (-1)) (pc1 := 27) dX2_onTurn_26 ki_m1 rfl ?_
    exact p_iret rfl rfl dX2_onTurn_27
  · refine r_iload_n (pc1 := 5) (i := 1) dX2_onTurn_4 rfl rfl rfl ?_
    refine r_aload_n (pc1 := 6) (i := 0) dX2_onTurn_5 rfl rfl rfl ?_
    refine r_getI (pc1 := 9) w_35 gfX2_21 rfl dX2_onTurn_6 rfl ?_
    refine p_icmp_ge (tgt := 26) (pc1 := 12) dX2_onTurn_9 (by decide) rfl (fun q2 => ?_) (fun q2 => ?_)
    · refine r_iconst (v := (-1)) (pc1 := 27) dX2_onTurn_26 ki_m1 rfl ?_
      exact p_iret rfl rfl dX2_onTurn_27
    · refine r_iload_n (pc1 := 13) (i := 1) dX2_onTurn_12 rfl rfl rfl ?_
      refine r_iconst (v := 4) (pc1 := 14) dX2_onTurn_13 ki_4 rfl ?_
      refine p_icmp_ge (tgt := 26) (pc1 := 17) dX2_onTurn_14 (by decide) rfl (fun q3 => ?_) (fun q3 => ?_)
      · refine r_iconst (v := (-1)) (pc1 := 27) dX2_onTurn_26 ki_m1 rfl ?_
        exact p_iret rfl rfl dX2_onTurn_27
      · refine r_aload_n (pc1 := 18) (i := 0) dX2_onTurn_17 rfl rfl rfl ?_
        refine r_getR (pc1 := 21) w_35 gfX2_18 rfl dX2_onTurn_18 rfl ?_
        refine r_iload_n (pc1 := 22) (i := 1) dX2_onTurn_21 rfl rfl rfl ?_
        refine p_iald (pc1 := 23) w_38 dX2_onTurn_22 rfl ?_
        refine r_goto (tgt := 27) dX2_onTurn_23 (by decide) ?_
        exact p_iret rfl rfl dX2_onTurn_27
/-! f_X6_isFull -/
noncomputable def f_X6_isFull (a1 : Int32) (s0 : SS) : Option Int32 := bdp (f_X6_sizeOf a1 s0) (fun (v1 : Int32) => bdp (f_X6_lengthOf a1 s0) (fun (v2 : Int32) => if (v1 : Int32) = (v2 : Int32) then some 1 else some 0))
set_option maxRecDepth 100000 in
set_option maxHeartbeats 4000000 in
theorem c_X6_isFull {l : Launch} {wl : WT} (w_3 : WI wl 3 (OE 6 [some 4, some 8])) (w_4 : WI wl 4 (AE 0 5348)) (w_8 : WI wl 8 (AE 0 5348)) (a1 : Int32) (s0 : SS) : Ct l wl yX6_isFull cX6_isFull 2 (some .boolean) 1 [.ref 3, .int a1] s0 (pu (f_X6_isFull a1 s0) s0) := by
  refine ct_of (y := yX6_isFull) plX6 (Nat.le_of_ble_eq_true rfl) ?_
  refine r_pad0 0 (L1 := [.ref 3, .int a1]) rfl ?_
  unfold f_X6_isFull
  refine r_aload_n (pc1 := 1) (i := 0) dX6_isFull_0 rfl rfl rfl ?_
  refine r_iload_n (pc1 := 2) (i := 1) dX6_isFull_1 rfl rfl rfl ?_
  refine p_callVp (pc1 := 5) (rv_of w_3 cl_6) lkX6_26 (c_X6_sizeOf w_3 w_4 w_8 _ _) rfl rfl ⟨Nat.le_of_ble_eq_true rfl, Nat.le_of_ble_eq_true rfl⟩ (Nat.le_of_ble_eq_true rfl) dX6_isFull_2 rfl (fun v1 => ?_)
  refine r_aload_n (pc1 := 6) (i := 0) dX6_isFull_5 rfl rfl rfl ?_
  refine r_iload_n (pc1 := 7) (i := 1) dX6_isFull_6 rfl rfl rfl ?_
  refine p_callVp (pc1 := 10) (rv_of w_3 cl_6) lkX6_38 (c_X6_lengthOf w_3 w_4 w_8 _ _) rfl rfl ⟨Nat.le_of_ble_eq_true rfl, Nat.le_of_ble_eq_true rfl⟩ (Nat.le_of_ble_eq_true rfl) dX6_isFull_7 rfl (fun v2 => ?_)
  refine p_icmp_ne (tgt := 17) (pc1 := 13) dX6_isFull_10 (by decide) rfl (fun q3 => ?_) (fun q3 => ?_)
  · refine r_iconst (v := 1) (pc1 := 14) dX6_isFull_13 ki_1 rfl ?_
    refine r_goto (tgt := 18) dX6_isFull_14 (by decide) ?_
    exact p_iret rfl rfl dX6_isFull_18
  · refine r_iconst (v := 0) (pc1 := 18) dX6_isFull_17 ki_0 rfl ?_
    exact p_iret rfl rfl dX6_isFull_18
/-! f_X11_enter -/
noncomputable def f_X11_enter (a1 : Int32) (a2 : Int32) (a3 : Int32) (s0 : SS) : Res := if (s0 52 4 : Int32) < 0 then some (0, s0) else if (s0 52 4 : Int32) < (100 : Int32) then lt ((s0 52 4) * 4) (fun (v3 : Int32) => gd (inb v3 400) (lts (up s0 55 (Int32.toNatClampNeg v3) (s0 52 2)) (fun (s4 : SS) => gd (inb (v3 + 1) 400) (lts (up s4 55 (Int32.toNatClampNeg (v3 + 1)) a1) (fun (s5 : SS) => gd (inb (v3 + 2) 400) (lts (up s5 55 (Int32.toNatClampNeg (v3 + 2)) a2) (fun (s6 : SS) => gd (inb (v3 + 3) 400) (lts (up s6 55 (Int32.toNatClampNeg (v3 + 3)) a3) (fun (s7 : SS) => lts (up s7 52 4 ((s7 52 4) + 1)) (fun (s8 : SS) => some (0, s8))))))))))) else some (0, s0)
set_option maxRecDepth 100000 in
set_option maxHeartbeats 4000000 in
theorem c_X11_enter {l : Launch} (a1 : Int32) (a2 : Int32) (a3 : Int32) (s0 : SS) : Ct l wF yX11_enter cX11_enter 5 none 0 [.ref 0, .int a1, .int a2, .int a3] s0 (f_X11_enter a1 a2 a3 s0) := by
  refine ct_of (y := yX11_enter) plX11 (Nat.le_of_ble_eq_true rfl) ?_
  refine r_pad0 1 (L1 := [.ref 0, .int a1, .int a2, .int a3, .null]) rfl ?_
  unfold f_X11_enter
  refine r_aload_n (pc1 := 1) (i := 0) dX11_enter_0 rfl rfl rfl ?_
  refine r_getR (pc1 := 4) w_0 gfX11_88 rfl dX11_enter_1 rfl ?_
  refine r_getI (pc1 := 7) w_52 gfX11_223 rfl dX11_enter_4 rfl ?_
  refine r_if_lt (tgt := 22) (pc1 := 10) dX11_enter_7 (by decide) rfl (fun q1 => ?_) (fun q1 => ?_)
  · exact r_vret rfl dX11_enter_22
  · refine r_aload_n (pc1 := 11) (i := 0) dX11_enter_10 rfl rfl rfl ?_
    refine r_getR (pc1 := 14) w_0 gfX11_88 rfl dX11_enter_11 rfl ?_
    refine r_getI (pc1 := 17) w_52 gfX11_223 rfl dX11_enter_14 rfl ?_
    refine r_bipush (v := 100) (pc1 := 19) dX11_enter_17 kb_100 rfl ?_
    refine r_icmp_lt (tgt := 23) (pc1 := 22) dX11_enter_19 (by decide) rfl (fun q2 => ?_) (fun q2 => ?_)
    · refine r_aload_n (pc1 := 24) (i := 0) dX11_enter_23 rfl rfl rfl ?_
      refine r_getR (pc1 := 27) w_0 gfX11_88 rfl dX11_enter_24 rfl ?_
      refine r_getI (pc1 := 30) w_52 gfX11_223 rfl dX11_enter_27 rfl ?_
      refine r_iconst (v := 4) (pc1 := 31) dX11_enter_30 ki_4 rfl ?_
      refine r_imul (pc1 := 32) dX11_enter_31 rfl ?_
      refine r_lt (fun v3 => ?_)
      refine r_istore (pc1 := 34) dX11_enter_32 (by decide) rfl rfl rfl ?_
      refine r_aload_n (pc1 := 35) (i := 0) dX11_enter_34 rfl rfl rfl ?_
      refine r_getR (pc1 := 38) w_0 gfX11_99 rfl dX11_enter_35 rfl ?_
      refine r_iload (pc1 := 40) dX11_enter_38 rfl rfl ?_
      refine r_aload_n (pc1 := 41) (i := 0) dX11_enter_40 rfl rfl rfl ?_
      refine r_getR (pc1 := 44) w_0 gfX11_88 rfl dX11_enter_41 rfl ?_
      refine r_getI (pc1 := 47) w_52 gfX11_217 rfl dX11_enter_44 rfl ?_
      refine r_iast (pc1 := 48) w_55 dX11_enter_47 rfl ?_
      refine r_lts (fun s4 => ?_)
      refine r_aload_n (pc1 := 49) (i := 0) dX11_enter_48 rfl rfl rfl ?_
      refine r_getR (pc1 := 52) w_0 gfX11_99 rfl dX11_enter_49 rfl ?_
      refine r_iload (pc1 := 54) dX11_enter_52 rfl rfl ?_
      refine r_iconst (v := 1) (pc1 := 55) dX11_enter_54 ki_1 rfl ?_
      refine r_iadd (pc1 := 56) dX11_enter_55 rfl ?_
      refine r_iload_n (pc1 := 57) (i := 1) dX11_enter_56 rfl rfl rfl ?_
      refine r_iast (pc1 := 58) w_55 dX11_enter_57 rfl ?_
      refine r_lts (fun s5 => ?_)
      refine r_aload_n (pc1 := 59) (i := 0) dX11_enter_58 rfl rfl rfl ?_
      refine r_getR (pc1 := 62) w_0 gfX11_99 rfl dX11_enter_59 rfl ?_
      refine r_iload (pc1 := 64) dX11_enter_62 rfl rfl ?_
      refine r_iconst (v := 2) (pc1 := 65) dX11_enter_64 ki_2 rfl ?_
      refine r_iadd (pc1 := 66) dX11_enter_65 rfl ?_
      refine r_iload_n (pc1 := 67) (i := 2) dX11_enter_66 rfl rfl rfl ?_
      refine r_iast (pc1 := 68) w_55 dX11_enter_67 rfl ?_
      refine r_lts (fun s6 => ?_)
      refine r_aload_n (pc1 := 69) (i := 0) dX11_enter_68 rfl rfl rfl ?_
      refine r_getR (pc1 := 72) w_0 gfX11_99 rfl dX11_enter_69 rfl ?_
      refine r_iload (pc1 := 74) dX11_enter_72 rfl rfl ?_
      refine r_iconst (v := 3) (pc1 := 75) dX11_enter_74 ki_3 rfl ?_
      refine r_iadd (pc1 := 76) dX11_enter_75 rfl ?_
      refine r_iload_n (pc1 := 77) (i := 3) dX11_enter_76 rfl rfl rfl ?_
      refine r_iast (pc1 := 78) w_55 dX11_enter_77 rfl ?_
      refine r_lts (fun s7 => ?_)
      refine r_aload_n (pc1 := 79) (i := 0) dX11_enter_78 rfl rfl rfl ?_
      refine r_getR (pc1 := 82) w_0 gfX11_88 rfl dX11_enter_79 rfl ?_
      refine r_dup (pc1 := 83) dX11_enter_82 rfl rfl ?_
      refine r_getI (pc1 := 86) w_52 gfX11_223 rfl dX11_enter_83 rfl ?_
      refine r_iconst (v := 1) (pc1 := 87) dX11_enter_86 ki_1 rfl ?_
      refine r_iadd (pc1 := 88) dX11_enter_87 rfl ?_
      refine r_putI (pc1 := 91) w_52 pfX11_223 rfl ⟨rfl, rfl⟩ dX11_enter_88 rfl ?_
      refine r_lts (fun s8 => ?_)
      exact r_vret rfl dX11_enter_91
    · exact r_vret rfl dX11_enter_22
/-! f_X6_behind -/
noncomputable def f_X6_behind (a1 : Int32) (a2 : Int32) (s0 : SS) : Option Int32 := jn (fun (v1 : Int32) => if (v1 : Int32) = 0 then some a1 else gd (inb a1 5348) (some ((s0 8 (Int32.toNatClampNeg a1)) + a2))) (fun (k2 : Int32 → Option Int32) => jn (k2 0) (fun (k4 : Option Int32) => if (a2 : Int32) < 0 then k4 else if (8 : Int32) ≤ (a2 : Int32) then k4 else if (a1 : Int32) < 0 then k4 else if (5348 : Int32) ≤ (a1 : Int32) then k4 else k2 1))
set_option maxRecDepth 100000 in
set_option maxHeartbeats 4000000 in
theorem c_X6_behind {l : Launch} {wl : WT} (w_3 : WI wl 3 (OE 6 [some 4, some 8])) (w_4 : WI wl 4 (AE 0 5348)) (w_8 : WI wl 8 (AE 0 5348)) (a1 : Int32) (a2 : Int32) (s0 : SS) : Ct l wl yX6_behind cX6_behind 4 (some .int) 0 [.ref 3, .int a1, .int a2] s0 (pu (f_X6_behind a1 a2 s0) s0) := by
  refine ct_of (y := yX6_behind) plX6 (Nat.le_of_ble_eq_true rfl) ?_
  refine r_pad0 1 (L1 := [.ref 3, .int a1, .int a2, .null]) rfl ?_
  unfold f_X6_behind
  refine r_iload_n (pc1 := 1) (i := 2) dX6_behind_0 rfl rfl rfl ?_
  refine p_jn (hyp := fun (k2 : Int32 → Option Int32) => ∀ (v1 : Int32), RC l wl RX6 cX6_behind 4 (some .int) 0 26 [.ref 3, .int a1, .int a2, .null] [.int v1] s0 (pu (k2 v1) s0)) (fun v1 => ?_) (fun k2 hk2 => ?_)
  · refine r_istore_n (pc1 := 27) (i := 3) dX6_behind_26 rfl (by decide) rfl rfl rfl ?_
    refine r_iload_n (pc1 := 28) (i := 3) dX6_behind_27 rfl rfl rfl ?_
    refine p_if_eq (tgt := 42) (pc1 := 31) dX6_behind_28 (by decide) rfl (fun q3 => ?_) (fun q3 => ?_)
    · refine r_iload_n (pc1 := 43) (i := 1) dX6_behind_42 rfl rfl rfl ?_
      exact p_iret rfl rfl dX6_behind_43
    · refine r_aload_n (pc1 := 32) (i := 0) dX6_behind_31 rfl rfl rfl ?_
      refine r_getR (pc1 := 35) w_3 gfX6_15 rfl dX6_behind_32 rfl ?_
      refine r_iload_n (pc1 := 36) (i := 1) dX6_behind_35 rfl rfl rfl ?_
      refine p_iald (pc1 := 37) w_8 dX6_behind_36 rfl ?_
      refine r_iload_n (pc1 := 38) (i := 2) dX6_behind_37 rfl rfl rfl ?_
      refine r_iadd (pc1 := 39) dX6_behind_38 rfl ?_
      refine r_goto (tgt := 43) dX6_behind_39 (by decide) ?_
      exact p_iret rfl rfl dX6_behind_43
  · refine p_jn (hyp := fun (k4 : Option Int32) => RC l wl RX6 cX6_behind 4 (some .int) 0 25 [.ref 3, .int a1, .int a2, .null] [] s0 (pu k4 s0)) (?_) (fun k4 hk4 => ?_)
    · refine r_iconst (v := 0) (pc1 := 26) dX6_behind_25 ki_0 rfl ?_
      exact r_wk (hk2 0) ⟨Or.inr rfl, Or.inr rfl, Or.inr rfl, Or.inl rfl, trivial⟩
    · refine p_if_lt (tgt := 25) (pc1 := 4) dX6_behind_1 (by decide) rfl (fun q5 => ?_) (fun q5 => ?_)
      · exact r_wk (hk4) ⟨Or.inr rfl, Or.inr rfl, Or.inr rfl, Or.inl rfl, trivial⟩
      · refine r_iload_n (pc1 := 5) (i := 2) dX6_behind_4 rfl rfl rfl ?_
        refine r_bipush (v := 8) (pc1 := 7) dX6_behind_5 kb_8 rfl ?_
        refine p_icmp_ge (tgt := 25) (pc1 := 10) dX6_behind_7 (by decide) rfl (fun q6 => ?_) (fun q6 => ?_)
        · exact r_wk (hk4) ⟨Or.inr rfl, Or.inr rfl, Or.inr rfl, Or.inl rfl, trivial⟩
        · refine r_iload_n (pc1 := 11) (i := 1) dX6_behind_10 rfl rfl rfl ?_
          refine p_if_lt (tgt := 25) (pc1 := 14) dX6_behind_11 (by decide) rfl (fun q7 => ?_) (fun q7 => ?_)
          · exact r_wk (hk4) ⟨Or.inr rfl, Or.inr rfl, Or.inr rfl, Or.inl rfl, trivial⟩
          · refine r_iload_n (pc1 := 15) (i := 1) dX6_behind_14 rfl rfl rfl ?_
            refine r_sipush (v := 5348) (pc1 := 18) dX6_behind_15 ks_5348 rfl ?_
            refine p_icmp_ge (tgt := 25) (pc1 := 21) dX6_behind_18 (by decide) rfl (fun q8 => ?_) (fun q8 => ?_)
            · exact r_wk (hk4) ⟨Or.inr rfl, Or.inr rfl, Or.inr rfl, Or.inl rfl, trivial⟩
            · refine r_iconst (v := 1) (pc1 := 22) dX6_behind_21 ki_1 rfl ?_
              refine r_goto (tgt := 26) dX6_behind_22 (by decide) ?_
              exact r_wk (hk2 1) ⟨Or.inr rfl, Or.inr rfl, Or.inr rfl, Or.inl rfl, trivial⟩
/-! f_X2_placeAfter -/
noncomputable def f_X2_placeAfter (a1 : Int32) (s0 : SS) : Option Int32 := if (s0 35 5 : Int32) ≤ (a1 + 1 : Int32) then some 0 else some (a1 + 1)
set_option maxRecDepth 100000 in
set_option maxHeartbeats 4000000 in
theorem c_X2_placeAfter {l : Launch} (a1 : Int32) (s0 : SS) : Ct l wF yX2_placeAfter cX2_placeAfter 2 (some .int) 0 [.ref 35, .int a1] s0 (pu (f_X2_placeAfter a1 s0) s0) := by
  refine ct_of (y := yX2_placeAfter) plX2 (Nat.le_of_ble_eq_true rfl) ?_
  refine r_pad0 0 (L1 := [.ref 35, .int a1]) rfl ?_
  unfold f_X2_placeAfter
  refine r_iload_n (pc1 := 1) (i := 1) dX2_placeAfter_0 rfl rfl rfl ?_
  refine r_iconst (v := 1) (pc1 := 2) dX2_placeAfter_1 ki_1 rfl ?_
  refine r_iadd (pc1 := 3) dX2_placeAfter_2 rfl ?_
  refine r_aload_n (pc1 := 4) (i := 0) dX2_placeAfter_3 rfl rfl rfl ?_
  refine r_getI (pc1 := 7) w_35 gfX2_21 rfl dX2_placeAfter_4 rfl ?_
  refine p_icmp_ge (tgt := 16) (pc1 := 10) dX2_placeAfter_7 (by decide) rfl (fun q1 => ?_) (fun q1 => ?_)
  · refine r_iconst (v := 0) (pc1 := 17) dX2_placeAfter_16 ki_0 rfl ?_
    exact p_iret rfl rfl dX2_placeAfter_17
  · refine r_iload_n (pc1 := 11) (i := 1) dX2_placeAfter_10 rfl rfl rfl ?_
    refine r_iconst (v := 1) (pc1 := 12) dX2_placeAfter_11 ki_1 rfl ?_
    refine r_iadd (pc1 := 13) dX2_placeAfter_12 rfl ?_
    refine r_goto (tgt := 17) dX2_placeAfter_13 (by decide) ?_
    exact p_iret rfl rfl dX2_placeAfter_17
/-! f_X11_passDay -/
noncomputable def f_X11_passDay (a1 : Int32) (a2 : Int32) (s0 : SS) : Res := jn (fun (v1 : Int32) (s2 : SS) => lts (up s2 52 2 ((s2 52 2) + 1)) (fun (s4 : SS) => bdp (f_X2_placeAfter (s4 52 1) s4) (fun (v5 : Int32) => lts (up s4 52 1 v5) (fun (s6 : SS) => some (v1, s6))))) (fun (k3 : Int32 → SS → Res) => if (a2 : Int32) = (8 : Int32) then k3 8 s0 else bdp (f_X6_isFull (s0 52 0) s0) (fun (v8 : Int32) => jn (fun (v9 : Int32) => bd (f_X11_enter a1 a2 v9 s0) (fun (v11 : Int32) (s12 : SS) => bdp (f_X6_behind (s12 52 0) a2 s12) (fun (v13 : Int32) => lts (up s12 52 0 v13) (fun (s14 : SS) => k3 v9 s14)))) (fun (k10 : Int32 → Res) => if (v8 : Int32) = 0 then k10 8 else bdp (f_X6_oldestOn (s0 52 0) s0) (fun (v16 : Int32) => k10 v16))))
set_option maxRecDepth 100000 in
set_option maxHeartbeats 4000000 in
theorem c_X11_passDay {l : Launch} (a1 : Int32) (a2 : Int32) (s0 : SS) : Ct l wF yX11_passDay cX11_passDay 4 (some .int) 2 [.ref 0, .int a1, .int a2] s0 (f_X11_passDay a1 a2 s0) := by
  refine ct_of (y := yX11_passDay) plX11 (Nat.le_of_ble_eq_true rfl) ?_
  refine r_pad0 1 (L1 := [.ref 0, .int a1, .int a2, .null]) rfl ?_
  unfold f_X11_passDay
  refine r_bipush (v := 8) (pc1 := 2) dX11_passDay_0 kb_8 rfl ?_
  refine r_istore_n (pc1 := 3) (i := 3) dX11_passDay_2 rfl (by decide) rfl rfl rfl ?_
  refine r_iload_n (pc1 := 4) (i := 2) dX11_passDay_3 rfl rfl rfl ?_
  refine r_bipush (v := 8) (pc1 := 6) dX11_passDay_4 kb_8 rfl ?_
  refine r_jn (hyp := fun (k3 : Int32 → SS → Res) => ∀ (v1 : Int32) (s2 : SS), RC l wF RX11 cX11_passDay 4 (some .int) 2 75 [.ref 0, .null, .null, .int v1] [] s2 (k3 v1 s2)) (fun v1 s2 => ?_) (fun k3 hk3 => ?_)
  · refine r_aload_n (pc1 := 76) (i := 0) dX11_passDay_75 rfl rfl rfl ?_
    refine r_getR (pc1 := 79) w_0 gfX11_88 rfl dX11_passDay_76 rfl ?_
    refine r_dup (pc1 := 80) dX11_passDay_79 rfl rfl ?_
    refine r_getI (pc1 := 83) w_52 gfX11_217 rfl dX11_passDay_80 rfl ?_
    refine r_iconst (v := 1) (pc1 := 84) dX11_passDay_83 ki_1 rfl ?_
    refine r_iadd (pc1 := 85) dX11_passDay_84 rfl ?_
    refine r_putI (pc1 := 88) w_52 pfX11_217 rfl ⟨rfl, rfl⟩ dX11_passDay_85 rfl ?_
    refine r_lts (fun s4 => ?_)
    refine r_aload_n (pc1 := 89) (i := 0) dX11_passDay_88 rfl rfl rfl ?_
    refine r_getR (pc1 := 92) w_0 gfX11_88 rfl dX11_passDay_89 rfl ?_
    refine r_aload_n (pc1 := 93) (i := 0) dX11_passDay_92 rfl rfl rfl ?_
    refine r_getR (pc1 := 96) w_0 gfX11_51 rfl dX11_passDay_93 rfl ?_
    refine r_aload_n (pc1 := 97) (i := 0) dX11_passDay_96 rfl rfl rfl ?_
    refine r_getR (pc1 := 100) w_0 gfX11_88 rfl dX11_passDay_97 rfl ?_
    refine r_getI (pc1 := 103) w_52 gfX11_139 rfl dX11_passDay_100 rfl ?_
    refine r_callVp (pc1 := 106) (rv_of w_35 cl_2) lkX11_220 (c_X2_placeAfter _ _) rfl rfl ⟨Nat.le_of_ble_eq_true rfl, Nat.le_of_ble_eq_true rfl⟩ (Nat.le_of_ble_eq_true rfl) dX11_passDay_103 rfl (fun v5 => ?_)
    refine r_putI (pc1 := 109) w_52 pfX11_139 rfl ⟨rfl, rfl⟩ dX11_passDay_106 rfl ?_
    refine r_lts (fun s6 => ?_)
    refine r_iload_n (pc1 := 110) (i := 3) dX11_passDay_109 rfl rfl rfl ?_
    exact r_iret rfl rfl dX11_passDay_110
  · refine r_icmp_eq (tgt := 75) (pc1 := 9) dX11_passDay_6 (by decide) rfl (fun q7 => ?_) (fun q7 => ?_)
    · exact r_wk (hk3 8 s0) ⟨Or.inr rfl, Or.inl rfl, Or.inl rfl, Or.inr rfl, trivial⟩
    · refine r_aload_n (pc1 := 10) (i := 0) dX11_passDay_9 rfl rfl rfl ?_
      refine r_getR (pc1 := 13) w_0 gfX11_19 rfl dX11_passDay_10 rfl ?_
      refine r_aload_n (pc1 := 14) (i := 0) dX11_passDay_13 rfl rfl rfl ?_
      refine r_getR (pc1 := 17) w_0 gfX11_88 rfl dX11_passDay_14 rfl ?_
      refine r_getI (pc1 := 20) w_52 gfX11_122 rfl dX11_passDay_17 rfl ?_
      refine r_callVp (pc1 := 23) (rv_of w_3 cl_6) lkX11_205 (c_X6_isFull w_3 w_4 w_8 _ _) rfl rfl ⟨Nat.le_of_ble_eq_true rfl, Nat.le_of_ble_eq_true rfl⟩ (Nat.le_of_ble_eq_true rfl) dX11_passDay_20 rfl (fun v8 => ?_)
      refine r_jn (hyp := fun (k10 : Int32 → Res) => ∀ (v9 : Int32), RC l wF RX11 cX11_passDay 4 (some .int) 2 45 [.ref 0, .int a1, .int a2, .null] [.int v9] s0 (k10 v9)) (fun v9 => ?_) (fun k10 hk10 => ?_)
      · refine r_istore_n (pc1 := 46) (i := 3) dX11_passDay_45 rfl (by decide) rfl rfl rfl ?_
        refine r_aload_n (pc1 := 47) (i := 0) dX11_passDay_46 rfl rfl rfl ?_
        refine r_iload_n (pc1 := 48) (i := 1) dX11_passDay_47 rfl rfl rfl ?_
        refine r_iload_n (pc1 := 49) (i := 2) dX11_passDay_48 rfl rfl rfl ?_
        refine r_iload_n (pc1 := 50) (i := 3) dX11_passDay_49 rfl rfl rfl ?_
        refine r_callVv (pc1 := 53) (rv_of w_0 cl_11) lkX11_211 (c_X11_enter _ _ _ _) rfl rfl ⟨Nat.le_of_ble_eq_true rfl, Nat.le_of_ble_eq_true rfl⟩ (Nat.le_of_ble_eq_true rfl) dX11_passDay_50 rfl (fun v11 s12 => ?_)
        refine r_aload_n (pc1 := 54) (i := 0) dX11_passDay_53 rfl rfl rfl ?_
        refine r_getR (pc1 := 57) w_0 gfX11_88 rfl dX11_passDay_54 rfl ?_
        refine r_aload_n (pc1 := 58) (i := 0) dX11_passDay_57 rfl rfl rfl ?_
        refine r_getR (pc1 := 61) w_0 gfX11_19 rfl dX11_passDay_58 rfl ?_
        refine r_aload_n (pc1 := 62) (i := 0) dX11_passDay_61 rfl rfl rfl ?_
        refine r_getR (pc1 := 65) w_0 gfX11_88 rfl dX11_passDay_62 rfl ?_
        refine r_getI (pc1 := 68) w_52 gfX11_122 rfl dX11_passDay_65 rfl ?_
        refine r_iload_n (pc1 := 69) (i := 2) dX11_passDay_68 rfl rfl rfl ?_
        refine r_callVp (pc1 := 72) (rv_of w_3 cl_6) lkX11_214 (c_X6_behind w_3 w_4 w_8 _ _ _) rfl rfl ⟨Nat.le_of_ble_eq_true rfl, Nat.le_of_ble_eq_true rfl⟩ (Nat.le_of_ble_eq_true rfl) dX11_passDay_69 rfl (fun v13 => ?_)
        refine r_putI (pc1 := 75) w_52 pfX11_122 rfl ⟨rfl, rfl⟩ dX11_passDay_72 rfl ?_
        refine r_lts (fun s14 => ?_)
        exact r_wk (hk3 v9 s14) ⟨Or.inr rfl, Or.inl rfl, Or.inl rfl, Or.inr rfl, trivial⟩
      · refine r_if_eq (tgt := 43) (pc1 := 26) dX11_passDay_23 (by decide) rfl (fun q15 => ?_) (fun q15 => ?_)
        · refine r_bipush (v := 8) (pc1 := 45) dX11_passDay_43 kb_8 rfl ?_
          exact r_wk (hk10 8) ⟨Or.inr rfl, Or.inr rfl, Or.inr rfl, Or.inl rfl, trivial⟩
        · refine r_aload_n (pc1 := 27) (i := 0) dX11_passDay_26 rfl rfl rfl ?_
          refine r_getR (pc1 := 30) w_0 gfX11_19 rfl dX11_passDay_27 rfl ?_
          refine r_aload_n (pc1 := 31) (i := 0) dX11_passDay_30 rfl rfl rfl ?_
          refine r_getR (pc1 := 34) w_0 gfX11_88 rfl dX11_passDay_31 rfl ?_
          refine r_getI (pc1 := 37) w_52 gfX11_122 rfl dX11_passDay_34 rfl ?_
          refine r_callVp (pc1 := 40) (rv_of w_3 cl_6) lkX11_208 (c_X6_oldestOn w_3 w_4 w_8 _ _) rfl rfl ⟨Nat.le_of_ble_eq_true rfl, Nat.le_of_ble_eq_true rfl⟩ (Nat.le_of_ble_eq_true rfl) dX11_passDay_37 rfl (fun v16 => ?_)
          refine r_goto (tgt := 45) dX11_passDay_40 (by decide) ?_
          exact r_wk (hk10 v16) ⟨Or.inr rfl, Or.inr rfl, Or.inr rfl, Or.inl rfl, trivial⟩
/-! f_X11_make -/
noncomputable def f_X11_make (a1 : Int32) (s0 : SS) : Res := jn (bdp (f_X2_onTurn (s0 52 1) s0) (fun (v2 : Int32) => jn (fun (s3 : SS) => jn (fun (v5 : Int32) => bd (f_X11_passDay v2 v5 s3) (fun (v7 : Int32) (s8 : SS) => some (v7, s8))) (fun (k6 : Int32 → Res) => if (a1 : Int32) = ((-1) : Int32) then k6 8 else k6 a1)) (fun (k4 : SS → Res) => if (a1 : Int32) = ((-1) : Int32) then k4 s0 else bd (f_X10_mayOf (s0 52 0) v2 s0) (fun (v11 : Int32) (s12 : SS) => if ((v11 >>> (a1 &&& 31)) &&& 1 : Int32) = 0 then some ((-2), s12) else k4 s12)))) (fun (k1 : Res) => if (a1 : Int32) = ((-1) : Int32) then k1 else bdp (f_X11_isLaw a1 s0) (fun (v15 : Int32) => if (v15 : Int32) = 0 then some ((-1), s0) else k1))
set_option maxRecDepth 100000 in
set_option maxHeartbeats 4000000 in
theorem c_X11_make {l : Launch} (a1 : Int32) (s0 : SS) : Ct l wF yX11_make cX11_make 3 (some .int) 4 [.ref 0, .int a1] s0 (f_X11_make a1 s0) := by
  refine ct_of (y := yX11_make) plX11 (Nat.le_of_ble_eq_true rfl) ?_
  refine r_pad0 1 (L1 := [.ref 0, .int a1, .null]) rfl ?_
  unfold f_X11_make
  refine r_iload_n (pc1 := 1) (i := 1) dX11_make_0 rfl rfl rfl ?_
  refine r_iconst (v := (-1)) (pc1 := 2) dX11_make_1 ki_m1 rfl ?_
  refine r_jn (hyp := fun (k1 : Res) => RC l wF RX11 cX11_make 3 (some .int) 4 15 [.ref 0, .int a1, .null] [] s0 k1) (?_) (fun k1 hk1 => ?_)
  · refine r_aload_n (pc1 := 16) (i := 0) dX11_make_15 rfl rfl rfl ?_
    refine r_getR (pc1 := 19) w_0 gfX11_51 rfl dX11_make_16 rfl ?_
    refine r_aload_n (pc1 := 20) (i := 0) dX11_make_19 rfl rfl rfl ?_
    refine r_getR (pc1 := 23) w_0 gfX11_88 rfl dX11_make_20 rfl ?_
    refine r_getI (pc1 := 26) w_52 gfX11_139 rfl dX11_make_23 rfl ?_
    refine r_callVp (pc1 := 29) (rv_of w_35 cl_2) lkX11_198 (c_X2_onTurn _ _) rfl rfl ⟨Nat.le_of_ble_eq_true rfl, Nat.le_of_ble_eq_true rfl⟩ (Nat.le_of_ble_eq_true rfl) dX11_make_26 rfl (fun v2 => ?_)
    refine r_istore_n (pc1 := 30) (i := 2) dX11_make_29 rfl (by decide) rfl rfl rfl ?_
    refine r_iload_n (pc1 := 31) (i := 1) dX11_make_30 rfl rfl rfl ?_
    refine r_iconst (v := (-1)) (pc1 := 32) dX11_make_31 ki_m1 rfl ?_
    refine r_jn (hyp := fun (k4 : SS → Res) => ∀ (s3 : SS), RC l wF RX11 cX11_make 3 (some .int) 4 60 [.ref 0, .int a1, .int v2] [] s3 (k4 s3)) (fun s3 => ?_) (fun k4 hk4 => ?_)
    · refine r_aload_n (pc1 := 61) (i := 0) dX11_make_60 rfl rfl rfl ?_
      refine r_iload_n (pc1 := 62) (i := 2) dX11_make_61 rfl rfl rfl ?_
      refine r_iload_n (pc1 := 63) (i := 1) dX11_make_62 rfl rfl rfl ?_
      refine r_iconst (v := (-1)) (pc1 := 64) dX11_make_63 ki_m1 rfl ?_
      refine r_jn (hyp := fun (k6 : Int32 → Res) => ∀ (v5 : Int32), RC l wF RX11 cX11_make 3 (some .int) 4 73 [.ref 0, .null, .null] [.int v5, .int v2, .ref 0] s3 (k6 v5)) (fun v5 => ?_) (fun k6 hk6 => ?_)
      · refine r_callVi (pc1 := 76) (rv_of w_0 cl_11) lkX11_201 (c_X11_passDay _ _ _) rfl rfl ⟨Nat.le_of_ble_eq_true rfl, Nat.le_of_ble_eq_true rfl⟩ (Nat.le_of_ble_eq_true rfl) dX11_make_73 rfl (fun v7 s8 => ?_)
        exact r_iret rfl rfl dX11_make_76
      · refine r_icmp_ne (tgt := 72) (pc1 := 67) dX11_make_64 (by decide) rfl (fun q9 => ?_) (fun q9 => ?_)
        · refine r_bipush (v := 8) (pc1 := 69) dX11_make_67 kb_8 rfl ?_
          refine r_goto (tgt := 73) dX11_make_69 (by decide) ?_
          exact r_wk (hk6 8) ⟨Or.inr rfl, Or.inl rfl, Or.inl rfl, trivial⟩
        · refine r_iload_n (pc1 := 73) (i := 1) dX11_make_72 rfl rfl rfl ?_
          exact r_wk (hk6 a1) ⟨Or.inr rfl, Or.inl rfl, Or.inl rfl, trivial⟩
    · refine r_icmp_eq (tgt := 60) (pc1 := 35) dX11_make_32 (by decide) rfl (fun q10 => ?_) (fun q10 => ?_)
      · exact r_wk (hk4 s0) ⟨Or.inr rfl, Or.inr rfl, Or.inr rfl, trivial⟩
      · refine r_aload_n (pc1 := 36) (i := 0) dX11_make_35 rfl rfl rfl ?_
        refine r_getR (pc1 := 39) w_0 gfX11_42 rfl dX11_make_36 rfl ?_
        refine r_aload_n (pc1 := 40) (i := 0) dX11_make_39 rfl rfl rfl ?_
        refine r_getR (pc1 := 43) w_0 gfX11_88 rfl dX11_make_40 rfl ?_
        refine r_getI (pc1 := 46) w_52 gfX11_122 rfl dX11_make_43 rfl ?_
        refine r_iload_n (pc1 := 47) (i := 2) dX11_make_46 rfl rfl rfl ?_
        refine r_callVi (pc1 := 50) (rv_of w_27 cl_10) lkX11_178 (c_X10_mayOf _ _ _) rfl rfl ⟨Nat.le_of_ble_eq_true rfl, Nat.le_of_ble_eq_true rfl⟩ (Nat.le_of_ble_eq_true rfl) dX11_make_47 rfl (fun v11 s12 => ?_)
        refine r_iload_n (pc1 := 51) (i := 1) dX11_make_50 rfl rfl rfl ?_
        refine r_ishr (pc1 := 52) dX11_make_51 rfl ?_
        refine r_iconst (v := 1) (pc1 := 53) dX11_make_52 ki_1 rfl ?_
        refine r_iand (pc1 := 54) dX11_make_53 rfl ?_
        refine r_if_ne (tgt := 60) (pc1 := 57) dX11_make_54 (by decide) rfl (fun q13 => ?_) (fun q13 => ?_)
        · refine r_bipush (v := (-2)) (pc1 := 59) dX11_make_57 kb_m2 rfl ?_
          exact r_iret rfl rfl dX11_make_59
        · exact r_wk (hk4 s12) ⟨Or.inr rfl, Or.inr rfl, Or.inr rfl, trivial⟩
  · refine r_icmp_eq (tgt := 15) (pc1 := 5) dX11_make_2 (by decide) rfl (fun q14 => ?_) (fun q14 => ?_)
    · exact r_wk (hk1) ⟨Or.inr rfl, Or.inr rfl, Or.inl rfl, trivial⟩
    · refine r_aload_n (pc1 := 6) (i := 0) dX11_make_5 rfl rfl rfl ?_
      refine r_iload_n (pc1 := 7) (i := 1) dX11_make_6 rfl rfl rfl ?_
      refine r_callVp (pc1 := 10) (rv_of w_0 cl_11) lkX11_146 (c_X11_isLaw _ _) rfl rfl ⟨Nat.le_of_ble_eq_true rfl, Nat.le_of_ble_eq_true rfl⟩ (Nat.le_of_ble_eq_true rfl) dX11_make_7 rfl (fun v15 => ?_)
      refine r_if_ne (tgt := 15) (pc1 := 13) dX11_make_10 (by decide) rfl (fun q16 => ?_) (fun q16 => ?_)
      · refine r_iconst (v := (-1)) (pc1 := 14) dX11_make_13 ki_m1 rfl ?_
        exact r_iret rfl rfl dX11_make_14
      · exact r_wk (hk1) ⟨Or.inr rfl, Or.inr rfl, Or.inl rfl, trivial⟩
/-! f_X11_at -/
noncomputable def f_X11_at (a1 : Int32) (s0 : SS) : Option Int32 := bdp (f_X6_lawOn (s0 52 0) a1 s0) (fun (v1 : Int32) => some v1)
set_option maxRecDepth 100000 in
set_option maxHeartbeats 4000000 in
theorem c_X11_at {l : Launch} (a1 : Int32) (s0 : SS) : Ct l wF yX11_at cX11_at 2 (some .int) 2 [.ref 0, .int a1] s0 (pu (f_X11_at a1 s0) s0) := by
  refine ct_of (y := yX11_at) plX11 (Nat.le_of_ble_eq_true rfl) ?_
  refine r_pad0 0 (L1 := [.ref 0, .int a1]) rfl ?_
  unfold f_X11_at
  refine r_aload_n (pc1 := 1) (i := 0) dX11_at_0 rfl rfl rfl ?_
  refine r_getR (pc1 := 4) w_0 gfX11_19 rfl dX11_at_1 rfl ?_
  refine r_aload_n (pc1 := 5) (i := 0) dX11_at_4 rfl rfl rfl ?_
  refine r_getR (pc1 := 8) w_0 gfX11_88 rfl dX11_at_5 rfl ?_
  refine r_getI (pc1 := 11) w_52 gfX11_122 rfl dX11_at_8 rfl ?_
  refine r_iload_n (pc1 := 12) (i := 1) dX11_at_11 rfl rfl rfl ?_
  refine p_callVp (pc1 := 15) (rv_of w_3 cl_6) lkX11_182 (c_X6_lawOn w_3 w_4 w_8 _ _ _) rfl rfl ⟨Nat.le_of_ble_eq_true rfl, Nat.le_of_ble_eq_true rfl⟩ (Nat.le_of_ble_eq_true rfl) dX11_at_12 rfl (fun v1 => ?_)
  exact p_iret rfl rfl dX11_at_15
/-! f_X11_holding -/
noncomputable def f_X11_holding  (s0 : SS) : Option Int32 := bdp (f_X10_holdingOn (s0 52 0) s0) (fun (v1 : Int32) => some v1)
set_option maxRecDepth 100000 in
set_option maxHeartbeats 4000000 in
theorem c_X11_holding {l : Launch}  (s0 : SS) : Ct l wF yX11_holding cX11_holding 1 (some .int) 2 [.ref 0] s0 (pu (f_X11_holding s0) s0) := by
  refine ct_of (y := yX11_holding) plX11 (Nat.le_of_ble_eq_true rfl) ?_
  refine r_pad0 0 (L1 := [.ref 0]) rfl ?_
  unfold f_X11_holding
  refine r_aload_n (pc1 := 1) (i := 0) dX11_holding_0 rfl rfl rfl ?_
  refine r_getR (pc1 := 4) w_0 gfX11_42 rfl dX11_holding_1 rfl ?_
  refine r_aload_n (pc1 := 5) (i := 0) dX11_holding_4 rfl rfl rfl ?_
  refine r_getR (pc1 := 8) w_0 gfX11_88 rfl dX11_holding_5 rfl ?_
  refine r_getI (pc1 := 11) w_52 gfX11_122 rfl dX11_holding_8 rfl ?_
  refine p_callVp (pc1 := 14) (rv_of w_27 cl_10) lkX11_185 (c_X10_holdingOn _ _) rfl rfl ⟨Nat.le_of_ble_eq_true rfl, Nat.le_of_ble_eq_true rfl⟩ (Nat.le_of_ble_eq_true rfl) dX11_holding_11 rfl (fun v1 => ?_)
  exact p_iret rfl rfl dX11_holding_14
/-! f_X10_worthOf -/
noncomputable def lp_X10_worthOf_65 (a1 : Int32) (a2 : Int32) (v9 : Int32) (k12 : Int32 → SS → Res) : Nat → Int32 → Int32 → SS → Res
  | 0, _, _, _ => none
  | n17 + 1, v14, v15, s16 => if (v9 : Int32) ≤ (v15 : Int32) then k12 v14 s16 else bdp (f_X6_lawOn a1 v15 s16) (fun (v19 : Int32) => bd (f_X10_describe a1 v19 v15 a2 s16) (fun (v20 : Int32) (s21 : SS) => bd (f_X1_valueOf 118 s21) (fun (v22 : Int32) (s23 : SS) => lt (v14 + v22) (fun (v24 : Int32) => lp_X10_worthOf_65 a1 a2 v9 k12 n17 v24 (v15 + 1) s23))))
noncomputable def f_X10_worthOf (a1 : Int32) (a2 : Int32) (s0 : SS) : Res := if (a1 : Int32) < 0 then some (0, s0) else if (5348 : Int32) ≤ (a1 : Int32) then some (0, s0) else bdp (f_X11_isPerson a2 s0) (fun (v3 : Int32) => if (v3 : Int32) = 0 then some (0, s0) else bd (f_X10_freshen s0) (fun (v5 : Int32) (s6 : SS) => gd (inb a1 5348) (bdp (f_X11_slotOf (lgt (s6 33) (Int32.toNatClampNeg a1)) a2 16 s6) (fun (v7 : Int32) => if (v7 : Int32) = 0 then bdp (f_X6_sizeOf a1 s6) (fun (v9 : Int32) => jn (fun (v10 : Int32) (s11 : SS) => gd (inb a1 5348) (gd (inb a1 5348) (lts (upl s11 33 (Int32.toNatClampNeg a1) (wsl (lgt (s11 33) (Int32.toNatClampNeg a1)) a2 16 (v10 + 1000))) (fun (s13 : SS) => some (v10, s13))))) (fun (k12 : Int32 → SS → Res) => lp_X10_worthOf_65 a1 a2 v9 k12 FU 0 0 s6)) else some (v7 - 1000, s6)))))
set_option maxRecDepth 100000 in
set_option maxHeartbeats 4000000 in
theorem t_lp_X10_worthOf_65 {l : Launch} (a1 : Int32) (a2 : Int32) (v9 : Int32) (k12 : Int32 → SS → Res) (hk12 : ∀ (v10 : Int32) (s11 : SS), RC l wF RX10 cX10_worthOf 7 (some .int) 3 114 [.ref 27, .int a1, .int a2, .null, .int v10, .null, .null] [] s11 (k12 v10 s11)) : ∀ (n17 : Nat) (v14 : Int32) (v15 : Int32) (s16 : SS), RC l wF RX10 cX10_worthOf 7 (some .int) 3 65 [.ref 27, .int a1, .int a2, .null, .int v14, .int v9, .int v15] [] s16 (lp_X10_worthOf_65 a1 a2 v9 k12 n17 v14 v15 s16) := by
  intro n17
  induction n17 with
  | zero =>
    intro v14 v15 s16
    rw [lp_X10_worthOf_65]
    exact r_none
  | succ n17 ih =>
    intro v14 v15 s16
    rw [lp_X10_worthOf_65]
    refine r_iload (pc1 := 67) dX10_worthOf_65 rfl rfl ?_
    refine r_iload (pc1 := 69) dX10_worthOf_67 rfl rfl ?_
    refine r_icmp_ge (tgt := 114) (pc1 := 72) dX10_worthOf_69 (by decide) rfl (fun q18 => ?_) (fun q18 => ?_)
    · exact r_wk (hk12 v14 s16) ⟨Or.inr rfl, Or.inr rfl, Or.inr rfl, Or.inl rfl, Or.inr rfl, Or.inl rfl, Or.inl rfl, trivial⟩
    · refine r_aload_n (pc1 := 73) (i := 0) dX10_worthOf_72 rfl rfl rfl ?_
      refine r_iload_n (pc1 := 74) (i := 1) dX10_worthOf_73 rfl rfl rfl ?_
      refine r_aload_n (pc1 := 75) (i := 0) dX10_worthOf_74 rfl rfl rfl ?_
      refine r_getR (pc1 := 78) w_27 gfX10_36 rfl dX10_worthOf_75 rfl ?_
      refine r_iload_n (pc1 := 79) (i := 1) dX10_worthOf_78 rfl rfl rfl ?_
      refine r_iload (pc1 := 81) dX10_worthOf_79 rfl rfl ?_
      refine r_callVp (pc1 := 84) (rv_of w_3 cl_6) lkX10_83 (c_X6_lawOn w_3 w_4 w_8 _ _ _) rfl rfl ⟨Nat.le_of_ble_eq_true rfl, Nat.le_of_ble_eq_true rfl⟩ (Nat.le_of_ble_eq_true rfl) dX10_worthOf_81 rfl (fun v19 => ?_)
      refine r_iload (pc1 := 86) dX10_worthOf_84 rfl rfl ?_
      refine r_iload_n (pc1 := 87) (i := 2) dX10_worthOf_86 rfl rfl rfl ?_
      refine r_callVv (pc1 := 90) (rv_of w_27 cl_10) lkX10_87 (c_X10_describe _ _ _ _ _) rfl rfl ⟨Nat.le_of_ble_eq_true rfl, Nat.le_of_ble_eq_true rfl⟩ (Nat.le_of_ble_eq_true rfl) dX10_worthOf_87 rfl (fun v20 s21 => ?_)
      refine r_iload (pc1 := 92) dX10_worthOf_90 rfl rfl ?_
      refine r_aload_n (pc1 := 93) (i := 0) dX10_worthOf_92 rfl rfl rfl ?_
      refine r_getR (pc1 := 96) w_27 gfX10_40 rfl dX10_worthOf_93 rfl ?_
      refine r_bipush (v := 118) (pc1 := 98) dX10_worthOf_96 kb_118 rfl ?_
      refine r_aload_n (pc1 := 99) (i := 0) dX10_worthOf_98 rfl rfl rfl ?_
      refine r_getR (pc1 := 102) w_27 gfX10_24 rfl dX10_worthOf_99 rfl ?_
      refine r_callVi (pc1 := 105) (rv_of w_9 cl_1) lkX10_91 (c_X1_valueOf _ _) rfl rfl ⟨Nat.le_of_ble_eq_true rfl, Nat.le_of_ble_eq_true rfl⟩ (Nat.le_of_ble_eq_true rfl) dX10_worthOf_102 rfl (fun v22 s23 => ?_)
      refine r_iadd (pc1 := 106) dX10_worthOf_105 rfl ?_
      refine r_lt (fun v24 => ?_)
      refine r_istore (pc1 := 108) dX10_worthOf_106 (by decide) rfl rfl rfl ?_
      refine r_iinc (pc1 := 111) dX10_worthOf_108 rfl (kn_1 _) (by decide) rfl rfl rfl ?_
      refine r_goto (tgt := 65) dX10_worthOf_111 (by decide) ?_
      exact r_wk (ih v24 (v15 + 1) s23) ⟨Or.inr rfl, Or.inr rfl, Or.inr rfl, Or.inl rfl, Or.inr rfl, Or.inr rfl, Or.inr rfl, trivial⟩
set_option maxRecDepth 100000 in
set_option maxHeartbeats 4000000 in
theorem c_X10_worthOf {l : Launch} (a1 : Int32) (a2 : Int32) (s0 : SS) : Ct l wF yX10_worthOf cX10_worthOf 7 (some .int) 3 [.ref 27, .int a1, .int a2] s0 (f_X10_worthOf a1 a2 s0) := by
  refine ct_of (y := yX10_worthOf) plX10 (Nat.le_of_ble_eq_true rfl) ?_
  refine r_pad0 4 (L1 := [.ref 27, .int a1, .int a2, .null, .null, .null, .null]) rfl ?_
  unfold f_X10_worthOf
  refine r_iload_n (pc1 := 1) (i := 1) dX10_worthOf_0 rfl rfl rfl ?_
  refine r_if_lt (tgt := 20) (pc1 := 4) dX10_worthOf_1 (by decide) rfl (fun q1 => ?_) (fun q1 => ?_)
  · refine r_iconst (v := 0) (pc1 := 21) dX10_worthOf_20 ki_0 rfl ?_
    exact r_iret rfl rfl dX10_worthOf_21
  · refine r_iload_n (pc1 := 5) (i := 1) dX10_worthOf_4 rfl rfl rfl ?_
    refine r_aload_n (pc1 := 6) (i := 0) dX10_worthOf_5 rfl rfl rfl ?_
    refine r_getR (pc1 := 9) w_27 gfX10_29 rfl dX10_worthOf_6 rfl ?_
    refine r_alenL (t := 3) (v := 5348) (pc1 := 10) w_33 (fun _ => rfl) (al_5348) dX10_worthOf_9 rfl ?_
    refine r_icmp_ge (tgt := 20) (pc1 := 13) dX10_worthOf_10 (by decide) rfl (fun q2 => ?_) (fun q2 => ?_)
    · refine r_iconst (v := 0) (pc1 := 21) dX10_worthOf_20 ki_0 rfl ?_
      exact r_iret rfl rfl dX10_worthOf_21
    · refine r_iload_n (pc1 := 14) (i := 2) dX10_worthOf_13 rfl rfl rfl ?_
      refine r_callSNp (pc1 := 17) lkX10_69 (c_X11_isPerson _ _) rfl rfl ⟨Nat.le_of_ble_eq_true rfl, Nat.le_of_ble_eq_true rfl⟩ (Nat.le_of_ble_eq_true rfl) dX10_worthOf_14 rfl (fun v3 => ?_)
      refine r_if_ne (tgt := 22) (pc1 := 20) dX10_worthOf_17 (by decide) rfl (fun q4 => ?_) (fun q4 => ?_)
      · refine r_iconst (v := 0) (pc1 := 21) dX10_worthOf_20 ki_0 rfl ?_
        exact r_iret rfl rfl dX10_worthOf_21
      · refine r_aload_n (pc1 := 23) (i := 0) dX10_worthOf_22 rfl rfl rfl ?_
        refine r_callVv (pc1 := 26) (rv_of w_27 cl_10) lkX10_73 (c_X10_freshen _) rfl rfl ⟨Nat.le_of_ble_eq_true rfl, Nat.le_of_ble_eq_true rfl⟩ (Nat.le_of_ble_eq_true rfl) dX10_worthOf_23 rfl (fun v5 s6 => ?_)
        refine r_aload_n (pc1 := 27) (i := 0) dX10_worthOf_26 rfl rfl rfl ?_
        refine r_getR (pc1 := 30) w_27 gfX10_29 rfl dX10_worthOf_27 rfl ?_
        refine r_iload_n (pc1 := 31) (i := 1) dX10_worthOf_30 rfl rfl rfl ?_
        refine r_lald (pc1 := 32) w_33 dX10_worthOf_31 rfl ?_
        refine r_iload_n (pc1 := 33) (i := 2) dX10_worthOf_32 rfl rfl rfl ?_
        refine r_bipush (v := 16) (pc1 := 35) dX10_worthOf_33 kb_16 rfl ?_
        refine r_callSNp (pc1 := 38) lkX10_76 (c_X11_slotOf _ _ _ _) rfl rfl ⟨Nat.le_of_ble_eq_true rfl, Nat.le_of_ble_eq_true rfl⟩ (Nat.le_of_ble_eq_true rfl) dX10_worthOf_35 rfl (fun v7 => ?_)
        refine r_istore_n (pc1 := 39) (i := 3) dX10_worthOf_38 rfl (by decide) rfl rfl rfl ?_
        refine r_iload_n (pc1 := 40) (i := 3) dX10_worthOf_39 rfl rfl rfl ?_
        refine r_if_eq (tgt := 49) (pc1 := 43) dX10_worthOf_40 (by decide) rfl (fun q8 => ?_) (fun q8 => ?_)
        · refine r_iconst (v := 0) (pc1 := 50) dX10_worthOf_49 ki_0 rfl ?_
          refine r_istore (pc1 := 52) dX10_worthOf_50 (by decide) rfl rfl rfl ?_
          refine r_aload_n (pc1 := 53) (i := 0) dX10_worthOf_52 rfl rfl rfl ?_
          refine r_getR (pc1 := 56) w_27 gfX10_36 rfl dX10_worthOf_53 rfl ?_
          refine r_iload_n (pc1 := 57) (i := 1) dX10_worthOf_56 rfl rfl rfl ?_
          refine r_callVp (pc1 := 60) (rv_of w_3 cl_6) lkX10_80 (c_X6_sizeOf w_3 w_4 w_8 _ _) rfl rfl ⟨Nat.le_of_ble_eq_true rfl, Nat.le_of_ble_eq_true rfl⟩ (Nat.le_of_ble_eq_true rfl) dX10_worthOf_57 rfl (fun v9 => ?_)
          refine r_istore (pc1 := 62) dX10_worthOf_60 (by decide) rfl rfl rfl ?_
          refine r_iconst (v := 0) (pc1 := 63) dX10_worthOf_62 ki_0 rfl ?_
          refine r_istore (pc1 := 65) dX10_worthOf_63 (by decide) rfl rfl rfl ?_
          refine r_jn (hyp := fun (k12 : Int32 → SS → Res) => ∀ (v10 : Int32) (s11 : SS), RC l wF RX10 cX10_worthOf 7 (some .int) 3 114 [.ref 27, .int a1, .int a2, .null, .int v10, .null, .null] [] s11 (k12 v10 s11)) (fun v10 s11 => ?_) (fun k12 hk12 => ?_)
          · refine r_aload_n (pc1 := 115) (i := 0) dX10_worthOf_114 rfl rfl rfl ?_
            refine r_getR (pc1 := 118) w_27 gfX10_29 rfl dX10_worthOf_115 rfl ?_
            refine r_iload_n (pc1 := 119) (i := 1) dX10_worthOf_118 rfl rfl rfl ?_
            refine r_aload_n (pc1 := 120) (i := 0) dX10_worthOf_119 rfl rfl rfl ?_
            refine r_getR (pc1 := 123) w_27 gfX10_29 rfl dX10_worthOf_120 rfl ?_
            refine r_iload_n (pc1 := 124) (i := 1) dX10_worthOf_123 rfl rfl rfl ?_
            refine r_lald (pc1 := 125) w_33 dX10_worthOf_124 rfl ?_
            refine r_iload_n (pc1 := 126) (i := 2) dX10_worthOf_125 rfl rfl rfl ?_
            refine r_bipush (v := 16) (pc1 := 128) dX10_worthOf_126 kb_16 rfl ?_
            refine r_iload (pc1 := 130) dX10_worthOf_128 rfl rfl ?_
            refine r_sipush (v := 1000) (pc1 := 133) dX10_worthOf_130 ks_1000 rfl ?_
            refine r_iadd (pc1 := 134) dX10_worthOf_133 rfl ?_
            refine r_callSNl (pc1 := 137) lkX10_97 (c_withSlot _ _ _ _) rfl rfl ⟨Nat.le_of_ble_eq_true rfl, Nat.le_of_ble_eq_true rfl⟩ (Nat.le_of_ble_eq_true rfl) dX10_worthOf_134 rfl ?_
            refine r_last (pc1 := 138) w_33 dX10_worthOf_137 rfl ?_
            refine r_lts (fun s13 => ?_)
            refine r_iload (pc1 := 140) dX10_worthOf_138 rfl rfl ?_
            exact r_iret rfl rfl dX10_worthOf_140
          · exact r_wk (t_lp_X10_worthOf_65 a1 a2 v9 k12 hk12 FU 0 0 s6) ⟨Or.inr rfl, Or.inr rfl, Or.inr rfl, Or.inl rfl, Or.inr rfl, Or.inr rfl, Or.inr rfl, trivial⟩
        · refine r_iload_n (pc1 := 44) (i := 3) dX10_worthOf_43 rfl rfl rfl ?_
          refine r_sipush (v := 1000) (pc1 := 47) dX10_worthOf_44 ks_1000 rfl ?_
          refine r_isub (pc1 := 48) dX10_worthOf_47 rfl ?_
          exact r_iret rfl rfl dX10_worthOf_48
/-! f_X11_worth -/
noncomputable def f_X11_worth (a1 : Int32) (s0 : SS) : Res := bdp (f_X11_isPerson a1 s0) (fun (v1 : Int32) => if (v1 : Int32) = 0 then some ((-1000000), s0) else bd (f_X10_worthOf (s0 52 0) a1 s0) (fun (v3 : Int32) (s4 : SS) => some (v3, s4)))
set_option maxRecDepth 100000 in
set_option maxHeartbeats 4000000 in
theorem c_X11_worth {l : Launch} (a1 : Int32) (s0 : SS) : Ct l wF yX11_worth cX11_worth 2 (some .int) 4 [.ref 0, .int a1] s0 (f_X11_worth a1 s0) := by
  refine ct_of (y := yX11_worth) plX11 (Nat.le_of_ble_eq_true rfl) ?_
  refine r_pad0 0 (L1 := [.ref 0, .int a1]) rfl ?_
  unfold f_X11_worth
  refine r_iload_n (pc1 := 1) (i := 1) dX11_worth_0 rfl rfl rfl ?_
  refine r_callSp (pc1 := 4) lkX11_142 (c_X11_isPerson _ _) rfl rfl ⟨Nat.le_of_ble_eq_true rfl, Nat.le_of_ble_eq_true rfl⟩ (Nat.le_of_ble_eq_true rfl) dX11_worth_1 rfl (fun v1 => ?_)
  refine r_if_eq (tgt := 25) (pc1 := 7) dX11_worth_4 (by decide) rfl (fun q2 => ?_) (fun q2 => ?_)
  · refine r_ldc (v := (-1000000)) (pc1 := 27) dX11_worth_25 cnX11_191 rfl ?_
    exact r_iret rfl rfl dX11_worth_27
  · refine r_aload_n (pc1 := 8) (i := 0) dX11_worth_7 rfl rfl rfl ?_
    refine r_getR (pc1 := 11) w_0 gfX11_42 rfl dX11_worth_8 rfl ?_
    refine r_aload_n (pc1 := 12) (i := 0) dX11_worth_11 rfl rfl rfl ?_
    refine r_getR (pc1 := 15) w_0 gfX11_88 rfl dX11_worth_12 rfl ?_
    refine r_getI (pc1 := 18) w_52 gfX11_122 rfl dX11_worth_15 rfl ?_
    refine r_iload_n (pc1 := 19) (i := 1) dX11_worth_18 rfl rfl rfl ?_
    refine r_callVi (pc1 := 22) (rv_of w_27 cl_10) lkX11_188 (c_X10_worthOf _ _ _) rfl rfl ⟨Nat.le_of_ble_eq_true rfl, Nat.le_of_ble_eq_true rfl⟩ (Nat.le_of_ble_eq_true rfl) dX11_worth_19 rfl (fun v3 s4 => ?_)
    refine r_goto (tgt := 27) dX11_worth_22 (by decide) ?_
    exact r_iret rfl rfl dX11_worth_27
/-! f_X10_valueOfOldest -/
noncomputable def f_X10_valueOfOldest (a1 : Int32) (a2 : Int32) (s0 : SS) : Res := bdp (f_X6_oldestOn a1 s0) (fun (v1 : Int32) => bd (f_X10_describe a1 v1 0 a2 s0) (fun (v2 : Int32) (s3 : SS) => bd (f_X1_valueOf 118 s3) (fun (v4 : Int32) (s5 : SS) => some (v4, s5))))
set_option maxRecDepth 100000 in
set_option maxHeartbeats 4000000 in
theorem c_X10_valueOfOldest {l : Launch} (a1 : Int32) (a2 : Int32) (s0 : SS) : Ct l wF yX10_valueOfOldest cX10_valueOfOldest 3 (some .int) 3 [.ref 27, .int a1, .int a2] s0 (f_X10_valueOfOldest a1 a2 s0) := by
  refine ct_of (y := yX10_valueOfOldest) plX10 (Nat.le_of_ble_eq_true rfl) ?_
  refine r_pad0 0 (L1 := [.ref 27, .int a1, .int a2]) rfl ?_
  unfold f_X10_valueOfOldest
  refine r_aload_n (pc1 := 1) (i := 0) dX10_valueOfOldest_0 rfl rfl rfl ?_
  refine r_iload_n (pc1 := 2) (i := 1) dX10_valueOfOldest_1 rfl rfl rfl ?_
  refine r_aload_n (pc1 := 3) (i := 0) dX10_valueOfOldest_2 rfl rfl rfl ?_
  refine r_getR (pc1 := 6) w_27 gfX10_36 rfl dX10_valueOfOldest_3 rfl ?_
  refine r_iload_n (pc1 := 7) (i := 1) dX10_valueOfOldest_6 rfl rfl rfl ?_
  refine r_callVp (pc1 := 10) (rv_of w_3 cl_6) lkX10_101 (c_X6_oldestOn w_3 w_4 w_8 _ _) rfl rfl ⟨Nat.le_of_ble_eq_true rfl, Nat.le_of_ble_eq_true rfl⟩ (Nat.le_of_ble_eq_true rfl) dX10_valueOfOldest_7 rfl (fun v1 => ?_)
  refine r_iconst (v := 0) (pc1 := 11) dX10_valueOfOldest_10 ki_0 rfl ?_
  refine r_iload_n (pc1 := 12) (i := 2) dX10_valueOfOldest_11 rfl rfl rfl ?_
  refine r_callVv (pc1 := 15) (rv_of w_27 cl_10) lkX10_87 (c_X10_describe _ _ _ _ _) rfl rfl ⟨Nat.le_of_ble_eq_true rfl, Nat.le_of_ble_eq_true rfl⟩ (Nat.le_of_ble_eq_true rfl) dX10_valueOfOldest_12 rfl (fun v2 s3 => ?_)
  refine r_aload_n (pc1 := 16) (i := 0) dX10_valueOfOldest_15 rfl rfl rfl ?_
  refine r_getR (pc1 := 19) w_27 gfX10_40 rfl dX10_valueOfOldest_16 rfl ?_
  refine r_bipush (v := 118) (pc1 := 21) dX10_valueOfOldest_19 kb_118 rfl ?_
  refine r_aload_n (pc1 := 22) (i := 0) dX10_valueOfOldest_21 rfl rfl rfl ?_
  refine r_getR (pc1 := 25) w_27 gfX10_24 rfl dX10_valueOfOldest_22 rfl ?_
  refine r_callVi (pc1 := 28) (rv_of w_9 cl_1) lkX10_91 (c_X1_valueOf _ _) rfl rfl ⟨Nat.le_of_ble_eq_true rfl, Nat.le_of_ble_eq_true rfl⟩ (Nat.le_of_ble_eq_true rfl) dX10_valueOfOldest_25 rfl (fun v4 s5 => ?_)
  exact r_iret rfl rfl dX10_valueOfOldest_28
/-! f_X2_choice -/
noncomputable def lp_X2_choice_193 (a1 : Int32) (a2 : Int32) (v5 : Int32) : Nat → Int32 → Int32 → Int32 → SS → Res
  | 0, _, _, _, _ => none
  | n20 + 1, v16, v17, v18, s19 => if (8 : Int32) ≤ (v18 : Int32) then some (v16, s19) else jn (fun (v22 : Int32) (s23 : SS) => jn (fun (v25 : Int32) (v26 : Int32) => lp_X2_choice_193 a1 a2 v5 n20 v25 v26 (v18 + 1) s23) (fun (k27 : Int32 → Int32 → Res) => if (v22 : Int32) ≤ (v17 : Int32) then k27 v16 v17 else k27 v18 v22)) (fun (k24 : Int32 → SS → Res) => if ((v5 >>> (v18 &&& 31)) &&& 1 : Int32) = (1 : Int32) then bdp (f_X6_behind a2 v18 s19) (fun (v30 : Int32) => bd (f_X10_worthOf v30 a1 s19) (fun (v31 : Int32) (s32 : SS) => k24 v31 s32)) else k24 ((-1000000000)) s19)
noncomputable def f_X2_choice (a1 : Int32) (a2 : Int32) (s0 : SS) : Res := bdp (f_X11_isPerson a1 s0) (fun (v1 : Int32) => jn (fun (v2 : Int32) => if (v2 : Int32) = 0 then some (8, s0) else bd (f_X10_mayOf a2 a1 s0) (fun (v5 : Int32) (s6 : SS) => if (v2 : Int32) = (4 : Int32) then gd (inb a1 4) (lt ((s6 37 (Int32.toNatClampNeg a1)) &&& 7) (fun (v8 : Int32) => bdp (f_X6_standingOn a2 s6) (fun (v9 : Int32) => if (((v5 &&& (v9 ^^^ ((-1)))) >>> (v8 &&& 31)) &&& 1 : Int32) = (1 : Int32) then some (v8, s6) else some (8, s6)))) else jn (fun (s11 : SS) => jn (fun (v13 : Int32) (s14 : SS) => lp_X2_choice_193 a1 a2 v5 FU 8 v13 0 s14) (fun (k15 : Int32 → SS → Res) => if (v2 : Int32) = (1 : Int32) then bd (f_X10_worthOf a2 a1 s11) (fun (v34 : Int32) (s35 : SS) => k15 v34 s35) else k15 ((-1000000000)) s11)) (fun (k12 : SS → Res) => jn (bdp (f_X6_isFull a2 s6) (fun (v37 : Int32) => jn (fun (v38 : Int32) (s39 : SS) => bdp (f_X6_oldestOn a2 s39) (fun (v41 : Int32) => if (v2 : Int32) = (2 : Int32) then if (v38 : Int32) ≤ 0 then some (8, s39) else if ((v5 >>> (v41 &&& 31)) &&& 1 : Int32) = (1 : Int32) then some (v41, s39) else some (8, s39) else if (v38 : Int32) < 0 then k12 s39 else some (8, s39))) (fun (k40 : Int32 → SS → Res) => if (v37 : Int32) = 0 then k40 0 s6 else bd (f_X10_valueOfOldest a2 a1 s6) (fun (v47 : Int32) (s48 : SS) => k40 v47 s48)))) (fun (k36 : Res) => if (v2 : Int32) = (2 : Int32) then k36 else if (v2 : Int32) = (3 : Int32) then k36 else k12 s6)))) (fun (k3 : Int32 → Res) => if (v1 : Int32) = 0 then k3 0 else gd (inb a1 4) (k3 (s0 36 (Int32.toNatClampNeg a1)))))
set_option maxRecDepth 100000 in
set_option maxHeartbeats 4000000 in
theorem t_lp_X2_choice_193 {l : Launch} (a1 : Int32) (a2 : Int32) (v5 : Int32)  : ∀ (n20 : Nat) (v16 : Int32) (v17 : Int32) (v18 : Int32) (s19 : SS), RC l wF RX2 cX2_choice 9 (some .int) 4 193 [.ref 35, .int a1, .int a2, .null, .int v5, .int v16, .int v17, .int v18, .null] [] s19 (lp_X2_choice_193 a1 a2 v5 n20 v16 v17 v18 s19) := by
  intro n20
  induction n20 with
  | zero =>
    intro v16 v17 v18 s19
    rw [lp_X2_choice_193]
    exact r_none
  | succ n20 ih =>
    intro v16 v17 v18 s19
    rw [lp_X2_choice_193]
    refine r_iload (pc1 := 195) dX2_choice_193 rfl rfl ?_
    refine r_bipush (v := 8) (pc1 := 197) dX2_choice_195 kb_8 rfl ?_
    refine r_icmp_ge (tgt := 257) (pc1 := 200) dX2_choice_197 (by decide) rfl (fun q21 => ?_) (fun q21 => ?_)
    · refine r_iload (pc1 := 259) dX2_choice_257 rfl rfl ?_
      exact r_iret rfl rfl dX2_choice_259
    · refine r_iload (pc1 := 202) dX2_choice_200 rfl rfl ?_
      refine r_iload (pc1 := 204) dX2_choice_202 rfl rfl ?_
      refine r_ishr (pc1 := 205) dX2_choice_204 rfl ?_
      refine r_iconst (v := 1) (pc1 := 206) dX2_choice_205 ki_1 rfl ?_
      refine r_iand (pc1 := 207) dX2_choice_206 rfl ?_
      refine r_iconst (v := 1) (pc1 := 208) dX2_choice_207 ki_1 rfl ?_
      refine r_jn (hyp := fun (k24 : Int32 → SS → Res) => ∀ (v22 : Int32) (s23 : SS), RC l wF RX2 cX2_choice 9 (some .int) 4 234 [.ref 35, .int a1, .int a2, .null, .int v5, .int v16, .int v17, .int v18, .null] [.int v22] s23 (k24 v22 s23)) (fun v22 s23 => ?_) (fun k24 hk24 => ?_)
      · refine r_istore (pc1 := 236) dX2_choice_234 (by decide) rfl rfl rfl ?_
        refine r_iload (pc1 := 238) dX2_choice_236 rfl rfl ?_
        refine r_iload (pc1 := 240) dX2_choice_238 rfl rfl ?_
        refine r_jn (hyp := fun (k27 : Int32 → Int32 → Res) => ∀ (v25 : Int32) (v26 : Int32), RC l wF RX2 cX2_choice 9 (some .int) 4 251 [.ref 35, .int a1, .int a2, .null, .int v5, .int v25, .int v26, .int v18, .null] [] s23 (k27 v25 v26)) (fun v25 v26 => ?_) (fun k27 hk27 => ?_)
        · refine r_iinc (pc1 := 254) dX2_choice_251 rfl (kn_1 _) (by decide) rfl rfl rfl ?_
          refine r_goto (tgt := 193) dX2_choice_254 (by decide) ?_
          exact r_wk (ih v25 v26 (v18 + 1) s23) ⟨Or.inr rfl, Or.inr rfl, Or.inr rfl, Or.inl rfl, Or.inr rfl, Or.inr rfl, Or.inr rfl, Or.inr rfl, Or.inl rfl, trivial⟩
        · refine r_icmp_le (tgt := 251) (pc1 := 243) dX2_choice_240 (by decide) rfl (fun q28 => ?_) (fun q28 => ?_)
          · exact r_wk (hk27 v16 v17) ⟨Or.inr rfl, Or.inr rfl, Or.inr rfl, Or.inl rfl, Or.inr rfl, Or.inr rfl, Or.inr rfl, Or.inr rfl, Or.inl rfl, trivial⟩
          · refine r_iload (pc1 := 245) dX2_choice_243 rfl rfl ?_
            refine r_istore (pc1 := 247) dX2_choice_245 (by decide) rfl rfl rfl ?_
            refine r_iload (pc1 := 249) dX2_choice_247 rfl rfl ?_
            refine r_istore (pc1 := 251) dX2_choice_249 (by decide) rfl rfl rfl ?_
            exact r_wk (hk27 v18 v22) ⟨Or.inr rfl, Or.inr rfl, Or.inr rfl, Or.inl rfl, Or.inr rfl, Or.inr rfl, Or.inr rfl, Or.inr rfl, Or.inl rfl, trivial⟩
      · refine r_icmp_ne (tgt := 232) (pc1 := 211) dX2_choice_208 (by decide) rfl (fun q29 => ?_) (fun q29 => ?_)
        · refine r_aload_n (pc1 := 212) (i := 0) dX2_choice_211 rfl rfl rfl ?_
          refine r_getR (pc1 := 215) w_35 gfX2_29 rfl dX2_choice_212 rfl ?_
          refine r_aload_n (pc1 := 216) (i := 0) dX2_choice_215 rfl rfl rfl ?_
          refine r_getR (pc1 := 219) w_35 gfX2_25 rfl dX2_choice_216 rfl ?_
          refine r_iload_n (pc1 := 220) (i := 2) dX2_choice_219 rfl rfl rfl ?_
          refine r_iload (pc1 := 222) dX2_choice_220 rfl rfl ?_
          refine r_callVp (pc1 := 225) (rv_of w_3 cl_6) lkX2_67 (c_X6_behind w_3 w_4 w_8 _ _ _) rfl rfl ⟨Nat.le_of_ble_eq_true rfl, Nat.le_of_ble_eq_true rfl⟩ (Nat.le_of_ble_eq_true rfl) dX2_choice_222 rfl (fun v30 => ?_)
          refine r_iload_n (pc1 := 226) (i := 1) dX2_choice_225 rfl rfl rfl ?_
          refine r_callVi (pc1 := 229) (rv_of w_27 cl_10) lkX2_63 (c_X10_worthOf _ _ _) rfl rfl ⟨Nat.le_of_ble_eq_true rfl, Nat.le_of_ble_eq_true rfl⟩ (Nat.le_of_ble_eq_true rfl) dX2_choice_226 rfl (fun v31 s32 => ?_)
          refine r_goto (tgt := 234) dX2_choice_229 (by decide) ?_
          exact r_wk (hk24 v31 s32) ⟨Or.inr rfl, Or.inr rfl, Or.inr rfl, Or.inl rfl, Or.inr rfl, Or.inr rfl, Or.inr rfl, Or.inr rfl, Or.inl rfl, trivial⟩
        · refine r_ldc (v := (-1000000000)) (pc1 := 234) dX2_choice_232 cnX2_66 rfl ?_
          exact r_wk (hk24 ((-1000000000)) s19) ⟨Or.inr rfl, Or.inr rfl, Or.inr rfl, Or.inl rfl, Or.inr rfl, Or.inr rfl, Or.inr rfl, Or.inr rfl, Or.inl rfl, trivial⟩
set_option maxRecDepth 100000 in
set_option maxHeartbeats 4000000 in
theorem c_X2_choice {l : Launch} (a1 : Int32) (a2 : Int32) (s0 : SS) : Ct l wF yX2_choice cX2_choice 9 (some .int) 4 [.ref 35, .int a1, .int a2] s0 (f_X2_choice a1 a2 s0) := by
  refine ct_of (y := yX2_choice) plX2 (Nat.le_of_ble_eq_true rfl) ?_
  refine r_pad0 6 (L1 := [.ref 35, .int a1, .int a2, .null, .null, .null, .null, .null, .null]) rfl ?_
  unfold f_X2_choice
  refine r_iload_n (pc1 := 1) (i := 1) dX2_choice_0 rfl rfl rfl ?_
  refine r_callSNp (pc1 := 4) lkX2_33 (c_X11_isPerson _ _) rfl rfl ⟨Nat.le_of_ble_eq_true rfl, Nat.le_of_ble_eq_true rfl⟩ (Nat.le_of_ble_eq_true rfl) dX2_choice_1 rfl (fun v1 => ?_)
  refine r_jn (hyp := fun (k3 : Int32 → Res) => ∀ (v2 : Int32), RC l wF RX2 cX2_choice 9 (some .int) 4 17 [.ref 35, .int a1, .int a2, .null, .null, .null, .null, .null, .null] [.int v2] s0 (k3 v2)) (fun v2 => ?_) (fun k3 hk3 => ?_)
  · refine r_istore_n (pc1 := 18) (i := 3) dX2_choice_17 rfl (by decide) rfl rfl rfl ?_
    refine r_iload_n (pc1 := 19) (i := 3) dX2_choice_18 rfl rfl rfl ?_
    refine r_if_ne (tgt := 25) (pc1 := 22) dX2_choice_19 (by decide) rfl (fun q4 => ?_) (fun q4 => ?_)
    · refine r_bipush (v := 8) (pc1 := 24) dX2_choice_22 kb_8 rfl ?_
      exact r_iret rfl rfl dX2_choice_24
    · refine r_aload_n (pc1 := 26) (i := 0) dX2_choice_25 rfl rfl rfl ?_
      refine r_getR (pc1 := 29) w_35 gfX2_29 rfl dX2_choice_26 rfl ?_
      refine r_iload_n (pc1 := 30) (i := 2) dX2_choice_29 rfl rfl rfl ?_
      refine r_iload_n (pc1 := 31) (i := 1) dX2_choice_30 rfl rfl rfl ?_
      refine r_callVi (pc1 := 34) (rv_of w_27 cl_10) lkX2_43 (c_X10_mayOf _ _ _) rfl rfl ⟨Nat.le_of_ble_eq_true rfl, Nat.le_of_ble_eq_true rfl⟩ (Nat.le_of_ble_eq_true rfl) dX2_choice_31 rfl (fun v5 s6 => ?_)
      refine r_istore (pc1 := 36) dX2_choice_34 (by decide) rfl rfl rfl ?_
      refine r_iload_n (pc1 := 37) (i := 3) dX2_choice_36 rfl rfl rfl ?_
      refine r_iconst (v := 4) (pc1 := 38) dX2_choice_37 ki_4 rfl ?_
      refine r_icmp_ne (tgt := 82) (pc1 := 41) dX2_choice_38 (by decide) rfl (fun q7 => ?_) (fun q7 => ?_)
      · refine r_aload_n (pc1 := 42) (i := 0) dX2_choice_41 rfl rfl rfl ?_
        refine r_getR (pc1 := 45) w_35 gfX2_15 rfl dX2_choice_42 rfl ?_
        refine r_iload_n (pc1 := 46) (i := 1) dX2_choice_45 rfl rfl rfl ?_
        refine r_iald (pc1 := 47) w_37 dX2_choice_46 rfl ?_
        refine r_bipush (v := 7) (pc1 := 49) dX2_choice_47 kb_7 rfl ?_
        refine r_iand (pc1 := 50) dX2_choice_49 rfl ?_
        refine r_lt (fun v8 => ?_)
        refine r_istore (pc1 := 52) dX2_choice_50 (by decide) rfl rfl rfl ?_
        refine r_iload (pc1 := 54) dX2_choice_52 rfl rfl ?_
        refine r_aload_n (pc1 := 55) (i := 0) dX2_choice_54 rfl rfl rfl ?_
        refine r_getR (pc1 := 58) w_35 gfX2_25 rfl dX2_choice_55 rfl ?_
        refine r_iload_n (pc1 := 59) (i := 2) dX2_choice_58 rfl rfl rfl ?_
        refine r_callVp (pc1 := 62) (rv_of w_3 cl_6) lkX2_49 (c_X6_standingOn w_3 w_4 w_8 _ _) rfl rfl ⟨Nat.le_of_ble_eq_true rfl, Nat.le_of_ble_eq_true rfl⟩ (Nat.le_of_ble_eq_true rfl) dX2_choice_59 rfl (fun v9 => ?_)
        refine r_iconst (v := (-1)) (pc1 := 63) dX2_choice_62 ki_m1 rfl ?_
        refine r_ixor (pc1 := 64) dX2_choice_63 rfl ?_
        refine r_iand (pc1 := 65) dX2_choice_64 rfl ?_
        refine r_iload (pc1 := 67) dX2_choice_65 rfl rfl ?_
        refine r_ishr (pc1 := 68) dX2_choice_67 rfl ?_
        refine r_iconst (v := 1) (pc1 := 69) dX2_choice_68 ki_1 rfl ?_
        refine r_iand (pc1 := 70) dX2_choice_69 rfl ?_
        refine r_iconst (v := 1) (pc1 := 71) dX2_choice_70 ki_1 rfl ?_
        refine r_icmp_ne (tgt := 79) (pc1 := 74) dX2_choice_71 (by decide) rfl (fun q10 => ?_) (fun q10 => ?_)
        · refine r_iload (pc1 := 76) dX2_choice_74 rfl rfl ?_
          refine r_goto (tgt := 81) dX2_choice_76 (by decide) ?_
          exact r_iret rfl rfl dX2_choice_81
        · refine r_bipush (v := 8) (pc1 := 81) dX2_choice_79 kb_8 rfl ?_
          exact r_iret rfl rfl dX2_choice_81
      · refine r_iload_n (pc1 := 83) (i := 3) dX2_choice_82 rfl rfl rfl ?_
        refine r_iconst (v := 2) (pc1 := 84) dX2_choice_83 ki_2 rfl ?_
        refine r_jn (hyp := fun (k12 : SS → Res) => ∀ (s11 : SS), RC l wF RX2 cX2_choice 9 (some .int) 4 165 [.ref 35, .int a1, .int a2, .int v2, .int v5, .null, .null, .null, .null] [] s11 (k12 s11)) (fun s11 => ?_) (fun k12 hk12 => ?_)
        · refine r_bipush (v := 8) (pc1 := 167) dX2_choice_165 kb_8 rfl ?_
          refine r_istore (pc1 := 169) dX2_choice_167 (by decide) rfl rfl rfl ?_
          refine r_iload_n (pc1 := 170) (i := 3) dX2_choice_169 rfl rfl rfl ?_
          refine r_iconst (v := 1) (pc1 := 171) dX2_choice_170 ki_1 rfl ?_
          refine r_jn (hyp := fun (k15 : Int32 → SS → Res) => ∀ (v13 : Int32) (s14 : SS), RC l wF RX2 cX2_choice 9 (some .int) 4 188 [.ref 35, .int a1, .int a2, .null, .int v5, .int 8, .null, .null, .null] [.int v13] s14 (k15 v13 s14)) (fun v13 s14 => ?_) (fun k15 hk15 => ?_)
          · refine r_istore (pc1 := 190) dX2_choice_188 (by decide) rfl rfl rfl ?_
            refine r_iconst (v := 0) (pc1 := 191) dX2_choice_190 ki_0 rfl ?_
            refine r_istore (pc1 := 193) dX2_choice_191 (by decide) rfl rfl rfl ?_
            exact r_wk (t_lp_X2_choice_193 a1 a2 v5 FU 8 v13 0 s14) ⟨Or.inr rfl, Or.inr rfl, Or.inr rfl, Or.inl rfl, Or.inr rfl, Or.inr rfl, Or.inr rfl, Or.inr rfl, Or.inl rfl, trivial⟩
          · refine r_icmp_ne (tgt := 186) (pc1 := 174) dX2_choice_171 (by decide) rfl (fun q33 => ?_) (fun q33 => ?_)
            · refine r_aload_n (pc1 := 175) (i := 0) dX2_choice_174 rfl rfl rfl ?_
              refine r_getR (pc1 := 178) w_35 gfX2_29 rfl dX2_choice_175 rfl ?_
              refine r_iload_n (pc1 := 179) (i := 2) dX2_choice_178 rfl rfl rfl ?_
              refine r_iload_n (pc1 := 180) (i := 1) dX2_choice_179 rfl rfl rfl ?_
              refine r_callVi (pc1 := 183) (rv_of w_27 cl_10) lkX2_63 (c_X10_worthOf _ _ _) rfl rfl ⟨Nat.le_of_ble_eq_true rfl, Nat.le_of_ble_eq_true rfl⟩ (Nat.le_of_ble_eq_true rfl) dX2_choice_180 rfl (fun v34 s35 => ?_)
              refine r_goto (tgt := 188) dX2_choice_183 (by decide) ?_
              exact r_wk (hk15 v34 s35) ⟨Or.inr rfl, Or.inr rfl, Or.inr rfl, Or.inl rfl, Or.inr rfl, Or.inr rfl, Or.inl rfl, Or.inl rfl, Or.inl rfl, trivial⟩
            · refine r_ldc (v := (-1000000000)) (pc1 := 188) dX2_choice_186 cnX2_66 rfl ?_
              exact r_wk (hk15 ((-1000000000)) s11) ⟨Or.inr rfl, Or.inr rfl, Or.inr rfl, Or.inl rfl, Or.inr rfl, Or.inr rfl, Or.inl rfl, Or.inl rfl, Or.inl rfl, trivial⟩
        · refine r_jn (hyp := fun (k36 : Res) => RC l wF RX2 cX2_choice 9 (some .int) 4 92 [.ref 35, .int a1, .int a2, .int v2, .int v5, .null, .null, .null, .null] [] s6 k36) (?_) (fun k36 hk36 => ?_)
          · refine r_aload_n (pc1 := 93) (i := 0) dX2_choice_92 rfl rfl rfl ?_
            refine r_getR (pc1 := 96) w_35 gfX2_25 rfl dX2_choice_93 rfl ?_
            refine r_iload_n (pc1 := 97) (i := 2) dX2_choice_96 rfl rfl rfl ?_
            refine r_callVp (pc1 := 100) (rv_of w_3 cl_6) lkX2_54 (c_X6_isFull w_3 w_4 w_8 _ _) rfl rfl ⟨Nat.le_of_ble_eq_true rfl, Nat.le_of_ble_eq_true rfl⟩ (Nat.le_of_ble_eq_true rfl) dX2_choice_97 rfl (fun v37 => ?_)
            refine r_jn (hyp := fun (k40 : Int32 → SS → Res) => ∀ (v38 : Int32) (s39 : SS), RC l wF RX2 cX2_choice 9 (some .int) 4 116 [.ref 35, .int a1, .int a2, .int v2, .int v5, .null, .null, .null, .null] [.int v38] s39 (k40 v38 s39)) (fun v38 s39 => ?_) (fun k40 hk40 => ?_)
            · refine r_istore (pc1 := 118) dX2_choice_116 (by decide) rfl rfl rfl ?_
              refine r_aload_n (pc1 := 119) (i := 0) dX2_choice_118 rfl rfl rfl ?_
              refine r_getR (pc1 := 122) w_35 gfX2_25 rfl dX2_choice_119 rfl ?_
              refine r_iload_n (pc1 := 123) (i := 2) dX2_choice_122 rfl rfl rfl ?_
              refine r_callVp (pc1 := 126) (rv_of w_3 cl_6) lkX2_60 (c_X6_oldestOn w_3 w_4 w_8 _ _) rfl rfl ⟨Nat.le_of_ble_eq_true rfl, Nat.le_of_ble_eq_true rfl⟩ (Nat.le_of_ble_eq_true rfl) dX2_choice_123 rfl (fun v41 => ?_)
              refine r_istore (pc1 := 128) dX2_choice_126 (by decide) rfl rfl rfl ?_
              refine r_iload_n (pc1 := 129) (i := 3) dX2_choice_128 rfl rfl rfl ?_
              refine r_iconst (v := 2) (pc1 := 130) dX2_choice_129 ki_2 rfl ?_
              refine r_icmp_ne (tgt := 157) (pc1 := 133) dX2_choice_130 (by decide) rfl (fun q42 => ?_) (fun q42 => ?_)
              · refine r_iload (pc1 := 135) dX2_choice_133 rfl rfl ?_
                refine r_if_le (tgt := 154) (pc1 := 138) dX2_choice_135 (by decide) rfl (fun q43 => ?_) (fun q43 => ?_)
                · refine r_bipush (v := 8) (pc1 := 156) dX2_choice_154 kb_8 rfl ?_
                  exact r_iret rfl rfl dX2_choice_156
                · refine r_iload (pc1 := 140) dX2_choice_138 rfl rfl ?_
                  refine r_iload (pc1 := 142) dX2_choice_140 rfl rfl ?_
                  refine r_ishr (pc1 := 143) dX2_choice_142 rfl ?_
                  refine r_iconst (v := 1) (pc1 := 144) dX2_choice_143 ki_1 rfl ?_
                  refine r_iand (pc1 := 145) dX2_choice_144 rfl ?_
                  refine r_iconst (v := 1) (pc1 := 146) dX2_choice_145 ki_1 rfl ?_
                  refine r_icmp_ne (tgt := 154) (pc1 := 149) dX2_choice_146 (by decide) rfl (fun q44 => ?_) (fun q44 => ?_)
                  · refine r_iload (pc1 := 151) dX2_choice_149 rfl rfl ?_
                    refine r_goto (tgt := 156) dX2_choice_151 (by decide) ?_
                    exact r_iret rfl rfl dX2_choice_156
                  · refine r_bipush (v := 8) (pc1 := 156) dX2_choice_154 kb_8 rfl ?_
                    exact r_iret rfl rfl dX2_choice_156
              · refine r_iload (pc1 := 159) dX2_choice_157 rfl rfl ?_
                refine r_if_lt (tgt := 165) (pc1 := 162) dX2_choice_159 (by decide) rfl (fun q45 => ?_) (fun q45 => ?_)
                · exact r_wk (hk12 s39) ⟨Or.inr rfl, Or.inr rfl, Or.inr rfl, Or.inr rfl, Or.inr rfl, Or.inl rfl, Or.inl rfl, Or.inl rfl, Or.inl rfl, trivial⟩
                · refine r_bipush (v := 8) (pc1 := 164) dX2_choice_162 kb_8 rfl ?_
                  exact r_iret rfl rfl dX2_choice_164
            · refine r_if_eq (tgt := 115) (pc1 := 103) dX2_choice_100 (by decide) rfl (fun q46 => ?_) (fun q46 => ?_)
              · refine r_iconst (v := 0) (pc1 := 116) dX2_choice_115 ki_0 rfl ?_
                exact r_wk (hk40 0 s6) ⟨Or.inr rfl, Or.inr rfl, Or.inr rfl, Or.inr rfl, Or.inr rfl, Or.inl rfl, Or.inl rfl, Or.inl rfl, Or.inl rfl, trivial⟩
              · refine r_aload_n (pc1 := 104) (i := 0) dX2_choice_103 rfl rfl rfl ?_
                refine r_getR (pc1 := 107) w_35 gfX2_29 rfl dX2_choice_104 rfl ?_
                refine r_iload_n (pc1 := 108) (i := 2) dX2_choice_107 rfl rfl rfl ?_
                refine r_iload_n (pc1 := 109) (i := 1) dX2_choice_108 rfl rfl rfl ?_
                refine r_callVi (pc1 := 112) (rv_of w_27 cl_10) lkX2_57 (c_X10_valueOfOldest _ _ _) rfl rfl ⟨Nat.le_of_ble_eq_true rfl, Nat.le_of_ble_eq_true rfl⟩ (Nat.le_of_ble_eq_true rfl) dX2_choice_109 rfl (fun v47 s48 => ?_)
                refine r_goto (tgt := 116) dX2_choice_112 (by decide) ?_
                exact r_wk (hk40 v47 s48) ⟨Or.inr rfl, Or.inr rfl, Or.inr rfl, Or.inr rfl, Or.inr rfl, Or.inl rfl, Or.inl rfl, Or.inl rfl, Or.inl rfl, trivial⟩
          · refine r_icmp_eq (tgt := 92) (pc1 := 87) dX2_choice_84 (by decide) rfl (fun q49 => ?_) (fun q49 => ?_)
            · exact r_wk (hk36) ⟨Or.inr rfl, Or.inr rfl, Or.inr rfl, Or.inr rfl, Or.inr rfl, Or.inl rfl, Or.inl rfl, Or.inl rfl, Or.inl rfl, trivial⟩
            · refine r_iload_n (pc1 := 88) (i := 3) dX2_choice_87 rfl rfl rfl ?_
              refine r_iconst (v := 3) (pc1 := 89) dX2_choice_88 ki_3 rfl ?_
              refine r_icmp_ne (tgt := 165) (pc1 := 92) dX2_choice_89 (by decide) rfl (fun q50 => ?_) (fun q50 => ?_)
              · exact r_wk (hk36) ⟨Or.inr rfl, Or.inr rfl, Or.inr rfl, Or.inr rfl, Or.inr rfl, Or.inl rfl, Or.inl rfl, Or.inl rfl, Or.inl rfl, trivial⟩
              · exact r_wk (hk12 s6) ⟨Or.inr rfl, Or.inr rfl, Or.inr rfl, Or.inr rfl, Or.inr rfl, Or.inl rfl, Or.inl rfl, Or.inl rfl, Or.inl rfl, trivial⟩
  · refine r_if_eq (tgt := 16) (pc1 := 7) dX2_choice_4 (by decide) rfl (fun q51 => ?_) (fun q51 => ?_)
    · refine r_iconst (v := 0) (pc1 := 17) dX2_choice_16 ki_0 rfl ?_
      exact r_wk (hk3 0) ⟨Or.inr rfl, Or.inr rfl, Or.inr rfl, Or.inl rfl, Or.inl rfl, Or.inl rfl, Or.inl rfl, Or.inl rfl, Or.inl rfl, trivial⟩
    · refine r_aload_n (pc1 := 8) (i := 0) dX2_choice_7 rfl rfl rfl ?_
      refine r_getR (pc1 := 11) w_35 gfX2_9 rfl dX2_choice_8 rfl ?_
      refine r_iload_n (pc1 := 12) (i := 1) dX2_choice_11 rfl rfl rfl ?_
      refine r_iald (pc1 := 13) w_36 dX2_choice_12 rfl ?_
      refine r_goto (tgt := 17) dX2_choice_13 (by decide) ?_
      exact r_wk (hk3 (s0 36 (Int32.toNatClampNeg a1))) ⟨Or.inr rfl, Or.inr rfl, Or.inr rfl, Or.inl rfl, Or.inl rfl, Or.inl rfl, Or.inl rfl, Or.inl rfl, Or.inl rfl, trivial⟩
/-! f_X11_would -/
noncomputable def f_X11_would (a1 : Int32) (s0 : SS) : Res := bdp (f_X11_isPerson a1 s0) (fun (v1 : Int32) => if (v1 : Int32) = 0 then some ((-1), s0) else bd (f_X2_choice a1 (s0 52 0) s0) (fun (v3 : Int32) (s4 : SS) => some (v3, s4)))
set_option maxRecDepth 100000 in
set_option maxHeartbeats 4000000 in
theorem c_X11_would {l : Launch} (a1 : Int32) (s0 : SS) : Ct l wF yX11_would cX11_would 2 (some .int) 5 [.ref 0, .int a1] s0 (f_X11_would a1 s0) := by
  refine ct_of (y := yX11_would) plX11 (Nat.le_of_ble_eq_true rfl) ?_
  refine r_pad0 0 (L1 := [.ref 0, .int a1]) rfl ?_
  unfold f_X11_would
  refine r_iload_n (pc1 := 1) (i := 1) dX11_would_0 rfl rfl rfl ?_
  refine r_callSp (pc1 := 4) lkX11_142 (c_X11_isPerson _ _) rfl rfl ⟨Nat.le_of_ble_eq_true rfl, Nat.le_of_ble_eq_true rfl⟩ (Nat.le_of_ble_eq_true rfl) dX11_would_1 rfl (fun v1 => ?_)
  refine r_if_eq (tgt := 25) (pc1 := 7) dX11_would_4 (by decide) rfl (fun q2 => ?_) (fun q2 => ?_)
  · refine r_iconst (v := (-1)) (pc1 := 26) dX11_would_25 ki_m1 rfl ?_
    exact r_iret rfl rfl dX11_would_26
  · refine r_aload_n (pc1 := 8) (i := 0) dX11_would_7 rfl rfl rfl ?_
    refine r_getR (pc1 := 11) w_0 gfX11_51 rfl dX11_would_8 rfl ?_
    refine r_iload_n (pc1 := 12) (i := 1) dX11_would_11 rfl rfl rfl ?_
    refine r_aload_n (pc1 := 13) (i := 0) dX11_would_12 rfl rfl rfl ?_
    refine r_getR (pc1 := 16) w_0 gfX11_88 rfl dX11_would_13 rfl ?_
    refine r_getI (pc1 := 19) w_52 gfX11_122 rfl dX11_would_16 rfl ?_
    refine r_callVi (pc1 := 22) (rv_of w_35 cl_2) lkX11_192 (c_X2_choice _ _ _) rfl rfl ⟨Nat.le_of_ble_eq_true rfl, Nat.le_of_ble_eq_true rfl⟩ (Nat.le_of_ble_eq_true rfl) dX11_would_19 rfl (fun v3 s4 => ?_)
    refine r_goto (tgt := 26) dX11_would_22 (by decide) ?_
    exact r_iret rfl rfl dX11_would_26
/-! f_X11_run -/
noncomputable def lp_X11_run_77 (a1 : Int32) (a2 : Int32) (k13 : Int32 → Int32 → Int32 → SS → Res) : Nat → Int32 → Int32 → Int32 → Int32 → Int32 → SS → Res
  | 0, _, _, _, _, _, _ => none
  | n23 + 1, v17, v18, v19, v20, v21, s22 => if (a1 : Int32) ≤ (v21 : Int32) then k13 v17 v19 v20 s22 else bdp (f_X2_onTurn v18 s22) (fun (v25 : Int32) => bd (f_X2_choice v25 v17 s22) (fun (v26 : Int32) (s27 : SS) => bdp (f_X6_behind v17 v26 s27) (fun (v28 : Int32) => bdp (f_X2_placeAfter v18 s27) (fun (v29 : Int32) => jn (fun (v30 : Int32) => lt (v20 + v30) (fun (v32 : Int32) => jn (fun (v33 : Int32) (s34 : SS) => lt (v19 + v33) (fun (v36 : Int32) => lp_X11_run_77 a1 a2 k13 n23 v28 v29 v36 v32 (v21 + 1) s34)) (fun (k35 : Int32 → SS → Res) => if (3 : Int32) < (a2 : Int32) then k35 0 s27 else bd (f_X10_worthOf v28 a2 s27) (fun (v38 : Int32) (s39 : SS) => k35 v38 s39)))) (fun (k31 : Int32 → Res) => if (v26 : Int32) = (8 : Int32) then k31 0 else k31 1)))))
noncomputable def f_X11_run (a1 : Int32) (a2 : Int32) (s0 : SS) : Res := bdp (f_X11_within a2 3 s0) (fun (v1 : Int32) => jn (fun (v2 : Int32) => if (a1 : Int32) < (1 : Int32) then some ((-1000000), s0) else if (60 : Int32) < (a1 : Int32) then some ((-1000000), s0) else if (v2 : Int32) = 0 then some ((-1000000), s0) else lt (s0 52 0) (fun (v7 : Int32) => lt (s0 52 1) (fun (v8 : Int32) => jn (fun (v9 : Int32) (v10 : Int32) (v11 : Int32) (s12 : SS) => if (a2 : Int32) = (20 : Int32) then some (v11, s12) else if (3 : Int32) < (a2 : Int32) then bdp (f_X6_lawOn v9 (a2 - 10) s12) (fun (v16 : Int32) => some (v16, s12)) else some (v10, s12)) (fun (k13 : Int32 → Int32 → Int32 → SS → Res) => lp_X11_run_77 a1 a2 k13 FU v7 v8 0 0 0 s0)))) (fun (k3 : Int32 → Res) => jn (k3 1) (fun (k41 : Res) => if (v1 : Int32) = 0 then jn (if (a2 : Int32) = (20 : Int32) then k41 else k3 0) (fun (k43 : Res) => if (a2 : Int32) < (10 : Int32) then k43 else if (a2 : Int32) ≤ (13 : Int32) then k41 else k43) else k41)))
set_option maxRecDepth 100000 in
set_option maxHeartbeats 4000000 in
theorem t_lp_X11_run_77 {l : Launch} (a1 : Int32) (a2 : Int32) (k13 : Int32 → Int32 → Int32 → SS → Res) (hk13 : ∀ (v9 : Int32) (v10 : Int32) (v11 : Int32) (s12 : SS), RC l wF RX11 cX11_run 10 (some .int) 5 174 [.ref 0, .null, .int a2, .null, .int v9, .null, .int v10, .int v11, .null, .null] [] s12 (k13 v9 v10 v11 s12)) : ∀ (n23 : Nat) (v17 : Int32) (v18 : Int32) (v19 : Int32) (v20 : Int32) (v21 : Int32) (s22 : SS), RC l wF RX11 cX11_run 10 (some .int) 5 77 [.ref 0, .int a1, .int a2, .null, .int v17, .int v18, .int v19, .int v20, .int v21, .null] [] s22 (lp_X11_run_77 a1 a2 k13 n23 v17 v18 v19 v20 v21 s22) := by
  intro n23
  induction n23 with
  | zero =>
    intro v17 v18 v19 v20 v21 s22
    rw [lp_X11_run_77]
    exact r_none
  | succ n23 ih =>
    intro v17 v18 v19 v20 v21 s22
    rw [lp_X11_run_77]
    refine r_iload (pc1 := 79) dX11_run_77 rfl rfl ?_
    refine r_iload_n (pc1 := 80) (i := 1) dX11_run_79 rfl rfl rfl ?_
    refine r_icmp_ge (tgt := 174) (pc1 := 83) dX11_run_80 (by decide) rfl (fun q24 => ?_) (fun q24 => ?_)
    · exact r_wk (hk13 v17 v19 v20 s22) ⟨Or.inr rfl, Or.inl rfl, Or.inr rfl, Or.inl rfl, Or.inr rfl, Or.inl rfl, Or.inr rfl, Or.inr rfl, Or.inl rfl, Or.inl rfl, trivial⟩
    · refine r_aload_n (pc1 := 84) (i := 0) dX11_run_83 rfl rfl rfl ?_
      refine r_getR (pc1 := 87) w_0 gfX11_51 rfl dX11_run_84 rfl ?_
      refine r_aload_n (pc1 := 88) (i := 0) dX11_run_87 rfl rfl rfl ?_
      refine r_getR (pc1 := 91) w_0 gfX11_51 rfl dX11_run_88 rfl ?_
      refine r_iload (pc1 := 93) dX11_run_91 rfl rfl ?_
      refine r_callVp (pc1 := 96) (rv_of w_35 cl_2) lkX11_198 (c_X2_onTurn _ _) rfl rfl ⟨Nat.le_of_ble_eq_true rfl, Nat.le_of_ble_eq_true rfl⟩ (Nat.le_of_ble_eq_true rfl) dX11_run_93 rfl (fun v25 => ?_)
      refine r_iload (pc1 := 98) dX11_run_96 rfl rfl ?_
      refine r_callVi (pc1 := 101) (rv_of w_35 cl_2) lkX11_192 (c_X2_choice _ _ _) rfl rfl ⟨Nat.le_of_ble_eq_true rfl, Nat.le_of_ble_eq_true rfl⟩ (Nat.le_of_ble_eq_true rfl) dX11_run_98 rfl (fun v26 s27 => ?_)
      refine r_istore (pc1 := 103) dX11_run_101 (by decide) rfl rfl rfl ?_
      refine r_aload_n (pc1 := 104) (i := 0) dX11_run_103 rfl rfl rfl ?_
      refine r_getR (pc1 := 107) w_0 gfX11_19 rfl dX11_run_104 rfl ?_
      refine r_iload (pc1 := 109) dX11_run_107 rfl rfl ?_
      refine r_iload (pc1 := 111) dX11_run_109 rfl rfl ?_
      refine r_callVp (pc1 := 114) (rv_of w_3 cl_6) lkX11_214 (c_X6_behind w_3 w_4 w_8 _ _ _) rfl rfl ⟨Nat.le_of_ble_eq_true rfl, Nat.le_of_ble_eq_true rfl⟩ (Nat.le_of_ble_eq_true rfl) dX11_run_111 rfl (fun v28 => ?_)
      refine r_istore (pc1 := 116) dX11_run_114 (by decide) rfl rfl rfl ?_
      refine r_aload_n (pc1 := 117) (i := 0) dX11_run_116 rfl rfl rfl ?_
      refine r_getR (pc1 := 120) w_0 gfX11_51 rfl dX11_run_117 rfl ?_
      refine r_iload (pc1 := 122) dX11_run_120 rfl rfl ?_
      refine r_callVp (pc1 := 125) (rv_of w_35 cl_2) lkX11_220 (c_X2_placeAfter _ _) rfl rfl ⟨Nat.le_of_ble_eq_true rfl, Nat.le_of_ble_eq_true rfl⟩ (Nat.le_of_ble_eq_true rfl) dX11_run_122 rfl (fun v29 => ?_)
      refine r_istore (pc1 := 127) dX11_run_125 (by decide) rfl rfl rfl ?_
      refine r_iload (pc1 := 129) dX11_run_127 rfl rfl ?_
      refine r_iload (pc1 := 131) dX11_run_129 rfl rfl ?_
      refine r_bipush (v := 8) (pc1 := 133) dX11_run_131 kb_8 rfl ?_
      refine r_jn (hyp := fun (k31 : Int32 → Res) => ∀ (v30 : Int32), RC l wF RX11 cX11_run 10 (some .int) 5 141 [.ref 0, .int a1, .int a2, .null, .int v28, .int v29, .int v19, .null, .int v21, .null] [.int v30, .int v20] s27 (k31 v30)) (fun v30 => ?_) (fun k31 hk31 => ?_)
      · refine r_iadd (pc1 := 142) dX11_run_141 rfl ?_
        refine r_lt (fun v32 => ?_)
        refine r_istore (pc1 := 144) dX11_run_142 (by decide) rfl rfl rfl ?_
        refine r_iload (pc1 := 146) dX11_run_144 rfl rfl ?_
        refine r_iload_n (pc1 := 147) (i := 2) dX11_run_146 rfl rfl rfl ?_
        refine r_iconst (v := 3) (pc1 := 148) dX11_run_147 ki_3 rfl ?_
        refine r_jn (hyp := fun (k35 : Int32 → SS → Res) => ∀ (v33 : Int32) (s34 : SS), RC l wF RX11 cX11_run 10 (some .int) 5 165 [.ref 0, .int a1, .int a2, .null, .int v28, .int v29, .null, .int v32, .int v21, .null] [.int v33, .int v19] s34 (k35 v33 s34)) (fun v33 s34 => ?_) (fun k35 hk35 => ?_)
        · refine r_iadd (pc1 := 166) dX11_run_165 rfl ?_
          refine r_lt (fun v36 => ?_)
          refine r_istore (pc1 := 168) dX11_run_166 (by decide) rfl rfl rfl ?_
          refine r_iinc (pc1 := 171) dX11_run_168 rfl (kn_1 _) (by decide) rfl rfl rfl ?_
          refine r_goto (tgt := 77) dX11_run_171 (by decide) ?_
          exact r_wk (ih v28 v29 v36 v32 (v21 + 1) s34) ⟨Or.inr rfl, Or.inr rfl, Or.inr rfl, Or.inl rfl, Or.inr rfl, Or.inr rfl, Or.inr rfl, Or.inr rfl, Or.inr rfl, Or.inl rfl, trivial⟩
        · refine r_icmp_gt (tgt := 164) (pc1 := 151) dX11_run_148 (by decide) rfl (fun q37 => ?_) (fun q37 => ?_)
          · refine r_iconst (v := 0) (pc1 := 165) dX11_run_164 ki_0 rfl ?_
            exact r_wk (hk35 0 s27) ⟨Or.inr rfl, Or.inr rfl, Or.inr rfl, Or.inl rfl, Or.inr rfl, Or.inr rfl, Or.inl rfl, Or.inr rfl, Or.inr rfl, Or.inl rfl, trivial⟩
          · refine r_aload_n (pc1 := 152) (i := 0) dX11_run_151 rfl rfl rfl ?_
            refine r_getR (pc1 := 155) w_0 gfX11_42 rfl dX11_run_152 rfl ?_
            refine r_iload (pc1 := 157) dX11_run_155 rfl rfl ?_
            refine r_iload_n (pc1 := 158) (i := 2) dX11_run_157 rfl rfl rfl ?_
            refine r_callVi (pc1 := 161) (rv_of w_27 cl_10) lkX11_188 (c_X10_worthOf _ _ _) rfl rfl ⟨Nat.le_of_ble_eq_true rfl, Nat.le_of_ble_eq_true rfl⟩ (Nat.le_of_ble_eq_true rfl) dX11_run_158 rfl (fun v38 s39 => ?_)
            refine r_goto (tgt := 165) dX11_run_161 (by decide) ?_
            exact r_wk (hk35 v38 s39) ⟨Or.inr rfl, Or.inr rfl, Or.inr rfl, Or.inl rfl, Or.inr rfl, Or.inr rfl, Or.inl rfl, Or.inr rfl, Or.inr rfl, Or.inl rfl, trivial⟩
      · refine r_icmp_ne (tgt := 140) (pc1 := 136) dX11_run_133 (by decide) rfl (fun q40 => ?_) (fun q40 => ?_)
        · refine r_iconst (v := 0) (pc1 := 137) dX11_run_136 ki_0 rfl ?_
          refine r_goto (tgt := 141) dX11_run_137 (by decide) ?_
          exact r_wk (hk31 0) ⟨Or.inr rfl, Or.inr rfl, Or.inr rfl, Or.inl rfl, Or.inr rfl, Or.inr rfl, Or.inr rfl, Or.inl rfl, Or.inr rfl, Or.inl rfl, trivial⟩
        · refine r_iconst (v := 1) (pc1 := 141) dX11_run_140 ki_1 rfl ?_
          exact r_wk (hk31 1) ⟨Or.inr rfl, Or.inr rfl, Or.inr rfl, Or.inl rfl, Or.inr rfl, Or.inr rfl, Or.inr rfl, Or.inl rfl, Or.inr rfl, Or.inl rfl, trivial⟩
set_option maxRecDepth 100000 in
set_option maxHeartbeats 4000000 in
theorem c_X11_run {l : Launch} (a1 : Int32) (a2 : Int32) (s0 : SS) : Ct l wF yX11_run cX11_run 10 (some .int) 5 [.ref 0, .int a1, .int a2] s0 (f_X11_run a1 a2 s0) := by
  refine ct_of (y := yX11_run) plX11 (Nat.le_of_ble_eq_true rfl) ?_
  refine r_pad0 7 (L1 := [.ref 0, .int a1, .int a2, .null, .null, .null, .null, .null, .null, .null]) rfl ?_
  unfold f_X11_run
  refine r_iload_n (pc1 := 1) (i := 2) dX11_run_0 rfl rfl rfl ?_
  refine r_iconst (v := 3) (pc1 := 2) dX11_run_1 ki_3 rfl ?_
  refine r_callSp (pc1 := 5) lkX11_102 (c_X11_within _ _ _) rfl rfl ⟨Nat.le_of_ble_eq_true rfl, Nat.le_of_ble_eq_true rfl⟩ (Nat.le_of_ble_eq_true rfl) dX11_run_2 rfl (fun v1 => ?_)
  refine r_jn (hyp := fun (k3 : Int32 → Res) => ∀ (v2 : Int32), RC l wF RX11 cX11_run 10 (some .int) 5 31 [.ref 0, .int a1, .int a2, .null, .null, .null, .null, .null, .null, .null] [.int v2] s0 (k3 v2)) (fun v2 => ?_) (fun k3 hk3 => ?_)
  · refine r_istore_n (pc1 := 32) (i := 3) dX11_run_31 rfl (by decide) rfl rfl rfl ?_
    refine r_iload_n (pc1 := 33) (i := 1) dX11_run_32 rfl rfl rfl ?_
    refine r_iconst (v := 1) (pc1 := 34) dX11_run_33 ki_1 rfl ?_
    refine r_icmp_lt (tgt := 47) (pc1 := 37) dX11_run_34 (by decide) rfl (fun q4 => ?_) (fun q4 => ?_)
    · refine r_ldc (v := (-1000000)) (pc1 := 49) dX11_run_47 cnX11_191 rfl ?_
      exact r_iret rfl rfl dX11_run_49
    · refine r_iload_n (pc1 := 38) (i := 1) dX11_run_37 rfl rfl rfl ?_
      refine r_bipush (v := 60) (pc1 := 40) dX11_run_38 kb_60 rfl ?_
      refine r_icmp_gt (tgt := 47) (pc1 := 43) dX11_run_40 (by decide) rfl (fun q5 => ?_) (fun q5 => ?_)
      · refine r_ldc (v := (-1000000)) (pc1 := 49) dX11_run_47 cnX11_191 rfl ?_
        exact r_iret rfl rfl dX11_run_49
      · refine r_iload_n (pc1 := 44) (i := 3) dX11_run_43 rfl rfl rfl ?_
        refine r_if_ne (tgt := 50) (pc1 := 47) dX11_run_44 (by decide) rfl (fun q6 => ?_) (fun q6 => ?_)
        · refine r_ldc (v := (-1000000)) (pc1 := 49) dX11_run_47 cnX11_191 rfl ?_
          exact r_iret rfl rfl dX11_run_49
        · refine r_aload_n (pc1 := 51) (i := 0) dX11_run_50 rfl rfl rfl ?_
          refine r_getR (pc1 := 54) w_0 gfX11_88 rfl dX11_run_51 rfl ?_
          refine r_getI (pc1 := 57) w_52 gfX11_122 rfl dX11_run_54 rfl ?_
          refine r_lt (fun v7 => ?_)
          refine r_istore (pc1 := 59) dX11_run_57 (by decide) rfl rfl rfl ?_
          refine r_aload_n (pc1 := 60) (i := 0) dX11_run_59 rfl rfl rfl ?_
          refine r_getR (pc1 := 63) w_0 gfX11_88 rfl dX11_run_60 rfl ?_
          refine r_getI (pc1 := 66) w_52 gfX11_139 rfl dX11_run_63 rfl ?_
          refine r_lt (fun v8 => ?_)
          refine r_istore (pc1 := 68) dX11_run_66 (by decide) rfl rfl rfl ?_
          refine r_iconst (v := 0) (pc1 := 69) dX11_run_68 ki_0 rfl ?_
          refine r_istore (pc1 := 71) dX11_run_69 (by decide) rfl rfl rfl ?_
          refine r_iconst (v := 0) (pc1 := 72) dX11_run_71 ki_0 rfl ?_
          refine r_istore (pc1 := 74) dX11_run_72 (by decide) rfl rfl rfl ?_
          refine r_iconst (v := 0) (pc1 := 75) dX11_run_74 ki_0 rfl ?_
          refine r_istore (pc1 := 77) dX11_run_75 (by decide) rfl rfl rfl ?_
          refine r_jn (hyp := fun (k13 : Int32 → Int32 → Int32 → SS → Res) => ∀ (v9 : Int32) (v10 : Int32) (v11 : Int32) (s12 : SS), RC l wF RX11 cX11_run 10 (some .int) 5 174 [.ref 0, .null, .int a2, .null, .int v9, .null, .int v10, .int v11, .null, .null] [] s12 (k13 v9 v10 v11 s12)) (fun v9 v10 v11 s12 => ?_) (fun k13 hk13 => ?_)
          · refine r_iload_n (pc1 := 175) (i := 2) dX11_run_174 rfl rfl rfl ?_
            refine r_bipush (v := 20) (pc1 := 177) dX11_run_175 kb_20 rfl ?_
            refine r_icmp_ne (tgt := 183) (pc1 := 180) dX11_run_177 (by decide) rfl (fun q14 => ?_) (fun q14 => ?_)
            · refine r_iload (pc1 := 182) dX11_run_180 rfl rfl ?_
              exact r_iret rfl rfl dX11_run_182
            · refine r_iload_n (pc1 := 184) (i := 2) dX11_run_183 rfl rfl rfl ?_
              refine r_iconst (v := 3) (pc1 := 185) dX11_run_184 ki_3 rfl ?_
              refine r_icmp_gt (tgt := 193) (pc1 := 188) dX11_run_185 (by decide) rfl (fun q15 => ?_) (fun q15 => ?_)
              · refine r_aload_n (pc1 := 194) (i := 0) dX11_run_193 rfl rfl rfl ?_
                refine r_getR (pc1 := 197) w_0 gfX11_19 rfl dX11_run_194 rfl ?_
                refine r_iload (pc1 := 199) dX11_run_197 rfl rfl ?_
                refine r_iload_n (pc1 := 200) (i := 2) dX11_run_199 rfl rfl rfl ?_
                refine r_bipush (v := 10) (pc1 := 202) dX11_run_200 kb_10 rfl ?_
                refine r_isub (pc1 := 203) dX11_run_202 rfl ?_
                refine r_callVp (pc1 := 206) (rv_of w_3 cl_6) lkX11_182 (c_X6_lawOn w_3 w_4 w_8 _ _ _) rfl rfl ⟨Nat.le_of_ble_eq_true rfl, Nat.le_of_ble_eq_true rfl⟩ (Nat.le_of_ble_eq_true rfl) dX11_run_203 rfl (fun v16 => ?_)
                exact r_iret rfl rfl dX11_run_206
              · refine r_iload (pc1 := 190) dX11_run_188 rfl rfl ?_
                refine r_goto (tgt := 206) dX11_run_190 (by decide) ?_
                exact r_iret rfl rfl dX11_run_206
          · exact r_wk (t_lp_X11_run_77 a1 a2 k13 hk13 FU v7 v8 0 0 0 s0) ⟨Or.inr rfl, Or.inr rfl, Or.inr rfl, Or.inl rfl, Or.inr rfl, Or.inr rfl, Or.inr rfl, Or.inr rfl, Or.inr rfl, Or.inl rfl, trivial⟩
  · refine r_jn (hyp := fun (k41 : Res) => RC l wF RX11 cX11_run 10 (some .int) 5 26 [.ref 0, .int a1, .int a2, .null, .null, .null, .null, .null, .null, .null] [] s0 k41) (?_) (fun k41 hk41 => ?_)
    · refine r_iconst (v := 1) (pc1 := 27) dX11_run_26 ki_1 rfl ?_
      refine r_goto (tgt := 31) dX11_run_27 (by decide) ?_
      exact r_wk (hk3 1) ⟨Or.inr rfl, Or.inr rfl, Or.inr rfl, Or.inl rfl, Or.inl rfl, Or.inl rfl, Or.inl rfl, Or.inl rfl, Or.inl rfl, Or.inl rfl, trivial⟩
    · refine r_if_ne (tgt := 26) (pc1 := 8) dX11_run_5 (by decide) rfl (fun q42 => ?_) (fun q42 => ?_)
      · refine r_iload_n (pc1 := 9) (i := 2) dX11_run_8 rfl rfl rfl ?_
        refine r_bipush (v := 10) (pc1 := 11) dX11_run_9 kb_10 rfl ?_
        refine r_jn (hyp := fun (k43 : Res) => RC l wF RX11 cX11_run 10 (some .int) 5 20 [.ref 0, .int a1, .int a2, .null, .null, .null, .null, .null, .null, .null] [] s0 k43) (?_) (fun k43 hk43 => ?_)
        · refine r_iload_n (pc1 := 21) (i := 2) dX11_run_20 rfl rfl rfl ?_
          refine r_bipush (v := 20) (pc1 := 23) dX11_run_21 kb_20 rfl ?_
          refine r_icmp_ne (tgt := 30) (pc1 := 26) dX11_run_23 (by decide) rfl (fun q44 => ?_) (fun q44 => ?_)
          · exact r_wk (hk41) ⟨Or.inr rfl, Or.inr rfl, Or.inr rfl, Or.inl rfl, Or.inl rfl, Or.inl rfl, Or.inl rfl, Or.inl rfl, Or.inl rfl, Or.inl rfl, trivial⟩
          · refine r_iconst (v := 0) (pc1 := 31) dX11_run_30 ki_0 rfl ?_
            exact r_wk (hk3 0) ⟨Or.inr rfl, Or.inr rfl, Or.inr rfl, Or.inl rfl, Or.inl rfl, Or.inl rfl, Or.inl rfl, Or.inl rfl, Or.inl rfl, Or.inl rfl, trivial⟩
        · refine r_icmp_lt (tgt := 20) (pc1 := 14) dX11_run_11 (by decide) rfl (fun q45 => ?_) (fun q45 => ?_)
          · exact r_wk (hk43) ⟨Or.inr rfl, Or.inr rfl, Or.inr rfl, Or.inl rfl, Or.inl rfl, Or.inl rfl, Or.inl rfl, Or.inl rfl, Or.inl rfl, Or.inl rfl, trivial⟩
          · refine r_iload_n (pc1 := 15) (i := 2) dX11_run_14 rfl rfl rfl ?_
            refine r_bipush (v := 13) (pc1 := 17) dX11_run_15 kb_13 rfl ?_
            refine r_icmp_le (tgt := 26) (pc1 := 20) dX11_run_17 (by decide) rfl (fun q46 => ?_) (fun q46 => ?_)
            · exact r_wk (hk41) ⟨Or.inr rfl, Or.inr rfl, Or.inr rfl, Or.inl rfl, Or.inl rfl, Or.inl rfl, Or.inl rfl, Or.inl rfl, Or.inl rfl, Or.inl rfl, trivial⟩
            · exact r_wk (hk43) ⟨Or.inr rfl, Or.inr rfl, Or.inr rfl, Or.inl rfl, Or.inl rfl, Or.inl rfl, Or.inl rfl, Or.inl rfl, Or.inl rfl, Or.inl rfl, trivial⟩
      · exact r_wk (hk41) ⟨Or.inr rfl, Or.inr rfl, Or.inr rfl, Or.inl rfl, Or.inl rfl, Or.inl rfl, Or.inl rfl, Or.inl rfl, Or.inl rfl, Or.inl rfl, trivial⟩
/-! f_X5_stateAfter -/
noncomputable def f_X5_stateAfter (a1 : Int32) (s0 : SS) : Res := gd (¬ (4 : Int32) = 0) (lt (a1 - a1 / 4 * 4) (fun (v1 : Int32) => gd (¬ (4 : Int32) = 0) (lt (a1 / 4) (fun (v2 : Int32) => bdp (f_X2_onTurn v1 s0) (fun (v3 : Int32) => bd (f_X2_choice v3 v2 s0) (fun (v4 : Int32) (s5 : SS) => bdp (f_X6_behind v2 v4 s5) (fun (v6 : Int32) => bdp (f_X2_placeAfter v1 s5) (fun (v7 : Int32) => some ((v6 * 4) + v7, s5)))))))))
set_option maxRecDepth 100000 in
set_option maxHeartbeats 4000000 in
theorem c_X5_stateAfter {l : Launch} (a1 : Int32) (s0 : SS) : Ct l wF yX5_stateAfter cX5_stateAfter 5 (some .int) 5 [.ref 39, .int a1] s0 (f_X5_stateAfter a1 s0) := by
  refine ct_of (y := yX5_stateAfter) plX5 (Nat.le_of_ble_eq_true rfl) ?_
  refine r_pad0 3 (L1 := [.ref 39, .int a1, .null, .null, .null]) rfl ?_
  unfold f_X5_stateAfter
  refine r_iload_n (pc1 := 1) (i := 1) dX5_stateAfter_0 rfl rfl rfl ?_
  refine r_iconst (v := 4) (pc1 := 2) dX5_stateAfter_1 ki_4 rfl ?_
  refine r_irem (pc1 := 3) dX5_stateAfter_2 rfl ?_
  refine r_lt (fun v1 => ?_)
  refine r_istore_n (pc1 := 4) (i := 2) dX5_stateAfter_3 rfl (by decide) rfl rfl rfl ?_
  refine r_iload_n (pc1 := 5) (i := 1) dX5_stateAfter_4 rfl rfl rfl ?_
  refine r_iconst (v := 4) (pc1 := 6) dX5_stateAfter_5 ki_4 rfl ?_
  refine r_idiv (pc1 := 7) dX5_stateAfter_6 rfl ?_
  refine r_lt (fun v2 => ?_)
  refine r_istore_n (pc1 := 8) (i := 3) dX5_stateAfter_7 rfl (by decide) rfl rfl rfl ?_
  refine r_aload_n (pc1 := 9) (i := 0) dX5_stateAfter_8 rfl rfl rfl ?_
  refine r_getR (pc1 := 12) w_39 gfX5_23 rfl dX5_stateAfter_9 rfl ?_
  refine r_aload_n (pc1 := 13) (i := 0) dX5_stateAfter_12 rfl rfl rfl ?_
  refine r_getR (pc1 := 16) w_39 gfX5_23 rfl dX5_stateAfter_13 rfl ?_
  refine r_iload_n (pc1 := 17) (i := 2) dX5_stateAfter_16 rfl rfl rfl ?_
  refine r_callVp (pc1 := 20) (rv_of w_35 cl_2) lkX5_38 (c_X2_onTurn _ _) rfl rfl ⟨Nat.le_of_ble_eq_true rfl, Nat.le_of_ble_eq_true rfl⟩ (Nat.le_of_ble_eq_true rfl) dX5_stateAfter_17 rfl (fun v3 => ?_)
  refine r_iload_n (pc1 := 21) (i := 3) dX5_stateAfter_20 rfl rfl rfl ?_
  refine r_callVi (pc1 := 24) (rv_of w_35 cl_2) lkX5_43 (c_X2_choice _ _ _) rfl rfl ⟨Nat.le_of_ble_eq_true rfl, Nat.le_of_ble_eq_true rfl⟩ (Nat.le_of_ble_eq_true rfl) dX5_stateAfter_21 rfl (fun v4 s5 => ?_)
  refine r_istore (pc1 := 26) dX5_stateAfter_24 (by decide) rfl rfl rfl ?_
  refine r_aload_n (pc1 := 27) (i := 0) dX5_stateAfter_26 rfl rfl rfl ?_
  refine r_getR (pc1 := 30) w_39 gfX5_15 rfl dX5_stateAfter_27 rfl ?_
  refine r_iload_n (pc1 := 31) (i := 3) dX5_stateAfter_30 rfl rfl rfl ?_
  refine r_iload (pc1 := 33) dX5_stateAfter_31 rfl rfl ?_
  refine r_callVp (pc1 := 36) (rv_of w_3 cl_6) lkX5_47 (c_X6_behind w_3 w_4 w_8 _ _ _) rfl rfl ⟨Nat.le_of_ble_eq_true rfl, Nat.le_of_ble_eq_true rfl⟩ (Nat.le_of_ble_eq_true rfl) dX5_stateAfter_33 rfl (fun v6 => ?_)
  refine r_iconst (v := 4) (pc1 := 37) dX5_stateAfter_36 ki_4 rfl ?_
  refine r_imul (pc1 := 38) dX5_stateAfter_37 rfl ?_
  refine r_aload_n (pc1 := 39) (i := 0) dX5_stateAfter_38 rfl rfl rfl ?_
  refine r_getR (pc1 := 42) w_39 gfX5_23 rfl dX5_stateAfter_39 rfl ?_
  refine r_iload_n (pc1 := 43) (i := 2) dX5_stateAfter_42 rfl rfl rfl ?_
  refine r_callVp (pc1 := 46) (rv_of w_35 cl_2) lkX5_52 (c_X2_placeAfter _ _) rfl rfl ⟨Nat.le_of_ble_eq_true rfl, Nat.le_of_ble_eq_true rfl⟩ (Nat.le_of_ble_eq_true rfl) dX5_stateAfter_43 rfl (fun v7 => ?_)
  refine r_iadd (pc1 := 47) dX5_stateAfter_46 rfl ?_
  exact r_iret rfl rfl dX5_stateAfter_47
/-! f_X5_find -/
noncomputable def lp_X5_find_131  : Nat → Int32 → Int32 → SS → Res
  | 0, _, _, _ => none
  | n15 + 1, v12, v13, s14 => if (1000000 : Int32) ≤ (v13 : Int32) then some (0, s14) else if (v12 : Int32) = (s14 39 5 : Int32) then some (0, s14) else bd (f_X5_stateAfter v12 s14) (fun (v18 : Int32) (s19 : SS) => bd (f_X5_stateAfter (s19 39 5) s19) (fun (v20 : Int32) (s21 : SS) => lts (up s21 39 5 v20) (fun (s22 : SS) => lts (up s22 39 3 ((s22 39 3) + 1)) (fun (s23 : SS) => lp_X5_find_131 n15 v18 (v13 + 1) s23))))
noncomputable def lp_X5_find_95 (v1 : Int32) (k9 : Int32 → SS → Res) : Nat → Int32 → Int32 → SS → Res
  | 0, _, _, _ => none
  | n27 + 1, v24, v25, s26 => if (s26 39 4 : Int32) ≤ (v25 : Int32) then k9 v24 s26 else bd (f_X5_stateAfter v24 s26) (fun (v29 : Int32) (s30 : SS) => lp_X5_find_95 v1 k9 n27 v29 (v25 + 1) s30)
noncomputable def lp_X5_find_27 (v1 : Int32) (k6 : SS → Res) : Nat → Int32 → Int32 → Int32 → Int32 → SS → Res
  | 0, _, _, _, _, _ => none
  | n36 + 1, v31, v32, v33, v34, s35 => if (1000000 : Int32) ≤ (v34 : Int32) then k6 s35 else if (v32 : Int32) = (v31 : Int32) then k6 s35 else jn (fun (v39 : Int32) (v40 : Int32) (s41 : SS) => bd (f_X5_stateAfter v32 s41) (fun (v43 : Int32) (s44 : SS) => lts (up s44 39 4 ((s44 39 4) + 1)) (fun (s45 : SS) => lp_X5_find_27 v1 k6 n36 v39 v43 v40 (v34 + 1) s45))) (fun (k42 : Int32 → Int32 → SS → Res) => if (s35 39 4 : Int32) = (v33 : Int32) then lt (v33 * 2) (fun (v47 : Int32) => lts (up s35 39 4 0) (fun (s48 : SS) => k42 v32 v47 s48)) else k42 v31 v33 s35)
noncomputable def f_X5_find (a1 : Int32) (a2 : Int32) (s0 : SS) : Res := lt ((a1 * 4) + a2) (fun (v1 : Int32) => bd (f_X5_stateAfter v1 s0) (fun (v2 : Int32) (s3 : SS) => lts (up s3 39 4 1) (fun (s4 : SS) => jn (fun (s5 : SS) => jn (fun (v7 : Int32) (s8 : SS) => lts (up s8 39 5 v1) (fun (s10 : SS) => lts (up s10 39 3 0) (fun (s11 : SS) => lp_X5_find_131 FU v7 0 s11))) (fun (k9 : Int32 → SS → Res) => lp_X5_find_95 v1 k9 FU v1 0 s5)) (fun (k6 : SS → Res) => lp_X5_find_27 v1 k6 FU v1 v2 1 0 s4))))
set_option maxRecDepth 100000 in
set_option maxHeartbeats 4000000 in
theorem t_lp_X5_find_131 {l : Launch}   : ∀ (n15 : Nat) (v12 : Int32) (v13 : Int32) (s14 : SS), RC l wF RX5 cX5_find 8 none 6 131 [.ref 39, .null, .null, .null, .null, .int v12, .null, .int v13] [] s14 (lp_X5_find_131 n15 v12 v13 s14) := by
  intro n15
  induction n15 with
  | zero =>
    intro v12 v13 s14
    rw [lp_X5_find_131]
    exact r_none
  | succ n15 ih =>
    intro v12 v13 s14
    rw [lp_X5_find_131]
    refine r_iload (pc1 := 133) dX5_find_131 rfl rfl ?_
    refine r_ldc (v := 1000000) (pc1 := 135) dX5_find_133 cnX5_31 rfl ?_
    refine r_icmp_ge (tgt := 183) (pc1 := 138) dX5_find_135 (by decide) rfl (fun q16 => ?_) (fun q16 => ?_)
    · exact r_vret rfl dX5_find_183
    · refine r_iload (pc1 := 140) dX5_find_138 rfl rfl ?_
      refine r_aload_n (pc1 := 141) (i := 0) dX5_find_140 rfl rfl rfl ?_
      refine r_getI (pc1 := 144) w_39 gfX5_32 rfl dX5_find_141 rfl ?_
      refine r_icmp_eq (tgt := 183) (pc1 := 147) dX5_find_144 (by decide) rfl (fun q17 => ?_) (fun q17 => ?_)
      · exact r_vret rfl dX5_find_183
      · refine r_aload_n (pc1 := 148) (i := 0) dX5_find_147 rfl rfl rfl ?_
        refine r_iload (pc1 := 150) dX5_find_148 rfl rfl ?_
        refine r_callVi (pc1 := 153) (rv_of w_39 cl_5) lkX5_27 (c_X5_stateAfter _ _) rfl rfl ⟨Nat.le_of_ble_eq_true rfl, Nat.le_of_ble_eq_true rfl⟩ (Nat.le_of_ble_eq_true rfl) dX5_find_150 rfl (fun v18 s19 => ?_)
        refine r_istore (pc1 := 155) dX5_find_153 (by decide) rfl rfl rfl ?_
        refine r_aload_n (pc1 := 156) (i := 0) dX5_find_155 rfl rfl rfl ?_
        refine r_aload_n (pc1 := 157) (i := 0) dX5_find_156 rfl rfl rfl ?_
        refine r_aload_n (pc1 := 158) (i := 0) dX5_find_157 rfl rfl rfl ?_
        refine r_getI (pc1 := 161) w_39 gfX5_32 rfl dX5_find_158 rfl ?_
        refine r_callVi (pc1 := 164) (rv_of w_39 cl_5) lkX5_27 (c_X5_stateAfter _ _) rfl rfl ⟨Nat.le_of_ble_eq_true rfl, Nat.le_of_ble_eq_true rfl⟩ (Nat.le_of_ble_eq_true rfl) dX5_find_161 rfl (fun v20 s21 => ?_)
        refine r_putI (pc1 := 167) w_39 pfX5_32 rfl ⟨rfl, rfl⟩ dX5_find_164 rfl ?_
        refine r_lts (fun s22 => ?_)
        refine r_aload_n (pc1 := 168) (i := 0) dX5_find_167 rfl rfl rfl ?_
        refine r_dup (pc1 := 169) dX5_find_168 rfl rfl ?_
        refine r_getI (pc1 := 172) w_39 gfX5_35 rfl dX5_find_169 rfl ?_
        refine r_iconst (v := 1) (pc1 := 173) dX5_find_172 ki_1 rfl ?_
        refine r_iadd (pc1 := 174) dX5_find_173 rfl ?_
        refine r_putI (pc1 := 177) w_39 pfX5_35 rfl ⟨rfl, rfl⟩ dX5_find_174 rfl ?_
        refine r_lts (fun s23 => ?_)
        refine r_iinc (pc1 := 180) dX5_find_177 rfl (kn_1 _) (by decide) rfl rfl rfl ?_
        refine r_goto (tgt := 131) dX5_find_180 (by decide) ?_
        exact r_wk (ih v18 (v13 + 1) s23) ⟨Or.inr rfl, Or.inl rfl, Or.inl rfl, Or.inl rfl, Or.inl rfl, Or.inr rfl, Or.inl rfl, Or.inr rfl, trivial⟩
set_option maxRecDepth 100000 in
set_option maxHeartbeats 4000000 in
theorem t_lp_X5_find_95 {l : Launch} (v1 : Int32) (k9 : Int32 → SS → Res) (hk9 : ∀ (v7 : Int32) (s8 : SS), RC l wF RX5 cX5_find 8 none 6 118 [.ref 39, .null, .null, .int v1, .null, .int v7, .null, .null] [] s8 (k9 v7 s8)) : ∀ (n27 : Nat) (v24 : Int32) (v25 : Int32) (s26 : SS), RC l wF RX5 cX5_find 8 none 6 95 [.ref 39, .null, .null, .int v1, .null, .int v24, .null, .int v25] [] s26 (lp_X5_find_95 v1 k9 n27 v24 v25 s26) := by
  intro n27
  induction n27 with
  | zero =>
    intro v24 v25 s26
    rw [lp_X5_find_95]
    exact r_none
  | succ n27 ih =>
    intro v24 v25 s26
    rw [lp_X5_find_95]
    refine r_iload (pc1 := 97) dX5_find_95 rfl rfl ?_
    refine r_aload_n (pc1 := 98) (i := 0) dX5_find_97 rfl rfl rfl ?_
    refine r_getI (pc1 := 101) w_39 gfX5_9 rfl dX5_find_98 rfl ?_
    refine r_icmp_ge (tgt := 118) (pc1 := 104) dX5_find_101 (by decide) rfl (fun q28 => ?_) (fun q28 => ?_)
    · exact r_wk (hk9 v24 s26) ⟨Or.inr rfl, Or.inl rfl, Or.inl rfl, Or.inr rfl, Or.inl rfl, Or.inr rfl, Or.inl rfl, Or.inl rfl, trivial⟩
    · refine r_aload_n (pc1 := 105) (i := 0) dX5_find_104 rfl rfl rfl ?_
      refine r_iload (pc1 := 107) dX5_find_105 rfl rfl ?_
      refine r_callVi (pc1 := 110) (rv_of w_39 cl_5) lkX5_27 (c_X5_stateAfter _ _) rfl rfl ⟨Nat.le_of_ble_eq_true rfl, Nat.le_of_ble_eq_true rfl⟩ (Nat.le_of_ble_eq_true rfl) dX5_find_107 rfl (fun v29 s30 => ?_)
      refine r_istore (pc1 := 112) dX5_find_110 (by decide) rfl rfl rfl ?_
      refine r_iinc (pc1 := 115) dX5_find_112 rfl (kn_1 _) (by decide) rfl rfl rfl ?_
      refine r_goto (tgt := 95) dX5_find_115 (by decide) ?_
      exact r_wk (ih v29 (v25 + 1) s30) ⟨Or.inr rfl, Or.inl rfl, Or.inl rfl, Or.inr rfl, Or.inl rfl, Or.inr rfl, Or.inl rfl, Or.inr rfl, trivial⟩
set_option maxRecDepth 100000 in
set_option maxHeartbeats 4000000 in
theorem t_lp_X5_find_27 {l : Launch} (v1 : Int32) (k6 : SS → Res) (hk6 : ∀ (s5 : SS), RC l wF RX5 cX5_find 8 none 6 89 [.ref 39, .null, .null, .int v1, .null, .null, .null, .null] [] s5 (k6 s5)) : ∀ (n36 : Nat) (v31 : Int32) (v32 : Int32) (v33 : Int32) (v34 : Int32) (s35 : SS), RC l wF RX5 cX5_find 8 none 6 27 [.ref 39, .null, .null, .int v1, .int v31, .int v32, .int v33, .int v34] [] s35 (lp_X5_find_27 v1 k6 n36 v31 v32 v33 v34 s35) := by
  intro n36
  induction n36 with
  | zero =>
    intro v31 v32 v33 v34 s35
    rw [lp_X5_find_27]
    exact r_none
  | succ n36 ih =>
    intro v31 v32 v33 v34 s35
    rw [lp_X5_find_27]
    refine r_iload (pc1 := 29) dX5_find_27 rfl rfl ?_
    refine r_ldc (v := 1000000) (pc1 := 31) dX5_find_29 cnX5_31 rfl ?_
    refine r_icmp_ge (tgt := 89) (pc1 := 34) dX5_find_31 (by decide) rfl (fun q37 => ?_) (fun q37 => ?_)
    · exact r_wk (hk6 s35) ⟨Or.inr rfl, Or.inl rfl, Or.inl rfl, Or.inr rfl, Or.inl rfl, Or.inl rfl, Or.inl rfl, Or.inl rfl, trivial⟩
    · refine r_iload (pc1 := 36) dX5_find_34 rfl rfl ?_
      refine r_iload (pc1 := 38) dX5_find_36 rfl rfl ?_
      refine r_icmp_eq (tgt := 89) (pc1 := 41) dX5_find_38 (by decide) rfl (fun q38 => ?_) (fun q38 => ?_)
      · exact r_wk (hk6 s35) ⟨Or.inr rfl, Or.inl rfl, Or.inl rfl, Or.inr rfl, Or.inl rfl, Or.inl rfl, Or.inl rfl, Or.inl rfl, trivial⟩
      · refine r_aload_n (pc1 := 42) (i := 0) dX5_find_41 rfl rfl rfl ?_
        refine r_getI (pc1 := 45) w_39 gfX5_9 rfl dX5_find_42 rfl ?_
        refine r_iload (pc1 := 47) dX5_find_45 rfl rfl ?_
        refine r_jn (hyp := fun (k42 : Int32 → Int32 → SS → Res) => ∀ (v39 : Int32) (v40 : Int32) (s41 : SS), RC l wF RX5 cX5_find 8 none 6 65 [.ref 39, .null, .null, .int v1, .int v39, .int v32, .int v40, .int v34] [] s41 (k42 v39 v40 s41)) (fun v39 v40 s41 => ?_) (fun k42 hk42 => ?_)
        · refine r_aload_n (pc1 := 66) (i := 0) dX5_find_65 rfl rfl rfl ?_
          refine r_iload (pc1 := 68) dX5_find_66 rfl rfl ?_
          refine r_callVi (pc1 := 71) (rv_of w_39 cl_5) lkX5_27 (c_X5_stateAfter _ _) rfl rfl ⟨Nat.le_of_ble_eq_true rfl, Nat.le_of_ble_eq_true rfl⟩ (Nat.le_of_ble_eq_true rfl) dX5_find_68 rfl (fun v43 s44 => ?_)
          refine r_istore (pc1 := 73) dX5_find_71 (by decide) rfl rfl rfl ?_
          refine r_aload_n (pc1 := 74) (i := 0) dX5_find_73 rfl rfl rfl ?_
          refine r_dup (pc1 := 75) dX5_find_74 rfl rfl ?_
          refine r_getI (pc1 := 78) w_39 gfX5_9 rfl dX5_find_75 rfl ?_
          refine r_iconst (v := 1) (pc1 := 79) dX5_find_78 ki_1 rfl ?_
          refine r_iadd (pc1 := 80) dX5_find_79 rfl ?_
          refine r_putI (pc1 := 83) w_39 pfX5_9 rfl ⟨rfl, rfl⟩ dX5_find_80 rfl ?_
          refine r_lts (fun s45 => ?_)
          refine r_iinc (pc1 := 86) dX5_find_83 rfl (kn_1 _) (by decide) rfl rfl rfl ?_
          refine r_goto (tgt := 27) dX5_find_86 (by decide) ?_
          exact r_wk (ih v39 v43 v40 (v34 + 1) s45) ⟨Or.inr rfl, Or.inl rfl, Or.inl rfl, Or.inr rfl, Or.inr rfl, Or.inr rfl, Or.inr rfl, Or.inr rfl, trivial⟩
        · refine r_icmp_ne (tgt := 65) (pc1 := 50) dX5_find_47 (by decide) rfl (fun q46 => ?_) (fun q46 => ?_)
          · refine r_iload (pc1 := 52) dX5_find_50 rfl rfl ?_
            refine r_istore (pc1 := 54) dX5_find_52 (by decide) rfl rfl rfl ?_
            refine r_iload (pc1 := 56) dX5_find_54 rfl rfl ?_
            refine r_iconst (v := 2) (pc1 := 57) dX5_find_56 ki_2 rfl ?_
            refine r_imul (pc1 := 58) dX5_find_57 rfl ?_
            refine r_lt (fun v47 => ?_)
            refine r_istore (pc1 := 60) dX5_find_58 (by decide) rfl rfl rfl ?_
            refine r_aload_n (pc1 := 61) (i := 0) dX5_find_60 rfl rfl rfl ?_
            refine r_iconst (v := 0) (pc1 := 62) dX5_find_61 ki_0 rfl ?_
            refine r_putI (pc1 := 65) w_39 pfX5_9 rfl ⟨rfl, rfl⟩ dX5_find_62 rfl ?_
            refine r_lts (fun s48 => ?_)
            exact r_wk (hk42 v32 v47 s48) ⟨Or.inr rfl, Or.inl rfl, Or.inl rfl, Or.inr rfl, Or.inr rfl, Or.inr rfl, Or.inr rfl, Or.inr rfl, trivial⟩
          · exact r_wk (hk42 v31 v33 s35) ⟨Or.inr rfl, Or.inl rfl, Or.inl rfl, Or.inr rfl, Or.inr rfl, Or.inr rfl, Or.inr rfl, Or.inr rfl, trivial⟩
set_option maxRecDepth 100000 in
set_option maxHeartbeats 4000000 in
theorem c_X5_find {l : Launch} (a1 : Int32) (a2 : Int32) (s0 : SS) : Ct l wF yX5_find cX5_find 8 none 6 [.ref 39, .int a1, .int a2] s0 (f_X5_find a1 a2 s0) := by
  refine ct_of (y := yX5_find) plX5 (Nat.le_of_ble_eq_true rfl) ?_
  refine r_pad0 5 (L1 := [.ref 39, .int a1, .int a2, .null, .null, .null, .null, .null]) rfl ?_
  unfold f_X5_find
  refine r_iload_n (pc1 := 1) (i := 1) dX5_find_0 rfl rfl rfl ?_
  refine r_iconst (v := 4) (pc1 := 2) dX5_find_1 ki_4 rfl ?_
  refine r_imul (pc1 := 3) dX5_find_2 rfl ?_
  refine r_iload_n (pc1 := 4) (i := 2) dX5_find_3 rfl rfl rfl ?_
  refine r_iadd (pc1 := 5) dX5_find_4 rfl ?_
  refine r_lt (fun v1 => ?_)
  refine r_istore_n (pc1 := 6) (i := 3) dX5_find_5 rfl (by decide) rfl rfl rfl ?_
  refine r_iload_n (pc1 := 7) (i := 3) dX5_find_6 rfl rfl rfl ?_
  refine r_istore (pc1 := 9) dX5_find_7 (by decide) rfl rfl rfl ?_
  refine r_aload_n (pc1 := 10) (i := 0) dX5_find_9 rfl rfl rfl ?_
  refine r_iload_n (pc1 := 11) (i := 3) dX5_find_10 rfl rfl rfl ?_
  refine r_callVi (pc1 := 14) (rv_of w_39 cl_5) lkX5_27 (c_X5_stateAfter _ _) rfl rfl ⟨Nat.le_of_ble_eq_true rfl, Nat.le_of_ble_eq_true rfl⟩ (Nat.le_of_ble_eq_true rfl) dX5_find_11 rfl (fun v2 s3 => ?_)
  refine r_istore (pc1 := 16) dX5_find_14 (by decide) rfl rfl rfl ?_
  refine r_iconst (v := 1) (pc1 := 17) dX5_find_16 ki_1 rfl ?_
  refine r_istore (pc1 := 19) dX5_find_17 (by decide) rfl rfl rfl ?_
  refine r_aload_n (pc1 := 20) (i := 0) dX5_find_19 rfl rfl rfl ?_
  refine r_iconst (v := 1) (pc1 := 21) dX5_find_20 ki_1 rfl ?_
  refine r_putI (pc1 := 24) w_39 pfX5_9 rfl ⟨rfl, rfl⟩ dX5_find_21 rfl ?_
  refine r_lts (fun s4 => ?_)
  refine r_iconst (v := 0) (pc1 := 25) dX5_find_24 ki_0 rfl ?_
  refine r_istore (pc1 := 27) dX5_find_25 (by decide) rfl rfl rfl ?_
  refine r_jn (hyp := fun (k6 : SS → Res) => ∀ (s5 : SS), RC l wF RX5 cX5_find 8 none 6 89 [.ref 39, .null, .null, .int v1, .null, .null, .null, .null] [] s5 (k6 s5)) (fun s5 => ?_) (fun k6 hk6 => ?_)
  · refine r_iload_n (pc1 := 90) (i := 3) dX5_find_89 rfl rfl rfl ?_
    refine r_istore (pc1 := 92) dX5_find_90 (by decide) rfl rfl rfl ?_
    refine r_iconst (v := 0) (pc1 := 93) dX5_find_92 ki_0 rfl ?_
    refine r_istore (pc1 := 95) dX5_find_93 (by decide) rfl rfl rfl ?_
    refine r_jn (hyp := fun (k9 : Int32 → SS → Res) => ∀ (v7 : Int32) (s8 : SS), RC l wF RX5 cX5_find 8 none 6 118 [.ref 39, .null, .null, .int v1, .null, .int v7, .null, .null] [] s8 (k9 v7 s8)) (fun v7 s8 => ?_) (fun k9 hk9 => ?_)
    · refine r_aload_n (pc1 := 119) (i := 0) dX5_find_118 rfl rfl rfl ?_
      refine r_iload_n (pc1 := 120) (i := 3) dX5_find_119 rfl rfl rfl ?_
      refine r_putI (pc1 := 123) w_39 pfX5_32 rfl ⟨rfl, rfl⟩ dX5_find_120 rfl ?_
      refine r_lts (fun s10 => ?_)
      refine r_aload_n (pc1 := 124) (i := 0) dX5_find_123 rfl rfl rfl ?_
      refine r_iconst (v := 0) (pc1 := 125) dX5_find_124 ki_0 rfl ?_
      refine r_putI (pc1 := 128) w_39 pfX5_35 rfl ⟨rfl, rfl⟩ dX5_find_125 rfl ?_
      refine r_lts (fun s11 => ?_)
      refine r_iconst (v := 0) (pc1 := 129) dX5_find_128 ki_0 rfl ?_
      refine r_istore (pc1 := 131) dX5_find_129 (by decide) rfl rfl rfl ?_
      exact r_wk (t_lp_X5_find_131 FU v7 0 s11) ⟨Or.inr rfl, Or.inl rfl, Or.inl rfl, Or.inl rfl, Or.inl rfl, Or.inr rfl, Or.inl rfl, Or.inr rfl, trivial⟩
    · exact r_wk (t_lp_X5_find_95 v1 k9 hk9 FU v1 0 s5) ⟨Or.inr rfl, Or.inl rfl, Or.inl rfl, Or.inr rfl, Or.inl rfl, Or.inr rfl, Or.inl rfl, Or.inr rfl, trivial⟩
  · exact r_wk (t_lp_X5_find_27 v1 k6 hk6 FU v1 v2 1 0 s4) ⟨Or.inr rfl, Or.inl rfl, Or.inl rfl, Or.inr rfl, Or.inr rfl, Or.inr rfl, Or.inr rfl, Or.inr rfl, trivial⟩
/-! f_X5_sumOf -/
noncomputable def lp_X5_sumOf_10 (a1 : Int32) : Nat → Int32 → Int32 → Int32 → SS → Res
  | 0, _, _, _, _ => none
  | n6 + 1, v2, v3, v4, s5 => if (s5 39 4 : Int32) ≤ (v4 : Int32) then some (v2, s5) else bd (f_X5_stateAfter v3 s5) (fun (v8 : Int32) (s9 : SS) => gd (¬ (4 : Int32) = 0) (bd (f_X10_worthOf (v8 / 4) a1 s9) (fun (v10 : Int32) (s11 : SS) => lt (v2 + v10) (fun (v12 : Int32) => lp_X5_sumOf_10 a1 n6 v12 v8 (v4 + 1) s11))))
noncomputable def f_X5_sumOf (a1 : Int32) (s0 : SS) : Res := lt (s0 39 5) (fun (v1 : Int32) => lp_X5_sumOf_10 a1 FU 0 v1 0 s0)
set_option maxRecDepth 100000 in
set_option maxHeartbeats 4000000 in
theorem t_lp_X5_sumOf_10 {l : Launch} (a1 : Int32)  : ∀ (n6 : Nat) (v2 : Int32) (v3 : Int32) (v4 : Int32) (s5 : SS), RC l wF RX5 cX5_sumOf 5 (some .int) 6 10 [.ref 39, .int a1, .int v2, .int v3, .int v4] [] s5 (lp_X5_sumOf_10 a1 n6 v2 v3 v4 s5) := by
  intro n6
  induction n6 with
  | zero =>
    intro v2 v3 v4 s5
    rw [lp_X5_sumOf_10]
    exact r_none
  | succ n6 ih =>
    intro v2 v3 v4 s5
    rw [lp_X5_sumOf_10]
    refine r_iload (pc1 := 12) dX5_sumOf_10 rfl rfl ?_
    refine r_aload_n (pc1 := 13) (i := 0) dX5_sumOf_12 rfl rfl rfl ?_
    refine r_getI (pc1 := 16) w_39 gfX5_9 rfl dX5_sumOf_13 rfl ?_
    refine r_icmp_ge (tgt := 45) (pc1 := 19) dX5_sumOf_16 (by decide) rfl (fun q7 => ?_) (fun q7 => ?_)
    · refine r_iload_n (pc1 := 46) (i := 2) dX5_sumOf_45 rfl rfl rfl ?_
      exact r_iret rfl rfl dX5_sumOf_46
    · refine r_aload_n (pc1 := 20) (i := 0) dX5_sumOf_19 rfl rfl rfl ?_
      refine r_iload_n (pc1 := 21) (i := 3) dX5_sumOf_20 rfl rfl rfl ?_
      refine r_callVi (pc1 := 24) (rv_of w_39 cl_5) lkX5_27 (c_X5_stateAfter _ _) rfl rfl ⟨Nat.le_of_ble_eq_true rfl, Nat.le_of_ble_eq_true rfl⟩ (Nat.le_of_ble_eq_true rfl) dX5_sumOf_21 rfl (fun v8 s9 => ?_)
      refine r_istore_n (pc1 := 25) (i := 3) dX5_sumOf_24 rfl (by decide) rfl rfl rfl ?_
      refine r_iload_n (pc1 := 26) (i := 2) dX5_sumOf_25 rfl rfl rfl ?_
      refine r_aload_n (pc1 := 27) (i := 0) dX5_sumOf_26 rfl rfl rfl ?_
      refine r_getR (pc1 := 30) w_39 gfX5_19 rfl dX5_sumOf_27 rfl ?_
      refine r_iload_n (pc1 := 31) (i := 3) dX5_sumOf_30 rfl rfl rfl ?_
      refine r_iconst (v := 4) (pc1 := 32) dX5_sumOf_31 ki_4 rfl ?_
      refine r_idiv (pc1 := 33) dX5_sumOf_32 rfl ?_
      refine r_iload_n (pc1 := 34) (i := 1) dX5_sumOf_33 rfl rfl rfl ?_
      refine r_callVi (pc1 := 37) (rv_of w_27 cl_10) lkX5_55 (c_X10_worthOf _ _ _) rfl rfl ⟨Nat.le_of_ble_eq_true rfl, Nat.le_of_ble_eq_true rfl⟩ (Nat.le_of_ble_eq_true rfl) dX5_sumOf_34 rfl (fun v10 s11 => ?_)
      refine r_iadd (pc1 := 38) dX5_sumOf_37 rfl ?_
      refine r_lt (fun v12 => ?_)
      refine r_istore_n (pc1 := 39) (i := 2) dX5_sumOf_38 rfl (by decide) rfl rfl rfl ?_
      refine r_iinc (pc1 := 42) dX5_sumOf_39 rfl (kn_1 _) (by decide) rfl rfl rfl ?_
      refine r_goto (tgt := 10) dX5_sumOf_42 (by decide) ?_
      exact r_wk (ih v12 v8 (v4 + 1) s11) ⟨Or.inr rfl, Or.inr rfl, Or.inr rfl, Or.inr rfl, Or.inr rfl, trivial⟩
set_option maxRecDepth 100000 in
set_option maxHeartbeats 4000000 in
theorem c_X5_sumOf {l : Launch} (a1 : Int32) (s0 : SS) : Ct l wF yX5_sumOf cX5_sumOf 5 (some .int) 6 [.ref 39, .int a1] s0 (f_X5_sumOf a1 s0) := by
  refine ct_of (y := yX5_sumOf) plX5 (Nat.le_of_ble_eq_true rfl) ?_
  refine r_pad0 3 (L1 := [.ref 39, .int a1, .null, .null, .null]) rfl ?_
  unfold f_X5_sumOf
  refine r_iconst (v := 0) (pc1 := 1) dX5_sumOf_0 ki_0 rfl ?_
  refine r_istore_n (pc1 := 2) (i := 2) dX5_sumOf_1 rfl (by decide) rfl rfl rfl ?_
  refine r_aload_n (pc1 := 3) (i := 0) dX5_sumOf_2 rfl rfl rfl ?_
  refine r_getI (pc1 := 6) w_39 gfX5_32 rfl dX5_sumOf_3 rfl ?_
  refine r_lt (fun v1 => ?_)
  refine r_istore_n (pc1 := 7) (i := 3) dX5_sumOf_6 rfl (by decide) rfl rfl rfl ?_
  refine r_iconst (v := 0) (pc1 := 8) dX5_sumOf_7 ki_0 rfl ?_
  refine r_istore (pc1 := 10) dX5_sumOf_8 (by decide) rfl rfl rfl ?_
  exact r_wk (t_lp_X5_sumOf_10 a1 FU 0 v1 0 s0) ⟨Or.inr rfl, Or.inr rfl, Or.inr rfl, Or.inr rfl, Or.inr rfl, trivial⟩
