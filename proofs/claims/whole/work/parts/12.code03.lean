theorem dX1_valueOf_0 : decode cX1_valueOf 0 = .ok (.iconst 0, 1) := by decide +kernel
theorem dX1_valueOf_1 : decode cX1_valueOf 1 = .ok (.istore_n 3, 1) := by decide +kernel
theorem dX1_valueOf_2 : decode cX1_valueOf 2 = .ok (.iload_n 3, 1) := by decide +kernel
theorem dX1_valueOf_3 : decode cX1_valueOf 3 = .ok (.aload_n 0, 1) := by decide +kernel
theorem dX1_valueOf_4 : decode cX1_valueOf 4 = .ok (.getfield 33, 3) := by decide +kernel
theorem dX1_valueOf_7 : decode cX1_valueOf 7 = .ok (.if_icmp .ge 96, 3) := by decide +kernel
theorem dX1_valueOf_10 : decode cX1_valueOf 10 = .ok (.iload_n 3, 1) := by decide +kernel
theorem dX1_valueOf_11 : decode cX1_valueOf 11 = .ok (.bipush 14, 2) := by decide +kernel
theorem dX1_valueOf_13 : decode cX1_valueOf 13 = .ok (.if_icmp .ge 90, 3) := by decide +kernel
theorem dX1_valueOf_16 : decode cX1_valueOf 16 = .ok (.aload_n 0, 1) := by decide +kernel
theorem dX1_valueOf_17 : decode cX1_valueOf 17 = .ok (.getfield 18, 3) := by decide +kernel
theorem dX1_valueOf_20 : decode cX1_valueOf 20 = .ok (.iload_n 3, 1) := by decide +kernel
theorem dX1_valueOf_21 : decode cX1_valueOf 21 = .ok (.iaload, 1) := by decide +kernel
theorem dX1_valueOf_22 : decode cX1_valueOf 22 = .ok (.iload_n 1, 1) := by decide +kernel
theorem dX1_valueOf_23 : decode cX1_valueOf 23 = .ok (.if_icmp .ne 74, 3) := by decide +kernel
theorem dX1_valueOf_26 : decode cX1_valueOf 26 = .ok (.aload_n 0, 1) := by decide +kernel
theorem dX1_valueOf_27 : decode cX1_valueOf 27 = .ok (.aload_n 0, 1) := by decide +kernel
theorem dX1_valueOf_28 : decode cX1_valueOf 28 = .ok (.getfield 24, 3) := by decide +kernel
theorem dX1_valueOf_31 : decode cX1_valueOf 31 = .ok (.iload_n 3, 1) := by decide +kernel
theorem dX1_valueOf_32 : decode cX1_valueOf 32 = .ok (.iaload, 1) := by decide +kernel
theorem dX1_valueOf_33 : decode cX1_valueOf 33 = .ok (.aload_n 0, 1) := by decide +kernel
theorem dX1_valueOf_34 : decode cX1_valueOf 34 = .ok (.getfield 27, 3) := by decide +kernel
theorem dX1_valueOf_37 : decode cX1_valueOf 37 = .ok (.iload_n 3, 1) := by decide +kernel
theorem dX1_valueOf_38 : decode cX1_valueOf 38 = .ok (.iaload, 1) := by decide +kernel
theorem dX1_valueOf_39 : decode cX1_valueOf 39 = .ok (.aload_n 2, 1) := by decide +kernel
theorem dX1_valueOf_40 : decode cX1_valueOf 40 = .ok (.invokevirtual 46, 3) := by decide +kernel
theorem dX1_valueOf_43 : decode cX1_valueOf 43 = .ok (.ifCond .eq 54, 3) := by decide +kernel
theorem dX1_valueOf_46 : decode cX1_valueOf 46 = .ok (.aload_n 0, 1) := by decide +kernel
theorem dX1_valueOf_47 : decode cX1_valueOf 47 = .ok (.aload_n 0, 1) := by decide +kernel
theorem dX1_valueOf_48 : decode cX1_valueOf 48 = .ok (.getfield 21, 3) := by decide +kernel
theorem dX1_valueOf_51 : decode cX1_valueOf 51 = .ok (.iload_n 3, 1) := by decide +kernel
theorem dX1_valueOf_52 : decode cX1_valueOf 52 = .ok (.iaload, 1) := by decide +kernel
theorem dX1_valueOf_53 : decode cX1_valueOf 53 = .ok (.aload_n 0, 1) := by decide +kernel
theorem dX1_valueOf_54 : decode cX1_valueOf 54 = .ok (.getfield 24, 3) := by decide +kernel
theorem dX1_valueOf_57 : decode cX1_valueOf 57 = .ok (.iload_n 3, 1) := by decide +kernel
theorem dX1_valueOf_58 : decode cX1_valueOf 58 = .ok (.iaload, 1) := by decide +kernel
theorem dX1_valueOf_59 : decode cX1_valueOf 59 = .ok (.aload_n 2, 1) := by decide +kernel
theorem dX1_valueOf_60 : decode cX1_valueOf 60 = .ok (.invokevirtual 46, 3) := by decide +kernel
theorem dX1_valueOf_63 : decode cX1_valueOf 63 = .ok (.istore 4, 2) := by decide +kernel
theorem dX1_valueOf_65 : decode cX1_valueOf 65 = .ok (.iload_n 1, 1) := by decide +kernel
theorem dX1_valueOf_66 : decode cX1_valueOf 66 = .ok (.bipush 118, 2) := by decide +kernel
theorem dX1_valueOf_68 : decode cX1_valueOf 68 = .ok (.if_icmp .ne 18, 3) := by decide +kernel
theorem dX1_valueOf_71 : decode cX1_valueOf 71 = .ok (.bipush (-100), 2) := by decide +kernel
theorem dX1_valueOf_73 : decode cX1_valueOf 73 = .ok (.bipush 100, 2) := by decide +kernel
theorem dX1_valueOf_75 : decode cX1_valueOf 75 = .ok (.iload 4, 2) := by decide +kernel
theorem dX1_valueOf_77 : decode cX1_valueOf 77 = .ok (.invokestatic 50, 3) := by decide +kernel
theorem dX1_valueOf_80 : decode cX1_valueOf 80 = .ok (.invokestatic 56, 3) := by decide +kernel
theorem dX1_valueOf_83 : decode cX1_valueOf 83 = .ok (.goto 13, 3) := by decide +kernel
theorem dX1_valueOf_86 : decode cX1_valueOf 86 = .ok (.iconst 0, 1) := by decide +kernel
theorem dX1_valueOf_87 : decode cX1_valueOf 87 = .ok (.iconst 1, 1) := by decide +kernel
theorem dX1_valueOf_88 : decode cX1_valueOf 88 = .ok (.iload 4, 2) := by decide +kernel
theorem dX1_valueOf_90 : decode cX1_valueOf 90 = .ok (.invokestatic 50, 3) := by decide +kernel
theorem dX1_valueOf_93 : decode cX1_valueOf 93 = .ok (.invokestatic 56, 3) := by decide +kernel
theorem dX1_valueOf_96 : decode cX1_valueOf 96 = .ok (.ireturn, 1) := by decide +kernel
theorem dX1_valueOf_97 : decode cX1_valueOf 97 = .ok (.iinc 3 1, 3) := by decide +kernel
theorem dX1_valueOf_100 : decode cX1_valueOf 100 = .ok (.goto (-98), 3) := by decide +kernel
theorem dX1_valueOf_103 : decode cX1_valueOf 103 = .ok (.iconst 0, 1) := by decide +kernel
theorem dX1_valueOf_104 : decode cX1_valueOf 104 = .ok (.ireturn, 1) := by decide +kernel
theorem dX10_mayOf_0 : decode cX10_mayOf 0 = .ok (.iload_n 1, 1) := by decide +kernel
theorem dX10_mayOf_1 : decode cX10_mayOf 1 = .ok (.iconst 4, 1) := by decide +kernel
theorem dX10_mayOf_2 : decode cX10_mayOf 2 = .ok (.imul, 1) := by decide +kernel
theorem dX10_mayOf_3 : decode cX10_mayOf 3 = .ok (.iload_n 2, 1) := by decide +kernel
theorem dX10_mayOf_4 : decode cX10_mayOf 4 = .ok (.iadd, 1) := by decide +kernel
theorem dX10_mayOf_5 : decode cX10_mayOf 5 = .ok (.istore_n 3, 1) := by decide +kernel
theorem dX10_mayOf_6 : decode cX10_mayOf 6 = .ok (.iload_n 3, 1) := by decide +kernel
theorem dX10_mayOf_7 : decode cX10_mayOf 7 = .ok (.ifCond .lt 12, 3) := by decide +kernel
theorem dX10_mayOf_10 : decode cX10_mayOf 10 = .ok (.iload_n 3, 1) := by decide +kernel
theorem dX10_mayOf_11 : decode cX10_mayOf 11 = .ok (.aload_n 0, 1) := by decide +kernel
theorem dX10_mayOf_12 : decode cX10_mayOf 12 = .ok (.getfield 32, 3) := by decide +kernel
theorem dX10_mayOf_15 : decode cX10_mayOf 15 = .ok (.arraylength, 1) := by decide +kernel
theorem dX10_mayOf_16 : decode cX10_mayOf 16 = .ok (.if_icmp .lt 5, 3) := by decide +kernel
theorem dX10_mayOf_19 : decode cX10_mayOf 19 = .ok (.iconst 0, 1) := by decide +kernel
theorem dX10_mayOf_20 : decode cX10_mayOf 20 = .ok (.ireturn, 1) := by decide +kernel
theorem dX10_mayOf_21 : decode cX10_mayOf 21 = .ok (.aload_n 0, 1) := by decide +kernel
theorem dX10_mayOf_22 : decode cX10_mayOf 22 = .ok (.invokevirtual 69, 3) := by decide +kernel
theorem dX10_mayOf_25 : decode cX10_mayOf 25 = .ok (.aload_n 0, 1) := by decide +kernel
theorem dX10_mayOf_26 : decode cX10_mayOf 26 = .ok (.getfield 32, 3) := by decide +kernel
theorem dX10_mayOf_29 : decode cX10_mayOf 29 = .ok (.iload_n 3, 1) := by decide +kernel
theorem dX10_mayOf_30 : decode cX10_mayOf 30 = .ok (.iaload, 1) := by decide +kernel
theorem dX10_mayOf_31 : decode cX10_mayOf 31 = .ok (.ldc 62, 2) := by decide +kernel
theorem dX10_mayOf_33 : decode cX10_mayOf 33 = .ok (.if_icmp .ne 81, 3) := by decide +kernel
theorem dX10_mayOf_36 : decode cX10_mayOf 36 = .ok (.aload_n 0, 1) := by decide +kernel
theorem dX10_mayOf_37 : decode cX10_mayOf 37 = .ok (.iload_n 1, 1) := by decide +kernel
theorem dX10_mayOf_38 : decode cX10_mayOf 38 = .ok (.iload_n 2, 1) := by decide +kernel
theorem dX10_mayOf_39 : decode cX10_mayOf 39 = .ok (.invokevirtual 92, 3) := by decide +kernel
theorem dX10_mayOf_42 : decode cX10_mayOf 42 = .ok (.istore 4, 2) := by decide +kernel
theorem dX10_mayOf_44 : decode cX10_mayOf 44 = .ok (.iconst 0, 1) := by decide +kernel
theorem dX10_mayOf_45 : decode cX10_mayOf 45 = .ok (.istore 5, 2) := by decide +kernel
theorem dX10_mayOf_47 : decode cX10_mayOf 47 = .ok (.iconst 0, 1) := by decide +kernel
theorem dX10_mayOf_48 : decode cX10_mayOf 48 = .ok (.istore 6, 2) := by decide +kernel
theorem dX10_mayOf_50 : decode cX10_mayOf 50 = .ok (.iload 6, 2) := by decide +kernel
theorem dX10_mayOf_52 : decode cX10_mayOf 52 = .ok (.aload_n 0, 1) := by decide +kernel
theorem dX10_mayOf_53 : decode cX10_mayOf 53 = .ok (.getfield 47, 3) := by decide +kernel
theorem dX10_mayOf_56 : decode cX10_mayOf 56 = .ok (.if_icmp .ge 50, 3) := by decide +kernel
theorem dX10_mayOf_59 : decode cX10_mayOf 59 = .ok (.iload 4, 2) := by decide +kernel
theorem dX10_mayOf_61 : decode cX10_mayOf 61 = .ok (.iload 6, 2) := by decide +kernel
theorem dX10_mayOf_63 : decode cX10_mayOf 63 = .ok (.ishr, 1) := by decide +kernel
theorem dX10_mayOf_64 : decode cX10_mayOf 64 = .ok (.iconst 1, 1) := by decide +kernel
theorem dX10_mayOf_65 : decode cX10_mayOf 65 = .ok (.iand, 1) := by decide +kernel
theorem dX10_mayOf_66 : decode cX10_mayOf 66 = .ok (.iconst 1, 1) := by decide +kernel
theorem dX10_mayOf_67 : decode cX10_mayOf 67 = .ok (.if_icmp .ne 33, 3) := by decide +kernel
theorem dX10_mayOf_70 : decode cX10_mayOf 70 = .ok (.aload_n 0, 1) := by decide +kernel
theorem dX10_mayOf_71 : decode cX10_mayOf 71 = .ok (.iload_n 1, 1) := by decide +kernel
theorem dX10_mayOf_72 : decode cX10_mayOf 72 = .ok (.iload 6, 2) := by decide +kernel
theorem dX10_mayOf_74 : decode cX10_mayOf 74 = .ok (.iconst 0, 1) := by decide +kernel
theorem dX10_mayOf_75 : decode cX10_mayOf 75 = .ok (.iload_n 2, 1) := by decide +kernel
theorem dX10_mayOf_76 : decode cX10_mayOf 76 = .ok (.invokevirtual 79, 3) := by decide +kernel
theorem dX10_mayOf_79 : decode cX10_mayOf 79 = .ok (.iload 5, 2) := by decide +kernel
theorem dX10_mayOf_81 : decode cX10_mayOf 81 = .ok (.aload_n 0, 1) := by decide +kernel
theorem dX10_mayOf_82 : decode cX10_mayOf 82 = .ok (.getfield 43, 3) := by decide +kernel
theorem dX10_mayOf_85 : decode cX10_mayOf 85 = .ok (.bipush 109, 2) := by decide +kernel
theorem dX10_mayOf_87 : decode cX10_mayOf 87 = .ok (.aload_n 0, 1) := by decide +kernel
theorem dX10_mayOf_88 : decode cX10_mayOf 88 = .ok (.getfield 24, 3) := by decide +kernel
theorem dX10_mayOf_91 : decode cX10_mayOf 91 = .ok (.invokevirtual 83, 3) := by decide +kernel
theorem dX10_mayOf_94 : decode cX10_mayOf 94 = .ok (.iload 6, 2) := by decide +kernel
theorem dX10_mayOf_96 : decode cX10_mayOf 96 = .ok (.ishl, 1) := by decide +kernel
theorem dX10_mayOf_97 : decode cX10_mayOf 97 = .ok (.ior, 1) := by decide +kernel
theorem dX10_mayOf_98 : decode cX10_mayOf 98 = .ok (.istore 5, 2) := by decide +kernel
theorem dX10_mayOf_100 : decode cX10_mayOf 100 = .ok (.iinc 6 1, 3) := by decide +kernel
theorem dX10_mayOf_103 : decode cX10_mayOf 103 = .ok (.goto (-53), 3) := by decide +kernel
theorem dX10_mayOf_106 : decode cX10_mayOf 106 = .ok (.aload_n 0, 1) := by decide +kernel
theorem dX10_mayOf_107 : decode cX10_mayOf 107 = .ok (.getfield 32, 3) := by decide +kernel
theorem dX10_mayOf_110 : decode cX10_mayOf 110 = .ok (.iload_n 3, 1) := by decide +kernel
theorem dX10_mayOf_111 : decode cX10_mayOf 111 = .ok (.iload 5, 2) := by decide +kernel
theorem dX10_mayOf_113 : decode cX10_mayOf 113 = .ok (.iastore, 1) := by decide +kernel
theorem dX10_mayOf_114 : decode cX10_mayOf 114 = .ok (.aload_n 0, 1) := by decide +kernel
theorem dX10_mayOf_115 : decode cX10_mayOf 115 = .ok (.getfield 32, 3) := by decide +kernel
theorem dX10_mayOf_118 : decode cX10_mayOf 118 = .ok (.iload_n 3, 1) := by decide +kernel
theorem dX10_mayOf_119 : decode cX10_mayOf 119 = .ok (.iaload, 1) := by decide +kernel
theorem dX10_mayOf_120 : decode cX10_mayOf 120 = .ok (.ireturn, 1) := by decide +kernel
theorem dX11_may_0 : decode cX11_may 0 = .ok (.iload_n 1, 1) := by decide +kernel
theorem dX11_may_1 : decode cX11_may 1 = .ok (.invokestatic 142, 3) := by decide +kernel
theorem dX11_may_4 : decode cX11_may 4 = .ok (.ifCond .eq 21, 3) := by decide +kernel
theorem dX11_may_7 : decode cX11_may 7 = .ok (.aload_n 0, 1) := by decide +kernel
theorem dX11_may_8 : decode cX11_may 8 = .ok (.getfield 42, 3) := by decide +kernel
theorem dX11_may_11 : decode cX11_may 11 = .ok (.aload_n 0, 1) := by decide +kernel
theorem dX11_may_12 : decode cX11_may 12 = .ok (.getfield 88, 3) := by decide +kernel
theorem dX11_may_15 : decode cX11_may 15 = .ok (.getfield 122, 3) := by decide +kernel
theorem dX11_may_18 : decode cX11_may 18 = .ok (.iload_n 1, 1) := by decide +kernel
theorem dX11_may_19 : decode cX11_may 19 = .ok (.invokevirtual 178, 3) := by decide +kernel
theorem dX11_may_22 : decode cX11_may 22 = .ok (.goto 4, 3) := by decide +kernel
theorem dX11_may_25 : decode cX11_may 25 = .ok (.iconst (-1), 1) := by decide +kernel
theorem dX11_may_26 : decode cX11_may 26 = .ok (.ireturn, 1) := by decide +kernel
theorem dX2_onTurn_0 : decode cX2_onTurn 0 = .ok (.iload_n 1, 1) := by decide +kernel
theorem dX2_onTurn_1 : decode cX2_onTurn 1 = .ok (.ifCond .lt 25, 3) := by decide +kernel
theorem dX2_onTurn_4 : decode cX2_onTurn 4 = .ok (.iload_n 1, 1) := by decide +kernel
theorem dX2_onTurn_5 : decode cX2_onTurn 5 = .ok (.aload_n 0, 1) := by decide +kernel
theorem dX2_onTurn_6 : decode cX2_onTurn 6 = .ok (.getfield 21, 3) := by decide +kernel
theorem dX2_onTurn_9 : decode cX2_onTurn 9 = .ok (.if_icmp .ge 17, 3) := by decide +kernel
theorem dX2_onTurn_12 : decode cX2_onTurn 12 = .ok (.iload_n 1, 1) := by decide +kernel
theorem dX2_onTurn_13 : decode cX2_onTurn 13 = .ok (.iconst 4, 1) := by decide +kernel
theorem dX2_onTurn_14 : decode cX2_onTurn 14 = .ok (.if_icmp .ge 12, 3) := by decide +kernel
theorem dX2_onTurn_17 : decode cX2_onTurn 17 = .ok (.aload_n 0, 1) := by decide +kernel
theorem dX2_onTurn_18 : decode cX2_onTurn 18 = .ok (.getfield 18, 3) := by decide +kernel
theorem dX2_onTurn_21 : decode cX2_onTurn 21 = .ok (.iload_n 1, 1) := by decide +kernel
theorem dX2_onTurn_22 : decode cX2_onTurn 22 = .ok (.iaload, 1) := by decide +kernel
theorem dX2_onTurn_23 : decode cX2_onTurn 23 = .ok (.goto 4, 3) := by decide +kernel
theorem dX2_onTurn_26 : decode cX2_onTurn 26 = .ok (.iconst (-1), 1) := by decide +kernel
theorem dX2_onTurn_27 : decode cX2_onTurn 27 = .ok (.ireturn, 1) := by decide +kernel
theorem dX6_isFull_0 : decode cX6_isFull 0 = .ok (.aload_n 0, 1) := by decide +kernel
theorem dX6_isFull_1 : decode cX6_isFull 1 = .ok (.iload_n 1, 1) := by decide +kernel
theorem dX6_isFull_2 : decode cX6_isFull 2 = .ok (.invokevirtual 35, 3) := by decide +kernel
theorem dX6_isFull_5 : decode cX6_isFull 5 = .ok (.aload_n 0, 1) := by decide +kernel
theorem dX6_isFull_6 : decode cX6_isFull 6 = .ok (.iload_n 1, 1) := by decide +kernel
theorem dX6_isFull_7 : decode cX6_isFull 7 = .ok (.invokevirtual 47, 3) := by decide +kernel
theorem dX6_isFull_10 : decode cX6_isFull 10 = .ok (.if_icmp .ne 7, 3) := by decide +kernel
theorem dX6_isFull_13 : decode cX6_isFull 13 = .ok (.iconst 1, 1) := by decide +kernel
theorem dX6_isFull_14 : decode cX6_isFull 14 = .ok (.goto 4, 3) := by decide +kernel
theorem dX6_isFull_17 : decode cX6_isFull 17 = .ok (.iconst 0, 1) := by decide +kernel
theorem dX6_isFull_18 : decode cX6_isFull 18 = .ok (.ireturn, 1) := by decide +kernel
theorem dX11_enter_0 : decode cX11_enter 0 = .ok (.aload_n 0, 1) := by decide +kernel
theorem dX11_enter_1 : decode cX11_enter 1 = .ok (.getfield 88, 3) := by decide +kernel
theorem dX11_enter_4 : decode cX11_enter 4 = .ok (.getfield 223, 3) := by decide +kernel
theorem dX11_enter_7 : decode cX11_enter 7 = .ok (.ifCond .lt 15, 3) := by decide +kernel
theorem dX11_enter_10 : decode cX11_enter 10 = .ok (.aload_n 0, 1) := by decide +kernel
theorem dX11_enter_11 : decode cX11_enter 11 = .ok (.getfield 88, 3) := by decide +kernel
theorem dX11_enter_14 : decode cX11_enter 14 = .ok (.getfield 223, 3) := by decide +kernel
theorem dX11_enter_17 : decode cX11_enter 17 = .ok (.bipush 100, 2) := by decide +kernel
theorem dX11_enter_19 : decode cX11_enter 19 = .ok (.if_icmp .lt 4, 3) := by decide +kernel
theorem dX11_enter_22 : decode cX11_enter 22 = .ok (.return_, 1) := by decide +kernel
theorem dX11_enter_23 : decode cX11_enter 23 = .ok (.aload_n 0, 1) := by decide +kernel
theorem dX11_enter_24 : decode cX11_enter 24 = .ok (.getfield 88, 3) := by decide +kernel
theorem dX11_enter_27 : decode cX11_enter 27 = .ok (.getfield 223, 3) := by decide +kernel
theorem dX11_enter_30 : decode cX11_enter 30 = .ok (.iconst 4, 1) := by decide +kernel
theorem dX11_enter_31 : decode cX11_enter 31 = .ok (.imul, 1) := by decide +kernel
theorem dX11_enter_32 : decode cX11_enter 32 = .ok (.istore 4, 2) := by decide +kernel
theorem dX11_enter_34 : decode cX11_enter 34 = .ok (.aload_n 0, 1) := by decide +kernel
theorem dX11_enter_35 : decode cX11_enter 35 = .ok (.getfield 99, 3) := by decide +kernel
theorem dX11_enter_38 : decode cX11_enter 38 = .ok (.iload 4, 2) := by decide +kernel
theorem dX11_enter_40 : decode cX11_enter 40 = .ok (.aload_n 0, 1) := by decide +kernel
theorem dX11_enter_41 : decode cX11_enter 41 = .ok (.getfield 88, 3) := by decide +kernel
theorem dX11_enter_44 : decode cX11_enter 44 = .ok (.getfield 217, 3) := by decide +kernel
theorem dX11_enter_47 : decode cX11_enter 47 = .ok (.iastore, 1) := by decide +kernel
theorem dX11_enter_48 : decode cX11_enter 48 = .ok (.aload_n 0, 1) := by decide +kernel
theorem dX11_enter_49 : decode cX11_enter 49 = .ok (.getfield 99, 3) := by decide +kernel
theorem dX11_enter_52 : decode cX11_enter 52 = .ok (.iload 4, 2) := by decide +kernel
theorem dX11_enter_54 : decode cX11_enter 54 = .ok (.iconst 1, 1) := by decide +kernel
theorem dX11_enter_55 : decode cX11_enter 55 = .ok (.iadd, 1) := by decide +kernel
theorem dX11_enter_56 : decode cX11_enter 56 = .ok (.iload_n 1, 1) := by decide +kernel
theorem dX11_enter_57 : decode cX11_enter 57 = .ok (.iastore, 1) := by decide +kernel
theorem dX11_enter_58 : decode cX11_enter 58 = .ok (.aload_n 0, 1) := by decide +kernel
theorem dX11_enter_59 : decode cX11_enter 59 = .ok (.getfield 99, 3) := by decide +kernel
theorem dX11_enter_62 : decode cX11_enter 62 = .ok (.iload 4, 2) := by decide +kernel
theorem dX11_enter_64 : decode cX11_enter 64 = .ok (.iconst 2, 1) := by decide +kernel
theorem dX11_enter_65 : decode cX11_enter 65 = .ok (.iadd, 1) := by decide +kernel
theorem dX11_enter_66 : decode cX11_enter 66 = .ok (.iload_n 2, 1) := by decide +kernel
theorem dX11_enter_67 : decode cX11_enter 67 = .ok (.iastore, 1) := by decide +kernel
theorem dX11_enter_68 : decode cX11_enter 68 = .ok (.aload_n 0, 1) := by decide +kernel
theorem dX11_enter_69 : decode cX11_enter 69 = .ok (.getfield 99, 3) := by decide +kernel
theorem dX11_enter_72 : decode cX11_enter 72 = .ok (.iload 4, 2) := by decide +kernel
theorem dX11_enter_74 : decode cX11_enter 74 = .ok (.iconst 3, 1) := by decide +kernel
theorem dX11_enter_75 : decode cX11_enter 75 = .ok (.iadd, 1) := by decide +kernel
theorem dX11_enter_76 : decode cX11_enter 76 = .ok (.iload_n 3, 1) := by decide +kernel
theorem dX11_enter_77 : decode cX11_enter 77 = .ok (.iastore, 1) := by decide +kernel
theorem dX11_enter_78 : decode cX11_enter 78 = .ok (.aload_n 0, 1) := by decide +kernel
theorem dX11_enter_79 : decode cX11_enter 79 = .ok (.getfield 88, 3) := by decide +kernel
theorem dX11_enter_82 : decode cX11_enter 82 = .ok (.dup, 1) := by decide +kernel
theorem dX11_enter_83 : decode cX11_enter 83 = .ok (.getfield 223, 3) := by decide +kernel
theorem dX11_enter_86 : decode cX11_enter 86 = .ok (.iconst 1, 1) := by decide +kernel
theorem dX11_enter_87 : decode cX11_enter 87 = .ok (.iadd, 1) := by decide +kernel
theorem dX11_enter_88 : decode cX11_enter 88 = .ok (.putfield 223, 3) := by decide +kernel
theorem dX11_enter_91 : decode cX11_enter 91 = .ok (.return_, 1) := by decide +kernel
theorem dX6_behind_0 : decode cX6_behind 0 = .ok (.iload_n 2, 1) := by decide +kernel
theorem dX6_behind_1 : decode cX6_behind 1 = .ok (.ifCond .lt 24, 3) := by decide +kernel
theorem dX6_behind_4 : decode cX6_behind 4 = .ok (.iload_n 2, 1) := by decide +kernel
theorem dX6_behind_5 : decode cX6_behind 5 = .ok (.bipush 8, 2) := by decide +kernel
theorem dX6_behind_7 : decode cX6_behind 7 = .ok (.if_icmp .ge 18, 3) := by decide +kernel
theorem dX6_behind_10 : decode cX6_behind 10 = .ok (.iload_n 1, 1) := by decide +kernel
theorem dX6_behind_11 : decode cX6_behind 11 = .ok (.ifCond .lt 14, 3) := by decide +kernel
theorem dX6_behind_14 : decode cX6_behind 14 = .ok (.iload_n 1, 1) := by decide +kernel
theorem dX6_behind_15 : decode cX6_behind 15 = .ok (.sipush 5348, 3) := by decide +kernel
theorem dX6_behind_18 : decode cX6_behind 18 = .ok (.if_icmp .ge 7, 3) := by decide +kernel
theorem dX6_behind_21 : decode cX6_behind 21 = .ok (.iconst 1, 1) := by decide +kernel
theorem dX6_behind_22 : decode cX6_behind 22 = .ok (.goto 4, 3) := by decide +kernel
theorem dX6_behind_25 : decode cX6_behind 25 = .ok (.iconst 0, 1) := by decide +kernel
theorem dX6_behind_26 : decode cX6_behind 26 = .ok (.istore_n 3, 1) := by decide +kernel
theorem dX6_behind_27 : decode cX6_behind 27 = .ok (.iload_n 3, 1) := by decide +kernel
theorem dX6_behind_28 : decode cX6_behind 28 = .ok (.ifCond .eq 14, 3) := by decide +kernel
theorem dX6_behind_31 : decode cX6_behind 31 = .ok (.aload_n 0, 1) := by decide +kernel
theorem dX6_behind_32 : decode cX6_behind 32 = .ok (.getfield 24, 3) := by decide +kernel
theorem dX6_behind_35 : decode cX6_behind 35 = .ok (.iload_n 1, 1) := by decide +kernel
theorem dX6_behind_36 : decode cX6_behind 36 = .ok (.iaload, 1) := by decide +kernel
theorem dX6_behind_37 : decode cX6_behind 37 = .ok (.iload_n 2, 1) := by decide +kernel
theorem dX6_behind_38 : decode cX6_behind 38 = .ok (.iadd, 1) := by decide +kernel
theorem dX6_behind_39 : decode cX6_behind 39 = .ok (.goto 4, 3) := by decide +kernel
theorem dX6_behind_42 : decode cX6_behind 42 = .ok (.iload_n 1, 1) := by decide +kernel
theorem dX6_behind_43 : decode cX6_behind 43 = .ok (.ireturn, 1) := by decide +kernel
theorem dX2_placeAfter_0 : decode cX2_placeAfter 0 = .ok (.iload_n 1, 1) := by decide +kernel
theorem dX2_placeAfter_1 : decode cX2_placeAfter 1 = .ok (.iconst 1, 1) := by decide +kernel
theorem dX2_placeAfter_2 : decode cX2_placeAfter 2 = .ok (.iadd, 1) := by decide +kernel
theorem dX2_placeAfter_3 : decode cX2_placeAfter 3 = .ok (.aload_n 0, 1) := by decide +kernel
theorem dX2_placeAfter_4 : decode cX2_placeAfter 4 = .ok (.getfield 21, 3) := by decide +kernel
theorem dX2_placeAfter_7 : decode cX2_placeAfter 7 = .ok (.if_icmp .ge 9, 3) := by decide +kernel
theorem dX2_placeAfter_10 : decode cX2_placeAfter 10 = .ok (.iload_n 1, 1) := by decide +kernel
theorem dX2_placeAfter_11 : decode cX2_placeAfter 11 = .ok (.iconst 1, 1) := by decide +kernel
theorem dX2_placeAfter_12 : decode cX2_placeAfter 12 = .ok (.iadd, 1) := by decide +kernel
theorem dX2_placeAfter_13 : decode cX2_placeAfter 13 = .ok (.goto 4, 3) := by decide +kernel
theorem dX2_placeAfter_16 : decode cX2_placeAfter 16 = .ok (.iconst 0, 1) := by decide +kernel
theorem dX2_placeAfter_17 : decode cX2_placeAfter 17 = .ok (.ireturn, 1) := by decide +kernel
theorem dX11_passDay_0 : decode cX11_passDay 0 = .ok (.bipush 8, 2) := by decide +kernel
theorem dX11_passDay_2 : decode cX11_passDay 2 = .ok (.istore_n 3, 1) := by decide +kernel
theorem dX11_passDay_3 : decode cX11_passDay 3 = .ok (.iload_n 2, 1) := by decide +kernel
theorem dX11_passDay_4 : decode cX11_passDay 4 = .ok (.bipush 8, 2) := by decide +kernel
theorem dX11_passDay_6 : decode cX11_passDay 6 = .ok (.if_icmp .eq 69, 3) := by decide +kernel
theorem dX11_passDay_9 : decode cX11_passDay 9 = .ok (.aload_n 0, 1) := by decide +kernel
theorem dX11_passDay_10 : decode cX11_passDay 10 = .ok (.getfield 19, 3) := by decide +kernel
theorem dX11_passDay_13 : decode cX11_passDay 13 = .ok (.aload_n 0, 1) := by decide +kernel
theorem dX11_passDay_14 : decode cX11_passDay 14 = .ok (.getfield 88, 3) := by decide +kernel
theorem dX11_passDay_17 : decode cX11_passDay 17 = .ok (.getfield 122, 3) := by decide +kernel
theorem dX11_passDay_20 : decode cX11_passDay 20 = .ok (.invokevirtual 205, 3) := by decide +kernel
theorem dX11_passDay_23 : decode cX11_passDay 23 = .ok (.ifCond .eq 20, 3) := by decide +kernel
theorem dX11_passDay_26 : decode cX11_passDay 26 = .ok (.aload_n 0, 1) := by decide +kernel
theorem dX11_passDay_27 : decode cX11_passDay 27 = .ok (.getfield 19, 3) := by decide +kernel
theorem dX11_passDay_30 : decode cX11_passDay 30 = .ok (.aload_n 0, 1) := by decide +kernel
theorem dX11_passDay_31 : decode cX11_passDay 31 = .ok (.getfield 88, 3) := by decide +kernel
theorem dX11_passDay_34 : decode cX11_passDay 34 = .ok (.getfield 122, 3) := by decide +kernel
theorem dX11_passDay_37 : decode cX11_passDay 37 = .ok (.invokevirtual 208, 3) := by decide +kernel
theorem dX11_passDay_40 : decode cX11_passDay 40 = .ok (.goto 5, 3) := by decide +kernel
theorem dX11_passDay_43 : decode cX11_passDay 43 = .ok (.bipush 8, 2) := by decide +kernel
theorem dX11_passDay_45 : decode cX11_passDay 45 = .ok (.istore_n 3, 1) := by decide +kernel
theorem dX11_passDay_46 : decode cX11_passDay 46 = .ok (.aload_n 0, 1) := by decide +kernel
theorem dX11_passDay_47 : decode cX11_passDay 47 = .ok (.iload_n 1, 1) := by decide +kernel
theorem dX11_passDay_48 : decode cX11_passDay 48 = .ok (.iload_n 2, 1) := by decide +kernel
theorem dX11_passDay_49 : decode cX11_passDay 49 = .ok (.iload_n 3, 1) := by decide +kernel
theorem dX11_passDay_50 : decode cX11_passDay 50 = .ok (.invokevirtual 211, 3) := by decide +kernel
theorem dX11_passDay_53 : decode cX11_passDay 53 = .ok (.aload_n 0, 1) := by decide +kernel
theorem dX11_passDay_54 : decode cX11_passDay 54 = .ok (.getfield 88, 3) := by decide +kernel
theorem dX11_passDay_57 : decode cX11_passDay 57 = .ok (.aload_n 0, 1) := by decide +kernel
theorem dX11_passDay_58 : decode cX11_passDay 58 = .ok (.getfield 19, 3) := by decide +kernel
theorem dX11_passDay_61 : decode cX11_passDay 61 = .ok (.aload_n 0, 1) := by decide +kernel
theorem dX11_passDay_62 : decode cX11_passDay 62 = .ok (.getfield 88, 3) := by decide +kernel
theorem dX11_passDay_65 : decode cX11_passDay 65 = .ok (.getfield 122, 3) := by decide +kernel
theorem dX11_passDay_68 : decode cX11_passDay 68 = .ok (.iload_n 2, 1) := by decide +kernel
theorem dX11_passDay_69 : decode cX11_passDay 69 = .ok (.invokevirtual 214, 3) := by decide +kernel
theorem dX11_passDay_72 : decode cX11_passDay 72 = .ok (.putfield 122, 3) := by decide +kernel
theorem dX11_passDay_75 : decode cX11_passDay 75 = .ok (.aload_n 0, 1) := by decide +kernel
theorem dX11_passDay_76 : decode cX11_passDay 76 = .ok (.getfield 88, 3) := by decide +kernel
theorem dX11_passDay_79 : decode cX11_passDay 79 = .ok (.dup, 1) := by decide +kernel
theorem dX11_passDay_80 : decode cX11_passDay 80 = .ok (.getfield 217, 3) := by decide +kernel
theorem dX11_passDay_83 : decode cX11_passDay 83 = .ok (.iconst 1, 1) := by decide +kernel
theorem dX11_passDay_84 : decode cX11_passDay 84 = .ok (.iadd, 1) := by decide +kernel
theorem dX11_passDay_85 : decode cX11_passDay 85 = .ok (.putfield 217, 3) := by decide +kernel
theorem dX11_passDay_88 : decode cX11_passDay 88 = .ok (.aload_n 0, 1) := by decide +kernel
theorem dX11_passDay_89 : decode cX11_passDay 89 = .ok (.getfield 88, 3) := by decide +kernel
theorem dX11_passDay_92 : decode cX11_passDay 92 = .ok (.aload_n 0, 1) := by decide +kernel
theorem dX11_passDay_93 : decode cX11_passDay 93 = .ok (.getfield 51, 3) := by decide +kernel
theorem dX11_passDay_96 : decode cX11_passDay 96 = .ok (.aload_n 0, 1) := by decide +kernel
theorem dX11_passDay_97 : decode cX11_passDay 97 = .ok (.getfield 88, 3) := by decide +kernel
theorem dX11_passDay_100 : decode cX11_passDay 100 = .ok (.getfield 139, 3) := by decide +kernel
theorem dX11_passDay_103 : decode cX11_passDay 103 = .ok (.invokevirtual 220, 3) := by decide +kernel
theorem dX11_passDay_106 : decode cX11_passDay 106 = .ok (.putfield 139, 3) := by decide +kernel
theorem dX11_passDay_109 : decode cX11_passDay 109 = .ok (.iload_n 3, 1) := by decide +kernel
theorem dX11_passDay_110 : decode cX11_passDay 110 = .ok (.ireturn, 1) := by decide +kernel
theorem dX11_make_0 : decode cX11_make 0 = .ok (.iload_n 1, 1) := by decide +kernel
theorem dX11_make_1 : decode cX11_make 1 = .ok (.iconst (-1), 1) := by decide +kernel
theorem dX11_make_2 : decode cX11_make 2 = .ok (.if_icmp .eq 13, 3) := by decide +kernel
theorem dX11_make_5 : decode cX11_make 5 = .ok (.aload_n 0, 1) := by decide +kernel
theorem dX11_make_6 : decode cX11_make 6 = .ok (.iload_n 1, 1) := by decide +kernel
theorem dX11_make_7 : decode cX11_make 7 = .ok (.invokevirtual 146, 3) := by decide +kernel
theorem dX11_make_10 : decode cX11_make 10 = .ok (.ifCond .ne 5, 3) := by decide +kernel
theorem dX11_make_13 : decode cX11_make 13 = .ok (.iconst (-1), 1) := by decide +kernel
theorem dX11_make_14 : decode cX11_make 14 = .ok (.ireturn, 1) := by decide +kernel
theorem dX11_make_15 : decode cX11_make 15 = .ok (.aload_n 0, 1) := by decide +kernel
theorem dX11_make_16 : decode cX11_make 16 = .ok (.getfield 51, 3) := by decide +kernel
theorem dX11_make_19 : decode cX11_make 19 = .ok (.aload_n 0, 1) := by decide +kernel
theorem dX11_make_20 : decode cX11_make 20 = .ok (.getfield 88, 3) := by decide +kernel
theorem dX11_make_23 : decode cX11_make 23 = .ok (.getfield 139, 3) := by decide +kernel
theorem dX11_make_26 : decode cX11_make 26 = .ok (.invokevirtual 198, 3) := by decide +kernel
theorem dX11_make_29 : decode cX11_make 29 = .ok (.istore_n 2, 1) := by decide +kernel
theorem dX11_make_30 : decode cX11_make 30 = .ok (.iload_n 1, 1) := by decide +kernel
theorem dX11_make_31 : decode cX11_make 31 = .ok (.iconst (-1), 1) := by decide +kernel
theorem dX11_make_32 : decode cX11_make 32 = .ok (.if_icmp .eq 28, 3) := by decide +kernel
theorem dX11_make_35 : decode cX11_make 35 = .ok (.aload_n 0, 1) := by decide +kernel
theorem dX11_make_36 : decode cX11_make 36 = .ok (.getfield 42, 3) := by decide +kernel
theorem dX11_make_39 : decode cX11_make 39 = .ok (.aload_n 0, 1) := by decide +kernel
theorem dX11_make_40 : decode cX11_make 40 = .ok (.getfield 88, 3) := by decide +kernel
theorem dX11_make_43 : decode cX11_make 43 = .ok (.getfield 122, 3) := by decide +kernel
theorem dX11_make_46 : decode cX11_make 46 = .ok (.iload_n 2, 1) := by decide +kernel
theorem dX11_make_47 : decode cX11_make 47 = .ok (.invokevirtual 178, 3) := by decide +kernel
theorem dX11_make_50 : decode cX11_make 50 = .ok (.iload_n 1, 1) := by decide +kernel
theorem dX11_make_51 : decode cX11_make 51 = .ok (.ishr, 1) := by decide +kernel
theorem dX11_make_52 : decode cX11_make 52 = .ok (.iconst 1, 1) := by decide +kernel
theorem dX11_make_53 : decode cX11_make 53 = .ok (.iand, 1) := by decide +kernel
theorem dX11_make_54 : decode cX11_make 54 = .ok (.ifCond .ne 6, 3) := by decide +kernel
theorem dX11_make_57 : decode cX11_make 57 = .ok (.bipush (-2), 2) := by decide +kernel
theorem dX11_make_59 : decode cX11_make 59 = .ok (.ireturn, 1) := by decide +kernel
theorem dX11_make_60 : decode cX11_make 60 = .ok (.aload_n 0, 1) := by decide +kernel
theorem dX11_make_61 : decode cX11_make 61 = .ok (.iload_n 2, 1) := by decide +kernel
theorem dX11_make_62 : decode cX11_make 62 = .ok (.iload_n 1, 1) := by decide +kernel
theorem dX11_make_63 : decode cX11_make 63 = .ok (.iconst (-1), 1) := by decide +kernel
theorem dX11_make_64 : decode cX11_make 64 = .ok (.if_icmp .ne 8, 3) := by decide +kernel
theorem dX11_make_67 : decode cX11_make 67 = .ok (.bipush 8, 2) := by decide +kernel
theorem dX11_make_69 : decode cX11_make 69 = .ok (.goto 4, 3) := by decide +kernel
theorem dX11_make_72 : decode cX11_make 72 = .ok (.iload_n 1, 1) := by decide +kernel
theorem dX11_make_73 : decode cX11_make 73 = .ok (.invokevirtual 201, 3) := by decide +kernel
theorem dX11_make_76 : decode cX11_make 76 = .ok (.ireturn, 1) := by decide +kernel
theorem dX11_at_0 : decode cX11_at 0 = .ok (.aload_n 0, 1) := by decide +kernel
theorem dX11_at_1 : decode cX11_at 1 = .ok (.getfield 19, 3) := by decide +kernel
theorem dX11_at_4 : decode cX11_at 4 = .ok (.aload_n 0, 1) := by decide +kernel
theorem dX11_at_5 : decode cX11_at 5 = .ok (.getfield 88, 3) := by decide +kernel
theorem dX11_at_8 : decode cX11_at 8 = .ok (.getfield 122, 3) := by decide +kernel
theorem dX11_at_11 : decode cX11_at 11 = .ok (.iload_n 1, 1) := by decide +kernel
theorem dX11_at_12 : decode cX11_at 12 = .ok (.invokevirtual 182, 3) := by decide +kernel
theorem dX11_at_15 : decode cX11_at 15 = .ok (.ireturn, 1) := by decide +kernel
theorem dX11_holding_0 : decode cX11_holding 0 = .ok (.aload_n 0, 1) := by decide +kernel
theorem dX11_holding_1 : decode cX11_holding 1 = .ok (.getfield 42, 3) := by decide +kernel
theorem dX11_holding_4 : decode cX11_holding 4 = .ok (.aload_n 0, 1) := by decide +kernel
theorem dX11_holding_5 : decode cX11_holding 5 = .ok (.getfield 88, 3) := by decide +kernel
theorem dX11_holding_8 : decode cX11_holding 8 = .ok (.getfield 122, 3) := by decide +kernel
theorem dX11_holding_11 : decode cX11_holding 11 = .ok (.invokevirtual 185, 3) := by decide +kernel
theorem dX11_holding_14 : decode cX11_holding 14 = .ok (.ireturn, 1) := by decide +kernel
theorem dX10_worthOf_0 : decode cX10_worthOf 0 = .ok (.iload_n 1, 1) := by decide +kernel
theorem dX10_worthOf_1 : decode cX10_worthOf 1 = .ok (.iconst 4, 1) := by decide +kernel
theorem dX10_worthOf_2 : decode cX10_worthOf 2 = .ok (.imul, 1) := by decide +kernel
theorem dX10_worthOf_3 : decode cX10_worthOf 3 = .ok (.iload_n 2, 1) := by decide +kernel
theorem dX10_worthOf_4 : decode cX10_worthOf 4 = .ok (.iadd, 1) := by decide +kernel
theorem dX10_worthOf_5 : decode cX10_worthOf 5 = .ok (.istore_n 3, 1) := by decide +kernel
theorem dX10_worthOf_6 : decode cX10_worthOf 6 = .ok (.iload_n 3, 1) := by decide +kernel
theorem dX10_worthOf_7 : decode cX10_worthOf 7 = .ok (.ifCond .lt 12, 3) := by decide +kernel
theorem dX10_worthOf_10 : decode cX10_worthOf 10 = .ok (.iload_n 3, 1) := by decide +kernel
theorem dX10_worthOf_11 : decode cX10_worthOf 11 = .ok (.aload_n 0, 1) := by decide +kernel
theorem dX10_worthOf_12 : decode cX10_worthOf 12 = .ok (.getfield 29, 3) := by decide +kernel
theorem dX10_worthOf_15 : decode cX10_worthOf 15 = .ok (.arraylength, 1) := by decide +kernel
theorem dX10_worthOf_16 : decode cX10_worthOf 16 = .ok (.if_icmp .lt 5, 3) := by decide +kernel
theorem dX10_worthOf_19 : decode cX10_worthOf 19 = .ok (.iconst 0, 1) := by decide +kernel
theorem dX10_worthOf_20 : decode cX10_worthOf 20 = .ok (.ireturn, 1) := by decide +kernel
theorem dX10_worthOf_21 : decode cX10_worthOf 21 = .ok (.aload_n 0, 1) := by decide +kernel
theorem dX10_worthOf_22 : decode cX10_worthOf 22 = .ok (.invokevirtual 69, 3) := by decide +kernel
theorem dX10_worthOf_25 : decode cX10_worthOf 25 = .ok (.aload_n 0, 1) := by decide +kernel
theorem dX10_worthOf_26 : decode cX10_worthOf 26 = .ok (.getfield 29, 3) := by decide +kernel
theorem dX10_worthOf_29 : decode cX10_worthOf 29 = .ok (.iload_n 3, 1) := by decide +kernel
theorem dX10_worthOf_30 : decode cX10_worthOf 30 = .ok (.iaload, 1) := by decide +kernel
theorem dX10_worthOf_31 : decode cX10_worthOf 31 = .ok (.ldc 62, 2) := by decide +kernel
theorem dX10_worthOf_33 : decode cX10_worthOf 33 = .ok (.if_icmp .ne 76, 3) := by decide +kernel
theorem dX10_worthOf_36 : decode cX10_worthOf 36 = .ok (.iconst 0, 1) := by decide +kernel
theorem dX10_worthOf_37 : decode cX10_worthOf 37 = .ok (.istore 4, 2) := by decide +kernel
theorem dX10_worthOf_39 : decode cX10_worthOf 39 = .ok (.aload_n 0, 1) := by decide +kernel
theorem dX10_worthOf_40 : decode cX10_worthOf 40 = .ok (.getfield 39, 3) := by decide +kernel
theorem dX10_worthOf_43 : decode cX10_worthOf 43 = .ok (.iload_n 1, 1) := by decide +kernel
theorem dX10_worthOf_44 : decode cX10_worthOf 44 = .ok (.invokevirtual 72, 3) := by decide +kernel
theorem dX10_worthOf_47 : decode cX10_worthOf 47 = .ok (.istore 5, 2) := by decide +kernel
theorem dX10_worthOf_49 : decode cX10_worthOf 49 = .ok (.iconst 0, 1) := by decide +kernel
theorem dX10_worthOf_50 : decode cX10_worthOf 50 = .ok (.istore 6, 2) := by decide +kernel
theorem dX10_worthOf_52 : decode cX10_worthOf 52 = .ok (.iload 6, 2) := by decide +kernel
theorem dX10_worthOf_54 : decode cX10_worthOf 54 = .ok (.iload 5, 2) := by decide +kernel
theorem dX10_worthOf_56 : decode cX10_worthOf 56 = .ok (.if_icmp .ge 45, 3) := by decide +kernel
theorem dX10_worthOf_59 : decode cX10_worthOf 59 = .ok (.aload_n 0, 1) := by decide +kernel
theorem dX10_worthOf_60 : decode cX10_worthOf 60 = .ok (.iload_n 1, 1) := by decide +kernel
theorem dX10_worthOf_61 : decode cX10_worthOf 61 = .ok (.aload_n 0, 1) := by decide +kernel
theorem dX10_worthOf_62 : decode cX10_worthOf 62 = .ok (.getfield 39, 3) := by decide +kernel
theorem dX10_worthOf_65 : decode cX10_worthOf 65 = .ok (.iload_n 1, 1) := by decide +kernel
theorem dX10_worthOf_66 : decode cX10_worthOf 66 = .ok (.iload 6, 2) := by decide +kernel
theorem dX10_worthOf_68 : decode cX10_worthOf 68 = .ok (.invokevirtual 75, 3) := by decide +kernel
theorem dX10_worthOf_71 : decode cX10_worthOf 71 = .ok (.iload 6, 2) := by decide +kernel
theorem dX10_worthOf_73 : decode cX10_worthOf 73 = .ok (.iload_n 2, 1) := by decide +kernel
theorem dX10_worthOf_74 : decode cX10_worthOf 74 = .ok (.invokevirtual 79, 3) := by decide +kernel
theorem dX10_worthOf_77 : decode cX10_worthOf 77 = .ok (.iload 4, 2) := by decide +kernel
theorem dX10_worthOf_79 : decode cX10_worthOf 79 = .ok (.aload_n 0, 1) := by decide +kernel
theorem dX10_worthOf_80 : decode cX10_worthOf 80 = .ok (.getfield 43, 3) := by decide +kernel
theorem dX10_worthOf_83 : decode cX10_worthOf 83 = .ok (.bipush 118, 2) := by decide +kernel
theorem dX10_worthOf_85 : decode cX10_worthOf 85 = .ok (.aload_n 0, 1) := by decide +kernel
theorem dX10_worthOf_86 : decode cX10_worthOf 86 = .ok (.getfield 24, 3) := by decide +kernel
theorem dX10_worthOf_89 : decode cX10_worthOf 89 = .ok (.invokevirtual 83, 3) := by decide +kernel
theorem dX10_worthOf_92 : decode cX10_worthOf 92 = .ok (.iadd, 1) := by decide +kernel
theorem dX10_worthOf_93 : decode cX10_worthOf 93 = .ok (.istore 4, 2) := by decide +kernel
theorem dX10_worthOf_95 : decode cX10_worthOf 95 = .ok (.iinc 6 1, 3) := by decide +kernel
theorem dX10_worthOf_98 : decode cX10_worthOf 98 = .ok (.goto (-46), 3) := by decide +kernel
theorem dX10_worthOf_101 : decode cX10_worthOf 101 = .ok (.aload_n 0, 1) := by decide +kernel
theorem dX10_worthOf_102 : decode cX10_worthOf 102 = .ok (.getfield 29, 3) := by decide +kernel
theorem dX10_worthOf_105 : decode cX10_worthOf 105 = .ok (.iload_n 3, 1) := by decide +kernel
theorem dX10_worthOf_106 : decode cX10_worthOf 106 = .ok (.iload 4, 2) := by decide +kernel
theorem dX10_worthOf_108 : decode cX10_worthOf 108 = .ok (.iastore, 1) := by decide +kernel
theorem dX10_worthOf_109 : decode cX10_worthOf 109 = .ok (.aload_n 0, 1) := by decide +kernel
theorem dX10_worthOf_110 : decode cX10_worthOf 110 = .ok (.getfield 29, 3) := by decide +kernel
theorem dX10_worthOf_113 : decode cX10_worthOf 113 = .ok (.iload_n 3, 1) := by decide +kernel
theorem dX10_worthOf_114 : decode cX10_worthOf 114 = .ok (.iaload, 1) := by decide +kernel
theorem dX10_worthOf_115 : decode cX10_worthOf 115 = .ok (.ireturn, 1) := by decide +kernel
theorem dX11_worth_0 : decode cX11_worth 0 = .ok (.iload_n 1, 1) := by decide +kernel
theorem dX11_worth_1 : decode cX11_worth 1 = .ok (.invokestatic 142, 3) := by decide +kernel
theorem dX11_worth_4 : decode cX11_worth 4 = .ok (.ifCond .eq 21, 3) := by decide +kernel
theorem dX11_worth_7 : decode cX11_worth 7 = .ok (.aload_n 0, 1) := by decide +kernel
theorem dX11_worth_8 : decode cX11_worth 8 = .ok (.getfield 42, 3) := by decide +kernel
theorem dX11_worth_11 : decode cX11_worth 11 = .ok (.aload_n 0, 1) := by decide +kernel
theorem dX11_worth_12 : decode cX11_worth 12 = .ok (.getfield 88, 3) := by decide +kernel
theorem dX11_worth_15 : decode cX11_worth 15 = .ok (.getfield 122, 3) := by decide +kernel
theorem dX11_worth_18 : decode cX11_worth 18 = .ok (.iload_n 1, 1) := by decide +kernel
theorem dX11_worth_19 : decode cX11_worth 19 = .ok (.invokevirtual 188, 3) := by decide +kernel
theorem dX11_worth_22 : decode cX11_worth 22 = .ok (.goto 5, 3) := by decide +kernel
theorem dX11_worth_25 : decode cX11_worth 25 = .ok (.ldc 191, 2) := by decide +kernel
theorem dX11_worth_27 : decode cX11_worth 27 = .ok (.ireturn, 1) := by decide +kernel
theorem dX10_valueOfOldest_0 : decode cX10_valueOfOldest 0 = .ok (.aload_n 0, 1) := by decide +kernel
theorem dX10_valueOfOldest_1 : decode cX10_valueOfOldest 1 = .ok (.iload_n 1, 1) := by decide +kernel
theorem dX10_valueOfOldest_2 : decode cX10_valueOfOldest 2 = .ok (.aload_n 0, 1) := by decide +kernel
theorem dX10_valueOfOldest_3 : decode cX10_valueOfOldest 3 = .ok (.getfield 39, 3) := by decide +kernel
theorem dX10_valueOfOldest_6 : decode cX10_valueOfOldest 6 = .ok (.iload_n 1, 1) := by decide +kernel
theorem dX10_valueOfOldest_7 : decode cX10_valueOfOldest 7 = .ok (.invokevirtual 89, 3) := by decide +kernel
theorem dX10_valueOfOldest_10 : decode cX10_valueOfOldest 10 = .ok (.iconst 0, 1) := by decide +kernel
theorem dX10_valueOfOldest_11 : decode cX10_valueOfOldest 11 = .ok (.iload_n 2, 1) := by decide +kernel
theorem dX10_valueOfOldest_12 : decode cX10_valueOfOldest 12 = .ok (.invokevirtual 79, 3) := by decide +kernel
theorem dX10_valueOfOldest_15 : decode cX10_valueOfOldest 15 = .ok (.aload_n 0, 1) := by decide +kernel
theorem dX10_valueOfOldest_16 : decode cX10_valueOfOldest 16 = .ok (.getfield 43, 3) := by decide +kernel
theorem dX10_valueOfOldest_19 : decode cX10_valueOfOldest 19 = .ok (.bipush 118, 2) := by decide +kernel
theorem dX10_valueOfOldest_21 : decode cX10_valueOfOldest 21 = .ok (.aload_n 0, 1) := by decide +kernel
theorem dX10_valueOfOldest_22 : decode cX10_valueOfOldest 22 = .ok (.getfield 24, 3) := by decide +kernel
theorem dX10_valueOfOldest_25 : decode cX10_valueOfOldest 25 = .ok (.invokevirtual 83, 3) := by decide +kernel
theorem dX10_valueOfOldest_28 : decode cX10_valueOfOldest 28 = .ok (.ireturn, 1) := by decide +kernel
theorem dX2_choice_0 : decode cX2_choice 0 = .ok (.iload_n 1, 1) := by decide +kernel
theorem dX2_choice_1 : decode cX2_choice 1 = .ok (.invokestatic 33, 3) := by decide +kernel
theorem dX2_choice_4 : decode cX2_choice 4 = .ok (.ifCond .eq 12, 3) := by decide +kernel
theorem dX2_choice_7 : decode cX2_choice 7 = .ok (.aload_n 0, 1) := by decide +kernel
theorem dX2_choice_8 : decode cX2_choice 8 = .ok (.getfield 9, 3) := by decide +kernel
theorem dX2_choice_11 : decode cX2_choice 11 = .ok (.iload_n 1, 1) := by decide +kernel
theorem dX2_choice_12 : decode cX2_choice 12 = .ok (.iaload, 1) := by decide +kernel
theorem dX2_choice_13 : decode cX2_choice 13 = .ok (.goto 4, 3) := by decide +kernel
theorem dX2_choice_16 : decode cX2_choice 16 = .ok (.iconst 0, 1) := by decide +kernel
theorem dX2_choice_17 : decode cX2_choice 17 = .ok (.istore_n 3, 1) := by decide +kernel
theorem dX2_choice_18 : decode cX2_choice 18 = .ok (.iload_n 3, 1) := by decide +kernel
theorem dX2_choice_19 : decode cX2_choice 19 = .ok (.ifCond .ne 6, 3) := by decide +kernel
theorem dX2_choice_22 : decode cX2_choice 22 = .ok (.bipush 8, 2) := by decide +kernel
theorem dX2_choice_24 : decode cX2_choice 24 = .ok (.ireturn, 1) := by decide +kernel
theorem dX2_choice_25 : decode cX2_choice 25 = .ok (.aload_n 0, 1) := by decide +kernel
theorem dX2_choice_26 : decode cX2_choice 26 = .ok (.getfield 29, 3) := by decide +kernel
theorem dX2_choice_29 : decode cX2_choice 29 = .ok (.iload_n 2, 1) := by decide +kernel
theorem dX2_choice_30 : decode cX2_choice 30 = .ok (.iload_n 1, 1) := by decide +kernel
theorem dX2_choice_31 : decode cX2_choice 31 = .ok (.invokevirtual 43, 3) := by decide +kernel
theorem dX2_choice_34 : decode cX2_choice 34 = .ok (.istore 4, 2) := by decide +kernel
theorem dX2_choice_36 : decode cX2_choice 36 = .ok (.iload_n 3, 1) := by decide +kernel
theorem dX2_choice_37 : decode cX2_choice 37 = .ok (.iconst 4, 1) := by decide +kernel
theorem dX2_choice_38 : decode cX2_choice 38 = .ok (.if_icmp .ne 44, 3) := by decide +kernel
theorem dX2_choice_41 : decode cX2_choice 41 = .ok (.aload_n 0, 1) := by decide +kernel
theorem dX2_choice_42 : decode cX2_choice 42 = .ok (.getfield 15, 3) := by decide +kernel
theorem dX2_choice_45 : decode cX2_choice 45 = .ok (.iload_n 1, 1) := by decide +kernel
theorem dX2_choice_46 : decode cX2_choice 46 = .ok (.iaload, 1) := by decide +kernel
theorem dX2_choice_47 : decode cX2_choice 47 = .ok (.bipush 7, 2) := by decide +kernel
theorem dX2_choice_49 : decode cX2_choice 49 = .ok (.iand, 1) := by decide +kernel
theorem dX2_choice_50 : decode cX2_choice 50 = .ok (.istore 5, 2) := by decide +kernel
theorem dX2_choice_52 : decode cX2_choice 52 = .ok (.iload 4, 2) := by decide +kernel
theorem dX2_choice_54 : decode cX2_choice 54 = .ok (.aload_n 0, 1) := by decide +kernel
theorem dX2_choice_55 : decode cX2_choice 55 = .ok (.getfield 25, 3) := by decide +kernel
theorem dX2_choice_58 : decode cX2_choice 58 = .ok (.iload_n 2, 1) := by decide +kernel
theorem dX2_choice_59 : decode cX2_choice 59 = .ok (.invokevirtual 49, 3) := by decide +kernel
theorem dX2_choice_62 : decode cX2_choice 62 = .ok (.iconst (-1), 1) := by decide +kernel
theorem dX2_choice_63 : decode cX2_choice 63 = .ok (.ixor, 1) := by decide +kernel
theorem dX2_choice_64 : decode cX2_choice 64 = .ok (.iand, 1) := by decide +kernel
theorem dX2_choice_65 : decode cX2_choice 65 = .ok (.iload 5, 2) := by decide +kernel
theorem dX2_choice_67 : decode cX2_choice 67 = .ok (.ishr, 1) := by decide +kernel
theorem dX2_choice_68 : decode cX2_choice 68 = .ok (.iconst 1, 1) := by decide +kernel
theorem dX2_choice_69 : decode cX2_choice 69 = .ok (.iand, 1) := by decide +kernel
theorem dX2_choice_70 : decode cX2_choice 70 = .ok (.iconst 1, 1) := by decide +kernel
theorem dX2_choice_71 : decode cX2_choice 71 = .ok (.if_icmp .ne 8, 3) := by decide +kernel
theorem dX2_choice_74 : decode cX2_choice 74 = .ok (.iload 5, 2) := by decide +kernel
theorem dX2_choice_76 : decode cX2_choice 76 = .ok (.goto 5, 3) := by decide +kernel
theorem dX2_choice_79 : decode cX2_choice 79 = .ok (.bipush 8, 2) := by decide +kernel
theorem dX2_choice_81 : decode cX2_choice 81 = .ok (.ireturn, 1) := by decide +kernel
theorem dX2_choice_82 : decode cX2_choice 82 = .ok (.iload_n 3, 1) := by decide +kernel
theorem dX2_choice_83 : decode cX2_choice 83 = .ok (.iconst 2, 1) := by decide +kernel
theorem dX2_choice_84 : decode cX2_choice 84 = .ok (.if_icmp .eq 8, 3) := by decide +kernel
theorem dX2_choice_87 : decode cX2_choice 87 = .ok (.iload_n 3, 1) := by decide +kernel
theorem dX2_choice_88 : decode cX2_choice 88 = .ok (.iconst 3, 1) := by decide +kernel
theorem dX2_choice_89 : decode cX2_choice 89 = .ok (.if_icmp .ne 76, 3) := by decide +kernel
theorem dX2_choice_92 : decode cX2_choice 92 = .ok (.aload_n 0, 1) := by decide +kernel
theorem dX2_choice_93 : decode cX2_choice 93 = .ok (.getfield 25, 3) := by decide +kernel
theorem dX2_choice_96 : decode cX2_choice 96 = .ok (.iload_n 2, 1) := by decide +kernel
theorem dX2_choice_97 : decode cX2_choice 97 = .ok (.invokevirtual 54, 3) := by decide +kernel
theorem dX2_choice_100 : decode cX2_choice 100 = .ok (.ifCond .eq 15, 3) := by decide +kernel
theorem dX2_choice_103 : decode cX2_choice 103 = .ok (.aload_n 0, 1) := by decide +kernel
theorem dX2_choice_104 : decode cX2_choice 104 = .ok (.getfield 29, 3) := by decide +kernel
theorem dX2_choice_107 : decode cX2_choice 107 = .ok (.iload_n 2, 1) := by decide +kernel
theorem dX2_choice_108 : decode cX2_choice 108 = .ok (.iload_n 1, 1) := by decide +kernel
theorem dX2_choice_109 : decode cX2_choice 109 = .ok (.invokevirtual 57, 3) := by decide +kernel
theorem dX2_choice_112 : decode cX2_choice 112 = .ok (.goto 4, 3) := by decide +kernel
theorem dX2_choice_115 : decode cX2_choice 115 = .ok (.iconst 0, 1) := by decide +kernel
theorem dX2_choice_116 : decode cX2_choice 116 = .ok (.istore 5, 2) := by decide +kernel
theorem dX2_choice_118 : decode cX2_choice 118 = .ok (.aload_n 0, 1) := by decide +kernel
theorem dX2_choice_119 : decode cX2_choice 119 = .ok (.getfield 25, 3) := by decide +kernel
theorem dX2_choice_122 : decode cX2_choice 122 = .ok (.iload_n 2, 1) := by decide +kernel
theorem dX2_choice_123 : decode cX2_choice 123 = .ok (.invokevirtual 60, 3) := by decide +kernel
theorem dX2_choice_126 : decode cX2_choice 126 = .ok (.istore 6, 2) := by decide +kernel
theorem dX2_choice_128 : decode cX2_choice 128 = .ok (.iload_n 3, 1) := by decide +kernel
theorem dX2_choice_129 : decode cX2_choice 129 = .ok (.iconst 2, 1) := by decide +kernel
theorem dX2_choice_130 : decode cX2_choice 130 = .ok (.if_icmp .ne 27, 3) := by decide +kernel
theorem dX2_choice_133 : decode cX2_choice 133 = .ok (.iload 5, 2) := by decide +kernel
theorem dX2_choice_135 : decode cX2_choice 135 = .ok (.ifCond .le 19, 3) := by decide +kernel
theorem dX2_choice_138 : decode cX2_choice 138 = .ok (.iload 4, 2) := by decide +kernel
theorem dX2_choice_140 : decode cX2_choice 140 = .ok (.iload 6, 2) := by decide +kernel
theorem dX2_choice_142 : decode cX2_choice 142 = .ok (.ishr, 1) := by decide +kernel
theorem dX2_choice_143 : decode cX2_choice 143 = .ok (.iconst 1, 1) := by decide +kernel
theorem dX2_choice_144 : decode cX2_choice 144 = .ok (.iand, 1) := by decide +kernel
theorem dX2_choice_145 : decode cX2_choice 145 = .ok (.iconst 1, 1) := by decide +kernel
theorem dX2_choice_146 : decode cX2_choice 146 = .ok (.if_icmp .ne 8, 3) := by decide +kernel
theorem dX2_choice_149 : decode cX2_choice 149 = .ok (.iload 6, 2) := by decide +kernel
theorem dX2_choice_151 : decode cX2_choice 151 = .ok (.goto 5, 3) := by decide +kernel
theorem dX2_choice_154 : decode cX2_choice 154 = .ok (.bipush 8, 2) := by decide +kernel
theorem dX2_choice_156 : decode cX2_choice 156 = .ok (.ireturn, 1) := by decide +kernel
theorem dX2_choice_157 : decode cX2_choice 157 = .ok (.iload 5, 2) := by decide +kernel
theorem dX2_choice_159 : decode cX2_choice 159 = .ok (.ifCond .lt 6, 3) := by decide +kernel
theorem dX2_choice_162 : decode cX2_choice 162 = .ok (.bipush 8, 2) := by decide +kernel
theorem dX2_choice_164 : decode cX2_choice 164 = .ok (.ireturn, 1) := by decide +kernel
theorem dX2_choice_165 : decode cX2_choice 165 = .ok (.bipush 8, 2) := by decide +kernel
theorem dX2_choice_167 : decode cX2_choice 167 = .ok (.istore 5, 2) := by decide +kernel
theorem dX2_choice_169 : decode cX2_choice 169 = .ok (.iload_n 3, 1) := by decide +kernel
theorem dX2_choice_170 : decode cX2_choice 170 = .ok (.iconst 1, 1) := by decide +kernel
theorem dX2_choice_171 : decode cX2_choice 171 = .ok (.if_icmp .ne 15, 3) := by decide +kernel
theorem dX2_choice_174 : decode cX2_choice 174 = .ok (.aload_n 0, 1) := by decide +kernel
theorem dX2_choice_175 : decode cX2_choice 175 = .ok (.getfield 29, 3) := by decide +kernel
theorem dX2_choice_178 : decode cX2_choice 178 = .ok (.iload_n 2, 1) := by decide +kernel
theorem dX2_choice_179 : decode cX2_choice 179 = .ok (.iload_n 1, 1) := by decide +kernel
theorem dX2_choice_180 : decode cX2_choice 180 = .ok (.invokevirtual 63, 3) := by decide +kernel
theorem dX2_choice_183 : decode cX2_choice 183 = .ok (.goto 5, 3) := by decide +kernel
theorem dX2_choice_186 : decode cX2_choice 186 = .ok (.ldc 66, 2) := by decide +kernel
theorem dX2_choice_188 : decode cX2_choice 188 = .ok (.istore 6, 2) := by decide +kernel
theorem dX2_choice_190 : decode cX2_choice 190 = .ok (.iconst 0, 1) := by decide +kernel
theorem dX2_choice_191 : decode cX2_choice 191 = .ok (.istore 7, 2) := by decide +kernel
theorem dX2_choice_193 : decode cX2_choice 193 = .ok (.iload 7, 2) := by decide +kernel
theorem dX2_choice_195 : decode cX2_choice 195 = .ok (.bipush 8, 2) := by decide +kernel
theorem dX2_choice_197 : decode cX2_choice 197 = .ok (.if_icmp .ge 60, 3) := by decide +kernel
theorem dX2_choice_200 : decode cX2_choice 200 = .ok (.iload 4, 2) := by decide +kernel
theorem dX2_choice_202 : decode cX2_choice 202 = .ok (.iload 7, 2) := by decide +kernel
theorem dX2_choice_204 : decode cX2_choice 204 = .ok (.ishr, 1) := by decide +kernel
theorem dX2_choice_205 : decode cX2_choice 205 = .ok (.iconst 1, 1) := by decide +kernel
theorem dX2_choice_206 : decode cX2_choice 206 = .ok (.iand, 1) := by decide +kernel
theorem dX2_choice_207 : decode cX2_choice 207 = .ok (.iconst 1, 1) := by decide +kernel
theorem dX2_choice_208 : decode cX2_choice 208 = .ok (.if_icmp .ne 24, 3) := by decide +kernel
theorem dX2_choice_211 : decode cX2_choice 211 = .ok (.aload_n 0, 1) := by decide +kernel
theorem dX2_choice_212 : decode cX2_choice 212 = .ok (.getfield 29, 3) := by decide +kernel
theorem dX2_choice_215 : decode cX2_choice 215 = .ok (.aload_n 0, 1) := by decide +kernel
theorem dX2_choice_216 : decode cX2_choice 216 = .ok (.getfield 25, 3) := by decide +kernel
theorem dX2_choice_219 : decode cX2_choice 219 = .ok (.iload_n 2, 1) := by decide +kernel
theorem dX2_choice_220 : decode cX2_choice 220 = .ok (.iload 7, 2) := by decide +kernel
theorem dX2_choice_222 : decode cX2_choice 222 = .ok (.invokevirtual 67, 3) := by decide +kernel
theorem dX2_choice_225 : decode cX2_choice 225 = .ok (.iload_n 1, 1) := by decide +kernel
theorem dX2_choice_226 : decode cX2_choice 226 = .ok (.invokevirtual 63, 3) := by decide +kernel
theorem dX2_choice_229 : decode cX2_choice 229 = .ok (.goto 5, 3) := by decide +kernel
theorem dX2_choice_232 : decode cX2_choice 232 = .ok (.ldc 66, 2) := by decide +kernel
theorem dX2_choice_234 : decode cX2_choice 234 = .ok (.istore 8, 2) := by decide +kernel
theorem dX2_choice_236 : decode cX2_choice 236 = .ok (.iload 8, 2) := by decide +kernel
theorem dX2_choice_238 : decode cX2_choice 238 = .ok (.iload 6, 2) := by decide +kernel
theorem dX2_choice_240 : decode cX2_choice 240 = .ok (.if_icmp .le 11, 3) := by decide +kernel
theorem dX2_choice_243 : decode cX2_choice 243 = .ok (.iload 7, 2) := by decide +kernel
theorem dX2_choice_245 : decode cX2_choice 245 = .ok (.istore 5, 2) := by decide +kernel
theorem dX2_choice_247 : decode cX2_choice 247 = .ok (.iload 8, 2) := by decide +kernel
theorem dX2_choice_249 : decode cX2_choice 249 = .ok (.istore 6, 2) := by decide +kernel
theorem dX2_choice_251 : decode cX2_choice 251 = .ok (.iinc 7 1, 3) := by decide +kernel
theorem dX2_choice_254 : decode cX2_choice 254 = .ok (.goto (-61), 3) := by decide +kernel
theorem dX2_choice_257 : decode cX2_choice 257 = .ok (.iload 5, 2) := by decide +kernel
theorem dX2_choice_259 : decode cX2_choice 259 = .ok (.ireturn, 1) := by decide +kernel
theorem dX11_would_0 : decode cX11_would 0 = .ok (.iload_n 1, 1) := by decide +kernel
theorem dX11_would_1 : decode cX11_would 1 = .ok (.invokestatic 142, 3) := by decide +kernel
theorem dX11_would_4 : decode cX11_would 4 = .ok (.ifCond .eq 21, 3) := by decide +kernel
theorem dX11_would_7 : decode cX11_would 7 = .ok (.aload_n 0, 1) := by decide +kernel
theorem dX11_would_8 : decode cX11_would 8 = .ok (.getfield 51, 3) := by decide +kernel
theorem dX11_would_11 : decode cX11_would 11 = .ok (.iload_n 1, 1) := by decide +kernel
theorem dX11_would_12 : decode cX11_would 12 = .ok (.aload_n 0, 1) := by decide +kernel
theorem dX11_would_13 : decode cX11_would 13 = .ok (.getfield 88, 3) := by decide +kernel
theorem dX11_would_16 : decode cX11_would 16 = .ok (.getfield 122, 3) := by decide +kernel
theorem dX11_would_19 : decode cX11_would 19 = .ok (.invokevirtual 192, 3) := by decide +kernel
theorem dX11_would_22 : decode cX11_would 22 = .ok (.goto 4, 3) := by decide +kernel
theorem dX11_would_25 : decode cX11_would 25 = .ok (.iconst (-1), 1) := by decide +kernel
theorem dX11_would_26 : decode cX11_would 26 = .ok (.ireturn, 1) := by decide +kernel
theorem dX11_run_0 : decode cX11_run 0 = .ok (.iload_n 2, 1) := by decide +kernel
theorem dX11_run_1 : decode cX11_run 1 = .ok (.iconst 3, 1) := by decide +kernel
theorem dX11_run_2 : decode cX11_run 2 = .ok (.invokestatic 102, 3) := by decide +kernel
theorem dX11_run_5 : decode cX11_run 5 = .ok (.ifCond .ne 21, 3) := by decide +kernel
theorem dX11_run_8 : decode cX11_run 8 = .ok (.iload_n 2, 1) := by decide +kernel
theorem dX11_run_9 : decode cX11_run 9 = .ok (.bipush 10, 2) := by decide +kernel
theorem dX11_run_11 : decode cX11_run 11 = .ok (.if_icmp .lt 9, 3) := by decide +kernel
theorem dX11_run_14 : decode cX11_run 14 = .ok (.iload_n 2, 1) := by decide +kernel
theorem dX11_run_15 : decode cX11_run 15 = .ok (.bipush 13, 2) := by decide +kernel
theorem dX11_run_17 : decode cX11_run 17 = .ok (.if_icmp .le 9, 3) := by decide +kernel
theorem dX11_run_20 : decode cX11_run 20 = .ok (.iload_n 2, 1) := by decide +kernel
theorem dX11_run_21 : decode cX11_run 21 = .ok (.bipush 20, 2) := by decide +kernel
theorem dX11_run_23 : decode cX11_run 23 = .ok (.if_icmp .ne 7, 3) := by decide +kernel
theorem dX11_run_26 : decode cX11_run 26 = .ok (.iconst 1, 1) := by decide +kernel
theorem dX11_run_27 : decode cX11_run 27 = .ok (.goto 4, 3) := by decide +kernel
theorem dX11_run_30 : decode cX11_run 30 = .ok (.iconst 0, 1) := by decide +kernel
theorem dX11_run_31 : decode cX11_run 31 = .ok (.istore_n 3, 1) := by decide +kernel
theorem dX11_run_32 : decode cX11_run 32 = .ok (.iload_n 1, 1) := by decide +kernel
theorem dX11_run_33 : decode cX11_run 33 = .ok (.iconst 1, 1) := by decide +kernel
theorem dX11_run_34 : decode cX11_run 34 = .ok (.if_icmp .lt 13, 3) := by decide +kernel
theorem dX11_run_37 : decode cX11_run 37 = .ok (.iload_n 1, 1) := by decide +kernel
theorem dX11_run_38 : decode cX11_run 38 = .ok (.bipush 60, 2) := by decide +kernel
theorem dX11_run_40 : decode cX11_run 40 = .ok (.if_icmp .gt 7, 3) := by decide +kernel
theorem dX11_run_43 : decode cX11_run 43 = .ok (.iload_n 3, 1) := by decide +kernel
theorem dX11_run_44 : decode cX11_run 44 = .ok (.ifCond .ne 6, 3) := by decide +kernel
theorem dX11_run_47 : decode cX11_run 47 = .ok (.ldc 191, 2) := by decide +kernel
theorem dX11_run_49 : decode cX11_run 49 = .ok (.ireturn, 1) := by decide +kernel
theorem dX11_run_50 : decode cX11_run 50 = .ok (.aload_n 0, 1) := by decide +kernel
theorem dX11_run_51 : decode cX11_run 51 = .ok (.getfield 88, 3) := by decide +kernel
theorem dX11_run_54 : decode cX11_run 54 = .ok (.getfield 122, 3) := by decide +kernel
theorem dX11_run_57 : decode cX11_run 57 = .ok (.istore 4, 2) := by decide +kernel
theorem dX11_run_59 : decode cX11_run 59 = .ok (.aload_n 0, 1) := by decide +kernel
theorem dX11_run_60 : decode cX11_run 60 = .ok (.getfield 88, 3) := by decide +kernel
theorem dX11_run_63 : decode cX11_run 63 = .ok (.getfield 139, 3) := by decide +kernel
theorem dX11_run_66 : decode cX11_run 66 = .ok (.istore 5, 2) := by decide +kernel
theorem dX11_run_68 : decode cX11_run 68 = .ok (.iconst 0, 1) := by decide +kernel
theorem dX11_run_69 : decode cX11_run 69 = .ok (.istore 6, 2) := by decide +kernel
theorem dX11_run_71 : decode cX11_run 71 = .ok (.iconst 0, 1) := by decide +kernel
theorem dX11_run_72 : decode cX11_run 72 = .ok (.istore 7, 2) := by decide +kernel
theorem dX11_run_74 : decode cX11_run 74 = .ok (.iconst 0, 1) := by decide +kernel
theorem dX11_run_75 : decode cX11_run 75 = .ok (.istore 8, 2) := by decide +kernel
theorem dX11_run_77 : decode cX11_run 77 = .ok (.iload 8, 2) := by decide +kernel
theorem dX11_run_79 : decode cX11_run 79 = .ok (.iload_n 1, 1) := by decide +kernel
theorem dX11_run_80 : decode cX11_run 80 = .ok (.if_icmp .ge 94, 3) := by decide +kernel
theorem dX11_run_83 : decode cX11_run 83 = .ok (.aload_n 0, 1) := by decide +kernel
theorem dX11_run_84 : decode cX11_run 84 = .ok (.getfield 51, 3) := by decide +kernel
theorem dX11_run_87 : decode cX11_run 87 = .ok (.aload_n 0, 1) := by decide +kernel
theorem dX11_run_88 : decode cX11_run 88 = .ok (.getfield 51, 3) := by decide +kernel
theorem dX11_run_91 : decode cX11_run 91 = .ok (.iload 5, 2) := by decide +kernel
theorem dX11_run_93 : decode cX11_run 93 = .ok (.invokevirtual 198, 3) := by decide +kernel
theorem dX11_run_96 : decode cX11_run 96 = .ok (.iload 4, 2) := by decide +kernel
theorem dX11_run_98 : decode cX11_run 98 = .ok (.invokevirtual 192, 3) := by decide +kernel
theorem dX11_run_101 : decode cX11_run 101 = .ok (.istore 9, 2) := by decide +kernel
theorem dX11_run_103 : decode cX11_run 103 = .ok (.aload_n 0, 1) := by decide +kernel
theorem dX11_run_104 : decode cX11_run 104 = .ok (.getfield 19, 3) := by decide +kernel
theorem dX11_run_107 : decode cX11_run 107 = .ok (.iload 4, 2) := by decide +kernel
theorem dX11_run_109 : decode cX11_run 109 = .ok (.iload 9, 2) := by decide +kernel
theorem dX11_run_111 : decode cX11_run 111 = .ok (.invokevirtual 214, 3) := by decide +kernel
theorem dX11_run_114 : decode cX11_run 114 = .ok (.istore 4, 2) := by decide +kernel
theorem dX11_run_116 : decode cX11_run 116 = .ok (.aload_n 0, 1) := by decide +kernel
theorem dX11_run_117 : decode cX11_run 117 = .ok (.getfield 51, 3) := by decide +kernel
theorem dX11_run_120 : decode cX11_run 120 = .ok (.iload 5, 2) := by decide +kernel
theorem dX11_run_122 : decode cX11_run 122 = .ok (.invokevirtual 220, 3) := by decide +kernel
theorem dX11_run_125 : decode cX11_run 125 = .ok (.istore 5, 2) := by decide +kernel
theorem dX11_run_127 : decode cX11_run 127 = .ok (.iload 7, 2) := by decide +kernel
theorem dX11_run_129 : decode cX11_run 129 = .ok (.iload 9, 2) := by decide +kernel
theorem dX11_run_131 : decode cX11_run 131 = .ok (.bipush 8, 2) := by decide +kernel
theorem dX11_run_133 : decode cX11_run 133 = .ok (.if_icmp .ne 7, 3) := by decide +kernel
theorem dX11_run_136 : decode cX11_run 136 = .ok (.iconst 0, 1) := by decide +kernel
theorem dX11_run_137 : decode cX11_run 137 = .ok (.goto 4, 3) := by decide +kernel
theorem dX11_run_140 : decode cX11_run 140 = .ok (.iconst 1, 1) := by decide +kernel
theorem dX11_run_141 : decode cX11_run 141 = .ok (.iadd, 1) := by decide +kernel
theorem dX11_run_142 : decode cX11_run 142 = .ok (.istore 7, 2) := by decide +kernel
theorem dX11_run_144 : decode cX11_run 144 = .ok (.iload 6, 2) := by decide +kernel
theorem dX11_run_146 : decode cX11_run 146 = .ok (.iload_n 2, 1) := by decide +kernel
theorem dX11_run_147 : decode cX11_run 147 = .ok (.iconst 3, 1) := by decide +kernel
theorem dX11_run_148 : decode cX11_run 148 = .ok (.if_icmp .gt 16, 3) := by decide +kernel
theorem dX11_run_151 : decode cX11_run 151 = .ok (.aload_n 0, 1) := by decide +kernel
theorem dX11_run_152 : decode cX11_run 152 = .ok (.getfield 42, 3) := by decide +kernel
theorem dX11_run_155 : decode cX11_run 155 = .ok (.iload 4, 2) := by decide +kernel
theorem dX11_run_157 : decode cX11_run 157 = .ok (.iload_n 2, 1) := by decide +kernel
theorem dX11_run_158 : decode cX11_run 158 = .ok (.invokevirtual 188, 3) := by decide +kernel
theorem dX11_run_161 : decode cX11_run 161 = .ok (.goto 4, 3) := by decide +kernel
theorem dX11_run_164 : decode cX11_run 164 = .ok (.iconst 0, 1) := by decide +kernel
theorem dX11_run_165 : decode cX11_run 165 = .ok (.iadd, 1) := by decide +kernel
theorem dX11_run_166 : decode cX11_run 166 = .ok (.istore 6, 2) := by decide +kernel
theorem dX11_run_168 : decode cX11_run 168 = .ok (.iinc 8 1, 3) := by decide +kernel
theorem dX11_run_171 : decode cX11_run 171 = .ok (.goto (-94), 3) := by decide +kernel
theorem dX11_run_174 : decode cX11_run 174 = .ok (.iload_n 2, 1) := by decide +kernel
theorem dX11_run_175 : decode cX11_run 175 = .ok (.bipush 20, 2) := by decide +kernel
theorem dX11_run_177 : decode cX11_run 177 = .ok (.if_icmp .ne 6, 3) := by decide +kernel
theorem dX11_run_180 : decode cX11_run 180 = .ok (.iload 7, 2) := by decide +kernel
theorem dX11_run_182 : decode cX11_run 182 = .ok (.ireturn, 1) := by decide +kernel
theorem dX11_run_183 : decode cX11_run 183 = .ok (.iload_n 2, 1) := by decide +kernel
theorem dX11_run_184 : decode cX11_run 184 = .ok (.iconst 3, 1) := by decide +kernel
theorem dX11_run_185 : decode cX11_run 185 = .ok (.if_icmp .gt 8, 3) := by decide +kernel
theorem dX11_run_188 : decode cX11_run 188 = .ok (.iload 6, 2) := by decide +kernel
theorem dX11_run_190 : decode cX11_run 190 = .ok (.goto 16, 3) := by decide +kernel
theorem dX11_run_193 : decode cX11_run 193 = .ok (.aload_n 0, 1) := by decide +kernel
theorem dX11_run_194 : decode cX11_run 194 = .ok (.getfield 19, 3) := by decide +kernel
theorem dX11_run_197 : decode cX11_run 197 = .ok (.iload 4, 2) := by decide +kernel
theorem dX11_run_199 : decode cX11_run 199 = .ok (.iload_n 2, 1) := by decide +kernel
theorem dX11_run_200 : decode cX11_run 200 = .ok (.bipush 10, 2) := by decide +kernel
theorem dX11_run_202 : decode cX11_run 202 = .ok (.isub, 1) := by decide +kernel
theorem dX11_run_203 : decode cX11_run 203 = .ok (.invokevirtual 182, 3) := by decide +kernel
theorem dX11_run_206 : decode cX11_run 206 = .ok (.ireturn, 1) := by decide +kernel
theorem dJ7_rangeCheck_23922_0 : decode cJ7_rangeCheck_23922 0 = .ok (.iload_n 1, 1) := by decide +kernel
theorem dJ7_rangeCheck_23922_1 : decode cJ7_rangeCheck_23922 1 = .ok (.iload_n 2, 1) := by decide +kernel
theorem dJ7_rangeCheck_23922_2 : decode cJ7_rangeCheck_23922 2 = .ok (.if_icmp .le 44, 3) := by decide +kernel
theorem dJ7_rangeCheck_23922_5 : decode cJ7_rangeCheck_23922 5 = .ok (.new 43, 3) := by decide +kernel
theorem dJ7_rangeCheck_23922_8 : decode cJ7_rangeCheck_23922 8 = .ok (.dup, 1) := by decide +kernel
theorem dJ7_rangeCheck_23922_9 : decode cJ7_rangeCheck_23922 9 = .ok (.new 45, 3) := by decide +kernel
theorem dJ7_rangeCheck_23922_12 : decode cJ7_rangeCheck_23922 12 = .ok (.dup, 1) := by decide +kernel
theorem dJ7_rangeCheck_23922_13 : decode cJ7_rangeCheck_23922 13 = .ok (.invokespecial 47, 3) := by decide +kernel
theorem dJ7_rangeCheck_23922_16 : decode cJ7_rangeCheck_23922 16 = .ok (.ldc 48, 2) := by decide +kernel
theorem dJ7_rangeCheck_23922_18 : decode cJ7_rangeCheck_23922 18 = .ok (.invokevirtual 50, 3) := by decide +kernel
theorem dJ7_rangeCheck_23922_21 : decode cJ7_rangeCheck_23922 21 = .ok (.iload_n 1, 1) := by decide +kernel
theorem dJ7_rangeCheck_23922_22 : decode cJ7_rangeCheck_23922 22 = .ok (.invokevirtual 54, 3) := by decide +kernel
theorem dJ7_rangeCheck_23922_25 : decode cJ7_rangeCheck_23922 25 = .ok (.ldc 57, 2) := by decide +kernel
theorem dJ7_rangeCheck_23922_27 : decode cJ7_rangeCheck_23922 27 = .ok (.invokevirtual 50, 3) := by decide +kernel
theorem dJ7_rangeCheck_23922_30 : decode cJ7_rangeCheck_23922 30 = .ok (.iload_n 2, 1) := by decide +kernel
theorem dJ7_rangeCheck_23922_31 : decode cJ7_rangeCheck_23922 31 = .ok (.invokevirtual 54, 3) := by decide +kernel
theorem dJ7_rangeCheck_23922_34 : decode cJ7_rangeCheck_23922 34 = .ok (.ldc 59, 2) := by decide +kernel
theorem dJ7_rangeCheck_23922_36 : decode cJ7_rangeCheck_23922 36 = .ok (.invokevirtual 50, 3) := by decide +kernel
theorem dJ7_rangeCheck_23922_39 : decode cJ7_rangeCheck_23922 39 = .ok (.invokevirtual 61, 3) := by decide +kernel
theorem dJ7_rangeCheck_23922_42 : decode cJ7_rangeCheck_23922 42 = .ok (.invokespecial 65, 3) := by decide +kernel
theorem dJ7_rangeCheck_23922_45 : decode cJ7_rangeCheck_23922 45 = .ok (.athrow, 1) := by decide +kernel
theorem dJ7_rangeCheck_23922_46 : decode cJ7_rangeCheck_23922 46 = .ok (.iload_n 1, 1) := by decide +kernel
theorem dJ7_rangeCheck_23922_47 : decode cJ7_rangeCheck_23922 47 = .ok (.ifCond .ge 12, 3) := by decide +kernel
theorem dJ7_rangeCheck_23922_50 : decode cJ7_rangeCheck_23922 50 = .ok (.new 68, 3) := by decide +kernel
theorem dJ7_rangeCheck_23922_53 : decode cJ7_rangeCheck_23922 53 = .ok (.dup, 1) := by decide +kernel
theorem dJ7_rangeCheck_23922_54 : decode cJ7_rangeCheck_23922 54 = .ok (.iload_n 1, 1) := by decide +kernel
theorem dJ7_rangeCheck_23922_55 : decode cJ7_rangeCheck_23922 55 = .ok (.invokespecial 70, 3) := by decide +kernel
theorem dJ7_rangeCheck_23922_58 : decode cJ7_rangeCheck_23922 58 = .ok (.athrow, 1) := by decide +kernel
theorem dJ7_rangeCheck_23922_59 : decode cJ7_rangeCheck_23922 59 = .ok (.iload_n 2, 1) := by decide +kernel
theorem dJ7_rangeCheck_23922_60 : decode cJ7_rangeCheck_23922 60 = .ok (.iload_n 0, 1) := by decide +kernel
theorem dJ7_rangeCheck_23922_61 : decode cJ7_rangeCheck_23922 61 = .ok (.if_icmp .le 12, 3) := by decide +kernel
theorem dJ7_rangeCheck_23922_64 : decode cJ7_rangeCheck_23922 64 = .ok (.new 68, 3) := by decide +kernel
theorem dJ7_rangeCheck_23922_67 : decode cJ7_rangeCheck_23922 67 = .ok (.dup, 1) := by decide +kernel
theorem dJ7_rangeCheck_23922_68 : decode cJ7_rangeCheck_23922 68 = .ok (.iload_n 2, 1) := by decide +kernel
theorem dJ7_rangeCheck_23922_69 : decode cJ7_rangeCheck_23922 69 = .ok (.invokespecial 70, 3) := by decide +kernel
theorem dJ7_rangeCheck_23922_72 : decode cJ7_rangeCheck_23922 72 = .ok (.athrow, 1) := by decide +kernel
theorem dJ7_rangeCheck_23922_73 : decode cJ7_rangeCheck_23922 73 = .ok (.return_, 1) := by decide +kernel
theorem dJ7_fill_fda19_0 : decode cJ7_fill_fda19 0 = .ok (.aload_n 0, 1) := by decide +kernel
theorem dJ7_fill_fda19_1 : decode cJ7_fill_fda19 1 = .ok (.arraylength, 1) := by decide +kernel
theorem dJ7_fill_fda19_2 : decode cJ7_fill_fda19 2 = .ok (.iload_n 1, 1) := by decide +kernel
theorem dJ7_fill_fda19_3 : decode cJ7_fill_fda19 3 = .ok (.iload_n 2, 1) := by decide +kernel
theorem dJ7_fill_fda19_4 : decode cJ7_fill_fda19 4 = .ok (.invokestatic 13, 3) := by decide +kernel
theorem dJ7_fill_fda19_7 : decode cJ7_fill_fda19 7 = .ok (.iload_n 1, 1) := by decide +kernel
theorem dJ7_fill_fda19_8 : decode cJ7_fill_fda19 8 = .ok (.istore 4, 2) := by decide +kernel
theorem dJ7_fill_fda19_10 : decode cJ7_fill_fda19 10 = .ok (.iload 4, 2) := by decide +kernel
theorem dJ7_fill_fda19_12 : decode cJ7_fill_fda19 12 = .ok (.iload_n 2, 1) := by decide +kernel
theorem dJ7_fill_fda19_13 : decode cJ7_fill_fda19 13 = .ok (.if_icmp .ge 14, 3) := by decide +kernel
theorem dJ7_fill_fda19_16 : decode cJ7_fill_fda19 16 = .ok (.aload_n 0, 1) := by decide +kernel
theorem dJ7_fill_fda19_17 : decode cJ7_fill_fda19 17 = .ok (.iload 4, 2) := by decide +kernel
theorem dJ7_fill_fda19_19 : decode cJ7_fill_fda19 19 = .ok (.iload_n 3, 1) := by decide +kernel
theorem dJ7_fill_fda19_20 : decode cJ7_fill_fda19 20 = .ok (.iastore, 1) := by decide +kernel
theorem dJ7_fill_fda19_21 : decode cJ7_fill_fda19 21 = .ok (.iinc 4 1, 3) := by decide +kernel
theorem dJ7_fill_fda19_24 : decode cJ7_fill_fda19 24 = .ok (.goto (-14), 3) := by decide +kernel
theorem dJ7_fill_fda19_27 : decode cJ7_fill_fda19 27 = .ok (.return_, 1) := by decide +kernel
theorem dX5_goOn_0 : decode cX5_goOn 0 = .ok (.aload_n 0, 1) := by decide +kernel
theorem dX5_goOn_1 : decode cX5_goOn 1 = .ok (.getfield 29, 3) := by decide +kernel
theorem dX5_goOn_4 : decode cX5_goOn 4 = .ok (.aload_n 0, 1) := by decide +kernel
theorem dX5_goOn_5 : decode cX5_goOn 5 = .ok (.getfield 29, 3) := by decide +kernel
theorem dX5_goOn_8 : decode cX5_goOn 8 = .ok (.aload_n 0, 1) := by decide +kernel
theorem dX5_goOn_9 : decode cX5_goOn 9 = .ok (.getfield 53, 3) := by decide +kernel
theorem dX5_goOn_12 : decode cX5_goOn 12 = .ok (.invokevirtual 65, 3) := by decide +kernel
theorem dX5_goOn_15 : decode cX5_goOn 15 = .ok (.aload_n 0, 1) := by decide +kernel
theorem dX5_goOn_16 : decode cX5_goOn 16 = .ok (.getfield 50, 3) := by decide +kernel
theorem dX5_goOn_19 : decode cX5_goOn 19 = .ok (.invokevirtual 70, 3) := by decide +kernel
theorem dX5_goOn_22 : decode cX5_goOn 22 = .ok (.istore_n 1, 1) := by decide +kernel
theorem dX5_goOn_23 : decode cX5_goOn 23 = .ok (.aload_n 0, 1) := by decide +kernel
theorem dX5_goOn_24 : decode cX5_goOn 24 = .ok (.aload_n 0, 1) := by decide +kernel
theorem dX5_goOn_25 : decode cX5_goOn 25 = .ok (.getfield 21, 3) := by decide +kernel
theorem dX5_goOn_28 : decode cX5_goOn 28 = .ok (.aload_n 0, 1) := by decide +kernel
theorem dX5_goOn_29 : decode cX5_goOn 29 = .ok (.getfield 50, 3) := by decide +kernel
theorem dX5_goOn_32 : decode cX5_goOn 32 = .ok (.iload_n 1, 1) := by decide +kernel
theorem dX5_goOn_33 : decode cX5_goOn 33 = .ok (.invokevirtual 73, 3) := by decide +kernel
theorem dX5_goOn_36 : decode cX5_goOn 36 = .ok (.putfield 50, 3) := by decide +kernel
theorem dX5_goOn_39 : decode cX5_goOn 39 = .ok (.aload_n 0, 1) := by decide +kernel
theorem dX5_goOn_40 : decode cX5_goOn 40 = .ok (.aload_n 0, 1) := by decide +kernel
theorem dX5_goOn_41 : decode cX5_goOn 41 = .ok (.getfield 29, 3) := by decide +kernel
theorem dX5_goOn_44 : decode cX5_goOn 44 = .ok (.aload_n 0, 1) := by decide +kernel
theorem dX5_goOn_45 : decode cX5_goOn 45 = .ok (.getfield 53, 3) := by decide +kernel
theorem dX5_goOn_48 : decode cX5_goOn 48 = .ok (.invokevirtual 76, 3) := by decide +kernel
theorem dX5_goOn_51 : decode cX5_goOn 51 = .ok (.putfield 53, 3) := by decide +kernel
theorem dX5_goOn_54 : decode cX5_goOn 54 = .ok (.return_, 1) := by decide +kernel
theorem dX5_find_0 : decode cX5_find 0 = .ok (.aload_n 0, 1) := by decide +kernel
theorem dX5_find_1 : decode cX5_find 1 = .ok (.getfield 21, 3) := by decide +kernel
theorem dX5_find_4 : decode cX5_find 4 = .ok (.iload_n 1, 1) := by decide +kernel
theorem dX5_find_5 : decode cX5_find 5 = .ok (.invokevirtual 33, 3) := by decide +kernel
theorem dX5_find_8 : decode cX5_find 8 = .ok (.istore_n 3, 1) := by decide +kernel
theorem dX5_find_9 : decode cX5_find 9 = .ok (.aload_n 0, 1) := by decide +kernel
theorem dX5_find_10 : decode cX5_find 10 = .ok (.getfield 11, 3) := by decide +kernel
theorem dX5_find_13 : decode cX5_find 13 = .ok (.iload_n 3, 1) := by decide +kernel
theorem dX5_find_14 : decode cX5_find 14 = .ok (.invokestatic 37, 3) := by decide +kernel
theorem dX5_find_17 : decode cX5_find 17 = .ok (.iconst 4, 1) := by decide +kernel
theorem dX5_find_18 : decode cX5_find 18 = .ok (.imul, 1) := by decide +kernel
theorem dX5_find_19 : decode cX5_find 19 = .ok (.iload_n 3, 1) := by decide +kernel
theorem dX5_find_20 : decode cX5_find 20 = .ok (.iconst 1, 1) := by decide +kernel
theorem dX5_find_21 : decode cX5_find 21 = .ok (.iadd, 1) := by decide +kernel
theorem dX5_find_22 : decode cX5_find 22 = .ok (.invokestatic 37, 3) := by decide +kernel
theorem dX5_find_25 : decode cX5_find 25 = .ok (.iconst 4, 1) := by decide +kernel
theorem dX5_find_26 : decode cX5_find 26 = .ok (.imul, 1) := by decide +kernel
theorem dX5_find_27 : decode cX5_find 27 = .ok (.ldc 40, 2) := by decide +kernel
theorem dX5_find_29 : decode cX5_find 29 = .ok (.invokestatic 41, 3) := by decide +kernel
theorem dX5_find_32 : decode cX5_find 32 = .ok (.aload_n 0, 1) := by decide +kernel
theorem dX5_find_33 : decode cX5_find 33 = .ok (.iconst 0, 1) := by decide +kernel
theorem dX5_find_34 : decode cX5_find 34 = .ok (.putfield 47, 3) := by decide +kernel
theorem dX5_find_37 : decode cX5_find 37 = .ok (.aload_n 0, 1) := by decide +kernel
theorem dX5_find_38 : decode cX5_find 38 = .ok (.iconst 1, 1) := by decide +kernel
theorem dX5_find_39 : decode cX5_find 39 = .ok (.putfield 17, 3) := by decide +kernel
theorem dX5_find_42 : decode cX5_find 42 = .ok (.aload_n 0, 1) := by decide +kernel
theorem dX5_find_43 : decode cX5_find 43 = .ok (.iload_n 1, 1) := by decide +kernel
theorem dX5_find_44 : decode cX5_find 44 = .ok (.putfield 50, 3) := by decide +kernel
theorem dX5_find_47 : decode cX5_find 47 = .ok (.aload_n 0, 1) := by decide +kernel
theorem dX5_find_48 : decode cX5_find 48 = .ok (.iload_n 2, 1) := by decide +kernel
theorem dX5_find_49 : decode cX5_find 49 = .ok (.putfield 53, 3) := by decide +kernel
theorem dX5_find_52 : decode cX5_find 52 = .ok (.iconst 0, 1) := by decide +kernel
theorem dX5_find_53 : decode cX5_find 53 = .ok (.istore 4, 2) := by decide +kernel
theorem dX5_find_55 : decode cX5_find 55 = .ok (.iload 4, 2) := by decide +kernel
theorem dX5_find_57 : decode cX5_find 57 = .ok (.aload_n 0, 1) := by decide +kernel
theorem dX5_find_58 : decode cX5_find 58 = .ok (.getfield 11, 3) := by decide +kernel
theorem dX5_find_61 : decode cX5_find 61 = .ok (.arraylength, 1) := by decide +kernel
theorem dX5_find_62 : decode cX5_find 62 = .ok (.if_icmp .gt 90, 3) := by decide +kernel
theorem dX5_find_65 : decode cX5_find 65 = .ok (.aload_n 0, 1) := by decide +kernel
theorem dX5_find_66 : decode cX5_find 66 = .ok (.getfield 50, 3) := by decide +kernel
theorem dX5_find_69 : decode cX5_find 69 = .ok (.iconst 4, 1) := by decide +kernel
theorem dX5_find_70 : decode cX5_find 70 = .ok (.imul, 1) := by decide +kernel
theorem dX5_find_71 : decode cX5_find 71 = .ok (.aload_n 0, 1) := by decide +kernel
theorem dX5_find_72 : decode cX5_find 72 = .ok (.getfield 53, 3) := by decide +kernel
theorem dX5_find_75 : decode cX5_find 75 = .ok (.iadd, 1) := by decide +kernel
theorem dX5_find_76 : decode cX5_find 76 = .ok (.istore 5, 2) := by decide +kernel
theorem dX5_find_78 : decode cX5_find 78 = .ok (.iload 5, 2) := by decide +kernel
theorem dX5_find_80 : decode cX5_find 80 = .ok (.ifCond .lt 13, 3) := by decide +kernel
theorem dX5_find_83 : decode cX5_find 83 = .ok (.iload 5, 2) := by decide +kernel
theorem dX5_find_85 : decode cX5_find 85 = .ok (.aload_n 0, 1) := by decide +kernel
theorem dX5_find_86 : decode cX5_find 86 = .ok (.getfield 11, 3) := by decide +kernel
theorem dX5_find_89 : decode cX5_find 89 = .ok (.arraylength, 1) := by decide +kernel
theorem dX5_find_90 : decode cX5_find 90 = .ok (.if_icmp .lt 4, 3) := by decide +kernel
theorem dX5_find_93 : decode cX5_find 93 = .ok (.return_, 1) := by decide +kernel
theorem dX5_find_94 : decode cX5_find 94 = .ok (.aload_n 0, 1) := by decide +kernel
theorem dX5_find_95 : decode cX5_find 95 = .ok (.getfield 11, 3) := by decide +kernel
theorem dX5_find_98 : decode cX5_find 98 = .ok (.iload 5, 2) := by decide +kernel
theorem dX5_find_100 : decode cX5_find 100 = .ok (.iaload, 1) := by decide +kernel
theorem dX5_find_101 : decode cX5_find 101 = .ok (.ldc 40, 2) := by decide +kernel
theorem dX5_find_103 : decode cX5_find 103 = .ok (.if_icmp .eq 30, 3) := by decide +kernel
theorem dX5_find_106 : decode cX5_find 106 = .ok (.aload_n 0, 1) := by decide +kernel
theorem dX5_find_107 : decode cX5_find 107 = .ok (.aload_n 0, 1) := by decide +kernel
theorem dX5_find_108 : decode cX5_find 108 = .ok (.getfield 11, 3) := by decide +kernel
theorem dX5_find_111 : decode cX5_find 111 = .ok (.iload 5, 2) := by decide +kernel
theorem dX5_find_113 : decode cX5_find 113 = .ok (.iaload, 1) := by decide +kernel
theorem dX5_find_114 : decode cX5_find 114 = .ok (.putfield 47, 3) := by decide +kernel
theorem dX5_find_117 : decode cX5_find 117 = .ok (.aload_n 0, 1) := by decide +kernel
theorem dX5_find_118 : decode cX5_find 118 = .ok (.iconst 1, 1) := by decide +kernel
theorem dX5_find_119 : decode cX5_find 119 = .ok (.iload 4, 2) := by decide +kernel
theorem dX5_find_121 : decode cX5_find 121 = .ok (.aload_n 0, 1) := by decide +kernel
theorem dX5_find_122 : decode cX5_find 122 = .ok (.getfield 47, 3) := by decide +kernel
theorem dX5_find_125 : decode cX5_find 125 = .ok (.isub, 1) := by decide +kernel
theorem dX5_find_126 : decode cX5_find 126 = .ok (.invokestatic 56, 3) := by decide +kernel
theorem dX5_find_129 : decode cX5_find 129 = .ok (.putfield 17, 3) := by decide +kernel
theorem dX5_find_132 : decode cX5_find 132 = .ok (.return_, 1) := by decide +kernel
theorem dX5_find_133 : decode cX5_find 133 = .ok (.aload_n 0, 1) := by decide +kernel
theorem dX5_find_134 : decode cX5_find 134 = .ok (.getfield 11, 3) := by decide +kernel
theorem dX5_find_137 : decode cX5_find 137 = .ok (.iload 5, 2) := by decide +kernel
theorem dX5_find_139 : decode cX5_find 139 = .ok (.iload 4, 2) := by decide +kernel
theorem dX5_find_141 : decode cX5_find 141 = .ok (.iastore, 1) := by decide +kernel
theorem dX5_find_142 : decode cX5_find 142 = .ok (.aload_n 0, 1) := by decide +kernel
theorem dX5_find_143 : decode cX5_find 143 = .ok (.invokevirtual 62, 3) := by decide +kernel
theorem dX5_find_146 : decode cX5_find 146 = .ok (.iinc 4 1, 3) := by decide +kernel
theorem dX5_find_149 : decode cX5_find 149 = .ok (.goto (-94), 3) := by decide +kernel
theorem dX5_find_152 : decode cX5_find 152 = .ok (.return_, 1) := by decide +kernel
theorem dX5_sumOf_0 : decode cX5_sumOf 0 = .ok (.iconst 0, 1) := by decide +kernel
theorem dX5_sumOf_1 : decode cX5_sumOf 1 = .ok (.istore_n 2, 1) := by decide +kernel
theorem dX5_sumOf_2 : decode cX5_sumOf 2 = .ok (.iconst 0, 1) := by decide +kernel
theorem dX5_sumOf_3 : decode cX5_sumOf 3 = .ok (.istore_n 3, 1) := by decide +kernel
theorem dX5_sumOf_4 : decode cX5_sumOf 4 = .ok (.iload_n 3, 1) := by decide +kernel
theorem dX5_sumOf_5 : decode cX5_sumOf 5 = .ok (.aload_n 0, 1) := by decide +kernel
theorem dX5_sumOf_6 : decode cX5_sumOf 6 = .ok (.getfield 17, 3) := by decide +kernel
theorem dX5_sumOf_9 : decode cX5_sumOf 9 = .ok (.if_icmp .ge 28, 3) := by decide +kernel
theorem dX5_sumOf_12 : decode cX5_sumOf 12 = .ok (.aload_n 0, 1) := by decide +kernel
theorem dX5_sumOf_13 : decode cX5_sumOf 13 = .ok (.invokevirtual 62, 3) := by decide +kernel
theorem dX5_sumOf_16 : decode cX5_sumOf 16 = .ok (.iload_n 2, 1) := by decide +kernel
theorem dX5_sumOf_17 : decode cX5_sumOf 17 = .ok (.aload_n 0, 1) := by decide +kernel
theorem dX5_sumOf_18 : decode cX5_sumOf 18 = .ok (.getfield 25, 3) := by decide +kernel
theorem dX5_sumOf_21 : decode cX5_sumOf 21 = .ok (.aload_n 0, 1) := by decide +kernel
theorem dX5_sumOf_22 : decode cX5_sumOf 22 = .ok (.getfield 50, 3) := by decide +kernel
theorem dX5_sumOf_25 : decode cX5_sumOf 25 = .ok (.iload_n 1, 1) := by decide +kernel
theorem dX5_sumOf_26 : decode cX5_sumOf 26 = .ok (.invokevirtual 79, 3) := by decide +kernel
theorem dX5_sumOf_29 : decode cX5_sumOf 29 = .ok (.iadd, 1) := by decide +kernel
theorem dX5_sumOf_30 : decode cX5_sumOf 30 = .ok (.istore_n 2, 1) := by decide +kernel
theorem dX5_sumOf_31 : decode cX5_sumOf 31 = .ok (.iinc 3 1, 3) := by decide +kernel
theorem dX5_sumOf_34 : decode cX5_sumOf 34 = .ok (.goto (-30), 3) := by decide +kernel
theorem dX5_sumOf_37 : decode cX5_sumOf 37 = .ok (.iload_n 2, 1) := by decide +kernel
theorem dX5_sumOf_38 : decode cX5_sumOf 38 = .ok (.ireturn, 1) := by decide +kernel
/-! f_X1_valueOf -/
noncomputable def lp_X1_valueOf_2 (a1 : Int32) (k3 : Int32 → SS → Res) : Nat → Int32 → SS → Res
  | 0, _, _ => none
  | n13 + 1, v11, s12 => if (s12 9 8 : Int32) ≤ (v11 : Int32) then some (0, s12) else if (14 : Int32) ≤ (v11 : Int32) then some (0, s12) else gd (inb v11 14) (jn (fun (s16 : SS) => lp_X1_valueOf_2 a1 k3 n13 (v11 + 1) s16) (fun (k17 : SS → Res) => if (s12 12 (Int32.toNatClampNeg v11) : Int32) = (a1 : Int32) then gd (inb v11 14) (gd (inb v11 14) (bd (f_X1_reckon (s12 14 (Int32.toNatClampNeg v11)) (s12 15 (Int32.toNatClampNeg v11)) s12) (fun (v19 : Int32) (s20 : SS) => if (v19 : Int32) = 0 then k17 s20 else k3 v11 s20))) else k17 s12))
noncomputable def f_X1_valueOf (a1 : Int32) (s0 : SS) : Res := jn (fun (v1 : Int32) (s2 : SS) => gd (inb v1 14) (gd (inb v1 14) (bd (f_X1_reckon (s2 13 (Int32.toNatClampNeg v1)) (s2 14 (Int32.toNatClampNeg v1)) s2) (fun (v4 : Int32) (s5 : SS) => if (a1 : Int32) = (118 : Int32) then lt (if (v4 : Int32) < (100 : Int32) then v4 else 100) (fun (v7 : Int32) => lt (if ((-100) : Int32) < (v7 : Int32) then v7 else (-100)) (fun (v8 : Int32) => some (v8, s5))) else lt (if (v4 : Int32) < (1 : Int32) then v4 else 1) (fun (v9 : Int32) => lt (if (0 : Int32) < (v9 : Int32) then v9 else 0) (fun (v10 : Int32) => some (v10, s5))))))) (fun (k3 : Int32 → SS → Res) => lp_X1_valueOf_2 a1 k3 FU 0 s0)
set_option maxRecDepth 100000 in
set_option maxHeartbeats 4000000 in
theorem t_lp_X1_valueOf_2 {l : Launch} (a1 : Int32) (k3 : Int32 → SS → Res) (hk3 : ∀ (v1 : Int32) (s2 : SS), RC l wF RX1 cX1_valueOf 5 (some .int) 2 46 [.ref 9, .int a1, .ref 32, .int v1, .null] [] s2 (k3 v1 s2)) : ∀ (n13 : Nat) (v11 : Int32) (s12 : SS), RC l wF RX1 cX1_valueOf 5 (some .int) 2 2 [.ref 9, .int a1, .ref 32, .int v11, .null] [] s12 (lp_X1_valueOf_2 a1 k3 n13 v11 s12) := by
  intro n13
  induction n13 with
  | zero =>
    intro v11 s12
    rw [lp_X1_valueOf_2]
    exact r_none
  | succ n13 ih =>
    intro v11 s12
    rw [lp_X1_valueOf_2]
    refine r_iload_n (pc1 := 3) (i := 3) dX1_valueOf_2 rfl rfl rfl ?_
    refine r_aload_n (pc1 := 4) (i := 0) dX1_valueOf_3 rfl rfl rfl ?_
    refine r_getI (pc1 := 7) w_9 gfX1_33 rfl dX1_valueOf_4 rfl ?_
    refine r_icmp_ge (tgt := 103) (pc1 := 10) dX1_valueOf_7 (by decide) rfl (fun q14 => ?_) (fun q14 => ?_)
    · refine r_iconst (v := 0) (pc1 := 104) dX1_valueOf_103 ki_0 rfl ?_
      exact r_iret rfl rfl dX1_valueOf_104
    · refine r_iload_n (pc1 := 11) (i := 3) dX1_valueOf_10 rfl rfl rfl ?_
      refine r_bipush (v := 14) (pc1 := 13) dX1_valueOf_11 kb_14 rfl ?_
      refine r_icmp_ge (tgt := 103) (pc1 := 16) dX1_valueOf_13 (by decide) rfl (fun q15 => ?_) (fun q15 => ?_)
      · refine r_iconst (v := 0) (pc1 := 104) dX1_valueOf_103 ki_0 rfl ?_
        exact r_iret rfl rfl dX1_valueOf_104
      · refine r_aload_n (pc1 := 17) (i := 0) dX1_valueOf_16 rfl rfl rfl ?_
        refine r_getR (pc1 := 20) w_9 gfX1_18 rfl dX1_valueOf_17 rfl ?_
        refine r_iload_n (pc1 := 21) (i := 3) dX1_valueOf_20 rfl rfl rfl ?_
        refine r_iald (pc1 := 22) w_12 dX1_valueOf_21 rfl ?_
        refine r_iload_n (pc1 := 23) (i := 1) dX1_valueOf_22 rfl rfl rfl ?_
        refine r_jn (hyp := fun (k17 : SS → Res) => ∀ (s16 : SS), RC l wF RX1 cX1_valueOf 5 (some .int) 2 97 [.ref 9, .int a1, .ref 32, .int v11, .null] [] s16 (k17 s16)) (fun s16 => ?_) (fun k17 hk17 => ?_)
        · refine r_iinc (pc1 := 100) dX1_valueOf_97 rfl (kn_1 _) (by decide) rfl rfl rfl ?_
          refine r_goto (tgt := 2) dX1_valueOf_100 (by decide) ?_
          exact r_wk (ih (v11 + 1) s16) ⟨Or.inr rfl, Or.inr rfl, Or.inr rfl, Or.inr rfl, Or.inl rfl, trivial⟩
        · refine r_icmp_ne (tgt := 97) (pc1 := 26) dX1_valueOf_23 (by decide) rfl (fun q18 => ?_) (fun q18 => ?_)
          · refine r_aload_n (pc1 := 27) (i := 0) dX1_valueOf_26 rfl rfl rfl ?_
            refine r_aload_n (pc1 := 28) (i := 0) dX1_valueOf_27 rfl rfl rfl ?_
            refine r_getR (pc1 := 31) w_9 gfX1_24 rfl dX1_valueOf_28 rfl ?_
            refine r_iload_n (pc1 := 32) (i := 3) dX1_valueOf_31 rfl rfl rfl ?_
            refine r_iald (pc1 := 33) w_14 dX1_valueOf_32 rfl ?_
            refine r_aload_n (pc1 := 34) (i := 0) dX1_valueOf_33 rfl rfl rfl ?_
            refine r_getR (pc1 := 37) w_9 gfX1_27 rfl dX1_valueOf_34 rfl ?_
            refine r_iload_n (pc1 := 38) (i := 3) dX1_valueOf_37 rfl rfl rfl ?_
            refine r_iald (pc1 := 39) w_15 dX1_valueOf_38 rfl ?_
            refine r_aload_n (pc1 := 40) (i := 2) dX1_valueOf_39 rfl rfl rfl ?_
            refine r_callVi (pc1 := 43) (rv_of w_9 cl_1) lkX1_46 (c_X1_reckon _ _ _) rfl rfl ⟨Nat.le_of_ble_eq_true rfl, Nat.le_of_ble_eq_true rfl⟩ (Nat.le_of_ble_eq_true rfl) dX1_valueOf_40 rfl (fun v19 s20 => ?_)
            refine r_if_eq (tgt := 97) (pc1 := 46) dX1_valueOf_43 (by decide) rfl (fun q21 => ?_) (fun q21 => ?_)
            · exact r_wk (hk17 s20) ⟨Or.inr rfl, Or.inr rfl, Or.inr rfl, Or.inr rfl, Or.inl rfl, trivial⟩
            · exact r_wk (hk3 v11 s20) ⟨Or.inr rfl, Or.inr rfl, Or.inr rfl, Or.inr rfl, Or.inl rfl, trivial⟩
          · exact r_wk (hk17 s12) ⟨Or.inr rfl, Or.inr rfl, Or.inr rfl, Or.inr rfl, Or.inl rfl, trivial⟩
set_option maxRecDepth 100000 in
set_option maxHeartbeats 4000000 in
theorem c_X1_valueOf {l : Launch} (a1 : Int32) (s0 : SS) : Ct l wF yX1_valueOf cX1_valueOf 5 (some .int) 2 [.ref 9, .int a1, .ref 32] s0 (f_X1_valueOf a1 s0) := by
  refine ct_of (y := yX1_valueOf) plX1 (Nat.le_of_ble_eq_true rfl) ?_
  refine r_pad0 2 (L1 := [.ref 9, .int a1, .ref 32, .null, .null]) rfl ?_
  unfold f_X1_valueOf
  refine r_iconst (v := 0) (pc1 := 1) dX1_valueOf_0 ki_0 rfl ?_
  refine r_istore_n (pc1 := 2) (i := 3) dX1_valueOf_1 rfl (by decide) rfl rfl rfl ?_
  refine r_jn (hyp := fun (k3 : Int32 → SS → Res) => ∀ (v1 : Int32) (s2 : SS), RC l wF RX1 cX1_valueOf 5 (some .int) 2 46 [.ref 9, .int a1, .ref 32, .int v1, .null] [] s2 (k3 v1 s2)) (fun v1 s2 => ?_) (fun k3 hk3 => ?_)
  · refine r_aload_n (pc1 := 47) (i := 0) dX1_valueOf_46 rfl rfl rfl ?_
    refine r_aload_n (pc1 := 48) (i := 0) dX1_valueOf_47 rfl rfl rfl ?_
    refine r_getR (pc1 := 51) w_9 gfX1_21 rfl dX1_valueOf_48 rfl ?_
    refine r_iload_n (pc1 := 52) (i := 3) dX1_valueOf_51 rfl rfl rfl ?_
    refine r_iald (pc1 := 53) w_13 dX1_valueOf_52 rfl ?_
    refine r_aload_n (pc1 := 54) (i := 0) dX1_valueOf_53 rfl rfl rfl ?_
    refine r_getR (pc1 := 57) w_9 gfX1_24 rfl dX1_valueOf_54 rfl ?_
    refine r_iload_n (pc1 := 58) (i := 3) dX1_valueOf_57 rfl rfl rfl ?_
    refine r_iald (pc1 := 59) w_14 dX1_valueOf_58 rfl ?_
    refine r_aload_n (pc1 := 60) (i := 2) dX1_valueOf_59 rfl rfl rfl ?_
    refine r_callVi (pc1 := 63) (rv_of w_9 cl_1) lkX1_46 (c_X1_reckon _ _ _) rfl rfl ⟨Nat.le_of_ble_eq_true rfl, Nat.le_of_ble_eq_true rfl⟩ (Nat.le_of_ble_eq_true rfl) dX1_valueOf_60 rfl (fun v4 s5 => ?_)
    refine r_istore (pc1 := 65) dX1_valueOf_63 (by decide) rfl rfl rfl ?_
    refine r_iload_n (pc1 := 66) (i := 1) dX1_valueOf_65 rfl rfl rfl ?_
    refine r_bipush (v := 118) (pc1 := 68) dX1_valueOf_66 kb_118 rfl ?_
    refine r_icmp_ne (tgt := 86) (pc1 := 71) dX1_valueOf_68 (by decide) rfl (fun q6 => ?_) (fun q6 => ?_)
    · refine r_bipush (v := (-100)) (pc1 := 73) dX1_valueOf_71 kb_m100 rfl ?_
      refine r_bipush (v := 100) (pc1 := 75) dX1_valueOf_73 kb_100 rfl ?_
      refine r_iload (pc1 := 77) dX1_valueOf_75 rfl rfl ?_
      refine r_mmin (pc1 := 80) mlX1_50 (by omega) dX1_valueOf_77 rfl (Nat.le_of_ble_eq_true rfl) ?_
      refine r_lt (fun v7 => ?_)
      refine r_mmax (pc1 := 83) mlX1_56 (by omega) dX1_valueOf_80 rfl (Nat.le_of_ble_eq_true rfl) ?_
      refine r_lt (fun v8 => ?_)
      refine r_goto (tgt := 96) dX1_valueOf_83 (by decide) ?_
      exact r_iret rfl rfl dX1_valueOf_96
    · refine r_iconst (v := 0) (pc1 := 87) dX1_valueOf_86 ki_0 rfl ?_
      refine r_iconst (v := 1) (pc1 := 88) dX1_valueOf_87 ki_1 rfl ?_
      refine r_iload (pc1 := 90) dX1_valueOf_88 rfl rfl ?_
      refine r_mmin (pc1 := 93) mlX1_50 (by omega) dX1_valueOf_90 rfl (Nat.le_of_ble_eq_true rfl) ?_
      refine r_lt (fun v9 => ?_)
      refine r_mmax (pc1 := 96) mlX1_56 (by omega) dX1_valueOf_93 rfl (Nat.le_of_ble_eq_true rfl) ?_
      refine r_lt (fun v10 => ?_)
      exact r_iret rfl rfl dX1_valueOf_96
  · exact r_wk (t_lp_X1_valueOf_2 a1 k3 hk3 FU 0 s0) ⟨Or.inr rfl, Or.inr rfl, Or.inr rfl, Or.inr rfl, Or.inl rfl, trivial⟩
/-! f_X10_mayOf -/
noncomputable def lp_X10_mayOf_50 (a1 : Int32) (a2 : Int32) (v1 : Int32) (v9 : Int32) (k12 : Int32 → SS → Res) : Nat → Int32 → Int32 → SS → Res
  | 0, _, _, _ => none
  | n17 + 1, v14, v15, s16 => if (s16 27 9 : Int32) ≤ (v15 : Int32) then k12 v14 s16 else jn (fun (v19 : Int32) (s20 : SS) => lp_X10_mayOf_50 a1 a2 v1 v9 k12 n17 v19 (v15 + 1) s20) (fun (k21 : Int32 → SS → Res) => if ((v9 >>> (v15 &&& 31)) &&& 1 : Int32) = (1 : Int32) then bd (f_X10_describe a1 v15 0 a2 s16) (fun (v23 : Int32) (s24 : SS) => bd (f_X1_valueOf 109 s24) (fun (v25 : Int32) (s26 : SS) => lt (v14 ||| (v25 <<< (v15 &&& 31))) (fun (v27 : Int32) => k21 v27 s26))) else k21 v14 s16)
noncomputable def f_X10_mayOf (a1 : Int32) (a2 : Int32) (s0 : SS) : Res := lt ((a1 * 4) + a2) (fun (v1 : Int32) => if (v1 : Int32) < 0 then some (0, s0) else if (v1 : Int32) < (21392 : Int32) then bd (f_X10_freshen s0) (fun (v4 : Int32) (s5 : SS) => gd (inb v1 21392) (jn (fun (s6 : SS) => gd (inb v1 21392) (some (s6 34 (Int32.toNatClampNeg v1), s6))) (fun (k7 : SS → Res) => if (s5 34 (Int32.toNatClampNeg v1) : Int32) = ((-1000000000) : Int32) then bdp (f_X10_openTo a1 a2 s5) (fun (v9 : Int32) => jn (fun (v10 : Int32) (s11 : SS) => gd (inb v1 21392) (lts (up s11 34 (Int32.toNatClampNeg v1) v10) (fun (s13 : SS) => k7 s13))) (fun (k12 : Int32 → SS → Res) => lp_X10_mayOf_50 a1 a2 v1 v9 k12 FU 0 0 s5)) else k7 s5))) else some (0, s0))
set_option maxRecDepth 100000 in
set_option maxHeartbeats 4000000 in
theorem t_lp_X10_mayOf_50 {l : Launch} (a1 : Int32) (a2 : Int32) (v1 : Int32) (v9 : Int32) (k12 : Int32 → SS → Res) (hk12 : ∀ (v10 : Int32) (s11 : SS), RC l wF RX10 cX10_mayOf 7 (some .int) 3 106 [.ref 27, .null, .null, .int v1, .null, .int v10, .null] [] s11 (k12 v10 s11)) : ∀ (n17 : Nat) (v14 : Int32) (v15 : Int32) (s16 : SS), RC l wF RX10 cX10_mayOf 7 (some .int) 3 50 [.ref 27, .int a1, .int a2, .int v1, .int v9, .int v14, .int v15] [] s16 (lp_X10_mayOf_50 a1 a2 v1 v9 k12 n17 v14 v15 s16) := by
  intro n17
  induction n17 with
  | zero =>
    intro v14 v15 s16
    rw [lp_X10_mayOf_50]
    exact r_none
  | succ n17 ih =>
    intro v14 v15 s16
    rw [lp_X10_mayOf_50]
    refine r_iload (pc1 := 52) dX10_mayOf_50 rfl rfl ?_
    refine r_aload_n (pc1 := 53) (i := 0) dX10_mayOf_52 rfl rfl rfl ?_
    refine r_getI (pc1 := 56) w_27 gfX10_47 rfl dX10_mayOf_53 rfl ?_
    refine r_icmp_ge (tgt := 106) (pc1 := 59) dX10_mayOf_56 (by decide) rfl (fun q18 => ?_) (fun q18 => ?_)
    · exact r_wk (hk12 v14 s16) ⟨Or.inr rfl, Or.inl rfl, Or.inl rfl, Or.inr rfl, Or.inl rfl, Or.inr rfl, Or.inl rfl, trivial⟩
    · refine r_iload (pc1 := 61) dX10_mayOf_59 rfl rfl ?_
      refine r_iload (pc1 := 63) dX10_mayOf_61 rfl rfl ?_
      refine r_ishr (pc1 := 64) dX10_mayOf_63 rfl ?_
      refine r_iconst (v := 1) (pc1 := 65) dX10_mayOf_64 ki_1 rfl ?_
      refine r_iand (pc1 := 66) dX10_mayOf_65 rfl ?_
      refine r_iconst (v := 1) (pc1 := 67) dX10_mayOf_66 ki_1 rfl ?_
      refine r_jn (hyp := fun (k21 : Int32 → SS → Res) => ∀ (v19 : Int32) (s20 : SS), RC l wF RX10 cX10_mayOf 7 (some .int) 3 100 [.ref 27, .int a1, .int a2, .int v1, .int v9, .int v19, .int v15] [] s20 (k21 v19 s20)) (fun v19 s20 => ?_) (fun k21 hk21 => ?_)
      · refine r_iinc (pc1 := 103) dX10_mayOf_100 rfl (kn_1 _) (by decide) rfl rfl rfl ?_
        refine r_goto (tgt := 50) dX10_mayOf_103 (by decide) ?_
        exact r_wk (ih v19 (v15 + 1) s20) ⟨Or.inr rfl, Or.inr rfl, Or.inr rfl, Or.inr rfl, Or.inr rfl, Or.inr rfl, Or.inr rfl, trivial⟩
      · refine r_icmp_ne (tgt := 100) (pc1 := 70) dX10_mayOf_67 (by decide) rfl (fun q22 => ?_) (fun q22 => ?_)
        · refine r_aload_n (pc1 := 71) (i := 0) dX10_mayOf_70 rfl rfl rfl ?_
          refine r_iload_n (pc1 := 72) (i := 1) dX10_mayOf_71 rfl rfl rfl ?_
          refine r_iload (pc1 := 74) dX10_mayOf_72 rfl rfl ?_
          refine r_iconst (v := 0) (pc1 := 75) dX10_mayOf_74 ki_0 rfl ?_
          refine r_iload_n (pc1 := 76) (i := 2) dX10_mayOf_75 rfl rfl rfl ?_
          refine r_callVv (pc1 := 79) (rv_of w_27 cl_10) lkX10_79 (c_X10_describe _ _ _ _ _) rfl rfl ⟨Nat.le_of_ble_eq_true rfl, Nat.le_of_ble_eq_true rfl⟩ (Nat.le_of_ble_eq_true rfl) dX10_mayOf_76 rfl (fun v23 s24 => ?_)
          refine r_iload (pc1 := 81) dX10_mayOf_79 rfl rfl ?_
          refine r_aload_n (pc1 := 82) (i := 0) dX10_mayOf_81 rfl rfl rfl ?_
          refine r_getR (pc1 := 85) w_27 gfX10_43 rfl dX10_mayOf_82 rfl ?_
          refine r_bipush (v := 109) (pc1 := 87) dX10_mayOf_85 kb_109 rfl ?_
          refine r_aload_n (pc1 := 88) (i := 0) dX10_mayOf_87 rfl rfl rfl ?_
          refine r_getR (pc1 := 91) w_27 gfX10_24 rfl dX10_mayOf_88 rfl ?_
          refine r_callVi (pc1 := 94) (rv_of w_9 cl_1) lkX10_83 (c_X1_valueOf _ _) rfl rfl ⟨Nat.le_of_ble_eq_true rfl, Nat.le_of_ble_eq_true rfl⟩ (Nat.le_of_ble_eq_true rfl) dX10_mayOf_91 rfl (fun v25 s26 => ?_)
          refine r_iload (pc1 := 96) dX10_mayOf_94 rfl rfl ?_
          refine r_ishl (pc1 := 97) dX10_mayOf_96 rfl ?_
          refine r_ior (pc1 := 98) dX10_mayOf_97 rfl ?_
          refine r_lt (fun v27 => ?_)
          refine r_istore (pc1 := 100) dX10_mayOf_98 (by decide) rfl rfl rfl ?_
          exact r_wk (hk21 v27 s26) ⟨Or.inr rfl, Or.inr rfl, Or.inr rfl, Or.inr rfl, Or.inr rfl, Or.inr rfl, Or.inr rfl, trivial⟩
        · exact r_wk (hk21 v14 s16) ⟨Or.inr rfl, Or.inr rfl, Or.inr rfl, Or.inr rfl, Or.inr rfl, Or.inr rfl, Or.inr rfl, trivial⟩
set_option maxRecDepth 100000 in
set_option maxHeartbeats 4000000 in
theorem c_X10_mayOf {l : Launch} (a1 : Int32) (a2 : Int32) (s0 : SS) : Ct l wF yX10_mayOf cX10_mayOf 7 (some .int) 3 [.ref 27, .int a1, .int a2] s0 (f_X10_mayOf a1 a2 s0) := by
  refine ct_of (y := yX10_mayOf) plX10 (Nat.le_of_ble_eq_true rfl) ?_
  refine r_pad0 4 (L1 := [.ref 27, .int a1, .int a2, .null, .null, .null, .null]) rfl ?_
  unfold f_X10_mayOf
  refine r_iload_n (pc1 := 1) (i := 1) dX10_mayOf_0 rfl rfl rfl ?_
  refine r_iconst (v := 4) (pc1 := 2) dX10_mayOf_1 ki_4 rfl ?_
  refine r_imul (pc1 := 3) dX10_mayOf_2 rfl ?_
  refine r_iload_n (pc1 := 4) (i := 2) dX10_mayOf_3 rfl rfl rfl ?_
  refine r_iadd (pc1 := 5) dX10_mayOf_4 rfl ?_
  refine r_lt (fun v1 => ?_)
  refine r_istore_n (pc1 := 6) (i := 3) dX10_mayOf_5 rfl (by decide) rfl rfl rfl ?_
  refine r_iload_n (pc1 := 7) (i := 3) dX10_mayOf_6 rfl rfl rfl ?_
  refine r_if_lt (tgt := 19) (pc1 := 10) dX10_mayOf_7 (by decide) rfl (fun q2 => ?_) (fun q2 => ?_)
  · refine r_iconst (v := 0) (pc1 := 20) dX10_mayOf_19 ki_0 rfl ?_
    exact r_iret rfl rfl dX10_mayOf_20
  · refine r_iload_n (pc1 := 11) (i := 3) dX10_mayOf_10 rfl rfl rfl ?_
    refine r_aload_n (pc1 := 12) (i := 0) dX10_mayOf_11 rfl rfl rfl ?_
    refine r_getR (pc1 := 15) w_27 gfX10_32 rfl dX10_mayOf_12 rfl ?_
    refine r_alen (t := 0) (v := 21392) (pc1 := 16) w_34 (fun _ => rfl) (al_21392) dX10_mayOf_15 rfl ?_
    refine r_icmp_lt (tgt := 21) (pc1 := 19) dX10_mayOf_16 (by decide) rfl (fun q3 => ?_) (fun q3 => ?_)
    · refine r_aload_n (pc1 := 22) (i := 0) dX10_mayOf_21 rfl rfl rfl ?_
      refine r_callVv (pc1 := 25) (rv_of w_27 cl_10) lkX10_69 (c_X10_freshen _) rfl rfl ⟨Nat.le_of_ble_eq_true rfl, Nat.le_of_ble_eq_true rfl⟩ (Nat.le_of_ble_eq_true rfl) dX10_mayOf_22 rfl (fun v4 s5 => ?_)
      refine r_aload_n (pc1 := 26) (i := 0) dX10_mayOf_25 rfl rfl rfl ?_
      refine r_getR (pc1 := 29) w_27 gfX10_32 rfl dX10_mayOf_26 rfl ?_
      refine r_iload_n (pc1 := 30) (i := 3) dX10_mayOf_29 rfl rfl rfl ?_
      refine r_iald (pc1 := 31) w_34 dX10_mayOf_30 rfl ?_
      refine r_ldc (v := (-1000000000)) (pc1 := 33) dX10_mayOf_31 cnX10_62 rfl ?_
      refine r_jn (hyp := fun (k7 : SS → Res) => ∀ (s6 : SS), RC l wF RX10 cX10_mayOf 7 (some .int) 3 114 [.ref 27, .null, .null, .int v1, .null, .null, .null] [] s6 (k7 s6)) (fun s6 => ?_) (fun k7 hk7 => ?_)
      · refine r_aload_n (pc1 := 115) (i := 0) dX10_mayOf_114 rfl rfl rfl ?_
        refine r_getR (pc1 := 118) w_27 gfX10_32 rfl dX10_mayOf_115 rfl ?_
        refine r_iload_n (pc1 := 119) (i := 3) dX10_mayOf_118 rfl rfl rfl ?_
        refine r_iald (pc1 := 120) w_34 dX10_mayOf_119 rfl ?_
        exact r_iret rfl rfl dX10_mayOf_120
      · refine r_icmp_ne (tgt := 114) (pc1 := 36) dX10_mayOf_33 (by decide) rfl (fun q8 => ?_) (fun q8 => ?_)
        · refine r_aload_n (pc1 := 37) (i := 0) dX10_mayOf_36 rfl rfl rfl ?_
          refine r_iload_n (pc1 := 38) (i := 1) dX10_mayOf_37 rfl rfl rfl ?_
          refine r_iload_n (pc1 := 39) (i := 2) dX10_mayOf_38 rfl rfl rfl ?_
          refine r_callVp (pc1 := 42) (rv_of w_27 cl_10) lkX10_92 (c_X10_openTo _ _ _) rfl rfl ⟨Nat.le_of_ble_eq_true rfl, Nat.le_of_ble_eq_true rfl⟩ (Nat.le_of_ble_eq_true rfl) dX10_mayOf_39 rfl (fun v9 => ?_)
          refine r_istore (pc1 := 44) dX10_mayOf_42 (by decide) rfl rfl rfl ?_
          refine r_iconst (v := 0) (pc1 := 45) dX10_mayOf_44 ki_0 rfl ?_
          refine r_istore (pc1 := 47) dX10_mayOf_45 (by decide) rfl rfl rfl ?_
          refine r_iconst (v := 0) (pc1 := 48) dX10_mayOf_47 ki_0 rfl ?_
          refine r_istore (pc1 := 50) dX10_mayOf_48 (by decide) rfl rfl rfl ?_
          refine r_jn (hyp := fun (k12 : Int32 → SS → Res) => ∀ (v10 : Int32) (s11 : SS), RC l wF RX10 cX10_mayOf 7 (some .int) 3 106 [.ref 27, .null, .null, .int v1, .null, .int v10, .null] [] s11 (k12 v10 s11)) (fun v10 s11 => ?_) (fun k12 hk12 => ?_)
          · refine r_aload_n (pc1 := 107) (i := 0) dX10_mayOf_106 rfl rfl rfl ?_
            refine r_getR (pc1 := 110) w_27 gfX10_32 rfl dX10_mayOf_107 rfl ?_
            refine r_iload_n (pc1 := 111) (i := 3) dX10_mayOf_110 rfl rfl rfl ?_
            refine r_iload (pc1 := 113) dX10_mayOf_111 rfl rfl ?_
            refine r_iast (pc1 := 114) w_34 dX10_mayOf_113 rfl ?_
            refine r_lts (fun s13 => ?_)
            exact r_wk (hk7 s13) ⟨Or.inr rfl, Or.inl rfl, Or.inl rfl, Or.inr rfl, Or.inl rfl, Or.inl rfl, Or.inl rfl, trivial⟩
          · exact r_wk (t_lp_X10_mayOf_50 a1 a2 v1 v9 k12 hk12 FU 0 0 s5) ⟨Or.inr rfl, Or.inr rfl, Or.inr rfl, Or.inr rfl, Or.inr rfl, Or.inr rfl, Or.inr rfl, trivial⟩
        · exact r_wk (hk7 s5) ⟨Or.inr rfl, Or.inl rfl, Or.inl rfl, Or.inr rfl, Or.inl rfl, Or.inl rfl, Or.inl rfl, trivial⟩
    · refine r_iconst (v := 0) (pc1 := 20) dX10_mayOf_19 ki_0 rfl ?_
      exact r_iret rfl rfl dX10_mayOf_20
/-! f_X11_may -/
noncomputable def f_X11_may (a1 : Int32) (s0 : SS) : Res := bdp (f_X11_isPerson a1 s0) (fun (v1 : Int32) => if (v1 : Int32) = 0 then some ((-1), s0) else bd (f_X10_mayOf (s0 52 0) a1 s0) (fun (v3 : Int32) (s4 : SS) => some (v3, s4)))
set_option maxRecDepth 100000 in
set_option maxHeartbeats 4000000 in
theorem c_X11_may {l : Launch} (a1 : Int32) (s0 : SS) : Ct l wF yX11_may cX11_may 2 (some .int) 4 [.ref 0, .int a1] s0 (f_X11_may a1 s0) := by
  refine ct_of (y := yX11_may) plX11 (Nat.le_of_ble_eq_true rfl) ?_
  refine r_pad0 0 (L1 := [.ref 0, .int a1]) rfl ?_
  unfold f_X11_may
  refine r_iload_n (pc1 := 1) (i := 1) dX11_may_0 rfl rfl rfl ?_
  refine r_callSp (pc1 := 4) lkX11_142 (c_X11_isPerson _ _) rfl rfl ⟨Nat.le_of_ble_eq_true rfl, Nat.le_of_ble_eq_true rfl⟩ (Nat.le_of_ble_eq_true rfl) dX11_may_1 rfl (fun v1 => ?_)
  refine r_if_eq (tgt := 25) (pc1 := 7) dX11_may_4 (by decide) rfl (fun q2 => ?_) (fun q2 => ?_)
  · refine r_iconst (v := (-1)) (pc1 := 26) dX11_may_25 ki_m1 rfl ?_
    exact r_iret rfl rfl dX11_may_26
  · refine r_aload_n (pc1 := 8) (i := 0) dX11_may_7 rfl rfl rfl ?_
    refine r_getR (pc1 := 11) w_0 gfX11_42 rfl dX11_may_8 rfl ?_
    refine r_aload_n (pc1 := 12) (i := 0) dX11_may_11 rfl rfl rfl ?_
    refine r_getR (pc1 := 15) w_0 gfX11_88 rfl dX11_may_12 rfl ?_
    refine r_getI (pc1 := 18) w_52 gfX11_122 rfl dX11_may_15 rfl ?_
    refine r_iload_n (pc1 := 19) (i := 1) dX11_may_18 rfl rfl rfl ?_
    refine r_callVi (pc1 := 22) (rv_of w_27 cl_10) lkX11_178 (c_X10_mayOf _ _ _) rfl rfl ⟨Nat.le_of_ble_eq_true rfl, Nat.le_of_ble_eq_true rfl⟩ (Nat.le_of_ble_eq_true rfl) dX11_may_19 rfl (fun v3 s4 => ?_)
    refine r_goto (tgt := 26) dX11_may_22 (by decide) ?_
    exact r_iret rfl rfl dX11_may_26
/-! f_X2_onTurn -/
noncomputable def f_X2_onTurn (a1 : Int32) (s0 : SS) : Option Int32 := if (a1 : Int32) < 0 then some ((-1)) else if (s0 35 5 : Int32) ≤ (a1 : Int32) then some ((-1)) else if (4 : Int32) ≤ (a1 : Int32) then some ((-1)) else gd (inb a1 4) (some (s0 38 (Int32.toNatClampNeg a1)))
set_option maxRecDepth 100000 in
set_option maxHeartbeats 4000000 in
theorem c_X2_onTurn {l : Launch} (a1 : Int32) (s0 : SS) : Ct l wF yX2_onTurn cX2_onTurn 2 (some .int) 0 [.ref 35, .int a1] s0 (pu (f_X2_onTurn a1 s0) s0) := by
  refine ct_of (y := yX2_onTurn) plX2 (Nat.le_of_ble_eq_true rfl) ?_
  refine r_pad0 0 (L1 := [.ref 35, .int a1]) rfl ?_
  unfold f_X2_onTurn
  refine r_iload_n (pc1 := 1) (i := 1) dX2_onTurn_0 rfl rfl rfl ?_
  refine p_if_lt (tgt := 26) (pc1 := 4) dX2_onTurn_1 (by decide) rfl (fun q1 => ?_) (fun q1 => ?_)
  · refine r_iconst (v := (-1)) (pc1 := 27) dX2_onTurn_26 ki_m1 rfl ?_
    exact p_iret rfl rfl dX2_onTurn_27
  · refine r_iload_n (pc1 := 5) (i := 1) dX2_onTurn_4 rfl rfl rfl ?_
    refine r_aload_n (pc1 := 6) (i := 0) dX2_onTurn_5 rfl rfl rfl ?_
    refine r_getI (pc1 := 9) w_35 gfX2_21 rfl dX2_onTurn_6 rfl ?_
    refine p_icmp_ge (tgt := 26) (pc1 := 12) dX2_onTurn_9 (by decide) rfl (fun q2 => ?_) (fun q2 => ?_)
    · refine r_iconst (v := (-1)) (pc1 := 27) dX2_onTurn_26 ki_m1 rfl ?_
      exact p_iret rfl rfl dX2_onTurn_27
    · refine r_iload_n (pc1 := 13) (i := 1) dX2_onTurn_12 rfl rfl rfl ?_
      refine r_iconst (v := 4) (pc1 := 14) dX2_onTurn_13 ki_4 rfl ?_
      refine p_icmp_ge (tgt := 26) (pc1 := 17) dX2_onTurn_14 (by decide) rfl (fun q3 => ?_) (fun q3 => ?_)
      · refine r_iconst (v := (-1)) (pc1 := 27) dX2_onTurn_26 ki_m1 rfl ?_
        exact p_iret rfl rfl dX2_onTurn_27
      · refine r_aload_n (pc1 := 18) (i := 0) dX2_onTurn_17 rfl rfl rfl ?_
        refine r_getR (pc1 := 21) w_35 gfX2_18 rfl dX2_onTurn_18 rfl ?_
        refine r_iload_n (pc1 := 22) (i := 1) dX2_onTurn_21 rfl rfl rfl ?_
        refine p_iald (pc1 := 23) w_38 dX2_onTurn_22 rfl ?_
        refine r_goto (tgt := 27) dX2_onTurn_23 (by decide) ?_
        exact p_iret rfl rfl dX2_onTurn_27
/-! f_X6_isFull -/
noncomputable def f_X6_isFull (a1 : Int32) (s0 : SS) : Option Int32 := bdp (f_X6_sizeOf a1 s0) (fun (v1 : Int32) => bdp (f_X6_lengthOf a1 s0) (fun (v2 : Int32) => if (v1 : Int32) = (v2 : Int32) then some 1 else some 0))
set_option maxRecDepth 100000 in
set_option maxHeartbeats 4000000 in
theorem c_X6_isFull {l : Launch} {wl : WT} (w_3 : WI wl 3 (OE 6 [some 4, some 5, some 6, some 7, some 8])) (w_4 : WI wl 4 (AE 0 5348)) (w_5 : WI wl 5 (AE 0 5348)) (w_6 : WI wl 6 (AE 0 5348)) (w_7 : WI wl 7 (AE 0 5348)) (w_8 : WI wl 8 (AE 0 5348)) (a1 : Int32) (s0 : SS) : Ct l wl yX6_isFull cX6_isFull 2 (some .boolean) 1 [.ref 3, .int a1] s0 (pu (f_X6_isFull a1 s0) s0) := by
  refine ct_of (y := yX6_isFull) plX6 (Nat.le_of_ble_eq_true rfl) ?_
  refine r_pad0 0 (L1 := [.ref 3, .int a1]) rfl ?_
  unfold f_X6_isFull
  refine r_aload_n (pc1 := 1) (i := 0) dX6_isFull_0 rfl rfl rfl ?_
  refine r_iload_n (pc1 := 2) (i := 1) dX6_isFull_1 rfl rfl rfl ?_
  refine p_callVp (pc1 := 5) (rv_of w_3 cl_6) lkX6_35 (c_X6_sizeOf w_3 w_4 w_5 w_6 w_7 w_8 _ _) rfl rfl ⟨Nat.le_of_ble_eq_true rfl, Nat.le_of_ble_eq_true rfl⟩ (Nat.le_of_ble_eq_true rfl) dX6_isFull_2 rfl (fun v1 => ?_)
  refine r_aload_n (pc1 := 6) (i := 0) dX6_isFull_5 rfl rfl rfl ?_
  refine r_iload_n (pc1 := 7) (i := 1) dX6_isFull_6 rfl rfl rfl ?_
  refine p_callVp (pc1 := 10) (rv_of w_3 cl_6) lkX6_47 (c_X6_lengthOf w_3 w_4 w_5 w_6 w_7 w_8 _ _) rfl rfl ⟨Nat.le_of_ble_eq_true rfl, Nat.le_of_ble_eq_true rfl⟩ (Nat.le_of_ble_eq_true rfl) dX6_isFull_7 rfl (fun v2 => ?_)
  refine p_icmp_ne (tgt := 17) (pc1 := 13) dX6_isFull_10 (by decide) rfl (fun q3 => ?_) (fun q3 => ?_)
  · refine r_iconst (v := 1) (pc1 := 14) dX6_isFull_13 ki_1 rfl ?_
    refine r_goto (tgt := 18) dX6_isFull_14 (by decide) ?_
    exact p_iret rfl rfl dX6_isFull_18
  · refine r_iconst (v := 0) (pc1 := 18) dX6_isFull_17 ki_0 rfl ?_
    exact p_iret rfl rfl dX6_isFull_18
/-! f_X11_enter -/
noncomputable def f_X11_enter (a1 : Int32) (a2 : Int32) (a3 : Int32) (s0 : SS) : Res := if (s0 52 4 : Int32) < 0 then some (0, s0) else if (s0 52 4 : Int32) < (100 : Int32) then lt ((s0 52 4) * 4) (fun (v3 : Int32) => gd (inb v3 400) (lts (up s0 55 (Int32.toNatClampNeg v3) (s0 52 2)) (fun (s4 : SS) => gd (inb (v3 + 1) 400) (lts (up s4 55 (Int32.toNatClampNeg (v3 + 1)) a1) (fun (s5 : SS) => gd (inb (v3 + 2) 400) (lts (up s5 55 (Int32.toNatClampNeg (v3 + 2)) a2) (fun (s6 : SS) => gd (inb (v3 + 3) 400) (lts (up s6 55 (Int32.toNatClampNeg (v3 + 3)) a3) (fun (s7 : SS) => lts (up s7 52 4 ((s7 52 4) + 1)) (fun (s8 : SS) => some (0, s8))))))))))) else some (0, s0)
set_option maxRecDepth 100000 in
set_option maxHeartbeats 4000000 in
theorem c_X11_enter {l : Launch} (a1 : Int32) (a2 : Int32) (a3 : Int32) (s0 : SS) : Ct l wF yX11_enter cX11_enter 5 none 0 [.ref 0, .int a1, .int a2, .int a3] s0 (f_X11_enter a1 a2 a3 s0) := by
  refine ct_of (y := yX11_enter) plX11 (Nat.le_of_ble_eq_true rfl) ?_
  refine r_pad0 1 (L1 := [.ref 0, .int a1, .int a2, .int a3, .null]) rfl ?_
  unfold f_X11_enter
  refine r_aload_n (pc1 := 1) (i := 0) dX11_enter_0 rfl rfl rfl ?_
  refine r_getR (pc1 := 4) w_0 gfX11_88 rfl dX11_enter_1 rfl ?_
  refine r_getI (pc1 := 7) w_52 gfX11_223 rfl dX11_enter_4 rfl ?_
  refine r_if_lt (tgt := 22) (pc1 := 10) dX11_enter_7 (by decide) rfl (fun q1 => ?_) (fun q1 => ?_)
  · exact r_vret rfl dX11_enter_22
  · refine r_aload_n (pc1 := 11) (i := 0) dX11_enter_10 rfl rfl rfl ?_
    refine r_getR (pc1 := 14) w_0 gfX11_88 rfl dX11_enter_11 rfl ?_
    refine r_getI (pc1 := 17) w_52 gfX11_223 rfl dX11_enter_14 rfl ?_
    refine r_bipush (v := 100) (pc1 := 19) dX11_enter_17 kb_100 rfl ?_
    refine r_icmp_lt (tgt := 23) (pc1 := 22) dX11_enter_19 (by decide) rfl (fun q2 => ?_) (fun q2 => ?_)
    · refine r_aload_n (pc1 := 24) (i := 0) dX11_enter_23 rfl rfl rfl ?_
      refine r_getR (pc1 := 27) w_0 gfX11_88 rfl dX11_enter_24 rfl ?_
      refine r_getI (pc1 := 30) w_52 gfX11_223 rfl dX11_enter_27 rfl ?_
      refine r_iconst (v := 4) (pc1 := 31) dX11_enter_30 ki_4 rfl ?_
      refine r_imul (pc1 := 32) dX11_enter_31 rfl ?_
      refine r_lt (fun v3 => ?_)
      refine r_istore (pc1 := 34) dX11_enter_32 (by decide) rfl rfl rfl ?_
      refine r_aload_n (pc1 := 35) (i := 0) dX11_enter_34 rfl rfl rfl ?_
      refine r_getR (pc1 := 38) w_0 gfX11_99 rfl dX11_enter_35 rfl ?_
      refine r_iload (pc1 := 40) dX11_enter_38 rfl rfl ?_
      refine r_aload_n (pc1 := 41) (i := 0) dX11_enter_40 rfl rfl rfl ?_
      refine r_getR (pc1 := 44) w_0 gfX11_88 rfl dX11_enter_41 rfl ?_
      refine r_getI (pc1 := 47) w_52 gfX11_217 rfl dX11_enter_44 rfl ?_
      refine r_iast (pc1 := 48) w_55 dX11_enter_47 rfl ?_
      refine r_lts (fun s4 => ?_)
      refine r_aload_n (pc1 := 49) (i := 0) dX11_enter_48 rfl rfl rfl ?_
      refine r_getR (pc1 := 52) w_0 gfX11_99 rfl dX11_enter_49 rfl ?_
      refine r_iload (pc1 := 54) dX11_enter_52 rfl rfl ?_
      refine r_iconst (v := 1) (pc1 := 55) dX11_enter_54 ki_1 rfl ?_
      refine r_iadd (pc1 := 56) dX11_enter_55 rfl ?_
      refine r_iload_n (pc1 := 57) (i := 1) dX11_enter_56 rfl rfl rfl ?_
      refine r_iast (pc1 := 58) w_55 dX11_enter_57 rfl ?_
      refine r_lts (fun s5 => ?_)
      refine r_aload_n (pc1 := 59) (i := 0) dX11_enter_58 rfl rfl rfl ?_
      refine r_getR (pc1 := 62) w_0 gfX11_99 rfl dX11_enter_59 rfl ?_
      refine r_iload (pc1 := 64) dX11_enter_62 rfl rfl ?_
      refine r_iconst (v := 2) (pc1 := 65) dX11_enter_64 ki_2 rfl ?_
      refine r_iadd (pc1 := 66) dX11_enter_65 rfl ?_
      refine r_iload_n (pc1 := 67) (i := 2) dX11_enter_66 rfl rfl rfl ?_
      refine r_iast (pc1 := 68) w_55 dX11_enter_67 rfl ?_
      refine r_lts (fun s6 => ?_)
      refine r_aload_n (pc1 := 69) (i := 0) dX11_enter_68 rfl rfl rfl ?_
      refine r_getR (pc1 := 72) w_0 gfX11_99 rfl dX11_enter_69 rfl ?_
      refine r_iload (pc1 := 74) dX11_enter_72 rfl rfl ?_
      refine r_iconst (v := 3) (pc1 := 75) dX11_enter_74 ki_3 rfl ?_
      refine r_iadd (pc1 := 76) dX11_enter_75 rfl ?_
      refine r_iload_n (pc1 := 77) (i := 3) dX11_enter_76 rfl rfl rfl ?_
      refine r_iast (pc1 := 78) w_55 dX11_enter_77 rfl ?_
      refine r_lts (fun s7 => ?_)
      refine r_aload_n (pc1 := 79) (i := 0) dX11_enter_78 rfl rfl rfl ?_
      refine r_getR (pc1 := 82) w_0 gfX11_88 rfl dX11_enter_79 rfl ?_
      refine r_dup (pc1 := 83) dX11_enter_82 rfl rfl ?_
      refine r_getI (pc1 := 86) w_52 gfX11_223 rfl dX11_enter_83 rfl ?_
      refine r_iconst (v := 1) (pc1 := 87) dX11_enter_86 ki_1 rfl ?_
      refine r_iadd (pc1 := 88) dX11_enter_87 rfl ?_
      refine r_putI (pc1 := 91) w_52 pfX11_223 rfl ⟨rfl, rfl⟩ dX11_enter_88 rfl ?_
      refine r_lts (fun s8 => ?_)
      exact r_vret rfl dX11_enter_91
    · exact r_vret rfl dX11_enter_22
/-! f_X6_behind -/
noncomputable def f_X6_behind (a1 : Int32) (a2 : Int32) (s0 : SS) : Option Int32 := jn (fun (v1 : Int32) => if (v1 : Int32) = 0 then some a1 else gd (inb a1 5348) (some ((s0 8 (Int32.toNatClampNeg a1)) + a2))) (fun (k2 : Int32 → Option Int32) => jn (k2 0) (fun (k4 : Option Int32) => if (a2 : Int32) < 0 then k4 else if (8 : Int32) ≤ (a2 : Int32) then k4 else if (a1 : Int32) < 0 then k4 else if (5348 : Int32) ≤ (a1 : Int32) then k4 else k2 1))
set_option maxRecDepth 100000 in
set_option maxHeartbeats 4000000 in
theorem c_X6_behind {l : Launch} {wl : WT} (w_3 : WI wl 3 (OE 6 [some 4, some 5, some 6, some 7, some 8])) (w_4 : WI wl 4 (AE 0 5348)) (w_5 : WI wl 5 (AE 0 5348)) (w_6 : WI wl 6 (AE 0 5348)) (w_7 : WI wl 7 (AE 0 5348)) (w_8 : WI wl 8 (AE 0 5348)) (a1 : Int32) (a2 : Int32) (s0 : SS) : Ct l wl yX6_behind cX6_behind 4 (some .int) 0 [.ref 3, .int a1, .int a2] s0 (pu (f_X6_behind a1 a2 s0) s0) := by
  refine ct_of (y := yX6_behind) plX6 (Nat.le_of_ble_eq_true rfl) ?_
  refine r_pad0 1 (L1 := [.ref 3, .int a1, .int a2, .null]) rfl ?_
  unfold f_X6_behind
  refine r_iload_n (pc1 := 1) (i := 2) dX6_behind_0 rfl rfl rfl ?_
  refine p_jn (hyp := fun (k2 : Int32 → Option Int32) => ∀ (v1 : Int32), RC l wl RX6 cX6_behind 4 (some .int) 0 26 [.ref 3, .int a1, .int a2, .null] [.int v1] s0 (pu (k2 v1) s0)) (fun v1 => ?_) (fun k2 hk2 => ?_)
  · refine r_istore_n (pc1 := 27) (i := 3) dX6_behind_26 rfl (by decide) rfl rfl rfl ?_
    refine r_iload_n (pc1 := 28) (i := 3) dX6_behind_27 rfl rfl rfl ?_
    refine p_if_eq (tgt := 42) (pc1 := 31) dX6_behind_28 (by decide) rfl (fun q3 => ?_) (fun q3 => ?_)
    · refine r_iload_n (pc1 := 43) (i := 1) dX6_behind_42 rfl rfl rfl ?_
      exact p_iret rfl rfl dX6_behind_43
    · refine r_aload_n (pc1 := 32) (i := 0) dX6_behind_31 rfl rfl rfl ?_
      refine r_getR (pc1 := 35) w_3 gfX6_24 rfl dX6_behind_32 rfl ?_
      refine r_iload_n (pc1 := 36) (i := 1) dX6_behind_35 rfl rfl rfl ?_
      refine p_iald (pc1 := 37) w_8 dX6_behind_36 rfl ?_
      refine r_iload_n (pc1 := 38) (i := 2) dX6_behind_37 rfl rfl rfl ?_
      refine r_iadd (pc1 := 39) dX6_behind_38 rfl ?_
      refine r_goto (tgt := 43) dX6_behind_39 (by decide) ?_
      exact p_iret rfl rfl dX6_behind_43
  · refine p_jn (hyp := fun (k4 : Option Int32) => RC l wl RX6 cX6_behind 4 (some .int) 0 25 [.ref 3, .int a1, .int a2, .null] [] s0 (pu k4 s0)) (?_) (fun k4 hk4 => ?_)
    · refine r_iconst (v := 0) (pc1 := 26) dX6_behind_25 ki_0 rfl ?_
      exact r_wk (hk2 0) ⟨Or.inr rfl, Or.inr rfl, Or.inr rfl, Or.inl rfl, trivial⟩
    · refine p_if_lt (tgt := 25) (pc1 := 4) dX6_behind_1 (by decide) rfl (fun q5 => ?_) (fun q5 => ?_)
      · exact r_wk (hk4) ⟨Or.inr rfl, Or.inr rfl, Or.inr rfl, Or.inl rfl, trivial⟩
      · refine r_iload_n (pc1 := 5) (i := 2) dX6_behind_4 rfl rfl rfl ?_
        refine r_bipush (v := 8) (pc1 := 7) dX6_behind_5 kb_8 rfl ?_
        refine p_icmp_ge (tgt := 25) (pc1 := 10) dX6_behind_7 (by decide) rfl (fun q6 => ?_) (fun q6 => ?_)
        · exact r_wk (hk4) ⟨Or.inr rfl, Or.inr rfl, Or.inr rfl, Or.inl rfl, trivial⟩
        · refine r_iload_n (pc1 := 11) (i := 1) dX6_behind_10 rfl rfl rfl ?_
          refine p_if_lt (tgt := 25) (pc1 := 14) dX6_behind_11 (by decide) rfl (fun q7 => ?_) (fun q7 => ?_)
          · exact r_wk (hk4) ⟨Or.inr rfl, Or.inr rfl, Or.inr rfl, Or.inl rfl, trivial⟩
          · refine r_iload_n (pc1 := 15) (i := 1) dX6_behind_14 rfl rfl rfl ?_
            refine r_sipush (v := 5348) (pc1 := 18) dX6_behind_15 ks_5348 rfl ?_
            refine p_icmp_ge (tgt := 25) (pc1 := 21) dX6_behind_18 (by decide) rfl (fun q8 => ?_) (fun q8 => ?_)
            · exact r_wk (hk4) ⟨Or.inr rfl, Or.inr rfl, Or.inr rfl, Or.inl rfl, trivial⟩
            · refine r_iconst (v := 1) (pc1 := 22) dX6_behind_21 ki_1 rfl ?_
              refine r_goto (tgt := 26) dX6_behind_22 (by decide) ?_
              exact r_wk (hk2 1) ⟨Or.inr rfl, Or.inr rfl, Or.inr rfl, Or.inl rfl, trivial⟩
/-! f_X2_placeAfter -/
noncomputable def f_X2_placeAfter (a1 : Int32) (s0 : SS) : Option Int32 := if (s0 35 5 : Int32) ≤ (a1 + 1 : Int32) then some 0 else some (a1 + 1)
set_option maxRecDepth 100000 in
set_option maxHeartbeats 4000000 in
theorem c_X2_placeAfter {l : Launch} (a1 : Int32) (s0 : SS) : Ct l wF yX2_placeAfter cX2_placeAfter 2 (some .int) 0 [.ref 35, .int a1] s0 (pu (f_X2_placeAfter a1 s0) s0) := by
  refine ct_of (y := yX2_placeAfter) plX2 (Nat.le_of_ble_eq_true rfl) ?_
  refine r_pad0 0 (L1 := [.ref 35, .int a1]) rfl ?_
  unfold f_X2_placeAfter
  refine r_iload_n (pc1 := 1) (i := 1) dX2_placeAfter_0 rfl rfl rfl ?_
  refine r_iconst (v := 1) (pc1 := 2) dX2_placeAfter_1 ki_1 rfl ?_
  refine r_iadd (pc1 := 3) dX2_placeAfter_2 rfl ?_
  refine r_aload_n (pc1 := 4) (i := 0) dX2_placeAfter_3 rfl rfl rfl ?_
  refine r_getI (pc1 := 7) w_35 gfX2_21 rfl dX2_placeAfter_4 rfl ?_
  refine p_icmp_ge (tgt := 16) (pc1 := 10) dX2_placeAfter_7 (by decide) rfl (fun q1 => ?_) (fun q1 => ?_)
  · refine r_iconst (v := 0) (pc1 := 17) dX2_placeAfter_16 ki_0 rfl ?_
    exact p_iret rfl rfl dX2_placeAfter_17
  · refine r_iload_n (pc1 := 11) (i := 1) dX2_placeAfter_10 rfl rfl rfl ?_
    refine r_iconst (v := 1) (pc1 := 12) dX2_placeAfter_11 ki_1 rfl ?_
    refine r_iadd (pc1 := 13) dX2_placeAfter_12 rfl ?_
    refine r_goto (tgt := 17) dX2_placeAfter_13 (by decide) ?_
    exact p_iret rfl rfl dX2_placeAfter_17
/-! f_X11_passDay -/
noncomputable def f_X11_passDay (a1 : Int32) (a2 : Int32) (s0 : SS) : Res := jn (fun (v1 : Int32) (s2 : SS) => lts (up s2 52 2 ((s2 52 2) + 1)) (fun (s4 : SS) => bdp (f_X2_placeAfter (s4 52 1) s4) (fun (v5 : Int32) => lts (up s4 52 1 v5) (fun (s6 : SS) => some (v1, s6))))) (fun (k3 : Int32 → SS → Res) => if (a2 : Int32) = (8 : Int32) then k3 8 s0 else bdp (f_X6_isFull (s0 52 0) s0) (fun (v8 : Int32) => jn (fun (v9 : Int32) => bd (f_X11_enter a1 a2 v9 s0) (fun (v11 : Int32) (s12 : SS) => bdp (f_X6_behind (s12 52 0) a2 s12) (fun (v13 : Int32) => lts (up s12 52 0 v13) (fun (s14 : SS) => k3 v9 s14)))) (fun (k10 : Int32 → Res) => if (v8 : Int32) = 0 then k10 8 else bdp (f_X6_oldestOn (s0 52 0) s0) (fun (v16 : Int32) => k10 v16))))
set_option maxRecDepth 100000 in
set_option maxHeartbeats 4000000 in
theorem c_X11_passDay {l : Launch} (a1 : Int32) (a2 : Int32) (s0 : SS) : Ct l wF yX11_passDay cX11_passDay 4 (some .int) 2 [.ref 0, .int a1, .int a2] s0 (f_X11_passDay a1 a2 s0) := by
  refine ct_of (y := yX11_passDay) plX11 (Nat.le_of_ble_eq_true rfl) ?_
  refine r_pad0 1 (L1 := [.ref 0, .int a1, .int a2, .null]) rfl ?_
  unfold f_X11_passDay
  refine r_bipush (v := 8) (pc1 := 2) dX11_passDay_0 kb_8 rfl ?_
  refine r_istore_n (pc1 := 3) (i := 3) dX11_passDay_2 rfl (by decide) rfl rfl rfl ?_
  refine r_iload_n (pc1 := 4) (i := 2) dX11_passDay_3 rfl rfl rfl ?_
  refine r_bipush (v := 8) (pc1 := 6) dX11_passDay_4 kb_8 rfl ?_
  refine r_jn (hyp := fun (k3 : Int32 → SS → Res) => ∀ (v1 : Int32) (s2 : SS), RC l wF RX11 cX11_passDay 4 (some .int) 2 75 [.ref 0, .null, .null, .int v1] [] s2 (k3 v1 s2)) (fun v1 s2 => ?_) (fun k3 hk3 => ?_)
  · refine r_aload_n (pc1 := 76) (i := 0) dX11_passDay_75 rfl rfl rfl ?_
    refine r_getR (pc1 := 79) w_0 gfX11_88 rfl dX11_passDay_76 rfl ?_
    refine r_dup (pc1 := 80) dX11_passDay_79 rfl rfl ?_
    refine r_getI (pc1 := 83) w_52 gfX11_217 rfl dX11_passDay_80 rfl ?_
    refine r_iconst (v := 1) (pc1 := 84) dX11_passDay_83 ki_1 rfl ?_
    refine r_iadd (pc1 := 85) dX11_passDay_84 rfl ?_
    refine r_putI (pc1 := 88) w_52 pfX11_217 rfl ⟨rfl, rfl⟩ dX11_passDay_85 rfl ?_
    refine r_lts (fun s4 => ?_)
    refine r_aload_n (pc1 := 89) (i := 0) dX11_passDay_88 rfl rfl rfl ?_
    refine r_getR (pc1 := 92) w_0 gfX11_88 rfl dX11_passDay_89 rfl ?_
    refine r_aload_n (pc1 := 93) (i := 0) dX11_passDay_92 rfl rfl rfl ?_
    refine r_getR (pc1 := 96) w_0 gfX11_51 rfl dX11_passDay_93 rfl ?_
    refine r_aload_n (pc1 := 97) (i := 0) dX11_passDay_96 rfl rfl rfl ?_
    refine r_getR (pc1 := 100) w_0 gfX11_88 rfl dX11_passDay_97 rfl ?_
    refine r_getI (pc1 := 103) w_52 gfX11_139 rfl dX11_passDay_100 rfl ?_
    refine r_callVp (pc1 := 106) (rv_of w_35 cl_2) lkX11_220 (c_X2_placeAfter _ _) rfl rfl ⟨Nat.le_of_ble_eq_true rfl, Nat.le_of_ble_eq_true rfl⟩ (Nat.le_of_ble_eq_true rfl) dX11_passDay_103 rfl (fun v5 => ?_)
    refine r_putI (pc1 := 109) w_52 pfX11_139 rfl ⟨rfl, rfl⟩ dX11_passDay_106 rfl ?_
    refine r_lts (fun s6 => ?_)
    refine r_iload_n (pc1 := 110) (i := 3) dX11_passDay_109 rfl rfl rfl ?_
    exact r_iret rfl rfl dX11_passDay_110
  · refine r_icmp_eq (tgt := 75) (pc1 := 9) dX11_passDay_6 (by decide) rfl (fun q7 => ?_) (fun q7 => ?_)
    · exact r_wk (hk3 8 s0) ⟨Or.inr rfl, Or.inl rfl, Or.inl rfl, Or.inr rfl, trivial⟩
    · refine r_aload_n (pc1 := 10) (i := 0) dX11_passDay_9 rfl rfl rfl ?_
      refine r_getR (pc1 := 13) w_0 gfX11_19 rfl dX11_passDay_10 rfl ?_
      refine r_aload_n (pc1 := 14) (i := 0) dX11_passDay_13 rfl rfl rfl ?_
      refine r_getR (pc1 := 17) w_0 gfX11_88 rfl dX11_passDay_14 rfl ?_
      refine r_getI (pc1 := 20) w_52 gfX11_122 rfl dX11_passDay_17 rfl ?_
      refine r_callVp (pc1 := 23) (rv_of w_3 cl_6) lkX11_205 (c_X6_isFull w_3 w_4 w_5 w_6 w_7 w_8 _ _) rfl rfl ⟨Nat.le_of_ble_eq_true rfl, Nat.le_of_ble_eq_true rfl⟩ (Nat.le_of_ble_eq_true rfl) dX11_passDay_20 rfl (fun v8 => ?_)
      refine r_jn (hyp := fun (k10 : Int32 → Res) => ∀ (v9 : Int32), RC l wF RX11 cX11_passDay 4 (some .int) 2 45 [.ref 0, .int a1, .int a2, .null] [.int v9] s0 (k10 v9)) (fun v9 => ?_) (fun k10 hk10 => ?_)
      · refine r_istore_n (pc1 := 46) (i := 3) dX11_passDay_45 rfl (by decide) rfl rfl rfl ?_
        refine r_aload_n (pc1 := 47) (i := 0) dX11_passDay_46 rfl rfl rfl ?_
        refine r_iload_n (pc1 := 48) (i := 1) dX11_passDay_47 rfl rfl rfl ?_
        refine r_iload_n (pc1 := 49) (i := 2) dX11_passDay_48 rfl rfl rfl ?_
        refine r_iload_n (pc1 := 50) (i := 3) dX11_passDay_49 rfl rfl rfl ?_
        refine r_callVv (pc1 := 53) (rv_of w_0 cl_11) lkX11_211 (c_X11_enter _ _ _ _) rfl rfl ⟨Nat.le_of_ble_eq_true rfl, Nat.le_of_ble_eq_true rfl⟩ (Nat.le_of_ble_eq_true rfl) dX11_passDay_50 rfl (fun v11 s12 => ?_)
        refine r_aload_n (pc1 := 54) (i := 0) dX11_passDay_53 rfl rfl rfl ?_
        refine r_getR (pc1 := 57) w_0 gfX11_88 rfl dX11_passDay_54 rfl ?_
        refine r_aload_n (pc1 := 58) (i := 0) dX11_passDay_57 rfl rfl rfl ?_
        refine r_getR (pc1 := 61) w_0 gfX11_19 rfl dX11_passDay_58 rfl ?_
        refine r_aload_n (pc1 := 62) (i := 0) dX11_passDay_61 rfl rfl rfl ?_
        refine r_getR (pc1 := 65) w_0 gfX11_88 rfl dX11_passDay_62 rfl ?_
        refine r_getI (pc1 := 68) w_52 gfX11_122 rfl dX11_passDay_65 rfl ?_
        refine r_iload_n (pc1 := 69) (i := 2) dX11_passDay_68 rfl rfl rfl ?_
        refine r_callVp (pc1 := 72) (rv_of w_3 cl_6) lkX11_214 (c_X6_behind w_3 w_4 w_5 w_6 w_7 w_8 _ _ _) rfl rfl ⟨Nat.le_of_ble_eq_true rfl, Nat.le_of_ble_eq_true rfl⟩ (Nat.le_of_ble_eq_true rfl) dX11_passDay_69 rfl (fun v13 => ?_)
        refine r_putI (pc1 := 75) w_52 pfX11_122 rfl ⟨rfl, rfl⟩ dX11_passDay_72 rfl ?_
        refine r_lts (fun s14 => ?_)
        exact r_wk (hk3 v9 s14) ⟨Or.inr rfl, Or.inl rfl, Or.inl rfl, Or.inr rfl, trivial⟩
      · refine r_if_eq (tgt := 43) (pc1 := 26) dX11_passDay_23 (by decide) rfl (fun q15 => ?_) (fun q15 => ?_)
        · refine r_bipush (v := 8) (pc1 := 45) dX11_passDay_43 kb_8 rfl ?_
          exact r_wk (hk10 8) ⟨Or.inr rfl, Or.inr rfl, Or.inr rfl, Or.inl rfl, trivial⟩
        · refine r_aload_n (pc1 := 27) (i := 0) dX11_passDay_26 rfl rfl rfl ?_
          refine r_getR (pc1 := 30) w_0 gfX11_19 rfl dX11_passDay_27 rfl ?_
          refine r_aload_n (pc1 := 31) (i := 0) dX11_passDay_30 rfl rfl rfl ?_
          refine r_getR (pc1 := 34) w_0 gfX11_88 rfl dX11_passDay_31 rfl ?_
          refine r_getI (pc1 := 37) w_52 gfX11_122 rfl dX11_passDay_34 rfl ?_
          refine r_callVp (pc1 := 40) (rv_of w_3 cl_6) lkX11_208 (c_X6_oldestOn w_3 w_4 w_5 w_6 w_7 w_8 _ _) rfl rfl ⟨Nat.le_of_ble_eq_true rfl, Nat.le_of_ble_eq_true rfl⟩ (Nat.le_of_ble_eq_true rfl) dX11_passDay_37 rfl (fun v16 => ?_)
          refine r_goto (tgt := 45) dX11_passDay_40 (by decide) ?_
          exact r_wk (hk10 v16) ⟨Or.inr rfl, Or.inr rfl, Or.inr rfl, Or.inl rfl, trivial⟩
/-! f_X11_make -/
noncomputable def f_X11_make (a1 : Int32) (s0 : SS) : Res := jn (bdp (f_X2_onTurn (s0 52 1) s0) (fun (v2 : Int32) => jn (fun (s3 : SS) => jn (fun (v5 : Int32) => bd (f_X11_passDay v2 v5 s3) (fun (v7 : Int32) (s8 : SS) => some (v7, s8))) (fun (k6 : Int32 → Res) => if (a1 : Int32) = ((-1) : Int32) then k6 8 else k6 a1)) (fun (k4 : SS → Res) => if (a1 : Int32) = ((-1) : Int32) then k4 s0 else bd (f_X10_mayOf (s0 52 0) v2 s0) (fun (v11 : Int32) (s12 : SS) => if ((v11 >>> (a1 &&& 31)) &&& 1 : Int32) = 0 then some ((-2), s12) else k4 s12)))) (fun (k1 : Res) => if (a1 : Int32) = ((-1) : Int32) then k1 else bdp (f_X11_isLaw a1 s0) (fun (v15 : Int32) => if (v15 : Int32) = 0 then some ((-1), s0) else k1))
set_option maxRecDepth 100000 in
set_option maxHeartbeats 4000000 in
theorem c_X11_make {l : Launch} (a1 : Int32) (s0 : SS) : Ct l wF yX11_make cX11_make 3 (some .int) 4 [.ref 0, .int a1] s0 (f_X11_make a1 s0) := by
  refine ct_of (y := yX11_make) plX11 (Nat.le_of_ble_eq_true rfl) ?_
  refine r_pad0 1 (L1 := [.ref 0, .int a1, .null]) rfl ?_
  unfold f_X11_make
  refine r_iload_n (pc1 := 1) (i := 1) dX11_make_0 rfl rfl rfl ?_
  refine r_iconst (v := (-1)) (pc1 := 2) dX11_make_1 ki_m1 rfl ?_
  refine r_jn (hyp := fun (k1 : Res) => RC l wF RX11 cX11_make 3 (some .int) 4 15 [.ref 0, .int a1, .null] [] s0 k1) (?_) (fun k1 hk1 => ?_)
  · refine r_aload_n (pc1 := 16) (i := 0) dX11_make_15 rfl rfl rfl ?_
    refine r_getR (pc1 := 19) w_0 gfX11_51 rfl dX11_make_16 rfl ?_
    refine r_aload_n (pc1 := 20) (i := 0) dX11_make_19 rfl rfl rfl ?_
    refine r_getR (pc1 := 23) w_0 gfX11_88 rfl dX11_make_20 rfl ?_
    refine r_getI (pc1 := 26) w_52 gfX11_139 rfl dX11_make_23 rfl ?_
    refine r_callVp (pc1 := 29) (rv_of w_35 cl_2) lkX11_198 (c_X2_onTurn _ _) rfl rfl ⟨Nat.le_of_ble_eq_true rfl, Nat.le_of_ble_eq_true rfl⟩ (Nat.le_of_ble_eq_true rfl) dX11_make_26 rfl (fun v2 => ?_)
    refine r_istore_n (pc1 := 30) (i := 2) dX11_make_29 rfl (by decide) rfl rfl rfl ?_
    refine r_iload_n (pc1 := 31) (i := 1) dX11_make_30 rfl rfl rfl ?_
    refine r_iconst (v := (-1)) (pc1 := 32) dX11_make_31 ki_m1 rfl ?_
    refine r_jn (hyp := fun (k4 : SS → Res) => ∀ (s3 : SS), RC l wF RX11 cX11_make 3 (some .int) 4 60 [.ref 0, .int a1, .int v2] [] s3 (k4 s3)) (fun s3 => ?_) (fun k4 hk4 => ?_)
    · refine r_aload_n (pc1 := 61) (i := 0) dX11_make_60 rfl rfl rfl ?_
      refine r_iload_n (pc1 := 62) (i := 2) dX11_make_61 rfl rfl rfl ?_
      refine r_iload_n (pc1 := 63) (i := 1) dX11_make_62 rfl rfl rfl ?_
      refine r_iconst (v := (-1)) (pc1 := 64) dX11_make_63 ki_m1 rfl ?_
      refine r_jn (hyp := fun (k6 : Int32 → Res) => ∀ (v5 : Int32), RC l wF RX11 cX11_make 3 (some .int) 4 73 [.ref 0, .null, .null] [.int v5, .int v2, .ref 0] s3 (k6 v5)) (fun v5 => ?_) (fun k6 hk6 => ?_)
      · refine r_callVi (pc1 := 76) (rv_of w_0 cl_11) lkX11_201 (c_X11_passDay _ _ _) rfl rfl ⟨Nat.le_of_ble_eq_true rfl, Nat.le_of_ble_eq_true rfl⟩ (Nat.le_of_ble_eq_true rfl) dX11_make_73 rfl (fun v7 s8 => ?_)
        exact r_iret rfl rfl dX11_make_76
      · refine r_icmp_ne (tgt := 72) (pc1 := 67) dX11_make_64 (by decide) rfl (fun q9 => ?_) (fun q9 => ?_)
        · refine r_bipush (v := 8) (pc1 := 69) dX11_make_67 kb_8 rfl ?_
          refine r_goto (tgt := 73) dX11_make_69 (by decide) ?_
          exact r_wk (hk6 8) ⟨Or.inr rfl, Or.inl rfl, Or.inl rfl, trivial⟩
        · refine r_iload_n (pc1 := 73) (i := 1) dX11_make_72 rfl rfl rfl ?_
          exact r_wk (hk6 a1) ⟨Or.inr rfl, Or.inl rfl, Or.inl rfl, trivial⟩
    · refine r_icmp_eq (tgt := 60) (pc1 := 35) dX11_make_32 (by decide) rfl (fun q10 => ?_) (fun q10 => ?_)
      · exact r_wk (hk4 s0) ⟨Or.inr rfl, Or.inr rfl, Or.inr rfl, trivial⟩
      · refine r_aload_n (pc1 := 36) (i := 0) dX11_make_35 rfl rfl rfl ?_
        refine r_getR (pc1 := 39) w_0 gfX11_42 rfl dX11_make_36 rfl ?_
        refine r_aload_n (pc1 := 40) (i := 0) dX11_make_39 rfl rfl rfl ?_
        refine r_getR (pc1 := 43) w_0 gfX11_88 rfl dX11_make_40 rfl ?_
        refine r_getI (pc1 := 46) w_52 gfX11_122 rfl dX11_make_43 rfl ?_
        refine r_iload_n (pc1 := 47) (i := 2) dX11_make_46 rfl rfl rfl ?_
        refine r_callVi (pc1 := 50) (rv_of w_27 cl_10) lkX11_178 (c_X10_mayOf _ _ _) rfl rfl ⟨Nat.le_of_ble_eq_true rfl, Nat.le_of_ble_eq_true rfl⟩ (Nat.le_of_ble_eq_true rfl) dX11_make_47 rfl (fun v11 s12 => ?_)
        refine r_iload_n (pc1 := 51) (i := 1) dX11_make_50 rfl rfl rfl ?_
        refine r_ishr (pc1 := 52) dX11_make_51 rfl ?_
        refine r_iconst (v := 1) (pc1 := 53) dX11_make_52 ki_1 rfl ?_
        refine r_iand (pc1 := 54) dX11_make_53 rfl ?_
        refine r_if_ne (tgt := 60) (pc1 := 57) dX11_make_54 (by decide) rfl (fun q13 => ?_) (fun q13 => ?_)
        · refine r_bipush (v := (-2)) (pc1 := 59) dX11_make_57 kb_m2 rfl ?_
          exact r_iret rfl rfl dX11_make_59
        · exact r_wk (hk4 s12) ⟨Or.inr rfl, Or.inr rfl, Or.inr rfl, trivial⟩
  · refine r_icmp_eq (tgt := 15) (pc1 := 5) dX11_make_2 (by decide) rfl (fun q14 => ?_) (fun q14 => ?_)
    · exact r_wk (hk1) ⟨Or.inr rfl, Or.inr rfl, Or.inl rfl, trivial⟩
    · refine r_aload_n (pc1 := 6) (i := 0) dX11_make_5 rfl rfl rfl ?_
      refine r_iload_n (pc1 := 7) (i := 1) dX11_make_6 rfl rfl rfl ?_
      refine r_callVp (pc1 := 10) (rv_of w_0 cl_11) lkX11_146 (c_X11_isLaw _ _) rfl rfl ⟨Nat.le_of_ble_eq_true rfl, Nat.le_of_ble_eq_true rfl⟩ (Nat.le_of_ble_eq_true rfl) dX11_make_7 rfl (fun v15 => ?_)
      refine r_if_ne (tgt := 15) (pc1 := 13) dX11_make_10 (by decide) rfl (fun q16 => ?_) (fun q16 => ?_)
      · refine r_iconst (v := (-1)) (pc1 := 14) dX11_make_13 ki_m1 rfl ?_
        exact r_iret rfl rfl dX11_make_14
      · exact r_wk (hk1) ⟨Or.inr rfl, Or.inr rfl, Or.inl rfl, trivial⟩
/-! f_X11_at -/
noncomputable def f_X11_at (a1 : Int32) (s0 : SS) : Option Int32 := bdp (f_X6_lawOn (s0 52 0) a1 s0) (fun (v1 : Int32) => some v1)
set_option maxRecDepth 100000 in
set_option maxHeartbeats 4000000 in
theorem c_X11_at {l : Launch} (a1 : Int32) (s0 : SS) : Ct l wF yX11_at cX11_at 2 (some .int) 2 [.ref 0, .int a1] s0 (pu (f_X11_at a1 s0) s0) := by
  refine ct_of (y := yX11_at) plX11 (Nat.le_of_ble_eq_true rfl) ?_
  refine r_pad0 0 (L1 := [.ref 0, .int a1]) rfl ?_
  unfold f_X11_at
  refine r_aload_n (pc1 := 1) (i := 0) dX11_at_0 rfl rfl rfl ?_
  refine r_getR (pc1 := 4) w_0 gfX11_19 rfl dX11_at_1 rfl ?_
  refine r_aload_n (pc1 := 5) (i := 0) dX11_at_4 rfl rfl rfl ?_
  refine r_getR (pc1 := 8) w_0 gfX11_88 rfl dX11_at_5 rfl ?_
  refine r_getI (pc1 := 11) w_52 gfX11_122 rfl dX11_at_8 rfl ?_
  refine r_iload_n (pc1 := 12) (i := 1) dX11_at_11 rfl rfl rfl ?_
  refine p_callVp (pc1 := 15) (rv_of w_3 cl_6) lkX11_182 (c_X6_lawOn w_3 w_4 w_5 w_6 w_7 w_8 _ _ _) rfl rfl ⟨Nat.le_of_ble_eq_true rfl, Nat.le_of_ble_eq_true rfl⟩ (Nat.le_of_ble_eq_true rfl) dX11_at_12 rfl (fun v1 => ?_)
  exact p_iret rfl rfl dX11_at_15
/-! f_X11_holding -/
noncomputable def f_X11_holding  (s0 : SS) : Option Int32 := bdp (f_X10_holdingOn (s0 52 0) s0) (fun (v1 : Int32) => some v1)
set_option maxRecDepth 100000 in
set_option maxHeartbeats 4000000 in
theorem c_X11_holding {l : Launch}  (s0 : SS) : Ct l wF yX11_holding cX11_holding 1 (some .int) 2 [.ref 0] s0 (pu (f_X11_holding s0) s0) := by
  refine ct_of (y := yX11_holding) plX11 (Nat.le_of_ble_eq_true rfl) ?_
  refine r_pad0 0 (L1 := [.ref 0]) rfl ?_
  unfold f_X11_holding
  refine r_aload_n (pc1 := 1) (i := 0) dX11_holding_0 rfl rfl rfl ?_
  refine r_getR (pc1 := 4) w_0 gfX11_42 rfl dX11_holding_1 rfl ?_
  refine r_aload_n (pc1 := 5) (i := 0) dX11_holding_4 rfl rfl rfl ?_
  refine r_getR (pc1 := 8) w_0 gfX11_88 rfl dX11_holding_5 rfl ?_
  refine r_getI (pc1 := 11) w_52 gfX11_122 rfl dX11_holding_8 rfl ?_
  refine p_callVp (pc1 := 14) (rv_of w_27 cl_10) lkX11_185 (c_X10_holdingOn _ _) rfl rfl ⟨Nat.le_of_ble_eq_true rfl, Nat.le_of_ble_eq_true rfl⟩ (Nat.le_of_ble_eq_true rfl) dX11_holding_11 rfl (fun v1 => ?_)
  exact p_iret rfl rfl dX11_holding_14
/-! f_X10_worthOf -/
noncomputable def lp_X10_worthOf_52 (a1 : Int32) (a2 : Int32) (v1 : Int32) (v9 : Int32) (k12 : Int32 → SS → Res) : Nat → Int32 → Int32 → SS → Res
  | 0, _, _, _ => none
  | n17 + 1, v14, v15, s16 => if (v9 : Int32) ≤ (v15 : Int32) then k12 v14 s16 else bdp (f_X6_lawOn a1 v15 s16) (fun (v19 : Int32) => bd (f_X10_describe a1 v19 v15 a2 s16) (fun (v20 : Int32) (s21 : SS) => bd (f_X1_valueOf 118 s21) (fun (v22 : Int32) (s23 : SS) => lt (v14 + v22) (fun (v24 : Int32) => lp_X10_worthOf_52 a1 a2 v1 v9 k12 n17 v24 (v15 + 1) s23))))
noncomputable def f_X10_worthOf (a1 : Int32) (a2 : Int32) (s0 : SS) : Res := lt ((a1 * 4) + a2) (fun (v1 : Int32) => if (v1 : Int32) < 0 then some (0, s0) else if (v1 : Int32) < (21392 : Int32) then bd (f_X10_freshen s0) (fun (v4 : Int32) (s5 : SS) => gd (inb v1 21392) (jn (fun (s6 : SS) => gd (inb v1 21392) (some (s6 33 (Int32.toNatClampNeg v1), s6))) (fun (k7 : SS → Res) => if (s5 33 (Int32.toNatClampNeg v1) : Int32) = ((-1000000000) : Int32) then bdp (f_X6_sizeOf a1 s5) (fun (v9 : Int32) => jn (fun (v10 : Int32) (s11 : SS) => gd (inb v1 21392) (lts (up s11 33 (Int32.toNatClampNeg v1) v10) (fun (s13 : SS) => k7 s13))) (fun (k12 : Int32 → SS → Res) => lp_X10_worthOf_52 a1 a2 v1 v9 k12 FU 0 0 s5)) else k7 s5))) else some (0, s0))
set_option maxRecDepth 100000 in
set_option maxHeartbeats 4000000 in
theorem t_lp_X10_worthOf_52 {l : Launch} (a1 : Int32) (a2 : Int32) (v1 : Int32) (v9 : Int32) (k12 : Int32 → SS → Res) (hk12 : ∀ (v10 : Int32) (s11 : SS), RC l wF RX10 cX10_worthOf 7 (some .int) 3 101 [.ref 27, .null, .null, .int v1, .int v10, .null, .null] [] s11 (k12 v10 s11)) : ∀ (n17 : Nat) (v14 : Int32) (v15 : Int32) (s16 : SS), RC l wF RX10 cX10_worthOf 7 (some .int) 3 52 [.ref 27, .int a1, .int a2, .int v1, .int v14, .int v9, .int v15] [] s16 (lp_X10_worthOf_52 a1 a2 v1 v9 k12 n17 v14 v15 s16) := by
  intro n17
  induction n17 with
  | zero =>
    intro v14 v15 s16
    rw [lp_X10_worthOf_52]
    exact r_none
  | succ n17 ih =>
    intro v14 v15 s16
    rw [lp_X10_worthOf_52]
    refine r_iload (pc1 := 54) dX10_worthOf_52 rfl rfl ?_
    refine r_iload (pc1 := 56) dX10_worthOf_54 rfl rfl ?_
    refine r_icmp_ge (tgt := 101) (pc1 := 59) dX10_worthOf_56 (by decide) rfl (fun q18 => ?_) (fun q18 => ?_)
    · exact r_wk (hk12 v14 s16) ⟨Or.inr rfl, Or.inl rfl, Or.inl rfl, Or.inr rfl, Or.inr rfl, Or.inl rfl, Or.inl rfl, trivial⟩
    · refine r_aload_n (pc1 := 60) (i := 0) dX10_worthOf_59 rfl rfl rfl ?_
      refine r_iload_n (pc1 := 61) (i := 1) dX10_worthOf_60 rfl rfl rfl ?_
      refine r_aload_n (pc1 := 62) (i := 0) dX10_worthOf_61 rfl rfl rfl ?_
      refine r_getR (pc1 := 65) w_27 gfX10_39 rfl dX10_worthOf_62 rfl ?_
      refine r_iload_n (pc1 := 66) (i := 1) dX10_worthOf_65 rfl rfl rfl ?_
      refine r_iload (pc1 := 68) dX10_worthOf_66 rfl rfl ?_
      refine r_callVp (pc1 := 71) (rv_of w_3 cl_6) lkX10_75 (c_X6_lawOn w_3 w_4 w_5 w_6 w_7 w_8 _ _ _) rfl rfl ⟨Nat.le_of_ble_eq_true rfl, Nat.le_of_ble_eq_true rfl⟩ (Nat.le_of_ble_eq_true rfl) dX10_worthOf_68 rfl (fun v19 => ?_)
      refine r_iload (pc1 := 73) dX10_worthOf_71 rfl rfl ?_
      refine r_iload_n (pc1 := 74) (i := 2) dX10_worthOf_73 rfl rfl rfl ?_
      refine r_callVv (pc1 := 77) (rv_of w_27 cl_10) lkX10_79 (c_X10_describe _ _ _ _ _) rfl rfl ⟨Nat.le_of_ble_eq_true rfl, Nat.le_of_ble_eq_true rfl⟩ (Nat.le_of_ble_eq_true rfl) dX10_worthOf_74 rfl (fun v20 s21 => ?_)
      refine r_iload (pc1 := 79) dX10_worthOf_77 rfl rfl ?_
      refine r_aload_n (pc1 := 80) (i := 0) dX10_worthOf_79 rfl rfl rfl ?_
      refine r_getR (pc1 := 83) w_27 gfX10_43 rfl dX10_worthOf_80 rfl ?_
      refine r_bipush (v := 118) (pc1 := 85) dX10_worthOf_83 kb_118 rfl ?_
      refine r_aload_n (pc1 := 86) (i := 0) dX10_worthOf_85 rfl rfl rfl ?_
      refine r_getR (pc1 := 89) w_27 gfX10_24 rfl dX10_worthOf_86 rfl ?_
      refine r_callVi (pc1 := 92) (rv_of w_9 cl_1) lkX10_83 (c_X1_valueOf _ _) rfl rfl ⟨Nat.le_of_ble_eq_true rfl, Nat.le_of_ble_eq_true rfl⟩ (Nat.le_of_ble_eq_true rfl) dX10_worthOf_89 rfl (fun v22 s23 => ?_)
      refine r_iadd (pc1 := 93) dX10_worthOf_92 rfl ?_
      refine r_lt (fun v24 => ?_)
      refine r_istore (pc1 := 95) dX10_worthOf_93 (by decide) rfl rfl rfl ?_
      refine r_iinc (pc1 := 98) dX10_worthOf_95 rfl (kn_1 _) (by decide) rfl rfl rfl ?_
      refine r_goto (tgt := 52) dX10_worthOf_98 (by decide) ?_
      exact r_wk (ih v24 (v15 + 1) s23) ⟨Or.inr rfl, Or.inr rfl, Or.inr rfl, Or.inr rfl, Or.inr rfl, Or.inr rfl, Or.inr rfl, trivial⟩
set_option maxRecDepth 100000 in
set_option maxHeartbeats 4000000 in
theorem c_X10_worthOf {l : Launch} (a1 : Int32) (a2 : Int32) (s0 : SS) : Ct l wF yX10_worthOf cX10_worthOf 7 (some .int) 3 [.ref 27, .int a1, .int a2] s0 (f_X10_worthOf a1 a2 s0) := by
  refine ct_of (y := yX10_worthOf) plX10 (Nat.le_of_ble_eq_true rfl) ?_
  refine r_pad0 4 (L1 := [.ref 27, .int a1, .int a2, .null, .null, .null, .null]) rfl ?_
  unfold f_X10_worthOf
  refine r_iload_n (pc1 := 1) (i := 1) dX10_worthOf_0 rfl rfl rfl ?_
  refine r_iconst (v := 4) (pc1 := 2) dX10_worthOf_1 ki_4 rfl ?_
  refine r_imul (pc1 := 3) dX10_worthOf_2 rfl ?_
  refine r_iload_n (pc1 := 4) (i := 2) dX10_worthOf_3 rfl rfl rfl ?_
  refine r_iadd (pc1 := 5) dX10_worthOf_4 rfl ?_
  refine r_lt (fun v1 => ?_)
  refine r_istore_n (pc1 := 6) (i := 3) dX10_worthOf_5 rfl (by decide) rfl rfl rfl ?_
  refine r_iload_n (pc1 := 7) (i := 3) dX10_worthOf_6 rfl rfl rfl ?_
  refine r_if_lt (tgt := 19) (pc1 := 10) dX10_worthOf_7 (by decide) rfl (fun q2 => ?_) (fun q2 => ?_)
  · refine r_iconst (v := 0) (pc1 := 20) dX10_worthOf_19 ki_0 rfl ?_
    exact r_iret rfl rfl dX10_worthOf_20
  · refine r_iload_n (pc1 := 11) (i := 3) dX10_worthOf_10 rfl rfl rfl ?_
    refine r_aload_n (pc1 := 12) (i := 0) dX10_worthOf_11 rfl rfl rfl ?_
    refine r_getR (pc1 := 15) w_27 gfX10_29 rfl dX10_worthOf_12 rfl ?_
    refine r_alen (t := 0) (v := 21392) (pc1 := 16) w_33 (fun _ => rfl) (al_21392) dX10_worthOf_15 rfl ?_
    refine r_icmp_lt (tgt := 21) (pc1 := 19) dX10_worthOf_16 (by decide) rfl (fun q3 => ?_) (fun q3 => ?_)
    · refine r_aload_n (pc1 := 22) (i := 0) dX10_worthOf_21 rfl rfl rfl ?_
      refine r_callVv (pc1 := 25) (rv_of w_27 cl_10) lkX10_69 (c_X10_freshen _) rfl rfl ⟨Nat.le_of_ble_eq_true rfl, Nat.le_of_ble_eq_true rfl⟩ (Nat.le_of_ble_eq_true rfl) dX10_worthOf_22 rfl (fun v4 s5 => ?_)
      refine r_aload_n (pc1 := 26) (i := 0) dX10_worthOf_25 rfl rfl rfl ?_
      refine r_getR (pc1 := 29) w_27 gfX10_29 rfl dX10_worthOf_26 rfl ?_
      refine r_iload_n (pc1 := 30) (i := 3) dX10_worthOf_29 rfl rfl rfl ?_
      refine r_iald (pc1 := 31) w_33 dX10_worthOf_30 rfl ?_
      refine r_ldc (v := (-1000000000)) (pc1 := 33) dX10_worthOf_31 cnX10_62 rfl ?_
      refine r_jn (hyp := fun (k7 : SS → Res) => ∀ (s6 : SS), RC l wF RX10 cX10_worthOf 7 (some .int) 3 109 [.ref 27, .null, .null, .int v1, .null, .null, .null] [] s6 (k7 s6)) (fun s6 => ?_) (fun k7 hk7 => ?_)
      · refine r_aload_n (pc1 := 110) (i := 0) dX10_worthOf_109 rfl rfl rfl ?_
        refine r_getR (pc1 := 113) w_27 gfX10_29 rfl dX10_worthOf_110 rfl ?_
        refine r_iload_n (pc1 := 114) (i := 3) dX10_worthOf_113 rfl rfl rfl ?_
        refine r_iald (pc1 := 115) w_33 dX10_worthOf_114 rfl ?_
        exact r_iret rfl rfl dX10_worthOf_115
      · refine r_icmp_ne (tgt := 109) (pc1 := 36) dX10_worthOf_33 (by decide) rfl (fun q8 => ?_) (fun q8 => ?_)
        · refine r_iconst (v := 0) (pc1 := 37) dX10_worthOf_36 ki_0 rfl ?_
          refine r_istore (pc1 := 39) dX10_worthOf_37 (by decide) rfl rfl rfl ?_
          refine r_aload_n (pc1 := 40) (i := 0) dX10_worthOf_39 rfl rfl rfl ?_
          refine r_getR (pc1 := 43) w_27 gfX10_39 rfl dX10_worthOf_40 rfl ?_
          refine r_iload_n (pc1 := 44) (i := 1) dX10_worthOf_43 rfl rfl rfl ?_
          refine r_callVp (pc1 := 47) (rv_of w_3 cl_6) lkX10_72 (c_X6_sizeOf w_3 w_4 w_5 w_6 w_7 w_8 _ _) rfl rfl ⟨Nat.le_of_ble_eq_true rfl, Nat.le_of_ble_eq_true rfl⟩ (Nat.le_of_ble_eq_true rfl) dX10_worthOf_44 rfl (fun v9 => ?_)
          refine r_istore (pc1 := 49) dX10_worthOf_47 (by decide) rfl rfl rfl ?_
          refine r_iconst (v := 0) (pc1 := 50) dX10_worthOf_49 ki_0 rfl ?_
          refine r_istore (pc1 := 52) dX10_worthOf_50 (by decide) rfl rfl rfl ?_
          refine r_jn (hyp := fun (k12 : Int32 → SS → Res) => ∀ (v10 : Int32) (s11 : SS), RC l wF RX10 cX10_worthOf 7 (some .int) 3 101 [.ref 27, .null, .null, .int v1, .int v10, .null, .null] [] s11 (k12 v10 s11)) (fun v10 s11 => ?_) (fun k12 hk12 => ?_)
          · refine r_aload_n (pc1 := 102) (i := 0) dX10_worthOf_101 rfl rfl rfl ?_
            refine r_getR (pc1 := 105) w_27 gfX10_29 rfl dX10_worthOf_102 rfl ?_
            refine r_iload_n (pc1 := 106) (i := 3) dX10_worthOf_105 rfl rfl rfl ?_
            refine r_iload (pc1 := 108) dX10_worthOf_106 rfl rfl ?_
            refine r_iast (pc1 := 109) w_33 dX10_worthOf_108 rfl ?_
            refine r_lts (fun s13 => ?_)
            exact r_wk (hk7 s13) ⟨Or.inr rfl, Or.inl rfl, Or.inl rfl, Or.inr rfl, Or.inl rfl, Or.inl rfl, Or.inl rfl, trivial⟩
          · exact r_wk (t_lp_X10_worthOf_52 a1 a2 v1 v9 k12 hk12 FU 0 0 s5) ⟨Or.inr rfl, Or.inr rfl, Or.inr rfl, Or.inr rfl, Or.inr rfl, Or.inr rfl, Or.inr rfl, trivial⟩
        · exact r_wk (hk7 s5) ⟨Or.inr rfl, Or.inl rfl, Or.inl rfl, Or.inr rfl, Or.inl rfl, Or.inl rfl, Or.inl rfl, trivial⟩
    · refine r_iconst (v := 0) (pc1 := 20) dX10_worthOf_19 ki_0 rfl ?_
      exact r_iret rfl rfl dX10_worthOf_20
/-! f_X11_worth -/
noncomputable def f_X11_worth (a1 : Int32) (s0 : SS) : Res := bdp (f_X11_isPerson a1 s0) (fun (v1 : Int32) => if (v1 : Int32) = 0 then some ((-1000000), s0) else bd (f_X10_worthOf (s0 52 0) a1 s0) (fun (v3 : Int32) (s4 : SS) => some (v3, s4)))
set_option maxRecDepth 100000 in
set_option maxHeartbeats 4000000 in
theorem c_X11_worth {l : Launch} (a1 : Int32) (s0 : SS) : Ct l wF yX11_worth cX11_worth 2 (some .int) 4 [.ref 0, .int a1] s0 (f_X11_worth a1 s0) := by
  refine ct_of (y := yX11_worth) plX11 (Nat.le_of_ble_eq_true rfl) ?_
  refine r_pad0 0 (L1 := [.ref 0, .int a1]) rfl ?_
  unfold f_X11_worth
  refine r_iload_n (pc1 := 1) (i := 1) dX11_worth_0 rfl rfl rfl ?_
  refine r_callSp (pc1 := 4) lkX11_142 (c_X11_isPerson _ _) rfl rfl ⟨Nat.le_of_ble_eq_true rfl, Nat.le_of_ble_eq_true rfl⟩ (Nat.le_of_ble_eq_true rfl) dX11_worth_1 rfl (fun v1 => ?_)
  refine r_if_eq (tgt := 25) (pc1 := 7) dX11_worth_4 (by decide) rfl (fun q2 => ?_) (fun q2 => ?_)
  · refine r_ldc (v := (-1000000)) (pc1 := 27) dX11_worth_25 cnX11_191 rfl ?_
    exact r_iret rfl rfl dX11_worth_27
  · refine r_aload_n (pc1 := 8) (i := 0) dX11_worth_7 rfl rfl rfl ?_
    refine r_getR (pc1 := 11) w_0 gfX11_42 rfl dX11_worth_8 rfl ?_
    refine r_aload_n (pc1 := 12) (i := 0) dX11_worth_11 rfl rfl rfl ?_
    refine r_getR (pc1 := 15) w_0 gfX11_88 rfl dX11_worth_12 rfl ?_
    refine r_getI (pc1 := 18) w_52 gfX11_122 rfl dX11_worth_15 rfl ?_
    refine r_iload_n (pc1 := 19) (i := 1) dX11_worth_18 rfl rfl rfl ?_
    refine r_callVi (pc1 := 22) (rv_of w_27 cl_10) lkX11_188 (c_X10_worthOf _ _ _) rfl rfl ⟨Nat.le_of_ble_eq_true rfl, Nat.le_of_ble_eq_true rfl⟩ (Nat.le_of_ble_eq_true rfl) dX11_worth_19 rfl (fun v3 s4 => ?_)
    refine r_goto (tgt := 27) dX11_worth_22 (by decide) ?_
    exact r_iret rfl rfl dX11_worth_27
/-! f_X10_valueOfOldest -/
noncomputable def f_X10_valueOfOldest (a1 : Int32) (a2 : Int32) (s0 : SS) : Res := bdp (f_X6_oldestOn a1 s0) (fun (v1 : Int32) => bd (f_X10_describe a1 v1 0 a2 s0) (fun (v2 : Int32) (s3 : SS) => bd (f_X1_valueOf 118 s3) (fun (v4 : Int32) (s5 : SS) => some (v4, s5))))
set_option maxRecDepth 100000 in
set_option maxHeartbeats 4000000 in
theorem c_X10_valueOfOldest {l : Launch} (a1 : Int32) (a2 : Int32) (s0 : SS) : Ct l wF yX10_valueOfOldest cX10_valueOfOldest 3 (some .int) 3 [.ref 27, .int a1, .int a2] s0 (f_X10_valueOfOldest a1 a2 s0) := by
  refine ct_of (y := yX10_valueOfOldest) plX10 (Nat.le_of_ble_eq_true rfl) ?_
  refine r_pad0 0 (L1 := [.ref 27, .int a1, .int a2]) rfl ?_
  unfold f_X10_valueOfOldest
  refine r_aload_n (pc1 := 1) (i := 0) dX10_valueOfOldest_0 rfl rfl rfl ?_
  refine r_iload_n (pc1 := 2) (i := 1) dX10_valueOfOldest_1 rfl rfl rfl ?_
  refine r_aload_n (pc1 := 3) (i := 0) dX10_valueOfOldest_2 rfl rfl rfl ?_
  refine r_getR (pc1 := 6) w_27 gfX10_39 rfl dX10_valueOfOldest_3 rfl ?_
  refine r_iload_n (pc1 := 7) (i := 1) dX10_valueOfOldest_6 rfl rfl rfl ?_
  refine r_callVp (pc1 := 10) (rv_of w_3 cl_6) lkX10_89 (c_X6_oldestOn w_3 w_4 w_5 w_6 w_7 w_8 _ _) rfl rfl ⟨Nat.le_of_ble_eq_true rfl, Nat.le_of_ble_eq_true rfl⟩ (Nat.le_of_ble_eq_true rfl) dX10_valueOfOldest_7 rfl (fun v1 => ?_)
  refine r_iconst (v := 0) (pc1 := 11) dX10_valueOfOldest_10 ki_0 rfl ?_
  refine r_iload_n (pc1 := 12) (i := 2) dX10_valueOfOldest_11 rfl rfl rfl ?_
  refine r_callVv (pc1 := 15) (rv_of w_27 cl_10) lkX10_79 (c_X10_describe _ _ _ _ _) rfl rfl ⟨Nat.le_of_ble_eq_true rfl, Nat.le_of_ble_eq_true rfl⟩ (Nat.le_of_ble_eq_true rfl) dX10_valueOfOldest_12 rfl (fun v2 s3 => ?_)
  refine r_aload_n (pc1 := 16) (i := 0) dX10_valueOfOldest_15 rfl rfl rfl ?_
  refine r_getR (pc1 := 19) w_27 gfX10_43 rfl dX10_valueOfOldest_16 rfl ?_
  refine r_bipush (v := 118) (pc1 := 21) dX10_valueOfOldest_19 kb_118 rfl ?_
  refine r_aload_n (pc1 := 22) (i := 0) dX10_valueOfOldest_21 rfl rfl rfl ?_
  refine r_getR (pc1 := 25) w_27 gfX10_24 rfl dX10_valueOfOldest_22 rfl ?_
  refine r_callVi (pc1 := 28) (rv_of w_9 cl_1) lkX10_83 (c_X1_valueOf _ _) rfl rfl ⟨Nat.le_of_ble_eq_true rfl, Nat.le_of_ble_eq_true rfl⟩ (Nat.le_of_ble_eq_true rfl) dX10_valueOfOldest_25 rfl (fun v4 s5 => ?_)
  exact r_iret rfl rfl dX10_valueOfOldest_28
/-! f_X2_choice -/
noncomputable def lp_X2_choice_193 (a1 : Int32) (a2 : Int32) (v5 : Int32) : Nat → Int32 → Int32 → Int32 → SS → Res
  | 0, _, _, _, _ => none
  | n20 + 1, v16, v17, v18, s19 => if (8 : Int32) ≤ (v18 : Int32) then some (v16, s19) else jn (fun (v22 : Int32) (s23 : SS) => jn (fun (v25 : Int32) (v26 : Int32) => lp_X2_choice_193 a1 a2 v5 n20 v25 v26 (v18 + 1) s23) (fun (k27 : Int32 → Int32 → Res) => if (v22 : Int32) ≤ (v17 : Int32) then k27 v16 v17 else k27 v18 v22)) (fun (k24 : Int32 → SS → Res) => if ((v5 >>> (v18 &&& 31)) &&& 1 : Int32) = (1 : Int32) then bdp (f_X6_behind a2 v18 s19) (fun (v30 : Int32) => bd (f_X10_worthOf v30 a1 s19) (fun (v31 : Int32) (s32 : SS) => k24 v31 s32)) else k24 ((-1000000000)) s19)
noncomputable def f_X2_choice (a1 : Int32) (a2 : Int32) (s0 : SS) : Res := bdp (f_X11_isPerson a1 s0) (fun (v1 : Int32) => jn (fun (v2 : Int32) => if (v2 : Int32) = 0 then some (8, s0) else bd (f_X10_mayOf a2 a1 s0) (fun (v5 : Int32) (s6 : SS) => if (v2 : Int32) = (4 : Int32) then gd (inb a1 4) (lt ((s6 37 (Int32.toNatClampNeg a1)) &&& 7) (fun (v8 : Int32) => bdp (f_X6_standingOn a2 s6) (fun (v9 : Int32) => if (((v5 &&& (v9 ^^^ ((-1)))) >>> (v8 &&& 31)) &&& 1 : Int32) = (1 : Int32) then some (v8, s6) else some (8, s6)))) else jn (fun (s11 : SS) => jn (fun (v13 : Int32) (s14 : SS) => lp_X2_choice_193 a1 a2 v5 FU 8 v13 0 s14) (fun (k15 : Int32 → SS → Res) => if (v2 : Int32) = (1 : Int32) then bd (f_X10_worthOf a2 a1 s11) (fun (v34 : Int32) (s35 : SS) => k15 v34 s35) else k15 ((-1000000000)) s11)) (fun (k12 : SS → Res) => jn (bdp (f_X6_isFull a2 s6) (fun (v37 : Int32) => jn (fun (v38 : Int32) (s39 : SS) => bdp (f_X6_oldestOn a2 s39) (fun (v41 : Int32) => if (v2 : Int32) = (2 : Int32) then if (v38 : Int32) ≤ 0 then some (8, s39) else if ((v5 >>> (v41 &&& 31)) &&& 1 : Int32) = (1 : Int32) then some (v41, s39) else some (8, s39) else if (v38 : Int32) < 0 then k12 s39 else some (8, s39))) (fun (k40 : Int32 → SS → Res) => if (v37 : Int32) = 0 then k40 0 s6 else bd (f_X10_valueOfOldest a2 a1 s6) (fun (v47 : Int32) (s48 : SS) => k40 v47 s48)))) (fun (k36 : Res) => if (v2 : Int32) = (2 : Int32) then k36 else if (v2 : Int32) = (3 : Int32) then k36 else k12 s6)))) (fun (k3 : Int32 → Res) => if (v1 : Int32) = 0 then k3 0 else gd (inb a1 4) (k3 (s0 36 (Int32.toNatClampNeg a1)))))
set_option maxRecDepth 100000 in
set_option maxHeartbeats 4000000 in
theorem t_lp_X2_choice_193 {l : Launch} (a1 : Int32) (a2 : Int32) (v5 : Int32)  : ∀ (n20 : Nat) (v16 : Int32) (v17 : Int32) (v18 : Int32) (s19 : SS), RC l wF RX2 cX2_choice 9 (some .int) 4 193 [.ref 35, .int a1, .int a2, .null, .int v5, .int v16, .int v17, .int v18, .null] [] s19 (lp_X2_choice_193 a1 a2 v5 n20 v16 v17 v18 s19) := by
  intro n20
  induction n20 with
  | zero =>
    intro v16 v17 v18 s19
    rw [lp_X2_choice_193]
    exact r_none
  | succ n20 ih =>
    intro v16 v17 v18 s19
    rw [lp_X2_choice_193]
    refine r_iload (pc1 := 195) dX2_choice_193 rfl rfl ?_
    refine r_bipush (v := 8) (pc1 := 197) dX2_choice_195 kb_8 rfl ?_
    refine r_icmp_ge (tgt := 257) (pc1 := 200) dX2_choice_197 (by decide) rfl (fun q21 => ?_) (fun q21 => ?_)
    · refine r_iload (pc1 := 259) dX2_choice_257 rfl rfl ?_
      exact r_iret rfl rfl dX2_choice_259
    · refine r_iload (pc1 := 202) dX2_choice_200 rfl rfl ?_
      refine r_iload (pc1 := 204) dX2_choice_202 rfl rfl ?_
      refine r_ishr (pc1 := 205) dX2_choice_204 rfl ?_
      refine r_iconst (v := 1) (pc1 := 206) dX2_choice_205 ki_1 rfl ?_
      refine r_iand (pc1 := 207) dX2_choice_206 rfl ?_
      refine r_iconst (v := 1) (pc1 := 208) dX2_choice_207 ki_1 rfl ?_
      refine r_jn (hyp := fun (k24 : Int32 → SS → Res) => ∀ (v22 : Int32) (s23 : SS), RC l wF RX2 cX2_choice 9 (some .int) 4 234 [.ref 35, .int a1, .int a2, .null, .int v5, .int v16, .int v17, .int v18, .null] [.int v22] s23 (k24 v22 s23)) (fun v22 s23 => ?_) (fun k24 hk24 => ?_)
      · refine r_istore (pc1 := 236) dX2_choice_234 (by decide) rfl rfl rfl ?_
        refine r_iload (pc1 := 238) dX2_choice_236 rfl rfl ?_
        refine r_iload (pc1 := 240) dX2_choice_238 rfl rfl ?_
        refine r_jn (hyp := fun (k27 : Int32 → Int32 → Res) => ∀ (v25 : Int32) (v26 : Int32), RC l wF RX2 cX2_choice 9 (some .int) 4 251 [.ref 35, .int a1, .int a2, .null, .int v5, .int v25, .int v26, .int v18, .null] [] s23 (k27 v25 v26)) (fun v25 v26 => ?_) (fun k27 hk27 => ?_)
        · refine r_iinc (pc1 := 254) dX2_choice_251 rfl (kn_1 _) (by decide) rfl rfl rfl ?_
          refine r_goto (tgt := 193) dX2_choice_254 (by decide) ?_
          exact r_wk (ih v25 v26 (v18 + 1) s23) ⟨Or.inr rfl, Or.inr rfl, Or.inr rfl, Or.inl rfl, Or.inr rfl, Or.inr rfl, Or.inr rfl, Or.inr rfl, Or.inl rfl, trivial⟩
        · refine r_icmp_le (tgt := 251) (pc1 := 243) dX2_choice_240 (by decide) rfl (fun q28 => ?_) (fun q28 => ?_)
          · exact r_wk (hk27 v16 v17) ⟨Or.inr rfl, Or.inr rfl, Or.inr rfl, Or.inl rfl, Or.inr rfl, Or.inr rfl, Or.inr rfl, Or.inr rfl, Or.inl rfl, trivial⟩
          · refine r_iload (pc1 := 245) dX2_choice_243 rfl rfl ?_
            refine r_istore (pc1 := 247) dX2_choice_245 (by decide) rfl rfl rfl ?_
            refine r_iload (pc1 := 249) dX2_choice_247 rfl rfl ?_
            refine r_istore (pc1 := 251) dX2_choice_249 (by decide) rfl rfl rfl ?_
            exact r_wk (hk27 v18 v22) ⟨Or.inr rfl, Or.inr rfl, Or.inr rfl, Or.inl rfl, Or.inr rfl, Or.inr rfl, Or.inr rfl, Or.inr rfl, Or.inl rfl, trivial⟩
      · refine r_icmp_ne (tgt := 232) (pc1 := 211) dX2_choice_208 (by decide) rfl (fun q29 => ?_) (fun q29 => ?_)
        · refine r_aload_n (pc1 := 212) (i := 0) dX2_choice_211 rfl rfl rfl ?_
          refine r_getR (pc1 := 215) w_35 gfX2_29 rfl dX2_choice_212 rfl ?_
          refine r_aload_n (pc1 := 216) (i := 0) dX2_choice_215 rfl rfl rfl ?_
          refine r_getR (pc1 := 219) w_35 gfX2_25 rfl dX2_choice_216 rfl ?_
          refine r_iload_n (pc1 := 220) (i := 2) dX2_choice_219 rfl rfl rfl ?_
          refine r_iload (pc1 := 222) dX2_choice_220 rfl rfl ?_
          refine r_callVp (pc1 := 225) (rv_of w_3 cl_6) lkX2_67 (c_X6_behind w_3 w_4 w_5 w_6 w_7 w_8 _ _ _) rfl rfl ⟨Nat.le_of_ble_eq_true rfl, Nat.le_of_ble_eq_true rfl⟩ (Nat.le_of_ble_eq_true rfl) dX2_choice_222 rfl (fun v30 => ?_)
          refine r_iload_n (pc1 := 226) (i := 1) dX2_choice_225 rfl rfl rfl ?_
          refine r_callVi (pc1 := 229) (rv_of w_27 cl_10) lkX2_63 (c_X10_worthOf _ _ _) rfl rfl ⟨Nat.le_of_ble_eq_true rfl, Nat.le_of_ble_eq_true rfl⟩ (Nat.le_of_ble_eq_true rfl) dX2_choice_226 rfl (fun v31 s32 => ?_)
          refine r_goto (tgt := 234) dX2_choice_229 (by decide) ?_
          exact r_wk (hk24 v31 s32) ⟨Or.inr rfl, Or.inr rfl, Or.inr rfl, Or.inl rfl, Or.inr rfl, Or.inr rfl, Or.inr rfl, Or.inr rfl, Or.inl rfl, trivial⟩
        · refine r_ldc (v := (-1000000000)) (pc1 := 234) dX2_choice_232 cnX2_66 rfl ?_
          exact r_wk (hk24 ((-1000000000)) s19) ⟨Or.inr rfl, Or.inr rfl, Or.inr rfl, Or.inl rfl, Or.inr rfl, Or.inr rfl, Or.inr rfl, Or.inr rfl, Or.inl rfl, trivial⟩
set_option maxRecDepth 100000 in
set_option maxHeartbeats 4000000 in
theorem c_X2_choice {l : Launch} (a1 : Int32) (a2 : Int32) (s0 : SS) : Ct l wF yX2_choice cX2_choice 9 (some .int) 4 [.ref 35, .int a1, .int a2] s0 (f_X2_choice a1 a2 s0) := by
  refine ct_of (y := yX2_choice) plX2 (Nat.le_of_ble_eq_true rfl) ?_
  refine r_pad0 6 (L1 := [.ref 35, .int a1, .int a2, .null, .null, .null, .null, .null, .null]) rfl ?_
  unfold f_X2_choice
  refine r_iload_n (pc1 := 1) (i := 1) dX2_choice_0 rfl rfl rfl ?_
  refine r_callSNp (pc1 := 4) lkX2_33 (c_X11_isPerson _ _) rfl rfl ⟨Nat.le_of_ble_eq_true rfl, Nat.le_of_ble_eq_true rfl⟩ (Nat.le_of_ble_eq_true rfl) dX2_choice_1 rfl (fun v1 => ?_)
  refine r_jn (hyp := fun (k3 : Int32 → Res) => ∀ (v2 : Int32), RC l wF RX2 cX2_choice 9 (some .int) 4 17 [.ref 35, .int a1, .int a2, .null, .null, .null, .null, .null, .null] [.int v2] s0 (k3 v2)) (fun v2 => ?_) (fun k3 hk3 => ?_)
  · refine r_istore_n (pc1 := 18) (i := 3) dX2_choice_17 rfl (by decide) rfl rfl rfl ?_
    refine r_iload_n (pc1 := 19) (i := 3) dX2_choice_18 rfl rfl rfl ?_
    refine r_if_ne (tgt := 25) (pc1 := 22) dX2_choice_19 (by decide) rfl (fun q4 => ?_) (fun q4 => ?_)
    · refine r_bipush (v := 8) (pc1 := 24) dX2_choice_22 kb_8 rfl ?_
      exact r_iret rfl rfl dX2_choice_24
    · refine r_aload_n (pc1 := 26) (i := 0) dX2_choice_25 rfl rfl rfl ?_
      refine r_getR (pc1 := 29) w_35 gfX2_29 rfl dX2_choice_26 rfl ?_
      refine r_iload_n (pc1 := 30) (i := 2) dX2_choice_29 rfl rfl rfl ?_
      refine r_iload_n (pc1 := 31) (i := 1) dX2_choice_30 rfl rfl rfl ?_
      refine r_callVi (pc1 := 34) (rv_of w_27 cl_10) lkX2_43 (c_X10_mayOf _ _ _) rfl rfl ⟨Nat.le_of_ble_eq_true rfl, Nat.le_of_ble_eq_true rfl⟩ (Nat.le_of_ble_eq_true rfl) dX2_choice_31 rfl (fun v5 s6 => ?_)
      refine r_istore (pc1 := 36) dX2_choice_34 (by decide) rfl rfl rfl ?_
      refine r_iload_n (pc1 := 37) (i := 3) dX2_choice_36 rfl rfl rfl ?_
      refine r_iconst (v := 4) (pc1 := 38) dX2_choice_37 ki_4 rfl ?_
      refine r_icmp_ne (tgt := 82) (pc1 := 41) dX2_choice_38 (by decide) rfl (fun q7 => ?_) (fun q7 => ?_)
      · refine r_aload_n (pc1 := 42) (i := 0) dX2_choice_41 rfl rfl rfl ?_
        refine r_getR (pc1 := 45) w_35 gfX2_15 rfl dX2_choice_42 rfl ?_
        refine r_iload_n (pc1 := 46) (i := 1) dX2_choice_45 rfl rfl rfl ?_
        refine r_iald (pc1 := 47) w_37 dX2_choice_46 rfl ?_
        refine r_bipush (v := 7) (pc1 := 49) dX2_choice_47 kb_7 rfl ?_
        refine r_iand (pc1 := 50) dX2_choice_49 rfl ?_
        refine r_lt (fun v8 => ?_)
        refine r_istore (pc1 := 52) dX2_choice_50 (by decide) rfl rfl rfl ?_
        refine r_iload (pc1 := 54) dX2_choice_52 rfl rfl ?_
        refine r_aload_n (pc1 := 55) (i := 0) dX2_choice_54 rfl rfl rfl ?_
        refine r_getR (pc1 := 58) w_35 gfX2_25 rfl dX2_choice_55 rfl ?_
        refine r_iload_n (pc1 := 59) (i := 2) dX2_choice_58 rfl rfl rfl ?_
        refine r_callVp (pc1 := 62) (rv_of w_3 cl_6) lkX2_49 (c_X6_standingOn w_3 w_4 w_5 w_6 w_7 w_8 _ _) rfl rfl ⟨Nat.le_of_ble_eq_true rfl, Nat.le_of_ble_eq_true rfl⟩ (Nat.le_of_ble_eq_true rfl) dX2_choice_59 rfl (fun v9 => ?_)
        refine r_iconst (v := (-1)) (pc1 := 63) dX2_choice_62 ki_m1 rfl ?_
        refine r_ixor (pc1 := 64) dX2_choice_63 rfl ?_
        refine r_iand (pc1 := 65) dX2_choice_64 rfl ?_
        refine r_iload (pc1 := 67) dX2_choice_65 rfl rfl ?_
        refine r_ishr (pc1 := 68) dX2_choice_67 rfl ?_
        refine r_iconst (v := 1) (pc1 := 69) dX2_choice_68 ki_1 rfl ?_
        refine r_iand (pc1 := 70) dX2_choice_69 rfl ?_
        refine r_iconst (v := 1) (pc1 := 71) dX2_choice_70 ki_1 rfl ?_
        refine r_icmp_ne (tgt := 79) (pc1 := 74) dX2_choice_71 (by decide) rfl (fun q10 => ?_) (fun q10 => ?_)
        · refine r_iload (pc1 := 76) dX2_choice_74 rfl rfl ?_
          refine r_goto (tgt := 81) dX2_choice_76 (by decide) ?_
          exact r_iret rfl rfl dX2_choice_81
        · refine r_bipush (v := 8) (pc1 := 81) dX2_choice_79 kb_8 rfl ?_
          exact r_iret rfl rfl dX2_choice_81
      · refine r_iload_n (pc1 := 83) (i := 3) dX2_choice_82 rfl rfl rfl ?_
        refine r_iconst (v := 2) (pc1 := 84) dX2_choice_83 ki_2 rfl ?_
        refine r_jn (hyp := fun (k12 : SS → Res) => ∀ (s11 : SS), RC l wF RX2 cX2_choice 9 (some .int) 4 165 [.ref 35, .int a1, .int a2, .int v2, .int v5, .null, .null, .null, .null] [] s11 (k12 s11)) (fun s11 => ?_) (fun k12 hk12 => ?_)
        · refine r_bipush (v := 8) (pc1 := 167) dX2_choice_165 kb_8 rfl ?_
          refine r_istore (pc1 := 169) dX2_choice_167 (by decide) rfl rfl rfl ?_
          refine r_iload_n (pc1 := 170) (i := 3) dX2_choice_169 rfl rfl rfl ?_
          refine r_iconst (v := 1) (pc1 := 171) dX2_choice_170 ki_1 rfl ?_
          refine r_jn (hyp := fun (k15 : Int32 → SS → Res) => ∀ (v13 : Int32) (s14 : SS), RC l wF RX2 cX2_choice 9 (some .int) 4 188 [.ref 35, .int a1, .int a2, .null, .int v5, .int 8, .null, .null, .null] [.int v13] s14 (k15 v13 s14)) (fun v13 s14 => ?_) (fun k15 hk15 => ?_)
          · refine r_istore (pc1 := 190) dX2_choice_188 (by decide) rfl rfl rfl ?_
            refine r_iconst (v := 0) (pc1 := 191) dX2_choice_190 ki_0 rfl ?_
            refine r_istore (pc1 := 193) dX2_choice_191 (by decide) rfl rfl rfl ?_
            exact r_wk (t_lp_X2_choice_193 a1 a2 v5 FU 8 v13 0 s14) ⟨Or.inr rfl, Or.inr rfl, Or.inr rfl, Or.inl rfl, Or.inr rfl, Or.inr rfl, Or.inr rfl, Or.inr rfl, Or.inl rfl, trivial⟩
          · refine r_icmp_ne (tgt := 186) (pc1 := 174) dX2_choice_171 (by decide) rfl (fun q33 => ?_) (fun q33 => ?_)
            · refine r_aload_n (pc1 := 175) (i := 0) dX2_choice_174 rfl rfl rfl ?_
              refine r_getR (pc1 := 178) w_35 gfX2_29 rfl dX2_choice_175 rfl ?_
              refine r_iload_n (pc1 := 179) (i := 2) dX2_choice_178 rfl rfl rfl ?_
              refine r_iload_n (pc1 := 180) (i := 1) dX2_choice_179 rfl rfl rfl ?_
              refine r_callVi (pc1 := 183) (rv_of w_27 cl_10) lkX2_63 (c_X10_worthOf _ _ _) rfl rfl ⟨Nat.le_of_ble_eq_true rfl, Nat.le_of_ble_eq_true rfl⟩ (Nat.le_of_ble_eq_true rfl) dX2_choice_180 rfl (fun v34 s35 => ?_)
              refine r_goto (tgt := 188) dX2_choice_183 (by decide) ?_
              exact r_wk (hk15 v34 s35) ⟨Or.inr rfl, Or.inr rfl, Or.inr rfl, Or.inl rfl, Or.inr rfl, Or.inr rfl, Or.inl rfl, Or.inl rfl, Or.inl rfl, trivial⟩
            · refine r_ldc (v := (-1000000000)) (pc1 := 188) dX2_choice_186 cnX2_66 rfl ?_
              exact r_wk (hk15 ((-1000000000)) s11) ⟨Or.inr rfl, Or.inr rfl, Or.inr rfl, Or.inl rfl, Or.inr rfl, Or.inr rfl, Or.inl rfl, Or.inl rfl, Or.inl rfl, trivial⟩
        · refine r_jn (hyp := fun (k36 : Res) => RC l wF RX2 cX2_choice 9 (some .int) 4 92 [.ref 35, .int a1, .int a2, .int v2, .int v5, .null, .null, .null, .null] [] s6 k36) (?_) (fun k36 hk36 => ?_)
          · refine r_aload_n (pc1 := 93) (i := 0) dX2_choice_92 rfl rfl rfl ?_
            refine r_getR (pc1 := 96) w_35 gfX2_25 rfl dX2_choice_93 rfl ?_
            refine r_iload_n (pc1 := 97) (i := 2) dX2_choice_96 rfl rfl rfl ?_
            refine r_callVp (pc1 := 100) (rv_of w_3 cl_6) lkX2_54 (c_X6_isFull w_3 w_4 w_5 w_6 w_7 w_8 _ _) rfl rfl ⟨Nat.le_of_ble_eq_true rfl, Nat.le_of_ble_eq_true rfl⟩ (Nat.le_of_ble_eq_true rfl) dX2_choice_97 rfl (fun v37 => ?_)
            refine r_jn (hyp := fun (k40 : Int32 → SS → Res) => ∀ (v38 : Int32) (s39 : SS), RC l wF RX2 cX2_choice 9 (some .int) 4 116 [.ref 35, .int a1, .int a2, .int v2, .int v5, .null, .null, .null, .null] [.int v38] s39 (k40 v38 s39)) (fun v38 s39 => ?_) (fun k40 hk40 => ?_)
            · refine r_istore (pc1 := 118) dX2_choice_116 (by decide) rfl rfl rfl ?_
              refine r_aload_n (pc1 := 119) (i := 0) dX2_choice_118 rfl rfl rfl ?_
              refine r_getR (pc1 := 122) w_35 gfX2_25 rfl dX2_choice_119 rfl ?_
              refine r_iload_n (pc1 := 123) (i := 2) dX2_choice_122 rfl rfl rfl ?_
              refine r_callVp (pc1 := 126) (rv_of w_3 cl_6) lkX2_60 (c_X6_oldestOn w_3 w_4 w_5 w_6 w_7 w_8 _ _) rfl rfl ⟨Nat.le_of_ble_eq_true rfl, Nat.le_of_ble_eq_true rfl⟩ (Nat.le_of_ble_eq_true rfl) dX2_choice_123 rfl (fun v41 => ?_)
              refine r_istore (pc1 := 128) dX2_choice_126 (by decide) rfl rfl rfl ?_
              refine r_iload_n (pc1 := 129) (i := 3) dX2_choice_128 rfl rfl rfl ?_
              refine r_iconst (v := 2) (pc1 := 130) dX2_choice_129 ki_2 rfl ?_
              refine r_icmp_ne (tgt := 157) (pc1 := 133) dX2_choice_130 (by decide) rfl (fun q42 => ?_) (fun q42 => ?_)
              · refine r_iload (pc1 := 135) dX2_choice_133 rfl rfl ?_
                refine r_if_le (tgt := 154) (pc1 := 138) dX2_choice_135 (by decide) rfl (fun q43 => ?_) (fun q43 => ?_)
                · refine r_bipush (v := 8) (pc1 := 156) dX2_choice_154 kb_8 rfl ?_
                  exact r_iret rfl rfl dX2_choice_156
                · refine r_iload (pc1 := 140) dX2_choice_138 rfl rfl ?_
                  refine r_iload (pc1 := 142) dX2_choice_140 rfl rfl ?_
                  refine r_ishr (pc1 := 143) dX2_choice_142 rfl ?_
                  refine r_iconst (v := 1) (pc1 := 144) dX2_choice_143 ki_1 rfl ?_
                  refine r_iand (pc1 := 145) dX2_choice_144 rfl ?_
                  refine r_iconst (v := 1) (pc1 := 146) dX2_choice_145 ki_1 rfl ?_
                  refine r_icmp_ne (tgt := 154) (pc1 := 149) dX2_choice_146 (by decide) rfl (fun q44 => ?_) (fun q44 => ?_)
                  · refine r_iload (pc1 := 151) dX2_choice_149 rfl rfl ?_
                    refine r_goto (tgt := 156) dX2_choice_151 (by decide) ?_
                    exact r_iret rfl rfl dX2_choice_156
                  · refine r_bipush (v := 8) (pc1 := 156) dX2_choice_154 kb_8 rfl ?_
                    exact r_iret rfl rfl dX2_choice_156
              · refine r_iload (pc1 := 159) dX2_choice_157 rfl rfl ?_
                refine r_if_lt (tgt := 165) (pc1 := 162) dX2_choice_159 (by decide) rfl (fun q45 => ?_) (fun q45 => ?_)
                · exact r_wk (hk12 s39) ⟨Or.inr rfl, Or.inr rfl, Or.inr rfl, Or.inr rfl, Or.inr rfl, Or.inl rfl, Or.inl rfl, Or.inl rfl, Or.inl rfl, trivial⟩
                · refine r_bipush (v := 8) (pc1 := 164) dX2_choice_162 kb_8 rfl ?_
                  exact r_iret rfl rfl dX2_choice_164
            · refine r_if_eq (tgt := 115) (pc1 := 103) dX2_choice_100 (by decide) rfl (fun q46 => ?_) (fun q46 => ?_)
              · refine r_iconst (v := 0) (pc1 := 116) dX2_choice_115 ki_0 rfl ?_
                exact r_wk (hk40 0 s6) ⟨Or.inr rfl, Or.inr rfl, Or.inr rfl, Or.inr rfl, Or.inr rfl, Or.inl rfl, Or.inl rfl, Or.inl rfl, Or.inl rfl, trivial⟩
              · refine r_aload_n (pc1 := 104) (i := 0) dX2_choice_103 rfl rfl rfl ?_
                refine r_getR (pc1 := 107) w_35 gfX2_29 rfl dX2_choice_104 rfl ?_
                refine r_iload_n (pc1 := 108) (i := 2) dX2_choice_107 rfl rfl rfl ?_
                refine r_iload_n (pc1 := 109) (i := 1) dX2_choice_108 rfl rfl rfl ?_
                refine r_callVi (pc1 := 112) (rv_of w_27 cl_10) lkX2_57 (c_X10_valueOfOldest _ _ _) rfl rfl ⟨Nat.le_of_ble_eq_true rfl, Nat.le_of_ble_eq_true rfl⟩ (Nat.le_of_ble_eq_true rfl) dX2_choice_109 rfl (fun v47 s48 => ?_)
                refine r_goto (tgt := 116) dX2_choice_112 (by decide) ?_
                exact r_wk (hk40 v47 s48) ⟨Or.inr rfl, Or.inr rfl, Or.inr rfl, Or.inr rfl, Or.inr rfl, Or.inl rfl, Or.inl rfl, Or.inl rfl, Or.inl rfl, trivial⟩
          · refine r_icmp_eq (tgt := 92) (pc1 := 87) dX2_choice_84 (by decide) rfl (fun q49 => ?_) (fun q49 => ?_)
            · exact r_wk (hk36) ⟨Or.inr rfl, Or.inr rfl, Or.inr rfl, Or.inr rfl, Or.inr rfl, Or.inl rfl, Or.inl rfl, Or.inl rfl, Or.inl rfl, trivial⟩
            · refine r_iload_n (pc1 := 88) (i := 3) dX2_choice_87 rfl rfl rfl ?_
              refine r_iconst (v := 3) (pc1 := 89) dX2_choice_88 ki_3 rfl ?_
              refine r_icmp_ne (tgt := 165) (pc1 := 92) dX2_choice_89 (by decide) rfl (fun q50 => ?_) (fun q50 => ?_)
              · exact r_wk (hk36) ⟨Or.inr rfl, Or.inr rfl, Or.inr rfl, Or.inr rfl, Or.inr rfl, Or.inl rfl, Or.inl rfl, Or.inl rfl, Or.inl rfl, trivial⟩
              · exact r_wk (hk12 s6) ⟨Or.inr rfl, Or.inr rfl, Or.inr rfl, Or.inr rfl, Or.inr rfl, Or.inl rfl, Or.inl rfl, Or.inl rfl, Or.inl rfl, trivial⟩
  · refine r_if_eq (tgt := 16) (pc1 := 7) dX2_choice_4 (by decide) rfl (fun q51 => ?_) (fun q51 => ?_)
    · refine r_iconst (v := 0) (pc1 := 17) dX2_choice_16 ki_0 rfl ?_
      exact r_wk (hk3 0) ⟨Or.inr rfl, Or.inr rfl, Or.inr rfl, Or.inl rfl, Or.inl rfl, Or.inl rfl, Or.inl rfl, Or.inl rfl, Or.inl rfl, trivial⟩
    · refine r_aload_n (pc1 := 8) (i := 0) dX2_choice_7 rfl rfl rfl ?_
      refine r_getR (pc1 := 11) w_35 gfX2_9 rfl dX2_choice_8 rfl ?_
      refine r_iload_n (pc1 := 12) (i := 1) dX2_choice_11 rfl rfl rfl ?_
      refine r_iald (pc1 := 13) w_36 dX2_choice_12 rfl ?_
      refine r_goto (tgt := 17) dX2_choice_13 (by decide) ?_
      exact r_wk (hk3 (s0 36 (Int32.toNatClampNeg a1))) ⟨Or.inr rfl, Or.inr rfl, Or.inr rfl, Or.inl rfl, Or.inl rfl, Or.inl rfl, Or.inl rfl, Or.inl rfl, Or.inl rfl, trivial⟩
/-! f_X11_would -/
noncomputable def f_X11_would (a1 : Int32) (s0 : SS) : Res := bdp (f_X11_isPerson a1 s0) (fun (v1 : Int32) => if (v1 : Int32) = 0 then some ((-1), s0) else bd (f_X2_choice a1 (s0 52 0) s0) (fun (v3 : Int32) (s4 : SS) => some (v3, s4)))
set_option maxRecDepth 100000 in
set_option maxHeartbeats 4000000 in
theorem c_X11_would {l : Launch} (a1 : Int32) (s0 : SS) : Ct l wF yX11_would cX11_would 2 (some .int) 5 [.ref 0, .int a1] s0 (f_X11_would a1 s0) := by
  refine ct_of (y := yX11_would) plX11 (Nat.le_of_ble_eq_true rfl) ?_
  refine r_pad0 0 (L1 := [.ref 0, .int a1]) rfl ?_
  unfold f_X11_would
  refine r_iload_n (pc1 := 1) (i := 1) dX11_would_0 rfl rfl rfl ?_
  refine r_callSp (pc1 := 4) lkX11_142 (c_X11_isPerson _ _) rfl rfl ⟨Nat.le_of_ble_eq_true rfl, Nat.le_of_ble_eq_true rfl⟩ (Nat.le_of_ble_eq_true rfl) dX11_would_1 rfl (fun v1 => ?_)
  refine r_if_eq (tgt := 25) (pc1 := 7) dX11_would_4 (by decide) rfl (fun q2 => ?_) (fun q2 => ?_)
  · refine r_iconst (v := (-1)) (pc1 := 26) dX11_would_25 ki_m1 rfl ?_
    exact r_iret rfl rfl dX11_would_26
  · refine r_aload_n (pc1 := 8) (i := 0) dX11_would_7 rfl rfl rfl ?_
    refine r_getR (pc1 := 11) w_0 gfX11_51 rfl dX11_would_8 rfl ?_
    refine r_iload_n (pc1 := 12) (i := 1) dX11_would_11 rfl rfl rfl ?_
    refine r_aload_n (pc1 := 13) (i := 0) dX11_would_12 rfl rfl rfl ?_
    refine r_getR (pc1 := 16) w_0 gfX11_88 rfl dX11_would_13 rfl ?_
    refine r_getI (pc1 := 19) w_52 gfX11_122 rfl dX11_would_16 rfl ?_
    refine r_callVi (pc1 := 22) (rv_of w_35 cl_2) lkX11_192 (c_X2_choice _ _ _) rfl rfl ⟨Nat.le_of_ble_eq_true rfl, Nat.le_of_ble_eq_true rfl⟩ (Nat.le_of_ble_eq_true rfl) dX11_would_19 rfl (fun v3 s4 => ?_)
    refine r_goto (tgt := 26) dX11_would_22 (by decide) ?_
    exact r_iret rfl rfl dX11_would_26
/-! f_X11_run -/
noncomputable def lp_X11_run_77 (a1 : Int32) (a2 : Int32) (k13 : Int32 → Int32 → Int32 → SS → Res) : Nat → Int32 → Int32 → Int32 → Int32 → Int32 → SS → Res
  | 0, _, _, _, _, _, _ => none
  | n23 + 1, v17, v18, v19, v20, v21, s22 => if (a1 : Int32) ≤ (v21 : Int32) then k13 v17 v19 v20 s22 else bdp (f_X2_onTurn v18 s22) (fun (v25 : Int32) => bd (f_X2_choice v25 v17 s22) (fun (v26 : Int32) (s27 : SS) => bdp (f_X6_behind v17 v26 s27) (fun (v28 : Int32) => bdp (f_X2_placeAfter v18 s27) (fun (v29 : Int32) => jn (fun (v30 : Int32) => lt (v20 + v30) (fun (v32 : Int32) => jn (fun (v33 : Int32) (s34 : SS) => lt (v19 + v33) (fun (v36 : Int32) => lp_X11_run_77 a1 a2 k13 n23 v28 v29 v36 v32 (v21 + 1) s34)) (fun (k35 : Int32 → SS → Res) => if (3 : Int32) < (a2 : Int32) then k35 0 s27 else bd (f_X10_worthOf v28 a2 s27) (fun (v38 : Int32) (s39 : SS) => k35 v38 s39)))) (fun (k31 : Int32 → Res) => if (v26 : Int32) = (8 : Int32) then k31 0 else k31 1)))))
noncomputable def f_X11_run (a1 : Int32) (a2 : Int32) (s0 : SS) : Res := bdp (f_X11_within a2 3 s0) (fun (v1 : Int32) => jn (fun (v2 : Int32) => if (a1 : Int32) < (1 : Int32) then some ((-1000000), s0) else if (60 : Int32) < (a1 : Int32) then some ((-1000000), s0) else if (v2 : Int32) = 0 then some ((-1000000), s0) else lt (s0 52 0) (fun (v7 : Int32) => lt (s0 52 1) (fun (v8 : Int32) => jn (fun (v9 : Int32) (v10 : Int32) (v11 : Int32) (s12 : SS) => if (a2 : Int32) = (20 : Int32) then some (v11, s12) else if (3 : Int32) < (a2 : Int32) then bdp (f_X6_lawOn v9 (a2 - 10) s12) (fun (v16 : Int32) => some (v16, s12)) else some (v10, s12)) (fun (k13 : Int32 → Int32 → Int32 → SS → Res) => lp_X11_run_77 a1 a2 k13 FU v7 v8 0 0 0 s0)))) (fun (k3 : Int32 → Res) => jn (k3 1) (fun (k41 : Res) => if (v1 : Int32) = 0 then jn (if (a2 : Int32) = (20 : Int32) then k41 else k3 0) (fun (k43 : Res) => if (a2 : Int32) < (10 : Int32) then k43 else if (a2 : Int32) ≤ (13 : Int32) then k41 else k43) else k41)))
set_option maxRecDepth 100000 in
set_option maxHeartbeats 4000000 in
theorem t_lp_X11_run_77 {l : Launch} (a1 : Int32) (a2 : Int32) (k13 : Int32 → Int32 → Int32 → SS → Res) (hk13 : ∀ (v9 : Int32) (v10 : Int32) (v11 : Int32) (s12 : SS), RC l wF RX11 cX11_run 10 (some .int) 5 174 [.ref 0, .null, .int a2, .null, .int v9, .null, .int v10, .int v11, .null, .null] [] s12 (k13 v9 v10 v11 s12)) : ∀ (n23 : Nat) (v17 : Int32) (v18 : Int32) (v19 : Int32) (v20 : Int32) (v21 : Int32) (s22 : SS), RC l wF RX11 cX11_run 10 (some .int) 5 77 [.ref 0, .int a1, .int a2, .null, .int v17, .int v18, .int v19, .int v20, .int v21, .null] [] s22 (lp_X11_run_77 a1 a2 k13 n23 v17 v18 v19 v20 v21 s22) := by
  intro n23
  induction n23 with
  | zero =>
    intro v17 v18 v19 v20 v21 s22
    rw [lp_X11_run_77]
    exact r_none
  | succ n23 ih =>
    intro v17 v18 v19 v20 v21 s22
    rw [lp_X11_run_77]
    refine r_iload (pc1 := 79) dX11_run_77 rfl rfl ?_
    refine r_iload_n (pc1 := 80) (i := 1) dX11_run_79 rfl rfl rfl ?_
    refine r_icmp_ge (tgt := 174) (pc1 := 83) dX11_run_80 (by decide) rfl (fun q24 => ?_) (fun q24 => ?_)
    · exact r_wk (hk13 v17 v19 v20 s22) ⟨Or.inr rfl, Or.inl rfl, Or.inr rfl, Or.inl rfl, Or.inr rfl, Or.inl rfl, Or.inr rfl, Or.inr rfl, Or.inl rfl, Or.inl rfl, trivial⟩
    · refine r_aload_n (pc1 := 84) (i := 0) dX11_run_83 rfl rfl rfl ?_
      refine r_getR (pc1 := 87) w_0 gfX11_51 rfl dX11_run_84 rfl ?_
      refine r_aload_n (pc1 := 88) (i := 0) dX11_run_87 rfl rfl rfl ?_
      refine r_getR (pc1 := 91) w_0 gfX11_51 rfl dX11_run_88 rfl ?_
      refine r_iload (pc1 := 93) dX11_run_91 rfl rfl ?_
      refine r_callVp (pc1 := 96) (rv_of w_35 cl_2) lkX11_198 (c_X2_onTurn _ _) rfl rfl ⟨Nat.le_of_ble_eq_true rfl, Nat.le_of_ble_eq_true rfl⟩ (Nat.le_of_ble_eq_true rfl) dX11_run_93 rfl (fun v25 => ?_)
      refine r_iload (pc1 := 98) dX11_run_96 rfl rfl ?_
      refine r_callVi (pc1 := 101) (rv_of w_35 cl_2) lkX11_192 (c_X2_choice _ _ _) rfl rfl ⟨Nat.le_of_ble_eq_true rfl, Nat.le_of_ble_eq_true rfl⟩ (Nat.le_of_ble_eq_true rfl) dX11_run_98 rfl (fun v26 s27 => ?_)
      refine r_istore (pc1 := 103) dX11_run_101 (by decide) rfl rfl rfl ?_
      refine r_aload_n (pc1 := 104) (i := 0) dX11_run_103 rfl rfl rfl ?_
      refine r_getR (pc1 := 107) w_0 gfX11_19 rfl dX11_run_104 rfl ?_
      refine r_iload (pc1 := 109) dX11_run_107 rfl rfl ?_
      refine r_iload (pc1 := 111) dX11_run_109 rfl rfl ?_
      refine r_callVp (pc1 := 114) (rv_of w_3 cl_6) lkX11_214 (c_X6_behind w_3 w_4 w_5 w_6 w_7 w_8 _ _ _) rfl rfl ⟨Nat.le_of_ble_eq_true rfl, Nat.le_of_ble_eq_true rfl⟩ (Nat.le_of_ble_eq_true rfl) dX11_run_111 rfl (fun v28 => ?_)
      refine r_istore (pc1 := 116) dX11_run_114 (by decide) rfl rfl rfl ?_
      refine r_aload_n (pc1 := 117) (i := 0) dX11_run_116 rfl rfl rfl ?_
      refine r_getR (pc1 := 120) w_0 gfX11_51 rfl dX11_run_117 rfl ?_
      refine r_iload (pc1 := 122) dX11_run_120 rfl rfl ?_
      refine r_callVp (pc1 := 125) (rv_of w_35 cl_2) lkX11_220 (c_X2_placeAfter _ _) rfl rfl ⟨Nat.le_of_ble_eq_true rfl, Nat.le_of_ble_eq_true rfl⟩ (Nat.le_of_ble_eq_true rfl) dX11_run_122 rfl (fun v29 => ?_)
      refine r_istore (pc1 := 127) dX11_run_125 (by decide) rfl rfl rfl ?_
      refine r_iload (pc1 := 129) dX11_run_127 rfl rfl ?_
      refine r_iload (pc1 := 131) dX11_run_129 rfl rfl ?_
      refine r_bipush (v := 8) (pc1 := 133) dX11_run_131 kb_8 rfl ?_
      refine r_jn (hyp := fun (k31 : Int32 → Res) => ∀ (v30 : Int32), RC l wF RX11 cX11_run 10 (some .int) 5 141 [.ref 0, .int a1, .int a2, .null, .int v28, .int v29, .int v19, .null, .int v21, .null] [.int v30, .int v20] s27 (k31 v30)) (fun v30 => ?_) (fun k31 hk31 => ?_)
      · refine r_iadd (pc1 := 142) dX11_run_141 rfl ?_
        refine r_lt (fun v32 => ?_)
        refine r_istore (pc1 := 144) dX11_run_142 (by decide) rfl rfl rfl ?_
        refine r_iload (pc1 := 146) dX11_run_144 rfl rfl ?_
        refine r_iload_n (pc1 := 147) (i := 2) dX11_run_146 rfl rfl rfl ?_
        refine r_iconst (v := 3) (pc1 := 148) dX11_run_147 ki_3 rfl ?_
        refine r_jn (hyp := fun (k35 : Int32 → SS → Res) => ∀ (v33 : Int32) (s34 : SS), RC l wF RX11 cX11_run 10 (some .int) 5 165 [.ref 0, .int a1, .int a2, .null, .int v28, .int v29, .null, .int v32, .int v21, .null] [.int v33, .int v19] s34 (k35 v33 s34)) (fun v33 s34 => ?_) (fun k35 hk35 => ?_)
        · refine r_iadd (pc1 := 166) dX11_run_165 rfl ?_
          refine r_lt (fun v36 => ?_)
          refine r_istore (pc1 := 168) dX11_run_166 (by decide) rfl rfl rfl ?_
          refine r_iinc (pc1 := 171) dX11_run_168 rfl (kn_1 _) (by decide) rfl rfl rfl ?_
          refine r_goto (tgt := 77) dX11_run_171 (by decide) ?_
          exact r_wk (ih v28 v29 v36 v32 (v21 + 1) s34) ⟨Or.inr rfl, Or.inr rfl, Or.inr rfl, Or.inl rfl, Or.inr rfl, Or.inr rfl, Or.inr rfl, Or.inr rfl, Or.inr rfl, Or.inl rfl, trivial⟩
        · refine r_icmp_gt (tgt := 164) (pc1 := 151) dX11_run_148 (by decide) rfl (fun q37 => ?_) (fun q37 => ?_)
          · refine r_iconst (v := 0) (pc1 := 165) dX11_run_164 ki_0 rfl ?_
            exact r_wk (hk35 0 s27) ⟨Or.inr rfl, Or.inr rfl, Or.inr rfl, Or.inl rfl, Or.inr rfl, Or.inr rfl, Or.inl rfl, Or.inr rfl, Or.inr rfl, Or.inl rfl, trivial⟩
          · refine r_aload_n (pc1 := 152) (i := 0) dX11_run_151 rfl rfl rfl ?_
            refine r_getR (pc1 := 155) w_0 gfX11_42 rfl dX11_run_152 rfl ?_
            refine r_iload (pc1 := 157) dX11_run_155 rfl rfl ?_
            refine r_iload_n (pc1 := 158) (i := 2) dX11_run_157 rfl rfl rfl ?_
            refine r_callVi (pc1 := 161) (rv_of w_27 cl_10) lkX11_188 (c_X10_worthOf _ _ _) rfl rfl ⟨Nat.le_of_ble_eq_true rfl, Nat.le_of_ble_eq_true rfl⟩ (Nat.le_of_ble_eq_true rfl) dX11_run_158 rfl (fun v38 s39 => ?_)
            refine r_goto (tgt := 165) dX11_run_161 (by decide) ?_
            exact r_wk (hk35 v38 s39) ⟨Or.inr rfl, Or.inr rfl, Or.inr rfl, Or.inl rfl, Or.inr rfl, Or.inr rfl, Or.inl rfl, Or.inr rfl, Or.inr rfl, Or.inl rfl, trivial⟩
      · refine r_icmp_ne (tgt := 140) (pc1 := 136) dX11_run_133 (by decide) rfl (fun q40 => ?_) (fun q40 => ?_)
        · refine r_iconst (v := 0) (pc1 := 137) dX11_run_136 ki_0 rfl ?_
          refine r_goto (tgt := 141) dX11_run_137 (by decide) ?_
          exact r_wk (hk31 0) ⟨Or.inr rfl, Or.inr rfl, Or.inr rfl, Or.inl rfl, Or.inr rfl, Or.inr rfl, Or.inr rfl, Or.inl rfl, Or.inr rfl, Or.inl rfl, trivial⟩
        · refine r_iconst (v := 1) (pc1 := 141) dX11_run_140 ki_1 rfl ?_
          exact r_wk (hk31 1) ⟨Or.inr rfl, Or.inr rfl, Or.inr rfl, Or.inl rfl, Or.inr rfl, Or.inr rfl, Or.inr rfl, Or.inl rfl, Or.inr rfl, Or.inl rfl, trivial⟩
set_option maxRecDepth 100000 in
set_option maxHeartbeats 4000000 in
theorem c_X11_run {l : Launch} (a1 : Int32) (a2 : Int32) (s0 : SS) : Ct l wF yX11_run cX11_run 10 (some .int) 5 [.ref 0, .int a1, .int a2] s0 (f_X11_run a1 a2 s0) := by
  refine ct_of (y := yX11_run) plX11 (Nat.le_of_ble_eq_true rfl) ?_
  refine r_pad0 7 (L1 := [.ref 0, .int a1, .int a2, .null, .null, .null, .null, .null, .null, .null]) rfl ?_
  unfold f_X11_run
  refine r_iload_n (pc1 := 1) (i := 2) dX11_run_0 rfl rfl rfl ?_
  refine r_iconst (v := 3) (pc1 := 2) dX11_run_1 ki_3 rfl ?_
  refine r_callSp (pc1 := 5) lkX11_102 (c_X11_within _ _ _) rfl rfl ⟨Nat.le_of_ble_eq_true rfl, Nat.le_of_ble_eq_true rfl⟩ (Nat.le_of_ble_eq_true rfl) dX11_run_2 rfl (fun v1 => ?_)
  refine r_jn (hyp := fun (k3 : Int32 → Res) => ∀ (v2 : Int32), RC l wF RX11 cX11_run 10 (some .int) 5 31 [.ref 0, .int a1, .int a2, .null, .null, .null, .null, .null, .null, .null] [.int v2] s0 (k3 v2)) (fun v2 => ?_) (fun k3 hk3 => ?_)
  · refine r_istore_n (pc1 := 32) (i := 3) dX11_run_31 rfl (by decide) rfl rfl rfl ?_
    refine r_iload_n (pc1 := 33) (i := 1) dX11_run_32 rfl rfl rfl ?_
    refine r_iconst (v := 1) (pc1 := 34) dX11_run_33 ki_1 rfl ?_
    refine r_icmp_lt (tgt := 47) (pc1 := 37) dX11_run_34 (by decide) rfl (fun q4 => ?_) (fun q4 => ?_)
    · refine r_ldc (v := (-1000000)) (pc1 := 49) dX11_run_47 cnX11_191 rfl ?_
      exact r_iret rfl rfl dX11_run_49
    · refine r_iload_n (pc1 := 38) (i := 1) dX11_run_37 rfl rfl rfl ?_
      refine r_bipush (v := 60) (pc1 := 40) dX11_run_38 kb_60 rfl ?_
      refine r_icmp_gt (tgt := 47) (pc1 := 43) dX11_run_40 (by decide) rfl (fun q5 => ?_) (fun q5 => ?_)
      · refine r_ldc (v := (-1000000)) (pc1 := 49) dX11_run_47 cnX11_191 rfl ?_
        exact r_iret rfl rfl dX11_run_49
      · refine r_iload_n (pc1 := 44) (i := 3) dX11_run_43 rfl rfl rfl ?_
        refine r_if_ne (tgt := 50) (pc1 := 47) dX11_run_44 (by decide) rfl (fun q6 => ?_) (fun q6 => ?_)
        · refine r_ldc (v := (-1000000)) (pc1 := 49) dX11_run_47 cnX11_191 rfl ?_
          exact r_iret rfl rfl dX11_run_49
        · refine r_aload_n (pc1 := 51) (i := 0) dX11_run_50 rfl rfl rfl ?_
          refine r_getR (pc1 := 54) w_0 gfX11_88 rfl dX11_run_51 rfl ?_
          refine r_getI (pc1 := 57) w_52 gfX11_122 rfl dX11_run_54 rfl ?_
          refine r_lt (fun v7 => ?_)
          refine r_istore (pc1 := 59) dX11_run_57 (by decide) rfl rfl rfl ?_
          refine r_aload_n (pc1 := 60) (i := 0) dX11_run_59 rfl rfl rfl ?_
          refine r_getR (pc1 := 63) w_0 gfX11_88 rfl dX11_run_60 rfl ?_
          refine r_getI (pc1 := 66) w_52 gfX11_139 rfl dX11_run_63 rfl ?_
          refine r_lt (fun v8 => ?_)
          refine r_istore (pc1 := 68) dX11_run_66 (by decide) rfl rfl rfl ?_
          refine r_iconst (v := 0) (pc1 := 69) dX11_run_68 ki_0 rfl ?_
          refine r_istore (pc1 := 71) dX11_run_69 (by decide) rfl rfl rfl ?_
          refine r_iconst (v := 0) (pc1 := 72) dX11_run_71 ki_0 rfl ?_
          refine r_istore (pc1 := 74) dX11_run_72 (by decide) rfl rfl rfl ?_
          refine r_iconst (v := 0) (pc1 := 75) dX11_run_74 ki_0 rfl ?_
          refine r_istore (pc1 := 77) dX11_run_75 (by decide) rfl rfl rfl ?_
          refine r_jn (hyp := fun (k13 : Int32 → Int32 → Int32 → SS → Res) => ∀ (v9 : Int32) (v10 : Int32) (v11 : Int32) (s12 : SS), RC l wF RX11 cX11_run 10 (some .int) 5 174 [.ref 0, .null, .int a2, .null, .int v9, .null, .int v10, .int v11, .null, .null] [] s12 (k13 v9 v10 v11 s12)) (fun v9 v10 v11 s12 => ?_) (fun k13 hk13 => ?_)
          · refine r_iload_n (pc1 := 175) (i := 2) dX11_run_174 rfl rfl rfl ?_
            refine r_bipush (v := 20) (pc1 := 177) dX11_run_175 kb_20 rfl ?_
            refine r_icmp_ne (tgt := 183) (pc1 := 180) dX11_run_177 (by decide) rfl (fun q14 => ?_) (fun q14 => ?_)
            · refine r_iload (pc1 := 182) dX11_run_180 rfl rfl ?_
              exact r_iret rfl rfl dX11_run_182
            · refine r_iload_n (pc1 := 184) (i := 2) dX11_run_183 rfl rfl rfl ?_
              refine r_iconst (v := 3) (pc1 := 185) dX11_run_184 ki_3 rfl ?_
              refine r_icmp_gt (tgt := 193) (pc1 := 188) dX11_run_185 (by decide) rfl (fun q15 => ?_) (fun q15 => ?_)
              · refine r_aload_n (pc1 := 194) (i := 0) dX11_run_193 rfl rfl rfl ?_
                refine r_getR (pc1 := 197) w_0 gfX11_19 rfl dX11_run_194 rfl ?_
                refine r_iload (pc1 := 199) dX11_run_197 rfl rfl ?_
                refine r_iload_n (pc1 := 200) (i := 2) dX11_run_199 rfl rfl rfl ?_
                refine r_bipush (v := 10) (pc1 := 202) dX11_run_200 kb_10 rfl ?_
                refine r_isub (pc1 := 203) dX11_run_202 rfl ?_
                refine r_callVp (pc1 := 206) (rv_of w_3 cl_6) lkX11_182 (c_X6_lawOn w_3 w_4 w_5 w_6 w_7 w_8 _ _ _) rfl rfl ⟨Nat.le_of_ble_eq_true rfl, Nat.le_of_ble_eq_true rfl⟩ (Nat.le_of_ble_eq_true rfl) dX11_run_203 rfl (fun v16 => ?_)
                exact r_iret rfl rfl dX11_run_206
              · refine r_iload (pc1 := 190) dX11_run_188 rfl rfl ?_
                refine r_goto (tgt := 206) dX11_run_190 (by decide) ?_
                exact r_iret rfl rfl dX11_run_206
          · exact r_wk (t_lp_X11_run_77 a1 a2 k13 hk13 FU v7 v8 0 0 0 s0) ⟨Or.inr rfl, Or.inr rfl, Or.inr rfl, Or.inl rfl, Or.inr rfl, Or.inr rfl, Or.inr rfl, Or.inr rfl, Or.inr rfl, Or.inl rfl, trivial⟩
  · refine r_jn (hyp := fun (k41 : Res) => RC l wF RX11 cX11_run 10 (some .int) 5 26 [.ref 0, .int a1, .int a2, .null, .null, .null, .null, .null, .null, .null] [] s0 k41) (?_) (fun k41 hk41 => ?_)
    · refine r_iconst (v := 1) (pc1 := 27) dX11_run_26 ki_1 rfl ?_
      refine r_goto (tgt := 31) dX11_run_27 (by decide) ?_
      exact r_wk (hk3 1) ⟨Or.inr rfl, Or.inr rfl, Or.inr rfl, Or.inl rfl, Or.inl rfl, Or.inl rfl, Or.inl rfl, Or.inl rfl, Or.inl rfl, Or.inl rfl, trivial⟩
    · refine r_if_ne (tgt := 26) (pc1 := 8) dX11_run_5 (by decide) rfl (fun q42 => ?_) (fun q42 => ?_)
      · refine r_iload_n (pc1 := 9) (i := 2) dX11_run_8 rfl rfl rfl ?_
        refine r_bipush (v := 10) (pc1 := 11) dX11_run_9 kb_10 rfl ?_
        refine r_jn (hyp := fun (k43 : Res) => RC l wF RX11 cX11_run 10 (some .int) 5 20 [.ref 0, .int a1, .int a2, .null, .null, .null, .null, .null, .null, .null] [] s0 k43) (?_) (fun k43 hk43 => ?_)
        · refine r_iload_n (pc1 := 21) (i := 2) dX11_run_20 rfl rfl rfl ?_
          refine r_bipush (v := 20) (pc1 := 23) dX11_run_21 kb_20 rfl ?_
          refine r_icmp_ne (tgt := 30) (pc1 := 26) dX11_run_23 (by decide) rfl (fun q44 => ?_) (fun q44 => ?_)
          · exact r_wk (hk41) ⟨Or.inr rfl, Or.inr rfl, Or.inr rfl, Or.inl rfl, Or.inl rfl, Or.inl rfl, Or.inl rfl, Or.inl rfl, Or.inl rfl, Or.inl rfl, trivial⟩
          · refine r_iconst (v := 0) (pc1 := 31) dX11_run_30 ki_0 rfl ?_
            exact r_wk (hk3 0) ⟨Or.inr rfl, Or.inr rfl, Or.inr rfl, Or.inl rfl, Or.inl rfl, Or.inl rfl, Or.inl rfl, Or.inl rfl, Or.inl rfl, Or.inl rfl, trivial⟩
        · refine r_icmp_lt (tgt := 20) (pc1 := 14) dX11_run_11 (by decide) rfl (fun q45 => ?_) (fun q45 => ?_)
          · exact r_wk (hk43) ⟨Or.inr rfl, Or.inr rfl, Or.inr rfl, Or.inl rfl, Or.inl rfl, Or.inl rfl, Or.inl rfl, Or.inl rfl, Or.inl rfl, Or.inl rfl, trivial⟩
          · refine r_iload_n (pc1 := 15) (i := 2) dX11_run_14 rfl rfl rfl ?_
            refine r_bipush (v := 13) (pc1 := 17) dX11_run_15 kb_13 rfl ?_
            refine r_icmp_le (tgt := 26) (pc1 := 20) dX11_run_17 (by decide) rfl (fun q46 => ?_) (fun q46 => ?_)
            · exact r_wk (hk41) ⟨Or.inr rfl, Or.inr rfl, Or.inr rfl, Or.inl rfl, Or.inl rfl, Or.inl rfl, Or.inl rfl, Or.inl rfl, Or.inl rfl, Or.inl rfl, trivial⟩
            · exact r_wk (hk43) ⟨Or.inr rfl, Or.inr rfl, Or.inr rfl, Or.inl rfl, Or.inl rfl, Or.inl rfl, Or.inl rfl, Or.inl rfl, Or.inl rfl, Or.inl rfl, trivial⟩
      · exact r_wk (hk41) ⟨Or.inr rfl, Or.inr rfl, Or.inr rfl, Or.inl rfl, Or.inl rfl, Or.inl rfl, Or.inl rfl, Or.inl rfl, Or.inl rfl, Or.inl rfl, trivial⟩
/-! f_J7_rangeCheck_23922 -/
noncomputable def f_J7_rangeCheck_23922 (a1 : Int32) (a2 : Int32) (a3 : Int32) (s0 : SS) : Res := if (a2 : Int32) ≤ (a3 : Int32) then if (0 : Int32) ≤ a2 then if (a3 : Int32) ≤ (a1 : Int32) then some (0, s0) else none else none else none
set_option maxRecDepth 100000 in
set_option maxHeartbeats 4000000 in
theorem c_J7_rangeCheck_23922 {l : Launch} (a1 : Int32) (a2 : Int32) (a3 : Int32) (s0 : SS) : Ct l wF yJ7_rangeCheck_23922 cJ7_rangeCheck_23922 3 none 0 [.int a1, .int a2, .int a3] s0 (f_J7_rangeCheck_23922 a1 a2 a3 s0) := by
  refine ct_of (y := yJ7_rangeCheck_23922) plJ7 (Nat.le_of_ble_eq_true rfl) ?_
  refine r_pad0 0 (L1 := [.int a1, .int a2, .int a3]) rfl ?_
  unfold f_J7_rangeCheck_23922
  refine r_iload_n (pc1 := 1) (i := 1) dJ7_rangeCheck_23922_0 rfl rfl rfl ?_
  refine r_iload_n (pc1 := 2) (i := 2) dJ7_rangeCheck_23922_1 rfl rfl rfl ?_
  refine r_icmp_le (tgt := 46) (pc1 := 5) dJ7_rangeCheck_23922_2 (by decide) rfl (fun q1 => ?_) (fun q1 => ?_)
  · refine r_iload_n (pc1 := 47) (i := 1) dJ7_rangeCheck_23922_46 rfl rfl rfl ?_
    refine r_if_ge (tgt := 59) (pc1 := 50) dJ7_rangeCheck_23922_47 (by decide) rfl (fun q2 => ?_) (fun q2 => ?_)
    · refine r_iload_n (pc1 := 60) (i := 2) dJ7_rangeCheck_23922_59 rfl rfl rfl ?_
      refine r_iload_n (pc1 := 61) (i := 0) dJ7_rangeCheck_23922_60 rfl rfl rfl ?_
      refine r_icmp_le (tgt := 73) (pc1 := 64) dJ7_rangeCheck_23922_61 (by decide) rfl (fun q3 => ?_) (fun q3 => ?_)
      · exact r_vret rfl dJ7_rangeCheck_23922_73
      · exact r_none
    · exact r_none
  · exact r_none
/-! f_J7_fill_fda19_40 -/
noncomputable def lp_J7_fill_fda19_40_10 (a2 : Int32) (a3 : Int32) : Nat → Int32 → SS → Res
  | 0, _, _ => none
  | n5 + 1, v3, s4 => if (a2 : Int32) ≤ (v3 : Int32) then some (0, s4) else gd (inb v3 21392) (lts (up s4 40 (Int32.toNatClampNeg v3) a3) (fun (s7 : SS) => lp_J7_fill_fda19_40_10 a2 a3 n5 (v3 + 1) s7))
noncomputable def f_J7_fill_fda19_40 (a1 : Int32) (a2 : Int32) (a3 : Int32) (s0 : SS) : Res := bd (f_J7_rangeCheck_23922 21392 a1 a2 s0) (fun (v1 : Int32) (s2 : SS) => lp_J7_fill_fda19_40_10 a2 a3 FU a1 s2)
set_option maxRecDepth 100000 in
set_option maxHeartbeats 4000000 in
theorem t_lp_J7_fill_fda19_40_10 {l : Launch} (a2 : Int32) (a3 : Int32)  : ∀ (n5 : Nat) (v3 : Int32) (s4 : SS), RC l wF RJ7 cJ7_fill_fda19 5 none 1 10 [.ref 40, .null, .int a2, .int a3, .int v3] [] s4 (lp_J7_fill_fda19_40_10 a2 a3 n5 v3 s4) := by
  intro n5
  induction n5 with
  | zero =>
    intro v3 s4
    rw [lp_J7_fill_fda19_40_10]
    exact r_none
  | succ n5 ih =>
    intro v3 s4
    rw [lp_J7_fill_fda19_40_10]
    refine r_iload (pc1 := 12) dJ7_fill_fda19_10 rfl rfl ?_
    refine r_iload_n (pc1 := 13) (i := 2) dJ7_fill_fda19_12 rfl rfl rfl ?_
    refine r_icmp_ge (tgt := 27) (pc1 := 16) dJ7_fill_fda19_13 (by decide) rfl (fun q6 => ?_) (fun q6 => ?_)
    · exact r_vret rfl dJ7_fill_fda19_27
    · refine r_aload_n (pc1 := 17) (i := 0) dJ7_fill_fda19_16 rfl rfl rfl ?_
      refine r_iload (pc1 := 19) dJ7_fill_fda19_17 rfl rfl ?_
      refine r_iload_n (pc1 := 20) (i := 3) dJ7_fill_fda19_19 rfl rfl rfl ?_
      refine r_iast (pc1 := 21) w_40 dJ7_fill_fda19_20 rfl ?_
      refine r_lts (fun s7 => ?_)
      refine r_iinc (pc1 := 24) dJ7_fill_fda19_21 rfl (kn_1 _) (by decide) rfl rfl rfl ?_
      refine r_goto (tgt := 10) dJ7_fill_fda19_24 (by decide) ?_
      exact r_wk (ih (v3 + 1) s7) ⟨Or.inr rfl, Or.inl rfl, Or.inr rfl, Or.inr rfl, Or.inr rfl, trivial⟩
set_option maxRecDepth 100000 in
set_option maxHeartbeats 4000000 in
theorem c_J7_fill_fda19_40 {l : Launch} (a1 : Int32) (a2 : Int32) (a3 : Int32) (s0 : SS) : Ct l wF yJ7_fill_fda19 cJ7_fill_fda19 5 none 1 [.ref 40, .int a1, .int a2, .int a3] s0 (f_J7_fill_fda19_40 a1 a2 a3 s0) := by
  refine ct_of (y := yJ7_fill_fda19) plJ7 (Nat.le_of_ble_eq_true rfl) ?_
  refine r_pad0 1 (L1 := [.ref 40, .int a1, .int a2, .int a3, .null]) rfl ?_
  unfold f_J7_fill_fda19_40
  refine r_aload_n (pc1 := 1) (i := 0) dJ7_fill_fda19_0 rfl rfl rfl ?_
  refine r_alen (t := 0) (v := 21392) (pc1 := 2) w_40 (fun _ => rfl) (al_21392) dJ7_fill_fda19_1 rfl ?_
  refine r_iload_n (pc1 := 3) (i := 1) dJ7_fill_fda19_2 rfl rfl rfl ?_
  refine r_iload_n (pc1 := 4) (i := 2) dJ7_fill_fda19_3 rfl rfl rfl ?_
  refine r_callSv (pc1 := 7) lkJ7_13 (c_J7_rangeCheck_23922 _ _ _ _) rfl rfl ⟨Nat.le_of_ble_eq_true rfl, Nat.le_of_ble_eq_true rfl⟩ (Nat.le_of_ble_eq_true rfl) dJ7_fill_fda19_4 rfl (fun v1 s2 => ?_)
  refine r_iload_n (pc1 := 8) (i := 1) dJ7_fill_fda19_7 rfl rfl rfl ?_
  refine r_istore (pc1 := 10) dJ7_fill_fda19_8 (by decide) rfl rfl rfl ?_
  exact r_wk (t_lp_J7_fill_fda19_40_10 a2 a3 FU a1 s2) ⟨Or.inr rfl, Or.inl rfl, Or.inr rfl, Or.inr rfl, Or.inr rfl, trivial⟩
/-! f_X5_goOn -/
noncomputable def f_X5_goOn  (s0 : SS) : Res := bdp (f_X2_onTurn (s0 39 7) s0) (fun (v1 : Int32) => bd (f_X2_choice v1 (s0 39 6) s0) (fun (v2 : Int32) (s3 : SS) => bdp (f_X6_behind (s3 39 6) v2 s3) (fun (v4 : Int32) => lts (up s3 39 6 v4) (fun (s5 : SS) => bdp (f_X2_placeAfter (s5 39 7) s5) (fun (v6 : Int32) => lts (up s5 39 7 v6) (fun (s7 : SS) => some (0, s7)))))))
set_option maxRecDepth 100000 in
set_option maxHeartbeats 4000000 in
theorem c_X5_goOn {l : Launch}  (s0 : SS) : Ct l wF yX5_goOn cX5_goOn 2 none 5 [.ref 39] s0 (f_X5_goOn s0) := by
  refine ct_of (y := yX5_goOn) plX5 (Nat.le_of_ble_eq_true rfl) ?_
  refine r_pad0 1 (L1 := [.ref 39, .null]) rfl ?_
  unfold f_X5_goOn
  refine r_aload_n (pc1 := 1) (i := 0) dX5_goOn_0 rfl rfl rfl ?_
  refine r_getR (pc1 := 4) w_39 gfX5_29 rfl dX5_goOn_1 rfl ?_
  refine r_aload_n (pc1 := 5) (i := 0) dX5_goOn_4 rfl rfl rfl ?_
  refine r_getR (pc1 := 8) w_39 gfX5_29 rfl dX5_goOn_5 rfl ?_
  refine r_aload_n (pc1 := 9) (i := 0) dX5_goOn_8 rfl rfl rfl ?_
  refine r_getI (pc1 := 12) w_39 gfX5_53 rfl dX5_goOn_9 rfl ?_
  refine r_callVp (pc1 := 15) (rv_of w_35 cl_2) lkX5_65 (c_X2_onTurn _ _) rfl rfl ⟨Nat.le_of_ble_eq_true rfl, Nat.le_of_ble_eq_true rfl⟩ (Nat.le_of_ble_eq_true rfl) dX5_goOn_12 rfl (fun v1 => ?_)
  refine r_aload_n (pc1 := 16) (i := 0) dX5_goOn_15 rfl rfl rfl ?_
  refine r_getI (pc1 := 19) w_39 gfX5_50 rfl dX5_goOn_16 rfl ?_
  refine r_callVi (pc1 := 22) (rv_of w_35 cl_2) lkX5_70 (c_X2_choice _ _ _) rfl rfl ⟨Nat.le_of_ble_eq_true rfl, Nat.le_of_ble_eq_true rfl⟩ (Nat.le_of_ble_eq_true rfl) dX5_goOn_19 rfl (fun v2 s3 => ?_)
  refine r_istore_n (pc1 := 23) (i := 1) dX5_goOn_22 rfl (by decide) rfl rfl rfl ?_
  refine r_aload_n (pc1 := 24) (i := 0) dX5_goOn_23 rfl rfl rfl ?_
  refine r_aload_n (pc1 := 25) (i := 0) dX5_goOn_24 rfl rfl rfl ?_
  refine r_getR (pc1 := 28) w_39 gfX5_21 rfl dX5_goOn_25 rfl ?_
  refine r_aload_n (pc1 := 29) (i := 0) dX5_goOn_28 rfl rfl rfl ?_
  refine r_getI (pc1 := 32) w_39 gfX5_50 rfl dX5_goOn_29 rfl ?_
  refine r_iload_n (pc1 := 33) (i := 1) dX5_goOn_32 rfl rfl rfl ?_
  refine r_callVp (pc1 := 36) (rv_of w_3 cl_6) lkX5_73 (c_X6_behind w_3 w_4 w_5 w_6 w_7 w_8 _ _ _) rfl rfl ⟨Nat.le_of_ble_eq_true rfl, Nat.le_of_ble_eq_true rfl⟩ (Nat.le_of_ble_eq_true rfl) dX5_goOn_33 rfl (fun v4 => ?_)
  refine r_putI (pc1 := 39) w_39 pfX5_50 rfl ⟨rfl, rfl⟩ dX5_goOn_36 rfl ?_
  refine r_lts (fun s5 => ?_)
  refine r_aload_n (pc1 := 40) (i := 0) dX5_goOn_39 rfl rfl rfl ?_
  refine r_aload_n (pc1 := 41) (i := 0) dX5_goOn_40 rfl rfl rfl ?_
  refine r_getR (pc1 := 44) w_39 gfX5_29 rfl dX5_goOn_41 rfl ?_
  refine r_aload_n (pc1 := 45) (i := 0) dX5_goOn_44 rfl rfl rfl ?_
  refine r_getI (pc1 := 48) w_39 gfX5_53 rfl dX5_goOn_45 rfl ?_
  refine r_callVp (pc1 := 51) (rv_of w_35 cl_2) lkX5_76 (c_X2_placeAfter _ _) rfl rfl ⟨Nat.le_of_ble_eq_true rfl, Nat.le_of_ble_eq_true rfl⟩ (Nat.le_of_ble_eq_true rfl) dX5_goOn_48 rfl (fun v6 => ?_)
  refine r_putI (pc1 := 54) w_39 pfX5_53 rfl ⟨rfl, rfl⟩ dX5_goOn_51 rfl ?_
  refine r_lts (fun s7 => ?_)
  exact r_vret rfl dX5_goOn_54
/-! f_X5_find -/
noncomputable def lp_X5_find_55 (k13 : Int32 → Int32 → SS → Res) : Nat → Int32 → SS → Res
  | 0, _, _ => none
  | n19 + 1, v17, s18 => if (21392 : Int32) < (v17 : Int32) then some (0, s18) else lt (((s18 39 6) * 4) + (s18 39 7)) (fun (v21 : Int32) => if (v21 : Int32) < 0 then some (0, s18) else if (v21 : Int32) < (21392 : Int32) then gd (inb v21 21392) (if (s18 40 (Int32.toNatClampNeg v21) : Int32) = ((-1000000000) : Int32) then gd (inb v21 21392) (lts (up s18 40 (Int32.toNatClampNeg v21) v17) (fun (s25 : SS) => bd (f_X5_goOn s25) (fun (v26 : Int32) (s27 : SS) => lp_X5_find_55 k13 n19 (v17 + 1) s27))) else k13 v17 v21 s18) else some (0, s18))
noncomputable def f_X5_find (a1 : Int32) (a2 : Int32) (s0 : SS) : Res := bdp (f_X6_lengthOf a1 s0) (fun (v1 : Int32) => bdp (f_X6_bareOf v1 s0) (fun (v2 : Int32) => bdp (f_X6_bareOf (v1 + 1) s0) (fun (v3 : Int32) => bd (f_J7_fill_fda19_40 (v2 * 4) (v3 * 4) ((-1000000000)) s0) (fun (v4 : Int32) (s5 : SS) => lts (up s5 39 4 0) (fun (s6 : SS) => lts (up s6 39 5 1) (fun (s7 : SS) => lts (up s7 39 6 a1) (fun (s8 : SS) => lts (up s8 39 7 a2) (fun (s9 : SS) => jn (fun (v10 : Int32) (v11 : Int32) (s12 : SS) => gd (inb v11 21392) (lts (up s12 39 4 (s12 40 (Int32.toNatClampNeg v11))) (fun (s14 : SS) => lt (if (1 : Int32) < (v10 - (s14 39 4) : Int32) then v10 - (s14 39 4) else 1) (fun (v15 : Int32) => lts (up s14 39 5 v15) (fun (s16 : SS) => some (0, s16)))))) (fun (k13 : Int32 → Int32 → SS → Res) => lp_X5_find_55 k13 FU 0 s9)))))))))
set_option maxRecDepth 100000 in
set_option maxHeartbeats 4000000 in
theorem t_lp_X5_find_55 {l : Launch} (k13 : Int32 → Int32 → SS → Res) (hk13 : ∀ (v10 : Int32) (v11 : Int32) (s12 : SS), RC l wF RX5 cX5_find 6 none 6 106 [.ref 39, .null, .null, .null, .int v10, .int v11] [] s12 (k13 v10 v11 s12)) : ∀ (n19 : Nat) (v17 : Int32) (s18 : SS), RC l wF RX5 cX5_find 6 none 6 55 [.ref 39, .null, .null, .null, .int v17, .null] [] s18 (lp_X5_find_55 k13 n19 v17 s18) := by
  intro n19
  induction n19 with
  | zero =>
    intro v17 s18
    rw [lp_X5_find_55]
    exact r_none
  | succ n19 ih =>
    intro v17 s18
    rw [lp_X5_find_55]
    refine r_iload (pc1 := 57) dX5_find_55 rfl rfl ?_
    refine r_aload_n (pc1 := 58) (i := 0) dX5_find_57 rfl rfl rfl ?_
    refine r_getR (pc1 := 61) w_39 gfX5_11 rfl dX5_find_58 rfl ?_
    refine r_alen (t := 0) (v := 21392) (pc1 := 62) w_40 (fun _ => rfl) (al_21392) dX5_find_61 rfl ?_
    refine r_icmp_gt (tgt := 152) (pc1 := 65) dX5_find_62 (by decide) rfl (fun q20 => ?_) (fun q20 => ?_)
    · exact r_vret rfl dX5_find_152
    · refine r_aload_n (pc1 := 66) (i := 0) dX5_find_65 rfl rfl rfl ?_
      refine r_getI (pc1 := 69) w_39 gfX5_50 rfl dX5_find_66 rfl ?_
      refine r_iconst (v := 4) (pc1 := 70) dX5_find_69 ki_4 rfl ?_
      refine r_imul (pc1 := 71) dX5_find_70 rfl ?_
      refine r_aload_n (pc1 := 72) (i := 0) dX5_find_71 rfl rfl rfl ?_
      refine r_getI (pc1 := 75) w_39 gfX5_53 rfl dX5_find_72 rfl ?_
      refine r_iadd (pc1 := 76) dX5_find_75 rfl ?_
      refine r_lt (fun v21 => ?_)
      refine r_istore (pc1 := 78) dX5_find_76 (by decide) rfl rfl rfl ?_
      refine r_iload (pc1 := 80) dX5_find_78 rfl rfl ?_
      refine r_if_lt (tgt := 93) (pc1 := 83) dX5_find_80 (by decide) rfl (fun q22 => ?_) (fun q22 => ?_)
      · exact r_vret rfl dX5_find_93
      · refine r_iload (pc1 := 85) dX5_find_83 rfl rfl ?_
        refine r_aload_n (pc1 := 86) (i := 0) dX5_find_85 rfl rfl rfl ?_
        refine r_getR (pc1 := 89) w_39 gfX5_11 rfl dX5_find_86 rfl ?_
        refine r_alen (t := 0) (v := 21392) (pc1 := 90) w_40 (fun _ => rfl) (al_21392) dX5_find_89 rfl ?_
        refine r_icmp_lt (tgt := 94) (pc1 := 93) dX5_find_90 (by decide) rfl (fun q23 => ?_) (fun q23 => ?_)
        · refine r_aload_n (pc1 := 95) (i := 0) dX5_find_94 rfl rfl rfl ?_
          refine r_getR (pc1 := 98) w_39 gfX5_11 rfl dX5_find_95 rfl ?_
          refine r_iload (pc1 := 100) dX5_find_98 rfl rfl ?_
          refine r_iald (pc1 := 101) w_40 dX5_find_100 rfl ?_
          refine r_ldc (v := (-1000000000)) (pc1 := 103) dX5_find_101 cnX5_40 rfl ?_
          refine r_icmp_eq (tgt := 133) (pc1 := 106) dX5_find_103 (by decide) rfl (fun q24 => ?_) (fun q24 => ?_)
          · refine r_aload_n (pc1 := 134) (i := 0) dX5_find_133 rfl rfl rfl ?_
            refine r_getR (pc1 := 137) w_39 gfX5_11 rfl dX5_find_134 rfl ?_
            refine r_iload (pc1 := 139) dX5_find_137 rfl rfl ?_
            refine r_iload (pc1 := 141) dX5_find_139 rfl rfl ?_
            refine r_iast (pc1 := 142) w_40 dX5_find_141 rfl ?_
            refine r_lts (fun s25 => ?_)
            refine r_aload_n (pc1 := 143) (i := 0) dX5_find_142 rfl rfl rfl ?_
            refine r_callVv (pc1 := 146) (rv_of w_39 cl_5) lkX5_62 (c_X5_goOn _) rfl rfl ⟨Nat.le_of_ble_eq_true rfl, Nat.le_of_ble_eq_true rfl⟩ (Nat.le_of_ble_eq_true rfl) dX5_find_143 rfl (fun v26 s27 => ?_)
            refine r_iinc (pc1 := 149) dX5_find_146 rfl (kn_1 _) (by decide) rfl rfl rfl ?_
            refine r_goto (tgt := 55) dX5_find_149 (by decide) ?_
            exact r_wk (ih (v17 + 1) s27) ⟨Or.inr rfl, Or.inl rfl, Or.inl rfl, Or.inl rfl, Or.inr rfl, Or.inl rfl, trivial⟩
          · exact r_wk (hk13 v17 v21 s18) ⟨Or.inr rfl, Or.inl rfl, Or.inl rfl, Or.inl rfl, Or.inr rfl, Or.inr rfl, trivial⟩
        · exact r_vret rfl dX5_find_93
set_option maxRecDepth 100000 in
set_option maxHeartbeats 4000000 in
theorem c_X5_find {l : Launch} (a1 : Int32) (a2 : Int32) (s0 : SS) : Ct l wF yX5_find cX5_find 6 none 6 [.ref 39, .int a1, .int a2] s0 (f_X5_find a1 a2 s0) := by
  refine ct_of (y := yX5_find) plX5 (Nat.le_of_ble_eq_true rfl) ?_
  refine r_pad0 3 (L1 := [.ref 39, .int a1, .int a2, .null, .null, .null]) rfl ?_
  unfold f_X5_find
  refine r_aload_n (pc1 := 1) (i := 0) dX5_find_0 rfl rfl rfl ?_
  refine r_getR (pc1 := 4) w_39 gfX5_21 rfl dX5_find_1 rfl ?_
  refine r_iload_n (pc1 := 5) (i := 1) dX5_find_4 rfl rfl rfl ?_
  refine r_callVp (pc1 := 8) (rv_of w_3 cl_6) lkX5_33 (c_X6_lengthOf w_3 w_4 w_5 w_6 w_7 w_8 _ _) rfl rfl ⟨Nat.le_of_ble_eq_true rfl, Nat.le_of_ble_eq_true rfl⟩ (Nat.le_of_ble_eq_true rfl) dX5_find_5 rfl (fun v1 => ?_)
  refine r_istore_n (pc1 := 9) (i := 3) dX5_find_8 rfl (by decide) rfl rfl rfl ?_
  refine r_aload_n (pc1 := 10) (i := 0) dX5_find_9 rfl rfl rfl ?_
  refine r_getR (pc1 := 13) w_39 gfX5_11 rfl dX5_find_10 rfl ?_
  refine r_iload_n (pc1 := 14) (i := 3) dX5_find_13 rfl rfl rfl ?_
  refine r_callSp (pc1 := 17) lkX5_37 (c_X6_bareOf w_3 w_4 w_5 w_6 w_7 w_8 _ _) rfl rfl ⟨Nat.le_of_ble_eq_true rfl, Nat.le_of_ble_eq_true rfl⟩ (Nat.le_of_ble_eq_true rfl) dX5_find_14 rfl (fun v2 => ?_)
  refine r_iconst (v := 4) (pc1 := 18) dX5_find_17 ki_4 rfl ?_
  refine r_imul (pc1 := 19) dX5_find_18 rfl ?_
  refine r_iload_n (pc1 := 20) (i := 3) dX5_find_19 rfl rfl rfl ?_
  refine r_iconst (v := 1) (pc1 := 21) dX5_find_20 ki_1 rfl ?_
  refine r_iadd (pc1 := 22) dX5_find_21 rfl ?_
  refine r_callSp (pc1 := 25) lkX5_37 (c_X6_bareOf w_3 w_4 w_5 w_6 w_7 w_8 _ _) rfl rfl ⟨Nat.le_of_ble_eq_true rfl, Nat.le_of_ble_eq_true rfl⟩ (Nat.le_of_ble_eq_true rfl) dX5_find_22 rfl (fun v3 => ?_)
  refine r_iconst (v := 4) (pc1 := 26) dX5_find_25 ki_4 rfl ?_
  refine r_imul (pc1 := 27) dX5_find_26 rfl ?_
  refine r_ldc (v := (-1000000000)) (pc1 := 29) dX5_find_27 cnX5_40 rfl ?_
  refine r_callSv (pc1 := 32) lkX5_41 (c_J7_fill_fda19_40 _ _ _ _) rfl rfl ⟨Nat.le_of_ble_eq_true rfl, Nat.le_of_ble_eq_true rfl⟩ (Nat.le_of_ble_eq_true rfl) dX5_find_29 rfl (fun v4 s5 => ?_)
  refine r_aload_n (pc1 := 33) (i := 0) dX5_find_32 rfl rfl rfl ?_
  refine r_iconst (v := 0) (pc1 := 34) dX5_find_33 ki_0 rfl ?_
  refine r_putI (pc1 := 37) w_39 pfX5_47 rfl ⟨rfl, rfl⟩ dX5_find_34 rfl ?_
  refine r_lts (fun s6 => ?_)
  refine r_aload_n (pc1 := 38) (i := 0) dX5_find_37 rfl rfl rfl ?_
  refine r_iconst (v := 1) (pc1 := 39) dX5_find_38 ki_1 rfl ?_
  refine r_putI (pc1 := 42) w_39 pfX5_17 rfl ⟨rfl, rfl⟩ dX5_find_39 rfl ?_
  refine r_lts (fun s7 => ?_)
  refine r_aload_n (pc1 := 43) (i := 0) dX5_find_42 rfl rfl rfl ?_
  refine r_iload_n (pc1 := 44) (i := 1) dX5_find_43 rfl rfl rfl ?_
  refine r_putI (pc1 := 47) w_39 pfX5_50 rfl ⟨rfl, rfl⟩ dX5_find_44 rfl ?_
  refine r_lts (fun s8 => ?_)
  refine r_aload_n (pc1 := 48) (i := 0) dX5_find_47 rfl rfl rfl ?_
  refine r_iload_n (pc1 := 49) (i := 2) dX5_find_48 rfl rfl rfl ?_
  refine r_putI (pc1 := 52) w_39 pfX5_53 rfl ⟨rfl, rfl⟩ dX5_find_49 rfl ?_
  refine r_lts (fun s9 => ?_)
  refine r_iconst (v := 0) (pc1 := 53) dX5_find_52 ki_0 rfl ?_
  refine r_istore (pc1 := 55) dX5_find_53 (by decide) rfl rfl rfl ?_
  refine r_jn (hyp := fun (k13 : Int32 → Int32 → SS → Res) => ∀ (v10 : Int32) (v11 : Int32) (s12 : SS), RC l wF RX5 cX5_find 6 none 6 106 [.ref 39, .null, .null, .null, .int v10, .int v11] [] s12 (k13 v10 v11 s12)) (fun v10 v11 s12 => ?_) (fun k13 hk13 => ?_)
  · refine r_aload_n (pc1 := 107) (i := 0) dX5_find_106 rfl rfl rfl ?_
    refine r_aload_n (pc1 := 108) (i := 0) dX5_find_107 rfl rfl rfl ?_
    refine r_getR (pc1 := 111) w_39 gfX5_11 rfl dX5_find_108 rfl ?_
    refine r_iload (pc1 := 113) dX5_find_111 rfl rfl ?_
    refine r_iald (pc1 := 114) w_40 dX5_find_113 rfl ?_
    refine r_putI (pc1 := 117) w_39 pfX5_47 rfl ⟨rfl, rfl⟩ dX5_find_114 rfl ?_
    refine r_lts (fun s14 => ?_)
    refine r_aload_n (pc1 := 118) (i := 0) dX5_find_117 rfl rfl rfl ?_
    refine r_iconst (v := 1) (pc1 := 119) dX5_find_118 ki_1 rfl ?_
    refine r_iload (pc1 := 121) dX5_find_119 rfl rfl ?_
    refine r_aload_n (pc1 := 122) (i := 0) dX5_find_121 rfl rfl rfl ?_
    refine r_getI (pc1 := 125) w_39 gfX5_47 rfl dX5_find_122 rfl ?_
    refine r_isub (pc1 := 126) dX5_find_125 rfl ?_
    refine r_mmax (pc1 := 129) mlX5_56 (by omega) dX5_find_126 rfl (Nat.le_of_ble_eq_true rfl) ?_
    refine r_lt (fun v15 => ?_)
    refine r_putI (pc1 := 132) w_39 pfX5_17 rfl ⟨rfl, rfl⟩ dX5_find_129 rfl ?_
    refine r_lts (fun s16 => ?_)
    exact r_vret rfl dX5_find_132
  · exact r_wk (t_lp_X5_find_55 k13 hk13 FU 0 s9) ⟨Or.inr rfl, Or.inl rfl, Or.inl rfl, Or.inl rfl, Or.inr rfl, Or.inl rfl, trivial⟩
/-! f_X5_sumOf -/
noncomputable def lp_X5_sumOf_4 (a1 : Int32) : Nat → Int32 → Int32 → SS → Res
  | 0, _, _, _ => none
  | n4 + 1, v1, v2, s3 => if (s3 39 5 : Int32) ≤ (v2 : Int32) then some (v1, s3) else bd (f_X5_goOn s3) (fun (v6 : Int32) (s7 : SS) => bd (f_X10_worthOf (s7 39 6) a1 s7) (fun (v8 : Int32) (s9 : SS) => lt (v1 + v8) (fun (v10 : Int32) => lp_X5_sumOf_4 a1 n4 v10 (v2 + 1) s9)))
noncomputable def f_X5_sumOf (a1 : Int32) (s0 : SS) : Res := lp_X5_sumOf_4 a1 FU 0 0 s0
set_option maxRecDepth 100000 in
set_option maxHeartbeats 4000000 in
theorem t_lp_X5_sumOf_4 {l : Launch} (a1 : Int32)  : ∀ (n4 : Nat) (v1 : Int32) (v2 : Int32) (s3 : SS), RC l wF RX5 cX5_sumOf 4 (some .int) 6 4 [.ref 39, .int a1, .int v1, .int v2] [] s3 (lp_X5_sumOf_4 a1 n4 v1 v2 s3) := by
  intro n4
  induction n4 with
  | zero =>
    intro v1 v2 s3
    rw [lp_X5_sumOf_4]
    exact r_none
  | succ n4 ih =>
    intro v1 v2 s3
    rw [lp_X5_sumOf_4]
    refine r_iload_n (pc1 := 5) (i := 3) dX5_sumOf_4 rfl rfl rfl ?_
    refine r_aload_n (pc1 := 6) (i := 0) dX5_sumOf_5 rfl rfl rfl ?_
    refine r_getI (pc1 := 9) w_39 gfX5_17 rfl dX5_sumOf_6 rfl ?_
    refine r_icmp_ge (tgt := 37) (pc1 := 12) dX5_sumOf_9 (by decide) rfl (fun q5 => ?_) (fun q5 => ?_)
    · refine r_iload_n (pc1 := 38) (i := 2) dX5_sumOf_37 rfl rfl rfl ?_
      exact r_iret rfl rfl dX5_sumOf_38
    · refine r_aload_n (pc1 := 13) (i := 0) dX5_sumOf_12 rfl rfl rfl ?_
      refine r_callVv (pc1 := 16) (rv_of w_39 cl_5) lkX5_62 (c_X5_goOn _) rfl rfl ⟨Nat.le_of_ble_eq_true rfl, Nat.le_of_ble_eq_true rfl⟩ (Nat.le_of_ble_eq_true rfl) dX5_sumOf_13 rfl (fun v6 s7 => ?_)
      refine r_iload_n (pc1 := 17) (i := 2) dX5_sumOf_16 rfl rfl rfl ?_
      refine r_aload_n (pc1 := 18) (i := 0) dX5_sumOf_17 rfl rfl rfl ?_
      refine r_getR (pc1 := 21) w_39 gfX5_25 rfl dX5_sumOf_18 rfl ?_
      refine r_aload_n (pc1 := 22) (i := 0) dX5_sumOf_21 rfl rfl rfl ?_
      refine r_getI (pc1 := 25) w_39 gfX5_50 rfl dX5_sumOf_22 rfl ?_
      refine r_iload_n (pc1 := 26) (i := 1) dX5_sumOf_25 rfl rfl rfl ?_
      refine r_callVi (pc1 := 29) (rv_of w_27 cl_10) lkX5_79 (c_X10_worthOf _ _ _) rfl rfl ⟨Nat.le_of_ble_eq_true rfl, Nat.le_of_ble_eq_true rfl⟩ (Nat.le_of_ble_eq_true rfl) dX5_sumOf_26 rfl (fun v8 s9 => ?_)
      refine r_iadd (pc1 := 30) dX5_sumOf_29 rfl ?_
      refine r_lt (fun v10 => ?_)
      refine r_istore_n (pc1 := 31) (i := 2) dX5_sumOf_30 rfl (by decide) rfl rfl rfl ?_
      refine r_iinc (pc1 := 34) dX5_sumOf_31 rfl (kn_1 _) (by decide) rfl rfl rfl ?_
      refine r_goto (tgt := 4) dX5_sumOf_34 (by decide) ?_
      exact r_wk (ih v10 (v2 + 1) s9) ⟨Or.inr rfl, Or.inr rfl, Or.inr rfl, Or.inr rfl, trivial⟩
set_option maxRecDepth 100000 in
set_option maxHeartbeats 4000000 in
theorem c_X5_sumOf {l : Launch} (a1 : Int32) (s0 : SS) : Ct l wF yX5_sumOf cX5_sumOf 4 (some .int) 6 [.ref 39, .int a1] s0 (f_X5_sumOf a1 s0) := by
  refine ct_of (y := yX5_sumOf) plX5 (Nat.le_of_ble_eq_true rfl) ?_
  refine r_pad0 2 (L1 := [.ref 39, .int a1, .null, .null]) rfl ?_
  unfold f_X5_sumOf
  refine r_iconst (v := 0) (pc1 := 1) dX5_sumOf_0 ki_0 rfl ?_
  refine r_istore_n (pc1 := 2) (i := 2) dX5_sumOf_1 rfl (by decide) rfl rfl rfl ?_
  refine r_iconst (v := 0) (pc1 := 3) dX5_sumOf_2 ki_0 rfl ?_
  refine r_istore_n (pc1 := 4) (i := 3) dX5_sumOf_3 rfl (by decide) rfl rfl rfl ?_
  exact r_wk (t_lp_X5_sumOf_4 a1 FU 0 0 s0) ⟨Or.inr rfl, Or.inr rfl, Or.inr rfl, Or.inr rfl, trivial⟩
