theorem dX12_mayMake_0 : decode cX12_mayMake 0 = .ok (.iconst 0, 1) := by decide +kernel
theorem dX12_mayMake_1 : decode cX12_mayMake 1 = .ok (.istore_n 3, 1) := by decide +kernel
theorem dX12_mayMake_2 : decode cX12_mayMake 2 = .ok (.iload_n 3, 1) := by decide +kernel
theorem dX12_mayMake_3 : decode cX12_mayMake 3 = .ok (.aload_n 0, 1) := by decide +kernel
theorem dX12_mayMake_4 : decode cX12_mayMake 4 = .ok (.getfield 144, 3) := by decide +kernel
theorem dX12_mayMake_7 : decode cX12_mayMake 7 = .ok (.if_icmp .ge 48, 3) := by decide +kernel
theorem dX12_mayMake_10 : decode cX12_mayMake 10 = .ok (.aload_n 0, 1) := by decide +kernel
theorem dX12_mayMake_11 : decode cX12_mayMake 11 = .ok (.getfield 332, 3) := by decide +kernel
theorem dX12_mayMake_14 : decode cX12_mayMake 14 = .ok (.iload_n 3, 1) := by decide +kernel
theorem dX12_mayMake_15 : decode cX12_mayMake 15 = .ok (.invokestatic 335, 3) := by decide +kernel
theorem dX12_mayMake_18 : decode cX12_mayMake 18 = .ok (.ifCond .eq 31, 3) := by decide +kernel
theorem dX12_mayMake_21 : decode cX12_mayMake 21 = .ok (.aload_n 0, 1) := by decide +kernel
theorem dX12_mayMake_22 : decode cX12_mayMake 22 = .ok (.getfield 30, 3) := by decide +kernel
theorem dX12_mayMake_25 : decode cX12_mayMake 25 = .ok (.iload_n 3, 1) := by decide +kernel
theorem dX12_mayMake_26 : decode cX12_mayMake 26 = .ok (.iaload, 1) := by decide +kernel
theorem dX12_mayMake_27 : decode cX12_mayMake 27 = .ok (.iload_n 1, 1) := by decide +kernel
theorem dX12_mayMake_28 : decode cX12_mayMake 28 = .ok (.invokestatic 335, 3) := by decide +kernel
theorem dX12_mayMake_31 : decode cX12_mayMake 31 = .ok (.ifCond .ne 16, 3) := by decide +kernel
theorem dX12_mayMake_34 : decode cX12_mayMake 34 = .ok (.aload_n 0, 1) := by decide +kernel
theorem dX12_mayMake_35 : decode cX12_mayMake 35 = .ok (.getfield 33, 3) := by decide +kernel
theorem dX12_mayMake_38 : decode cX12_mayMake 38 = .ok (.iload_n 3, 1) := by decide +kernel
theorem dX12_mayMake_39 : decode cX12_mayMake 39 = .ok (.iaload, 1) := by decide +kernel
theorem dX12_mayMake_40 : decode cX12_mayMake 40 = .ok (.iload_n 2, 1) := by decide +kernel
theorem dX12_mayMake_41 : decode cX12_mayMake 41 = .ok (.invokestatic 335, 3) := by decide +kernel
theorem dX12_mayMake_44 : decode cX12_mayMake 44 = .ok (.ifCond .eq 5, 3) := by decide +kernel
theorem dX12_mayMake_47 : decode cX12_mayMake 47 = .ok (.iconst 0, 1) := by decide +kernel
theorem dX12_mayMake_48 : decode cX12_mayMake 48 = .ok (.ireturn, 1) := by decide +kernel
theorem dX12_mayMake_49 : decode cX12_mayMake 49 = .ok (.iinc 3 1, 3) := by decide +kernel
theorem dX12_mayMake_52 : decode cX12_mayMake 52 = .ok (.goto (-50), 3) := by decide +kernel
theorem dX12_mayMake_55 : decode cX12_mayMake 55 = .ok (.aload_n 0, 1) := by decide +kernel
theorem dX12_mayMake_56 : decode cX12_mayMake 56 = .ok (.iload_n 1, 1) := by decide +kernel
theorem dX12_mayMake_57 : decode cX12_mayMake 57 = .ok (.putfield 291, 3) := by decide +kernel
theorem dX12_mayMake_60 : decode cX12_mayMake 60 = .ok (.aload_n 0, 1) := by decide +kernel
theorem dX12_mayMake_61 : decode cX12_mayMake 61 = .ok (.iload_n 2, 1) := by decide +kernel
theorem dX12_mayMake_62 : decode cX12_mayMake 62 = .ok (.putfield 294, 3) := by decide +kernel
theorem dX12_mayMake_65 : decode cX12_mayMake 65 = .ok (.aload_n 0, 1) := by decide +kernel
theorem dX12_mayMake_66 : decode cX12_mayMake 66 = .ok (.aload_n 0, 1) := by decide +kernel
theorem dX12_mayMake_67 : decode cX12_mayMake 67 = .ok (.iload_n 1, 1) := by decide +kernel
theorem dX12_mayMake_68 : decode cX12_mayMake 68 = .ok (.invokevirtual 342, 3) := by decide +kernel
theorem dX12_mayMake_71 : decode cX12_mayMake 71 = .ok (.putfield 300, 3) := by decide +kernel
theorem dX12_mayMake_74 : decode cX12_mayMake 74 = .ok (.aload_n 0, 1) := by decide +kernel
theorem dX12_mayMake_75 : decode cX12_mayMake 75 = .ok (.aload_n 0, 1) := by decide +kernel
theorem dX12_mayMake_76 : decode cX12_mayMake 76 = .ok (.getfield 332, 3) := by decide +kernel
theorem dX12_mayMake_79 : decode cX12_mayMake 79 = .ok (.iload_n 1, 1) := by decide +kernel
theorem dX12_mayMake_80 : decode cX12_mayMake 80 = .ok (.invokestatic 335, 3) := by decide +kernel
theorem dX12_mayMake_83 : decode cX12_mayMake 83 = .ok (.ifCond .eq 7, 3) := by decide +kernel
theorem dX12_mayMake_86 : decode cX12_mayMake 86 = .ok (.iconst 1, 1) := by decide +kernel
theorem dX12_mayMake_87 : decode cX12_mayMake 87 = .ok (.goto 4, 3) := by decide +kernel
theorem dX12_mayMake_90 : decode cX12_mayMake 90 = .ok (.iconst 0, 1) := by decide +kernel
theorem dX12_mayMake_91 : decode cX12_mayMake 91 = .ok (.putfield 303, 3) := by decide +kernel
theorem dX12_mayMake_94 : decode cX12_mayMake 94 = .ok (.aload_n 0, 1) := by decide +kernel
theorem dX12_mayMake_95 : decode cX12_mayMake 95 = .ok (.iconst 0, 1) := by decide +kernel
theorem dX12_mayMake_96 : decode cX12_mayMake 96 = .ok (.putfield 306, 3) := by decide +kernel
theorem dX12_mayMake_99 : decode cX12_mayMake 99 = .ok (.aload_n 0, 1) := by decide +kernel
theorem dX12_mayMake_100 : decode cX12_mayMake 100 = .ok (.bipush 109, 2) := by decide +kernel
theorem dX12_mayMake_102 : decode cX12_mayMake 102 = .ok (.iconst 0, 1) := by decide +kernel
theorem dX12_mayMake_103 : decode cX12_mayMake 103 = .ok (.iconst 1, 1) := by decide +kernel
theorem dX12_mayMake_104 : decode cX12_mayMake 104 = .ok (.invokevirtual 345, 3) := by decide +kernel
theorem dX12_mayMake_107 : decode cX12_mayMake 107 = .ok (.ifCond .le 7, 3) := by decide +kernel
theorem dX12_mayMake_110 : decode cX12_mayMake 110 = .ok (.iconst 1, 1) := by decide +kernel
theorem dX12_mayMake_111 : decode cX12_mayMake 111 = .ok (.goto 4, 3) := by decide +kernel
theorem dX12_mayMake_114 : decode cX12_mayMake 114 = .ok (.iconst 0, 1) := by decide +kernel
theorem dX12_mayMake_115 : decode cX12_mayMake 115 = .ok (.ireturn, 1) := by decide +kernel
theorem dX12_mayOf_0 : decode cX12_mayOf 0 = .ok (.iconst 4, 1) := by decide +kernel
theorem dX12_mayOf_1 : decode cX12_mayOf 1 = .ok (.iload_n 1, 1) := by decide +kernel
theorem dX12_mayOf_2 : decode cX12_mayOf 2 = .ok (.imul, 1) := by decide +kernel
theorem dX12_mayOf_3 : decode cX12_mayOf 3 = .ok (.iload_n 2, 1) := by decide +kernel
theorem dX12_mayOf_4 : decode cX12_mayOf 4 = .ok (.iadd, 1) := by decide +kernel
theorem dX12_mayOf_5 : decode cX12_mayOf 5 = .ok (.istore_n 3, 1) := by decide +kernel
theorem dX12_mayOf_6 : decode cX12_mayOf 6 = .ok (.aload_n 0, 1) := by decide +kernel
theorem dX12_mayOf_7 : decode cX12_mayOf 7 = .ok (.getfield 100, 3) := by decide +kernel
theorem dX12_mayOf_10 : decode cX12_mayOf 10 = .ok (.iload_n 3, 1) := by decide +kernel
theorem dX12_mayOf_11 : decode cX12_mayOf 11 = .ok (.baload, 1) := by decide +kernel
theorem dX12_mayOf_12 : decode cX12_mayOf 12 = .ok (.ifCond .eq 10, 3) := by decide +kernel
theorem dX12_mayOf_15 : decode cX12_mayOf 15 = .ok (.aload_n 0, 1) := by decide +kernel
theorem dX12_mayOf_16 : decode cX12_mayOf 16 = .ok (.getfield 103, 3) := by decide +kernel
theorem dX12_mayOf_19 : decode cX12_mayOf 19 = .ok (.iload_n 3, 1) := by decide +kernel
theorem dX12_mayOf_20 : decode cX12_mayOf 20 = .ok (.iaload, 1) := by decide +kernel
theorem dX12_mayOf_21 : decode cX12_mayOf 21 = .ok (.ireturn, 1) := by decide +kernel
theorem dX12_mayOf_22 : decode cX12_mayOf 22 = .ok (.aload_n 0, 1) := by decide +kernel
theorem dX12_mayOf_23 : decode cX12_mayOf 23 = .ok (.iload_n 1, 1) := by decide +kernel
theorem dX12_mayOf_24 : decode cX12_mayOf 24 = .ok (.invokevirtual 339, 3) := by decide +kernel
theorem dX12_mayOf_27 : decode cX12_mayOf 27 = .ok (.iconst 0, 1) := by decide +kernel
theorem dX12_mayOf_28 : decode cX12_mayOf 28 = .ok (.istore 4, 2) := by decide +kernel
theorem dX12_mayOf_30 : decode cX12_mayOf 30 = .ok (.iconst 0, 1) := by decide +kernel
theorem dX12_mayOf_31 : decode cX12_mayOf 31 = .ok (.istore 5, 2) := by decide +kernel
theorem dX12_mayOf_33 : decode cX12_mayOf 33 = .ok (.iload 5, 2) := by decide +kernel
theorem dX12_mayOf_35 : decode cX12_mayOf 35 = .ok (.aload_n 0, 1) := by decide +kernel
theorem dX12_mayOf_36 : decode cX12_mayOf 36 = .ok (.getfield 144, 3) := by decide +kernel
theorem dX12_mayOf_39 : decode cX12_mayOf 39 = .ok (.if_icmp .ge 32, 3) := by decide +kernel
theorem dX12_mayOf_42 : decode cX12_mayOf 42 = .ok (.iload 4, 2) := by decide +kernel
theorem dX12_mayOf_44 : decode cX12_mayOf 44 = .ok (.aload_n 0, 1) := by decide +kernel
theorem dX12_mayOf_45 : decode cX12_mayOf 45 = .ok (.iload 5, 2) := by decide +kernel
theorem dX12_mayOf_47 : decode cX12_mayOf 47 = .ok (.iload_n 2, 1) := by decide +kernel
theorem dX12_mayOf_48 : decode cX12_mayOf 48 = .ok (.invokevirtual 352, 3) := by decide +kernel
theorem dX12_mayOf_51 : decode cX12_mayOf 51 = .ok (.ifCond .eq 10, 3) := by decide +kernel
theorem dX12_mayOf_54 : decode cX12_mayOf 54 = .ok (.iconst 1, 1) := by decide +kernel
theorem dX12_mayOf_55 : decode cX12_mayOf 55 = .ok (.iload 5, 2) := by decide +kernel
theorem dX12_mayOf_57 : decode cX12_mayOf 57 = .ok (.ishl, 1) := by decide +kernel
theorem dX12_mayOf_58 : decode cX12_mayOf 58 = .ok (.goto 4, 3) := by decide +kernel
theorem dX12_mayOf_61 : decode cX12_mayOf 61 = .ok (.iconst 0, 1) := by decide +kernel
theorem dX12_mayOf_62 : decode cX12_mayOf 62 = .ok (.ior, 1) := by decide +kernel
theorem dX12_mayOf_63 : decode cX12_mayOf 63 = .ok (.istore 4, 2) := by decide +kernel
theorem dX12_mayOf_65 : decode cX12_mayOf 65 = .ok (.iinc 5 1, 3) := by decide +kernel
theorem dX12_mayOf_68 : decode cX12_mayOf 68 = .ok (.goto (-35), 3) := by decide +kernel
theorem dX12_mayOf_71 : decode cX12_mayOf 71 = .ok (.aload_n 0, 1) := by decide +kernel
theorem dX12_mayOf_72 : decode cX12_mayOf 72 = .ok (.getfield 100, 3) := by decide +kernel
theorem dX12_mayOf_75 : decode cX12_mayOf 75 = .ok (.iload_n 3, 1) := by decide +kernel
theorem dX12_mayOf_76 : decode cX12_mayOf 76 = .ok (.iconst 1, 1) := by decide +kernel
theorem dX12_mayOf_77 : decode cX12_mayOf 77 = .ok (.bastore, 1) := by decide +kernel
theorem dX12_mayOf_78 : decode cX12_mayOf 78 = .ok (.aload_n 0, 1) := by decide +kernel
theorem dX12_mayOf_79 : decode cX12_mayOf 79 = .ok (.getfield 103, 3) := by decide +kernel
theorem dX12_mayOf_82 : decode cX12_mayOf 82 = .ok (.iload_n 3, 1) := by decide +kernel
theorem dX12_mayOf_83 : decode cX12_mayOf 83 = .ok (.iload 4, 2) := by decide +kernel
theorem dX12_mayOf_85 : decode cX12_mayOf 85 = .ok (.iastore, 1) := by decide +kernel
theorem dX12_mayOf_86 : decode cX12_mayOf 86 = .ok (.iload 4, 2) := by decide +kernel
theorem dX12_mayOf_88 : decode cX12_mayOf 88 = .ok (.ireturn, 1) := by decide +kernel
theorem dX12_may_0 : decode cX12_may 0 = .ok (.iload_n 1, 1) := by decide +kernel
theorem dX12_may_1 : decode cX12_may 1 = .ok (.invokestatic 168, 3) := by decide +kernel
theorem dX12_may_4 : decode cX12_may 4 = .ok (.ifCond .eq 15, 3) := by decide +kernel
theorem dX12_may_7 : decode cX12_may 7 = .ok (.aload_n 0, 1) := by decide +kernel
theorem dX12_may_8 : decode cX12_may 8 = .ok (.aload_n 0, 1) := by decide +kernel
theorem dX12_may_9 : decode cX12_may 9 = .ok (.getfield 158, 3) := by decide +kernel
theorem dX12_may_12 : decode cX12_may 12 = .ok (.iload_n 1, 1) := by decide +kernel
theorem dX12_may_13 : decode cX12_may 13 = .ok (.invokevirtual 359, 3) := by decide +kernel
theorem dX12_may_16 : decode cX12_may 16 = .ok (.goto 4, 3) := by decide +kernel
theorem dX12_may_19 : decode cX12_may 19 = .ok (.iconst (-1), 1) := by decide +kernel
theorem dX12_may_20 : decode cX12_may 20 = .ok (.ireturn, 1) := by decide +kernel
theorem dX12_oldestOf_0 : decode cX12_oldestOf 0 = .ok (.aload_n 0, 1) := by decide +kernel
theorem dX12_oldestOf_1 : decode cX12_oldestOf 1 = .ok (.iload_n 1, 1) := by decide +kernel
theorem dX12_oldestOf_2 : decode cX12_oldestOf 2 = .ok (.invokevirtual 339, 3) := by decide +kernel
theorem dX12_oldestOf_5 : decode cX12_oldestOf 5 = .ok (.aload_n 0, 1) := by decide +kernel
theorem dX12_oldestOf_6 : decode cX12_oldestOf 6 = .ok (.getfield 297, 3) := by decide +kernel
theorem dX12_oldestOf_9 : decode cX12_oldestOf 9 = .ok (.ifCond .ne 8, 3) := by decide +kernel
theorem dX12_oldestOf_12 : decode cX12_oldestOf 12 = .ok (.bipush 8, 2) := by decide +kernel
theorem dX12_oldestOf_14 : decode cX12_oldestOf 14 = .ok (.goto 9, 3) := by decide +kernel
theorem dX12_oldestOf_17 : decode cX12_oldestOf 17 = .ok (.aload_n 0, 1) := by decide +kernel
theorem dX12_oldestOf_18 : decode cX12_oldestOf 18 = .ok (.getfield 91, 3) := by decide +kernel
theorem dX12_oldestOf_21 : decode cX12_oldestOf 21 = .ok (.iconst 0, 1) := by decide +kernel
theorem dX12_oldestOf_22 : decode cX12_oldestOf 22 = .ok (.iaload, 1) := by decide +kernel
theorem dX12_oldestOf_23 : decode cX12_oldestOf 23 = .ok (.ireturn, 1) := by decide +kernel
theorem dX12_behind_0 : decode cX12_behind 0 = .ok (.iload_n 2, 1) := by decide +kernel
theorem dX12_behind_1 : decode cX12_behind 1 = .ok (.bipush 8, 2) := by decide +kernel
theorem dX12_behind_3 : decode cX12_behind 3 = .ok (.if_icmp .ne 5, 3) := by decide +kernel
theorem dX12_behind_6 : decode cX12_behind 6 = .ok (.iload_n 1, 1) := by decide +kernel
theorem dX12_behind_7 : decode cX12_behind 7 = .ok (.ireturn, 1) := by decide +kernel
theorem dX12_behind_8 : decode cX12_behind 8 = .ok (.iload_n 1, 1) := by decide +kernel
theorem dX12_behind_9 : decode cX12_behind 9 = .ok (.invokestatic 323, 3) := by decide +kernel
theorem dX12_behind_12 : decode cX12_behind 12 = .ok (.istore_n 3, 1) := by decide +kernel
theorem dX12_behind_13 : decode cX12_behind 13 = .ok (.iload_n 1, 1) := by decide +kernel
theorem dX12_behind_14 : decode cX12_behind 14 = .ok (.iload_n 3, 1) := by decide +kernel
theorem dX12_behind_15 : decode cX12_behind 15 = .ok (.invokestatic 326, 3) := by decide +kernel
theorem dX12_behind_18 : decode cX12_behind 18 = .ok (.isub, 1) := by decide +kernel
theorem dX12_behind_19 : decode cX12_behind 19 = .ok (.istore 4, 2) := by decide +kernel
theorem dX12_behind_21 : decode cX12_behind 21 = .ok (.iload_n 3, 1) := by decide +kernel
theorem dX12_behind_22 : decode cX12_behind 22 = .ok (.aload_n 0, 1) := by decide +kernel
theorem dX12_behind_23 : decode cX12_behind 23 = .ok (.getfield 13, 3) := by decide +kernel
theorem dX12_behind_26 : decode cX12_behind 26 = .ok (.if_icmp .ge 18, 3) := by decide +kernel
theorem dX12_behind_29 : decode cX12_behind 29 = .ok (.iload_n 3, 1) := by decide +kernel
theorem dX12_behind_30 : decode cX12_behind 30 = .ok (.iconst 1, 1) := by decide +kernel
theorem dX12_behind_31 : decode cX12_behind 31 = .ok (.iadd, 1) := by decide +kernel
theorem dX12_behind_32 : decode cX12_behind 32 = .ok (.invokestatic 326, 3) := by decide +kernel
theorem dX12_behind_35 : decode cX12_behind 35 = .ok (.bipush 8, 2) := by decide +kernel
theorem dX12_behind_37 : decode cX12_behind 37 = .ok (.iload 4, 2) := by decide +kernel
theorem dX12_behind_39 : decode cX12_behind 39 = .ok (.imul, 1) := by decide +kernel
theorem dX12_behind_40 : decode cX12_behind 40 = .ok (.iadd, 1) := by decide +kernel
theorem dX12_behind_41 : decode cX12_behind 41 = .ok (.iload_n 2, 1) := by decide +kernel
theorem dX12_behind_42 : decode cX12_behind 42 = .ok (.iadd, 1) := by decide +kernel
theorem dX12_behind_43 : decode cX12_behind 43 = .ok (.ireturn, 1) := by decide +kernel
theorem dX12_behind_44 : decode cX12_behind 44 = .ok (.iconst 1, 1) := by decide +kernel
theorem dX12_behind_45 : decode cX12_behind 45 = .ok (.istore 5, 2) := by decide +kernel
theorem dX12_behind_47 : decode cX12_behind 47 = .ok (.iconst 1, 1) := by decide +kernel
theorem dX12_behind_48 : decode cX12_behind 48 = .ok (.istore 6, 2) := by decide +kernel
theorem dX12_behind_50 : decode cX12_behind 50 = .ok (.iload 6, 2) := by decide +kernel
theorem dX12_behind_52 : decode cX12_behind 52 = .ok (.iload_n 3, 1) := by decide +kernel
theorem dX12_behind_53 : decode cX12_behind 53 = .ok (.if_icmp .ge 16, 3) := by decide +kernel
theorem dX12_behind_56 : decode cX12_behind 56 = .ok (.iload 5, 2) := by decide +kernel
theorem dX12_behind_58 : decode cX12_behind 58 = .ok (.bipush 8, 2) := by decide +kernel
theorem dX12_behind_60 : decode cX12_behind 60 = .ok (.imul, 1) := by decide +kernel
theorem dX12_behind_61 : decode cX12_behind 61 = .ok (.istore 5, 2) := by decide +kernel
theorem dX12_behind_63 : decode cX12_behind 63 = .ok (.iinc 6 1, 3) := by decide +kernel
theorem dX12_behind_66 : decode cX12_behind 66 = .ok (.goto (-16), 3) := by decide +kernel
theorem dX12_behind_69 : decode cX12_behind 69 = .ok (.iload_n 3, 1) := by decide +kernel
theorem dX12_behind_70 : decode cX12_behind 70 = .ok (.invokestatic 326, 3) := by decide +kernel
theorem dX12_behind_73 : decode cX12_behind 73 = .ok (.bipush 8, 2) := by decide +kernel
theorem dX12_behind_75 : decode cX12_behind 75 = .ok (.iload 4, 2) := by decide +kernel
theorem dX12_behind_77 : decode cX12_behind 77 = .ok (.iload 5, 2) := by decide +kernel
theorem dX12_behind_79 : decode cX12_behind 79 = .ok (.irem, 1) := by decide +kernel
theorem dX12_behind_80 : decode cX12_behind 80 = .ok (.imul, 1) := by decide +kernel
theorem dX12_behind_81 : decode cX12_behind 81 = .ok (.iadd, 1) := by decide +kernel
theorem dX12_behind_82 : decode cX12_behind 82 = .ok (.iload_n 2, 1) := by decide +kernel
theorem dX12_behind_83 : decode cX12_behind 83 = .ok (.iadd, 1) := by decide +kernel
theorem dX12_behind_84 : decode cX12_behind 84 = .ok (.ireturn, 1) := by decide +kernel
theorem dX12_done_0 : decode cX12_done 0 = .ok (.iload_n 2, 1) := by decide +kernel
theorem dX12_done_1 : decode cX12_done 1 = .ok (.bipush 8, 2) := by decide +kernel
theorem dX12_done_3 : decode cX12_done 3 = .ok (.if_icmp .ge 28, 3) := by decide +kernel
theorem dX12_done_6 : decode cX12_done 6 = .ok (.aload_n 0, 1) := by decide +kernel
theorem dX12_done_7 : decode cX12_done 7 = .ok (.getfield 158, 3) := by decide +kernel
theorem dX12_done_10 : decode cX12_done 10 = .ok (.invokestatic 323, 3) := by decide +kernel
theorem dX12_done_13 : decode cX12_done 13 = .ok (.aload_n 0, 1) := by decide +kernel
theorem dX12_done_14 : decode cX12_done 14 = .ok (.getfield 13, 3) := by decide +kernel
theorem dX12_done_17 : decode cX12_done 17 = .ok (.if_icmp .ne 14, 3) := by decide +kernel
theorem dX12_done_20 : decode cX12_done 20 = .ok (.aload_n 0, 1) := by decide +kernel
theorem dX12_done_21 : decode cX12_done 21 = .ok (.aload_n 0, 1) := by decide +kernel
theorem dX12_done_22 : decode cX12_done 22 = .ok (.getfield 158, 3) := by decide +kernel
theorem dX12_done_25 : decode cX12_done 25 = .ok (.invokevirtual 369, 3) := by decide +kernel
theorem dX12_done_28 : decode cX12_done 28 = .ok (.goto 5, 3) := by decide +kernel
theorem dX12_done_31 : decode cX12_done 31 = .ok (.bipush 8, 2) := by decide +kernel
theorem dX12_done_33 : decode cX12_done 33 = .ok (.istore_n 3, 1) := by decide +kernel
theorem dX12_done_34 : decode cX12_done 34 = .ok (.iload_n 2, 1) := by decide +kernel
theorem dX12_done_35 : decode cX12_done 35 = .ok (.bipush 8, 2) := by decide +kernel
theorem dX12_done_37 : decode cX12_done 37 = .ok (.if_icmp .ge 65, 3) := by decide +kernel
theorem dX12_done_40 : decode cX12_done 40 = .ok (.aload_n 0, 1) := by decide +kernel
theorem dX12_done_41 : decode cX12_done 41 = .ok (.getfield 372, 3) := by decide +kernel
theorem dX12_done_44 : decode cX12_done 44 = .ok (.bipush 100, 2) := by decide +kernel
theorem dX12_done_46 : decode cX12_done 46 = .ok (.if_icmp .ge 56, 3) := by decide +kernel
theorem dX12_done_49 : decode cX12_done 49 = .ok (.aload_n 0, 1) := by decide +kernel
theorem dX12_done_50 : decode cX12_done 50 = .ok (.getfield 106, 3) := by decide +kernel
theorem dX12_done_53 : decode cX12_done 53 = .ok (.aload_n 0, 1) := by decide +kernel
theorem dX12_done_54 : decode cX12_done 54 = .ok (.getfield 372, 3) := by decide +kernel
theorem dX12_done_57 : decode cX12_done 57 = .ok (.aload_n 0, 1) := by decide +kernel
theorem dX12_done_58 : decode cX12_done 58 = .ok (.getfield 375, 3) := by decide +kernel
theorem dX12_done_61 : decode cX12_done 61 = .ok (.iastore, 1) := by decide +kernel
theorem dX12_done_62 : decode cX12_done 62 = .ok (.aload_n 0, 1) := by decide +kernel
theorem dX12_done_63 : decode cX12_done 63 = .ok (.getfield 109, 3) := by decide +kernel
theorem dX12_done_66 : decode cX12_done 66 = .ok (.aload_n 0, 1) := by decide +kernel
theorem dX12_done_67 : decode cX12_done 67 = .ok (.getfield 372, 3) := by decide +kernel
theorem dX12_done_70 : decode cX12_done 70 = .ok (.iload_n 1, 1) := by decide +kernel
theorem dX12_done_71 : decode cX12_done 71 = .ok (.iastore, 1) := by decide +kernel
theorem dX12_done_72 : decode cX12_done 72 = .ok (.aload_n 0, 1) := by decide +kernel
theorem dX12_done_73 : decode cX12_done 73 = .ok (.getfield 112, 3) := by decide +kernel
theorem dX12_done_76 : decode cX12_done 76 = .ok (.aload_n 0, 1) := by decide +kernel
theorem dX12_done_77 : decode cX12_done 77 = .ok (.getfield 372, 3) := by decide +kernel
theorem dX12_done_80 : decode cX12_done 80 = .ok (.iload_n 2, 1) := by decide +kernel
theorem dX12_done_81 : decode cX12_done 81 = .ok (.iastore, 1) := by decide +kernel
theorem dX12_done_82 : decode cX12_done 82 = .ok (.aload_n 0, 1) := by decide +kernel
theorem dX12_done_83 : decode cX12_done 83 = .ok (.getfield 115, 3) := by decide +kernel
theorem dX12_done_86 : decode cX12_done 86 = .ok (.aload_n 0, 1) := by decide +kernel
theorem dX12_done_87 : decode cX12_done 87 = .ok (.getfield 372, 3) := by decide +kernel
theorem dX12_done_90 : decode cX12_done 90 = .ok (.iload_n 3, 1) := by decide +kernel
theorem dX12_done_91 : decode cX12_done 91 = .ok (.iastore, 1) := by decide +kernel
theorem dX12_done_92 : decode cX12_done 92 = .ok (.aload_n 0, 1) := by decide +kernel
theorem dX12_done_93 : decode cX12_done 93 = .ok (.dup, 1) := by decide +kernel
theorem dX12_done_94 : decode cX12_done 94 = .ok (.getfield 372, 3) := by decide +kernel
theorem dX12_done_97 : decode cX12_done 97 = .ok (.iconst 1, 1) := by decide +kernel
theorem dX12_done_98 : decode cX12_done 98 = .ok (.iadd, 1) := by decide +kernel
theorem dX12_done_99 : decode cX12_done 99 = .ok (.putfield 372, 3) := by decide +kernel
theorem dX12_done_102 : decode cX12_done 102 = .ok (.aload_n 0, 1) := by decide +kernel
theorem dX12_done_103 : decode cX12_done 103 = .ok (.aload_n 0, 1) := by decide +kernel
theorem dX12_done_104 : decode cX12_done 104 = .ok (.aload_n 0, 1) := by decide +kernel
theorem dX12_done_105 : decode cX12_done 105 = .ok (.getfield 158, 3) := by decide +kernel
theorem dX12_done_108 : decode cX12_done 108 = .ok (.iload_n 2, 1) := by decide +kernel
theorem dX12_done_109 : decode cX12_done 109 = .ok (.invokevirtual 362, 3) := by decide +kernel
theorem dX12_done_112 : decode cX12_done 112 = .ok (.putfield 158, 3) := by decide +kernel
theorem dX12_done_115 : decode cX12_done 115 = .ok (.aload_n 0, 1) := by decide +kernel
theorem dX12_done_116 : decode cX12_done 116 = .ok (.dup, 1) := by decide +kernel
theorem dX12_done_117 : decode cX12_done 117 = .ok (.getfield 375, 3) := by decide +kernel
theorem dX12_done_120 : decode cX12_done 120 = .ok (.iconst 1, 1) := by decide +kernel
theorem dX12_done_121 : decode cX12_done 121 = .ok (.iadd, 1) := by decide +kernel
theorem dX12_done_122 : decode cX12_done 122 = .ok (.putfield 375, 3) := by decide +kernel
theorem dX12_done_125 : decode cX12_done 125 = .ok (.aload_n 0, 1) := by decide +kernel
theorem dX12_done_126 : decode cX12_done 126 = .ok (.aload_n 0, 1) := by decide +kernel
theorem dX12_done_127 : decode cX12_done 127 = .ok (.getfield 172, 3) := by decide +kernel
theorem dX12_done_130 : decode cX12_done 130 = .ok (.iconst 1, 1) := by decide +kernel
theorem dX12_done_131 : decode cX12_done 131 = .ok (.iadd, 1) := by decide +kernel
theorem dX12_done_132 : decode cX12_done 132 = .ok (.aload_n 0, 1) := by decide +kernel
theorem dX12_done_133 : decode cX12_done 133 = .ok (.getfield 17, 3) := by decide +kernel
theorem dX12_done_136 : decode cX12_done 136 = .ok (.irem, 1) := by decide +kernel
theorem dX12_done_137 : decode cX12_done 137 = .ok (.putfield 172, 3) := by decide +kernel
theorem dX12_done_140 : decode cX12_done 140 = .ok (.iload_n 3, 1) := by decide +kernel
theorem dX12_done_141 : decode cX12_done 141 = .ok (.ireturn, 1) := by decide +kernel
theorem dX12_make_0 : decode cX12_make 0 = .ok (.iload_n 1, 1) := by decide +kernel
theorem dX12_make_1 : decode cX12_make 1 = .ok (.iconst (-1), 1) := by decide +kernel
theorem dX12_make_2 : decode cX12_make 2 = .ok (.if_icmp .eq 13, 3) := by decide +kernel
theorem dX12_make_5 : decode cX12_make 5 = .ok (.aload_n 0, 1) := by decide +kernel
theorem dX12_make_6 : decode cX12_make 6 = .ok (.iload_n 1, 1) := by decide +kernel
theorem dX12_make_7 : decode cX12_make 7 = .ok (.invokevirtual 175, 3) := by decide +kernel
theorem dX12_make_10 : decode cX12_make 10 = .ok (.ifCond .ne 5, 3) := by decide +kernel
theorem dX12_make_13 : decode cX12_make 13 = .ok (.iconst (-1), 1) := by decide +kernel
theorem dX12_make_14 : decode cX12_make 14 = .ok (.ireturn, 1) := by decide +kernel
theorem dX12_make_15 : decode cX12_make 15 = .ok (.aload_n 0, 1) := by decide +kernel
theorem dX12_make_16 : decode cX12_make 16 = .ok (.getfield 36, 3) := by decide +kernel
theorem dX12_make_19 : decode cX12_make 19 = .ok (.aload_n 0, 1) := by decide +kernel
theorem dX12_make_20 : decode cX12_make 20 = .ok (.getfield 172, 3) := by decide +kernel
theorem dX12_make_23 : decode cX12_make 23 = .ok (.iaload, 1) := by decide +kernel
theorem dX12_make_24 : decode cX12_make 24 = .ok (.istore_n 2, 1) := by decide +kernel
theorem dX12_make_25 : decode cX12_make 25 = .ok (.iload_n 1, 1) := by decide +kernel
theorem dX12_make_26 : decode cX12_make 26 = .ok (.iconst (-1), 1) := by decide +kernel
theorem dX12_make_27 : decode cX12_make 27 = .ok (.if_icmp .eq 22, 3) := by decide +kernel
theorem dX12_make_30 : decode cX12_make 30 = .ok (.aload_n 0, 1) := by decide +kernel
theorem dX12_make_31 : decode cX12_make 31 = .ok (.aload_n 0, 1) := by decide +kernel
theorem dX12_make_32 : decode cX12_make 32 = .ok (.getfield 158, 3) := by decide +kernel
theorem dX12_make_35 : decode cX12_make 35 = .ok (.iload_n 2, 1) := by decide +kernel
theorem dX12_make_36 : decode cX12_make 36 = .ok (.invokevirtual 359, 3) := by decide +kernel
theorem dX12_make_39 : decode cX12_make 39 = .ok (.iload_n 1, 1) := by decide +kernel
theorem dX12_make_40 : decode cX12_make 40 = .ok (.invokestatic 335, 3) := by decide +kernel
theorem dX12_make_43 : decode cX12_make 43 = .ok (.ifCond .ne 6, 3) := by decide +kernel
theorem dX12_make_46 : decode cX12_make 46 = .ok (.bipush (-2), 2) := by decide +kernel
theorem dX12_make_48 : decode cX12_make 48 = .ok (.ireturn, 1) := by decide +kernel
theorem dX12_make_49 : decode cX12_make 49 = .ok (.aload_n 0, 1) := by decide +kernel
theorem dX12_make_50 : decode cX12_make 50 = .ok (.iload_n 2, 1) := by decide +kernel
theorem dX12_make_51 : decode cX12_make 51 = .ok (.iload_n 1, 1) := by decide +kernel
theorem dX12_make_52 : decode cX12_make 52 = .ok (.iconst (-1), 1) := by decide +kernel
theorem dX12_make_53 : decode cX12_make 53 = .ok (.if_icmp .ne 8, 3) := by decide +kernel
theorem dX12_make_56 : decode cX12_make 56 = .ok (.bipush 8, 2) := by decide +kernel
theorem dX12_make_58 : decode cX12_make 58 = .ok (.goto 4, 3) := by decide +kernel
theorem dX12_make_61 : decode cX12_make 61 = .ok (.iload_n 1, 1) := by decide +kernel
theorem dX12_make_62 : decode cX12_make 62 = .ok (.invokevirtual 378, 3) := by decide +kernel
theorem dX12_make_65 : decode cX12_make 65 = .ok (.ireturn, 1) := by decide +kernel
theorem dX12_at_0 : decode cX12_at 0 = .ok (.aload_n 0, 1) := by decide +kernel
theorem dX12_at_1 : decode cX12_at 1 = .ok (.aload_n 0, 1) := by decide +kernel
theorem dX12_at_2 : decode cX12_at 2 = .ok (.getfield 158, 3) := by decide +kernel
theorem dX12_at_5 : decode cX12_at 5 = .ok (.invokevirtual 339, 3) := by decide +kernel
theorem dX12_at_8 : decode cX12_at 8 = .ok (.iload_n 1, 1) := by decide +kernel
theorem dX12_at_9 : decode cX12_at 9 = .ok (.i2l, 1) := by decide +kernel
theorem dX12_at_10 : decode cX12_at 10 = .ok (.lconst 0, 1) := by decide +kernel
theorem dX12_at_11 : decode cX12_at 11 = .ok (.aload_n 0, 1) := by decide +kernel
theorem dX12_at_12 : decode cX12_at 12 = .ok (.getfield 297, 3) := by decide +kernel
theorem dX12_at_15 : decode cX12_at 15 = .ok (.iconst 1, 1) := by decide +kernel
theorem dX12_at_16 : decode cX12_at 16 = .ok (.isub, 1) := by decide +kernel
theorem dX12_at_17 : decode cX12_at 17 = .ok (.i2l, 1) := by decide +kernel
theorem dX12_at_18 : decode cX12_at 18 = .ok (.invokestatic 140, 3) := by decide +kernel
theorem dX12_at_21 : decode cX12_at 21 = .ok (.ifCond .eq 12, 3) := by decide +kernel
theorem dX12_at_24 : decode cX12_at 24 = .ok (.aload_n 0, 1) := by decide +kernel
theorem dX12_at_25 : decode cX12_at 25 = .ok (.getfield 91, 3) := by decide +kernel
theorem dX12_at_28 : decode cX12_at 28 = .ok (.iload_n 1, 1) := by decide +kernel
theorem dX12_at_29 : decode cX12_at 29 = .ok (.iaload, 1) := by decide +kernel
theorem dX12_at_30 : decode cX12_at 30 = .ok (.goto 4, 3) := by decide +kernel
theorem dX12_at_33 : decode cX12_at 33 = .ok (.iconst (-1), 1) := by decide +kernel
theorem dX12_at_34 : decode cX12_at 34 = .ok (.ireturn, 1) := by decide +kernel
theorem dX12_holding_0 : decode cX12_holding 0 = .ok (.aload_n 0, 1) := by decide +kernel
theorem dX12_holding_1 : decode cX12_holding 1 = .ok (.aload_n 0, 1) := by decide +kernel
theorem dX12_holding_2 : decode cX12_holding 2 = .ok (.getfield 158, 3) := by decide +kernel
theorem dX12_holding_5 : decode cX12_holding 5 = .ok (.invokevirtual 339, 3) := by decide +kernel
theorem dX12_holding_8 : decode cX12_holding 8 = .ok (.aload_n 0, 1) := by decide +kernel
theorem dX12_holding_9 : decode cX12_holding 9 = .ok (.getfield 332, 3) := by decide +kernel
theorem dX12_holding_12 : decode cX12_holding 12 = .ok (.ireturn, 1) := by decide +kernel
theorem dX12_isSort_0 : decode cX12_isSort 0 = .ok (.iload_n 0, 1) := by decide +kernel
theorem dX12_isSort_1 : decode cX12_isSort 1 = .ok (.i2l, 1) := by decide +kernel
theorem dX12_isSort_2 : decode cX12_isSort 2 = .ok (.lconst 0, 1) := by decide +kernel
theorem dX12_isSort_3 : decode cX12_isSort 3 = .ok (.ldc2_w 138, 3) := by decide +kernel
theorem dX12_isSort_6 : decode cX12_isSort 6 = .ok (.invokestatic 140, 3) := by decide +kernel
theorem dX12_isSort_9 : decode cX12_isSort 9 = .ok (.ireturn, 1) := by decide +kernel
theorem dX12_worthAt_0 : decode cX12_worthAt 0 = .ok (.aload_n 0, 1) := by decide +kernel
theorem dX12_worthAt_1 : decode cX12_worthAt 1 = .ok (.aload_n 0, 1) := by decide +kernel
theorem dX12_worthAt_2 : decode cX12_worthAt 2 = .ok (.getfield 91, 3) := by decide +kernel
theorem dX12_worthAt_5 : decode cX12_worthAt 5 = .ok (.iload_n 1, 1) := by decide +kernel
theorem dX12_worthAt_6 : decode cX12_worthAt 6 = .ok (.iaload, 1) := by decide +kernel
theorem dX12_worthAt_7 : decode cX12_worthAt 7 = .ok (.putfield 291, 3) := by decide +kernel
theorem dX12_worthAt_10 : decode cX12_worthAt 10 = .ok (.aload_n 0, 1) := by decide +kernel
theorem dX12_worthAt_11 : decode cX12_worthAt 11 = .ok (.iload_n 2, 1) := by decide +kernel
theorem dX12_worthAt_12 : decode cX12_worthAt 12 = .ok (.putfield 294, 3) := by decide +kernel
theorem dX12_worthAt_15 : decode cX12_worthAt 15 = .ok (.aload_n 0, 1) := by decide +kernel
theorem dX12_worthAt_16 : decode cX12_worthAt 16 = .ok (.aload_n 0, 1) := by decide +kernel
theorem dX12_worthAt_17 : decode cX12_worthAt 17 = .ok (.aload_n 0, 1) := by decide +kernel
theorem dX12_worthAt_18 : decode cX12_worthAt 18 = .ok (.getfield 291, 3) := by decide +kernel
theorem dX12_worthAt_21 : decode cX12_worthAt 21 = .ok (.invokevirtual 342, 3) := by decide +kernel
theorem dX12_worthAt_24 : decode cX12_worthAt 24 = .ok (.putfield 300, 3) := by decide +kernel
theorem dX12_worthAt_27 : decode cX12_worthAt 27 = .ok (.aload_n 0, 1) := by decide +kernel
theorem dX12_worthAt_28 : decode cX12_worthAt 28 = .ok (.aload_n 0, 1) := by decide +kernel
theorem dX12_worthAt_29 : decode cX12_worthAt 29 = .ok (.getfield 332, 3) := by decide +kernel
theorem dX12_worthAt_32 : decode cX12_worthAt 32 = .ok (.aload_n 0, 1) := by decide +kernel
theorem dX12_worthAt_33 : decode cX12_worthAt 33 = .ok (.getfield 291, 3) := by decide +kernel
theorem dX12_worthAt_36 : decode cX12_worthAt 36 = .ok (.invokestatic 335, 3) := by decide +kernel
theorem dX12_worthAt_39 : decode cX12_worthAt 39 = .ok (.ifCond .eq 7, 3) := by decide +kernel
theorem dX12_worthAt_42 : decode cX12_worthAt 42 = .ok (.iconst 1, 1) := by decide +kernel
theorem dX12_worthAt_43 : decode cX12_worthAt 43 = .ok (.goto 4, 3) := by decide +kernel
theorem dX12_worthAt_46 : decode cX12_worthAt 46 = .ok (.iconst 0, 1) := by decide +kernel
theorem dX12_worthAt_47 : decode cX12_worthAt 47 = .ok (.putfield 303, 3) := by decide +kernel
theorem dX12_worthAt_50 : decode cX12_worthAt 50 = .ok (.aload_n 0, 1) := by decide +kernel
theorem dX12_worthAt_51 : decode cX12_worthAt 51 = .ok (.iload_n 1, 1) := by decide +kernel
theorem dX12_worthAt_52 : decode cX12_worthAt 52 = .ok (.putfield 306, 3) := by decide +kernel
theorem dX12_worthAt_55 : decode cX12_worthAt 55 = .ok (.aload_n 0, 1) := by decide +kernel
theorem dX12_worthAt_56 : decode cX12_worthAt 56 = .ok (.bipush 118, 2) := by decide +kernel
theorem dX12_worthAt_58 : decode cX12_worthAt 58 = .ok (.bipush (-100), 2) := by decide +kernel
theorem dX12_worthAt_60 : decode cX12_worthAt 60 = .ok (.bipush 100, 2) := by decide +kernel
theorem dX12_worthAt_62 : decode cX12_worthAt 62 = .ok (.invokevirtual 345, 3) := by decide +kernel
theorem dX12_worthAt_65 : decode cX12_worthAt 65 = .ok (.ireturn, 1) := by decide +kernel
theorem dX12_worthOf_0 : decode cX12_worthOf 0 = .ok (.iconst 4, 1) := by decide +kernel
theorem dX12_worthOf_1 : decode cX12_worthOf 1 = .ok (.iload_n 1, 1) := by decide +kernel
theorem dX12_worthOf_2 : decode cX12_worthOf 2 = .ok (.imul, 1) := by decide +kernel
theorem dX12_worthOf_3 : decode cX12_worthOf 3 = .ok (.iload_n 2, 1) := by decide +kernel
theorem dX12_worthOf_4 : decode cX12_worthOf 4 = .ok (.iadd, 1) := by decide +kernel
theorem dX12_worthOf_5 : decode cX12_worthOf 5 = .ok (.istore_n 3, 1) := by decide +kernel
theorem dX12_worthOf_6 : decode cX12_worthOf 6 = .ok (.aload_n 0, 1) := by decide +kernel
theorem dX12_worthOf_7 : decode cX12_worthOf 7 = .ok (.getfield 94, 3) := by decide +kernel
theorem dX12_worthOf_10 : decode cX12_worthOf 10 = .ok (.iload_n 3, 1) := by decide +kernel
theorem dX12_worthOf_11 : decode cX12_worthOf 11 = .ok (.baload, 1) := by decide +kernel
theorem dX12_worthOf_12 : decode cX12_worthOf 12 = .ok (.ifCond .eq 10, 3) := by decide +kernel
theorem dX12_worthOf_15 : decode cX12_worthOf 15 = .ok (.aload_n 0, 1) := by decide +kernel
theorem dX12_worthOf_16 : decode cX12_worthOf 16 = .ok (.getfield 97, 3) := by decide +kernel
theorem dX12_worthOf_19 : decode cX12_worthOf 19 = .ok (.iload_n 3, 1) := by decide +kernel
theorem dX12_worthOf_20 : decode cX12_worthOf 20 = .ok (.iaload, 1) := by decide +kernel
theorem dX12_worthOf_21 : decode cX12_worthOf 21 = .ok (.ireturn, 1) := by decide +kernel
theorem dX12_worthOf_22 : decode cX12_worthOf 22 = .ok (.aload_n 0, 1) := by decide +kernel
theorem dX12_worthOf_23 : decode cX12_worthOf 23 = .ok (.iload_n 1, 1) := by decide +kernel
theorem dX12_worthOf_24 : decode cX12_worthOf 24 = .ok (.invokevirtual 339, 3) := by decide +kernel
theorem dX12_worthOf_27 : decode cX12_worthOf 27 = .ok (.iconst 0, 1) := by decide +kernel
theorem dX12_worthOf_28 : decode cX12_worthOf 28 = .ok (.istore 4, 2) := by decide +kernel
theorem dX12_worthOf_30 : decode cX12_worthOf 30 = .ok (.iconst 0, 1) := by decide +kernel
theorem dX12_worthOf_31 : decode cX12_worthOf 31 = .ok (.istore 5, 2) := by decide +kernel
theorem dX12_worthOf_33 : decode cX12_worthOf 33 = .ok (.iload 5, 2) := by decide +kernel
theorem dX12_worthOf_35 : decode cX12_worthOf 35 = .ok (.aload_n 0, 1) := by decide +kernel
theorem dX12_worthOf_36 : decode cX12_worthOf 36 = .ok (.getfield 297, 3) := by decide +kernel
theorem dX12_worthOf_39 : decode cX12_worthOf 39 = .ok (.if_icmp .ge 21, 3) := by decide +kernel
theorem dX12_worthOf_42 : decode cX12_worthOf 42 = .ok (.iload 4, 2) := by decide +kernel
theorem dX12_worthOf_44 : decode cX12_worthOf 44 = .ok (.aload_n 0, 1) := by decide +kernel
theorem dX12_worthOf_45 : decode cX12_worthOf 45 = .ok (.iload 5, 2) := by decide +kernel
theorem dX12_worthOf_47 : decode cX12_worthOf 47 = .ok (.iload_n 2, 1) := by decide +kernel
theorem dX12_worthOf_48 : decode cX12_worthOf 48 = .ok (.invokevirtual 348, 3) := by decide +kernel
theorem dX12_worthOf_51 : decode cX12_worthOf 51 = .ok (.iadd, 1) := by decide +kernel
theorem dX12_worthOf_52 : decode cX12_worthOf 52 = .ok (.istore 4, 2) := by decide +kernel
theorem dX12_worthOf_54 : decode cX12_worthOf 54 = .ok (.iinc 5 1, 3) := by decide +kernel
theorem dX12_worthOf_57 : decode cX12_worthOf 57 = .ok (.goto (-24), 3) := by decide +kernel
theorem dX12_worthOf_60 : decode cX12_worthOf 60 = .ok (.aload_n 0, 1) := by decide +kernel
theorem dX12_worthOf_61 : decode cX12_worthOf 61 = .ok (.getfield 94, 3) := by decide +kernel
theorem dX12_worthOf_64 : decode cX12_worthOf 64 = .ok (.iload_n 3, 1) := by decide +kernel
theorem dX12_worthOf_65 : decode cX12_worthOf 65 = .ok (.iconst 1, 1) := by decide +kernel
theorem dX12_worthOf_66 : decode cX12_worthOf 66 = .ok (.bastore, 1) := by decide +kernel
theorem dX12_worthOf_67 : decode cX12_worthOf 67 = .ok (.aload_n 0, 1) := by decide +kernel
theorem dX12_worthOf_68 : decode cX12_worthOf 68 = .ok (.getfield 97, 3) := by decide +kernel
theorem dX12_worthOf_71 : decode cX12_worthOf 71 = .ok (.iload_n 3, 1) := by decide +kernel
theorem dX12_worthOf_72 : decode cX12_worthOf 72 = .ok (.iload 4, 2) := by decide +kernel
theorem dX12_worthOf_74 : decode cX12_worthOf 74 = .ok (.iastore, 1) := by decide +kernel
theorem dX12_worthOf_75 : decode cX12_worthOf 75 = .ok (.iload 4, 2) := by decide +kernel
theorem dX12_worthOf_77 : decode cX12_worthOf 77 = .ok (.ireturn, 1) := by decide +kernel
theorem dX12_worth_0 : decode cX12_worth 0 = .ok (.iload_n 1, 1) := by decide +kernel
theorem dX12_worth_1 : decode cX12_worth 1 = .ok (.invokestatic 381, 3) := by decide +kernel
theorem dX12_worth_4 : decode cX12_worth 4 = .ok (.ifCond .eq 15, 3) := by decide +kernel
theorem dX12_worth_7 : decode cX12_worth 7 = .ok (.aload_n 0, 1) := by decide +kernel
theorem dX12_worth_8 : decode cX12_worth 8 = .ok (.aload_n 0, 1) := by decide +kernel
theorem dX12_worth_9 : decode cX12_worth 9 = .ok (.getfield 158, 3) := by decide +kernel
theorem dX12_worth_12 : decode cX12_worth 12 = .ok (.iload_n 1, 1) := by decide +kernel
theorem dX12_worth_13 : decode cX12_worth 13 = .ok (.invokevirtual 355, 3) := by decide +kernel
theorem dX12_worth_16 : decode cX12_worth 16 = .ok (.goto 6, 3) := by decide +kernel
theorem dX12_worth_19 : decode cX12_worth 19 = .ok (.ldc_w 384, 3) := by decide +kernel
theorem dX12_worth_22 : decode cX12_worth 22 = .ok (.ireturn, 1) := by decide +kernel
theorem dX12_wantsOf_0 : decode cX12_wantsOf 0 = .ok (.bipush 8, 2) := by decide +kernel
theorem dX12_wantsOf_2 : decode cX12_wantsOf 2 = .ok (.istore 4, 2) := by decide +kernel
theorem dX12_wantsOf_4 : decode cX12_wantsOf 4 = .ok (.iload_n 3, 1) := by decide +kernel
theorem dX12_wantsOf_5 : decode cX12_wantsOf 5 = .ok (.ifCond .eq 12, 3) := by decide +kernel
theorem dX12_wantsOf_8 : decode cX12_wantsOf 8 = .ok (.aload_n 0, 1) := by decide +kernel
theorem dX12_wantsOf_9 : decode cX12_wantsOf 9 = .ok (.iload_n 1, 1) := by decide +kernel
theorem dX12_wantsOf_10 : decode cX12_wantsOf 10 = .ok (.iload_n 2, 1) := by decide +kernel
theorem dX12_wantsOf_11 : decode cX12_wantsOf 11 = .ok (.invokevirtual 355, 3) := by decide +kernel
theorem dX12_wantsOf_14 : decode cX12_wantsOf 14 = .ok (.goto 6, 3) := by decide +kernel
theorem dX12_wantsOf_17 : decode cX12_wantsOf 17 = .ok (.ldc_w 358, 3) := by decide +kernel
theorem dX12_wantsOf_20 : decode cX12_wantsOf 20 = .ok (.istore 5, 2) := by decide +kernel
theorem dX12_wantsOf_22 : decode cX12_wantsOf 22 = .ok (.iconst 0, 1) := by decide +kernel
theorem dX12_wantsOf_23 : decode cX12_wantsOf 23 = .ok (.istore 6, 2) := by decide +kernel
theorem dX12_wantsOf_25 : decode cX12_wantsOf 25 = .ok (.iload 6, 2) := by decide +kernel
theorem dX12_wantsOf_27 : decode cX12_wantsOf 27 = .ok (.aload_n 0, 1) := by decide +kernel
theorem dX12_wantsOf_28 : decode cX12_wantsOf 28 = .ok (.getfield 144, 3) := by decide +kernel
theorem dX12_wantsOf_31 : decode cX12_wantsOf 31 = .ok (.if_icmp .ge 61, 3) := by decide +kernel
theorem dX12_wantsOf_34 : decode cX12_wantsOf 34 = .ok (.aload_n 0, 1) := by decide +kernel
theorem dX12_wantsOf_35 : decode cX12_wantsOf 35 = .ok (.iload_n 1, 1) := by decide +kernel
theorem dX12_wantsOf_36 : decode cX12_wantsOf 36 = .ok (.iload_n 2, 1) := by decide +kernel
theorem dX12_wantsOf_37 : decode cX12_wantsOf 37 = .ok (.invokevirtual 359, 3) := by decide +kernel
theorem dX12_wantsOf_40 : decode cX12_wantsOf 40 = .ok (.iload 6, 2) := by decide +kernel
theorem dX12_wantsOf_42 : decode cX12_wantsOf 42 = .ok (.invokestatic 335, 3) := by decide +kernel
theorem dX12_wantsOf_45 : decode cX12_wantsOf 45 = .ok (.ifCond .eq 41, 3) := by decide +kernel
theorem dX12_wantsOf_48 : decode cX12_wantsOf 48 = .ok (.aload_n 0, 1) := by decide +kernel
theorem dX12_wantsOf_49 : decode cX12_wantsOf 49 = .ok (.aload_n 0, 1) := by decide +kernel
theorem dX12_wantsOf_50 : decode cX12_wantsOf 50 = .ok (.iload_n 1, 1) := by decide +kernel
theorem dX12_wantsOf_51 : decode cX12_wantsOf 51 = .ok (.iload 6, 2) := by decide +kernel
theorem dX12_wantsOf_53 : decode cX12_wantsOf 53 = .ok (.invokevirtual 362, 3) := by decide +kernel
theorem dX12_wantsOf_56 : decode cX12_wantsOf 56 = .ok (.iload_n 2, 1) := by decide +kernel
theorem dX12_wantsOf_57 : decode cX12_wantsOf 57 = .ok (.invokevirtual 355, 3) := by decide +kernel
theorem dX12_wantsOf_60 : decode cX12_wantsOf 60 = .ok (.iload 5, 2) := by decide +kernel
theorem dX12_wantsOf_62 : decode cX12_wantsOf 62 = .ok (.if_icmp .gt 6, 3) := by decide +kernel
theorem dX12_wantsOf_65 : decode cX12_wantsOf 65 = .ok (.goto 21, 3) := by decide +kernel
theorem dX12_wantsOf_68 : decode cX12_wantsOf 68 = .ok (.iload 6, 2) := by decide +kernel
theorem dX12_wantsOf_70 : decode cX12_wantsOf 70 = .ok (.istore 4, 2) := by decide +kernel
theorem dX12_wantsOf_72 : decode cX12_wantsOf 72 = .ok (.aload_n 0, 1) := by decide +kernel
theorem dX12_wantsOf_73 : decode cX12_wantsOf 73 = .ok (.aload_n 0, 1) := by decide +kernel
theorem dX12_wantsOf_74 : decode cX12_wantsOf 74 = .ok (.iload_n 1, 1) := by decide +kernel
theorem dX12_wantsOf_75 : decode cX12_wantsOf 75 = .ok (.iload 6, 2) := by decide +kernel
theorem dX12_wantsOf_77 : decode cX12_wantsOf 77 = .ok (.invokevirtual 362, 3) := by decide +kernel
theorem dX12_wantsOf_80 : decode cX12_wantsOf 80 = .ok (.iload_n 2, 1) := by decide +kernel
theorem dX12_wantsOf_81 : decode cX12_wantsOf 81 = .ok (.invokevirtual 355, 3) := by decide +kernel
theorem dX12_wantsOf_84 : decode cX12_wantsOf 84 = .ok (.istore 5, 2) := by decide +kernel
theorem dX12_wantsOf_86 : decode cX12_wantsOf 86 = .ok (.iinc 6 1, 3) := by decide +kernel
theorem dX12_wantsOf_89 : decode cX12_wantsOf 89 = .ok (.goto (-64), 3) := by decide +kernel
theorem dX12_wantsOf_92 : decode cX12_wantsOf 92 = .ok (.iload 4, 2) := by decide +kernel
theorem dX12_wantsOf_94 : decode cX12_wantsOf 94 = .ok (.ireturn, 1) := by decide +kernel
theorem dX12_makes_0 : decode cX12_makes 0 = .ok (.aload_n 0, 1) := by decide +kernel
theorem dX12_makes_1 : decode cX12_makes 1 = .ok (.getfield 39, 3) := by decide +kernel
theorem dX12_makes_4 : decode cX12_makes 4 = .ok (.iload_n 2, 1) := by decide +kernel
theorem dX12_makes_5 : decode cX12_makes 5 = .ok (.iaload, 1) := by decide +kernel
theorem dX12_makes_6 : decode cX12_makes 6 = .ok (.iconst 1, 1) := by decide +kernel
theorem dX12_makes_7 : decode cX12_makes 7 = .ok (.if_icmp .ne 11, 3) := by decide +kernel
theorem dX12_makes_10 : decode cX12_makes 10 = .ok (.aload_n 0, 1) := by decide +kernel
theorem dX12_makes_11 : decode cX12_makes 11 = .ok (.iload_n 1, 1) := by decide +kernel
theorem dX12_makes_12 : decode cX12_makes 12 = .ok (.iload_n 2, 1) := by decide +kernel
theorem dX12_makes_13 : decode cX12_makes 13 = .ok (.iconst 1, 1) := by decide +kernel
theorem dX12_makes_14 : decode cX12_makes 14 = .ok (.invokevirtual 365, 3) := by decide +kernel
theorem dX12_makes_17 : decode cX12_makes 17 = .ok (.ireturn, 1) := by decide +kernel
theorem dX12_makes_18 : decode cX12_makes 18 = .ok (.aload_n 0, 1) := by decide +kernel
theorem dX12_makes_19 : decode cX12_makes 19 = .ok (.getfield 39, 3) := by decide +kernel
theorem dX12_makes_22 : decode cX12_makes 22 = .ok (.iload_n 2, 1) := by decide +kernel
theorem dX12_makes_23 : decode cX12_makes 23 = .ok (.iaload, 1) := by decide +kernel
theorem dX12_makes_24 : decode cX12_makes 24 = .ok (.iconst 4, 1) := by decide +kernel
theorem dX12_makes_25 : decode cX12_makes 25 = .ok (.if_icmp .ne 64, 3) := by decide +kernel
theorem dX12_makes_28 : decode cX12_makes 28 = .ok (.aload_n 0, 1) := by decide +kernel
theorem dX12_makes_29 : decode cX12_makes 29 = .ok (.iload_n 1, 1) := by decide +kernel
theorem dX12_makes_30 : decode cX12_makes 30 = .ok (.invokevirtual 339, 3) := by decide +kernel
theorem dX12_makes_33 : decode cX12_makes 33 = .ok (.aload_n 0, 1) := by decide +kernel
theorem dX12_makes_34 : decode cX12_makes 34 = .ok (.getfield 329, 3) := by decide +kernel
theorem dX12_makes_37 : decode cX12_makes 37 = .ok (.aload_n 0, 1) := by decide +kernel
theorem dX12_makes_38 : decode cX12_makes 38 = .ok (.getfield 42, 3) := by decide +kernel
theorem dX12_makes_41 : decode cX12_makes 41 = .ok (.iload_n 2, 1) := by decide +kernel
theorem dX12_makes_42 : decode cX12_makes 42 = .ok (.iaload, 1) := by decide +kernel
theorem dX12_makes_43 : decode cX12_makes 43 = .ok (.invokestatic 335, 3) := by decide +kernel
theorem dX12_makes_46 : decode cX12_makes 46 = .ok (.ifCond .ne 7, 3) := by decide +kernel
theorem dX12_makes_49 : decode cX12_makes 49 = .ok (.iconst 1, 1) := by decide +kernel
theorem dX12_makes_50 : decode cX12_makes 50 = .ok (.goto 4, 3) := by decide +kernel
theorem dX12_makes_53 : decode cX12_makes 53 = .ok (.iconst 0, 1) := by decide +kernel
theorem dX12_makes_54 : decode cX12_makes 54 = .ok (.istore_n 3, 1) := by decide +kernel
theorem dX12_makes_55 : decode cX12_makes 55 = .ok (.iload_n 3, 1) := by decide +kernel
theorem dX12_makes_56 : decode cX12_makes 56 = .ok (.ifCond .eq 30, 3) := by decide +kernel
theorem dX12_makes_59 : decode cX12_makes 59 = .ok (.aload_n 0, 1) := by decide +kernel
theorem dX12_makes_60 : decode cX12_makes 60 = .ok (.iload_n 1, 1) := by decide +kernel
theorem dX12_makes_61 : decode cX12_makes 61 = .ok (.iload_n 2, 1) := by decide +kernel
theorem dX12_makes_62 : decode cX12_makes 62 = .ok (.invokevirtual 359, 3) := by decide +kernel
theorem dX12_makes_65 : decode cX12_makes 65 = .ok (.aload_n 0, 1) := by decide +kernel
theorem dX12_makes_66 : decode cX12_makes 66 = .ok (.getfield 42, 3) := by decide +kernel
theorem dX12_makes_69 : decode cX12_makes 69 = .ok (.iload_n 2, 1) := by decide +kernel
theorem dX12_makes_70 : decode cX12_makes 70 = .ok (.iaload, 1) := by decide +kernel
theorem dX12_makes_71 : decode cX12_makes 71 = .ok (.invokestatic 335, 3) := by decide +kernel
theorem dX12_makes_74 : decode cX12_makes 74 = .ok (.ifCond .eq 12, 3) := by decide +kernel
theorem dX12_makes_77 : decode cX12_makes 77 = .ok (.aload_n 0, 1) := by decide +kernel
theorem dX12_makes_78 : decode cX12_makes 78 = .ok (.getfield 42, 3) := by decide +kernel
theorem dX12_makes_81 : decode cX12_makes 81 = .ok (.iload_n 2, 1) := by decide +kernel
theorem dX12_makes_82 : decode cX12_makes 82 = .ok (.iaload, 1) := by decide +kernel
theorem dX12_makes_83 : decode cX12_makes 83 = .ok (.goto 5, 3) := by decide +kernel
theorem dX12_makes_86 : decode cX12_makes 86 = .ok (.bipush 8, 2) := by decide +kernel
theorem dX12_makes_88 : decode cX12_makes 88 = .ok (.ireturn, 1) := by decide +kernel
theorem dX12_makes_89 : decode cX12_makes 89 = .ok (.aload_n 0, 1) := by decide +kernel
theorem dX12_makes_90 : decode cX12_makes 90 = .ok (.getfield 39, 3) := by decide +kernel
theorem dX12_makes_93 : decode cX12_makes 93 = .ok (.iload_n 2, 1) := by decide +kernel
theorem dX12_makes_94 : decode cX12_makes 94 = .ok (.iaload, 1) := by decide +kernel
theorem dX12_makes_95 : decode cX12_makes 95 = .ok (.ifCond .eq 14, 3) := by decide +kernel
theorem dX12_makes_98 : decode cX12_makes 98 = .ok (.iload_n 1, 1) := by decide +kernel
theorem dX12_makes_99 : decode cX12_makes 99 = .ok (.invokestatic 323, 3) := by decide +kernel
theorem dX12_makes_102 : decode cX12_makes 102 = .ok (.aload_n 0, 1) := by decide +kernel
theorem dX12_makes_103 : decode cX12_makes 103 = .ok (.getfield 13, 3) := by decide +kernel
theorem dX12_makes_106 : decode cX12_makes 106 = .ok (.if_icmp .ge 6, 3) := by decide +kernel
theorem dX12_makes_109 : decode cX12_makes 109 = .ok (.bipush 8, 2) := by decide +kernel
theorem dX12_makes_111 : decode cX12_makes 111 = .ok (.ireturn, 1) := by decide +kernel
theorem dX12_makes_112 : decode cX12_makes 112 = .ok (.aload_n 0, 1) := by decide +kernel
theorem dX12_makes_113 : decode cX12_makes 113 = .ok (.iload_n 1, 1) := by decide +kernel
theorem dX12_makes_114 : decode cX12_makes 114 = .ok (.invokevirtual 339, 3) := by decide +kernel
theorem dX12_makes_117 : decode cX12_makes 117 = .ok (.aload_n 0, 1) := by decide +kernel
theorem dX12_makes_118 : decode cX12_makes 118 = .ok (.getfield 91, 3) := by decide +kernel
theorem dX12_makes_121 : decode cX12_makes 121 = .ok (.iconst 0, 1) := by decide +kernel
theorem dX12_makes_122 : decode cX12_makes 122 = .ok (.iaload, 1) := by decide +kernel
theorem dX12_makes_123 : decode cX12_makes 123 = .ok (.istore_n 3, 1) := by decide +kernel
theorem dX12_makes_124 : decode cX12_makes 124 = .ok (.aload_n 0, 1) := by decide +kernel
theorem dX12_makes_125 : decode cX12_makes 125 = .ok (.iconst 0, 1) := by decide +kernel
theorem dX12_makes_126 : decode cX12_makes 126 = .ok (.iload_n 2, 1) := by decide +kernel
theorem dX12_makes_127 : decode cX12_makes 127 = .ok (.invokevirtual 348, 3) := by decide +kernel
theorem dX12_makes_130 : decode cX12_makes 130 = .ok (.istore 4, 2) := by decide +kernel
theorem dX12_makes_132 : decode cX12_makes 132 = .ok (.aload_n 0, 1) := by decide +kernel
theorem dX12_makes_133 : decode cX12_makes 133 = .ok (.getfield 39, 3) := by decide +kernel
theorem dX12_makes_136 : decode cX12_makes 136 = .ok (.iload_n 2, 1) := by decide +kernel
theorem dX12_makes_137 : decode cX12_makes 137 = .ok (.iaload, 1) := by decide +kernel
theorem dX12_makes_138 : decode cX12_makes 138 = .ok (.iconst 2, 1) := by decide +kernel
theorem dX12_makes_139 : decode cX12_makes 139 = .ok (.if_icmp .ne 28, 3) := by decide +kernel
theorem dX12_makes_142 : decode cX12_makes 142 = .ok (.iload 4, 2) := by decide +kernel
theorem dX12_makes_144 : decode cX12_makes 144 = .ok (.ifCond .le 20, 3) := by decide +kernel
theorem dX12_makes_147 : decode cX12_makes 147 = .ok (.aload_n 0, 1) := by decide +kernel
theorem dX12_makes_148 : decode cX12_makes 148 = .ok (.iload_n 1, 1) := by decide +kernel
theorem dX12_makes_149 : decode cX12_makes 149 = .ok (.iload_n 2, 1) := by decide +kernel
theorem dX12_makes_150 : decode cX12_makes 150 = .ok (.invokevirtual 359, 3) := by decide +kernel
theorem dX12_makes_153 : decode cX12_makes 153 = .ok (.iload_n 3, 1) := by decide +kernel
theorem dX12_makes_154 : decode cX12_makes 154 = .ok (.invokestatic 335, 3) := by decide +kernel
theorem dX12_makes_157 : decode cX12_makes 157 = .ok (.ifCond .eq 7, 3) := by decide +kernel
theorem dX12_makes_160 : decode cX12_makes 160 = .ok (.iload_n 3, 1) := by decide +kernel
theorem dX12_makes_161 : decode cX12_makes 161 = .ok (.goto 5, 3) := by decide +kernel
theorem dX12_makes_164 : decode cX12_makes 164 = .ok (.bipush 8, 2) := by decide +kernel
theorem dX12_makes_166 : decode cX12_makes 166 = .ok (.ireturn, 1) := by decide +kernel
theorem dX12_makes_167 : decode cX12_makes 167 = .ok (.iload 4, 2) := by decide +kernel
theorem dX12_makes_169 : decode cX12_makes 169 = .ok (.ifCond .ge 13, 3) := by decide +kernel
theorem dX12_makes_172 : decode cX12_makes 172 = .ok (.aload_n 0, 1) := by decide +kernel
theorem dX12_makes_173 : decode cX12_makes 173 = .ok (.iload_n 1, 1) := by decide +kernel
theorem dX12_makes_174 : decode cX12_makes 174 = .ok (.iload_n 2, 1) := by decide +kernel
theorem dX12_makes_175 : decode cX12_makes 175 = .ok (.iconst 0, 1) := by decide +kernel
theorem dX12_makes_176 : decode cX12_makes 176 = .ok (.invokevirtual 365, 3) := by decide +kernel
theorem dX12_makes_179 : decode cX12_makes 179 = .ok (.goto 5, 3) := by decide +kernel
theorem dX12_makes_182 : decode cX12_makes 182 = .ok (.bipush 8, 2) := by decide +kernel
theorem dX12_makes_184 : decode cX12_makes 184 = .ok (.ireturn, 1) := by decide +kernel
theorem dX12_would_0 : decode cX12_would 0 = .ok (.iload_n 1, 1) := by decide +kernel
theorem dX12_would_1 : decode cX12_would 1 = .ok (.invokestatic 168, 3) := by decide +kernel
theorem dX12_would_4 : decode cX12_would 4 = .ok (.ifCond .eq 15, 3) := by decide +kernel
theorem dX12_would_7 : decode cX12_would 7 = .ok (.aload_n 0, 1) := by decide +kernel
theorem dX12_would_8 : decode cX12_would 8 = .ok (.aload_n 0, 1) := by decide +kernel
theorem dX12_would_9 : decode cX12_would 9 = .ok (.getfield 158, 3) := by decide +kernel
theorem dX12_would_12 : decode cX12_would 12 = .ok (.iload_n 1, 1) := by decide +kernel
theorem dX12_would_13 : decode cX12_would 13 = .ok (.invokevirtual 385, 3) := by decide +kernel
theorem dX12_would_16 : decode cX12_would 16 = .ok (.goto 4, 3) := by decide +kernel
theorem dX12_would_19 : decode cX12_would 19 = .ok (.iconst (-1), 1) := by decide +kernel
theorem dX12_would_20 : decode cX12_would 20 = .ok (.ireturn, 1) := by decide +kernel
theorem dX12_makerOn_0 : decode cX12_makerOn 0 = .ok (.aload_n 0, 1) := by decide +kernel
theorem dX12_makerOn_1 : decode cX12_makerOn 1 = .ok (.getfield 36, 3) := by decide +kernel
theorem dX12_makerOn_4 : decode cX12_makerOn 4 = .ok (.aload_n 0, 1) := by decide +kernel
theorem dX12_makerOn_5 : decode cX12_makerOn 5 = .ok (.getfield 172, 3) := by decide +kernel
theorem dX12_makerOn_8 : decode cX12_makerOn 8 = .ok (.iload_n 1, 1) := by decide +kernel
theorem dX12_makerOn_9 : decode cX12_makerOn 9 = .ok (.iadd, 1) := by decide +kernel
theorem dX12_makerOn_10 : decode cX12_makerOn 10 = .ok (.aload_n 0, 1) := by decide +kernel
theorem dX12_makerOn_11 : decode cX12_makerOn 11 = .ok (.getfield 17, 3) := by decide +kernel
theorem dX12_makerOn_14 : decode cX12_makerOn 14 = .ok (.irem, 1) := by decide +kernel
theorem dX12_makerOn_15 : decode cX12_makerOn 15 = .ok (.iaload, 1) := by decide +kernel
theorem dX12_makerOn_16 : decode cX12_makerOn 16 = .ok (.ireturn, 1) := by decide +kernel
theorem dX12_run_0 : decode cX12_run 0 = .ok (.iload_n 1, 1) := by decide +kernel
theorem dX12_run_1 : decode cX12_run 1 = .ok (.i2l, 1) := by decide +kernel
theorem dX12_run_2 : decode cX12_run 2 = .ok (.lconst 1, 1) := by decide +kernel
theorem dX12_run_3 : decode cX12_run 3 = .ok (.ldc2_w 388, 3) := by decide +kernel
theorem dX12_run_6 : decode cX12_run 6 = .ok (.invokestatic 140, 3) := by decide +kernel
theorem dX12_run_9 : decode cX12_run 9 = .ok (.ifCond .eq 30, 3) := by decide +kernel
theorem dX12_run_12 : decode cX12_run 12 = .ok (.iload_n 2, 1) := by decide +kernel
theorem dX12_run_13 : decode cX12_run 13 = .ok (.invokestatic 381, 3) := by decide +kernel
theorem dX12_run_16 : decode cX12_run 16 = .ok (.ifCond .ne 27, 3) := by decide +kernel
theorem dX12_run_19 : decode cX12_run 19 = .ok (.iload_n 2, 1) := by decide +kernel
theorem dX12_run_20 : decode cX12_run 20 = .ok (.bipush 20, 2) := by decide +kernel
theorem dX12_run_22 : decode cX12_run 22 = .ok (.if_icmp .eq 21, 3) := by decide +kernel
theorem dX12_run_25 : decode cX12_run 25 = .ok (.iload_n 2, 1) := by decide +kernel
theorem dX12_run_26 : decode cX12_run 26 = .ok (.i2l, 1) := by decide +kernel
theorem dX12_run_27 : decode cX12_run 27 = .ok (.ldc2_w 390, 3) := by decide +kernel
theorem dX12_run_30 : decode cX12_run 30 = .ok (.ldc2_w 392, 3) := by decide +kernel
theorem dX12_run_33 : decode cX12_run 33 = .ok (.invokestatic 140, 3) := by decide +kernel
theorem dX12_run_36 : decode cX12_run 36 = .ok (.ifCond .ne 7, 3) := by decide +kernel
theorem dX12_run_39 : decode cX12_run 39 = .ok (.ldc_w 384, 3) := by decide +kernel
theorem dX12_run_42 : decode cX12_run 42 = .ok (.ireturn, 1) := by decide +kernel
theorem dX12_run_43 : decode cX12_run 43 = .ok (.aload_n 0, 1) := by decide +kernel
theorem dX12_run_44 : decode cX12_run 44 = .ok (.getfield 158, 3) := by decide +kernel
theorem dX12_run_47 : decode cX12_run 47 = .ok (.istore_n 3, 1) := by decide +kernel
theorem dX12_run_48 : decode cX12_run 48 = .ok (.iconst 0, 1) := by decide +kernel
theorem dX12_run_49 : decode cX12_run 49 = .ok (.istore 4, 2) := by decide +kernel
theorem dX12_run_51 : decode cX12_run 51 = .ok (.iconst 0, 1) := by decide +kernel
theorem dX12_run_52 : decode cX12_run 52 = .ok (.istore 5, 2) := by decide +kernel
theorem dX12_run_54 : decode cX12_run 54 = .ok (.iconst 0, 1) := by decide +kernel
theorem dX12_run_55 : decode cX12_run 55 = .ok (.istore 6, 2) := by decide +kernel
theorem dX12_run_57 : decode cX12_run 57 = .ok (.iload 6, 2) := by decide +kernel
theorem dX12_run_59 : decode cX12_run 59 = .ok (.iload_n 1, 1) := by decide +kernel
theorem dX12_run_60 : decode cX12_run 60 = .ok (.if_icmp .ge 69, 3) := by decide +kernel
theorem dX12_run_63 : decode cX12_run 63 = .ok (.aload_n 0, 1) := by decide +kernel
theorem dX12_run_64 : decode cX12_run 64 = .ok (.iload_n 3, 1) := by decide +kernel
theorem dX12_run_65 : decode cX12_run 65 = .ok (.aload_n 0, 1) := by decide +kernel
theorem dX12_run_66 : decode cX12_run 66 = .ok (.iload 6, 2) := by decide +kernel
theorem dX12_run_68 : decode cX12_run 68 = .ok (.invokevirtual 394, 3) := by decide +kernel
theorem dX12_run_71 : decode cX12_run 71 = .ok (.invokevirtual 385, 3) := by decide +kernel
theorem dX12_run_74 : decode cX12_run 74 = .ok (.istore 7, 2) := by decide +kernel
theorem dX12_run_76 : decode cX12_run 76 = .ok (.iload 5, 2) := by decide +kernel
theorem dX12_run_78 : decode cX12_run 78 = .ok (.iload 7, 2) := by decide +kernel
theorem dX12_run_80 : decode cX12_run 80 = .ok (.bipush 8, 2) := by decide +kernel
theorem dX12_run_82 : decode cX12_run 82 = .ok (.if_icmp .ge 7, 3) := by decide +kernel
theorem dX12_run_85 : decode cX12_run 85 = .ok (.iconst 1, 1) := by decide +kernel
theorem dX12_run_86 : decode cX12_run 86 = .ok (.goto 4, 3) := by decide +kernel
theorem dX12_run_89 : decode cX12_run 89 = .ok (.iconst 0, 1) := by decide +kernel
theorem dX12_run_90 : decode cX12_run 90 = .ok (.iadd, 1) := by decide +kernel
theorem dX12_run_91 : decode cX12_run 91 = .ok (.istore 5, 2) := by decide +kernel
theorem dX12_run_93 : decode cX12_run 93 = .ok (.aload_n 0, 1) := by decide +kernel
theorem dX12_run_94 : decode cX12_run 94 = .ok (.iload_n 3, 1) := by decide +kernel
theorem dX12_run_95 : decode cX12_run 95 = .ok (.iload 7, 2) := by decide +kernel
theorem dX12_run_97 : decode cX12_run 97 = .ok (.invokevirtual 362, 3) := by decide +kernel
theorem dX12_run_100 : decode cX12_run 100 = .ok (.istore_n 3, 1) := by decide +kernel
theorem dX12_run_101 : decode cX12_run 101 = .ok (.iload 4, 2) := by decide +kernel
theorem dX12_run_103 : decode cX12_run 103 = .ok (.iload_n 2, 1) := by decide +kernel
theorem dX12_run_104 : decode cX12_run 104 = .ok (.invokestatic 381, 3) := by decide +kernel
theorem dX12_run_107 : decode cX12_run 107 = .ok (.ifCond .eq 12, 3) := by decide +kernel
theorem dX12_run_110 : decode cX12_run 110 = .ok (.aload_n 0, 1) := by decide +kernel
theorem dX12_run_111 : decode cX12_run 111 = .ok (.iload_n 3, 1) := by decide +kernel
theorem dX12_run_112 : decode cX12_run 112 = .ok (.iload_n 2, 1) := by decide +kernel
theorem dX12_run_113 : decode cX12_run 113 = .ok (.invokevirtual 355, 3) := by decide +kernel
theorem dX12_run_116 : decode cX12_run 116 = .ok (.goto 4, 3) := by decide +kernel
theorem dX12_run_119 : decode cX12_run 119 = .ok (.iconst 0, 1) := by decide +kernel
theorem dX12_run_120 : decode cX12_run 120 = .ok (.iadd, 1) := by decide +kernel
theorem dX12_run_121 : decode cX12_run 121 = .ok (.istore 4, 2) := by decide +kernel
theorem dX12_run_123 : decode cX12_run 123 = .ok (.iinc 6 1, 3) := by decide +kernel
theorem dX12_run_126 : decode cX12_run 126 = .ok (.goto (-69), 3) := by decide +kernel
theorem dX12_run_129 : decode cX12_run 129 = .ok (.iload_n 2, 1) := by decide +kernel
theorem dX12_run_130 : decode cX12_run 130 = .ok (.bipush 20, 2) := by decide +kernel
theorem dX12_run_132 : decode cX12_run 132 = .ok (.if_icmp .ne 6, 3) := by decide +kernel
theorem dX12_run_135 : decode cX12_run 135 = .ok (.iload 5, 2) := by decide +kernel
theorem dX12_run_137 : decode cX12_run 137 = .ok (.ireturn, 1) := by decide +kernel
theorem dX12_run_138 : decode cX12_run 138 = .ok (.iload_n 2, 1) := by decide +kernel
theorem dX12_run_139 : decode cX12_run 139 = .ok (.invokestatic 381, 3) := by decide +kernel
theorem dX12_run_142 : decode cX12_run 142 = .ok (.ifCond .eq 6, 3) := by decide +kernel
theorem dX12_run_145 : decode cX12_run 145 = .ok (.iload 4, 2) := by decide +kernel
theorem dX12_run_147 : decode cX12_run 147 = .ok (.ireturn, 1) := by decide +kernel
theorem dX12_run_148 : decode cX12_run 148 = .ok (.aload_n 0, 1) := by decide +kernel
theorem dX12_run_149 : decode cX12_run 149 = .ok (.iload_n 3, 1) := by decide +kernel
theorem dX12_run_150 : decode cX12_run 150 = .ok (.invokevirtual 339, 3) := by decide +kernel
theorem dX12_run_153 : decode cX12_run 153 = .ok (.iload_n 2, 1) := by decide +kernel
theorem dX12_run_154 : decode cX12_run 154 = .ok (.bipush 10, 2) := by decide +kernel
theorem dX12_run_156 : decode cX12_run 156 = .ok (.isub, 1) := by decide +kernel
theorem dX12_run_157 : decode cX12_run 157 = .ok (.aload_n 0, 1) := by decide +kernel
theorem dX12_run_158 : decode cX12_run 158 = .ok (.getfield 297, 3) := by decide +kernel
theorem dX12_run_161 : decode cX12_run 161 = .ok (.if_icmp .ge 15, 3) := by decide +kernel
theorem dX12_run_164 : decode cX12_run 164 = .ok (.aload_n 0, 1) := by decide +kernel
theorem dX12_run_165 : decode cX12_run 165 = .ok (.getfield 91, 3) := by decide +kernel
theorem dX12_run_168 : decode cX12_run 168 = .ok (.iload_n 2, 1) := by decide +kernel
theorem dX12_run_169 : decode cX12_run 169 = .ok (.bipush 10, 2) := by decide +kernel
theorem dX12_run_171 : decode cX12_run 171 = .ok (.isub, 1) := by decide +kernel
theorem dX12_run_172 : decode cX12_run 172 = .ok (.iaload, 1) := by decide +kernel
theorem dX12_run_173 : decode cX12_run 173 = .ok (.goto 4, 3) := by decide +kernel
theorem dX12_run_176 : decode cX12_run 176 = .ok (.iconst (-1), 1) := by decide +kernel
theorem dX12_run_177 : decode cX12_run 177 = .ok (.ireturn, 1) := by decide +kernel
theorem dX12_goesRound_0 : decode cX12_goesRound 0 = .ok (.iconst 0, 1) := by decide +kernel
theorem dX12_goesRound_1 : decode cX12_goesRound 1 = .ok (.istore 4, 2) := by decide +kernel
theorem dX12_goesRound_3 : decode cX12_goesRound 3 = .ok (.iload 4, 2) := by decide +kernel
theorem dX12_goesRound_5 : decode cX12_goesRound 5 = .ok (.sipush 18724, 3) := by decide +kernel
theorem dX12_goesRound_8 : decode cX12_goesRound 8 = .ok (.if_icmp .ge 17, 3) := by decide +kernel
theorem dX12_goesRound_11 : decode cX12_goesRound 11 = .ok (.aload_n 0, 1) := by decide +kernel
theorem dX12_goesRound_12 : decode cX12_goesRound 12 = .ok (.getfield 118, 3) := by decide +kernel
theorem dX12_goesRound_15 : decode cX12_goesRound 15 = .ok (.iload 4, 2) := by decide +kernel
theorem dX12_goesRound_17 : decode cX12_goesRound 17 = .ok (.iconst (-1), 1) := by decide +kernel
theorem dX12_goesRound_18 : decode cX12_goesRound 18 = .ok (.iastore, 1) := by decide +kernel
theorem dX12_goesRound_19 : decode cX12_goesRound 19 = .ok (.iinc 4 1, 3) := by decide +kernel
theorem dX12_goesRound_22 : decode cX12_goesRound 22 = .ok (.goto (-19), 3) := by decide +kernel
theorem dX12_goesRound_25 : decode cX12_goesRound 25 = .ok (.iload_n 1, 1) := by decide +kernel
theorem dX12_goesRound_26 : decode cX12_goesRound 26 = .ok (.istore 4, 2) := by decide +kernel
theorem dX12_goesRound_28 : decode cX12_goesRound 28 = .ok (.iload_n 2, 1) := by decide +kernel
theorem dX12_goesRound_29 : decode cX12_goesRound 29 = .ok (.istore 5, 2) := by decide +kernel
theorem dX12_goesRound_31 : decode cX12_goesRound 31 = .ok (.iconst 0, 1) := by decide +kernel
theorem dX12_goesRound_32 : decode cX12_goesRound 32 = .ok (.istore 6, 2) := by decide +kernel
theorem dX12_goesRound_34 : decode cX12_goesRound 34 = .ok (.aload_n 0, 1) := by decide +kernel
theorem dX12_goesRound_35 : decode cX12_goesRound 35 = .ok (.getfield 118, 3) := by decide +kernel
theorem dX12_goesRound_38 : decode cX12_goesRound 38 = .ok (.iconst 4, 1) := by decide +kernel
theorem dX12_goesRound_39 : decode cX12_goesRound 39 = .ok (.iload 4, 2) := by decide +kernel
theorem dX12_goesRound_41 : decode cX12_goesRound 41 = .ok (.imul, 1) := by decide +kernel
theorem dX12_goesRound_42 : decode cX12_goesRound 42 = .ok (.iload 5, 2) := by decide +kernel
theorem dX12_goesRound_44 : decode cX12_goesRound 44 = .ok (.iadd, 1) := by decide +kernel
theorem dX12_goesRound_45 : decode cX12_goesRound 45 = .ok (.iaload, 1) := by decide +kernel
theorem dX12_goesRound_46 : decode cX12_goesRound 46 = .ok (.ifCond .ge 55, 3) := by decide +kernel
theorem dX12_goesRound_49 : decode cX12_goesRound 49 = .ok (.aload_n 0, 1) := by decide +kernel
theorem dX12_goesRound_50 : decode cX12_goesRound 50 = .ok (.getfield 118, 3) := by decide +kernel
theorem dX12_goesRound_53 : decode cX12_goesRound 53 = .ok (.iconst 4, 1) := by decide +kernel
theorem dX12_goesRound_54 : decode cX12_goesRound 54 = .ok (.iload 4, 2) := by decide +kernel
theorem dX12_goesRound_56 : decode cX12_goesRound 56 = .ok (.imul, 1) := by decide +kernel
theorem dX12_goesRound_57 : decode cX12_goesRound 57 = .ok (.iload 5, 2) := by decide +kernel
theorem dX12_goesRound_59 : decode cX12_goesRound 59 = .ok (.iadd, 1) := by decide +kernel
theorem dX12_goesRound_60 : decode cX12_goesRound 60 = .ok (.iload 6, 2) := by decide +kernel
theorem dX12_goesRound_62 : decode cX12_goesRound 62 = .ok (.iastore, 1) := by decide +kernel
theorem dX12_goesRound_63 : decode cX12_goesRound 63 = .ok (.aload_n 0, 1) := by decide +kernel
theorem dX12_goesRound_64 : decode cX12_goesRound 64 = .ok (.iload 4, 2) := by decide +kernel
theorem dX12_goesRound_66 : decode cX12_goesRound 66 = .ok (.aload_n 0, 1) := by decide +kernel
theorem dX12_goesRound_67 : decode cX12_goesRound 67 = .ok (.iload 4, 2) := by decide +kernel
theorem dX12_goesRound_69 : decode cX12_goesRound 69 = .ok (.aload_n 0, 1) := by decide +kernel
theorem dX12_goesRound_70 : decode cX12_goesRound 70 = .ok (.getfield 36, 3) := by decide +kernel
theorem dX12_goesRound_73 : decode cX12_goesRound 73 = .ok (.iload 5, 2) := by decide +kernel
theorem dX12_goesRound_75 : decode cX12_goesRound 75 = .ok (.iaload, 1) := by decide +kernel
theorem dX12_goesRound_76 : decode cX12_goesRound 76 = .ok (.invokevirtual 385, 3) := by decide +kernel
theorem dX12_goesRound_79 : decode cX12_goesRound 79 = .ok (.invokevirtual 362, 3) := by decide +kernel
theorem dX12_goesRound_82 : decode cX12_goesRound 82 = .ok (.istore 4, 2) := by decide +kernel
theorem dX12_goesRound_84 : decode cX12_goesRound 84 = .ok (.iload 5, 2) := by decide +kernel
theorem dX12_goesRound_86 : decode cX12_goesRound 86 = .ok (.iconst 1, 1) := by decide +kernel
theorem dX12_goesRound_87 : decode cX12_goesRound 87 = .ok (.iadd, 1) := by decide +kernel
theorem dX12_goesRound_88 : decode cX12_goesRound 88 = .ok (.aload_n 0, 1) := by decide +kernel
theorem dX12_goesRound_89 : decode cX12_goesRound 89 = .ok (.getfield 17, 3) := by decide +kernel
theorem dX12_goesRound_92 : decode cX12_goesRound 92 = .ok (.irem, 1) := by decide +kernel
theorem dX12_goesRound_93 : decode cX12_goesRound 93 = .ok (.istore 5, 2) := by decide +kernel
theorem dX12_goesRound_95 : decode cX12_goesRound 95 = .ok (.iinc 6 1, 3) := by decide +kernel
theorem dX12_goesRound_98 : decode cX12_goesRound 98 = .ok (.goto (-64), 3) := by decide +kernel
theorem dX12_goesRound_101 : decode cX12_goesRound 101 = .ok (.aload_n 0, 1) := by decide +kernel
theorem dX12_goesRound_102 : decode cX12_goesRound 102 = .ok (.aload_n 0, 1) := by decide +kernel
theorem dX12_goesRound_103 : decode cX12_goesRound 103 = .ok (.getfield 118, 3) := by decide +kernel
theorem dX12_goesRound_106 : decode cX12_goesRound 106 = .ok (.iconst 4, 1) := by decide +kernel
theorem dX12_goesRound_107 : decode cX12_goesRound 107 = .ok (.iload 4, 2) := by decide +kernel
theorem dX12_goesRound_109 : decode cX12_goesRound 109 = .ok (.imul, 1) := by decide +kernel
theorem dX12_goesRound_110 : decode cX12_goesRound 110 = .ok (.iload 5, 2) := by decide +kernel
theorem dX12_goesRound_112 : decode cX12_goesRound 112 = .ok (.iadd, 1) := by decide +kernel
theorem dX12_goesRound_113 : decode cX12_goesRound 113 = .ok (.iaload, 1) := by decide +kernel
theorem dX12_goesRound_114 : decode cX12_goesRound 114 = .ok (.putfield 397, 3) := by decide +kernel
theorem dX12_goesRound_117 : decode cX12_goesRound 117 = .ok (.aload_n 0, 1) := by decide +kernel
theorem dX12_goesRound_118 : decode cX12_goesRound 118 = .ok (.iload 6, 2) := by decide +kernel
theorem dX12_goesRound_120 : decode cX12_goesRound 120 = .ok (.aload_n 0, 1) := by decide +kernel
theorem dX12_goesRound_121 : decode cX12_goesRound 121 = .ok (.getfield 397, 3) := by decide +kernel
theorem dX12_goesRound_124 : decode cX12_goesRound 124 = .ok (.isub, 1) := by decide +kernel
theorem dX12_goesRound_125 : decode cX12_goesRound 125 = .ok (.putfield 400, 3) := by decide +kernel
theorem dX12_goesRound_128 : decode cX12_goesRound 128 = .ok (.aload_n 0, 1) := by decide +kernel
theorem dX12_goesRound_129 : decode cX12_goesRound 129 = .ok (.iconst 0, 1) := by decide +kernel
theorem dX12_goesRound_130 : decode cX12_goesRound 130 = .ok (.putfield 403, 3) := by decide +kernel
theorem dX12_goesRound_133 : decode cX12_goesRound 133 = .ok (.iconst 0, 1) := by decide +kernel
theorem dX12_goesRound_134 : decode cX12_goesRound 134 = .ok (.istore 7, 2) := by decide +kernel
theorem dX12_goesRound_136 : decode cX12_goesRound 136 = .ok (.iload 7, 2) := by decide +kernel
theorem dX12_goesRound_138 : decode cX12_goesRound 138 = .ok (.aload_n 0, 1) := by decide +kernel
theorem dX12_goesRound_139 : decode cX12_goesRound 139 = .ok (.getfield 400, 3) := by decide +kernel
theorem dX12_goesRound_142 : decode cX12_goesRound 142 = .ok (.if_icmp .ge 57, 3) := by decide +kernel
theorem dX12_goesRound_145 : decode cX12_goesRound 145 = .ok (.aload_n 0, 1) := by decide +kernel
theorem dX12_goesRound_146 : decode cX12_goesRound 146 = .ok (.iload 4, 2) := by decide +kernel
theorem dX12_goesRound_148 : decode cX12_goesRound 148 = .ok (.aload_n 0, 1) := by decide +kernel
theorem dX12_goesRound_149 : decode cX12_goesRound 149 = .ok (.iload 4, 2) := by decide +kernel
theorem dX12_goesRound_151 : decode cX12_goesRound 151 = .ok (.aload_n 0, 1) := by decide +kernel
theorem dX12_goesRound_152 : decode cX12_goesRound 152 = .ok (.getfield 36, 3) := by decide +kernel
theorem dX12_goesRound_155 : decode cX12_goesRound 155 = .ok (.iload 5, 2) := by decide +kernel
theorem dX12_goesRound_157 : decode cX12_goesRound 157 = .ok (.iaload, 1) := by decide +kernel
theorem dX12_goesRound_158 : decode cX12_goesRound 158 = .ok (.invokevirtual 385, 3) := by decide +kernel
theorem dX12_goesRound_161 : decode cX12_goesRound 161 = .ok (.invokevirtual 362, 3) := by decide +kernel
theorem dX12_goesRound_164 : decode cX12_goesRound 164 = .ok (.istore 4, 2) := by decide +kernel
theorem dX12_goesRound_166 : decode cX12_goesRound 166 = .ok (.iload 5, 2) := by decide +kernel
theorem dX12_goesRound_168 : decode cX12_goesRound 168 = .ok (.iconst 1, 1) := by decide +kernel
theorem dX12_goesRound_169 : decode cX12_goesRound 169 = .ok (.iadd, 1) := by decide +kernel
theorem dX12_goesRound_170 : decode cX12_goesRound 170 = .ok (.aload_n 0, 1) := by decide +kernel
theorem dX12_goesRound_171 : decode cX12_goesRound 171 = .ok (.getfield 17, 3) := by decide +kernel
theorem dX12_goesRound_174 : decode cX12_goesRound 174 = .ok (.irem, 1) := by decide +kernel
theorem dX12_goesRound_175 : decode cX12_goesRound 175 = .ok (.istore 5, 2) := by decide +kernel
theorem dX12_goesRound_177 : decode cX12_goesRound 177 = .ok (.aload_n 0, 1) := by decide +kernel
theorem dX12_goesRound_178 : decode cX12_goesRound 178 = .ok (.dup, 1) := by decide +kernel
theorem dX12_goesRound_179 : decode cX12_goesRound 179 = .ok (.getfield 403, 3) := by decide +kernel
theorem dX12_goesRound_182 : decode cX12_goesRound 182 = .ok (.aload_n 0, 1) := by decide +kernel
theorem dX12_goesRound_183 : decode cX12_goesRound 183 = .ok (.iload 4, 2) := by decide +kernel
theorem dX12_goesRound_185 : decode cX12_goesRound 185 = .ok (.iload_n 3, 1) := by decide +kernel
theorem dX12_goesRound_186 : decode cX12_goesRound 186 = .ok (.invokevirtual 355, 3) := by decide +kernel
theorem dX12_goesRound_189 : decode cX12_goesRound 189 = .ok (.iadd, 1) := by decide +kernel
theorem dX12_goesRound_190 : decode cX12_goesRound 190 = .ok (.putfield 403, 3) := by decide +kernel
theorem dX12_goesRound_193 : decode cX12_goesRound 193 = .ok (.iinc 7 1, 3) := by decide +kernel
theorem dX12_goesRound_196 : decode cX12_goesRound 196 = .ok (.goto (-60), 3) := by decide +kernel
theorem dX12_goesRound_199 : decode cX12_goesRound 199 = .ok (.return_, 1) := by decide +kernel
theorem dX12_divisor_0 : decode cX12_divisor 0 = .ok (.iload_n 0, 1) := by decide +kernel
theorem dX12_divisor_1 : decode cX12_divisor 1 = .ok (.ifCond .ge 8, 3) := by decide +kernel
theorem dX12_divisor_4 : decode cX12_divisor 4 = .ok (.iload_n 0, 1) := by decide +kernel
theorem dX12_divisor_5 : decode cX12_divisor 5 = .ok (.ineg, 1) := by decide +kernel
theorem dX12_divisor_6 : decode cX12_divisor 6 = .ok (.goto 4, 3) := by decide +kernel
theorem dX12_divisor_9 : decode cX12_divisor 9 = .ok (.iload_n 0, 1) := by decide +kernel
theorem dX12_divisor_10 : decode cX12_divisor 10 = .ok (.istore_n 2, 1) := by decide +kernel
theorem dX12_divisor_11 : decode cX12_divisor 11 = .ok (.iload_n 1, 1) := by decide +kernel
theorem dX12_divisor_12 : decode cX12_divisor 12 = .ok (.istore_n 3, 1) := by decide +kernel
theorem dX12_divisor_13 : decode cX12_divisor 13 = .ok (.iload_n 3, 1) := by decide +kernel
theorem dX12_divisor_14 : decode cX12_divisor 14 = .ok (.ifCond .eq 16, 3) := by decide +kernel
theorem dX12_divisor_17 : decode cX12_divisor 17 = .ok (.iload_n 2, 1) := by decide +kernel
theorem dX12_divisor_18 : decode cX12_divisor 18 = .ok (.iload_n 3, 1) := by decide +kernel
theorem dX12_divisor_19 : decode cX12_divisor 19 = .ok (.irem, 1) := by decide +kernel
theorem dX12_divisor_20 : decode cX12_divisor 20 = .ok (.istore 4, 2) := by decide +kernel
theorem dX12_divisor_22 : decode cX12_divisor 22 = .ok (.iload_n 3, 1) := by decide +kernel
theorem dX12_divisor_23 : decode cX12_divisor 23 = .ok (.istore_n 2, 1) := by decide +kernel
theorem dX12_divisor_24 : decode cX12_divisor 24 = .ok (.iload 4, 2) := by decide +kernel
theorem dX12_divisor_26 : decode cX12_divisor 26 = .ok (.istore_n 3, 1) := by decide +kernel
theorem dX12_divisor_27 : decode cX12_divisor 27 = .ok (.goto (-14), 3) := by decide +kernel
theorem dX12_divisor_30 : decode cX12_divisor 30 = .ok (.iload_n 2, 1) := by decide +kernel
theorem dX12_divisor_31 : decode cX12_divisor 31 = .ok (.ireturn, 1) := by decide +kernel
theorem dX12_mean_0 : decode cX12_mean 0 = .ok (.iload_n 1, 1) := by decide +kernel
theorem dX12_mean_1 : decode cX12_mean 1 = .ok (.i2l, 1) := by decide +kernel
theorem dX12_mean_2 : decode cX12_mean 2 = .ok (.lconst 0, 1) := by decide +kernel
theorem dX12_mean_3 : decode cX12_mean 3 = .ok (.lconst 1, 1) := by decide +kernel
theorem dX12_mean_4 : decode cX12_mean 4 = .ok (.invokestatic 140, 3) := by decide +kernel
theorem dX12_mean_7 : decode cX12_mean 7 = .ok (.ifCond .ne 35, 3) := by decide +kernel
theorem dX12_mean_10 : decode cX12_mean 10 = .ok (.iload_n 1, 1) := by decide +kernel
theorem dX12_mean_11 : decode cX12_mean 11 = .ok (.i2l, 1) := by decide +kernel
theorem dX12_mean_12 : decode cX12_mean 12 = .ok (.ldc2_w 390, 3) := by decide +kernel
theorem dX12_mean_15 : decode cX12_mean 15 = .ok (.ldc2_w 392, 3) := by decide +kernel
theorem dX12_mean_18 : decode cX12_mean 18 = .ok (.invokestatic 140, 3) := by decide +kernel
theorem dX12_mean_21 : decode cX12_mean 21 = .ok (.ifCond .ne 21, 3) := by decide +kernel
theorem dX12_mean_24 : decode cX12_mean 24 = .ok (.iload_n 1, 1) := by decide +kernel
theorem dX12_mean_25 : decode cX12_mean 25 = .ok (.i2l, 1) := by decide +kernel
theorem dX12_mean_26 : decode cX12_mean 26 = .ok (.ldc2_w 406, 3) := by decide +kernel
theorem dX12_mean_29 : decode cX12_mean 29 = .ok (.ldc2_w 408, 3) := by decide +kernel
theorem dX12_mean_32 : decode cX12_mean 32 = .ok (.invokestatic 140, 3) := by decide +kernel
theorem dX12_mean_35 : decode cX12_mean 35 = .ok (.ifCond .ne 7, 3) := by decide +kernel
theorem dX12_mean_38 : decode cX12_mean 38 = .ok (.ldc_w 384, 3) := by decide +kernel
theorem dX12_mean_41 : decode cX12_mean 41 = .ok (.ireturn, 1) := by decide +kernel
theorem dX12_mean_42 : decode cX12_mean 42 = .ok (.aload_n 0, 1) := by decide +kernel
theorem dX12_mean_43 : decode cX12_mean 43 = .ok (.aload_n 0, 1) := by decide +kernel
theorem dX12_mean_44 : decode cX12_mean 44 = .ok (.getfield 158, 3) := by decide +kernel
theorem dX12_mean_47 : decode cX12_mean 47 = .ok (.aload_n 0, 1) := by decide +kernel
theorem dX12_mean_48 : decode cX12_mean 48 = .ok (.getfield 172, 3) := by decide +kernel
theorem dX12_mean_51 : decode cX12_mean 51 = .ok (.iload_n 1, 1) := by decide +kernel
theorem dX12_mean_52 : decode cX12_mean 52 = .ok (.bipush 10, 2) := by decide +kernel
theorem dX12_mean_54 : decode cX12_mean 54 = .ok (.irem, 1) := by decide +kernel
theorem dX12_mean_55 : decode cX12_mean 55 = .ok (.iconst 4, 1) := by decide +kernel
theorem dX12_mean_56 : decode cX12_mean 56 = .ok (.if_icmp .ge 10, 3) := by decide +kernel
theorem dX12_mean_59 : decode cX12_mean 59 = .ok (.iload_n 1, 1) := by decide +kernel
theorem dX12_mean_60 : decode cX12_mean 60 = .ok (.bipush 10, 2) := by decide +kernel
theorem dX12_mean_62 : decode cX12_mean 62 = .ok (.irem, 1) := by decide +kernel
theorem dX12_mean_63 : decode cX12_mean 63 = .ok (.goto 4, 3) := by decide +kernel
theorem dX12_mean_66 : decode cX12_mean 66 = .ok (.iconst 0, 1) := by decide +kernel
theorem dX12_mean_67 : decode cX12_mean 67 = .ok (.invokevirtual 410, 3) := by decide +kernel
theorem dX12_mean_70 : decode cX12_mean 70 = .ok (.iload_n 1, 1) := by decide +kernel
theorem dX12_mean_71 : decode cX12_mean 71 = .ok (.iconst 2, 1) := by decide +kernel
theorem dX12_mean_72 : decode cX12_mean 72 = .ok (.if_icmp .ge 19, 3) := by decide +kernel
theorem dX12_mean_75 : decode cX12_mean 75 = .ok (.iload_n 1, 1) := by decide +kernel
theorem dX12_mean_76 : decode cX12_mean 76 = .ok (.ifCond .ne 10, 3) := by decide +kernel
theorem dX12_mean_79 : decode cX12_mean 79 = .ok (.aload_n 0, 1) := by decide +kernel
theorem dX12_mean_80 : decode cX12_mean 80 = .ok (.getfield 397, 3) := by decide +kernel
theorem dX12_mean_83 : decode cX12_mean 83 = .ok (.goto 7, 3) := by decide +kernel
theorem dX12_mean_86 : decode cX12_mean 86 = .ok (.aload_n 0, 1) := by decide +kernel
theorem dX12_mean_87 : decode cX12_mean 87 = .ok (.getfield 400, 3) := by decide +kernel
theorem dX12_mean_90 : decode cX12_mean 90 = .ok (.ireturn, 1) := by decide +kernel
theorem dX12_mean_91 : decode cX12_mean 91 = .ok (.aload_n 0, 1) := by decide +kernel
theorem dX12_mean_92 : decode cX12_mean 92 = .ok (.getfield 403, 3) := by decide +kernel
theorem dX12_mean_95 : decode cX12_mean 95 = .ok (.aload_n 0, 1) := by decide +kernel
theorem dX12_mean_96 : decode cX12_mean 96 = .ok (.getfield 400, 3) := by decide +kernel
theorem dX12_mean_99 : decode cX12_mean 99 = .ok (.invokestatic 414, 3) := by decide +kernel
theorem dX12_mean_102 : decode cX12_mean 102 = .ok (.istore_n 2, 1) := by decide +kernel
theorem dX12_mean_103 : decode cX12_mean 103 = .ok (.iload_n 1, 1) := by decide +kernel
theorem dX12_mean_104 : decode cX12_mean 104 = .ok (.bipush 20, 2) := by decide +kernel
theorem dX12_mean_106 : decode cX12_mean 106 = .ok (.if_icmp .ge 12, 3) := by decide +kernel
theorem dX12_mean_109 : decode cX12_mean 109 = .ok (.aload_n 0, 1) := by decide +kernel
theorem dX12_mean_110 : decode cX12_mean 110 = .ok (.getfield 403, 3) := by decide +kernel
theorem dX12_mean_113 : decode cX12_mean 113 = .ok (.iload_n 2, 1) := by decide +kernel
theorem dX12_mean_114 : decode cX12_mean 114 = .ok (.idiv, 1) := by decide +kernel
theorem dX12_mean_115 : decode cX12_mean 115 = .ok (.goto 9, 3) := by decide +kernel
theorem dX12_mean_118 : decode cX12_mean 118 = .ok (.aload_n 0, 1) := by decide +kernel
theorem dX12_mean_119 : decode cX12_mean 119 = .ok (.getfield 400, 3) := by decide +kernel
theorem dX12_mean_122 : decode cX12_mean 122 = .ok (.iload_n 2, 1) := by decide +kernel
theorem dX12_mean_123 : decode cX12_mean 123 = .ok (.idiv, 1) := by decide +kernel
theorem dX12_mean_124 : decode cX12_mean 124 = .ok (.ireturn, 1) := by decide +kernel
/-! f_X12_mayMake -/
noncomputable def lp_X12_mayMake_2 (a1 : Int32) (a2 : Int32) (s0 : SS) (k1 : Res) : Nat → Int32 → Res
  | 0, _ => none
  | n16 + 1, v15 => if (s0 56 2 : Int32) ≤ (v15 : Int32) then k1 else bdp (f_X12_has (s0 56 50) v15 s0) (fun (v18 : Int32) => jn (lp_X12_mayMake_2 a1 a2 s0 k1 n16 (v15 + 1)) (fun (k19 : Res) => if (v18 : Int32) = 0 then k19 else gd (inb v15 8) (bdp (f_X12_has (s0 60 (Int32.toNatClampNeg v15)) a1 s0) (fun (v21 : Int32) => if (v21 : Int32) = 0 then gd (inb v15 8) (bdp (f_X12_has (s0 61 (Int32.toNatClampNeg v15)) a2 s0) (fun (v23 : Int32) => if (v23 : Int32) = 0 then k19 else some (0, s0))) else some (0, s0)))))
noncomputable def f_X12_mayMake (a1 : Int32) (a2 : Int32) (s0 : SS) : Res := jn (lts (up s0 56 40 a1) (fun (s2 : SS) => lts (up s2 56 41 a2) (fun (s3 : SS) => bdp (f_X12_oftenOf a1 s3) (fun (v4 : Int32) => lts (up s3 56 42 v4) (fun (s5 : SS) => bdp (f_X12_has (s5 56 50) a1 s5) (fun (v6 : Int32) => jn (fun (v7 : Int32) => lts (up s5 56 43 v7) (fun (s9 : SS) => lts (up s9 56 44 0) (fun (s10 : SS) => bd (f_X12_tells 109 0 1 s10) (fun (v11 : Int32) (s12 : SS) => if (v11 : Int32) ≤ 0 then some (0, s12) else some (1, s12))))) (fun (k8 : Int32 → Res) => if (v6 : Int32) = 0 then k8 0 else k8 1))))))) (fun (k1 : Res) => lp_X12_mayMake_2 a1 a2 s0 k1 FU 0)
set_option maxRecDepth 100000 in
set_option maxHeartbeats 4000000 in
theorem t_lp_X12_mayMake_2 {l : Launch} (a1 : Int32) (a2 : Int32) (s0 : SS) (k1 : Res) (hk1 : RC l wF RX12 cX12_mayMake 4 (some .boolean) 4 55 [.ref 56, .int a1, .int a2, .null] [] s0 k1) : ∀ (n16 : Nat) (v15 : Int32), RC l wF RX12 cX12_mayMake 4 (some .boolean) 4 2 [.ref 56, .int a1, .int a2, .int v15] [] s0 (lp_X12_mayMake_2 a1 a2 s0 k1 n16 v15) := by
  intro n16
  induction n16 with
  | zero =>
    intro v15
    rw [lp_X12_mayMake_2]
    exact r_none
  | succ n16 ih =>
    intro v15
    rw [lp_X12_mayMake_2]
    refine r_iload_n (pc1 := 3) (i := 3) dX12_mayMake_2 rfl rfl rfl ?_
    refine r_aload_n (pc1 := 4) (i := 0) dX12_mayMake_3 rfl rfl rfl ?_
    refine r_getI (pc1 := 7) w_56 gfX12_144 rfl dX12_mayMake_4 rfl ?_
    refine r_icmp_ge (tgt := 55) (pc1 := 10) dX12_mayMake_7 (by decide) rfl (fun q17 => ?_) (fun q17 => ?_)
    · exact r_wk (hk1) ⟨Or.inr rfl, Or.inr rfl, Or.inr rfl, Or.inl rfl, trivial⟩
    · refine r_aload_n (pc1 := 11) (i := 0) dX12_mayMake_10 rfl rfl rfl ?_
      refine r_getI (pc1 := 14) w_56 gfX12_332 rfl dX12_mayMake_11 rfl ?_
      refine r_iload_n (pc1 := 15) (i := 3) dX12_mayMake_14 rfl rfl rfl ?_
      refine r_callSp (pc1 := 18) lkX12_335 (c_X12_has _ _ _) rfl rfl ⟨Nat.le_of_ble_eq_true rfl, Nat.le_of_ble_eq_true rfl⟩ (Nat.le_of_ble_eq_true rfl) dX12_mayMake_15 rfl (fun v18 => ?_)
      refine r_jn (hyp := fun (k19 : Res) => RC l wF RX12 cX12_mayMake 4 (some .boolean) 4 49 [.ref 56, .int a1, .int a2, .int v15] [] s0 k19) (?_) (fun k19 hk19 => ?_)
      · refine r_iinc (pc1 := 52) dX12_mayMake_49 rfl (kn_1 _) (by decide) rfl rfl rfl ?_
        refine r_goto (tgt := 2) dX12_mayMake_52 (by decide) ?_
        exact r_wk (ih (v15 + 1)) ⟨Or.inr rfl, Or.inr rfl, Or.inr rfl, Or.inr rfl, trivial⟩
      · refine r_if_eq (tgt := 49) (pc1 := 21) dX12_mayMake_18 (by decide) rfl (fun q20 => ?_) (fun q20 => ?_)
        · exact r_wk (hk19) ⟨Or.inr rfl, Or.inr rfl, Or.inr rfl, Or.inr rfl, trivial⟩
        · refine r_aload_n (pc1 := 22) (i := 0) dX12_mayMake_21 rfl rfl rfl ?_
          refine r_getR (pc1 := 25) w_56 gfX12_30 rfl dX12_mayMake_22 rfl ?_
          refine r_iload_n (pc1 := 26) (i := 3) dX12_mayMake_25 rfl rfl rfl ?_
          refine r_iald (pc1 := 27) w_60 dX12_mayMake_26 rfl ?_
          refine r_iload_n (pc1 := 28) (i := 1) dX12_mayMake_27 rfl rfl rfl ?_
          refine r_callSp (pc1 := 31) lkX12_335 (c_X12_has _ _ _) rfl rfl ⟨Nat.le_of_ble_eq_true rfl, Nat.le_of_ble_eq_true rfl⟩ (Nat.le_of_ble_eq_true rfl) dX12_mayMake_28 rfl (fun v21 => ?_)
          refine r_if_ne (tgt := 47) (pc1 := 34) dX12_mayMake_31 (by decide) rfl (fun q22 => ?_) (fun q22 => ?_)
          · refine r_aload_n (pc1 := 35) (i := 0) dX12_mayMake_34 rfl rfl rfl ?_
            refine r_getR (pc1 := 38) w_56 gfX12_33 rfl dX12_mayMake_35 rfl ?_
            refine r_iload_n (pc1 := 39) (i := 3) dX12_mayMake_38 rfl rfl rfl ?_
            refine r_iald (pc1 := 40) w_61 dX12_mayMake_39 rfl ?_
            refine r_iload_n (pc1 := 41) (i := 2) dX12_mayMake_40 rfl rfl rfl ?_
            refine r_callSp (pc1 := 44) lkX12_335 (c_X12_has _ _ _) rfl rfl ⟨Nat.le_of_ble_eq_true rfl, Nat.le_of_ble_eq_true rfl⟩ (Nat.le_of_ble_eq_true rfl) dX12_mayMake_41 rfl (fun v23 => ?_)
            refine r_if_eq (tgt := 49) (pc1 := 47) dX12_mayMake_44 (by decide) rfl (fun q24 => ?_) (fun q24 => ?_)
            · exact r_wk (hk19) ⟨Or.inr rfl, Or.inr rfl, Or.inr rfl, Or.inr rfl, trivial⟩
            · refine r_iconst (v := 0) (pc1 := 48) dX12_mayMake_47 ki_0 rfl ?_
              exact r_iret rfl rfl dX12_mayMake_48
          · refine r_iconst (v := 0) (pc1 := 48) dX12_mayMake_47 ki_0 rfl ?_
            exact r_iret rfl rfl dX12_mayMake_48
set_option maxRecDepth 100000 in
set_option maxHeartbeats 4000000 in
theorem c_X12_mayMake {l : Launch} (a1 : Int32) (a2 : Int32) (s0 : SS) : Ct l wF yX12_mayMake cX12_mayMake 4 (some .boolean) 4 [.ref 56, .int a1, .int a2] s0 (f_X12_mayMake a1 a2 s0) := by
  refine ct_of (y := yX12_mayMake) plX12 (Nat.le_of_ble_eq_true rfl) ?_
  refine r_pad0 1 (L1 := [.ref 56, .int a1, .int a2, .null]) rfl ?_
  unfold f_X12_mayMake
  refine r_iconst (v := 0) (pc1 := 1) dX12_mayMake_0 ki_0 rfl ?_
  refine r_istore_n (pc1 := 2) (i := 3) dX12_mayMake_1 rfl (by decide) rfl rfl rfl ?_
  refine r_jn (hyp := fun (k1 : Res) => RC l wF RX12 cX12_mayMake 4 (some .boolean) 4 55 [.ref 56, .int a1, .int a2, .null] [] s0 k1) (?_) (fun k1 hk1 => ?_)
  · refine r_aload_n (pc1 := 56) (i := 0) dX12_mayMake_55 rfl rfl rfl ?_
    refine r_iload_n (pc1 := 57) (i := 1) dX12_mayMake_56 rfl rfl rfl ?_
    refine r_putI (pc1 := 60) w_56 pfX12_291 rfl ⟨rfl, rfl⟩ dX12_mayMake_57 rfl ?_
    refine r_lts (fun s2 => ?_)
    refine r_aload_n (pc1 := 61) (i := 0) dX12_mayMake_60 rfl rfl rfl ?_
    refine r_iload_n (pc1 := 62) (i := 2) dX12_mayMake_61 rfl rfl rfl ?_
    refine r_putI (pc1 := 65) w_56 pfX12_294 rfl ⟨rfl, rfl⟩ dX12_mayMake_62 rfl ?_
    refine r_lts (fun s3 => ?_)
    refine r_aload_n (pc1 := 66) (i := 0) dX12_mayMake_65 rfl rfl rfl ?_
    refine r_aload_n (pc1 := 67) (i := 0) dX12_mayMake_66 rfl rfl rfl ?_
    refine r_iload_n (pc1 := 68) (i := 1) dX12_mayMake_67 rfl rfl rfl ?_
    refine r_callVp (pc1 := 71) (rv_of w_56 cl_12) lkX12_342 (c_X12_oftenOf _ _) rfl rfl ⟨Nat.le_of_ble_eq_true rfl, Nat.le_of_ble_eq_true rfl⟩ (Nat.le_of_ble_eq_true rfl) dX12_mayMake_68 rfl (fun v4 => ?_)
    refine r_putI (pc1 := 74) w_56 pfX12_300 rfl ⟨rfl, rfl⟩ dX12_mayMake_71 rfl ?_
    refine r_lts (fun s5 => ?_)
    refine r_aload_n (pc1 := 75) (i := 0) dX12_mayMake_74 rfl rfl rfl ?_
    refine r_aload_n (pc1 := 76) (i := 0) dX12_mayMake_75 rfl rfl rfl ?_
    refine r_getI (pc1 := 79) w_56 gfX12_332 rfl dX12_mayMake_76 rfl ?_
    refine r_iload_n (pc1 := 80) (i := 1) dX12_mayMake_79 rfl rfl rfl ?_
    refine r_callSp (pc1 := 83) lkX12_335 (c_X12_has _ _ _) rfl rfl ⟨Nat.le_of_ble_eq_true rfl, Nat.le_of_ble_eq_true rfl⟩ (Nat.le_of_ble_eq_true rfl) dX12_mayMake_80 rfl (fun v6 => ?_)
    refine r_jn (hyp := fun (k8 : Int32 → Res) => ∀ (v7 : Int32), RC l wF RX12 cX12_mayMake 4 (some .boolean) 4 91 [.ref 56, .null, .null, .null] [.int v7, .ref 56] s5 (k8 v7)) (fun v7 => ?_) (fun k8 hk8 => ?_)
    · refine r_putI (pc1 := 94) w_56 pfX12_303 rfl ⟨rfl, rfl⟩ dX12_mayMake_91 rfl ?_
      refine r_lts (fun s9 => ?_)
      refine r_aload_n (pc1 := 95) (i := 0) dX12_mayMake_94 rfl rfl rfl ?_
      refine r_iconst (v := 0) (pc1 := 96) dX12_mayMake_95 ki_0 rfl ?_
      refine r_putI (pc1 := 99) w_56 pfX12_306 rfl ⟨rfl, rfl⟩ dX12_mayMake_96 rfl ?_
      refine r_lts (fun s10 => ?_)
      refine r_aload_n (pc1 := 100) (i := 0) dX12_mayMake_99 rfl rfl rfl ?_
      refine r_bipush (v := 109) (pc1 := 102) dX12_mayMake_100 kb_109 rfl ?_
      refine r_iconst (v := 0) (pc1 := 103) dX12_mayMake_102 ki_0 rfl ?_
      refine r_iconst (v := 1) (pc1 := 104) dX12_mayMake_103 ki_1 rfl ?_
      refine r_callVi (pc1 := 107) (rv_of w_56 cl_12) lkX12_345 (c_X12_tells _ _ _ _) rfl rfl ⟨Nat.le_of_ble_eq_true rfl, Nat.le_of_ble_eq_true rfl⟩ (Nat.le_of_ble_eq_true rfl) dX12_mayMake_104 rfl (fun v11 s12 => ?_)
      refine r_if_le (tgt := 114) (pc1 := 110) dX12_mayMake_107 (by decide) rfl (fun q13 => ?_) (fun q13 => ?_)
      · refine r_iconst (v := 0) (pc1 := 115) dX12_mayMake_114 ki_0 rfl ?_
        exact r_iret rfl rfl dX12_mayMake_115
      · refine r_iconst (v := 1) (pc1 := 111) dX12_mayMake_110 ki_1 rfl ?_
        refine r_goto (tgt := 115) dX12_mayMake_111 (by decide) ?_
        exact r_iret rfl rfl dX12_mayMake_115
    · refine r_if_eq (tgt := 90) (pc1 := 86) dX12_mayMake_83 (by decide) rfl (fun q14 => ?_) (fun q14 => ?_)
      · refine r_iconst (v := 0) (pc1 := 91) dX12_mayMake_90 ki_0 rfl ?_
        exact r_wk (hk8 0) ⟨Or.inr rfl, Or.inl rfl, Or.inl rfl, Or.inl rfl, trivial⟩
      · refine r_iconst (v := 1) (pc1 := 87) dX12_mayMake_86 ki_1 rfl ?_
        refine r_goto (tgt := 91) dX12_mayMake_87 (by decide) ?_
        exact r_wk (hk8 1) ⟨Or.inr rfl, Or.inl rfl, Or.inl rfl, Or.inl rfl, trivial⟩
  · exact r_wk (t_lp_X12_mayMake_2 a1 a2 s0 k1 hk1 FU 0) ⟨Or.inr rfl, Or.inr rfl, Or.inr rfl, Or.inr rfl, trivial⟩
/-! f_X12_mayOf -/
noncomputable def lp_X12_mayOf_33 (a2 : Int32) (v1 : Int32) (k7 : Int32 → SS → Res) : Nat → Int32 → Int32 → SS → Res
  | 0, _, _, _ => none
  | n13 + 1, v10, v11, s12 => if (s12 56 2 : Int32) ≤ (v11 : Int32) then k7 v10 s12 else bd (f_X12_mayMake v11 a2 s12) (fun (v15 : Int32) (s16 : SS) => jn (fun (v17 : Int32) => lt (v10 ||| v17) (fun (v19 : Int32) => lp_X12_mayOf_33 a2 v1 k7 n13 v19 (v11 + 1) s16)) (fun (k18 : Int32 → Res) => if (v15 : Int32) = 0 then k18 0 else k18 (1 <<< (v11 &&& 31))))
noncomputable def f_X12_mayOf (a1 : Int32) (a2 : Int32) (s0 : SS) : Res := lt ((4 * a1) + a2) (fun (v1 : Int32) => gd (inb v1 18724) (if (s0 83 (Int32.toNatClampNeg v1) : Int32) = 0 then bd (f_X12_laysRow a1 s0) (fun (v3 : Int32) (s4 : SS) => jn (fun (v5 : Int32) (s6 : SS) => gd (inb v1 18724) (lts (up s6 83 (Int32.toNatClampNeg v1) (vp_nar .boolean 1)) (fun (s8 : SS) => gd (inb v1 18724) (lts (up s8 84 (Int32.toNatClampNeg v1) v5) (fun (s9 : SS) => some (v5, s9)))))) (fun (k7 : Int32 → SS → Res) => lp_X12_mayOf_33 a2 v1 k7 FU 0 0 s4)) else gd (inb v1 18724) (some (s0 84 (Int32.toNatClampNeg v1), s0))))
set_option maxRecDepth 100000 in
set_option maxHeartbeats 4000000 in
theorem t_lp_X12_mayOf_33 {l : Launch} (a2 : Int32) (v1 : Int32) (k7 : Int32 → SS → Res) (hk7 : ∀ (v5 : Int32) (s6 : SS), RC l wF RX12 cX12_mayOf 6 (some .int) 5 71 [.ref 56, .null, .null, .int v1, .int v5, .null] [] s6 (k7 v5 s6)) : ∀ (n13 : Nat) (v10 : Int32) (v11 : Int32) (s12 : SS), RC l wF RX12 cX12_mayOf 6 (some .int) 5 33 [.ref 56, .null, .int a2, .int v1, .int v10, .int v11] [] s12 (lp_X12_mayOf_33 a2 v1 k7 n13 v10 v11 s12) := by
  intro n13
  induction n13 with
  | zero =>
    intro v10 v11 s12
    rw [lp_X12_mayOf_33]
    exact r_none
  | succ n13 ih =>
    intro v10 v11 s12
    rw [lp_X12_mayOf_33]
    refine r_iload (pc1 := 35) dX12_mayOf_33 rfl rfl ?_
    refine r_aload_n (pc1 := 36) (i := 0) dX12_mayOf_35 rfl rfl rfl ?_
    refine r_getI (pc1 := 39) w_56 gfX12_144 rfl dX12_mayOf_36 rfl ?_
    refine r_icmp_ge (tgt := 71) (pc1 := 42) dX12_mayOf_39 (by decide) rfl (fun q14 => ?_) (fun q14 => ?_)
    · exact r_wk (hk7 v10 s12) ⟨Or.inr rfl, Or.inl rfl, Or.inl rfl, Or.inr rfl, Or.inr rfl, Or.inl rfl, trivial⟩
    · refine r_iload (pc1 := 44) dX12_mayOf_42 rfl rfl ?_
      refine r_aload_n (pc1 := 45) (i := 0) dX12_mayOf_44 rfl rfl rfl ?_
      refine r_iload (pc1 := 47) dX12_mayOf_45 rfl rfl ?_
      refine r_iload_n (pc1 := 48) (i := 2) dX12_mayOf_47 rfl rfl rfl ?_
      refine r_callVi (pc1 := 51) (rv_of w_56 cl_12) lkX12_352 (c_X12_mayMake _ _ _) rfl rfl ⟨Nat.le_of_ble_eq_true rfl, Nat.le_of_ble_eq_true rfl⟩ (Nat.le_of_ble_eq_true rfl) dX12_mayOf_48 rfl (fun v15 s16 => ?_)
      refine r_jn (hyp := fun (k18 : Int32 → Res) => ∀ (v17 : Int32), RC l wF RX12 cX12_mayOf 6 (some .int) 5 62 [.ref 56, .null, .int a2, .int v1, .null, .int v11] [.int v17, .int v10] s16 (k18 v17)) (fun v17 => ?_) (fun k18 hk18 => ?_)
      · refine r_ior (pc1 := 63) dX12_mayOf_62 rfl ?_
        refine r_lt (fun v19 => ?_)
        refine r_istore (pc1 := 65) dX12_mayOf_63 (by decide) rfl rfl rfl ?_
        refine r_iinc (pc1 := 68) dX12_mayOf_65 rfl (kn_1 _) (by decide) rfl rfl rfl ?_
        refine r_goto (tgt := 33) dX12_mayOf_68 (by decide) ?_
        exact r_wk (ih v19 (v11 + 1) s16) ⟨Or.inr rfl, Or.inl rfl, Or.inr rfl, Or.inr rfl, Or.inr rfl, Or.inr rfl, trivial⟩
      · refine r_if_eq (tgt := 61) (pc1 := 54) dX12_mayOf_51 (by decide) rfl (fun q20 => ?_) (fun q20 => ?_)
        · refine r_iconst (v := 0) (pc1 := 62) dX12_mayOf_61 ki_0 rfl ?_
          exact r_wk (hk18 0) ⟨Or.inr rfl, Or.inl rfl, Or.inr rfl, Or.inr rfl, Or.inl rfl, Or.inr rfl, trivial⟩
        · refine r_iconst (v := 1) (pc1 := 55) dX12_mayOf_54 ki_1 rfl ?_
          refine r_iload (pc1 := 57) dX12_mayOf_55 rfl rfl ?_
          refine r_ishl (pc1 := 58) dX12_mayOf_57 rfl ?_
          refine r_goto (tgt := 62) dX12_mayOf_58 (by decide) ?_
          exact r_wk (hk18 (1 <<< (v11 &&& 31))) ⟨Or.inr rfl, Or.inl rfl, Or.inr rfl, Or.inr rfl, Or.inl rfl, Or.inr rfl, trivial⟩
set_option maxRecDepth 100000 in
set_option maxHeartbeats 4000000 in
theorem c_X12_mayOf {l : Launch} (a1 : Int32) (a2 : Int32) (s0 : SS) : Ct l wF yX12_mayOf cX12_mayOf 6 (some .int) 5 [.ref 56, .int a1, .int a2] s0 (f_X12_mayOf a1 a2 s0) := by
  refine ct_of (y := yX12_mayOf) plX12 (Nat.le_of_ble_eq_true rfl) ?_
  refine r_pad0 3 (L1 := [.ref 56, .int a1, .int a2, .null, .null, .null]) rfl ?_
  unfold f_X12_mayOf
  refine r_iconst (v := 4) (pc1 := 1) dX12_mayOf_0 ki_4 rfl ?_
  refine r_iload_n (pc1 := 2) (i := 1) dX12_mayOf_1 rfl rfl rfl ?_
  refine r_imul (pc1 := 3) dX12_mayOf_2 rfl ?_
  refine r_iload_n (pc1 := 4) (i := 2) dX12_mayOf_3 rfl rfl rfl ?_
  refine r_iadd (pc1 := 5) dX12_mayOf_4 rfl ?_
  refine r_lt (fun v1 => ?_)
  refine r_istore_n (pc1 := 6) (i := 3) dX12_mayOf_5 rfl (by decide) rfl rfl rfl ?_
  refine r_aload_n (pc1 := 7) (i := 0) dX12_mayOf_6 rfl rfl rfl ?_
  refine r_getR (pc1 := 10) w_56 gfX12_100 rfl dX12_mayOf_7 rfl ?_
  refine r_iload_n (pc1 := 11) (i := 3) dX12_mayOf_10 rfl rfl rfl ?_
  refine r_zald (pc1 := 12) w_83 dX12_mayOf_11 rfl ?_
  refine r_if_eq (tgt := 22) (pc1 := 15) dX12_mayOf_12 (by decide) rfl (fun q2 => ?_) (fun q2 => ?_)
  · refine r_aload_n (pc1 := 23) (i := 0) dX12_mayOf_22 rfl rfl rfl ?_
    refine r_iload_n (pc1 := 24) (i := 1) dX12_mayOf_23 rfl rfl rfl ?_
    refine r_callVv (pc1 := 27) (rv_of w_56 cl_12) lkX12_339 (c_X12_laysRow _ _) rfl rfl ⟨Nat.le_of_ble_eq_true rfl, Nat.le_of_ble_eq_true rfl⟩ (Nat.le_of_ble_eq_true rfl) dX12_mayOf_24 rfl (fun v3 s4 => ?_)
    refine r_iconst (v := 0) (pc1 := 28) dX12_mayOf_27 ki_0 rfl ?_
    refine r_istore (pc1 := 30) dX12_mayOf_28 (by decide) rfl rfl rfl ?_
    refine r_iconst (v := 0) (pc1 := 31) dX12_mayOf_30 ki_0 rfl ?_
    refine r_istore (pc1 := 33) dX12_mayOf_31 (by decide) rfl rfl rfl ?_
    refine r_jn (hyp := fun (k7 : Int32 → SS → Res) => ∀ (v5 : Int32) (s6 : SS), RC l wF RX12 cX12_mayOf 6 (some .int) 5 71 [.ref 56, .null, .null, .int v1, .int v5, .null] [] s6 (k7 v5 s6)) (fun v5 s6 => ?_) (fun k7 hk7 => ?_)
    · refine r_aload_n (pc1 := 72) (i := 0) dX12_mayOf_71 rfl rfl rfl ?_
      refine r_getR (pc1 := 75) w_56 gfX12_100 rfl dX12_mayOf_72 rfl ?_
      refine r_iload_n (pc1 := 76) (i := 3) dX12_mayOf_75 rfl rfl rfl ?_
      refine r_iconst (v := 1) (pc1 := 77) dX12_mayOf_76 ki_1 rfl ?_
      refine r_zast (pc1 := 78) w_83 dX12_mayOf_77 rfl ?_
      refine r_lts (fun s8 => ?_)
      refine r_aload_n (pc1 := 79) (i := 0) dX12_mayOf_78 rfl rfl rfl ?_
      refine r_getR (pc1 := 82) w_56 gfX12_103 rfl dX12_mayOf_79 rfl ?_
      refine r_iload_n (pc1 := 83) (i := 3) dX12_mayOf_82 rfl rfl rfl ?_
      refine r_iload (pc1 := 85) dX12_mayOf_83 rfl rfl ?_
      refine r_iast (pc1 := 86) w_84 dX12_mayOf_85 rfl ?_
      refine r_lts (fun s9 => ?_)
      refine r_iload (pc1 := 88) dX12_mayOf_86 rfl rfl ?_
      exact r_iret rfl rfl dX12_mayOf_88
    · exact r_wk (t_lp_X12_mayOf_33 a2 v1 k7 hk7 FU 0 0 s4) ⟨Or.inr rfl, Or.inl rfl, Or.inr rfl, Or.inr rfl, Or.inr rfl, Or.inr rfl, trivial⟩
  · refine r_aload_n (pc1 := 16) (i := 0) dX12_mayOf_15 rfl rfl rfl ?_
    refine r_getR (pc1 := 19) w_56 gfX12_103 rfl dX12_mayOf_16 rfl ?_
    refine r_iload_n (pc1 := 20) (i := 3) dX12_mayOf_19 rfl rfl rfl ?_
    refine r_iald (pc1 := 21) w_84 dX12_mayOf_20 rfl ?_
    exact r_iret rfl rfl dX12_mayOf_21
/-! f_X12_may -/
noncomputable def f_X12_may (a1 : Int32) (s0 : SS) : Res := bdp (f_X12_isMaker a1 s0) (fun (v1 : Int32) => if (v1 : Int32) = 0 then some ((-1), s0) else bd (f_X12_mayOf (s0 56 4) a1 s0) (fun (v3 : Int32) (s4 : SS) => some (v3, s4)))
set_option maxRecDepth 100000 in
set_option maxHeartbeats 4000000 in
theorem c_X12_may {l : Launch} (a1 : Int32) (s0 : SS) : Ct l wF yX12_may cX12_may 2 (some .int) 6 [.ref 56, .int a1] s0 (f_X12_may a1 s0) := by
  refine ct_of (y := yX12_may) plX12 (Nat.le_of_ble_eq_true rfl) ?_
  refine r_pad0 0 (L1 := [.ref 56, .int a1]) rfl ?_
  unfold f_X12_may
  refine r_iload_n (pc1 := 1) (i := 1) dX12_may_0 rfl rfl rfl ?_
  refine r_callSp (pc1 := 4) lkX12_168 (c_X12_isMaker _ _) rfl rfl ⟨Nat.le_of_ble_eq_true rfl, Nat.le_of_ble_eq_true rfl⟩ (Nat.le_of_ble_eq_true rfl) dX12_may_1 rfl (fun v1 => ?_)
  refine r_if_eq (tgt := 19) (pc1 := 7) dX12_may_4 (by decide) rfl (fun q2 => ?_) (fun q2 => ?_)
  · refine r_iconst (v := (-1)) (pc1 := 20) dX12_may_19 ki_m1 rfl ?_
    exact r_iret rfl rfl dX12_may_20
  · refine r_aload_n (pc1 := 8) (i := 0) dX12_may_7 rfl rfl rfl ?_
    refine r_aload_n (pc1 := 9) (i := 0) dX12_may_8 rfl rfl rfl ?_
    refine r_getI (pc1 := 12) w_56 gfX12_158 rfl dX12_may_9 rfl ?_
    refine r_iload_n (pc1 := 13) (i := 1) dX12_may_12 rfl rfl rfl ?_
    refine r_callVi (pc1 := 16) (rv_of w_56 cl_12) lkX12_359 (c_X12_mayOf _ _ _) rfl rfl ⟨Nat.le_of_ble_eq_true rfl, Nat.le_of_ble_eq_true rfl⟩ (Nat.le_of_ble_eq_true rfl) dX12_may_13 rfl (fun v3 s4 => ?_)
    refine r_goto (tgt := 20) dX12_may_16 (by decide) ?_
    exact r_iret rfl rfl dX12_may_20
/-! f_X12_oldestOf -/
noncomputable def f_X12_oldestOf (a1 : Int32) (s0 : SS) : Res := bd (f_X12_laysRow a1 s0) (fun (v1 : Int32) (s2 : SS) => if (s2 56 48 : Int32) = 0 then some (8, s2) else gd (inb 0 4) (some (s2 80 (Int32.toNatClampNeg 0), s2)))
set_option maxRecDepth 100000 in
set_option maxHeartbeats 4000000 in
theorem c_X12_oldestOf {l : Launch} (a1 : Int32) (s0 : SS) : Ct l wF yX12_oldestOf cX12_oldestOf 2 (some .int) 2 [.ref 56, .int a1] s0 (f_X12_oldestOf a1 s0) := by
  refine ct_of (y := yX12_oldestOf) plX12 (Nat.le_of_ble_eq_true rfl) ?_
  refine r_pad0 0 (L1 := [.ref 56, .int a1]) rfl ?_
  unfold f_X12_oldestOf
  refine r_aload_n (pc1 := 1) (i := 0) dX12_oldestOf_0 rfl rfl rfl ?_
  refine r_iload_n (pc1 := 2) (i := 1) dX12_oldestOf_1 rfl rfl rfl ?_
  refine r_callVv (pc1 := 5) (rv_of w_56 cl_12) lkX12_339 (c_X12_laysRow _ _) rfl rfl ⟨Nat.le_of_ble_eq_true rfl, Nat.le_of_ble_eq_true rfl⟩ (Nat.le_of_ble_eq_true rfl) dX12_oldestOf_2 rfl (fun v1 s2 => ?_)
  refine r_aload_n (pc1 := 6) (i := 0) dX12_oldestOf_5 rfl rfl rfl ?_
  refine r_getI (pc1 := 9) w_56 gfX12_297 rfl dX12_oldestOf_6 rfl ?_
  refine r_if_ne (tgt := 17) (pc1 := 12) dX12_oldestOf_9 (by decide) rfl (fun q3 => ?_) (fun q3 => ?_)
  · refine r_bipush (v := 8) (pc1 := 14) dX12_oldestOf_12 kb_8 rfl ?_
    refine r_goto (tgt := 23) dX12_oldestOf_14 (by decide) ?_
    exact r_iret rfl rfl dX12_oldestOf_23
  · refine r_aload_n (pc1 := 18) (i := 0) dX12_oldestOf_17 rfl rfl rfl ?_
    refine r_getR (pc1 := 21) w_56 gfX12_91 rfl dX12_oldestOf_18 rfl ?_
    refine r_iconst (v := 0) (pc1 := 22) dX12_oldestOf_21 ki_0 rfl ?_
    refine r_iald (pc1 := 23) w_80 dX12_oldestOf_22 rfl ?_
    exact r_iret rfl rfl dX12_oldestOf_23
/-! f_X12_behind -/
noncomputable def lp_X12_behind_50 (a2 : Int32) (s0 : SS) (v2 : Int32) (v4 : Int32) (k7 : Int32 → Option Int32) : Nat → Int32 → Int32 → Option Int32
  | 0, _, _ => none
  | n11 + 1, v9, v10 => if (v2 : Int32) ≤ (v10 : Int32) then k7 v9 else lt (v9 * 8) (fun (v13 : Int32) => lp_X12_behind_50 a2 s0 v2 v4 k7 n11 v13 (v10 + 1))
noncomputable def f_X12_behind (a1 : Int32) (a2 : Int32) (s0 : SS) : Option Int32 := if (a2 : Int32) = (8 : Int32) then some a1 else bdp (f_X12_manyOf a1 s0) (fun (v2 : Int32) => bdp (f_X12_firstOf v2 s0) (fun (v3 : Int32) => lt (a1 - v3) (fun (v4 : Int32) => if (s0 56 3 : Int32) ≤ (v2 : Int32) then jn (fun (v6 : Int32) => bdp (f_X12_firstOf v2 s0) (fun (v8 : Int32) => gd (¬ (v6 : Int32) = 0) (some ((v8 + (8 * (v4 - v4 / v6 * v6))) + a2)))) (fun (k7 : Int32 → Option Int32) => lp_X12_behind_50 a2 s0 v2 v4 k7 FU 1 1) else bdp (f_X12_firstOf (v2 + 1) s0) (fun (v14 : Int32) => some ((v14 + (8 * v4)) + a2)))))
set_option maxRecDepth 100000 in
set_option maxHeartbeats 4000000 in
theorem t_lp_X12_behind_50 {l : Launch} (a2 : Int32) (s0 : SS) (v2 : Int32) (v4 : Int32) (k7 : Int32 → Option Int32) (hk7 : ∀ (v6 : Int32), RC l wF RX12 cX12_behind 7 (some .int) 1 69 [.ref 56, .null, .int a2, .int v2, .int v4, .int v6, .null] [] s0 (pu (k7 v6) s0)) : ∀ (n11 : Nat) (v9 : Int32) (v10 : Int32), RC l wF RX12 cX12_behind 7 (some .int) 1 50 [.ref 56, .null, .int a2, .int v2, .int v4, .int v9, .int v10] [] s0 (pu (lp_X12_behind_50 a2 s0 v2 v4 k7 n11 v9 v10) s0) := by
  intro n11
  induction n11 with
  | zero =>
    intro v9 v10
    rw [lp_X12_behind_50]
    exact p_none
  | succ n11 ih =>
    intro v9 v10
    rw [lp_X12_behind_50]
    refine r_iload (pc1 := 52) dX12_behind_50 rfl rfl ?_
    refine r_iload_n (pc1 := 53) (i := 3) dX12_behind_52 rfl rfl rfl ?_
    refine p_icmp_ge (tgt := 69) (pc1 := 56) dX12_behind_53 (by decide) rfl (fun q12 => ?_) (fun q12 => ?_)
    · exact r_wk (hk7 v9) ⟨Or.inr rfl, Or.inl rfl, Or.inr rfl, Or.inr rfl, Or.inr rfl, Or.inr rfl, Or.inl rfl, trivial⟩
    · refine r_iload (pc1 := 58) dX12_behind_56 rfl rfl ?_
      refine r_bipush (v := 8) (pc1 := 60) dX12_behind_58 kb_8 rfl ?_
      refine r_imul (pc1 := 61) dX12_behind_60 rfl ?_
      refine p_lt (fun v13 => ?_)
      refine r_istore (pc1 := 63) dX12_behind_61 (by decide) rfl rfl rfl ?_
      refine r_iinc (pc1 := 66) dX12_behind_63 rfl (kn_1 _) (by decide) rfl rfl rfl ?_
      refine r_goto (tgt := 50) dX12_behind_66 (by decide) ?_
      exact r_wk (ih v13 (v10 + 1)) ⟨Or.inr rfl, Or.inl rfl, Or.inr rfl, Or.inr rfl, Or.inr rfl, Or.inr rfl, Or.inr rfl, trivial⟩
set_option maxRecDepth 100000 in
set_option maxHeartbeats 4000000 in
theorem c_X12_behind {l : Launch} (a1 : Int32) (a2 : Int32) (s0 : SS) : Ct l wF yX12_behind cX12_behind 7 (some .int) 1 [.ref 56, .int a1, .int a2] s0 (pu (f_X12_behind a1 a2 s0) s0) := by
  refine ct_of (y := yX12_behind) plX12 (Nat.le_of_ble_eq_true rfl) ?_
  refine r_pad0 4 (L1 := [.ref 56, .int a1, .int a2, .null, .null, .null, .null]) rfl ?_
  unfold f_X12_behind
  refine r_iload_n (pc1 := 1) (i := 2) dX12_behind_0 rfl rfl rfl ?_
  refine r_bipush (v := 8) (pc1 := 3) dX12_behind_1 kb_8 rfl ?_
  refine p_icmp_ne (tgt := 8) (pc1 := 6) dX12_behind_3 (by decide) rfl (fun q1 => ?_) (fun q1 => ?_)
  · refine r_iload_n (pc1 := 7) (i := 1) dX12_behind_6 rfl rfl rfl ?_
    exact p_iret rfl rfl dX12_behind_7
  · refine r_iload_n (pc1 := 9) (i := 1) dX12_behind_8 rfl rfl rfl ?_
    refine p_callSp (pc1 := 12) lkX12_323 (c_X12_manyOf _ _) rfl rfl ⟨Nat.le_of_ble_eq_true rfl, Nat.le_of_ble_eq_true rfl⟩ (Nat.le_of_ble_eq_true rfl) dX12_behind_9 rfl (fun v2 => ?_)
    refine r_istore_n (pc1 := 13) (i := 3) dX12_behind_12 rfl (by decide) rfl rfl rfl ?_
    refine r_iload_n (pc1 := 14) (i := 1) dX12_behind_13 rfl rfl rfl ?_
    refine r_iload_n (pc1 := 15) (i := 3) dX12_behind_14 rfl rfl rfl ?_
    refine p_callSp (pc1 := 18) lkX12_326 (c_X12_firstOf _ _) rfl rfl ⟨Nat.le_of_ble_eq_true rfl, Nat.le_of_ble_eq_true rfl⟩ (Nat.le_of_ble_eq_true rfl) dX12_behind_15 rfl (fun v3 => ?_)
    refine r_isub (pc1 := 19) dX12_behind_18 rfl ?_
    refine p_lt (fun v4 => ?_)
    refine r_istore (pc1 := 21) dX12_behind_19 (by decide) rfl rfl rfl ?_
    refine r_iload_n (pc1 := 22) (i := 3) dX12_behind_21 rfl rfl rfl ?_
    refine r_aload_n (pc1 := 23) (i := 0) dX12_behind_22 rfl rfl rfl ?_
    refine r_getI (pc1 := 26) w_56 gfX12_13 rfl dX12_behind_23 rfl ?_
    refine p_icmp_ge (tgt := 44) (pc1 := 29) dX12_behind_26 (by decide) rfl (fun q5 => ?_) (fun q5 => ?_)
    · refine r_iconst (v := 1) (pc1 := 45) dX12_behind_44 ki_1 rfl ?_
      refine r_istore (pc1 := 47) dX12_behind_45 (by decide) rfl rfl rfl ?_
      refine r_iconst (v := 1) (pc1 := 48) dX12_behind_47 ki_1 rfl ?_
      refine r_istore (pc1 := 50) dX12_behind_48 (by decide) rfl rfl rfl ?_
      refine p_jn (hyp := fun (k7 : Int32 → Option Int32) => ∀ (v6 : Int32), RC l wF RX12 cX12_behind 7 (some .int) 1 69 [.ref 56, .null, .int a2, .int v2, .int v4, .int v6, .null] [] s0 (pu (k7 v6) s0)) (fun v6 => ?_) (fun k7 hk7 => ?_)
      · refine r_iload_n (pc1 := 70) (i := 3) dX12_behind_69 rfl rfl rfl ?_
        refine p_callSp (pc1 := 73) lkX12_326 (c_X12_firstOf _ _) rfl rfl ⟨Nat.le_of_ble_eq_true rfl, Nat.le_of_ble_eq_true rfl⟩ (Nat.le_of_ble_eq_true rfl) dX12_behind_70 rfl (fun v8 => ?_)
        refine r_bipush (v := 8) (pc1 := 75) dX12_behind_73 kb_8 rfl ?_
        refine r_iload (pc1 := 77) dX12_behind_75 rfl rfl ?_
        refine r_iload (pc1 := 79) dX12_behind_77 rfl rfl ?_
        refine p_irem (pc1 := 80) dX12_behind_79 rfl ?_
        refine r_imul (pc1 := 81) dX12_behind_80 rfl ?_
        refine r_iadd (pc1 := 82) dX12_behind_81 rfl ?_
        refine r_iload_n (pc1 := 83) (i := 2) dX12_behind_82 rfl rfl rfl ?_
        refine r_iadd (pc1 := 84) dX12_behind_83 rfl ?_
        exact p_iret rfl rfl dX12_behind_84
      · exact r_wk (t_lp_X12_behind_50 a2 s0 v2 v4 k7 hk7 FU 1 1) ⟨Or.inr rfl, Or.inl rfl, Or.inr rfl, Or.inr rfl, Or.inr rfl, Or.inr rfl, Or.inr rfl, trivial⟩
    · refine r_iload_n (pc1 := 30) (i := 3) dX12_behind_29 rfl rfl rfl ?_
      refine r_iconst (v := 1) (pc1 := 31) dX12_behind_30 ki_1 rfl ?_
      refine r_iadd (pc1 := 32) dX12_behind_31 rfl ?_
      refine p_callSp (pc1 := 35) lkX12_326 (c_X12_firstOf _ _) rfl rfl ⟨Nat.le_of_ble_eq_true rfl, Nat.le_of_ble_eq_true rfl⟩ (Nat.le_of_ble_eq_true rfl) dX12_behind_32 rfl (fun v14 => ?_)
      refine r_bipush (v := 8) (pc1 := 37) dX12_behind_35 kb_8 rfl ?_
      refine r_iload (pc1 := 39) dX12_behind_37 rfl rfl ?_
      refine r_imul (pc1 := 40) dX12_behind_39 rfl ?_
      refine r_iadd (pc1 := 41) dX12_behind_40 rfl ?_
      refine r_iload_n (pc1 := 42) (i := 2) dX12_behind_41 rfl rfl rfl ?_
      refine r_iadd (pc1 := 43) dX12_behind_42 rfl ?_
      exact p_iret rfl rfl dX12_behind_43
/-! f_X12_done -/
noncomputable def f_X12_done (a1 : Int32) (a2 : Int32) (s0 : SS) : Res := jn (fun (v1 : Int32) (s2 : SS) => jn (fun (s4 : SS) => bdp (f_X12_behind (s4 56 4) a2 s4) (fun (v6 : Int32) => lts (up s4 56 4 v6) (fun (s7 : SS) => lts (up s7 56 7 ((s7 56 7) + 1)) (fun (s8 : SS) => gd (¬ ((s8 56 5) : Int32) = 0) (lts (up s8 56 6 (((s8 56 6) + 1) - ((s8 56 6) + 1) / (s8 56 5) * (s8 56 5))) (fun (s9 : SS) => some (v1, s9))))))) (fun (k5 : SS → Res) => if (8 : Int32) ≤ (a2 : Int32) then k5 s2 else if (100 : Int32) ≤ (s2 56 9 : Int32) then k5 s2 else gd (inb (s2 56 9) 100) (lts (up s2 85 (Int32.toNatClampNeg (s2 56 9)) (s2 56 7)) (fun (s12 : SS) => gd (inb (s12 56 9) 100) (lts (up s12 86 (Int32.toNatClampNeg (s12 56 9)) a1) (fun (s13 : SS) => gd (inb (s13 56 9) 100) (lts (up s13 87 (Int32.toNatClampNeg (s13 56 9)) a2) (fun (s14 : SS) => gd (inb (s14 56 9) 100) (lts (up s14 88 (Int32.toNatClampNeg (s14 56 9)) v1) (fun (s15 : SS) => lts (up s15 56 9 ((s15 56 9) + 1)) (fun (s16 : SS) => k5 s16))))))))))) (fun (k3 : Int32 → SS → Res) => jn (k3 8 s0) (fun (k17 : Res) => if (8 : Int32) ≤ (a2 : Int32) then k17 else bdp (f_X12_manyOf (s0 56 4) s0) (fun (v19 : Int32) => if (v19 : Int32) = (s0 56 3 : Int32) then bd (f_X12_oldestOf (s0 56 4) s0) (fun (v21 : Int32) (s22 : SS) => k3 v21 s22) else k17)))
set_option maxRecDepth 100000 in
set_option maxHeartbeats 4000000 in
theorem c_X12_done {l : Launch} (a1 : Int32) (a2 : Int32) (s0 : SS) : Ct l wF yX12_done cX12_done 4 (some .int) 3 [.ref 56, .int a1, .int a2] s0 (f_X12_done a1 a2 s0) := by
  refine ct_of (y := yX12_done) plX12 (Nat.le_of_ble_eq_true rfl) ?_
  refine r_pad0 1 (L1 := [.ref 56, .int a1, .int a2, .null]) rfl ?_
  unfold f_X12_done
  refine r_iload_n (pc1 := 1) (i := 2) dX12_done_0 rfl rfl rfl ?_
  refine r_bipush (v := 8) (pc1 := 3) dX12_done_1 kb_8 rfl ?_
  refine r_jn (hyp := fun (k3 : Int32 → SS → Res) => ∀ (v1 : Int32) (s2 : SS), RC l wF RX12 cX12_done 4 (some .int) 3 33 [.ref 56, .int a1, .int a2, .null] [.int v1] s2 (k3 v1 s2)) (fun v1 s2 => ?_) (fun k3 hk3 => ?_)
  · refine r_istore_n (pc1 := 34) (i := 3) dX12_done_33 rfl (by decide) rfl rfl rfl ?_
    refine r_iload_n (pc1 := 35) (i := 2) dX12_done_34 rfl rfl rfl ?_
    refine r_bipush (v := 8) (pc1 := 37) dX12_done_35 kb_8 rfl ?_
    refine r_jn (hyp := fun (k5 : SS → Res) => ∀ (s4 : SS), RC l wF RX12 cX12_done 4 (some .int) 3 102 [.ref 56, .null, .int a2, .int v1] [] s4 (k5 s4)) (fun s4 => ?_) (fun k5 hk5 => ?_)
    · refine r_aload_n (pc1 := 103) (i := 0) dX12_done_102 rfl rfl rfl ?_
      refine r_aload_n (pc1 := 104) (i := 0) dX12_done_103 rfl rfl rfl ?_
      refine r_aload_n (pc1 := 105) (i := 0) dX12_done_104 rfl rfl rfl ?_
      refine r_getI (pc1 := 108) w_56 gfX12_158 rfl dX12_done_105 rfl ?_
      refine r_iload_n (pc1 := 109) (i := 2) dX12_done_108 rfl rfl rfl ?_
      refine r_callVp (pc1 := 112) (rv_of w_56 cl_12) lkX12_362 (c_X12_behind _ _ _) rfl rfl ⟨Nat.le_of_ble_eq_true rfl, Nat.le_of_ble_eq_true rfl⟩ (Nat.le_of_ble_eq_true rfl) dX12_done_109 rfl (fun v6 => ?_)
      refine r_putI (pc1 := 115) w_56 pfX12_158 rfl ⟨rfl, rfl⟩ dX12_done_112 rfl ?_
      refine r_lts (fun s7 => ?_)
      refine r_aload_n (pc1 := 116) (i := 0) dX12_done_115 rfl rfl rfl ?_
      refine r_dup (pc1 := 117) dX12_done_116 rfl rfl ?_
      refine r_getI (pc1 := 120) w_56 gfX12_375 rfl dX12_done_117 rfl ?_
      refine r_iconst (v := 1) (pc1 := 121) dX12_done_120 ki_1 rfl ?_
      refine r_iadd (pc1 := 122) dX12_done_121 rfl ?_
      refine r_putI (pc1 := 125) w_56 pfX12_375 rfl ⟨rfl, rfl⟩ dX12_done_122 rfl ?_
      refine r_lts (fun s8 => ?_)
      refine r_aload_n (pc1 := 126) (i := 0) dX12_done_125 rfl rfl rfl ?_
      refine r_aload_n (pc1 := 127) (i := 0) dX12_done_126 rfl rfl rfl ?_
      refine r_getI (pc1 := 130) w_56 gfX12_172 rfl dX12_done_127 rfl ?_
      refine r_iconst (v := 1) (pc1 := 131) dX12_done_130 ki_1 rfl ?_
      refine r_iadd (pc1 := 132) dX12_done_131 rfl ?_
      refine r_aload_n (pc1 := 133) (i := 0) dX12_done_132 rfl rfl rfl ?_
      refine r_getI (pc1 := 136) w_56 gfX12_17 rfl dX12_done_133 rfl ?_
      refine r_irem (pc1 := 137) dX12_done_136 rfl ?_
      refine r_putI (pc1 := 140) w_56 pfX12_172 rfl ⟨rfl, rfl⟩ dX12_done_137 rfl ?_
      refine r_lts (fun s9 => ?_)
      refine r_iload_n (pc1 := 141) (i := 3) dX12_done_140 rfl rfl rfl ?_
      exact r_iret rfl rfl dX12_done_141
    · refine r_icmp_ge (tgt := 102) (pc1 := 40) dX12_done_37 (by decide) rfl (fun q10 => ?_) (fun q10 => ?_)
      · exact r_wk (hk5 s2) ⟨Or.inr rfl, Or.inl rfl, Or.inr rfl, Or.inr rfl, trivial⟩
      · refine r_aload_n (pc1 := 41) (i := 0) dX12_done_40 rfl rfl rfl ?_
        refine r_getI (pc1 := 44) w_56 gfX12_372 rfl dX12_done_41 rfl ?_
        refine r_bipush (v := 100) (pc1 := 46) dX12_done_44 kb_100 rfl ?_
        refine r_icmp_ge (tgt := 102) (pc1 := 49) dX12_done_46 (by decide) rfl (fun q11 => ?_) (fun q11 => ?_)
        · exact r_wk (hk5 s2) ⟨Or.inr rfl, Or.inl rfl, Or.inr rfl, Or.inr rfl, trivial⟩
        · refine r_aload_n (pc1 := 50) (i := 0) dX12_done_49 rfl rfl rfl ?_
          refine r_getR (pc1 := 53) w_56 gfX12_106 rfl dX12_done_50 rfl ?_
          refine r_aload_n (pc1 := 54) (i := 0) dX12_done_53 rfl rfl rfl ?_
          refine r_getI (pc1 := 57) w_56 gfX12_372 rfl dX12_done_54 rfl ?_
          refine r_aload_n (pc1 := 58) (i := 0) dX12_done_57 rfl rfl rfl ?_
          refine r_getI (pc1 := 61) w_56 gfX12_375 rfl dX12_done_58 rfl ?_
          refine r_iast (pc1 := 62) w_85 dX12_done_61 rfl ?_
          refine r_lts (fun s12 => ?_)
          refine r_aload_n (pc1 := 63) (i := 0) dX12_done_62 rfl rfl rfl ?_
          refine r_getR (pc1 := 66) w_56 gfX12_109 rfl dX12_done_63 rfl ?_
          refine r_aload_n (pc1 := 67) (i := 0) dX12_done_66 rfl rfl rfl ?_
          refine r_getI (pc1 := 70) w_56 gfX12_372 rfl dX12_done_67 rfl ?_
          refine r_iload_n (pc1 := 71) (i := 1) dX12_done_70 rfl rfl rfl ?_
          refine r_iast (pc1 := 72) w_86 dX12_done_71 rfl ?_
          refine r_lts (fun s13 => ?_)
          refine r_aload_n (pc1 := 73) (i := 0) dX12_done_72 rfl rfl rfl ?_
          refine r_getR (pc1 := 76) w_56 gfX12_112 rfl dX12_done_73 rfl ?_
          refine r_aload_n (pc1 := 77) (i := 0) dX12_done_76 rfl rfl rfl ?_
          refine r_getI (pc1 := 80) w_56 gfX12_372 rfl dX12_done_77 rfl ?_
          refine r_iload_n (pc1 := 81) (i := 2) dX12_done_80 rfl rfl rfl ?_
          refine r_iast (pc1 := 82) w_87 dX12_done_81 rfl ?_
          refine r_lts (fun s14 => ?_)
          refine r_aload_n (pc1 := 83) (i := 0) dX12_done_82 rfl rfl rfl ?_
          refine r_getR (pc1 := 86) w_56 gfX12_115 rfl dX12_done_83 rfl ?_
          refine r_aload_n (pc1 := 87) (i := 0) dX12_done_86 rfl rfl rfl ?_
          refine r_getI (pc1 := 90) w_56 gfX12_372 rfl dX12_done_87 rfl ?_
          refine r_iload_n (pc1 := 91) (i := 3) dX12_done_90 rfl rfl rfl ?_
          refine r_iast (pc1 := 92) w_88 dX12_done_91 rfl ?_
          refine r_lts (fun s15 => ?_)
          refine r_aload_n (pc1 := 93) (i := 0) dX12_done_92 rfl rfl rfl ?_
          refine r_dup (pc1 := 94) dX12_done_93 rfl rfl ?_
          refine r_getI (pc1 := 97) w_56 gfX12_372 rfl dX12_done_94 rfl ?_
          refine r_iconst (v := 1) (pc1 := 98) dX12_done_97 ki_1 rfl ?_
          refine r_iadd (pc1 := 99) dX12_done_98 rfl ?_
          refine r_putI (pc1 := 102) w_56 pfX12_372 rfl ⟨rfl, rfl⟩ dX12_done_99 rfl ?_
          refine r_lts (fun s16 => ?_)
          exact r_wk (hk5 s16) ⟨Or.inr rfl, Or.inl rfl, Or.inr rfl, Or.inr rfl, trivial⟩
  · refine r_jn (hyp := fun (k17 : Res) => RC l wF RX12 cX12_done 4 (some .int) 3 31 [.ref 56, .int a1, .int a2, .null] [] s0 k17) (?_) (fun k17 hk17 => ?_)
    · refine r_bipush (v := 8) (pc1 := 33) dX12_done_31 kb_8 rfl ?_
      exact r_wk (hk3 8 s0) ⟨Or.inr rfl, Or.inr rfl, Or.inr rfl, Or.inl rfl, trivial⟩
    · refine r_icmp_ge (tgt := 31) (pc1 := 6) dX12_done_3 (by decide) rfl (fun q18 => ?_) (fun q18 => ?_)
      · exact r_wk (hk17) ⟨Or.inr rfl, Or.inr rfl, Or.inr rfl, Or.inl rfl, trivial⟩
      · refine r_aload_n (pc1 := 7) (i := 0) dX12_done_6 rfl rfl rfl ?_
        refine r_getI (pc1 := 10) w_56 gfX12_158 rfl dX12_done_7 rfl ?_
        refine r_callSp (pc1 := 13) lkX12_323 (c_X12_manyOf _ _) rfl rfl ⟨Nat.le_of_ble_eq_true rfl, Nat.le_of_ble_eq_true rfl⟩ (Nat.le_of_ble_eq_true rfl) dX12_done_10 rfl (fun v19 => ?_)
        refine r_aload_n (pc1 := 14) (i := 0) dX12_done_13 rfl rfl rfl ?_
        refine r_getI (pc1 := 17) w_56 gfX12_13 rfl dX12_done_14 rfl ?_
        refine r_icmp_ne (tgt := 31) (pc1 := 20) dX12_done_17 (by decide) rfl (fun q20 => ?_) (fun q20 => ?_)
        · refine r_aload_n (pc1 := 21) (i := 0) dX12_done_20 rfl rfl rfl ?_
          refine r_aload_n (pc1 := 22) (i := 0) dX12_done_21 rfl rfl rfl ?_
          refine r_getI (pc1 := 25) w_56 gfX12_158 rfl dX12_done_22 rfl ?_
          refine r_callVi (pc1 := 28) (rv_of w_56 cl_12) lkX12_369 (c_X12_oldestOf _ _) rfl rfl ⟨Nat.le_of_ble_eq_true rfl, Nat.le_of_ble_eq_true rfl⟩ (Nat.le_of_ble_eq_true rfl) dX12_done_25 rfl (fun v21 s22 => ?_)
          refine r_goto (tgt := 33) dX12_done_28 (by decide) ?_
          exact r_wk (hk3 v21 s22) ⟨Or.inr rfl, Or.inr rfl, Or.inr rfl, Or.inl rfl, trivial⟩
        · exact r_wk (hk17) ⟨Or.inr rfl, Or.inr rfl, Or.inr rfl, Or.inl rfl, trivial⟩
/-! f_X12_make -/
noncomputable def f_X12_make (a1 : Int32) (s0 : SS) : Res := jn (gd (inb (s0 56 6) 4) (lt (s0 62 (Int32.toNatClampNeg (s0 56 6))) (fun (v2 : Int32) => jn (fun (s3 : SS) => jn (fun (v5 : Int32) => bd (f_X12_done v2 v5 s3) (fun (v7 : Int32) (s8 : SS) => some (v7, s8))) (fun (k6 : Int32 → Res) => if (a1 : Int32) = ((-1) : Int32) then k6 8 else k6 a1)) (fun (k4 : SS → Res) => if (a1 : Int32) = ((-1) : Int32) then k4 s0 else bd (f_X12_mayOf (s0 56 4) v2 s0) (fun (v11 : Int32) (s12 : SS) => bdp (f_X12_has v11 a1 s12) (fun (v13 : Int32) => if (v13 : Int32) = 0 then some ((-2), s12) else k4 s12)))))) (fun (k1 : Res) => if (a1 : Int32) = ((-1) : Int32) then k1 else bdp (f_X12_isLaw a1 s0) (fun (v16 : Int32) => if (v16 : Int32) = 0 then some ((-1), s0) else k1))
set_option maxRecDepth 100000 in
set_option maxHeartbeats 4000000 in
theorem c_X12_make {l : Launch} (a1 : Int32) (s0 : SS) : Ct l wF yX12_make cX12_make 3 (some .int) 6 [.ref 56, .int a1] s0 (f_X12_make a1 s0) := by
  refine ct_of (y := yX12_make) plX12 (Nat.le_of_ble_eq_true rfl) ?_
  refine r_pad0 1 (L1 := [.ref 56, .int a1, .null]) rfl ?_
  unfold f_X12_make
  refine r_iload_n (pc1 := 1) (i := 1) dX12_make_0 rfl rfl rfl ?_
  refine r_iconst (v := (-1)) (pc1 := 2) dX12_make_1 ki_m1 rfl ?_
  refine r_jn (hyp := fun (k1 : Res) => RC l wF RX12 cX12_make 3 (some .int) 6 15 [.ref 56, .int a1, .null] [] s0 k1) (?_) (fun k1 hk1 => ?_)
  · refine r_aload_n (pc1 := 16) (i := 0) dX12_make_15 rfl rfl rfl ?_
    refine r_getR (pc1 := 19) w_56 gfX12_36 rfl dX12_make_16 rfl ?_
    refine r_aload_n (pc1 := 20) (i := 0) dX12_make_19 rfl rfl rfl ?_
    refine r_getI (pc1 := 23) w_56 gfX12_172 rfl dX12_make_20 rfl ?_
    refine r_iald (pc1 := 24) w_62 dX12_make_23 rfl ?_
    refine r_lt (fun v2 => ?_)
    refine r_istore_n (pc1 := 25) (i := 2) dX12_make_24 rfl (by decide) rfl rfl rfl ?_
    refine r_iload_n (pc1 := 26) (i := 1) dX12_make_25 rfl rfl rfl ?_
    refine r_iconst (v := (-1)) (pc1 := 27) dX12_make_26 ki_m1 rfl ?_
    refine r_jn (hyp := fun (k4 : SS → Res) => ∀ (s3 : SS), RC l wF RX12 cX12_make 3 (some .int) 6 49 [.ref 56, .int a1, .int v2] [] s3 (k4 s3)) (fun s3 => ?_) (fun k4 hk4 => ?_)
    · refine r_aload_n (pc1 := 50) (i := 0) dX12_make_49 rfl rfl rfl ?_
      refine r_iload_n (pc1 := 51) (i := 2) dX12_make_50 rfl rfl rfl ?_
      refine r_iload_n (pc1 := 52) (i := 1) dX12_make_51 rfl rfl rfl ?_
      refine r_iconst (v := (-1)) (pc1 := 53) dX12_make_52 ki_m1 rfl ?_
      refine r_jn (hyp := fun (k6 : Int32 → Res) => ∀ (v5 : Int32), RC l wF RX12 cX12_make 3 (some .int) 6 62 [.ref 56, .null, .null] [.int v5, .int v2, .ref 56] s3 (k6 v5)) (fun v5 => ?_) (fun k6 hk6 => ?_)
      · refine r_callVi (pc1 := 65) (rv_of w_56 cl_12) lkX12_378 (c_X12_done _ _ _) rfl rfl ⟨Nat.le_of_ble_eq_true rfl, Nat.le_of_ble_eq_true rfl⟩ (Nat.le_of_ble_eq_true rfl) dX12_make_62 rfl (fun v7 s8 => ?_)
        exact r_iret rfl rfl dX12_make_65
      · refine r_icmp_ne (tgt := 61) (pc1 := 56) dX12_make_53 (by decide) rfl (fun q9 => ?_) (fun q9 => ?_)
        · refine r_bipush (v := 8) (pc1 := 58) dX12_make_56 kb_8 rfl ?_
          refine r_goto (tgt := 62) dX12_make_58 (by decide) ?_
          exact r_wk (hk6 8) ⟨Or.inr rfl, Or.inl rfl, Or.inl rfl, trivial⟩
        · refine r_iload_n (pc1 := 62) (i := 1) dX12_make_61 rfl rfl rfl ?_
          exact r_wk (hk6 a1) ⟨Or.inr rfl, Or.inl rfl, Or.inl rfl, trivial⟩
    · refine r_icmp_eq (tgt := 49) (pc1 := 30) dX12_make_27 (by decide) rfl (fun q10 => ?_) (fun q10 => ?_)
      · exact r_wk (hk4 s0) ⟨Or.inr rfl, Or.inr rfl, Or.inr rfl, trivial⟩
      · refine r_aload_n (pc1 := 31) (i := 0) dX12_make_30 rfl rfl rfl ?_
        refine r_aload_n (pc1 := 32) (i := 0) dX12_make_31 rfl rfl rfl ?_
        refine r_getI (pc1 := 35) w_56 gfX12_158 rfl dX12_make_32 rfl ?_
        refine r_iload_n (pc1 := 36) (i := 2) dX12_make_35 rfl rfl rfl ?_
        refine r_callVi (pc1 := 39) (rv_of w_56 cl_12) lkX12_359 (c_X12_mayOf _ _ _) rfl rfl ⟨Nat.le_of_ble_eq_true rfl, Nat.le_of_ble_eq_true rfl⟩ (Nat.le_of_ble_eq_true rfl) dX12_make_36 rfl (fun v11 s12 => ?_)
        refine r_iload_n (pc1 := 40) (i := 1) dX12_make_39 rfl rfl rfl ?_
        refine r_callSp (pc1 := 43) lkX12_335 (c_X12_has _ _ _) rfl rfl ⟨Nat.le_of_ble_eq_true rfl, Nat.le_of_ble_eq_true rfl⟩ (Nat.le_of_ble_eq_true rfl) dX12_make_40 rfl (fun v13 => ?_)
        refine r_if_ne (tgt := 49) (pc1 := 46) dX12_make_43 (by decide) rfl (fun q14 => ?_) (fun q14 => ?_)
        · refine r_bipush (v := (-2)) (pc1 := 48) dX12_make_46 kb_m2 rfl ?_
          exact r_iret rfl rfl dX12_make_48
        · exact r_wk (hk4 s12) ⟨Or.inr rfl, Or.inr rfl, Or.inr rfl, trivial⟩
  · refine r_icmp_eq (tgt := 15) (pc1 := 5) dX12_make_2 (by decide) rfl (fun q15 => ?_) (fun q15 => ?_)
    · exact r_wk (hk1) ⟨Or.inr rfl, Or.inr rfl, Or.inl rfl, trivial⟩
    · refine r_aload_n (pc1 := 6) (i := 0) dX12_make_5 rfl rfl rfl ?_
      refine r_iload_n (pc1 := 7) (i := 1) dX12_make_6 rfl rfl rfl ?_
      refine r_callVp (pc1 := 10) (rv_of w_56 cl_12) lkX12_175 (c_X12_isLaw _ _) rfl rfl ⟨Nat.le_of_ble_eq_true rfl, Nat.le_of_ble_eq_true rfl⟩ (Nat.le_of_ble_eq_true rfl) dX12_make_7 rfl (fun v16 => ?_)
      refine r_if_ne (tgt := 15) (pc1 := 13) dX12_make_10 (by decide) rfl (fun q17 => ?_) (fun q17 => ?_)
      · refine r_iconst (v := (-1)) (pc1 := 14) dX12_make_13 ki_m1 rfl ?_
        exact r_iret rfl rfl dX12_make_14
      · exact r_wk (hk1) ⟨Or.inr rfl, Or.inr rfl, Or.inl rfl, trivial⟩
/-! f_X12_at -/
noncomputable def f_X12_at (a1 : Int32) (s0 : SS) : Res := bd (f_X12_laysRow (s0 56 4) s0) (fun (v1 : Int32) (s2 : SS) => bdp (f_X12_lies ((a1 : Int32).toInt64) 0 (((s2 56 48) - 1 : Int32).toInt64) s2) (fun (v3 : Int32) => if (v3 : Int32) = 0 then some ((-1), s2) else gd (inb a1 4) (some (s2 80 (Int32.toNatClampNeg a1), s2))))
set_option maxRecDepth 100000 in
set_option maxHeartbeats 4000000 in
theorem c_X12_at {l : Launch} (a1 : Int32) (s0 : SS) : Ct l wF yX12_at cX12_at 2 (some .int) 2 [.ref 56, .int a1] s0 (f_X12_at a1 s0) := by
  refine ct_of (y := yX12_at) plX12 (Nat.le_of_ble_eq_true rfl) ?_
  refine r_pad0 0 (L1 := [.ref 56, .int a1]) rfl ?_
  unfold f_X12_at
  refine r_aload_n (pc1 := 1) (i := 0) dX12_at_0 rfl rfl rfl ?_
  refine r_aload_n (pc1 := 2) (i := 0) dX12_at_1 rfl rfl rfl ?_
  refine r_getI (pc1 := 5) w_56 gfX12_158 rfl dX12_at_2 rfl ?_
  refine r_callVv (pc1 := 8) (rv_of w_56 cl_12) lkX12_339 (c_X12_laysRow _ _) rfl rfl ⟨Nat.le_of_ble_eq_true rfl, Nat.le_of_ble_eq_true rfl⟩ (Nat.le_of_ble_eq_true rfl) dX12_at_5 rfl (fun v1 s2 => ?_)
  refine r_iload_n (pc1 := 9) (i := 1) dX12_at_8 rfl rfl rfl ?_
  refine r_i2l (pc1 := 10) dX12_at_9 rfl ?_
  refine r_lconst (v := 0) (pc1 := 11) dX12_at_10 kl_0 rfl ?_
  refine r_aload_n (pc1 := 12) (i := 0) dX12_at_11 rfl rfl rfl ?_
  refine r_getI (pc1 := 15) w_56 gfX12_297 rfl dX12_at_12 rfl ?_
  refine r_iconst (v := 1) (pc1 := 16) dX12_at_15 ki_1 rfl ?_
  refine r_isub (pc1 := 17) dX12_at_16 rfl ?_
  refine r_i2l (pc1 := 18) dX12_at_17 rfl ?_
  refine r_callSp (pc1 := 21) lkX12_140 (c_X12_lies _ _ _ _) rfl rfl ⟨Nat.le_of_ble_eq_true rfl, Nat.le_of_ble_eq_true rfl⟩ (Nat.le_of_ble_eq_true rfl) dX12_at_18 rfl (fun v3 => ?_)
  refine r_if_eq (tgt := 33) (pc1 := 24) dX12_at_21 (by decide) rfl (fun q4 => ?_) (fun q4 => ?_)
  · refine r_iconst (v := (-1)) (pc1 := 34) dX12_at_33 ki_m1 rfl ?_
    exact r_iret rfl rfl dX12_at_34
  · refine r_aload_n (pc1 := 25) (i := 0) dX12_at_24 rfl rfl rfl ?_
    refine r_getR (pc1 := 28) w_56 gfX12_91 rfl dX12_at_25 rfl ?_
    refine r_iload_n (pc1 := 29) (i := 1) dX12_at_28 rfl rfl rfl ?_
    refine r_iald (pc1 := 30) w_80 dX12_at_29 rfl ?_
    refine r_goto (tgt := 34) dX12_at_30 (by decide) ?_
    exact r_iret rfl rfl dX12_at_34
/-! f_X12_holding -/
noncomputable def f_X12_holding  (s0 : SS) : Res := bd (f_X12_laysRow (s0 56 4) s0) (fun (v1 : Int32) (s2 : SS) => some (s2 56 50, s2))
set_option maxRecDepth 100000 in
set_option maxHeartbeats 4000000 in
theorem c_X12_holding {l : Launch}  (s0 : SS) : Ct l wF yX12_holding cX12_holding 1 (some .int) 2 [.ref 56] s0 (f_X12_holding s0) := by
  refine ct_of (y := yX12_holding) plX12 (Nat.le_of_ble_eq_true rfl) ?_
  refine r_pad0 0 (L1 := [.ref 56]) rfl ?_
  unfold f_X12_holding
  refine r_aload_n (pc1 := 1) (i := 0) dX12_holding_0 rfl rfl rfl ?_
  refine r_aload_n (pc1 := 2) (i := 0) dX12_holding_1 rfl rfl rfl ?_
  refine r_getI (pc1 := 5) w_56 gfX12_158 rfl dX12_holding_2 rfl ?_
  refine r_callVv (pc1 := 8) (rv_of w_56 cl_12) lkX12_339 (c_X12_laysRow _ _) rfl rfl ⟨Nat.le_of_ble_eq_true rfl, Nat.le_of_ble_eq_true rfl⟩ (Nat.le_of_ble_eq_true rfl) dX12_holding_5 rfl (fun v1 s2 => ?_)
  refine r_aload_n (pc1 := 9) (i := 0) dX12_holding_8 rfl rfl rfl ?_
  refine r_getI (pc1 := 12) w_56 gfX12_332 rfl dX12_holding_9 rfl ?_
  exact r_iret rfl rfl dX12_holding_12
/-! f_X12_isSort -/
noncomputable def f_X12_isSort (a1 : Int32) (s0 : SS) : Option Int32 := bdp (f_X12_lies ((a1 : Int32).toInt64) 0 3 s0) (fun (v1 : Int32) => gd ((v1 : Int32) = 0 ∨ (v1 : Int32) = 1) (some v1))
set_option maxRecDepth 100000 in
set_option maxHeartbeats 4000000 in
theorem c_X12_isSort {l : Launch} (a1 : Int32) (s0 : SS) : Ct l wF yX12_isSort cX12_isSort 1 (some .boolean) 1 [.int a1] s0 (pu (f_X12_isSort a1 s0) s0) := by
  refine ct_of (y := yX12_isSort) plX12 (Nat.le_of_ble_eq_true rfl) ?_
  refine r_pad0 0 (L1 := [.int a1]) rfl ?_
  unfold f_X12_isSort
  refine r_iload_n (pc1 := 1) (i := 0) dX12_isSort_0 rfl rfl rfl ?_
  refine r_i2l (pc1 := 2) dX12_isSort_1 rfl ?_
  refine r_lconst (v := 0) (pc1 := 3) dX12_isSort_2 kl_0 rfl ?_
  refine r_ldc2 (v := 3) (pc1 := 6) dX12_isSort_3 cnX12_138 rfl ?_
  refine p_callSp (pc1 := 9) lkX12_140 (c_X12_lies _ _ _ _) rfl rfl ⟨Nat.le_of_ble_eq_true rfl, Nat.le_of_ble_eq_true rfl⟩ (Nat.le_of_ble_eq_true rfl) dX12_isSort_6 rfl (fun v1 => ?_)
  refine p_gd (fun q2 => ?_)
  exact p_iret rfl (zb_ok q2).1 dX12_isSort_9
/-! f_X12_worthAt -/
noncomputable def f_X12_worthAt (a1 : Int32) (a2 : Int32) (s0 : SS) : Res := gd (inb a1 4) (lts (up s0 56 40 (s0 80 (Int32.toNatClampNeg a1))) (fun (s1 : SS) => lts (up s1 56 41 a2) (fun (s2 : SS) => bdp (f_X12_oftenOf (s2 56 40) s2) (fun (v3 : Int32) => lts (up s2 56 42 v3) (fun (s4 : SS) => bdp (f_X12_has (s4 56 50) (s4 56 40) s4) (fun (v5 : Int32) => jn (fun (v6 : Int32) => lts (up s4 56 43 v6) (fun (s8 : SS) => lts (up s8 56 44 a1) (fun (s9 : SS) => bd (f_X12_tells 118 ((-100)) 100 s9) (fun (v10 : Int32) (s11 : SS) => some (v10, s11))))) (fun (k7 : Int32 → Res) => if (v5 : Int32) = 0 then k7 0 else k7 1)))))))
set_option maxRecDepth 100000 in
set_option maxHeartbeats 4000000 in
theorem c_X12_worthAt {l : Launch} (a1 : Int32) (a2 : Int32) (s0 : SS) : Ct l wF yX12_worthAt cX12_worthAt 3 (some .int) 4 [.ref 56, .int a1, .int a2] s0 (f_X12_worthAt a1 a2 s0) := by
  refine ct_of (y := yX12_worthAt) plX12 (Nat.le_of_ble_eq_true rfl) ?_
  refine r_pad0 0 (L1 := [.ref 56, .int a1, .int a2]) rfl ?_
  unfold f_X12_worthAt
  refine r_aload_n (pc1 := 1) (i := 0) dX12_worthAt_0 rfl rfl rfl ?_
  refine r_aload_n (pc1 := 2) (i := 0) dX12_worthAt_1 rfl rfl rfl ?_
  refine r_getR (pc1 := 5) w_56 gfX12_91 rfl dX12_worthAt_2 rfl ?_
  refine r_iload_n (pc1 := 6) (i := 1) dX12_worthAt_5 rfl rfl rfl ?_
  refine r_iald (pc1 := 7) w_80 dX12_worthAt_6 rfl ?_
  refine r_putI (pc1 := 10) w_56 pfX12_291 rfl ⟨rfl, rfl⟩ dX12_worthAt_7 rfl ?_
  refine r_lts (fun s1 => ?_)
  refine r_aload_n (pc1 := 11) (i := 0) dX12_worthAt_10 rfl rfl rfl ?_
  refine r_iload_n (pc1 := 12) (i := 2) dX12_worthAt_11 rfl rfl rfl ?_
  refine r_putI (pc1 := 15) w_56 pfX12_294 rfl ⟨rfl, rfl⟩ dX12_worthAt_12 rfl ?_
  refine r_lts (fun s2 => ?_)
  refine r_aload_n (pc1 := 16) (i := 0) dX12_worthAt_15 rfl rfl rfl ?_
  refine r_aload_n (pc1 := 17) (i := 0) dX12_worthAt_16 rfl rfl rfl ?_
  refine r_aload_n (pc1 := 18) (i := 0) dX12_worthAt_17 rfl rfl rfl ?_
  refine r_getI (pc1 := 21) w_56 gfX12_291 rfl dX12_worthAt_18 rfl ?_
  refine r_callVp (pc1 := 24) (rv_of w_56 cl_12) lkX12_342 (c_X12_oftenOf _ _) rfl rfl ⟨Nat.le_of_ble_eq_true rfl, Nat.le_of_ble_eq_true rfl⟩ (Nat.le_of_ble_eq_true rfl) dX12_worthAt_21 rfl (fun v3 => ?_)
  refine r_putI (pc1 := 27) w_56 pfX12_300 rfl ⟨rfl, rfl⟩ dX12_worthAt_24 rfl ?_
  refine r_lts (fun s4 => ?_)
  refine r_aload_n (pc1 := 28) (i := 0) dX12_worthAt_27 rfl rfl rfl ?_
  refine r_aload_n (pc1 := 29) (i := 0) dX12_worthAt_28 rfl rfl rfl ?_
  refine r_getI (pc1 := 32) w_56 gfX12_332 rfl dX12_worthAt_29 rfl ?_
  refine r_aload_n (pc1 := 33) (i := 0) dX12_worthAt_32 rfl rfl rfl ?_
  refine r_getI (pc1 := 36) w_56 gfX12_291 rfl dX12_worthAt_33 rfl ?_
  refine r_callSp (pc1 := 39) lkX12_335 (c_X12_has _ _ _) rfl rfl ⟨Nat.le_of_ble_eq_true rfl, Nat.le_of_ble_eq_true rfl⟩ (Nat.le_of_ble_eq_true rfl) dX12_worthAt_36 rfl (fun v5 => ?_)
  refine r_jn (hyp := fun (k7 : Int32 → Res) => ∀ (v6 : Int32), RC l wF RX12 cX12_worthAt 3 (some .int) 4 47 [.ref 56, .int a1, .null] [.int v6, .ref 56] s4 (k7 v6)) (fun v6 => ?_) (fun k7 hk7 => ?_)
  · refine r_putI (pc1 := 50) w_56 pfX12_303 rfl ⟨rfl, rfl⟩ dX12_worthAt_47 rfl ?_
    refine r_lts (fun s8 => ?_)
    refine r_aload_n (pc1 := 51) (i := 0) dX12_worthAt_50 rfl rfl rfl ?_
    refine r_iload_n (pc1 := 52) (i := 1) dX12_worthAt_51 rfl rfl rfl ?_
    refine r_putI (pc1 := 55) w_56 pfX12_306 rfl ⟨rfl, rfl⟩ dX12_worthAt_52 rfl ?_
    refine r_lts (fun s9 => ?_)
    refine r_aload_n (pc1 := 56) (i := 0) dX12_worthAt_55 rfl rfl rfl ?_
    refine r_bipush (v := 118) (pc1 := 58) dX12_worthAt_56 kb_118 rfl ?_
    refine r_bipush (v := (-100)) (pc1 := 60) dX12_worthAt_58 kb_m100 rfl ?_
    refine r_bipush (v := 100) (pc1 := 62) dX12_worthAt_60 kb_100 rfl ?_
    refine r_callVi (pc1 := 65) (rv_of w_56 cl_12) lkX12_345 (c_X12_tells _ _ _ _) rfl rfl ⟨Nat.le_of_ble_eq_true rfl, Nat.le_of_ble_eq_true rfl⟩ (Nat.le_of_ble_eq_true rfl) dX12_worthAt_62 rfl (fun v10 s11 => ?_)
    exact r_iret rfl rfl dX12_worthAt_65
  · refine r_if_eq (tgt := 46) (pc1 := 42) dX12_worthAt_39 (by decide) rfl (fun q12 => ?_) (fun q12 => ?_)
    · refine r_iconst (v := 0) (pc1 := 47) dX12_worthAt_46 ki_0 rfl ?_
      exact r_wk (hk7 0) ⟨Or.inr rfl, Or.inr rfl, Or.inl rfl, trivial⟩
    · refine r_iconst (v := 1) (pc1 := 43) dX12_worthAt_42 ki_1 rfl ?_
      refine r_goto (tgt := 47) dX12_worthAt_43 (by decide) ?_
      exact r_wk (hk7 1) ⟨Or.inr rfl, Or.inr rfl, Or.inl rfl, trivial⟩
/-! f_X12_worthOf -/
noncomputable def lp_X12_worthOf_33 (a2 : Int32) (v1 : Int32) (k7 : Int32 → SS → Res) : Nat → Int32 → Int32 → SS → Res
  | 0, _, _, _ => none
  | n13 + 1, v10, v11, s12 => if (s12 56 48 : Int32) ≤ (v11 : Int32) then k7 v10 s12 else bd (f_X12_worthAt v11 a2 s12) (fun (v15 : Int32) (s16 : SS) => lt (v10 + v15) (fun (v17 : Int32) => lp_X12_worthOf_33 a2 v1 k7 n13 v17 (v11 + 1) s16))
noncomputable def f_X12_worthOf (a1 : Int32) (a2 : Int32) (s0 : SS) : Res := lt ((4 * a1) + a2) (fun (v1 : Int32) => gd (inb v1 18724) (if (s0 81 (Int32.toNatClampNeg v1) : Int32) = 0 then bd (f_X12_laysRow a1 s0) (fun (v3 : Int32) (s4 : SS) => jn (fun (v5 : Int32) (s6 : SS) => gd (inb v1 18724) (lts (up s6 81 (Int32.toNatClampNeg v1) (vp_nar .boolean 1)) (fun (s8 : SS) => gd (inb v1 18724) (lts (up s8 82 (Int32.toNatClampNeg v1) v5) (fun (s9 : SS) => some (v5, s9)))))) (fun (k7 : Int32 → SS → Res) => lp_X12_worthOf_33 a2 v1 k7 FU 0 0 s4)) else gd (inb v1 18724) (some (s0 82 (Int32.toNatClampNeg v1), s0))))
set_option maxRecDepth 100000 in
set_option maxHeartbeats 4000000 in
theorem t_lp_X12_worthOf_33 {l : Launch} (a2 : Int32) (v1 : Int32) (k7 : Int32 → SS → Res) (hk7 : ∀ (v5 : Int32) (s6 : SS), RC l wF RX12 cX12_worthOf 6 (some .int) 5 60 [.ref 56, .null, .null, .int v1, .int v5, .null] [] s6 (k7 v5 s6)) : ∀ (n13 : Nat) (v10 : Int32) (v11 : Int32) (s12 : SS), RC l wF RX12 cX12_worthOf 6 (some .int) 5 33 [.ref 56, .null, .int a2, .int v1, .int v10, .int v11] [] s12 (lp_X12_worthOf_33 a2 v1 k7 n13 v10 v11 s12) := by
  intro n13
  induction n13 with
  | zero =>
    intro v10 v11 s12
    rw [lp_X12_worthOf_33]
    exact r_none
  | succ n13 ih =>
    intro v10 v11 s12
    rw [lp_X12_worthOf_33]
    refine r_iload (pc1 := 35) dX12_worthOf_33 rfl rfl ?_
    refine r_aload_n (pc1 := 36) (i := 0) dX12_worthOf_35 rfl rfl rfl ?_
    refine r_getI (pc1 := 39) w_56 gfX12_297 rfl dX12_worthOf_36 rfl ?_
    refine r_icmp_ge (tgt := 60) (pc1 := 42) dX12_worthOf_39 (by decide) rfl (fun q14 => ?_) (fun q14 => ?_)
    · exact r_wk (hk7 v10 s12) ⟨Or.inr rfl, Or.inl rfl, Or.inl rfl, Or.inr rfl, Or.inr rfl, Or.inl rfl, trivial⟩
    · refine r_iload (pc1 := 44) dX12_worthOf_42 rfl rfl ?_
      refine r_aload_n (pc1 := 45) (i := 0) dX12_worthOf_44 rfl rfl rfl ?_
      refine r_iload (pc1 := 47) dX12_worthOf_45 rfl rfl ?_
      refine r_iload_n (pc1 := 48) (i := 2) dX12_worthOf_47 rfl rfl rfl ?_
      refine r_callVi (pc1 := 51) (rv_of w_56 cl_12) lkX12_348 (c_X12_worthAt _ _ _) rfl rfl ⟨Nat.le_of_ble_eq_true rfl, Nat.le_of_ble_eq_true rfl⟩ (Nat.le_of_ble_eq_true rfl) dX12_worthOf_48 rfl (fun v15 s16 => ?_)
      refine r_iadd (pc1 := 52) dX12_worthOf_51 rfl ?_
      refine r_lt (fun v17 => ?_)
      refine r_istore (pc1 := 54) dX12_worthOf_52 (by decide) rfl rfl rfl ?_
      refine r_iinc (pc1 := 57) dX12_worthOf_54 rfl (kn_1 _) (by decide) rfl rfl rfl ?_
      refine r_goto (tgt := 33) dX12_worthOf_57 (by decide) ?_
      exact r_wk (ih v17 (v11 + 1) s16) ⟨Or.inr rfl, Or.inl rfl, Or.inr rfl, Or.inr rfl, Or.inr rfl, Or.inr rfl, trivial⟩
set_option maxRecDepth 100000 in
set_option maxHeartbeats 4000000 in
theorem c_X12_worthOf {l : Launch} (a1 : Int32) (a2 : Int32) (s0 : SS) : Ct l wF yX12_worthOf cX12_worthOf 6 (some .int) 5 [.ref 56, .int a1, .int a2] s0 (f_X12_worthOf a1 a2 s0) := by
  refine ct_of (y := yX12_worthOf) plX12 (Nat.le_of_ble_eq_true rfl) ?_
  refine r_pad0 3 (L1 := [.ref 56, .int a1, .int a2, .null, .null, .null]) rfl ?_
  unfold f_X12_worthOf
  refine r_iconst (v := 4) (pc1 := 1) dX12_worthOf_0 ki_4 rfl ?_
  refine r_iload_n (pc1 := 2) (i := 1) dX12_worthOf_1 rfl rfl rfl ?_
  refine r_imul (pc1 := 3) dX12_worthOf_2 rfl ?_
  refine r_iload_n (pc1 := 4) (i := 2) dX12_worthOf_3 rfl rfl rfl ?_
  refine r_iadd (pc1 := 5) dX12_worthOf_4 rfl ?_
  refine r_lt (fun v1 => ?_)
  refine r_istore_n (pc1 := 6) (i := 3) dX12_worthOf_5 rfl (by decide) rfl rfl rfl ?_
  refine r_aload_n (pc1 := 7) (i := 0) dX12_worthOf_6 rfl rfl rfl ?_
  refine r_getR (pc1 := 10) w_56 gfX12_94 rfl dX12_worthOf_7 rfl ?_
  refine r_iload_n (pc1 := 11) (i := 3) dX12_worthOf_10 rfl rfl rfl ?_
  refine r_zald (pc1 := 12) w_81 dX12_worthOf_11 rfl ?_
  refine r_if_eq (tgt := 22) (pc1 := 15) dX12_worthOf_12 (by decide) rfl (fun q2 => ?_) (fun q2 => ?_)
  · refine r_aload_n (pc1 := 23) (i := 0) dX12_worthOf_22 rfl rfl rfl ?_
    refine r_iload_n (pc1 := 24) (i := 1) dX12_worthOf_23 rfl rfl rfl ?_
    refine r_callVv (pc1 := 27) (rv_of w_56 cl_12) lkX12_339 (c_X12_laysRow _ _) rfl rfl ⟨Nat.le_of_ble_eq_true rfl, Nat.le_of_ble_eq_true rfl⟩ (Nat.le_of_ble_eq_true rfl) dX12_worthOf_24 rfl (fun v3 s4 => ?_)
    refine r_iconst (v := 0) (pc1 := 28) dX12_worthOf_27 ki_0 rfl ?_
    refine r_istore (pc1 := 30) dX12_worthOf_28 (by decide) rfl rfl rfl ?_
    refine r_iconst (v := 0) (pc1 := 31) dX12_worthOf_30 ki_0 rfl ?_
    refine r_istore (pc1 := 33) dX12_worthOf_31 (by decide) rfl rfl rfl ?_
    refine r_jn (hyp := fun (k7 : Int32 → SS → Res) => ∀ (v5 : Int32) (s6 : SS), RC l wF RX12 cX12_worthOf 6 (some .int) 5 60 [.ref 56, .null, .null, .int v1, .int v5, .null] [] s6 (k7 v5 s6)) (fun v5 s6 => ?_) (fun k7 hk7 => ?_)
    · refine r_aload_n (pc1 := 61) (i := 0) dX12_worthOf_60 rfl rfl rfl ?_
      refine r_getR (pc1 := 64) w_56 gfX12_94 rfl dX12_worthOf_61 rfl ?_
      refine r_iload_n (pc1 := 65) (i := 3) dX12_worthOf_64 rfl rfl rfl ?_
      refine r_iconst (v := 1) (pc1 := 66) dX12_worthOf_65 ki_1 rfl ?_
      refine r_zast (pc1 := 67) w_81 dX12_worthOf_66 rfl ?_
      refine r_lts (fun s8 => ?_)
      refine r_aload_n (pc1 := 68) (i := 0) dX12_worthOf_67 rfl rfl rfl ?_
      refine r_getR (pc1 := 71) w_56 gfX12_97 rfl dX12_worthOf_68 rfl ?_
      refine r_iload_n (pc1 := 72) (i := 3) dX12_worthOf_71 rfl rfl rfl ?_
      refine r_iload (pc1 := 74) dX12_worthOf_72 rfl rfl ?_
      refine r_iast (pc1 := 75) w_82 dX12_worthOf_74 rfl ?_
      refine r_lts (fun s9 => ?_)
      refine r_iload (pc1 := 77) dX12_worthOf_75 rfl rfl ?_
      exact r_iret rfl rfl dX12_worthOf_77
    · exact r_wk (t_lp_X12_worthOf_33 a2 v1 k7 hk7 FU 0 0 s4) ⟨Or.inr rfl, Or.inl rfl, Or.inr rfl, Or.inr rfl, Or.inr rfl, Or.inr rfl, trivial⟩
  · refine r_aload_n (pc1 := 16) (i := 0) dX12_worthOf_15 rfl rfl rfl ?_
    refine r_getR (pc1 := 19) w_56 gfX12_97 rfl dX12_worthOf_16 rfl ?_
    refine r_iload_n (pc1 := 20) (i := 3) dX12_worthOf_19 rfl rfl rfl ?_
    refine r_iald (pc1 := 21) w_82 dX12_worthOf_20 rfl ?_
    exact r_iret rfl rfl dX12_worthOf_21
/-! f_X12_worth -/
noncomputable def f_X12_worth (a1 : Int32) (s0 : SS) : Res := bdp (f_X12_isSort a1 s0) (fun (v1 : Int32) => if (v1 : Int32) = 0 then some ((-1000000), s0) else bd (f_X12_worthOf (s0 56 4) a1 s0) (fun (v3 : Int32) (s4 : SS) => some (v3, s4)))
set_option maxRecDepth 100000 in
set_option maxHeartbeats 4000000 in
theorem c_X12_worth {l : Launch} (a1 : Int32) (s0 : SS) : Ct l wF yX12_worth cX12_worth 2 (some .int) 6 [.ref 56, .int a1] s0 (f_X12_worth a1 s0) := by
  refine ct_of (y := yX12_worth) plX12 (Nat.le_of_ble_eq_true rfl) ?_
  refine r_pad0 0 (L1 := [.ref 56, .int a1]) rfl ?_
  unfold f_X12_worth
  refine r_iload_n (pc1 := 1) (i := 1) dX12_worth_0 rfl rfl rfl ?_
  refine r_callSp (pc1 := 4) lkX12_381 (c_X12_isSort _ _) rfl rfl ⟨Nat.le_of_ble_eq_true rfl, Nat.le_of_ble_eq_true rfl⟩ (Nat.le_of_ble_eq_true rfl) dX12_worth_1 rfl (fun v1 => ?_)
  refine r_if_eq (tgt := 19) (pc1 := 7) dX12_worth_4 (by decide) rfl (fun q2 => ?_) (fun q2 => ?_)
  · refine r_ldcw (v := (-1000000)) (pc1 := 22) dX12_worth_19 cnX12_384 rfl ?_
    exact r_iret rfl rfl dX12_worth_22
  · refine r_aload_n (pc1 := 8) (i := 0) dX12_worth_7 rfl rfl rfl ?_
    refine r_aload_n (pc1 := 9) (i := 0) dX12_worth_8 rfl rfl rfl ?_
    refine r_getI (pc1 := 12) w_56 gfX12_158 rfl dX12_worth_9 rfl ?_
    refine r_iload_n (pc1 := 13) (i := 1) dX12_worth_12 rfl rfl rfl ?_
    refine r_callVi (pc1 := 16) (rv_of w_56 cl_12) lkX12_355 (c_X12_worthOf _ _ _) rfl rfl ⟨Nat.le_of_ble_eq_true rfl, Nat.le_of_ble_eq_true rfl⟩ (Nat.le_of_ble_eq_true rfl) dX12_worth_13 rfl (fun v3 s4 => ?_)
    refine r_goto (tgt := 22) dX12_worth_16 (by decide) ?_
    exact r_iret rfl rfl dX12_worth_22
/-! f_X12_wantsOf -/
noncomputable def lp_X12_wantsOf_25 (a1 : Int32) (a2 : Int32) : Nat → Int32 → Int32 → Int32 → SS → Res
  | 0, _, _, _, _ => none
  | n8 + 1, v4, v5, v6, s7 => if (s7 56 2 : Int32) ≤ (v6 : Int32) then some (v4, s7) else bd (f_X12_mayOf a1 a2 s7) (fun (v10 : Int32) (s11 : SS) => bdp (f_X12_has v10 v6 s11) (fun (v12 : Int32) => jn (fun (v13 : Int32) (v14 : Int32) (s15 : SS) => lp_X12_wantsOf_25 a1 a2 n8 v13 v14 (v6 + 1) s15) (fun (k16 : Int32 → Int32 → SS → Res) => if (v12 : Int32) = 0 then k16 v4 v5 s11 else bdp (f_X12_behind a1 v6 s11) (fun (v18 : Int32) => bd (f_X12_worthOf v18 a2 s11) (fun (v19 : Int32) (s20 : SS) => if (v5 : Int32) < (v19 : Int32) then bdp (f_X12_behind a1 v6 s20) (fun (v22 : Int32) => bd (f_X12_worthOf v22 a2 s20) (fun (v23 : Int32) (s24 : SS) => k16 v6 v23 s24)) else k16 v4 v5 s20)))))
noncomputable def f_X12_wantsOf (a1 : Int32) (a2 : Int32) (a3 : Int32) (s0 : SS) : Res := jn (fun (v1 : Int32) (s2 : SS) => lp_X12_wantsOf_25 a1 a2 FU 8 v1 0 s2) (fun (k3 : Int32 → SS → Res) => if (a3 : Int32) = 0 then k3 ((-1000000000)) s0 else bd (f_X12_worthOf a1 a2 s0) (fun (v26 : Int32) (s27 : SS) => k3 v26 s27))
set_option maxRecDepth 100000 in
set_option maxHeartbeats 4000000 in
theorem t_lp_X12_wantsOf_25 {l : Launch} (a1 : Int32) (a2 : Int32)  : ∀ (n8 : Nat) (v4 : Int32) (v5 : Int32) (v6 : Int32) (s7 : SS), RC l wF RX12 cX12_wantsOf 7 (some .int) 6 25 [.ref 56, .int a1, .int a2, .null, .int v4, .int v5, .int v6] [] s7 (lp_X12_wantsOf_25 a1 a2 n8 v4 v5 v6 s7) := by
  intro n8
  induction n8 with
  | zero =>
    intro v4 v5 v6 s7
    rw [lp_X12_wantsOf_25]
    exact r_none
  | succ n8 ih =>
    intro v4 v5 v6 s7
    rw [lp_X12_wantsOf_25]
    refine r_iload (pc1 := 27) dX12_wantsOf_25 rfl rfl ?_
    refine r_aload_n (pc1 := 28) (i := 0) dX12_wantsOf_27 rfl rfl rfl ?_
    refine r_getI (pc1 := 31) w_56 gfX12_144 rfl dX12_wantsOf_28 rfl ?_
    refine r_icmp_ge (tgt := 92) (pc1 := 34) dX12_wantsOf_31 (by decide) rfl (fun q9 => ?_) (fun q9 => ?_)
    · refine r_iload (pc1 := 94) dX12_wantsOf_92 rfl rfl ?_
      exact r_iret rfl rfl dX12_wantsOf_94
    · refine r_aload_n (pc1 := 35) (i := 0) dX12_wantsOf_34 rfl rfl rfl ?_
      refine r_iload_n (pc1 := 36) (i := 1) dX12_wantsOf_35 rfl rfl rfl ?_
      refine r_iload_n (pc1 := 37) (i := 2) dX12_wantsOf_36 rfl rfl rfl ?_
      refine r_callVi (pc1 := 40) (rv_of w_56 cl_12) lkX12_359 (c_X12_mayOf _ _ _) rfl rfl ⟨Nat.le_of_ble_eq_true rfl, Nat.le_of_ble_eq_true rfl⟩ (Nat.le_of_ble_eq_true rfl) dX12_wantsOf_37 rfl (fun v10 s11 => ?_)
      refine r_iload (pc1 := 42) dX12_wantsOf_40 rfl rfl ?_
      refine r_callSp (pc1 := 45) lkX12_335 (c_X12_has _ _ _) rfl rfl ⟨Nat.le_of_ble_eq_true rfl, Nat.le_of_ble_eq_true rfl⟩ (Nat.le_of_ble_eq_true rfl) dX12_wantsOf_42 rfl (fun v12 => ?_)
      refine r_jn (hyp := fun (k16 : Int32 → Int32 → SS → Res) => ∀ (v13 : Int32) (v14 : Int32) (s15 : SS), RC l wF RX12 cX12_wantsOf 7 (some .int) 6 86 [.ref 56, .int a1, .int a2, .null, .int v13, .int v14, .int v6] [] s15 (k16 v13 v14 s15)) (fun v13 v14 s15 => ?_) (fun k16 hk16 => ?_)
      · refine r_iinc (pc1 := 89) dX12_wantsOf_86 rfl (kn_1 _) (by decide) rfl rfl rfl ?_
        refine r_goto (tgt := 25) dX12_wantsOf_89 (by decide) ?_
        exact r_wk (ih v13 v14 (v6 + 1) s15) ⟨Or.inr rfl, Or.inr rfl, Or.inr rfl, Or.inl rfl, Or.inr rfl, Or.inr rfl, Or.inr rfl, trivial⟩
      · refine r_if_eq (tgt := 86) (pc1 := 48) dX12_wantsOf_45 (by decide) rfl (fun q17 => ?_) (fun q17 => ?_)
        · exact r_wk (hk16 v4 v5 s11) ⟨Or.inr rfl, Or.inr rfl, Or.inr rfl, Or.inl rfl, Or.inr rfl, Or.inr rfl, Or.inr rfl, trivial⟩
        · refine r_aload_n (pc1 := 49) (i := 0) dX12_wantsOf_48 rfl rfl rfl ?_
          refine r_aload_n (pc1 := 50) (i := 0) dX12_wantsOf_49 rfl rfl rfl ?_
          refine r_iload_n (pc1 := 51) (i := 1) dX12_wantsOf_50 rfl rfl rfl ?_
          refine r_iload (pc1 := 53) dX12_wantsOf_51 rfl rfl ?_
          refine r_callVp (pc1 := 56) (rv_of w_56 cl_12) lkX12_362 (c_X12_behind _ _ _) rfl rfl ⟨Nat.le_of_ble_eq_true rfl, Nat.le_of_ble_eq_true rfl⟩ (Nat.le_of_ble_eq_true rfl) dX12_wantsOf_53 rfl (fun v18 => ?_)
          refine r_iload_n (pc1 := 57) (i := 2) dX12_wantsOf_56 rfl rfl rfl ?_
          refine r_callVi (pc1 := 60) (rv_of w_56 cl_12) lkX12_355 (c_X12_worthOf _ _ _) rfl rfl ⟨Nat.le_of_ble_eq_true rfl, Nat.le_of_ble_eq_true rfl⟩ (Nat.le_of_ble_eq_true rfl) dX12_wantsOf_57 rfl (fun v19 s20 => ?_)
          refine r_iload (pc1 := 62) dX12_wantsOf_60 rfl rfl ?_
          refine r_icmp_gt (tgt := 68) (pc1 := 65) dX12_wantsOf_62 (by decide) rfl (fun q21 => ?_) (fun q21 => ?_)
          · refine r_iload (pc1 := 70) dX12_wantsOf_68 rfl rfl ?_
            refine r_istore (pc1 := 72) dX12_wantsOf_70 (by decide) rfl rfl rfl ?_
            refine r_aload_n (pc1 := 73) (i := 0) dX12_wantsOf_72 rfl rfl rfl ?_
            refine r_aload_n (pc1 := 74) (i := 0) dX12_wantsOf_73 rfl rfl rfl ?_
            refine r_iload_n (pc1 := 75) (i := 1) dX12_wantsOf_74 rfl rfl rfl ?_
            refine r_iload (pc1 := 77) dX12_wantsOf_75 rfl rfl ?_
            refine r_callVp (pc1 := 80) (rv_of w_56 cl_12) lkX12_362 (c_X12_behind _ _ _) rfl rfl ⟨Nat.le_of_ble_eq_true rfl, Nat.le_of_ble_eq_true rfl⟩ (Nat.le_of_ble_eq_true rfl) dX12_wantsOf_77 rfl (fun v22 => ?_)
            refine r_iload_n (pc1 := 81) (i := 2) dX12_wantsOf_80 rfl rfl rfl ?_
            refine r_callVi (pc1 := 84) (rv_of w_56 cl_12) lkX12_355 (c_X12_worthOf _ _ _) rfl rfl ⟨Nat.le_of_ble_eq_true rfl, Nat.le_of_ble_eq_true rfl⟩ (Nat.le_of_ble_eq_true rfl) dX12_wantsOf_81 rfl (fun v23 s24 => ?_)
            refine r_istore (pc1 := 86) dX12_wantsOf_84 (by decide) rfl rfl rfl ?_
            exact r_wk (hk16 v6 v23 s24) ⟨Or.inr rfl, Or.inr rfl, Or.inr rfl, Or.inl rfl, Or.inr rfl, Or.inr rfl, Or.inr rfl, trivial⟩
          · refine r_goto (tgt := 86) dX12_wantsOf_65 (by decide) ?_
            exact r_wk (hk16 v4 v5 s20) ⟨Or.inr rfl, Or.inr rfl, Or.inr rfl, Or.inl rfl, Or.inr rfl, Or.inr rfl, Or.inr rfl, trivial⟩
set_option maxRecDepth 100000 in
set_option maxHeartbeats 4000000 in
theorem c_X12_wantsOf {l : Launch} (a1 : Int32) (a2 : Int32) (a3 : Int32) (s0 : SS) : Ct l wF yX12_wantsOf cX12_wantsOf 7 (some .int) 6 [.ref 56, .int a1, .int a2, .int a3] s0 (f_X12_wantsOf a1 a2 a3 s0) := by
  refine ct_of (y := yX12_wantsOf) plX12 (Nat.le_of_ble_eq_true rfl) ?_
  refine r_pad0 3 (L1 := [.ref 56, .int a1, .int a2, .int a3, .null, .null, .null]) rfl ?_
  unfold f_X12_wantsOf
  refine r_bipush (v := 8) (pc1 := 2) dX12_wantsOf_0 kb_8 rfl ?_
  refine r_istore (pc1 := 4) dX12_wantsOf_2 (by decide) rfl rfl rfl ?_
  refine r_iload_n (pc1 := 5) (i := 3) dX12_wantsOf_4 rfl rfl rfl ?_
  refine r_jn (hyp := fun (k3 : Int32 → SS → Res) => ∀ (v1 : Int32) (s2 : SS), RC l wF RX12 cX12_wantsOf 7 (some .int) 6 20 [.ref 56, .int a1, .int a2, .null, .int 8, .null, .null] [.int v1] s2 (k3 v1 s2)) (fun v1 s2 => ?_) (fun k3 hk3 => ?_)
  · refine r_istore (pc1 := 22) dX12_wantsOf_20 (by decide) rfl rfl rfl ?_
    refine r_iconst (v := 0) (pc1 := 23) dX12_wantsOf_22 ki_0 rfl ?_
    refine r_istore (pc1 := 25) dX12_wantsOf_23 (by decide) rfl rfl rfl ?_
    exact r_wk (t_lp_X12_wantsOf_25 a1 a2 FU 8 v1 0 s2) ⟨Or.inr rfl, Or.inr rfl, Or.inr rfl, Or.inl rfl, Or.inr rfl, Or.inr rfl, Or.inr rfl, trivial⟩
  · refine r_if_eq (tgt := 17) (pc1 := 8) dX12_wantsOf_5 (by decide) rfl (fun q25 => ?_) (fun q25 => ?_)
    · refine r_ldcw (v := (-1000000000)) (pc1 := 20) dX12_wantsOf_17 cnX12_358 rfl ?_
      exact r_wk (hk3 ((-1000000000)) s0) ⟨Or.inr rfl, Or.inr rfl, Or.inr rfl, Or.inl rfl, Or.inr rfl, Or.inl rfl, Or.inl rfl, trivial⟩
    · refine r_aload_n (pc1 := 9) (i := 0) dX12_wantsOf_8 rfl rfl rfl ?_
      refine r_iload_n (pc1 := 10) (i := 1) dX12_wantsOf_9 rfl rfl rfl ?_
      refine r_iload_n (pc1 := 11) (i := 2) dX12_wantsOf_10 rfl rfl rfl ?_
      refine r_callVi (pc1 := 14) (rv_of w_56 cl_12) lkX12_355 (c_X12_worthOf _ _ _) rfl rfl ⟨Nat.le_of_ble_eq_true rfl, Nat.le_of_ble_eq_true rfl⟩ (Nat.le_of_ble_eq_true rfl) dX12_wantsOf_11 rfl (fun v26 s27 => ?_)
      refine r_goto (tgt := 20) dX12_wantsOf_14 (by decide) ?_
      exact r_wk (hk3 v26 s27) ⟨Or.inr rfl, Or.inr rfl, Or.inr rfl, Or.inl rfl, Or.inr rfl, Or.inl rfl, Or.inl rfl, trivial⟩
/-! f_X12_makes -/
noncomputable def f_X12_makes (a1 : Int32) (a2 : Int32) (s0 : SS) : Res := gd (inb a2 4) (if (s0 63 (Int32.toNatClampNeg a2) : Int32) = (1 : Int32) then bd (f_X12_wantsOf a1 a2 1 s0) (fun (v2 : Int32) (s3 : SS) => some (v2, s3)) else gd (inb a2 4) (if (s0 63 (Int32.toNatClampNeg a2) : Int32) = (4 : Int32) then bd (f_X12_laysRow a1 s0) (fun (v5 : Int32) (s6 : SS) => gd (inb a2 4) (bdp (f_X12_has (s6 56 49) (s6 64 (Int32.toNatClampNeg a2)) s6) (fun (v7 : Int32) => jn (fun (v8 : Int32) => if (v8 : Int32) = 0 then some (8, s6) else bd (f_X12_mayOf a1 a2 s6) (fun (v11 : Int32) (s12 : SS) => gd (inb a2 4) (bdp (f_X12_has v11 (s12 64 (Int32.toNatClampNeg a2)) s12) (fun (v13 : Int32) => if (v13 : Int32) = 0 then some (8, s12) else gd (inb a2 4) (some (s12 64 (Int32.toNatClampNeg a2), s12)))))) (fun (k9 : Int32 → Res) => if (v7 : Int32) = 0 then k9 1 else k9 0)))) else gd (inb a2 4) (if (s0 63 (Int32.toNatClampNeg a2) : Int32) = 0 then some (8, s0) else bdp (f_X12_manyOf a1 s0) (fun (v17 : Int32) => if (s0 56 3 : Int32) ≤ (v17 : Int32) then bd (f_X12_laysRow a1 s0) (fun (v19 : Int32) (s20 : SS) => gd (inb 0 4) (lt (s20 80 (Int32.toNatClampNeg 0)) (fun (v21 : Int32) => bd (f_X12_worthAt 0 a2 s20) (fun (v22 : Int32) (s23 : SS) => gd (inb a2 4) (if (s23 63 (Int32.toNatClampNeg a2) : Int32) = (2 : Int32) then if (v22 : Int32) ≤ 0 then some (8, s23) else bd (f_X12_mayOf a1 a2 s23) (fun (v26 : Int32) (s27 : SS) => bdp (f_X12_has v26 v21 s27) (fun (v28 : Int32) => if (v28 : Int32) = 0 then some (8, s27) else some (v21, s27))) else if (0 : Int32) ≤ v22 then some (8, s23) else bd (f_X12_wantsOf a1 a2 0 s23) (fun (v31 : Int32) (s32 : SS) => some (v31, s32))))))) else some (8, s0)))))
set_option maxRecDepth 100000 in
set_option maxHeartbeats 4000000 in
theorem c_X12_makes {l : Launch} (a1 : Int32) (a2 : Int32) (s0 : SS) : Ct l wF yX12_makes cX12_makes 5 (some .int) 7 [.ref 56, .int a1, .int a2] s0 (f_X12_makes a1 a2 s0) := by
  refine ct_of (y := yX12_makes) plX12 (Nat.le_of_ble_eq_true rfl) ?_
  refine r_pad0 2 (L1 := [.ref 56, .int a1, .int a2, .null, .null]) rfl ?_
  unfold f_X12_makes
  refine r_aload_n (pc1 := 1) (i := 0) dX12_makes_0 rfl rfl rfl ?_
  refine r_getR (pc1 := 4) w_56 gfX12_39 rfl dX12_makes_1 rfl ?_
  refine r_iload_n (pc1 := 5) (i := 2) dX12_makes_4 rfl rfl rfl ?_
  refine r_iald (pc1 := 6) w_63 dX12_makes_5 rfl ?_
  refine r_iconst (v := 1) (pc1 := 7) dX12_makes_6 ki_1 rfl ?_
  refine r_icmp_ne (tgt := 18) (pc1 := 10) dX12_makes_7 (by decide) rfl (fun q1 => ?_) (fun q1 => ?_)
  · refine r_aload_n (pc1 := 11) (i := 0) dX12_makes_10 rfl rfl rfl ?_
    refine r_iload_n (pc1 := 12) (i := 1) dX12_makes_11 rfl rfl rfl ?_
    refine r_iload_n (pc1 := 13) (i := 2) dX12_makes_12 rfl rfl rfl ?_
    refine r_iconst (v := 1) (pc1 := 14) dX12_makes_13 ki_1 rfl ?_
    refine r_callVi (pc1 := 17) (rv_of w_56 cl_12) lkX12_365 (c_X12_wantsOf _ _ _ _) rfl rfl ⟨Nat.le_of_ble_eq_true rfl, Nat.le_of_ble_eq_true rfl⟩ (Nat.le_of_ble_eq_true rfl) dX12_makes_14 rfl (fun v2 s3 => ?_)
    exact r_iret rfl rfl dX12_makes_17
  · refine r_aload_n (pc1 := 19) (i := 0) dX12_makes_18 rfl rfl rfl ?_
    refine r_getR (pc1 := 22) w_56 gfX12_39 rfl dX12_makes_19 rfl ?_
    refine r_iload_n (pc1 := 23) (i := 2) dX12_makes_22 rfl rfl rfl ?_
    refine r_iald (pc1 := 24) w_63 dX12_makes_23 rfl ?_
    refine r_iconst (v := 4) (pc1 := 25) dX12_makes_24 ki_4 rfl ?_
    refine r_icmp_ne (tgt := 89) (pc1 := 28) dX12_makes_25 (by decide) rfl (fun q4 => ?_) (fun q4 => ?_)
    · refine r_aload_n (pc1 := 29) (i := 0) dX12_makes_28 rfl rfl rfl ?_
      refine r_iload_n (pc1 := 30) (i := 1) dX12_makes_29 rfl rfl rfl ?_
      refine r_callVv (pc1 := 33) (rv_of w_56 cl_12) lkX12_339 (c_X12_laysRow _ _) rfl rfl ⟨Nat.le_of_ble_eq_true rfl, Nat.le_of_ble_eq_true rfl⟩ (Nat.le_of_ble_eq_true rfl) dX12_makes_30 rfl (fun v5 s6 => ?_)
      refine r_aload_n (pc1 := 34) (i := 0) dX12_makes_33 rfl rfl rfl ?_
      refine r_getI (pc1 := 37) w_56 gfX12_329 rfl dX12_makes_34 rfl ?_
      refine r_aload_n (pc1 := 38) (i := 0) dX12_makes_37 rfl rfl rfl ?_
      refine r_getR (pc1 := 41) w_56 gfX12_42 rfl dX12_makes_38 rfl ?_
      refine r_iload_n (pc1 := 42) (i := 2) dX12_makes_41 rfl rfl rfl ?_
      refine r_iald (pc1 := 43) w_64 dX12_makes_42 rfl ?_
      refine r_callSp (pc1 := 46) lkX12_335 (c_X12_has _ _ _) rfl rfl ⟨Nat.le_of_ble_eq_true rfl, Nat.le_of_ble_eq_true rfl⟩ (Nat.le_of_ble_eq_true rfl) dX12_makes_43 rfl (fun v7 => ?_)
      refine r_jn (hyp := fun (k9 : Int32 → Res) => ∀ (v8 : Int32), RC l wF RX12 cX12_makes 5 (some .int) 7 54 [.ref 56, .int a1, .int a2, .null, .null] [.int v8] s6 (k9 v8)) (fun v8 => ?_) (fun k9 hk9 => ?_)
      · refine r_istore_n (pc1 := 55) (i := 3) dX12_makes_54 rfl (by decide) rfl rfl rfl ?_
        refine r_iload_n (pc1 := 56) (i := 3) dX12_makes_55 rfl rfl rfl ?_
        refine r_if_eq (tgt := 86) (pc1 := 59) dX12_makes_56 (by decide) rfl (fun q10 => ?_) (fun q10 => ?_)
        · refine r_bipush (v := 8) (pc1 := 88) dX12_makes_86 kb_8 rfl ?_
          exact r_iret rfl rfl dX12_makes_88
        · refine r_aload_n (pc1 := 60) (i := 0) dX12_makes_59 rfl rfl rfl ?_
          refine r_iload_n (pc1 := 61) (i := 1) dX12_makes_60 rfl rfl rfl ?_
          refine r_iload_n (pc1 := 62) (i := 2) dX12_makes_61 rfl rfl rfl ?_
          refine r_callVi (pc1 := 65) (rv_of w_56 cl_12) lkX12_359 (c_X12_mayOf _ _ _) rfl rfl ⟨Nat.le_of_ble_eq_true rfl, Nat.le_of_ble_eq_true rfl⟩ (Nat.le_of_ble_eq_true rfl) dX12_makes_62 rfl (fun v11 s12 => ?_)
          refine r_aload_n (pc1 := 66) (i := 0) dX12_makes_65 rfl rfl rfl ?_
          refine r_getR (pc1 := 69) w_56 gfX12_42 rfl dX12_makes_66 rfl ?_
          refine r_iload_n (pc1 := 70) (i := 2) dX12_makes_69 rfl rfl rfl ?_
          refine r_iald (pc1 := 71) w_64 dX12_makes_70 rfl ?_
          refine r_callSp (pc1 := 74) lkX12_335 (c_X12_has _ _ _) rfl rfl ⟨Nat.le_of_ble_eq_true rfl, Nat.le_of_ble_eq_true rfl⟩ (Nat.le_of_ble_eq_true rfl) dX12_makes_71 rfl (fun v13 => ?_)
          refine r_if_eq (tgt := 86) (pc1 := 77) dX12_makes_74 (by decide) rfl (fun q14 => ?_) (fun q14 => ?_)
          · refine r_bipush (v := 8) (pc1 := 88) dX12_makes_86 kb_8 rfl ?_
            exact r_iret rfl rfl dX12_makes_88
          · refine r_aload_n (pc1 := 78) (i := 0) dX12_makes_77 rfl rfl rfl ?_
            refine r_getR (pc1 := 81) w_56 gfX12_42 rfl dX12_makes_78 rfl ?_
            refine r_iload_n (pc1 := 82) (i := 2) dX12_makes_81 rfl rfl rfl ?_
            refine r_iald (pc1 := 83) w_64 dX12_makes_82 rfl ?_
            refine r_goto (tgt := 88) dX12_makes_83 (by decide) ?_
            exact r_iret rfl rfl dX12_makes_88
      · refine r_if_ne (tgt := 53) (pc1 := 49) dX12_makes_46 (by decide) rfl (fun q15 => ?_) (fun q15 => ?_)
        · refine r_iconst (v := 1) (pc1 := 50) dX12_makes_49 ki_1 rfl ?_
          refine r_goto (tgt := 54) dX12_makes_50 (by decide) ?_
          exact r_wk (hk9 1) ⟨Or.inr rfl, Or.inr rfl, Or.inr rfl, Or.inl rfl, Or.inl rfl, trivial⟩
        · refine r_iconst (v := 0) (pc1 := 54) dX12_makes_53 ki_0 rfl ?_
          exact r_wk (hk9 0) ⟨Or.inr rfl, Or.inr rfl, Or.inr rfl, Or.inl rfl, Or.inl rfl, trivial⟩
    · refine r_aload_n (pc1 := 90) (i := 0) dX12_makes_89 rfl rfl rfl ?_
      refine r_getR (pc1 := 93) w_56 gfX12_39 rfl dX12_makes_90 rfl ?_
      refine r_iload_n (pc1 := 94) (i := 2) dX12_makes_93 rfl rfl rfl ?_
      refine r_iald (pc1 := 95) w_63 dX12_makes_94 rfl ?_
      refine r_if_eq (tgt := 109) (pc1 := 98) dX12_makes_95 (by decide) rfl (fun q16 => ?_) (fun q16 => ?_)
      · refine r_bipush (v := 8) (pc1 := 111) dX12_makes_109 kb_8 rfl ?_
        exact r_iret rfl rfl dX12_makes_111
      · refine r_iload_n (pc1 := 99) (i := 1) dX12_makes_98 rfl rfl rfl ?_
        refine r_callSp (pc1 := 102) lkX12_323 (c_X12_manyOf _ _) rfl rfl ⟨Nat.le_of_ble_eq_true rfl, Nat.le_of_ble_eq_true rfl⟩ (Nat.le_of_ble_eq_true rfl) dX12_makes_99 rfl (fun v17 => ?_)
        refine r_aload_n (pc1 := 103) (i := 0) dX12_makes_102 rfl rfl rfl ?_
        refine r_getI (pc1 := 106) w_56 gfX12_13 rfl dX12_makes_103 rfl ?_
        refine r_icmp_ge (tgt := 112) (pc1 := 109) dX12_makes_106 (by decide) rfl (fun q18 => ?_) (fun q18 => ?_)
        · refine r_aload_n (pc1 := 113) (i := 0) dX12_makes_112 rfl rfl rfl ?_
          refine r_iload_n (pc1 := 114) (i := 1) dX12_makes_113 rfl rfl rfl ?_
          refine r_callVv (pc1 := 117) (rv_of w_56 cl_12) lkX12_339 (c_X12_laysRow _ _) rfl rfl ⟨Nat.le_of_ble_eq_true rfl, Nat.le_of_ble_eq_true rfl⟩ (Nat.le_of_ble_eq_true rfl) dX12_makes_114 rfl (fun v19 s20 => ?_)
          refine r_aload_n (pc1 := 118) (i := 0) dX12_makes_117 rfl rfl rfl ?_
          refine r_getR (pc1 := 121) w_56 gfX12_91 rfl dX12_makes_118 rfl ?_
          refine r_iconst (v := 0) (pc1 := 122) dX12_makes_121 ki_0 rfl ?_
          refine r_iald (pc1 := 123) w_80 dX12_makes_122 rfl ?_
          refine r_lt (fun v21 => ?_)
          refine r_istore_n (pc1 := 124) (i := 3) dX12_makes_123 rfl (by decide) rfl rfl rfl ?_
          refine r_aload_n (pc1 := 125) (i := 0) dX12_makes_124 rfl rfl rfl ?_
          refine r_iconst (v := 0) (pc1 := 126) dX12_makes_125 ki_0 rfl ?_
          refine r_iload_n (pc1 := 127) (i := 2) dX12_makes_126 rfl rfl rfl ?_
          refine r_callVi (pc1 := 130) (rv_of w_56 cl_12) lkX12_348 (c_X12_worthAt _ _ _) rfl rfl ⟨Nat.le_of_ble_eq_true rfl, Nat.le_of_ble_eq_true rfl⟩ (Nat.le_of_ble_eq_true rfl) dX12_makes_127 rfl (fun v22 s23 => ?_)
          refine r_istore (pc1 := 132) dX12_makes_130 (by decide) rfl rfl rfl ?_
          refine r_aload_n (pc1 := 133) (i := 0) dX12_makes_132 rfl rfl rfl ?_
          refine r_getR (pc1 := 136) w_56 gfX12_39 rfl dX12_makes_133 rfl ?_
          refine r_iload_n (pc1 := 137) (i := 2) dX12_makes_136 rfl rfl rfl ?_
          refine r_iald (pc1 := 138) w_63 dX12_makes_137 rfl ?_
          refine r_iconst (v := 2) (pc1 := 139) dX12_makes_138 ki_2 rfl ?_
          refine r_icmp_ne (tgt := 167) (pc1 := 142) dX12_makes_139 (by decide) rfl (fun q24 => ?_) (fun q24 => ?_)
          · refine r_iload (pc1 := 144) dX12_makes_142 rfl rfl ?_
            refine r_if_le (tgt := 164) (pc1 := 147) dX12_makes_144 (by decide) rfl (fun q25 => ?_) (fun q25 => ?_)
            · refine r_bipush (v := 8) (pc1 := 166) dX12_makes_164 kb_8 rfl ?_
              exact r_iret rfl rfl dX12_makes_166
            · refine r_aload_n (pc1 := 148) (i := 0) dX12_makes_147 rfl rfl rfl ?_
              refine r_iload_n (pc1 := 149) (i := 1) dX12_makes_148 rfl rfl rfl ?_
              refine r_iload_n (pc1 := 150) (i := 2) dX12_makes_149 rfl rfl rfl ?_
              refine r_callVi (pc1 := 153) (rv_of w_56 cl_12) lkX12_359 (c_X12_mayOf _ _ _) rfl rfl ⟨Nat.le_of_ble_eq_true rfl, Nat.le_of_ble_eq_true rfl⟩ (Nat.le_of_ble_eq_true rfl) dX12_makes_150 rfl (fun v26 s27 => ?_)
              refine r_iload_n (pc1 := 154) (i := 3) dX12_makes_153 rfl rfl rfl ?_
              refine r_callSp (pc1 := 157) lkX12_335 (c_X12_has _ _ _) rfl rfl ⟨Nat.le_of_ble_eq_true rfl, Nat.le_of_ble_eq_true rfl⟩ (Nat.le_of_ble_eq_true rfl) dX12_makes_154 rfl (fun v28 => ?_)
              refine r_if_eq (tgt := 164) (pc1 := 160) dX12_makes_157 (by decide) rfl (fun q29 => ?_) (fun q29 => ?_)
              · refine r_bipush (v := 8) (pc1 := 166) dX12_makes_164 kb_8 rfl ?_
                exact r_iret rfl rfl dX12_makes_166
              · refine r_iload_n (pc1 := 161) (i := 3) dX12_makes_160 rfl rfl rfl ?_
                refine r_goto (tgt := 166) dX12_makes_161 (by decide) ?_
                exact r_iret rfl rfl dX12_makes_166
          · refine r_iload (pc1 := 169) dX12_makes_167 rfl rfl ?_
            refine r_if_ge (tgt := 182) (pc1 := 172) dX12_makes_169 (by decide) rfl (fun q30 => ?_) (fun q30 => ?_)
            · refine r_bipush (v := 8) (pc1 := 184) dX12_makes_182 kb_8 rfl ?_
              exact r_iret rfl rfl dX12_makes_184
            · refine r_aload_n (pc1 := 173) (i := 0) dX12_makes_172 rfl rfl rfl ?_
              refine r_iload_n (pc1 := 174) (i := 1) dX12_makes_173 rfl rfl rfl ?_
              refine r_iload_n (pc1 := 175) (i := 2) dX12_makes_174 rfl rfl rfl ?_
              refine r_iconst (v := 0) (pc1 := 176) dX12_makes_175 ki_0 rfl ?_
              refine r_callVi (pc1 := 179) (rv_of w_56 cl_12) lkX12_365 (c_X12_wantsOf _ _ _ _) rfl rfl ⟨Nat.le_of_ble_eq_true rfl, Nat.le_of_ble_eq_true rfl⟩ (Nat.le_of_ble_eq_true rfl) dX12_makes_176 rfl (fun v31 s32 => ?_)
              refine r_goto (tgt := 184) dX12_makes_179 (by decide) ?_
              exact r_iret rfl rfl dX12_makes_184
        · refine r_bipush (v := 8) (pc1 := 111) dX12_makes_109 kb_8 rfl ?_
          exact r_iret rfl rfl dX12_makes_111
/-! f_X12_would -/
noncomputable def f_X12_would (a1 : Int32) (s0 : SS) : Res := bdp (f_X12_isMaker a1 s0) (fun (v1 : Int32) => if (v1 : Int32) = 0 then some ((-1), s0) else bd (f_X12_makes (s0 56 4) a1 s0) (fun (v3 : Int32) (s4 : SS) => some (v3, s4)))
set_option maxRecDepth 100000 in
set_option maxHeartbeats 4000000 in
theorem c_X12_would {l : Launch} (a1 : Int32) (s0 : SS) : Ct l wF yX12_would cX12_would 2 (some .int) 8 [.ref 56, .int a1] s0 (f_X12_would a1 s0) := by
  refine ct_of (y := yX12_would) plX12 (Nat.le_of_ble_eq_true rfl) ?_
  refine r_pad0 0 (L1 := [.ref 56, .int a1]) rfl ?_
  unfold f_X12_would
  refine r_iload_n (pc1 := 1) (i := 1) dX12_would_0 rfl rfl rfl ?_
  refine r_callSp (pc1 := 4) lkX12_168 (c_X12_isMaker _ _) rfl rfl ⟨Nat.le_of_ble_eq_true rfl, Nat.le_of_ble_eq_true rfl⟩ (Nat.le_of_ble_eq_true rfl) dX12_would_1 rfl (fun v1 => ?_)
  refine r_if_eq (tgt := 19) (pc1 := 7) dX12_would_4 (by decide) rfl (fun q2 => ?_) (fun q2 => ?_)
  · refine r_iconst (v := (-1)) (pc1 := 20) dX12_would_19 ki_m1 rfl ?_
    exact r_iret rfl rfl dX12_would_20
  · refine r_aload_n (pc1 := 8) (i := 0) dX12_would_7 rfl rfl rfl ?_
    refine r_aload_n (pc1 := 9) (i := 0) dX12_would_8 rfl rfl rfl ?_
    refine r_getI (pc1 := 12) w_56 gfX12_158 rfl dX12_would_9 rfl ?_
    refine r_iload_n (pc1 := 13) (i := 1) dX12_would_12 rfl rfl rfl ?_
    refine r_callVi (pc1 := 16) (rv_of w_56 cl_12) lkX12_385 (c_X12_makes _ _ _) rfl rfl ⟨Nat.le_of_ble_eq_true rfl, Nat.le_of_ble_eq_true rfl⟩ (Nat.le_of_ble_eq_true rfl) dX12_would_13 rfl (fun v3 s4 => ?_)
    refine r_goto (tgt := 20) dX12_would_16 (by decide) ?_
    exact r_iret rfl rfl dX12_would_20
/-! f_X12_makerOn -/
noncomputable def f_X12_makerOn (a1 : Int32) (s0 : SS) : Option Int32 := gd (¬ ((s0 56 5) : Int32) = 0) (gd (inb (((s0 56 6) + a1) - ((s0 56 6) + a1) / (s0 56 5) * (s0 56 5)) 4) (some (s0 62 (Int32.toNatClampNeg (((s0 56 6) + a1) - ((s0 56 6) + a1) / (s0 56 5) * (s0 56 5))))))
set_option maxRecDepth 100000 in
set_option maxHeartbeats 4000000 in
theorem c_X12_makerOn {l : Launch} (a1 : Int32) (s0 : SS) : Ct l wF yX12_makerOn cX12_makerOn 2 (some .int) 0 [.ref 56, .int a1] s0 (pu (f_X12_makerOn a1 s0) s0) := by
  refine ct_of (y := yX12_makerOn) plX12 (Nat.le_of_ble_eq_true rfl) ?_
  refine r_pad0 0 (L1 := [.ref 56, .int a1]) rfl ?_
  unfold f_X12_makerOn
  refine r_aload_n (pc1 := 1) (i := 0) dX12_makerOn_0 rfl rfl rfl ?_
  refine r_getR (pc1 := 4) w_56 gfX12_36 rfl dX12_makerOn_1 rfl ?_
  refine r_aload_n (pc1 := 5) (i := 0) dX12_makerOn_4 rfl rfl rfl ?_
  refine r_getI (pc1 := 8) w_56 gfX12_172 rfl dX12_makerOn_5 rfl ?_
  refine r_iload_n (pc1 := 9) (i := 1) dX12_makerOn_8 rfl rfl rfl ?_
  refine r_iadd (pc1 := 10) dX12_makerOn_9 rfl ?_
  refine r_aload_n (pc1 := 11) (i := 0) dX12_makerOn_10 rfl rfl rfl ?_
  refine r_getI (pc1 := 14) w_56 gfX12_17 rfl dX12_makerOn_11 rfl ?_
  refine p_irem (pc1 := 15) dX12_makerOn_14 rfl ?_
  refine p_iald (pc1 := 16) w_62 dX12_makerOn_15 rfl ?_
  exact p_iret rfl rfl dX12_makerOn_16
/-! f_X12_run -/
noncomputable def lp_X12_run_57 (a1 : Int32) (a2 : Int32) (k10 : Int32 → Int32 → Int32 → SS → Res) : Nat → Int32 → Int32 → Int32 → Int32 → SS → Res
  | 0, _, _, _, _, _ => none
  | n22 + 1, v17, v18, v19, v20, s21 => if (a1 : Int32) ≤ (v20 : Int32) then k10 v17 v18 v19 s21 else bdp (f_X12_makerOn v20 s21) (fun (v24 : Int32) => bd (f_X12_makes v17 v24 s21) (fun (v25 : Int32) (s26 : SS) => jn (fun (v27 : Int32) => lt (v19 + v27) (fun (v29 : Int32) => bdp (f_X12_behind v17 v25 s26) (fun (v30 : Int32) => bdp (f_X12_isSort a2 s26) (fun (v31 : Int32) => jn (fun (v32 : Int32) (s33 : SS) => lt (v18 + v32) (fun (v35 : Int32) => lp_X12_run_57 a1 a2 k10 n22 v30 v35 v29 (v20 + 1) s33)) (fun (k34 : Int32 → SS → Res) => if (v31 : Int32) = 0 then k34 0 s26 else bd (f_X12_worthOf v30 a2 s26) (fun (v37 : Int32) (s38 : SS) => k34 v37 s38)))))) (fun (k28 : Int32 → Res) => if (8 : Int32) ≤ (v25 : Int32) then k28 0 else k28 1)))
noncomputable def f_X12_run (a1 : Int32) (a2 : Int32) (s0 : SS) : Res := bdp (f_X12_lies ((a1 : Int32).toInt64) 1 60 s0) (fun (v1 : Int32) => if (v1 : Int32) = 0 then some ((-1000000), s0) else bdp (f_X12_isSort a2 s0) (fun (v3 : Int32) => jn (lt (s0 56 4) (fun (v5 : Int32) => jn (fun (v6 : Int32) (v7 : Int32) (v8 : Int32) (s9 : SS) => if (a2 : Int32) = (20 : Int32) then some (v8, s9) else bdp (f_X12_isSort a2 s9) (fun (v12 : Int32) => if (v12 : Int32) = 0 then bd (f_X12_laysRow v6 s9) (fun (v14 : Int32) (s15 : SS) => if (s15 56 48 : Int32) ≤ (a2 - 10 : Int32) then some ((-1), s15) else gd (inb (a2 - 10) 4) (some (s15 80 (Int32.toNatClampNeg (a2 - 10)), s15))) else some (v7, s9))) (fun (k10 : Int32 → Int32 → Int32 → SS → Res) => lp_X12_run_57 a1 a2 k10 FU v5 0 0 0 s0))) (fun (k4 : Res) => if (v3 : Int32) = 0 then if (a2 : Int32) = (20 : Int32) then k4 else bdp (f_X12_lies ((a2 : Int32).toInt64) 10 13 s0) (fun (v42 : Int32) => if (v42 : Int32) = 0 then some ((-1000000), s0) else k4) else k4)))
set_option maxRecDepth 100000 in
set_option maxHeartbeats 4000000 in
theorem t_lp_X12_run_57 {l : Launch} (a1 : Int32) (a2 : Int32) (k10 : Int32 → Int32 → Int32 → SS → Res) (hk10 : ∀ (v6 : Int32) (v7 : Int32) (v8 : Int32) (s9 : SS), RC l wF RX12 cX12_run 8 (some .int) 8 129 [.ref 56, .null, .int a2, .int v6, .int v7, .int v8, .null, .null] [] s9 (k10 v6 v7 v8 s9)) : ∀ (n22 : Nat) (v17 : Int32) (v18 : Int32) (v19 : Int32) (v20 : Int32) (s21 : SS), RC l wF RX12 cX12_run 8 (some .int) 8 57 [.ref 56, .int a1, .int a2, .int v17, .int v18, .int v19, .int v20, .null] [] s21 (lp_X12_run_57 a1 a2 k10 n22 v17 v18 v19 v20 s21) := by
  intro n22
  induction n22 with
  | zero =>
    intro v17 v18 v19 v20 s21
    rw [lp_X12_run_57]
    exact r_none
  | succ n22 ih =>
    intro v17 v18 v19 v20 s21
    rw [lp_X12_run_57]
    refine r_iload (pc1 := 59) dX12_run_57 rfl rfl ?_
    refine r_iload_n (pc1 := 60) (i := 1) dX12_run_59 rfl rfl rfl ?_
    refine r_icmp_ge (tgt := 129) (pc1 := 63) dX12_run_60 (by decide) rfl (fun q23 => ?_) (fun q23 => ?_)
    · exact r_wk (hk10 v17 v18 v19 s21) ⟨Or.inr rfl, Or.inl rfl, Or.inr rfl, Or.inr rfl, Or.inr rfl, Or.inr rfl, Or.inl rfl, Or.inl rfl, trivial⟩
    · refine r_aload_n (pc1 := 64) (i := 0) dX12_run_63 rfl rfl rfl ?_
      refine r_iload_n (pc1 := 65) (i := 3) dX12_run_64 rfl rfl rfl ?_
      refine r_aload_n (pc1 := 66) (i := 0) dX12_run_65 rfl rfl rfl ?_
      refine r_iload (pc1 := 68) dX12_run_66 rfl rfl ?_
      refine r_callVp (pc1 := 71) (rv_of w_56 cl_12) lkX12_394 (c_X12_makerOn _ _) rfl rfl ⟨Nat.le_of_ble_eq_true rfl, Nat.le_of_ble_eq_true rfl⟩ (Nat.le_of_ble_eq_true rfl) dX12_run_68 rfl (fun v24 => ?_)
      refine r_callVi (pc1 := 74) (rv_of w_56 cl_12) lkX12_385 (c_X12_makes _ _ _) rfl rfl ⟨Nat.le_of_ble_eq_true rfl, Nat.le_of_ble_eq_true rfl⟩ (Nat.le_of_ble_eq_true rfl) dX12_run_71 rfl (fun v25 s26 => ?_)
      refine r_istore (pc1 := 76) dX12_run_74 (by decide) rfl rfl rfl ?_
      refine r_iload (pc1 := 78) dX12_run_76 rfl rfl ?_
      refine r_iload (pc1 := 80) dX12_run_78 rfl rfl ?_
      refine r_bipush (v := 8) (pc1 := 82) dX12_run_80 kb_8 rfl ?_
      refine r_jn (hyp := fun (k28 : Int32 → Res) => ∀ (v27 : Int32), RC l wF RX12 cX12_run 8 (some .int) 8 90 [.ref 56, .int a1, .int a2, .int v17, .int v18, .null, .int v20, .int v25] [.int v27, .int v19] s26 (k28 v27)) (fun v27 => ?_) (fun k28 hk28 => ?_)
      · refine r_iadd (pc1 := 91) dX12_run_90 rfl ?_
        refine r_lt (fun v29 => ?_)
        refine r_istore (pc1 := 93) dX12_run_91 (by decide) rfl rfl rfl ?_
        refine r_aload_n (pc1 := 94) (i := 0) dX12_run_93 rfl rfl rfl ?_
        refine r_iload_n (pc1 := 95) (i := 3) dX12_run_94 rfl rfl rfl ?_
        refine r_iload (pc1 := 97) dX12_run_95 rfl rfl ?_
        refine r_callVp (pc1 := 100) (rv_of w_56 cl_12) lkX12_362 (c_X12_behind _ _ _) rfl rfl ⟨Nat.le_of_ble_eq_true rfl, Nat.le_of_ble_eq_true rfl⟩ (Nat.le_of_ble_eq_true rfl) dX12_run_97 rfl (fun v30 => ?_)
        refine r_istore_n (pc1 := 101) (i := 3) dX12_run_100 rfl (by decide) rfl rfl rfl ?_
        refine r_iload (pc1 := 103) dX12_run_101 rfl rfl ?_
        refine r_iload_n (pc1 := 104) (i := 2) dX12_run_103 rfl rfl rfl ?_
        refine r_callSp (pc1 := 107) lkX12_381 (c_X12_isSort _ _) rfl rfl ⟨Nat.le_of_ble_eq_true rfl, Nat.le_of_ble_eq_true rfl⟩ (Nat.le_of_ble_eq_true rfl) dX12_run_104 rfl (fun v31 => ?_)
        refine r_jn (hyp := fun (k34 : Int32 → SS → Res) => ∀ (v32 : Int32) (s33 : SS), RC l wF RX12 cX12_run 8 (some .int) 8 120 [.ref 56, .int a1, .int a2, .int v30, .null, .int v29, .int v20, .null] [.int v32, .int v18] s33 (k34 v32 s33)) (fun v32 s33 => ?_) (fun k34 hk34 => ?_)
        · refine r_iadd (pc1 := 121) dX12_run_120 rfl ?_
          refine r_lt (fun v35 => ?_)
          refine r_istore (pc1 := 123) dX12_run_121 (by decide) rfl rfl rfl ?_
          refine r_iinc (pc1 := 126) dX12_run_123 rfl (kn_1 _) (by decide) rfl rfl rfl ?_
          refine r_goto (tgt := 57) dX12_run_126 (by decide) ?_
          exact r_wk (ih v30 v35 v29 (v20 + 1) s33) ⟨Or.inr rfl, Or.inr rfl, Or.inr rfl, Or.inr rfl, Or.inr rfl, Or.inr rfl, Or.inr rfl, Or.inl rfl, trivial⟩
        · refine r_if_eq (tgt := 119) (pc1 := 110) dX12_run_107 (by decide) rfl (fun q36 => ?_) (fun q36 => ?_)
          · refine r_iconst (v := 0) (pc1 := 120) dX12_run_119 ki_0 rfl ?_
            exact r_wk (hk34 0 s26) ⟨Or.inr rfl, Or.inr rfl, Or.inr rfl, Or.inr rfl, Or.inl rfl, Or.inr rfl, Or.inr rfl, Or.inl rfl, trivial⟩
          · refine r_aload_n (pc1 := 111) (i := 0) dX12_run_110 rfl rfl rfl ?_
            refine r_iload_n (pc1 := 112) (i := 3) dX12_run_111 rfl rfl rfl ?_
            refine r_iload_n (pc1 := 113) (i := 2) dX12_run_112 rfl rfl rfl ?_
            refine r_callVi (pc1 := 116) (rv_of w_56 cl_12) lkX12_355 (c_X12_worthOf _ _ _) rfl rfl ⟨Nat.le_of_ble_eq_true rfl, Nat.le_of_ble_eq_true rfl⟩ (Nat.le_of_ble_eq_true rfl) dX12_run_113 rfl (fun v37 s38 => ?_)
            refine r_goto (tgt := 120) dX12_run_116 (by decide) ?_
            exact r_wk (hk34 v37 s38) ⟨Or.inr rfl, Or.inr rfl, Or.inr rfl, Or.inr rfl, Or.inl rfl, Or.inr rfl, Or.inr rfl, Or.inl rfl, trivial⟩
      · refine r_icmp_ge (tgt := 89) (pc1 := 85) dX12_run_82 (by decide) rfl (fun q39 => ?_) (fun q39 => ?_)
        · refine r_iconst (v := 0) (pc1 := 90) dX12_run_89 ki_0 rfl ?_
          exact r_wk (hk28 0) ⟨Or.inr rfl, Or.inr rfl, Or.inr rfl, Or.inr rfl, Or.inr rfl, Or.inl rfl, Or.inr rfl, Or.inr rfl, trivial⟩
        · refine r_iconst (v := 1) (pc1 := 86) dX12_run_85 ki_1 rfl ?_
          refine r_goto (tgt := 90) dX12_run_86 (by decide) ?_
          exact r_wk (hk28 1) ⟨Or.inr rfl, Or.inr rfl, Or.inr rfl, Or.inr rfl, Or.inr rfl, Or.inl rfl, Or.inr rfl, Or.inr rfl, trivial⟩
set_option maxRecDepth 100000 in
set_option maxHeartbeats 4000000 in
theorem c_X12_run {l : Launch} (a1 : Int32) (a2 : Int32) (s0 : SS) : Ct l wF yX12_run cX12_run 8 (some .int) 8 [.ref 56, .int a1, .int a2] s0 (f_X12_run a1 a2 s0) := by
  refine ct_of (y := yX12_run) plX12 (Nat.le_of_ble_eq_true rfl) ?_
  refine r_pad0 5 (L1 := [.ref 56, .int a1, .int a2, .null, .null, .null, .null, .null]) rfl ?_
  unfold f_X12_run
  refine r_iload_n (pc1 := 1) (i := 1) dX12_run_0 rfl rfl rfl ?_
  refine r_i2l (pc1 := 2) dX12_run_1 rfl ?_
  refine r_lconst (v := 1) (pc1 := 3) dX12_run_2 kl_1 rfl ?_
  refine r_ldc2 (v := 60) (pc1 := 6) dX12_run_3 cnX12_388 rfl ?_
  refine r_callSp (pc1 := 9) lkX12_140 (c_X12_lies _ _ _ _) rfl rfl ⟨Nat.le_of_ble_eq_true rfl, Nat.le_of_ble_eq_true rfl⟩ (Nat.le_of_ble_eq_true rfl) dX12_run_6 rfl (fun v1 => ?_)
  refine r_if_eq (tgt := 39) (pc1 := 12) dX12_run_9 (by decide) rfl (fun q2 => ?_) (fun q2 => ?_)
  · refine r_ldcw (v := (-1000000)) (pc1 := 42) dX12_run_39 cnX12_384 rfl ?_
    exact r_iret rfl rfl dX12_run_42
  · refine r_iload_n (pc1 := 13) (i := 2) dX12_run_12 rfl rfl rfl ?_
    refine r_callSp (pc1 := 16) lkX12_381 (c_X12_isSort _ _) rfl rfl ⟨Nat.le_of_ble_eq_true rfl, Nat.le_of_ble_eq_true rfl⟩ (Nat.le_of_ble_eq_true rfl) dX12_run_13 rfl (fun v3 => ?_)
    refine r_jn (hyp := fun (k4 : Res) => RC l wF RX12 cX12_run 8 (some .int) 8 43 [.ref 56, .int a1, .int a2, .null, .null, .null, .null, .null] [] s0 k4) (?_) (fun k4 hk4 => ?_)
    · refine r_aload_n (pc1 := 44) (i := 0) dX12_run_43 rfl rfl rfl ?_
      refine r_getI (pc1 := 47) w_56 gfX12_158 rfl dX12_run_44 rfl ?_
      refine r_lt (fun v5 => ?_)
      refine r_istore_n (pc1 := 48) (i := 3) dX12_run_47 rfl (by decide) rfl rfl rfl ?_
      refine r_iconst (v := 0) (pc1 := 49) dX12_run_48 ki_0 rfl ?_
      refine r_istore (pc1 := 51) dX12_run_49 (by decide) rfl rfl rfl ?_
      refine r_iconst (v := 0) (pc1 := 52) dX12_run_51 ki_0 rfl ?_
      refine r_istore (pc1 := 54) dX12_run_52 (by decide) rfl rfl rfl ?_
      refine r_iconst (v := 0) (pc1 := 55) dX12_run_54 ki_0 rfl ?_
      refine r_istore (pc1 := 57) dX12_run_55 (by decide) rfl rfl rfl ?_
      refine r_jn (hyp := fun (k10 : Int32 → Int32 → Int32 → SS → Res) => ∀ (v6 : Int32) (v7 : Int32) (v8 : Int32) (s9 : SS), RC l wF RX12 cX12_run 8 (some .int) 8 129 [.ref 56, .null, .int a2, .int v6, .int v7, .int v8, .null, .null] [] s9 (k10 v6 v7 v8 s9)) (fun v6 v7 v8 s9 => ?_) (fun k10 hk10 => ?_)
      · refine r_iload_n (pc1 := 130) (i := 2) dX12_run_129 rfl rfl rfl ?_
        refine r_bipush (v := 20) (pc1 := 132) dX12_run_130 kb_20 rfl ?_
        refine r_icmp_ne (tgt := 138) (pc1 := 135) dX12_run_132 (by decide) rfl (fun q11 => ?_) (fun q11 => ?_)
        · refine r_iload (pc1 := 137) dX12_run_135 rfl rfl ?_
          exact r_iret rfl rfl dX12_run_137
        · refine r_iload_n (pc1 := 139) (i := 2) dX12_run_138 rfl rfl rfl ?_
          refine r_callSp (pc1 := 142) lkX12_381 (c_X12_isSort _ _) rfl rfl ⟨Nat.le_of_ble_eq_true rfl, Nat.le_of_ble_eq_true rfl⟩ (Nat.le_of_ble_eq_true rfl) dX12_run_139 rfl (fun v12 => ?_)
          refine r_if_eq (tgt := 148) (pc1 := 145) dX12_run_142 (by decide) rfl (fun q13 => ?_) (fun q13 => ?_)
          · refine r_aload_n (pc1 := 149) (i := 0) dX12_run_148 rfl rfl rfl ?_
            refine r_iload_n (pc1 := 150) (i := 3) dX12_run_149 rfl rfl rfl ?_
            refine r_callVv (pc1 := 153) (rv_of w_56 cl_12) lkX12_339 (c_X12_laysRow _ _) rfl rfl ⟨Nat.le_of_ble_eq_true rfl, Nat.le_of_ble_eq_true rfl⟩ (Nat.le_of_ble_eq_true rfl) dX12_run_150 rfl (fun v14 s15 => ?_)
            refine r_iload_n (pc1 := 154) (i := 2) dX12_run_153 rfl rfl rfl ?_
            refine r_bipush (v := 10) (pc1 := 156) dX12_run_154 kb_10 rfl ?_
            refine r_isub (pc1 := 157) dX12_run_156 rfl ?_
            refine r_aload_n (pc1 := 158) (i := 0) dX12_run_157 rfl rfl rfl ?_
            refine r_getI (pc1 := 161) w_56 gfX12_297 rfl dX12_run_158 rfl ?_
            refine r_icmp_ge (tgt := 176) (pc1 := 164) dX12_run_161 (by decide) rfl (fun q16 => ?_) (fun q16 => ?_)
            · refine r_iconst (v := (-1)) (pc1 := 177) dX12_run_176 ki_m1 rfl ?_
              exact r_iret rfl rfl dX12_run_177
            · refine r_aload_n (pc1 := 165) (i := 0) dX12_run_164 rfl rfl rfl ?_
              refine r_getR (pc1 := 168) w_56 gfX12_91 rfl dX12_run_165 rfl ?_
              refine r_iload_n (pc1 := 169) (i := 2) dX12_run_168 rfl rfl rfl ?_
              refine r_bipush (v := 10) (pc1 := 171) dX12_run_169 kb_10 rfl ?_
              refine r_isub (pc1 := 172) dX12_run_171 rfl ?_
              refine r_iald (pc1 := 173) w_80 dX12_run_172 rfl ?_
              refine r_goto (tgt := 177) dX12_run_173 (by decide) ?_
              exact r_iret rfl rfl dX12_run_177
          · refine r_iload (pc1 := 147) dX12_run_145 rfl rfl ?_
            exact r_iret rfl rfl dX12_run_147
      · exact r_wk (t_lp_X12_run_57 a1 a2 k10 hk10 FU v5 0 0 0 s0) ⟨Or.inr rfl, Or.inr rfl, Or.inr rfl, Or.inr rfl, Or.inr rfl, Or.inr rfl, Or.inr rfl, Or.inl rfl, trivial⟩
    · refine r_if_ne (tgt := 43) (pc1 := 19) dX12_run_16 (by decide) rfl (fun q40 => ?_) (fun q40 => ?_)
      · refine r_iload_n (pc1 := 20) (i := 2) dX12_run_19 rfl rfl rfl ?_
        refine r_bipush (v := 20) (pc1 := 22) dX12_run_20 kb_20 rfl ?_
        refine r_icmp_eq (tgt := 43) (pc1 := 25) dX12_run_22 (by decide) rfl (fun q41 => ?_) (fun q41 => ?_)
        · exact r_wk (hk4) ⟨Or.inr rfl, Or.inr rfl, Or.inr rfl, Or.inl rfl, Or.inl rfl, Or.inl rfl, Or.inl rfl, Or.inl rfl, trivial⟩
        · refine r_iload_n (pc1 := 26) (i := 2) dX12_run_25 rfl rfl rfl ?_
          refine r_i2l (pc1 := 27) dX12_run_26 rfl ?_
          refine r_ldc2 (v := 10) (pc1 := 30) dX12_run_27 cnX12_390 rfl ?_
          refine r_ldc2 (v := 13) (pc1 := 33) dX12_run_30 cnX12_392 rfl ?_
          refine r_callSp (pc1 := 36) lkX12_140 (c_X12_lies _ _ _ _) rfl rfl ⟨Nat.le_of_ble_eq_true rfl, Nat.le_of_ble_eq_true rfl⟩ (Nat.le_of_ble_eq_true rfl) dX12_run_33 rfl (fun v42 => ?_)
          refine r_if_ne (tgt := 43) (pc1 := 39) dX12_run_36 (by decide) rfl (fun q43 => ?_) (fun q43 => ?_)
          · refine r_ldcw (v := (-1000000)) (pc1 := 42) dX12_run_39 cnX12_384 rfl ?_
            exact r_iret rfl rfl dX12_run_42
          · exact r_wk (hk4) ⟨Or.inr rfl, Or.inr rfl, Or.inr rfl, Or.inl rfl, Or.inl rfl, Or.inl rfl, Or.inl rfl, Or.inl rfl, trivial⟩
      · exact r_wk (hk4) ⟨Or.inr rfl, Or.inr rfl, Or.inr rfl, Or.inl rfl, Or.inl rfl, Or.inl rfl, Or.inl rfl, Or.inl rfl, trivial⟩
/-! f_X12_goesRound -/
noncomputable def lp_X12_goesRound_136 (a3 : Int32) : Nat → Int32 → Int32 → Int32 → SS → Res
  | 0, _, _, _, _ => none
  | n15 + 1, v11, v12, v13, s14 => if (s14 56 61 : Int32) ≤ (v13 : Int32) then some (0, s14) else gd (inb v12 4) (bd (f_X12_makes v11 (s14 62 (Int32.toNatClampNeg v12)) s14) (fun (v17 : Int32) (s18 : SS) => bdp (f_X12_behind v11 v17 s18) (fun (v19 : Int32) => gd (¬ ((s18 56 5) : Int32) = 0) (lt ((v12 + 1) - (v12 + 1) / (s18 56 5) * (s18 56 5)) (fun (v20 : Int32) => bd (f_X12_worthOf v19 a3 s18) (fun (v21 : Int32) (s22 : SS) => lts (up s22 56 62 ((s18 56 62) + v21)) (fun (s23 : SS) => lp_X12_goesRound_136 a3 n15 v19 v20 (v13 + 1) s23)))))))
noncomputable def lp_X12_goesRound_34 (a3 : Int32) (k7 : Int32 → Int32 → Int32 → SS → Res) : Nat → Int32 → Int32 → Int32 → SS → Res
  | 0, _, _, _, _ => none
  | n28 + 1, v24, v25, v26, s27 => gd (inb ((4 * v24) + v25) 18724) (if (0 : Int32) ≤ (s27 89 (Int32.toNatClampNeg ((4 * v24) + v25))) then k7 v24 v25 v26 s27 else gd (inb ((4 * v24) + v25) 18724) (lts (up s27 89 (Int32.toNatClampNeg ((4 * v24) + v25)) v26) (fun (s30 : SS) => gd (inb v25 4) (bd (f_X12_makes v24 (s30 62 (Int32.toNatClampNeg v25)) s30) (fun (v31 : Int32) (s32 : SS) => bdp (f_X12_behind v24 v31 s32) (fun (v33 : Int32) => gd (¬ ((s32 56 5) : Int32) = 0) (lt ((v25 + 1) - (v25 + 1) / (s32 56 5) * (s32 56 5)) (fun (v34 : Int32) => lp_X12_goesRound_34 a3 k7 n28 v33 v34 (v26 + 1) s32))))))))
noncomputable def lp_X12_goesRound_3 (a1 : Int32) (a2 : Int32) (a3 : Int32) (k2 : SS → Res) : Nat → Int32 → SS → Res
  | 0, _, _ => none
  | n37 + 1, v35, s36 => if (18724 : Int32) ≤ (v35 : Int32) then k2 s36 else gd (inb v35 18724) (lts (up s36 89 (Int32.toNatClampNeg v35) ((-1))) (fun (s39 : SS) => lp_X12_goesRound_3 a1 a2 a3 k2 n37 (v35 + 1) s39))
noncomputable def f_X12_goesRound (a1 : Int32) (a2 : Int32) (a3 : Int32) (s0 : SS) : Res := jn (fun (s1 : SS) => jn (fun (v3 : Int32) (v4 : Int32) (v5 : Int32) (s6 : SS) => gd (inb ((4 * v3) + v4) 18724) (lts (up s6 56 60 (s6 89 (Int32.toNatClampNeg ((4 * v3) + v4)))) (fun (s8 : SS) => lts (up s8 56 61 (v5 - (s8 56 60))) (fun (s9 : SS) => lts (up s9 56 62 0) (fun (s10 : SS) => lp_X12_goesRound_136 a3 FU v3 v4 0 s10))))) (fun (k7 : Int32 → Int32 → Int32 → SS → Res) => lp_X12_goesRound_34 a3 k7 FU a1 a2 0 s1)) (fun (k2 : SS → Res) => lp_X12_goesRound_3 a1 a2 a3 k2 FU 0 s0)
set_option maxRecDepth 100000 in
set_option maxHeartbeats 4000000 in
theorem t_lp_X12_goesRound_136 {l : Launch} (a3 : Int32)  : ∀ (n15 : Nat) (v11 : Int32) (v12 : Int32) (v13 : Int32) (s14 : SS), RC l wF RX12 cX12_goesRound 8 none 8 136 [.ref 56, .null, .null, .int a3, .int v11, .int v12, .null, .int v13] [] s14 (lp_X12_goesRound_136 a3 n15 v11 v12 v13 s14) := by
  intro n15
  induction n15 with
  | zero =>
    intro v11 v12 v13 s14
    rw [lp_X12_goesRound_136]
    exact r_none
  | succ n15 ih =>
    intro v11 v12 v13 s14
    rw [lp_X12_goesRound_136]
    refine r_iload (pc1 := 138) dX12_goesRound_136 rfl rfl ?_
    refine r_aload_n (pc1 := 139) (i := 0) dX12_goesRound_138 rfl rfl rfl ?_
    refine r_getI (pc1 := 142) w_56 gfX12_400 rfl dX12_goesRound_139 rfl ?_
    refine r_icmp_ge (tgt := 199) (pc1 := 145) dX12_goesRound_142 (by decide) rfl (fun q16 => ?_) (fun q16 => ?_)
    · exact r_vret rfl dX12_goesRound_199
    · refine r_aload_n (pc1 := 146) (i := 0) dX12_goesRound_145 rfl rfl rfl ?_
      refine r_iload (pc1 := 148) dX12_goesRound_146 rfl rfl ?_
      refine r_aload_n (pc1 := 149) (i := 0) dX12_goesRound_148 rfl rfl rfl ?_
      refine r_iload (pc1 := 151) dX12_goesRound_149 rfl rfl ?_
      refine r_aload_n (pc1 := 152) (i := 0) dX12_goesRound_151 rfl rfl rfl ?_
      refine r_getR (pc1 := 155) w_56 gfX12_36 rfl dX12_goesRound_152 rfl ?_
      refine r_iload (pc1 := 157) dX12_goesRound_155 rfl rfl ?_
      refine r_iald (pc1 := 158) w_62 dX12_goesRound_157 rfl ?_
      refine r_callVi (pc1 := 161) (rv_of w_56 cl_12) lkX12_385 (c_X12_makes _ _ _) rfl rfl ⟨Nat.le_of_ble_eq_true rfl, Nat.le_of_ble_eq_true rfl⟩ (Nat.le_of_ble_eq_true rfl) dX12_goesRound_158 rfl (fun v17 s18 => ?_)
      refine r_callVp (pc1 := 164) (rv_of w_56 cl_12) lkX12_362 (c_X12_behind _ _ _) rfl rfl ⟨Nat.le_of_ble_eq_true rfl, Nat.le_of_ble_eq_true rfl⟩ (Nat.le_of_ble_eq_true rfl) dX12_goesRound_161 rfl (fun v19 => ?_)
      refine r_istore (pc1 := 166) dX12_goesRound_164 (by decide) rfl rfl rfl ?_
      refine r_iload (pc1 := 168) dX12_goesRound_166 rfl rfl ?_
      refine r_iconst (v := 1) (pc1 := 169) dX12_goesRound_168 ki_1 rfl ?_
      refine r_iadd (pc1 := 170) dX12_goesRound_169 rfl ?_
      refine r_aload_n (pc1 := 171) (i := 0) dX12_goesRound_170 rfl rfl rfl ?_
      refine r_getI (pc1 := 174) w_56 gfX12_17 rfl dX12_goesRound_171 rfl ?_
      refine r_irem (pc1 := 175) dX12_goesRound_174 rfl ?_
      refine r_lt (fun v20 => ?_)
      refine r_istore (pc1 := 177) dX12_goesRound_175 (by decide) rfl rfl rfl ?_
      refine r_aload_n (pc1 := 178) (i := 0) dX12_goesRound_177 rfl rfl rfl ?_
      refine r_dup (pc1 := 179) dX12_goesRound_178 rfl rfl ?_
      refine r_getI (pc1 := 182) w_56 gfX12_403 rfl dX12_goesRound_179 rfl ?_
      refine r_aload_n (pc1 := 183) (i := 0) dX12_goesRound_182 rfl rfl rfl ?_
      refine r_iload (pc1 := 185) dX12_goesRound_183 rfl rfl ?_
      refine r_iload_n (pc1 := 186) (i := 3) dX12_goesRound_185 rfl rfl rfl ?_
      refine r_callVi (pc1 := 189) (rv_of w_56 cl_12) lkX12_355 (c_X12_worthOf _ _ _) rfl rfl ⟨Nat.le_of_ble_eq_true rfl, Nat.le_of_ble_eq_true rfl⟩ (Nat.le_of_ble_eq_true rfl) dX12_goesRound_186 rfl (fun v21 s22 => ?_)
      refine r_iadd (pc1 := 190) dX12_goesRound_189 rfl ?_
      refine r_putI (pc1 := 193) w_56 pfX12_403 rfl ⟨rfl, rfl⟩ dX12_goesRound_190 rfl ?_
      refine r_lts (fun s23 => ?_)
      refine r_iinc (pc1 := 196) dX12_goesRound_193 rfl (kn_1 _) (by decide) rfl rfl rfl ?_
      refine r_goto (tgt := 136) dX12_goesRound_196 (by decide) ?_
      exact r_wk (ih v19 v20 (v13 + 1) s23) ⟨Or.inr rfl, Or.inl rfl, Or.inl rfl, Or.inr rfl, Or.inr rfl, Or.inr rfl, Or.inl rfl, Or.inr rfl, trivial⟩
set_option maxRecDepth 100000 in
set_option maxHeartbeats 4000000 in
theorem t_lp_X12_goesRound_34 {l : Launch} (a3 : Int32) (k7 : Int32 → Int32 → Int32 → SS → Res) (hk7 : ∀ (v3 : Int32) (v4 : Int32) (v5 : Int32) (s6 : SS), RC l wF RX12 cX12_goesRound 8 none 8 101 [.ref 56, .null, .null, .int a3, .int v3, .int v4, .int v5, .null] [] s6 (k7 v3 v4 v5 s6)) : ∀ (n28 : Nat) (v24 : Int32) (v25 : Int32) (v26 : Int32) (s27 : SS), RC l wF RX12 cX12_goesRound 8 none 8 34 [.ref 56, .null, .null, .int a3, .int v24, .int v25, .int v26, .null] [] s27 (lp_X12_goesRound_34 a3 k7 n28 v24 v25 v26 s27) := by
  intro n28
  induction n28 with
  | zero =>
    intro v24 v25 v26 s27
    rw [lp_X12_goesRound_34]
    exact r_none
  | succ n28 ih =>
    intro v24 v25 v26 s27
    rw [lp_X12_goesRound_34]
    refine r_aload_n (pc1 := 35) (i := 0) dX12_goesRound_34 rfl rfl rfl ?_
    refine r_getR (pc1 := 38) w_56 gfX12_118 rfl dX12_goesRound_35 rfl ?_
    refine r_iconst (v := 4) (pc1 := 39) dX12_goesRound_38 ki_4 rfl ?_
    refine r_iload (pc1 := 41) dX12_goesRound_39 rfl rfl ?_
    refine r_imul (pc1 := 42) dX12_goesRound_41 rfl ?_
    refine r_iload (pc1 := 44) dX12_goesRound_42 rfl rfl ?_
    refine r_iadd (pc1 := 45) dX12_goesRound_44 rfl ?_
    refine r_iald (pc1 := 46) w_89 dX12_goesRound_45 rfl ?_
    refine r_if_ge (tgt := 101) (pc1 := 49) dX12_goesRound_46 (by decide) rfl (fun q29 => ?_) (fun q29 => ?_)
    · exact r_wk (hk7 v24 v25 v26 s27) ⟨Or.inr rfl, Or.inl rfl, Or.inl rfl, Or.inr rfl, Or.inr rfl, Or.inr rfl, Or.inr rfl, Or.inl rfl, trivial⟩
    · refine r_aload_n (pc1 := 50) (i := 0) dX12_goesRound_49 rfl rfl rfl ?_
      refine r_getR (pc1 := 53) w_56 gfX12_118 rfl dX12_goesRound_50 rfl ?_
      refine r_iconst (v := 4) (pc1 := 54) dX12_goesRound_53 ki_4 rfl ?_
      refine r_iload (pc1 := 56) dX12_goesRound_54 rfl rfl ?_
      refine r_imul (pc1 := 57) dX12_goesRound_56 rfl ?_
      refine r_iload (pc1 := 59) dX12_goesRound_57 rfl rfl ?_
      refine r_iadd (pc1 := 60) dX12_goesRound_59 rfl ?_
      refine r_iload (pc1 := 62) dX12_goesRound_60 rfl rfl ?_
      refine r_iast (pc1 := 63) w_89 dX12_goesRound_62 rfl ?_
      refine r_lts (fun s30 => ?_)
      refine r_aload_n (pc1 := 64) (i := 0) dX12_goesRound_63 rfl rfl rfl ?_
      refine r_iload (pc1 := 66) dX12_goesRound_64 rfl rfl ?_
      refine r_aload_n (pc1 := 67) (i := 0) dX12_goesRound_66 rfl rfl rfl ?_
      refine r_iload (pc1 := 69) dX12_goesRound_67 rfl rfl ?_
      refine r_aload_n (pc1 := 70) (i := 0) dX12_goesRound_69 rfl rfl rfl ?_
      refine r_getR (pc1 := 73) w_56 gfX12_36 rfl dX12_goesRound_70 rfl ?_
      refine r_iload (pc1 := 75) dX12_goesRound_73 rfl rfl ?_
      refine r_iald (pc1 := 76) w_62 dX12_goesRound_75 rfl ?_
      refine r_callVi (pc1 := 79) (rv_of w_56 cl_12) lkX12_385 (c_X12_makes _ _ _) rfl rfl ⟨Nat.le_of_ble_eq_true rfl, Nat.le_of_ble_eq_true rfl⟩ (Nat.le_of_ble_eq_true rfl) dX12_goesRound_76 rfl (fun v31 s32 => ?_)
      refine r_callVp (pc1 := 82) (rv_of w_56 cl_12) lkX12_362 (c_X12_behind _ _ _) rfl rfl ⟨Nat.le_of_ble_eq_true rfl, Nat.le_of_ble_eq_true rfl⟩ (Nat.le_of_ble_eq_true rfl) dX12_goesRound_79 rfl (fun v33 => ?_)
      refine r_istore (pc1 := 84) dX12_goesRound_82 (by decide) rfl rfl rfl ?_
      refine r_iload (pc1 := 86) dX12_goesRound_84 rfl rfl ?_
      refine r_iconst (v := 1) (pc1 := 87) dX12_goesRound_86 ki_1 rfl ?_
      refine r_iadd (pc1 := 88) dX12_goesRound_87 rfl ?_
      refine r_aload_n (pc1 := 89) (i := 0) dX12_goesRound_88 rfl rfl rfl ?_
      refine r_getI (pc1 := 92) w_56 gfX12_17 rfl dX12_goesRound_89 rfl ?_
      refine r_irem (pc1 := 93) dX12_goesRound_92 rfl ?_
      refine r_lt (fun v34 => ?_)
      refine r_istore (pc1 := 95) dX12_goesRound_93 (by decide) rfl rfl rfl ?_
      refine r_iinc (pc1 := 98) dX12_goesRound_95 rfl (kn_1 _) (by decide) rfl rfl rfl ?_
      refine r_goto (tgt := 34) dX12_goesRound_98 (by decide) ?_
      exact r_wk (ih v33 v34 (v26 + 1) s32) ⟨Or.inr rfl, Or.inl rfl, Or.inl rfl, Or.inr rfl, Or.inr rfl, Or.inr rfl, Or.inr rfl, Or.inl rfl, trivial⟩
set_option maxRecDepth 100000 in
set_option maxHeartbeats 4000000 in
theorem t_lp_X12_goesRound_3 {l : Launch} (a1 : Int32) (a2 : Int32) (a3 : Int32) (k2 : SS → Res) (hk2 : ∀ (s1 : SS), RC l wF RX12 cX12_goesRound 8 none 8 25 [.ref 56, .int a1, .int a2, .int a3, .null, .null, .null, .null] [] s1 (k2 s1)) : ∀ (n37 : Nat) (v35 : Int32) (s36 : SS), RC l wF RX12 cX12_goesRound 8 none 8 3 [.ref 56, .int a1, .int a2, .int a3, .int v35, .null, .null, .null] [] s36 (lp_X12_goesRound_3 a1 a2 a3 k2 n37 v35 s36) := by
  intro n37
  induction n37 with
  | zero =>
    intro v35 s36
    rw [lp_X12_goesRound_3]
    exact r_none
  | succ n37 ih =>
    intro v35 s36
    rw [lp_X12_goesRound_3]
    refine r_iload (pc1 := 5) dX12_goesRound_3 rfl rfl ?_
    refine r_sipush (v := 18724) (pc1 := 8) dX12_goesRound_5 ks_18724 rfl ?_
    refine r_icmp_ge (tgt := 25) (pc1 := 11) dX12_goesRound_8 (by decide) rfl (fun q38 => ?_) (fun q38 => ?_)
    · exact r_wk (hk2 s36) ⟨Or.inr rfl, Or.inr rfl, Or.inr rfl, Or.inr rfl, Or.inl rfl, Or.inl rfl, Or.inl rfl, Or.inl rfl, trivial⟩
    · refine r_aload_n (pc1 := 12) (i := 0) dX12_goesRound_11 rfl rfl rfl ?_
      refine r_getR (pc1 := 15) w_56 gfX12_118 rfl dX12_goesRound_12 rfl ?_
      refine r_iload (pc1 := 17) dX12_goesRound_15 rfl rfl ?_
      refine r_iconst (v := (-1)) (pc1 := 18) dX12_goesRound_17 ki_m1 rfl ?_
      refine r_iast (pc1 := 19) w_89 dX12_goesRound_18 rfl ?_
      refine r_lts (fun s39 => ?_)
      refine r_iinc (pc1 := 22) dX12_goesRound_19 rfl (kn_1 _) (by decide) rfl rfl rfl ?_
      refine r_goto (tgt := 3) dX12_goesRound_22 (by decide) ?_
      exact r_wk (ih (v35 + 1) s39) ⟨Or.inr rfl, Or.inr rfl, Or.inr rfl, Or.inr rfl, Or.inr rfl, Or.inl rfl, Or.inl rfl, Or.inl rfl, trivial⟩
set_option maxRecDepth 100000 in
set_option maxHeartbeats 4000000 in
theorem c_X12_goesRound {l : Launch} (a1 : Int32) (a2 : Int32) (a3 : Int32) (s0 : SS) : Ct l wF yX12_goesRound cX12_goesRound 8 none 8 [.ref 56, .int a1, .int a2, .int a3] s0 (f_X12_goesRound a1 a2 a3 s0) := by
  refine ct_of (y := yX12_goesRound) plX12 (Nat.le_of_ble_eq_true rfl) ?_
  refine r_pad0 4 (L1 := [.ref 56, .int a1, .int a2, .int a3, .null, .null, .null, .null]) rfl ?_
  unfold f_X12_goesRound
  refine r_iconst (v := 0) (pc1 := 1) dX12_goesRound_0 ki_0 rfl ?_
  refine r_istore (pc1 := 3) dX12_goesRound_1 (by decide) rfl rfl rfl ?_
  refine r_jn (hyp := fun (k2 : SS → Res) => ∀ (s1 : SS), RC l wF RX12 cX12_goesRound 8 none 8 25 [.ref 56, .int a1, .int a2, .int a3, .null, .null, .null, .null] [] s1 (k2 s1)) (fun s1 => ?_) (fun k2 hk2 => ?_)
  · refine r_iload_n (pc1 := 26) (i := 1) dX12_goesRound_25 rfl rfl rfl ?_
    refine r_istore (pc1 := 28) dX12_goesRound_26 (by decide) rfl rfl rfl ?_
    refine r_iload_n (pc1 := 29) (i := 2) dX12_goesRound_28 rfl rfl rfl ?_
    refine r_istore (pc1 := 31) dX12_goesRound_29 (by decide) rfl rfl rfl ?_
    refine r_iconst (v := 0) (pc1 := 32) dX12_goesRound_31 ki_0 rfl ?_
    refine r_istore (pc1 := 34) dX12_goesRound_32 (by decide) rfl rfl rfl ?_
    refine r_jn (hyp := fun (k7 : Int32 → Int32 → Int32 → SS → Res) => ∀ (v3 : Int32) (v4 : Int32) (v5 : Int32) (s6 : SS), RC l wF RX12 cX12_goesRound 8 none 8 101 [.ref 56, .null, .null, .int a3, .int v3, .int v4, .int v5, .null] [] s6 (k7 v3 v4 v5 s6)) (fun v3 v4 v5 s6 => ?_) (fun k7 hk7 => ?_)
    · refine r_aload_n (pc1 := 102) (i := 0) dX12_goesRound_101 rfl rfl rfl ?_
      refine r_aload_n (pc1 := 103) (i := 0) dX12_goesRound_102 rfl rfl rfl ?_
      refine r_getR (pc1 := 106) w_56 gfX12_118 rfl dX12_goesRound_103 rfl ?_
      refine r_iconst (v := 4) (pc1 := 107) dX12_goesRound_106 ki_4 rfl ?_
      refine r_iload (pc1 := 109) dX12_goesRound_107 rfl rfl ?_
      refine r_imul (pc1 := 110) dX12_goesRound_109 rfl ?_
      refine r_iload (pc1 := 112) dX12_goesRound_110 rfl rfl ?_
      refine r_iadd (pc1 := 113) dX12_goesRound_112 rfl ?_
      refine r_iald (pc1 := 114) w_89 dX12_goesRound_113 rfl ?_
      refine r_putI (pc1 := 117) w_56 pfX12_397 rfl ⟨rfl, rfl⟩ dX12_goesRound_114 rfl ?_
      refine r_lts (fun s8 => ?_)
      refine r_aload_n (pc1 := 118) (i := 0) dX12_goesRound_117 rfl rfl rfl ?_
      refine r_iload (pc1 := 120) dX12_goesRound_118 rfl rfl ?_
      refine r_aload_n (pc1 := 121) (i := 0) dX12_goesRound_120 rfl rfl rfl ?_
      refine r_getI (pc1 := 124) w_56 gfX12_397 rfl dX12_goesRound_121 rfl ?_
      refine r_isub (pc1 := 125) dX12_goesRound_124 rfl ?_
      refine r_putI (pc1 := 128) w_56 pfX12_400 rfl ⟨rfl, rfl⟩ dX12_goesRound_125 rfl ?_
      refine r_lts (fun s9 => ?_)
      refine r_aload_n (pc1 := 129) (i := 0) dX12_goesRound_128 rfl rfl rfl ?_
      refine r_iconst (v := 0) (pc1 := 130) dX12_goesRound_129 ki_0 rfl ?_
      refine r_putI (pc1 := 133) w_56 pfX12_403 rfl ⟨rfl, rfl⟩ dX12_goesRound_130 rfl ?_
      refine r_lts (fun s10 => ?_)
      refine r_iconst (v := 0) (pc1 := 134) dX12_goesRound_133 ki_0 rfl ?_
      refine r_istore (pc1 := 136) dX12_goesRound_134 (by decide) rfl rfl rfl ?_
      exact r_wk (t_lp_X12_goesRound_136 a3 FU v3 v4 0 s10) ⟨Or.inr rfl, Or.inl rfl, Or.inl rfl, Or.inr rfl, Or.inr rfl, Or.inr rfl, Or.inl rfl, Or.inr rfl, trivial⟩
    · exact r_wk (t_lp_X12_goesRound_34 a3 k7 hk7 FU a1 a2 0 s1) ⟨Or.inr rfl, Or.inl rfl, Or.inl rfl, Or.inr rfl, Or.inr rfl, Or.inr rfl, Or.inr rfl, Or.inl rfl, trivial⟩
  · exact r_wk (t_lp_X12_goesRound_3 a1 a2 a3 k2 hk2 FU 0 s0) ⟨Or.inr rfl, Or.inr rfl, Or.inr rfl, Or.inr rfl, Or.inr rfl, Or.inl rfl, Or.inl rfl, Or.inl rfl, trivial⟩
/-! f_X12_divisor -/
noncomputable def lp_X12_divisor_13 (s0 : SS) : Nat → Int32 → Int32 → Option Int32
  | 0, _, _ => none
  | n5 + 1, v3, v4 => if (v4 : Int32) = 0 then some v3 else gd (¬ (v4 : Int32) = 0) (lt (v3 - v3 / v4 * v4) (fun (v7 : Int32) => lp_X12_divisor_13 s0 n5 v4 v7))
noncomputable def f_X12_divisor (a1 : Int32) (a2 : Int32) (s0 : SS) : Option Int32 := jn (fun (v1 : Int32) => lp_X12_divisor_13 s0 FU v1 a2) (fun (k2 : Int32 → Option Int32) => if (0 : Int32) ≤ a1 then k2 a1 else k2 (-a1))
set_option maxRecDepth 100000 in
set_option maxHeartbeats 4000000 in
theorem t_lp_X12_divisor_13 {l : Launch} (s0 : SS)  : ∀ (n5 : Nat) (v3 : Int32) (v4 : Int32), RC l wF RX12 cX12_divisor 5 (some .int) 0 13 [.null, .null, .int v3, .int v4, .null] [] s0 (pu (lp_X12_divisor_13 s0 n5 v3 v4) s0) := by
  intro n5
  induction n5 with
  | zero =>
    intro v3 v4
    rw [lp_X12_divisor_13]
    exact p_none
  | succ n5 ih =>
    intro v3 v4
    rw [lp_X12_divisor_13]
    refine r_iload_n (pc1 := 14) (i := 3) dX12_divisor_13 rfl rfl rfl ?_
    refine p_if_eq (tgt := 30) (pc1 := 17) dX12_divisor_14 (by decide) rfl (fun q6 => ?_) (fun q6 => ?_)
    · refine r_iload_n (pc1 := 31) (i := 2) dX12_divisor_30 rfl rfl rfl ?_
      exact p_iret rfl rfl dX12_divisor_31
    · refine r_iload_n (pc1 := 18) (i := 2) dX12_divisor_17 rfl rfl rfl ?_
      refine r_iload_n (pc1 := 19) (i := 3) dX12_divisor_18 rfl rfl rfl ?_
      refine p_irem (pc1 := 20) dX12_divisor_19 rfl ?_
      refine p_lt (fun v7 => ?_)
      refine r_istore (pc1 := 22) dX12_divisor_20 (by decide) rfl rfl rfl ?_
      refine r_iload_n (pc1 := 23) (i := 3) dX12_divisor_22 rfl rfl rfl ?_
      refine r_istore_n (pc1 := 24) (i := 2) dX12_divisor_23 rfl (by decide) rfl rfl rfl ?_
      refine r_iload (pc1 := 26) dX12_divisor_24 rfl rfl ?_
      refine r_istore_n (pc1 := 27) (i := 3) dX12_divisor_26 rfl (by decide) rfl rfl rfl ?_
      refine r_goto (tgt := 13) dX12_divisor_27 (by decide) ?_
      exact r_wk (ih v4 v7) ⟨Or.inl rfl, Or.inl rfl, Or.inr rfl, Or.inr rfl, Or.inl rfl, trivial⟩
set_option maxRecDepth 100000 in
set_option maxHeartbeats 4000000 in
theorem c_X12_divisor {l : Launch} (a1 : Int32) (a2 : Int32) (s0 : SS) : Ct l wF yX12_divisor cX12_divisor 5 (some .int) 0 [.int a1, .int a2] s0 (pu (f_X12_divisor a1 a2 s0) s0) := by
  refine ct_of (y := yX12_divisor) plX12 (Nat.le_of_ble_eq_true rfl) ?_
  refine r_pad0 3 (L1 := [.int a1, .int a2, .null, .null, .null]) rfl ?_
  unfold f_X12_divisor
  refine r_iload_n (pc1 := 1) (i := 0) dX12_divisor_0 rfl rfl rfl ?_
  refine p_jn (hyp := fun (k2 : Int32 → Option Int32) => ∀ (v1 : Int32), RC l wF RX12 cX12_divisor 5 (some .int) 0 10 [.null, .int a2, .null, .null, .null] [.int v1] s0 (pu (k2 v1) s0)) (fun v1 => ?_) (fun k2 hk2 => ?_)
  · refine r_istore_n (pc1 := 11) (i := 2) dX12_divisor_10 rfl (by decide) rfl rfl rfl ?_
    refine r_iload_n (pc1 := 12) (i := 1) dX12_divisor_11 rfl rfl rfl ?_
    refine r_istore_n (pc1 := 13) (i := 3) dX12_divisor_12 rfl (by decide) rfl rfl rfl ?_
    exact r_wk (t_lp_X12_divisor_13 s0 FU v1 a2) ⟨Or.inl rfl, Or.inl rfl, Or.inr rfl, Or.inr rfl, Or.inl rfl, trivial⟩
  · refine p_if_ge (tgt := 9) (pc1 := 4) dX12_divisor_1 (by decide) rfl (fun q8 => ?_) (fun q8 => ?_)
    · refine r_iload_n (pc1 := 10) (i := 0) dX12_divisor_9 rfl rfl rfl ?_
      exact r_wk (hk2 a1) ⟨Or.inl rfl, Or.inr rfl, Or.inl rfl, Or.inl rfl, Or.inl rfl, trivial⟩
    · refine r_iload_n (pc1 := 5) (i := 0) dX12_divisor_4 rfl rfl rfl ?_
      refine r_ineg (pc1 := 6) dX12_divisor_5 rfl ?_
      refine r_goto (tgt := 10) dX12_divisor_6 (by decide) ?_
      exact r_wk (hk2 (-a1)) ⟨Or.inl rfl, Or.inr rfl, Or.inl rfl, Or.inl rfl, Or.inl rfl, trivial⟩
/-! f_X12_mean -/
noncomputable def f_X12_mean (a1 : Int32) (s0 : SS) : Res := bdp (f_X12_lies ((a1 : Int32).toInt64) 0 1 s0) (fun (v1 : Int32) => jn (gd (¬ (10 : Int32) = 0) (jn (fun (v3 : Int32) => bd (f_X12_goesRound (s0 56 4) (s0 56 6) v3 s0) (fun (v5 : Int32) (s6 : SS) => if (2 : Int32) ≤ (a1 : Int32) then bdp (f_X12_divisor (s6 56 62) (s6 56 61) s6) (fun (v8 : Int32) => if (20 : Int32) ≤ (a1 : Int32) then gd (¬ (v8 : Int32) = 0) (some ((s6 56 61) / v8, s6)) else gd (¬ (v8 : Int32) = 0) (some ((s6 56 62) / v8, s6))) else if (a1 : Int32) = 0 then some (s6 56 60, s6) else some (s6 56 61, s6))) (fun (k4 : Int32 → Res) => if (4 : Int32) ≤ (a1 - a1 / 10 * 10 : Int32) then k4 0 else gd (¬ (10 : Int32) = 0) (k4 (a1 - a1 / 10 * 10))))) (fun (k2 : Res) => if (v1 : Int32) = 0 then bdp (f_X12_lies ((a1 : Int32).toInt64) 10 13 s0) (fun (v13 : Int32) => if (v13 : Int32) = 0 then bdp (f_X12_lies ((a1 : Int32).toInt64) 20 23 s0) (fun (v15 : Int32) => if (v15 : Int32) = 0 then some ((-1000000), s0) else k2) else k2) else k2))
set_option maxRecDepth 100000 in
set_option maxHeartbeats 4000000 in
theorem c_X12_mean {l : Launch} (a1 : Int32) (s0 : SS) : Ct l wF yX12_mean cX12_mean 3 (some .int) 9 [.ref 56, .int a1] s0 (f_X12_mean a1 s0) := by
  refine ct_of (y := yX12_mean) plX12 (Nat.le_of_ble_eq_true rfl) ?_
  refine r_pad0 1 (L1 := [.ref 56, .int a1, .null]) rfl ?_
  unfold f_X12_mean
  refine r_iload_n (pc1 := 1) (i := 1) dX12_mean_0 rfl rfl rfl ?_
  refine r_i2l (pc1 := 2) dX12_mean_1 rfl ?_
  refine r_lconst (v := 0) (pc1 := 3) dX12_mean_2 kl_0 rfl ?_
  refine r_lconst (v := 1) (pc1 := 4) dX12_mean_3 kl_1 rfl ?_
  refine r_callSp (pc1 := 7) lkX12_140 (c_X12_lies _ _ _ _) rfl rfl ⟨Nat.le_of_ble_eq_true rfl, Nat.le_of_ble_eq_true rfl⟩ (Nat.le_of_ble_eq_true rfl) dX12_mean_4 rfl (fun v1 => ?_)
  refine r_jn (hyp := fun (k2 : Res) => RC l wF RX12 cX12_mean 3 (some .int) 9 42 [.ref 56, .int a1, .null] [] s0 k2) (?_) (fun k2 hk2 => ?_)
  · refine r_aload_n (pc1 := 43) (i := 0) dX12_mean_42 rfl rfl rfl ?_
    refine r_aload_n (pc1 := 44) (i := 0) dX12_mean_43 rfl rfl rfl ?_
    refine r_getI (pc1 := 47) w_56 gfX12_158 rfl dX12_mean_44 rfl ?_
    refine r_aload_n (pc1 := 48) (i := 0) dX12_mean_47 rfl rfl rfl ?_
    refine r_getI (pc1 := 51) w_56 gfX12_172 rfl dX12_mean_48 rfl ?_
    refine r_iload_n (pc1 := 52) (i := 1) dX12_mean_51 rfl rfl rfl ?_
    refine r_bipush (v := 10) (pc1 := 54) dX12_mean_52 kb_10 rfl ?_
    refine r_irem (pc1 := 55) dX12_mean_54 rfl ?_
    refine r_iconst (v := 4) (pc1 := 56) dX12_mean_55 ki_4 rfl ?_
    refine r_jn (hyp := fun (k4 : Int32 → Res) => ∀ (v3 : Int32), RC l wF RX12 cX12_mean 3 (some .int) 9 67 [.ref 56, .int a1, .null] [.int v3, .int (s0 56 6), .int (s0 56 4), .ref 56] s0 (k4 v3)) (fun v3 => ?_) (fun k4 hk4 => ?_)
    · refine r_callVv (pc1 := 70) (rv_of w_56 cl_12) lkX12_410 (c_X12_goesRound _ _ _ _) rfl rfl ⟨Nat.le_of_ble_eq_true rfl, Nat.le_of_ble_eq_true rfl⟩ (Nat.le_of_ble_eq_true rfl) dX12_mean_67 rfl (fun v5 s6 => ?_)
      refine r_iload_n (pc1 := 71) (i := 1) dX12_mean_70 rfl rfl rfl ?_
      refine r_iconst (v := 2) (pc1 := 72) dX12_mean_71 ki_2 rfl ?_
      refine r_icmp_ge (tgt := 91) (pc1 := 75) dX12_mean_72 (by decide) rfl (fun q7 => ?_) (fun q7 => ?_)
      · refine r_aload_n (pc1 := 92) (i := 0) dX12_mean_91 rfl rfl rfl ?_
        refine r_getI (pc1 := 95) w_56 gfX12_403 rfl dX12_mean_92 rfl ?_
        refine r_aload_n (pc1 := 96) (i := 0) dX12_mean_95 rfl rfl rfl ?_
        refine r_getI (pc1 := 99) w_56 gfX12_400 rfl dX12_mean_96 rfl ?_
        refine r_callSp (pc1 := 102) lkX12_414 (c_X12_divisor _ _ _) rfl rfl ⟨Nat.le_of_ble_eq_true rfl, Nat.le_of_ble_eq_true rfl⟩ (Nat.le_of_ble_eq_true rfl) dX12_mean_99 rfl (fun v8 => ?_)
        refine r_istore_n (pc1 := 103) (i := 2) dX12_mean_102 rfl (by decide) rfl rfl rfl ?_
        refine r_iload_n (pc1 := 104) (i := 1) dX12_mean_103 rfl rfl rfl ?_
        refine r_bipush (v := 20) (pc1 := 106) dX12_mean_104 kb_20 rfl ?_
        refine r_icmp_ge (tgt := 118) (pc1 := 109) dX12_mean_106 (by decide) rfl (fun q9 => ?_) (fun q9 => ?_)
        · refine r_aload_n (pc1 := 119) (i := 0) dX12_mean_118 rfl rfl rfl ?_
          refine r_getI (pc1 := 122) w_56 gfX12_400 rfl dX12_mean_119 rfl ?_
          refine r_iload_n (pc1 := 123) (i := 2) dX12_mean_122 rfl rfl rfl ?_
          refine r_idiv (pc1 := 124) dX12_mean_123 rfl ?_
          exact r_iret rfl rfl dX12_mean_124
        · refine r_aload_n (pc1 := 110) (i := 0) dX12_mean_109 rfl rfl rfl ?_
          refine r_getI (pc1 := 113) w_56 gfX12_403 rfl dX12_mean_110 rfl ?_
          refine r_iload_n (pc1 := 114) (i := 2) dX12_mean_113 rfl rfl rfl ?_
          refine r_idiv (pc1 := 115) dX12_mean_114 rfl ?_
          refine r_goto (tgt := 124) dX12_mean_115 (by decide) ?_
          exact r_iret rfl rfl dX12_mean_124
      · refine r_iload_n (pc1 := 76) (i := 1) dX12_mean_75 rfl rfl rfl ?_
        refine r_if_ne (tgt := 86) (pc1 := 79) dX12_mean_76 (by decide) rfl (fun q10 => ?_) (fun q10 => ?_)
        · refine r_aload_n (pc1 := 80) (i := 0) dX12_mean_79 rfl rfl rfl ?_
          refine r_getI (pc1 := 83) w_56 gfX12_397 rfl dX12_mean_80 rfl ?_
          refine r_goto (tgt := 90) dX12_mean_83 (by decide) ?_
          exact r_iret rfl rfl dX12_mean_90
        · refine r_aload_n (pc1 := 87) (i := 0) dX12_mean_86 rfl rfl rfl ?_
          refine r_getI (pc1 := 90) w_56 gfX12_400 rfl dX12_mean_87 rfl ?_
          exact r_iret rfl rfl dX12_mean_90
    · refine r_icmp_ge (tgt := 66) (pc1 := 59) dX12_mean_56 (by decide) rfl (fun q11 => ?_) (fun q11 => ?_)
      · refine r_iconst (v := 0) (pc1 := 67) dX12_mean_66 ki_0 rfl ?_
        exact r_wk (hk4 0) ⟨Or.inr rfl, Or.inr rfl, Or.inl rfl, trivial⟩
      · refine r_iload_n (pc1 := 60) (i := 1) dX12_mean_59 rfl rfl rfl ?_
        refine r_bipush (v := 10) (pc1 := 62) dX12_mean_60 kb_10 rfl ?_
        refine r_irem (pc1 := 63) dX12_mean_62 rfl ?_
        refine r_goto (tgt := 67) dX12_mean_63 (by decide) ?_
        exact r_wk (hk4 (a1 - a1 / 10 * 10)) ⟨Or.inr rfl, Or.inr rfl, Or.inl rfl, trivial⟩
  · refine r_if_ne (tgt := 42) (pc1 := 10) dX12_mean_7 (by decide) rfl (fun q12 => ?_) (fun q12 => ?_)
    · refine r_iload_n (pc1 := 11) (i := 1) dX12_mean_10 rfl rfl rfl ?_
      refine r_i2l (pc1 := 12) dX12_mean_11 rfl ?_
      refine r_ldc2 (v := 10) (pc1 := 15) dX12_mean_12 cnX12_390 rfl ?_
      refine r_ldc2 (v := 13) (pc1 := 18) dX12_mean_15 cnX12_392 rfl ?_
      refine r_callSp (pc1 := 21) lkX12_140 (c_X12_lies _ _ _ _) rfl rfl ⟨Nat.le_of_ble_eq_true rfl, Nat.le_of_ble_eq_true rfl⟩ (Nat.le_of_ble_eq_true rfl) dX12_mean_18 rfl (fun v13 => ?_)
      refine r_if_ne (tgt := 42) (pc1 := 24) dX12_mean_21 (by decide) rfl (fun q14 => ?_) (fun q14 => ?_)
      · refine r_iload_n (pc1 := 25) (i := 1) dX12_mean_24 rfl rfl rfl ?_
        refine r_i2l (pc1 := 26) dX12_mean_25 rfl ?_
        refine r_ldc2 (v := 20) (pc1 := 29) dX12_mean_26 cnX12_406 rfl ?_
        refine r_ldc2 (v := 23) (pc1 := 32) dX12_mean_29 cnX12_408 rfl ?_
        refine r_callSp (pc1 := 35) lkX12_140 (c_X12_lies _ _ _ _) rfl rfl ⟨Nat.le_of_ble_eq_true rfl, Nat.le_of_ble_eq_true rfl⟩ (Nat.le_of_ble_eq_true rfl) dX12_mean_32 rfl (fun v15 => ?_)
        refine r_if_ne (tgt := 42) (pc1 := 38) dX12_mean_35 (by decide) rfl (fun q16 => ?_) (fun q16 => ?_)
        · refine r_ldcw (v := (-1000000)) (pc1 := 41) dX12_mean_38 cnX12_384 rfl ?_
          exact r_iret rfl rfl dX12_mean_41
        · exact r_wk (hk2) ⟨Or.inr rfl, Or.inr rfl, Or.inl rfl, trivial⟩
      · exact r_wk (hk2) ⟨Or.inr rfl, Or.inr rfl, Or.inl rfl, trivial⟩
    · exact r_wk (hk2) ⟨Or.inr rfl, Or.inr rfl, Or.inl rfl, trivial⟩
