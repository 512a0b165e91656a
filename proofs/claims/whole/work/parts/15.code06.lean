theorem dX11_book_0 : decode cX11_book 0 = .ok (.iload_n 1, 1) := by decide +kernel
theorem dX11_book_1 : decode cX11_book 1 = .ok (.ifCond .lt 28, 3) := by decide +kernel
theorem dX11_book_4 : decode cX11_book 4 = .ok (.iload_n 1, 1) := by decide +kernel
theorem dX11_book_5 : decode cX11_book 5 = .ok (.aload_n 0, 1) := by decide +kernel
theorem dX11_book_6 : decode cX11_book 6 = .ok (.getfield 88, 3) := by decide +kernel
theorem dX11_book_9 : decode cX11_book 9 = .ok (.getfield 223, 3) := by decide +kernel
theorem dX11_book_12 : decode cX11_book 12 = .ok (.if_icmp .ge 17, 3) := by decide +kernel
theorem dX11_book_15 : decode cX11_book 15 = .ok (.iload_n 1, 1) := by decide +kernel
theorem dX11_book_16 : decode cX11_book 16 = .ok (.bipush 100, 2) := by decide +kernel
theorem dX11_book_18 : decode cX11_book 18 = .ok (.if_icmp .ge 11, 3) := by decide +kernel
theorem dX11_book_21 : decode cX11_book 21 = .ok (.iload_n 2, 1) := by decide +kernel
theorem dX11_book_22 : decode cX11_book 22 = .ok (.iconst 3, 1) := by decide +kernel
theorem dX11_book_23 : decode cX11_book 23 = .ok (.invokestatic 102, 3) := by decide +kernel
theorem dX11_book_26 : decode cX11_book 26 = .ok (.ifCond .ne 5, 3) := by decide +kernel
theorem dX11_book_29 : decode cX11_book 29 = .ok (.iconst (-1), 1) := by decide +kernel
theorem dX11_book_30 : decode cX11_book 30 = .ok (.ireturn, 1) := by decide +kernel
theorem dX11_book_31 : decode cX11_book 31 = .ok (.aload_n 0, 1) := by decide +kernel
theorem dX11_book_32 : decode cX11_book 32 = .ok (.getfield 99, 3) := by decide +kernel
theorem dX11_book_35 : decode cX11_book 35 = .ok (.iload_n 1, 1) := by decide +kernel
theorem dX11_book_36 : decode cX11_book 36 = .ok (.iconst 4, 1) := by decide +kernel
theorem dX11_book_37 : decode cX11_book 37 = .ok (.imul, 1) := by decide +kernel
theorem dX11_book_38 : decode cX11_book 38 = .ok (.iload_n 2, 1) := by decide +kernel
theorem dX11_book_39 : decode cX11_book 39 = .ok (.iadd, 1) := by decide +kernel
theorem dX11_book_40 : decode cX11_book 40 = .ok (.iaload, 1) := by decide +kernel
theorem dX11_book_41 : decode cX11_book 41 = .ok (.ireturn, 1) := by decide +kernel
theorem dX8_copyFrom_0 : decode cX8_copyFrom 0 = .ok (.aload_n 0, 1) := by decide +kernel
theorem dX8_copyFrom_1 : decode cX8_copyFrom 1 = .ok (.aload_n 1, 1) := by decide +kernel
theorem dX8_copyFrom_2 : decode cX8_copyFrom 2 = .ok (.getfield 13, 3) := by decide +kernel
theorem dX8_copyFrom_5 : decode cX8_copyFrom 5 = .ok (.putfield 13, 3) := by decide +kernel
theorem dX8_copyFrom_8 : decode cX8_copyFrom 8 = .ok (.aload_n 0, 1) := by decide +kernel
theorem dX8_copyFrom_9 : decode cX8_copyFrom 9 = .ok (.aload_n 1, 1) := by decide +kernel
theorem dX8_copyFrom_10 : decode cX8_copyFrom 10 = .ok (.getfield 22, 3) := by decide +kernel
theorem dX8_copyFrom_13 : decode cX8_copyFrom 13 = .ok (.putfield 22, 3) := by decide +kernel
theorem dX8_copyFrom_16 : decode cX8_copyFrom 16 = .ok (.aload_n 0, 1) := by decide +kernel
theorem dX8_copyFrom_17 : decode cX8_copyFrom 17 = .ok (.aload_n 1, 1) := by decide +kernel
theorem dX8_copyFrom_18 : decode cX8_copyFrom 18 = .ok (.getfield 25, 3) := by decide +kernel
theorem dX8_copyFrom_21 : decode cX8_copyFrom 21 = .ok (.putfield 25, 3) := by decide +kernel
theorem dX8_copyFrom_24 : decode cX8_copyFrom 24 = .ok (.aload_n 0, 1) := by decide +kernel
theorem dX8_copyFrom_25 : decode cX8_copyFrom 25 = .ok (.aload_n 1, 1) := by decide +kernel
theorem dX8_copyFrom_26 : decode cX8_copyFrom 26 = .ok (.getfield 19, 3) := by decide +kernel
theorem dX8_copyFrom_29 : decode cX8_copyFrom 29 = .ok (.putfield 19, 3) := by decide +kernel
theorem dX8_copyFrom_32 : decode cX8_copyFrom 32 = .ok (.aload_n 0, 1) := by decide +kernel
theorem dX8_copyFrom_33 : decode cX8_copyFrom 33 = .ok (.aload_n 1, 1) := by decide +kernel
theorem dX8_copyFrom_34 : decode cX8_copyFrom 34 = .ok (.getfield 28, 3) := by decide +kernel
theorem dX8_copyFrom_37 : decode cX8_copyFrom 37 = .ok (.putfield 28, 3) := by decide +kernel
theorem dX8_copyFrom_40 : decode cX8_copyFrom 40 = .ok (.return_, 1) := by decide +kernel
theorem dX11_keep_0 : decode cX11_keep 0 = .ok (.aload_n 0, 1) := by decide +kernel
theorem dX11_keep_1 : decode cX11_keep 1 = .ok (.getfield 92, 3) := by decide +kernel
theorem dX11_keep_4 : decode cX11_keep 4 = .ok (.aload_n 0, 1) := by decide +kernel
theorem dX11_keep_5 : decode cX11_keep 5 = .ok (.getfield 88, 3) := by decide +kernel
theorem dX11_keep_8 : decode cX11_keep 8 = .ok (.invokevirtual 232, 3) := by decide +kernel
theorem dX11_keep_11 : decode cX11_keep 11 = .ok (.aload_n 0, 1) := by decide +kernel
theorem dX11_keep_12 : decode cX11_keep 12 = .ok (.iconst 1, 1) := by decide +kernel
theorem dX11_keep_13 : decode cX11_keep 13 = .ok (.putfield 125, 3) := by decide +kernel
theorem dX11_keep_16 : decode cX11_keep 16 = .ok (.aload_n 0, 1) := by decide +kernel
theorem dX11_keep_17 : decode cX11_keep 17 = .ok (.getfield 19, 3) := by decide +kernel
theorem dX11_keep_20 : decode cX11_keep 20 = .ok (.aload_n 0, 1) := by decide +kernel
theorem dX11_keep_21 : decode cX11_keep 21 = .ok (.getfield 88, 3) := by decide +kernel
theorem dX11_keep_24 : decode cX11_keep 24 = .ok (.getfield 122, 3) := by decide +kernel
theorem dX11_keep_27 : decode cX11_keep 27 = .ok (.invokevirtual 235, 3) := by decide +kernel
theorem dX11_keep_30 : decode cX11_keep 30 = .ok (.ireturn, 1) := by decide +kernel
theorem dX11_undo_0 : decode cX11_undo 0 = .ok (.aload_n 0, 1) := by decide +kernel
theorem dX11_undo_1 : decode cX11_undo 1 = .ok (.getfield 125, 3) := by decide +kernel
theorem dX11_undo_4 : decode cX11_undo 4 = .ok (.ifCond .ne 5, 3) := by decide +kernel
theorem dX11_undo_7 : decode cX11_undo 7 = .ok (.iconst 0, 1) := by decide +kernel
theorem dX11_undo_8 : decode cX11_undo 8 = .ok (.ireturn, 1) := by decide +kernel
theorem dX11_undo_9 : decode cX11_undo 9 = .ok (.aload_n 0, 1) := by decide +kernel
theorem dX11_undo_10 : decode cX11_undo 10 = .ok (.getfield 88, 3) := by decide +kernel
theorem dX11_undo_13 : decode cX11_undo 13 = .ok (.aload_n 0, 1) := by decide +kernel
theorem dX11_undo_14 : decode cX11_undo 14 = .ok (.getfield 92, 3) := by decide +kernel
theorem dX11_undo_17 : decode cX11_undo 17 = .ok (.invokevirtual 232, 3) := by decide +kernel
theorem dX11_undo_20 : decode cX11_undo 20 = .ok (.iconst 1, 1) := by decide +kernel
theorem dX11_undo_21 : decode cX11_undo 21 = .ok (.ireturn, 1) := by decide +kernel
theorem dX9_numberOn_0 : decode cX9_numberOn 0 = .ok (.iconst 0, 1) := by decide +kernel
theorem dX9_numberOn_1 : decode cX9_numberOn 1 = .ok (.istore_n 2, 1) := by decide +kernel
theorem dX9_numberOn_2 : decode cX9_numberOn 2 = .ok (.iconst 0, 1) := by decide +kernel
theorem dX9_numberOn_3 : decode cX9_numberOn 3 = .ok (.istore_n 3, 1) := by decide +kernel
theorem dX9_numberOn_4 : decode cX9_numberOn 4 = .ok (.iload_n 3, 1) := by decide +kernel
theorem dX9_numberOn_5 : decode cX9_numberOn 5 = .ok (.iconst 4, 1) := by decide +kernel
theorem dX9_numberOn_6 : decode cX9_numberOn 6 = .ok (.if_icmp .ge 28, 3) := by decide +kernel
theorem dX9_numberOn_9 : decode cX9_numberOn 9 = .ok (.iload_n 2, 1) := by decide +kernel
theorem dX9_numberOn_10 : decode cX9_numberOn 10 = .ok (.bipush 8, 2) := by decide +kernel
theorem dX9_numberOn_12 : decode cX9_numberOn 12 = .ok (.ishl, 1) := by decide +kernel
theorem dX9_numberOn_13 : decode cX9_numberOn 13 = .ok (.aload_n 0, 1) := by decide +kernel
theorem dX9_numberOn_14 : decode cX9_numberOn 14 = .ok (.iconst 4, 1) := by decide +kernel
theorem dX9_numberOn_15 : decode cX9_numberOn 15 = .ok (.iload_n 1, 1) := by decide +kernel
theorem dX9_numberOn_16 : decode cX9_numberOn 16 = .ok (.imul, 1) := by decide +kernel
theorem dX9_numberOn_17 : decode cX9_numberOn 17 = .ok (.iload_n 3, 1) := by decide +kernel
theorem dX9_numberOn_18 : decode cX9_numberOn 18 = .ok (.iadd, 1) := by decide +kernel
theorem dX9_numberOn_19 : decode cX9_numberOn 19 = .ok (.invokevirtual 19, 3) := by decide +kernel
theorem dX9_numberOn_22 : decode cX9_numberOn 22 = .ok (.sipush 255, 3) := by decide +kernel
theorem dX9_numberOn_25 : decode cX9_numberOn 25 = .ok (.iand, 1) := by decide +kernel
theorem dX9_numberOn_26 : decode cX9_numberOn 26 = .ok (.ior, 1) := by decide +kernel
theorem dX9_numberOn_27 : decode cX9_numberOn 27 = .ok (.istore_n 2, 1) := by decide +kernel
theorem dX9_numberOn_28 : decode cX9_numberOn 28 = .ok (.iinc 3 1, 3) := by decide +kernel
theorem dX9_numberOn_31 : decode cX9_numberOn 31 = .ok (.goto (-27), 3) := by decide +kernel
theorem dX9_numberOn_34 : decode cX9_numberOn 34 = .ok (.iload_n 2, 1) := by decide +kernel
theorem dX9_numberOn_35 : decode cX9_numberOn 35 = .ok (.ireturn, 1) := by decide +kernel
theorem dX11_firstUnlike_0 : decode cX11_firstUnlike 0 = .ok (.iconst 0, 1) := by decide +kernel
theorem dX11_firstUnlike_1 : decode cX11_firstUnlike 1 = .ok (.istore_n 2, 1) := by decide +kernel
theorem dX11_firstUnlike_2 : decode cX11_firstUnlike 2 = .ok (.iload_n 2, 1) := by decide +kernel
theorem dX11_firstUnlike_3 : decode cX11_firstUnlike 3 = .ok (.iconst 3, 1) := by decide +kernel
theorem dX11_firstUnlike_4 : decode cX11_firstUnlike 4 = .ok (.iload_n 1, 1) := by decide +kernel
theorem dX11_firstUnlike_5 : decode cX11_firstUnlike 5 = .ok (.imul, 1) := by decide +kernel
theorem dX11_firstUnlike_6 : decode cX11_firstUnlike 6 = .ok (.if_icmp .ge 55, 3) := by decide +kernel
theorem dX11_firstUnlike_9 : decode cX11_firstUnlike 9 = .ok (.iload_n 2, 1) := by decide +kernel
theorem dX11_firstUnlike_10 : decode cX11_firstUnlike 10 = .ok (.iconst 3, 1) := by decide +kernel
theorem dX11_firstUnlike_11 : decode cX11_firstUnlike 11 = .ok (.idiv, 1) := by decide +kernel
theorem dX11_firstUnlike_12 : decode cX11_firstUnlike 12 = .ok (.istore_n 3, 1) := by decide +kernel
theorem dX11_firstUnlike_13 : decode cX11_firstUnlike 13 = .ok (.iload_n 3, 1) := by decide +kernel
theorem dX11_firstUnlike_14 : decode cX11_firstUnlike 14 = .ok (.aload_n 0, 1) := by decide +kernel
theorem dX11_firstUnlike_15 : decode cX11_firstUnlike 15 = .ok (.getfield 88, 3) := by decide +kernel
theorem dX11_firstUnlike_18 : decode cX11_firstUnlike 18 = .ok (.getfield 223, 3) := by decide +kernel
theorem dX11_firstUnlike_21 : decode cX11_firstUnlike 21 = .ok (.if_icmp .ge 32, 3) := by decide +kernel
theorem dX11_firstUnlike_24 : decode cX11_firstUnlike 24 = .ok (.iload_n 3, 1) := by decide +kernel
theorem dX11_firstUnlike_25 : decode cX11_firstUnlike 25 = .ok (.bipush 100, 2) := by decide +kernel
theorem dX11_firstUnlike_27 : decode cX11_firstUnlike 27 = .ok (.if_icmp .ge 26, 3) := by decide +kernel
theorem dX11_firstUnlike_30 : decode cX11_firstUnlike 30 = .ok (.aload_n 0, 1) := by decide +kernel
theorem dX11_firstUnlike_31 : decode cX11_firstUnlike 31 = .ok (.getfield 99, 3) := by decide +kernel
theorem dX11_firstUnlike_34 : decode cX11_firstUnlike 34 = .ok (.iload_n 3, 1) := by decide +kernel
theorem dX11_firstUnlike_35 : decode cX11_firstUnlike 35 = .ok (.iconst 4, 1) := by decide +kernel
theorem dX11_firstUnlike_36 : decode cX11_firstUnlike 36 = .ok (.imul, 1) := by decide +kernel
theorem dX11_firstUnlike_37 : decode cX11_firstUnlike 37 = .ok (.iload_n 2, 1) := by decide +kernel
theorem dX11_firstUnlike_38 : decode cX11_firstUnlike 38 = .ok (.iconst 3, 1) := by decide +kernel
theorem dX11_firstUnlike_39 : decode cX11_firstUnlike 39 = .ok (.irem, 1) := by decide +kernel
theorem dX11_firstUnlike_40 : decode cX11_firstUnlike 40 = .ok (.iadd, 1) := by decide +kernel
theorem dX11_firstUnlike_41 : decode cX11_firstUnlike 41 = .ok (.iaload, 1) := by decide +kernel
theorem dX11_firstUnlike_42 : decode cX11_firstUnlike 42 = .ok (.aload_n 0, 1) := by decide +kernel
theorem dX11_firstUnlike_43 : decode cX11_firstUnlike 43 = .ok (.getfield 10, 3) := by decide +kernel
theorem dX11_firstUnlike_46 : decode cX11_firstUnlike 46 = .ok (.iload_n 2, 1) := by decide +kernel
theorem dX11_firstUnlike_47 : decode cX11_firstUnlike 47 = .ok (.invokevirtual 229, 3) := by decide +kernel
theorem dX11_firstUnlike_50 : decode cX11_firstUnlike 50 = .ok (.if_icmp .eq 5, 3) := by decide +kernel
theorem dX11_firstUnlike_53 : decode cX11_firstUnlike 53 = .ok (.iload_n 2, 1) := by decide +kernel
theorem dX11_firstUnlike_54 : decode cX11_firstUnlike 54 = .ok (.ireturn, 1) := by decide +kernel
theorem dX11_firstUnlike_55 : decode cX11_firstUnlike 55 = .ok (.iinc 2 1, 3) := by decide +kernel
theorem dX11_firstUnlike_58 : decode cX11_firstUnlike 58 = .ok (.goto (-56), 3) := by decide +kernel
theorem dX11_firstUnlike_61 : decode cX11_firstUnlike 61 = .ok (.aload_n 0, 1) := by decide +kernel
theorem dX11_firstUnlike_62 : decode cX11_firstUnlike 62 = .ok (.getfield 88, 3) := by decide +kernel
theorem dX11_firstUnlike_65 : decode cX11_firstUnlike 65 = .ok (.getfield 223, 3) := by decide +kernel
theorem dX11_firstUnlike_68 : decode cX11_firstUnlike 68 = .ok (.iload_n 1, 1) := by decide +kernel
theorem dX11_firstUnlike_69 : decode cX11_firstUnlike 69 = .ok (.if_icmp .le 9, 3) := by decide +kernel
theorem dX11_firstUnlike_72 : decode cX11_firstUnlike 72 = .ok (.iconst 3, 1) := by decide +kernel
theorem dX11_firstUnlike_73 : decode cX11_firstUnlike 73 = .ok (.iload_n 1, 1) := by decide +kernel
theorem dX11_firstUnlike_74 : decode cX11_firstUnlike 74 = .ok (.imul, 1) := by decide +kernel
theorem dX11_firstUnlike_75 : decode cX11_firstUnlike 75 = .ok (.goto 4, 3) := by decide +kernel
theorem dX11_firstUnlike_78 : decode cX11_firstUnlike 78 = .ok (.iconst (-1), 1) := by decide +kernel
theorem dX11_firstUnlike_79 : decode cX11_firstUnlike 79 = .ok (.ireturn, 1) := by decide +kernel
theorem dX11_check_0 : decode cX11_check 0 = .ok (.iload_n 1, 1) := by decide +kernel
theorem dX11_check_1 : decode cX11_check 1 = .ok (.ifCond .lt 17, 3) := by decide +kernel
theorem dX11_check_4 : decode cX11_check 4 = .ok (.iload_n 1, 1) := by decide +kernel
theorem dX11_check_5 : decode cX11_check 5 = .ok (.aload_n 0, 1) := by decide +kernel
theorem dX11_check_6 : decode cX11_check 6 = .ok (.getfield 10, 3) := by decide +kernel
theorem dX11_check_9 : decode cX11_check 9 = .ok (.invokevirtual 129, 3) := by decide +kernel
theorem dX11_check_12 : decode cX11_check 12 = .ok (.bipush 12, 2) := by decide +kernel
theorem dX11_check_14 : decode cX11_check 14 = .ok (.idiv, 1) := by decide +kernel
theorem dX11_check_15 : decode cX11_check 15 = .ok (.if_icmp .le 6, 3) := by decide +kernel
theorem dX11_check_18 : decode cX11_check 18 = .ok (.bipush (-2), 2) := by decide +kernel
theorem dX11_check_20 : decode cX11_check 20 = .ok (.ireturn, 1) := by decide +kernel
theorem dX11_check_21 : decode cX11_check 21 = .ok (.aload_n 0, 1) := by decide +kernel
theorem dX11_check_22 : decode cX11_check 22 = .ok (.iload_n 1, 1) := by decide +kernel
theorem dX11_check_23 : decode cX11_check 23 = .ok (.invokevirtual 226, 3) := by decide +kernel
theorem dX11_check_26 : decode cX11_check 26 = .ok (.istore_n 2, 1) := by decide +kernel
theorem dX11_check_27 : decode cX11_check 27 = .ok (.aload_n 0, 1) := by decide +kernel
theorem dX11_check_28 : decode cX11_check 28 = .ok (.getfield 10, 3) := by decide +kernel
theorem dX11_check_31 : decode cX11_check 31 = .ok (.invokevirtual 136, 3) := by decide +kernel
theorem dX11_check_34 : decode cX11_check 34 = .ok (.iload_n 2, 1) := by decide +kernel
theorem dX11_check_35 : decode cX11_check 35 = .ok (.ireturn, 1) := by decide +kernel
theorem dX11_count_0 : decode cX11_count 0 = .ok (.iload_n 1, 1) := by decide +kernel
theorem dX11_count_1 : decode cX11_count 1 = .ok (.tableswitch 137 0 8 #[51, 59, 74, 89, 97, 105, 113, 121, 129], 51) := by decide +kernel
theorem dX11_count_52 : decode cX11_count 52 = .ok (.aload_n 0, 1) := by decide +kernel
theorem dX11_count_53 : decode cX11_count 53 = .ok (.getfield 42, 3) := by decide +kernel
theorem dX11_count_56 : decode cX11_count 56 = .ok (.invokevirtual 106, 3) := by decide +kernel
theorem dX11_count_59 : decode cX11_count 59 = .ok (.ireturn, 1) := by decide +kernel
theorem dX11_count_60 : decode cX11_count 60 = .ok (.aload_n 0, 1) := by decide +kernel
theorem dX11_count_61 : decode cX11_count 61 = .ok (.getfield 19, 3) := by decide +kernel
theorem dX11_count_64 : decode cX11_count 64 = .ok (.aload_n 0, 1) := by decide +kernel
theorem dX11_count_65 : decode cX11_count 65 = .ok (.getfield 88, 3) := by decide +kernel
theorem dX11_count_68 : decode cX11_count 68 = .ok (.getfield 122, 3) := by decide +kernel
theorem dX11_count_71 : decode cX11_count 71 = .ok (.invokevirtual 235, 3) := by decide +kernel
theorem dX11_count_74 : decode cX11_count 74 = .ok (.ireturn, 1) := by decide +kernel
theorem dX11_count_75 : decode cX11_count 75 = .ok (.aload_n 0, 1) := by decide +kernel
theorem dX11_count_76 : decode cX11_count 76 = .ok (.getfield 19, 3) := by decide +kernel
theorem dX11_count_79 : decode cX11_count 79 = .ok (.aload_n 0, 1) := by decide +kernel
theorem dX11_count_80 : decode cX11_count 80 = .ok (.getfield 88, 3) := by decide +kernel
theorem dX11_count_83 : decode cX11_count 83 = .ok (.getfield 122, 3) := by decide +kernel
theorem dX11_count_86 : decode cX11_count 86 = .ok (.invokevirtual 277, 3) := by decide +kernel
theorem dX11_count_89 : decode cX11_count 89 = .ok (.ireturn, 1) := by decide +kernel
theorem dX11_count_90 : decode cX11_count 90 = .ok (.aload_n 0, 1) := by decide +kernel
theorem dX11_count_91 : decode cX11_count 91 = .ok (.getfield 26, 3) := by decide +kernel
theorem dX11_count_94 : decode cX11_count 94 = .ok (.invokevirtual 312, 3) := by decide +kernel
theorem dX11_count_97 : decode cX11_count 97 = .ok (.ireturn, 1) := by decide +kernel
theorem dX11_count_98 : decode cX11_count 98 = .ok (.aload_n 0, 1) := by decide +kernel
theorem dX11_count_99 : decode cX11_count 99 = .ok (.getfield 10, 3) := by decide +kernel
theorem dX11_count_102 : decode cX11_count 102 = .ok (.invokevirtual 129, 3) := by decide +kernel
theorem dX11_count_105 : decode cX11_count 105 = .ok (.ireturn, 1) := by decide +kernel
theorem dX11_count_106 : decode cX11_count 106 = .ok (.aload_n 0, 1) := by decide +kernel
theorem dX11_count_107 : decode cX11_count 107 = .ok (.getfield 88, 3) := by decide +kernel
theorem dX11_count_110 : decode cX11_count 110 = .ok (.getfield 175, 3) := by decide +kernel
theorem dX11_count_113 : decode cX11_count 113 = .ok (.ireturn, 1) := by decide +kernel
theorem dX11_count_114 : decode cX11_count 114 = .ok (.aload_n 0, 1) := by decide +kernel
theorem dX11_count_115 : decode cX11_count 115 = .ok (.getfield 88, 3) := by decide +kernel
theorem dX11_count_118 : decode cX11_count 118 = .ok (.getfield 217, 3) := by decide +kernel
theorem dX11_count_121 : decode cX11_count 121 = .ok (.ireturn, 1) := by decide +kernel
theorem dX11_count_122 : decode cX11_count 122 = .ok (.aload_n 0, 1) := by decide +kernel
theorem dX11_count_123 : decode cX11_count 123 = .ok (.getfield 88, 3) := by decide +kernel
theorem dX11_count_126 : decode cX11_count 126 = .ok (.getfield 139, 3) := by decide +kernel
theorem dX11_count_129 : decode cX11_count 129 = .ok (.ireturn, 1) := by decide +kernel
theorem dX11_count_130 : decode cX11_count 130 = .ok (.aload_n 0, 1) := by decide +kernel
theorem dX11_count_131 : decode cX11_count 131 = .ok (.getfield 88, 3) := by decide +kernel
theorem dX11_count_134 : decode cX11_count 134 = .ok (.getfield 223, 3) := by decide +kernel
theorem dX11_count_137 : decode cX11_count 137 = .ok (.ireturn, 1) := by decide +kernel
theorem dX11_count_138 : decode cX11_count 138 = .ok (.iload_n 1, 1) := by decide +kernel
theorem dX11_count_139 : decode cX11_count 139 = .ok (.bipush 10, 2) := by decide +kernel
theorem dX11_count_141 : decode cX11_count 141 = .ok (.if_icmp .lt 23, 3) := by decide +kernel
theorem dX11_count_144 : decode cX11_count 144 = .ok (.iload_n 1, 1) := by decide +kernel
theorem dX11_count_145 : decode cX11_count 145 = .ok (.bipush 14, 2) := by decide +kernel
theorem dX11_count_147 : decode cX11_count 147 = .ok (.if_icmp .ge 17, 3) := by decide +kernel
theorem dX11_count_150 : decode cX11_count 150 = .ok (.aload_n 0, 1) := by decide +kernel
theorem dX11_count_151 : decode cX11_count 151 = .ok (.getfield 51, 3) := by decide +kernel
theorem dX11_count_154 : decode cX11_count 154 = .ok (.iload_n 1, 1) := by decide +kernel
theorem dX11_count_155 : decode cX11_count 155 = .ok (.bipush 10, 2) := by decide +kernel
theorem dX11_count_157 : decode cX11_count 157 = .ok (.isub, 1) := by decide +kernel
theorem dX11_count_158 : decode cX11_count 158 = .ok (.invokevirtual 198, 3) := by decide +kernel
theorem dX11_count_161 : decode cX11_count 161 = .ok (.goto 4, 3) := by decide +kernel
theorem dX11_count_164 : decode cX11_count 164 = .ok (.iconst (-1), 1) := by decide +kernel
theorem dX11_count_165 : decode cX11_count 165 = .ok (.ireturn, 1) := by decide +kernel
theorem dX12_lies_0 : decode cX12_lies 0 = .ok (.lload_n 0, 1) := by decide +kernel
theorem dX12_lies_1 : decode cX12_lies 1 = .ok (.lload_n 2, 1) := by decide +kernel
theorem dX12_lies_2 : decode cX12_lies 2 = .ok (.lcmp, 1) := by decide +kernel
theorem dX12_lies_3 : decode cX12_lies 3 = .ok (.ifCond .lt 14, 3) := by decide +kernel
theorem dX12_lies_6 : decode cX12_lies 6 = .ok (.lload_n 0, 1) := by decide +kernel
theorem dX12_lies_7 : decode cX12_lies 7 = .ok (.lload 4, 2) := by decide +kernel
theorem dX12_lies_9 : decode cX12_lies 9 = .ok (.lcmp, 1) := by decide +kernel
theorem dX12_lies_10 : decode cX12_lies 10 = .ok (.ifCond .gt 7, 3) := by decide +kernel
theorem dX12_lies_13 : decode cX12_lies 13 = .ok (.iconst 1, 1) := by decide +kernel
theorem dX12_lies_14 : decode cX12_lies 14 = .ok (.goto 4, 3) := by decide +kernel
theorem dX12_lies_17 : decode cX12_lies 17 = .ok (.iconst 0, 1) := by decide +kernel
theorem dX12_lies_18 : decode cX12_lies 18 = .ok (.ireturn, 1) := by decide +kernel
theorem dX12_changes_0 : decode cX12_changes 0 = .ok (.iconst 0, 1) := by decide +kernel
theorem dX12_changes_1 : decode cX12_changes 1 = .ok (.istore_n 1, 1) := by decide +kernel
theorem dX12_changes_2 : decode cX12_changes 2 = .ok (.iload_n 1, 1) := by decide +kernel
theorem dX12_changes_3 : decode cX12_changes 3 = .ok (.sipush 18724, 3) := by decide +kernel
theorem dX12_changes_6 : decode cX12_changes 6 = .ok (.if_icmp .ge 23, 3) := by decide +kernel
theorem dX12_changes_9 : decode cX12_changes 9 = .ok (.aload_n 0, 1) := by decide +kernel
theorem dX12_changes_10 : decode cX12_changes 10 = .ok (.getfield 94, 3) := by decide +kernel
theorem dX12_changes_13 : decode cX12_changes 13 = .ok (.iload_n 1, 1) := by decide +kernel
theorem dX12_changes_14 : decode cX12_changes 14 = .ok (.iconst 0, 1) := by decide +kernel
theorem dX12_changes_15 : decode cX12_changes 15 = .ok (.bastore, 1) := by decide +kernel
theorem dX12_changes_16 : decode cX12_changes 16 = .ok (.aload_n 0, 1) := by decide +kernel
theorem dX12_changes_17 : decode cX12_changes 17 = .ok (.getfield 100, 3) := by decide +kernel
theorem dX12_changes_20 : decode cX12_changes 20 = .ok (.iload_n 1, 1) := by decide +kernel
theorem dX12_changes_21 : decode cX12_changes 21 = .ok (.iconst 0, 1) := by decide +kernel
theorem dX12_changes_22 : decode cX12_changes 22 = .ok (.bastore, 1) := by decide +kernel
theorem dX12_changes_23 : decode cX12_changes 23 = .ok (.iinc 1 1, 3) := by decide +kernel
theorem dX12_changes_26 : decode cX12_changes 26 = .ok (.goto (-24), 3) := by decide +kernel
theorem dX12_changes_29 : decode cX12_changes 29 = .ok (.return_, 1) := by decide +kernel
theorem dX12_law_0 : decode cX12_law 0 = .ok (.aload_n 0, 1) := by decide +kernel
theorem dX12_law_1 : decode cX12_law 1 = .ok (.getfield 144, 3) := by decide +kernel
theorem dX12_law_4 : decode cX12_law 4 = .ok (.bipush 8, 2) := by decide +kernel
theorem dX12_law_6 : decode cX12_law 6 = .ok (.if_icmp .eq 52, 3) := by decide +kernel
theorem dX12_law_9 : decode cX12_law 9 = .ok (.iload_n 1, 1) := by decide +kernel
theorem dX12_law_10 : decode cX12_law 10 = .ok (.i2l, 1) := by decide +kernel
theorem dX12_law_11 : decode cX12_law 11 = .ok (.lconst 0, 1) := by decide +kernel
theorem dX12_law_12 : decode cX12_law 12 = .ok (.ldc2_w 147, 3) := by decide +kernel
theorem dX12_law_15 : decode cX12_law 15 = .ok (.invokestatic 140, 3) := by decide +kernel
theorem dX12_law_18 : decode cX12_law 18 = .ok (.ifCond .eq 40, 3) := by decide +kernel
theorem dX12_law_21 : decode cX12_law 21 = .ok (.iload_n 2, 1) := by decide +kernel
theorem dX12_law_22 : decode cX12_law 22 = .ok (.i2l, 1) := by decide +kernel
theorem dX12_law_23 : decode cX12_law 23 = .ok (.lconst 0, 1) := by decide +kernel
theorem dX12_law_24 : decode cX12_law 24 = .ok (.ldc2_w 149, 3) := by decide +kernel
theorem dX12_law_27 : decode cX12_law 27 = .ok (.invokestatic 140, 3) := by decide +kernel
theorem dX12_law_30 : decode cX12_law 30 = .ok (.ifCond .eq 28, 3) := by decide +kernel
theorem dX12_law_33 : decode cX12_law 33 = .ok (.iload_n 3, 1) := by decide +kernel
theorem dX12_law_34 : decode cX12_law 34 = .ok (.i2l, 1) := by decide +kernel
theorem dX12_law_35 : decode cX12_law 35 = .ok (.lconst 0, 1) := by decide +kernel
theorem dX12_law_36 : decode cX12_law 36 = .ok (.ldc2_w 149, 3) := by decide +kernel
theorem dX12_law_39 : decode cX12_law 39 = .ok (.invokestatic 140, 3) := by decide +kernel
theorem dX12_law_42 : decode cX12_law 42 = .ok (.ifCond .eq 16, 3) := by decide +kernel
theorem dX12_law_45 : decode cX12_law 45 = .ok (.iload 4, 2) := by decide +kernel
theorem dX12_law_47 : decode cX12_law 47 = .ok (.i2l, 1) := by decide +kernel
theorem dX12_law_48 : decode cX12_law 48 = .ok (.lconst 0, 1) := by decide +kernel
theorem dX12_law_49 : decode cX12_law 49 = .ok (.ldc2_w 151, 3) := by decide +kernel
theorem dX12_law_52 : decode cX12_law 52 = .ok (.invokestatic 140, 3) := by decide +kernel
theorem dX12_law_55 : decode cX12_law 55 = .ok (.ifCond .ne 5, 3) := by decide +kernel
theorem dX12_law_58 : decode cX12_law 58 = .ok (.iconst (-1), 1) := by decide +kernel
theorem dX12_law_59 : decode cX12_law 59 = .ok (.ireturn, 1) := by decide +kernel
theorem dX12_law_60 : decode cX12_law 60 = .ok (.aload_n 0, 1) := by decide +kernel
theorem dX12_law_61 : decode cX12_law 61 = .ok (.getfield 23, 3) := by decide +kernel
theorem dX12_law_64 : decode cX12_law 64 = .ok (.aload_n 0, 1) := by decide +kernel
theorem dX12_law_65 : decode cX12_law 65 = .ok (.getfield 144, 3) := by decide +kernel
theorem dX12_law_68 : decode cX12_law 68 = .ok (.iload_n 1, 1) := by decide +kernel
theorem dX12_law_69 : decode cX12_law 69 = .ok (.iastore, 1) := by decide +kernel
theorem dX12_law_70 : decode cX12_law 70 = .ok (.aload_n 0, 1) := by decide +kernel
theorem dX12_law_71 : decode cX12_law 71 = .ok (.getfield 27, 3) := by decide +kernel
theorem dX12_law_74 : decode cX12_law 74 = .ok (.aload_n 0, 1) := by decide +kernel
theorem dX12_law_75 : decode cX12_law 75 = .ok (.getfield 144, 3) := by decide +kernel
theorem dX12_law_78 : decode cX12_law 78 = .ok (.iload_n 2, 1) := by decide +kernel
theorem dX12_law_79 : decode cX12_law 79 = .ok (.iastore, 1) := by decide +kernel
theorem dX12_law_80 : decode cX12_law 80 = .ok (.aload_n 0, 1) := by decide +kernel
theorem dX12_law_81 : decode cX12_law 81 = .ok (.getfield 30, 3) := by decide +kernel
theorem dX12_law_84 : decode cX12_law 84 = .ok (.aload_n 0, 1) := by decide +kernel
theorem dX12_law_85 : decode cX12_law 85 = .ok (.getfield 144, 3) := by decide +kernel
theorem dX12_law_88 : decode cX12_law 88 = .ok (.iload_n 3, 1) := by decide +kernel
theorem dX12_law_89 : decode cX12_law 89 = .ok (.iastore, 1) := by decide +kernel
theorem dX12_law_90 : decode cX12_law 90 = .ok (.aload_n 0, 1) := by decide +kernel
theorem dX12_law_91 : decode cX12_law 91 = .ok (.getfield 33, 3) := by decide +kernel
theorem dX12_law_94 : decode cX12_law 94 = .ok (.aload_n 0, 1) := by decide +kernel
theorem dX12_law_95 : decode cX12_law 95 = .ok (.getfield 144, 3) := by decide +kernel
theorem dX12_law_98 : decode cX12_law 98 = .ok (.iload 4, 2) := by decide +kernel
theorem dX12_law_100 : decode cX12_law 100 = .ok (.iastore, 1) := by decide +kernel
theorem dX12_law_101 : decode cX12_law 101 = .ok (.aload_n 0, 1) := by decide +kernel
theorem dX12_law_102 : decode cX12_law 102 = .ok (.dup, 1) := by decide +kernel
theorem dX12_law_103 : decode cX12_law 103 = .ok (.getfield 144, 3) := by decide +kernel
theorem dX12_law_106 : decode cX12_law 106 = .ok (.iconst 1, 1) := by decide +kernel
theorem dX12_law_107 : decode cX12_law 107 = .ok (.iadd, 1) := by decide +kernel
theorem dX12_law_108 : decode cX12_law 108 = .ok (.putfield 144, 3) := by decide +kernel
theorem dX12_law_111 : decode cX12_law 111 = .ok (.aload_n 0, 1) := by decide +kernel
theorem dX12_law_112 : decode cX12_law 112 = .ok (.invokevirtual 153, 3) := by decide +kernel
theorem dX12_law_115 : decode cX12_law 115 = .ok (.aload_n 0, 1) := by decide +kernel
theorem dX12_law_116 : decode cX12_law 116 = .ok (.getfield 144, 3) := by decide +kernel
theorem dX12_law_119 : decode cX12_law 119 = .ok (.iconst 1, 1) := by decide +kernel
theorem dX12_law_120 : decode cX12_law 120 = .ok (.isub, 1) := by decide +kernel
theorem dX12_law_121 : decode cX12_law 121 = .ok (.ireturn, 1) := by decide +kernel
theorem dX12_length_0 : decode cX12_length 0 = .ok (.iload_n 1, 1) := by decide +kernel
theorem dX12_length_1 : decode cX12_length 1 = .ok (.i2l, 1) := by decide +kernel
theorem dX12_length_2 : decode cX12_length 2 = .ok (.lconst 1, 1) := by decide +kernel
theorem dX12_length_3 : decode cX12_length 3 = .ok (.ldc2_w 156, 3) := by decide +kernel
theorem dX12_length_6 : decode cX12_length 6 = .ok (.invokestatic 140, 3) := by decide +kernel
theorem dX12_length_9 : decode cX12_length 9 = .ok (.ifCond .ne 5, 3) := by decide +kernel
theorem dX12_length_12 : decode cX12_length 12 = .ok (.iconst 0, 1) := by decide +kernel
theorem dX12_length_13 : decode cX12_length 13 = .ok (.ireturn, 1) := by decide +kernel
theorem dX12_length_14 : decode cX12_length 14 = .ok (.aload_n 0, 1) := by decide +kernel
theorem dX12_length_15 : decode cX12_length 15 = .ok (.iload_n 1, 1) := by decide +kernel
theorem dX12_length_16 : decode cX12_length 16 = .ok (.putfield 13, 3) := by decide +kernel
theorem dX12_length_19 : decode cX12_length 19 = .ok (.aload_n 0, 1) := by decide +kernel
theorem dX12_length_20 : decode cX12_length 20 = .ok (.iconst 0, 1) := by decide +kernel
theorem dX12_length_21 : decode cX12_length 21 = .ok (.putfield 158, 3) := by decide +kernel
theorem dX12_length_24 : decode cX12_length 24 = .ok (.aload_n 0, 1) := by decide +kernel
theorem dX12_length_25 : decode cX12_length 25 = .ok (.iconst 0, 1) := by decide +kernel
theorem dX12_length_26 : decode cX12_length 26 = .ok (.putfield 161, 3) := by decide +kernel
theorem dX12_length_29 : decode cX12_length 29 = .ok (.aload_n 0, 1) := by decide +kernel
theorem dX12_length_30 : decode cX12_length 30 = .ok (.invokevirtual 153, 3) := by decide +kernel
theorem dX12_length_33 : decode cX12_length 33 = .ok (.iconst 1, 1) := by decide +kernel
theorem dX12_length_34 : decode cX12_length 34 = .ok (.ireturn, 1) := by decide +kernel
theorem dX12_isMaker_0 : decode cX12_isMaker 0 = .ok (.iload_n 0, 1) := by decide +kernel
theorem dX12_isMaker_1 : decode cX12_isMaker 1 = .ok (.i2l, 1) := by decide +kernel
theorem dX12_isMaker_2 : decode cX12_isMaker 2 = .ok (.lconst 0, 1) := by decide +kernel
theorem dX12_isMaker_3 : decode cX12_isMaker 3 = .ok (.ldc2_w 138, 3) := by decide +kernel
theorem dX12_isMaker_6 : decode cX12_isMaker 6 = .ok (.invokestatic 140, 3) := by decide +kernel
theorem dX12_isMaker_9 : decode cX12_isMaker 9 = .ok (.ireturn, 1) := by decide +kernel
theorem dX12_rota_0 : decode cX12_rota 0 = .ok (.iload_n 1, 1) := by decide +kernel
theorem dX12_rota_1 : decode cX12_rota 1 = .ok (.i2l, 1) := by decide +kernel
theorem dX12_rota_2 : decode cX12_rota 2 = .ok (.lconst 1, 1) := by decide +kernel
theorem dX12_rota_3 : decode cX12_rota 3 = .ok (.ldc2_w 156, 3) := by decide +kernel
theorem dX12_rota_6 : decode cX12_rota 6 = .ok (.invokestatic 140, 3) := by decide +kernel
theorem dX12_rota_9 : decode cX12_rota 9 = .ok (.ifCond .eq 11, 3) := by decide +kernel
theorem dX12_rota_12 : decode cX12_rota 12 = .ok (.iload_n 1, 1) := by decide +kernel
theorem dX12_rota_13 : decode cX12_rota 13 = .ok (.aload_n 0, 1) := by decide +kernel
theorem dX12_rota_14 : decode cX12_rota 14 = .ok (.getfield 165, 3) := by decide +kernel
theorem dX12_rota_17 : decode cX12_rota 17 = .ok (.if_icmp .le 5, 3) := by decide +kernel
theorem dX12_rota_20 : decode cX12_rota 20 = .ok (.iconst 0, 1) := by decide +kernel
theorem dX12_rota_21 : decode cX12_rota 21 = .ok (.ireturn, 1) := by decide +kernel
theorem dX12_rota_22 : decode cX12_rota 22 = .ok (.aload_n 0, 1) := by decide +kernel
theorem dX12_rota_23 : decode cX12_rota 23 = .ok (.iconst 0, 1) := by decide +kernel
theorem dX12_rota_24 : decode cX12_rota 24 = .ok (.putfield 165, 3) := by decide +kernel
theorem dX12_rota_27 : decode cX12_rota 27 = .ok (.iconst 0, 1) := by decide +kernel
theorem dX12_rota_28 : decode cX12_rota 28 = .ok (.istore_n 2, 1) := by decide +kernel
theorem dX12_rota_29 : decode cX12_rota 29 = .ok (.iload_n 2, 1) := by decide +kernel
theorem dX12_rota_30 : decode cX12_rota 30 = .ok (.iload_n 1, 1) := by decide +kernel
theorem dX12_rota_31 : decode cX12_rota 31 = .ok (.if_icmp .ge 23, 3) := by decide +kernel
theorem dX12_rota_34 : decode cX12_rota 34 = .ok (.aload_n 0, 1) := by decide +kernel
theorem dX12_rota_35 : decode cX12_rota 35 = .ok (.getfield 7, 3) := by decide +kernel
theorem dX12_rota_38 : decode cX12_rota 38 = .ok (.iload_n 2, 1) := by decide +kernel
theorem dX12_rota_39 : decode cX12_rota 39 = .ok (.baload, 1) := by decide +kernel
theorem dX12_rota_40 : decode cX12_rota 40 = .ok (.invokestatic 168, 3) := by decide +kernel
theorem dX12_rota_43 : decode cX12_rota 43 = .ok (.ifCond .ne 5, 3) := by decide +kernel
theorem dX12_rota_46 : decode cX12_rota 46 = .ok (.iconst 0, 1) := by decide +kernel
theorem dX12_rota_47 : decode cX12_rota 47 = .ok (.ireturn, 1) := by decide +kernel
theorem dX12_rota_48 : decode cX12_rota 48 = .ok (.iinc 2 1, 3) := by decide +kernel
theorem dX12_rota_51 : decode cX12_rota 51 = .ok (.goto (-22), 3) := by decide +kernel
theorem dX12_rota_54 : decode cX12_rota 54 = .ok (.iconst 0, 1) := by decide +kernel
theorem dX12_rota_55 : decode cX12_rota 55 = .ok (.istore_n 2, 1) := by decide +kernel
theorem dX12_rota_56 : decode cX12_rota 56 = .ok (.iload_n 2, 1) := by decide +kernel
theorem dX12_rota_57 : decode cX12_rota 57 = .ok (.iload_n 1, 1) := by decide +kernel
theorem dX12_rota_58 : decode cX12_rota 58 = .ok (.if_icmp .ge 21, 3) := by decide +kernel
theorem dX12_rota_61 : decode cX12_rota 61 = .ok (.aload_n 0, 1) := by decide +kernel
theorem dX12_rota_62 : decode cX12_rota 62 = .ok (.getfield 36, 3) := by decide +kernel
theorem dX12_rota_65 : decode cX12_rota 65 = .ok (.iload_n 2, 1) := by decide +kernel
theorem dX12_rota_66 : decode cX12_rota 66 = .ok (.aload_n 0, 1) := by decide +kernel
theorem dX12_rota_67 : decode cX12_rota 67 = .ok (.getfield 7, 3) := by decide +kernel
theorem dX12_rota_70 : decode cX12_rota 70 = .ok (.iload_n 2, 1) := by decide +kernel
theorem dX12_rota_71 : decode cX12_rota 71 = .ok (.baload, 1) := by decide +kernel
theorem dX12_rota_72 : decode cX12_rota 72 = .ok (.iastore, 1) := by decide +kernel
theorem dX12_rota_73 : decode cX12_rota 73 = .ok (.iinc 2 1, 3) := by decide +kernel
theorem dX12_rota_76 : decode cX12_rota 76 = .ok (.goto (-20), 3) := by decide +kernel
theorem dX12_rota_79 : decode cX12_rota 79 = .ok (.aload_n 0, 1) := by decide +kernel
theorem dX12_rota_80 : decode cX12_rota 80 = .ok (.iload_n 1, 1) := by decide +kernel
theorem dX12_rota_81 : decode cX12_rota 81 = .ok (.putfield 17, 3) := by decide +kernel
theorem dX12_rota_84 : decode cX12_rota 84 = .ok (.aload_n 0, 1) := by decide +kernel
theorem dX12_rota_85 : decode cX12_rota 85 = .ok (.iconst 0, 1) := by decide +kernel
theorem dX12_rota_86 : decode cX12_rota 86 = .ok (.putfield 172, 3) := by decide +kernel
theorem dX12_rota_89 : decode cX12_rota 89 = .ok (.aload_n 0, 1) := by decide +kernel
theorem dX12_rota_90 : decode cX12_rota 90 = .ok (.iconst 0, 1) := by decide +kernel
theorem dX12_rota_91 : decode cX12_rota 91 = .ok (.putfield 161, 3) := by decide +kernel
theorem dX12_rota_94 : decode cX12_rota 94 = .ok (.iconst 1, 1) := by decide +kernel
theorem dX12_rota_95 : decode cX12_rota 95 = .ok (.ireturn, 1) := by decide +kernel
theorem dX12_isLaw_0 : decode cX12_isLaw 0 = .ok (.iload_n 1, 1) := by decide +kernel
theorem dX12_isLaw_1 : decode cX12_isLaw 1 = .ok (.i2l, 1) := by decide +kernel
theorem dX12_isLaw_2 : decode cX12_isLaw 2 = .ok (.lconst 0, 1) := by decide +kernel
theorem dX12_isLaw_3 : decode cX12_isLaw 3 = .ok (.aload_n 0, 1) := by decide +kernel
theorem dX12_isLaw_4 : decode cX12_isLaw 4 = .ok (.getfield 144, 3) := by decide +kernel
theorem dX12_isLaw_7 : decode cX12_isLaw 7 = .ok (.iconst 1, 1) := by decide +kernel
theorem dX12_isLaw_8 : decode cX12_isLaw 8 = .ok (.isub, 1) := by decide +kernel
theorem dX12_isLaw_9 : decode cX12_isLaw 9 = .ok (.i2l, 1) := by decide +kernel
theorem dX12_isLaw_10 : decode cX12_isLaw 10 = .ok (.invokestatic 140, 3) := by decide +kernel
theorem dX12_isLaw_13 : decode cX12_isLaw 13 = .ok (.ireturn, 1) := by decide +kernel
theorem dX12_kind_0 : decode cX12_kind 0 = .ok (.iload_n 1, 1) := by decide +kernel
theorem dX12_kind_1 : decode cX12_kind 1 = .ok (.invokestatic 168, 3) := by decide +kernel
theorem dX12_kind_4 : decode cX12_kind 4 = .ok (.ifCond .eq 28, 3) := by decide +kernel
theorem dX12_kind_7 : decode cX12_kind 7 = .ok (.iload_n 2, 1) := by decide +kernel
theorem dX12_kind_8 : decode cX12_kind 8 = .ok (.i2l, 1) := by decide +kernel
theorem dX12_kind_9 : decode cX12_kind 9 = .ok (.lconst 0, 1) := by decide +kernel
theorem dX12_kind_10 : decode cX12_kind 10 = .ok (.ldc2_w 156, 3) := by decide +kernel
theorem dX12_kind_13 : decode cX12_kind 13 = .ok (.invokestatic 140, 3) := by decide +kernel
theorem dX12_kind_16 : decode cX12_kind 16 = .ok (.ifCond .eq 16, 3) := by decide +kernel
theorem dX12_kind_19 : decode cX12_kind 19 = .ok (.iload_n 2, 1) := by decide +kernel
theorem dX12_kind_20 : decode cX12_kind 20 = .ok (.iconst 4, 1) := by decide +kernel
theorem dX12_kind_21 : decode cX12_kind 21 = .ok (.if_icmp .ne 13, 3) := by decide +kernel
theorem dX12_kind_24 : decode cX12_kind 24 = .ok (.aload_n 0, 1) := by decide +kernel
theorem dX12_kind_25 : decode cX12_kind 25 = .ok (.iload_n 3, 1) := by decide +kernel
theorem dX12_kind_26 : decode cX12_kind 26 = .ok (.invokevirtual 175, 3) := by decide +kernel
theorem dX12_kind_29 : decode cX12_kind 29 = .ok (.ifCond .ne 5, 3) := by decide +kernel
theorem dX12_kind_32 : decode cX12_kind 32 = .ok (.iconst 0, 1) := by decide +kernel
theorem dX12_kind_33 : decode cX12_kind 33 = .ok (.ireturn, 1) := by decide +kernel
theorem dX12_kind_34 : decode cX12_kind 34 = .ok (.aload_n 0, 1) := by decide +kernel
theorem dX12_kind_35 : decode cX12_kind 35 = .ok (.getfield 39, 3) := by decide +kernel
theorem dX12_kind_38 : decode cX12_kind 38 = .ok (.iload_n 1, 1) := by decide +kernel
theorem dX12_kind_39 : decode cX12_kind 39 = .ok (.iload_n 2, 1) := by decide +kernel
theorem dX12_kind_40 : decode cX12_kind 40 = .ok (.iastore, 1) := by decide +kernel
theorem dX12_kind_41 : decode cX12_kind 41 = .ok (.aload_n 0, 1) := by decide +kernel
theorem dX12_kind_42 : decode cX12_kind 42 = .ok (.getfield 42, 3) := by decide +kernel
theorem dX12_kind_45 : decode cX12_kind 45 = .ok (.iload_n 1, 1) := by decide +kernel
theorem dX12_kind_46 : decode cX12_kind 46 = .ok (.iload_n 2, 1) := by decide +kernel
theorem dX12_kind_47 : decode cX12_kind 47 = .ok (.iconst 4, 1) := by decide +kernel
theorem dX12_kind_48 : decode cX12_kind 48 = .ok (.if_icmp .ne 7, 3) := by decide +kernel
theorem dX12_kind_51 : decode cX12_kind 51 = .ok (.iload_n 3, 1) := by decide +kernel
theorem dX12_kind_52 : decode cX12_kind 52 = .ok (.goto 4, 3) := by decide +kernel
theorem dX12_kind_55 : decode cX12_kind 55 = .ok (.iconst 0, 1) := by decide +kernel
theorem dX12_kind_56 : decode cX12_kind 56 = .ok (.iastore, 1) := by decide +kernel
theorem dX12_kind_57 : decode cX12_kind 57 = .ok (.iconst 1, 1) := by decide +kernel
theorem dX12_kind_58 : decode cX12_kind 58 = .ok (.ireturn, 1) := by decide +kernel
theorem dX12_push_0 : decode cX12_push 0 = .ok (.bipush 24, 2) := by decide +kernel
theorem dX12_push_2 : decode cX12_push 2 = .ok (.istore_n 2, 1) := by decide +kernel
theorem dX12_push_3 : decode cX12_push 3 = .ok (.iload_n 2, 1) := by decide +kernel
theorem dX12_push_4 : decode cX12_push 4 = .ok (.ifCond .lt 32, 3) := by decide +kernel
theorem dX12_push_7 : decode cX12_push 7 = .ok (.aload_n 0, 1) := by decide +kernel
theorem dX12_push_8 : decode cX12_push 8 = .ok (.getfield 7, 3) := by decide +kernel
theorem dX12_push_11 : decode cX12_push 11 = .ok (.aload_n 0, 1) := by decide +kernel
theorem dX12_push_12 : decode cX12_push 12 = .ok (.getfield 165, 3) := by decide +kernel
theorem dX12_push_15 : decode cX12_push 15 = .ok (.iload_n 1, 1) := by decide +kernel
theorem dX12_push_16 : decode cX12_push 16 = .ok (.iload_n 2, 1) := by decide +kernel
theorem dX12_push_17 : decode cX12_push 17 = .ok (.ishr, 1) := by decide +kernel
theorem dX12_push_18 : decode cX12_push 18 = .ok (.i2b, 1) := by decide +kernel
theorem dX12_push_19 : decode cX12_push 19 = .ok (.bastore, 1) := by decide +kernel
theorem dX12_push_20 : decode cX12_push 20 = .ok (.aload_n 0, 1) := by decide +kernel
theorem dX12_push_21 : decode cX12_push 21 = .ok (.dup, 1) := by decide +kernel
theorem dX12_push_22 : decode cX12_push 22 = .ok (.getfield 165, 3) := by decide +kernel
theorem dX12_push_25 : decode cX12_push 25 = .ok (.iconst 1, 1) := by decide +kernel
theorem dX12_push_26 : decode cX12_push 26 = .ok (.iadd, 1) := by decide +kernel
theorem dX12_push_27 : decode cX12_push 27 = .ok (.putfield 165, 3) := by decide +kernel
theorem dX12_push_30 : decode cX12_push 30 = .ok (.iinc 2 (-8), 3) := by decide +kernel
theorem dX12_push_33 : decode cX12_push 33 = .ok (.goto (-30), 3) := by decide +kernel
theorem dX12_push_36 : decode cX12_push 36 = .ok (.return_, 1) := by decide +kernel
theorem dX12_feed_0 : decode cX12_feed 0 = .ok (.aload_n 0, 1) := by decide +kernel
theorem dX12_feed_1 : decode cX12_feed 1 = .ok (.getfield 165, 3) := by decide +kernel
theorem dX12_feed_4 : decode cX12_feed 4 = .ok (.bipush 20, 2) := by decide +kernel
theorem dX12_feed_6 : decode cX12_feed 6 = .ok (.iadd, 1) := by decide +kernel
theorem dX12_feed_7 : decode cX12_feed 7 = .ok (.sipush 220, 3) := by decide +kernel
theorem dX12_feed_10 : decode cX12_feed 10 = .ok (.if_icmp .le 5, 3) := by decide +kernel
theorem dX12_feed_13 : decode cX12_feed 13 = .ok (.iconst (-1), 1) := by decide +kernel
theorem dX12_feed_14 : decode cX12_feed 14 = .ok (.ireturn, 1) := by decide +kernel
theorem dX12_feed_15 : decode cX12_feed 15 = .ok (.aload_n 0, 1) := by decide +kernel
theorem dX12_feed_16 : decode cX12_feed 16 = .ok (.iload_n 1, 1) := by decide +kernel
theorem dX12_feed_17 : decode cX12_feed 17 = .ok (.invokevirtual 178, 3) := by decide +kernel
theorem dX12_feed_20 : decode cX12_feed 20 = .ok (.aload_n 0, 1) := by decide +kernel
theorem dX12_feed_21 : decode cX12_feed 21 = .ok (.iload_n 2, 1) := by decide +kernel
theorem dX12_feed_22 : decode cX12_feed 22 = .ok (.invokevirtual 178, 3) := by decide +kernel
theorem dX12_feed_25 : decode cX12_feed 25 = .ok (.aload_n 0, 1) := by decide +kernel
theorem dX12_feed_26 : decode cX12_feed 26 = .ok (.iload_n 3, 1) := by decide +kernel
theorem dX12_feed_27 : decode cX12_feed 27 = .ok (.invokevirtual 178, 3) := by decide +kernel
theorem dX12_feed_30 : decode cX12_feed 30 = .ok (.aload_n 0, 1) := by decide +kernel
theorem dX12_feed_31 : decode cX12_feed 31 = .ok (.iload 4, 2) := by decide +kernel
theorem dX12_feed_33 : decode cX12_feed 33 = .ok (.invokevirtual 178, 3) := by decide +kernel
theorem dX12_feed_36 : decode cX12_feed 36 = .ok (.aload_n 0, 1) := by decide +kernel
theorem dX12_feed_37 : decode cX12_feed 37 = .ok (.iload 5, 2) := by decide +kernel
theorem dX12_feed_39 : decode cX12_feed 39 = .ok (.invokevirtual 178, 3) := by decide +kernel
theorem dX12_feed_42 : decode cX12_feed 42 = .ok (.aload_n 0, 1) := by decide +kernel
theorem dX12_feed_43 : decode cX12_feed 43 = .ok (.getfield 165, 3) := by decide +kernel
theorem dX12_feed_46 : decode cX12_feed 46 = .ok (.ireturn, 1) := by decide +kernel
theorem dX12_isGood_0 : decode cX12_isGood 0 = .ok (.aload_n 0, 1) := by decide +kernel
theorem dX12_isGood_1 : decode cX12_isGood 1 = .ok (.getfield 188, 3) := by decide +kernel
theorem dX12_isGood_4 : decode cX12_isGood 4 = .ok (.ifCond .ne 7, 3) := by decide +kernel
theorem dX12_isGood_7 : decode cX12_isGood 7 = .ok (.iconst 1, 1) := by decide +kernel
theorem dX12_isGood_8 : decode cX12_isGood 8 = .ok (.goto 4, 3) := by decide +kernel
theorem dX12_isGood_11 : decode cX12_isGood 11 = .ok (.iconst 0, 1) := by decide +kernel
theorem dX12_isGood_12 : decode cX12_isGood 12 = .ok (.ireturn, 1) := by decide +kernel
theorem dX12_here_0 : decode cX12_here 0 = .ok (.aload_n 0, 1) := by decide +kernel
theorem dX12_here_1 : decode cX12_here 1 = .ok (.getfield 182, 3) := by decide +kernel
theorem dX12_here_4 : decode cX12_here 4 = .ok (.aload_n 0, 1) := by decide +kernel
theorem dX12_here_5 : decode cX12_here 5 = .ok (.getfield 185, 3) := by decide +kernel
theorem dX12_here_8 : decode cX12_here 8 = .ok (.if_icmp .ge 19, 3) := by decide +kernel
theorem dX12_here_11 : decode cX12_here 11 = .ok (.aload_n 0, 1) := by decide +kernel
theorem dX12_here_12 : decode cX12_here 12 = .ok (.getfield 7, 3) := by decide +kernel
theorem dX12_here_15 : decode cX12_here 15 = .ok (.aload_n 0, 1) := by decide +kernel
theorem dX12_here_16 : decode cX12_here 16 = .ok (.getfield 182, 3) := by decide +kernel
theorem dX12_here_19 : decode cX12_here 19 = .ok (.baload, 1) := by decide +kernel
theorem dX12_here_20 : decode cX12_here 20 = .ok (.sipush 255, 3) := by decide +kernel
theorem dX12_here_23 : decode cX12_here 23 = .ok (.iand, 1) := by decide +kernel
theorem dX12_here_24 : decode cX12_here 24 = .ok (.goto 4, 3) := by decide +kernel
theorem dX12_here_27 : decode cX12_here 27 = .ok (.iconst 0, 1) := by decide +kernel
theorem dX12_here_28 : decode cX12_here 28 = .ok (.ireturn, 1) := by decide +kernel
theorem dX12_wrongs_0 : decode cX12_wrongs 0 = .ok (.aload_n 0, 1) := by decide +kernel
theorem dX12_wrongs_1 : decode cX12_wrongs 1 = .ok (.aload_n 0, 1) := by decide +kernel
theorem dX12_wrongs_2 : decode cX12_wrongs 2 = .ok (.getfield 188, 3) := by decide +kernel
theorem dX12_wrongs_5 : decode cX12_wrongs 5 = .ok (.ifCond .ge 10, 3) := by decide +kernel
theorem dX12_wrongs_8 : decode cX12_wrongs 8 = .ok (.aload_n 0, 1) := by decide +kernel
theorem dX12_wrongs_9 : decode cX12_wrongs 9 = .ok (.getfield 188, 3) := by decide +kernel
theorem dX12_wrongs_12 : decode cX12_wrongs 12 = .ok (.goto 10, 3) := by decide +kernel
theorem dX12_wrongs_15 : decode cX12_wrongs 15 = .ok (.sipush (-1000), 3) := by decide +kernel
theorem dX12_wrongs_18 : decode cX12_wrongs 18 = .ok (.iload_n 1, 1) := by decide +kernel
theorem dX12_wrongs_19 : decode cX12_wrongs 19 = .ok (.imul, 1) := by decide +kernel
theorem dX12_wrongs_20 : decode cX12_wrongs 20 = .ok (.iload_n 2, 1) := by decide +kernel
theorem dX12_wrongs_21 : decode cX12_wrongs 21 = .ok (.isub, 1) := by decide +kernel
theorem dX12_wrongs_22 : decode cX12_wrongs 22 = .ok (.putfield 188, 3) := by decide +kernel
theorem dX12_wrongs_25 : decode cX12_wrongs 25 = .ok (.return_, 1) := by decide +kernel
theorem dX12_puts_0 : decode cX12_puts 0 = .ok (.aload_n 0, 1) := by decide +kernel
theorem dX12_puts_1 : decode cX12_puts 1 = .ok (.getfield 81, 3) := by decide +kernel
theorem dX12_puts_4 : decode cX12_puts 4 = .ok (.aload_n 0, 1) := by decide +kernel
theorem dX12_puts_5 : decode cX12_puts 5 = .ok (.getfield 198, 3) := by decide +kernel
theorem dX12_puts_8 : decode cX12_puts 8 = .ok (.iload_n 1, 1) := by decide +kernel
theorem dX12_puts_9 : decode cX12_puts 9 = .ok (.iastore, 1) := by decide +kernel
theorem dX12_puts_10 : decode cX12_puts 10 = .ok (.aload_n 0, 1) := by decide +kernel
theorem dX12_puts_11 : decode cX12_puts 11 = .ok (.dup, 1) := by decide +kernel
theorem dX12_puts_12 : decode cX12_puts 12 = .ok (.getfield 198, 3) := by decide +kernel
theorem dX12_puts_15 : decode cX12_puts 15 = .ok (.iconst 1, 1) := by decide +kernel
theorem dX12_puts_16 : decode cX12_puts 16 = .ok (.iadd, 1) := by decide +kernel
theorem dX12_puts_17 : decode cX12_puts 17 = .ok (.putfield 198, 3) := by decide +kernel
theorem dX12_puts_20 : decode cX12_puts 20 = .ok (.aload_n 0, 1) := by decide +kernel
theorem dX12_puts_21 : decode cX12_puts 21 = .ok (.dup, 1) := by decide +kernel
theorem dX12_puts_22 : decode cX12_puts 22 = .ok (.getfield 182, 3) := by decide +kernel
theorem dX12_puts_25 : decode cX12_puts 25 = .ok (.iconst 1, 1) := by decide +kernel
theorem dX12_puts_26 : decode cX12_puts 26 = .ok (.iadd, 1) := by decide +kernel
theorem dX12_puts_27 : decode cX12_puts 27 = .ok (.putfield 182, 3) := by decide +kernel
theorem dX12_puts_30 : decode cX12_puts 30 = .ok (.return_, 1) := by decide +kernel
theorem dX12_opens_0 : decode cX12_opens 0 = .ok (.aload_n 0, 1) := by decide +kernel
theorem dX12_opens_1 : decode cX12_opens 1 = .ok (.getfield 201, 3) := by decide +kernel
theorem dX12_opens_4 : decode cX12_opens 4 = .ok (.bipush 6, 2) := by decide +kernel
theorem dX12_opens_6 : decode cX12_opens 6 = .ok (.if_icmp .ne 12, 3) := by decide +kernel
theorem dX12_opens_9 : decode cX12_opens 9 = .ok (.aload_n 0, 1) := by decide +kernel
theorem dX12_opens_10 : decode cX12_opens 10 = .ok (.iconst 5, 1) := by decide +kernel
theorem dX12_opens_11 : decode cX12_opens 11 = .ok (.aload_n 0, 1) := by decide +kernel
theorem dX12_opens_12 : decode cX12_opens 12 = .ok (.getfield 182, 3) := by decide +kernel
theorem dX12_opens_15 : decode cX12_opens 15 = .ok (.invokevirtual 204, 3) := by decide +kernel
theorem dX12_opens_18 : decode cX12_opens 18 = .ok (.aload_n 0, 1) := by decide +kernel
theorem dX12_opens_19 : decode cX12_opens 19 = .ok (.dup, 1) := by decide +kernel
theorem dX12_opens_20 : decode cX12_opens 20 = .ok (.getfield 201, 3) := by decide +kernel
theorem dX12_opens_23 : decode cX12_opens 23 = .ok (.iconst 1, 1) := by decide +kernel
theorem dX12_opens_24 : decode cX12_opens 24 = .ok (.iadd, 1) := by decide +kernel
theorem dX12_opens_25 : decode cX12_opens 25 = .ok (.putfield 201, 3) := by decide +kernel
theorem dX12_opens_28 : decode cX12_opens 28 = .ok (.aload_n 0, 1) := by decide +kernel
theorem dX12_opens_29 : decode cX12_opens 29 = .ok (.aload_n 0, 1) := by decide +kernel
theorem dX12_opens_30 : decode cX12_opens 30 = .ok (.invokevirtual 208, 3) := by decide +kernel
theorem dX12_opens_33 : decode cX12_opens 33 = .ok (.invokevirtual 212, 3) := by decide +kernel
theorem dX12_opens_36 : decode cX12_opens 36 = .ok (.return_, 1) := by decide +kernel
theorem dX12_seesDigit_0 : decode cX12_seesDigit 0 = .ok (.aload_n 0, 1) := by decide +kernel
theorem dX12_seesDigit_1 : decode cX12_seesDigit 1 = .ok (.invokevirtual 208, 3) := by decide +kernel
theorem dX12_seesDigit_4 : decode cX12_seesDigit 4 = .ok (.i2l, 1) := by decide +kernel
theorem dX12_seesDigit_5 : decode cX12_seesDigit 5 = .ok (.ldc2_w 215, 3) := by decide +kernel
theorem dX12_seesDigit_8 : decode cX12_seesDigit 8 = .ok (.ldc2_w 217, 3) := by decide +kernel
theorem dX12_seesDigit_11 : decode cX12_seesDigit 11 = .ok (.invokestatic 140, 3) := by decide +kernel
theorem dX12_seesDigit_14 : decode cX12_seesDigit 14 = .ok (.ireturn, 1) := by decide +kernel
theorem dX12_reads_0 : decode cX12_reads 0 = .ok (.aload_n 0, 1) := by decide +kernel
theorem dX12_reads_1 : decode cX12_reads 1 = .ok (.getfield 182, 3) := by decide +kernel
theorem dX12_reads_4 : decode cX12_reads 4 = .ok (.istore_n 1, 1) := by decide +kernel
theorem dX12_reads_5 : decode cX12_reads 5 = .ok (.iconst 0, 1) := by decide +kernel
theorem dX12_reads_6 : decode cX12_reads 6 = .ok (.istore_n 2, 1) := by decide +kernel
theorem dX12_reads_7 : decode cX12_reads 7 = .ok (.aload_n 0, 1) := by decide +kernel
theorem dX12_reads_8 : decode cX12_reads 8 = .ok (.invokevirtual 191, 3) := by decide +kernel
theorem dX12_reads_11 : decode cX12_reads 11 = .ok (.ifCond .eq 55, 3) := by decide +kernel
theorem dX12_reads_14 : decode cX12_reads 14 = .ok (.aload_n 0, 1) := by decide +kernel
theorem dX12_reads_15 : decode cX12_reads 15 = .ok (.invokevirtual 219, 3) := by decide +kernel
theorem dX12_reads_18 : decode cX12_reads 18 = .ok (.ifCond .eq 48, 3) := by decide +kernel
theorem dX12_reads_21 : decode cX12_reads 21 = .ok (.aload_n 0, 1) := by decide +kernel
theorem dX12_reads_22 : decode cX12_reads 22 = .ok (.getfield 182, 3) := by decide +kernel
theorem dX12_reads_25 : decode cX12_reads 25 = .ok (.iload_n 1, 1) := by decide +kernel
theorem dX12_reads_26 : decode cX12_reads 26 = .ok (.iconst 5, 1) := by decide +kernel
theorem dX12_reads_27 : decode cX12_reads 27 = .ok (.iadd, 1) := by decide +kernel
theorem dX12_reads_28 : decode cX12_reads 28 = .ok (.if_icmp .ne 12, 3) := by decide +kernel
theorem dX12_reads_31 : decode cX12_reads 31 = .ok (.aload_n 0, 1) := by decide +kernel
theorem dX12_reads_32 : decode cX12_reads 32 = .ok (.iconst 2, 1) := by decide +kernel
theorem dX12_reads_33 : decode cX12_reads 33 = .ok (.aload_n 0, 1) := by decide +kernel
theorem dX12_reads_34 : decode cX12_reads 34 = .ok (.getfield 182, 3) := by decide +kernel
theorem dX12_reads_37 : decode cX12_reads 37 = .ok (.invokevirtual 204, 3) := by decide +kernel
theorem dX12_reads_40 : decode cX12_reads 40 = .ok (.bipush 10, 2) := by decide +kernel
theorem dX12_reads_42 : decode cX12_reads 42 = .ok (.iload_n 2, 1) := by decide +kernel
theorem dX12_reads_43 : decode cX12_reads 43 = .ok (.imul, 1) := by decide +kernel
theorem dX12_reads_44 : decode cX12_reads 44 = .ok (.aload_n 0, 1) := by decide +kernel
theorem dX12_reads_45 : decode cX12_reads 45 = .ok (.invokevirtual 208, 3) := by decide +kernel
theorem dX12_reads_48 : decode cX12_reads 48 = .ok (.iadd, 1) := by decide +kernel
theorem dX12_reads_49 : decode cX12_reads 49 = .ok (.bipush 48, 2) := by decide +kernel
theorem dX12_reads_51 : decode cX12_reads 51 = .ok (.isub, 1) := by decide +kernel
theorem dX12_reads_52 : decode cX12_reads 52 = .ok (.istore_n 2, 1) := by decide +kernel
theorem dX12_reads_53 : decode cX12_reads 53 = .ok (.aload_n 0, 1) := by decide +kernel
theorem dX12_reads_54 : decode cX12_reads 54 = .ok (.dup, 1) := by decide +kernel
theorem dX12_reads_55 : decode cX12_reads 55 = .ok (.getfield 182, 3) := by decide +kernel
theorem dX12_reads_58 : decode cX12_reads 58 = .ok (.iconst 1, 1) := by decide +kernel
theorem dX12_reads_59 : decode cX12_reads 59 = .ok (.iadd, 1) := by decide +kernel
theorem dX12_reads_60 : decode cX12_reads 60 = .ok (.putfield 182, 3) := by decide +kernel
theorem dX12_reads_63 : decode cX12_reads 63 = .ok (.goto (-56), 3) := by decide +kernel
theorem dX12_reads_66 : decode cX12_reads 66 = .ok (.iload_n 2, 1) := by decide +kernel
theorem dX12_reads_67 : decode cX12_reads 67 = .ok (.ireturn, 1) := by decide +kernel
theorem dX12_emit_0 : decode cX12_emit 0 = .ok (.aload_n 0, 1) := by decide +kernel
theorem dX12_emit_1 : decode cX12_emit 1 = .ok (.invokevirtual 191, 3) := by decide +kernel
theorem dX12_emit_4 : decode cX12_emit 4 = .ok (.ifCond .ne 4, 3) := by decide +kernel
theorem dX12_emit_7 : decode cX12_emit 7 = .ok (.return_, 1) := by decide +kernel
theorem dX12_emit_8 : decode cX12_emit 8 = .ok (.aload_n 0, 1) := by decide +kernel
theorem dX12_emit_9 : decode cX12_emit 9 = .ok (.getfield 75, 3) := by decide +kernel
theorem dX12_emit_12 : decode cX12_emit 12 = .ok (.aload_n 0, 1) := by decide +kernel
theorem dX12_emit_13 : decode cX12_emit 13 = .ok (.getfield 195, 3) := by decide +kernel
theorem dX12_emit_16 : decode cX12_emit 16 = .ok (.iload_n 1, 1) := by decide +kernel
theorem dX12_emit_17 : decode cX12_emit 17 = .ok (.iastore, 1) := by decide +kernel
theorem dX12_emit_18 : decode cX12_emit 18 = .ok (.aload_n 0, 1) := by decide +kernel
theorem dX12_emit_19 : decode cX12_emit 19 = .ok (.getfield 78, 3) := by decide +kernel
theorem dX12_emit_22 : decode cX12_emit 22 = .ok (.aload_n 0, 1) := by decide +kernel
theorem dX12_emit_23 : decode cX12_emit 23 = .ok (.getfield 195, 3) := by decide +kernel
theorem dX12_emit_26 : decode cX12_emit 26 = .ok (.iload_n 2, 1) := by decide +kernel
theorem dX12_emit_27 : decode cX12_emit 27 = .ok (.iastore, 1) := by decide +kernel
theorem dX12_emit_28 : decode cX12_emit 28 = .ok (.aload_n 0, 1) := by decide +kernel
theorem dX12_emit_29 : decode cX12_emit 29 = .ok (.dup, 1) := by decide +kernel
theorem dX12_emit_30 : decode cX12_emit 30 = .ok (.getfield 195, 3) := by decide +kernel
theorem dX12_emit_33 : decode cX12_emit 33 = .ok (.iconst 1, 1) := by decide +kernel
theorem dX12_emit_34 : decode cX12_emit 34 = .ok (.iadd, 1) := by decide +kernel
theorem dX12_emit_35 : decode cX12_emit 35 = .ok (.putfield 195, 3) := by decide +kernel
theorem dX12_emit_38 : decode cX12_emit 38 = .ok (.return_, 1) := by decide +kernel
theorem dX12_isValue_0 : decode cX12_isValue 0 = .ok (.iload_n 0, 1) := by decide +kernel
theorem dX12_isValue_1 : decode cX12_isValue 1 = .ok (.bipush 108, 2) := by decide +kernel
theorem dX12_isValue_3 : decode cX12_isValue 3 = .ok (.if_icmp .eq 63, 3) := by decide +kernel
theorem dX12_isValue_6 : decode cX12_isValue 6 = .ok (.iload_n 0, 1) := by decide +kernel
theorem dX12_isValue_7 : decode cX12_isValue 7 = .ok (.bipush 112, 2) := by decide +kernel
theorem dX12_isValue_9 : decode cX12_isValue 9 = .ok (.if_icmp .eq 57, 3) := by decide +kernel
theorem dX12_isValue_12 : decode cX12_isValue 12 = .ok (.iload_n 0, 1) := by decide +kernel
theorem dX12_isValue_13 : decode cX12_isValue 13 = .ok (.bipush 107, 2) := by decide +kernel
theorem dX12_isValue_15 : decode cX12_isValue 15 = .ok (.if_icmp .eq 51, 3) := by decide +kernel
theorem dX12_isValue_18 : decode cX12_isValue 18 = .ok (.iload_n 0, 1) := by decide +kernel
theorem dX12_isValue_19 : decode cX12_isValue 19 = .ok (.bipush 110, 2) := by decide +kernel
theorem dX12_isValue_21 : decode cX12_isValue 21 = .ok (.if_icmp .eq 45, 3) := by decide +kernel
theorem dX12_isValue_24 : decode cX12_isValue 24 = .ok (.iload_n 0, 1) := by decide +kernel
theorem dX12_isValue_25 : decode cX12_isValue 25 = .ok (.bipush 115, 2) := by decide +kernel
theorem dX12_isValue_27 : decode cX12_isValue 27 = .ok (.if_icmp .eq 39, 3) := by decide +kernel
theorem dX12_isValue_30 : decode cX12_isValue 30 = .ok (.iload_n 0, 1) := by decide +kernel
theorem dX12_isValue_31 : decode cX12_isValue 31 = .ok (.bipush 104, 2) := by decide +kernel
theorem dX12_isValue_33 : decode cX12_isValue 33 = .ok (.if_icmp .eq 33, 3) := by decide +kernel
theorem dX12_isValue_36 : decode cX12_isValue 36 = .ok (.iload_n 0, 1) := by decide +kernel
theorem dX12_isValue_37 : decode cX12_isValue 37 = .ok (.bipush 102, 2) := by decide +kernel
theorem dX12_isValue_39 : decode cX12_isValue 39 = .ok (.if_icmp .eq 27, 3) := by decide +kernel
theorem dX12_isValue_42 : decode cX12_isValue 42 = .ok (.iload_n 0, 1) := by decide +kernel
theorem dX12_isValue_43 : decode cX12_isValue 43 = .ok (.bipush 105, 2) := by decide +kernel
theorem dX12_isValue_45 : decode cX12_isValue 45 = .ok (.if_icmp .eq 21, 3) := by decide +kernel
theorem dX12_isValue_48 : decode cX12_isValue 48 = .ok (.iload_n 0, 1) := by decide +kernel
theorem dX12_isValue_49 : decode cX12_isValue 49 = .ok (.bipush 111, 2) := by decide +kernel
theorem dX12_isValue_51 : decode cX12_isValue 51 = .ok (.if_icmp .eq 15, 3) := by decide +kernel
theorem dX12_isValue_54 : decode cX12_isValue 54 = .ok (.iload_n 0, 1) := by decide +kernel
theorem dX12_isValue_55 : decode cX12_isValue 55 = .ok (.bipush 121, 2) := by decide +kernel
theorem dX12_isValue_57 : decode cX12_isValue 57 = .ok (.if_icmp .eq 9, 3) := by decide +kernel
theorem dX12_isValue_60 : decode cX12_isValue 60 = .ok (.iload_n 0, 1) := by decide +kernel
theorem dX12_isValue_61 : decode cX12_isValue 61 = .ok (.bipush 114, 2) := by decide +kernel
theorem dX12_isValue_63 : decode cX12_isValue 63 = .ok (.if_icmp .ne 7, 3) := by decide +kernel
theorem dX12_isValue_66 : decode cX12_isValue 66 = .ok (.iconst 1, 1) := by decide +kernel
theorem dX12_isValue_67 : decode cX12_isValue 67 = .ok (.goto 4, 3) := by decide +kernel
theorem dX12_isValue_70 : decode cX12_isValue 70 = .ok (.iconst 0, 1) := by decide +kernel
theorem dX12_isValue_71 : decode cX12_isValue 71 = .ok (.ireturn, 1) := by decide +kernel
theorem dX12_factor_0 : decode cX12_factor 0 = .ok (.aload_n 0, 1) := by decide +kernel
theorem dX12_factor_1 : decode cX12_factor 1 = .ok (.invokevirtual 191, 3) := by decide +kernel
theorem dX12_factor_4 : decode cX12_factor 4 = .ok (.ifCond .eq 19, 3) := by decide +kernel
theorem dX12_factor_7 : decode cX12_factor 7 = .ok (.aload_n 0, 1) := by decide +kernel
theorem dX12_factor_8 : decode cX12_factor 8 = .ok (.invokevirtual 208, 3) := by decide +kernel
theorem dX12_factor_11 : decode cX12_factor 11 = .ok (.bipush 91, 2) := by decide +kernel
theorem dX12_factor_13 : decode cX12_factor 13 = .ok (.if_icmp .ne 10, 3) := by decide +kernel
theorem dX12_factor_16 : decode cX12_factor 16 = .ok (.aload_n 0, 1) := by decide +kernel
theorem dX12_factor_17 : decode cX12_factor 17 = .ok (.invokevirtual 234, 3) := by decide +kernel
theorem dX12_factor_20 : decode cX12_factor 20 = .ok (.goto (-20), 3) := by decide +kernel
theorem dX12_factor_23 : decode cX12_factor 23 = .ok (.aload_n 0, 1) := by decide +kernel
theorem dX12_factor_24 : decode cX12_factor 24 = .ok (.invokevirtual 191, 3) := by decide +kernel
theorem dX12_factor_27 : decode cX12_factor 27 = .ok (.ifCond .ne 4, 3) := by decide +kernel
theorem dX12_factor_30 : decode cX12_factor 30 = .ok (.return_, 1) := by decide +kernel
theorem dX12_factor_31 : decode cX12_factor 31 = .ok (.aload_n 0, 1) := by decide +kernel
theorem dX12_factor_32 : decode cX12_factor 32 = .ok (.invokevirtual 219, 3) := by decide +kernel
theorem dX12_factor_35 : decode cX12_factor 35 = .ok (.ifCond .eq 15, 3) := by decide +kernel
theorem dX12_factor_38 : decode cX12_factor 38 = .ok (.aload_n 0, 1) := by decide +kernel
theorem dX12_factor_39 : decode cX12_factor 39 = .ok (.iconst 0, 1) := by decide +kernel
theorem dX12_factor_40 : decode cX12_factor 40 = .ok (.aload_n 0, 1) := by decide +kernel
theorem dX12_factor_41 : decode cX12_factor 41 = .ok (.invokevirtual 237, 3) := by decide +kernel
theorem dX12_factor_44 : decode cX12_factor 44 = .ok (.invokevirtual 231, 3) := by decide +kernel
theorem dX12_factor_47 : decode cX12_factor 47 = .ok (.goto 44, 3) := by decide +kernel
theorem dX12_factor_50 : decode cX12_factor 50 = .ok (.aload_n 0, 1) := by decide +kernel
theorem dX12_factor_51 : decode cX12_factor 51 = .ok (.invokevirtual 208, 3) := by decide +kernel
theorem dX12_factor_54 : decode cX12_factor 54 = .ok (.invokestatic 240, 3) := by decide +kernel
theorem dX12_factor_57 : decode cX12_factor 57 = .ok (.ifCond .eq 25, 3) := by decide +kernel
theorem dX12_factor_60 : decode cX12_factor 60 = .ok (.aload_n 0, 1) := by decide +kernel
theorem dX12_factor_61 : decode cX12_factor 61 = .ok (.iconst 1, 1) := by decide +kernel
theorem dX12_factor_62 : decode cX12_factor 62 = .ok (.aload_n 0, 1) := by decide +kernel
theorem dX12_factor_63 : decode cX12_factor 63 = .ok (.invokevirtual 208, 3) := by decide +kernel
theorem dX12_factor_66 : decode cX12_factor 66 = .ok (.invokevirtual 231, 3) := by decide +kernel
theorem dX12_factor_69 : decode cX12_factor 69 = .ok (.aload_n 0, 1) := by decide +kernel
theorem dX12_factor_70 : decode cX12_factor 70 = .ok (.dup, 1) := by decide +kernel
theorem dX12_factor_71 : decode cX12_factor 71 = .ok (.getfield 182, 3) := by decide +kernel
theorem dX12_factor_74 : decode cX12_factor 74 = .ok (.iconst 1, 1) := by decide +kernel
theorem dX12_factor_75 : decode cX12_factor 75 = .ok (.iadd, 1) := by decide +kernel
theorem dX12_factor_76 : decode cX12_factor 76 = .ok (.putfield 182, 3) := by decide +kernel
theorem dX12_factor_79 : decode cX12_factor 79 = .ok (.goto 12, 3) := by decide +kernel
theorem dX12_factor_82 : decode cX12_factor 82 = .ok (.aload_n 0, 1) := by decide +kernel
theorem dX12_factor_83 : decode cX12_factor 83 = .ok (.iconst 1, 1) := by decide +kernel
theorem dX12_factor_84 : decode cX12_factor 84 = .ok (.aload_n 0, 1) := by decide +kernel
theorem dX12_factor_85 : decode cX12_factor 85 = .ok (.getfield 182, 3) := by decide +kernel
theorem dX12_factor_88 : decode cX12_factor 88 = .ok (.invokevirtual 204, 3) := by decide +kernel
theorem dX12_factor_91 : decode cX12_factor 91 = .ok (.return_, 1) := by decide +kernel
theorem dX12_isTimes_0 : decode cX12_isTimes 0 = .ok (.iload_n 0, 1) := by decide +kernel
theorem dX12_isTimes_1 : decode cX12_isTimes 1 = .ok (.bipush 42, 2) := by decide +kernel
theorem dX12_isTimes_3 : decode cX12_isTimes 3 = .ok (.if_icmp .eq 15, 3) := by decide +kernel
theorem dX12_isTimes_6 : decode cX12_isTimes 6 = .ok (.iload_n 0, 1) := by decide +kernel
theorem dX12_isTimes_7 : decode cX12_isTimes 7 = .ok (.bipush 47, 2) := by decide +kernel
theorem dX12_isTimes_9 : decode cX12_isTimes 9 = .ok (.if_icmp .eq 9, 3) := by decide +kernel
theorem dX12_isTimes_12 : decode cX12_isTimes 12 = .ok (.iload_n 0, 1) := by decide +kernel
theorem dX12_isTimes_13 : decode cX12_isTimes 13 = .ok (.bipush 37, 2) := by decide +kernel
theorem dX12_isTimes_15 : decode cX12_isTimes 15 = .ok (.if_icmp .ne 7, 3) := by decide +kernel
theorem dX12_isTimes_18 : decode cX12_isTimes 18 = .ok (.iconst 1, 1) := by decide +kernel
theorem dX12_isTimes_19 : decode cX12_isTimes 19 = .ok (.goto 4, 3) := by decide +kernel
theorem dX12_isTimes_22 : decode cX12_isTimes 22 = .ok (.iconst 0, 1) := by decide +kernel
theorem dX12_isTimes_23 : decode cX12_isTimes 23 = .ok (.ireturn, 1) := by decide +kernel
theorem dX12_isPlus_0 : decode cX12_isPlus 0 = .ok (.iload_n 0, 1) := by decide +kernel
theorem dX12_isPlus_1 : decode cX12_isPlus 1 = .ok (.bipush 43, 2) := by decide +kernel
theorem dX12_isPlus_3 : decode cX12_isPlus 3 = .ok (.if_icmp .eq 9, 3) := by decide +kernel
theorem dX12_isPlus_6 : decode cX12_isPlus 6 = .ok (.iload_n 0, 1) := by decide +kernel
theorem dX12_isPlus_7 : decode cX12_isPlus 7 = .ok (.bipush 45, 2) := by decide +kernel
theorem dX12_isPlus_9 : decode cX12_isPlus 9 = .ok (.if_icmp .ne 7, 3) := by decide +kernel
theorem dX12_isPlus_12 : decode cX12_isPlus 12 = .ok (.iconst 1, 1) := by decide +kernel
theorem dX12_isPlus_13 : decode cX12_isPlus 13 = .ok (.goto 4, 3) := by decide +kernel
theorem dX12_isPlus_16 : decode cX12_isPlus 16 = .ok (.iconst 0, 1) := by decide +kernel
theorem dX12_isPlus_17 : decode cX12_isPlus 17 = .ok (.ireturn, 1) := by decide +kernel
theorem dX12_top_0 : decode cX12_top 0 = .ok (.aload_n 0, 1) := by decide +kernel
theorem dX12_top_1 : decode cX12_top 1 = .ok (.getfield 198, 3) := by decide +kernel
theorem dX12_top_4 : decode cX12_top 4 = .ok (.ifCond .le 17, 3) := by decide +kernel
theorem dX12_top_7 : decode cX12_top 7 = .ok (.aload_n 0, 1) := by decide +kernel
theorem dX12_top_8 : decode cX12_top 8 = .ok (.getfield 81, 3) := by decide +kernel
theorem dX12_top_11 : decode cX12_top 11 = .ok (.aload_n 0, 1) := by decide +kernel
theorem dX12_top_12 : decode cX12_top 12 = .ok (.getfield 198, 3) := by decide +kernel
theorem dX12_top_15 : decode cX12_top 15 = .ok (.iconst 1, 1) := by decide +kernel
theorem dX12_top_16 : decode cX12_top 16 = .ok (.isub, 1) := by decide +kernel
theorem dX12_top_17 : decode cX12_top 17 = .ok (.iaload, 1) := by decide +kernel
theorem dX12_top_18 : decode cX12_top 18 = .ok (.goto 4, 3) := by decide +kernel
theorem dX12_top_21 : decode cX12_top 21 = .ok (.iconst 0, 1) := by decide +kernel
theorem dX12_top_22 : decode cX12_top 22 = .ok (.ireturn, 1) := by decide +kernel
theorem dX12_sums_0 : decode cX12_sums 0 = .ok (.aload_n 0, 1) := by decide +kernel
theorem dX12_sums_1 : decode cX12_sums 1 = .ok (.invokevirtual 222, 3) := by decide +kernel
theorem dX12_sums_4 : decode cX12_sums 4 = .ok (.invokestatic 225, 3) := by decide +kernel
theorem dX12_sums_7 : decode cX12_sums 7 = .ok (.ifCond .ne 17, 3) := by decide +kernel
theorem dX12_sums_10 : decode cX12_sums 10 = .ok (.iload_n 1, 1) := by decide +kernel
theorem dX12_sums_11 : decode cX12_sums 11 = .ok (.ifCond .eq 35, 3) := by decide +kernel
theorem dX12_sums_14 : decode cX12_sums 14 = .ok (.aload_n 0, 1) := by decide +kernel
theorem dX12_sums_15 : decode cX12_sums 15 = .ok (.invokevirtual 222, 3) := by decide +kernel
theorem dX12_sums_18 : decode cX12_sums 18 = .ok (.invokestatic 228, 3) := by decide +kernel
theorem dX12_sums_21 : decode cX12_sums 21 = .ok (.ifCond .eq 25, 3) := by decide +kernel
theorem dX12_sums_24 : decode cX12_sums 24 = .ok (.aload_n 0, 1) := by decide +kernel
theorem dX12_sums_25 : decode cX12_sums 25 = .ok (.aload_n 0, 1) := by decide +kernel
theorem dX12_sums_26 : decode cX12_sums 26 = .ok (.invokevirtual 222, 3) := by decide +kernel
theorem dX12_sums_29 : decode cX12_sums 29 = .ok (.iconst 0, 1) := by decide +kernel
theorem dX12_sums_30 : decode cX12_sums 30 = .ok (.invokevirtual 231, 3) := by decide +kernel
theorem dX12_sums_33 : decode cX12_sums 33 = .ok (.aload_n 0, 1) := by decide +kernel
theorem dX12_sums_34 : decode cX12_sums 34 = .ok (.dup, 1) := by decide +kernel
theorem dX12_sums_35 : decode cX12_sums 35 = .ok (.getfield 198, 3) := by decide +kernel
theorem dX12_sums_38 : decode cX12_sums 38 = .ok (.iconst 1, 1) := by decide +kernel
theorem dX12_sums_39 : decode cX12_sums 39 = .ok (.isub, 1) := by decide +kernel
theorem dX12_sums_40 : decode cX12_sums 40 = .ok (.putfield 198, 3) := by decide +kernel
theorem dX12_sums_43 : decode cX12_sums 43 = .ok (.goto (-43), 3) := by decide +kernel
theorem dX12_sums_46 : decode cX12_sums 46 = .ok (.return_, 1) := by decide +kernel
theorem dX12_stays_0 : decode cX12_stays 0 = .ok (.aload_n 0, 1) := by decide +kernel
theorem dX12_stays_1 : decode cX12_stays 1 = .ok (.invokevirtual 208, 3) := by decide +kernel
theorem dX12_stays_4 : decode cX12_stays 4 = .ok (.istore_n 1, 1) := by decide +kernel
theorem dX12_stays_5 : decode cX12_stays 5 = .ok (.iload_n 1, 1) := by decide +kernel
theorem dX12_stays_6 : decode cX12_stays 6 = .ok (.invokestatic 225, 3) := by decide +kernel
theorem dX12_stays_9 : decode cX12_stays 9 = .ok (.ifCond .ne 10, 3) := by decide +kernel
theorem dX12_stays_12 : decode cX12_stays 12 = .ok (.iload_n 1, 1) := by decide +kernel
theorem dX12_stays_13 : decode cX12_stays 13 = .ok (.invokestatic 228, 3) := by decide +kernel
theorem dX12_stays_16 : decode cX12_stays 16 = .ok (.ifCond .eq 18, 3) := by decide +kernel
theorem dX12_stays_19 : decode cX12_stays 19 = .ok (.aload_n 0, 1) := by decide +kernel
theorem dX12_stays_20 : decode cX12_stays 20 = .ok (.iload_n 1, 1) := by decide +kernel
theorem dX12_stays_21 : decode cX12_stays 21 = .ok (.invokestatic 228, 3) := by decide +kernel
theorem dX12_stays_24 : decode cX12_stays 24 = .ok (.invokevirtual 243, 3) := by decide +kernel
theorem dX12_stays_27 : decode cX12_stays 27 = .ok (.aload_n 0, 1) := by decide +kernel
theorem dX12_stays_28 : decode cX12_stays 28 = .ok (.iload_n 1, 1) := by decide +kernel
theorem dX12_stays_29 : decode cX12_stays 29 = .ok (.invokevirtual 212, 3) := by decide +kernel
theorem dX12_stays_32 : decode cX12_stays 32 = .ok (.iconst 1, 1) := by decide +kernel
theorem dX12_stays_33 : decode cX12_stays 33 = .ok (.ireturn, 1) := by decide +kernel
theorem dX12_stays_34 : decode cX12_stays 34 = .ok (.aload_n 0, 1) := by decide +kernel
theorem dX12_stays_35 : decode cX12_stays 35 = .ok (.iconst 1, 1) := by decide +kernel
theorem dX12_stays_36 : decode cX12_stays 36 = .ok (.invokevirtual 243, 3) := by decide +kernel
theorem dX12_stays_39 : decode cX12_stays 39 = .ok (.iload_n 1, 1) := by decide +kernel
theorem dX12_stays_40 : decode cX12_stays 40 = .ok (.bipush 93, 2) := by decide +kernel
theorem dX12_stays_42 : decode cX12_stays 42 = .ok (.if_icmp .eq 5, 3) := by decide +kernel
theorem dX12_stays_45 : decode cX12_stays 45 = .ok (.iconst 0, 1) := by decide +kernel
theorem dX12_stays_46 : decode cX12_stays 46 = .ok (.ireturn, 1) := by decide +kernel
theorem dX12_stays_47 : decode cX12_stays 47 = .ok (.aload_n 0, 1) := by decide +kernel
theorem dX12_stays_48 : decode cX12_stays 48 = .ok (.invokevirtual 222, 3) := by decide +kernel
theorem dX12_stays_51 : decode cX12_stays 51 = .ok (.bipush 91, 2) := by decide +kernel
theorem dX12_stays_53 : decode cX12_stays 53 = .ok (.if_icmp .eq 14, 3) := by decide +kernel
theorem dX12_stays_56 : decode cX12_stays 56 = .ok (.aload_n 0, 1) := by decide +kernel
theorem dX12_stays_57 : decode cX12_stays 57 = .ok (.iconst 1, 1) := by decide +kernel
theorem dX12_stays_58 : decode cX12_stays 58 = .ok (.aload_n 0, 1) := by decide +kernel
theorem dX12_stays_59 : decode cX12_stays 59 = .ok (.getfield 182, 3) := by decide +kernel
theorem dX12_stays_62 : decode cX12_stays 62 = .ok (.invokevirtual 204, 3) := by decide +kernel
theorem dX12_stays_65 : decode cX12_stays 65 = .ok (.iconst 0, 1) := by decide +kernel
theorem dX12_stays_66 : decode cX12_stays 66 = .ok (.ireturn, 1) := by decide +kernel
theorem dX12_stays_67 : decode cX12_stays 67 = .ok (.aload_n 0, 1) := by decide +kernel
theorem dX12_stays_68 : decode cX12_stays 68 = .ok (.dup, 1) := by decide +kernel
theorem dX12_stays_69 : decode cX12_stays 69 = .ok (.getfield 198, 3) := by decide +kernel
theorem dX12_stays_72 : decode cX12_stays 72 = .ok (.iconst 1, 1) := by decide +kernel
theorem dX12_stays_73 : decode cX12_stays 73 = .ok (.isub, 1) := by decide +kernel
theorem dX12_stays_74 : decode cX12_stays 74 = .ok (.putfield 198, 3) := by decide +kernel
theorem dX12_stays_77 : decode cX12_stays 77 = .ok (.aload_n 0, 1) := by decide +kernel
theorem dX12_stays_78 : decode cX12_stays 78 = .ok (.dup, 1) := by decide +kernel
theorem dX12_stays_79 : decode cX12_stays 79 = .ok (.getfield 201, 3) := by decide +kernel
theorem dX12_stays_82 : decode cX12_stays 82 = .ok (.iconst 1, 1) := by decide +kernel
theorem dX12_stays_83 : decode cX12_stays 83 = .ok (.isub, 1) := by decide +kernel
theorem dX12_stays_84 : decode cX12_stays 84 = .ok (.putfield 201, 3) := by decide +kernel
theorem dX12_stays_87 : decode cX12_stays 87 = .ok (.aload_n 0, 1) := by decide +kernel
theorem dX12_stays_88 : decode cX12_stays 88 = .ok (.dup, 1) := by decide +kernel
theorem dX12_stays_89 : decode cX12_stays 89 = .ok (.getfield 182, 3) := by decide +kernel
theorem dX12_stays_92 : decode cX12_stays 92 = .ok (.iconst 1, 1) := by decide +kernel
theorem dX12_stays_93 : decode cX12_stays 93 = .ok (.iadd, 1) := by decide +kernel
theorem dX12_stays_94 : decode cX12_stays 94 = .ok (.putfield 182, 3) := by decide +kernel
theorem dX12_stays_97 : decode cX12_stays 97 = .ok (.aload_n 0, 1) := by decide +kernel
theorem dX12_stays_98 : decode cX12_stays 98 = .ok (.iconst 1, 1) := by decide +kernel
theorem dX12_stays_99 : decode cX12_stays 99 = .ok (.putfield 247, 3) := by decide +kernel
theorem dX12_stays_102 : decode cX12_stays 102 = .ok (.iconst 1, 1) := by decide +kernel
theorem dX12_stays_103 : decode cX12_stays 103 = .ok (.ireturn, 1) := by decide +kernel
theorem dX12_value_0 : decode cX12_value 0 = .ok (.iconst 1, 1) := by decide +kernel
theorem dX12_value_1 : decode cX12_value 1 = .ok (.istore_n 1, 1) := by decide +kernel
theorem dX12_value_2 : decode cX12_value 2 = .ok (.aload_n 0, 1) := by decide +kernel
theorem dX12_value_3 : decode cX12_value 3 = .ok (.iconst 0, 1) := by decide +kernel
theorem dX12_value_4 : decode cX12_value 4 = .ok (.putfield 247, 3) := by decide +kernel
theorem dX12_value_7 : decode cX12_value 7 = .ok (.iload_n 1, 1) := by decide +kernel
theorem dX12_value_8 : decode cX12_value 8 = .ok (.ifCond .eq 49, 3) := by decide +kernel
theorem dX12_value_11 : decode cX12_value 11 = .ok (.aload_n 0, 1) := by decide +kernel
theorem dX12_value_12 : decode cX12_value 12 = .ok (.invokevirtual 191, 3) := by decide +kernel
theorem dX12_value_15 : decode cX12_value 15 = .ok (.ifCond .eq 42, 3) := by decide +kernel
theorem dX12_value_18 : decode cX12_value 18 = .ok (.aload_n 0, 1) := by decide +kernel
theorem dX12_value_19 : decode cX12_value 19 = .ok (.getfield 247, 3) := by decide +kernel
theorem dX12_value_22 : decode cX12_value 22 = .ok (.ifCond .ne 7, 3) := by decide +kernel
theorem dX12_value_25 : decode cX12_value 25 = .ok (.aload_n 0, 1) := by decide +kernel
theorem dX12_value_26 : decode cX12_value 26 = .ok (.invokevirtual 250, 3) := by decide +kernel
theorem dX12_value_29 : decode cX12_value 29 = .ok (.aload_n 0, 1) := by decide +kernel
theorem dX12_value_30 : decode cX12_value 30 = .ok (.iconst 0, 1) := by decide +kernel
theorem dX12_value_31 : decode cX12_value 31 = .ok (.putfield 247, 3) := by decide +kernel
theorem dX12_value_34 : decode cX12_value 34 = .ok (.aload_n 0, 1) := by decide +kernel
theorem dX12_value_35 : decode cX12_value 35 = .ok (.invokevirtual 191, 3) := by decide +kernel
theorem dX12_value_38 : decode cX12_value 38 = .ok (.ifCond .eq 14, 3) := by decide +kernel
theorem dX12_value_41 : decode cX12_value 41 = .ok (.aload_n 0, 1) := by decide +kernel
theorem dX12_value_42 : decode cX12_value 42 = .ok (.invokevirtual 253, 3) := by decide +kernel
theorem dX12_value_45 : decode cX12_value 45 = .ok (.ifCond .eq 7, 3) := by decide +kernel
theorem dX12_value_48 : decode cX12_value 48 = .ok (.iconst 1, 1) := by decide +kernel
theorem dX12_value_49 : decode cX12_value 49 = .ok (.goto 4, 3) := by decide +kernel
theorem dX12_value_52 : decode cX12_value 52 = .ok (.iconst 0, 1) := by decide +kernel
theorem dX12_value_53 : decode cX12_value 53 = .ok (.istore_n 1, 1) := by decide +kernel
theorem dX12_value_54 : decode cX12_value 54 = .ok (.goto (-47), 3) := by decide +kernel
theorem dX12_value_57 : decode cX12_value 57 = .ok (.aload_n 0, 1) := by decide +kernel
theorem dX12_value_58 : decode cX12_value 58 = .ok (.invokevirtual 191, 3) := by decide +kernel
theorem dX12_value_61 : decode cX12_value 61 = .ok (.ifCond .eq 21, 3) := by decide +kernel
theorem dX12_value_64 : decode cX12_value 64 = .ok (.aload_n 0, 1) := by decide +kernel
theorem dX12_value_65 : decode cX12_value 65 = .ok (.invokevirtual 222, 3) := by decide +kernel
theorem dX12_value_68 : decode cX12_value 68 = .ok (.bipush 91, 2) := by decide +kernel
theorem dX12_value_70 : decode cX12_value 70 = .ok (.if_icmp .ne 12, 3) := by decide +kernel
theorem dX12_value_73 : decode cX12_value 73 = .ok (.aload_n 0, 1) := by decide +kernel
theorem dX12_value_74 : decode cX12_value 74 = .ok (.iconst 1, 1) := by decide +kernel
theorem dX12_value_75 : decode cX12_value 75 = .ok (.aload_n 0, 1) := by decide +kernel
theorem dX12_value_76 : decode cX12_value 76 = .ok (.getfield 182, 3) := by decide +kernel
theorem dX12_value_79 : decode cX12_value 79 = .ok (.invokevirtual 204, 3) := by decide +kernel
theorem dX12_value_82 : decode cX12_value 82 = .ok (.return_, 1) := by decide +kernel
/-! f_X11_book -/
noncomputable def f_X11_book (a1 : Int32) (a2 : Int32) (s0 : SS) : Option Int32 := if (a1 : Int32) < 0 then some ((-1)) else if (s0 52 4 : Int32) ≤ (a1 : Int32) then some ((-1)) else if (100 : Int32) ≤ (a1 : Int32) then some ((-1)) else bdp (f_X11_within a2 3 s0) (fun (v4 : Int32) => if (v4 : Int32) = 0 then some ((-1)) else gd (inb ((a1 * 4) + a2) 400) (some (s0 55 (Int32.toNatClampNeg ((a1 * 4) + a2)))))
set_option maxRecDepth 100000 in
set_option maxHeartbeats 4000000 in
theorem c_X11_book {l : Launch} (a1 : Int32) (a2 : Int32) (s0 : SS) : Ct l wF yX11_book cX11_book 3 (some .int) 1 [.ref 0, .int a1, .int a2] s0 (pu (f_X11_book a1 a2 s0) s0) := by
  refine ct_of (y := yX11_book) plX11 (Nat.le_of_ble_eq_true rfl) ?_
  refine r_pad0 0 (L1 := [.ref 0, .int a1, .int a2]) rfl ?_
  unfold f_X11_book
  refine r_iload_n (pc1 := 1) (i := 1) dX11_book_0 rfl rfl rfl ?_
  refine p_if_lt (tgt := 29) (pc1 := 4) dX11_book_1 (by decide) rfl (fun q1 => ?_) (fun q1 => ?_)
  · refine r_iconst (v := (-1)) (pc1 := 30) dX11_book_29 ki_m1 rfl ?_
    exact p_iret rfl rfl dX11_book_30
  · refine r_iload_n (pc1 := 5) (i := 1) dX11_book_4 rfl rfl rfl ?_
    refine r_aload_n (pc1 := 6) (i := 0) dX11_book_5 rfl rfl rfl ?_
    refine r_getR (pc1 := 9) w_0 gfX11_88 rfl dX11_book_6 rfl ?_
    refine r_getI (pc1 := 12) w_52 gfX11_223 rfl dX11_book_9 rfl ?_
    refine p_icmp_ge (tgt := 29) (pc1 := 15) dX11_book_12 (by decide) rfl (fun q2 => ?_) (fun q2 => ?_)
    · refine r_iconst (v := (-1)) (pc1 := 30) dX11_book_29 ki_m1 rfl ?_
      exact p_iret rfl rfl dX11_book_30
    · refine r_iload_n (pc1 := 16) (i := 1) dX11_book_15 rfl rfl rfl ?_
      refine r_bipush (v := 100) (pc1 := 18) dX11_book_16 kb_100 rfl ?_
      refine p_icmp_ge (tgt := 29) (pc1 := 21) dX11_book_18 (by decide) rfl (fun q3 => ?_) (fun q3 => ?_)
      · refine r_iconst (v := (-1)) (pc1 := 30) dX11_book_29 ki_m1 rfl ?_
        exact p_iret rfl rfl dX11_book_30
      · refine r_iload_n (pc1 := 22) (i := 2) dX11_book_21 rfl rfl rfl ?_
        refine r_iconst (v := 3) (pc1 := 23) dX11_book_22 ki_3 rfl ?_
        refine p_callSp (pc1 := 26) lkX11_102 (c_X11_within _ _ _) rfl rfl ⟨Nat.le_of_ble_eq_true rfl, Nat.le_of_ble_eq_true rfl⟩ (Nat.le_of_ble_eq_true rfl) dX11_book_23 rfl (fun v4 => ?_)
        refine p_if_ne (tgt := 31) (pc1 := 29) dX11_book_26 (by decide) rfl (fun q5 => ?_) (fun q5 => ?_)
        · refine r_iconst (v := (-1)) (pc1 := 30) dX11_book_29 ki_m1 rfl ?_
          exact p_iret rfl rfl dX11_book_30
        · refine r_aload_n (pc1 := 32) (i := 0) dX11_book_31 rfl rfl rfl ?_
          refine r_getR (pc1 := 35) w_0 gfX11_99 rfl dX11_book_32 rfl ?_
          refine r_iload_n (pc1 := 36) (i := 1) dX11_book_35 rfl rfl rfl ?_
          refine r_iconst (v := 4) (pc1 := 37) dX11_book_36 ki_4 rfl ?_
          refine r_imul (pc1 := 38) dX11_book_37 rfl ?_
          refine r_iload_n (pc1 := 39) (i := 2) dX11_book_38 rfl rfl rfl ?_
          refine r_iadd (pc1 := 40) dX11_book_39 rfl ?_
          refine p_iald (pc1 := 41) w_55 dX11_book_40 rfl ?_
          exact p_iret rfl rfl dX11_book_41
/-! f_X8_copyFrom_53_52 -/
noncomputable def f_X8_copyFrom_53_52  (s0 : SS) : Res := lts (up s0 53 0 (s0 52 0)) (fun (s1 : SS) => lts (up s1 53 1 (s1 52 1)) (fun (s2 : SS) => lts (up s2 53 2 (s2 52 2)) (fun (s3 : SS) => lts (up s3 53 3 (s3 52 3)) (fun (s4 : SS) => lts (up s4 53 4 (s4 52 4)) (fun (s5 : SS) => some (0, s5))))))
set_option maxRecDepth 100000 in
set_option maxHeartbeats 4000000 in
theorem c_X8_copyFrom_53_52 {l : Launch}  (s0 : SS) : Ct l wF yX8_copyFrom cX8_copyFrom 2 none 0 [.ref 53, .ref 52] s0 (f_X8_copyFrom_53_52 s0) := by
  refine ct_of (y := yX8_copyFrom) plX8 (Nat.le_of_ble_eq_true rfl) ?_
  refine r_pad0 0 (L1 := [.ref 53, .ref 52]) rfl ?_
  unfold f_X8_copyFrom_53_52
  refine r_aload_n (pc1 := 1) (i := 0) dX8_copyFrom_0 rfl rfl rfl ?_
  refine r_aload_n (pc1 := 2) (i := 1) dX8_copyFrom_1 rfl rfl rfl ?_
  refine r_getI (pc1 := 5) w_52 gfX8_13 rfl dX8_copyFrom_2 rfl ?_
  refine r_putI (pc1 := 8) w_53 pfX8_13 rfl ⟨rfl, rfl⟩ dX8_copyFrom_5 rfl ?_
  refine r_lts (fun s1 => ?_)
  refine r_aload_n (pc1 := 9) (i := 0) dX8_copyFrom_8 rfl rfl rfl ?_
  refine r_aload_n (pc1 := 10) (i := 1) dX8_copyFrom_9 rfl rfl rfl ?_
  refine r_getI (pc1 := 13) w_52 gfX8_22 rfl dX8_copyFrom_10 rfl ?_
  refine r_putI (pc1 := 16) w_53 pfX8_22 rfl ⟨rfl, rfl⟩ dX8_copyFrom_13 rfl ?_
  refine r_lts (fun s2 => ?_)
  refine r_aload_n (pc1 := 17) (i := 0) dX8_copyFrom_16 rfl rfl rfl ?_
  refine r_aload_n (pc1 := 18) (i := 1) dX8_copyFrom_17 rfl rfl rfl ?_
  refine r_getI (pc1 := 21) w_52 gfX8_25 rfl dX8_copyFrom_18 rfl ?_
  refine r_putI (pc1 := 24) w_53 pfX8_25 rfl ⟨rfl, rfl⟩ dX8_copyFrom_21 rfl ?_
  refine r_lts (fun s3 => ?_)
  refine r_aload_n (pc1 := 25) (i := 0) dX8_copyFrom_24 rfl rfl rfl ?_
  refine r_aload_n (pc1 := 26) (i := 1) dX8_copyFrom_25 rfl rfl rfl ?_
  refine r_getI (pc1 := 29) w_52 gfX8_19 rfl dX8_copyFrom_26 rfl ?_
  refine r_putI (pc1 := 32) w_53 pfX8_19 rfl ⟨rfl, rfl⟩ dX8_copyFrom_29 rfl ?_
  refine r_lts (fun s4 => ?_)
  refine r_aload_n (pc1 := 33) (i := 0) dX8_copyFrom_32 rfl rfl rfl ?_
  refine r_aload_n (pc1 := 34) (i := 1) dX8_copyFrom_33 rfl rfl rfl ?_
  refine r_getI (pc1 := 37) w_52 gfX8_28 rfl dX8_copyFrom_34 rfl ?_
  refine r_putI (pc1 := 40) w_53 pfX8_28 rfl ⟨rfl, rfl⟩ dX8_copyFrom_37 rfl ?_
  refine r_lts (fun s5 => ?_)
  exact r_vret rfl dX8_copyFrom_40
/-! f_X11_keep -/
noncomputable def f_X11_keep  (s0 : SS) : Res := bd (f_X8_copyFrom_53_52 s0) (fun (v1 : Int32) (s2 : SS) => lts (up s2 0 14 1) (fun (s3 : SS) => bdp (f_X6_sizeOf (s3 52 0) s3) (fun (v4 : Int32) => some (v4, s3))))
set_option maxRecDepth 100000 in
set_option maxHeartbeats 4000000 in
theorem c_X11_keep {l : Launch}  (s0 : SS) : Ct l wF yX11_keep cX11_keep 1 (some .int) 1 [.ref 0] s0 (f_X11_keep s0) := by
  refine ct_of (y := yX11_keep) plX11 (Nat.le_of_ble_eq_true rfl) ?_
  refine r_pad0 0 (L1 := [.ref 0]) rfl ?_
  unfold f_X11_keep
  refine r_aload_n (pc1 := 1) (i := 0) dX11_keep_0 rfl rfl rfl ?_
  refine r_getR (pc1 := 4) w_0 gfX11_92 rfl dX11_keep_1 rfl ?_
  refine r_aload_n (pc1 := 5) (i := 0) dX11_keep_4 rfl rfl rfl ?_
  refine r_getR (pc1 := 8) w_0 gfX11_88 rfl dX11_keep_5 rfl ?_
  refine r_callVv (pc1 := 11) (rv_of w_53 cl_8) lkX11_232 (c_X8_copyFrom_53_52 _) rfl rfl ⟨Nat.le_of_ble_eq_true rfl, Nat.le_of_ble_eq_true rfl⟩ (Nat.le_of_ble_eq_true rfl) dX11_keep_8 rfl (fun v1 s2 => ?_)
  refine r_aload_n (pc1 := 12) (i := 0) dX11_keep_11 rfl rfl rfl ?_
  refine r_iconst (v := 1) (pc1 := 13) dX11_keep_12 ki_1 rfl ?_
  refine r_putI (pc1 := 16) w_0 pfX11_125 rfl ⟨rfl, rfl⟩ dX11_keep_13 rfl ?_
  refine r_lts (fun s3 => ?_)
  refine r_aload_n (pc1 := 17) (i := 0) dX11_keep_16 rfl rfl rfl ?_
  refine r_getR (pc1 := 20) w_0 gfX11_19 rfl dX11_keep_17 rfl ?_
  refine r_aload_n (pc1 := 21) (i := 0) dX11_keep_20 rfl rfl rfl ?_
  refine r_getR (pc1 := 24) w_0 gfX11_88 rfl dX11_keep_21 rfl ?_
  refine r_getI (pc1 := 27) w_52 gfX11_122 rfl dX11_keep_24 rfl ?_
  refine r_callVp (pc1 := 30) (rv_of w_3 cl_6) lkX11_235 (c_X6_sizeOf w_3 w_4 w_8 _ _) rfl rfl ⟨Nat.le_of_ble_eq_true rfl, Nat.le_of_ble_eq_true rfl⟩ (Nat.le_of_ble_eq_true rfl) dX11_keep_27 rfl (fun v4 => ?_)
  exact r_iret rfl rfl dX11_keep_30
/-! f_X8_copyFrom_52_53 -/
noncomputable def f_X8_copyFrom_52_53  (s0 : SS) : Res := lts (up s0 52 0 (s0 53 0)) (fun (s1 : SS) => lts (up s1 52 1 (s1 53 1)) (fun (s2 : SS) => lts (up s2 52 2 (s2 53 2)) (fun (s3 : SS) => lts (up s3 52 3 (s3 53 3)) (fun (s4 : SS) => lts (up s4 52 4 (s4 53 4)) (fun (s5 : SS) => some (0, s5))))))
set_option maxRecDepth 100000 in
set_option maxHeartbeats 4000000 in
theorem c_X8_copyFrom_52_53 {l : Launch}  (s0 : SS) : Ct l wF yX8_copyFrom cX8_copyFrom 2 none 0 [.ref 52, .ref 53] s0 (f_X8_copyFrom_52_53 s0) := by
  refine ct_of (y := yX8_copyFrom) plX8 (Nat.le_of_ble_eq_true rfl) ?_
  refine r_pad0 0 (L1 := [.ref 52, .ref 53]) rfl ?_
  unfold f_X8_copyFrom_52_53
  refine r_aload_n (pc1 := 1) (i := 0) dX8_copyFrom_0 rfl rfl rfl ?_
  refine r_aload_n (pc1 := 2) (i := 1) dX8_copyFrom_1 rfl rfl rfl ?_
  refine r_getI (pc1 := 5) w_53 gfX8_13 rfl dX8_copyFrom_2 rfl ?_
  refine r_putI (pc1 := 8) w_52 pfX8_13 rfl ⟨rfl, rfl⟩ dX8_copyFrom_5 rfl ?_
  refine r_lts (fun s1 => ?_)
  refine r_aload_n (pc1 := 9) (i := 0) dX8_copyFrom_8 rfl rfl rfl ?_
  refine r_aload_n (pc1 := 10) (i := 1) dX8_copyFrom_9 rfl rfl rfl ?_
  refine r_getI (pc1 := 13) w_53 gfX8_22 rfl dX8_copyFrom_10 rfl ?_
  refine r_putI (pc1 := 16) w_52 pfX8_22 rfl ⟨rfl, rfl⟩ dX8_copyFrom_13 rfl ?_
  refine r_lts (fun s2 => ?_)
  refine r_aload_n (pc1 := 17) (i := 0) dX8_copyFrom_16 rfl rfl rfl ?_
  refine r_aload_n (pc1 := 18) (i := 1) dX8_copyFrom_17 rfl rfl rfl ?_
  refine r_getI (pc1 := 21) w_53 gfX8_25 rfl dX8_copyFrom_18 rfl ?_
  refine r_putI (pc1 := 24) w_52 pfX8_25 rfl ⟨rfl, rfl⟩ dX8_copyFrom_21 rfl ?_
  refine r_lts (fun s3 => ?_)
  refine r_aload_n (pc1 := 25) (i := 0) dX8_copyFrom_24 rfl rfl rfl ?_
  refine r_aload_n (pc1 := 26) (i := 1) dX8_copyFrom_25 rfl rfl rfl ?_
  refine r_getI (pc1 := 29) w_53 gfX8_19 rfl dX8_copyFrom_26 rfl ?_
  refine r_putI (pc1 := 32) w_52 pfX8_19 rfl ⟨rfl, rfl⟩ dX8_copyFrom_29 rfl ?_
  refine r_lts (fun s4 => ?_)
  refine r_aload_n (pc1 := 33) (i := 0) dX8_copyFrom_32 rfl rfl rfl ?_
  refine r_aload_n (pc1 := 34) (i := 1) dX8_copyFrom_33 rfl rfl rfl ?_
  refine r_getI (pc1 := 37) w_53 gfX8_28 rfl dX8_copyFrom_34 rfl ?_
  refine r_putI (pc1 := 40) w_52 pfX8_28 rfl ⟨rfl, rfl⟩ dX8_copyFrom_37 rfl ?_
  refine r_lts (fun s5 => ?_)
  exact r_vret rfl dX8_copyFrom_40
/-! f_X11_undo -/
noncomputable def f_X11_undo  (s0 : SS) : Res := if (s0 0 14 : Int32) = 0 then some (0, s0) else bd (f_X8_copyFrom_52_53 s0) (fun (v2 : Int32) (s3 : SS) => some (1, s3))
set_option maxRecDepth 100000 in
set_option maxHeartbeats 4000000 in
theorem c_X11_undo {l : Launch}  (s0 : SS) : Ct l wF yX11_undo cX11_undo 1 (some .boolean) 1 [.ref 0] s0 (f_X11_undo s0) := by
  refine ct_of (y := yX11_undo) plX11 (Nat.le_of_ble_eq_true rfl) ?_
  refine r_pad0 0 (L1 := [.ref 0]) rfl ?_
  unfold f_X11_undo
  refine r_aload_n (pc1 := 1) (i := 0) dX11_undo_0 rfl rfl rfl ?_
  refine r_getI (pc1 := 4) w_0 gfX11_125 rfl dX11_undo_1 rfl ?_
  refine r_if_ne (tgt := 9) (pc1 := 7) dX11_undo_4 (by decide) rfl (fun q1 => ?_) (fun q1 => ?_)
  · refine r_iconst (v := 0) (pc1 := 8) dX11_undo_7 ki_0 rfl ?_
    exact r_iret rfl rfl dX11_undo_8
  · refine r_aload_n (pc1 := 10) (i := 0) dX11_undo_9 rfl rfl rfl ?_
    refine r_getR (pc1 := 13) w_0 gfX11_88 rfl dX11_undo_10 rfl ?_
    refine r_aload_n (pc1 := 14) (i := 0) dX11_undo_13 rfl rfl rfl ?_
    refine r_getR (pc1 := 17) w_0 gfX11_92 rfl dX11_undo_14 rfl ?_
    refine r_callVv (pc1 := 20) (rv_of w_52 cl_8) lkX11_232 (c_X8_copyFrom_52_53 _) rfl rfl ⟨Nat.le_of_ble_eq_true rfl, Nat.le_of_ble_eq_true rfl⟩ (Nat.le_of_ble_eq_true rfl) dX11_undo_17 rfl (fun v2 s3 => ?_)
    refine r_iconst (v := 1) (pc1 := 21) dX11_undo_20 ki_1 rfl ?_
    exact r_iret rfl rfl dX11_undo_21
/-! f_X9_numberOn -/
noncomputable def lp_X9_numberOn_4 (a1 : Int32) (s0 : SS) : Nat → Int32 → Int32 → Option Int32
  | 0, _, _ => none
  | n3 + 1, v1, v2 => if (4 : Int32) ≤ (v2 : Int32) then some v1 else bdp (f_X9_byteOn ((4 * a1) + v2) s0) (fun (v5 : Int32) => lt ((v1 <<< (8 &&& 31)) ||| (v5 &&& 255)) (fun (v6 : Int32) => lp_X9_numberOn_4 a1 s0 n3 v6 (v2 + 1)))
noncomputable def f_X9_numberOn (a1 : Int32) (s0 : SS) : Option Int32 := lp_X9_numberOn_4 a1 s0 FU 0 0
set_option maxRecDepth 100000 in
set_option maxHeartbeats 4000000 in
theorem t_lp_X9_numberOn_4 {l : Launch} (a1 : Int32) (s0 : SS)  : ∀ (n3 : Nat) (v1 : Int32) (v2 : Int32), RC l wF RX9 cX9_numberOn 4 (some .int) 1 4 [.ref 1, .int a1, .int v1, .int v2] [] s0 (pu (lp_X9_numberOn_4 a1 s0 n3 v1 v2) s0) := by
  intro n3
  induction n3 with
  | zero =>
    intro v1 v2
    rw [lp_X9_numberOn_4]
    exact p_none
  | succ n3 ih =>
    intro v1 v2
    rw [lp_X9_numberOn_4]
    refine r_iload_n (pc1 := 5) (i := 3) dX9_numberOn_4 rfl rfl rfl ?_
    refine r_iconst (v := 4) (pc1 := 6) dX9_numberOn_5 ki_4 rfl ?_
    refine p_icmp_ge (tgt := 34) (pc1 := 9) dX9_numberOn_6 (by decide) rfl (fun q4 => ?_) (fun q4 => ?_)
    · refine r_iload_n (pc1 := 35) (i := 2) dX9_numberOn_34 rfl rfl rfl ?_
      exact p_iret rfl rfl dX9_numberOn_35
    · refine r_iload_n (pc1 := 10) (i := 2) dX9_numberOn_9 rfl rfl rfl ?_
      refine r_bipush (v := 8) (pc1 := 12) dX9_numberOn_10 kb_8 rfl ?_
      refine r_ishl (pc1 := 13) dX9_numberOn_12 rfl ?_
      refine r_aload_n (pc1 := 14) (i := 0) dX9_numberOn_13 rfl rfl rfl ?_
      refine r_iconst (v := 4) (pc1 := 15) dX9_numberOn_14 ki_4 rfl ?_
      refine r_iload_n (pc1 := 16) (i := 1) dX9_numberOn_15 rfl rfl rfl ?_
      refine r_imul (pc1 := 17) dX9_numberOn_16 rfl ?_
      refine r_iload_n (pc1 := 18) (i := 3) dX9_numberOn_17 rfl rfl rfl ?_
      refine r_iadd (pc1 := 19) dX9_numberOn_18 rfl ?_
      refine p_callVp (pc1 := 22) (rv_of w_1 cl_9) lkX9_19 (c_X9_byteOn _ _) rfl rfl ⟨Nat.le_of_ble_eq_true rfl, Nat.le_of_ble_eq_true rfl⟩ (Nat.le_of_ble_eq_true rfl) dX9_numberOn_19 rfl (fun v5 => ?_)
      refine r_sipush (v := 255) (pc1 := 25) dX9_numberOn_22 ks_255 rfl ?_
      refine r_iand (pc1 := 26) dX9_numberOn_25 rfl ?_
      refine r_ior (pc1 := 27) dX9_numberOn_26 rfl ?_
      refine p_lt (fun v6 => ?_)
      refine r_istore_n (pc1 := 28) (i := 2) dX9_numberOn_27 rfl (by decide) rfl rfl rfl ?_
      refine r_iinc (pc1 := 31) dX9_numberOn_28 rfl (kn_1 _) (by decide) rfl rfl rfl ?_
      refine r_goto (tgt := 4) dX9_numberOn_31 (by decide) ?_
      exact r_wk (ih v6 (v2 + 1)) ⟨Or.inr rfl, Or.inr rfl, Or.inr rfl, Or.inr rfl, trivial⟩
set_option maxRecDepth 100000 in
set_option maxHeartbeats 4000000 in
theorem c_X9_numberOn {l : Launch} (a1 : Int32) (s0 : SS) : Ct l wF yX9_numberOn cX9_numberOn 4 (some .int) 1 [.ref 1, .int a1] s0 (pu (f_X9_numberOn a1 s0) s0) := by
  refine ct_of (y := yX9_numberOn) plX9 (Nat.le_of_ble_eq_true rfl) ?_
  refine r_pad0 2 (L1 := [.ref 1, .int a1, .null, .null]) rfl ?_
  unfold f_X9_numberOn
  refine r_iconst (v := 0) (pc1 := 1) dX9_numberOn_0 ki_0 rfl ?_
  refine r_istore_n (pc1 := 2) (i := 2) dX9_numberOn_1 rfl (by decide) rfl rfl rfl ?_
  refine r_iconst (v := 0) (pc1 := 3) dX9_numberOn_2 ki_0 rfl ?_
  refine r_istore_n (pc1 := 4) (i := 3) dX9_numberOn_3 rfl (by decide) rfl rfl rfl ?_
  exact r_wk (t_lp_X9_numberOn_4 a1 s0 FU 0 0) ⟨Or.inr rfl, Or.inr rfl, Or.inr rfl, Or.inr rfl, trivial⟩
/-! f_X11_firstUnlike -/
noncomputable def lp_X11_firstUnlike_2 (a1 : Int32) (s0 : SS) (k1 : Option Int32) : Nat → Int32 → Option Int32
  | 0, _ => none
  | n4 + 1, v3 => if (3 * a1 : Int32) ≤ (v3 : Int32) then k1 else gd (¬ (3 : Int32) = 0) (lt (v3 / 3) (fun (v6 : Int32) => if (s0 52 4 : Int32) ≤ (v6 : Int32) then some v3 else if (100 : Int32) ≤ (v6 : Int32) then some v3 else gd (¬ (3 : Int32) = 0) (gd (inb ((v6 * 4) + (v3 - v3 / 3 * 3)) 400) (bdp (f_X9_numberOn v3 s0) (fun (v9 : Int32) => if (s0 55 (Int32.toNatClampNeg ((v6 * 4) + (v3 - v3 / 3 * 3))) : Int32) = (v9 : Int32) then lp_X11_firstUnlike_2 a1 s0 k1 n4 (v3 + 1) else some v3)))))
noncomputable def f_X11_firstUnlike (a1 : Int32) (s0 : SS) : Option Int32 := jn (if (s0 52 4 : Int32) ≤ (a1 : Int32) then some ((-1)) else some (3 * a1)) (fun (k1 : Option Int32) => lp_X11_firstUnlike_2 a1 s0 k1 FU 0)
set_option maxRecDepth 100000 in
set_option maxHeartbeats 4000000 in
theorem t_lp_X11_firstUnlike_2 {l : Launch} (a1 : Int32) (s0 : SS) (k1 : Option Int32) (hk1 : RC l wF RX11 cX11_firstUnlike 4 (some .int) 2 61 [.ref 0, .int a1, .null, .null] [] s0 (pu k1 s0)) : ∀ (n4 : Nat) (v3 : Int32), RC l wF RX11 cX11_firstUnlike 4 (some .int) 2 2 [.ref 0, .int a1, .int v3, .null] [] s0 (pu (lp_X11_firstUnlike_2 a1 s0 k1 n4 v3) s0) := by
  intro n4
  induction n4 with
  | zero =>
    intro v3
    rw [lp_X11_firstUnlike_2]
    exact p_none
  | succ n4 ih =>
    intro v3
    rw [lp_X11_firstUnlike_2]
    refine r_iload_n (pc1 := 3) (i := 2) dX11_firstUnlike_2 rfl rfl rfl ?_
    refine r_iconst (v := 3) (pc1 := 4) dX11_firstUnlike_3 ki_3 rfl ?_
    refine r_iload_n (pc1 := 5) (i := 1) dX11_firstUnlike_4 rfl rfl rfl ?_
    refine r_imul (pc1 := 6) dX11_firstUnlike_5 rfl ?_
    refine p_icmp_ge (tgt := 61) (pc1 := 9) dX11_firstUnlike_6 (by decide) rfl (fun q5 => ?_) (fun q5 => ?_)
    · exact r_wk (hk1) ⟨Or.inr rfl, Or.inr rfl, Or.inl rfl, Or.inl rfl, trivial⟩
    · refine r_iload_n (pc1 := 10) (i := 2) dX11_firstUnlike_9 rfl rfl rfl ?_
      refine r_iconst (v := 3) (pc1 := 11) dX11_firstUnlike_10 ki_3 rfl ?_
      refine p_idiv (pc1 := 12) dX11_firstUnlike_11 rfl ?_
      refine p_lt (fun v6 => ?_)
      refine r_istore_n (pc1 := 13) (i := 3) dX11_firstUnlike_12 rfl (by decide) rfl rfl rfl ?_
      refine r_iload_n (pc1 := 14) (i := 3) dX11_firstUnlike_13 rfl rfl rfl ?_
      refine r_aload_n (pc1 := 15) (i := 0) dX11_firstUnlike_14 rfl rfl rfl ?_
      refine r_getR (pc1 := 18) w_0 gfX11_88 rfl dX11_firstUnlike_15 rfl ?_
      refine r_getI (pc1 := 21) w_52 gfX11_223 rfl dX11_firstUnlike_18 rfl ?_
      refine p_icmp_ge (tgt := 53) (pc1 := 24) dX11_firstUnlike_21 (by decide) rfl (fun q7 => ?_) (fun q7 => ?_)
      · refine r_iload_n (pc1 := 54) (i := 2) dX11_firstUnlike_53 rfl rfl rfl ?_
        exact p_iret rfl rfl dX11_firstUnlike_54
      · refine r_iload_n (pc1 := 25) (i := 3) dX11_firstUnlike_24 rfl rfl rfl ?_
        refine r_bipush (v := 100) (pc1 := 27) dX11_firstUnlike_25 kb_100 rfl ?_
        refine p_icmp_ge (tgt := 53) (pc1 := 30) dX11_firstUnlike_27 (by decide) rfl (fun q8 => ?_) (fun q8 => ?_)
        · refine r_iload_n (pc1 := 54) (i := 2) dX11_firstUnlike_53 rfl rfl rfl ?_
          exact p_iret rfl rfl dX11_firstUnlike_54
        · refine r_aload_n (pc1 := 31) (i := 0) dX11_firstUnlike_30 rfl rfl rfl ?_
          refine r_getR (pc1 := 34) w_0 gfX11_99 rfl dX11_firstUnlike_31 rfl ?_
          refine r_iload_n (pc1 := 35) (i := 3) dX11_firstUnlike_34 rfl rfl rfl ?_
          refine r_iconst (v := 4) (pc1 := 36) dX11_firstUnlike_35 ki_4 rfl ?_
          refine r_imul (pc1 := 37) dX11_firstUnlike_36 rfl ?_
          refine r_iload_n (pc1 := 38) (i := 2) dX11_firstUnlike_37 rfl rfl rfl ?_
          refine r_iconst (v := 3) (pc1 := 39) dX11_firstUnlike_38 ki_3 rfl ?_
          refine p_irem (pc1 := 40) dX11_firstUnlike_39 rfl ?_
          refine r_iadd (pc1 := 41) dX11_firstUnlike_40 rfl ?_
          refine p_iald (pc1 := 42) w_55 dX11_firstUnlike_41 rfl ?_
          refine r_aload_n (pc1 := 43) (i := 0) dX11_firstUnlike_42 rfl rfl rfl ?_
          refine r_getR (pc1 := 46) w_0 gfX11_10 rfl dX11_firstUnlike_43 rfl ?_
          refine r_iload_n (pc1 := 47) (i := 2) dX11_firstUnlike_46 rfl rfl rfl ?_
          refine p_callVp (pc1 := 50) (rv_of w_1 cl_9) lkX11_229 (c_X9_numberOn _ _) rfl rfl ⟨Nat.le_of_ble_eq_true rfl, Nat.le_of_ble_eq_true rfl⟩ (Nat.le_of_ble_eq_true rfl) dX11_firstUnlike_47 rfl (fun v9 => ?_)
          refine p_icmp_eq (tgt := 55) (pc1 := 53) dX11_firstUnlike_50 (by decide) rfl (fun q10 => ?_) (fun q10 => ?_)
          · refine r_iinc (pc1 := 58) dX11_firstUnlike_55 rfl (kn_1 _) (by decide) rfl rfl rfl ?_
            refine r_goto (tgt := 2) dX11_firstUnlike_58 (by decide) ?_
            exact r_wk (ih (v3 + 1)) ⟨Or.inr rfl, Or.inr rfl, Or.inr rfl, Or.inl rfl, trivial⟩
          · refine r_iload_n (pc1 := 54) (i := 2) dX11_firstUnlike_53 rfl rfl rfl ?_
            exact p_iret rfl rfl dX11_firstUnlike_54
set_option maxRecDepth 100000 in
set_option maxHeartbeats 4000000 in
theorem c_X11_firstUnlike {l : Launch} (a1 : Int32) (s0 : SS) : Ct l wF yX11_firstUnlike cX11_firstUnlike 4 (some .int) 2 [.ref 0, .int a1] s0 (pu (f_X11_firstUnlike a1 s0) s0) := by
  refine ct_of (y := yX11_firstUnlike) plX11 (Nat.le_of_ble_eq_true rfl) ?_
  refine r_pad0 2 (L1 := [.ref 0, .int a1, .null, .null]) rfl ?_
  unfold f_X11_firstUnlike
  refine r_iconst (v := 0) (pc1 := 1) dX11_firstUnlike_0 ki_0 rfl ?_
  refine r_istore_n (pc1 := 2) (i := 2) dX11_firstUnlike_1 rfl (by decide) rfl rfl rfl ?_
  refine p_jn (hyp := fun (k1 : Option Int32) => RC l wF RX11 cX11_firstUnlike 4 (some .int) 2 61 [.ref 0, .int a1, .null, .null] [] s0 (pu k1 s0)) (?_) (fun k1 hk1 => ?_)
  · refine r_aload_n (pc1 := 62) (i := 0) dX11_firstUnlike_61 rfl rfl rfl ?_
    refine r_getR (pc1 := 65) w_0 gfX11_88 rfl dX11_firstUnlike_62 rfl ?_
    refine r_getI (pc1 := 68) w_52 gfX11_223 rfl dX11_firstUnlike_65 rfl ?_
    refine r_iload_n (pc1 := 69) (i := 1) dX11_firstUnlike_68 rfl rfl rfl ?_
    refine p_icmp_le (tgt := 78) (pc1 := 72) dX11_firstUnlike_69 (by decide) rfl (fun q2 => ?_) (fun q2 => ?_)
    · refine r_iconst (v := (-1)) (pc1 := 79) dX11_firstUnlike_78 ki_m1 rfl ?_
      exact p_iret rfl rfl dX11_firstUnlike_79
    · refine r_iconst (v := 3) (pc1 := 73) dX11_firstUnlike_72 ki_3 rfl ?_
      refine r_iload_n (pc1 := 74) (i := 1) dX11_firstUnlike_73 rfl rfl rfl ?_
      refine r_imul (pc1 := 75) dX11_firstUnlike_74 rfl ?_
      refine r_goto (tgt := 79) dX11_firstUnlike_75 (by decide) ?_
      exact p_iret rfl rfl dX11_firstUnlike_79
  · exact r_wk (t_lp_X11_firstUnlike_2 a1 s0 k1 hk1 FU 0) ⟨Or.inr rfl, Or.inr rfl, Or.inr rfl, Or.inl rfl, trivial⟩
/-! f_X11_check -/
noncomputable def f_X11_check (a1 : Int32) (s0 : SS) : Res := if (a1 : Int32) < 0 then some ((-2), s0) else bdp (f_X9_size s0) (fun (v2 : Int32) => gd (¬ (12 : Int32) = 0) (if (a1 : Int32) ≤ (v2 / 12 : Int32) then bdp (f_X11_firstUnlike a1 s0) (fun (v4 : Int32) => bd (f_X9_clear s0) (fun (v5 : Int32) (s6 : SS) => some (v4, s6))) else some ((-2), s0)))
set_option maxRecDepth 100000 in
set_option maxHeartbeats 4000000 in
theorem c_X11_check {l : Launch} (a1 : Int32) (s0 : SS) : Ct l wF yX11_check cX11_check 3 (some .int) 3 [.ref 0, .int a1] s0 (f_X11_check a1 s0) := by
  refine ct_of (y := yX11_check) plX11 (Nat.le_of_ble_eq_true rfl) ?_
  refine r_pad0 1 (L1 := [.ref 0, .int a1, .null]) rfl ?_
  unfold f_X11_check
  refine r_iload_n (pc1 := 1) (i := 1) dX11_check_0 rfl rfl rfl ?_
  refine r_if_lt (tgt := 18) (pc1 := 4) dX11_check_1 (by decide) rfl (fun q1 => ?_) (fun q1 => ?_)
  · refine r_bipush (v := (-2)) (pc1 := 20) dX11_check_18 kb_m2 rfl ?_
    exact r_iret rfl rfl dX11_check_20
  · refine r_iload_n (pc1 := 5) (i := 1) dX11_check_4 rfl rfl rfl ?_
    refine r_aload_n (pc1 := 6) (i := 0) dX11_check_5 rfl rfl rfl ?_
    refine r_getR (pc1 := 9) w_0 gfX11_10 rfl dX11_check_6 rfl ?_
    refine r_callVp (pc1 := 12) (rv_of w_1 cl_9) lkX11_129 (c_X9_size _) rfl rfl ⟨Nat.le_of_ble_eq_true rfl, Nat.le_of_ble_eq_true rfl⟩ (Nat.le_of_ble_eq_true rfl) dX11_check_9 rfl (fun v2 => ?_)
    refine r_bipush (v := 12) (pc1 := 14) dX11_check_12 kb_12 rfl ?_
    refine r_idiv (pc1 := 15) dX11_check_14 rfl ?_
    refine r_icmp_le (tgt := 21) (pc1 := 18) dX11_check_15 (by decide) rfl (fun q3 => ?_) (fun q3 => ?_)
    · refine r_aload_n (pc1 := 22) (i := 0) dX11_check_21 rfl rfl rfl ?_
      refine r_iload_n (pc1 := 23) (i := 1) dX11_check_22 rfl rfl rfl ?_
      refine r_callVp (pc1 := 26) (rv_of w_0 cl_11) lkX11_226 (c_X11_firstUnlike _ _) rfl rfl ⟨Nat.le_of_ble_eq_true rfl, Nat.le_of_ble_eq_true rfl⟩ (Nat.le_of_ble_eq_true rfl) dX11_check_23 rfl (fun v4 => ?_)
      refine r_istore_n (pc1 := 27) (i := 2) dX11_check_26 rfl (by decide) rfl rfl rfl ?_
      refine r_aload_n (pc1 := 28) (i := 0) dX11_check_27 rfl rfl rfl ?_
      refine r_getR (pc1 := 31) w_0 gfX11_10 rfl dX11_check_28 rfl ?_
      refine r_callVv (pc1 := 34) (rv_of w_1 cl_9) lkX11_136 (c_X9_clear _) rfl rfl ⟨Nat.le_of_ble_eq_true rfl, Nat.le_of_ble_eq_true rfl⟩ (Nat.le_of_ble_eq_true rfl) dX11_check_31 rfl (fun v5 s6 => ?_)
      refine r_iload_n (pc1 := 35) (i := 2) dX11_check_34 rfl rfl rfl ?_
      exact r_iret rfl rfl dX11_check_35
    · refine r_bipush (v := (-2)) (pc1 := 20) dX11_check_18 kb_m2 rfl ?_
      exact r_iret rfl rfl dX11_check_20
/-! f_X1_clauseCount_9 -/
noncomputable def f_X1_clauseCount_9  (s0 : SS) : Option Int32 := some (s0 9 8)
set_option maxRecDepth 100000 in
set_option maxHeartbeats 4000000 in
theorem c_X1_clauseCount_9 {l : Launch}  (s0 : SS) : Ct l wF yX1_clauseCount cX1_clauseCount 1 (some .int) 0 [.ref 9] s0 (pu (f_X1_clauseCount_9 s0) s0) := by
  refine ct_of (y := yX1_clauseCount) plX1 (Nat.le_of_ble_eq_true rfl) ?_
  refine r_pad0 0 (L1 := [.ref 9]) rfl ?_
  unfold f_X1_clauseCount_9
  refine r_aload_n (pc1 := 1) (i := 0) dX1_clauseCount_0 rfl rfl rfl ?_
  refine r_getI (pc1 := 4) w_9 gfX1_33 rfl dX1_clauseCount_1 rfl ?_
  exact p_iret rfl rfl dX1_clauseCount_4
/-! f_X11_count -/
noncomputable def f_X11_count (a1 : Int32) (s0 : SS) : Option Int32 := if (Int32.toInt a1 < 0 ∨ 8 < Int32.toInt a1) then if (a1 : Int32) < (10 : Int32) then some ((-1)) else if (14 : Int32) ≤ (a1 : Int32) then some ((-1)) else bdp (f_X2_onTurn (a1 - 10) s0) (fun (v13 : Int32) => some v13) else if (a1 : Int32) = 0 then bdp (f_X10_lawCount s0) (fun (v18 : Int32) => some v18) else if (a1 : Int32) = 1 then bdp (f_X6_sizeOf (s0 52 0) s0) (fun (v17 : Int32) => some v17) else if (a1 : Int32) = 2 then bdp (f_X6_lengthOf (s0 52 0) s0) (fun (v16 : Int32) => some v16) else if (a1 : Int32) = 3 then bdp (f_X1_clauseCount_9 s0) (fun (v15 : Int32) => some v15) else if (a1 : Int32) = 4 then bdp (f_X9_size s0) (fun (v14 : Int32) => some v14) else if (a1 : Int32) = 5 then some (s0 52 3) else if (a1 : Int32) = 6 then some (s0 52 2) else if (a1 : Int32) = 7 then some (s0 52 1) else if (a1 : Int32) = 8 then some (s0 52 4) else none
set_option maxRecDepth 100000 in
set_option maxHeartbeats 4000000 in
theorem c_X11_count {l : Launch} (a1 : Int32) (s0 : SS) : Ct l wF yX11_count cX11_count 2 (some .int) 1 [.ref 0, .int a1] s0 (pu (f_X11_count a1 s0) s0) := by
  refine ct_of (y := yX11_count) plX11 (Nat.le_of_ble_eq_true rfl) ?_
  refine r_pad0 0 (L1 := [.ref 0, .int a1]) rfl ?_
  unfold f_X11_count
  refine r_iload_n (pc1 := 1) (i := 1) dX11_count_0 rfl rfl rfl ?_
  refine p_ite (fun q10 => ?_) (fun q10 => ?_)
  · refine r_tabOut (tgt := 138) dX11_count_1 q10 (by decide) ?_
    refine r_iload_n (pc1 := 139) (i := 1) dX11_count_138 rfl rfl rfl ?_
    refine r_bipush (v := 10) (pc1 := 141) dX11_count_139 kb_10 rfl ?_
    refine p_icmp_lt (tgt := 164) (pc1 := 144) dX11_count_141 (by decide) rfl (fun q11 => ?_) (fun q11 => ?_)
    · refine r_iconst (v := (-1)) (pc1 := 165) dX11_count_164 ki_m1 rfl ?_
      exact p_iret rfl rfl dX11_count_165
    · refine r_iload_n (pc1 := 145) (i := 1) dX11_count_144 rfl rfl rfl ?_
      refine r_bipush (v := 14) (pc1 := 147) dX11_count_145 kb_14 rfl ?_
      refine p_icmp_ge (tgt := 164) (pc1 := 150) dX11_count_147 (by decide) rfl (fun q12 => ?_) (fun q12 => ?_)
      · refine r_iconst (v := (-1)) (pc1 := 165) dX11_count_164 ki_m1 rfl ?_
        exact p_iret rfl rfl dX11_count_165
      · refine r_aload_n (pc1 := 151) (i := 0) dX11_count_150 rfl rfl rfl ?_
        refine r_getR (pc1 := 154) w_0 gfX11_51 rfl dX11_count_151 rfl ?_
        refine r_iload_n (pc1 := 155) (i := 1) dX11_count_154 rfl rfl rfl ?_
        refine r_bipush (v := 10) (pc1 := 157) dX11_count_155 kb_10 rfl ?_
        refine r_isub (pc1 := 158) dX11_count_157 rfl ?_
        refine p_callVp (pc1 := 161) (rv_of w_35 cl_2) lkX11_198 (c_X2_onTurn _ _) rfl rfl ⟨Nat.le_of_ble_eq_true rfl, Nat.le_of_ble_eq_true rfl⟩ (Nat.le_of_ble_eq_true rfl) dX11_count_158 rfl (fun v13 => ?_)
        refine r_goto (tgt := 165) dX11_count_161 (by decide) ?_
        exact p_iret rfl rfl dX11_count_165
  · refine p_ite (fun q1 => ?_) (fun q1 => ?_)
    · refine r_tabIn (tgt := 52) (off := 51) dX11_count_1 (fun z => q10 (Or.inl z)) (fun z => q10 (Or.inr z)) (by rw [q1]; rfl) (by decide) ?_
      refine r_aload_n (pc1 := 53) (i := 0) dX11_count_52 rfl rfl rfl ?_
      refine r_getR (pc1 := 56) w_0 gfX11_42 rfl dX11_count_53 rfl ?_
      refine p_callVp (pc1 := 59) (rv_of w_27 cl_10) lkX11_106 (c_X10_lawCount _) rfl rfl ⟨Nat.le_of_ble_eq_true rfl, Nat.le_of_ble_eq_true rfl⟩ (Nat.le_of_ble_eq_true rfl) dX11_count_56 rfl (fun v18 => ?_)
      exact p_iret rfl rfl dX11_count_59
    · refine p_ite (fun q2 => ?_) (fun q2 => ?_)
      · refine r_tabIn (tgt := 60) (off := 59) dX11_count_1 (fun z => q10 (Or.inl z)) (fun z => q10 (Or.inr z)) (by rw [q2]; rfl) (by decide) ?_
        refine r_aload_n (pc1 := 61) (i := 0) dX11_count_60 rfl rfl rfl ?_
        refine r_getR (pc1 := 64) w_0 gfX11_19 rfl dX11_count_61 rfl ?_
        refine r_aload_n (pc1 := 65) (i := 0) dX11_count_64 rfl rfl rfl ?_
        refine r_getR (pc1 := 68) w_0 gfX11_88 rfl dX11_count_65 rfl ?_
        refine r_getI (pc1 := 71) w_52 gfX11_122 rfl dX11_count_68 rfl ?_
        refine p_callVp (pc1 := 74) (rv_of w_3 cl_6) lkX11_235 (c_X6_sizeOf w_3 w_4 w_8 _ _) rfl rfl ⟨Nat.le_of_ble_eq_true rfl, Nat.le_of_ble_eq_true rfl⟩ (Nat.le_of_ble_eq_true rfl) dX11_count_71 rfl (fun v17 => ?_)
        exact p_iret rfl rfl dX11_count_74
      · refine p_ite (fun q3 => ?_) (fun q3 => ?_)
        · refine r_tabIn (tgt := 75) (off := 74) dX11_count_1 (fun z => q10 (Or.inl z)) (fun z => q10 (Or.inr z)) (by rw [q3]; rfl) (by decide) ?_
          refine r_aload_n (pc1 := 76) (i := 0) dX11_count_75 rfl rfl rfl ?_
          refine r_getR (pc1 := 79) w_0 gfX11_19 rfl dX11_count_76 rfl ?_
          refine r_aload_n (pc1 := 80) (i := 0) dX11_count_79 rfl rfl rfl ?_
          refine r_getR (pc1 := 83) w_0 gfX11_88 rfl dX11_count_80 rfl ?_
          refine r_getI (pc1 := 86) w_52 gfX11_122 rfl dX11_count_83 rfl ?_
          refine p_callVp (pc1 := 89) (rv_of w_3 cl_6) lkX11_277 (c_X6_lengthOf w_3 w_4 w_8 _ _) rfl rfl ⟨Nat.le_of_ble_eq_true rfl, Nat.le_of_ble_eq_true rfl⟩ (Nat.le_of_ble_eq_true rfl) dX11_count_86 rfl (fun v16 => ?_)
          exact p_iret rfl rfl dX11_count_89
        · refine p_ite (fun q4 => ?_) (fun q4 => ?_)
          · refine r_tabIn (tgt := 90) (off := 89) dX11_count_1 (fun z => q10 (Or.inl z)) (fun z => q10 (Or.inr z)) (by rw [q4]; rfl) (by decide) ?_
            refine r_aload_n (pc1 := 91) (i := 0) dX11_count_90 rfl rfl rfl ?_
            refine r_getR (pc1 := 94) w_0 gfX11_26 rfl dX11_count_91 rfl ?_
            refine p_callVp (pc1 := 97) (rv_of w_9 cl_1) lkX11_312 (c_X1_clauseCount_9 _) rfl rfl ⟨Nat.le_of_ble_eq_true rfl, Nat.le_of_ble_eq_true rfl⟩ (Nat.le_of_ble_eq_true rfl) dX11_count_94 rfl (fun v15 => ?_)
            exact p_iret rfl rfl dX11_count_97
          · refine p_ite (fun q5 => ?_) (fun q5 => ?_)
            · refine r_tabIn (tgt := 98) (off := 97) dX11_count_1 (fun z => q10 (Or.inl z)) (fun z => q10 (Or.inr z)) (by rw [q5]; rfl) (by decide) ?_
              refine r_aload_n (pc1 := 99) (i := 0) dX11_count_98 rfl rfl rfl ?_
              refine r_getR (pc1 := 102) w_0 gfX11_10 rfl dX11_count_99 rfl ?_
              refine p_callVp (pc1 := 105) (rv_of w_1 cl_9) lkX11_129 (c_X9_size _) rfl rfl ⟨Nat.le_of_ble_eq_true rfl, Nat.le_of_ble_eq_true rfl⟩ (Nat.le_of_ble_eq_true rfl) dX11_count_102 rfl (fun v14 => ?_)
              exact p_iret rfl rfl dX11_count_105
            · refine p_ite (fun q6 => ?_) (fun q6 => ?_)
              · refine r_tabIn (tgt := 106) (off := 105) dX11_count_1 (fun z => q10 (Or.inl z)) (fun z => q10 (Or.inr z)) (by rw [q6]; rfl) (by decide) ?_
                refine r_aload_n (pc1 := 107) (i := 0) dX11_count_106 rfl rfl rfl ?_
                refine r_getR (pc1 := 110) w_0 gfX11_88 rfl dX11_count_107 rfl ?_
                refine r_getI (pc1 := 113) w_52 gfX11_175 rfl dX11_count_110 rfl ?_
                exact p_iret rfl rfl dX11_count_113
              · refine p_ite (fun q7 => ?_) (fun q7 => ?_)
                · refine r_tabIn (tgt := 114) (off := 113) dX11_count_1 (fun z => q10 (Or.inl z)) (fun z => q10 (Or.inr z)) (by rw [q7]; rfl) (by decide) ?_
                  refine r_aload_n (pc1 := 115) (i := 0) dX11_count_114 rfl rfl rfl ?_
                  refine r_getR (pc1 := 118) w_0 gfX11_88 rfl dX11_count_115 rfl ?_
                  refine r_getI (pc1 := 121) w_52 gfX11_217 rfl dX11_count_118 rfl ?_
                  exact p_iret rfl rfl dX11_count_121
                · refine p_ite (fun q8 => ?_) (fun q8 => ?_)
                  · refine r_tabIn (tgt := 122) (off := 121) dX11_count_1 (fun z => q10 (Or.inl z)) (fun z => q10 (Or.inr z)) (by rw [q8]; rfl) (by decide) ?_
                    refine r_aload_n (pc1 := 123) (i := 0) dX11_count_122 rfl rfl rfl ?_
                    refine r_getR (pc1 := 126) w_0 gfX11_88 rfl dX11_count_123 rfl ?_
                    refine r_getI (pc1 := 129) w_52 gfX11_139 rfl dX11_count_126 rfl ?_
                    exact p_iret rfl rfl dX11_count_129
                  · refine p_ite (fun q9 => ?_) (fun q9 => ?_)
                    · refine r_tabIn (tgt := 130) (off := 129) dX11_count_1 (fun z => q10 (Or.inl z)) (fun z => q10 (Or.inr z)) (by rw [q9]; rfl) (by decide) ?_
                      refine r_aload_n (pc1 := 131) (i := 0) dX11_count_130 rfl rfl rfl ?_
                      refine r_getR (pc1 := 134) w_0 gfX11_88 rfl dX11_count_131 rfl ?_
                      refine r_getI (pc1 := 137) w_52 gfX11_223 rfl dX11_count_134 rfl ?_
                      exact p_iret rfl rfl dX11_count_137
                    · exact p_none
/-! f_X12_lies -/
noncomputable def f_X12_lies (a1 : Int64) (a2 : Int64) (a3 : Int64) (s0 : SS) : Option Int32 := if (lg_cmp a1 a2 : Int32) < 0 then some 0 else if (0 : Int32) < (lg_cmp a1 a3) then some 0 else some 1
set_option maxRecDepth 100000 in
set_option maxHeartbeats 4000000 in
theorem c_X12_lies {l : Launch} (a1 : Int64) (a2 : Int64) (a3 : Int64) (s0 : SS) : Ct l wF yX12_lies cX12_lies 6 (some .boolean) 0 [.long a1, .long a2, .long a3] s0 (pu (f_X12_lies a1 a2 a3 s0) s0) := by
  refine ct_of (y := yX12_lies) plX12 (Nat.le_of_ble_eq_true rfl) ?_
  refine r_pad0 0 (L1 := [.long a1, .null, .long a2, .null, .long a3, .null]) rfl ?_
  unfold f_X12_lies
  refine r_lload_n (pc1 := 1) (i := 0) dX12_lies_0 rfl rfl rfl ?_
  refine r_lload_n (pc1 := 2) (i := 2) dX12_lies_1 rfl rfl rfl ?_
  refine r_lcmp (pc1 := 3) dX12_lies_2 rfl ?_
  refine p_if_lt (tgt := 17) (pc1 := 6) dX12_lies_3 (by decide) rfl (fun q1 => ?_) (fun q1 => ?_)
  · refine r_iconst (v := 0) (pc1 := 18) dX12_lies_17 ki_0 rfl ?_
    exact p_iret rfl rfl dX12_lies_18
  · refine r_lload_n (pc1 := 7) (i := 0) dX12_lies_6 rfl rfl rfl ?_
    refine r_lload (pc1 := 9) dX12_lies_7 rfl rfl ?_
    refine r_lcmp (pc1 := 10) dX12_lies_9 rfl ?_
    refine p_if_gt (tgt := 17) (pc1 := 13) dX12_lies_10 (by decide) rfl (fun q2 => ?_) (fun q2 => ?_)
    · refine r_iconst (v := 0) (pc1 := 18) dX12_lies_17 ki_0 rfl ?_
      exact p_iret rfl rfl dX12_lies_18
    · refine r_iconst (v := 1) (pc1 := 14) dX12_lies_13 ki_1 rfl ?_
      refine r_goto (tgt := 18) dX12_lies_14 (by decide) ?_
      exact p_iret rfl rfl dX12_lies_18
/-! f_X12_changes -/
noncomputable def lp_X12_changes_2  : Nat → Int32 → SS → Res
  | 0, _, _ => none
  | n3 + 1, v1, s2 => if (18724 : Int32) ≤ (v1 : Int32) then some (0, s2) else gd (inb v1 18724) (lts (up s2 81 (Int32.toNatClampNeg v1) (vp_nar .boolean 0)) (fun (s5 : SS) => gd (inb v1 18724) (lts (up s5 83 (Int32.toNatClampNeg v1) (vp_nar .boolean 0)) (fun (s6 : SS) => lp_X12_changes_2 n3 (v1 + 1) s6))))
noncomputable def f_X12_changes  (s0 : SS) : Res := lp_X12_changes_2 FU 0 s0
set_option maxRecDepth 100000 in
set_option maxHeartbeats 4000000 in
theorem t_lp_X12_changes_2 {l : Launch}   : ∀ (n3 : Nat) (v1 : Int32) (s2 : SS), RC l wF RX12 cX12_changes 2 none 0 2 [.ref 56, .int v1] [] s2 (lp_X12_changes_2 n3 v1 s2) := by
  intro n3
  induction n3 with
  | zero =>
    intro v1 s2
    rw [lp_X12_changes_2]
    exact r_none
  | succ n3 ih =>
    intro v1 s2
    rw [lp_X12_changes_2]
    refine r_iload_n (pc1 := 3) (i := 1) dX12_changes_2 rfl rfl rfl ?_
    refine r_sipush (v := 18724) (pc1 := 6) dX12_changes_3 ks_18724 rfl ?_
    refine r_icmp_ge (tgt := 29) (pc1 := 9) dX12_changes_6 (by decide) rfl (fun q4 => ?_) (fun q4 => ?_)
    · exact r_vret rfl dX12_changes_29
    · refine r_aload_n (pc1 := 10) (i := 0) dX12_changes_9 rfl rfl rfl ?_
      refine r_getR (pc1 := 13) w_56 gfX12_94 rfl dX12_changes_10 rfl ?_
      refine r_iload_n (pc1 := 14) (i := 1) dX12_changes_13 rfl rfl rfl ?_
      refine r_iconst (v := 0) (pc1 := 15) dX12_changes_14 ki_0 rfl ?_
      refine r_zast (pc1 := 16) w_81 dX12_changes_15 rfl ?_
      refine r_lts (fun s5 => ?_)
      refine r_aload_n (pc1 := 17) (i := 0) dX12_changes_16 rfl rfl rfl ?_
      refine r_getR (pc1 := 20) w_56 gfX12_100 rfl dX12_changes_17 rfl ?_
      refine r_iload_n (pc1 := 21) (i := 1) dX12_changes_20 rfl rfl rfl ?_
      refine r_iconst (v := 0) (pc1 := 22) dX12_changes_21 ki_0 rfl ?_
      refine r_zast (pc1 := 23) w_83 dX12_changes_22 rfl ?_
      refine r_lts (fun s6 => ?_)
      refine r_iinc (pc1 := 26) dX12_changes_23 rfl (kn_1 _) (by decide) rfl rfl rfl ?_
      refine r_goto (tgt := 2) dX12_changes_26 (by decide) ?_
      exact r_wk (ih (v1 + 1) s6) ⟨Or.inr rfl, Or.inr rfl, trivial⟩
set_option maxRecDepth 100000 in
set_option maxHeartbeats 4000000 in
theorem c_X12_changes {l : Launch}  (s0 : SS) : Ct l wF yX12_changes cX12_changes 2 none 0 [.ref 56] s0 (f_X12_changes s0) := by
  refine ct_of (y := yX12_changes) plX12 (Nat.le_of_ble_eq_true rfl) ?_
  refine r_pad0 1 (L1 := [.ref 56, .null]) rfl ?_
  unfold f_X12_changes
  refine r_iconst (v := 0) (pc1 := 1) dX12_changes_0 ki_0 rfl ?_
  refine r_istore_n (pc1 := 2) (i := 1) dX12_changes_1 rfl (by decide) rfl rfl rfl ?_
  exact r_wk (t_lp_X12_changes_2 FU 0 s0) ⟨Or.inr rfl, Or.inr rfl, trivial⟩
/-! f_X12_law -/
noncomputable def f_X12_law (a1 : Int32) (a2 : Int32) (a3 : Int32) (a4 : Int32) (s0 : SS) : Res := if (s0 56 2 : Int32) = (8 : Int32) then some ((-1), s0) else bdp (f_X12_lies ((a1 : Int32).toInt64) 0 9 s0) (fun (v2 : Int32) => if (v2 : Int32) = 0 then some ((-1), s0) else bdp (f_X12_lies ((a2 : Int32).toInt64) 0 255 s0) (fun (v4 : Int32) => if (v4 : Int32) = 0 then some ((-1), s0) else bdp (f_X12_lies ((a3 : Int32).toInt64) 0 255 s0) (fun (v6 : Int32) => if (v6 : Int32) = 0 then some ((-1), s0) else bdp (f_X12_lies ((a4 : Int32).toInt64) 0 15 s0) (fun (v8 : Int32) => if (v8 : Int32) = 0 then some ((-1), s0) else gd (inb (s0 56 2) 8) (lts (up s0 58 (Int32.toNatClampNeg (s0 56 2)) a1) (fun (s10 : SS) => gd (inb (s10 56 2) 8) (lts (up s10 59 (Int32.toNatClampNeg (s10 56 2)) a2) (fun (s11 : SS) => gd (inb (s11 56 2) 8) (lts (up s11 60 (Int32.toNatClampNeg (s11 56 2)) a3) (fun (s12 : SS) => gd (inb (s12 56 2) 8) (lts (up s12 61 (Int32.toNatClampNeg (s12 56 2)) a4) (fun (s13 : SS) => lts (up s13 56 2 ((s13 56 2) + 1)) (fun (s14 : SS) => bd (f_X12_changes s14) (fun (v15 : Int32) (s16 : SS) => some ((s16 56 2) - 1, s16)))))))))))))))
set_option maxRecDepth 100000 in
set_option maxHeartbeats 4000000 in
theorem c_X12_law {l : Launch} (a1 : Int32) (a2 : Int32) (a3 : Int32) (a4 : Int32) (s0 : SS) : Ct l wF yX12_law cX12_law 5 (some .int) 1 [.ref 56, .int a1, .int a2, .int a3, .int a4] s0 (f_X12_law a1 a2 a3 a4 s0) := by
  refine ct_of (y := yX12_law) plX12 (Nat.le_of_ble_eq_true rfl) ?_
  refine r_pad0 0 (L1 := [.ref 56, .int a1, .int a2, .int a3, .int a4]) rfl ?_
  unfold f_X12_law
  refine r_aload_n (pc1 := 1) (i := 0) dX12_law_0 rfl rfl rfl ?_
  refine r_getI (pc1 := 4) w_56 gfX12_144 rfl dX12_law_1 rfl ?_
  refine r_bipush (v := 8) (pc1 := 6) dX12_law_4 kb_8 rfl ?_
  refine r_icmp_eq (tgt := 58) (pc1 := 9) dX12_law_6 (by decide) rfl (fun q1 => ?_) (fun q1 => ?_)
  · refine r_iconst (v := (-1)) (pc1 := 59) dX12_law_58 ki_m1 rfl ?_
    exact r_iret rfl rfl dX12_law_59
  · refine r_iload_n (pc1 := 10) (i := 1) dX12_law_9 rfl rfl rfl ?_
    refine r_i2l (pc1 := 11) dX12_law_10 rfl ?_
    refine r_lconst (v := 0) (pc1 := 12) dX12_law_11 kl_0 rfl ?_
    refine r_ldc2 (v := 9) (pc1 := 15) dX12_law_12 cnX12_147 rfl ?_
    refine r_callSp (pc1 := 18) lkX12_140 (c_X12_lies _ _ _ _) rfl rfl ⟨Nat.le_of_ble_eq_true rfl, Nat.le_of_ble_eq_true rfl⟩ (Nat.le_of_ble_eq_true rfl) dX12_law_15 rfl (fun v2 => ?_)
    refine r_if_eq (tgt := 58) (pc1 := 21) dX12_law_18 (by decide) rfl (fun q3 => ?_) (fun q3 => ?_)
    · refine r_iconst (v := (-1)) (pc1 := 59) dX12_law_58 ki_m1 rfl ?_
      exact r_iret rfl rfl dX12_law_59
    · refine r_iload_n (pc1 := 22) (i := 2) dX12_law_21 rfl rfl rfl ?_
      refine r_i2l (pc1 := 23) dX12_law_22 rfl ?_
      refine r_lconst (v := 0) (pc1 := 24) dX12_law_23 kl_0 rfl ?_
      refine r_ldc2 (v := 255) (pc1 := 27) dX12_law_24 cnX12_149 rfl ?_
      refine r_callSp (pc1 := 30) lkX12_140 (c_X12_lies _ _ _ _) rfl rfl ⟨Nat.le_of_ble_eq_true rfl, Nat.le_of_ble_eq_true rfl⟩ (Nat.le_of_ble_eq_true rfl) dX12_law_27 rfl (fun v4 => ?_)
      refine r_if_eq (tgt := 58) (pc1 := 33) dX12_law_30 (by decide) rfl (fun q5 => ?_) (fun q5 => ?_)
      · refine r_iconst (v := (-1)) (pc1 := 59) dX12_law_58 ki_m1 rfl ?_
        exact r_iret rfl rfl dX12_law_59
      · refine r_iload_n (pc1 := 34) (i := 3) dX12_law_33 rfl rfl rfl ?_
        refine r_i2l (pc1 := 35) dX12_law_34 rfl ?_
        refine r_lconst (v := 0) (pc1 := 36) dX12_law_35 kl_0 rfl ?_
        refine r_ldc2 (v := 255) (pc1 := 39) dX12_law_36 cnX12_149 rfl ?_
        refine r_callSp (pc1 := 42) lkX12_140 (c_X12_lies _ _ _ _) rfl rfl ⟨Nat.le_of_ble_eq_true rfl, Nat.le_of_ble_eq_true rfl⟩ (Nat.le_of_ble_eq_true rfl) dX12_law_39 rfl (fun v6 => ?_)
        refine r_if_eq (tgt := 58) (pc1 := 45) dX12_law_42 (by decide) rfl (fun q7 => ?_) (fun q7 => ?_)
        · refine r_iconst (v := (-1)) (pc1 := 59) dX12_law_58 ki_m1 rfl ?_
          exact r_iret rfl rfl dX12_law_59
        · refine r_iload (pc1 := 47) dX12_law_45 rfl rfl ?_
          refine r_i2l (pc1 := 48) dX12_law_47 rfl ?_
          refine r_lconst (v := 0) (pc1 := 49) dX12_law_48 kl_0 rfl ?_
          refine r_ldc2 (v := 15) (pc1 := 52) dX12_law_49 cnX12_151 rfl ?_
          refine r_callSp (pc1 := 55) lkX12_140 (c_X12_lies _ _ _ _) rfl rfl ⟨Nat.le_of_ble_eq_true rfl, Nat.le_of_ble_eq_true rfl⟩ (Nat.le_of_ble_eq_true rfl) dX12_law_52 rfl (fun v8 => ?_)
          refine r_if_ne (tgt := 60) (pc1 := 58) dX12_law_55 (by decide) rfl (fun q9 => ?_) (fun q9 => ?_)
          · refine r_iconst (v := (-1)) (pc1 := 59) dX12_law_58 ki_m1 rfl ?_
            exact r_iret rfl rfl dX12_law_59
          · refine r_aload_n (pc1 := 61) (i := 0) dX12_law_60 rfl rfl rfl ?_
            refine r_getR (pc1 := 64) w_56 gfX12_23 rfl dX12_law_61 rfl ?_
            refine r_aload_n (pc1 := 65) (i := 0) dX12_law_64 rfl rfl rfl ?_
            refine r_getI (pc1 := 68) w_56 gfX12_144 rfl dX12_law_65 rfl ?_
            refine r_iload_n (pc1 := 69) (i := 1) dX12_law_68 rfl rfl rfl ?_
            refine r_iast (pc1 := 70) w_58 dX12_law_69 rfl ?_
            refine r_lts (fun s10 => ?_)
            refine r_aload_n (pc1 := 71) (i := 0) dX12_law_70 rfl rfl rfl ?_
            refine r_getR (pc1 := 74) w_56 gfX12_27 rfl dX12_law_71 rfl ?_
            refine r_aload_n (pc1 := 75) (i := 0) dX12_law_74 rfl rfl rfl ?_
            refine r_getI (pc1 := 78) w_56 gfX12_144 rfl dX12_law_75 rfl ?_
            refine r_iload_n (pc1 := 79) (i := 2) dX12_law_78 rfl rfl rfl ?_
            refine r_iast (pc1 := 80) w_59 dX12_law_79 rfl ?_
            refine r_lts (fun s11 => ?_)
            refine r_aload_n (pc1 := 81) (i := 0) dX12_law_80 rfl rfl rfl ?_
            refine r_getR (pc1 := 84) w_56 gfX12_30 rfl dX12_law_81 rfl ?_
            refine r_aload_n (pc1 := 85) (i := 0) dX12_law_84 rfl rfl rfl ?_
            refine r_getI (pc1 := 88) w_56 gfX12_144 rfl dX12_law_85 rfl ?_
            refine r_iload_n (pc1 := 89) (i := 3) dX12_law_88 rfl rfl rfl ?_
            refine r_iast (pc1 := 90) w_60 dX12_law_89 rfl ?_
            refine r_lts (fun s12 => ?_)
            refine r_aload_n (pc1 := 91) (i := 0) dX12_law_90 rfl rfl rfl ?_
            refine r_getR (pc1 := 94) w_56 gfX12_33 rfl dX12_law_91 rfl ?_
            refine r_aload_n (pc1 := 95) (i := 0) dX12_law_94 rfl rfl rfl ?_
            refine r_getI (pc1 := 98) w_56 gfX12_144 rfl dX12_law_95 rfl ?_
            refine r_iload (pc1 := 100) dX12_law_98 rfl rfl ?_
            refine r_iast (pc1 := 101) w_61 dX12_law_100 rfl ?_
            refine r_lts (fun s13 => ?_)
            refine r_aload_n (pc1 := 102) (i := 0) dX12_law_101 rfl rfl rfl ?_
            refine r_dup (pc1 := 103) dX12_law_102 rfl rfl ?_
            refine r_getI (pc1 := 106) w_56 gfX12_144 rfl dX12_law_103 rfl ?_
            refine r_iconst (v := 1) (pc1 := 107) dX12_law_106 ki_1 rfl ?_
            refine r_iadd (pc1 := 108) dX12_law_107 rfl ?_
            refine r_putI (pc1 := 111) w_56 pfX12_144 rfl ⟨rfl, rfl⟩ dX12_law_108 rfl ?_
            refine r_lts (fun s14 => ?_)
            refine r_aload_n (pc1 := 112) (i := 0) dX12_law_111 rfl rfl rfl ?_
            refine r_callVv (pc1 := 115) (rv_of w_56 cl_12) lkX12_153 (c_X12_changes _) rfl rfl ⟨Nat.le_of_ble_eq_true rfl, Nat.le_of_ble_eq_true rfl⟩ (Nat.le_of_ble_eq_true rfl) dX12_law_112 rfl (fun v15 s16 => ?_)
            refine r_aload_n (pc1 := 116) (i := 0) dX12_law_115 rfl rfl rfl ?_
            refine r_getI (pc1 := 119) w_56 gfX12_144 rfl dX12_law_116 rfl ?_
            refine r_iconst (v := 1) (pc1 := 120) dX12_law_119 ki_1 rfl ?_
            refine r_isub (pc1 := 121) dX12_law_120 rfl ?_
            exact r_iret rfl rfl dX12_law_121
/-! f_X12_length -/
noncomputable def f_X12_length (a1 : Int32) (s0 : SS) : Res := bdp (f_X12_lies ((a1 : Int32).toInt64) 1 4 s0) (fun (v1 : Int32) => if (v1 : Int32) = 0 then some (0, s0) else lts (up s0 56 3 a1) (fun (s3 : SS) => lts (up s3 56 4 0) (fun (s4 : SS) => lts (up s4 56 68 0) (fun (s5 : SS) => bd (f_X12_changes s5) (fun (v6 : Int32) (s7 : SS) => some (1, s7))))))
set_option maxRecDepth 100000 in
set_option maxHeartbeats 4000000 in
theorem c_X12_length {l : Launch} (a1 : Int32) (s0 : SS) : Ct l wF yX12_length cX12_length 2 (some .boolean) 1 [.ref 56, .int a1] s0 (f_X12_length a1 s0) := by
  refine ct_of (y := yX12_length) plX12 (Nat.le_of_ble_eq_true rfl) ?_
  refine r_pad0 0 (L1 := [.ref 56, .int a1]) rfl ?_
  unfold f_X12_length
  refine r_iload_n (pc1 := 1) (i := 1) dX12_length_0 rfl rfl rfl ?_
  refine r_i2l (pc1 := 2) dX12_length_1 rfl ?_
  refine r_lconst (v := 1) (pc1 := 3) dX12_length_2 kl_1 rfl ?_
  refine r_ldc2 (v := 4) (pc1 := 6) dX12_length_3 cnX12_156 rfl ?_
  refine r_callSp (pc1 := 9) lkX12_140 (c_X12_lies _ _ _ _) rfl rfl ⟨Nat.le_of_ble_eq_true rfl, Nat.le_of_ble_eq_true rfl⟩ (Nat.le_of_ble_eq_true rfl) dX12_length_6 rfl (fun v1 => ?_)
  refine r_if_ne (tgt := 14) (pc1 := 12) dX12_length_9 (by decide) rfl (fun q2 => ?_) (fun q2 => ?_)
  · refine r_iconst (v := 0) (pc1 := 13) dX12_length_12 ki_0 rfl ?_
    exact r_iret rfl rfl dX12_length_13
  · refine r_aload_n (pc1 := 15) (i := 0) dX12_length_14 rfl rfl rfl ?_
    refine r_iload_n (pc1 := 16) (i := 1) dX12_length_15 rfl rfl rfl ?_
    refine r_putI (pc1 := 19) w_56 pfX12_13 rfl ⟨rfl, rfl⟩ dX12_length_16 rfl ?_
    refine r_lts (fun s3 => ?_)
    refine r_aload_n (pc1 := 20) (i := 0) dX12_length_19 rfl rfl rfl ?_
    refine r_iconst (v := 0) (pc1 := 21) dX12_length_20 ki_0 rfl ?_
    refine r_putI (pc1 := 24) w_56 pfX12_158 rfl ⟨rfl, rfl⟩ dX12_length_21 rfl ?_
    refine r_lts (fun s4 => ?_)
    refine r_aload_n (pc1 := 25) (i := 0) dX12_length_24 rfl rfl rfl ?_
    refine r_iconst (v := 0) (pc1 := 26) dX12_length_25 ki_0 rfl ?_
    refine r_putI (pc1 := 29) w_56 pfX12_161 rfl ⟨rfl, rfl⟩ dX12_length_26 rfl ?_
    refine r_lts (fun s5 => ?_)
    refine r_aload_n (pc1 := 30) (i := 0) dX12_length_29 rfl rfl rfl ?_
    refine r_callVv (pc1 := 33) (rv_of w_56 cl_12) lkX12_153 (c_X12_changes _) rfl rfl ⟨Nat.le_of_ble_eq_true rfl, Nat.le_of_ble_eq_true rfl⟩ (Nat.le_of_ble_eq_true rfl) dX12_length_30 rfl (fun v6 s7 => ?_)
    refine r_iconst (v := 1) (pc1 := 34) dX12_length_33 ki_1 rfl ?_
    exact r_iret rfl rfl dX12_length_34
/-! f_X12_isMaker -/
noncomputable def f_X12_isMaker (a1 : Int32) (s0 : SS) : Option Int32 := bdp (f_X12_lies ((a1 : Int32).toInt64) 0 3 s0) (fun (v1 : Int32) => gd ((v1 : Int32) = 0 ∨ (v1 : Int32) = 1) (some v1))
set_option maxRecDepth 100000 in
set_option maxHeartbeats 4000000 in
theorem c_X12_isMaker {l : Launch} (a1 : Int32) (s0 : SS) : Ct l wF yX12_isMaker cX12_isMaker 1 (some .boolean) 1 [.int a1] s0 (pu (f_X12_isMaker a1 s0) s0) := by
  refine ct_of (y := yX12_isMaker) plX12 (Nat.le_of_ble_eq_true rfl) ?_
  refine r_pad0 0 (L1 := [.int a1]) rfl ?_
  unfold f_X12_isMaker
  refine r_iload_n (pc1 := 1) (i := 0) dX12_isMaker_0 rfl rfl rfl ?_
  refine r_i2l (pc1 := 2) dX12_isMaker_1 rfl ?_
  refine r_lconst (v := 0) (pc1 := 3) dX12_isMaker_2 kl_0 rfl ?_
  refine r_ldc2 (v := 3) (pc1 := 6) dX12_isMaker_3 cnX12_138 rfl ?_
  refine p_callSp (pc1 := 9) lkX12_140 (c_X12_lies _ _ _ _) rfl rfl ⟨Nat.le_of_ble_eq_true rfl, Nat.le_of_ble_eq_true rfl⟩ (Nat.le_of_ble_eq_true rfl) dX12_isMaker_6 rfl (fun v1 => ?_)
  refine p_gd (fun q2 => ?_)
  exact p_iret rfl (zb_ok q2).1 dX12_isMaker_9
/-! f_X12_rota -/
noncomputable def lp_X12_rota_56 (a1 : Int32) (k7 : SS → Res) : Nat → Int32 → SS → Res
  | 0, _, _ => none
  | n13 + 1, v11, s12 => if (a1 : Int32) ≤ (v11 : Int32) then k7 s12 else gd (inb v11 220) (gd (inb v11 4) (lts (up s12 62 (Int32.toNatClampNeg v11) (s12 57 (Int32.toNatClampNeg v11))) (fun (s15 : SS) => lp_X12_rota_56 a1 k7 n13 (v11 + 1) s15)))
noncomputable def lp_X12_rota_29 (a1 : Int32) (s4 : SS) (k5 : Res) : Nat → Int32 → Res
  | 0, _ => none
  | n17 + 1, v16 => if (a1 : Int32) ≤ (v16 : Int32) then k5 else gd (inb v16 220) (bdp (f_X12_isMaker (s4 57 (Int32.toNatClampNeg v16)) s4) (fun (v19 : Int32) => if (v19 : Int32) = 0 then some (0, s4) else lp_X12_rota_29 a1 s4 k5 n17 (v16 + 1)))
noncomputable def f_X12_rota (a1 : Int32) (s0 : SS) : Res := bdp (f_X12_lies ((a1 : Int32).toInt64) 1 4 s0) (fun (v1 : Int32) => if (v1 : Int32) = 0 then some (0, s0) else if (a1 : Int32) ≤ (s0 56 1 : Int32) then lts (up s0 56 1 0) (fun (s4 : SS) => jn (jn (fun (s6 : SS) => lts (up s6 56 5 a1) (fun (s8 : SS) => lts (up s8 56 6 0) (fun (s9 : SS) => lts (up s9 56 68 0) (fun (s10 : SS) => some (1, s10))))) (fun (k7 : SS → Res) => lp_X12_rota_56 a1 k7 FU 0 s4)) (fun (k5 : Res) => lp_X12_rota_29 a1 s4 k5 FU 0)) else some (0, s0))
set_option maxRecDepth 100000 in
set_option maxHeartbeats 4000000 in
theorem t_lp_X12_rota_56 {l : Launch} (a1 : Int32) (k7 : SS → Res) (hk7 : ∀ (s6 : SS), RC l wF RX12 cX12_rota 3 (some .boolean) 2 79 [.ref 56, .int a1, .null] [] s6 (k7 s6)) : ∀ (n13 : Nat) (v11 : Int32) (s12 : SS), RC l wF RX12 cX12_rota 3 (some .boolean) 2 56 [.ref 56, .int a1, .int v11] [] s12 (lp_X12_rota_56 a1 k7 n13 v11 s12) := by
  intro n13
  induction n13 with
  | zero =>
    intro v11 s12
    rw [lp_X12_rota_56]
    exact r_none
  | succ n13 ih =>
    intro v11 s12
    rw [lp_X12_rota_56]
    refine r_iload_n (pc1 := 57) (i := 2) dX12_rota_56 rfl rfl rfl ?_
    refine r_iload_n (pc1 := 58) (i := 1) dX12_rota_57 rfl rfl rfl ?_
    refine r_icmp_ge (tgt := 79) (pc1 := 61) dX12_rota_58 (by decide) rfl (fun q14 => ?_) (fun q14 => ?_)
    · exact r_wk (hk7 s12) ⟨Or.inr rfl, Or.inr rfl, Or.inl rfl, trivial⟩
    · refine r_aload_n (pc1 := 62) (i := 0) dX12_rota_61 rfl rfl rfl ?_
      refine r_getR (pc1 := 65) w_56 gfX12_36 rfl dX12_rota_62 rfl ?_
      refine r_iload_n (pc1 := 66) (i := 2) dX12_rota_65 rfl rfl rfl ?_
      refine r_aload_n (pc1 := 67) (i := 0) dX12_rota_66 rfl rfl rfl ?_
      refine r_getR (pc1 := 70) w_56 gfX12_7 rfl dX12_rota_67 rfl ?_
      refine r_iload_n (pc1 := 71) (i := 2) dX12_rota_70 rfl rfl rfl ?_
      refine r_bald (pc1 := 72) w_57 dX12_rota_71 rfl ?_
      refine r_iast (pc1 := 73) w_62 dX12_rota_72 rfl ?_
      refine r_lts (fun s15 => ?_)
      refine r_iinc (pc1 := 76) dX12_rota_73 rfl (kn_1 _) (by decide) rfl rfl rfl ?_
      refine r_goto (tgt := 56) dX12_rota_76 (by decide) ?_
      exact r_wk (ih (v11 + 1) s15) ⟨Or.inr rfl, Or.inr rfl, Or.inr rfl, trivial⟩
set_option maxRecDepth 100000 in
set_option maxHeartbeats 4000000 in
theorem t_lp_X12_rota_29 {l : Launch} (a1 : Int32) (s4 : SS) (k5 : Res) (hk5 : RC l wF RX12 cX12_rota 3 (some .boolean) 2 54 [.ref 56, .int a1, .null] [] s4 k5) : ∀ (n17 : Nat) (v16 : Int32), RC l wF RX12 cX12_rota 3 (some .boolean) 2 29 [.ref 56, .int a1, .int v16] [] s4 (lp_X12_rota_29 a1 s4 k5 n17 v16) := by
  intro n17
  induction n17 with
  | zero =>
    intro v16
    rw [lp_X12_rota_29]
    exact r_none
  | succ n17 ih =>
    intro v16
    rw [lp_X12_rota_29]
    refine r_iload_n (pc1 := 30) (i := 2) dX12_rota_29 rfl rfl rfl ?_
    refine r_iload_n (pc1 := 31) (i := 1) dX12_rota_30 rfl rfl rfl ?_
    refine r_icmp_ge (tgt := 54) (pc1 := 34) dX12_rota_31 (by decide) rfl (fun q18 => ?_) (fun q18 => ?_)
    · exact r_wk (hk5) ⟨Or.inr rfl, Or.inr rfl, Or.inl rfl, trivial⟩
    · refine r_aload_n (pc1 := 35) (i := 0) dX12_rota_34 rfl rfl rfl ?_
      refine r_getR (pc1 := 38) w_56 gfX12_7 rfl dX12_rota_35 rfl ?_
      refine r_iload_n (pc1 := 39) (i := 2) dX12_rota_38 rfl rfl rfl ?_
      refine r_bald (pc1 := 40) w_57 dX12_rota_39 rfl ?_
      refine r_callSp (pc1 := 43) lkX12_168 (c_X12_isMaker _ _) rfl rfl ⟨Nat.le_of_ble_eq_true rfl, Nat.le_of_ble_eq_true rfl⟩ (Nat.le_of_ble_eq_true rfl) dX12_rota_40 rfl (fun v19 => ?_)
      refine r_if_ne (tgt := 48) (pc1 := 46) dX12_rota_43 (by decide) rfl (fun q20 => ?_) (fun q20 => ?_)
      · refine r_iconst (v := 0) (pc1 := 47) dX12_rota_46 ki_0 rfl ?_
        exact r_iret rfl rfl dX12_rota_47
      · refine r_iinc (pc1 := 51) dX12_rota_48 rfl (kn_1 _) (by decide) rfl rfl rfl ?_
        refine r_goto (tgt := 29) dX12_rota_51 (by decide) ?_
        exact r_wk (ih (v16 + 1)) ⟨Or.inr rfl, Or.inr rfl, Or.inr rfl, trivial⟩
set_option maxRecDepth 100000 in
set_option maxHeartbeats 4000000 in
theorem c_X12_rota {l : Launch} (a1 : Int32) (s0 : SS) : Ct l wF yX12_rota cX12_rota 3 (some .boolean) 2 [.ref 56, .int a1] s0 (f_X12_rota a1 s0) := by
  refine ct_of (y := yX12_rota) plX12 (Nat.le_of_ble_eq_true rfl) ?_
  refine r_pad0 1 (L1 := [.ref 56, .int a1, .null]) rfl ?_
  unfold f_X12_rota
  refine r_iload_n (pc1 := 1) (i := 1) dX12_rota_0 rfl rfl rfl ?_
  refine r_i2l (pc1 := 2) dX12_rota_1 rfl ?_
  refine r_lconst (v := 1) (pc1 := 3) dX12_rota_2 kl_1 rfl ?_
  refine r_ldc2 (v := 4) (pc1 := 6) dX12_rota_3 cnX12_156 rfl ?_
  refine r_callSp (pc1 := 9) lkX12_140 (c_X12_lies _ _ _ _) rfl rfl ⟨Nat.le_of_ble_eq_true rfl, Nat.le_of_ble_eq_true rfl⟩ (Nat.le_of_ble_eq_true rfl) dX12_rota_6 rfl (fun v1 => ?_)
  refine r_if_eq (tgt := 20) (pc1 := 12) dX12_rota_9 (by decide) rfl (fun q2 => ?_) (fun q2 => ?_)
  · refine r_iconst (v := 0) (pc1 := 21) dX12_rota_20 ki_0 rfl ?_
    exact r_iret rfl rfl dX12_rota_21
  · refine r_iload_n (pc1 := 13) (i := 1) dX12_rota_12 rfl rfl rfl ?_
    refine r_aload_n (pc1 := 14) (i := 0) dX12_rota_13 rfl rfl rfl ?_
    refine r_getI (pc1 := 17) w_56 gfX12_165 rfl dX12_rota_14 rfl ?_
    refine r_icmp_le (tgt := 22) (pc1 := 20) dX12_rota_17 (by decide) rfl (fun q3 => ?_) (fun q3 => ?_)
    · refine r_aload_n (pc1 := 23) (i := 0) dX12_rota_22 rfl rfl rfl ?_
      refine r_iconst (v := 0) (pc1 := 24) dX12_rota_23 ki_0 rfl ?_
      refine r_putI (pc1 := 27) w_56 pfX12_165 rfl ⟨rfl, rfl⟩ dX12_rota_24 rfl ?_
      refine r_lts (fun s4 => ?_)
      refine r_iconst (v := 0) (pc1 := 28) dX12_rota_27 ki_0 rfl ?_
      refine r_istore_n (pc1 := 29) (i := 2) dX12_rota_28 rfl (by decide) rfl rfl rfl ?_
      refine r_jn (hyp := fun (k5 : Res) => RC l wF RX12 cX12_rota 3 (some .boolean) 2 54 [.ref 56, .int a1, .null] [] s4 k5) (?_) (fun k5 hk5 => ?_)
      · refine r_iconst (v := 0) (pc1 := 55) dX12_rota_54 ki_0 rfl ?_
        refine r_istore_n (pc1 := 56) (i := 2) dX12_rota_55 rfl (by decide) rfl rfl rfl ?_
        refine r_jn (hyp := fun (k7 : SS → Res) => ∀ (s6 : SS), RC l wF RX12 cX12_rota 3 (some .boolean) 2 79 [.ref 56, .int a1, .null] [] s6 (k7 s6)) (fun s6 => ?_) (fun k7 hk7 => ?_)
        · refine r_aload_n (pc1 := 80) (i := 0) dX12_rota_79 rfl rfl rfl ?_
          refine r_iload_n (pc1 := 81) (i := 1) dX12_rota_80 rfl rfl rfl ?_
          refine r_putI (pc1 := 84) w_56 pfX12_17 rfl ⟨rfl, rfl⟩ dX12_rota_81 rfl ?_
          refine r_lts (fun s8 => ?_)
          refine r_aload_n (pc1 := 85) (i := 0) dX12_rota_84 rfl rfl rfl ?_
          refine r_iconst (v := 0) (pc1 := 86) dX12_rota_85 ki_0 rfl ?_
          refine r_putI (pc1 := 89) w_56 pfX12_172 rfl ⟨rfl, rfl⟩ dX12_rota_86 rfl ?_
          refine r_lts (fun s9 => ?_)
          refine r_aload_n (pc1 := 90) (i := 0) dX12_rota_89 rfl rfl rfl ?_
          refine r_iconst (v := 0) (pc1 := 91) dX12_rota_90 ki_0 rfl ?_
          refine r_putI (pc1 := 94) w_56 pfX12_161 rfl ⟨rfl, rfl⟩ dX12_rota_91 rfl ?_
          refine r_lts (fun s10 => ?_)
          refine r_iconst (v := 1) (pc1 := 95) dX12_rota_94 ki_1 rfl ?_
          exact r_iret rfl rfl dX12_rota_95
        · exact r_wk (t_lp_X12_rota_56 a1 k7 hk7 FU 0 s4) ⟨Or.inr rfl, Or.inr rfl, Or.inr rfl, trivial⟩
      · exact r_wk (t_lp_X12_rota_29 a1 s4 k5 hk5 FU 0) ⟨Or.inr rfl, Or.inr rfl, Or.inr rfl, trivial⟩
    · refine r_iconst (v := 0) (pc1 := 21) dX12_rota_20 ki_0 rfl ?_
      exact r_iret rfl rfl dX12_rota_21
/-! f_X12_isLaw -/
noncomputable def f_X12_isLaw (a1 : Int32) (s0 : SS) : Option Int32 := bdp (f_X12_lies ((a1 : Int32).toInt64) 0 (((s0 56 2) - 1 : Int32).toInt64) s0) (fun (v1 : Int32) => gd ((v1 : Int32) = 0 ∨ (v1 : Int32) = 1) (some v1))
set_option maxRecDepth 100000 in
set_option maxHeartbeats 4000000 in
theorem c_X12_isLaw {l : Launch} (a1 : Int32) (s0 : SS) : Ct l wF yX12_isLaw cX12_isLaw 2 (some .boolean) 1 [.ref 56, .int a1] s0 (pu (f_X12_isLaw a1 s0) s0) := by
  refine ct_of (y := yX12_isLaw) plX12 (Nat.le_of_ble_eq_true rfl) ?_
  refine r_pad0 0 (L1 := [.ref 56, .int a1]) rfl ?_
  unfold f_X12_isLaw
  refine r_iload_n (pc1 := 1) (i := 1) dX12_isLaw_0 rfl rfl rfl ?_
  refine r_i2l (pc1 := 2) dX12_isLaw_1 rfl ?_
  refine r_lconst (v := 0) (pc1 := 3) dX12_isLaw_2 kl_0 rfl ?_
  refine r_aload_n (pc1 := 4) (i := 0) dX12_isLaw_3 rfl rfl rfl ?_
  refine r_getI (pc1 := 7) w_56 gfX12_144 rfl dX12_isLaw_4 rfl ?_
  refine r_iconst (v := 1) (pc1 := 8) dX12_isLaw_7 ki_1 rfl ?_
  refine r_isub (pc1 := 9) dX12_isLaw_8 rfl ?_
  refine r_i2l (pc1 := 10) dX12_isLaw_9 rfl ?_
  refine p_callSp (pc1 := 13) lkX12_140 (c_X12_lies _ _ _ _) rfl rfl ⟨Nat.le_of_ble_eq_true rfl, Nat.le_of_ble_eq_true rfl⟩ (Nat.le_of_ble_eq_true rfl) dX12_isLaw_10 rfl (fun v1 => ?_)
  refine p_gd (fun q2 => ?_)
  exact p_iret rfl (zb_ok q2).1 dX12_isLaw_13
/-! f_X12_kind -/
noncomputable def f_X12_kind (a1 : Int32) (a2 : Int32) (a3 : Int32) (s0 : SS) : Res := bdp (f_X12_isMaker a1 s0) (fun (v1 : Int32) => if (v1 : Int32) = 0 then some (0, s0) else bdp (f_X12_lies ((a2 : Int32).toInt64) 0 4 s0) (fun (v3 : Int32) => if (v3 : Int32) = 0 then some (0, s0) else jn (gd (inb a1 4) (lts (up s0 63 (Int32.toNatClampNeg a1) a2) (fun (s6 : SS) => jn (fun (v7 : Int32) => gd (inb a1 4) (lts (up s6 64 (Int32.toNatClampNeg a1) v7) (fun (s9 : SS) => some (1, s9)))) (fun (k8 : Int32 → Res) => if (a2 : Int32) = (4 : Int32) then k8 a3 else k8 0)))) (fun (k5 : Res) => if (a2 : Int32) = (4 : Int32) then bdp (f_X12_isLaw a3 s0) (fun (v12 : Int32) => if (v12 : Int32) = 0 then some (0, s0) else k5) else k5)))
set_option maxRecDepth 100000 in
set_option maxHeartbeats 4000000 in
theorem c_X12_kind {l : Launch} (a1 : Int32) (a2 : Int32) (a3 : Int32) (s0 : SS) : Ct l wF yX12_kind cX12_kind 4 (some .boolean) 2 [.ref 56, .int a1, .int a2, .int a3] s0 (f_X12_kind a1 a2 a3 s0) := by
  refine ct_of (y := yX12_kind) plX12 (Nat.le_of_ble_eq_true rfl) ?_
  refine r_pad0 0 (L1 := [.ref 56, .int a1, .int a2, .int a3]) rfl ?_
  unfold f_X12_kind
  refine r_iload_n (pc1 := 1) (i := 1) dX12_kind_0 rfl rfl rfl ?_
  refine r_callSp (pc1 := 4) lkX12_168 (c_X12_isMaker _ _) rfl rfl ⟨Nat.le_of_ble_eq_true rfl, Nat.le_of_ble_eq_true rfl⟩ (Nat.le_of_ble_eq_true rfl) dX12_kind_1 rfl (fun v1 => ?_)
  refine r_if_eq (tgt := 32) (pc1 := 7) dX12_kind_4 (by decide) rfl (fun q2 => ?_) (fun q2 => ?_)
  · refine r_iconst (v := 0) (pc1 := 33) dX12_kind_32 ki_0 rfl ?_
    exact r_iret rfl rfl dX12_kind_33
  · refine r_iload_n (pc1 := 8) (i := 2) dX12_kind_7 rfl rfl rfl ?_
    refine r_i2l (pc1 := 9) dX12_kind_8 rfl ?_
    refine r_lconst (v := 0) (pc1 := 10) dX12_kind_9 kl_0 rfl ?_
    refine r_ldc2 (v := 4) (pc1 := 13) dX12_kind_10 cnX12_156 rfl ?_
    refine r_callSp (pc1 := 16) lkX12_140 (c_X12_lies _ _ _ _) rfl rfl ⟨Nat.le_of_ble_eq_true rfl, Nat.le_of_ble_eq_true rfl⟩ (Nat.le_of_ble_eq_true rfl) dX12_kind_13 rfl (fun v3 => ?_)
    refine r_if_eq (tgt := 32) (pc1 := 19) dX12_kind_16 (by decide) rfl (fun q4 => ?_) (fun q4 => ?_)
    · refine r_iconst (v := 0) (pc1 := 33) dX12_kind_32 ki_0 rfl ?_
      exact r_iret rfl rfl dX12_kind_33
    · refine r_iload_n (pc1 := 20) (i := 2) dX12_kind_19 rfl rfl rfl ?_
      refine r_iconst (v := 4) (pc1 := 21) dX12_kind_20 ki_4 rfl ?_
      refine r_jn (hyp := fun (k5 : Res) => RC l wF RX12 cX12_kind 4 (some .boolean) 2 34 [.ref 56, .int a1, .int a2, .int a3] [] s0 k5) (?_) (fun k5 hk5 => ?_)
      · refine r_aload_n (pc1 := 35) (i := 0) dX12_kind_34 rfl rfl rfl ?_
        refine r_getR (pc1 := 38) w_56 gfX12_39 rfl dX12_kind_35 rfl ?_
        refine r_iload_n (pc1 := 39) (i := 1) dX12_kind_38 rfl rfl rfl ?_
        refine r_iload_n (pc1 := 40) (i := 2) dX12_kind_39 rfl rfl rfl ?_
        refine r_iast (pc1 := 41) w_63 dX12_kind_40 rfl ?_
        refine r_lts (fun s6 => ?_)
        refine r_aload_n (pc1 := 42) (i := 0) dX12_kind_41 rfl rfl rfl ?_
        refine r_getR (pc1 := 45) w_56 gfX12_42 rfl dX12_kind_42 rfl ?_
        refine r_iload_n (pc1 := 46) (i := 1) dX12_kind_45 rfl rfl rfl ?_
        refine r_iload_n (pc1 := 47) (i := 2) dX12_kind_46 rfl rfl rfl ?_
        refine r_iconst (v := 4) (pc1 := 48) dX12_kind_47 ki_4 rfl ?_
        refine r_jn (hyp := fun (k8 : Int32 → Res) => ∀ (v7 : Int32), RC l wF RX12 cX12_kind 4 (some .boolean) 2 56 [.ref 56, .null, .null, .null] [.int v7, .int a1, .ref 64] s6 (k8 v7)) (fun v7 => ?_) (fun k8 hk8 => ?_)
        · refine r_iast (pc1 := 57) w_64 dX12_kind_56 rfl ?_
          refine r_lts (fun s9 => ?_)
          refine r_iconst (v := 1) (pc1 := 58) dX12_kind_57 ki_1 rfl ?_
          exact r_iret rfl rfl dX12_kind_58
        · refine r_icmp_ne (tgt := 55) (pc1 := 51) dX12_kind_48 (by decide) rfl (fun q10 => ?_) (fun q10 => ?_)
          · refine r_iload_n (pc1 := 52) (i := 3) dX12_kind_51 rfl rfl rfl ?_
            refine r_goto (tgt := 56) dX12_kind_52 (by decide) ?_
            exact r_wk (hk8 a3) ⟨Or.inr rfl, Or.inl rfl, Or.inl rfl, Or.inl rfl, trivial⟩
          · refine r_iconst (v := 0) (pc1 := 56) dX12_kind_55 ki_0 rfl ?_
            exact r_wk (hk8 0) ⟨Or.inr rfl, Or.inl rfl, Or.inl rfl, Or.inl rfl, trivial⟩
      · refine r_icmp_ne (tgt := 34) (pc1 := 24) dX12_kind_21 (by decide) rfl (fun q11 => ?_) (fun q11 => ?_)
        · refine r_aload_n (pc1 := 25) (i := 0) dX12_kind_24 rfl rfl rfl ?_
          refine r_iload_n (pc1 := 26) (i := 3) dX12_kind_25 rfl rfl rfl ?_
          refine r_callVp (pc1 := 29) (rv_of w_56 cl_12) lkX12_175 (c_X12_isLaw _ _) rfl rfl ⟨Nat.le_of_ble_eq_true rfl, Nat.le_of_ble_eq_true rfl⟩ (Nat.le_of_ble_eq_true rfl) dX12_kind_26 rfl (fun v12 => ?_)
          refine r_if_ne (tgt := 34) (pc1 := 32) dX12_kind_29 (by decide) rfl (fun q13 => ?_) (fun q13 => ?_)
          · refine r_iconst (v := 0) (pc1 := 33) dX12_kind_32 ki_0 rfl ?_
            exact r_iret rfl rfl dX12_kind_33
          · exact r_wk (hk5) ⟨Or.inr rfl, Or.inr rfl, Or.inr rfl, Or.inr rfl, trivial⟩
        · exact r_wk (hk5) ⟨Or.inr rfl, Or.inr rfl, Or.inr rfl, Or.inr rfl, trivial⟩
/-! f_X12_push -/
noncomputable def lp_X12_push_3 (a1 : Int32) : Nat → Int32 → SS → Res
  | 0, _, _ => none
  | n3 + 1, v1, s2 => if (v1 : Int32) < 0 then some (0, s2) else gd (inb (s2 56 1) 220) (lts (up s2 57 (Int32.toNatClampNeg (s2 56 1)) (vp_nar .byte ((a1 >>> (v1 &&& 31) : Int32).toInt8.toInt32))) (fun (s5 : SS) => lts (up s5 56 1 ((s5 56 1) + 1)) (fun (s6 : SS) => lp_X12_push_3 a1 n3 (v1 + (-8)) s6)))
noncomputable def f_X12_push (a1 : Int32) (s0 : SS) : Res := lp_X12_push_3 a1 FU 24 s0
set_option maxRecDepth 100000 in
set_option maxHeartbeats 4000000 in
theorem t_lp_X12_push_3 {l : Launch} (a1 : Int32)  : ∀ (n3 : Nat) (v1 : Int32) (s2 : SS), RC l wF RX12 cX12_push 3 none 0 3 [.ref 56, .int a1, .int v1] [] s2 (lp_X12_push_3 a1 n3 v1 s2) := by
  intro n3
  induction n3 with
  | zero =>
    intro v1 s2
    rw [lp_X12_push_3]
    exact r_none
  | succ n3 ih =>
    intro v1 s2
    rw [lp_X12_push_3]
    refine r_iload_n (pc1 := 4) (i := 2) dX12_push_3 rfl rfl rfl ?_
    refine r_if_lt (tgt := 36) (pc1 := 7) dX12_push_4 (by decide) rfl (fun q4 => ?_) (fun q4 => ?_)
    · exact r_vret rfl dX12_push_36
    · refine r_aload_n (pc1 := 8) (i := 0) dX12_push_7 rfl rfl rfl ?_
      refine r_getR (pc1 := 11) w_56 gfX12_7 rfl dX12_push_8 rfl ?_
      refine r_aload_n (pc1 := 12) (i := 0) dX12_push_11 rfl rfl rfl ?_
      refine r_getI (pc1 := 15) w_56 gfX12_165 rfl dX12_push_12 rfl ?_
      refine r_iload_n (pc1 := 16) (i := 1) dX12_push_15 rfl rfl rfl ?_
      refine r_iload_n (pc1 := 17) (i := 2) dX12_push_16 rfl rfl rfl ?_
      refine r_ishr (pc1 := 18) dX12_push_17 rfl ?_
      refine r_i2b (pc1 := 19) dX12_push_18 rfl ?_
      refine r_bast (pc1 := 20) w_57 dX12_push_19 rfl ?_
      refine r_lts (fun s5 => ?_)
      refine r_aload_n (pc1 := 21) (i := 0) dX12_push_20 rfl rfl rfl ?_
      refine r_dup (pc1 := 22) dX12_push_21 rfl rfl ?_
      refine r_getI (pc1 := 25) w_56 gfX12_165 rfl dX12_push_22 rfl ?_
      refine r_iconst (v := 1) (pc1 := 26) dX12_push_25 ki_1 rfl ?_
      refine r_iadd (pc1 := 27) dX12_push_26 rfl ?_
      refine r_putI (pc1 := 30) w_56 pfX12_165 rfl ⟨rfl, rfl⟩ dX12_push_27 rfl ?_
      refine r_lts (fun s6 => ?_)
      refine r_iinc (pc1 := 33) dX12_push_30 rfl (kn_m8 _) (by decide) rfl rfl rfl ?_
      refine r_goto (tgt := 3) dX12_push_33 (by decide) ?_
      exact r_wk (ih (v1 + (-8)) s6) ⟨Or.inr rfl, Or.inr rfl, Or.inr rfl, trivial⟩
set_option maxRecDepth 100000 in
set_option maxHeartbeats 4000000 in
theorem c_X12_push {l : Launch} (a1 : Int32) (s0 : SS) : Ct l wF yX12_push cX12_push 3 none 0 [.ref 56, .int a1] s0 (f_X12_push a1 s0) := by
  refine ct_of (y := yX12_push) plX12 (Nat.le_of_ble_eq_true rfl) ?_
  refine r_pad0 1 (L1 := [.ref 56, .int a1, .null]) rfl ?_
  unfold f_X12_push
  refine r_bipush (v := 24) (pc1 := 2) dX12_push_0 kb_24 rfl ?_
  refine r_istore_n (pc1 := 3) (i := 2) dX12_push_2 rfl (by decide) rfl rfl rfl ?_
  exact r_wk (t_lp_X12_push_3 a1 FU 24 s0) ⟨Or.inr rfl, Or.inr rfl, Or.inr rfl, trivial⟩
/-! f_X12_feed -/
noncomputable def f_X12_feed (a1 : Int32) (a2 : Int32) (a3 : Int32) (a4 : Int32) (a5 : Int32) (s0 : SS) : Res := if ((s0 56 1) + 20 : Int32) ≤ (220 : Int32) then bd (f_X12_push a1 s0) (fun (v2 : Int32) (s3 : SS) => bd (f_X12_push a2 s3) (fun (v4 : Int32) (s5 : SS) => bd (f_X12_push a3 s5) (fun (v6 : Int32) (s7 : SS) => bd (f_X12_push a4 s7) (fun (v8 : Int32) (s9 : SS) => bd (f_X12_push a5 s9) (fun (v10 : Int32) (s11 : SS) => some (s11 56 1, s11)))))) else some ((-1), s0)
set_option maxRecDepth 100000 in
set_option maxHeartbeats 4000000 in
theorem c_X12_feed {l : Launch} (a1 : Int32) (a2 : Int32) (a3 : Int32) (a4 : Int32) (a5 : Int32) (s0 : SS) : Ct l wF yX12_feed cX12_feed 6 (some .int) 1 [.ref 56, .int a1, .int a2, .int a3, .int a4, .int a5] s0 (f_X12_feed a1 a2 a3 a4 a5 s0) := by
  refine ct_of (y := yX12_feed) plX12 (Nat.le_of_ble_eq_true rfl) ?_
  refine r_pad0 0 (L1 := [.ref 56, .int a1, .int a2, .int a3, .int a4, .int a5]) rfl ?_
  unfold f_X12_feed
  refine r_aload_n (pc1 := 1) (i := 0) dX12_feed_0 rfl rfl rfl ?_
  refine r_getI (pc1 := 4) w_56 gfX12_165 rfl dX12_feed_1 rfl ?_
  refine r_bipush (v := 20) (pc1 := 6) dX12_feed_4 kb_20 rfl ?_
  refine r_iadd (pc1 := 7) dX12_feed_6 rfl ?_
  refine r_sipush (v := 220) (pc1 := 10) dX12_feed_7 ks_220 rfl ?_
  refine r_icmp_le (tgt := 15) (pc1 := 13) dX12_feed_10 (by decide) rfl (fun q1 => ?_) (fun q1 => ?_)
  · refine r_aload_n (pc1 := 16) (i := 0) dX12_feed_15 rfl rfl rfl ?_
    refine r_iload_n (pc1 := 17) (i := 1) dX12_feed_16 rfl rfl rfl ?_
    refine r_callVv (pc1 := 20) (rv_of w_56 cl_12) lkX12_178 (c_X12_push _ _) rfl rfl ⟨Nat.le_of_ble_eq_true rfl, Nat.le_of_ble_eq_true rfl⟩ (Nat.le_of_ble_eq_true rfl) dX12_feed_17 rfl (fun v2 s3 => ?_)
    refine r_aload_n (pc1 := 21) (i := 0) dX12_feed_20 rfl rfl rfl ?_
    refine r_iload_n (pc1 := 22) (i := 2) dX12_feed_21 rfl rfl rfl ?_
    refine r_callVv (pc1 := 25) (rv_of w_56 cl_12) lkX12_178 (c_X12_push _ _) rfl rfl ⟨Nat.le_of_ble_eq_true rfl, Nat.le_of_ble_eq_true rfl⟩ (Nat.le_of_ble_eq_true rfl) dX12_feed_22 rfl (fun v4 s5 => ?_)
    refine r_aload_n (pc1 := 26) (i := 0) dX12_feed_25 rfl rfl rfl ?_
    refine r_iload_n (pc1 := 27) (i := 3) dX12_feed_26 rfl rfl rfl ?_
    refine r_callVv (pc1 := 30) (rv_of w_56 cl_12) lkX12_178 (c_X12_push _ _) rfl rfl ⟨Nat.le_of_ble_eq_true rfl, Nat.le_of_ble_eq_true rfl⟩ (Nat.le_of_ble_eq_true rfl) dX12_feed_27 rfl (fun v6 s7 => ?_)
    refine r_aload_n (pc1 := 31) (i := 0) dX12_feed_30 rfl rfl rfl ?_
    refine r_iload (pc1 := 33) dX12_feed_31 rfl rfl ?_
    refine r_callVv (pc1 := 36) (rv_of w_56 cl_12) lkX12_178 (c_X12_push _ _) rfl rfl ⟨Nat.le_of_ble_eq_true rfl, Nat.le_of_ble_eq_true rfl⟩ (Nat.le_of_ble_eq_true rfl) dX12_feed_33 rfl (fun v8 s9 => ?_)
    refine r_aload_n (pc1 := 37) (i := 0) dX12_feed_36 rfl rfl rfl ?_
    refine r_iload (pc1 := 39) dX12_feed_37 rfl rfl ?_
    refine r_callVv (pc1 := 42) (rv_of w_56 cl_12) lkX12_178 (c_X12_push _ _) rfl rfl ⟨Nat.le_of_ble_eq_true rfl, Nat.le_of_ble_eq_true rfl⟩ (Nat.le_of_ble_eq_true rfl) dX12_feed_39 rfl (fun v10 s11 => ?_)
    refine r_aload_n (pc1 := 43) (i := 0) dX12_feed_42 rfl rfl rfl ?_
    refine r_getI (pc1 := 46) w_56 gfX12_165 rfl dX12_feed_43 rfl ?_
    exact r_iret rfl rfl dX12_feed_46
  · refine r_iconst (v := (-1)) (pc1 := 14) dX12_feed_13 ki_m1 rfl ?_
    exact r_iret rfl rfl dX12_feed_14
/-! f_X12_isGood -/
noncomputable def f_X12_isGood  (s0 : SS) : Option Int32 := if (s0 56 32 : Int32) = 0 then some 1 else some 0
set_option maxRecDepth 100000 in
set_option maxHeartbeats 4000000 in
theorem c_X12_isGood {l : Launch}  (s0 : SS) : Ct l wF yX12_isGood cX12_isGood 1 (some .boolean) 0 [.ref 56] s0 (pu (f_X12_isGood s0) s0) := by
  refine ct_of (y := yX12_isGood) plX12 (Nat.le_of_ble_eq_true rfl) ?_
  refine r_pad0 0 (L1 := [.ref 56]) rfl ?_
  unfold f_X12_isGood
  refine r_aload_n (pc1 := 1) (i := 0) dX12_isGood_0 rfl rfl rfl ?_
  refine r_getI (pc1 := 4) w_56 gfX12_188 rfl dX12_isGood_1 rfl ?_
  refine p_if_ne (tgt := 11) (pc1 := 7) dX12_isGood_4 (by decide) rfl (fun q1 => ?_) (fun q1 => ?_)
  · refine r_iconst (v := 1) (pc1 := 8) dX12_isGood_7 ki_1 rfl ?_
    refine r_goto (tgt := 12) dX12_isGood_8 (by decide) ?_
    exact p_iret rfl rfl dX12_isGood_12
  · refine r_iconst (v := 0) (pc1 := 12) dX12_isGood_11 ki_0 rfl ?_
    exact p_iret rfl rfl dX12_isGood_12
/-! f_X12_here -/
noncomputable def f_X12_here  (s0 : SS) : Option Int32 := if (s0 56 31 : Int32) ≤ (s0 56 30 : Int32) then some 0 else gd (inb (s0 56 30) 220) (some ((s0 57 (Int32.toNatClampNeg (s0 56 30))) &&& 255))
set_option maxRecDepth 100000 in
set_option maxHeartbeats 4000000 in
theorem c_X12_here {l : Launch}  (s0 : SS) : Ct l wF yX12_here cX12_here 1 (some .int) 0 [.ref 56] s0 (pu (f_X12_here s0) s0) := by
  refine ct_of (y := yX12_here) plX12 (Nat.le_of_ble_eq_true rfl) ?_
  refine r_pad0 0 (L1 := [.ref 56]) rfl ?_
  unfold f_X12_here
  refine r_aload_n (pc1 := 1) (i := 0) dX12_here_0 rfl rfl rfl ?_
  refine r_getI (pc1 := 4) w_56 gfX12_182 rfl dX12_here_1 rfl ?_
  refine r_aload_n (pc1 := 5) (i := 0) dX12_here_4 rfl rfl rfl ?_
  refine r_getI (pc1 := 8) w_56 gfX12_185 rfl dX12_here_5 rfl ?_
  refine p_icmp_ge (tgt := 27) (pc1 := 11) dX12_here_8 (by decide) rfl (fun q1 => ?_) (fun q1 => ?_)
  · refine r_iconst (v := 0) (pc1 := 28) dX12_here_27 ki_0 rfl ?_
    exact p_iret rfl rfl dX12_here_28
  · refine r_aload_n (pc1 := 12) (i := 0) dX12_here_11 rfl rfl rfl ?_
    refine r_getR (pc1 := 15) w_56 gfX12_7 rfl dX12_here_12 rfl ?_
    refine r_aload_n (pc1 := 16) (i := 0) dX12_here_15 rfl rfl rfl ?_
    refine r_getI (pc1 := 19) w_56 gfX12_182 rfl dX12_here_16 rfl ?_
    refine p_bald (pc1 := 20) w_57 dX12_here_19 rfl ?_
    refine r_sipush (v := 255) (pc1 := 23) dX12_here_20 ks_255 rfl ?_
    refine r_iand (pc1 := 24) dX12_here_23 rfl ?_
    refine r_goto (tgt := 28) dX12_here_24 (by decide) ?_
    exact p_iret rfl rfl dX12_here_28
/-! f_X12_wrongs -/
noncomputable def f_X12_wrongs (a1 : Int32) (a2 : Int32) (s0 : SS) : Res := jn (fun (v1 : Int32) => lts (up s0 56 32 v1) (fun (s3 : SS) => some (0, s3))) (fun (k2 : Int32 → Res) => if (0 : Int32) ≤ (s0 56 32) then k2 ((((-1000)) * a1) - a2) else k2 (s0 56 32))
set_option maxRecDepth 100000 in
set_option maxHeartbeats 4000000 in
theorem c_X12_wrongs {l : Launch} (a1 : Int32) (a2 : Int32) (s0 : SS) : Ct l wF yX12_wrongs cX12_wrongs 3 none 0 [.ref 56, .int a1, .int a2] s0 (f_X12_wrongs a1 a2 s0) := by
  refine ct_of (y := yX12_wrongs) plX12 (Nat.le_of_ble_eq_true rfl) ?_
  refine r_pad0 0 (L1 := [.ref 56, .int a1, .int a2]) rfl ?_
  unfold f_X12_wrongs
  refine r_aload_n (pc1 := 1) (i := 0) dX12_wrongs_0 rfl rfl rfl ?_
  refine r_aload_n (pc1 := 2) (i := 0) dX12_wrongs_1 rfl rfl rfl ?_
  refine r_getI (pc1 := 5) w_56 gfX12_188 rfl dX12_wrongs_2 rfl ?_
  refine r_jn (hyp := fun (k2 : Int32 → Res) => ∀ (v1 : Int32), RC l wF RX12 cX12_wrongs 3 none 0 22 [.ref 56, .null, .null] [.int v1, .ref 56] s0 (k2 v1)) (fun v1 => ?_) (fun k2 hk2 => ?_)
  · refine r_putI (pc1 := 25) w_56 pfX12_188 rfl ⟨rfl, rfl⟩ dX12_wrongs_22 rfl ?_
    refine r_lts (fun s3 => ?_)
    exact r_vret rfl dX12_wrongs_25
  · refine r_if_ge (tgt := 15) (pc1 := 8) dX12_wrongs_5 (by decide) rfl (fun q4 => ?_) (fun q4 => ?_)
    · refine r_sipush (v := (-1000)) (pc1 := 18) dX12_wrongs_15 ks_m1000 rfl ?_
      refine r_iload_n (pc1 := 19) (i := 1) dX12_wrongs_18 rfl rfl rfl ?_
      refine r_imul (pc1 := 20) dX12_wrongs_19 rfl ?_
      refine r_iload_n (pc1 := 21) (i := 2) dX12_wrongs_20 rfl rfl rfl ?_
      refine r_isub (pc1 := 22) dX12_wrongs_21 rfl ?_
      exact r_wk (hk2 ((((-1000)) * a1) - a2)) ⟨Or.inr rfl, Or.inl rfl, Or.inl rfl, trivial⟩
    · refine r_aload_n (pc1 := 9) (i := 0) dX12_wrongs_8 rfl rfl rfl ?_
      refine r_getI (pc1 := 12) w_56 gfX12_188 rfl dX12_wrongs_9 rfl ?_
      refine r_goto (tgt := 22) dX12_wrongs_12 (by decide) ?_
      exact r_wk (hk2 (s0 56 32)) ⟨Or.inr rfl, Or.inl rfl, Or.inl rfl, trivial⟩
/-! f_X12_puts -/
noncomputable def f_X12_puts (a1 : Int32) (s0 : SS) : Res := gd (inb (s0 56 36) 240) (lts (up s0 77 (Int32.toNatClampNeg (s0 56 36)) a1) (fun (s1 : SS) => lts (up s1 56 36 ((s1 56 36) + 1)) (fun (s2 : SS) => lts (up s2 56 30 ((s2 56 30) + 1)) (fun (s3 : SS) => some (0, s3)))))
set_option maxRecDepth 100000 in
set_option maxHeartbeats 4000000 in
theorem c_X12_puts {l : Launch} (a1 : Int32) (s0 : SS) : Ct l wF yX12_puts cX12_puts 2 none 0 [.ref 56, .int a1] s0 (f_X12_puts a1 s0) := by
  refine ct_of (y := yX12_puts) plX12 (Nat.le_of_ble_eq_true rfl) ?_
  refine r_pad0 0 (L1 := [.ref 56, .int a1]) rfl ?_
  unfold f_X12_puts
  refine r_aload_n (pc1 := 1) (i := 0) dX12_puts_0 rfl rfl rfl ?_
  refine r_getR (pc1 := 4) w_56 gfX12_81 rfl dX12_puts_1 rfl ?_
  refine r_aload_n (pc1 := 5) (i := 0) dX12_puts_4 rfl rfl rfl ?_
  refine r_getI (pc1 := 8) w_56 gfX12_198 rfl dX12_puts_5 rfl ?_
  refine r_iload_n (pc1 := 9) (i := 1) dX12_puts_8 rfl rfl rfl ?_
  refine r_iast (pc1 := 10) w_77 dX12_puts_9 rfl ?_
  refine r_lts (fun s1 => ?_)
  refine r_aload_n (pc1 := 11) (i := 0) dX12_puts_10 rfl rfl rfl ?_
  refine r_dup (pc1 := 12) dX12_puts_11 rfl rfl ?_
  refine r_getI (pc1 := 15) w_56 gfX12_198 rfl dX12_puts_12 rfl ?_
  refine r_iconst (v := 1) (pc1 := 16) dX12_puts_15 ki_1 rfl ?_
  refine r_iadd (pc1 := 17) dX12_puts_16 rfl ?_
  refine r_putI (pc1 := 20) w_56 pfX12_198 rfl ⟨rfl, rfl⟩ dX12_puts_17 rfl ?_
  refine r_lts (fun s2 => ?_)
  refine r_aload_n (pc1 := 21) (i := 0) dX12_puts_20 rfl rfl rfl ?_
  refine r_dup (pc1 := 22) dX12_puts_21 rfl rfl ?_
  refine r_getI (pc1 := 25) w_56 gfX12_182 rfl dX12_puts_22 rfl ?_
  refine r_iconst (v := 1) (pc1 := 26) dX12_puts_25 ki_1 rfl ?_
  refine r_iadd (pc1 := 27) dX12_puts_26 rfl ?_
  refine r_putI (pc1 := 30) w_56 pfX12_182 rfl ⟨rfl, rfl⟩ dX12_puts_27 rfl ?_
  refine r_lts (fun s3 => ?_)
  exact r_vret rfl dX12_puts_30
/-! f_X12_opens -/
noncomputable def f_X12_opens  (s0 : SS) : Res := jn (fun (s1 : SS) => lts (up s1 56 35 ((s1 56 35) + 1)) (fun (s3 : SS) => bdp (f_X12_here s3) (fun (v4 : Int32) => bd (f_X12_puts v4 s3) (fun (v5 : Int32) (s6 : SS) => some (0, s6))))) (fun (k2 : SS → Res) => if (s0 56 35 : Int32) = (6 : Int32) then bd (f_X12_wrongs 5 (s0 56 30) s0) (fun (v8 : Int32) (s9 : SS) => k2 s9) else k2 s0)
set_option maxRecDepth 100000 in
set_option maxHeartbeats 4000000 in
theorem c_X12_opens {l : Launch}  (s0 : SS) : Ct l wF yX12_opens cX12_opens 1 none 1 [.ref 56] s0 (f_X12_opens s0) := by
  refine ct_of (y := yX12_opens) plX12 (Nat.le_of_ble_eq_true rfl) ?_
  refine r_pad0 0 (L1 := [.ref 56]) rfl ?_
  unfold f_X12_opens
  refine r_aload_n (pc1 := 1) (i := 0) dX12_opens_0 rfl rfl rfl ?_
  refine r_getI (pc1 := 4) w_56 gfX12_201 rfl dX12_opens_1 rfl ?_
  refine r_bipush (v := 6) (pc1 := 6) dX12_opens_4 kb_6 rfl ?_
  refine r_jn (hyp := fun (k2 : SS → Res) => ∀ (s1 : SS), RC l wF RX12 cX12_opens 1 none 1 18 [.ref 56] [] s1 (k2 s1)) (fun s1 => ?_) (fun k2 hk2 => ?_)
  · refine r_aload_n (pc1 := 19) (i := 0) dX12_opens_18 rfl rfl rfl ?_
    refine r_dup (pc1 := 20) dX12_opens_19 rfl rfl ?_
    refine r_getI (pc1 := 23) w_56 gfX12_201 rfl dX12_opens_20 rfl ?_
    refine r_iconst (v := 1) (pc1 := 24) dX12_opens_23 ki_1 rfl ?_
    refine r_iadd (pc1 := 25) dX12_opens_24 rfl ?_
    refine r_putI (pc1 := 28) w_56 pfX12_201 rfl ⟨rfl, rfl⟩ dX12_opens_25 rfl ?_
    refine r_lts (fun s3 => ?_)
    refine r_aload_n (pc1 := 29) (i := 0) dX12_opens_28 rfl rfl rfl ?_
    refine r_aload_n (pc1 := 30) (i := 0) dX12_opens_29 rfl rfl rfl ?_
    refine r_callVp (pc1 := 33) (rv_of w_56 cl_12) lkX12_208 (c_X12_here _) rfl rfl ⟨Nat.le_of_ble_eq_true rfl, Nat.le_of_ble_eq_true rfl⟩ (Nat.le_of_ble_eq_true rfl) dX12_opens_30 rfl (fun v4 => ?_)
    refine r_callVv (pc1 := 36) (rv_of w_56 cl_12) lkX12_212 (c_X12_puts _ _) rfl rfl ⟨Nat.le_of_ble_eq_true rfl, Nat.le_of_ble_eq_true rfl⟩ (Nat.le_of_ble_eq_true rfl) dX12_opens_33 rfl (fun v5 s6 => ?_)
    exact r_vret rfl dX12_opens_36
  · refine r_icmp_ne (tgt := 18) (pc1 := 9) dX12_opens_6 (by decide) rfl (fun q7 => ?_) (fun q7 => ?_)
    · refine r_aload_n (pc1 := 10) (i := 0) dX12_opens_9 rfl rfl rfl ?_
      refine r_iconst (v := 5) (pc1 := 11) dX12_opens_10 ki_5 rfl ?_
      refine r_aload_n (pc1 := 12) (i := 0) dX12_opens_11 rfl rfl rfl ?_
      refine r_getI (pc1 := 15) w_56 gfX12_182 rfl dX12_opens_12 rfl ?_
      refine r_callVv (pc1 := 18) (rv_of w_56 cl_12) lkX12_204 (c_X12_wrongs _ _ _) rfl rfl ⟨Nat.le_of_ble_eq_true rfl, Nat.le_of_ble_eq_true rfl⟩ (Nat.le_of_ble_eq_true rfl) dX12_opens_15 rfl (fun v8 s9 => ?_)
      exact r_wk (hk2 s9) ⟨Or.inr rfl, trivial⟩
    · exact r_wk (hk2 s0) ⟨Or.inr rfl, trivial⟩
/-! f_X12_seesDigit -/
noncomputable def f_X12_seesDigit  (s0 : SS) : Option Int32 := bdp (f_X12_here s0) (fun (v1 : Int32) => bdp (f_X12_lies ((v1 : Int32).toInt64) 48 57 s0) (fun (v2 : Int32) => gd ((v2 : Int32) = 0 ∨ (v2 : Int32) = 1) (some v2)))
set_option maxRecDepth 100000 in
set_option maxHeartbeats 4000000 in
theorem c_X12_seesDigit {l : Launch}  (s0 : SS) : Ct l wF yX12_seesDigit cX12_seesDigit 1 (some .boolean) 1 [.ref 56] s0 (pu (f_X12_seesDigit s0) s0) := by
  refine ct_of (y := yX12_seesDigit) plX12 (Nat.le_of_ble_eq_true rfl) ?_
  refine r_pad0 0 (L1 := [.ref 56]) rfl ?_
  unfold f_X12_seesDigit
  refine r_aload_n (pc1 := 1) (i := 0) dX12_seesDigit_0 rfl rfl rfl ?_
  refine p_callVp (pc1 := 4) (rv_of w_56 cl_12) lkX12_208 (c_X12_here _) rfl rfl ⟨Nat.le_of_ble_eq_true rfl, Nat.le_of_ble_eq_true rfl⟩ (Nat.le_of_ble_eq_true rfl) dX12_seesDigit_1 rfl (fun v1 => ?_)
  refine r_i2l (pc1 := 5) dX12_seesDigit_4 rfl ?_
  refine r_ldc2 (v := 48) (pc1 := 8) dX12_seesDigit_5 cnX12_215 rfl ?_
  refine r_ldc2 (v := 57) (pc1 := 11) dX12_seesDigit_8 cnX12_217 rfl ?_
  refine p_callSp (pc1 := 14) lkX12_140 (c_X12_lies _ _ _ _) rfl rfl ⟨Nat.le_of_ble_eq_true rfl, Nat.le_of_ble_eq_true rfl⟩ (Nat.le_of_ble_eq_true rfl) dX12_seesDigit_11 rfl (fun v2 => ?_)
  refine p_gd (fun q3 => ?_)
  exact p_iret rfl (zb_ok q3).1 dX12_seesDigit_14
/-! f_X12_reads -/
noncomputable def lp_X12_reads_7 (v1 : Int32) : Nat → Int32 → SS → Res
  | 0, _, _ => none
  | n4 + 1, v2, s3 => bdp (f_X12_isGood s3) (fun (v5 : Int32) => if (v5 : Int32) = 0 then some (v2, s3) else bdp (f_X12_seesDigit s3) (fun (v7 : Int32) => if (v7 : Int32) = 0 then some (v2, s3) else jn (fun (s9 : SS) => bdp (f_X12_here s9) (fun (v11 : Int32) => lt (((10 * v2) + v11) - 48) (fun (v12 : Int32) => lts (up s9 56 30 ((s9 56 30) + 1)) (fun (s13 : SS) => lp_X12_reads_7 v1 n4 v12 s13)))) (fun (k10 : SS → Res) => if (s3 56 30 : Int32) = (v1 + 5 : Int32) then bd (f_X12_wrongs 2 (s3 56 30) s3) (fun (v15 : Int32) (s16 : SS) => k10 s16) else k10 s3)))
noncomputable def f_X12_reads  (s0 : SS) : Res := lt (s0 56 30) (fun (v1 : Int32) => lp_X12_reads_7 v1 FU 0 s0)
set_option maxRecDepth 100000 in
set_option maxHeartbeats 4000000 in
theorem t_lp_X12_reads_7 {l : Launch} (v1 : Int32)  : ∀ (n4 : Nat) (v2 : Int32) (s3 : SS), RC l wF RX12 cX12_reads 3 (some .int) 2 7 [.ref 56, .int v1, .int v2] [] s3 (lp_X12_reads_7 v1 n4 v2 s3) := by
  intro n4
  induction n4 with
  | zero =>
    intro v2 s3
    rw [lp_X12_reads_7]
    exact r_none
  | succ n4 ih =>
    intro v2 s3
    rw [lp_X12_reads_7]
    refine r_aload_n (pc1 := 8) (i := 0) dX12_reads_7 rfl rfl rfl ?_
    refine r_callVp (pc1 := 11) (rv_of w_56 cl_12) lkX12_191 (c_X12_isGood _) rfl rfl ⟨Nat.le_of_ble_eq_true rfl, Nat.le_of_ble_eq_true rfl⟩ (Nat.le_of_ble_eq_true rfl) dX12_reads_8 rfl (fun v5 => ?_)
    refine r_if_eq (tgt := 66) (pc1 := 14) dX12_reads_11 (by decide) rfl (fun q6 => ?_) (fun q6 => ?_)
    · refine r_iload_n (pc1 := 67) (i := 2) dX12_reads_66 rfl rfl rfl ?_
      exact r_iret rfl rfl dX12_reads_67
    · refine r_aload_n (pc1 := 15) (i := 0) dX12_reads_14 rfl rfl rfl ?_
      refine r_callVp (pc1 := 18) (rv_of w_56 cl_12) lkX12_219 (c_X12_seesDigit _) rfl rfl ⟨Nat.le_of_ble_eq_true rfl, Nat.le_of_ble_eq_true rfl⟩ (Nat.le_of_ble_eq_true rfl) dX12_reads_15 rfl (fun v7 => ?_)
      refine r_if_eq (tgt := 66) (pc1 := 21) dX12_reads_18 (by decide) rfl (fun q8 => ?_) (fun q8 => ?_)
      · refine r_iload_n (pc1 := 67) (i := 2) dX12_reads_66 rfl rfl rfl ?_
        exact r_iret rfl rfl dX12_reads_67
      · refine r_aload_n (pc1 := 22) (i := 0) dX12_reads_21 rfl rfl rfl ?_
        refine r_getI (pc1 := 25) w_56 gfX12_182 rfl dX12_reads_22 rfl ?_
        refine r_iload_n (pc1 := 26) (i := 1) dX12_reads_25 rfl rfl rfl ?_
        refine r_iconst (v := 5) (pc1 := 27) dX12_reads_26 ki_5 rfl ?_
        refine r_iadd (pc1 := 28) dX12_reads_27 rfl ?_
        refine r_jn (hyp := fun (k10 : SS → Res) => ∀ (s9 : SS), RC l wF RX12 cX12_reads 3 (some .int) 2 40 [.ref 56, .int v1, .int v2] [] s9 (k10 s9)) (fun s9 => ?_) (fun k10 hk10 => ?_)
        · refine r_bipush (v := 10) (pc1 := 42) dX12_reads_40 kb_10 rfl ?_
          refine r_iload_n (pc1 := 43) (i := 2) dX12_reads_42 rfl rfl rfl ?_
          refine r_imul (pc1 := 44) dX12_reads_43 rfl ?_
          refine r_aload_n (pc1 := 45) (i := 0) dX12_reads_44 rfl rfl rfl ?_
          refine r_callVp (pc1 := 48) (rv_of w_56 cl_12) lkX12_208 (c_X12_here _) rfl rfl ⟨Nat.le_of_ble_eq_true rfl, Nat.le_of_ble_eq_true rfl⟩ (Nat.le_of_ble_eq_true rfl) dX12_reads_45 rfl (fun v11 => ?_)
          refine r_iadd (pc1 := 49) dX12_reads_48 rfl ?_
          refine r_bipush (v := 48) (pc1 := 51) dX12_reads_49 kb_48 rfl ?_
          refine r_isub (pc1 := 52) dX12_reads_51 rfl ?_
          refine r_lt (fun v12 => ?_)
          refine r_istore_n (pc1 := 53) (i := 2) dX12_reads_52 rfl (by decide) rfl rfl rfl ?_
          refine r_aload_n (pc1 := 54) (i := 0) dX12_reads_53 rfl rfl rfl ?_
          refine r_dup (pc1 := 55) dX12_reads_54 rfl rfl ?_
          refine r_getI (pc1 := 58) w_56 gfX12_182 rfl dX12_reads_55 rfl ?_
          refine r_iconst (v := 1) (pc1 := 59) dX12_reads_58 ki_1 rfl ?_
          refine r_iadd (pc1 := 60) dX12_reads_59 rfl ?_
          refine r_putI (pc1 := 63) w_56 pfX12_182 rfl ⟨rfl, rfl⟩ dX12_reads_60 rfl ?_
          refine r_lts (fun s13 => ?_)
          refine r_goto (tgt := 7) dX12_reads_63 (by decide) ?_
          exact r_wk (ih v12 s13) ⟨Or.inr rfl, Or.inr rfl, Or.inr rfl, trivial⟩
        · refine r_icmp_ne (tgt := 40) (pc1 := 31) dX12_reads_28 (by decide) rfl (fun q14 => ?_) (fun q14 => ?_)
          · refine r_aload_n (pc1 := 32) (i := 0) dX12_reads_31 rfl rfl rfl ?_
            refine r_iconst (v := 2) (pc1 := 33) dX12_reads_32 ki_2 rfl ?_
            refine r_aload_n (pc1 := 34) (i := 0) dX12_reads_33 rfl rfl rfl ?_
            refine r_getI (pc1 := 37) w_56 gfX12_182 rfl dX12_reads_34 rfl ?_
            refine r_callVv (pc1 := 40) (rv_of w_56 cl_12) lkX12_204 (c_X12_wrongs _ _ _) rfl rfl ⟨Nat.le_of_ble_eq_true rfl, Nat.le_of_ble_eq_true rfl⟩ (Nat.le_of_ble_eq_true rfl) dX12_reads_37 rfl (fun v15 s16 => ?_)
            exact r_wk (hk10 s16) ⟨Or.inr rfl, Or.inr rfl, Or.inr rfl, trivial⟩
          · exact r_wk (hk10 s3) ⟨Or.inr rfl, Or.inr rfl, Or.inr rfl, trivial⟩
set_option maxRecDepth 100000 in
set_option maxHeartbeats 4000000 in
theorem c_X12_reads {l : Launch}  (s0 : SS) : Ct l wF yX12_reads cX12_reads 3 (some .int) 2 [.ref 56] s0 (f_X12_reads s0) := by
  refine ct_of (y := yX12_reads) plX12 (Nat.le_of_ble_eq_true rfl) ?_
  refine r_pad0 2 (L1 := [.ref 56, .null, .null]) rfl ?_
  unfold f_X12_reads
  refine r_aload_n (pc1 := 1) (i := 0) dX12_reads_0 rfl rfl rfl ?_
  refine r_getI (pc1 := 4) w_56 gfX12_182 rfl dX12_reads_1 rfl ?_
  refine r_lt (fun v1 => ?_)
  refine r_istore_n (pc1 := 5) (i := 1) dX12_reads_4 rfl (by decide) rfl rfl rfl ?_
  refine r_iconst (v := 0) (pc1 := 6) dX12_reads_5 ki_0 rfl ?_
  refine r_istore_n (pc1 := 7) (i := 2) dX12_reads_6 rfl (by decide) rfl rfl rfl ?_
  exact r_wk (t_lp_X12_reads_7 v1 FU 0 s0) ⟨Or.inr rfl, Or.inr rfl, Or.inr rfl, trivial⟩
/-! f_X12_emit -/
noncomputable def f_X12_emit (a1 : Int32) (a2 : Int32) (s0 : SS) : Res := bdp (f_X12_isGood s0) (fun (v1 : Int32) => if (v1 : Int32) = 0 then some (0, s0) else gd (inb (s0 56 34) 200) (lts (up s0 75 (Int32.toNatClampNeg (s0 56 34)) a1) (fun (s3 : SS) => gd (inb (s3 56 34) 200) (lts (up s3 76 (Int32.toNatClampNeg (s3 56 34)) a2) (fun (s4 : SS) => lts (up s4 56 34 ((s4 56 34) + 1)) (fun (s5 : SS) => some (0, s5)))))))
set_option maxRecDepth 100000 in
set_option maxHeartbeats 4000000 in
theorem c_X12_emit {l : Launch} (a1 : Int32) (a2 : Int32) (s0 : SS) : Ct l wF yX12_emit cX12_emit 3 none 1 [.ref 56, .int a1, .int a2] s0 (f_X12_emit a1 a2 s0) := by
  refine ct_of (y := yX12_emit) plX12 (Nat.le_of_ble_eq_true rfl) ?_
  refine r_pad0 0 (L1 := [.ref 56, .int a1, .int a2]) rfl ?_
  unfold f_X12_emit
  refine r_aload_n (pc1 := 1) (i := 0) dX12_emit_0 rfl rfl rfl ?_
  refine r_callVp (pc1 := 4) (rv_of w_56 cl_12) lkX12_191 (c_X12_isGood _) rfl rfl ⟨Nat.le_of_ble_eq_true rfl, Nat.le_of_ble_eq_true rfl⟩ (Nat.le_of_ble_eq_true rfl) dX12_emit_1 rfl (fun v1 => ?_)
  refine r_if_ne (tgt := 8) (pc1 := 7) dX12_emit_4 (by decide) rfl (fun q2 => ?_) (fun q2 => ?_)
  · exact r_vret rfl dX12_emit_7
  · refine r_aload_n (pc1 := 9) (i := 0) dX12_emit_8 rfl rfl rfl ?_
    refine r_getR (pc1 := 12) w_56 gfX12_75 rfl dX12_emit_9 rfl ?_
    refine r_aload_n (pc1 := 13) (i := 0) dX12_emit_12 rfl rfl rfl ?_
    refine r_getI (pc1 := 16) w_56 gfX12_195 rfl dX12_emit_13 rfl ?_
    refine r_iload_n (pc1 := 17) (i := 1) dX12_emit_16 rfl rfl rfl ?_
    refine r_iast (pc1 := 18) w_75 dX12_emit_17 rfl ?_
    refine r_lts (fun s3 => ?_)
    refine r_aload_n (pc1 := 19) (i := 0) dX12_emit_18 rfl rfl rfl ?_
    refine r_getR (pc1 := 22) w_56 gfX12_78 rfl dX12_emit_19 rfl ?_
    refine r_aload_n (pc1 := 23) (i := 0) dX12_emit_22 rfl rfl rfl ?_
    refine r_getI (pc1 := 26) w_56 gfX12_195 rfl dX12_emit_23 rfl ?_
    refine r_iload_n (pc1 := 27) (i := 2) dX12_emit_26 rfl rfl rfl ?_
    refine r_iast (pc1 := 28) w_76 dX12_emit_27 rfl ?_
    refine r_lts (fun s4 => ?_)
    refine r_aload_n (pc1 := 29) (i := 0) dX12_emit_28 rfl rfl rfl ?_
    refine r_dup (pc1 := 30) dX12_emit_29 rfl rfl ?_
    refine r_getI (pc1 := 33) w_56 gfX12_195 rfl dX12_emit_30 rfl ?_
    refine r_iconst (v := 1) (pc1 := 34) dX12_emit_33 ki_1 rfl ?_
    refine r_iadd (pc1 := 35) dX12_emit_34 rfl ?_
    refine r_putI (pc1 := 38) w_56 pfX12_195 rfl ⟨rfl, rfl⟩ dX12_emit_35 rfl ?_
    refine r_lts (fun s5 => ?_)
    exact r_vret rfl dX12_emit_38
/-! f_X12_isValue -/
noncomputable def f_X12_isValue (a1 : Int32) (s0 : SS) : Option Int32 := jn (some 1) (fun (k1 : Option Int32) => if (a1 : Int32) = (108 : Int32) then k1 else if (a1 : Int32) = (112 : Int32) then k1 else if (a1 : Int32) = (107 : Int32) then k1 else if (a1 : Int32) = (110 : Int32) then k1 else if (a1 : Int32) = (115 : Int32) then k1 else if (a1 : Int32) = (104 : Int32) then k1 else if (a1 : Int32) = (102 : Int32) then k1 else if (a1 : Int32) = (105 : Int32) then k1 else if (a1 : Int32) = (111 : Int32) then k1 else if (a1 : Int32) = (121 : Int32) then k1 else if (a1 : Int32) = (114 : Int32) then k1 else some 0)
set_option maxRecDepth 100000 in
set_option maxHeartbeats 4000000 in
theorem c_X12_isValue {l : Launch} (a1 : Int32) (s0 : SS) : Ct l wF yX12_isValue cX12_isValue 1 (some .boolean) 0 [.int a1] s0 (pu (f_X12_isValue a1 s0) s0) := by
  refine ct_of (y := yX12_isValue) plX12 (Nat.le_of_ble_eq_true rfl) ?_
  refine r_pad0 0 (L1 := [.int a1]) rfl ?_
  unfold f_X12_isValue
  refine r_iload_n (pc1 := 1) (i := 0) dX12_isValue_0 rfl rfl rfl ?_
  refine r_bipush (v := 108) (pc1 := 3) dX12_isValue_1 kb_108 rfl ?_
  refine p_jn (hyp := fun (k1 : Option Int32) => RC l wF RX12 cX12_isValue 1 (some .boolean) 0 66 [.null] [] s0 (pu k1 s0)) (?_) (fun k1 hk1 => ?_)
  · refine r_iconst (v := 1) (pc1 := 67) dX12_isValue_66 ki_1 rfl ?_
    refine r_goto (tgt := 71) dX12_isValue_67 (by decide) ?_
    exact p_iret rfl rfl dX12_isValue_71
  · refine p_icmp_eq (tgt := 66) (pc1 := 6) dX12_isValue_3 (by decide) rfl (fun q2 => ?_) (fun q2 => ?_)
    · exact r_wk (hk1) ⟨Or.inl rfl, trivial⟩
    · refine r_iload_n (pc1 := 7) (i := 0) dX12_isValue_6 rfl rfl rfl ?_
      refine r_bipush (v := 112) (pc1 := 9) dX12_isValue_7 kb_112 rfl ?_
      refine p_icmp_eq (tgt := 66) (pc1 := 12) dX12_isValue_9 (by decide) rfl (fun q3 => ?_) (fun q3 => ?_)
      · exact r_wk (hk1) ⟨Or.inl rfl, trivial⟩
      · refine r_iload_n (pc1 := 13) (i := 0) dX12_isValue_12 rfl rfl rfl ?_
        refine r_bipush (v := 107) (pc1 := 15) dX12_isValue_13 kb_107 rfl ?_
        refine p_icmp_eq (tgt := 66) (pc1 := 18) dX12_isValue_15 (by decide) rfl (fun q4 => ?_) (fun q4 => ?_)
        · exact r_wk (hk1) ⟨Or.inl rfl, trivial⟩
        · refine r_iload_n (pc1 := 19) (i := 0) dX12_isValue_18 rfl rfl rfl ?_
          refine r_bipush (v := 110) (pc1 := 21) dX12_isValue_19 kb_110 rfl ?_
          refine p_icmp_eq (tgt := 66) (pc1 := 24) dX12_isValue_21 (by decide) rfl (fun q5 => ?_) (fun q5 => ?_)
          · exact r_wk (hk1) ⟨Or.inl rfl, trivial⟩
          · refine r_iload_n (pc1 := 25) (i := 0) dX12_isValue_24 rfl rfl rfl ?_
            refine r_bipush (v := 115) (pc1 := 27) dX12_isValue_25 kb_115 rfl ?_
            refine p_icmp_eq (tgt := 66) (pc1 := 30) dX12_isValue_27 (by decide) rfl (fun q6 => ?_) (fun q6 => ?_)
            · exact r_wk (hk1) ⟨Or.inl rfl, trivial⟩
            · refine r_iload_n (pc1 := 31) (i := 0) dX12_isValue_30 rfl rfl rfl ?_
              refine r_bipush (v := 104) (pc1 := 33) dX12_isValue_31 kb_104 rfl ?_
              refine p_icmp_eq (tgt := 66) (pc1 := 36) dX12_isValue_33 (by decide) rfl (fun q7 => ?_) (fun q7 => ?_)
              · exact r_wk (hk1) ⟨Or.inl rfl, trivial⟩
              · refine r_iload_n (pc1 := 37) (i := 0) dX12_isValue_36 rfl rfl rfl ?_
                refine r_bipush (v := 102) (pc1 := 39) dX12_isValue_37 kb_102 rfl ?_
                refine p_icmp_eq (tgt := 66) (pc1 := 42) dX12_isValue_39 (by decide) rfl (fun q8 => ?_) (fun q8 => ?_)
                · exact r_wk (hk1) ⟨Or.inl rfl, trivial⟩
                · refine r_iload_n (pc1 := 43) (i := 0) dX12_isValue_42 rfl rfl rfl ?_
                  refine r_bipush (v := 105) (pc1 := 45) dX12_isValue_43 kb_105 rfl ?_
                  refine p_icmp_eq (tgt := 66) (pc1 := 48) dX12_isValue_45 (by decide) rfl (fun q9 => ?_) (fun q9 => ?_)
                  · exact r_wk (hk1) ⟨Or.inl rfl, trivial⟩
                  · refine r_iload_n (pc1 := 49) (i := 0) dX12_isValue_48 rfl rfl rfl ?_
                    refine r_bipush (v := 111) (pc1 := 51) dX12_isValue_49 kb_111 rfl ?_
                    refine p_icmp_eq (tgt := 66) (pc1 := 54) dX12_isValue_51 (by decide) rfl (fun q10 => ?_) (fun q10 => ?_)
                    · exact r_wk (hk1) ⟨Or.inl rfl, trivial⟩
                    · refine r_iload_n (pc1 := 55) (i := 0) dX12_isValue_54 rfl rfl rfl ?_
                      refine r_bipush (v := 121) (pc1 := 57) dX12_isValue_55 kb_121 rfl ?_
                      refine p_icmp_eq (tgt := 66) (pc1 := 60) dX12_isValue_57 (by decide) rfl (fun q11 => ?_) (fun q11 => ?_)
                      · exact r_wk (hk1) ⟨Or.inl rfl, trivial⟩
                      · refine r_iload_n (pc1 := 61) (i := 0) dX12_isValue_60 rfl rfl rfl ?_
                        refine r_bipush (v := 114) (pc1 := 63) dX12_isValue_61 kb_114 rfl ?_
                        refine p_icmp_ne (tgt := 70) (pc1 := 66) dX12_isValue_63 (by decide) rfl (fun q12 => ?_) (fun q12 => ?_)
                        · exact r_wk (hk1) ⟨Or.inl rfl, trivial⟩
                        · refine r_iconst (v := 0) (pc1 := 71) dX12_isValue_70 ki_0 rfl ?_
                          exact p_iret rfl rfl dX12_isValue_71
/-! f_X12_factor -/
noncomputable def lp_X12_factor_0 (k2 : SS → Res) : Nat → SS → Res
  | 0, _ => none
  | n21 + 1, s20 => bdp (f_X12_isGood s20) (fun (v22 : Int32) => if (v22 : Int32) = 0 then k2 s20 else bdp (f_X12_here s20) (fun (v24 : Int32) => if (v24 : Int32) = (91 : Int32) then bd (f_X12_opens s20) (fun (v26 : Int32) (s27 : SS) => lp_X12_factor_0 k2 n21 s27) else k2 s20))
noncomputable def f_X12_factor  (s0 : SS) : Res := jn (fun (s1 : SS) => bdp (f_X12_isGood s1) (fun (v3 : Int32) => if (v3 : Int32) = 0 then some (0, s1) else bdp (f_X12_seesDigit s1) (fun (v5 : Int32) => if (v5 : Int32) = 0 then bdp (f_X12_here s1) (fun (v7 : Int32) => bdp (f_X12_isValue v7 s1) (fun (v8 : Int32) => if (v8 : Int32) = 0 then bd (f_X12_wrongs 1 (s1 56 30) s1) (fun (v10 : Int32) (s11 : SS) => some (0, s11)) else bdp (f_X12_here s1) (fun (v12 : Int32) => bd (f_X12_emit 1 v12 s1) (fun (v13 : Int32) (s14 : SS) => lts (up s14 56 30 ((s14 56 30) + 1)) (fun (s15 : SS) => some (0, s15)))))) else bd (f_X12_reads s1) (fun (v16 : Int32) (s17 : SS) => bd (f_X12_emit 0 v16 s17) (fun (v18 : Int32) (s19 : SS) => some (0, s19)))))) (fun (k2 : SS → Res) => lp_X12_factor_0 k2 FU s0)
set_option maxRecDepth 100000 in
set_option maxHeartbeats 4000000 in
theorem t_lp_X12_factor_0 {l : Launch} (k2 : SS → Res) (hk2 : ∀ (s1 : SS), RC l wF RX12 cX12_factor 1 none 3 23 [.ref 56] [] s1 (k2 s1)) : ∀ (n21 : Nat) (s20 : SS), RC l wF RX12 cX12_factor 1 none 3 0 [.ref 56] [] s20 (lp_X12_factor_0 k2 n21 s20) := by
  intro n21
  induction n21 with
  | zero =>
    intro s20
    rw [lp_X12_factor_0]
    exact r_none
  | succ n21 ih =>
    intro s20
    rw [lp_X12_factor_0]
    refine r_aload_n (pc1 := 1) (i := 0) dX12_factor_0 rfl rfl rfl ?_
    refine r_callVp (pc1 := 4) (rv_of w_56 cl_12) lkX12_191 (c_X12_isGood _) rfl rfl ⟨Nat.le_of_ble_eq_true rfl, Nat.le_of_ble_eq_true rfl⟩ (Nat.le_of_ble_eq_true rfl) dX12_factor_1 rfl (fun v22 => ?_)
    refine r_if_eq (tgt := 23) (pc1 := 7) dX12_factor_4 (by decide) rfl (fun q23 => ?_) (fun q23 => ?_)
    · exact r_wk (hk2 s20) ⟨Or.inr rfl, trivial⟩
    · refine r_aload_n (pc1 := 8) (i := 0) dX12_factor_7 rfl rfl rfl ?_
      refine r_callVp (pc1 := 11) (rv_of w_56 cl_12) lkX12_208 (c_X12_here _) rfl rfl ⟨Nat.le_of_ble_eq_true rfl, Nat.le_of_ble_eq_true rfl⟩ (Nat.le_of_ble_eq_true rfl) dX12_factor_8 rfl (fun v24 => ?_)
      refine r_bipush (v := 91) (pc1 := 13) dX12_factor_11 kb_91 rfl ?_
      refine r_icmp_ne (tgt := 23) (pc1 := 16) dX12_factor_13 (by decide) rfl (fun q25 => ?_) (fun q25 => ?_)
      · refine r_aload_n (pc1 := 17) (i := 0) dX12_factor_16 rfl rfl rfl ?_
        refine r_callVv (pc1 := 20) (rv_of w_56 cl_12) lkX12_234 (c_X12_opens _) rfl rfl ⟨Nat.le_of_ble_eq_true rfl, Nat.le_of_ble_eq_true rfl⟩ (Nat.le_of_ble_eq_true rfl) dX12_factor_17 rfl (fun v26 s27 => ?_)
        refine r_goto (tgt := 0) dX12_factor_20 (by decide) ?_
        exact r_wk (ih s27) ⟨Or.inr rfl, trivial⟩
      · exact r_wk (hk2 s20) ⟨Or.inr rfl, trivial⟩
set_option maxRecDepth 100000 in
set_option maxHeartbeats 4000000 in
theorem c_X12_factor {l : Launch}  (s0 : SS) : Ct l wF yX12_factor cX12_factor 1 none 3 [.ref 56] s0 (f_X12_factor s0) := by
  refine ct_of (y := yX12_factor) plX12 (Nat.le_of_ble_eq_true rfl) ?_
  refine r_pad0 0 (L1 := [.ref 56]) rfl ?_
  unfold f_X12_factor
  refine r_jn (hyp := fun (k2 : SS → Res) => ∀ (s1 : SS), RC l wF RX12 cX12_factor 1 none 3 23 [.ref 56] [] s1 (k2 s1)) (fun s1 => ?_) (fun k2 hk2 => ?_)
  · refine r_aload_n (pc1 := 24) (i := 0) dX12_factor_23 rfl rfl rfl ?_
    refine r_callVp (pc1 := 27) (rv_of w_56 cl_12) lkX12_191 (c_X12_isGood _) rfl rfl ⟨Nat.le_of_ble_eq_true rfl, Nat.le_of_ble_eq_true rfl⟩ (Nat.le_of_ble_eq_true rfl) dX12_factor_24 rfl (fun v3 => ?_)
    refine r_if_ne (tgt := 31) (pc1 := 30) dX12_factor_27 (by decide) rfl (fun q4 => ?_) (fun q4 => ?_)
    · exact r_vret rfl dX12_factor_30
    · refine r_aload_n (pc1 := 32) (i := 0) dX12_factor_31 rfl rfl rfl ?_
      refine r_callVp (pc1 := 35) (rv_of w_56 cl_12) lkX12_219 (c_X12_seesDigit _) rfl rfl ⟨Nat.le_of_ble_eq_true rfl, Nat.le_of_ble_eq_true rfl⟩ (Nat.le_of_ble_eq_true rfl) dX12_factor_32 rfl (fun v5 => ?_)
      refine r_if_eq (tgt := 50) (pc1 := 38) dX12_factor_35 (by decide) rfl (fun q6 => ?_) (fun q6 => ?_)
      · refine r_aload_n (pc1 := 51) (i := 0) dX12_factor_50 rfl rfl rfl ?_
        refine r_callVp (pc1 := 54) (rv_of w_56 cl_12) lkX12_208 (c_X12_here _) rfl rfl ⟨Nat.le_of_ble_eq_true rfl, Nat.le_of_ble_eq_true rfl⟩ (Nat.le_of_ble_eq_true rfl) dX12_factor_51 rfl (fun v7 => ?_)
        refine r_callSp (pc1 := 57) lkX12_240 (c_X12_isValue _ _) rfl rfl ⟨Nat.le_of_ble_eq_true rfl, Nat.le_of_ble_eq_true rfl⟩ (Nat.le_of_ble_eq_true rfl) dX12_factor_54 rfl (fun v8 => ?_)
        refine r_if_eq (tgt := 82) (pc1 := 60) dX12_factor_57 (by decide) rfl (fun q9 => ?_) (fun q9 => ?_)
        · refine r_aload_n (pc1 := 83) (i := 0) dX12_factor_82 rfl rfl rfl ?_
          refine r_iconst (v := 1) (pc1 := 84) dX12_factor_83 ki_1 rfl ?_
          refine r_aload_n (pc1 := 85) (i := 0) dX12_factor_84 rfl rfl rfl ?_
          refine r_getI (pc1 := 88) w_56 gfX12_182 rfl dX12_factor_85 rfl ?_
          refine r_callVv (pc1 := 91) (rv_of w_56 cl_12) lkX12_204 (c_X12_wrongs _ _ _) rfl rfl ⟨Nat.le_of_ble_eq_true rfl, Nat.le_of_ble_eq_true rfl⟩ (Nat.le_of_ble_eq_true rfl) dX12_factor_88 rfl (fun v10 s11 => ?_)
          exact r_vret rfl dX12_factor_91
        · refine r_aload_n (pc1 := 61) (i := 0) dX12_factor_60 rfl rfl rfl ?_
          refine r_iconst (v := 1) (pc1 := 62) dX12_factor_61 ki_1 rfl ?_
          refine r_aload_n (pc1 := 63) (i := 0) dX12_factor_62 rfl rfl rfl ?_
          refine r_callVp (pc1 := 66) (rv_of w_56 cl_12) lkX12_208 (c_X12_here _) rfl rfl ⟨Nat.le_of_ble_eq_true rfl, Nat.le_of_ble_eq_true rfl⟩ (Nat.le_of_ble_eq_true rfl) dX12_factor_63 rfl (fun v12 => ?_)
          refine r_callVv (pc1 := 69) (rv_of w_56 cl_12) lkX12_231 (c_X12_emit _ _ _) rfl rfl ⟨Nat.le_of_ble_eq_true rfl, Nat.le_of_ble_eq_true rfl⟩ (Nat.le_of_ble_eq_true rfl) dX12_factor_66 rfl (fun v13 s14 => ?_)
          refine r_aload_n (pc1 := 70) (i := 0) dX12_factor_69 rfl rfl rfl ?_
          refine r_dup (pc1 := 71) dX12_factor_70 rfl rfl ?_
          refine r_getI (pc1 := 74) w_56 gfX12_182 rfl dX12_factor_71 rfl ?_
          refine r_iconst (v := 1) (pc1 := 75) dX12_factor_74 ki_1 rfl ?_
          refine r_iadd (pc1 := 76) dX12_factor_75 rfl ?_
          refine r_putI (pc1 := 79) w_56 pfX12_182 rfl ⟨rfl, rfl⟩ dX12_factor_76 rfl ?_
          refine r_lts (fun s15 => ?_)
          refine r_goto (tgt := 91) dX12_factor_79 (by decide) ?_
          exact r_vret rfl dX12_factor_91
      · refine r_aload_n (pc1 := 39) (i := 0) dX12_factor_38 rfl rfl rfl ?_
        refine r_iconst (v := 0) (pc1 := 40) dX12_factor_39 ki_0 rfl ?_
        refine r_aload_n (pc1 := 41) (i := 0) dX12_factor_40 rfl rfl rfl ?_
        refine r_callVi (pc1 := 44) (rv_of w_56 cl_12) lkX12_237 (c_X12_reads _) rfl rfl ⟨Nat.le_of_ble_eq_true rfl, Nat.le_of_ble_eq_true rfl⟩ (Nat.le_of_ble_eq_true rfl) dX12_factor_41 rfl (fun v16 s17 => ?_)
        refine r_callVv (pc1 := 47) (rv_of w_56 cl_12) lkX12_231 (c_X12_emit _ _ _) rfl rfl ⟨Nat.le_of_ble_eq_true rfl, Nat.le_of_ble_eq_true rfl⟩ (Nat.le_of_ble_eq_true rfl) dX12_factor_44 rfl (fun v18 s19 => ?_)
        refine r_goto (tgt := 91) dX12_factor_47 (by decide) ?_
        exact r_vret rfl dX12_factor_91
  · exact r_wk (t_lp_X12_factor_0 k2 hk2 FU s0) ⟨Or.inr rfl, trivial⟩
/-! f_X12_isTimes -/
noncomputable def f_X12_isTimes (a1 : Int32) (s0 : SS) : Option Int32 := jn (some 1) (fun (k1 : Option Int32) => if (a1 : Int32) = (42 : Int32) then k1 else if (a1 : Int32) = (47 : Int32) then k1 else if (a1 : Int32) = (37 : Int32) then k1 else some 0)
set_option maxRecDepth 100000 in
set_option maxHeartbeats 4000000 in
theorem c_X12_isTimes {l : Launch} (a1 : Int32) (s0 : SS) : Ct l wF yX12_isTimes cX12_isTimes 1 (some .boolean) 0 [.int a1] s0 (pu (f_X12_isTimes a1 s0) s0) := by
  refine ct_of (y := yX12_isTimes) plX12 (Nat.le_of_ble_eq_true rfl) ?_
  refine r_pad0 0 (L1 := [.int a1]) rfl ?_
  unfold f_X12_isTimes
  refine r_iload_n (pc1 := 1) (i := 0) dX12_isTimes_0 rfl rfl rfl ?_
  refine r_bipush (v := 42) (pc1 := 3) dX12_isTimes_1 kb_42 rfl ?_
  refine p_jn (hyp := fun (k1 : Option Int32) => RC l wF RX12 cX12_isTimes 1 (some .boolean) 0 18 [.null] [] s0 (pu k1 s0)) (?_) (fun k1 hk1 => ?_)
  · refine r_iconst (v := 1) (pc1 := 19) dX12_isTimes_18 ki_1 rfl ?_
    refine r_goto (tgt := 23) dX12_isTimes_19 (by decide) ?_
    exact p_iret rfl rfl dX12_isTimes_23
  · refine p_icmp_eq (tgt := 18) (pc1 := 6) dX12_isTimes_3 (by decide) rfl (fun q2 => ?_) (fun q2 => ?_)
    · exact r_wk (hk1) ⟨Or.inl rfl, trivial⟩
    · refine r_iload_n (pc1 := 7) (i := 0) dX12_isTimes_6 rfl rfl rfl ?_
      refine r_bipush (v := 47) (pc1 := 9) dX12_isTimes_7 kb_47 rfl ?_
      refine p_icmp_eq (tgt := 18) (pc1 := 12) dX12_isTimes_9 (by decide) rfl (fun q3 => ?_) (fun q3 => ?_)
      · exact r_wk (hk1) ⟨Or.inl rfl, trivial⟩
      · refine r_iload_n (pc1 := 13) (i := 0) dX12_isTimes_12 rfl rfl rfl ?_
        refine r_bipush (v := 37) (pc1 := 15) dX12_isTimes_13 kb_37 rfl ?_
        refine p_icmp_ne (tgt := 22) (pc1 := 18) dX12_isTimes_15 (by decide) rfl (fun q4 => ?_) (fun q4 => ?_)
        · exact r_wk (hk1) ⟨Or.inl rfl, trivial⟩
        · refine r_iconst (v := 0) (pc1 := 23) dX12_isTimes_22 ki_0 rfl ?_
          exact p_iret rfl rfl dX12_isTimes_23
/-! f_X12_isPlus -/
noncomputable def f_X12_isPlus (a1 : Int32) (s0 : SS) : Option Int32 := jn (some 1) (fun (k1 : Option Int32) => if (a1 : Int32) = (43 : Int32) then k1 else if (a1 : Int32) = (45 : Int32) then k1 else some 0)
set_option maxRecDepth 100000 in
set_option maxHeartbeats 4000000 in
theorem c_X12_isPlus {l : Launch} (a1 : Int32) (s0 : SS) : Ct l wF yX12_isPlus cX12_isPlus 1 (some .boolean) 0 [.int a1] s0 (pu (f_X12_isPlus a1 s0) s0) := by
  refine ct_of (y := yX12_isPlus) plX12 (Nat.le_of_ble_eq_true rfl) ?_
  refine r_pad0 0 (L1 := [.int a1]) rfl ?_
  unfold f_X12_isPlus
  refine r_iload_n (pc1 := 1) (i := 0) dX12_isPlus_0 rfl rfl rfl ?_
  refine r_bipush (v := 43) (pc1 := 3) dX12_isPlus_1 kb_43 rfl ?_
  refine p_jn (hyp := fun (k1 : Option Int32) => RC l wF RX12 cX12_isPlus 1 (some .boolean) 0 12 [.null] [] s0 (pu k1 s0)) (?_) (fun k1 hk1 => ?_)
  · refine r_iconst (v := 1) (pc1 := 13) dX12_isPlus_12 ki_1 rfl ?_
    refine r_goto (tgt := 17) dX12_isPlus_13 (by decide) ?_
    exact p_iret rfl rfl dX12_isPlus_17
  · refine p_icmp_eq (tgt := 12) (pc1 := 6) dX12_isPlus_3 (by decide) rfl (fun q2 => ?_) (fun q2 => ?_)
    · exact r_wk (hk1) ⟨Or.inl rfl, trivial⟩
    · refine r_iload_n (pc1 := 7) (i := 0) dX12_isPlus_6 rfl rfl rfl ?_
      refine r_bipush (v := 45) (pc1 := 9) dX12_isPlus_7 kb_45 rfl ?_
      refine p_icmp_ne (tgt := 16) (pc1 := 12) dX12_isPlus_9 (by decide) rfl (fun q3 => ?_) (fun q3 => ?_)
      · exact r_wk (hk1) ⟨Or.inl rfl, trivial⟩
      · refine r_iconst (v := 0) (pc1 := 17) dX12_isPlus_16 ki_0 rfl ?_
        exact p_iret rfl rfl dX12_isPlus_17
/-! f_X12_top -/
noncomputable def f_X12_top  (s0 : SS) : Option Int32 := if (s0 56 36 : Int32) ≤ 0 then some 0 else gd (inb ((s0 56 36) - 1) 240) (some (s0 77 (Int32.toNatClampNeg ((s0 56 36) - 1))))
set_option maxRecDepth 100000 in
set_option maxHeartbeats 4000000 in
theorem c_X12_top {l : Launch}  (s0 : SS) : Ct l wF yX12_top cX12_top 1 (some .int) 0 [.ref 56] s0 (pu (f_X12_top s0) s0) := by
  refine ct_of (y := yX12_top) plX12 (Nat.le_of_ble_eq_true rfl) ?_
  refine r_pad0 0 (L1 := [.ref 56]) rfl ?_
  unfold f_X12_top
  refine r_aload_n (pc1 := 1) (i := 0) dX12_top_0 rfl rfl rfl ?_
  refine r_getI (pc1 := 4) w_56 gfX12_198 rfl dX12_top_1 rfl ?_
  refine p_if_le (tgt := 21) (pc1 := 7) dX12_top_4 (by decide) rfl (fun q1 => ?_) (fun q1 => ?_)
  · refine r_iconst (v := 0) (pc1 := 22) dX12_top_21 ki_0 rfl ?_
    exact p_iret rfl rfl dX12_top_22
  · refine r_aload_n (pc1 := 8) (i := 0) dX12_top_7 rfl rfl rfl ?_
    refine r_getR (pc1 := 11) w_56 gfX12_81 rfl dX12_top_8 rfl ?_
    refine r_aload_n (pc1 := 12) (i := 0) dX12_top_11 rfl rfl rfl ?_
    refine r_getI (pc1 := 15) w_56 gfX12_198 rfl dX12_top_12 rfl ?_
    refine r_iconst (v := 1) (pc1 := 16) dX12_top_15 ki_1 rfl ?_
    refine r_isub (pc1 := 17) dX12_top_16 rfl ?_
    refine p_iald (pc1 := 18) w_77 dX12_top_17 rfl ?_
    refine r_goto (tgt := 22) dX12_top_18 (by decide) ?_
    exact p_iret rfl rfl dX12_top_22
/-! f_X12_sums -/
noncomputable def lp_X12_sums_0 (a1 : Int32) : Nat → SS → Res
  | 0, _ => none
  | n2 + 1, s1 => bdp (f_X12_top s1) (fun (v3 : Int32) => bdp (f_X12_isTimes v3 s1) (fun (v4 : Int32) => jn (bdp (f_X12_top s1) (fun (v6 : Int32) => bd (f_X12_emit v6 0 s1) (fun (v7 : Int32) (s8 : SS) => lts (up s8 56 36 ((s8 56 36) - 1)) (fun (s9 : SS) => lp_X12_sums_0 a1 n2 s9)))) (fun (k5 : Res) => if (v4 : Int32) = 0 then if (a1 : Int32) = 0 then some (0, s1) else bdp (f_X12_top s1) (fun (v12 : Int32) => bdp (f_X12_isPlus v12 s1) (fun (v13 : Int32) => if (v13 : Int32) = 0 then some (0, s1) else k5)) else k5)))
noncomputable def f_X12_sums (a1 : Int32) (s0 : SS) : Res := lp_X12_sums_0 a1 FU s0
set_option maxRecDepth 100000 in
set_option maxHeartbeats 4000000 in
theorem t_lp_X12_sums_0 {l : Launch} (a1 : Int32)  : ∀ (n2 : Nat) (s1 : SS), RC l wF RX12 cX12_sums 2 none 2 0 [.ref 56, .int a1] [] s1 (lp_X12_sums_0 a1 n2 s1) := by
  intro n2
  induction n2 with
  | zero =>
    intro s1
    rw [lp_X12_sums_0]
    exact r_none
  | succ n2 ih =>
    intro s1
    rw [lp_X12_sums_0]
    refine r_aload_n (pc1 := 1) (i := 0) dX12_sums_0 rfl rfl rfl ?_
    refine r_callVp (pc1 := 4) (rv_of w_56 cl_12) lkX12_222 (c_X12_top _) rfl rfl ⟨Nat.le_of_ble_eq_true rfl, Nat.le_of_ble_eq_true rfl⟩ (Nat.le_of_ble_eq_true rfl) dX12_sums_1 rfl (fun v3 => ?_)
    refine r_callSp (pc1 := 7) lkX12_225 (c_X12_isTimes _ _) rfl rfl ⟨Nat.le_of_ble_eq_true rfl, Nat.le_of_ble_eq_true rfl⟩ (Nat.le_of_ble_eq_true rfl) dX12_sums_4 rfl (fun v4 => ?_)
    refine r_jn (hyp := fun (k5 : Res) => RC l wF RX12 cX12_sums 2 none 2 24 [.ref 56, .int a1] [] s1 k5) (?_) (fun k5 hk5 => ?_)
    · refine r_aload_n (pc1 := 25) (i := 0) dX12_sums_24 rfl rfl rfl ?_
      refine r_aload_n (pc1 := 26) (i := 0) dX12_sums_25 rfl rfl rfl ?_
      refine r_callVp (pc1 := 29) (rv_of w_56 cl_12) lkX12_222 (c_X12_top _) rfl rfl ⟨Nat.le_of_ble_eq_true rfl, Nat.le_of_ble_eq_true rfl⟩ (Nat.le_of_ble_eq_true rfl) dX12_sums_26 rfl (fun v6 => ?_)
      refine r_iconst (v := 0) (pc1 := 30) dX12_sums_29 ki_0 rfl ?_
      refine r_callVv (pc1 := 33) (rv_of w_56 cl_12) lkX12_231 (c_X12_emit _ _ _) rfl rfl ⟨Nat.le_of_ble_eq_true rfl, Nat.le_of_ble_eq_true rfl⟩ (Nat.le_of_ble_eq_true rfl) dX12_sums_30 rfl (fun v7 s8 => ?_)
      refine r_aload_n (pc1 := 34) (i := 0) dX12_sums_33 rfl rfl rfl ?_
      refine r_dup (pc1 := 35) dX12_sums_34 rfl rfl ?_
      refine r_getI (pc1 := 38) w_56 gfX12_198 rfl dX12_sums_35 rfl ?_
      refine r_iconst (v := 1) (pc1 := 39) dX12_sums_38 ki_1 rfl ?_
      refine r_isub (pc1 := 40) dX12_sums_39 rfl ?_
      refine r_putI (pc1 := 43) w_56 pfX12_198 rfl ⟨rfl, rfl⟩ dX12_sums_40 rfl ?_
      refine r_lts (fun s9 => ?_)
      refine r_goto (tgt := 0) dX12_sums_43 (by decide) ?_
      exact r_wk (ih s9) ⟨Or.inr rfl, Or.inr rfl, trivial⟩
    · refine r_if_ne (tgt := 24) (pc1 := 10) dX12_sums_7 (by decide) rfl (fun q10 => ?_) (fun q10 => ?_)
      · refine r_iload_n (pc1 := 11) (i := 1) dX12_sums_10 rfl rfl rfl ?_
        refine r_if_eq (tgt := 46) (pc1 := 14) dX12_sums_11 (by decide) rfl (fun q11 => ?_) (fun q11 => ?_)
        · exact r_vret rfl dX12_sums_46
        · refine r_aload_n (pc1 := 15) (i := 0) dX12_sums_14 rfl rfl rfl ?_
          refine r_callVp (pc1 := 18) (rv_of w_56 cl_12) lkX12_222 (c_X12_top _) rfl rfl ⟨Nat.le_of_ble_eq_true rfl, Nat.le_of_ble_eq_true rfl⟩ (Nat.le_of_ble_eq_true rfl) dX12_sums_15 rfl (fun v12 => ?_)
          refine r_callSp (pc1 := 21) lkX12_228 (c_X12_isPlus _ _) rfl rfl ⟨Nat.le_of_ble_eq_true rfl, Nat.le_of_ble_eq_true rfl⟩ (Nat.le_of_ble_eq_true rfl) dX12_sums_18 rfl (fun v13 => ?_)
          refine r_if_eq (tgt := 46) (pc1 := 24) dX12_sums_21 (by decide) rfl (fun q14 => ?_) (fun q14 => ?_)
          · exact r_vret rfl dX12_sums_46
          · exact r_wk (hk5) ⟨Or.inr rfl, Or.inr rfl, trivial⟩
      · exact r_wk (hk5) ⟨Or.inr rfl, Or.inr rfl, trivial⟩
set_option maxRecDepth 100000 in
set_option maxHeartbeats 4000000 in
theorem c_X12_sums {l : Launch} (a1 : Int32) (s0 : SS) : Ct l wF yX12_sums cX12_sums 2 none 2 [.ref 56, .int a1] s0 (f_X12_sums a1 s0) := by
  refine ct_of (y := yX12_sums) plX12 (Nat.le_of_ble_eq_true rfl) ?_
  refine r_pad0 0 (L1 := [.ref 56, .int a1]) rfl ?_
  unfold f_X12_sums
  exact r_wk (t_lp_X12_sums_0 a1 FU s0) ⟨Or.inr rfl, Or.inr rfl, trivial⟩
/-! f_X12_stays -/
noncomputable def f_X12_stays  (s0 : SS) : Res := bdp (f_X12_here s0) (fun (v1 : Int32) => bdp (f_X12_isTimes v1 s0) (fun (v2 : Int32) => jn (bdp (f_X12_isPlus v1 s0) (fun (v4 : Int32) => bd (f_X12_sums v4 s0) (fun (v5 : Int32) (s6 : SS) => bd (f_X12_puts v1 s6) (fun (v7 : Int32) (s8 : SS) => some (1, s8))))) (fun (k3 : Res) => if (v2 : Int32) = 0 then bdp (f_X12_isPlus v1 s0) (fun (v10 : Int32) => if (v10 : Int32) = 0 then bd (f_X12_sums 1 s0) (fun (v12 : Int32) (s13 : SS) => if (v1 : Int32) = (93 : Int32) then bdp (f_X12_top s13) (fun (v15 : Int32) => if (v15 : Int32) = (91 : Int32) then lts (up s13 56 36 ((s13 56 36) - 1)) (fun (s17 : SS) => lts (up s17 56 35 ((s17 56 35) - 1)) (fun (s18 : SS) => lts (up s18 56 30 ((s18 56 30) + 1)) (fun (s19 : SS) => lts (up s19 56 38 1) (fun (s20 : SS) => some (1, s20))))) else bd (f_X12_wrongs 1 (s13 56 30) s13) (fun (v21 : Int32) (s22 : SS) => some (0, s22))) else some (0, s13)) else k3) else k3)))
set_option maxRecDepth 100000 in
set_option maxHeartbeats 4000000 in
theorem c_X12_stays {l : Launch}  (s0 : SS) : Ct l wF yX12_stays cX12_stays 2 (some .boolean) 3 [.ref 56] s0 (f_X12_stays s0) := by
  refine ct_of (y := yX12_stays) plX12 (Nat.le_of_ble_eq_true rfl) ?_
  refine r_pad0 1 (L1 := [.ref 56, .null]) rfl ?_
  unfold f_X12_stays
  refine r_aload_n (pc1 := 1) (i := 0) dX12_stays_0 rfl rfl rfl ?_
  refine r_callVp (pc1 := 4) (rv_of w_56 cl_12) lkX12_208 (c_X12_here _) rfl rfl ⟨Nat.le_of_ble_eq_true rfl, Nat.le_of_ble_eq_true rfl⟩ (Nat.le_of_ble_eq_true rfl) dX12_stays_1 rfl (fun v1 => ?_)
  refine r_istore_n (pc1 := 5) (i := 1) dX12_stays_4 rfl (by decide) rfl rfl rfl ?_
  refine r_iload_n (pc1 := 6) (i := 1) dX12_stays_5 rfl rfl rfl ?_
  refine r_callSp (pc1 := 9) lkX12_225 (c_X12_isTimes _ _) rfl rfl ⟨Nat.le_of_ble_eq_true rfl, Nat.le_of_ble_eq_true rfl⟩ (Nat.le_of_ble_eq_true rfl) dX12_stays_6 rfl (fun v2 => ?_)
  refine r_jn (hyp := fun (k3 : Res) => RC l wF RX12 cX12_stays 2 (some .boolean) 3 19 [.ref 56, .int v1] [] s0 k3) (?_) (fun k3 hk3 => ?_)
  · refine r_aload_n (pc1 := 20) (i := 0) dX12_stays_19 rfl rfl rfl ?_
    refine r_iload_n (pc1 := 21) (i := 1) dX12_stays_20 rfl rfl rfl ?_
    refine r_callSp (pc1 := 24) lkX12_228 (c_X12_isPlus _ _) rfl rfl ⟨Nat.le_of_ble_eq_true rfl, Nat.le_of_ble_eq_true rfl⟩ (Nat.le_of_ble_eq_true rfl) dX12_stays_21 rfl (fun v4 => ?_)
    refine r_callVv (pc1 := 27) (rv_of w_56 cl_12) lkX12_243 (c_X12_sums _ _) rfl rfl ⟨Nat.le_of_ble_eq_true rfl, Nat.le_of_ble_eq_true rfl⟩ (Nat.le_of_ble_eq_true rfl) dX12_stays_24 rfl (fun v5 s6 => ?_)
    refine r_aload_n (pc1 := 28) (i := 0) dX12_stays_27 rfl rfl rfl ?_
    refine r_iload_n (pc1 := 29) (i := 1) dX12_stays_28 rfl rfl rfl ?_
    refine r_callVv (pc1 := 32) (rv_of w_56 cl_12) lkX12_212 (c_X12_puts _ _) rfl rfl ⟨Nat.le_of_ble_eq_true rfl, Nat.le_of_ble_eq_true rfl⟩ (Nat.le_of_ble_eq_true rfl) dX12_stays_29 rfl (fun v7 s8 => ?_)
    refine r_iconst (v := 1) (pc1 := 33) dX12_stays_32 ki_1 rfl ?_
    exact r_iret rfl rfl dX12_stays_33
  · refine r_if_ne (tgt := 19) (pc1 := 12) dX12_stays_9 (by decide) rfl (fun q9 => ?_) (fun q9 => ?_)
    · refine r_iload_n (pc1 := 13) (i := 1) dX12_stays_12 rfl rfl rfl ?_
      refine r_callSp (pc1 := 16) lkX12_228 (c_X12_isPlus _ _) rfl rfl ⟨Nat.le_of_ble_eq_true rfl, Nat.le_of_ble_eq_true rfl⟩ (Nat.le_of_ble_eq_true rfl) dX12_stays_13 rfl (fun v10 => ?_)
      refine r_if_eq (tgt := 34) (pc1 := 19) dX12_stays_16 (by decide) rfl (fun q11 => ?_) (fun q11 => ?_)
      · refine r_aload_n (pc1 := 35) (i := 0) dX12_stays_34 rfl rfl rfl ?_
        refine r_iconst (v := 1) (pc1 := 36) dX12_stays_35 ki_1 rfl ?_
        refine r_callVv (pc1 := 39) (rv_of w_56 cl_12) lkX12_243 (c_X12_sums _ _) rfl rfl ⟨Nat.le_of_ble_eq_true rfl, Nat.le_of_ble_eq_true rfl⟩ (Nat.le_of_ble_eq_true rfl) dX12_stays_36 rfl (fun v12 s13 => ?_)
        refine r_iload_n (pc1 := 40) (i := 1) dX12_stays_39 rfl rfl rfl ?_
        refine r_bipush (v := 93) (pc1 := 42) dX12_stays_40 kb_93 rfl ?_
        refine r_icmp_eq (tgt := 47) (pc1 := 45) dX12_stays_42 (by decide) rfl (fun q14 => ?_) (fun q14 => ?_)
        · refine r_aload_n (pc1 := 48) (i := 0) dX12_stays_47 rfl rfl rfl ?_
          refine r_callVp (pc1 := 51) (rv_of w_56 cl_12) lkX12_222 (c_X12_top _) rfl rfl ⟨Nat.le_of_ble_eq_true rfl, Nat.le_of_ble_eq_true rfl⟩ (Nat.le_of_ble_eq_true rfl) dX12_stays_48 rfl (fun v15 => ?_)
          refine r_bipush (v := 91) (pc1 := 53) dX12_stays_51 kb_91 rfl ?_
          refine r_icmp_eq (tgt := 67) (pc1 := 56) dX12_stays_53 (by decide) rfl (fun q16 => ?_) (fun q16 => ?_)
          · refine r_aload_n (pc1 := 68) (i := 0) dX12_stays_67 rfl rfl rfl ?_
            refine r_dup (pc1 := 69) dX12_stays_68 rfl rfl ?_
            refine r_getI (pc1 := 72) w_56 gfX12_198 rfl dX12_stays_69 rfl ?_
            refine r_iconst (v := 1) (pc1 := 73) dX12_stays_72 ki_1 rfl ?_
            refine r_isub (pc1 := 74) dX12_stays_73 rfl ?_
            refine r_putI (pc1 := 77) w_56 pfX12_198 rfl ⟨rfl, rfl⟩ dX12_stays_74 rfl ?_
            refine r_lts (fun s17 => ?_)
            refine r_aload_n (pc1 := 78) (i := 0) dX12_stays_77 rfl rfl rfl ?_
            refine r_dup (pc1 := 79) dX12_stays_78 rfl rfl ?_
            refine r_getI (pc1 := 82) w_56 gfX12_201 rfl dX12_stays_79 rfl ?_
            refine r_iconst (v := 1) (pc1 := 83) dX12_stays_82 ki_1 rfl ?_
            refine r_isub (pc1 := 84) dX12_stays_83 rfl ?_
            refine r_putI (pc1 := 87) w_56 pfX12_201 rfl ⟨rfl, rfl⟩ dX12_stays_84 rfl ?_
            refine r_lts (fun s18 => ?_)
            refine r_aload_n (pc1 := 88) (i := 0) dX12_stays_87 rfl rfl rfl ?_
            refine r_dup (pc1 := 89) dX12_stays_88 rfl rfl ?_
            refine r_getI (pc1 := 92) w_56 gfX12_182 rfl dX12_stays_89 rfl ?_
            refine r_iconst (v := 1) (pc1 := 93) dX12_stays_92 ki_1 rfl ?_
            refine r_iadd (pc1 := 94) dX12_stays_93 rfl ?_
            refine r_putI (pc1 := 97) w_56 pfX12_182 rfl ⟨rfl, rfl⟩ dX12_stays_94 rfl ?_
            refine r_lts (fun s19 => ?_)
            refine r_aload_n (pc1 := 98) (i := 0) dX12_stays_97 rfl rfl rfl ?_
            refine r_iconst (v := 1) (pc1 := 99) dX12_stays_98 ki_1 rfl ?_
            refine r_putI (pc1 := 102) w_56 pfX12_247 rfl ⟨rfl, rfl⟩ dX12_stays_99 rfl ?_
            refine r_lts (fun s20 => ?_)
            refine r_iconst (v := 1) (pc1 := 103) dX12_stays_102 ki_1 rfl ?_
            exact r_iret rfl rfl dX12_stays_103
          · refine r_aload_n (pc1 := 57) (i := 0) dX12_stays_56 rfl rfl rfl ?_
            refine r_iconst (v := 1) (pc1 := 58) dX12_stays_57 ki_1 rfl ?_
            refine r_aload_n (pc1 := 59) (i := 0) dX12_stays_58 rfl rfl rfl ?_
            refine r_getI (pc1 := 62) w_56 gfX12_182 rfl dX12_stays_59 rfl ?_
            refine r_callVv (pc1 := 65) (rv_of w_56 cl_12) lkX12_204 (c_X12_wrongs _ _ _) rfl rfl ⟨Nat.le_of_ble_eq_true rfl, Nat.le_of_ble_eq_true rfl⟩ (Nat.le_of_ble_eq_true rfl) dX12_stays_62 rfl (fun v21 s22 => ?_)
            refine r_iconst (v := 0) (pc1 := 66) dX12_stays_65 ki_0 rfl ?_
            exact r_iret rfl rfl dX12_stays_66
        · refine r_iconst (v := 0) (pc1 := 46) dX12_stays_45 ki_0 rfl ?_
          exact r_iret rfl rfl dX12_stays_46
      · exact r_wk (hk3) ⟨Or.inr rfl, Or.inr rfl, trivial⟩
    · exact r_wk (hk3) ⟨Or.inr rfl, Or.inr rfl, trivial⟩
/-! f_X12_value -/
noncomputable def lp_X12_value_7 (k3 : SS → Res) : Nat → Int32 → SS → Res
  | 0, _, _ => none
  | n12 + 1, v10, s11 => if (v10 : Int32) = 0 then k3 s11 else bdp (f_X12_isGood s11) (fun (v14 : Int32) => if (v14 : Int32) = 0 then k3 s11 else jn (fun (s16 : SS) => lts (up s16 56 38 0) (fun (s18 : SS) => bdp (f_X12_isGood s18) (fun (v19 : Int32) => jn (fun (v20 : Int32) (s21 : SS) => lp_X12_value_7 k3 n12 v20 s21) (fun (k22 : Int32 → SS → Res) => jn (fun (s23 : SS) => k22 0 s23) (fun (k24 : SS → Res) => if (v19 : Int32) = 0 then k24 s18 else bd (f_X12_stays s18) (fun (v26 : Int32) (s27 : SS) => if (v26 : Int32) = 0 then k24 s27 else k22 1 s27)))))) (fun (k17 : SS → Res) => if (s11 56 38 : Int32) = 0 then bd (f_X12_factor s11) (fun (v30 : Int32) (s31 : SS) => k17 s31) else k17 s11))
noncomputable def f_X12_value  (s0 : SS) : Res := lts (up s0 56 38 0) (fun (s1 : SS) => jn (fun (s2 : SS) => bdp (f_X12_isGood s2) (fun (v4 : Int32) => if (v4 : Int32) = 0 then some (0, s2) else bdp (f_X12_top s2) (fun (v6 : Int32) => if (v6 : Int32) = (91 : Int32) then bd (f_X12_wrongs 1 (s2 56 30) s2) (fun (v8 : Int32) (s9 : SS) => some (0, s9)) else some (0, s2)))) (fun (k3 : SS → Res) => lp_X12_value_7 k3 FU 1 s1))
set_option maxRecDepth 100000 in
set_option maxHeartbeats 4000000 in
theorem t_lp_X12_value_7 {l : Launch} (k3 : SS → Res) (hk3 : ∀ (s2 : SS), RC l wF RX12 cX12_value 2 none 4 57 [.ref 56, .null] [] s2 (k3 s2)) : ∀ (n12 : Nat) (v10 : Int32) (s11 : SS), RC l wF RX12 cX12_value 2 none 4 7 [.ref 56, .int v10] [] s11 (lp_X12_value_7 k3 n12 v10 s11) := by
  intro n12
  induction n12 with
  | zero =>
    intro v10 s11
    rw [lp_X12_value_7]
    exact r_none
  | succ n12 ih =>
    intro v10 s11
    rw [lp_X12_value_7]
    refine r_iload_n (pc1 := 8) (i := 1) dX12_value_7 rfl rfl rfl ?_
    refine r_if_eq (tgt := 57) (pc1 := 11) dX12_value_8 (by decide) rfl (fun q13 => ?_) (fun q13 => ?_)
    · exact r_wk (hk3 s11) ⟨Or.inr rfl, Or.inl rfl, trivial⟩
    · refine r_aload_n (pc1 := 12) (i := 0) dX12_value_11 rfl rfl rfl ?_
      refine r_callVp (pc1 := 15) (rv_of w_56 cl_12) lkX12_191 (c_X12_isGood _) rfl rfl ⟨Nat.le_of_ble_eq_true rfl, Nat.le_of_ble_eq_true rfl⟩ (Nat.le_of_ble_eq_true rfl) dX12_value_12 rfl (fun v14 => ?_)
      refine r_if_eq (tgt := 57) (pc1 := 18) dX12_value_15 (by decide) rfl (fun q15 => ?_) (fun q15 => ?_)
      · exact r_wk (hk3 s11) ⟨Or.inr rfl, Or.inl rfl, trivial⟩
      · refine r_aload_n (pc1 := 19) (i := 0) dX12_value_18 rfl rfl rfl ?_
        refine r_getI (pc1 := 22) w_56 gfX12_247 rfl dX12_value_19 rfl ?_
        refine r_jn (hyp := fun (k17 : SS → Res) => ∀ (s16 : SS), RC l wF RX12 cX12_value 2 none 4 29 [.ref 56, .null] [] s16 (k17 s16)) (fun s16 => ?_) (fun k17 hk17 => ?_)
        · refine r_aload_n (pc1 := 30) (i := 0) dX12_value_29 rfl rfl rfl ?_
          refine r_iconst (v := 0) (pc1 := 31) dX12_value_30 ki_0 rfl ?_
          refine r_putI (pc1 := 34) w_56 pfX12_247 rfl ⟨rfl, rfl⟩ dX12_value_31 rfl ?_
          refine r_lts (fun s18 => ?_)
          refine r_aload_n (pc1 := 35) (i := 0) dX12_value_34 rfl rfl rfl ?_
          refine r_callVp (pc1 := 38) (rv_of w_56 cl_12) lkX12_191 (c_X12_isGood _) rfl rfl ⟨Nat.le_of_ble_eq_true rfl, Nat.le_of_ble_eq_true rfl⟩ (Nat.le_of_ble_eq_true rfl) dX12_value_35 rfl (fun v19 => ?_)
          refine r_jn (hyp := fun (k22 : Int32 → SS → Res) => ∀ (v20 : Int32) (s21 : SS), RC l wF RX12 cX12_value 2 none 4 53 [.ref 56, .null] [.int v20] s21 (k22 v20 s21)) (fun v20 s21 => ?_) (fun k22 hk22 => ?_)
          · refine r_istore_n (pc1 := 54) (i := 1) dX12_value_53 rfl (by decide) rfl rfl rfl ?_
            refine r_goto (tgt := 7) dX12_value_54 (by decide) ?_
            exact r_wk (ih v20 s21) ⟨Or.inr rfl, Or.inr rfl, trivial⟩
          · refine r_jn (hyp := fun (k24 : SS → Res) => ∀ (s23 : SS), RC l wF RX12 cX12_value 2 none 4 52 [.ref 56, .null] [] s23 (k24 s23)) (fun s23 => ?_) (fun k24 hk24 => ?_)
            · refine r_iconst (v := 0) (pc1 := 53) dX12_value_52 ki_0 rfl ?_
              exact r_wk (hk22 0 s23) ⟨Or.inr rfl, Or.inl rfl, trivial⟩
            · refine r_if_eq (tgt := 52) (pc1 := 41) dX12_value_38 (by decide) rfl (fun q25 => ?_) (fun q25 => ?_)
              · exact r_wk (hk24 s18) ⟨Or.inr rfl, Or.inl rfl, trivial⟩
              · refine r_aload_n (pc1 := 42) (i := 0) dX12_value_41 rfl rfl rfl ?_
                refine r_callVi (pc1 := 45) (rv_of w_56 cl_12) lkX12_253 (c_X12_stays _) rfl rfl ⟨Nat.le_of_ble_eq_true rfl, Nat.le_of_ble_eq_true rfl⟩ (Nat.le_of_ble_eq_true rfl) dX12_value_42 rfl (fun v26 s27 => ?_)
                refine r_if_eq (tgt := 52) (pc1 := 48) dX12_value_45 (by decide) rfl (fun q28 => ?_) (fun q28 => ?_)
                · exact r_wk (hk24 s27) ⟨Or.inr rfl, Or.inl rfl, trivial⟩
                · refine r_iconst (v := 1) (pc1 := 49) dX12_value_48 ki_1 rfl ?_
                  refine r_goto (tgt := 53) dX12_value_49 (by decide) ?_
                  exact r_wk (hk22 1 s27) ⟨Or.inr rfl, Or.inl rfl, trivial⟩
        · refine r_if_ne (tgt := 29) (pc1 := 25) dX12_value_22 (by decide) rfl (fun q29 => ?_) (fun q29 => ?_)
          · refine r_aload_n (pc1 := 26) (i := 0) dX12_value_25 rfl rfl rfl ?_
            refine r_callVv (pc1 := 29) (rv_of w_56 cl_12) lkX12_250 (c_X12_factor _) rfl rfl ⟨Nat.le_of_ble_eq_true rfl, Nat.le_of_ble_eq_true rfl⟩ (Nat.le_of_ble_eq_true rfl) dX12_value_26 rfl (fun v30 s31 => ?_)
            exact r_wk (hk17 s31) ⟨Or.inr rfl, Or.inl rfl, trivial⟩
          · exact r_wk (hk17 s11) ⟨Or.inr rfl, Or.inl rfl, trivial⟩
set_option maxRecDepth 100000 in
set_option maxHeartbeats 4000000 in
theorem c_X12_value {l : Launch}  (s0 : SS) : Ct l wF yX12_value cX12_value 2 none 4 [.ref 56] s0 (f_X12_value s0) := by
  refine ct_of (y := yX12_value) plX12 (Nat.le_of_ble_eq_true rfl) ?_
  refine r_pad0 1 (L1 := [.ref 56, .null]) rfl ?_
  unfold f_X12_value
  refine r_iconst (v := 1) (pc1 := 1) dX12_value_0 ki_1 rfl ?_
  refine r_istore_n (pc1 := 2) (i := 1) dX12_value_1 rfl (by decide) rfl rfl rfl ?_
  refine r_aload_n (pc1 := 3) (i := 0) dX12_value_2 rfl rfl rfl ?_
  refine r_iconst (v := 0) (pc1 := 4) dX12_value_3 ki_0 rfl ?_
  refine r_putI (pc1 := 7) w_56 pfX12_247 rfl ⟨rfl, rfl⟩ dX12_value_4 rfl ?_
  refine r_lts (fun s1 => ?_)
  refine r_jn (hyp := fun (k3 : SS → Res) => ∀ (s2 : SS), RC l wF RX12 cX12_value 2 none 4 57 [.ref 56, .null] [] s2 (k3 s2)) (fun s2 => ?_) (fun k3 hk3 => ?_)
  · refine r_aload_n (pc1 := 58) (i := 0) dX12_value_57 rfl rfl rfl ?_
    refine r_callVp (pc1 := 61) (rv_of w_56 cl_12) lkX12_191 (c_X12_isGood _) rfl rfl ⟨Nat.le_of_ble_eq_true rfl, Nat.le_of_ble_eq_true rfl⟩ (Nat.le_of_ble_eq_true rfl) dX12_value_58 rfl (fun v4 => ?_)
    refine r_if_eq (tgt := 82) (pc1 := 64) dX12_value_61 (by decide) rfl (fun q5 => ?_) (fun q5 => ?_)
    · exact r_vret rfl dX12_value_82
    · refine r_aload_n (pc1 := 65) (i := 0) dX12_value_64 rfl rfl rfl ?_
      refine r_callVp (pc1 := 68) (rv_of w_56 cl_12) lkX12_222 (c_X12_top _) rfl rfl ⟨Nat.le_of_ble_eq_true rfl, Nat.le_of_ble_eq_true rfl⟩ (Nat.le_of_ble_eq_true rfl) dX12_value_65 rfl (fun v6 => ?_)
      refine r_bipush (v := 91) (pc1 := 70) dX12_value_68 kb_91 rfl ?_
      refine r_icmp_ne (tgt := 82) (pc1 := 73) dX12_value_70 (by decide) rfl (fun q7 => ?_) (fun q7 => ?_)
      · refine r_aload_n (pc1 := 74) (i := 0) dX12_value_73 rfl rfl rfl ?_
        refine r_iconst (v := 1) (pc1 := 75) dX12_value_74 ki_1 rfl ?_
        refine r_aload_n (pc1 := 76) (i := 0) dX12_value_75 rfl rfl rfl ?_
        refine r_getI (pc1 := 79) w_56 gfX12_182 rfl dX12_value_76 rfl ?_
        refine r_callVv (pc1 := 82) (rv_of w_56 cl_12) lkX12_204 (c_X12_wrongs _ _ _) rfl rfl ⟨Nat.le_of_ble_eq_true rfl, Nat.le_of_ble_eq_true rfl⟩ (Nat.le_of_ble_eq_true rfl) dX12_value_79 rfl (fun v8 s9 => ?_)
        exact r_vret rfl dX12_value_82
      · exact r_vret rfl dX12_value_82
  · exact r_wk (t_lp_X12_value_7 k3 hk3 FU 1 s1) ⟨Or.inr rfl, Or.inr rfl, trivial⟩
