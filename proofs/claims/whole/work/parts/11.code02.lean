theorem dX4_readPiece_0 : decode cX4_readPiece 0 = .ok (.aload_n 0, 1) := by decide +kernel
theorem dX4_readPiece_1 : decode cX4_readPiece 1 = .ok (.getfield 38, 3) := by decide +kernel
theorem dX4_readPiece_4 : decode cX4_readPiece 4 = .ok (.ifCond .eq 4, 3) := by decide +kernel
theorem dX4_readPiece_7 : decode cX4_readPiece 7 = .ok (.return_, 1) := by decide +kernel
theorem dX4_readPiece_8 : decode cX4_readPiece 8 = .ok (.aload_n 0, 1) := by decide +kernel
theorem dX4_readPiece_9 : decode cX4_readPiece 9 = .ok (.invokevirtual 61, 3) := by decide +kernel
theorem dX4_readPiece_12 : decode cX4_readPiece 12 = .ok (.bipush 33, 2) := by decide +kernel
theorem dX4_readPiece_14 : decode cX4_readPiece 14 = .ok (.if_icmp .ne 32, 3) := by decide +kernel
theorem dX4_readPiece_17 : decode cX4_readPiece 17 = .ok (.aload_n 0, 1) := by decide +kernel
theorem dX4_readPiece_18 : decode cX4_readPiece 18 = .ok (.iload_n 1, 1) := by decide +kernel
theorem dX4_readPiece_19 : decode cX4_readPiece 19 = .ok (.invokevirtual 92, 3) := by decide +kernel
theorem dX4_readPiece_22 : decode cX4_readPiece 22 = .ok (.ifCond .eq 62, 3) := by decide +kernel
theorem dX4_readPiece_25 : decode cX4_readPiece 25 = .ok (.aload_n 0, 1) := by decide +kernel
theorem dX4_readPiece_26 : decode cX4_readPiece 26 = .ok (.iload_n 1, 1) := by decide +kernel
theorem dX4_readPiece_27 : decode cX4_readPiece 27 = .ok (.iconst 1, 1) := by decide +kernel
theorem dX4_readPiece_28 : decode cX4_readPiece 28 = .ok (.iadd, 1) := by decide +kernel
theorem dX4_readPiece_29 : decode cX4_readPiece 29 = .ok (.invokevirtual 89, 3) := by decide +kernel
theorem dX4_readPiece_32 : decode cX4_readPiece 32 = .ok (.aload_n 0, 1) := by decide +kernel
theorem dX4_readPiece_33 : decode cX4_readPiece 33 = .ok (.getfield 18, 3) := by decide +kernel
theorem dX4_readPiece_36 : decode cX4_readPiece 36 = .ok (.bipush 33, 2) := by decide +kernel
theorem dX4_readPiece_38 : decode cX4_readPiece 38 = .ok (.iconst 0, 1) := by decide +kernel
theorem dX4_readPiece_39 : decode cX4_readPiece 39 = .ok (.invokevirtual 86, 3) := by decide +kernel
theorem dX4_readPiece_42 : decode cX4_readPiece 42 = .ok (.pop, 1) := by decide +kernel
theorem dX4_readPiece_43 : decode cX4_readPiece 43 = .ok (.goto 41, 3) := by decide +kernel
theorem dX4_readPiece_46 : decode cX4_readPiece 46 = .ok (.aload_n 0, 1) := by decide +kernel
theorem dX4_readPiece_47 : decode cX4_readPiece 47 = .ok (.invokevirtual 61, 3) := by decide +kernel
theorem dX4_readPiece_50 : decode cX4_readPiece 50 = .ok (.bipush 40, 2) := by decide +kernel
theorem dX4_readPiece_52 : decode cX4_readPiece 52 = .ok (.if_icmp .ne 27, 3) := by decide +kernel
theorem dX4_readPiece_55 : decode cX4_readPiece 55 = .ok (.aload_n 0, 1) := by decide +kernel
theorem dX4_readPiece_56 : decode cX4_readPiece 56 = .ok (.iload_n 1, 1) := by decide +kernel
theorem dX4_readPiece_57 : decode cX4_readPiece 57 = .ok (.invokevirtual 92, 3) := by decide +kernel
theorem dX4_readPiece_60 : decode cX4_readPiece 60 = .ok (.ifCond .eq 24, 3) := by decide +kernel
theorem dX4_readPiece_63 : decode cX4_readPiece 63 = .ok (.aload_n 0, 1) := by decide +kernel
theorem dX4_readPiece_64 : decode cX4_readPiece 64 = .ok (.iload_n 1, 1) := by decide +kernel
theorem dX4_readPiece_65 : decode cX4_readPiece 65 = .ok (.iconst 1, 1) := by decide +kernel
theorem dX4_readPiece_66 : decode cX4_readPiece 66 = .ok (.iadd, 1) := by decide +kernel
theorem dX4_readPiece_67 : decode cX4_readPiece 67 = .ok (.invokevirtual 73, 3) := by decide +kernel
theorem dX4_readPiece_70 : decode cX4_readPiece 70 = .ok (.aload_n 0, 1) := by decide +kernel
theorem dX4_readPiece_71 : decode cX4_readPiece 71 = .ok (.bipush 41, 2) := by decide +kernel
theorem dX4_readPiece_73 : decode cX4_readPiece 73 = .ok (.invokevirtual 54, 3) := by decide +kernel
theorem dX4_readPiece_76 : decode cX4_readPiece 76 = .ok (.goto 8, 3) := by decide +kernel
theorem dX4_readPiece_79 : decode cX4_readPiece 79 = .ok (.aload_n 0, 1) := by decide +kernel
theorem dX4_readPiece_80 : decode cX4_readPiece 80 = .ok (.iload_n 1, 1) := by decide +kernel
theorem dX4_readPiece_81 : decode cX4_readPiece 81 = .ok (.invokevirtual 96, 3) := by decide +kernel
theorem dX4_readPiece_84 : decode cX4_readPiece 84 = .ok (.return_, 1) := by decide +kernel
theorem dX1_addClause_0 : decode cX1_addClause 0 = .ok (.aload_n 0, 1) := by decide +kernel
theorem dX1_addClause_1 : decode cX1_addClause 1 = .ok (.getfield 33, 3) := by decide +kernel
theorem dX1_addClause_4 : decode cX1_addClause 4 = .ok (.ifCond .lt 12, 3) := by decide +kernel
theorem dX1_addClause_7 : decode cX1_addClause 7 = .ok (.aload_n 0, 1) := by decide +kernel
theorem dX1_addClause_8 : decode cX1_addClause 8 = .ok (.getfield 33, 3) := by decide +kernel
theorem dX1_addClause_11 : decode cX1_addClause 11 = .ok (.bipush 14, 2) := by decide +kernel
theorem dX1_addClause_13 : decode cX1_addClause 13 = .ok (.if_icmp .lt 4, 3) := by decide +kernel
theorem dX1_addClause_16 : decode cX1_addClause 16 = .ok (.return_, 1) := by decide +kernel
theorem dX1_addClause_17 : decode cX1_addClause 17 = .ok (.aload_n 0, 1) := by decide +kernel
theorem dX1_addClause_18 : decode cX1_addClause 18 = .ok (.getfield 18, 3) := by decide +kernel
theorem dX1_addClause_21 : decode cX1_addClause 21 = .ok (.aload_n 0, 1) := by decide +kernel
theorem dX1_addClause_22 : decode cX1_addClause 22 = .ok (.getfield 33, 3) := by decide +kernel
theorem dX1_addClause_25 : decode cX1_addClause 25 = .ok (.iload_n 1, 1) := by decide +kernel
theorem dX1_addClause_26 : decode cX1_addClause 26 = .ok (.iastore, 1) := by decide +kernel
theorem dX1_addClause_27 : decode cX1_addClause 27 = .ok (.aload_n 0, 1) := by decide +kernel
theorem dX1_addClause_28 : decode cX1_addClause 28 = .ok (.getfield 21, 3) := by decide +kernel
theorem dX1_addClause_31 : decode cX1_addClause 31 = .ok (.aload_n 0, 1) := by decide +kernel
theorem dX1_addClause_32 : decode cX1_addClause 32 = .ok (.getfield 33, 3) := by decide +kernel
theorem dX1_addClause_35 : decode cX1_addClause 35 = .ok (.iload_n 2, 1) := by decide +kernel
theorem dX1_addClause_36 : decode cX1_addClause 36 = .ok (.iastore, 1) := by decide +kernel
theorem dX1_addClause_37 : decode cX1_addClause 37 = .ok (.aload_n 0, 1) := by decide +kernel
theorem dX1_addClause_38 : decode cX1_addClause 38 = .ok (.getfield 24, 3) := by decide +kernel
theorem dX1_addClause_41 : decode cX1_addClause 41 = .ok (.aload_n 0, 1) := by decide +kernel
theorem dX1_addClause_42 : decode cX1_addClause 42 = .ok (.getfield 33, 3) := by decide +kernel
theorem dX1_addClause_45 : decode cX1_addClause 45 = .ok (.iload_n 3, 1) := by decide +kernel
theorem dX1_addClause_46 : decode cX1_addClause 46 = .ok (.iastore, 1) := by decide +kernel
theorem dX1_addClause_47 : decode cX1_addClause 47 = .ok (.aload_n 0, 1) := by decide +kernel
theorem dX1_addClause_48 : decode cX1_addClause 48 = .ok (.getfield 27, 3) := by decide +kernel
theorem dX1_addClause_51 : decode cX1_addClause 51 = .ok (.aload_n 0, 1) := by decide +kernel
theorem dX1_addClause_52 : decode cX1_addClause 52 = .ok (.getfield 33, 3) := by decide +kernel
theorem dX1_addClause_55 : decode cX1_addClause 55 = .ok (.aload_n 0, 1) := by decide +kernel
theorem dX1_addClause_56 : decode cX1_addClause 56 = .ok (.getfield 37, 3) := by decide +kernel
theorem dX1_addClause_59 : decode cX1_addClause 59 = .ok (.iastore, 1) := by decide +kernel
theorem dX1_addClause_60 : decode cX1_addClause 60 = .ok (.aload_n 0, 1) := by decide +kernel
theorem dX1_addClause_61 : decode cX1_addClause 61 = .ok (.dup, 1) := by decide +kernel
theorem dX1_addClause_62 : decode cX1_addClause 62 = .ok (.getfield 33, 3) := by decide +kernel
theorem dX1_addClause_65 : decode cX1_addClause 65 = .ok (.iconst 1, 1) := by decide +kernel
theorem dX1_addClause_66 : decode cX1_addClause 66 = .ok (.iadd, 1) := by decide +kernel
theorem dX1_addClause_67 : decode cX1_addClause 67 = .ok (.putfield 33, 3) := by decide +kernel
theorem dX1_addClause_70 : decode cX1_addClause 70 = .ok (.return_, 1) := by decide +kernel
theorem dX4_readClause_0 : decode cX4_readClause 0 = .ok (.aload_n 0, 1) := by decide +kernel
theorem dX4_readClause_1 : decode cX4_readClause 1 = .ok (.invokevirtual 61, 3) := by decide +kernel
theorem dX4_readClause_4 : decode cX4_readClause 4 = .ok (.istore_n 2, 1) := by decide +kernel
theorem dX4_readClause_5 : decode cX4_readClause 5 = .ok (.aload_n 0, 1) := by decide +kernel
theorem dX4_readClause_6 : decode cX4_readClause 6 = .ok (.getfield 38, 3) := by decide +kernel
theorem dX4_readClause_9 : decode cX4_readClause 9 = .ok (.ifCond .ne 15, 3) := by decide +kernel
theorem dX4_readClause_12 : decode cX4_readClause 12 = .ok (.iload_n 2, 1) := by decide +kernel
theorem dX4_readClause_13 : decode cX4_readClause 13 = .ok (.bipush 118, 2) := by decide +kernel
theorem dX4_readClause_15 : decode cX4_readClause 15 = .ok (.if_icmp .eq 15, 3) := by decide +kernel
theorem dX4_readClause_18 : decode cX4_readClause 18 = .ok (.iload_n 2, 1) := by decide +kernel
theorem dX4_readClause_19 : decode cX4_readClause 19 = .ok (.bipush 109, 2) := by decide +kernel
theorem dX4_readClause_21 : decode cX4_readClause 21 = .ok (.if_icmp .eq 9, 3) := by decide +kernel
theorem dX4_readClause_24 : decode cX4_readClause 24 = .ok (.aload_n 0, 1) := by decide +kernel
theorem dX4_readClause_25 : decode cX4_readClause 25 = .ok (.iconst 1, 1) := by decide +kernel
theorem dX4_readClause_26 : decode cX4_readClause 26 = .ok (.invokevirtual 64, 3) := by decide +kernel
theorem dX4_readClause_29 : decode cX4_readClause 29 = .ok (.return_, 1) := by decide +kernel
theorem dX4_readClause_30 : decode cX4_readClause 30 = .ok (.iload_n 1, 1) := by decide +kernel
theorem dX4_readClause_31 : decode cX4_readClause 31 = .ok (.bipush 14, 2) := by decide +kernel
theorem dX4_readClause_33 : decode cX4_readClause 33 = .ok (.if_icmp .lt 9, 3) := by decide +kernel
theorem dX4_readClause_36 : decode cX4_readClause 36 = .ok (.aload_n 0, 1) := by decide +kernel
theorem dX4_readClause_37 : decode cX4_readClause 37 = .ok (.iconst 4, 1) := by decide +kernel
theorem dX4_readClause_38 : decode cX4_readClause 38 = .ok (.invokevirtual 64, 3) := by decide +kernel
theorem dX4_readClause_41 : decode cX4_readClause 41 = .ok (.return_, 1) := by decide +kernel
theorem dX4_readClause_42 : decode cX4_readClause 42 = .ok (.aload_n 0, 1) := by decide +kernel
theorem dX4_readClause_43 : decode cX4_readClause 43 = .ok (.dup, 1) := by decide +kernel
theorem dX4_readClause_44 : decode cX4_readClause 44 = .ok (.getfield 35, 3) := by decide +kernel
theorem dX4_readClause_47 : decode cX4_readClause 47 = .ok (.iconst 1, 1) := by decide +kernel
theorem dX4_readClause_48 : decode cX4_readClause 48 = .ok (.iadd, 1) := by decide +kernel
theorem dX4_readClause_49 : decode cX4_readClause 49 = .ok (.putfield 35, 3) := by decide +kernel
theorem dX4_readClause_52 : decode cX4_readClause 52 = .ok (.aload_n 0, 1) := by decide +kernel
theorem dX4_readClause_53 : decode cX4_readClause 53 = .ok (.getfield 18, 3) := by decide +kernel
theorem dX4_readClause_56 : decode cX4_readClause 56 = .ok (.invokevirtual 67, 3) := by decide +kernel
theorem dX4_readClause_59 : decode cX4_readClause 59 = .ok (.istore_n 3, 1) := by decide +kernel
theorem dX4_readClause_60 : decode cX4_readClause 60 = .ok (.aload_n 0, 1) := by decide +kernel
theorem dX4_readClause_61 : decode cX4_readClause 61 = .ok (.iconst 0, 1) := by decide +kernel
theorem dX4_readClause_62 : decode cX4_readClause 62 = .ok (.invokevirtual 70, 3) := by decide +kernel
theorem dX4_readClause_65 : decode cX4_readClause 65 = .ok (.aload_n 0, 1) := by decide +kernel
theorem dX4_readClause_66 : decode cX4_readClause 66 = .ok (.getfield 18, 3) := by decide +kernel
theorem dX4_readClause_69 : decode cX4_readClause 69 = .ok (.invokevirtual 67, 3) := by decide +kernel
theorem dX4_readClause_72 : decode cX4_readClause 72 = .ok (.istore 4, 2) := by decide +kernel
theorem dX4_readClause_74 : decode cX4_readClause 74 = .ok (.aload_n 0, 1) := by decide +kernel
theorem dX4_readClause_75 : decode cX4_readClause 75 = .ok (.bipush 40, 2) := by decide +kernel
theorem dX4_readClause_77 : decode cX4_readClause 77 = .ok (.invokevirtual 54, 3) := by decide +kernel
theorem dX4_readClause_80 : decode cX4_readClause 80 = .ok (.aload_n 0, 1) := by decide +kernel
theorem dX4_readClause_81 : decode cX4_readClause 81 = .ok (.iconst 1, 1) := by decide +kernel
theorem dX4_readClause_82 : decode cX4_readClause 82 = .ok (.invokevirtual 73, 3) := by decide +kernel
theorem dX4_readClause_85 : decode cX4_readClause 85 = .ok (.aload_n 0, 1) := by decide +kernel
theorem dX4_readClause_86 : decode cX4_readClause 86 = .ok (.bipush 41, 2) := by decide +kernel
theorem dX4_readClause_88 : decode cX4_readClause 88 = .ok (.invokevirtual 54, 3) := by decide +kernel
theorem dX4_readClause_91 : decode cX4_readClause 91 = .ok (.aload_n 0, 1) := by decide +kernel
theorem dX4_readClause_92 : decode cX4_readClause 92 = .ok (.getfield 18, 3) := by decide +kernel
theorem dX4_readClause_95 : decode cX4_readClause 95 = .ok (.iload_n 2, 1) := by decide +kernel
theorem dX4_readClause_96 : decode cX4_readClause 96 = .ok (.iload_n 3, 1) := by decide +kernel
theorem dX4_readClause_97 : decode cX4_readClause 97 = .ok (.iload 4, 2) := by decide +kernel
theorem dX4_readClause_99 : decode cX4_readClause 99 = .ok (.invokevirtual 76, 3) := by decide +kernel
theorem dX4_readClause_102 : decode cX4_readClause 102 = .ok (.return_, 1) := by decide +kernel
theorem dX1_clauseCount_0 : decode cX1_clauseCount 0 = .ok (.aload_n 0, 1) := by decide +kernel
theorem dX1_clauseCount_1 : decode cX1_clauseCount 1 = .ok (.getfield 33, 3) := by decide +kernel
theorem dX1_clauseCount_4 : decode cX1_clauseCount 4 = .ok (.ireturn, 1) := by decide +kernel
theorem dX4_readFrom_0 : decode cX4_readFrom 0 = .ok (.aload_n 0, 1) := by decide +kernel
theorem dX4_readFrom_1 : decode cX4_readFrom 1 = .ok (.iconst 0, 1) := by decide +kernel
theorem dX4_readFrom_2 : decode cX4_readFrom 2 = .ok (.iload_n 2, 1) := by decide +kernel
theorem dX4_readFrom_3 : decode cX4_readFrom 3 = .ok (.sipush 200, 3) := by decide +kernel
theorem dX4_readFrom_6 : decode cX4_readFrom 6 = .ok (.invokestatic 22, 3) := by decide +kernel
theorem dX4_readFrom_9 : decode cX4_readFrom 9 = .ok (.invokestatic 28, 3) := by decide +kernel
theorem dX4_readFrom_12 : decode cX4_readFrom 12 = .ok (.putfield 31, 3) := by decide +kernel
theorem dX4_readFrom_15 : decode cX4_readFrom 15 = .ok (.aload_n 0, 1) := by decide +kernel
theorem dX4_readFrom_16 : decode cX4_readFrom 16 = .ok (.iconst 0, 1) := by decide +kernel
theorem dX4_readFrom_17 : decode cX4_readFrom 17 = .ok (.putfield 35, 3) := by decide +kernel
theorem dX4_readFrom_20 : decode cX4_readFrom 20 = .ok (.aload_n 0, 1) := by decide +kernel
theorem dX4_readFrom_21 : decode cX4_readFrom 21 = .ok (.iconst 0, 1) := by decide +kernel
theorem dX4_readFrom_22 : decode cX4_readFrom 22 = .ok (.putfield 38, 3) := by decide +kernel
theorem dX4_readFrom_25 : decode cX4_readFrom 25 = .ok (.iconst 0, 1) := by decide +kernel
theorem dX4_readFrom_26 : decode cX4_readFrom 26 = .ok (.istore_n 3, 1) := by decide +kernel
theorem dX4_readFrom_27 : decode cX4_readFrom 27 = .ok (.iload_n 3, 1) := by decide +kernel
theorem dX4_readFrom_28 : decode cX4_readFrom 28 = .ok (.aload_n 0, 1) := by decide +kernel
theorem dX4_readFrom_29 : decode cX4_readFrom 29 = .ok (.getfield 31, 3) := by decide +kernel
theorem dX4_readFrom_32 : decode cX4_readFrom 32 = .ok (.if_icmp .ge 20, 3) := by decide +kernel
theorem dX4_readFrom_35 : decode cX4_readFrom 35 = .ok (.aload_n 0, 1) := by decide +kernel
theorem dX4_readFrom_36 : decode cX4_readFrom 36 = .ok (.getfield 9, 3) := by decide +kernel
theorem dX4_readFrom_39 : decode cX4_readFrom 39 = .ok (.iload_n 3, 1) := by decide +kernel
theorem dX4_readFrom_40 : decode cX4_readFrom 40 = .ok (.aload_n 1, 1) := by decide +kernel
theorem dX4_readFrom_41 : decode cX4_readFrom 41 = .ok (.iload_n 3, 1) := by decide +kernel
theorem dX4_readFrom_42 : decode cX4_readFrom 42 = .ok (.invokevirtual 41, 3) := by decide +kernel
theorem dX4_readFrom_45 : decode cX4_readFrom 45 = .ok (.iastore, 1) := by decide +kernel
theorem dX4_readFrom_46 : decode cX4_readFrom 46 = .ok (.iinc 3 1, 3) := by decide +kernel
theorem dX4_readFrom_49 : decode cX4_readFrom 49 = .ok (.goto (-22), 3) := by decide +kernel
theorem dX4_readFrom_52 : decode cX4_readFrom 52 = .ok (.aload_n 0, 1) := by decide +kernel
theorem dX4_readFrom_53 : decode cX4_readFrom 53 = .ok (.getfield 18, 3) := by decide +kernel
theorem dX4_readFrom_56 : decode cX4_readFrom 56 = .ok (.invokevirtual 47, 3) := by decide +kernel
theorem dX4_readFrom_59 : decode cX4_readFrom 59 = .ok (.aload_n 0, 1) := by decide +kernel
theorem dX4_readFrom_60 : decode cX4_readFrom 60 = .ok (.iconst 0, 1) := by decide +kernel
theorem dX4_readFrom_61 : decode cX4_readFrom 61 = .ok (.invokevirtual 50, 3) := by decide +kernel
theorem dX4_readFrom_64 : decode cX4_readFrom 64 = .ok (.iconst 1, 1) := by decide +kernel
theorem dX4_readFrom_65 : decode cX4_readFrom 65 = .ok (.istore_n 3, 1) := by decide +kernel
theorem dX4_readFrom_66 : decode cX4_readFrom 66 = .ok (.iload_n 3, 1) := by decide +kernel
theorem dX4_readFrom_67 : decode cX4_readFrom 67 = .ok (.bipush 14, 2) := by decide +kernel
theorem dX4_readFrom_69 : decode cX4_readFrom 69 = .ok (.if_icmp .gt 38, 3) := by decide +kernel
theorem dX4_readFrom_72 : decode cX4_readFrom 72 = .ok (.aload_n 0, 1) := by decide +kernel
theorem dX4_readFrom_73 : decode cX4_readFrom 73 = .ok (.getfield 38, 3) := by decide +kernel
theorem dX4_readFrom_76 : decode cX4_readFrom 76 = .ok (.ifCond .ne 31, 3) := by decide +kernel
theorem dX4_readFrom_79 : decode cX4_readFrom 79 = .ok (.aload_n 0, 1) := by decide +kernel
theorem dX4_readFrom_80 : decode cX4_readFrom 80 = .ok (.getfield 35, 3) := by decide +kernel
theorem dX4_readFrom_83 : decode cX4_readFrom 83 = .ok (.aload_n 0, 1) := by decide +kernel
theorem dX4_readFrom_84 : decode cX4_readFrom 84 = .ok (.getfield 31, 3) := by decide +kernel
theorem dX4_readFrom_87 : decode cX4_readFrom 87 = .ok (.if_icmp .ge 20, 3) := by decide +kernel
theorem dX4_readFrom_90 : decode cX4_readFrom 90 = .ok (.aload_n 0, 1) := by decide +kernel
theorem dX4_readFrom_91 : decode cX4_readFrom 91 = .ok (.bipush 59, 2) := by decide +kernel
theorem dX4_readFrom_93 : decode cX4_readFrom 93 = .ok (.invokevirtual 54, 3) := by decide +kernel
theorem dX4_readFrom_96 : decode cX4_readFrom 96 = .ok (.aload_n 0, 1) := by decide +kernel
theorem dX4_readFrom_97 : decode cX4_readFrom 97 = .ok (.iload_n 3, 1) := by decide +kernel
theorem dX4_readFrom_98 : decode cX4_readFrom 98 = .ok (.invokevirtual 50, 3) := by decide +kernel
theorem dX4_readFrom_101 : decode cX4_readFrom 101 = .ok (.iinc 3 1, 3) := by decide +kernel
theorem dX4_readFrom_104 : decode cX4_readFrom 104 = .ok (.goto (-38), 3) := by decide +kernel
theorem dX4_readFrom_107 : decode cX4_readFrom 107 = .ok (.aload_n 0, 1) := by decide +kernel
theorem dX4_readFrom_108 : decode cX4_readFrom 108 = .ok (.getfield 38, 3) := by decide +kernel
theorem dX4_readFrom_111 : decode cX4_readFrom 111 = .ok (.ifCond .eq 10, 3) := by decide +kernel
theorem dX4_readFrom_114 : decode cX4_readFrom 114 = .ok (.aload_n 0, 1) := by decide +kernel
theorem dX4_readFrom_115 : decode cX4_readFrom 115 = .ok (.getfield 38, 3) := by decide +kernel
theorem dX4_readFrom_118 : decode cX4_readFrom 118 = .ok (.goto 10, 3) := by decide +kernel
theorem dX4_readFrom_121 : decode cX4_readFrom 121 = .ok (.aload_n 0, 1) := by decide +kernel
theorem dX4_readFrom_122 : decode cX4_readFrom 122 = .ok (.getfield 18, 3) := by decide +kernel
theorem dX4_readFrom_125 : decode cX4_readFrom 125 = .ok (.invokevirtual 57, 3) := by decide +kernel
theorem dX4_readFrom_128 : decode cX4_readFrom 128 = .ok (.ireturn, 1) := by decide +kernel
theorem dX1_copyFrom_0 : decode cX1_copyFrom 0 = .ok (.aload_n 1, 1) := by decide +kernel
theorem dX1_copyFrom_1 : decode cX1_copyFrom 1 = .ok (.getfield 9, 3) := by decide +kernel
theorem dX1_copyFrom_4 : decode cX1_copyFrom 4 = .ok (.iconst 0, 1) := by decide +kernel
theorem dX1_copyFrom_5 : decode cX1_copyFrom 5 = .ok (.aload_n 0, 1) := by decide +kernel
theorem dX1_copyFrom_6 : decode cX1_copyFrom 6 = .ok (.getfield 9, 3) := by decide +kernel
theorem dX1_copyFrom_9 : decode cX1_copyFrom 9 = .ok (.iconst 0, 1) := by decide +kernel
theorem dX1_copyFrom_10 : decode cX1_copyFrom 10 = .ok (.sipush 200, 3) := by decide +kernel
theorem dX1_copyFrom_13 : decode cX1_copyFrom 13 = .ok (.invokestatic 40, 3) := by decide +kernel
theorem dX1_copyFrom_16 : decode cX1_copyFrom 16 = .ok (.aload_n 1, 1) := by decide +kernel
theorem dX1_copyFrom_17 : decode cX1_copyFrom 17 = .ok (.getfield 15, 3) := by decide +kernel
theorem dX1_copyFrom_20 : decode cX1_copyFrom 20 = .ok (.iconst 0, 1) := by decide +kernel
theorem dX1_copyFrom_21 : decode cX1_copyFrom 21 = .ok (.aload_n 0, 1) := by decide +kernel
theorem dX1_copyFrom_22 : decode cX1_copyFrom 22 = .ok (.getfield 15, 3) := by decide +kernel
theorem dX1_copyFrom_25 : decode cX1_copyFrom 25 = .ok (.iconst 0, 1) := by decide +kernel
theorem dX1_copyFrom_26 : decode cX1_copyFrom 26 = .ok (.sipush 200, 3) := by decide +kernel
theorem dX1_copyFrom_29 : decode cX1_copyFrom 29 = .ok (.invokestatic 40, 3) := by decide +kernel
theorem dX1_copyFrom_32 : decode cX1_copyFrom 32 = .ok (.aload_n 1, 1) := by decide +kernel
theorem dX1_copyFrom_33 : decode cX1_copyFrom 33 = .ok (.getfield 18, 3) := by decide +kernel
theorem dX1_copyFrom_36 : decode cX1_copyFrom 36 = .ok (.iconst 0, 1) := by decide +kernel
theorem dX1_copyFrom_37 : decode cX1_copyFrom 37 = .ok (.aload_n 0, 1) := by decide +kernel
theorem dX1_copyFrom_38 : decode cX1_copyFrom 38 = .ok (.getfield 18, 3) := by decide +kernel
theorem dX1_copyFrom_41 : decode cX1_copyFrom 41 = .ok (.iconst 0, 1) := by decide +kernel
theorem dX1_copyFrom_42 : decode cX1_copyFrom 42 = .ok (.bipush 14, 2) := by decide +kernel
theorem dX1_copyFrom_44 : decode cX1_copyFrom 44 = .ok (.invokestatic 40, 3) := by decide +kernel
theorem dX1_copyFrom_47 : decode cX1_copyFrom 47 = .ok (.aload_n 1, 1) := by decide +kernel
theorem dX1_copyFrom_48 : decode cX1_copyFrom 48 = .ok (.getfield 21, 3) := by decide +kernel
theorem dX1_copyFrom_51 : decode cX1_copyFrom 51 = .ok (.iconst 0, 1) := by decide +kernel
theorem dX1_copyFrom_52 : decode cX1_copyFrom 52 = .ok (.aload_n 0, 1) := by decide +kernel
theorem dX1_copyFrom_53 : decode cX1_copyFrom 53 = .ok (.getfield 21, 3) := by decide +kernel
theorem dX1_copyFrom_56 : decode cX1_copyFrom 56 = .ok (.iconst 0, 1) := by decide +kernel
theorem dX1_copyFrom_57 : decode cX1_copyFrom 57 = .ok (.bipush 14, 2) := by decide +kernel
theorem dX1_copyFrom_59 : decode cX1_copyFrom 59 = .ok (.invokestatic 40, 3) := by decide +kernel
theorem dX1_copyFrom_62 : decode cX1_copyFrom 62 = .ok (.aload_n 1, 1) := by decide +kernel
theorem dX1_copyFrom_63 : decode cX1_copyFrom 63 = .ok (.getfield 24, 3) := by decide +kernel
theorem dX1_copyFrom_66 : decode cX1_copyFrom 66 = .ok (.iconst 0, 1) := by decide +kernel
theorem dX1_copyFrom_67 : decode cX1_copyFrom 67 = .ok (.aload_n 0, 1) := by decide +kernel
theorem dX1_copyFrom_68 : decode cX1_copyFrom 68 = .ok (.getfield 24, 3) := by decide +kernel
theorem dX1_copyFrom_71 : decode cX1_copyFrom 71 = .ok (.iconst 0, 1) := by decide +kernel
theorem dX1_copyFrom_72 : decode cX1_copyFrom 72 = .ok (.bipush 14, 2) := by decide +kernel
theorem dX1_copyFrom_74 : decode cX1_copyFrom 74 = .ok (.invokestatic 40, 3) := by decide +kernel
theorem dX1_copyFrom_77 : decode cX1_copyFrom 77 = .ok (.aload_n 1, 1) := by decide +kernel
theorem dX1_copyFrom_78 : decode cX1_copyFrom 78 = .ok (.getfield 27, 3) := by decide +kernel
theorem dX1_copyFrom_81 : decode cX1_copyFrom 81 = .ok (.iconst 0, 1) := by decide +kernel
theorem dX1_copyFrom_82 : decode cX1_copyFrom 82 = .ok (.aload_n 0, 1) := by decide +kernel
theorem dX1_copyFrom_83 : decode cX1_copyFrom 83 = .ok (.getfield 27, 3) := by decide +kernel
theorem dX1_copyFrom_86 : decode cX1_copyFrom 86 = .ok (.iconst 0, 1) := by decide +kernel
theorem dX1_copyFrom_87 : decode cX1_copyFrom 87 = .ok (.bipush 14, 2) := by decide +kernel
theorem dX1_copyFrom_89 : decode cX1_copyFrom 89 = .ok (.invokestatic 40, 3) := by decide +kernel
theorem dX1_copyFrom_92 : decode cX1_copyFrom 92 = .ok (.aload_n 0, 1) := by decide +kernel
theorem dX1_copyFrom_93 : decode cX1_copyFrom 93 = .ok (.aload_n 1, 1) := by decide +kernel
theorem dX1_copyFrom_94 : decode cX1_copyFrom 94 = .ok (.getfield 37, 3) := by decide +kernel
theorem dX1_copyFrom_97 : decode cX1_copyFrom 97 = .ok (.putfield 37, 3) := by decide +kernel
theorem dX1_copyFrom_100 : decode cX1_copyFrom 100 = .ok (.aload_n 0, 1) := by decide +kernel
theorem dX1_copyFrom_101 : decode cX1_copyFrom 101 = .ok (.aload_n 1, 1) := by decide +kernel
theorem dX1_copyFrom_102 : decode cX1_copyFrom 102 = .ok (.getfield 33, 3) := by decide +kernel
theorem dX1_copyFrom_105 : decode cX1_copyFrom 105 = .ok (.putfield 33, 3) := by decide +kernel
theorem dX1_copyFrom_108 : decode cX1_copyFrom 108 = .ok (.return_, 1) := by decide +kernel
theorem dX11_text_0 : decode cX11_text 0 = .ok (.iload_n 1, 1) := by decide +kernel
theorem dX11_text_1 : decode cX11_text 1 = .ok (.iconst 1, 1) := by decide +kernel
theorem dX11_text_2 : decode cX11_text 2 = .ok (.if_icmp .lt 21, 3) := by decide +kernel
theorem dX11_text_5 : decode cX11_text 5 = .ok (.iload_n 1, 1) := by decide +kernel
theorem dX11_text_6 : decode cX11_text 6 = .ok (.sipush 200, 3) := by decide +kernel
theorem dX11_text_9 : decode cX11_text 9 = .ok (.if_icmp .gt 14, 3) := by decide +kernel
theorem dX11_text_12 : decode cX11_text 12 = .ok (.iload_n 1, 1) := by decide +kernel
theorem dX11_text_13 : decode cX11_text 13 = .ok (.aload_n 0, 1) := by decide +kernel
theorem dX11_text_14 : decode cX11_text 14 = .ok (.getfield 10, 3) := by decide +kernel
theorem dX11_text_17 : decode cX11_text 17 = .ok (.invokevirtual 129, 3) := by decide +kernel
theorem dX11_text_20 : decode cX11_text 20 = .ok (.if_icmp .le 5, 3) := by decide +kernel
theorem dX11_text_23 : decode cX11_text 23 = .ok (.iconst (-1), 1) := by decide +kernel
theorem dX11_text_24 : decode cX11_text 24 = .ok (.ireturn, 1) := by decide +kernel
theorem dX11_text_25 : decode cX11_text 25 = .ok (.aload_n 0, 1) := by decide +kernel
theorem dX11_text_26 : decode cX11_text 26 = .ok (.getfield 33, 3) := by decide +kernel
theorem dX11_text_29 : decode cX11_text 29 = .ok (.aload_n 0, 1) := by decide +kernel
theorem dX11_text_30 : decode cX11_text 30 = .ok (.getfield 10, 3) := by decide +kernel
theorem dX11_text_33 : decode cX11_text 33 = .ok (.iload_n 1, 1) := by decide +kernel
theorem dX11_text_34 : decode cX11_text 34 = .ok (.invokevirtual 160, 3) := by decide +kernel
theorem dX11_text_37 : decode cX11_text 37 = .ok (.istore_n 2, 1) := by decide +kernel
theorem dX11_text_38 : decode cX11_text 38 = .ok (.aload_n 0, 1) := by decide +kernel
theorem dX11_text_39 : decode cX11_text 39 = .ok (.getfield 10, 3) := by decide +kernel
theorem dX11_text_42 : decode cX11_text 42 = .ok (.invokevirtual 136, 3) := by decide +kernel
theorem dX11_text_45 : decode cX11_text 45 = .ok (.iload_n 2, 1) := by decide +kernel
theorem dX11_text_46 : decode cX11_text 46 = .ok (.ifCond .le 34, 3) := by decide +kernel
theorem dX11_text_49 : decode cX11_text 49 = .ok (.aload_n 0, 1) := by decide +kernel
theorem dX11_text_50 : decode cX11_text 50 = .ok (.getfield 26, 3) := by decide +kernel
theorem dX11_text_53 : decode cX11_text 53 = .ok (.aload_n 0, 1) := by decide +kernel
theorem dX11_text_54 : decode cX11_text 54 = .ok (.getfield 33, 3) := by decide +kernel
theorem dX11_text_57 : decode cX11_text 57 = .ok (.getfield 164, 3) := by decide +kernel
theorem dX11_text_60 : decode cX11_text 60 = .ok (.invokevirtual 167, 3) := by decide +kernel
theorem dX11_text_63 : decode cX11_text 63 = .ok (.aload_n 0, 1) := by decide +kernel
theorem dX11_text_64 : decode cX11_text 64 = .ok (.getfield 42, 3) := by decide +kernel
theorem dX11_text_67 : decode cX11_text 67 = .ok (.invokevirtual 171, 3) := by decide +kernel
theorem dX11_text_70 : decode cX11_text 70 = .ok (.aload_n 0, 1) := by decide +kernel
theorem dX11_text_71 : decode cX11_text 71 = .ok (.dup, 1) := by decide +kernel
theorem dX11_text_72 : decode cX11_text 72 = .ok (.getfield 110, 3) := by decide +kernel
theorem dX11_text_75 : decode cX11_text 75 = .ok (.iconst 1, 1) := by decide +kernel
theorem dX11_text_76 : decode cX11_text 76 = .ok (.iadd, 1) := by decide +kernel
theorem dX11_text_77 : decode cX11_text 77 = .ok (.putfield 110, 3) := by decide +kernel
theorem dX11_text_80 : decode cX11_text 80 = .ok (.iload_n 2, 1) := by decide +kernel
theorem dX11_text_81 : decode cX11_text 81 = .ok (.ireturn, 1) := by decide +kernel
theorem dJ7_fill_d0a16_0 : decode cJ7_fill_d0a16 0 = .ok (.iconst 0, 1) := by decide +kernel
theorem dJ7_fill_d0a16_1 : decode cJ7_fill_d0a16 1 = .ok (.istore_n 3, 1) := by decide +kernel
theorem dJ7_fill_d0a16_2 : decode cJ7_fill_d0a16 2 = .ok (.aload_n 0, 1) := by decide +kernel
theorem dJ7_fill_d0a16_3 : decode cJ7_fill_d0a16 3 = .ok (.arraylength, 1) := by decide +kernel
theorem dJ7_fill_d0a16_4 : decode cJ7_fill_d0a16 4 = .ok (.istore 4, 2) := by decide +kernel
theorem dJ7_fill_d0a16_6 : decode cJ7_fill_d0a16 6 = .ok (.iload_n 3, 1) := by decide +kernel
theorem dJ7_fill_d0a16_7 : decode cJ7_fill_d0a16 7 = .ok (.iload 4, 2) := by decide +kernel
theorem dJ7_fill_d0a16_9 : decode cJ7_fill_d0a16 9 = .ok (.if_icmp .ge 13, 3) := by decide +kernel
theorem dJ7_fill_d0a16_12 : decode cJ7_fill_d0a16 12 = .ok (.aload_n 0, 1) := by decide +kernel
theorem dJ7_fill_d0a16_13 : decode cJ7_fill_d0a16 13 = .ok (.iload_n 3, 1) := by decide +kernel
theorem dJ7_fill_d0a16_14 : decode cJ7_fill_d0a16 14 = .ok (.lload_n 1, 1) := by decide +kernel
theorem dJ7_fill_d0a16_15 : decode cJ7_fill_d0a16 15 = .ok (.lastore, 1) := by decide +kernel
theorem dJ7_fill_d0a16_16 : decode cJ7_fill_d0a16 16 = .ok (.iinc 3 1, 3) := by decide +kernel
theorem dJ7_fill_d0a16_19 : decode cJ7_fill_d0a16 19 = .ok (.goto (-13), 3) := by decide +kernel
theorem dJ7_fill_d0a16_22 : decode cJ7_fill_d0a16 22 = .ok (.return_, 1) := by decide +kernel
theorem dX10_freshen_0 : decode cX10_freshen 0 = .ok (.aload_n 0, 1) := by decide +kernel
theorem dX10_freshen_1 : decode cX10_freshen 1 = .ok (.getfield 59, 3) := by decide +kernel
theorem dX10_freshen_4 : decode cX10_freshen 4 = .ok (.ifCond .eq 24, 3) := by decide +kernel
theorem dX10_freshen_7 : decode cX10_freshen 7 = .ok (.aload_n 0, 1) := by decide +kernel
theorem dX10_freshen_8 : decode cX10_freshen 8 = .ok (.getfield 29, 3) := by decide +kernel
theorem dX10_freshen_11 : decode cX10_freshen 11 = .ok (.lconst 0, 1) := by decide +kernel
theorem dX10_freshen_12 : decode cX10_freshen 12 = .ok (.invokestatic 63, 3) := by decide +kernel
theorem dX10_freshen_15 : decode cX10_freshen 15 = .ok (.aload_n 0, 1) := by decide +kernel
theorem dX10_freshen_16 : decode cX10_freshen 16 = .ok (.getfield 33, 3) := by decide +kernel
theorem dX10_freshen_19 : decode cX10_freshen 19 = .ok (.lconst 0, 1) := by decide +kernel
theorem dX10_freshen_20 : decode cX10_freshen 20 = .ok (.invokestatic 63, 3) := by decide +kernel
theorem dX10_freshen_23 : decode cX10_freshen 23 = .ok (.aload_n 0, 1) := by decide +kernel
theorem dX10_freshen_24 : decode cX10_freshen 24 = .ok (.iconst 0, 1) := by decide +kernel
theorem dX10_freshen_25 : decode cX10_freshen 25 = .ok (.putfield 59, 3) := by decide +kernel
theorem dX10_freshen_28 : decode cX10_freshen 28 = .ok (.return_, 1) := by decide +kernel
theorem dX11_slotOf_0 : decode cX11_slotOf 0 = .ok (.lload_n 0, 1) := by decide +kernel
theorem dX11_slotOf_1 : decode cX11_slotOf 1 = .ok (.iload_n 2, 1) := by decide +kernel
theorem dX11_slotOf_2 : decode cX11_slotOf 2 = .ok (.iload_n 3, 1) := by decide +kernel
theorem dX11_slotOf_3 : decode cX11_slotOf 3 = .ok (.imul, 1) := by decide +kernel
theorem dX11_slotOf_4 : decode cX11_slotOf 4 = .ok (.lushr, 1) := by decide +kernel
theorem dX11_slotOf_5 : decode cX11_slotOf 5 = .ok (.l2i, 1) := by decide +kernel
theorem dX11_slotOf_6 : decode cX11_slotOf 6 = .ok (.iconst 1, 1) := by decide +kernel
theorem dX11_slotOf_7 : decode cX11_slotOf 7 = .ok (.iload_n 3, 1) := by decide +kernel
theorem dX11_slotOf_8 : decode cX11_slotOf 8 = .ok (.ishl, 1) := by decide +kernel
theorem dX11_slotOf_9 : decode cX11_slotOf 9 = .ok (.iconst 1, 1) := by decide +kernel
theorem dX11_slotOf_10 : decode cX11_slotOf 10 = .ok (.isub, 1) := by decide +kernel
theorem dX11_slotOf_11 : decode cX11_slotOf 11 = .ok (.iand, 1) := by decide +kernel
theorem dX11_slotOf_12 : decode cX11_slotOf 12 = .ok (.ireturn, 1) := by decide +kernel
theorem dX6_standingOn_0 : decode cX6_standingOn 0 = .ok (.iload_n 1, 1) := by decide +kernel
theorem dX6_standingOn_1 : decode cX6_standingOn 1 = .ok (.ifCond .lt 10, 3) := by decide +kernel
theorem dX6_standingOn_4 : decode cX6_standingOn 4 = .ok (.iload_n 1, 1) := by decide +kernel
theorem dX6_standingOn_5 : decode cX6_standingOn 5 = .ok (.sipush 5348, 3) := by decide +kernel
theorem dX6_standingOn_8 : decode cX6_standingOn 8 = .ok (.if_icmp .lt 7, 3) := by decide +kernel
theorem dX6_standingOn_11 : decode cX6_standingOn 11 = .ok (.iconst 0, 1) := by decide +kernel
theorem dX6_standingOn_12 : decode cX6_standingOn 12 = .ok (.goto 13, 3) := by decide +kernel
theorem dX6_standingOn_15 : decode cX6_standingOn 15 = .ok (.aload_n 0, 1) := by decide +kernel
theorem dX6_standingOn_16 : decode cX6_standingOn 16 = .ok (.getfield 11, 3) := by decide +kernel
theorem dX6_standingOn_19 : decode cX6_standingOn 19 = .ok (.iload_n 1, 1) := by decide +kernel
theorem dX6_standingOn_20 : decode cX6_standingOn 20 = .ok (.iaload, 1) := by decide +kernel
theorem dX6_standingOn_21 : decode cX6_standingOn 21 = .ok (.sipush 255, 3) := by decide +kernel
theorem dX6_standingOn_24 : decode cX6_standingOn 24 = .ok (.iand, 1) := by decide +kernel
theorem dX6_standingOn_25 : decode cX6_standingOn 25 = .ok (.ireturn, 1) := by decide +kernel
theorem dX10_holdingOn_0 : decode cX10_holdingOn 0 = .ok (.aload_n 0, 1) := by decide +kernel
theorem dX10_holdingOn_1 : decode cX10_holdingOn 1 = .ok (.getfield 36, 3) := by decide +kernel
theorem dX10_holdingOn_4 : decode cX10_holdingOn 4 = .ok (.iload_n 1, 1) := by decide +kernel
theorem dX10_holdingOn_5 : decode cX10_holdingOn 5 = .ok (.invokevirtual 48, 3) := by decide +kernel
theorem dX10_holdingOn_8 : decode cX10_holdingOn 8 = .ok (.istore_n 2, 1) := by decide +kernel
theorem dX10_holdingOn_9 : decode cX10_holdingOn 9 = .ok (.iconst 0, 1) := by decide +kernel
theorem dX10_holdingOn_10 : decode cX10_holdingOn 10 = .ok (.istore_n 3, 1) := by decide +kernel
theorem dX10_holdingOn_11 : decode cX10_holdingOn 11 = .ok (.iconst 0, 1) := by decide +kernel
theorem dX10_holdingOn_12 : decode cX10_holdingOn 12 = .ok (.istore 4, 2) := by decide +kernel
theorem dX10_holdingOn_14 : decode cX10_holdingOn 14 = .ok (.iload 4, 2) := by decide +kernel
theorem dX10_holdingOn_16 : decode cX10_holdingOn 16 = .ok (.bipush 8, 2) := by decide +kernel
theorem dX10_holdingOn_18 : decode cX10_holdingOn 18 = .ok (.if_icmp .ge 40, 3) := by decide +kernel
theorem dX10_holdingOn_21 : decode cX10_holdingOn 21 = .ok (.iload_n 2, 1) := by decide +kernel
theorem dX10_holdingOn_22 : decode cX10_holdingOn 22 = .ok (.iload 4, 2) := by decide +kernel
theorem dX10_holdingOn_24 : decode cX10_holdingOn 24 = .ok (.ishr, 1) := by decide +kernel
theorem dX10_holdingOn_25 : decode cX10_holdingOn 25 = .ok (.iconst 1, 1) := by decide +kernel
theorem dX10_holdingOn_26 : decode cX10_holdingOn 26 = .ok (.iand, 1) := by decide +kernel
theorem dX10_holdingOn_27 : decode cX10_holdingOn 27 = .ok (.iconst 1, 1) := by decide +kernel
theorem dX10_holdingOn_28 : decode cX10_holdingOn 28 = .ok (.if_icmp .ne 24, 3) := by decide +kernel
theorem dX10_holdingOn_31 : decode cX10_holdingOn 31 = .ok (.aload_n 0, 1) := by decide +kernel
theorem dX10_holdingOn_32 : decode cX10_holdingOn 32 = .ok (.getfield 15, 3) := by decide +kernel
theorem dX10_holdingOn_35 : decode cX10_holdingOn 35 = .ok (.iload 4, 2) := by decide +kernel
theorem dX10_holdingOn_37 : decode cX10_holdingOn 37 = .ok (.iaload, 1) := by decide +kernel
theorem dX10_holdingOn_38 : decode cX10_holdingOn 38 = .ok (.iload_n 2, 1) := by decide +kernel
theorem dX10_holdingOn_39 : decode cX10_holdingOn 39 = .ok (.iconst (-1), 1) := by decide +kernel
theorem dX10_holdingOn_40 : decode cX10_holdingOn 40 = .ok (.ixor, 1) := by decide +kernel
theorem dX10_holdingOn_41 : decode cX10_holdingOn 41 = .ok (.iand, 1) := by decide +kernel
theorem dX10_holdingOn_42 : decode cX10_holdingOn 42 = .ok (.ifCond .ne 10, 3) := by decide +kernel
theorem dX10_holdingOn_45 : decode cX10_holdingOn 45 = .ok (.iload_n 3, 1) := by decide +kernel
theorem dX10_holdingOn_46 : decode cX10_holdingOn 46 = .ok (.iconst 1, 1) := by decide +kernel
theorem dX10_holdingOn_47 : decode cX10_holdingOn 47 = .ok (.iload 4, 2) := by decide +kernel
theorem dX10_holdingOn_49 : decode cX10_holdingOn 49 = .ok (.ishl, 1) := by decide +kernel
theorem dX10_holdingOn_50 : decode cX10_holdingOn 50 = .ok (.ior, 1) := by decide +kernel
theorem dX10_holdingOn_51 : decode cX10_holdingOn 51 = .ok (.istore_n 3, 1) := by decide +kernel
theorem dX10_holdingOn_52 : decode cX10_holdingOn 52 = .ok (.iinc 4 1, 3) := by decide +kernel
theorem dX10_holdingOn_55 : decode cX10_holdingOn 55 = .ok (.goto (-41), 3) := by decide +kernel
theorem dX10_holdingOn_58 : decode cX10_holdingOn 58 = .ok (.iload_n 3, 1) := by decide +kernel
theorem dX10_holdingOn_59 : decode cX10_holdingOn 59 = .ok (.ireturn, 1) := by decide +kernel
theorem dX10_allLaws_0 : decode cX10_allLaws 0 = .ok (.iconst 1, 1) := by decide +kernel
theorem dX10_allLaws_1 : decode cX10_allLaws 1 = .ok (.aload_n 0, 1) := by decide +kernel
theorem dX10_allLaws_2 : decode cX10_allLaws 2 = .ok (.getfield 44, 3) := by decide +kernel
theorem dX10_allLaws_5 : decode cX10_allLaws 5 = .ok (.ishl, 1) := by decide +kernel
theorem dX10_allLaws_6 : decode cX10_allLaws 6 = .ok (.iconst 1, 1) := by decide +kernel
theorem dX10_allLaws_7 : decode cX10_allLaws 7 = .ok (.isub, 1) := by decide +kernel
theorem dX10_allLaws_8 : decode cX10_allLaws 8 = .ok (.ireturn, 1) := by decide +kernel
theorem dX10_openTo_0 : decode cX10_openTo 0 = .ok (.aload_n 0, 1) := by decide +kernel
theorem dX10_openTo_1 : decode cX10_openTo 1 = .ok (.iload_n 1, 1) := by decide +kernel
theorem dX10_openTo_2 : decode cX10_openTo 2 = .ok (.invokevirtual 107, 3) := by decide +kernel
theorem dX10_openTo_5 : decode cX10_openTo 5 = .ok (.istore_n 3, 1) := by decide +kernel
theorem dX10_openTo_6 : decode cX10_openTo 6 = .ok (.aload_n 0, 1) := by decide +kernel
theorem dX10_openTo_7 : decode cX10_openTo 7 = .ok (.invokevirtual 52, 3) := by decide +kernel
theorem dX10_openTo_10 : decode cX10_openTo 10 = .ok (.istore 4, 2) := by decide +kernel
theorem dX10_openTo_12 : decode cX10_openTo 12 = .ok (.iconst 0, 1) := by decide +kernel
theorem dX10_openTo_13 : decode cX10_openTo 13 = .ok (.istore 5, 2) := by decide +kernel
theorem dX10_openTo_15 : decode cX10_openTo 15 = .ok (.iload 5, 2) := by decide +kernel
theorem dX10_openTo_17 : decode cX10_openTo 17 = .ok (.bipush 8, 2) := by decide +kernel
theorem dX10_openTo_19 : decode cX10_openTo 19 = .ok (.if_icmp .ge 52, 3) := by decide +kernel
theorem dX10_openTo_22 : decode cX10_openTo 22 = .ok (.iload_n 3, 1) := by decide +kernel
theorem dX10_openTo_23 : decode cX10_openTo 23 = .ok (.iload 5, 2) := by decide +kernel
theorem dX10_openTo_25 : decode cX10_openTo 25 = .ok (.ishr, 1) := by decide +kernel
theorem dX10_openTo_26 : decode cX10_openTo 26 = .ok (.iconst 1, 1) := by decide +kernel
theorem dX10_openTo_27 : decode cX10_openTo 27 = .ok (.iand, 1) := by decide +kernel
theorem dX10_openTo_28 : decode cX10_openTo 28 = .ok (.iconst 1, 1) := by decide +kernel
theorem dX10_openTo_29 : decode cX10_openTo 29 = .ok (.if_icmp .ne 36, 3) := by decide +kernel
theorem dX10_openTo_32 : decode cX10_openTo 32 = .ok (.iload 4, 2) := by decide +kernel
theorem dX10_openTo_34 : decode cX10_openTo 34 = .ok (.aload_n 0, 1) := by decide +kernel
theorem dX10_openTo_35 : decode cX10_openTo 35 = .ok (.getfield 21, 3) := by decide +kernel
theorem dX10_openTo_38 : decode cX10_openTo 38 = .ok (.iload 5, 2) := by decide +kernel
theorem dX10_openTo_40 : decode cX10_openTo 40 = .ok (.iaload, 1) := by decide +kernel
theorem dX10_openTo_41 : decode cX10_openTo 41 = .ok (.iload_n 2, 1) := by decide +kernel
theorem dX10_openTo_42 : decode cX10_openTo 42 = .ok (.ishr, 1) := by decide +kernel
theorem dX10_openTo_43 : decode cX10_openTo 43 = .ok (.iconst 1, 1) := by decide +kernel
theorem dX10_openTo_44 : decode cX10_openTo 44 = .ok (.iand, 1) := by decide +kernel
theorem dX10_openTo_45 : decode cX10_openTo 45 = .ok (.iconst 1, 1) := by decide +kernel
theorem dX10_openTo_46 : decode cX10_openTo 46 = .ok (.if_icmp .ne 7, 3) := by decide +kernel
theorem dX10_openTo_49 : decode cX10_openTo 49 = .ok (.iconst 0, 1) := by decide +kernel
theorem dX10_openTo_50 : decode cX10_openTo 50 = .ok (.goto 12, 3) := by decide +kernel
theorem dX10_openTo_53 : decode cX10_openTo 53 = .ok (.aload_n 0, 1) := by decide +kernel
theorem dX10_openTo_54 : decode cX10_openTo 54 = .ok (.getfield 18, 3) := by decide +kernel
theorem dX10_openTo_57 : decode cX10_openTo 57 = .ok (.iload 5, 2) := by decide +kernel
theorem dX10_openTo_59 : decode cX10_openTo 59 = .ok (.iaload, 1) := by decide +kernel
theorem dX10_openTo_60 : decode cX10_openTo 60 = .ok (.iconst (-1), 1) := by decide +kernel
theorem dX10_openTo_61 : decode cX10_openTo 61 = .ok (.ixor, 1) := by decide +kernel
theorem dX10_openTo_62 : decode cX10_openTo 62 = .ok (.iand, 1) := by decide +kernel
theorem dX10_openTo_63 : decode cX10_openTo 63 = .ok (.istore 4, 2) := by decide +kernel
theorem dX10_openTo_65 : decode cX10_openTo 65 = .ok (.iinc 5 1, 3) := by decide +kernel
theorem dX10_openTo_68 : decode cX10_openTo 68 = .ok (.goto (-53), 3) := by decide +kernel
theorem dX10_openTo_71 : decode cX10_openTo 71 = .ok (.iload 4, 2) := by decide +kernel
theorem dX10_openTo_73 : decode cX10_openTo 73 = .ok (.ireturn, 1) := by decide +kernel
theorem dX6_sizeOf_0 : decode cX6_sizeOf 0 = .ok (.iload_n 1, 1) := by decide +kernel
theorem dX6_sizeOf_1 : decode cX6_sizeOf 1 = .ok (.ifCond .lt 10, 3) := by decide +kernel
theorem dX6_sizeOf_4 : decode cX6_sizeOf 4 = .ok (.iload_n 1, 1) := by decide +kernel
theorem dX6_sizeOf_5 : decode cX6_sizeOf 5 = .ok (.sipush 5348, 3) := by decide +kernel
theorem dX6_sizeOf_8 : decode cX6_sizeOf 8 = .ok (.if_icmp .lt 7, 3) := by decide +kernel
theorem dX6_sizeOf_11 : decode cX6_sizeOf 11 = .ok (.iconst 0, 1) := by decide +kernel
theorem dX6_sizeOf_12 : decode cX6_sizeOf 12 = .ok (.goto 15, 3) := by decide +kernel
theorem dX6_sizeOf_15 : decode cX6_sizeOf 15 = .ok (.aload_n 0, 1) := by decide +kernel
theorem dX6_sizeOf_16 : decode cX6_sizeOf 16 = .ok (.getfield 11, 3) := by decide +kernel
theorem dX6_sizeOf_19 : decode cX6_sizeOf 19 = .ok (.iload_n 1, 1) := by decide +kernel
theorem dX6_sizeOf_20 : decode cX6_sizeOf 20 = .ok (.iaload, 1) := by decide +kernel
theorem dX6_sizeOf_21 : decode cX6_sizeOf 21 = .ok (.bipush 12, 2) := by decide +kernel
theorem dX6_sizeOf_23 : decode cX6_sizeOf 23 = .ok (.ishr, 1) := by decide +kernel
theorem dX6_sizeOf_24 : decode cX6_sizeOf 24 = .ok (.bipush 15, 2) := by decide +kernel
theorem dX6_sizeOf_26 : decode cX6_sizeOf 26 = .ok (.iand, 1) := by decide +kernel
theorem dX6_sizeOf_27 : decode cX6_sizeOf 27 = .ok (.ireturn, 1) := by decide +kernel
theorem dX6_lengthOf_0 : decode cX6_lengthOf 0 = .ok (.iload_n 1, 1) := by decide +kernel
theorem dX6_lengthOf_1 : decode cX6_lengthOf 1 = .ok (.ifCond .lt 10, 3) := by decide +kernel
theorem dX6_lengthOf_4 : decode cX6_lengthOf 4 = .ok (.iload_n 1, 1) := by decide +kernel
theorem dX6_lengthOf_5 : decode cX6_lengthOf 5 = .ok (.sipush 5348, 3) := by decide +kernel
theorem dX6_lengthOf_8 : decode cX6_lengthOf 8 = .ok (.if_icmp .lt 7, 3) := by decide +kernel
theorem dX6_lengthOf_11 : decode cX6_lengthOf 11 = .ok (.iconst 1, 1) := by decide +kernel
theorem dX6_lengthOf_12 : decode cX6_lengthOf 12 = .ok (.goto 12, 3) := by decide +kernel
theorem dX6_lengthOf_15 : decode cX6_lengthOf 15 = .ok (.aload_n 0, 1) := by decide +kernel
theorem dX6_lengthOf_16 : decode cX6_lengthOf 16 = .ok (.getfield 11, 3) := by decide +kernel
theorem dX6_lengthOf_19 : decode cX6_lengthOf 19 = .ok (.iload_n 1, 1) := by decide +kernel
theorem dX6_lengthOf_20 : decode cX6_lengthOf 20 = .ok (.iaload, 1) := by decide +kernel
theorem dX6_lengthOf_21 : decode cX6_lengthOf 21 = .ok (.bipush 16, 2) := by decide +kernel
theorem dX6_lengthOf_23 : decode cX6_lengthOf 23 = .ok (.ishr, 1) := by decide +kernel
theorem dX6_lengthOf_24 : decode cX6_lengthOf 24 = .ok (.ireturn, 1) := by decide +kernel
theorem dX6_timesOn_0 : decode cX6_timesOn 0 = .ok (.iconst 0, 1) := by decide +kernel
theorem dX6_timesOn_1 : decode cX6_timesOn 1 = .ok (.istore_n 3, 1) := by decide +kernel
theorem dX6_timesOn_2 : decode cX6_timesOn 2 = .ok (.iload_n 1, 1) := by decide +kernel
theorem dX6_timesOn_3 : decode cX6_timesOn 3 = .ok (.aload_n 0, 1) := by decide +kernel
theorem dX6_timesOn_4 : decode cX6_timesOn 4 = .ok (.iload_n 1, 1) := by decide +kernel
theorem dX6_timesOn_5 : decode cX6_timesOn 5 = .ok (.invokevirtual 38, 3) := by decide +kernel
theorem dX6_timesOn_8 : decode cX6_timesOn 8 = .ok (.invokestatic 22, 3) := by decide +kernel
theorem dX6_timesOn_11 : decode cX6_timesOn 11 = .ok (.isub, 1) := by decide +kernel
theorem dX6_timesOn_12 : decode cX6_timesOn 12 = .ok (.istore 4, 2) := by decide +kernel
theorem dX6_timesOn_14 : decode cX6_timesOn 14 = .ok (.aload_n 0, 1) := by decide +kernel
theorem dX6_timesOn_15 : decode cX6_timesOn 15 = .ok (.iload_n 1, 1) := by decide +kernel
theorem dX6_timesOn_16 : decode cX6_timesOn 16 = .ok (.invokevirtual 26, 3) := by decide +kernel
theorem dX6_timesOn_19 : decode cX6_timesOn 19 = .ok (.istore 5, 2) := by decide +kernel
theorem dX6_timesOn_21 : decode cX6_timesOn 21 = .ok (.iload 5, 2) := by decide +kernel
theorem dX6_timesOn_23 : decode cX6_timesOn 23 = .ok (.ifCond .le 37, 3) := by decide +kernel
theorem dX6_timesOn_26 : decode cX6_timesOn 26 = .ok (.iload_n 3, 1) := by decide +kernel
theorem dX6_timesOn_27 : decode cX6_timesOn 27 = .ok (.iload 4, 2) := by decide +kernel
theorem dX6_timesOn_29 : decode cX6_timesOn 29 = .ok (.iconst 1, 1) := by decide +kernel
theorem dX6_timesOn_30 : decode cX6_timesOn 30 = .ok (.isub, 1) := by decide +kernel
theorem dX6_timesOn_31 : decode cX6_timesOn 31 = .ok (.bipush 8, 2) := by decide +kernel
theorem dX6_timesOn_33 : decode cX6_timesOn 33 = .ok (.irem, 1) := by decide +kernel
theorem dX6_timesOn_34 : decode cX6_timesOn 34 = .ok (.iload_n 2, 1) := by decide +kernel
theorem dX6_timesOn_35 : decode cX6_timesOn 35 = .ok (.if_icmp .ne 7, 3) := by decide +kernel
theorem dX6_timesOn_38 : decode cX6_timesOn 38 = .ok (.iconst 1, 1) := by decide +kernel
theorem dX6_timesOn_39 : decode cX6_timesOn 39 = .ok (.goto 4, 3) := by decide +kernel
theorem dX6_timesOn_42 : decode cX6_timesOn 42 = .ok (.iconst 0, 1) := by decide +kernel
theorem dX6_timesOn_43 : decode cX6_timesOn 43 = .ok (.iadd, 1) := by decide +kernel
theorem dX6_timesOn_44 : decode cX6_timesOn 44 = .ok (.istore_n 3, 1) := by decide +kernel
theorem dX6_timesOn_45 : decode cX6_timesOn 45 = .ok (.iload 4, 2) := by decide +kernel
theorem dX6_timesOn_47 : decode cX6_timesOn 47 = .ok (.iconst 1, 1) := by decide +kernel
theorem dX6_timesOn_48 : decode cX6_timesOn 48 = .ok (.isub, 1) := by decide +kernel
theorem dX6_timesOn_49 : decode cX6_timesOn 49 = .ok (.bipush 8, 2) := by decide +kernel
theorem dX6_timesOn_51 : decode cX6_timesOn 51 = .ok (.idiv, 1) := by decide +kernel
theorem dX6_timesOn_52 : decode cX6_timesOn 52 = .ok (.istore 4, 2) := by decide +kernel
theorem dX6_timesOn_54 : decode cX6_timesOn 54 = .ok (.iinc 5 (-1), 3) := by decide +kernel
theorem dX6_timesOn_57 : decode cX6_timesOn 57 = .ok (.goto (-36), 3) := by decide +kernel
theorem dX6_timesOn_60 : decode cX6_timesOn 60 = .ok (.iload_n 3, 1) := by decide +kernel
theorem dX6_timesOn_61 : decode cX6_timesOn 61 = .ok (.ireturn, 1) := by decide +kernel
theorem dX6_oldestOn_0 : decode cX6_oldestOn 0 = .ok (.iload_n 1, 1) := by decide +kernel
theorem dX6_oldestOn_1 : decode cX6_oldestOn 1 = .ok (.ifCond .lt 10, 3) := by decide +kernel
theorem dX6_oldestOn_4 : decode cX6_oldestOn 4 = .ok (.iload_n 1, 1) := by decide +kernel
theorem dX6_oldestOn_5 : decode cX6_oldestOn 5 = .ok (.sipush 5348, 3) := by decide +kernel
theorem dX6_oldestOn_8 : decode cX6_oldestOn 8 = .ok (.if_icmp .lt 8, 3) := by decide +kernel
theorem dX6_oldestOn_11 : decode cX6_oldestOn 11 = .ok (.bipush 8, 2) := by decide +kernel
theorem dX6_oldestOn_13 : decode cX6_oldestOn 13 = .ok (.goto 15, 3) := by decide +kernel
theorem dX6_oldestOn_16 : decode cX6_oldestOn 16 = .ok (.aload_n 0, 1) := by decide +kernel
theorem dX6_oldestOn_17 : decode cX6_oldestOn 17 = .ok (.getfield 11, 3) := by decide +kernel
theorem dX6_oldestOn_20 : decode cX6_oldestOn 20 = .ok (.iload_n 1, 1) := by decide +kernel
theorem dX6_oldestOn_21 : decode cX6_oldestOn 21 = .ok (.iaload, 1) := by decide +kernel
theorem dX6_oldestOn_22 : decode cX6_oldestOn 22 = .ok (.bipush 8, 2) := by decide +kernel
theorem dX6_oldestOn_24 : decode cX6_oldestOn 24 = .ok (.ishr, 1) := by decide +kernel
theorem dX6_oldestOn_25 : decode cX6_oldestOn 25 = .ok (.bipush 15, 2) := by decide +kernel
theorem dX6_oldestOn_27 : decode cX6_oldestOn 27 = .ok (.iand, 1) := by decide +kernel
theorem dX6_oldestOn_28 : decode cX6_oldestOn 28 = .ok (.ireturn, 1) := by decide +kernel
theorem dX6_lawOn_0 : decode cX6_lawOn 0 = .ok (.aload_n 0, 1) := by decide +kernel
theorem dX6_lawOn_1 : decode cX6_lawOn 1 = .ok (.iload_n 1, 1) := by decide +kernel
theorem dX6_lawOn_2 : decode cX6_lawOn 2 = .ok (.invokevirtual 26, 3) := by decide +kernel
theorem dX6_lawOn_5 : decode cX6_lawOn 5 = .ok (.istore_n 3, 1) := by decide +kernel
theorem dX6_lawOn_6 : decode cX6_lawOn 6 = .ok (.iload_n 2, 1) := by decide +kernel
theorem dX6_lawOn_7 : decode cX6_lawOn 7 = .ok (.ifCond .lt 8, 3) := by decide +kernel
theorem dX6_lawOn_10 : decode cX6_lawOn 10 = .ok (.iload_n 2, 1) := by decide +kernel
theorem dX6_lawOn_11 : decode cX6_lawOn 11 = .ok (.iload_n 3, 1) := by decide +kernel
theorem dX6_lawOn_12 : decode cX6_lawOn 12 = .ok (.if_icmp .lt 5, 3) := by decide +kernel
theorem dX6_lawOn_15 : decode cX6_lawOn 15 = .ok (.iconst (-1), 1) := by decide +kernel
theorem dX6_lawOn_16 : decode cX6_lawOn 16 = .ok (.ireturn, 1) := by decide +kernel
theorem dX6_lawOn_17 : decode cX6_lawOn 17 = .ok (.iload_n 1, 1) := by decide +kernel
theorem dX6_lawOn_18 : decode cX6_lawOn 18 = .ok (.aload_n 0, 1) := by decide +kernel
theorem dX6_lawOn_19 : decode cX6_lawOn 19 = .ok (.iload_n 1, 1) := by decide +kernel
theorem dX6_lawOn_20 : decode cX6_lawOn 20 = .ok (.invokevirtual 38, 3) := by decide +kernel
theorem dX6_lawOn_23 : decode cX6_lawOn 23 = .ok (.invokestatic 22, 3) := by decide +kernel
theorem dX6_lawOn_26 : decode cX6_lawOn 26 = .ok (.isub, 1) := by decide +kernel
theorem dX6_lawOn_27 : decode cX6_lawOn 27 = .ok (.istore 4, 2) := by decide +kernel
theorem dX6_lawOn_29 : decode cX6_lawOn 29 = .ok (.iload_n 3, 1) := by decide +kernel
theorem dX6_lawOn_30 : decode cX6_lawOn 30 = .ok (.iconst 1, 1) := by decide +kernel
theorem dX6_lawOn_31 : decode cX6_lawOn 31 = .ok (.isub, 1) := by decide +kernel
theorem dX6_lawOn_32 : decode cX6_lawOn 32 = .ok (.istore 5, 2) := by decide +kernel
theorem dX6_lawOn_34 : decode cX6_lawOn 34 = .ok (.iload 5, 2) := by decide +kernel
theorem dX6_lawOn_36 : decode cX6_lawOn 36 = .ok (.iload_n 2, 1) := by decide +kernel
theorem dX6_lawOn_37 : decode cX6_lawOn 37 = .ok (.if_icmp .le 18, 3) := by decide +kernel
theorem dX6_lawOn_40 : decode cX6_lawOn 40 = .ok (.iload 4, 2) := by decide +kernel
theorem dX6_lawOn_42 : decode cX6_lawOn 42 = .ok (.iconst 1, 1) := by decide +kernel
theorem dX6_lawOn_43 : decode cX6_lawOn 43 = .ok (.isub, 1) := by decide +kernel
theorem dX6_lawOn_44 : decode cX6_lawOn 44 = .ok (.bipush 8, 2) := by decide +kernel
theorem dX6_lawOn_46 : decode cX6_lawOn 46 = .ok (.idiv, 1) := by decide +kernel
theorem dX6_lawOn_47 : decode cX6_lawOn 47 = .ok (.istore 4, 2) := by decide +kernel
theorem dX6_lawOn_49 : decode cX6_lawOn 49 = .ok (.iinc 5 (-1), 3) := by decide +kernel
theorem dX6_lawOn_52 : decode cX6_lawOn 52 = .ok (.goto (-18), 3) := by decide +kernel
theorem dX6_lawOn_55 : decode cX6_lawOn 55 = .ok (.iload 4, 2) := by decide +kernel
theorem dX6_lawOn_57 : decode cX6_lawOn 57 = .ok (.iconst 1, 1) := by decide +kernel
theorem dX6_lawOn_58 : decode cX6_lawOn 58 = .ok (.isub, 1) := by decide +kernel
theorem dX6_lawOn_59 : decode cX6_lawOn 59 = .ok (.bipush 8, 2) := by decide +kernel
theorem dX6_lawOn_61 : decode cX6_lawOn 61 = .ok (.irem, 1) := by decide +kernel
theorem dX6_lawOn_62 : decode cX6_lawOn 62 = .ok (.ireturn, 1) := by decide +kernel
theorem dX10_describe_0 : decode cX10_describe 0 = .ok (.iload_n 2, 1) := by decide +kernel
theorem dX10_describe_1 : decode cX10_describe 1 = .ok (.ifCond .lt 9, 3) := by decide +kernel
theorem dX10_describe_4 : decode cX10_describe 4 = .ok (.iload_n 2, 1) := by decide +kernel
theorem dX10_describe_5 : decode cX10_describe 5 = .ok (.bipush 8, 2) := by decide +kernel
theorem dX10_describe_7 : decode cX10_describe 7 = .ok (.if_icmp .lt 4, 3) := by decide +kernel
theorem dX10_describe_10 : decode cX10_describe 10 = .ok (.return_, 1) := by decide +kernel
theorem dX10_describe_11 : decode cX10_describe 11 = .ok (.aload_n 0, 1) := by decide +kernel
theorem dX10_describe_12 : decode cX10_describe 12 = .ok (.getfield 36, 3) := by decide +kernel
theorem dX10_describe_15 : decode cX10_describe 15 = .ok (.iload_n 1, 1) := by decide +kernel
theorem dX10_describe_16 : decode cX10_describe 16 = .ok (.invokevirtual 80, 3) := by decide +kernel
theorem dX10_describe_19 : decode cX10_describe 19 = .ok (.istore 5, 2) := by decide +kernel
theorem dX10_describe_21 : decode cX10_describe 21 = .ok (.aload_n 0, 1) := by decide +kernel
theorem dX10_describe_22 : decode cX10_describe 22 = .ok (.getfield 36, 3) := by decide +kernel
theorem dX10_describe_25 : decode cX10_describe 25 = .ok (.iload_n 1, 1) := by decide +kernel
theorem dX10_describe_26 : decode cX10_describe 26 = .ok (.invokevirtual 48, 3) := by decide +kernel
theorem dX10_describe_29 : decode cX10_describe 29 = .ok (.istore 6, 2) := by decide +kernel
theorem dX10_describe_31 : decode cX10_describe 31 = .ok (.aload_n 0, 1) := by decide +kernel
theorem dX10_describe_32 : decode cX10_describe 32 = .ok (.getfield 24, 3) := by decide +kernel
theorem dX10_describe_35 : decode cX10_describe 35 = .ok (.iconst 0, 1) := by decide +kernel
theorem dX10_describe_36 : decode cX10_describe 36 = .ok (.iload_n 2, 1) := by decide +kernel
theorem dX10_describe_37 : decode cX10_describe 37 = .ok (.iastore, 1) := by decide +kernel
theorem dX10_describe_38 : decode cX10_describe 38 = .ok (.aload_n 0, 1) := by decide +kernel
theorem dX10_describe_39 : decode cX10_describe 39 = .ok (.getfield 24, 3) := by decide +kernel
theorem dX10_describe_42 : decode cX10_describe 42 = .ok (.iconst 1, 1) := by decide +kernel
theorem dX10_describe_43 : decode cX10_describe 43 = .ok (.iload 4, 2) := by decide +kernel
theorem dX10_describe_45 : decode cX10_describe 45 = .ok (.iastore, 1) := by decide +kernel
theorem dX10_describe_46 : decode cX10_describe 46 = .ok (.aload_n 0, 1) := by decide +kernel
theorem dX10_describe_47 : decode cX10_describe 47 = .ok (.getfield 24, 3) := by decide +kernel
theorem dX10_describe_50 : decode cX10_describe 50 = .ok (.iconst 2, 1) := by decide +kernel
theorem dX10_describe_51 : decode cX10_describe 51 = .ok (.aload_n 0, 1) := by decide +kernel
theorem dX10_describe_52 : decode cX10_describe 52 = .ok (.getfield 9, 3) := by decide +kernel
theorem dX10_describe_55 : decode cX10_describe 55 = .ok (.iload_n 2, 1) := by decide +kernel
theorem dX10_describe_56 : decode cX10_describe 56 = .ok (.iaload, 1) := by decide +kernel
theorem dX10_describe_57 : decode cX10_describe 57 = .ok (.iastore, 1) := by decide +kernel
theorem dX10_describe_58 : decode cX10_describe 58 = .ok (.aload_n 0, 1) := by decide +kernel
theorem dX10_describe_59 : decode cX10_describe 59 = .ok (.getfield 24, 3) := by decide +kernel
theorem dX10_describe_62 : decode cX10_describe 62 = .ok (.iconst 3, 1) := by decide +kernel
theorem dX10_describe_63 : decode cX10_describe 63 = .ok (.iload 5, 2) := by decide +kernel
theorem dX10_describe_65 : decode cX10_describe 65 = .ok (.iastore, 1) := by decide +kernel
theorem dX10_describe_66 : decode cX10_describe 66 = .ok (.aload_n 0, 1) := by decide +kernel
theorem dX10_describe_67 : decode cX10_describe 67 = .ok (.getfield 24, 3) := by decide +kernel
theorem dX10_describe_70 : decode cX10_describe 70 = .ok (.iconst 4, 1) := by decide +kernel
theorem dX10_describe_71 : decode cX10_describe 71 = .ok (.aload_n 0, 1) := by decide +kernel
theorem dX10_describe_72 : decode cX10_describe 72 = .ok (.getfield 36, 3) := by decide +kernel
theorem dX10_describe_75 : decode cX10_describe 75 = .ok (.iload_n 1, 1) := by decide +kernel
theorem dX10_describe_76 : decode cX10_describe 76 = .ok (.iload_n 2, 1) := by decide +kernel
theorem dX10_describe_77 : decode cX10_describe 77 = .ok (.invokevirtual 110, 3) := by decide +kernel
theorem dX10_describe_80 : decode cX10_describe 80 = .ok (.iastore, 1) := by decide +kernel
theorem dX10_describe_81 : decode cX10_describe 81 = .ok (.aload_n 0, 1) := by decide +kernel
theorem dX10_describe_82 : decode cX10_describe 82 = .ok (.getfield 24, 3) := by decide +kernel
theorem dX10_describe_85 : decode cX10_describe 85 = .ok (.iconst 5, 1) := by decide +kernel
theorem dX10_describe_86 : decode cX10_describe 86 = .ok (.iload 6, 2) := by decide +kernel
theorem dX10_describe_88 : decode cX10_describe 88 = .ok (.iload_n 2, 1) := by decide +kernel
theorem dX10_describe_89 : decode cX10_describe 89 = .ok (.ishr, 1) := by decide +kernel
theorem dX10_describe_90 : decode cX10_describe 90 = .ok (.iconst 1, 1) := by decide +kernel
theorem dX10_describe_91 : decode cX10_describe 91 = .ok (.iand, 1) := by decide +kernel
theorem dX10_describe_92 : decode cX10_describe 92 = .ok (.iconst 1, 1) := by decide +kernel
theorem dX10_describe_93 : decode cX10_describe 93 = .ok (.if_icmp .ne 21, 3) := by decide +kernel
theorem dX10_describe_96 : decode cX10_describe 96 = .ok (.aload_n 0, 1) := by decide +kernel
theorem dX10_describe_97 : decode cX10_describe 97 = .ok (.getfield 15, 3) := by decide +kernel
theorem dX10_describe_100 : decode cX10_describe 100 = .ok (.iload_n 2, 1) := by decide +kernel
theorem dX10_describe_101 : decode cX10_describe 101 = .ok (.iaload, 1) := by decide +kernel
theorem dX10_describe_102 : decode cX10_describe 102 = .ok (.iload 6, 2) := by decide +kernel
theorem dX10_describe_104 : decode cX10_describe 104 = .ok (.iconst (-1), 1) := by decide +kernel
theorem dX10_describe_105 : decode cX10_describe 105 = .ok (.ixor, 1) := by decide +kernel
theorem dX10_describe_106 : decode cX10_describe 106 = .ok (.iand, 1) := by decide +kernel
theorem dX10_describe_107 : decode cX10_describe 107 = .ok (.ifCond .ne 7, 3) := by decide +kernel
theorem dX10_describe_110 : decode cX10_describe 110 = .ok (.iconst 1, 1) := by decide +kernel
theorem dX10_describe_111 : decode cX10_describe 111 = .ok (.goto 4, 3) := by decide +kernel
theorem dX10_describe_114 : decode cX10_describe 114 = .ok (.iconst 0, 1) := by decide +kernel
theorem dX10_describe_115 : decode cX10_describe 115 = .ok (.iastore, 1) := by decide +kernel
theorem dX10_describe_116 : decode cX10_describe 116 = .ok (.aload_n 0, 1) := by decide +kernel
theorem dX10_describe_117 : decode cX10_describe 117 = .ok (.getfield 24, 3) := by decide +kernel
theorem dX10_describe_120 : decode cX10_describe 120 = .ok (.bipush 6, 2) := by decide +kernel
theorem dX10_describe_122 : decode cX10_describe 122 = .ok (.iload 5, 2) := by decide +kernel
theorem dX10_describe_124 : decode cX10_describe 124 = .ok (.aload_n 0, 1) := by decide +kernel
theorem dX10_describe_125 : decode cX10_describe 125 = .ok (.getfield 36, 3) := by decide +kernel
theorem dX10_describe_128 : decode cX10_describe 128 = .ok (.iload_n 1, 1) := by decide +kernel
theorem dX10_describe_129 : decode cX10_describe 129 = .ok (.invokevirtual 113, 3) := by decide +kernel
theorem dX10_describe_132 : decode cX10_describe 132 = .ok (.if_icmp .ne 7, 3) := by decide +kernel
theorem dX10_describe_135 : decode cX10_describe 135 = .ok (.iconst 1, 1) := by decide +kernel
theorem dX10_describe_136 : decode cX10_describe 136 = .ok (.goto 4, 3) := by decide +kernel
theorem dX10_describe_139 : decode cX10_describe 139 = .ok (.iconst 0, 1) := by decide +kernel
theorem dX10_describe_140 : decode cX10_describe 140 = .ok (.iastore, 1) := by decide +kernel
theorem dX10_describe_141 : decode cX10_describe 141 = .ok (.aload_n 0, 1) := by decide +kernel
theorem dX10_describe_142 : decode cX10_describe 142 = .ok (.getfield 24, 3) := by decide +kernel
theorem dX10_describe_145 : decode cX10_describe 145 = .ok (.bipush 7, 2) := by decide +kernel
theorem dX10_describe_147 : decode cX10_describe 147 = .ok (.iload_n 3, 1) := by decide +kernel
theorem dX10_describe_148 : decode cX10_describe 148 = .ok (.iastore, 1) := by decide +kernel
theorem dX10_describe_149 : decode cX10_describe 149 = .ok (.aload_n 0, 1) := by decide +kernel
theorem dX10_describe_150 : decode cX10_describe 150 = .ok (.getfield 24, 3) := by decide +kernel
theorem dX10_describe_153 : decode cX10_describe 153 = .ok (.bipush 8, 2) := by decide +kernel
theorem dX10_describe_155 : decode cX10_describe 155 = .ok (.aload_n 0, 1) := by decide +kernel
theorem dX10_describe_156 : decode cX10_describe 156 = .ok (.getfield 36, 3) := by decide +kernel
theorem dX10_describe_159 : decode cX10_describe 159 = .ok (.iload_n 1, 1) := by decide +kernel
theorem dX10_describe_160 : decode cX10_describe 160 = .ok (.invokevirtual 101, 3) := by decide +kernel
theorem dX10_describe_163 : decode cX10_describe 163 = .ok (.iastore, 1) := by decide +kernel
theorem dX10_describe_164 : decode cX10_describe 164 = .ok (.aload_n 0, 1) := by decide +kernel
theorem dX10_describe_165 : decode cX10_describe 165 = .ok (.getfield 24, 3) := by decide +kernel
theorem dX10_describe_168 : decode cX10_describe 168 = .ok (.bipush 9, 2) := by decide +kernel
theorem dX10_describe_170 : decode cX10_describe 170 = .ok (.iload 5, 2) := by decide +kernel
theorem dX10_describe_172 : decode cX10_describe 172 = .ok (.ifCond .ne 8, 3) := by decide +kernel
theorem dX10_describe_175 : decode cX10_describe 175 = .ok (.bipush 8, 2) := by decide +kernel
theorem dX10_describe_177 : decode cX10_describe 177 = .ok (.goto 15, 3) := by decide +kernel
theorem dX10_describe_180 : decode cX10_describe 180 = .ok (.aload_n 0, 1) := by decide +kernel
theorem dX10_describe_181 : decode cX10_describe 181 = .ok (.getfield 36, 3) := by decide +kernel
theorem dX10_describe_184 : decode cX10_describe 184 = .ok (.iload_n 1, 1) := by decide +kernel
theorem dX10_describe_185 : decode cX10_describe 185 = .ok (.iload 5, 2) := by decide +kernel
theorem dX10_describe_187 : decode cX10_describe 187 = .ok (.iconst 1, 1) := by decide +kernel
theorem dX10_describe_188 : decode cX10_describe 188 = .ok (.isub, 1) := by decide +kernel
theorem dX10_describe_189 : decode cX10_describe 189 = .ok (.invokevirtual 83, 3) := by decide +kernel
theorem dX10_describe_192 : decode cX10_describe 192 = .ok (.iastore, 1) := by decide +kernel
theorem dX10_describe_193 : decode cX10_describe 193 = .ok (.aload_n 0, 1) := by decide +kernel
theorem dX10_describe_194 : decode cX10_describe 194 = .ok (.getfield 24, 3) := by decide +kernel
theorem dX10_describe_197 : decode cX10_describe 197 = .ok (.bipush 10, 2) := by decide +kernel
theorem dX10_describe_199 : decode cX10_describe 199 = .ok (.aload_n 0, 1) := by decide +kernel
theorem dX10_describe_200 : decode cX10_describe 200 = .ok (.getfield 36, 3) := by decide +kernel
theorem dX10_describe_203 : decode cX10_describe 203 = .ok (.iload_n 1, 1) := by decide +kernel
theorem dX10_describe_204 : decode cX10_describe 204 = .ok (.invokevirtual 113, 3) := by decide +kernel
theorem dX10_describe_207 : decode cX10_describe 207 = .ok (.iastore, 1) := by decide +kernel
theorem dX10_describe_208 : decode cX10_describe 208 = .ok (.return_, 1) := by decide +kernel
theorem dX1_joined_0 : decode cX1_joined 0 = .ok (.iload_n 0, 1) := by decide +kernel
theorem dX1_joined_1 : decode cX1_joined 1 = .ok (.lookupswitch 125 #[(37, 91), (42, 75), (43, 67), (45, 71), (47, 79), (60, 103), (62, 114)], 67) := by decide +kernel
theorem dX1_joined_68 : decode cX1_joined 68 = .ok (.iload_n 1, 1) := by decide +kernel
theorem dX1_joined_69 : decode cX1_joined 69 = .ok (.iload_n 2, 1) := by decide +kernel
theorem dX1_joined_70 : decode cX1_joined 70 = .ok (.iadd, 1) := by decide +kernel
theorem dX1_joined_71 : decode cX1_joined 71 = .ok (.ireturn, 1) := by decide +kernel
theorem dX1_joined_72 : decode cX1_joined 72 = .ok (.iload_n 1, 1) := by decide +kernel
theorem dX1_joined_73 : decode cX1_joined 73 = .ok (.iload_n 2, 1) := by decide +kernel
theorem dX1_joined_74 : decode cX1_joined 74 = .ok (.isub, 1) := by decide +kernel
theorem dX1_joined_75 : decode cX1_joined 75 = .ok (.ireturn, 1) := by decide +kernel
theorem dX1_joined_76 : decode cX1_joined 76 = .ok (.iload_n 1, 1) := by decide +kernel
theorem dX1_joined_77 : decode cX1_joined 77 = .ok (.iload_n 2, 1) := by decide +kernel
theorem dX1_joined_78 : decode cX1_joined 78 = .ok (.imul, 1) := by decide +kernel
theorem dX1_joined_79 : decode cX1_joined 79 = .ok (.ireturn, 1) := by decide +kernel
theorem dX1_joined_80 : decode cX1_joined 80 = .ok (.iload_n 2, 1) := by decide +kernel
theorem dX1_joined_81 : decode cX1_joined 81 = .ok (.ifCond .ne 7, 3) := by decide +kernel
theorem dX1_joined_84 : decode cX1_joined 84 = .ok (.iconst 0, 1) := by decide +kernel
theorem dX1_joined_85 : decode cX1_joined 85 = .ok (.goto 6, 3) := by decide +kernel
theorem dX1_joined_88 : decode cX1_joined 88 = .ok (.iload_n 1, 1) := by decide +kernel
theorem dX1_joined_89 : decode cX1_joined 89 = .ok (.iload_n 2, 1) := by decide +kernel
theorem dX1_joined_90 : decode cX1_joined 90 = .ok (.idiv, 1) := by decide +kernel
theorem dX1_joined_91 : decode cX1_joined 91 = .ok (.ireturn, 1) := by decide +kernel
theorem dX1_joined_92 : decode cX1_joined 92 = .ok (.iload_n 2, 1) := by decide +kernel
theorem dX1_joined_93 : decode cX1_joined 93 = .ok (.ifCond .ne 7, 3) := by decide +kernel
theorem dX1_joined_96 : decode cX1_joined 96 = .ok (.iconst 0, 1) := by decide +kernel
theorem dX1_joined_97 : decode cX1_joined 97 = .ok (.goto 6, 3) := by decide +kernel
theorem dX1_joined_100 : decode cX1_joined 100 = .ok (.iload_n 1, 1) := by decide +kernel
theorem dX1_joined_101 : decode cX1_joined 101 = .ok (.iload_n 2, 1) := by decide +kernel
theorem dX1_joined_102 : decode cX1_joined 102 = .ok (.irem, 1) := by decide +kernel
theorem dX1_joined_103 : decode cX1_joined 103 = .ok (.ireturn, 1) := by decide +kernel
theorem dX1_joined_104 : decode cX1_joined 104 = .ok (.iload_n 1, 1) := by decide +kernel
theorem dX1_joined_105 : decode cX1_joined 105 = .ok (.iload_n 2, 1) := by decide +kernel
theorem dX1_joined_106 : decode cX1_joined 106 = .ok (.if_icmp .ge 7, 3) := by decide +kernel
theorem dX1_joined_109 : decode cX1_joined 109 = .ok (.iconst 1, 1) := by decide +kernel
theorem dX1_joined_110 : decode cX1_joined 110 = .ok (.goto 4, 3) := by decide +kernel
theorem dX1_joined_113 : decode cX1_joined 113 = .ok (.iconst 0, 1) := by decide +kernel
theorem dX1_joined_114 : decode cX1_joined 114 = .ok (.ireturn, 1) := by decide +kernel
theorem dX1_joined_115 : decode cX1_joined 115 = .ok (.iload_n 1, 1) := by decide +kernel
theorem dX1_joined_116 : decode cX1_joined 116 = .ok (.iload_n 2, 1) := by decide +kernel
theorem dX1_joined_117 : decode cX1_joined 117 = .ok (.if_icmp .le 7, 3) := by decide +kernel
theorem dX1_joined_120 : decode cX1_joined 120 = .ok (.iconst 1, 1) := by decide +kernel
theorem dX1_joined_121 : decode cX1_joined 121 = .ok (.goto 4, 3) := by decide +kernel
theorem dX1_joined_124 : decode cX1_joined 124 = .ok (.iconst 0, 1) := by decide +kernel
theorem dX1_joined_125 : decode cX1_joined 125 = .ok (.ireturn, 1) := by decide +kernel
theorem dX1_joined_126 : decode cX1_joined 126 = .ok (.iload_n 1, 1) := by decide +kernel
theorem dX1_joined_127 : decode cX1_joined 127 = .ok (.iload_n 2, 1) := by decide +kernel
theorem dX1_joined_128 : decode cX1_joined 128 = .ok (.if_icmp .ne 7, 3) := by decide +kernel
theorem dX1_joined_131 : decode cX1_joined 131 = .ok (.iconst 1, 1) := by decide +kernel
theorem dX1_joined_132 : decode cX1_joined 132 = .ok (.goto 4, 3) := by decide +kernel
theorem dX1_joined_135 : decode cX1_joined 135 = .ok (.iconst 0, 1) := by decide +kernel
theorem dX1_joined_136 : decode cX1_joined 136 = .ok (.ireturn, 1) := by decide +kernel
theorem dX1_reckon_0 : decode cX1_reckon 0 = .ok (.iconst 0, 1) := by decide +kernel
theorem dX1_reckon_1 : decode cX1_reckon 1 = .ok (.istore 4, 2) := by decide +kernel
theorem dX1_reckon_3 : decode cX1_reckon 3 = .ok (.iload_n 1, 1) := by decide +kernel
theorem dX1_reckon_4 : decode cX1_reckon 4 = .ok (.istore 5, 2) := by decide +kernel
theorem dX1_reckon_6 : decode cX1_reckon 6 = .ok (.iload 5, 2) := by decide +kernel
theorem dX1_reckon_8 : decode cX1_reckon 8 = .ok (.ifCond .lt 300, 3) := by decide +kernel
theorem dX1_reckon_11 : decode cX1_reckon 11 = .ok (.iload 5, 2) := by decide +kernel
theorem dX1_reckon_13 : decode cX1_reckon 13 = .ok (.iload_n 2, 1) := by decide +kernel
theorem dX1_reckon_14 : decode cX1_reckon 14 = .ok (.if_icmp .ge 294, 3) := by decide +kernel
theorem dX1_reckon_17 : decode cX1_reckon 17 = .ok (.iload 5, 2) := by decide +kernel
theorem dX1_reckon_19 : decode cX1_reckon 19 = .ok (.sipush 200, 3) := by decide +kernel
theorem dX1_reckon_22 : decode cX1_reckon 22 = .ok (.if_icmp .ge 286, 3) := by decide +kernel
theorem dX1_reckon_25 : decode cX1_reckon 25 = .ok (.aload_n 0, 1) := by decide +kernel
theorem dX1_reckon_26 : decode cX1_reckon 26 = .ok (.getfield 9, 3) := by decide +kernel
theorem dX1_reckon_29 : decode cX1_reckon 29 = .ok (.iload 5, 2) := by decide +kernel
theorem dX1_reckon_31 : decode cX1_reckon 31 = .ok (.iaload, 1) := by decide +kernel
theorem dX1_reckon_32 : decode cX1_reckon 32 = .ok (.istore 6, 2) := by decide +kernel
theorem dX1_reckon_34 : decode cX1_reckon 34 = .ok (.aload_n 0, 1) := by decide +kernel
theorem dX1_reckon_35 : decode cX1_reckon 35 = .ok (.getfield 15, 3) := by decide +kernel
theorem dX1_reckon_38 : decode cX1_reckon 38 = .ok (.iload 5, 2) := by decide +kernel
theorem dX1_reckon_40 : decode cX1_reckon 40 = .ok (.iaload, 1) := by decide +kernel
theorem dX1_reckon_41 : decode cX1_reckon 41 = .ok (.istore 7, 2) := by decide +kernel
theorem dX1_reckon_43 : decode cX1_reckon 43 = .ok (.iload 6, 2) := by decide +kernel
theorem dX1_reckon_45 : decode cX1_reckon 45 = .ok (.bipush 48, 2) := by decide +kernel
theorem dX1_reckon_47 : decode cX1_reckon 47 = .ok (.if_icmp .eq 10, 3) := by decide +kernel
theorem dX1_reckon_50 : decode cX1_reckon 50 = .ok (.iload 6, 2) := by decide +kernel
theorem dX1_reckon_52 : decode cX1_reckon 52 = .ok (.bipush 108, 2) := by decide +kernel
theorem dX1_reckon_54 : decode cX1_reckon 54 = .ok (.if_icmp .ne 60, 3) := by decide +kernel
theorem dX1_reckon_57 : decode cX1_reckon 57 = .ok (.iload 4, 2) := by decide +kernel
theorem dX1_reckon_59 : decode cX1_reckon 59 = .ok (.bipush 40, 2) := by decide +kernel
theorem dX1_reckon_61 : decode cX1_reckon 61 = .ok (.if_icmp .ge 22, 3) := by decide +kernel
theorem dX1_reckon_64 : decode cX1_reckon 64 = .ok (.iload 6, 2) := by decide +kernel
theorem dX1_reckon_66 : decode cX1_reckon 66 = .ok (.bipush 108, 2) := by decide +kernel
theorem dX1_reckon_68 : decode cX1_reckon 68 = .ok (.if_icmp .ne 17, 3) := by decide +kernel
theorem dX1_reckon_71 : decode cX1_reckon 71 = .ok (.iload 7, 2) := by decide +kernel
theorem dX1_reckon_73 : decode cX1_reckon 73 = .ok (.ifCond .lt 10, 3) := by decide +kernel
theorem dX1_reckon_76 : decode cX1_reckon 76 = .ok (.iload 7, 2) := by decide +kernel
theorem dX1_reckon_78 : decode cX1_reckon 78 = .ok (.aload_n 3, 1) := by decide +kernel
theorem dX1_reckon_79 : decode cX1_reckon 79 = .ok (.arraylength, 1) := by decide +kernel
theorem dX1_reckon_80 : decode cX1_reckon 80 = .ok (.if_icmp .lt 5, 3) := by decide +kernel
theorem dX1_reckon_83 : decode cX1_reckon 83 = .ok (.iconst 0, 1) := by decide +kernel
theorem dX1_reckon_84 : decode cX1_reckon 84 = .ok (.ireturn, 1) := by decide +kernel
theorem dX1_reckon_85 : decode cX1_reckon 85 = .ok (.aload_n 0, 1) := by decide +kernel
theorem dX1_reckon_86 : decode cX1_reckon 86 = .ok (.getfield 30, 3) := by decide +kernel
theorem dX1_reckon_89 : decode cX1_reckon 89 = .ok (.iload 4, 2) := by decide +kernel
theorem dX1_reckon_91 : decode cX1_reckon 91 = .ok (.iload 6, 2) := by decide +kernel
theorem dX1_reckon_93 : decode cX1_reckon 93 = .ok (.bipush 48, 2) := by decide +kernel
theorem dX1_reckon_95 : decode cX1_reckon 95 = .ok (.if_icmp .ne 8, 3) := by decide +kernel
theorem dX1_reckon_98 : decode cX1_reckon 98 = .ok (.iload 7, 2) := by decide +kernel
theorem dX1_reckon_100 : decode cX1_reckon 100 = .ok (.goto 7, 3) := by decide +kernel
theorem dX1_reckon_103 : decode cX1_reckon 103 = .ok (.aload_n 3, 1) := by decide +kernel
theorem dX1_reckon_104 : decode cX1_reckon 104 = .ok (.iload 7, 2) := by decide +kernel
theorem dX1_reckon_106 : decode cX1_reckon 106 = .ok (.iaload, 1) := by decide +kernel
theorem dX1_reckon_107 : decode cX1_reckon 107 = .ok (.iastore, 1) := by decide +kernel
theorem dX1_reckon_108 : decode cX1_reckon 108 = .ok (.iinc 4 1, 3) := by decide +kernel
theorem dX1_reckon_111 : decode cX1_reckon 111 = .ok (.goto 191, 3) := by decide +kernel
theorem dX1_reckon_114 : decode cX1_reckon 114 = .ok (.iload 4, 2) := by decide +kernel
theorem dX1_reckon_116 : decode cX1_reckon 116 = .ok (.iconst 1, 1) := by decide +kernel
theorem dX1_reckon_117 : decode cX1_reckon 117 = .ok (.if_icmp .lt 10, 3) := by decide +kernel
theorem dX1_reckon_120 : decode cX1_reckon 120 = .ok (.iload 4, 2) := by decide +kernel
theorem dX1_reckon_122 : decode cX1_reckon 122 = .ok (.bipush 40, 2) := by decide +kernel
theorem dX1_reckon_124 : decode cX1_reckon 124 = .ok (.if_icmp .le 5, 3) := by decide +kernel
theorem dX1_reckon_127 : decode cX1_reckon 127 = .ok (.iconst 0, 1) := by decide +kernel
theorem dX1_reckon_128 : decode cX1_reckon 128 = .ok (.ireturn, 1) := by decide +kernel
theorem dX1_reckon_129 : decode cX1_reckon 129 = .ok (.iload 6, 2) := by decide +kernel
theorem dX1_reckon_131 : decode cX1_reckon 131 = .ok (.bipush 33, 2) := by decide +kernel
theorem dX1_reckon_133 : decode cX1_reckon 133 = .ok (.if_icmp .ne 26, 3) := by decide +kernel
theorem dX1_reckon_136 : decode cX1_reckon 136 = .ok (.aload_n 0, 1) := by decide +kernel
theorem dX1_reckon_137 : decode cX1_reckon 137 = .ok (.getfield 30, 3) := by decide +kernel
theorem dX1_reckon_140 : decode cX1_reckon 140 = .ok (.iload 4, 2) := by decide +kernel
theorem dX1_reckon_142 : decode cX1_reckon 142 = .ok (.iconst 1, 1) := by decide +kernel
theorem dX1_reckon_143 : decode cX1_reckon 143 = .ok (.isub, 1) := by decide +kernel
theorem dX1_reckon_144 : decode cX1_reckon 144 = .ok (.iconst 1, 1) := by decide +kernel
theorem dX1_reckon_145 : decode cX1_reckon 145 = .ok (.aload_n 0, 1) := by decide +kernel
theorem dX1_reckon_146 : decode cX1_reckon 146 = .ok (.getfield 30, 3) := by decide +kernel
theorem dX1_reckon_149 : decode cX1_reckon 149 = .ok (.iload 4, 2) := by decide +kernel
theorem dX1_reckon_151 : decode cX1_reckon 151 = .ok (.iconst 1, 1) := by decide +kernel
theorem dX1_reckon_152 : decode cX1_reckon 152 = .ok (.isub, 1) := by decide +kernel
theorem dX1_reckon_153 : decode cX1_reckon 153 = .ok (.iaload, 1) := by decide +kernel
theorem dX1_reckon_154 : decode cX1_reckon 154 = .ok (.isub, 1) := by decide +kernel
theorem dX1_reckon_155 : decode cX1_reckon 155 = .ok (.iastore, 1) := by decide +kernel
theorem dX1_reckon_156 : decode cX1_reckon 156 = .ok (.goto 146, 3) := by decide +kernel
theorem dX1_reckon_159 : decode cX1_reckon 159 = .ok (.iload 6, 2) := by decide +kernel
theorem dX1_reckon_161 : decode cX1_reckon 161 = .ok (.bipush 124, 2) := by decide +kernel
theorem dX1_reckon_163 : decode cX1_reckon 163 = .ok (.if_icmp .eq 10, 3) := by decide +kernel
theorem dX1_reckon_166 : decode cX1_reckon 166 = .ok (.iload 6, 2) := by decide +kernel
theorem dX1_reckon_168 : decode cX1_reckon 168 = .ok (.bipush 38, 2) := by decide +kernel
theorem dX1_reckon_170 : decode cX1_reckon 170 = .ok (.if_icmp .ne 67, 3) := by decide +kernel
theorem dX1_reckon_173 : decode cX1_reckon 173 = .ok (.aload_n 0, 1) := by decide +kernel
theorem dX1_reckon_174 : decode cX1_reckon 174 = .ok (.getfield 30, 3) := by decide +kernel
theorem dX1_reckon_177 : decode cX1_reckon 177 = .ok (.iload 4, 2) := by decide +kernel
theorem dX1_reckon_179 : decode cX1_reckon 179 = .ok (.iconst 1, 1) := by decide +kernel
theorem dX1_reckon_180 : decode cX1_reckon 180 = .ok (.isub, 1) := by decide +kernel
theorem dX1_reckon_181 : decode cX1_reckon 181 = .ok (.iaload, 1) := by decide +kernel
theorem dX1_reckon_182 : decode cX1_reckon 182 = .ok (.ifCond .eq 7, 3) := by decide +kernel
theorem dX1_reckon_185 : decode cX1_reckon 185 = .ok (.iconst 1, 1) := by decide +kernel
theorem dX1_reckon_186 : decode cX1_reckon 186 = .ok (.goto 4, 3) := by decide +kernel
theorem dX1_reckon_189 : decode cX1_reckon 189 = .ok (.iconst 0, 1) := by decide +kernel
theorem dX1_reckon_190 : decode cX1_reckon 190 = .ok (.iload 6, 2) := by decide +kernel
theorem dX1_reckon_192 : decode cX1_reckon 192 = .ok (.bipush 124, 2) := by decide +kernel
theorem dX1_reckon_194 : decode cX1_reckon 194 = .ok (.if_icmp .ne 7, 3) := by decide +kernel
theorem dX1_reckon_197 : decode cX1_reckon 197 = .ok (.iconst 1, 1) := by decide +kernel
theorem dX1_reckon_198 : decode cX1_reckon 198 = .ok (.goto 4, 3) := by decide +kernel
theorem dX1_reckon_201 : decode cX1_reckon 201 = .ok (.iconst 0, 1) := by decide +kernel
theorem dX1_reckon_202 : decode cX1_reckon 202 = .ok (.if_icmp .ne 7, 3) := by decide +kernel
theorem dX1_reckon_205 : decode cX1_reckon 205 = .ok (.iconst 1, 1) := by decide +kernel
theorem dX1_reckon_206 : decode cX1_reckon 206 = .ok (.goto 4, 3) := by decide +kernel
theorem dX1_reckon_209 : decode cX1_reckon 209 = .ok (.iconst 0, 1) := by decide +kernel
theorem dX1_reckon_210 : decode cX1_reckon 210 = .ok (.istore 8, 2) := by decide +kernel
theorem dX1_reckon_212 : decode cX1_reckon 212 = .ok (.iload 8, 2) := by decide +kernel
theorem dX1_reckon_214 : decode cX1_reckon 214 = .ok (.ifCond .eq 17, 3) := by decide +kernel
theorem dX1_reckon_217 : decode cX1_reckon 217 = .ok (.iload 5, 2) := by decide +kernel
theorem dX1_reckon_219 : decode cX1_reckon 219 = .ok (.iload 7, 2) := by decide +kernel
theorem dX1_reckon_221 : decode cX1_reckon 221 = .ok (.iconst 1, 1) := by decide +kernel
theorem dX1_reckon_222 : decode cX1_reckon 222 = .ok (.isub, 1) := by decide +kernel
theorem dX1_reckon_223 : decode cX1_reckon 223 = .ok (.invokestatic 56, 3) := by decide +kernel
theorem dX1_reckon_226 : decode cX1_reckon 226 = .ok (.istore 5, 2) := by decide +kernel
theorem dX1_reckon_228 : decode cX1_reckon 228 = .ok (.goto 6, 3) := by decide +kernel
theorem dX1_reckon_231 : decode cX1_reckon 231 = .ok (.iinc 4 (-1), 3) := by decide +kernel
theorem dX1_reckon_234 : decode cX1_reckon 234 = .ok (.goto 68, 3) := by decide +kernel
theorem dX1_reckon_237 : decode cX1_reckon 237 = .ok (.iinc 4 (-1), 3) := by decide +kernel
theorem dX1_reckon_240 : decode cX1_reckon 240 = .ok (.iload 4, 2) := by decide +kernel
theorem dX1_reckon_242 : decode cX1_reckon 242 = .ok (.iconst 1, 1) := by decide +kernel
theorem dX1_reckon_243 : decode cX1_reckon 243 = .ok (.if_icmp .lt 27, 3) := by decide +kernel
theorem dX1_reckon_246 : decode cX1_reckon 246 = .ok (.aload_n 0, 1) := by decide +kernel
theorem dX1_reckon_247 : decode cX1_reckon 247 = .ok (.getfield 30, 3) := by decide +kernel
theorem dX1_reckon_250 : decode cX1_reckon 250 = .ok (.iload 4, 2) := by decide +kernel
theorem dX1_reckon_252 : decode cX1_reckon 252 = .ok (.iaload, 1) := by decide +kernel
theorem dX1_reckon_253 : decode cX1_reckon 253 = .ok (.ifCond .ne 19, 3) := by decide +kernel
theorem dX1_reckon_256 : decode cX1_reckon 256 = .ok (.iload 6, 2) := by decide +kernel
theorem dX1_reckon_258 : decode cX1_reckon 258 = .ok (.bipush 47, 2) := by decide +kernel
theorem dX1_reckon_260 : decode cX1_reckon 260 = .ok (.if_icmp .eq 10, 3) := by decide +kernel
theorem dX1_reckon_263 : decode cX1_reckon 263 = .ok (.iload 6, 2) := by decide +kernel
theorem dX1_reckon_265 : decode cX1_reckon 265 = .ok (.bipush 37, 2) := by decide +kernel
theorem dX1_reckon_267 : decode cX1_reckon 267 = .ok (.if_icmp .ne 5, 3) := by decide +kernel
theorem dX1_reckon_270 : decode cX1_reckon 270 = .ok (.iconst 0, 1) := by decide +kernel
theorem dX1_reckon_271 : decode cX1_reckon 271 = .ok (.ireturn, 1) := by decide +kernel
theorem dX1_reckon_272 : decode cX1_reckon 272 = .ok (.aload_n 0, 1) := by decide +kernel
theorem dX1_reckon_273 : decode cX1_reckon 273 = .ok (.getfield 30, 3) := by decide +kernel
theorem dX1_reckon_276 : decode cX1_reckon 276 = .ok (.iload 4, 2) := by decide +kernel
theorem dX1_reckon_278 : decode cX1_reckon 278 = .ok (.iconst 1, 1) := by decide +kernel
theorem dX1_reckon_279 : decode cX1_reckon 279 = .ok (.isub, 1) := by decide +kernel
theorem dX1_reckon_280 : decode cX1_reckon 280 = .ok (.iload 6, 2) := by decide +kernel
theorem dX1_reckon_282 : decode cX1_reckon 282 = .ok (.aload_n 0, 1) := by decide +kernel
theorem dX1_reckon_283 : decode cX1_reckon 283 = .ok (.getfield 30, 3) := by decide +kernel
theorem dX1_reckon_286 : decode cX1_reckon 286 = .ok (.iload 4, 2) := by decide +kernel
theorem dX1_reckon_288 : decode cX1_reckon 288 = .ok (.iconst 1, 1) := by decide +kernel
theorem dX1_reckon_289 : decode cX1_reckon 289 = .ok (.isub, 1) := by decide +kernel
theorem dX1_reckon_290 : decode cX1_reckon 290 = .ok (.iaload, 1) := by decide +kernel
theorem dX1_reckon_291 : decode cX1_reckon 291 = .ok (.aload_n 0, 1) := by decide +kernel
theorem dX1_reckon_292 : decode cX1_reckon 292 = .ok (.getfield 30, 3) := by decide +kernel
theorem dX1_reckon_295 : decode cX1_reckon 295 = .ok (.iload 4, 2) := by decide +kernel
theorem dX1_reckon_297 : decode cX1_reckon 297 = .ok (.iaload, 1) := by decide +kernel
theorem dX1_reckon_298 : decode cX1_reckon 298 = .ok (.invokestatic 59, 3) := by decide +kernel
theorem dX1_reckon_301 : decode cX1_reckon 301 = .ok (.iastore, 1) := by decide +kernel
theorem dX1_reckon_302 : decode cX1_reckon 302 = .ok (.iinc 5 1, 3) := by decide +kernel
theorem dX1_reckon_305 : decode cX1_reckon 305 = .ok (.goto (-299), 3) := by decide +kernel
theorem dX1_reckon_308 : decode cX1_reckon 308 = .ok (.iload 4, 2) := by decide +kernel
theorem dX1_reckon_310 : decode cX1_reckon 310 = .ok (.iconst 1, 1) := by decide +kernel
theorem dX1_reckon_311 : decode cX1_reckon 311 = .ok (.if_icmp .ne 12, 3) := by decide +kernel
theorem dX1_reckon_314 : decode cX1_reckon 314 = .ok (.aload_n 0, 1) := by decide +kernel
theorem dX1_reckon_315 : decode cX1_reckon 315 = .ok (.getfield 30, 3) := by decide +kernel
theorem dX1_reckon_318 : decode cX1_reckon 318 = .ok (.iconst 0, 1) := by decide +kernel
theorem dX1_reckon_319 : decode cX1_reckon 319 = .ok (.iaload, 1) := by decide +kernel
theorem dX1_reckon_320 : decode cX1_reckon 320 = .ok (.goto 4, 3) := by decide +kernel
theorem dX1_reckon_323 : decode cX1_reckon 323 = .ok (.iconst 0, 1) := by decide +kernel
theorem dX1_reckon_324 : decode cX1_reckon 324 = .ok (.ireturn, 1) := by decide +kernel
/-! f_X4_readPiece -/
noncomputable def o_X4_readPiece (rf : Int32 → SS → Res) (a1 : Int32) (s0 : SS) : Res := if (s0 17 4 : Int32) = 0 then bdp (f_X4_sign s0) (fun (v2 : Int32) => if (v2 : Int32) = (33 : Int32) then bd (f_X4_opens a1 s0) (fun (v4 : Int32) (s5 : SS) => if (v4 : Int32) = 0 then some (0, s5) else bd (rf (a1 + 1) s5) (fun (v7 : Int32) (s8 : SS) => bd (f_X1_addStep 33 0 s8) (fun (v9 : Int32) (s10 : SS) => some (0, s10)))) else bdp (f_X4_sign s0) (fun (v11 : Int32) => if (v11 : Int32) = (40 : Int32) then bd (f_X4_opens a1 s0) (fun (v13 : Int32) (s14 : SS) => if (v13 : Int32) = 0 then some (0, s14) else bd (f_X4_readAnyOf rf (a1 + 1) s14) (fun (v16 : Int32) (s17 : SS) => bd (f_X4_take 41 s17) (fun (v18 : Int32) (s19 : SS) => some (0, s19)))) else bd (f_X4_readComparison a1 s0) (fun (v20 : Int32) (s21 : SS) => some (0, s21)))) else some (0, s0)
set_option maxRecDepth 100000 in
set_option maxHeartbeats 4000000 in
theorem c_o_X4_readPiece {l : Launch} {dr : Nat} (hdr : 126 ≤ dr) {rf : Int32 → SS → Res} (hrf : ∀ (x0 : Int32) (z : SS), Ct l wF yX4_readPiece cX4_readPiece 2 none dr [.ref 17, .int x0] z (rf x0 z)) (a1 : Int32) (s0 : SS) : Ct l wF yX4_readPiece cX4_readPiece 2 none (dr + 3) [.ref 17, .int a1] s0 (o_X4_readPiece rf a1 s0) := by
  refine ct_of (y := yX4_readPiece) plX4 (Nat.le_of_ble_eq_true rfl) ?_
  refine r_pad0 0 (L1 := [.ref 17, .int a1]) rfl ?_
  unfold o_X4_readPiece
  refine r_aload_n (pc1 := 1) (i := 0) dX4_readPiece_0 rfl rfl rfl ?_
  refine r_getI (pc1 := 4) w_17 gfX4_38 rfl dX4_readPiece_1 rfl ?_
  refine r_if_eq (tgt := 8) (pc1 := 7) dX4_readPiece_4 (by decide) rfl (fun q1 => ?_) (fun q1 => ?_)
  · refine r_aload_n (pc1 := 9) (i := 0) dX4_readPiece_8 rfl rfl rfl ?_
    refine r_callVp (pc1 := 12) (rv_of w_17 cl_4) lkX4_61 (c_X4_sign _) rfl rfl ⟨by omega, Nat.le_of_ble_eq_true rfl⟩ (Nat.le_of_ble_eq_true rfl) dX4_readPiece_9 rfl (fun v2 => ?_)
    refine r_bipush (v := 33) (pc1 := 14) dX4_readPiece_12 kb_33 rfl ?_
    refine r_icmp_ne (tgt := 46) (pc1 := 17) dX4_readPiece_14 (by decide) rfl (fun q3 => ?_) (fun q3 => ?_)
    · refine r_aload_n (pc1 := 18) (i := 0) dX4_readPiece_17 rfl rfl rfl ?_
      refine r_iload_n (pc1 := 19) (i := 1) dX4_readPiece_18 rfl rfl rfl ?_
      refine r_callVi (pc1 := 22) (rv_of w_17 cl_4) lkX4_92 (c_X4_opens _ _) rfl rfl ⟨by omega, Nat.le_of_ble_eq_true rfl⟩ (Nat.le_of_ble_eq_true rfl) dX4_readPiece_19 rfl (fun v4 s5 => ?_)
      refine r_if_eq (tgt := 84) (pc1 := 25) dX4_readPiece_22 (by decide) rfl (fun q6 => ?_) (fun q6 => ?_)
      · exact r_vret rfl dX4_readPiece_84
      · refine r_aload_n (pc1 := 26) (i := 0) dX4_readPiece_25 rfl rfl rfl ?_
        refine r_iload_n (pc1 := 27) (i := 1) dX4_readPiece_26 rfl rfl rfl ?_
        refine r_iconst (v := 1) (pc1 := 28) dX4_readPiece_27 ki_1 rfl ?_
        refine r_iadd (pc1 := 29) dX4_readPiece_28 rfl ?_
        refine r_callVv (pc1 := 32) (rv_of w_17 cl_4) lkX4_89 (hrf _ _) rfl rfl ⟨by omega, Nat.le_of_ble_eq_true rfl⟩ (Nat.le_of_ble_eq_true rfl) dX4_readPiece_29 rfl (fun v7 s8 => ?_)
        refine r_aload_n (pc1 := 33) (i := 0) dX4_readPiece_32 rfl rfl rfl ?_
        refine r_getR (pc1 := 36) w_17 gfX4_18 rfl dX4_readPiece_33 rfl ?_
        refine r_bipush (v := 33) (pc1 := 38) dX4_readPiece_36 kb_33 rfl ?_
        refine r_iconst (v := 0) (pc1 := 39) dX4_readPiece_38 ki_0 rfl ?_
        refine r_callVi (pc1 := 42) (rv_of w_19 cl_1) lkX4_86 (c_X1_addStep _ _ _) rfl rfl ⟨by omega, Nat.le_of_ble_eq_true rfl⟩ (Nat.le_of_ble_eq_true rfl) dX4_readPiece_39 rfl (fun v9 s10 => ?_)
        refine r_pop (pc1 := 43) dX4_readPiece_42 rfl rfl ?_
        refine r_goto (tgt := 84) dX4_readPiece_43 (by decide) ?_
        exact r_vret rfl dX4_readPiece_84
    · refine r_aload_n (pc1 := 47) (i := 0) dX4_readPiece_46 rfl rfl rfl ?_
      refine r_callVp (pc1 := 50) (rv_of w_17 cl_4) lkX4_61 (c_X4_sign _) rfl rfl ⟨by omega, Nat.le_of_ble_eq_true rfl⟩ (Nat.le_of_ble_eq_true rfl) dX4_readPiece_47 rfl (fun v11 => ?_)
      refine r_bipush (v := 40) (pc1 := 52) dX4_readPiece_50 kb_40 rfl ?_
      refine r_icmp_ne (tgt := 79) (pc1 := 55) dX4_readPiece_52 (by decide) rfl (fun q12 => ?_) (fun q12 => ?_)
      · refine r_aload_n (pc1 := 56) (i := 0) dX4_readPiece_55 rfl rfl rfl ?_
        refine r_iload_n (pc1 := 57) (i := 1) dX4_readPiece_56 rfl rfl rfl ?_
        refine r_callVi (pc1 := 60) (rv_of w_17 cl_4) lkX4_92 (c_X4_opens _ _) rfl rfl ⟨by omega, Nat.le_of_ble_eq_true rfl⟩ (Nat.le_of_ble_eq_true rfl) dX4_readPiece_57 rfl (fun v13 s14 => ?_)
        refine r_if_eq (tgt := 84) (pc1 := 63) dX4_readPiece_60 (by decide) rfl (fun q15 => ?_) (fun q15 => ?_)
        · exact r_vret rfl dX4_readPiece_84
        · refine r_aload_n (pc1 := 64) (i := 0) dX4_readPiece_63 rfl rfl rfl ?_
          refine r_iload_n (pc1 := 65) (i := 1) dX4_readPiece_64 rfl rfl rfl ?_
          refine r_iconst (v := 1) (pc1 := 66) dX4_readPiece_65 ki_1 rfl ?_
          refine r_iadd (pc1 := 67) dX4_readPiece_66 rfl ?_
          refine r_callVv (pc1 := 70) (rv_of w_17 cl_4) lkX4_73 (c_X4_readAnyOf hdr hrf _ _) rfl rfl ⟨by omega, Nat.le_of_ble_eq_true rfl⟩ (Nat.le_of_ble_eq_true rfl) dX4_readPiece_67 rfl (fun v16 s17 => ?_)
          refine r_aload_n (pc1 := 71) (i := 0) dX4_readPiece_70 rfl rfl rfl ?_
          refine r_bipush (v := 41) (pc1 := 73) dX4_readPiece_71 kb_41 rfl ?_
          refine r_callVv (pc1 := 76) (rv_of w_17 cl_4) lkX4_54 (c_X4_take _ _) rfl rfl ⟨by omega, Nat.le_of_ble_eq_true rfl⟩ (Nat.le_of_ble_eq_true rfl) dX4_readPiece_73 rfl (fun v18 s19 => ?_)
          refine r_goto (tgt := 84) dX4_readPiece_76 (by decide) ?_
          exact r_vret rfl dX4_readPiece_84
      · refine r_aload_n (pc1 := 80) (i := 0) dX4_readPiece_79 rfl rfl rfl ?_
        refine r_iload_n (pc1 := 81) (i := 1) dX4_readPiece_80 rfl rfl rfl ?_
        refine r_callVv (pc1 := 84) (rv_of w_17 cl_4) lkX4_96 (c_X4_readComparison _ _) rfl rfl ⟨by omega, Nat.le_of_ble_eq_true rfl⟩ (Nat.le_of_ble_eq_true rfl) dX4_readPiece_81 rfl (fun v20 s21 => ?_)
        exact r_vret rfl dX4_readPiece_84
  · exact r_vret rfl dX4_readPiece_7
noncomputable def f_X4_readPiece : Nat → Int32 → SS → Res
  | 0, _, _ => none
  | n + 1, a1, s0 => o_X4_readPiece (f_X4_readPiece n) a1 s0
theorem c_X4_readPiece {l : Launch} : ∀ (n : Nat) (a1 : Int32) (s0 : SS), Ct l wF yX4_readPiece cX4_readPiece 2 none (126 + 3 * n) [.ref 17, .int a1] s0 (f_X4_readPiece n a1 s0)
  | 0, _, _ => fun r s1 he => by cases he
  | n + 1, a1, s0 => c_o_X4_readPiece (by omega) (fun x0 z => c_X4_readPiece n x0 z) a1 s0
/-! f_X1_addClause -/
noncomputable def f_X1_addClause (a1 : Int32) (a2 : Int32) (a3 : Int32) (s0 : SS) : Res := if (s0 19 8 : Int32) < 0 then some (0, s0) else if (s0 19 8 : Int32) < (14 : Int32) then gd (inb (s0 19 8) 14) (lts (up s0 22 (Int32.toNatClampNeg (s0 19 8)) a1) (fun (s3 : SS) => gd (inb (s3 19 8) 14) (lts (up s3 23 (Int32.toNatClampNeg (s3 19 8)) a2) (fun (s4 : SS) => gd (inb (s4 19 8) 14) (lts (up s4 24 (Int32.toNatClampNeg (s4 19 8)) a3) (fun (s5 : SS) => gd (inb (s5 19 8) 14) (lts (up s5 25 (Int32.toNatClampNeg (s5 19 8)) (s5 19 7)) (fun (s6 : SS) => lts (up s6 19 8 ((s6 19 8) + 1)) (fun (s7 : SS) => some (0, s7)))))))))) else some (0, s0)
set_option maxRecDepth 100000 in
set_option maxHeartbeats 4000000 in
theorem c_X1_addClause {l : Launch} (a1 : Int32) (a2 : Int32) (a3 : Int32) (s0 : SS) : Ct l wF yX1_addClause cX1_addClause 4 none 0 [.ref 19, .int a1, .int a2, .int a3] s0 (f_X1_addClause a1 a2 a3 s0) := by
  refine ct_of (y := yX1_addClause) plX1 (Nat.le_of_ble_eq_true rfl) ?_
  refine r_pad0 0 (L1 := [.ref 19, .int a1, .int a2, .int a3]) rfl ?_
  unfold f_X1_addClause
  refine r_aload_n (pc1 := 1) (i := 0) dX1_addClause_0 rfl rfl rfl ?_
  refine r_getI (pc1 := 4) w_19 gfX1_33 rfl dX1_addClause_1 rfl ?_
  refine r_if_lt (tgt := 16) (pc1 := 7) dX1_addClause_4 (by decide) rfl (fun q1 => ?_) (fun q1 => ?_)
  · exact r_vret rfl dX1_addClause_16
  · refine r_aload_n (pc1 := 8) (i := 0) dX1_addClause_7 rfl rfl rfl ?_
    refine r_getI (pc1 := 11) w_19 gfX1_33 rfl dX1_addClause_8 rfl ?_
    refine r_bipush (v := 14) (pc1 := 13) dX1_addClause_11 kb_14 rfl ?_
    refine r_icmp_lt (tgt := 17) (pc1 := 16) dX1_addClause_13 (by decide) rfl (fun q2 => ?_) (fun q2 => ?_)
    · refine r_aload_n (pc1 := 18) (i := 0) dX1_addClause_17 rfl rfl rfl ?_
      refine r_getR (pc1 := 21) w_19 gfX1_18 rfl dX1_addClause_18 rfl ?_
      refine r_aload_n (pc1 := 22) (i := 0) dX1_addClause_21 rfl rfl rfl ?_
      refine r_getI (pc1 := 25) w_19 gfX1_33 rfl dX1_addClause_22 rfl ?_
      refine r_iload_n (pc1 := 26) (i := 1) dX1_addClause_25 rfl rfl rfl ?_
      refine r_iast (pc1 := 27) w_22 dX1_addClause_26 rfl ?_
      refine r_lts (fun s3 => ?_)
      refine r_aload_n (pc1 := 28) (i := 0) dX1_addClause_27 rfl rfl rfl ?_
      refine r_getR (pc1 := 31) w_19 gfX1_21 rfl dX1_addClause_28 rfl ?_
      refine r_aload_n (pc1 := 32) (i := 0) dX1_addClause_31 rfl rfl rfl ?_
      refine r_getI (pc1 := 35) w_19 gfX1_33 rfl dX1_addClause_32 rfl ?_
      refine r_iload_n (pc1 := 36) (i := 2) dX1_addClause_35 rfl rfl rfl ?_
      refine r_iast (pc1 := 37) w_23 dX1_addClause_36 rfl ?_
      refine r_lts (fun s4 => ?_)
      refine r_aload_n (pc1 := 38) (i := 0) dX1_addClause_37 rfl rfl rfl ?_
      refine r_getR (pc1 := 41) w_19 gfX1_24 rfl dX1_addClause_38 rfl ?_
      refine r_aload_n (pc1 := 42) (i := 0) dX1_addClause_41 rfl rfl rfl ?_
      refine r_getI (pc1 := 45) w_19 gfX1_33 rfl dX1_addClause_42 rfl ?_
      refine r_iload_n (pc1 := 46) (i := 3) dX1_addClause_45 rfl rfl rfl ?_
      refine r_iast (pc1 := 47) w_24 dX1_addClause_46 rfl ?_
      refine r_lts (fun s5 => ?_)
      refine r_aload_n (pc1 := 48) (i := 0) dX1_addClause_47 rfl rfl rfl ?_
      refine r_getR (pc1 := 51) w_19 gfX1_27 rfl dX1_addClause_48 rfl ?_
      refine r_aload_n (pc1 := 52) (i := 0) dX1_addClause_51 rfl rfl rfl ?_
      refine r_getI (pc1 := 55) w_19 gfX1_33 rfl dX1_addClause_52 rfl ?_
      refine r_aload_n (pc1 := 56) (i := 0) dX1_addClause_55 rfl rfl rfl ?_
      refine r_getI (pc1 := 59) w_19 gfX1_37 rfl dX1_addClause_56 rfl ?_
      refine r_iast (pc1 := 60) w_25 dX1_addClause_59 rfl ?_
      refine r_lts (fun s6 => ?_)
      refine r_aload_n (pc1 := 61) (i := 0) dX1_addClause_60 rfl rfl rfl ?_
      refine r_dup (pc1 := 62) dX1_addClause_61 rfl rfl ?_
      refine r_getI (pc1 := 65) w_19 gfX1_33 rfl dX1_addClause_62 rfl ?_
      refine r_iconst (v := 1) (pc1 := 66) dX1_addClause_65 ki_1 rfl ?_
      refine r_iadd (pc1 := 67) dX1_addClause_66 rfl ?_
      refine r_putI (pc1 := 70) w_19 pfX1_33 rfl ⟨rfl, rfl⟩ dX1_addClause_67 rfl ?_
      refine r_lts (fun s7 => ?_)
      exact r_vret rfl dX1_addClause_70
    · exact r_vret rfl dX1_addClause_16
/-! f_X4_readClause -/
noncomputable def f_X4_readClause (a1 : Int32) (s0 : SS) : Res := bdp (f_X4_sign s0) (fun (v1 : Int32) => jn (bd (f_X4_stop 1 s0) (fun (v3 : Int32) (s4 : SS) => some (0, s4))) (fun (k2 : Res) => if (s0 17 4 : Int32) = 0 then jn (if (a1 : Int32) < (14 : Int32) then lts (up s0 17 3 ((s0 17 3) + 1)) (fun (s8 : SS) => bdp (f_X1_stepCount s8) (fun (v9 : Int32) => bd (f_X4_readSum 40 0 s8) (fun (v10 : Int32) (s11 : SS) => bdp (f_X1_stepCount s11) (fun (v12 : Int32) => bd (f_X4_take 40 s11) (fun (v13 : Int32) (s14 : SS) => bd (f_X4_readAnyOf (f_X4_readPiece 40) 1 s14) (fun (v15 : Int32) (s16 : SS) => bd (f_X4_take 41 s16) (fun (v17 : Int32) (s18 : SS) => bd (f_X1_addClause v1 v9 v12 s18) (fun (v19 : Int32) (s20 : SS) => some (0, s20))))))))) else bd (f_X4_stop 4 s0) (fun (v21 : Int32) (s22 : SS) => some (0, s22))) (fun (k6 : Res) => if (v1 : Int32) = (118 : Int32) then k6 else if (v1 : Int32) = (109 : Int32) then k6 else k2) else k2))
set_option maxRecDepth 100000 in
set_option maxHeartbeats 4000000 in
theorem c_X4_readClause {l : Launch} (a1 : Int32) (s0 : SS) : Ct l wF yX4_readClause cX4_readClause 5 none 249 [.ref 17, .int a1] s0 (f_X4_readClause a1 s0) := by
  refine ct_of (y := yX4_readClause) plX4 (Nat.le_of_ble_eq_true rfl) ?_
  refine r_pad0 3 (L1 := [.ref 17, .int a1, .null, .null, .null]) rfl ?_
  unfold f_X4_readClause
  refine r_aload_n (pc1 := 1) (i := 0) dX4_readClause_0 rfl rfl rfl ?_
  refine r_callVp (pc1 := 4) (rv_of w_17 cl_4) lkX4_61 (c_X4_sign _) rfl rfl ⟨Nat.le_of_ble_eq_true rfl, Nat.le_of_ble_eq_true rfl⟩ (Nat.le_of_ble_eq_true rfl) dX4_readClause_1 rfl (fun v1 => ?_)
  refine r_istore_n (pc1 := 5) (i := 2) dX4_readClause_4 rfl (by decide) rfl rfl rfl ?_
  refine r_aload_n (pc1 := 6) (i := 0) dX4_readClause_5 rfl rfl rfl ?_
  refine r_getI (pc1 := 9) w_17 gfX4_38 rfl dX4_readClause_6 rfl ?_
  refine r_jn (hyp := fun (k2 : Res) => RC l wF RX4 cX4_readClause 5 none 249 24 [.ref 17, .null, .null, .null, .null] [] s0 k2) (?_) (fun k2 hk2 => ?_)
  · refine r_aload_n (pc1 := 25) (i := 0) dX4_readClause_24 rfl rfl rfl ?_
    refine r_iconst (v := 1) (pc1 := 26) dX4_readClause_25 ki_1 rfl ?_
    refine r_callVv (pc1 := 29) (rv_of w_17 cl_4) lkX4_64 (c_X4_stop _ _) rfl rfl ⟨Nat.le_of_ble_eq_true rfl, Nat.le_of_ble_eq_true rfl⟩ (Nat.le_of_ble_eq_true rfl) dX4_readClause_26 rfl (fun v3 s4 => ?_)
    exact r_vret rfl dX4_readClause_29
  · refine r_if_ne (tgt := 24) (pc1 := 12) dX4_readClause_9 (by decide) rfl (fun q5 => ?_) (fun q5 => ?_)
    · refine r_iload_n (pc1 := 13) (i := 2) dX4_readClause_12 rfl rfl rfl ?_
      refine r_bipush (v := 118) (pc1 := 15) dX4_readClause_13 kb_118 rfl ?_
      refine r_jn (hyp := fun (k6 : Res) => RC l wF RX4 cX4_readClause 5 none 249 30 [.ref 17, .int a1, .int v1, .null, .null] [] s0 k6) (?_) (fun k6 hk6 => ?_)
      · refine r_iload_n (pc1 := 31) (i := 1) dX4_readClause_30 rfl rfl rfl ?_
        refine r_bipush (v := 14) (pc1 := 33) dX4_readClause_31 kb_14 rfl ?_
        refine r_icmp_lt (tgt := 42) (pc1 := 36) dX4_readClause_33 (by decide) rfl (fun q7 => ?_) (fun q7 => ?_)
        · refine r_aload_n (pc1 := 43) (i := 0) dX4_readClause_42 rfl rfl rfl ?_
          refine r_dup (pc1 := 44) dX4_readClause_43 rfl rfl ?_
          refine r_getI (pc1 := 47) w_17 gfX4_35 rfl dX4_readClause_44 rfl ?_
          refine r_iconst (v := 1) (pc1 := 48) dX4_readClause_47 ki_1 rfl ?_
          refine r_iadd (pc1 := 49) dX4_readClause_48 rfl ?_
          refine r_putI (pc1 := 52) w_17 pfX4_35 rfl ⟨rfl, rfl⟩ dX4_readClause_49 rfl ?_
          refine r_lts (fun s8 => ?_)
          refine r_aload_n (pc1 := 53) (i := 0) dX4_readClause_52 rfl rfl rfl ?_
          refine r_getR (pc1 := 56) w_17 gfX4_18 rfl dX4_readClause_53 rfl ?_
          refine r_callVp (pc1 := 59) (rv_of w_19 cl_1) lkX4_67 (c_X1_stepCount _) rfl rfl ⟨Nat.le_of_ble_eq_true rfl, Nat.le_of_ble_eq_true rfl⟩ (Nat.le_of_ble_eq_true rfl) dX4_readClause_56 rfl (fun v9 => ?_)
          refine r_istore_n (pc1 := 60) (i := 3) dX4_readClause_59 rfl (by decide) rfl rfl rfl ?_
          refine r_aload_n (pc1 := 61) (i := 0) dX4_readClause_60 rfl rfl rfl ?_
          refine r_iconst (v := 0) (pc1 := 62) dX4_readClause_61 ki_0 rfl ?_
          refine r_callVv (pc1 := 65) (rv_of w_17 cl_4) lkX4_70 (c_X4_readSum 40 _ _) rfl rfl ⟨Nat.le_of_ble_eq_true rfl, Nat.le_of_ble_eq_true rfl⟩ (Nat.le_of_ble_eq_true rfl) dX4_readClause_62 rfl (fun v10 s11 => ?_)
          refine r_aload_n (pc1 := 66) (i := 0) dX4_readClause_65 rfl rfl rfl ?_
          refine r_getR (pc1 := 69) w_17 gfX4_18 rfl dX4_readClause_66 rfl ?_
          refine r_callVp (pc1 := 72) (rv_of w_19 cl_1) lkX4_67 (c_X1_stepCount _) rfl rfl ⟨Nat.le_of_ble_eq_true rfl, Nat.le_of_ble_eq_true rfl⟩ (Nat.le_of_ble_eq_true rfl) dX4_readClause_69 rfl (fun v12 => ?_)
          refine r_istore (pc1 := 74) dX4_readClause_72 (by decide) rfl rfl rfl ?_
          refine r_aload_n (pc1 := 75) (i := 0) dX4_readClause_74 rfl rfl rfl ?_
          refine r_bipush (v := 40) (pc1 := 77) dX4_readClause_75 kb_40 rfl ?_
          refine r_callVv (pc1 := 80) (rv_of w_17 cl_4) lkX4_54 (c_X4_take _ _) rfl rfl ⟨Nat.le_of_ble_eq_true rfl, Nat.le_of_ble_eq_true rfl⟩ (Nat.le_of_ble_eq_true rfl) dX4_readClause_77 rfl (fun v13 s14 => ?_)
          refine r_aload_n (pc1 := 81) (i := 0) dX4_readClause_80 rfl rfl rfl ?_
          refine r_iconst (v := 1) (pc1 := 82) dX4_readClause_81 ki_1 rfl ?_
          refine r_callVv (pc1 := 85) (rv_of w_17 cl_4) lkX4_73 (c_X4_readAnyOf (Nat.le_of_ble_eq_true rfl) (c_X4_readPiece 40) _ _) rfl rfl ⟨Nat.le_of_ble_eq_true rfl, Nat.le_of_ble_eq_true rfl⟩ (Nat.le_of_ble_eq_true rfl) dX4_readClause_82 rfl (fun v15 s16 => ?_)
          refine r_aload_n (pc1 := 86) (i := 0) dX4_readClause_85 rfl rfl rfl ?_
          refine r_bipush (v := 41) (pc1 := 88) dX4_readClause_86 kb_41 rfl ?_
          refine r_callVv (pc1 := 91) (rv_of w_17 cl_4) lkX4_54 (c_X4_take _ _) rfl rfl ⟨Nat.le_of_ble_eq_true rfl, Nat.le_of_ble_eq_true rfl⟩ (Nat.le_of_ble_eq_true rfl) dX4_readClause_88 rfl (fun v17 s18 => ?_)
          refine r_aload_n (pc1 := 92) (i := 0) dX4_readClause_91 rfl rfl rfl ?_
          refine r_getR (pc1 := 95) w_17 gfX4_18 rfl dX4_readClause_92 rfl ?_
          refine r_iload_n (pc1 := 96) (i := 2) dX4_readClause_95 rfl rfl rfl ?_
          refine r_iload_n (pc1 := 97) (i := 3) dX4_readClause_96 rfl rfl rfl ?_
          refine r_iload (pc1 := 99) dX4_readClause_97 rfl rfl ?_
          refine r_callVv (pc1 := 102) (rv_of w_19 cl_1) lkX4_76 (c_X1_addClause _ _ _ _) rfl rfl ⟨Nat.le_of_ble_eq_true rfl, Nat.le_of_ble_eq_true rfl⟩ (Nat.le_of_ble_eq_true rfl) dX4_readClause_99 rfl (fun v19 s20 => ?_)
          exact r_vret rfl dX4_readClause_102
        · refine r_aload_n (pc1 := 37) (i := 0) dX4_readClause_36 rfl rfl rfl ?_
          refine r_iconst (v := 4) (pc1 := 38) dX4_readClause_37 ki_4 rfl ?_
          refine r_callVv (pc1 := 41) (rv_of w_17 cl_4) lkX4_64 (c_X4_stop _ _) rfl rfl ⟨Nat.le_of_ble_eq_true rfl, Nat.le_of_ble_eq_true rfl⟩ (Nat.le_of_ble_eq_true rfl) dX4_readClause_38 rfl (fun v21 s22 => ?_)
          exact r_vret rfl dX4_readClause_41
      · refine r_icmp_eq (tgt := 30) (pc1 := 18) dX4_readClause_15 (by decide) rfl (fun q23 => ?_) (fun q23 => ?_)
        · exact r_wk (hk6) ⟨Or.inr rfl, Or.inr rfl, Or.inr rfl, Or.inl rfl, Or.inl rfl, trivial⟩
        · refine r_iload_n (pc1 := 19) (i := 2) dX4_readClause_18 rfl rfl rfl ?_
          refine r_bipush (v := 109) (pc1 := 21) dX4_readClause_19 kb_109 rfl ?_
          refine r_icmp_eq (tgt := 30) (pc1 := 24) dX4_readClause_21 (by decide) rfl (fun q24 => ?_) (fun q24 => ?_)
          · exact r_wk (hk6) ⟨Or.inr rfl, Or.inr rfl, Or.inr rfl, Or.inl rfl, Or.inl rfl, trivial⟩
          · exact r_wk (hk2) ⟨Or.inr rfl, Or.inl rfl, Or.inl rfl, Or.inl rfl, Or.inl rfl, trivial⟩
    · exact r_wk (hk2) ⟨Or.inr rfl, Or.inl rfl, Or.inl rfl, Or.inl rfl, Or.inl rfl, trivial⟩
/-! f_X1_clauseCount_19 -/
noncomputable def f_X1_clauseCount_19  (s0 : SS) : Option Int32 := some (s0 19 8)
set_option maxRecDepth 100000 in
set_option maxHeartbeats 4000000 in
theorem c_X1_clauseCount_19 {l : Launch}  (s0 : SS) : Ct l wF yX1_clauseCount cX1_clauseCount 1 (some .int) 0 [.ref 19] s0 (pu (f_X1_clauseCount_19 s0) s0) := by
  refine ct_of (y := yX1_clauseCount) plX1 (Nat.le_of_ble_eq_true rfl) ?_
  refine r_pad0 0 (L1 := [.ref 19]) rfl ?_
  unfold f_X1_clauseCount_19
  refine r_aload_n (pc1 := 1) (i := 0) dX1_clauseCount_0 rfl rfl rfl ?_
  refine r_getI (pc1 := 4) w_19 gfX1_33 rfl dX1_clauseCount_1 rfl ?_
  exact p_iret rfl rfl dX1_clauseCount_4
/-! f_X4_readFrom -/
noncomputable def lp_X4_readFrom_66 (k13 : SS → Res) : Nat → Int32 → SS → Res
  | 0, _, _ => none
  | n18 + 1, v16, s17 => if (14 : Int32) < (v16 : Int32) then k13 s17 else if (s17 17 4 : Int32) = 0 then if (s17 17 2 : Int32) ≤ (s17 17 3 : Int32) then k13 s17 else bd (f_X4_take 59 s17) (fun (v22 : Int32) (s23 : SS) => bd (f_X4_readClause v16 s23) (fun (v24 : Int32) (s25 : SS) => lp_X4_readFrom_66 k13 n18 (v16 + 1) s25)) else k13 s17
noncomputable def lp_X4_readFrom_27 (k7 : SS → Res) : Nat → Int32 → SS → Res
  | 0, _, _ => none
  | n28 + 1, v26, s27 => if (s27 17 2 : Int32) ≤ (v26 : Int32) then k7 s27 else bdp (f_X9_byteOn v26 s27) (fun (v30 : Int32) => gd (inb v26 200) (lts (up s27 18 (Int32.toNatClampNeg v26) v30) (fun (s31 : SS) => lp_X4_readFrom_27 k7 n28 (v26 + 1) s31)))
noncomputable def f_X4_readFrom (a1 : Int32) (s0 : SS) : Res := lt (if (200 : Int32) < (a1 : Int32) then 200 else a1) (fun (v1 : Int32) => lt (if (0 : Int32) < (v1 : Int32) then v1 else 0) (fun (v2 : Int32) => lts (up s0 17 2 v2) (fun (s3 : SS) => lts (up s3 17 3 0) (fun (s4 : SS) => lts (up s4 17 4 0) (fun (s5 : SS) => jn (fun (s6 : SS) => bd (f_X1_clear s6) (fun (v8 : Int32) (s9 : SS) => bd (f_X4_readClause 0 s9) (fun (v10 : Int32) (s11 : SS) => jn (fun (s12 : SS) => if (s12 17 4 : Int32) = 0 then bdp (f_X1_clauseCount_19 s12) (fun (v15 : Int32) => some (v15, s12)) else some (s12 17 4, s12)) (fun (k13 : SS → Res) => lp_X4_readFrom_66 k13 FU 1 s11)))) (fun (k7 : SS → Res) => lp_X4_readFrom_27 k7 FU 0 s5))))))
set_option maxRecDepth 100000 in
set_option maxHeartbeats 4000000 in
theorem t_lp_X4_readFrom_66 {l : Launch} (k13 : SS → Res) (hk13 : ∀ (s12 : SS), RC l wF RX4 cX4_readFrom 4 (some .int) 250 107 [.ref 17, .ref 1, .null, .null] [] s12 (k13 s12)) : ∀ (n18 : Nat) (v16 : Int32) (s17 : SS), RC l wF RX4 cX4_readFrom 4 (some .int) 250 66 [.ref 17, .ref 1, .null, .int v16] [] s17 (lp_X4_readFrom_66 k13 n18 v16 s17) := by
  intro n18
  induction n18 with
  | zero =>
    intro v16 s17
    rw [lp_X4_readFrom_66]
    exact r_none
  | succ n18 ih =>
    intro v16 s17
    rw [lp_X4_readFrom_66]
    refine r_iload_n (pc1 := 67) (i := 3) dX4_readFrom_66 rfl rfl rfl ?_
    refine r_bipush (v := 14) (pc1 := 69) dX4_readFrom_67 kb_14 rfl ?_
    refine r_icmp_gt (tgt := 107) (pc1 := 72) dX4_readFrom_69 (by decide) rfl (fun q19 => ?_) (fun q19 => ?_)
    · exact r_wk (hk13 s17) ⟨Or.inr rfl, Or.inr rfl, Or.inl rfl, Or.inl rfl, trivial⟩
    · refine r_aload_n (pc1 := 73) (i := 0) dX4_readFrom_72 rfl rfl rfl ?_
      refine r_getI (pc1 := 76) w_17 gfX4_38 rfl dX4_readFrom_73 rfl ?_
      refine r_if_ne (tgt := 107) (pc1 := 79) dX4_readFrom_76 (by decide) rfl (fun q20 => ?_) (fun q20 => ?_)
      · refine r_aload_n (pc1 := 80) (i := 0) dX4_readFrom_79 rfl rfl rfl ?_
        refine r_getI (pc1 := 83) w_17 gfX4_35 rfl dX4_readFrom_80 rfl ?_
        refine r_aload_n (pc1 := 84) (i := 0) dX4_readFrom_83 rfl rfl rfl ?_
        refine r_getI (pc1 := 87) w_17 gfX4_31 rfl dX4_readFrom_84 rfl ?_
        refine r_icmp_ge (tgt := 107) (pc1 := 90) dX4_readFrom_87 (by decide) rfl (fun q21 => ?_) (fun q21 => ?_)
        · exact r_wk (hk13 s17) ⟨Or.inr rfl, Or.inr rfl, Or.inl rfl, Or.inl rfl, trivial⟩
        · refine r_aload_n (pc1 := 91) (i := 0) dX4_readFrom_90 rfl rfl rfl ?_
          refine r_bipush (v := 59) (pc1 := 93) dX4_readFrom_91 kb_59 rfl ?_
          refine r_callVv (pc1 := 96) (rv_of w_17 cl_4) lkX4_54 (c_X4_take _ _) rfl rfl ⟨Nat.le_of_ble_eq_true rfl, Nat.le_of_ble_eq_true rfl⟩ (Nat.le_of_ble_eq_true rfl) dX4_readFrom_93 rfl (fun v22 s23 => ?_)
          refine r_aload_n (pc1 := 97) (i := 0) dX4_readFrom_96 rfl rfl rfl ?_
          refine r_iload_n (pc1 := 98) (i := 3) dX4_readFrom_97 rfl rfl rfl ?_
          refine r_callVv (pc1 := 101) (rv_of w_17 cl_4) lkX4_50 (c_X4_readClause _ _) rfl rfl ⟨Nat.le_of_ble_eq_true rfl, Nat.le_of_ble_eq_true rfl⟩ (Nat.le_of_ble_eq_true rfl) dX4_readFrom_98 rfl (fun v24 s25 => ?_)
          refine r_iinc (pc1 := 104) dX4_readFrom_101 rfl (kn_1 _) (by decide) rfl rfl rfl ?_
          refine r_goto (tgt := 66) dX4_readFrom_104 (by decide) ?_
          exact r_wk (ih (v16 + 1) s25) ⟨Or.inr rfl, Or.inr rfl, Or.inl rfl, Or.inr rfl, trivial⟩
      · exact r_wk (hk13 s17) ⟨Or.inr rfl, Or.inr rfl, Or.inl rfl, Or.inl rfl, trivial⟩
set_option maxRecDepth 100000 in
set_option maxHeartbeats 4000000 in
theorem t_lp_X4_readFrom_27 {l : Launch} (k7 : SS → Res) (hk7 : ∀ (s6 : SS), RC l wF RX4 cX4_readFrom 4 (some .int) 250 52 [.ref 17, .ref 1, .null, .null] [] s6 (k7 s6)) : ∀ (n28 : Nat) (v26 : Int32) (s27 : SS), RC l wF RX4 cX4_readFrom 4 (some .int) 250 27 [.ref 17, .ref 1, .null, .int v26] [] s27 (lp_X4_readFrom_27 k7 n28 v26 s27) := by
  intro n28
  induction n28 with
  | zero =>
    intro v26 s27
    rw [lp_X4_readFrom_27]
    exact r_none
  | succ n28 ih =>
    intro v26 s27
    rw [lp_X4_readFrom_27]
    refine r_iload_n (pc1 := 28) (i := 3) dX4_readFrom_27 rfl rfl rfl ?_
    refine r_aload_n (pc1 := 29) (i := 0) dX4_readFrom_28 rfl rfl rfl ?_
    refine r_getI (pc1 := 32) w_17 gfX4_31 rfl dX4_readFrom_29 rfl ?_
    refine r_icmp_ge (tgt := 52) (pc1 := 35) dX4_readFrom_32 (by decide) rfl (fun q29 => ?_) (fun q29 => ?_)
    · exact r_wk (hk7 s27) ⟨Or.inr rfl, Or.inr rfl, Or.inl rfl, Or.inl rfl, trivial⟩
    · refine r_aload_n (pc1 := 36) (i := 0) dX4_readFrom_35 rfl rfl rfl ?_
      refine r_getR (pc1 := 39) w_17 gfX4_9 rfl dX4_readFrom_36 rfl ?_
      refine r_iload_n (pc1 := 40) (i := 3) dX4_readFrom_39 rfl rfl rfl ?_
      refine r_aload_n (pc1 := 41) (i := 1) dX4_readFrom_40 rfl rfl rfl ?_
      refine r_iload_n (pc1 := 42) (i := 3) dX4_readFrom_41 rfl rfl rfl ?_
      refine r_callVp (pc1 := 45) (rv_of w_1 cl_9) lkX4_41 (c_X9_byteOn _ _) rfl rfl ⟨Nat.le_of_ble_eq_true rfl, Nat.le_of_ble_eq_true rfl⟩ (Nat.le_of_ble_eq_true rfl) dX4_readFrom_42 rfl (fun v30 => ?_)
      refine r_iast (pc1 := 46) w_18 dX4_readFrom_45 rfl ?_
      refine r_lts (fun s31 => ?_)
      refine r_iinc (pc1 := 49) dX4_readFrom_46 rfl (kn_1 _) (by decide) rfl rfl rfl ?_
      refine r_goto (tgt := 27) dX4_readFrom_49 (by decide) ?_
      exact r_wk (ih (v26 + 1) s31) ⟨Or.inr rfl, Or.inr rfl, Or.inl rfl, Or.inr rfl, trivial⟩
set_option maxRecDepth 100000 in
set_option maxHeartbeats 4000000 in
theorem c_X4_readFrom {l : Launch} (a1 : Int32) (s0 : SS) : Ct l wF yX4_readFrom cX4_readFrom 4 (some .int) 250 [.ref 17, .ref 1, .int a1] s0 (f_X4_readFrom a1 s0) := by
  refine ct_of (y := yX4_readFrom) plX4 (Nat.le_of_ble_eq_true rfl) ?_
  refine r_pad0 1 (L1 := [.ref 17, .ref 1, .int a1, .null]) rfl ?_
  unfold f_X4_readFrom
  refine r_aload_n (pc1 := 1) (i := 0) dX4_readFrom_0 rfl rfl rfl ?_
  refine r_iconst (v := 0) (pc1 := 2) dX4_readFrom_1 ki_0 rfl ?_
  refine r_iload_n (pc1 := 3) (i := 2) dX4_readFrom_2 rfl rfl rfl ?_
  refine r_sipush (v := 200) (pc1 := 6) dX4_readFrom_3 ks_200 rfl ?_
  refine r_mmin (pc1 := 9) mlX4_22 (by omega) dX4_readFrom_6 rfl (Nat.le_of_ble_eq_true rfl) ?_
  refine r_lt (fun v1 => ?_)
  refine r_mmax (pc1 := 12) mlX4_28 (by omega) dX4_readFrom_9 rfl (Nat.le_of_ble_eq_true rfl) ?_
  refine r_lt (fun v2 => ?_)
  refine r_putI (pc1 := 15) w_17 pfX4_31 rfl ⟨rfl, rfl⟩ dX4_readFrom_12 rfl ?_
  refine r_lts (fun s3 => ?_)
  refine r_aload_n (pc1 := 16) (i := 0) dX4_readFrom_15 rfl rfl rfl ?_
  refine r_iconst (v := 0) (pc1 := 17) dX4_readFrom_16 ki_0 rfl ?_
  refine r_putI (pc1 := 20) w_17 pfX4_35 rfl ⟨rfl, rfl⟩ dX4_readFrom_17 rfl ?_
  refine r_lts (fun s4 => ?_)
  refine r_aload_n (pc1 := 21) (i := 0) dX4_readFrom_20 rfl rfl rfl ?_
  refine r_iconst (v := 0) (pc1 := 22) dX4_readFrom_21 ki_0 rfl ?_
  refine r_putI (pc1 := 25) w_17 pfX4_38 rfl ⟨rfl, rfl⟩ dX4_readFrom_22 rfl ?_
  refine r_lts (fun s5 => ?_)
  refine r_iconst (v := 0) (pc1 := 26) dX4_readFrom_25 ki_0 rfl ?_
  refine r_istore_n (pc1 := 27) (i := 3) dX4_readFrom_26 rfl (by decide) rfl rfl rfl ?_
  refine r_jn (hyp := fun (k7 : SS → Res) => ∀ (s6 : SS), RC l wF RX4 cX4_readFrom 4 (some .int) 250 52 [.ref 17, .ref 1, .null, .null] [] s6 (k7 s6)) (fun s6 => ?_) (fun k7 hk7 => ?_)
  · refine r_aload_n (pc1 := 53) (i := 0) dX4_readFrom_52 rfl rfl rfl ?_
    refine r_getR (pc1 := 56) w_17 gfX4_18 rfl dX4_readFrom_53 rfl ?_
    refine r_callVv (pc1 := 59) (rv_of w_19 cl_1) lkX4_47 (c_X1_clear _) rfl rfl ⟨Nat.le_of_ble_eq_true rfl, Nat.le_of_ble_eq_true rfl⟩ (Nat.le_of_ble_eq_true rfl) dX4_readFrom_56 rfl (fun v8 s9 => ?_)
    refine r_aload_n (pc1 := 60) (i := 0) dX4_readFrom_59 rfl rfl rfl ?_
    refine r_iconst (v := 0) (pc1 := 61) dX4_readFrom_60 ki_0 rfl ?_
    refine r_callVv (pc1 := 64) (rv_of w_17 cl_4) lkX4_50 (c_X4_readClause _ _) rfl rfl ⟨Nat.le_of_ble_eq_true rfl, Nat.le_of_ble_eq_true rfl⟩ (Nat.le_of_ble_eq_true rfl) dX4_readFrom_61 rfl (fun v10 s11 => ?_)
    refine r_iconst (v := 1) (pc1 := 65) dX4_readFrom_64 ki_1 rfl ?_
    refine r_istore_n (pc1 := 66) (i := 3) dX4_readFrom_65 rfl (by decide) rfl rfl rfl ?_
    refine r_jn (hyp := fun (k13 : SS → Res) => ∀ (s12 : SS), RC l wF RX4 cX4_readFrom 4 (some .int) 250 107 [.ref 17, .ref 1, .null, .null] [] s12 (k13 s12)) (fun s12 => ?_) (fun k13 hk13 => ?_)
    · refine r_aload_n (pc1 := 108) (i := 0) dX4_readFrom_107 rfl rfl rfl ?_
      refine r_getI (pc1 := 111) w_17 gfX4_38 rfl dX4_readFrom_108 rfl ?_
      refine r_if_eq (tgt := 121) (pc1 := 114) dX4_readFrom_111 (by decide) rfl (fun q14 => ?_) (fun q14 => ?_)
      · refine r_aload_n (pc1 := 122) (i := 0) dX4_readFrom_121 rfl rfl rfl ?_
        refine r_getR (pc1 := 125) w_17 gfX4_18 rfl dX4_readFrom_122 rfl ?_
        refine r_callVp (pc1 := 128) (rv_of w_19 cl_1) lkX4_57 (c_X1_clauseCount_19 _) rfl rfl ⟨Nat.le_of_ble_eq_true rfl, Nat.le_of_ble_eq_true rfl⟩ (Nat.le_of_ble_eq_true rfl) dX4_readFrom_125 rfl (fun v15 => ?_)
        exact r_iret rfl rfl dX4_readFrom_128
      · refine r_aload_n (pc1 := 115) (i := 0) dX4_readFrom_114 rfl rfl rfl ?_
        refine r_getI (pc1 := 118) w_17 gfX4_38 rfl dX4_readFrom_115 rfl ?_
        refine r_goto (tgt := 128) dX4_readFrom_118 (by decide) ?_
        exact r_iret rfl rfl dX4_readFrom_128
    · exact r_wk (t_lp_X4_readFrom_66 k13 hk13 FU 1 s11) ⟨Or.inr rfl, Or.inr rfl, Or.inl rfl, Or.inr rfl, trivial⟩
  · exact r_wk (t_lp_X4_readFrom_27 k7 hk7 FU 0 s5) ⟨Or.inr rfl, Or.inr rfl, Or.inl rfl, Or.inr rfl, trivial⟩
/-! f_X1_copyFrom -/
noncomputable def f_X1_copyFrom  (s0 : SS) : Res := lts (upr s0 10 (va_cpy (s0 20) (s0 10) 0 0 200)) (fun (s1 : SS) => lts (upr s1 11 (va_cpy (s1 21) (s1 11) 0 0 200)) (fun (s2 : SS) => lts (upr s2 12 (va_cpy (s2 22) (s2 12) 0 0 14)) (fun (s3 : SS) => lts (upr s3 13 (va_cpy (s3 23) (s3 13) 0 0 14)) (fun (s4 : SS) => lts (upr s4 14 (va_cpy (s4 24) (s4 14) 0 0 14)) (fun (s5 : SS) => lts (upr s5 15 (va_cpy (s5 25) (s5 15) 0 0 14)) (fun (s6 : SS) => lts (up s6 9 7 (s6 19 7)) (fun (s7 : SS) => lts (up s7 9 8 (s7 19 8)) (fun (s8 : SS) => some (0, s8)))))))))
set_option maxRecDepth 100000 in
set_option maxHeartbeats 4000000 in
theorem c_X1_copyFrom {l : Launch}  (s0 : SS) : Ct l wF yX1_copyFrom cX1_copyFrom 2 none 1 [.ref 9, .ref 19] s0 (f_X1_copyFrom s0) := by
  refine ct_of (y := yX1_copyFrom) plX1 (Nat.le_of_ble_eq_true rfl) ?_
  refine r_pad0 0 (L1 := [.ref 9, .ref 19]) rfl ?_
  unfold f_X1_copyFrom
  refine r_aload_n (pc1 := 1) (i := 1) dX1_copyFrom_0 rfl rfl rfl ?_
  refine r_getR (pc1 := 4) w_19 gfX1_9 rfl dX1_copyFrom_1 rfl ?_
  refine r_iconst (v := 0) (pc1 := 5) dX1_copyFrom_4 ki_0 rfl ?_
  refine r_aload_n (pc1 := 6) (i := 0) dX1_copyFrom_5 rfl rfl rfl ?_
  refine r_getR (pc1 := 9) w_9 gfX1_9 rfl dX1_copyFrom_6 rfl ?_
  refine r_iconst (v := 0) (pc1 := 10) dX1_copyFrom_9 ki_0 rfl ?_
  refine r_sipush (v := 200) (pc1 := 13) dX1_copyFrom_10 ks_200 rfl ?_
  refine r_copy (pc1 := 16) w_20 w_10 ckX1_40 (by omega) (by decide) dX1_copyFrom_13 rfl ?_
  refine r_lts (fun s1 => ?_)
  refine r_aload_n (pc1 := 17) (i := 1) dX1_copyFrom_16 rfl rfl rfl ?_
  refine r_getR (pc1 := 20) w_19 gfX1_15 rfl dX1_copyFrom_17 rfl ?_
  refine r_iconst (v := 0) (pc1 := 21) dX1_copyFrom_20 ki_0 rfl ?_
  refine r_aload_n (pc1 := 22) (i := 0) dX1_copyFrom_21 rfl rfl rfl ?_
  refine r_getR (pc1 := 25) w_9 gfX1_15 rfl dX1_copyFrom_22 rfl ?_
  refine r_iconst (v := 0) (pc1 := 26) dX1_copyFrom_25 ki_0 rfl ?_
  refine r_sipush (v := 200) (pc1 := 29) dX1_copyFrom_26 ks_200 rfl ?_
  refine r_copy (pc1 := 32) w_21 w_11 ckX1_40 (by omega) (by decide) dX1_copyFrom_29 rfl ?_
  refine r_lts (fun s2 => ?_)
  refine r_aload_n (pc1 := 33) (i := 1) dX1_copyFrom_32 rfl rfl rfl ?_
  refine r_getR (pc1 := 36) w_19 gfX1_18 rfl dX1_copyFrom_33 rfl ?_
  refine r_iconst (v := 0) (pc1 := 37) dX1_copyFrom_36 ki_0 rfl ?_
  refine r_aload_n (pc1 := 38) (i := 0) dX1_copyFrom_37 rfl rfl rfl ?_
  refine r_getR (pc1 := 41) w_9 gfX1_18 rfl dX1_copyFrom_38 rfl ?_
  refine r_iconst (v := 0) (pc1 := 42) dX1_copyFrom_41 ki_0 rfl ?_
  refine r_bipush (v := 14) (pc1 := 44) dX1_copyFrom_42 kb_14 rfl ?_
  refine r_copy (pc1 := 47) w_22 w_12 ckX1_40 (by omega) (by decide) dX1_copyFrom_44 rfl ?_
  refine r_lts (fun s3 => ?_)
  refine r_aload_n (pc1 := 48) (i := 1) dX1_copyFrom_47 rfl rfl rfl ?_
  refine r_getR (pc1 := 51) w_19 gfX1_21 rfl dX1_copyFrom_48 rfl ?_
  refine r_iconst (v := 0) (pc1 := 52) dX1_copyFrom_51 ki_0 rfl ?_
  refine r_aload_n (pc1 := 53) (i := 0) dX1_copyFrom_52 rfl rfl rfl ?_
  refine r_getR (pc1 := 56) w_9 gfX1_21 rfl dX1_copyFrom_53 rfl ?_
  refine r_iconst (v := 0) (pc1 := 57) dX1_copyFrom_56 ki_0 rfl ?_
  refine r_bipush (v := 14) (pc1 := 59) dX1_copyFrom_57 kb_14 rfl ?_
  refine r_copy (pc1 := 62) w_23 w_13 ckX1_40 (by omega) (by decide) dX1_copyFrom_59 rfl ?_
  refine r_lts (fun s4 => ?_)
  refine r_aload_n (pc1 := 63) (i := 1) dX1_copyFrom_62 rfl rfl rfl ?_
  refine r_getR (pc1 := 66) w_19 gfX1_24 rfl dX1_copyFrom_63 rfl ?_
  refine r_iconst (v := 0) (pc1 := 67) dX1_copyFrom_66 ki_0 rfl ?_
  refine r_aload_n (pc1 := 68) (i := 0) dX1_copyFrom_67 rfl rfl rfl ?_
  refine r_getR (pc1 := 71) w_9 gfX1_24 rfl dX1_copyFrom_68 rfl ?_
  refine r_iconst (v := 0) (pc1 := 72) dX1_copyFrom_71 ki_0 rfl ?_
  refine r_bipush (v := 14) (pc1 := 74) dX1_copyFrom_72 kb_14 rfl ?_
  refine r_copy (pc1 := 77) w_24 w_14 ckX1_40 (by omega) (by decide) dX1_copyFrom_74 rfl ?_
  refine r_lts (fun s5 => ?_)
  refine r_aload_n (pc1 := 78) (i := 1) dX1_copyFrom_77 rfl rfl rfl ?_
  refine r_getR (pc1 := 81) w_19 gfX1_27 rfl dX1_copyFrom_78 rfl ?_
  refine r_iconst (v := 0) (pc1 := 82) dX1_copyFrom_81 ki_0 rfl ?_
  refine r_aload_n (pc1 := 83) (i := 0) dX1_copyFrom_82 rfl rfl rfl ?_
  refine r_getR (pc1 := 86) w_9 gfX1_27 rfl dX1_copyFrom_83 rfl ?_
  refine r_iconst (v := 0) (pc1 := 87) dX1_copyFrom_86 ki_0 rfl ?_
  refine r_bipush (v := 14) (pc1 := 89) dX1_copyFrom_87 kb_14 rfl ?_
  refine r_copy (pc1 := 92) w_25 w_15 ckX1_40 (by omega) (by decide) dX1_copyFrom_89 rfl ?_
  refine r_lts (fun s6 => ?_)
  refine r_aload_n (pc1 := 93) (i := 0) dX1_copyFrom_92 rfl rfl rfl ?_
  refine r_aload_n (pc1 := 94) (i := 1) dX1_copyFrom_93 rfl rfl rfl ?_
  refine r_getI (pc1 := 97) w_19 gfX1_37 rfl dX1_copyFrom_94 rfl ?_
  refine r_putI (pc1 := 100) w_9 pfX1_37 rfl ⟨rfl, rfl⟩ dX1_copyFrom_97 rfl ?_
  refine r_lts (fun s7 => ?_)
  refine r_aload_n (pc1 := 101) (i := 0) dX1_copyFrom_100 rfl rfl rfl ?_
  refine r_aload_n (pc1 := 102) (i := 1) dX1_copyFrom_101 rfl rfl rfl ?_
  refine r_getI (pc1 := 105) w_19 gfX1_33 rfl dX1_copyFrom_102 rfl ?_
  refine r_putI (pc1 := 108) w_9 pfX1_33 rfl ⟨rfl, rfl⟩ dX1_copyFrom_105 rfl ?_
  refine r_lts (fun s8 => ?_)
  exact r_vret rfl dX1_copyFrom_108
/-! f_X11_text -/
noncomputable def f_X11_text (a1 : Int32) (s0 : SS) : Res := if (a1 : Int32) < (1 : Int32) then some ((-1), s0) else if (200 : Int32) < (a1 : Int32) then some ((-1), s0) else bdp (f_X9_size s0) (fun (v3 : Int32) => if (a1 : Int32) ≤ (v3 : Int32) then bd (f_X4_readFrom a1 s0) (fun (v5 : Int32) (s6 : SS) => bd (f_X9_clear s6) (fun (v7 : Int32) (s8 : SS) => if (v5 : Int32) ≤ 0 then some (v5, s8) else bd (f_X1_copyFrom s8) (fun (v10 : Int32) (s11 : SS) => bd (f_X10_forget s11) (fun (v12 : Int32) (s13 : SS) => lts (up s13 0 15 ((s13 0 15) + 1)) (fun (s14 : SS) => some (v5, s14)))))) else some ((-1), s0))
set_option maxRecDepth 100000 in
set_option maxHeartbeats 4000000 in
theorem c_X11_text {l : Launch} (a1 : Int32) (s0 : SS) : Ct l wF yX11_text cX11_text 3 (some .int) 251 [.ref 0, .int a1] s0 (f_X11_text a1 s0) := by
  refine ct_of (y := yX11_text) plX11 (Nat.le_of_ble_eq_true rfl) ?_
  refine r_pad0 1 (L1 := [.ref 0, .int a1, .null]) rfl ?_
  unfold f_X11_text
  refine r_iload_n (pc1 := 1) (i := 1) dX11_text_0 rfl rfl rfl ?_
  refine r_iconst (v := 1) (pc1 := 2) dX11_text_1 ki_1 rfl ?_
  refine r_icmp_lt (tgt := 23) (pc1 := 5) dX11_text_2 (by decide) rfl (fun q1 => ?_) (fun q1 => ?_)
  · refine r_iconst (v := (-1)) (pc1 := 24) dX11_text_23 ki_m1 rfl ?_
    exact r_iret rfl rfl dX11_text_24
  · refine r_iload_n (pc1 := 6) (i := 1) dX11_text_5 rfl rfl rfl ?_
    refine r_sipush (v := 200) (pc1 := 9) dX11_text_6 ks_200 rfl ?_
    refine r_icmp_gt (tgt := 23) (pc1 := 12) dX11_text_9 (by decide) rfl (fun q2 => ?_) (fun q2 => ?_)
    · refine r_iconst (v := (-1)) (pc1 := 24) dX11_text_23 ki_m1 rfl ?_
      exact r_iret rfl rfl dX11_text_24
    · refine r_iload_n (pc1 := 13) (i := 1) dX11_text_12 rfl rfl rfl ?_
      refine r_aload_n (pc1 := 14) (i := 0) dX11_text_13 rfl rfl rfl ?_
      refine r_getR (pc1 := 17) w_0 gfX11_10 rfl dX11_text_14 rfl ?_
      refine r_callVp (pc1 := 20) (rv_of w_1 cl_9) lkX11_129 (c_X9_size _) rfl rfl ⟨Nat.le_of_ble_eq_true rfl, Nat.le_of_ble_eq_true rfl⟩ (Nat.le_of_ble_eq_true rfl) dX11_text_17 rfl (fun v3 => ?_)
      refine r_icmp_le (tgt := 25) (pc1 := 23) dX11_text_20 (by decide) rfl (fun q4 => ?_) (fun q4 => ?_)
      · refine r_aload_n (pc1 := 26) (i := 0) dX11_text_25 rfl rfl rfl ?_
        refine r_getR (pc1 := 29) w_0 gfX11_33 rfl dX11_text_26 rfl ?_
        refine r_aload_n (pc1 := 30) (i := 0) dX11_text_29 rfl rfl rfl ?_
        refine r_getR (pc1 := 33) w_0 gfX11_10 rfl dX11_text_30 rfl ?_
        refine r_iload_n (pc1 := 34) (i := 1) dX11_text_33 rfl rfl rfl ?_
        refine r_callVi (pc1 := 37) (rv_of w_17 cl_4) lkX11_160 (c_X4_readFrom _ _) rfl rfl ⟨Nat.le_of_ble_eq_true rfl, Nat.le_of_ble_eq_true rfl⟩ (Nat.le_of_ble_eq_true rfl) dX11_text_34 rfl (fun v5 s6 => ?_)
        refine r_istore_n (pc1 := 38) (i := 2) dX11_text_37 rfl (by decide) rfl rfl rfl ?_
        refine r_aload_n (pc1 := 39) (i := 0) dX11_text_38 rfl rfl rfl ?_
        refine r_getR (pc1 := 42) w_0 gfX11_10 rfl dX11_text_39 rfl ?_
        refine r_callVv (pc1 := 45) (rv_of w_1 cl_9) lkX11_136 (c_X9_clear _) rfl rfl ⟨Nat.le_of_ble_eq_true rfl, Nat.le_of_ble_eq_true rfl⟩ (Nat.le_of_ble_eq_true rfl) dX11_text_42 rfl (fun v7 s8 => ?_)
        refine r_iload_n (pc1 := 46) (i := 2) dX11_text_45 rfl rfl rfl ?_
        refine r_if_le (tgt := 80) (pc1 := 49) dX11_text_46 (by decide) rfl (fun q9 => ?_) (fun q9 => ?_)
        · refine r_iload_n (pc1 := 81) (i := 2) dX11_text_80 rfl rfl rfl ?_
          exact r_iret rfl rfl dX11_text_81
        · refine r_aload_n (pc1 := 50) (i := 0) dX11_text_49 rfl rfl rfl ?_
          refine r_getR (pc1 := 53) w_0 gfX11_26 rfl dX11_text_50 rfl ?_
          refine r_aload_n (pc1 := 54) (i := 0) dX11_text_53 rfl rfl rfl ?_
          refine r_getR (pc1 := 57) w_0 gfX11_33 rfl dX11_text_54 rfl ?_
          refine r_getR (pc1 := 60) w_17 gfX11_164 rfl dX11_text_57 rfl ?_
          refine r_callVv (pc1 := 63) (rv_of w_9 cl_1) lkX11_167 (c_X1_copyFrom _) rfl rfl ⟨Nat.le_of_ble_eq_true rfl, Nat.le_of_ble_eq_true rfl⟩ (Nat.le_of_ble_eq_true rfl) dX11_text_60 rfl (fun v10 s11 => ?_)
          refine r_aload_n (pc1 := 64) (i := 0) dX11_text_63 rfl rfl rfl ?_
          refine r_getR (pc1 := 67) w_0 gfX11_42 rfl dX11_text_64 rfl ?_
          refine r_callVv (pc1 := 70) (rv_of w_27 cl_10) lkX11_171 (c_X10_forget _) rfl rfl ⟨Nat.le_of_ble_eq_true rfl, Nat.le_of_ble_eq_true rfl⟩ (Nat.le_of_ble_eq_true rfl) dX11_text_67 rfl (fun v12 s13 => ?_)
          refine r_aload_n (pc1 := 71) (i := 0) dX11_text_70 rfl rfl rfl ?_
          refine r_dup (pc1 := 72) dX11_text_71 rfl rfl ?_
          refine r_getI (pc1 := 75) w_0 gfX11_110 rfl dX11_text_72 rfl ?_
          refine r_iconst (v := 1) (pc1 := 76) dX11_text_75 ki_1 rfl ?_
          refine r_iadd (pc1 := 77) dX11_text_76 rfl ?_
          refine r_putI (pc1 := 80) w_0 pfX11_110 rfl ⟨rfl, rfl⟩ dX11_text_77 rfl ?_
          refine r_lts (fun s14 => ?_)
          refine r_iload_n (pc1 := 81) (i := 2) dX11_text_80 rfl rfl rfl ?_
          exact r_iret rfl rfl dX11_text_81
      · refine r_iconst (v := (-1)) (pc1 := 24) dX11_text_23 ki_m1 rfl ?_
        exact r_iret rfl rfl dX11_text_24
/-! f_J7_fill_d0a16_33 -/
noncomputable def lp_J7_fill_d0a16_33_6 (a1 : Int64) : Nat → Int32 → SS → Res
  | 0, _, _ => none
  | n3 + 1, v1, s2 => if (5348 : Int32) ≤ (v1 : Int32) then some (0, s2) else gd (inb v1 5348) (lts (upl s2 33 (Int32.toNatClampNeg v1) a1) (fun (s5 : SS) => lp_J7_fill_d0a16_33_6 a1 n3 (v1 + 1) s5))
noncomputable def f_J7_fill_d0a16_33 (a1 : Int64) (s0 : SS) : Res := lp_J7_fill_d0a16_33_6 a1 FU 0 s0
set_option maxRecDepth 100000 in
set_option maxHeartbeats 4000000 in
theorem t_lp_J7_fill_d0a16_33_6 {l : Launch} (a1 : Int64)  : ∀ (n3 : Nat) (v1 : Int32) (s2 : SS), RC l wF RJ7 cJ7_fill_d0a16 5 none 0 6 [.ref 33, .long a1, .null, .int v1, .int 5348] [] s2 (lp_J7_fill_d0a16_33_6 a1 n3 v1 s2) := by
  intro n3
  induction n3 with
  | zero =>
    intro v1 s2
    rw [lp_J7_fill_d0a16_33_6]
    exact r_none
  | succ n3 ih =>
    intro v1 s2
    rw [lp_J7_fill_d0a16_33_6]
    refine r_iload_n (pc1 := 7) (i := 3) dJ7_fill_d0a16_6 rfl rfl rfl ?_
    refine r_iload (pc1 := 9) dJ7_fill_d0a16_7 rfl rfl ?_
    refine r_icmp_ge (tgt := 22) (pc1 := 12) dJ7_fill_d0a16_9 (by decide) rfl (fun q4 => ?_) (fun q4 => ?_)
    · exact r_vret rfl dJ7_fill_d0a16_22
    · refine r_aload_n (pc1 := 13) (i := 0) dJ7_fill_d0a16_12 rfl rfl rfl ?_
      refine r_iload_n (pc1 := 14) (i := 3) dJ7_fill_d0a16_13 rfl rfl rfl ?_
      refine r_lload_n (pc1 := 15) (i := 1) dJ7_fill_d0a16_14 rfl rfl rfl ?_
      refine r_last (pc1 := 16) w_33 dJ7_fill_d0a16_15 rfl ?_
      refine r_lts (fun s5 => ?_)
      refine r_iinc (pc1 := 19) dJ7_fill_d0a16_16 rfl (kn_1 _) (by decide) rfl rfl rfl ?_
      refine r_goto (tgt := 6) dJ7_fill_d0a16_19 (by decide) ?_
      exact r_wk (ih (v1 + 1) s5) ⟨Or.inr rfl, Or.inr rfl, Or.inl rfl, Or.inr rfl, Or.inr rfl, trivial⟩
set_option maxRecDepth 100000 in
set_option maxHeartbeats 4000000 in
theorem c_J7_fill_d0a16_33 {l : Launch} (a1 : Int64) (s0 : SS) : Ct l wF yJ7_fill_d0a16 cJ7_fill_d0a16 5 none 0 [.ref 33, .long a1] s0 (f_J7_fill_d0a16_33 a1 s0) := by
  refine ct_of (y := yJ7_fill_d0a16) plJ7 (Nat.le_of_ble_eq_true rfl) ?_
  refine r_pad0 2 (L1 := [.ref 33, .long a1, .null, .null, .null]) rfl ?_
  unfold f_J7_fill_d0a16_33
  refine r_iconst (v := 0) (pc1 := 1) dJ7_fill_d0a16_0 ki_0 rfl ?_
  refine r_istore_n (pc1 := 2) (i := 3) dJ7_fill_d0a16_1 rfl (by decide) rfl rfl rfl ?_
  refine r_aload_n (pc1 := 3) (i := 0) dJ7_fill_d0a16_2 rfl rfl rfl ?_
  refine r_alenL (t := 3) (v := 5348) (pc1 := 4) w_33 (fun _ => rfl) (al_5348) dJ7_fill_d0a16_3 rfl ?_
  refine r_istore (pc1 := 6) dJ7_fill_d0a16_4 (by decide) rfl rfl rfl ?_
  exact r_wk (t_lp_J7_fill_d0a16_33_6 a1 FU 0 s0) ⟨Or.inr rfl, Or.inr rfl, Or.inl rfl, Or.inr rfl, Or.inr rfl, trivial⟩
/-! f_J7_fill_d0a16_34 -/
noncomputable def lp_J7_fill_d0a16_34_6 (a1 : Int64) : Nat → Int32 → SS → Res
  | 0, _, _ => none
  | n3 + 1, v1, s2 => if (5348 : Int32) ≤ (v1 : Int32) then some (0, s2) else gd (inb v1 5348) (lts (upl s2 34 (Int32.toNatClampNeg v1) a1) (fun (s5 : SS) => lp_J7_fill_d0a16_34_6 a1 n3 (v1 + 1) s5))
noncomputable def f_J7_fill_d0a16_34 (a1 : Int64) (s0 : SS) : Res := lp_J7_fill_d0a16_34_6 a1 FU 0 s0
set_option maxRecDepth 100000 in
set_option maxHeartbeats 4000000 in
theorem t_lp_J7_fill_d0a16_34_6 {l : Launch} (a1 : Int64)  : ∀ (n3 : Nat) (v1 : Int32) (s2 : SS), RC l wF RJ7 cJ7_fill_d0a16 5 none 0 6 [.ref 34, .long a1, .null, .int v1, .int 5348] [] s2 (lp_J7_fill_d0a16_34_6 a1 n3 v1 s2) := by
  intro n3
  induction n3 with
  | zero =>
    intro v1 s2
    rw [lp_J7_fill_d0a16_34_6]
    exact r_none
  | succ n3 ih =>
    intro v1 s2
    rw [lp_J7_fill_d0a16_34_6]
    refine r_iload_n (pc1 := 7) (i := 3) dJ7_fill_d0a16_6 rfl rfl rfl ?_
    refine r_iload (pc1 := 9) dJ7_fill_d0a16_7 rfl rfl ?_
    refine r_icmp_ge (tgt := 22) (pc1 := 12) dJ7_fill_d0a16_9 (by decide) rfl (fun q4 => ?_) (fun q4 => ?_)
    · exact r_vret rfl dJ7_fill_d0a16_22
    · refine r_aload_n (pc1 := 13) (i := 0) dJ7_fill_d0a16_12 rfl rfl rfl ?_
      refine r_iload_n (pc1 := 14) (i := 3) dJ7_fill_d0a16_13 rfl rfl rfl ?_
      refine r_lload_n (pc1 := 15) (i := 1) dJ7_fill_d0a16_14 rfl rfl rfl ?_
      refine r_last (pc1 := 16) w_34 dJ7_fill_d0a16_15 rfl ?_
      refine r_lts (fun s5 => ?_)
      refine r_iinc (pc1 := 19) dJ7_fill_d0a16_16 rfl (kn_1 _) (by decide) rfl rfl rfl ?_
      refine r_goto (tgt := 6) dJ7_fill_d0a16_19 (by decide) ?_
      exact r_wk (ih (v1 + 1) s5) ⟨Or.inr rfl, Or.inr rfl, Or.inl rfl, Or.inr rfl, Or.inr rfl, trivial⟩
set_option maxRecDepth 100000 in
set_option maxHeartbeats 4000000 in
theorem c_J7_fill_d0a16_34 {l : Launch} (a1 : Int64) (s0 : SS) : Ct l wF yJ7_fill_d0a16 cJ7_fill_d0a16 5 none 0 [.ref 34, .long a1] s0 (f_J7_fill_d0a16_34 a1 s0) := by
  refine ct_of (y := yJ7_fill_d0a16) plJ7 (Nat.le_of_ble_eq_true rfl) ?_
  refine r_pad0 2 (L1 := [.ref 34, .long a1, .null, .null, .null]) rfl ?_
  unfold f_J7_fill_d0a16_34
  refine r_iconst (v := 0) (pc1 := 1) dJ7_fill_d0a16_0 ki_0 rfl ?_
  refine r_istore_n (pc1 := 2) (i := 3) dJ7_fill_d0a16_1 rfl (by decide) rfl rfl rfl ?_
  refine r_aload_n (pc1 := 3) (i := 0) dJ7_fill_d0a16_2 rfl rfl rfl ?_
  refine r_alenL (t := 3) (v := 5348) (pc1 := 4) w_34 (fun _ => rfl) (al_5348) dJ7_fill_d0a16_3 rfl ?_
  refine r_istore (pc1 := 6) dJ7_fill_d0a16_4 (by decide) rfl rfl rfl ?_
  exact r_wk (t_lp_J7_fill_d0a16_34_6 a1 FU 0 s0) ⟨Or.inr rfl, Or.inr rfl, Or.inl rfl, Or.inr rfl, Or.inr rfl, trivial⟩
/-! f_X10_freshen -/
noncomputable def f_X10_freshen  (s0 : SS) : Res := if (s0 27 10 : Int32) = 0 then some (0, s0) else bd (f_J7_fill_d0a16_33 0 s0) (fun (v2 : Int32) (s3 : SS) => bd (f_J7_fill_d0a16_34 0 s3) (fun (v4 : Int32) (s5 : SS) => lts (up s5 27 10 0) (fun (s6 : SS) => some (0, s6))))
set_option maxRecDepth 100000 in
set_option maxHeartbeats 4000000 in
theorem c_X10_freshen {l : Launch}  (s0 : SS) : Ct l wF yX10_freshen cX10_freshen 1 none 1 [.ref 27] s0 (f_X10_freshen s0) := by
  refine ct_of (y := yX10_freshen) plX10 (Nat.le_of_ble_eq_true rfl) ?_
  refine r_pad0 0 (L1 := [.ref 27]) rfl ?_
  unfold f_X10_freshen
  refine r_aload_n (pc1 := 1) (i := 0) dX10_freshen_0 rfl rfl rfl ?_
  refine r_getI (pc1 := 4) w_27 gfX10_59 rfl dX10_freshen_1 rfl ?_
  refine r_if_eq (tgt := 28) (pc1 := 7) dX10_freshen_4 (by decide) rfl (fun q1 => ?_) (fun q1 => ?_)
  · exact r_vret rfl dX10_freshen_28
  · refine r_aload_n (pc1 := 8) (i := 0) dX10_freshen_7 rfl rfl rfl ?_
    refine r_getR (pc1 := 11) w_27 gfX10_29 rfl dX10_freshen_8 rfl ?_
    refine r_lconst (v := 0) (pc1 := 12) dX10_freshen_11 kl_0 rfl ?_
    refine r_callSv (pc1 := 15) lkX10_63 (c_J7_fill_d0a16_33 _ _) rfl rfl ⟨Nat.le_of_ble_eq_true rfl, Nat.le_of_ble_eq_true rfl⟩ (Nat.le_of_ble_eq_true rfl) dX10_freshen_12 rfl (fun v2 s3 => ?_)
    refine r_aload_n (pc1 := 16) (i := 0) dX10_freshen_15 rfl rfl rfl ?_
    refine r_getR (pc1 := 19) w_27 gfX10_33 rfl dX10_freshen_16 rfl ?_
    refine r_lconst (v := 0) (pc1 := 20) dX10_freshen_19 kl_0 rfl ?_
    refine r_callSv (pc1 := 23) lkX10_63 (c_J7_fill_d0a16_34 _ _) rfl rfl ⟨Nat.le_of_ble_eq_true rfl, Nat.le_of_ble_eq_true rfl⟩ (Nat.le_of_ble_eq_true rfl) dX10_freshen_20 rfl (fun v4 s5 => ?_)
    refine r_aload_n (pc1 := 24) (i := 0) dX10_freshen_23 rfl rfl rfl ?_
    refine r_iconst (v := 0) (pc1 := 25) dX10_freshen_24 ki_0 rfl ?_
    refine r_putI (pc1 := 28) w_27 pfX10_59 rfl ⟨rfl, rfl⟩ dX10_freshen_25 rfl ?_
    refine r_lts (fun s6 => ?_)
    exact r_vret rfl dX10_freshen_28
/-! f_X11_slotOf -/
noncomputable def f_X11_slotOf (a1 : Int64) (a2 : Int32) (a3 : Int32) (s0 : SS) : Option Int32 := some (((lsr a1 (a2 * a3) : Int64).toInt32) &&& ((1 <<< (a3 &&& 31)) - 1))
set_option maxRecDepth 100000 in
set_option maxHeartbeats 4000000 in
theorem c_X11_slotOf {l : Launch} (a1 : Int64) (a2 : Int32) (a3 : Int32) (s0 : SS) : Ct l wF yX11_slotOf cX11_slotOf 4 (some .int) 0 [.long a1, .int a2, .int a3] s0 (pu (f_X11_slotOf a1 a2 a3 s0) s0) := by
  refine ct_of (y := yX11_slotOf) plX11 (Nat.le_of_ble_eq_true rfl) ?_
  refine r_pad0 0 (L1 := [.long a1, .null, .int a2, .int a3]) rfl ?_
  unfold f_X11_slotOf
  refine r_lload_n (pc1 := 1) (i := 0) dX11_slotOf_0 rfl rfl rfl ?_
  refine r_iload_n (pc1 := 2) (i := 2) dX11_slotOf_1 rfl rfl rfl ?_
  refine r_iload_n (pc1 := 3) (i := 3) dX11_slotOf_2 rfl rfl rfl ?_
  refine r_imul (pc1 := 4) dX11_slotOf_3 rfl ?_
  refine r_lushr (pc1 := 5) dX11_slotOf_4 rfl ?_
  refine r_l2i (pc1 := 6) dX11_slotOf_5 rfl ?_
  refine r_iconst (v := 1) (pc1 := 7) dX11_slotOf_6 ki_1 rfl ?_
  refine r_iload_n (pc1 := 8) (i := 3) dX11_slotOf_7 rfl rfl rfl ?_
  refine r_ishl (pc1 := 9) dX11_slotOf_8 rfl ?_
  refine r_iconst (v := 1) (pc1 := 10) dX11_slotOf_9 ki_1 rfl ?_
  refine r_isub (pc1 := 11) dX11_slotOf_10 rfl ?_
  refine r_iand (pc1 := 12) dX11_slotOf_11 rfl ?_
  exact p_iret rfl rfl dX11_slotOf_12
/-! f_X6_standingOn -/
noncomputable def f_X6_standingOn (a1 : Int32) (s0 : SS) : Option Int32 := jn (some 0) (fun (k1 : Option Int32) => if (a1 : Int32) < 0 then k1 else if (a1 : Int32) < (5348 : Int32) then gd (inb a1 5348) (some ((s0 4 (Int32.toNatClampNeg a1)) &&& 255)) else k1)
set_option maxRecDepth 100000 in
set_option maxHeartbeats 4000000 in
theorem c_X6_standingOn {l : Launch} {wl : WT} (w_3 : WI wl 3 (OE 6 [some 4, some 8])) (w_4 : WI wl 4 (AE 0 5348)) (w_8 : WI wl 8 (AE 0 5348)) (a1 : Int32) (s0 : SS) : Ct l wl yX6_standingOn cX6_standingOn 2 (some .int) 0 [.ref 3, .int a1] s0 (pu (f_X6_standingOn a1 s0) s0) := by
  refine ct_of (y := yX6_standingOn) plX6 (Nat.le_of_ble_eq_true rfl) ?_
  refine r_pad0 0 (L1 := [.ref 3, .int a1]) rfl ?_
  unfold f_X6_standingOn
  refine r_iload_n (pc1 := 1) (i := 1) dX6_standingOn_0 rfl rfl rfl ?_
  refine p_jn (hyp := fun (k1 : Option Int32) => RC l wl RX6 cX6_standingOn 2 (some .int) 0 11 [.ref 3, .null] [] s0 (pu k1 s0)) (?_) (fun k1 hk1 => ?_)
  · refine r_iconst (v := 0) (pc1 := 12) dX6_standingOn_11 ki_0 rfl ?_
    refine r_goto (tgt := 25) dX6_standingOn_12 (by decide) ?_
    exact p_iret rfl rfl dX6_standingOn_25
  · refine p_if_lt (tgt := 11) (pc1 := 4) dX6_standingOn_1 (by decide) rfl (fun q2 => ?_) (fun q2 => ?_)
    · exact r_wk (hk1) ⟨Or.inr rfl, Or.inl rfl, trivial⟩
    · refine r_iload_n (pc1 := 5) (i := 1) dX6_standingOn_4 rfl rfl rfl ?_
      refine r_sipush (v := 5348) (pc1 := 8) dX6_standingOn_5 ks_5348 rfl ?_
      refine p_icmp_lt (tgt := 15) (pc1 := 11) dX6_standingOn_8 (by decide) rfl (fun q3 => ?_) (fun q3 => ?_)
      · refine r_aload_n (pc1 := 16) (i := 0) dX6_standingOn_15 rfl rfl rfl ?_
        refine r_getR (pc1 := 19) w_3 gfX6_11 rfl dX6_standingOn_16 rfl ?_
        refine r_iload_n (pc1 := 20) (i := 1) dX6_standingOn_19 rfl rfl rfl ?_
        refine p_iald (pc1 := 21) w_4 dX6_standingOn_20 rfl ?_
        refine r_sipush (v := 255) (pc1 := 24) dX6_standingOn_21 ks_255 rfl ?_
        refine r_iand (pc1 := 25) dX6_standingOn_24 rfl ?_
        exact p_iret rfl rfl dX6_standingOn_25
      · exact r_wk (hk1) ⟨Or.inr rfl, Or.inl rfl, trivial⟩
/-! f_X10_holdingOn -/
noncomputable def lp_X10_holdingOn_14 (s0 : SS) (v1 : Int32) : Nat → Int32 → Int32 → Option Int32
  | 0, _, _ => none
  | n4 + 1, v2, v3 => if (8 : Int32) ≤ (v3 : Int32) then some v2 else jn (fun (v6 : Int32) => lp_X10_holdingOn_14 s0 v1 n4 v6 (v3 + 1)) (fun (k7 : Int32 → Option Int32) => if ((v1 >>> (v3 &&& 31)) &&& 1 : Int32) = (1 : Int32) then gd (inb v3 8) (if ((s0 29 (Int32.toNatClampNeg v3)) &&& (v1 ^^^ ((-1))) : Int32) = 0 then lt (v2 ||| (1 <<< (v3 &&& 31))) (fun (v10 : Int32) => k7 v10) else k7 v2) else k7 v2)
noncomputable def f_X10_holdingOn (a1 : Int32) (s0 : SS) : Option Int32 := bdp (f_X6_standingOn a1 s0) (fun (v1 : Int32) => lp_X10_holdingOn_14 s0 v1 FU 0 0)
set_option maxRecDepth 100000 in
set_option maxHeartbeats 4000000 in
theorem t_lp_X10_holdingOn_14 {l : Launch} (s0 : SS) (v1 : Int32)  : ∀ (n4 : Nat) (v2 : Int32) (v3 : Int32), RC l wF RX10 cX10_holdingOn 5 (some .int) 1 14 [.ref 27, .null, .int v1, .int v2, .int v3] [] s0 (pu (lp_X10_holdingOn_14 s0 v1 n4 v2 v3) s0) := by
  intro n4
  induction n4 with
  | zero =>
    intro v2 v3
    rw [lp_X10_holdingOn_14]
    exact p_none
  | succ n4 ih =>
    intro v2 v3
    rw [lp_X10_holdingOn_14]
    refine r_iload (pc1 := 16) dX10_holdingOn_14 rfl rfl ?_
    refine r_bipush (v := 8) (pc1 := 18) dX10_holdingOn_16 kb_8 rfl ?_
    refine p_icmp_ge (tgt := 58) (pc1 := 21) dX10_holdingOn_18 (by decide) rfl (fun q5 => ?_) (fun q5 => ?_)
    · refine r_iload_n (pc1 := 59) (i := 3) dX10_holdingOn_58 rfl rfl rfl ?_
      exact p_iret rfl rfl dX10_holdingOn_59
    · refine r_iload_n (pc1 := 22) (i := 2) dX10_holdingOn_21 rfl rfl rfl ?_
      refine r_iload (pc1 := 24) dX10_holdingOn_22 rfl rfl ?_
      refine r_ishr (pc1 := 25) dX10_holdingOn_24 rfl ?_
      refine r_iconst (v := 1) (pc1 := 26) dX10_holdingOn_25 ki_1 rfl ?_
      refine r_iand (pc1 := 27) dX10_holdingOn_26 rfl ?_
      refine r_iconst (v := 1) (pc1 := 28) dX10_holdingOn_27 ki_1 rfl ?_
      refine p_jn (hyp := fun (k7 : Int32 → Option Int32) => ∀ (v6 : Int32), RC l wF RX10 cX10_holdingOn 5 (some .int) 1 52 [.ref 27, .null, .int v1, .int v6, .int v3] [] s0 (pu (k7 v6) s0)) (fun v6 => ?_) (fun k7 hk7 => ?_)
      · refine r_iinc (pc1 := 55) dX10_holdingOn_52 rfl (kn_1 _) (by decide) rfl rfl rfl ?_
        refine r_goto (tgt := 14) dX10_holdingOn_55 (by decide) ?_
        exact r_wk (ih v6 (v3 + 1)) ⟨Or.inr rfl, Or.inl rfl, Or.inr rfl, Or.inr rfl, Or.inr rfl, trivial⟩
      · refine p_icmp_ne (tgt := 52) (pc1 := 31) dX10_holdingOn_28 (by decide) rfl (fun q8 => ?_) (fun q8 => ?_)
        · refine r_aload_n (pc1 := 32) (i := 0) dX10_holdingOn_31 rfl rfl rfl ?_
          refine r_getR (pc1 := 35) w_27 gfX10_15 rfl dX10_holdingOn_32 rfl ?_
          refine r_iload (pc1 := 37) dX10_holdingOn_35 rfl rfl ?_
          refine p_iald (pc1 := 38) w_29 dX10_holdingOn_37 rfl ?_
          refine r_iload_n (pc1 := 39) (i := 2) dX10_holdingOn_38 rfl rfl rfl ?_
          refine r_iconst (v := (-1)) (pc1 := 40) dX10_holdingOn_39 ki_m1 rfl ?_
          refine r_ixor (pc1 := 41) dX10_holdingOn_40 rfl ?_
          refine r_iand (pc1 := 42) dX10_holdingOn_41 rfl ?_
          refine p_if_ne (tgt := 52) (pc1 := 45) dX10_holdingOn_42 (by decide) rfl (fun q9 => ?_) (fun q9 => ?_)
          · refine r_iload_n (pc1 := 46) (i := 3) dX10_holdingOn_45 rfl rfl rfl ?_
            refine r_iconst (v := 1) (pc1 := 47) dX10_holdingOn_46 ki_1 rfl ?_
            refine r_iload (pc1 := 49) dX10_holdingOn_47 rfl rfl ?_
            refine r_ishl (pc1 := 50) dX10_holdingOn_49 rfl ?_
            refine r_ior (pc1 := 51) dX10_holdingOn_50 rfl ?_
            refine p_lt (fun v10 => ?_)
            refine r_istore_n (pc1 := 52) (i := 3) dX10_holdingOn_51 rfl (by decide) rfl rfl rfl ?_
            exact r_wk (hk7 v10) ⟨Or.inr rfl, Or.inl rfl, Or.inr rfl, Or.inr rfl, Or.inr rfl, trivial⟩
          · exact r_wk (hk7 v2) ⟨Or.inr rfl, Or.inl rfl, Or.inr rfl, Or.inr rfl, Or.inr rfl, trivial⟩
        · exact r_wk (hk7 v2) ⟨Or.inr rfl, Or.inl rfl, Or.inr rfl, Or.inr rfl, Or.inr rfl, trivial⟩
set_option maxRecDepth 100000 in
set_option maxHeartbeats 4000000 in
theorem c_X10_holdingOn {l : Launch} (a1 : Int32) (s0 : SS) : Ct l wF yX10_holdingOn cX10_holdingOn 5 (some .int) 1 [.ref 27, .int a1] s0 (pu (f_X10_holdingOn a1 s0) s0) := by
  refine ct_of (y := yX10_holdingOn) plX10 (Nat.le_of_ble_eq_true rfl) ?_
  refine r_pad0 3 (L1 := [.ref 27, .int a1, .null, .null, .null]) rfl ?_
  unfold f_X10_holdingOn
  refine r_aload_n (pc1 := 1) (i := 0) dX10_holdingOn_0 rfl rfl rfl ?_
  refine r_getR (pc1 := 4) w_27 gfX10_36 rfl dX10_holdingOn_1 rfl ?_
  refine r_iload_n (pc1 := 5) (i := 1) dX10_holdingOn_4 rfl rfl rfl ?_
  refine p_callVp (pc1 := 8) (rv_of w_3 cl_6) lkX10_48 (c_X6_standingOn w_3 w_4 w_8 _ _) rfl rfl ⟨Nat.le_of_ble_eq_true rfl, Nat.le_of_ble_eq_true rfl⟩ (Nat.le_of_ble_eq_true rfl) dX10_holdingOn_5 rfl (fun v1 => ?_)
  refine r_istore_n (pc1 := 9) (i := 2) dX10_holdingOn_8 rfl (by decide) rfl rfl rfl ?_
  refine r_iconst (v := 0) (pc1 := 10) dX10_holdingOn_9 ki_0 rfl ?_
  refine r_istore_n (pc1 := 11) (i := 3) dX10_holdingOn_10 rfl (by decide) rfl rfl rfl ?_
  refine r_iconst (v := 0) (pc1 := 12) dX10_holdingOn_11 ki_0 rfl ?_
  refine r_istore (pc1 := 14) dX10_holdingOn_12 (by decide) rfl rfl rfl ?_
  exact r_wk (t_lp_X10_holdingOn_14 s0 v1 FU 0 0) ⟨Or.inr rfl, Or.inl rfl, Or.inr rfl, Or.inr rfl, Or.inr rfl, trivial⟩
/-! f_X10_allLaws -/
noncomputable def f_X10_allLaws  (s0 : SS) : Option Int32 := some ((1 <<< ((s0 27 9) &&& 31)) - 1)
set_option maxRecDepth 100000 in
set_option maxHeartbeats 4000000 in
theorem c_X10_allLaws {l : Launch}  (s0 : SS) : Ct l wF yX10_allLaws cX10_allLaws 1 (some .int) 0 [.ref 27] s0 (pu (f_X10_allLaws s0) s0) := by
  refine ct_of (y := yX10_allLaws) plX10 (Nat.le_of_ble_eq_true rfl) ?_
  refine r_pad0 0 (L1 := [.ref 27]) rfl ?_
  unfold f_X10_allLaws
  refine r_iconst (v := 1) (pc1 := 1) dX10_allLaws_0 ki_1 rfl ?_
  refine r_aload_n (pc1 := 2) (i := 0) dX10_allLaws_1 rfl rfl rfl ?_
  refine r_getI (pc1 := 5) w_27 gfX10_44 rfl dX10_allLaws_2 rfl ?_
  refine r_ishl (pc1 := 6) dX10_allLaws_5 rfl ?_
  refine r_iconst (v := 1) (pc1 := 7) dX10_allLaws_6 ki_1 rfl ?_
  refine r_isub (pc1 := 8) dX10_allLaws_7 rfl ?_
  exact p_iret rfl rfl dX10_allLaws_8
/-! f_X10_openTo -/
noncomputable def lp_X10_openTo_15 (a2 : Int32) (s0 : SS) (v1 : Int32) : Nat → Int32 → Int32 → Option Int32
  | 0, _, _ => none
  | n5 + 1, v3, v4 => if (8 : Int32) ≤ (v4 : Int32) then some v3 else jn (fun (v7 : Int32) => lp_X10_openTo_15 a2 s0 v1 n5 v7 (v4 + 1)) (fun (k8 : Int32 → Option Int32) => if ((v1 >>> (v4 &&& 31)) &&& 1 : Int32) = (1 : Int32) then gd (inb v4 8) (jn (fun (v10 : Int32) => lt (v3 &&& v10) (fun (v12 : Int32) => k8 v12)) (fun (k11 : Int32 → Option Int32) => if (((s0 31 (Int32.toNatClampNeg v4)) >>> (a2 &&& 31)) &&& 1 : Int32) = (1 : Int32) then k11 0 else gd (inb v4 8) (k11 ((s0 30 (Int32.toNatClampNeg v4)) ^^^ ((-1)))))) else k8 v3)
noncomputable def f_X10_openTo (a1 : Int32) (a2 : Int32) (s0 : SS) : Option Int32 := bdp (f_X10_holdingOn a1 s0) (fun (v1 : Int32) => bdp (f_X10_allLaws s0) (fun (v2 : Int32) => lp_X10_openTo_15 a2 s0 v1 FU v2 0))
set_option maxRecDepth 100000 in
set_option maxHeartbeats 4000000 in
theorem t_lp_X10_openTo_15 {l : Launch} (a2 : Int32) (s0 : SS) (v1 : Int32)  : ∀ (n5 : Nat) (v3 : Int32) (v4 : Int32), RC l wF RX10 cX10_openTo 6 (some .int) 2 15 [.ref 27, .null, .int a2, .int v1, .int v3, .int v4] [] s0 (pu (lp_X10_openTo_15 a2 s0 v1 n5 v3 v4) s0) := by
  intro n5
  induction n5 with
  | zero =>
    intro v3 v4
    rw [lp_X10_openTo_15]
    exact p_none
  | succ n5 ih =>
    intro v3 v4
    rw [lp_X10_openTo_15]
    refine r_iload (pc1 := 17) dX10_openTo_15 rfl rfl ?_
    refine r_bipush (v := 8) (pc1 := 19) dX10_openTo_17 kb_8 rfl ?_
    refine p_icmp_ge (tgt := 71) (pc1 := 22) dX10_openTo_19 (by decide) rfl (fun q6 => ?_) (fun q6 => ?_)
    · refine r_iload (pc1 := 73) dX10_openTo_71 rfl rfl ?_
      exact p_iret rfl rfl dX10_openTo_73
    · refine r_iload_n (pc1 := 23) (i := 3) dX10_openTo_22 rfl rfl rfl ?_
      refine r_iload (pc1 := 25) dX10_openTo_23 rfl rfl ?_
      refine r_ishr (pc1 := 26) dX10_openTo_25 rfl ?_
      refine r_iconst (v := 1) (pc1 := 27) dX10_openTo_26 ki_1 rfl ?_
      refine r_iand (pc1 := 28) dX10_openTo_27 rfl ?_
      refine r_iconst (v := 1) (pc1 := 29) dX10_openTo_28 ki_1 rfl ?_
      refine p_jn (hyp := fun (k8 : Int32 → Option Int32) => ∀ (v7 : Int32), RC l wF RX10 cX10_openTo 6 (some .int) 2 65 [.ref 27, .null, .int a2, .int v1, .int v7, .int v4] [] s0 (pu (k8 v7) s0)) (fun v7 => ?_) (fun k8 hk8 => ?_)
      · refine r_iinc (pc1 := 68) dX10_openTo_65 rfl (kn_1 _) (by decide) rfl rfl rfl ?_
        refine r_goto (tgt := 15) dX10_openTo_68 (by decide) ?_
        exact r_wk (ih v7 (v4 + 1)) ⟨Or.inr rfl, Or.inl rfl, Or.inr rfl, Or.inr rfl, Or.inr rfl, Or.inr rfl, trivial⟩
      · refine p_icmp_ne (tgt := 65) (pc1 := 32) dX10_openTo_29 (by decide) rfl (fun q9 => ?_) (fun q9 => ?_)
        · refine r_iload (pc1 := 34) dX10_openTo_32 rfl rfl ?_
          refine r_aload_n (pc1 := 35) (i := 0) dX10_openTo_34 rfl rfl rfl ?_
          refine r_getR (pc1 := 38) w_27 gfX10_21 rfl dX10_openTo_35 rfl ?_
          refine r_iload (pc1 := 40) dX10_openTo_38 rfl rfl ?_
          refine p_iald (pc1 := 41) w_31 dX10_openTo_40 rfl ?_
          refine r_iload_n (pc1 := 42) (i := 2) dX10_openTo_41 rfl rfl rfl ?_
          refine r_ishr (pc1 := 43) dX10_openTo_42 rfl ?_
          refine r_iconst (v := 1) (pc1 := 44) dX10_openTo_43 ki_1 rfl ?_
          refine r_iand (pc1 := 45) dX10_openTo_44 rfl ?_
          refine r_iconst (v := 1) (pc1 := 46) dX10_openTo_45 ki_1 rfl ?_
          refine p_jn (hyp := fun (k11 : Int32 → Option Int32) => ∀ (v10 : Int32), RC l wF RX10 cX10_openTo 6 (some .int) 2 62 [.ref 27, .null, .int a2, .int v1, .null, .int v4] [.int v10, .int v3] s0 (pu (k11 v10) s0)) (fun v10 => ?_) (fun k11 hk11 => ?_)
          · refine r_iand (pc1 := 63) dX10_openTo_62 rfl ?_
            refine p_lt (fun v12 => ?_)
            refine r_istore (pc1 := 65) dX10_openTo_63 (by decide) rfl rfl rfl ?_
            exact r_wk (hk8 v12) ⟨Or.inr rfl, Or.inl rfl, Or.inr rfl, Or.inr rfl, Or.inr rfl, Or.inr rfl, trivial⟩
          · refine p_icmp_ne (tgt := 53) (pc1 := 49) dX10_openTo_46 (by decide) rfl (fun q13 => ?_) (fun q13 => ?_)
            · refine r_iconst (v := 0) (pc1 := 50) dX10_openTo_49 ki_0 rfl ?_
              refine r_goto (tgt := 62) dX10_openTo_50 (by decide) ?_
              exact r_wk (hk11 0) ⟨Or.inr rfl, Or.inl rfl, Or.inr rfl, Or.inr rfl, Or.inl rfl, Or.inr rfl, trivial⟩
            · refine r_aload_n (pc1 := 54) (i := 0) dX10_openTo_53 rfl rfl rfl ?_
              refine r_getR (pc1 := 57) w_27 gfX10_18 rfl dX10_openTo_54 rfl ?_
              refine r_iload (pc1 := 59) dX10_openTo_57 rfl rfl ?_
              refine p_iald (pc1 := 60) w_30 dX10_openTo_59 rfl ?_
              refine r_iconst (v := (-1)) (pc1 := 61) dX10_openTo_60 ki_m1 rfl ?_
              refine r_ixor (pc1 := 62) dX10_openTo_61 rfl ?_
              exact r_wk (hk11 ((s0 30 (Int32.toNatClampNeg v4)) ^^^ ((-1)))) ⟨Or.inr rfl, Or.inl rfl, Or.inr rfl, Or.inr rfl, Or.inl rfl, Or.inr rfl, trivial⟩
        · exact r_wk (hk8 v3) ⟨Or.inr rfl, Or.inl rfl, Or.inr rfl, Or.inr rfl, Or.inr rfl, Or.inr rfl, trivial⟩
set_option maxRecDepth 100000 in
set_option maxHeartbeats 4000000 in
theorem c_X10_openTo {l : Launch} (a1 : Int32) (a2 : Int32) (s0 : SS) : Ct l wF yX10_openTo cX10_openTo 6 (some .int) 2 [.ref 27, .int a1, .int a2] s0 (pu (f_X10_openTo a1 a2 s0) s0) := by
  refine ct_of (y := yX10_openTo) plX10 (Nat.le_of_ble_eq_true rfl) ?_
  refine r_pad0 3 (L1 := [.ref 27, .int a1, .int a2, .null, .null, .null]) rfl ?_
  unfold f_X10_openTo
  refine r_aload_n (pc1 := 1) (i := 0) dX10_openTo_0 rfl rfl rfl ?_
  refine r_iload_n (pc1 := 2) (i := 1) dX10_openTo_1 rfl rfl rfl ?_
  refine p_callVp (pc1 := 5) (rv_of w_27 cl_10) lkX10_107 (c_X10_holdingOn _ _) rfl rfl ⟨Nat.le_of_ble_eq_true rfl, Nat.le_of_ble_eq_true rfl⟩ (Nat.le_of_ble_eq_true rfl) dX10_openTo_2 rfl (fun v1 => ?_)
  refine r_istore_n (pc1 := 6) (i := 3) dX10_openTo_5 rfl (by decide) rfl rfl rfl ?_
  refine r_aload_n (pc1 := 7) (i := 0) dX10_openTo_6 rfl rfl rfl ?_
  refine p_callVp (pc1 := 10) (rv_of w_27 cl_10) lkX10_52 (c_X10_allLaws _) rfl rfl ⟨Nat.le_of_ble_eq_true rfl, Nat.le_of_ble_eq_true rfl⟩ (Nat.le_of_ble_eq_true rfl) dX10_openTo_7 rfl (fun v2 => ?_)
  refine r_istore (pc1 := 12) dX10_openTo_10 (by decide) rfl rfl rfl ?_
  refine r_iconst (v := 0) (pc1 := 13) dX10_openTo_12 ki_0 rfl ?_
  refine r_istore (pc1 := 15) dX10_openTo_13 (by decide) rfl rfl rfl ?_
  exact r_wk (t_lp_X10_openTo_15 a2 s0 v1 FU v2 0) ⟨Or.inr rfl, Or.inl rfl, Or.inr rfl, Or.inr rfl, Or.inr rfl, Or.inr rfl, trivial⟩
/-! f_X6_sizeOf -/
noncomputable def f_X6_sizeOf (a1 : Int32) (s0 : SS) : Option Int32 := jn (some 0) (fun (k1 : Option Int32) => if (a1 : Int32) < 0 then k1 else if (a1 : Int32) < (5348 : Int32) then gd (inb a1 5348) (some (((s0 4 (Int32.toNatClampNeg a1)) >>> (12 &&& 31)) &&& 15)) else k1)
set_option maxRecDepth 100000 in
set_option maxHeartbeats 4000000 in
theorem c_X6_sizeOf {l : Launch} {wl : WT} (w_3 : WI wl 3 (OE 6 [some 4, some 8])) (w_4 : WI wl 4 (AE 0 5348)) (w_8 : WI wl 8 (AE 0 5348)) (a1 : Int32) (s0 : SS) : Ct l wl yX6_sizeOf cX6_sizeOf 2 (some .int) 0 [.ref 3, .int a1] s0 (pu (f_X6_sizeOf a1 s0) s0) := by
  refine ct_of (y := yX6_sizeOf) plX6 (Nat.le_of_ble_eq_true rfl) ?_
  refine r_pad0 0 (L1 := [.ref 3, .int a1]) rfl ?_
  unfold f_X6_sizeOf
  refine r_iload_n (pc1 := 1) (i := 1) dX6_sizeOf_0 rfl rfl rfl ?_
  refine p_jn (hyp := fun (k1 : Option Int32) => RC l wl RX6 cX6_sizeOf 2 (some .int) 0 11 [.ref 3, .null] [] s0 (pu k1 s0)) (?_) (fun k1 hk1 => ?_)
  · refine r_iconst (v := 0) (pc1 := 12) dX6_sizeOf_11 ki_0 rfl ?_
    refine r_goto (tgt := 27) dX6_sizeOf_12 (by decide) ?_
    exact p_iret rfl rfl dX6_sizeOf_27
  · refine p_if_lt (tgt := 11) (pc1 := 4) dX6_sizeOf_1 (by decide) rfl (fun q2 => ?_) (fun q2 => ?_)
    · exact r_wk (hk1) ⟨Or.inr rfl, Or.inl rfl, trivial⟩
    · refine r_iload_n (pc1 := 5) (i := 1) dX6_sizeOf_4 rfl rfl rfl ?_
      refine r_sipush (v := 5348) (pc1 := 8) dX6_sizeOf_5 ks_5348 rfl ?_
      refine p_icmp_lt (tgt := 15) (pc1 := 11) dX6_sizeOf_8 (by decide) rfl (fun q3 => ?_) (fun q3 => ?_)
      · refine r_aload_n (pc1 := 16) (i := 0) dX6_sizeOf_15 rfl rfl rfl ?_
        refine r_getR (pc1 := 19) w_3 gfX6_11 rfl dX6_sizeOf_16 rfl ?_
        refine r_iload_n (pc1 := 20) (i := 1) dX6_sizeOf_19 rfl rfl rfl ?_
        refine p_iald (pc1 := 21) w_4 dX6_sizeOf_20 rfl ?_
        refine r_bipush (v := 12) (pc1 := 23) dX6_sizeOf_21 kb_12 rfl ?_
        refine r_ishr (pc1 := 24) dX6_sizeOf_23 rfl ?_
        refine r_bipush (v := 15) (pc1 := 26) dX6_sizeOf_24 kb_15 rfl ?_
        refine r_iand (pc1 := 27) dX6_sizeOf_26 rfl ?_
        exact p_iret rfl rfl dX6_sizeOf_27
      · exact r_wk (hk1) ⟨Or.inr rfl, Or.inl rfl, trivial⟩
/-! f_X6_lengthOf -/
noncomputable def f_X6_lengthOf (a1 : Int32) (s0 : SS) : Option Int32 := jn (some 1) (fun (k1 : Option Int32) => if (a1 : Int32) < 0 then k1 else if (a1 : Int32) < (5348 : Int32) then gd (inb a1 5348) (some ((s0 4 (Int32.toNatClampNeg a1)) >>> (16 &&& 31))) else k1)
set_option maxRecDepth 100000 in
set_option maxHeartbeats 4000000 in
theorem c_X6_lengthOf {l : Launch} {wl : WT} (w_3 : WI wl 3 (OE 6 [some 4, some 8])) (w_4 : WI wl 4 (AE 0 5348)) (w_8 : WI wl 8 (AE 0 5348)) (a1 : Int32) (s0 : SS) : Ct l wl yX6_lengthOf cX6_lengthOf 2 (some .int) 0 [.ref 3, .int a1] s0 (pu (f_X6_lengthOf a1 s0) s0) := by
  refine ct_of (y := yX6_lengthOf) plX6 (Nat.le_of_ble_eq_true rfl) ?_
  refine r_pad0 0 (L1 := [.ref 3, .int a1]) rfl ?_
  unfold f_X6_lengthOf
  refine r_iload_n (pc1 := 1) (i := 1) dX6_lengthOf_0 rfl rfl rfl ?_
  refine p_jn (hyp := fun (k1 : Option Int32) => RC l wl RX6 cX6_lengthOf 2 (some .int) 0 11 [.ref 3, .null] [] s0 (pu k1 s0)) (?_) (fun k1 hk1 => ?_)
  · refine r_iconst (v := 1) (pc1 := 12) dX6_lengthOf_11 ki_1 rfl ?_
    refine r_goto (tgt := 24) dX6_lengthOf_12 (by decide) ?_
    exact p_iret rfl rfl dX6_lengthOf_24
  · refine p_if_lt (tgt := 11) (pc1 := 4) dX6_lengthOf_1 (by decide) rfl (fun q2 => ?_) (fun q2 => ?_)
    · exact r_wk (hk1) ⟨Or.inr rfl, Or.inl rfl, trivial⟩
    · refine r_iload_n (pc1 := 5) (i := 1) dX6_lengthOf_4 rfl rfl rfl ?_
      refine r_sipush (v := 5348) (pc1 := 8) dX6_lengthOf_5 ks_5348 rfl ?_
      refine p_icmp_lt (tgt := 15) (pc1 := 11) dX6_lengthOf_8 (by decide) rfl (fun q3 => ?_) (fun q3 => ?_)
      · refine r_aload_n (pc1 := 16) (i := 0) dX6_lengthOf_15 rfl rfl rfl ?_
        refine r_getR (pc1 := 19) w_3 gfX6_11 rfl dX6_lengthOf_16 rfl ?_
        refine r_iload_n (pc1 := 20) (i := 1) dX6_lengthOf_19 rfl rfl rfl ?_
        refine p_iald (pc1 := 21) w_4 dX6_lengthOf_20 rfl ?_
        refine r_bipush (v := 16) (pc1 := 23) dX6_lengthOf_21 kb_16 rfl ?_
        refine r_ishr (pc1 := 24) dX6_lengthOf_23 rfl ?_
        exact p_iret rfl rfl dX6_lengthOf_24
      · exact r_wk (hk1) ⟨Or.inr rfl, Or.inl rfl, trivial⟩
/-! f_X6_timesOn -/
noncomputable def lp_X6_timesOn_21 (a2 : Int32) (s0 : SS) : Nat → Int32 → Int32 → Int32 → Option Int32
  | 0, _, _, _ => none
  | n8 + 1, v5, v6, v7 => if (v7 : Int32) ≤ 0 then some v5 else gd (¬ (8 : Int32) = 0) (jn (fun (v10 : Int32) => lt (v5 + v10) (fun (v12 : Int32) => gd (¬ (8 : Int32) = 0) (lt ((v6 - 1) / 8) (fun (v13 : Int32) => lp_X6_timesOn_21 a2 s0 n8 v12 v13 (v7 + (-1)))))) (fun (k11 : Int32 → Option Int32) => if ((v6 - 1) - (v6 - 1) / 8 * 8 : Int32) = (a2 : Int32) then k11 1 else k11 0))
noncomputable def f_X6_timesOn (a1 : Int32) (a2 : Int32) (s0 : SS) : Option Int32 := bdp (f_X6_lengthOf a1 s0) (fun (v1 : Int32) => bdp (f_X6_bareOf v1 s0) (fun (v2 : Int32) => lt (a1 - v2) (fun (v3 : Int32) => bdp (f_X6_sizeOf a1 s0) (fun (v4 : Int32) => lp_X6_timesOn_21 a2 s0 FU 0 v3 v4))))
set_option maxRecDepth 100000 in
set_option maxHeartbeats 4000000 in
theorem t_lp_X6_timesOn_21 {l : Launch} {wl : WT} (w_3 : WI wl 3 (OE 6 [some 4, some 8])) (w_4 : WI wl 4 (AE 0 5348)) (w_8 : WI wl 8 (AE 0 5348)) (a2 : Int32) (s0 : SS)  : ∀ (n8 : Nat) (v5 : Int32) (v6 : Int32) (v7 : Int32), RC l wl RX6 cX6_timesOn 6 (some .int) 1 21 [.ref 3, .null, .int a2, .int v5, .int v6, .int v7] [] s0 (pu (lp_X6_timesOn_21 a2 s0 n8 v5 v6 v7) s0) := by
  intro n8
  induction n8 with
  | zero =>
    intro v5 v6 v7
    rw [lp_X6_timesOn_21]
    exact p_none
  | succ n8 ih =>
    intro v5 v6 v7
    rw [lp_X6_timesOn_21]
    refine r_iload (pc1 := 23) dX6_timesOn_21 rfl rfl ?_
    refine p_if_le (tgt := 60) (pc1 := 26) dX6_timesOn_23 (by decide) rfl (fun q9 => ?_) (fun q9 => ?_)
    · refine r_iload_n (pc1 := 61) (i := 3) dX6_timesOn_60 rfl rfl rfl ?_
      exact p_iret rfl rfl dX6_timesOn_61
    · refine r_iload_n (pc1 := 27) (i := 3) dX6_timesOn_26 rfl rfl rfl ?_
      refine r_iload (pc1 := 29) dX6_timesOn_27 rfl rfl ?_
      refine r_iconst (v := 1) (pc1 := 30) dX6_timesOn_29 ki_1 rfl ?_
      refine r_isub (pc1 := 31) dX6_timesOn_30 rfl ?_
      refine r_bipush (v := 8) (pc1 := 33) dX6_timesOn_31 kb_8 rfl ?_
      refine p_irem (pc1 := 34) dX6_timesOn_33 rfl ?_
      refine r_iload_n (pc1 := 35) (i := 2) dX6_timesOn_34 rfl rfl rfl ?_
      refine p_jn (hyp := fun (k11 : Int32 → Option Int32) => ∀ (v10 : Int32), RC l wl RX6 cX6_timesOn 6 (some .int) 1 43 [.ref 3, .null, .int a2, .null, .int v6, .int v7] [.int v10, .int v5] s0 (pu (k11 v10) s0)) (fun v10 => ?_) (fun k11 hk11 => ?_)
      · refine r_iadd (pc1 := 44) dX6_timesOn_43 rfl ?_
        refine p_lt (fun v12 => ?_)
        refine r_istore_n (pc1 := 45) (i := 3) dX6_timesOn_44 rfl (by decide) rfl rfl rfl ?_
        refine r_iload (pc1 := 47) dX6_timesOn_45 rfl rfl ?_
        refine r_iconst (v := 1) (pc1 := 48) dX6_timesOn_47 ki_1 rfl ?_
        refine r_isub (pc1 := 49) dX6_timesOn_48 rfl ?_
        refine r_bipush (v := 8) (pc1 := 51) dX6_timesOn_49 kb_8 rfl ?_
        refine p_idiv (pc1 := 52) dX6_timesOn_51 rfl ?_
        refine p_lt (fun v13 => ?_)
        refine r_istore (pc1 := 54) dX6_timesOn_52 (by decide) rfl rfl rfl ?_
        refine r_iinc (pc1 := 57) dX6_timesOn_54 rfl (kn_m1 _) (by decide) rfl rfl rfl ?_
        refine r_goto (tgt := 21) dX6_timesOn_57 (by decide) ?_
        exact r_wk (ih v12 v13 (v7 + (-1))) ⟨Or.inr rfl, Or.inl rfl, Or.inr rfl, Or.inr rfl, Or.inr rfl, Or.inr rfl, trivial⟩
      · refine p_icmp_ne (tgt := 42) (pc1 := 38) dX6_timesOn_35 (by decide) rfl (fun q14 => ?_) (fun q14 => ?_)
        · refine r_iconst (v := 1) (pc1 := 39) dX6_timesOn_38 ki_1 rfl ?_
          refine r_goto (tgt := 43) dX6_timesOn_39 (by decide) ?_
          exact r_wk (hk11 1) ⟨Or.inr rfl, Or.inl rfl, Or.inr rfl, Or.inl rfl, Or.inr rfl, Or.inr rfl, trivial⟩
        · refine r_iconst (v := 0) (pc1 := 43) dX6_timesOn_42 ki_0 rfl ?_
          exact r_wk (hk11 0) ⟨Or.inr rfl, Or.inl rfl, Or.inr rfl, Or.inl rfl, Or.inr rfl, Or.inr rfl, trivial⟩
set_option maxRecDepth 100000 in
set_option maxHeartbeats 4000000 in
theorem c_X6_timesOn {l : Launch} {wl : WT} (w_3 : WI wl 3 (OE 6 [some 4, some 8])) (w_4 : WI wl 4 (AE 0 5348)) (w_8 : WI wl 8 (AE 0 5348)) (a1 : Int32) (a2 : Int32) (s0 : SS) : Ct l wl yX6_timesOn cX6_timesOn 6 (some .int) 1 [.ref 3, .int a1, .int a2] s0 (pu (f_X6_timesOn a1 a2 s0) s0) := by
  refine ct_of (y := yX6_timesOn) plX6 (Nat.le_of_ble_eq_true rfl) ?_
  refine r_pad0 3 (L1 := [.ref 3, .int a1, .int a2, .null, .null, .null]) rfl ?_
  unfold f_X6_timesOn
  refine r_iconst (v := 0) (pc1 := 1) dX6_timesOn_0 ki_0 rfl ?_
  refine r_istore_n (pc1 := 2) (i := 3) dX6_timesOn_1 rfl (by decide) rfl rfl rfl ?_
  refine r_iload_n (pc1 := 3) (i := 1) dX6_timesOn_2 rfl rfl rfl ?_
  refine r_aload_n (pc1 := 4) (i := 0) dX6_timesOn_3 rfl rfl rfl ?_
  refine r_iload_n (pc1 := 5) (i := 1) dX6_timesOn_4 rfl rfl rfl ?_
  refine p_callVp (pc1 := 8) (rv_of w_3 cl_6) lkX6_38 (c_X6_lengthOf w_3 w_4 w_8 _ _) rfl rfl ⟨Nat.le_of_ble_eq_true rfl, Nat.le_of_ble_eq_true rfl⟩ (Nat.le_of_ble_eq_true rfl) dX6_timesOn_5 rfl (fun v1 => ?_)
  refine p_callSp (pc1 := 11) lkX6_22 (c_X6_bareOf w_3 w_4 w_8 _ _) rfl rfl ⟨Nat.le_of_ble_eq_true rfl, Nat.le_of_ble_eq_true rfl⟩ (Nat.le_of_ble_eq_true rfl) dX6_timesOn_8 rfl (fun v2 => ?_)
  refine r_isub (pc1 := 12) dX6_timesOn_11 rfl ?_
  refine p_lt (fun v3 => ?_)
  refine r_istore (pc1 := 14) dX6_timesOn_12 (by decide) rfl rfl rfl ?_
  refine r_aload_n (pc1 := 15) (i := 0) dX6_timesOn_14 rfl rfl rfl ?_
  refine r_iload_n (pc1 := 16) (i := 1) dX6_timesOn_15 rfl rfl rfl ?_
  refine p_callVp (pc1 := 19) (rv_of w_3 cl_6) lkX6_26 (c_X6_sizeOf w_3 w_4 w_8 _ _) rfl rfl ⟨Nat.le_of_ble_eq_true rfl, Nat.le_of_ble_eq_true rfl⟩ (Nat.le_of_ble_eq_true rfl) dX6_timesOn_16 rfl (fun v4 => ?_)
  refine r_istore (pc1 := 21) dX6_timesOn_19 (by decide) rfl rfl rfl ?_
  exact r_wk (t_lp_X6_timesOn_21 w_3 w_4 w_8 a2 s0 FU 0 v3 v4) ⟨Or.inr rfl, Or.inl rfl, Or.inr rfl, Or.inr rfl, Or.inr rfl, Or.inr rfl, trivial⟩
/-! f_X6_oldestOn -/
noncomputable def f_X6_oldestOn (a1 : Int32) (s0 : SS) : Option Int32 := jn (some 8) (fun (k1 : Option Int32) => if (a1 : Int32) < 0 then k1 else if (a1 : Int32) < (5348 : Int32) then gd (inb a1 5348) (some (((s0 4 (Int32.toNatClampNeg a1)) >>> (8 &&& 31)) &&& 15)) else k1)
set_option maxRecDepth 100000 in
set_option maxHeartbeats 4000000 in
theorem c_X6_oldestOn {l : Launch} {wl : WT} (w_3 : WI wl 3 (OE 6 [some 4, some 8])) (w_4 : WI wl 4 (AE 0 5348)) (w_8 : WI wl 8 (AE 0 5348)) (a1 : Int32) (s0 : SS) : Ct l wl yX6_oldestOn cX6_oldestOn 2 (some .int) 0 [.ref 3, .int a1] s0 (pu (f_X6_oldestOn a1 s0) s0) := by
  refine ct_of (y := yX6_oldestOn) plX6 (Nat.le_of_ble_eq_true rfl) ?_
  refine r_pad0 0 (L1 := [.ref 3, .int a1]) rfl ?_
  unfold f_X6_oldestOn
  refine r_iload_n (pc1 := 1) (i := 1) dX6_oldestOn_0 rfl rfl rfl ?_
  refine p_jn (hyp := fun (k1 : Option Int32) => RC l wl RX6 cX6_oldestOn 2 (some .int) 0 11 [.ref 3, .null] [] s0 (pu k1 s0)) (?_) (fun k1 hk1 => ?_)
  · refine r_bipush (v := 8) (pc1 := 13) dX6_oldestOn_11 kb_8 rfl ?_
    refine r_goto (tgt := 28) dX6_oldestOn_13 (by decide) ?_
    exact p_iret rfl rfl dX6_oldestOn_28
  · refine p_if_lt (tgt := 11) (pc1 := 4) dX6_oldestOn_1 (by decide) rfl (fun q2 => ?_) (fun q2 => ?_)
    · exact r_wk (hk1) ⟨Or.inr rfl, Or.inl rfl, trivial⟩
    · refine r_iload_n (pc1 := 5) (i := 1) dX6_oldestOn_4 rfl rfl rfl ?_
      refine r_sipush (v := 5348) (pc1 := 8) dX6_oldestOn_5 ks_5348 rfl ?_
      refine p_icmp_lt (tgt := 16) (pc1 := 11) dX6_oldestOn_8 (by decide) rfl (fun q3 => ?_) (fun q3 => ?_)
      · refine r_aload_n (pc1 := 17) (i := 0) dX6_oldestOn_16 rfl rfl rfl ?_
        refine r_getR (pc1 := 20) w_3 gfX6_11 rfl dX6_oldestOn_17 rfl ?_
        refine r_iload_n (pc1 := 21) (i := 1) dX6_oldestOn_20 rfl rfl rfl ?_
        refine p_iald (pc1 := 22) w_4 dX6_oldestOn_21 rfl ?_
        refine r_bipush (v := 8) (pc1 := 24) dX6_oldestOn_22 kb_8 rfl ?_
        refine r_ishr (pc1 := 25) dX6_oldestOn_24 rfl ?_
        refine r_bipush (v := 15) (pc1 := 27) dX6_oldestOn_25 kb_15 rfl ?_
        refine r_iand (pc1 := 28) dX6_oldestOn_27 rfl ?_
        exact p_iret rfl rfl dX6_oldestOn_28
      · exact r_wk (hk1) ⟨Or.inr rfl, Or.inl rfl, trivial⟩
/-! f_X6_lawOn -/
noncomputable def lp_X6_lawOn_34 (a2 : Int32) (s0 : SS) (k9 : Int32 → Option Int32) : Nat → Int32 → Int32 → Option Int32
  | 0, _, _ => none
  | n12 + 1, v10, v11 => if (v11 : Int32) ≤ (a2 : Int32) then k9 v10 else gd (¬ (8 : Int32) = 0) (lt ((v10 - 1) / 8) (fun (v14 : Int32) => lp_X6_lawOn_34 a2 s0 k9 n12 v14 (v11 + (-1))))
noncomputable def f_X6_lawOn (a1 : Int32) (a2 : Int32) (s0 : SS) : Option Int32 := bdp (f_X6_sizeOf a1 s0) (fun (v1 : Int32) => if (a2 : Int32) < 0 then some ((-1)) else if (a2 : Int32) < (v1 : Int32) then bdp (f_X6_lengthOf a1 s0) (fun (v4 : Int32) => bdp (f_X6_bareOf v4 s0) (fun (v5 : Int32) => lt (a1 - v5) (fun (v6 : Int32) => lt (v1 - 1) (fun (v7 : Int32) => jn (fun (v8 : Int32) => gd (¬ (8 : Int32) = 0) (some ((v8 - 1) - (v8 - 1) / 8 * 8))) (fun (k9 : Int32 → Option Int32) => lp_X6_lawOn_34 a2 s0 k9 FU v6 v7))))) else some ((-1)))
set_option maxRecDepth 100000 in
set_option maxHeartbeats 4000000 in
theorem t_lp_X6_lawOn_34 {l : Launch} {wl : WT} (w_3 : WI wl 3 (OE 6 [some 4, some 8])) (w_4 : WI wl 4 (AE 0 5348)) (w_8 : WI wl 8 (AE 0 5348)) (a2 : Int32) (s0 : SS) (k9 : Int32 → Option Int32) (hk9 : ∀ (v8 : Int32), RC l wl RX6 cX6_lawOn 6 (some .int) 1 55 [.ref 3, .null, .null, .null, .int v8, .null] [] s0 (pu (k9 v8) s0)) : ∀ (n12 : Nat) (v10 : Int32) (v11 : Int32), RC l wl RX6 cX6_lawOn 6 (some .int) 1 34 [.ref 3, .null, .int a2, .null, .int v10, .int v11] [] s0 (pu (lp_X6_lawOn_34 a2 s0 k9 n12 v10 v11) s0) := by
  intro n12
  induction n12 with
  | zero =>
    intro v10 v11
    rw [lp_X6_lawOn_34]
    exact p_none
  | succ n12 ih =>
    intro v10 v11
    rw [lp_X6_lawOn_34]
    refine r_iload (pc1 := 36) dX6_lawOn_34 rfl rfl ?_
    refine r_iload_n (pc1 := 37) (i := 2) dX6_lawOn_36 rfl rfl rfl ?_
    refine p_icmp_le (tgt := 55) (pc1 := 40) dX6_lawOn_37 (by decide) rfl (fun q13 => ?_) (fun q13 => ?_)
    · exact r_wk (hk9 v10) ⟨Or.inr rfl, Or.inl rfl, Or.inl rfl, Or.inl rfl, Or.inr rfl, Or.inl rfl, trivial⟩
    · refine r_iload (pc1 := 42) dX6_lawOn_40 rfl rfl ?_
      refine r_iconst (v := 1) (pc1 := 43) dX6_lawOn_42 ki_1 rfl ?_
      refine r_isub (pc1 := 44) dX6_lawOn_43 rfl ?_
      refine r_bipush (v := 8) (pc1 := 46) dX6_lawOn_44 kb_8 rfl ?_
      refine p_idiv (pc1 := 47) dX6_lawOn_46 rfl ?_
      refine p_lt (fun v14 => ?_)
      refine r_istore (pc1 := 49) dX6_lawOn_47 (by decide) rfl rfl rfl ?_
      refine r_iinc (pc1 := 52) dX6_lawOn_49 rfl (kn_m1 _) (by decide) rfl rfl rfl ?_
      refine r_goto (tgt := 34) dX6_lawOn_52 (by decide) ?_
      exact r_wk (ih v14 (v11 + (-1))) ⟨Or.inr rfl, Or.inl rfl, Or.inr rfl, Or.inl rfl, Or.inr rfl, Or.inr rfl, trivial⟩
set_option maxRecDepth 100000 in
set_option maxHeartbeats 4000000 in
theorem c_X6_lawOn {l : Launch} {wl : WT} (w_3 : WI wl 3 (OE 6 [some 4, some 8])) (w_4 : WI wl 4 (AE 0 5348)) (w_8 : WI wl 8 (AE 0 5348)) (a1 : Int32) (a2 : Int32) (s0 : SS) : Ct l wl yX6_lawOn cX6_lawOn 6 (some .int) 1 [.ref 3, .int a1, .int a2] s0 (pu (f_X6_lawOn a1 a2 s0) s0) := by
  refine ct_of (y := yX6_lawOn) plX6 (Nat.le_of_ble_eq_true rfl) ?_
  refine r_pad0 3 (L1 := [.ref 3, .int a1, .int a2, .null, .null, .null]) rfl ?_
  unfold f_X6_lawOn
  refine r_aload_n (pc1 := 1) (i := 0) dX6_lawOn_0 rfl rfl rfl ?_
  refine r_iload_n (pc1 := 2) (i := 1) dX6_lawOn_1 rfl rfl rfl ?_
  refine p_callVp (pc1 := 5) (rv_of w_3 cl_6) lkX6_26 (c_X6_sizeOf w_3 w_4 w_8 _ _) rfl rfl ⟨Nat.le_of_ble_eq_true rfl, Nat.le_of_ble_eq_true rfl⟩ (Nat.le_of_ble_eq_true rfl) dX6_lawOn_2 rfl (fun v1 => ?_)
  refine r_istore_n (pc1 := 6) (i := 3) dX6_lawOn_5 rfl (by decide) rfl rfl rfl ?_
  refine r_iload_n (pc1 := 7) (i := 2) dX6_lawOn_6 rfl rfl rfl ?_
  refine p_if_lt (tgt := 15) (pc1 := 10) dX6_lawOn_7 (by decide) rfl (fun q2 => ?_) (fun q2 => ?_)
  · refine r_iconst (v := (-1)) (pc1 := 16) dX6_lawOn_15 ki_m1 rfl ?_
    exact p_iret rfl rfl dX6_lawOn_16
  · refine r_iload_n (pc1 := 11) (i := 2) dX6_lawOn_10 rfl rfl rfl ?_
    refine r_iload_n (pc1 := 12) (i := 3) dX6_lawOn_11 rfl rfl rfl ?_
    refine p_icmp_lt (tgt := 17) (pc1 := 15) dX6_lawOn_12 (by decide) rfl (fun q3 => ?_) (fun q3 => ?_)
    · refine r_iload_n (pc1 := 18) (i := 1) dX6_lawOn_17 rfl rfl rfl ?_
      refine r_aload_n (pc1 := 19) (i := 0) dX6_lawOn_18 rfl rfl rfl ?_
      refine r_iload_n (pc1 := 20) (i := 1) dX6_lawOn_19 rfl rfl rfl ?_
      refine p_callVp (pc1 := 23) (rv_of w_3 cl_6) lkX6_38 (c_X6_lengthOf w_3 w_4 w_8 _ _) rfl rfl ⟨Nat.le_of_ble_eq_true rfl, Nat.le_of_ble_eq_true rfl⟩ (Nat.le_of_ble_eq_true rfl) dX6_lawOn_20 rfl (fun v4 => ?_)
      refine p_callSp (pc1 := 26) lkX6_22 (c_X6_bareOf w_3 w_4 w_8 _ _) rfl rfl ⟨Nat.le_of_ble_eq_true rfl, Nat.le_of_ble_eq_true rfl⟩ (Nat.le_of_ble_eq_true rfl) dX6_lawOn_23 rfl (fun v5 => ?_)
      refine r_isub (pc1 := 27) dX6_lawOn_26 rfl ?_
      refine p_lt (fun v6 => ?_)
      refine r_istore (pc1 := 29) dX6_lawOn_27 (by decide) rfl rfl rfl ?_
      refine r_iload_n (pc1 := 30) (i := 3) dX6_lawOn_29 rfl rfl rfl ?_
      refine r_iconst (v := 1) (pc1 := 31) dX6_lawOn_30 ki_1 rfl ?_
      refine r_isub (pc1 := 32) dX6_lawOn_31 rfl ?_
      refine p_lt (fun v7 => ?_)
      refine r_istore (pc1 := 34) dX6_lawOn_32 (by decide) rfl rfl rfl ?_
      refine p_jn (hyp := fun (k9 : Int32 → Option Int32) => ∀ (v8 : Int32), RC l wl RX6 cX6_lawOn 6 (some .int) 1 55 [.ref 3, .null, .null, .null, .int v8, .null] [] s0 (pu (k9 v8) s0)) (fun v8 => ?_) (fun k9 hk9 => ?_)
      · refine r_iload (pc1 := 57) dX6_lawOn_55 rfl rfl ?_
        refine r_iconst (v := 1) (pc1 := 58) dX6_lawOn_57 ki_1 rfl ?_
        refine r_isub (pc1 := 59) dX6_lawOn_58 rfl ?_
        refine r_bipush (v := 8) (pc1 := 61) dX6_lawOn_59 kb_8 rfl ?_
        refine p_irem (pc1 := 62) dX6_lawOn_61 rfl ?_
        exact p_iret rfl rfl dX6_lawOn_62
      · exact r_wk (t_lp_X6_lawOn_34 w_3 w_4 w_8 a2 s0 k9 hk9 FU v6 v7) ⟨Or.inr rfl, Or.inl rfl, Or.inr rfl, Or.inl rfl, Or.inr rfl, Or.inr rfl, trivial⟩
    · refine r_iconst (v := (-1)) (pc1 := 16) dX6_lawOn_15 ki_m1 rfl ?_
      exact p_iret rfl rfl dX6_lawOn_16
/-! f_X10_describe -/
noncomputable def f_X10_describe (a1 : Int32) (a2 : Int32) (a3 : Int32) (a4 : Int32) (s0 : SS) : Res := if (a2 : Int32) < 0 then some (0, s0) else if (a2 : Int32) < (8 : Int32) then bdp (f_X6_sizeOf a1 s0) (fun (v3 : Int32) => bdp (f_X6_standingOn a1 s0) (fun (v4 : Int32) => gd (inb 0 11) (lts (up s0 32 (Int32.toNatClampNeg 0) a2) (fun (s5 : SS) => gd (inb 1 11) (lts (up s5 32 (Int32.toNatClampNeg 1) a4) (fun (s6 : SS) => gd (inb a2 8) (gd (inb 2 11) (lts (up s6 32 (Int32.toNatClampNeg 2) (s6 28 (Int32.toNatClampNeg a2))) (fun (s7 : SS) => gd (inb 3 11) (lts (up s7 32 (Int32.toNatClampNeg 3) v3) (fun (s8 : SS) => bdp (f_X6_timesOn a1 a2 s8) (fun (v9 : Int32) => gd (inb 4 11) (lts (up s8 32 (Int32.toNatClampNeg 4) v9) (fun (s10 : SS) => jn (fun (v11 : Int32) => gd (inb 5 11) (lts (up s10 32 (Int32.toNatClampNeg 5) v11) (fun (s13 : SS) => bdp (f_X6_lengthOf a1 s13) (fun (v14 : Int32) => jn (fun (v15 : Int32) => gd (inb 6 11) (lts (up s13 32 (Int32.toNatClampNeg 6) v15) (fun (s17 : SS) => gd (inb 7 11) (lts (up s17 32 (Int32.toNatClampNeg 7) a3) (fun (s18 : SS) => bdp (f_X6_oldestOn a1 s18) (fun (v19 : Int32) => gd (inb 8 11) (lts (up s18 32 (Int32.toNatClampNeg 8) v19) (fun (s20 : SS) => jn (fun (v21 : Int32) => gd (inb 9 11) (lts (up s20 32 (Int32.toNatClampNeg 9) v21) (fun (s23 : SS) => bdp (f_X6_lengthOf a1 s23) (fun (v24 : Int32) => gd (inb 10 11) (lts (up s23 32 (Int32.toNatClampNeg 10) v24) (fun (s25 : SS) => some (0, s25))))))) (fun (k22 : Int32 → Res) => if (v3 : Int32) = 0 then k22 8 else bdp (f_X6_lawOn a1 (v3 - 1) s20) (fun (v27 : Int32) => k22 v27)))))))))) (fun (k16 : Int32 → Res) => if (v3 : Int32) = (v14 : Int32) then k16 1 else k16 0))))) (fun (k12 : Int32 → Res) => jn (k12 0) (fun (k29 : Res) => if ((v4 >>> (a2 &&& 31)) &&& 1 : Int32) = (1 : Int32) then gd (inb a2 8) (if ((s10 29 (Int32.toNatClampNeg a2)) &&& (v4 ^^^ ((-1))) : Int32) = 0 then k12 1 else k29) else k29)))))))))))))))) else some (0, s0)
set_option maxRecDepth 100000 in
set_option maxHeartbeats 4000000 in
theorem c_X10_describe {l : Launch} (a1 : Int32) (a2 : Int32) (a3 : Int32) (a4 : Int32) (s0 : SS) : Ct l wF yX10_describe cX10_describe 7 none 2 [.ref 27, .int a1, .int a2, .int a3, .int a4] s0 (f_X10_describe a1 a2 a3 a4 s0) := by
  refine ct_of (y := yX10_describe) plX10 (Nat.le_of_ble_eq_true rfl) ?_
  refine r_pad0 2 (L1 := [.ref 27, .int a1, .int a2, .int a3, .int a4, .null, .null]) rfl ?_
  unfold f_X10_describe
  refine r_iload_n (pc1 := 1) (i := 2) dX10_describe_0 rfl rfl rfl ?_
  refine r_if_lt (tgt := 10) (pc1 := 4) dX10_describe_1 (by decide) rfl (fun q1 => ?_) (fun q1 => ?_)
  · exact r_vret rfl dX10_describe_10
  · refine r_iload_n (pc1 := 5) (i := 2) dX10_describe_4 rfl rfl rfl ?_
    refine r_bipush (v := 8) (pc1 := 7) dX10_describe_5 kb_8 rfl ?_
    refine r_icmp_lt (tgt := 11) (pc1 := 10) dX10_describe_7 (by decide) rfl (fun q2 => ?_) (fun q2 => ?_)
    · refine r_aload_n (pc1 := 12) (i := 0) dX10_describe_11 rfl rfl rfl ?_
      refine r_getR (pc1 := 15) w_27 gfX10_36 rfl dX10_describe_12 rfl ?_
      refine r_iload_n (pc1 := 16) (i := 1) dX10_describe_15 rfl rfl rfl ?_
      refine r_callVp (pc1 := 19) (rv_of w_3 cl_6) lkX10_80 (c_X6_sizeOf w_3 w_4 w_8 _ _) rfl rfl ⟨Nat.le_of_ble_eq_true rfl, Nat.le_of_ble_eq_true rfl⟩ (Nat.le_of_ble_eq_true rfl) dX10_describe_16 rfl (fun v3 => ?_)
      refine r_istore (pc1 := 21) dX10_describe_19 (by decide) rfl rfl rfl ?_
      refine r_aload_n (pc1 := 22) (i := 0) dX10_describe_21 rfl rfl rfl ?_
      refine r_getR (pc1 := 25) w_27 gfX10_36 rfl dX10_describe_22 rfl ?_
      refine r_iload_n (pc1 := 26) (i := 1) dX10_describe_25 rfl rfl rfl ?_
      refine r_callVp (pc1 := 29) (rv_of w_3 cl_6) lkX10_48 (c_X6_standingOn w_3 w_4 w_8 _ _) rfl rfl ⟨Nat.le_of_ble_eq_true rfl, Nat.le_of_ble_eq_true rfl⟩ (Nat.le_of_ble_eq_true rfl) dX10_describe_26 rfl (fun v4 => ?_)
      refine r_istore (pc1 := 31) dX10_describe_29 (by decide) rfl rfl rfl ?_
      refine r_aload_n (pc1 := 32) (i := 0) dX10_describe_31 rfl rfl rfl ?_
      refine r_getR (pc1 := 35) w_27 gfX10_24 rfl dX10_describe_32 rfl ?_
      refine r_iconst (v := 0) (pc1 := 36) dX10_describe_35 ki_0 rfl ?_
      refine r_iload_n (pc1 := 37) (i := 2) dX10_describe_36 rfl rfl rfl ?_
      refine r_iast (pc1 := 38) w_32 dX10_describe_37 rfl ?_
      refine r_lts (fun s5 => ?_)
      refine r_aload_n (pc1 := 39) (i := 0) dX10_describe_38 rfl rfl rfl ?_
      refine r_getR (pc1 := 42) w_27 gfX10_24 rfl dX10_describe_39 rfl ?_
      refine r_iconst (v := 1) (pc1 := 43) dX10_describe_42 ki_1 rfl ?_
      refine r_iload (pc1 := 45) dX10_describe_43 rfl rfl ?_
      refine r_iast (pc1 := 46) w_32 dX10_describe_45 rfl ?_
      refine r_lts (fun s6 => ?_)
      refine r_aload_n (pc1 := 47) (i := 0) dX10_describe_46 rfl rfl rfl ?_
      refine r_getR (pc1 := 50) w_27 gfX10_24 rfl dX10_describe_47 rfl ?_
      refine r_iconst (v := 2) (pc1 := 51) dX10_describe_50 ki_2 rfl ?_
      refine r_aload_n (pc1 := 52) (i := 0) dX10_describe_51 rfl rfl rfl ?_
      refine r_getR (pc1 := 55) w_27 gfX10_9 rfl dX10_describe_52 rfl ?_
      refine r_iload_n (pc1 := 56) (i := 2) dX10_describe_55 rfl rfl rfl ?_
      refine r_iald (pc1 := 57) w_28 dX10_describe_56 rfl ?_
      refine r_iast (pc1 := 58) w_32 dX10_describe_57 rfl ?_
      refine r_lts (fun s7 => ?_)
      refine r_aload_n (pc1 := 59) (i := 0) dX10_describe_58 rfl rfl rfl ?_
      refine r_getR (pc1 := 62) w_27 gfX10_24 rfl dX10_describe_59 rfl ?_
      refine r_iconst (v := 3) (pc1 := 63) dX10_describe_62 ki_3 rfl ?_
      refine r_iload (pc1 := 65) dX10_describe_63 rfl rfl ?_
      refine r_iast (pc1 := 66) w_32 dX10_describe_65 rfl ?_
      refine r_lts (fun s8 => ?_)
      refine r_aload_n (pc1 := 67) (i := 0) dX10_describe_66 rfl rfl rfl ?_
      refine r_getR (pc1 := 70) w_27 gfX10_24 rfl dX10_describe_67 rfl ?_
      refine r_iconst (v := 4) (pc1 := 71) dX10_describe_70 ki_4 rfl ?_
      refine r_aload_n (pc1 := 72) (i := 0) dX10_describe_71 rfl rfl rfl ?_
      refine r_getR (pc1 := 75) w_27 gfX10_36 rfl dX10_describe_72 rfl ?_
      refine r_iload_n (pc1 := 76) (i := 1) dX10_describe_75 rfl rfl rfl ?_
      refine r_iload_n (pc1 := 77) (i := 2) dX10_describe_76 rfl rfl rfl ?_
      refine r_callVp (pc1 := 80) (rv_of w_3 cl_6) lkX10_110 (c_X6_timesOn w_3 w_4 w_8 _ _ _) rfl rfl ⟨Nat.le_of_ble_eq_true rfl, Nat.le_of_ble_eq_true rfl⟩ (Nat.le_of_ble_eq_true rfl) dX10_describe_77 rfl (fun v9 => ?_)
      refine r_iast (pc1 := 81) w_32 dX10_describe_80 rfl ?_
      refine r_lts (fun s10 => ?_)
      refine r_aload_n (pc1 := 82) (i := 0) dX10_describe_81 rfl rfl rfl ?_
      refine r_getR (pc1 := 85) w_27 gfX10_24 rfl dX10_describe_82 rfl ?_
      refine r_iconst (v := 5) (pc1 := 86) dX10_describe_85 ki_5 rfl ?_
      refine r_iload (pc1 := 88) dX10_describe_86 rfl rfl ?_
      refine r_iload_n (pc1 := 89) (i := 2) dX10_describe_88 rfl rfl rfl ?_
      refine r_ishr (pc1 := 90) dX10_describe_89 rfl ?_
      refine r_iconst (v := 1) (pc1 := 91) dX10_describe_90 ki_1 rfl ?_
      refine r_iand (pc1 := 92) dX10_describe_91 rfl ?_
      refine r_iconst (v := 1) (pc1 := 93) dX10_describe_92 ki_1 rfl ?_
      refine r_jn (hyp := fun (k12 : Int32 → Res) => ∀ (v11 : Int32), RC l wF RX10 cX10_describe 7 none 2 115 [.ref 27, .int a1, .null, .int a3, .null, .int v3, .null] [.int v11, .int 5, .ref 32] s10 (k12 v11)) (fun v11 => ?_) (fun k12 hk12 => ?_)
      · refine r_iast (pc1 := 116) w_32 dX10_describe_115 rfl ?_
        refine r_lts (fun s13 => ?_)
        refine r_aload_n (pc1 := 117) (i := 0) dX10_describe_116 rfl rfl rfl ?_
        refine r_getR (pc1 := 120) w_27 gfX10_24 rfl dX10_describe_117 rfl ?_
        refine r_bipush (v := 6) (pc1 := 122) dX10_describe_120 kb_6 rfl ?_
        refine r_iload (pc1 := 124) dX10_describe_122 rfl rfl ?_
        refine r_aload_n (pc1 := 125) (i := 0) dX10_describe_124 rfl rfl rfl ?_
        refine r_getR (pc1 := 128) w_27 gfX10_36 rfl dX10_describe_125 rfl ?_
        refine r_iload_n (pc1 := 129) (i := 1) dX10_describe_128 rfl rfl rfl ?_
        refine r_callVp (pc1 := 132) (rv_of w_3 cl_6) lkX10_113 (c_X6_lengthOf w_3 w_4 w_8 _ _) rfl rfl ⟨Nat.le_of_ble_eq_true rfl, Nat.le_of_ble_eq_true rfl⟩ (Nat.le_of_ble_eq_true rfl) dX10_describe_129 rfl (fun v14 => ?_)
        refine r_jn (hyp := fun (k16 : Int32 → Res) => ∀ (v15 : Int32), RC l wF RX10 cX10_describe 7 none 2 140 [.ref 27, .int a1, .null, .int a3, .null, .int v3, .null] [.int v15, .int 6, .ref 32] s13 (k16 v15)) (fun v15 => ?_) (fun k16 hk16 => ?_)
        · refine r_iast (pc1 := 141) w_32 dX10_describe_140 rfl ?_
          refine r_lts (fun s17 => ?_)
          refine r_aload_n (pc1 := 142) (i := 0) dX10_describe_141 rfl rfl rfl ?_
          refine r_getR (pc1 := 145) w_27 gfX10_24 rfl dX10_describe_142 rfl ?_
          refine r_bipush (v := 7) (pc1 := 147) dX10_describe_145 kb_7 rfl ?_
          refine r_iload_n (pc1 := 148) (i := 3) dX10_describe_147 rfl rfl rfl ?_
          refine r_iast (pc1 := 149) w_32 dX10_describe_148 rfl ?_
          refine r_lts (fun s18 => ?_)
          refine r_aload_n (pc1 := 150) (i := 0) dX10_describe_149 rfl rfl rfl ?_
          refine r_getR (pc1 := 153) w_27 gfX10_24 rfl dX10_describe_150 rfl ?_
          refine r_bipush (v := 8) (pc1 := 155) dX10_describe_153 kb_8 rfl ?_
          refine r_aload_n (pc1 := 156) (i := 0) dX10_describe_155 rfl rfl rfl ?_
          refine r_getR (pc1 := 159) w_27 gfX10_36 rfl dX10_describe_156 rfl ?_
          refine r_iload_n (pc1 := 160) (i := 1) dX10_describe_159 rfl rfl rfl ?_
          refine r_callVp (pc1 := 163) (rv_of w_3 cl_6) lkX10_101 (c_X6_oldestOn w_3 w_4 w_8 _ _) rfl rfl ⟨Nat.le_of_ble_eq_true rfl, Nat.le_of_ble_eq_true rfl⟩ (Nat.le_of_ble_eq_true rfl) dX10_describe_160 rfl (fun v19 => ?_)
          refine r_iast (pc1 := 164) w_32 dX10_describe_163 rfl ?_
          refine r_lts (fun s20 => ?_)
          refine r_aload_n (pc1 := 165) (i := 0) dX10_describe_164 rfl rfl rfl ?_
          refine r_getR (pc1 := 168) w_27 gfX10_24 rfl dX10_describe_165 rfl ?_
          refine r_bipush (v := 9) (pc1 := 170) dX10_describe_168 kb_9 rfl ?_
          refine r_iload (pc1 := 172) dX10_describe_170 rfl rfl ?_
          refine r_jn (hyp := fun (k22 : Int32 → Res) => ∀ (v21 : Int32), RC l wF RX10 cX10_describe 7 none 2 192 [.ref 27, .int a1, .null, .null, .null, .null, .null] [.int v21, .int 9, .ref 32] s20 (k22 v21)) (fun v21 => ?_) (fun k22 hk22 => ?_)
          · refine r_iast (pc1 := 193) w_32 dX10_describe_192 rfl ?_
            refine r_lts (fun s23 => ?_)
            refine r_aload_n (pc1 := 194) (i := 0) dX10_describe_193 rfl rfl rfl ?_
            refine r_getR (pc1 := 197) w_27 gfX10_24 rfl dX10_describe_194 rfl ?_
            refine r_bipush (v := 10) (pc1 := 199) dX10_describe_197 kb_10 rfl ?_
            refine r_aload_n (pc1 := 200) (i := 0) dX10_describe_199 rfl rfl rfl ?_
            refine r_getR (pc1 := 203) w_27 gfX10_36 rfl dX10_describe_200 rfl ?_
            refine r_iload_n (pc1 := 204) (i := 1) dX10_describe_203 rfl rfl rfl ?_
            refine r_callVp (pc1 := 207) (rv_of w_3 cl_6) lkX10_113 (c_X6_lengthOf w_3 w_4 w_8 _ _) rfl rfl ⟨Nat.le_of_ble_eq_true rfl, Nat.le_of_ble_eq_true rfl⟩ (Nat.le_of_ble_eq_true rfl) dX10_describe_204 rfl (fun v24 => ?_)
            refine r_iast (pc1 := 208) w_32 dX10_describe_207 rfl ?_
            refine r_lts (fun s25 => ?_)
            exact r_vret rfl dX10_describe_208
          · refine r_if_ne (tgt := 180) (pc1 := 175) dX10_describe_172 (by decide) rfl (fun q26 => ?_) (fun q26 => ?_)
            · refine r_bipush (v := 8) (pc1 := 177) dX10_describe_175 kb_8 rfl ?_
              refine r_goto (tgt := 192) dX10_describe_177 (by decide) ?_
              exact r_wk (hk22 8) ⟨Or.inr rfl, Or.inr rfl, Or.inl rfl, Or.inl rfl, Or.inl rfl, Or.inl rfl, Or.inl rfl, trivial⟩
            · refine r_aload_n (pc1 := 181) (i := 0) dX10_describe_180 rfl rfl rfl ?_
              refine r_getR (pc1 := 184) w_27 gfX10_36 rfl dX10_describe_181 rfl ?_
              refine r_iload_n (pc1 := 185) (i := 1) dX10_describe_184 rfl rfl rfl ?_
              refine r_iload (pc1 := 187) dX10_describe_185 rfl rfl ?_
              refine r_iconst (v := 1) (pc1 := 188) dX10_describe_187 ki_1 rfl ?_
              refine r_isub (pc1 := 189) dX10_describe_188 rfl ?_
              refine r_callVp (pc1 := 192) (rv_of w_3 cl_6) lkX10_83 (c_X6_lawOn w_3 w_4 w_8 _ _ _) rfl rfl ⟨Nat.le_of_ble_eq_true rfl, Nat.le_of_ble_eq_true rfl⟩ (Nat.le_of_ble_eq_true rfl) dX10_describe_189 rfl (fun v27 => ?_)
              exact r_wk (hk22 v27) ⟨Or.inr rfl, Or.inr rfl, Or.inl rfl, Or.inl rfl, Or.inl rfl, Or.inl rfl, Or.inl rfl, trivial⟩
        · refine r_icmp_ne (tgt := 139) (pc1 := 135) dX10_describe_132 (by decide) rfl (fun q28 => ?_) (fun q28 => ?_)
          · refine r_iconst (v := 1) (pc1 := 136) dX10_describe_135 ki_1 rfl ?_
            refine r_goto (tgt := 140) dX10_describe_136 (by decide) ?_
            exact r_wk (hk16 1) ⟨Or.inr rfl, Or.inr rfl, Or.inl rfl, Or.inr rfl, Or.inl rfl, Or.inr rfl, Or.inl rfl, trivial⟩
          · refine r_iconst (v := 0) (pc1 := 140) dX10_describe_139 ki_0 rfl ?_
            exact r_wk (hk16 0) ⟨Or.inr rfl, Or.inr rfl, Or.inl rfl, Or.inr rfl, Or.inl rfl, Or.inr rfl, Or.inl rfl, trivial⟩
      · refine r_jn (hyp := fun (k29 : Res) => RC l wF RX10 cX10_describe 7 none 2 114 [.ref 27, .int a1, .null, .int a3, .null, .int v3, .null] [.int 5, .ref 32] s10 k29) (?_) (fun k29 hk29 => ?_)
        · refine r_iconst (v := 0) (pc1 := 115) dX10_describe_114 ki_0 rfl ?_
          exact r_wk (hk12 0) ⟨Or.inr rfl, Or.inr rfl, Or.inl rfl, Or.inr rfl, Or.inl rfl, Or.inr rfl, Or.inl rfl, trivial⟩
        · refine r_icmp_ne (tgt := 114) (pc1 := 96) dX10_describe_93 (by decide) rfl (fun q30 => ?_) (fun q30 => ?_)
          · refine r_aload_n (pc1 := 97) (i := 0) dX10_describe_96 rfl rfl rfl ?_
            refine r_getR (pc1 := 100) w_27 gfX10_15 rfl dX10_describe_97 rfl ?_
            refine r_iload_n (pc1 := 101) (i := 2) dX10_describe_100 rfl rfl rfl ?_
            refine r_iald (pc1 := 102) w_29 dX10_describe_101 rfl ?_
            refine r_iload (pc1 := 104) dX10_describe_102 rfl rfl ?_
            refine r_iconst (v := (-1)) (pc1 := 105) dX10_describe_104 ki_m1 rfl ?_
            refine r_ixor (pc1 := 106) dX10_describe_105 rfl ?_
            refine r_iand (pc1 := 107) dX10_describe_106 rfl ?_
            refine r_if_ne (tgt := 114) (pc1 := 110) dX10_describe_107 (by decide) rfl (fun q31 => ?_) (fun q31 => ?_)
            · refine r_iconst (v := 1) (pc1 := 111) dX10_describe_110 ki_1 rfl ?_
              refine r_goto (tgt := 115) dX10_describe_111 (by decide) ?_
              exact r_wk (hk12 1) ⟨Or.inr rfl, Or.inr rfl, Or.inl rfl, Or.inr rfl, Or.inl rfl, Or.inr rfl, Or.inl rfl, trivial⟩
            · exact r_wk (hk29) ⟨Or.inr rfl, Or.inr rfl, Or.inl rfl, Or.inr rfl, Or.inl rfl, Or.inr rfl, Or.inl rfl, trivial⟩
          · exact r_wk (hk29) ⟨Or.inr rfl, Or.inr rfl, Or.inl rfl, Or.inr rfl, Or.inl rfl, Or.inr rfl, Or.inl rfl, trivial⟩
    · exact r_vret rfl dX10_describe_10
/-! f_X1_joined -/
noncomputable def f_X1_joined (a1 : Int32) (a2 : Int32) (a3 : Int32) (s0 : SS) : Option Int32 := if (a1 : Int32) = 37 then if (a3 : Int32) = 0 then some 0 else gd (¬ (a3 : Int32) = 0) (some (a2 - a2 / a3 * a3)) else if (a1 : Int32) = 42 then some (a2 * a3) else if (a1 : Int32) = 43 then some (a2 + a3) else if (a1 : Int32) = 45 then some (a2 - a3) else if (a1 : Int32) = 47 then if (a3 : Int32) = 0 then some 0 else gd (¬ (a3 : Int32) = 0) (some (a2 / a3)) else if (a1 : Int32) = 60 then if (a3 : Int32) ≤ (a2 : Int32) then some 0 else some 1 else if (a1 : Int32) = 62 then if (a2 : Int32) ≤ (a3 : Int32) then some 0 else some 1 else if (a2 : Int32) = (a3 : Int32) then some 1 else some 0
set_option maxRecDepth 100000 in
set_option maxHeartbeats 4000000 in
theorem c_X1_joined {l : Launch} (a1 : Int32) (a2 : Int32) (a3 : Int32) (s0 : SS) : Ct l wF yX1_joined cX1_joined 3 (some .int) 0 [.int a1, .int a2, .int a3] s0 (pu (f_X1_joined a1 a2 a3 s0) s0) := by
  refine ct_of (y := yX1_joined) plX1 (Nat.le_of_ble_eq_true rfl) ?_
  refine r_pad0 0 (L1 := [.int a1, .int a2, .int a3]) rfl ?_
  unfold f_X1_joined
  refine r_iload_n (pc1 := 1) (i := 0) dX1_joined_0 rfl rfl rfl ?_
  refine p_ite (fun q1 => ?_) (fun q1 => ?_)
  · refine r_look (tgt := 92) (off := 91) dX1_joined_1 (by decide) (by rw [q1]; rfl) (by decide) ?_
    refine r_iload_n (pc1 := 93) (i := 2) dX1_joined_92 rfl rfl rfl ?_
    refine p_if_ne (tgt := 100) (pc1 := 96) dX1_joined_93 (by decide) rfl (fun q12 => ?_) (fun q12 => ?_)
    · refine r_iconst (v := 0) (pc1 := 97) dX1_joined_96 ki_0 rfl ?_
      refine r_goto (tgt := 103) dX1_joined_97 (by decide) ?_
      exact p_iret rfl rfl dX1_joined_103
    · refine r_iload_n (pc1 := 101) (i := 1) dX1_joined_100 rfl rfl rfl ?_
      refine r_iload_n (pc1 := 102) (i := 2) dX1_joined_101 rfl rfl rfl ?_
      refine p_irem (pc1 := 103) dX1_joined_102 rfl ?_
      exact p_iret rfl rfl dX1_joined_103
  · refine p_ite (fun q2 => ?_) (fun q2 => ?_)
    · refine r_look (tgt := 76) (off := 75) dX1_joined_1 (by decide) (by rw [q2]; rfl) (by decide) ?_
      refine r_iload_n (pc1 := 77) (i := 1) dX1_joined_76 rfl rfl rfl ?_
      refine r_iload_n (pc1 := 78) (i := 2) dX1_joined_77 rfl rfl rfl ?_
      refine r_imul (pc1 := 79) dX1_joined_78 rfl ?_
      exact p_iret rfl rfl dX1_joined_79
    · refine p_ite (fun q3 => ?_) (fun q3 => ?_)
      · refine r_look (tgt := 68) (off := 67) dX1_joined_1 (by decide) (by rw [q3]; rfl) (by decide) ?_
        refine r_iload_n (pc1 := 69) (i := 1) dX1_joined_68 rfl rfl rfl ?_
        refine r_iload_n (pc1 := 70) (i := 2) dX1_joined_69 rfl rfl rfl ?_
        refine r_iadd (pc1 := 71) dX1_joined_70 rfl ?_
        exact p_iret rfl rfl dX1_joined_71
      · refine p_ite (fun q4 => ?_) (fun q4 => ?_)
        · refine r_look (tgt := 72) (off := 71) dX1_joined_1 (by decide) (by rw [q4]; rfl) (by decide) ?_
          refine r_iload_n (pc1 := 73) (i := 1) dX1_joined_72 rfl rfl rfl ?_
          refine r_iload_n (pc1 := 74) (i := 2) dX1_joined_73 rfl rfl rfl ?_
          refine r_isub (pc1 := 75) dX1_joined_74 rfl ?_
          exact p_iret rfl rfl dX1_joined_75
        · refine p_ite (fun q5 => ?_) (fun q5 => ?_)
          · refine r_look (tgt := 80) (off := 79) dX1_joined_1 (by decide) (by rw [q5]; rfl) (by decide) ?_
            refine r_iload_n (pc1 := 81) (i := 2) dX1_joined_80 rfl rfl rfl ?_
            refine p_if_ne (tgt := 88) (pc1 := 84) dX1_joined_81 (by decide) rfl (fun q11 => ?_) (fun q11 => ?_)
            · refine r_iconst (v := 0) (pc1 := 85) dX1_joined_84 ki_0 rfl ?_
              refine r_goto (tgt := 91) dX1_joined_85 (by decide) ?_
              exact p_iret rfl rfl dX1_joined_91
            · refine r_iload_n (pc1 := 89) (i := 1) dX1_joined_88 rfl rfl rfl ?_
              refine r_iload_n (pc1 := 90) (i := 2) dX1_joined_89 rfl rfl rfl ?_
              refine p_idiv (pc1 := 91) dX1_joined_90 rfl ?_
              exact p_iret rfl rfl dX1_joined_91
          · refine p_ite (fun q6 => ?_) (fun q6 => ?_)
            · refine r_look (tgt := 104) (off := 103) dX1_joined_1 (by decide) (by rw [q6]; rfl) (by decide) ?_
              refine r_iload_n (pc1 := 105) (i := 1) dX1_joined_104 rfl rfl rfl ?_
              refine r_iload_n (pc1 := 106) (i := 2) dX1_joined_105 rfl rfl rfl ?_
              refine p_icmp_ge (tgt := 113) (pc1 := 109) dX1_joined_106 (by decide) rfl (fun q10 => ?_) (fun q10 => ?_)
              · refine r_iconst (v := 0) (pc1 := 114) dX1_joined_113 ki_0 rfl ?_
                exact p_iret rfl rfl dX1_joined_114
              · refine r_iconst (v := 1) (pc1 := 110) dX1_joined_109 ki_1 rfl ?_
                refine r_goto (tgt := 114) dX1_joined_110 (by decide) ?_
                exact p_iret rfl rfl dX1_joined_114
            · refine p_ite (fun q7 => ?_) (fun q7 => ?_)
              · refine r_look (tgt := 115) (off := 114) dX1_joined_1 (by decide) (by rw [q7]; rfl) (by decide) ?_
                refine r_iload_n (pc1 := 116) (i := 1) dX1_joined_115 rfl rfl rfl ?_
                refine r_iload_n (pc1 := 117) (i := 2) dX1_joined_116 rfl rfl rfl ?_
                refine p_icmp_le (tgt := 124) (pc1 := 120) dX1_joined_117 (by decide) rfl (fun q9 => ?_) (fun q9 => ?_)
                · refine r_iconst (v := 0) (pc1 := 125) dX1_joined_124 ki_0 rfl ?_
                  exact p_iret rfl rfl dX1_joined_125
                · refine r_iconst (v := 1) (pc1 := 121) dX1_joined_120 ki_1 rfl ?_
                  refine r_goto (tgt := 125) dX1_joined_121 (by decide) ?_
                  exact p_iret rfl rfl dX1_joined_125
              · refine r_look (tgt := 126) (off := 125) dX1_joined_1 (by decide) (by show Op.lookupswitch.offset [(37, 91), (42, 75), (43, 67), (45, 71), (47, 79), (60, 103), (62, 114)] 125 _ = _; rw [lv_osw (a := 37) q1 rfl, lv_osw (a := 42) q2 rfl, lv_osw (a := 43) q3 rfl, lv_osw (a := 45) q4 rfl, lv_osw (a := 47) q5 rfl, lv_osw (a := 60) q6 rfl, lv_osw (a := 62) q7 rfl]; rfl) (by decide) ?_
                refine r_iload_n (pc1 := 127) (i := 1) dX1_joined_126 rfl rfl rfl ?_
                refine r_iload_n (pc1 := 128) (i := 2) dX1_joined_127 rfl rfl rfl ?_
                refine p_icmp_ne (tgt := 135) (pc1 := 131) dX1_joined_128 (by decide) rfl (fun q8 => ?_) (fun q8 => ?_)
                · refine r_iconst (v := 1) (pc1 := 132) dX1_joined_131 ki_1 rfl ?_
                  refine r_goto (tgt := 136) dX1_joined_132 (by decide) ?_
                  exact p_iret rfl rfl dX1_joined_136
                · refine r_iconst (v := 0) (pc1 := 136) dX1_joined_135 ki_0 rfl ?_
                  exact p_iret rfl rfl dX1_joined_136
/-! f_X1_reckon -/
noncomputable def lp_X1_reckon_6 (a2 : Int32) (k3 : Int32 → SS → Res) : Nat → Int32 → Int32 → SS → Res
  | 0, _, _, _ => none
  | n8 + 1, v5, v6, s7 => if (v6 : Int32) < 0 then k3 v5 s7 else if (a2 : Int32) ≤ (v6 : Int32) then k3 v5 s7 else if (200 : Int32) ≤ (v6 : Int32) then k3 v5 s7 else gd (inb v6 200) (lt (s7 10 (Int32.toNatClampNeg v6)) (fun (v12 : Int32) => gd (inb v6 200) (lt (s7 11 (Int32.toNatClampNeg v6)) (fun (v13 : Int32) => jn (fun (v14 : Int32) (v15 : Int32) (s16 : SS) => lp_X1_reckon_6 a2 k3 n8 v14 (v15 + 1) s16) (fun (k17 : Int32 → Int32 → SS → Res) => jn (if (40 : Int32) ≤ (v5 : Int32) then some (0, s7) else jn (jn (fun (v21 : Int32) => gd (inb v5 40) (lts (up s7 16 (Int32.toNatClampNeg v5) v21) (fun (s23 : SS) => k17 (v5 + 1) v6 s23))) (fun (k22 : Int32 → Res) => if (v12 : Int32) = (48 : Int32) then k22 v13 else gd (inb v13 11) (k22 (s7 32 (Int32.toNatClampNeg v13))))) (fun (k20 : Res) => if (v12 : Int32) = (108 : Int32) then if (v13 : Int32) < 0 then some (0, s7) else if (v13 : Int32) < (11 : Int32) then k20 else some (0, s7) else k20)) (fun (k18 : Res) => if (v12 : Int32) = (48 : Int32) then k18 else if (v12 : Int32) = (108 : Int32) then k18 else if (v5 : Int32) < (1 : Int32) then some (0, s7) else if (v5 : Int32) ≤ (40 : Int32) then if (v12 : Int32) = (33 : Int32) then gd (inb (v5 - 1) 40) (gd (inb (v5 - 1) 40) (lts (up s7 16 (Int32.toNatClampNeg (v5 - 1)) (1 - (s7 16 (Int32.toNatClampNeg (v5 - 1))))) (fun (s33 : SS) => k17 v5 v6 s33))) else jn (gd (inb (v5 - 1) 40) (jn (fun (v35 : Int32) => jn (fun (v37 : Int32) => jn (fun (v39 : Int32) => jn (fun (v41 : Int32) (v42 : Int32) => k17 v41 v42 s7) (fun (k43 : Int32 → Int32 → Res) => if (v39 : Int32) = 0 then k43 (v5 + (-1)) v6 else lt (if (v6 : Int32) < (v13 - 1 : Int32) then v13 - 1 else v6) (fun (v45 : Int32) => k43 v5 v45))) (fun (k40 : Int32 → Res) => if (v35 : Int32) = (v37 : Int32) then k40 1 else k40 0)) (fun (k38 : Int32 → Res) => if (v12 : Int32) = (124 : Int32) then k38 1 else k38 0)) (fun (k36 : Int32 → Res) => if (s7 16 (Int32.toNatClampNeg (v5 - 1)) : Int32) = 0 then k36 0 else k36 1))) (fun (k34 : Res) => if (v12 : Int32) = (124 : Int32) then k34 else if (v12 : Int32) = (38 : Int32) then k34 else if (v5 + (-1) : Int32) < (1 : Int32) then some (0, s7) else gd (inb (v5 + (-1)) 40) (jn (gd (inb ((v5 + (-1)) - 1) 40) (gd (inb (v5 + (-1)) 40) (bdp (f_X1_joined v12 (s7 16 (Int32.toNatClampNeg ((v5 + (-1)) - 1))) (s7 16 (Int32.toNatClampNeg (v5 + (-1)))) s7) (fun (v53 : Int32) => gd (inb ((v5 + (-1)) - 1) 40) (lts (up s7 16 (Int32.toNatClampNeg ((v5 + (-1)) - 1)) v53) (fun (s54 : SS) => k17 (v5 + (-1)) v6 s54)))))) (fun (k52 : Res) => if (s7 16 (Int32.toNatClampNeg (v5 + (-1))) : Int32) = 0 then if (v12 : Int32) = (47 : Int32) then some (0, s7) else if (v12 : Int32) = (37 : Int32) then some (0, s7) else k52 else k52))) else some (0, s7)))))))
noncomputable def f_X1_reckon (a1 : Int32) (a2 : Int32) (s0 : SS) : Res := jn (fun (v1 : Int32) (s2 : SS) => if (v1 : Int32) = (1 : Int32) then gd (inb 0 40) (some (s2 16 (Int32.toNatClampNeg 0), s2)) else some (0, s2)) (fun (k3 : Int32 → SS → Res) => lp_X1_reckon_6 a2 k3 FU 0 a1 s0)
set_option maxRecDepth 100000 in
set_option maxHeartbeats 4000000 in
theorem t_lp_X1_reckon_6 {l : Launch} (a2 : Int32) (k3 : Int32 → SS → Res) (hk3 : ∀ (v1 : Int32) (s2 : SS), RC l wF RX1 cX1_reckon 9 (some .int) 1 308 [.ref 9, .null, .null, .ref 32, .int v1, .null, .null, .null, .null] [] s2 (k3 v1 s2)) : ∀ (n8 : Nat) (v5 : Int32) (v6 : Int32) (s7 : SS), RC l wF RX1 cX1_reckon 9 (some .int) 1 6 [.ref 9, .null, .int a2, .ref 32, .int v5, .int v6, .null, .null, .null] [] s7 (lp_X1_reckon_6 a2 k3 n8 v5 v6 s7) := by
  intro n8
  induction n8 with
  | zero =>
    intro v5 v6 s7
    rw [lp_X1_reckon_6]
    exact r_none
  | succ n8 ih =>
    intro v5 v6 s7
    rw [lp_X1_reckon_6]
    refine r_iload (pc1 := 8) dX1_reckon_6 rfl rfl ?_
    refine r_if_lt (tgt := 308) (pc1 := 11) dX1_reckon_8 (by decide) rfl (fun q9 => ?_) (fun q9 => ?_)
    · exact r_wk (hk3 v5 s7) ⟨Or.inr rfl, Or.inl rfl, Or.inl rfl, Or.inr rfl, Or.inr rfl, Or.inl rfl, Or.inl rfl, Or.inl rfl, Or.inl rfl, trivial⟩
    · refine r_iload (pc1 := 13) dX1_reckon_11 rfl rfl ?_
      refine r_iload_n (pc1 := 14) (i := 2) dX1_reckon_13 rfl rfl rfl ?_
      refine r_icmp_ge (tgt := 308) (pc1 := 17) dX1_reckon_14 (by decide) rfl (fun q10 => ?_) (fun q10 => ?_)
      · exact r_wk (hk3 v5 s7) ⟨Or.inr rfl, Or.inl rfl, Or.inl rfl, Or.inr rfl, Or.inr rfl, Or.inl rfl, Or.inl rfl, Or.inl rfl, Or.inl rfl, trivial⟩
      · refine r_iload (pc1 := 19) dX1_reckon_17 rfl rfl ?_
        refine r_sipush (v := 200) (pc1 := 22) dX1_reckon_19 ks_200 rfl ?_
        refine r_icmp_ge (tgt := 308) (pc1 := 25) dX1_reckon_22 (by decide) rfl (fun q11 => ?_) (fun q11 => ?_)
        · exact r_wk (hk3 v5 s7) ⟨Or.inr rfl, Or.inl rfl, Or.inl rfl, Or.inr rfl, Or.inr rfl, Or.inl rfl, Or.inl rfl, Or.inl rfl, Or.inl rfl, trivial⟩
        · refine r_aload_n (pc1 := 26) (i := 0) dX1_reckon_25 rfl rfl rfl ?_
          refine r_getR (pc1 := 29) w_9 gfX1_9 rfl dX1_reckon_26 rfl ?_
          refine r_iload (pc1 := 31) dX1_reckon_29 rfl rfl ?_
          refine r_iald (pc1 := 32) w_10 dX1_reckon_31 rfl ?_
          refine r_lt (fun v12 => ?_)
          refine r_istore (pc1 := 34) dX1_reckon_32 (by decide) rfl rfl rfl ?_
          refine r_aload_n (pc1 := 35) (i := 0) dX1_reckon_34 rfl rfl rfl ?_
          refine r_getR (pc1 := 38) w_9 gfX1_15 rfl dX1_reckon_35 rfl ?_
          refine r_iload (pc1 := 40) dX1_reckon_38 rfl rfl ?_
          refine r_iald (pc1 := 41) w_11 dX1_reckon_40 rfl ?_
          refine r_lt (fun v13 => ?_)
          refine r_istore (pc1 := 43) dX1_reckon_41 (by decide) rfl rfl rfl ?_
          refine r_iload (pc1 := 45) dX1_reckon_43 rfl rfl ?_
          refine r_bipush (v := 48) (pc1 := 47) dX1_reckon_45 kb_48 rfl ?_
          refine r_jn (hyp := fun (k17 : Int32 → Int32 → SS → Res) => ∀ (v14 : Int32) (v15 : Int32) (s16 : SS), RC l wF RX1 cX1_reckon 9 (some .int) 1 302 [.ref 9, .null, .int a2, .ref 32, .int v14, .int v15, .null, .null, .null] [] s16 (k17 v14 v15 s16)) (fun v14 v15 s16 => ?_) (fun k17 hk17 => ?_)
          · refine r_iinc (pc1 := 305) dX1_reckon_302 rfl (kn_1 _) (by decide) rfl rfl rfl ?_
            refine r_goto (tgt := 6) dX1_reckon_305 (by decide) ?_
            exact r_wk (ih v14 (v15 + 1) s16) ⟨Or.inr rfl, Or.inl rfl, Or.inr rfl, Or.inr rfl, Or.inr rfl, Or.inr rfl, Or.inl rfl, Or.inl rfl, Or.inl rfl, trivial⟩
          · refine r_jn (hyp := fun (k18 : Res) => RC l wF RX1 cX1_reckon 9 (some .int) 1 57 [.ref 9, .null, .int a2, .ref 32, .int v5, .int v6, .int v12, .int v13, .null] [] s7 k18) (?_) (fun k18 hk18 => ?_)
            · refine r_iload (pc1 := 59) dX1_reckon_57 rfl rfl ?_
              refine r_bipush (v := 40) (pc1 := 61) dX1_reckon_59 kb_40 rfl ?_
              refine r_icmp_ge (tgt := 83) (pc1 := 64) dX1_reckon_61 (by decide) rfl (fun q19 => ?_) (fun q19 => ?_)
              · refine r_iconst (v := 0) (pc1 := 84) dX1_reckon_83 ki_0 rfl ?_
                exact r_iret rfl rfl dX1_reckon_84
              · refine r_iload (pc1 := 66) dX1_reckon_64 rfl rfl ?_
                refine r_bipush (v := 108) (pc1 := 68) dX1_reckon_66 kb_108 rfl ?_
                refine r_jn (hyp := fun (k20 : Res) => RC l wF RX1 cX1_reckon 9 (some .int) 1 85 [.ref 9, .null, .int a2, .ref 32, .int v5, .int v6, .int v12, .int v13, .null] [] s7 k20) (?_) (fun k20 hk20 => ?_)
                · refine r_aload_n (pc1 := 86) (i := 0) dX1_reckon_85 rfl rfl rfl ?_
                  refine r_getR (pc1 := 89) w_9 gfX1_30 rfl dX1_reckon_86 rfl ?_
                  refine r_iload (pc1 := 91) dX1_reckon_89 rfl rfl ?_
                  refine r_iload (pc1 := 93) dX1_reckon_91 rfl rfl ?_
                  refine r_bipush (v := 48) (pc1 := 95) dX1_reckon_93 kb_48 rfl ?_
                  refine r_jn (hyp := fun (k22 : Int32 → Res) => ∀ (v21 : Int32), RC l wF RX1 cX1_reckon 9 (some .int) 1 107 [.ref 9, .null, .int a2, .ref 32, .int v5, .int v6, .null, .null, .null] [.int v21, .int v5, .ref 16] s7 (k22 v21)) (fun v21 => ?_) (fun k22 hk22 => ?_)
                  · refine r_iast (pc1 := 108) w_16 dX1_reckon_107 rfl ?_
                    refine r_lts (fun s23 => ?_)
                    refine r_iinc (pc1 := 111) dX1_reckon_108 rfl (kn_1 _) (by decide) rfl rfl rfl ?_
                    refine r_goto (tgt := 302) dX1_reckon_111 (by decide) ?_
                    exact r_wk (hk17 (v5 + 1) v6 s23) ⟨Or.inr rfl, Or.inl rfl, Or.inr rfl, Or.inr rfl, Or.inr rfl, Or.inr rfl, Or.inl rfl, Or.inl rfl, Or.inl rfl, trivial⟩
                  · refine r_icmp_ne (tgt := 103) (pc1 := 98) dX1_reckon_95 (by decide) rfl (fun q24 => ?_) (fun q24 => ?_)
                    · refine r_iload (pc1 := 100) dX1_reckon_98 rfl rfl ?_
                      refine r_goto (tgt := 107) dX1_reckon_100 (by decide) ?_
                      exact r_wk (hk22 v13) ⟨Or.inr rfl, Or.inl rfl, Or.inr rfl, Or.inr rfl, Or.inr rfl, Or.inr rfl, Or.inl rfl, Or.inl rfl, Or.inl rfl, trivial⟩
                    · refine r_aload_n (pc1 := 104) (i := 3) dX1_reckon_103 rfl rfl rfl ?_
                      refine r_iload (pc1 := 106) dX1_reckon_104 rfl rfl ?_
                      refine r_iald (pc1 := 107) w_32 dX1_reckon_106 rfl ?_
                      exact r_wk (hk22 (s7 32 (Int32.toNatClampNeg v13))) ⟨Or.inr rfl, Or.inl rfl, Or.inr rfl, Or.inr rfl, Or.inr rfl, Or.inr rfl, Or.inl rfl, Or.inl rfl, Or.inl rfl, trivial⟩
                · refine r_icmp_ne (tgt := 85) (pc1 := 71) dX1_reckon_68 (by decide) rfl (fun q25 => ?_) (fun q25 => ?_)
                  · refine r_iload (pc1 := 73) dX1_reckon_71 rfl rfl ?_
                    refine r_if_lt (tgt := 83) (pc1 := 76) dX1_reckon_73 (by decide) rfl (fun q26 => ?_) (fun q26 => ?_)
                    · refine r_iconst (v := 0) (pc1 := 84) dX1_reckon_83 ki_0 rfl ?_
                      exact r_iret rfl rfl dX1_reckon_84
                    · refine r_iload (pc1 := 78) dX1_reckon_76 rfl rfl ?_
                      refine r_aload_n (pc1 := 79) (i := 3) dX1_reckon_78 rfl rfl rfl ?_
                      refine r_alen (t := 0) (v := 11) (pc1 := 80) w_32 (fun _ => rfl) (al_11) dX1_reckon_79 rfl ?_
                      refine r_icmp_lt (tgt := 85) (pc1 := 83) dX1_reckon_80 (by decide) rfl (fun q27 => ?_) (fun q27 => ?_)
                      · exact r_wk (hk20) ⟨Or.inr rfl, Or.inl rfl, Or.inr rfl, Or.inr rfl, Or.inr rfl, Or.inr rfl, Or.inr rfl, Or.inr rfl, Or.inl rfl, trivial⟩
                      · refine r_iconst (v := 0) (pc1 := 84) dX1_reckon_83 ki_0 rfl ?_
                        exact r_iret rfl rfl dX1_reckon_84
                  · exact r_wk (hk20) ⟨Or.inr rfl, Or.inl rfl, Or.inr rfl, Or.inr rfl, Or.inr rfl, Or.inr rfl, Or.inr rfl, Or.inr rfl, Or.inl rfl, trivial⟩
            · refine r_icmp_eq (tgt := 57) (pc1 := 50) dX1_reckon_47 (by decide) rfl (fun q28 => ?_) (fun q28 => ?_)
              · exact r_wk (hk18) ⟨Or.inr rfl, Or.inl rfl, Or.inr rfl, Or.inr rfl, Or.inr rfl, Or.inr rfl, Or.inr rfl, Or.inr rfl, Or.inl rfl, trivial⟩
              · refine r_iload (pc1 := 52) dX1_reckon_50 rfl rfl ?_
                refine r_bipush (v := 108) (pc1 := 54) dX1_reckon_52 kb_108 rfl ?_
                refine r_icmp_ne (tgt := 114) (pc1 := 57) dX1_reckon_54 (by decide) rfl (fun q29 => ?_) (fun q29 => ?_)
                · exact r_wk (hk18) ⟨Or.inr rfl, Or.inl rfl, Or.inr rfl, Or.inr rfl, Or.inr rfl, Or.inr rfl, Or.inr rfl, Or.inr rfl, Or.inl rfl, trivial⟩
                · refine r_iload (pc1 := 116) dX1_reckon_114 rfl rfl ?_
                  refine r_iconst (v := 1) (pc1 := 117) dX1_reckon_116 ki_1 rfl ?_
                  refine r_icmp_lt (tgt := 127) (pc1 := 120) dX1_reckon_117 (by decide) rfl (fun q30 => ?_) (fun q30 => ?_)
                  · refine r_iconst (v := 0) (pc1 := 128) dX1_reckon_127 ki_0 rfl ?_
                    exact r_iret rfl rfl dX1_reckon_128
                  · refine r_iload (pc1 := 122) dX1_reckon_120 rfl rfl ?_
                    refine r_bipush (v := 40) (pc1 := 124) dX1_reckon_122 kb_40 rfl ?_
                    refine r_icmp_le (tgt := 129) (pc1 := 127) dX1_reckon_124 (by decide) rfl (fun q31 => ?_) (fun q31 => ?_)
                    · refine r_iload (pc1 := 131) dX1_reckon_129 rfl rfl ?_
                      refine r_bipush (v := 33) (pc1 := 133) dX1_reckon_131 kb_33 rfl ?_
                      refine r_icmp_ne (tgt := 159) (pc1 := 136) dX1_reckon_133 (by decide) rfl (fun q32 => ?_) (fun q32 => ?_)
                      · refine r_aload_n (pc1 := 137) (i := 0) dX1_reckon_136 rfl rfl rfl ?_
                        refine r_getR (pc1 := 140) w_9 gfX1_30 rfl dX1_reckon_137 rfl ?_
                        refine r_iload (pc1 := 142) dX1_reckon_140 rfl rfl ?_
                        refine r_iconst (v := 1) (pc1 := 143) dX1_reckon_142 ki_1 rfl ?_
                        refine r_isub (pc1 := 144) dX1_reckon_143 rfl ?_
                        refine r_iconst (v := 1) (pc1 := 145) dX1_reckon_144 ki_1 rfl ?_
                        refine r_aload_n (pc1 := 146) (i := 0) dX1_reckon_145 rfl rfl rfl ?_
                        refine r_getR (pc1 := 149) w_9 gfX1_30 rfl dX1_reckon_146 rfl ?_
                        refine r_iload (pc1 := 151) dX1_reckon_149 rfl rfl ?_
                        refine r_iconst (v := 1) (pc1 := 152) dX1_reckon_151 ki_1 rfl ?_
                        refine r_isub (pc1 := 153) dX1_reckon_152 rfl ?_
                        refine r_iald (pc1 := 154) w_16 dX1_reckon_153 rfl ?_
                        refine r_isub (pc1 := 155) dX1_reckon_154 rfl ?_
                        refine r_iast (pc1 := 156) w_16 dX1_reckon_155 rfl ?_
                        refine r_lts (fun s33 => ?_)
                        refine r_goto (tgt := 302) dX1_reckon_156 (by decide) ?_
                        exact r_wk (hk17 v5 v6 s33) ⟨Or.inr rfl, Or.inl rfl, Or.inr rfl, Or.inr rfl, Or.inr rfl, Or.inr rfl, Or.inl rfl, Or.inl rfl, Or.inl rfl, trivial⟩
                      · refine r_iload (pc1 := 161) dX1_reckon_159 rfl rfl ?_
                        refine r_bipush (v := 124) (pc1 := 163) dX1_reckon_161 kb_124 rfl ?_
                        refine r_jn (hyp := fun (k34 : Res) => RC l wF RX1 cX1_reckon 9 (some .int) 1 173 [.ref 9, .null, .int a2, .ref 32, .int v5, .int v6, .int v12, .int v13, .null] [] s7 k34) (?_) (fun k34 hk34 => ?_)
                        · refine r_aload_n (pc1 := 174) (i := 0) dX1_reckon_173 rfl rfl rfl ?_
                          refine r_getR (pc1 := 177) w_9 gfX1_30 rfl dX1_reckon_174 rfl ?_
                          refine r_iload (pc1 := 179) dX1_reckon_177 rfl rfl ?_
                          refine r_iconst (v := 1) (pc1 := 180) dX1_reckon_179 ki_1 rfl ?_
                          refine r_isub (pc1 := 181) dX1_reckon_180 rfl ?_
                          refine r_iald (pc1 := 182) w_16 dX1_reckon_181 rfl ?_
                          refine r_jn (hyp := fun (k36 : Int32 → Res) => ∀ (v35 : Int32), RC l wF RX1 cX1_reckon 9 (some .int) 1 190 [.ref 9, .null, .int a2, .ref 32, .int v5, .int v6, .int v12, .int v13, .null] [.int v35] s7 (k36 v35)) (fun v35 => ?_) (fun k36 hk36 => ?_)
                          · refine r_iload (pc1 := 192) dX1_reckon_190 rfl rfl ?_
                            refine r_bipush (v := 124) (pc1 := 194) dX1_reckon_192 kb_124 rfl ?_
                            refine r_jn (hyp := fun (k38 : Int32 → Res) => ∀ (v37 : Int32), RC l wF RX1 cX1_reckon 9 (some .int) 1 202 [.ref 9, .null, .int a2, .ref 32, .int v5, .int v6, .null, .int v13, .null] [.int v37, .int v35] s7 (k38 v37)) (fun v37 => ?_) (fun k38 hk38 => ?_)
                            · refine r_jn (hyp := fun (k40 : Int32 → Res) => ∀ (v39 : Int32), RC l wF RX1 cX1_reckon 9 (some .int) 1 210 [.ref 9, .null, .int a2, .ref 32, .int v5, .int v6, .null, .int v13, .null] [.int v39] s7 (k40 v39)) (fun v39 => ?_) (fun k40 hk40 => ?_)
                              · refine r_istore (pc1 := 212) dX1_reckon_210 (by decide) rfl rfl rfl ?_
                                refine r_iload (pc1 := 214) dX1_reckon_212 rfl rfl ?_
                                refine r_jn (hyp := fun (k43 : Int32 → Int32 → Res) => ∀ (v41 : Int32) (v42 : Int32), RC l wF RX1 cX1_reckon 9 (some .int) 1 234 [.ref 9, .null, .int a2, .ref 32, .int v41, .int v42, .null, .null, .null] [] s7 (k43 v41 v42)) (fun v41 v42 => ?_) (fun k43 hk43 => ?_)
                                · refine r_goto (tgt := 302) dX1_reckon_234 (by decide) ?_
                                  exact r_wk (hk17 v41 v42 s7) ⟨Or.inr rfl, Or.inl rfl, Or.inr rfl, Or.inr rfl, Or.inr rfl, Or.inr rfl, Or.inl rfl, Or.inl rfl, Or.inl rfl, trivial⟩
                                · refine r_if_eq (tgt := 231) (pc1 := 217) dX1_reckon_214 (by decide) rfl (fun q44 => ?_) (fun q44 => ?_)
                                  · refine r_iinc (pc1 := 234) dX1_reckon_231 rfl (kn_m1 _) (by decide) rfl rfl rfl ?_
                                    exact r_wk (hk43 (v5 + (-1)) v6) ⟨Or.inr rfl, Or.inl rfl, Or.inr rfl, Or.inr rfl, Or.inr rfl, Or.inr rfl, Or.inl rfl, Or.inl rfl, Or.inl rfl, trivial⟩
                                  · refine r_iload (pc1 := 219) dX1_reckon_217 rfl rfl ?_
                                    refine r_iload (pc1 := 221) dX1_reckon_219 rfl rfl ?_
                                    refine r_iconst (v := 1) (pc1 := 222) dX1_reckon_221 ki_1 rfl ?_
                                    refine r_isub (pc1 := 223) dX1_reckon_222 rfl ?_
                                    refine r_mmax (pc1 := 226) mlX1_56 (by omega) dX1_reckon_223 rfl (Nat.le_of_ble_eq_true rfl) ?_
                                    refine r_lt (fun v45 => ?_)
                                    refine r_istore (pc1 := 228) dX1_reckon_226 (by decide) rfl rfl rfl ?_
                                    refine r_goto (tgt := 234) dX1_reckon_228 (by decide) ?_
                                    exact r_wk (hk43 v5 v45) ⟨Or.inr rfl, Or.inl rfl, Or.inr rfl, Or.inr rfl, Or.inr rfl, Or.inr rfl, Or.inl rfl, Or.inl rfl, Or.inl rfl, trivial⟩
                              · refine r_icmp_ne (tgt := 209) (pc1 := 205) dX1_reckon_202 (by decide) rfl (fun q46 => ?_) (fun q46 => ?_)
                                · refine r_iconst (v := 1) (pc1 := 206) dX1_reckon_205 ki_1 rfl ?_
                                  refine r_goto (tgt := 210) dX1_reckon_206 (by decide) ?_
                                  exact r_wk (hk40 1) ⟨Or.inr rfl, Or.inl rfl, Or.inr rfl, Or.inr rfl, Or.inr rfl, Or.inr rfl, Or.inl rfl, Or.inr rfl, Or.inl rfl, trivial⟩
                                · refine r_iconst (v := 0) (pc1 := 210) dX1_reckon_209 ki_0 rfl ?_
                                  exact r_wk (hk40 0) ⟨Or.inr rfl, Or.inl rfl, Or.inr rfl, Or.inr rfl, Or.inr rfl, Or.inr rfl, Or.inl rfl, Or.inr rfl, Or.inl rfl, trivial⟩
                            · refine r_icmp_ne (tgt := 201) (pc1 := 197) dX1_reckon_194 (by decide) rfl (fun q47 => ?_) (fun q47 => ?_)
                              · refine r_iconst (v := 1) (pc1 := 198) dX1_reckon_197 ki_1 rfl ?_
                                refine r_goto (tgt := 202) dX1_reckon_198 (by decide) ?_
                                exact r_wk (hk38 1) ⟨Or.inr rfl, Or.inl rfl, Or.inr rfl, Or.inr rfl, Or.inr rfl, Or.inr rfl, Or.inl rfl, Or.inr rfl, Or.inl rfl, trivial⟩
                              · refine r_iconst (v := 0) (pc1 := 202) dX1_reckon_201 ki_0 rfl ?_
                                exact r_wk (hk38 0) ⟨Or.inr rfl, Or.inl rfl, Or.inr rfl, Or.inr rfl, Or.inr rfl, Or.inr rfl, Or.inl rfl, Or.inr rfl, Or.inl rfl, trivial⟩
                          · refine r_if_eq (tgt := 189) (pc1 := 185) dX1_reckon_182 (by decide) rfl (fun q48 => ?_) (fun q48 => ?_)
                            · refine r_iconst (v := 0) (pc1 := 190) dX1_reckon_189 ki_0 rfl ?_
                              exact r_wk (hk36 0) ⟨Or.inr rfl, Or.inl rfl, Or.inr rfl, Or.inr rfl, Or.inr rfl, Or.inr rfl, Or.inr rfl, Or.inr rfl, Or.inl rfl, trivial⟩
                            · refine r_iconst (v := 1) (pc1 := 186) dX1_reckon_185 ki_1 rfl ?_
                              refine r_goto (tgt := 190) dX1_reckon_186 (by decide) ?_
                              exact r_wk (hk36 1) ⟨Or.inr rfl, Or.inl rfl, Or.inr rfl, Or.inr rfl, Or.inr rfl, Or.inr rfl, Or.inr rfl, Or.inr rfl, Or.inl rfl, trivial⟩
                        · refine r_icmp_eq (tgt := 173) (pc1 := 166) dX1_reckon_163 (by decide) rfl (fun q49 => ?_) (fun q49 => ?_)
                          · exact r_wk (hk34) ⟨Or.inr rfl, Or.inl rfl, Or.inr rfl, Or.inr rfl, Or.inr rfl, Or.inr rfl, Or.inr rfl, Or.inr rfl, Or.inl rfl, trivial⟩
                          · refine r_iload (pc1 := 168) dX1_reckon_166 rfl rfl ?_
                            refine r_bipush (v := 38) (pc1 := 170) dX1_reckon_168 kb_38 rfl ?_
                            refine r_icmp_ne (tgt := 237) (pc1 := 173) dX1_reckon_170 (by decide) rfl (fun q50 => ?_) (fun q50 => ?_)
                            · exact r_wk (hk34) ⟨Or.inr rfl, Or.inl rfl, Or.inr rfl, Or.inr rfl, Or.inr rfl, Or.inr rfl, Or.inr rfl, Or.inr rfl, Or.inl rfl, trivial⟩
                            · refine r_iinc (pc1 := 240) dX1_reckon_237 rfl (kn_m1 _) (by decide) rfl rfl rfl ?_
                              refine r_iload (pc1 := 242) dX1_reckon_240 rfl rfl ?_
                              refine r_iconst (v := 1) (pc1 := 243) dX1_reckon_242 ki_1 rfl ?_
                              refine r_icmp_lt (tgt := 270) (pc1 := 246) dX1_reckon_243 (by decide) rfl (fun q51 => ?_) (fun q51 => ?_)
                              · refine r_iconst (v := 0) (pc1 := 271) dX1_reckon_270 ki_0 rfl ?_
                                exact r_iret rfl rfl dX1_reckon_271
                              · refine r_aload_n (pc1 := 247) (i := 0) dX1_reckon_246 rfl rfl rfl ?_
                                refine r_getR (pc1 := 250) w_9 gfX1_30 rfl dX1_reckon_247 rfl ?_
                                refine r_iload (pc1 := 252) dX1_reckon_250 rfl rfl ?_
                                refine r_iald (pc1 := 253) w_16 dX1_reckon_252 rfl ?_
                                refine r_jn (hyp := fun (k52 : Res) => RC l wF RX1 cX1_reckon 9 (some .int) 1 272 [.ref 9, .null, .int a2, .ref 32, .int (v5 + (-1)), .int v6, .int v12, .null, .null] [] s7 k52) (?_) (fun k52 hk52 => ?_)
                                · refine r_aload_n (pc1 := 273) (i := 0) dX1_reckon_272 rfl rfl rfl ?_
                                  refine r_getR (pc1 := 276) w_9 gfX1_30 rfl dX1_reckon_273 rfl ?_
                                  refine r_iload (pc1 := 278) dX1_reckon_276 rfl rfl ?_
                                  refine r_iconst (v := 1) (pc1 := 279) dX1_reckon_278 ki_1 rfl ?_
                                  refine r_isub (pc1 := 280) dX1_reckon_279 rfl ?_
                                  refine r_iload (pc1 := 282) dX1_reckon_280 rfl rfl ?_
                                  refine r_aload_n (pc1 := 283) (i := 0) dX1_reckon_282 rfl rfl rfl ?_
                                  refine r_getR (pc1 := 286) w_9 gfX1_30 rfl dX1_reckon_283 rfl ?_
                                  refine r_iload (pc1 := 288) dX1_reckon_286 rfl rfl ?_
                                  refine r_iconst (v := 1) (pc1 := 289) dX1_reckon_288 ki_1 rfl ?_
                                  refine r_isub (pc1 := 290) dX1_reckon_289 rfl ?_
                                  refine r_iald (pc1 := 291) w_16 dX1_reckon_290 rfl ?_
                                  refine r_aload_n (pc1 := 292) (i := 0) dX1_reckon_291 rfl rfl rfl ?_
                                  refine r_getR (pc1 := 295) w_9 gfX1_30 rfl dX1_reckon_292 rfl ?_
                                  refine r_iload (pc1 := 297) dX1_reckon_295 rfl rfl ?_
                                  refine r_iald (pc1 := 298) w_16 dX1_reckon_297 rfl ?_
                                  refine r_callSp (pc1 := 301) lkX1_59 (c_X1_joined _ _ _ _) rfl rfl ⟨Nat.le_of_ble_eq_true rfl, Nat.le_of_ble_eq_true rfl⟩ (Nat.le_of_ble_eq_true rfl) dX1_reckon_298 rfl (fun v53 => ?_)
                                  refine r_iast (pc1 := 302) w_16 dX1_reckon_301 rfl ?_
                                  refine r_lts (fun s54 => ?_)
                                  exact r_wk (hk17 (v5 + (-1)) v6 s54) ⟨Or.inr rfl, Or.inl rfl, Or.inr rfl, Or.inr rfl, Or.inr rfl, Or.inr rfl, Or.inl rfl, Or.inl rfl, Or.inl rfl, trivial⟩
                                · refine r_if_ne (tgt := 272) (pc1 := 256) dX1_reckon_253 (by decide) rfl (fun q55 => ?_) (fun q55 => ?_)
                                  · refine r_iload (pc1 := 258) dX1_reckon_256 rfl rfl ?_
                                    refine r_bipush (v := 47) (pc1 := 260) dX1_reckon_258 kb_47 rfl ?_
                                    refine r_icmp_eq (tgt := 270) (pc1 := 263) dX1_reckon_260 (by decide) rfl (fun q56 => ?_) (fun q56 => ?_)
                                    · refine r_iconst (v := 0) (pc1 := 271) dX1_reckon_270 ki_0 rfl ?_
                                      exact r_iret rfl rfl dX1_reckon_271
                                    · refine r_iload (pc1 := 265) dX1_reckon_263 rfl rfl ?_
                                      refine r_bipush (v := 37) (pc1 := 267) dX1_reckon_265 kb_37 rfl ?_
                                      refine r_icmp_ne (tgt := 272) (pc1 := 270) dX1_reckon_267 (by decide) rfl (fun q57 => ?_) (fun q57 => ?_)
                                      · refine r_iconst (v := 0) (pc1 := 271) dX1_reckon_270 ki_0 rfl ?_
                                        exact r_iret rfl rfl dX1_reckon_271
                                      · exact r_wk (hk52) ⟨Or.inr rfl, Or.inl rfl, Or.inr rfl, Or.inr rfl, Or.inr rfl, Or.inr rfl, Or.inr rfl, Or.inl rfl, Or.inl rfl, trivial⟩
                                  · exact r_wk (hk52) ⟨Or.inr rfl, Or.inl rfl, Or.inr rfl, Or.inr rfl, Or.inr rfl, Or.inr rfl, Or.inr rfl, Or.inl rfl, Or.inl rfl, trivial⟩
                    · refine r_iconst (v := 0) (pc1 := 128) dX1_reckon_127 ki_0 rfl ?_
                      exact r_iret rfl rfl dX1_reckon_128
set_option maxRecDepth 100000 in
set_option maxHeartbeats 4000000 in
theorem c_X1_reckon {l : Launch} (a1 : Int32) (a2 : Int32) (s0 : SS) : Ct l wF yX1_reckon cX1_reckon 9 (some .int) 1 [.ref 9, .int a1, .int a2, .ref 32] s0 (f_X1_reckon a1 a2 s0) := by
  refine ct_of (y := yX1_reckon) plX1 (Nat.le_of_ble_eq_true rfl) ?_
  refine r_pad0 5 (L1 := [.ref 9, .int a1, .int a2, .ref 32, .null, .null, .null, .null, .null]) rfl ?_
  unfold f_X1_reckon
  refine r_iconst (v := 0) (pc1 := 1) dX1_reckon_0 ki_0 rfl ?_
  refine r_istore (pc1 := 3) dX1_reckon_1 (by decide) rfl rfl rfl ?_
  refine r_iload_n (pc1 := 4) (i := 1) dX1_reckon_3 rfl rfl rfl ?_
  refine r_istore (pc1 := 6) dX1_reckon_4 (by decide) rfl rfl rfl ?_
  refine r_jn (hyp := fun (k3 : Int32 → SS → Res) => ∀ (v1 : Int32) (s2 : SS), RC l wF RX1 cX1_reckon 9 (some .int) 1 308 [.ref 9, .null, .null, .ref 32, .int v1, .null, .null, .null, .null] [] s2 (k3 v1 s2)) (fun v1 s2 => ?_) (fun k3 hk3 => ?_)
  · refine r_iload (pc1 := 310) dX1_reckon_308 rfl rfl ?_
    refine r_iconst (v := 1) (pc1 := 311) dX1_reckon_310 ki_1 rfl ?_
    refine r_icmp_ne (tgt := 323) (pc1 := 314) dX1_reckon_311 (by decide) rfl (fun q4 => ?_) (fun q4 => ?_)
    · refine r_aload_n (pc1 := 315) (i := 0) dX1_reckon_314 rfl rfl rfl ?_
      refine r_getR (pc1 := 318) w_9 gfX1_30 rfl dX1_reckon_315 rfl ?_
      refine r_iconst (v := 0) (pc1 := 319) dX1_reckon_318 ki_0 rfl ?_
      refine r_iald (pc1 := 320) w_16 dX1_reckon_319 rfl ?_
      refine r_goto (tgt := 324) dX1_reckon_320 (by decide) ?_
      exact r_iret rfl rfl dX1_reckon_324
    · refine r_iconst (v := 0) (pc1 := 324) dX1_reckon_323 ki_0 rfl ?_
      exact r_iret rfl rfl dX1_reckon_324
  · exact r_wk (t_lp_X1_reckon_6 a2 k3 hk3 FU 0 a1 s0) ⟨Or.inr rfl, Or.inl rfl, Or.inr rfl, Or.inr rfl, Or.inr rfl, Or.inr rfl, Or.inl rfl, Or.inl rfl, Or.inl rfl, trivial⟩
