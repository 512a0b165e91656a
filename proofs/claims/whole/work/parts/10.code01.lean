theorem dX11_within_0 : decode cX11_within 0 = .ok (.iload_n 0, 1) := by decide +kernel
theorem dX11_within_1 : decode cX11_within 1 = .ok (.ifCond .lt 12, 3) := by decide +kernel
theorem dX11_within_4 : decode cX11_within 4 = .ok (.iload_n 0, 1) := by decide +kernel
theorem dX11_within_5 : decode cX11_within 5 = .ok (.iload_n 1, 1) := by decide +kernel
theorem dX11_within_6 : decode cX11_within 6 = .ok (.if_icmp .gt 7, 3) := by decide +kernel
theorem dX11_within_9 : decode cX11_within 9 = .ok (.iconst 1, 1) := by decide +kernel
theorem dX11_within_10 : decode cX11_within 10 = .ok (.goto 4, 3) := by decide +kernel
theorem dX11_within_13 : decode cX11_within 13 = .ok (.iconst 0, 1) := by decide +kernel
theorem dX11_within_14 : decode cX11_within 14 = .ok (.ireturn, 1) := by decide +kernel
theorem dX10_lawCount_0 : decode cX10_lawCount 0 = .ok (.aload_n 0, 1) := by decide +kernel
theorem dX10_lawCount_1 : decode cX10_lawCount 1 = .ok (.getfield 44, 3) := by decide +kernel
theorem dX10_lawCount_4 : decode cX10_lawCount 4 = .ok (.ireturn, 1) := by decide +kernel
theorem dX10_forget_0 : decode cX10_forget 0 = .ok (.aload_n 0, 1) := by decide +kernel
theorem dX10_forget_1 : decode cX10_forget 1 = .ok (.iconst 1, 1) := by decide +kernel
theorem dX10_forget_2 : decode cX10_forget 2 = .ok (.putfield 59, 3) := by decide +kernel
theorem dX10_forget_5 : decode cX10_forget 5 = .ok (.return_, 1) := by decide +kernel
theorem dX10_addLaw_0 : decode cX10_addLaw 0 = .ok (.aload_n 0, 1) := by decide +kernel
theorem dX10_addLaw_1 : decode cX10_addLaw 1 = .ok (.getfield 44, 3) := by decide +kernel
theorem dX10_addLaw_4 : decode cX10_addLaw 4 = .ok (.ifCond .lt 12, 3) := by decide +kernel
theorem dX10_addLaw_7 : decode cX10_addLaw 7 = .ok (.aload_n 0, 1) := by decide +kernel
theorem dX10_addLaw_8 : decode cX10_addLaw 8 = .ok (.getfield 44, 3) := by decide +kernel
theorem dX10_addLaw_11 : decode cX10_addLaw 11 = .ok (.bipush 8, 2) := by decide +kernel
theorem dX10_addLaw_13 : decode cX10_addLaw 13 = .ok (.if_icmp .lt 5, 3) := by decide +kernel
theorem dX10_addLaw_16 : decode cX10_addLaw 16 = .ok (.iconst (-1), 1) := by decide +kernel
theorem dX10_addLaw_17 : decode cX10_addLaw 17 = .ok (.ireturn, 1) := by decide +kernel
theorem dX10_addLaw_18 : decode cX10_addLaw 18 = .ok (.aload_n 0, 1) := by decide +kernel
theorem dX10_addLaw_19 : decode cX10_addLaw 19 = .ok (.getfield 9, 3) := by decide +kernel
theorem dX10_addLaw_22 : decode cX10_addLaw 22 = .ok (.aload_n 0, 1) := by decide +kernel
theorem dX10_addLaw_23 : decode cX10_addLaw 23 = .ok (.getfield 44, 3) := by decide +kernel
theorem dX10_addLaw_26 : decode cX10_addLaw 26 = .ok (.iload_n 1, 1) := by decide +kernel
theorem dX10_addLaw_27 : decode cX10_addLaw 27 = .ok (.iastore, 1) := by decide +kernel
theorem dX10_addLaw_28 : decode cX10_addLaw 28 = .ok (.aload_n 0, 1) := by decide +kernel
theorem dX10_addLaw_29 : decode cX10_addLaw 29 = .ok (.getfield 15, 3) := by decide +kernel
theorem dX10_addLaw_32 : decode cX10_addLaw 32 = .ok (.aload_n 0, 1) := by decide +kernel
theorem dX10_addLaw_33 : decode cX10_addLaw 33 = .ok (.getfield 44, 3) := by decide +kernel
theorem dX10_addLaw_36 : decode cX10_addLaw 36 = .ok (.iload_n 2, 1) := by decide +kernel
theorem dX10_addLaw_37 : decode cX10_addLaw 37 = .ok (.iastore, 1) := by decide +kernel
theorem dX10_addLaw_38 : decode cX10_addLaw 38 = .ok (.aload_n 0, 1) := by decide +kernel
theorem dX10_addLaw_39 : decode cX10_addLaw 39 = .ok (.getfield 18, 3) := by decide +kernel
theorem dX10_addLaw_42 : decode cX10_addLaw 42 = .ok (.aload_n 0, 1) := by decide +kernel
theorem dX10_addLaw_43 : decode cX10_addLaw 43 = .ok (.getfield 44, 3) := by decide +kernel
theorem dX10_addLaw_46 : decode cX10_addLaw 46 = .ok (.iload_n 3, 1) := by decide +kernel
theorem dX10_addLaw_47 : decode cX10_addLaw 47 = .ok (.iastore, 1) := by decide +kernel
theorem dX10_addLaw_48 : decode cX10_addLaw 48 = .ok (.aload_n 0, 1) := by decide +kernel
theorem dX10_addLaw_49 : decode cX10_addLaw 49 = .ok (.getfield 21, 3) := by decide +kernel
theorem dX10_addLaw_52 : decode cX10_addLaw 52 = .ok (.aload_n 0, 1) := by decide +kernel
theorem dX10_addLaw_53 : decode cX10_addLaw 53 = .ok (.getfield 44, 3) := by decide +kernel
theorem dX10_addLaw_56 : decode cX10_addLaw 56 = .ok (.iload 4, 2) := by decide +kernel
theorem dX10_addLaw_58 : decode cX10_addLaw 58 = .ok (.iastore, 1) := by decide +kernel
theorem dX10_addLaw_59 : decode cX10_addLaw 59 = .ok (.aload_n 0, 1) := by decide +kernel
theorem dX10_addLaw_60 : decode cX10_addLaw 60 = .ok (.dup, 1) := by decide +kernel
theorem dX10_addLaw_61 : decode cX10_addLaw 61 = .ok (.getfield 44, 3) := by decide +kernel
theorem dX10_addLaw_64 : decode cX10_addLaw 64 = .ok (.iconst 1, 1) := by decide +kernel
theorem dX10_addLaw_65 : decode cX10_addLaw 65 = .ok (.iadd, 1) := by decide +kernel
theorem dX10_addLaw_66 : decode cX10_addLaw 66 = .ok (.putfield 44, 3) := by decide +kernel
theorem dX10_addLaw_69 : decode cX10_addLaw 69 = .ok (.aload_n 0, 1) := by decide +kernel
theorem dX10_addLaw_70 : decode cX10_addLaw 70 = .ok (.invokevirtual 56, 3) := by decide +kernel
theorem dX10_addLaw_73 : decode cX10_addLaw 73 = .ok (.aload_n 0, 1) := by decide +kernel
theorem dX10_addLaw_74 : decode cX10_addLaw 74 = .ok (.getfield 44, 3) := by decide +kernel
theorem dX10_addLaw_77 : decode cX10_addLaw 77 = .ok (.iconst 1, 1) := by decide +kernel
theorem dX10_addLaw_78 : decode cX10_addLaw 78 = .ok (.isub, 1) := by decide +kernel
theorem dX10_addLaw_79 : decode cX10_addLaw 79 = .ok (.ireturn, 1) := by decide +kernel
theorem dX11_law_0 : decode cX11_law 0 = .ok (.iload_n 1, 1) := by decide +kernel
theorem dX11_law_1 : decode cX11_law 1 = .ok (.bipush 9, 2) := by decide +kernel
theorem dX11_law_3 : decode cX11_law 3 = .ok (.invokestatic 102, 3) := by decide +kernel
theorem dX11_law_6 : decode cX11_law 6 = .ok (.ifCond .eq 37, 3) := by decide +kernel
theorem dX11_law_9 : decode cX11_law 9 = .ok (.iload_n 2, 1) := by decide +kernel
theorem dX11_law_10 : decode cX11_law 10 = .ok (.sipush 255, 3) := by decide +kernel
theorem dX11_law_13 : decode cX11_law 13 = .ok (.invokestatic 102, 3) := by decide +kernel
theorem dX11_law_16 : decode cX11_law 16 = .ok (.ifCond .eq 27, 3) := by decide +kernel
theorem dX11_law_19 : decode cX11_law 19 = .ok (.iload_n 3, 1) := by decide +kernel
theorem dX11_law_20 : decode cX11_law 20 = .ok (.sipush 255, 3) := by decide +kernel
theorem dX11_law_23 : decode cX11_law 23 = .ok (.invokestatic 102, 3) := by decide +kernel
theorem dX11_law_26 : decode cX11_law 26 = .ok (.ifCond .eq 17, 3) := by decide +kernel
theorem dX11_law_29 : decode cX11_law 29 = .ok (.iload 4, 2) := by decide +kernel
theorem dX11_law_31 : decode cX11_law 31 = .ok (.bipush 15, 2) := by decide +kernel
theorem dX11_law_33 : decode cX11_law 33 = .ok (.invokestatic 102, 3) := by decide +kernel
theorem dX11_law_36 : decode cX11_law 36 = .ok (.ifCond .eq 7, 3) := by decide +kernel
theorem dX11_law_39 : decode cX11_law 39 = .ok (.iconst 1, 1) := by decide +kernel
theorem dX11_law_40 : decode cX11_law 40 = .ok (.goto 4, 3) := by decide +kernel
theorem dX11_law_43 : decode cX11_law 43 = .ok (.iconst 0, 1) := by decide +kernel
theorem dX11_law_44 : decode cX11_law 44 = .ok (.istore 5, 2) := by decide +kernel
theorem dX11_law_46 : decode cX11_law 46 = .ok (.iload 5, 2) := by decide +kernel
theorem dX11_law_48 : decode cX11_law 48 = .ok (.ifCond .eq 15, 3) := by decide +kernel
theorem dX11_law_51 : decode cX11_law 51 = .ok (.aload_n 0, 1) := by decide +kernel
theorem dX11_law_52 : decode cX11_law 52 = .ok (.getfield 42, 3) := by decide +kernel
theorem dX11_law_55 : decode cX11_law 55 = .ok (.invokevirtual 106, 3) := by decide +kernel
theorem dX11_law_58 : decode cX11_law 58 = .ok (.bipush 8, 2) := by decide +kernel
theorem dX11_law_60 : decode cX11_law 60 = .ok (.if_icmp .lt 5, 3) := by decide +kernel
theorem dX11_law_63 : decode cX11_law 63 = .ok (.iconst (-1), 1) := by decide +kernel
theorem dX11_law_64 : decode cX11_law 64 = .ok (.ireturn, 1) := by decide +kernel
theorem dX11_law_65 : decode cX11_law 65 = .ok (.aload_n 0, 1) := by decide +kernel
theorem dX11_law_66 : decode cX11_law 66 = .ok (.dup, 1) := by decide +kernel
theorem dX11_law_67 : decode cX11_law 67 = .ok (.getfield 110, 3) := by decide +kernel
theorem dX11_law_70 : decode cX11_law 70 = .ok (.iconst 1, 1) := by decide +kernel
theorem dX11_law_71 : decode cX11_law 71 = .ok (.iadd, 1) := by decide +kernel
theorem dX11_law_72 : decode cX11_law 72 = .ok (.putfield 110, 3) := by decide +kernel
theorem dX11_law_75 : decode cX11_law 75 = .ok (.aload_n 0, 1) := by decide +kernel
theorem dX11_law_76 : decode cX11_law 76 = .ok (.getfield 42, 3) := by decide +kernel
theorem dX11_law_79 : decode cX11_law 79 = .ok (.iload_n 1, 1) := by decide +kernel
theorem dX11_law_80 : decode cX11_law 80 = .ok (.iload_n 2, 1) := by decide +kernel
theorem dX11_law_81 : decode cX11_law 81 = .ok (.iload_n 3, 1) := by decide +kernel
theorem dX11_law_82 : decode cX11_law 82 = .ok (.iload 4, 2) := by decide +kernel
theorem dX11_law_84 : decode cX11_law 84 = .ok (.invokevirtual 114, 3) := by decide +kernel
theorem dX11_law_87 : decode cX11_law 87 = .ok (.ireturn, 1) := by decide +kernel
theorem dX6_bareOf_0 : decode cX6_bareOf 0 = .ok (.iload_n 0, 1) := by decide +kernel
theorem dX6_bareOf_1 : decode cX6_bareOf 1 = .ok (.ifCond .lt 11, 3) := by decide +kernel
theorem dX6_bareOf_4 : decode cX6_bareOf 4 = .ok (.iload_n 0, 1) := by decide +kernel
theorem dX6_bareOf_5 : decode cX6_bareOf 5 = .ok (.getstatic 35, 3) := by decide +kernel
theorem dX6_bareOf_8 : decode cX6_bareOf 8 = .ok (.arraylength, 1) := by decide +kernel
theorem dX6_bareOf_9 : decode cX6_bareOf 9 = .ok (.if_icmp .lt 9, 3) := by decide +kernel
theorem dX6_bareOf_12 : decode cX6_bareOf 12 = .ok (.sipush 5348, 3) := by decide +kernel
theorem dX6_bareOf_15 : decode cX6_bareOf 15 = .ok (.goto 8, 3) := by decide +kernel
theorem dX6_bareOf_18 : decode cX6_bareOf 18 = .ok (.getstatic 35, 3) := by decide +kernel
theorem dX6_bareOf_21 : decode cX6_bareOf 21 = .ok (.iload_n 0, 1) := by decide +kernel
theorem dX6_bareOf_22 : decode cX6_bareOf 22 = .ok (.iaload, 1) := by decide +kernel
theorem dX6_bareOf_23 : decode cX6_bareOf 23 = .ok (.ireturn, 1) := by decide +kernel
theorem dX11_length_0 : decode cX11_length 0 = .ok (.iload_n 1, 1) := by decide +kernel
theorem dX11_length_1 : decode cX11_length 1 = .ok (.iconst 1, 1) := by decide +kernel
theorem dX11_length_2 : decode cX11_length 2 = .ok (.if_icmp .lt 8, 3) := by decide +kernel
theorem dX11_length_5 : decode cX11_length 5 = .ok (.iload_n 1, 1) := by decide +kernel
theorem dX11_length_6 : decode cX11_length 6 = .ok (.iconst 4, 1) := by decide +kernel
theorem dX11_length_7 : decode cX11_length 7 = .ok (.if_icmp .le 5, 3) := by decide +kernel
theorem dX11_length_10 : decode cX11_length 10 = .ok (.iconst 0, 1) := by decide +kernel
theorem dX11_length_11 : decode cX11_length 11 = .ok (.ireturn, 1) := by decide +kernel
theorem dX11_length_12 : decode cX11_length 12 = .ok (.aload_n 0, 1) := by decide +kernel
theorem dX11_length_13 : decode cX11_length 13 = .ok (.getfield 88, 3) := by decide +kernel
theorem dX11_length_16 : decode cX11_length 16 = .ok (.iload_n 1, 1) := by decide +kernel
theorem dX11_length_17 : decode cX11_length 17 = .ok (.invokestatic 118, 3) := by decide +kernel
theorem dX11_length_20 : decode cX11_length 20 = .ok (.putfield 122, 3) := by decide +kernel
theorem dX11_length_23 : decode cX11_length 23 = .ok (.aload_n 0, 1) := by decide +kernel
theorem dX11_length_24 : decode cX11_length 24 = .ok (.iconst 0, 1) := by decide +kernel
theorem dX11_length_25 : decode cX11_length 25 = .ok (.putfield 125, 3) := by decide +kernel
theorem dX11_length_28 : decode cX11_length 28 = .ok (.iconst 1, 1) := by decide +kernel
theorem dX11_length_29 : decode cX11_length 29 = .ok (.ireturn, 1) := by decide +kernel
theorem dX9_size_0 : decode cX9_size 0 = .ok (.aload_n 0, 1) := by decide +kernel
theorem dX9_size_1 : decode cX9_size 1 = .ok (.getfield 15, 3) := by decide +kernel
theorem dX9_size_4 : decode cX9_size 4 = .ok (.ireturn, 1) := by decide +kernel
theorem dX9_byteOn_0 : decode cX9_byteOn 0 = .ok (.iload_n 1, 1) := by decide +kernel
theorem dX9_byteOn_1 : decode cX9_byteOn 1 = .ok (.ifCond .lt 27, 3) := by decide +kernel
theorem dX9_byteOn_4 : decode cX9_byteOn 4 = .ok (.iload_n 1, 1) := by decide +kernel
theorem dX9_byteOn_5 : decode cX9_byteOn 5 = .ok (.aload_n 0, 1) := by decide +kernel
theorem dX9_byteOn_6 : decode cX9_byteOn 6 = .ok (.getfield 15, 3) := by decide +kernel
theorem dX9_byteOn_9 : decode cX9_byteOn 9 = .ok (.if_icmp .ge 19, 3) := by decide +kernel
theorem dX9_byteOn_12 : decode cX9_byteOn 12 = .ok (.iload_n 1, 1) := by decide +kernel
theorem dX9_byteOn_13 : decode cX9_byteOn 13 = .ok (.sipush 220, 3) := by decide +kernel
theorem dX9_byteOn_16 : decode cX9_byteOn 16 = .ok (.if_icmp .ge 12, 3) := by decide +kernel
theorem dX9_byteOn_19 : decode cX9_byteOn 19 = .ok (.aload_n 0, 1) := by decide +kernel
theorem dX9_byteOn_20 : decode cX9_byteOn 20 = .ok (.getfield 11, 3) := by decide +kernel
theorem dX9_byteOn_23 : decode cX9_byteOn 23 = .ok (.iload_n 1, 1) := by decide +kernel
theorem dX9_byteOn_24 : decode cX9_byteOn 24 = .ok (.iaload, 1) := by decide +kernel
theorem dX9_byteOn_25 : decode cX9_byteOn 25 = .ok (.goto 4, 3) := by decide +kernel
theorem dX9_byteOn_28 : decode cX9_byteOn 28 = .ok (.iconst (-1), 1) := by decide +kernel
theorem dX9_byteOn_29 : decode cX9_byteOn 29 = .ok (.ireturn, 1) := by decide +kernel
theorem dX11_isPerson_0 : decode cX11_isPerson 0 = .ok (.iload_n 0, 1) := by decide +kernel
theorem dX11_isPerson_1 : decode cX11_isPerson 1 = .ok (.ifCond .lt 12, 3) := by decide +kernel
theorem dX11_isPerson_4 : decode cX11_isPerson 4 = .ok (.iload_n 0, 1) := by decide +kernel
theorem dX11_isPerson_5 : decode cX11_isPerson 5 = .ok (.iconst 4, 1) := by decide +kernel
theorem dX11_isPerson_6 : decode cX11_isPerson 6 = .ok (.if_icmp .ge 7, 3) := by decide +kernel
theorem dX11_isPerson_9 : decode cX11_isPerson 9 = .ok (.iconst 1, 1) := by decide +kernel
theorem dX11_isPerson_10 : decode cX11_isPerson 10 = .ok (.goto 4, 3) := by decide +kernel
theorem dX11_isPerson_13 : decode cX11_isPerson 13 = .ok (.iconst 0, 1) := by decide +kernel
theorem dX11_isPerson_14 : decode cX11_isPerson 14 = .ok (.ireturn, 1) := by decide +kernel
theorem dX2_takeRota_0 : decode cX2_takeRota 0 = .ok (.iconst 0, 1) := by decide +kernel
theorem dX2_takeRota_1 : decode cX2_takeRota 1 = .ok (.istore_n 3, 1) := by decide +kernel
theorem dX2_takeRota_2 : decode cX2_takeRota 2 = .ok (.iload_n 3, 1) := by decide +kernel
theorem dX2_takeRota_3 : decode cX2_takeRota 3 = .ok (.iload_n 2, 1) := by decide +kernel
theorem dX2_takeRota_4 : decode cX2_takeRota 4 = .ok (.if_icmp .ge 22, 3) := by decide +kernel
theorem dX2_takeRota_7 : decode cX2_takeRota 7 = .ok (.aload_n 1, 1) := by decide +kernel
theorem dX2_takeRota_8 : decode cX2_takeRota 8 = .ok (.iload_n 3, 1) := by decide +kernel
theorem dX2_takeRota_9 : decode cX2_takeRota 9 = .ok (.invokevirtual 37, 3) := by decide +kernel
theorem dX2_takeRota_12 : decode cX2_takeRota 12 = .ok (.invokestatic 33, 3) := by decide +kernel
theorem dX2_takeRota_15 : decode cX2_takeRota 15 = .ok (.ifCond .ne 5, 3) := by decide +kernel
theorem dX2_takeRota_18 : decode cX2_takeRota 18 = .ok (.iconst 0, 1) := by decide +kernel
theorem dX2_takeRota_19 : decode cX2_takeRota 19 = .ok (.ireturn, 1) := by decide +kernel
theorem dX2_takeRota_20 : decode cX2_takeRota 20 = .ok (.iinc 3 1, 3) := by decide +kernel
theorem dX2_takeRota_23 : decode cX2_takeRota 23 = .ok (.goto (-21), 3) := by decide +kernel
theorem dX2_takeRota_26 : decode cX2_takeRota 26 = .ok (.iconst 0, 1) := by decide +kernel
theorem dX2_takeRota_27 : decode cX2_takeRota 27 = .ok (.istore_n 3, 1) := by decide +kernel
theorem dX2_takeRota_28 : decode cX2_takeRota 28 = .ok (.iload_n 3, 1) := by decide +kernel
theorem dX2_takeRota_29 : decode cX2_takeRota 29 = .ok (.iload_n 2, 1) := by decide +kernel
theorem dX2_takeRota_30 : decode cX2_takeRota 30 = .ok (.if_icmp .ge 25, 3) := by decide +kernel
theorem dX2_takeRota_33 : decode cX2_takeRota 33 = .ok (.iload_n 3, 1) := by decide +kernel
theorem dX2_takeRota_34 : decode cX2_takeRota 34 = .ok (.iconst 4, 1) := by decide +kernel
theorem dX2_takeRota_35 : decode cX2_takeRota 35 = .ok (.if_icmp .ge 20, 3) := by decide +kernel
theorem dX2_takeRota_38 : decode cX2_takeRota 38 = .ok (.aload_n 0, 1) := by decide +kernel
theorem dX2_takeRota_39 : decode cX2_takeRota 39 = .ok (.getfield 18, 3) := by decide +kernel
theorem dX2_takeRota_42 : decode cX2_takeRota 42 = .ok (.iload_n 3, 1) := by decide +kernel
theorem dX2_takeRota_43 : decode cX2_takeRota 43 = .ok (.aload_n 1, 1) := by decide +kernel
theorem dX2_takeRota_44 : decode cX2_takeRota 44 = .ok (.iload_n 3, 1) := by decide +kernel
theorem dX2_takeRota_45 : decode cX2_takeRota 45 = .ok (.invokevirtual 37, 3) := by decide +kernel
theorem dX2_takeRota_48 : decode cX2_takeRota 48 = .ok (.iastore, 1) := by decide +kernel
theorem dX2_takeRota_49 : decode cX2_takeRota 49 = .ok (.iinc 3 1, 3) := by decide +kernel
theorem dX2_takeRota_52 : decode cX2_takeRota 52 = .ok (.goto (-24), 3) := by decide +kernel
theorem dX2_takeRota_55 : decode cX2_takeRota 55 = .ok (.aload_n 0, 1) := by decide +kernel
theorem dX2_takeRota_56 : decode cX2_takeRota 56 = .ok (.iload_n 2, 1) := by decide +kernel
theorem dX2_takeRota_57 : decode cX2_takeRota 57 = .ok (.putfield 21, 3) := by decide +kernel
theorem dX2_takeRota_60 : decode cX2_takeRota 60 = .ok (.iconst 1, 1) := by decide +kernel
theorem dX2_takeRota_61 : decode cX2_takeRota 61 = .ok (.ireturn, 1) := by decide +kernel
theorem dX9_clear_0 : decode cX9_clear 0 = .ok (.aload_n 0, 1) := by decide +kernel
theorem dX9_clear_1 : decode cX9_clear 1 = .ok (.iconst 0, 1) := by decide +kernel
theorem dX9_clear_2 : decode cX9_clear 2 = .ok (.putfield 15, 3) := by decide +kernel
theorem dX9_clear_5 : decode cX9_clear 5 = .ok (.return_, 1) := by decide +kernel
theorem dX11_rota_0 : decode cX11_rota 0 = .ok (.iload_n 1, 1) := by decide +kernel
theorem dX11_rota_1 : decode cX11_rota 1 = .ok (.iconst 1, 1) := by decide +kernel
theorem dX11_rota_2 : decode cX11_rota 2 = .ok (.if_icmp .lt 19, 3) := by decide +kernel
theorem dX11_rota_5 : decode cX11_rota 5 = .ok (.iload_n 1, 1) := by decide +kernel
theorem dX11_rota_6 : decode cX11_rota 6 = .ok (.iconst 4, 1) := by decide +kernel
theorem dX11_rota_7 : decode cX11_rota 7 = .ok (.if_icmp .gt 14, 3) := by decide +kernel
theorem dX11_rota_10 : decode cX11_rota 10 = .ok (.iload_n 1, 1) := by decide +kernel
theorem dX11_rota_11 : decode cX11_rota 11 = .ok (.aload_n 0, 1) := by decide +kernel
theorem dX11_rota_12 : decode cX11_rota 12 = .ok (.getfield 10, 3) := by decide +kernel
theorem dX11_rota_15 : decode cX11_rota 15 = .ok (.invokevirtual 129, 3) := by decide +kernel
theorem dX11_rota_18 : decode cX11_rota 18 = .ok (.if_icmp .le 5, 3) := by decide +kernel
theorem dX11_rota_21 : decode cX11_rota 21 = .ok (.iconst 0, 1) := by decide +kernel
theorem dX11_rota_22 : decode cX11_rota 22 = .ok (.ireturn, 1) := by decide +kernel
theorem dX11_rota_23 : decode cX11_rota 23 = .ok (.aload_n 0, 1) := by decide +kernel
theorem dX11_rota_24 : decode cX11_rota 24 = .ok (.getfield 51, 3) := by decide +kernel
theorem dX11_rota_27 : decode cX11_rota 27 = .ok (.aload_n 0, 1) := by decide +kernel
theorem dX11_rota_28 : decode cX11_rota 28 = .ok (.getfield 10, 3) := by decide +kernel
theorem dX11_rota_31 : decode cX11_rota 31 = .ok (.iload_n 1, 1) := by decide +kernel
theorem dX11_rota_32 : decode cX11_rota 32 = .ok (.invokevirtual 132, 3) := by decide +kernel
theorem dX11_rota_35 : decode cX11_rota 35 = .ok (.istore_n 2, 1) := by decide +kernel
theorem dX11_rota_36 : decode cX11_rota 36 = .ok (.aload_n 0, 1) := by decide +kernel
theorem dX11_rota_37 : decode cX11_rota 37 = .ok (.getfield 10, 3) := by decide +kernel
theorem dX11_rota_40 : decode cX11_rota 40 = .ok (.invokevirtual 136, 3) := by decide +kernel
theorem dX11_rota_43 : decode cX11_rota 43 = .ok (.iload_n 2, 1) := by decide +kernel
theorem dX11_rota_44 : decode cX11_rota 44 = .ok (.ifCond .eq 26, 3) := by decide +kernel
theorem dX11_rota_47 : decode cX11_rota 47 = .ok (.aload_n 0, 1) := by decide +kernel
theorem dX11_rota_48 : decode cX11_rota 48 = .ok (.getfield 88, 3) := by decide +kernel
theorem dX11_rota_51 : decode cX11_rota 51 = .ok (.iconst 0, 1) := by decide +kernel
theorem dX11_rota_52 : decode cX11_rota 52 = .ok (.putfield 139, 3) := by decide +kernel
theorem dX11_rota_55 : decode cX11_rota 55 = .ok (.aload_n 0, 1) := by decide +kernel
theorem dX11_rota_56 : decode cX11_rota 56 = .ok (.iconst 0, 1) := by decide +kernel
theorem dX11_rota_57 : decode cX11_rota 57 = .ok (.putfield 125, 3) := by decide +kernel
theorem dX11_rota_60 : decode cX11_rota 60 = .ok (.aload_n 0, 1) := by decide +kernel
theorem dX11_rota_61 : decode cX11_rota 61 = .ok (.dup, 1) := by decide +kernel
theorem dX11_rota_62 : decode cX11_rota 62 = .ok (.getfield 110, 3) := by decide +kernel
theorem dX11_rota_65 : decode cX11_rota 65 = .ok (.iconst 1, 1) := by decide +kernel
theorem dX11_rota_66 : decode cX11_rota 66 = .ok (.iadd, 1) := by decide +kernel
theorem dX11_rota_67 : decode cX11_rota 67 = .ok (.putfield 110, 3) := by decide +kernel
theorem dX11_rota_70 : decode cX11_rota 70 = .ok (.iload_n 2, 1) := by decide +kernel
theorem dX11_rota_71 : decode cX11_rota 71 = .ok (.ireturn, 1) := by decide +kernel
theorem dX11_isLaw_0 : decode cX11_isLaw 0 = .ok (.iload_n 1, 1) := by decide +kernel
theorem dX11_isLaw_1 : decode cX11_isLaw 1 = .ok (.ifCond .lt 18, 3) := by decide +kernel
theorem dX11_isLaw_4 : decode cX11_isLaw 4 = .ok (.iload_n 1, 1) := by decide +kernel
theorem dX11_isLaw_5 : decode cX11_isLaw 5 = .ok (.aload_n 0, 1) := by decide +kernel
theorem dX11_isLaw_6 : decode cX11_isLaw 6 = .ok (.getfield 42, 3) := by decide +kernel
theorem dX11_isLaw_9 : decode cX11_isLaw 9 = .ok (.invokevirtual 106, 3) := by decide +kernel
theorem dX11_isLaw_12 : decode cX11_isLaw 12 = .ok (.if_icmp .ge 7, 3) := by decide +kernel
theorem dX11_isLaw_15 : decode cX11_isLaw 15 = .ok (.iconst 1, 1) := by decide +kernel
theorem dX11_isLaw_16 : decode cX11_isLaw 16 = .ok (.goto 4, 3) := by decide +kernel
theorem dX11_isLaw_19 : decode cX11_isLaw 19 = .ok (.iconst 0, 1) := by decide +kernel
theorem dX11_isLaw_20 : decode cX11_isLaw 20 = .ok (.ireturn, 1) := by decide +kernel
theorem dX2_setKind_0 : decode cX2_setKind 0 = .ok (.iload_n 1, 1) := by decide +kernel
theorem dX2_setKind_1 : decode cX2_setKind 1 = .ok (.invokestatic 33, 3) := by decide +kernel
theorem dX2_setKind_4 : decode cX2_setKind 4 = .ok (.ifCond .eq 17, 3) := by decide +kernel
theorem dX2_setKind_7 : decode cX2_setKind 7 = .ok (.aload_n 0, 1) := by decide +kernel
theorem dX2_setKind_8 : decode cX2_setKind 8 = .ok (.getfield 9, 3) := by decide +kernel
theorem dX2_setKind_11 : decode cX2_setKind 11 = .ok (.iload_n 1, 1) := by decide +kernel
theorem dX2_setKind_12 : decode cX2_setKind 12 = .ok (.iload_n 2, 1) := by decide +kernel
theorem dX2_setKind_13 : decode cX2_setKind 13 = .ok (.iastore, 1) := by decide +kernel
theorem dX2_setKind_14 : decode cX2_setKind 14 = .ok (.aload_n 0, 1) := by decide +kernel
theorem dX2_setKind_15 : decode cX2_setKind 15 = .ok (.getfield 15, 3) := by decide +kernel
theorem dX2_setKind_18 : decode cX2_setKind 18 = .ok (.iload_n 1, 1) := by decide +kernel
theorem dX2_setKind_19 : decode cX2_setKind 19 = .ok (.iload_n 3, 1) := by decide +kernel
theorem dX2_setKind_20 : decode cX2_setKind 20 = .ok (.iastore, 1) := by decide +kernel
theorem dX2_setKind_21 : decode cX2_setKind 21 = .ok (.return_, 1) := by decide +kernel
theorem dX11_kind_0 : decode cX11_kind 0 = .ok (.iload_n 1, 1) := by decide +kernel
theorem dX11_kind_1 : decode cX11_kind 1 = .ok (.invokestatic 142, 3) := by decide +kernel
theorem dX11_kind_4 : decode cX11_kind 4 = .ok (.ifCond .eq 24, 3) := by decide +kernel
theorem dX11_kind_7 : decode cX11_kind 7 = .ok (.iload_n 2, 1) := by decide +kernel
theorem dX11_kind_8 : decode cX11_kind 8 = .ok (.iconst 4, 1) := by decide +kernel
theorem dX11_kind_9 : decode cX11_kind 9 = .ok (.invokestatic 102, 3) := by decide +kernel
theorem dX11_kind_12 : decode cX11_kind 12 = .ok (.ifCond .eq 16, 3) := by decide +kernel
theorem dX11_kind_15 : decode cX11_kind 15 = .ok (.iload_n 2, 1) := by decide +kernel
theorem dX11_kind_16 : decode cX11_kind 16 = .ok (.iconst 4, 1) := by decide +kernel
theorem dX11_kind_17 : decode cX11_kind 17 = .ok (.if_icmp .ne 13, 3) := by decide +kernel
theorem dX11_kind_20 : decode cX11_kind 20 = .ok (.aload_n 0, 1) := by decide +kernel
theorem dX11_kind_21 : decode cX11_kind 21 = .ok (.iload_n 3, 1) := by decide +kernel
theorem dX11_kind_22 : decode cX11_kind 22 = .ok (.invokevirtual 146, 3) := by decide +kernel
theorem dX11_kind_25 : decode cX11_kind 25 = .ok (.ifCond .ne 5, 3) := by decide +kernel
theorem dX11_kind_28 : decode cX11_kind 28 = .ok (.iconst 0, 1) := by decide +kernel
theorem dX11_kind_29 : decode cX11_kind 29 = .ok (.ireturn, 1) := by decide +kernel
theorem dX11_kind_30 : decode cX11_kind 30 = .ok (.aload_n 0, 1) := by decide +kernel
theorem dX11_kind_31 : decode cX11_kind 31 = .ok (.getfield 51, 3) := by decide +kernel
theorem dX11_kind_34 : decode cX11_kind 34 = .ok (.iload_n 1, 1) := by decide +kernel
theorem dX11_kind_35 : decode cX11_kind 35 = .ok (.iload_n 2, 1) := by decide +kernel
theorem dX11_kind_36 : decode cX11_kind 36 = .ok (.iload_n 3, 1) := by decide +kernel
theorem dX11_kind_37 : decode cX11_kind 37 = .ok (.invokevirtual 149, 3) := by decide +kernel
theorem dX11_kind_40 : decode cX11_kind 40 = .ok (.aload_n 0, 1) := by decide +kernel
theorem dX11_kind_41 : decode cX11_kind 41 = .ok (.dup, 1) := by decide +kernel
theorem dX11_kind_42 : decode cX11_kind 42 = .ok (.getfield 110, 3) := by decide +kernel
theorem dX11_kind_45 : decode cX11_kind 45 = .ok (.iconst 1, 1) := by decide +kernel
theorem dX11_kind_46 : decode cX11_kind 46 = .ok (.iadd, 1) := by decide +kernel
theorem dX11_kind_47 : decode cX11_kind 47 = .ok (.putfield 110, 3) := by decide +kernel
theorem dX11_kind_50 : decode cX11_kind 50 = .ok (.iconst 1, 1) := by decide +kernel
theorem dX11_kind_51 : decode cX11_kind 51 = .ok (.ireturn, 1) := by decide +kernel
theorem dX9_hasRoom_0 : decode cX9_hasRoom 0 = .ok (.iload_n 1, 1) := by decide +kernel
theorem dX9_hasRoom_1 : decode cX9_hasRoom 1 = .ok (.sipush 220, 3) := by decide +kernel
theorem dX9_hasRoom_4 : decode cX9_hasRoom 4 = .ok (.aload_n 0, 1) := by decide +kernel
theorem dX9_hasRoom_5 : decode cX9_hasRoom 5 = .ok (.getfield 15, 3) := by decide +kernel
theorem dX9_hasRoom_8 : decode cX9_hasRoom 8 = .ok (.isub, 1) := by decide +kernel
theorem dX9_hasRoom_9 : decode cX9_hasRoom 9 = .ok (.if_icmp .gt 7, 3) := by decide +kernel
theorem dX9_hasRoom_12 : decode cX9_hasRoom 12 = .ok (.iconst 1, 1) := by decide +kernel
theorem dX9_hasRoom_13 : decode cX9_hasRoom 13 = .ok (.goto 4, 3) := by decide +kernel
theorem dX9_hasRoom_16 : decode cX9_hasRoom 16 = .ok (.iconst 0, 1) := by decide +kernel
theorem dX9_hasRoom_17 : decode cX9_hasRoom 17 = .ok (.ireturn, 1) := by decide +kernel
theorem dX9_put_0 : decode cX9_put 0 = .ok (.bipush 24, 2) := by decide +kernel
theorem dX9_put_2 : decode cX9_put 2 = .ok (.istore_n 2, 1) := by decide +kernel
theorem dX9_put_3 : decode cX9_put 3 = .ok (.iload_n 2, 1) := by decide +kernel
theorem dX9_put_4 : decode cX9_put 4 = .ok (.ifCond .lt 52, 3) := by decide +kernel
theorem dX9_put_7 : decode cX9_put 7 = .ok (.aload_n 0, 1) := by decide +kernel
theorem dX9_put_8 : decode cX9_put 8 = .ok (.getfield 15, 3) := by decide +kernel
theorem dX9_put_11 : decode cX9_put 11 = .ok (.ifCond .lt 39, 3) := by decide +kernel
theorem dX9_put_14 : decode cX9_put 14 = .ok (.aload_n 0, 1) := by decide +kernel
theorem dX9_put_15 : decode cX9_put 15 = .ok (.getfield 15, 3) := by decide +kernel
theorem dX9_put_18 : decode cX9_put 18 = .ok (.sipush 220, 3) := by decide +kernel
theorem dX9_put_21 : decode cX9_put 21 = .ok (.if_icmp .ge 29, 3) := by decide +kernel
theorem dX9_put_24 : decode cX9_put 24 = .ok (.aload_n 0, 1) := by decide +kernel
theorem dX9_put_25 : decode cX9_put 25 = .ok (.getfield 11, 3) := by decide +kernel
theorem dX9_put_28 : decode cX9_put 28 = .ok (.aload_n 0, 1) := by decide +kernel
theorem dX9_put_29 : decode cX9_put 29 = .ok (.getfield 15, 3) := by decide +kernel
theorem dX9_put_32 : decode cX9_put 32 = .ok (.iload_n 1, 1) := by decide +kernel
theorem dX9_put_33 : decode cX9_put 33 = .ok (.iload_n 2, 1) := by decide +kernel
theorem dX9_put_34 : decode cX9_put 34 = .ok (.ishr, 1) := by decide +kernel
theorem dX9_put_35 : decode cX9_put 35 = .ok (.sipush 255, 3) := by decide +kernel
theorem dX9_put_38 : decode cX9_put 38 = .ok (.iand, 1) := by decide +kernel
theorem dX9_put_39 : decode cX9_put 39 = .ok (.iastore, 1) := by decide +kernel
theorem dX9_put_40 : decode cX9_put 40 = .ok (.aload_n 0, 1) := by decide +kernel
theorem dX9_put_41 : decode cX9_put 41 = .ok (.dup, 1) := by decide +kernel
theorem dX9_put_42 : decode cX9_put 42 = .ok (.getfield 15, 3) := by decide +kernel
theorem dX9_put_45 : decode cX9_put 45 = .ok (.iconst 1, 1) := by decide +kernel
theorem dX9_put_46 : decode cX9_put 46 = .ok (.iadd, 1) := by decide +kernel
theorem dX9_put_47 : decode cX9_put 47 = .ok (.putfield 15, 3) := by decide +kernel
theorem dX9_put_50 : decode cX9_put 50 = .ok (.iinc 2 (-8), 3) := by decide +kernel
theorem dX9_put_53 : decode cX9_put 53 = .ok (.goto (-50), 3) := by decide +kernel
theorem dX9_put_56 : decode cX9_put 56 = .ok (.return_, 1) := by decide +kernel
theorem dX11_feed_0 : decode cX11_feed 0 = .ok (.aload_n 0, 1) := by decide +kernel
theorem dX11_feed_1 : decode cX11_feed 1 = .ok (.getfield 10, 3) := by decide +kernel
theorem dX11_feed_4 : decode cX11_feed 4 = .ok (.bipush 20, 2) := by decide +kernel
theorem dX11_feed_6 : decode cX11_feed 6 = .ok (.invokevirtual 153, 3) := by decide +kernel
theorem dX11_feed_9 : decode cX11_feed 9 = .ok (.ifCond .ne 5, 3) := by decide +kernel
theorem dX11_feed_12 : decode cX11_feed 12 = .ok (.iconst (-1), 1) := by decide +kernel
theorem dX11_feed_13 : decode cX11_feed 13 = .ok (.ireturn, 1) := by decide +kernel
theorem dX11_feed_14 : decode cX11_feed 14 = .ok (.aload_n 0, 1) := by decide +kernel
theorem dX11_feed_15 : decode cX11_feed 15 = .ok (.getfield 10, 3) := by decide +kernel
theorem dX11_feed_18 : decode cX11_feed 18 = .ok (.iload_n 1, 1) := by decide +kernel
theorem dX11_feed_19 : decode cX11_feed 19 = .ok (.invokevirtual 156, 3) := by decide +kernel
theorem dX11_feed_22 : decode cX11_feed 22 = .ok (.aload_n 0, 1) := by decide +kernel
theorem dX11_feed_23 : decode cX11_feed 23 = .ok (.getfield 10, 3) := by decide +kernel
theorem dX11_feed_26 : decode cX11_feed 26 = .ok (.iload_n 2, 1) := by decide +kernel
theorem dX11_feed_27 : decode cX11_feed 27 = .ok (.invokevirtual 156, 3) := by decide +kernel
theorem dX11_feed_30 : decode cX11_feed 30 = .ok (.aload_n 0, 1) := by decide +kernel
theorem dX11_feed_31 : decode cX11_feed 31 = .ok (.getfield 10, 3) := by decide +kernel
theorem dX11_feed_34 : decode cX11_feed 34 = .ok (.iload_n 3, 1) := by decide +kernel
theorem dX11_feed_35 : decode cX11_feed 35 = .ok (.invokevirtual 156, 3) := by decide +kernel
theorem dX11_feed_38 : decode cX11_feed 38 = .ok (.aload_n 0, 1) := by decide +kernel
theorem dX11_feed_39 : decode cX11_feed 39 = .ok (.getfield 10, 3) := by decide +kernel
theorem dX11_feed_42 : decode cX11_feed 42 = .ok (.iload 4, 2) := by decide +kernel
theorem dX11_feed_44 : decode cX11_feed 44 = .ok (.invokevirtual 156, 3) := by decide +kernel
theorem dX11_feed_47 : decode cX11_feed 47 = .ok (.aload_n 0, 1) := by decide +kernel
theorem dX11_feed_48 : decode cX11_feed 48 = .ok (.getfield 10, 3) := by decide +kernel
theorem dX11_feed_51 : decode cX11_feed 51 = .ok (.iload 5, 2) := by decide +kernel
theorem dX11_feed_53 : decode cX11_feed 53 = .ok (.invokevirtual 156, 3) := by decide +kernel
theorem dX11_feed_56 : decode cX11_feed 56 = .ok (.aload_n 0, 1) := by decide +kernel
theorem dX11_feed_57 : decode cX11_feed 57 = .ok (.getfield 10, 3) := by decide +kernel
theorem dX11_feed_60 : decode cX11_feed 60 = .ok (.invokevirtual 129, 3) := by decide +kernel
theorem dX11_feed_63 : decode cX11_feed 63 = .ok (.ireturn, 1) := by decide +kernel
theorem dX1_clear_0 : decode cX1_clear 0 = .ok (.aload_n 0, 1) := by decide +kernel
theorem dX1_clear_1 : decode cX1_clear 1 = .ok (.iconst 0, 1) := by decide +kernel
theorem dX1_clear_2 : decode cX1_clear 2 = .ok (.putfield 37, 3) := by decide +kernel
theorem dX1_clear_5 : decode cX1_clear 5 = .ok (.aload_n 0, 1) := by decide +kernel
theorem dX1_clear_6 : decode cX1_clear 6 = .ok (.iconst 0, 1) := by decide +kernel
theorem dX1_clear_7 : decode cX1_clear 7 = .ok (.putfield 33, 3) := by decide +kernel
theorem dX1_clear_10 : decode cX1_clear 10 = .ok (.return_, 1) := by decide +kernel
theorem dX4_sign_0 : decode cX4_sign 0 = .ok (.aload_n 0, 1) := by decide +kernel
theorem dX4_sign_1 : decode cX4_sign 1 = .ok (.getfield 35, 3) := by decide +kernel
theorem dX4_sign_4 : decode cX4_sign 4 = .ok (.ifCond .lt 36, 3) := by decide +kernel
theorem dX4_sign_7 : decode cX4_sign 7 = .ok (.aload_n 0, 1) := by decide +kernel
theorem dX4_sign_8 : decode cX4_sign 8 = .ok (.getfield 35, 3) := by decide +kernel
theorem dX4_sign_11 : decode cX4_sign 11 = .ok (.aload_n 0, 1) := by decide +kernel
theorem dX4_sign_12 : decode cX4_sign 12 = .ok (.getfield 31, 3) := by decide +kernel
theorem dX4_sign_15 : decode cX4_sign 15 = .ok (.if_icmp .ge 25, 3) := by decide +kernel
theorem dX4_sign_18 : decode cX4_sign 18 = .ok (.aload_n 0, 1) := by decide +kernel
theorem dX4_sign_19 : decode cX4_sign 19 = .ok (.getfield 35, 3) := by decide +kernel
theorem dX4_sign_22 : decode cX4_sign 22 = .ok (.sipush 200, 3) := by decide +kernel
theorem dX4_sign_25 : decode cX4_sign 25 = .ok (.if_icmp .ge 15, 3) := by decide +kernel
theorem dX4_sign_28 : decode cX4_sign 28 = .ok (.aload_n 0, 1) := by decide +kernel
theorem dX4_sign_29 : decode cX4_sign 29 = .ok (.getfield 9, 3) := by decide +kernel
theorem dX4_sign_32 : decode cX4_sign 32 = .ok (.aload_n 0, 1) := by decide +kernel
theorem dX4_sign_33 : decode cX4_sign 33 = .ok (.getfield 35, 3) := by decide +kernel
theorem dX4_sign_36 : decode cX4_sign 36 = .ok (.iaload, 1) := by decide +kernel
theorem dX4_sign_37 : decode cX4_sign 37 = .ok (.goto 4, 3) := by decide +kernel
theorem dX4_sign_40 : decode cX4_sign 40 = .ok (.iconst (-1), 1) := by decide +kernel
theorem dX4_sign_41 : decode cX4_sign 41 = .ok (.ireturn, 1) := by decide +kernel
theorem dX4_stop_0 : decode cX4_stop 0 = .ok (.aload_n 0, 1) := by decide +kernel
theorem dX4_stop_1 : decode cX4_stop 1 = .ok (.getfield 38, 3) := by decide +kernel
theorem dX4_stop_4 : decode cX4_stop 4 = .ok (.ifCond .ne 17, 3) := by decide +kernel
theorem dX4_stop_7 : decode cX4_stop 7 = .ok (.aload_n 0, 1) := by decide +kernel
theorem dX4_stop_8 : decode cX4_stop 8 = .ok (.sipush (-1000), 3) := by decide +kernel
theorem dX4_stop_11 : decode cX4_stop 11 = .ok (.iload_n 1, 1) := by decide +kernel
theorem dX4_stop_12 : decode cX4_stop 12 = .ok (.imul, 1) := by decide +kernel
theorem dX4_stop_13 : decode cX4_stop 13 = .ok (.aload_n 0, 1) := by decide +kernel
theorem dX4_stop_14 : decode cX4_stop 14 = .ok (.getfield 35, 3) := by decide +kernel
theorem dX4_stop_17 : decode cX4_stop 17 = .ok (.isub, 1) := by decide +kernel
theorem dX4_stop_18 : decode cX4_stop 18 = .ok (.putfield 38, 3) := by decide +kernel
theorem dX4_stop_21 : decode cX4_stop 21 = .ok (.return_, 1) := by decide +kernel
theorem dX1_stepCount_0 : decode cX1_stepCount 0 = .ok (.aload_n 0, 1) := by decide +kernel
theorem dX1_stepCount_1 : decode cX1_stepCount 1 = .ok (.getfield 37, 3) := by decide +kernel
theorem dX1_stepCount_4 : decode cX1_stepCount 4 = .ok (.ireturn, 1) := by decide +kernel
theorem dX4_opens_0 : decode cX4_opens 0 = .ok (.iload_n 1, 1) := by decide +kernel
theorem dX4_opens_1 : decode cX4_opens 1 = .ok (.bipush 6, 2) := by decide +kernel
theorem dX4_opens_3 : decode cX4_opens 3 = .ok (.if_icmp .lt 10, 3) := by decide +kernel
theorem dX4_opens_6 : decode cX4_opens 6 = .ok (.aload_n 0, 1) := by decide +kernel
theorem dX4_opens_7 : decode cX4_opens 7 = .ok (.iconst 5, 1) := by decide +kernel
theorem dX4_opens_8 : decode cX4_opens 8 = .ok (.invokevirtual 64, 3) := by decide +kernel
theorem dX4_opens_11 : decode cX4_opens 11 = .ok (.iconst 0, 1) := by decide +kernel
theorem dX4_opens_12 : decode cX4_opens 12 = .ok (.ireturn, 1) := by decide +kernel
theorem dX4_opens_13 : decode cX4_opens 13 = .ok (.aload_n 0, 1) := by decide +kernel
theorem dX4_opens_14 : decode cX4_opens 14 = .ok (.dup, 1) := by decide +kernel
theorem dX4_opens_15 : decode cX4_opens 15 = .ok (.getfield 35, 3) := by decide +kernel
theorem dX4_opens_18 : decode cX4_opens 18 = .ok (.iconst 1, 1) := by decide +kernel
theorem dX4_opens_19 : decode cX4_opens 19 = .ok (.iadd, 1) := by decide +kernel
theorem dX4_opens_20 : decode cX4_opens 20 = .ok (.putfield 35, 3) := by decide +kernel
theorem dX4_opens_23 : decode cX4_opens 23 = .ok (.iconst 1, 1) := by decide +kernel
theorem dX4_opens_24 : decode cX4_opens 24 = .ok (.ireturn, 1) := by decide +kernel
theorem dX4_take_0 : decode cX4_take 0 = .ok (.aload_n 0, 1) := by decide +kernel
theorem dX4_take_1 : decode cX4_take 1 = .ok (.getfield 38, 3) := by decide +kernel
theorem dX4_take_4 : decode cX4_take 4 = .ok (.ifCond .ne 24, 3) := by decide +kernel
theorem dX4_take_7 : decode cX4_take 7 = .ok (.aload_n 0, 1) := by decide +kernel
theorem dX4_take_8 : decode cX4_take 8 = .ok (.invokevirtual 61, 3) := by decide +kernel
theorem dX4_take_11 : decode cX4_take 11 = .ok (.iload_n 1, 1) := by decide +kernel
theorem dX4_take_12 : decode cX4_take 12 = .ok (.if_icmp .ne 16, 3) := by decide +kernel
theorem dX4_take_15 : decode cX4_take 15 = .ok (.aload_n 0, 1) := by decide +kernel
theorem dX4_take_16 : decode cX4_take 16 = .ok (.dup, 1) := by decide +kernel
theorem dX4_take_17 : decode cX4_take 17 = .ok (.getfield 35, 3) := by decide +kernel
theorem dX4_take_20 : decode cX4_take 20 = .ok (.iconst 1, 1) := by decide +kernel
theorem dX4_take_21 : decode cX4_take 21 = .ok (.iadd, 1) := by decide +kernel
theorem dX4_take_22 : decode cX4_take 22 = .ok (.putfield 35, 3) := by decide +kernel
theorem dX4_take_25 : decode cX4_take 25 = .ok (.goto 8, 3) := by decide +kernel
theorem dX4_take_28 : decode cX4_take 28 = .ok (.aload_n 0, 1) := by decide +kernel
theorem dX4_take_29 : decode cX4_take 29 = .ok (.iconst 1, 1) := by decide +kernel
theorem dX4_take_30 : decode cX4_take 30 = .ok (.invokevirtual 64, 3) := by decide +kernel
theorem dX4_take_33 : decode cX4_take 33 = .ok (.return_, 1) := by decide +kernel
theorem dX4_isDigit_0 : decode cX4_isDigit 0 = .ok (.iload_n 0, 1) := by decide +kernel
theorem dX4_isDigit_1 : decode cX4_isDigit 1 = .ok (.bipush 48, 2) := by decide +kernel
theorem dX4_isDigit_3 : decode cX4_isDigit 3 = .ok (.if_icmp .lt 13, 3) := by decide +kernel
theorem dX4_isDigit_6 : decode cX4_isDigit 6 = .ok (.iload_n 0, 1) := by decide +kernel
theorem dX4_isDigit_7 : decode cX4_isDigit 7 = .ok (.bipush 57, 2) := by decide +kernel
theorem dX4_isDigit_9 : decode cX4_isDigit 9 = .ok (.if_icmp .gt 7, 3) := by decide +kernel
theorem dX4_isDigit_12 : decode cX4_isDigit 12 = .ok (.iconst 1, 1) := by decide +kernel
theorem dX4_isDigit_13 : decode cX4_isDigit 13 = .ok (.goto 4, 3) := by decide +kernel
theorem dX4_isDigit_16 : decode cX4_isDigit 16 = .ok (.iconst 0, 1) := by decide +kernel
theorem dX4_isDigit_17 : decode cX4_isDigit 17 = .ok (.ireturn, 1) := by decide +kernel
theorem dX1_addStep_0 : decode cX1_addStep 0 = .ok (.aload_n 0, 1) := by decide +kernel
theorem dX1_addStep_1 : decode cX1_addStep 1 = .ok (.getfield 37, 3) := by decide +kernel
theorem dX1_addStep_4 : decode cX1_addStep 4 = .ok (.ifCond .lt 13, 3) := by decide +kernel
theorem dX1_addStep_7 : decode cX1_addStep 7 = .ok (.aload_n 0, 1) := by decide +kernel
theorem dX1_addStep_8 : decode cX1_addStep 8 = .ok (.getfield 37, 3) := by decide +kernel
theorem dX1_addStep_11 : decode cX1_addStep 11 = .ok (.sipush 200, 3) := by decide +kernel
theorem dX1_addStep_14 : decode cX1_addStep 14 = .ok (.if_icmp .lt 5, 3) := by decide +kernel
theorem dX1_addStep_17 : decode cX1_addStep 17 = .ok (.iconst (-1), 1) := by decide +kernel
theorem dX1_addStep_18 : decode cX1_addStep 18 = .ok (.ireturn, 1) := by decide +kernel
theorem dX1_addStep_19 : decode cX1_addStep 19 = .ok (.aload_n 0, 1) := by decide +kernel
theorem dX1_addStep_20 : decode cX1_addStep 20 = .ok (.getfield 9, 3) := by decide +kernel
theorem dX1_addStep_23 : decode cX1_addStep 23 = .ok (.aload_n 0, 1) := by decide +kernel
theorem dX1_addStep_24 : decode cX1_addStep 24 = .ok (.getfield 37, 3) := by decide +kernel
theorem dX1_addStep_27 : decode cX1_addStep 27 = .ok (.iload_n 1, 1) := by decide +kernel
theorem dX1_addStep_28 : decode cX1_addStep 28 = .ok (.iastore, 1) := by decide +kernel
theorem dX1_addStep_29 : decode cX1_addStep 29 = .ok (.aload_n 0, 1) := by decide +kernel
theorem dX1_addStep_30 : decode cX1_addStep 30 = .ok (.getfield 15, 3) := by decide +kernel
theorem dX1_addStep_33 : decode cX1_addStep 33 = .ok (.aload_n 0, 1) := by decide +kernel
theorem dX1_addStep_34 : decode cX1_addStep 34 = .ok (.getfield 37, 3) := by decide +kernel
theorem dX1_addStep_37 : decode cX1_addStep 37 = .ok (.iload_n 2, 1) := by decide +kernel
theorem dX1_addStep_38 : decode cX1_addStep 38 = .ok (.iastore, 1) := by decide +kernel
theorem dX1_addStep_39 : decode cX1_addStep 39 = .ok (.aload_n 0, 1) := by decide +kernel
theorem dX1_addStep_40 : decode cX1_addStep 40 = .ok (.dup, 1) := by decide +kernel
theorem dX1_addStep_41 : decode cX1_addStep 41 = .ok (.getfield 37, 3) := by decide +kernel
theorem dX1_addStep_44 : decode cX1_addStep 44 = .ok (.iconst 1, 1) := by decide +kernel
theorem dX1_addStep_45 : decode cX1_addStep 45 = .ok (.iadd, 1) := by decide +kernel
theorem dX1_addStep_46 : decode cX1_addStep 46 = .ok (.putfield 37, 3) := by decide +kernel
theorem dX1_addStep_49 : decode cX1_addStep 49 = .ok (.aload_n 0, 1) := by decide +kernel
theorem dX1_addStep_50 : decode cX1_addStep 50 = .ok (.getfield 37, 3) := by decide +kernel
theorem dX1_addStep_53 : decode cX1_addStep 53 = .ok (.iconst 1, 1) := by decide +kernel
theorem dX1_addStep_54 : decode cX1_addStep 54 = .ok (.isub, 1) := by decide +kernel
theorem dX1_addStep_55 : decode cX1_addStep 55 = .ok (.ireturn, 1) := by decide +kernel
theorem dX4_readDigits_0 : decode cX4_readDigits 0 = .ok (.iconst 0, 1) := by decide +kernel
theorem dX4_readDigits_1 : decode cX4_readDigits 1 = .ok (.istore_n 1, 1) := by decide +kernel
theorem dX4_readDigits_2 : decode cX4_readDigits 2 = .ok (.iconst 0, 1) := by decide +kernel
theorem dX4_readDigits_3 : decode cX4_readDigits 3 = .ok (.istore_n 2, 1) := by decide +kernel
theorem dX4_readDigits_4 : decode cX4_readDigits 4 = .ok (.iload_n 2, 1) := by decide +kernel
theorem dX4_readDigits_5 : decode cX4_readDigits 5 = .ok (.iconst 5, 1) := by decide +kernel
theorem dX4_readDigits_6 : decode cX4_readDigits 6 = .ok (.if_icmp .ge 42, 3) := by decide +kernel
theorem dX4_readDigits_9 : decode cX4_readDigits 9 = .ok (.aload_n 0, 1) := by decide +kernel
theorem dX4_readDigits_10 : decode cX4_readDigits 10 = .ok (.invokevirtual 61, 3) := by decide +kernel
theorem dX4_readDigits_13 : decode cX4_readDigits 13 = .ok (.invokestatic 108, 3) := by decide +kernel
theorem dX4_readDigits_16 : decode cX4_readDigits 16 = .ok (.ifCond .eq 32, 3) := by decide +kernel
theorem dX4_readDigits_19 : decode cX4_readDigits 19 = .ok (.iload_n 1, 1) := by decide +kernel
theorem dX4_readDigits_20 : decode cX4_readDigits 20 = .ok (.bipush 10, 2) := by decide +kernel
theorem dX4_readDigits_22 : decode cX4_readDigits 22 = .ok (.imul, 1) := by decide +kernel
theorem dX4_readDigits_23 : decode cX4_readDigits 23 = .ok (.aload_n 0, 1) := by decide +kernel
theorem dX4_readDigits_24 : decode cX4_readDigits 24 = .ok (.invokevirtual 61, 3) := by decide +kernel
theorem dX4_readDigits_27 : decode cX4_readDigits 27 = .ok (.iadd, 1) := by decide +kernel
theorem dX4_readDigits_28 : decode cX4_readDigits 28 = .ok (.bipush 48, 2) := by decide +kernel
theorem dX4_readDigits_30 : decode cX4_readDigits 30 = .ok (.isub, 1) := by decide +kernel
theorem dX4_readDigits_31 : decode cX4_readDigits 31 = .ok (.istore_n 1, 1) := by decide +kernel
theorem dX4_readDigits_32 : decode cX4_readDigits 32 = .ok (.aload_n 0, 1) := by decide +kernel
theorem dX4_readDigits_33 : decode cX4_readDigits 33 = .ok (.dup, 1) := by decide +kernel
theorem dX4_readDigits_34 : decode cX4_readDigits 34 = .ok (.getfield 35, 3) := by decide +kernel
theorem dX4_readDigits_37 : decode cX4_readDigits 37 = .ok (.iconst 1, 1) := by decide +kernel
theorem dX4_readDigits_38 : decode cX4_readDigits 38 = .ok (.iadd, 1) := by decide +kernel
theorem dX4_readDigits_39 : decode cX4_readDigits 39 = .ok (.putfield 35, 3) := by decide +kernel
theorem dX4_readDigits_42 : decode cX4_readDigits 42 = .ok (.iinc 2 1, 3) := by decide +kernel
theorem dX4_readDigits_45 : decode cX4_readDigits 45 = .ok (.goto (-41), 3) := by decide +kernel
theorem dX4_readDigits_48 : decode cX4_readDigits 48 = .ok (.aload_n 0, 1) := by decide +kernel
theorem dX4_readDigits_49 : decode cX4_readDigits 49 = .ok (.invokevirtual 61, 3) := by decide +kernel
theorem dX4_readDigits_52 : decode cX4_readDigits 52 = .ok (.invokestatic 108, 3) := by decide +kernel
theorem dX4_readDigits_55 : decode cX4_readDigits 55 = .ok (.ifCond .eq 8, 3) := by decide +kernel
theorem dX4_readDigits_58 : decode cX4_readDigits 58 = .ok (.aload_n 0, 1) := by decide +kernel
theorem dX4_readDigits_59 : decode cX4_readDigits 59 = .ok (.iconst 2, 1) := by decide +kernel
theorem dX4_readDigits_60 : decode cX4_readDigits 60 = .ok (.invokevirtual 64, 3) := by decide +kernel
theorem dX4_readDigits_63 : decode cX4_readDigits 63 = .ok (.aload_n 0, 1) := by decide +kernel
theorem dX4_readDigits_64 : decode cX4_readDigits 64 = .ok (.getfield 18, 3) := by decide +kernel
theorem dX4_readDigits_67 : decode cX4_readDigits 67 = .ok (.bipush 48, 2) := by decide +kernel
theorem dX4_readDigits_69 : decode cX4_readDigits 69 = .ok (.iload_n 1, 1) := by decide +kernel
theorem dX4_readDigits_70 : decode cX4_readDigits 70 = .ok (.invokevirtual 86, 3) := by decide +kernel
theorem dX4_readDigits_73 : decode cX4_readDigits 73 = .ok (.pop, 1) := by decide +kernel
theorem dX4_readDigits_74 : decode cX4_readDigits 74 = .ok (.return_, 1) := by decide +kernel
theorem dJ0_isLatin1_aae02_0 : decode cJ0_isLatin1_aae02 0 = .ok (.getstatic 38, 3) := by decide +kernel
theorem dJ0_isLatin1_aae02_3 : decode cJ0_isLatin1_aae02 3 = .ok (.ifCond .eq 14, 3) := by decide +kernel
theorem dJ0_isLatin1_aae02_6 : decode cJ0_isLatin1_aae02 6 = .ok (.aload_n 0, 1) := by decide +kernel
theorem dJ0_isLatin1_aae02_7 : decode cJ0_isLatin1_aae02 7 = .ok (.getfield 15, 3) := by decide +kernel
theorem dJ0_isLatin1_aae02_10 : decode cJ0_isLatin1_aae02 10 = .ok (.ifCond .ne 7, 3) := by decide +kernel
theorem dJ0_isLatin1_aae02_13 : decode cJ0_isLatin1_aae02 13 = .ok (.iconst 1, 1) := by decide +kernel
theorem dJ0_isLatin1_aae02_14 : decode cJ0_isLatin1_aae02 14 = .ok (.goto 4, 3) := by decide +kernel
theorem dJ0_isLatin1_aae02_17 : decode cJ0_isLatin1_aae02 17 = .ok (.iconst 0, 1) := by decide +kernel
theorem dJ0_isLatin1_aae02_18 : decode cJ0_isLatin1_aae02 18 = .ok (.ireturn, 1) := by decide +kernel
theorem dJ0_coder_7d493_0 : decode cJ0_coder_7d493 0 = .ok (.getstatic 38, 3) := by decide +kernel
theorem dJ0_coder_7d493_3 : decode cJ0_coder_7d493 3 = .ok (.ifCond .eq 10, 3) := by decide +kernel
theorem dJ0_coder_7d493_6 : decode cJ0_coder_7d493 6 = .ok (.aload_n 0, 1) := by decide +kernel
theorem dJ0_coder_7d493_7 : decode cJ0_coder_7d493 7 = .ok (.getfield 15, 3) := by decide +kernel
theorem dJ0_coder_7d493_10 : decode cJ0_coder_7d493 10 = .ok (.goto 4, 3) := by decide +kernel
theorem dJ0_coder_7d493_13 : decode cJ0_coder_7d493 13 = .ok (.iconst 1, 1) := by decide +kernel
theorem dJ0_coder_7d493_14 : decode cJ0_coder_7d493 14 = .ok (.ireturn, 1) := by decide +kernel
theorem dJ0_length_8abf5_0 : decode cJ0_length_8abf5 0 = .ok (.aload_n 0, 1) := by decide +kernel
theorem dJ0_length_8abf5_1 : decode cJ0_length_8abf5 1 = .ok (.getfield 9, 3) := by decide +kernel
theorem dJ0_length_8abf5_4 : decode cJ0_length_8abf5 4 = .ok (.arraylength, 1) := by decide +kernel
theorem dJ0_length_8abf5_5 : decode cJ0_length_8abf5 5 = .ok (.aload_n 0, 1) := by decide +kernel
theorem dJ0_length_8abf5_6 : decode cJ0_length_8abf5 6 = .ok (.invokevirtual 335, 3) := by decide +kernel
theorem dJ0_length_8abf5_9 : decode cJ0_length_8abf5 9 = .ok (.ishr, 1) := by decide +kernel
theorem dJ0_length_8abf5_10 : decode cJ0_length_8abf5 10 = .ok (.ireturn, 1) := by decide +kernel
theorem dJ1_canEncode_9a6ad_0 : decode cJ1_canEncode_9a6ad 0 = .ok (.iload_n 0, 1) := by decide +kernel
theorem dJ1_canEncode_9a6ad_1 : decode cJ1_canEncode_9a6ad 1 = .ok (.ifCond .lt 14, 3) := by decide +kernel
theorem dJ1_canEncode_9a6ad_4 : decode cJ1_canEncode_9a6ad 4 = .ok (.iload_n 0, 1) := by decide +kernel
theorem dJ1_canEncode_9a6ad_5 : decode cJ1_canEncode_9a6ad 5 = .ok (.sipush 255, 3) := by decide +kernel
theorem dJ1_canEncode_9a6ad_8 : decode cJ1_canEncode_9a6ad 8 = .ok (.if_icmp .gt 7, 3) := by decide +kernel
theorem dJ1_canEncode_9a6ad_11 : decode cJ1_canEncode_9a6ad 11 = .ok (.iconst 1, 1) := by decide +kernel
theorem dJ1_canEncode_9a6ad_12 : decode cJ1_canEncode_9a6ad 12 = .ok (.goto 4, 3) := by decide +kernel
theorem dJ1_canEncode_9a6ad_15 : decode cJ1_canEncode_9a6ad 15 = .ok (.iconst 0, 1) := by decide +kernel
theorem dJ1_canEncode_9a6ad_16 : decode cJ1_canEncode_9a6ad 16 = .ok (.ireturn, 1) := by decide +kernel
theorem dJ1_indexOfChar_4cfef_0 : decode cJ1_indexOfChar_4cfef 0 = .ok (.iload_n 1, 1) := by decide +kernel
theorem dJ1_indexOfChar_4cfef_1 : decode cJ1_indexOfChar_4cfef 1 = .ok (.i2b, 1) := by decide +kernel
theorem dJ1_indexOfChar_4cfef_2 : decode cJ1_indexOfChar_4cfef 2 = .ok (.istore 4, 2) := by decide +kernel
theorem dJ1_indexOfChar_4cfef_4 : decode cJ1_indexOfChar_4cfef 4 = .ok (.iload_n 2, 1) := by decide +kernel
theorem dJ1_indexOfChar_4cfef_5 : decode cJ1_indexOfChar_4cfef 5 = .ok (.istore 5, 2) := by decide +kernel
theorem dJ1_indexOfChar_4cfef_7 : decode cJ1_indexOfChar_4cfef 7 = .ok (.iload 5, 2) := by decide +kernel
theorem dJ1_indexOfChar_4cfef_9 : decode cJ1_indexOfChar_4cfef 9 = .ok (.iload_n 3, 1) := by decide +kernel
theorem dJ1_indexOfChar_4cfef_10 : decode cJ1_indexOfChar_4cfef 10 = .ok (.if_icmp .ge 21, 3) := by decide +kernel
theorem dJ1_indexOfChar_4cfef_13 : decode cJ1_indexOfChar_4cfef 13 = .ok (.aload_n 0, 1) := by decide +kernel
theorem dJ1_indexOfChar_4cfef_14 : decode cJ1_indexOfChar_4cfef 14 = .ok (.iload 5, 2) := by decide +kernel
theorem dJ1_indexOfChar_4cfef_16 : decode cJ1_indexOfChar_4cfef 16 = .ok (.baload, 1) := by decide +kernel
theorem dJ1_indexOfChar_4cfef_17 : decode cJ1_indexOfChar_4cfef 17 = .ok (.iload 4, 2) := by decide +kernel
theorem dJ1_indexOfChar_4cfef_19 : decode cJ1_indexOfChar_4cfef 19 = .ok (.if_icmp .ne 6, 3) := by decide +kernel
theorem dJ1_indexOfChar_4cfef_22 : decode cJ1_indexOfChar_4cfef 22 = .ok (.iload 5, 2) := by decide +kernel
theorem dJ1_indexOfChar_4cfef_24 : decode cJ1_indexOfChar_4cfef 24 = .ok (.ireturn, 1) := by decide +kernel
theorem dJ1_indexOfChar_4cfef_25 : decode cJ1_indexOfChar_4cfef 25 = .ok (.iinc 5 1, 3) := by decide +kernel
theorem dJ1_indexOfChar_4cfef_28 : decode cJ1_indexOfChar_4cfef 28 = .ok (.goto (-21), 3) := by decide +kernel
theorem dJ1_indexOfChar_4cfef_31 : decode cJ1_indexOfChar_4cfef 31 = .ok (.iconst (-1), 1) := by decide +kernel
theorem dJ1_indexOfChar_4cfef_32 : decode cJ1_indexOfChar_4cfef 32 = .ok (.ireturn, 1) := by decide +kernel
theorem dJ1_indexOf_4cfef_0 : decode cJ1_indexOf_4cfef 0 = .ok (.iload_n 1, 1) := by decide +kernel
theorem dJ1_indexOf_4cfef_1 : decode cJ1_indexOf_4cfef 1 = .ok (.invokestatic 88, 3) := by decide +kernel
theorem dJ1_indexOf_4cfef_4 : decode cJ1_indexOf_4cfef 4 = .ok (.ifCond .ne 5, 3) := by decide +kernel
theorem dJ1_indexOf_4cfef_7 : decode cJ1_indexOf_4cfef 7 = .ok (.iconst (-1), 1) := by decide +kernel
theorem dJ1_indexOf_4cfef_8 : decode cJ1_indexOf_4cfef 8 = .ok (.ireturn, 1) := by decide +kernel
theorem dJ1_indexOf_4cfef_9 : decode cJ1_indexOf_4cfef 9 = .ok (.iload_n 2, 1) := by decide +kernel
theorem dJ1_indexOf_4cfef_10 : decode cJ1_indexOf_4cfef 10 = .ok (.iconst 0, 1) := by decide +kernel
theorem dJ1_indexOf_4cfef_11 : decode cJ1_indexOf_4cfef 11 = .ok (.invokestatic 92, 3) := by decide +kernel
theorem dJ1_indexOf_4cfef_14 : decode cJ1_indexOf_4cfef 14 = .ok (.istore_n 2, 1) := by decide +kernel
theorem dJ1_indexOf_4cfef_15 : decode cJ1_indexOf_4cfef 15 = .ok (.iload_n 3, 1) := by decide +kernel
theorem dJ1_indexOf_4cfef_16 : decode cJ1_indexOf_4cfef 16 = .ok (.aload_n 0, 1) := by decide +kernel
theorem dJ1_indexOf_4cfef_17 : decode cJ1_indexOf_4cfef 17 = .ok (.arraylength, 1) := by decide +kernel
theorem dJ1_indexOf_4cfef_18 : decode cJ1_indexOf_4cfef 18 = .ok (.invokestatic 38, 3) := by decide +kernel
theorem dJ1_indexOf_4cfef_21 : decode cJ1_indexOf_4cfef 21 = .ok (.istore_n 3, 1) := by decide +kernel
theorem dJ1_indexOf_4cfef_22 : decode cJ1_indexOf_4cfef 22 = .ok (.iload_n 2, 1) := by decide +kernel
theorem dJ1_indexOf_4cfef_23 : decode cJ1_indexOf_4cfef 23 = .ok (.iload_n 3, 1) := by decide +kernel
theorem dJ1_indexOf_4cfef_24 : decode cJ1_indexOf_4cfef 24 = .ok (.if_icmp .lt 5, 3) := by decide +kernel
theorem dJ1_indexOf_4cfef_27 : decode cJ1_indexOf_4cfef 27 = .ok (.iconst (-1), 1) := by decide +kernel
theorem dJ1_indexOf_4cfef_28 : decode cJ1_indexOf_4cfef 28 = .ok (.ireturn, 1) := by decide +kernel
theorem dJ1_indexOf_4cfef_29 : decode cJ1_indexOf_4cfef 29 = .ok (.aload_n 0, 1) := by decide +kernel
theorem dJ1_indexOf_4cfef_30 : decode cJ1_indexOf_4cfef 30 = .ok (.iload_n 1, 1) := by decide +kernel
theorem dJ1_indexOf_4cfef_31 : decode cJ1_indexOf_4cfef 31 = .ok (.iload_n 2, 1) := by decide +kernel
theorem dJ1_indexOf_4cfef_32 : decode cJ1_indexOf_4cfef 32 = .ok (.iload_n 3, 1) := by decide +kernel
theorem dJ1_indexOf_4cfef_33 : decode cJ1_indexOf_4cfef 33 = .ok (.invokestatic 95, 3) := by decide +kernel
theorem dJ1_indexOf_4cfef_36 : decode cJ1_indexOf_4cfef 36 = .ok (.ireturn, 1) := by decide +kernel
theorem dJ0_indexOf_7cf53_0 : decode cJ0_indexOf_7cf53 0 = .ok (.aload_n 0, 1) := by decide +kernel
theorem dJ0_indexOf_7cf53_1 : decode cJ0_indexOf_7cf53 1 = .ok (.invokevirtual 492, 3) := by decide +kernel
theorem dJ0_indexOf_7cf53_4 : decode cJ0_indexOf_7cf53 4 = .ok (.ifCond .eq 19, 3) := by decide +kernel
theorem dJ0_indexOf_7cf53_7 : decode cJ0_indexOf_7cf53 7 = .ok (.aload_n 0, 1) := by decide +kernel
theorem dJ0_indexOf_7cf53_8 : decode cJ0_indexOf_7cf53 8 = .ok (.getfield 9, 3) := by decide +kernel
theorem dJ0_indexOf_7cf53_11 : decode cJ0_indexOf_7cf53 11 = .ok (.iload_n 1, 1) := by decide +kernel
theorem dJ0_indexOf_7cf53_12 : decode cJ0_indexOf_7cf53 12 = .ok (.iload_n 2, 1) := by decide +kernel
theorem dJ0_indexOf_7cf53_13 : decode cJ0_indexOf_7cf53 13 = .ok (.aload_n 0, 1) := by decide +kernel
theorem dJ0_indexOf_7cf53_14 : decode cJ0_indexOf_7cf53 14 = .ok (.invokevirtual 505, 3) := by decide +kernel
theorem dJ0_indexOf_7cf53_17 : decode cJ0_indexOf_7cf53 17 = .ok (.invokestatic 637, 3) := by decide +kernel
theorem dJ0_indexOf_7cf53_20 : decode cJ0_indexOf_7cf53 20 = .ok (.goto 16, 3) := by decide +kernel
theorem dJ0_indexOf_7cf53_23 : decode cJ0_indexOf_7cf53 23 = .ok (.aload_n 0, 1) := by decide +kernel
theorem dJ0_indexOf_7cf53_24 : decode cJ0_indexOf_7cf53 24 = .ok (.getfield 9, 3) := by decide +kernel
theorem dJ0_indexOf_7cf53_27 : decode cJ0_indexOf_7cf53 27 = .ok (.iload_n 1, 1) := by decide +kernel
theorem dJ0_indexOf_7cf53_28 : decode cJ0_indexOf_7cf53 28 = .ok (.iload_n 2, 1) := by decide +kernel
theorem dJ0_indexOf_7cf53_29 : decode cJ0_indexOf_7cf53 29 = .ok (.aload_n 0, 1) := by decide +kernel
theorem dJ0_indexOf_7cf53_30 : decode cJ0_indexOf_7cf53 30 = .ok (.invokevirtual 505, 3) := by decide +kernel
theorem dJ0_indexOf_7cf53_33 : decode cJ0_indexOf_7cf53 33 = .ok (.invokestatic 640, 3) := by decide +kernel
theorem dJ0_indexOf_7cf53_36 : decode cJ0_indexOf_7cf53 36 = .ok (.ireturn, 1) := by decide +kernel
theorem dJ0_indexOf_0f7a4_0 : decode cJ0_indexOf_0f7a4 0 = .ok (.aload_n 0, 1) := by decide +kernel
theorem dJ0_indexOf_0f7a4_1 : decode cJ0_indexOf_0f7a4 1 = .ok (.iload_n 1, 1) := by decide +kernel
theorem dJ0_indexOf_0f7a4_2 : decode cJ0_indexOf_0f7a4 2 = .ok (.iconst 0, 1) := by decide +kernel
theorem dJ0_indexOf_0f7a4_3 : decode cJ0_indexOf_0f7a4 3 = .ok (.invokevirtual 633, 3) := by decide +kernel
theorem dJ0_indexOf_0f7a4_6 : decode cJ0_indexOf_0f7a4 6 = .ok (.ireturn, 1) := by decide +kernel
theorem dX4_isProductSign_0 : decode cX4_isProductSign 0 = .ok (.iload_n 0, 1) := by decide +kernel
theorem dX4_isProductSign_1 : decode cX4_isProductSign 1 = .ok (.bipush 42, 2) := by decide +kernel
theorem dX4_isProductSign_3 : decode cX4_isProductSign 3 = .ok (.if_icmp .eq 15, 3) := by decide +kernel
theorem dX4_isProductSign_6 : decode cX4_isProductSign 6 = .ok (.iload_n 0, 1) := by decide +kernel
theorem dX4_isProductSign_7 : decode cX4_isProductSign 7 = .ok (.bipush 47, 2) := by decide +kernel
theorem dX4_isProductSign_9 : decode cX4_isProductSign 9 = .ok (.if_icmp .eq 9, 3) := by decide +kernel
theorem dX4_isProductSign_12 : decode cX4_isProductSign 12 = .ok (.iload_n 0, 1) := by decide +kernel
theorem dX4_isProductSign_13 : decode cX4_isProductSign 13 = .ok (.bipush 37, 2) := by decide +kernel
theorem dX4_isProductSign_15 : decode cX4_isProductSign 15 = .ok (.if_icmp .ne 7, 3) := by decide +kernel
theorem dX4_isProductSign_18 : decode cX4_isProductSign 18 = .ok (.iconst 1, 1) := by decide +kernel
theorem dX4_isProductSign_19 : decode cX4_isProductSign 19 = .ok (.goto 4, 3) := by decide +kernel
theorem dX4_isProductSign_22 : decode cX4_isProductSign 22 = .ok (.iconst 0, 1) := by decide +kernel
theorem dX4_isProductSign_23 : decode cX4_isProductSign 23 = .ok (.ireturn, 1) := by decide +kernel
theorem dX4_readFactor_0 : decode cX4_readFactor 0 = .ok (.aload_n 0, 1) := by decide +kernel
theorem dX4_readFactor_1 : decode cX4_readFactor 1 = .ok (.getfield 38, 3) := by decide +kernel
theorem dX4_readFactor_4 : decode cX4_readFactor 4 = .ok (.ifCond .eq 4, 3) := by decide +kernel
theorem dX4_readFactor_7 : decode cX4_readFactor 7 = .ok (.return_, 1) := by decide +kernel
theorem dX4_readFactor_8 : decode cX4_readFactor 8 = .ok (.aload_n 0, 1) := by decide +kernel
theorem dX4_readFactor_9 : decode cX4_readFactor 9 = .ok (.invokevirtual 61, 3) := by decide +kernel
theorem dX4_readFactor_12 : decode cX4_readFactor 12 = .ok (.istore_n 2, 1) := by decide +kernel
theorem dX4_readFactor_13 : decode cX4_readFactor 13 = .ok (.iload_n 2, 1) := by decide +kernel
theorem dX4_readFactor_14 : decode cX4_readFactor 14 = .ok (.bipush 91, 2) := by decide +kernel
theorem dX4_readFactor_16 : decode cX4_readFactor 16 = .ok (.if_icmp .ne 27, 3) := by decide +kernel
theorem dX4_readFactor_19 : decode cX4_readFactor 19 = .ok (.aload_n 0, 1) := by decide +kernel
theorem dX4_readFactor_20 : decode cX4_readFactor 20 = .ok (.iload_n 1, 1) := by decide +kernel
theorem dX4_readFactor_21 : decode cX4_readFactor 21 = .ok (.invokevirtual 92, 3) := by decide +kernel
theorem dX4_readFactor_24 : decode cX4_readFactor 24 = .ok (.ifCond .eq 80, 3) := by decide +kernel
theorem dX4_readFactor_27 : decode cX4_readFactor 27 = .ok (.aload_n 0, 1) := by decide +kernel
theorem dX4_readFactor_28 : decode cX4_readFactor 28 = .ok (.iload_n 1, 1) := by decide +kernel
theorem dX4_readFactor_29 : decode cX4_readFactor 29 = .ok (.iconst 1, 1) := by decide +kernel
theorem dX4_readFactor_30 : decode cX4_readFactor 30 = .ok (.iadd, 1) := by decide +kernel
theorem dX4_readFactor_31 : decode cX4_readFactor 31 = .ok (.invokevirtual 70, 3) := by decide +kernel
theorem dX4_readFactor_34 : decode cX4_readFactor 34 = .ok (.aload_n 0, 1) := by decide +kernel
theorem dX4_readFactor_35 : decode cX4_readFactor 35 = .ok (.bipush 93, 2) := by decide +kernel
theorem dX4_readFactor_37 : decode cX4_readFactor 37 = .ok (.invokevirtual 54, 3) := by decide +kernel
theorem dX4_readFactor_40 : decode cX4_readFactor 40 = .ok (.goto 64, 3) := by decide +kernel
theorem dX4_readFactor_43 : decode cX4_readFactor 43 = .ok (.iload_n 2, 1) := by decide +kernel
theorem dX4_readFactor_44 : decode cX4_readFactor 44 = .ok (.invokestatic 108, 3) := by decide +kernel
theorem dX4_readFactor_47 : decode cX4_readFactor 47 = .ok (.ifCond .eq 10, 3) := by decide +kernel
theorem dX4_readFactor_50 : decode cX4_readFactor 50 = .ok (.aload_n 0, 1) := by decide +kernel
theorem dX4_readFactor_51 : decode cX4_readFactor 51 = .ok (.invokevirtual 111, 3) := by decide +kernel
theorem dX4_readFactor_54 : decode cX4_readFactor 54 = .ok (.goto 50, 3) := by decide +kernel
theorem dX4_readFactor_57 : decode cX4_readFactor 57 = .ok (.iload_n 2, 1) := by decide +kernel
theorem dX4_readFactor_58 : decode cX4_readFactor 58 = .ok (.ifCond .ge 7, 3) := by decide +kernel
theorem dX4_readFactor_61 : decode cX4_readFactor 61 = .ok (.iconst (-1), 1) := by decide +kernel
theorem dX4_readFactor_62 : decode cX4_readFactor 62 = .ok (.goto 10, 3) := by decide +kernel
theorem dX4_readFactor_65 : decode cX4_readFactor 65 = .ok (.ldc 114, 2) := by decide +kernel
theorem dX4_readFactor_67 : decode cX4_readFactor 67 = .ok (.iload_n 2, 1) := by decide +kernel
theorem dX4_readFactor_68 : decode cX4_readFactor 68 = .ok (.i2c, 1) := by decide +kernel
theorem dX4_readFactor_69 : decode cX4_readFactor 69 = .ok (.invokevirtual 116, 3) := by decide +kernel
theorem dX4_readFactor_72 : decode cX4_readFactor 72 = .ok (.istore_n 3, 1) := by decide +kernel
theorem dX4_readFactor_73 : decode cX4_readFactor 73 = .ok (.iload_n 3, 1) := by decide +kernel
theorem dX4_readFactor_74 : decode cX4_readFactor 74 = .ok (.ifCond .ge 9, 3) := by decide +kernel
theorem dX4_readFactor_77 : decode cX4_readFactor 77 = .ok (.aload_n 0, 1) := by decide +kernel
theorem dX4_readFactor_78 : decode cX4_readFactor 78 = .ok (.iconst 1, 1) := by decide +kernel
theorem dX4_readFactor_79 : decode cX4_readFactor 79 = .ok (.invokevirtual 64, 3) := by decide +kernel
theorem dX4_readFactor_82 : decode cX4_readFactor 82 = .ok (.return_, 1) := by decide +kernel
theorem dX4_readFactor_83 : decode cX4_readFactor 83 = .ok (.aload_n 0, 1) := by decide +kernel
theorem dX4_readFactor_84 : decode cX4_readFactor 84 = .ok (.dup, 1) := by decide +kernel
theorem dX4_readFactor_85 : decode cX4_readFactor 85 = .ok (.getfield 35, 3) := by decide +kernel
theorem dX4_readFactor_88 : decode cX4_readFactor 88 = .ok (.iconst 1, 1) := by decide +kernel
theorem dX4_readFactor_89 : decode cX4_readFactor 89 = .ok (.iadd, 1) := by decide +kernel
theorem dX4_readFactor_90 : decode cX4_readFactor 90 = .ok (.putfield 35, 3) := by decide +kernel
theorem dX4_readFactor_93 : decode cX4_readFactor 93 = .ok (.aload_n 0, 1) := by decide +kernel
theorem dX4_readFactor_94 : decode cX4_readFactor 94 = .ok (.getfield 18, 3) := by decide +kernel
theorem dX4_readFactor_97 : decode cX4_readFactor 97 = .ok (.bipush 108, 2) := by decide +kernel
theorem dX4_readFactor_99 : decode cX4_readFactor 99 = .ok (.iload_n 3, 1) := by decide +kernel
theorem dX4_readFactor_100 : decode cX4_readFactor 100 = .ok (.invokevirtual 86, 3) := by decide +kernel
theorem dX4_readFactor_103 : decode cX4_readFactor 103 = .ok (.pop, 1) := by decide +kernel
theorem dX4_readFactor_104 : decode cX4_readFactor 104 = .ok (.return_, 1) := by decide +kernel
theorem dX4_readProduct_0 : decode cX4_readProduct 0 = .ok (.aload_n 0, 1) := by decide +kernel
theorem dX4_readProduct_1 : decode cX4_readProduct 1 = .ok (.iload_n 1, 1) := by decide +kernel
theorem dX4_readProduct_2 : decode cX4_readProduct 2 = .ok (.invokevirtual 102, 3) := by decide +kernel
theorem dX4_readProduct_5 : decode cX4_readProduct 5 = .ok (.iconst 0, 1) := by decide +kernel
theorem dX4_readProduct_6 : decode cX4_readProduct 6 = .ok (.istore_n 2, 1) := by decide +kernel
theorem dX4_readProduct_7 : decode cX4_readProduct 7 = .ok (.iload_n 2, 1) := by decide +kernel
theorem dX4_readProduct_8 : decode cX4_readProduct 8 = .ok (.sipush 200, 3) := by decide +kernel
theorem dX4_readProduct_11 : decode cX4_readProduct 11 = .ok (.if_icmp .ge 56, 3) := by decide +kernel
theorem dX4_readProduct_14 : decode cX4_readProduct 14 = .ok (.aload_n 0, 1) := by decide +kernel
theorem dX4_readProduct_15 : decode cX4_readProduct 15 = .ok (.getfield 38, 3) := by decide +kernel
theorem dX4_readProduct_18 : decode cX4_readProduct 18 = .ok (.ifCond .ne 49, 3) := by decide +kernel
theorem dX4_readProduct_21 : decode cX4_readProduct 21 = .ok (.aload_n 0, 1) := by decide +kernel
theorem dX4_readProduct_22 : decode cX4_readProduct 22 = .ok (.invokevirtual 61, 3) := by decide +kernel
theorem dX4_readProduct_25 : decode cX4_readProduct 25 = .ok (.invokestatic 105, 3) := by decide +kernel
theorem dX4_readProduct_28 : decode cX4_readProduct 28 = .ok (.ifCond .eq 39, 3) := by decide +kernel
theorem dX4_readProduct_31 : decode cX4_readProduct 31 = .ok (.aload_n 0, 1) := by decide +kernel
theorem dX4_readProduct_32 : decode cX4_readProduct 32 = .ok (.invokevirtual 61, 3) := by decide +kernel
theorem dX4_readProduct_35 : decode cX4_readProduct 35 = .ok (.istore_n 3, 1) := by decide +kernel
theorem dX4_readProduct_36 : decode cX4_readProduct 36 = .ok (.aload_n 0, 1) := by decide +kernel
theorem dX4_readProduct_37 : decode cX4_readProduct 37 = .ok (.dup, 1) := by decide +kernel
theorem dX4_readProduct_38 : decode cX4_readProduct 38 = .ok (.getfield 35, 3) := by decide +kernel
theorem dX4_readProduct_41 : decode cX4_readProduct 41 = .ok (.iconst 1, 1) := by decide +kernel
theorem dX4_readProduct_42 : decode cX4_readProduct 42 = .ok (.iadd, 1) := by decide +kernel
theorem dX4_readProduct_43 : decode cX4_readProduct 43 = .ok (.putfield 35, 3) := by decide +kernel
theorem dX4_readProduct_46 : decode cX4_readProduct 46 = .ok (.aload_n 0, 1) := by decide +kernel
theorem dX4_readProduct_47 : decode cX4_readProduct 47 = .ok (.iload_n 1, 1) := by decide +kernel
theorem dX4_readProduct_48 : decode cX4_readProduct 48 = .ok (.invokevirtual 102, 3) := by decide +kernel
theorem dX4_readProduct_51 : decode cX4_readProduct 51 = .ok (.aload_n 0, 1) := by decide +kernel
theorem dX4_readProduct_52 : decode cX4_readProduct 52 = .ok (.getfield 18, 3) := by decide +kernel
theorem dX4_readProduct_55 : decode cX4_readProduct 55 = .ok (.iload_n 3, 1) := by decide +kernel
theorem dX4_readProduct_56 : decode cX4_readProduct 56 = .ok (.iconst 0, 1) := by decide +kernel
theorem dX4_readProduct_57 : decode cX4_readProduct 57 = .ok (.invokevirtual 86, 3) := by decide +kernel
theorem dX4_readProduct_60 : decode cX4_readProduct 60 = .ok (.pop, 1) := by decide +kernel
theorem dX4_readProduct_61 : decode cX4_readProduct 61 = .ok (.iinc 2 1, 3) := by decide +kernel
theorem dX4_readProduct_64 : decode cX4_readProduct 64 = .ok (.goto (-57), 3) := by decide +kernel
theorem dX4_readProduct_67 : decode cX4_readProduct 67 = .ok (.return_, 1) := by decide +kernel
theorem dX4_readSum_0 : decode cX4_readSum 0 = .ok (.aload_n 0, 1) := by decide +kernel
theorem dX4_readSum_1 : decode cX4_readSum 1 = .ok (.iload_n 1, 1) := by decide +kernel
theorem dX4_readSum_2 : decode cX4_readSum 2 = .ok (.invokevirtual 99, 3) := by decide +kernel
theorem dX4_readSum_5 : decode cX4_readSum 5 = .ok (.iconst 0, 1) := by decide +kernel
theorem dX4_readSum_6 : decode cX4_readSum 6 = .ok (.istore_n 2, 1) := by decide +kernel
theorem dX4_readSum_7 : decode cX4_readSum 7 = .ok (.iload_n 2, 1) := by decide +kernel
theorem dX4_readSum_8 : decode cX4_readSum 8 = .ok (.sipush 200, 3) := by decide +kernel
theorem dX4_readSum_11 : decode cX4_readSum 11 = .ok (.if_icmp .ge 64, 3) := by decide +kernel
theorem dX4_readSum_14 : decode cX4_readSum 14 = .ok (.aload_n 0, 1) := by decide +kernel
theorem dX4_readSum_15 : decode cX4_readSum 15 = .ok (.getfield 38, 3) := by decide +kernel
theorem dX4_readSum_18 : decode cX4_readSum 18 = .ok (.ifCond .ne 57, 3) := by decide +kernel
theorem dX4_readSum_21 : decode cX4_readSum 21 = .ok (.aload_n 0, 1) := by decide +kernel
theorem dX4_readSum_22 : decode cX4_readSum 22 = .ok (.invokevirtual 61, 3) := by decide +kernel
theorem dX4_readSum_25 : decode cX4_readSum 25 = .ok (.bipush 43, 2) := by decide +kernel
theorem dX4_readSum_27 : decode cX4_readSum 27 = .ok (.if_icmp .eq 12, 3) := by decide +kernel
theorem dX4_readSum_30 : decode cX4_readSum 30 = .ok (.aload_n 0, 1) := by decide +kernel
theorem dX4_readSum_31 : decode cX4_readSum 31 = .ok (.invokevirtual 61, 3) := by decide +kernel
theorem dX4_readSum_34 : decode cX4_readSum 34 = .ok (.bipush 45, 2) := by decide +kernel
theorem dX4_readSum_36 : decode cX4_readSum 36 = .ok (.if_icmp .ne 39, 3) := by decide +kernel
theorem dX4_readSum_39 : decode cX4_readSum 39 = .ok (.aload_n 0, 1) := by decide +kernel
theorem dX4_readSum_40 : decode cX4_readSum 40 = .ok (.invokevirtual 61, 3) := by decide +kernel
theorem dX4_readSum_43 : decode cX4_readSum 43 = .ok (.istore_n 3, 1) := by decide +kernel
theorem dX4_readSum_44 : decode cX4_readSum 44 = .ok (.aload_n 0, 1) := by decide +kernel
theorem dX4_readSum_45 : decode cX4_readSum 45 = .ok (.dup, 1) := by decide +kernel
theorem dX4_readSum_46 : decode cX4_readSum 46 = .ok (.getfield 35, 3) := by decide +kernel
theorem dX4_readSum_49 : decode cX4_readSum 49 = .ok (.iconst 1, 1) := by decide +kernel
theorem dX4_readSum_50 : decode cX4_readSum 50 = .ok (.iadd, 1) := by decide +kernel
theorem dX4_readSum_51 : decode cX4_readSum 51 = .ok (.putfield 35, 3) := by decide +kernel
theorem dX4_readSum_54 : decode cX4_readSum 54 = .ok (.aload_n 0, 1) := by decide +kernel
theorem dX4_readSum_55 : decode cX4_readSum 55 = .ok (.iload_n 1, 1) := by decide +kernel
theorem dX4_readSum_56 : decode cX4_readSum 56 = .ok (.invokevirtual 99, 3) := by decide +kernel
theorem dX4_readSum_59 : decode cX4_readSum 59 = .ok (.aload_n 0, 1) := by decide +kernel
theorem dX4_readSum_60 : decode cX4_readSum 60 = .ok (.getfield 18, 3) := by decide +kernel
theorem dX4_readSum_63 : decode cX4_readSum 63 = .ok (.iload_n 3, 1) := by decide +kernel
theorem dX4_readSum_64 : decode cX4_readSum 64 = .ok (.iconst 0, 1) := by decide +kernel
theorem dX4_readSum_65 : decode cX4_readSum 65 = .ok (.invokevirtual 86, 3) := by decide +kernel
theorem dX4_readSum_68 : decode cX4_readSum 68 = .ok (.pop, 1) := by decide +kernel
theorem dX4_readSum_69 : decode cX4_readSum 69 = .ok (.iinc 2 1, 3) := by decide +kernel
theorem dX4_readSum_72 : decode cX4_readSum 72 = .ok (.goto (-65), 3) := by decide +kernel
theorem dX4_readSum_75 : decode cX4_readSum 75 = .ok (.return_, 1) := by decide +kernel
theorem dX4_readComparison_0 : decode cX4_readComparison 0 = .ok (.aload_n 0, 1) := by decide +kernel
theorem dX4_readComparison_1 : decode cX4_readComparison 1 = .ok (.iload_n 1, 1) := by decide +kernel
theorem dX4_readComparison_2 : decode cX4_readComparison 2 = .ok (.invokevirtual 70, 3) := by decide +kernel
theorem dX4_readComparison_5 : decode cX4_readComparison 5 = .ok (.aload_n 0, 1) := by decide +kernel
theorem dX4_readComparison_6 : decode cX4_readComparison 6 = .ok (.invokevirtual 61, 3) := by decide +kernel
theorem dX4_readComparison_9 : decode cX4_readComparison 9 = .ok (.istore_n 2, 1) := by decide +kernel
theorem dX4_readComparison_10 : decode cX4_readComparison 10 = .ok (.aload_n 0, 1) := by decide +kernel
theorem dX4_readComparison_11 : decode cX4_readComparison 11 = .ok (.getfield 38, 3) := by decide +kernel
theorem dX4_readComparison_14 : decode cX4_readComparison 14 = .ok (.ifCond .ne 21, 3) := by decide +kernel
theorem dX4_readComparison_17 : decode cX4_readComparison 17 = .ok (.iload_n 2, 1) := by decide +kernel
theorem dX4_readComparison_18 : decode cX4_readComparison 18 = .ok (.bipush 60, 2) := by decide +kernel
theorem dX4_readComparison_20 : decode cX4_readComparison 20 = .ok (.if_icmp .eq 21, 3) := by decide +kernel
theorem dX4_readComparison_23 : decode cX4_readComparison 23 = .ok (.iload_n 2, 1) := by decide +kernel
theorem dX4_readComparison_24 : decode cX4_readComparison 24 = .ok (.bipush 62, 2) := by decide +kernel
theorem dX4_readComparison_26 : decode cX4_readComparison 26 = .ok (.if_icmp .eq 15, 3) := by decide +kernel
theorem dX4_readComparison_29 : decode cX4_readComparison 29 = .ok (.iload_n 2, 1) := by decide +kernel
theorem dX4_readComparison_30 : decode cX4_readComparison 30 = .ok (.bipush 61, 2) := by decide +kernel
theorem dX4_readComparison_32 : decode cX4_readComparison 32 = .ok (.if_icmp .eq 9, 3) := by decide +kernel
theorem dX4_readComparison_35 : decode cX4_readComparison 35 = .ok (.aload_n 0, 1) := by decide +kernel
theorem dX4_readComparison_36 : decode cX4_readComparison 36 = .ok (.iconst 1, 1) := by decide +kernel
theorem dX4_readComparison_37 : decode cX4_readComparison 37 = .ok (.invokevirtual 64, 3) := by decide +kernel
theorem dX4_readComparison_40 : decode cX4_readComparison 40 = .ok (.return_, 1) := by decide +kernel
theorem dX4_readComparison_41 : decode cX4_readComparison 41 = .ok (.aload_n 0, 1) := by decide +kernel
theorem dX4_readComparison_42 : decode cX4_readComparison 42 = .ok (.dup, 1) := by decide +kernel
theorem dX4_readComparison_43 : decode cX4_readComparison 43 = .ok (.getfield 35, 3) := by decide +kernel
theorem dX4_readComparison_46 : decode cX4_readComparison 46 = .ok (.iconst 1, 1) := by decide +kernel
theorem dX4_readComparison_47 : decode cX4_readComparison 47 = .ok (.iadd, 1) := by decide +kernel
theorem dX4_readComparison_48 : decode cX4_readComparison 48 = .ok (.putfield 35, 3) := by decide +kernel
theorem dX4_readComparison_51 : decode cX4_readComparison 51 = .ok (.aload_n 0, 1) := by decide +kernel
theorem dX4_readComparison_52 : decode cX4_readComparison 52 = .ok (.iload_n 1, 1) := by decide +kernel
theorem dX4_readComparison_53 : decode cX4_readComparison 53 = .ok (.invokevirtual 70, 3) := by decide +kernel
theorem dX4_readComparison_56 : decode cX4_readComparison 56 = .ok (.aload_n 0, 1) := by decide +kernel
theorem dX4_readComparison_57 : decode cX4_readComparison 57 = .ok (.getfield 18, 3) := by decide +kernel
theorem dX4_readComparison_60 : decode cX4_readComparison 60 = .ok (.iload_n 2, 1) := by decide +kernel
theorem dX4_readComparison_61 : decode cX4_readComparison 61 = .ok (.iconst 0, 1) := by decide +kernel
theorem dX4_readComparison_62 : decode cX4_readComparison 62 = .ok (.invokevirtual 86, 3) := by decide +kernel
theorem dX4_readComparison_65 : decode cX4_readComparison 65 = .ok (.pop, 1) := by decide +kernel
theorem dX4_readComparison_66 : decode cX4_readComparison 66 = .ok (.return_, 1) := by decide +kernel
theorem dX1_aimHere_0 : decode cX1_aimHere 0 = .ok (.iload_n 1, 1) := by decide +kernel
theorem dX1_aimHere_1 : decode cX1_aimHere 1 = .ok (.ifCond .lt 20, 3) := by decide +kernel
theorem dX1_aimHere_4 : decode cX1_aimHere 4 = .ok (.iload_n 1, 1) := by decide +kernel
theorem dX1_aimHere_5 : decode cX1_aimHere 5 = .ok (.sipush 200, 3) := by decide +kernel
theorem dX1_aimHere_8 : decode cX1_aimHere 8 = .ok (.if_icmp .ge 13, 3) := by decide +kernel
theorem dX1_aimHere_11 : decode cX1_aimHere 11 = .ok (.aload_n 0, 1) := by decide +kernel
theorem dX1_aimHere_12 : decode cX1_aimHere 12 = .ok (.getfield 15, 3) := by decide +kernel
theorem dX1_aimHere_15 : decode cX1_aimHere 15 = .ok (.iload_n 1, 1) := by decide +kernel
theorem dX1_aimHere_16 : decode cX1_aimHere 16 = .ok (.aload_n 0, 1) := by decide +kernel
theorem dX1_aimHere_17 : decode cX1_aimHere 17 = .ok (.getfield 37, 3) := by decide +kernel
theorem dX1_aimHere_20 : decode cX1_aimHere 20 = .ok (.iastore, 1) := by decide +kernel
theorem dX1_aimHere_21 : decode cX1_aimHere 21 = .ok (.return_, 1) := by decide +kernel
theorem dX4_readAllOf_0 : decode cX4_readAllOf 0 = .ok (.aload_n 0, 1) := by decide +kernel
theorem dX4_readAllOf_1 : decode cX4_readAllOf 1 = .ok (.iload_n 1, 1) := by decide +kernel
theorem dX4_readAllOf_2 : decode cX4_readAllOf 2 = .ok (.invokevirtual 89, 3) := by decide +kernel
theorem dX4_readAllOf_5 : decode cX4_readAllOf 5 = .ok (.iconst (-1), 1) := by decide +kernel
theorem dX4_readAllOf_6 : decode cX4_readAllOf 6 = .ok (.istore_n 2, 1) := by decide +kernel
theorem dX4_readAllOf_7 : decode cX4_readAllOf 7 = .ok (.iconst 0, 1) := by decide +kernel
theorem dX4_readAllOf_8 : decode cX4_readAllOf 8 = .ok (.istore_n 3, 1) := by decide +kernel
theorem dX4_readAllOf_9 : decode cX4_readAllOf 9 = .ok (.iload_n 3, 1) := by decide +kernel
theorem dX4_readAllOf_10 : decode cX4_readAllOf 10 = .ok (.sipush 200, 3) := by decide +kernel
theorem dX4_readAllOf_13 : decode cX4_readAllOf 13 = .ok (.if_icmp .ge 59, 3) := by decide +kernel
theorem dX4_readAllOf_16 : decode cX4_readAllOf 16 = .ok (.aload_n 0, 1) := by decide +kernel
theorem dX4_readAllOf_17 : decode cX4_readAllOf 17 = .ok (.getfield 38, 3) := by decide +kernel
theorem dX4_readAllOf_20 : decode cX4_readAllOf 20 = .ok (.ifCond .ne 52, 3) := by decide +kernel
theorem dX4_readAllOf_23 : decode cX4_readAllOf 23 = .ok (.aload_n 0, 1) := by decide +kernel
theorem dX4_readAllOf_24 : decode cX4_readAllOf 24 = .ok (.invokevirtual 61, 3) := by decide +kernel
theorem dX4_readAllOf_27 : decode cX4_readAllOf 27 = .ok (.bipush 38, 2) := by decide +kernel
theorem dX4_readAllOf_29 : decode cX4_readAllOf 29 = .ok (.if_icmp .ne 43, 3) := by decide +kernel
theorem dX4_readAllOf_32 : decode cX4_readAllOf 32 = .ok (.aload_n 0, 1) := by decide +kernel
theorem dX4_readAllOf_33 : decode cX4_readAllOf 33 = .ok (.dup, 1) := by decide +kernel
theorem dX4_readAllOf_34 : decode cX4_readAllOf 34 = .ok (.getfield 35, 3) := by decide +kernel
theorem dX4_readAllOf_37 : decode cX4_readAllOf 37 = .ok (.iconst 1, 1) := by decide +kernel
theorem dX4_readAllOf_38 : decode cX4_readAllOf 38 = .ok (.iadd, 1) := by decide +kernel
theorem dX4_readAllOf_39 : decode cX4_readAllOf 39 = .ok (.putfield 35, 3) := by decide +kernel
theorem dX4_readAllOf_42 : decode cX4_readAllOf 42 = .ok (.aload_n 0, 1) := by decide +kernel
theorem dX4_readAllOf_43 : decode cX4_readAllOf 43 = .ok (.getfield 18, 3) := by decide +kernel
theorem dX4_readAllOf_46 : decode cX4_readAllOf 46 = .ok (.iload_n 2, 1) := by decide +kernel
theorem dX4_readAllOf_47 : decode cX4_readAllOf 47 = .ok (.invokevirtual 83, 3) := by decide +kernel
theorem dX4_readAllOf_50 : decode cX4_readAllOf 50 = .ok (.aload_n 0, 1) := by decide +kernel
theorem dX4_readAllOf_51 : decode cX4_readAllOf 51 = .ok (.getfield 18, 3) := by decide +kernel
theorem dX4_readAllOf_54 : decode cX4_readAllOf 54 = .ok (.bipush 38, 2) := by decide +kernel
theorem dX4_readAllOf_56 : decode cX4_readAllOf 56 = .ok (.iconst 0, 1) := by decide +kernel
theorem dX4_readAllOf_57 : decode cX4_readAllOf 57 = .ok (.invokevirtual 86, 3) := by decide +kernel
theorem dX4_readAllOf_60 : decode cX4_readAllOf 60 = .ok (.istore_n 2, 1) := by decide +kernel
theorem dX4_readAllOf_61 : decode cX4_readAllOf 61 = .ok (.aload_n 0, 1) := by decide +kernel
theorem dX4_readAllOf_62 : decode cX4_readAllOf 62 = .ok (.iload_n 1, 1) := by decide +kernel
theorem dX4_readAllOf_63 : decode cX4_readAllOf 63 = .ok (.invokevirtual 89, 3) := by decide +kernel
theorem dX4_readAllOf_66 : decode cX4_readAllOf 66 = .ok (.iinc 3 1, 3) := by decide +kernel
theorem dX4_readAllOf_69 : decode cX4_readAllOf 69 = .ok (.goto (-60), 3) := by decide +kernel
theorem dX4_readAllOf_72 : decode cX4_readAllOf 72 = .ok (.aload_n 0, 1) := by decide +kernel
theorem dX4_readAllOf_73 : decode cX4_readAllOf 73 = .ok (.getfield 18, 3) := by decide +kernel
theorem dX4_readAllOf_76 : decode cX4_readAllOf 76 = .ok (.iload_n 2, 1) := by decide +kernel
theorem dX4_readAllOf_77 : decode cX4_readAllOf 77 = .ok (.invokevirtual 83, 3) := by decide +kernel
theorem dX4_readAllOf_80 : decode cX4_readAllOf 80 = .ok (.return_, 1) := by decide +kernel
theorem dX4_readAnyOf_0 : decode cX4_readAnyOf 0 = .ok (.aload_n 0, 1) := by decide +kernel
theorem dX4_readAnyOf_1 : decode cX4_readAnyOf 1 = .ok (.iload_n 1, 1) := by decide +kernel
theorem dX4_readAnyOf_2 : decode cX4_readAnyOf 2 = .ok (.invokevirtual 80, 3) := by decide +kernel
theorem dX4_readAnyOf_5 : decode cX4_readAnyOf 5 = .ok (.iconst (-1), 1) := by decide +kernel
theorem dX4_readAnyOf_6 : decode cX4_readAnyOf 6 = .ok (.istore_n 2, 1) := by decide +kernel
theorem dX4_readAnyOf_7 : decode cX4_readAnyOf 7 = .ok (.iconst 0, 1) := by decide +kernel
theorem dX4_readAnyOf_8 : decode cX4_readAnyOf 8 = .ok (.istore_n 3, 1) := by decide +kernel
theorem dX4_readAnyOf_9 : decode cX4_readAnyOf 9 = .ok (.iload_n 3, 1) := by decide +kernel
theorem dX4_readAnyOf_10 : decode cX4_readAnyOf 10 = .ok (.sipush 200, 3) := by decide +kernel
theorem dX4_readAnyOf_13 : decode cX4_readAnyOf 13 = .ok (.if_icmp .ge 59, 3) := by decide +kernel
theorem dX4_readAnyOf_16 : decode cX4_readAnyOf 16 = .ok (.aload_n 0, 1) := by decide +kernel
theorem dX4_readAnyOf_17 : decode cX4_readAnyOf 17 = .ok (.getfield 38, 3) := by decide +kernel
theorem dX4_readAnyOf_20 : decode cX4_readAnyOf 20 = .ok (.ifCond .ne 52, 3) := by decide +kernel
theorem dX4_readAnyOf_23 : decode cX4_readAnyOf 23 = .ok (.aload_n 0, 1) := by decide +kernel
theorem dX4_readAnyOf_24 : decode cX4_readAnyOf 24 = .ok (.invokevirtual 61, 3) := by decide +kernel
theorem dX4_readAnyOf_27 : decode cX4_readAnyOf 27 = .ok (.bipush 124, 2) := by decide +kernel
theorem dX4_readAnyOf_29 : decode cX4_readAnyOf 29 = .ok (.if_icmp .ne 43, 3) := by decide +kernel
theorem dX4_readAnyOf_32 : decode cX4_readAnyOf 32 = .ok (.aload_n 0, 1) := by decide +kernel
theorem dX4_readAnyOf_33 : decode cX4_readAnyOf 33 = .ok (.dup, 1) := by decide +kernel
theorem dX4_readAnyOf_34 : decode cX4_readAnyOf 34 = .ok (.getfield 35, 3) := by decide +kernel
theorem dX4_readAnyOf_37 : decode cX4_readAnyOf 37 = .ok (.iconst 1, 1) := by decide +kernel
theorem dX4_readAnyOf_38 : decode cX4_readAnyOf 38 = .ok (.iadd, 1) := by decide +kernel
theorem dX4_readAnyOf_39 : decode cX4_readAnyOf 39 = .ok (.putfield 35, 3) := by decide +kernel
theorem dX4_readAnyOf_42 : decode cX4_readAnyOf 42 = .ok (.aload_n 0, 1) := by decide +kernel
theorem dX4_readAnyOf_43 : decode cX4_readAnyOf 43 = .ok (.getfield 18, 3) := by decide +kernel
theorem dX4_readAnyOf_46 : decode cX4_readAnyOf 46 = .ok (.iload_n 2, 1) := by decide +kernel
theorem dX4_readAnyOf_47 : decode cX4_readAnyOf 47 = .ok (.invokevirtual 83, 3) := by decide +kernel
theorem dX4_readAnyOf_50 : decode cX4_readAnyOf 50 = .ok (.aload_n 0, 1) := by decide +kernel
theorem dX4_readAnyOf_51 : decode cX4_readAnyOf 51 = .ok (.getfield 18, 3) := by decide +kernel
theorem dX4_readAnyOf_54 : decode cX4_readAnyOf 54 = .ok (.bipush 124, 2) := by decide +kernel
theorem dX4_readAnyOf_56 : decode cX4_readAnyOf 56 = .ok (.iconst 0, 1) := by decide +kernel
theorem dX4_readAnyOf_57 : decode cX4_readAnyOf 57 = .ok (.invokevirtual 86, 3) := by decide +kernel
theorem dX4_readAnyOf_60 : decode cX4_readAnyOf 60 = .ok (.istore_n 2, 1) := by decide +kernel
theorem dX4_readAnyOf_61 : decode cX4_readAnyOf 61 = .ok (.aload_n 0, 1) := by decide +kernel
theorem dX4_readAnyOf_62 : decode cX4_readAnyOf 62 = .ok (.iload_n 1, 1) := by decide +kernel
theorem dX4_readAnyOf_63 : decode cX4_readAnyOf 63 = .ok (.invokevirtual 80, 3) := by decide +kernel
theorem dX4_readAnyOf_66 : decode cX4_readAnyOf 66 = .ok (.iinc 3 1, 3) := by decide +kernel
theorem dX4_readAnyOf_69 : decode cX4_readAnyOf 69 = .ok (.goto (-60), 3) := by decide +kernel
theorem dX4_readAnyOf_72 : decode cX4_readAnyOf 72 = .ok (.aload_n 0, 1) := by decide +kernel
theorem dX4_readAnyOf_73 : decode cX4_readAnyOf 73 = .ok (.getfield 18, 3) := by decide +kernel
theorem dX4_readAnyOf_76 : decode cX4_readAnyOf 76 = .ok (.iload_n 2, 1) := by decide +kernel
theorem dX4_readAnyOf_77 : decode cX4_readAnyOf 77 = .ok (.invokevirtual 83, 3) := by decide +kernel
theorem dX4_readAnyOf_80 : decode cX4_readAnyOf 80 = .ok (.return_, 1) := by decide +kernel
/-! f_X11_within -/
noncomputable def f_X11_within (a1 : Int32) (a2 : Int32) (s0 : SS) : Option Int32 := if (a1 : Int32) < 0 then some 0 else if (a2 : Int32) < (a1 : Int32) then some 0 else some 1
set_option maxRecDepth 100000 in
set_option maxHeartbeats 4000000 in
theorem c_X11_within {l : Launch} (a1 : Int32) (a2 : Int32) (s0 : SS) : Ct l wF yX11_within cX11_within 2 (some .boolean) 0 [.int a1, .int a2] s0 (pu (f_X11_within a1 a2 s0) s0) := by
  refine ct_of (y := yX11_within) plX11 (Nat.le_of_ble_eq_true rfl) ?_
  refine r_pad0 0 (L1 := [.int a1, .int a2]) rfl ?_
  unfold f_X11_within
  refine r_iload_n (pc1 := 1) (i := 0) dX11_within_0 rfl rfl rfl ?_
  refine p_if_lt (tgt := 13) (pc1 := 4) dX11_within_1 (by decide) rfl (fun q1 => ?_) (fun q1 => ?_)
  · refine r_iconst (v := 0) (pc1 := 14) dX11_within_13 ki_0 rfl ?_
    exact p_iret rfl rfl dX11_within_14
  · refine r_iload_n (pc1 := 5) (i := 0) dX11_within_4 rfl rfl rfl ?_
    refine r_iload_n (pc1 := 6) (i := 1) dX11_within_5 rfl rfl rfl ?_
    refine p_icmp_gt (tgt := 13) (pc1 := 9) dX11_within_6 (by decide) rfl (fun q2 => ?_) (fun q2 => ?_)
    · refine r_iconst (v := 0) (pc1 := 14) dX11_within_13 ki_0 rfl ?_
      exact p_iret rfl rfl dX11_within_14
    · refine r_iconst (v := 1) (pc1 := 10) dX11_within_9 ki_1 rfl ?_
      refine r_goto (tgt := 14) dX11_within_10 (by decide) ?_
      exact p_iret rfl rfl dX11_within_14
/-! f_X10_lawCount -/
noncomputable def f_X10_lawCount  (s0 : SS) : Option Int32 := some (s0 27 9)
set_option maxRecDepth 100000 in
set_option maxHeartbeats 4000000 in
theorem c_X10_lawCount {l : Launch}  (s0 : SS) : Ct l wF yX10_lawCount cX10_lawCount 1 (some .int) 0 [.ref 27] s0 (pu (f_X10_lawCount s0) s0) := by
  refine ct_of (y := yX10_lawCount) plX10 (Nat.le_of_ble_eq_true rfl) ?_
  refine r_pad0 0 (L1 := [.ref 27]) rfl ?_
  unfold f_X10_lawCount
  refine r_aload_n (pc1 := 1) (i := 0) dX10_lawCount_0 rfl rfl rfl ?_
  refine r_getI (pc1 := 4) w_27 gfX10_44 rfl dX10_lawCount_1 rfl ?_
  exact p_iret rfl rfl dX10_lawCount_4
/-! f_X10_forget -/
noncomputable def f_X10_forget  (s0 : SS) : Res := lts (up s0 27 10 1) (fun (s1 : SS) => some (0, s1))
set_option maxRecDepth 100000 in
set_option maxHeartbeats 4000000 in
theorem c_X10_forget {l : Launch}  (s0 : SS) : Ct l wF yX10_forget cX10_forget 1 none 0 [.ref 27] s0 (f_X10_forget s0) := by
  refine ct_of (y := yX10_forget) plX10 (Nat.le_of_ble_eq_true rfl) ?_
  refine r_pad0 0 (L1 := [.ref 27]) rfl ?_
  unfold f_X10_forget
  refine r_aload_n (pc1 := 1) (i := 0) dX10_forget_0 rfl rfl rfl ?_
  refine r_iconst (v := 1) (pc1 := 2) dX10_forget_1 ki_1 rfl ?_
  refine r_putI (pc1 := 5) w_27 pfX10_59 rfl ⟨rfl, rfl⟩ dX10_forget_2 rfl ?_
  refine r_lts (fun s1 => ?_)
  exact r_vret rfl dX10_forget_5
/-! f_X10_addLaw -/
noncomputable def f_X10_addLaw (a1 : Int32) (a2 : Int32) (a3 : Int32) (a4 : Int32) (s0 : SS) : Res := if (s0 27 9 : Int32) < 0 then some ((-1), s0) else if (s0 27 9 : Int32) < (8 : Int32) then gd (inb (s0 27 9) 8) (lts (up s0 28 (Int32.toNatClampNeg (s0 27 9)) a1) (fun (s3 : SS) => gd (inb (s3 27 9) 8) (lts (up s3 29 (Int32.toNatClampNeg (s3 27 9)) a2) (fun (s4 : SS) => gd (inb (s4 27 9) 8) (lts (up s4 30 (Int32.toNatClampNeg (s4 27 9)) a3) (fun (s5 : SS) => gd (inb (s5 27 9) 8) (lts (up s5 31 (Int32.toNatClampNeg (s5 27 9)) a4) (fun (s6 : SS) => lts (up s6 27 9 ((s6 27 9) + 1)) (fun (s7 : SS) => bd (f_X10_forget s7) (fun (v8 : Int32) (s9 : SS) => some ((s9 27 9) - 1, s9))))))))))) else some ((-1), s0)
set_option maxRecDepth 100000 in
set_option maxHeartbeats 4000000 in
theorem c_X10_addLaw {l : Launch} (a1 : Int32) (a2 : Int32) (a3 : Int32) (a4 : Int32) (s0 : SS) : Ct l wF yX10_addLaw cX10_addLaw 5 (some .int) 1 [.ref 27, .int a1, .int a2, .int a3, .int a4] s0 (f_X10_addLaw a1 a2 a3 a4 s0) := by
  refine ct_of (y := yX10_addLaw) plX10 (Nat.le_of_ble_eq_true rfl) ?_
  refine r_pad0 0 (L1 := [.ref 27, .int a1, .int a2, .int a3, .int a4]) rfl ?_
  unfold f_X10_addLaw
  refine r_aload_n (pc1 := 1) (i := 0) dX10_addLaw_0 rfl rfl rfl ?_
  refine r_getI (pc1 := 4) w_27 gfX10_44 rfl dX10_addLaw_1 rfl ?_
  refine r_if_lt (tgt := 16) (pc1 := 7) dX10_addLaw_4 (by decide) rfl (fun q1 => ?_) (fun q1 => ?_)
  · refine r_iconst (v := (-1)) (pc1 := 17) dX10_addLaw_16 ki_m1 rfl ?_
    exact r_iret rfl rfl dX10_addLaw_17
  · refine r_aload_n (pc1 := 8) (i := 0) dX10_addLaw_7 rfl rfl rfl ?_
    refine r_getI (pc1 := 11) w_27 gfX10_44 rfl dX10_addLaw_8 rfl ?_
    refine r_bipush (v := 8) (pc1 := 13) dX10_addLaw_11 kb_8 rfl ?_
    refine r_icmp_lt (tgt := 18) (pc1 := 16) dX10_addLaw_13 (by decide) rfl (fun q2 => ?_) (fun q2 => ?_)
    · refine r_aload_n (pc1 := 19) (i := 0) dX10_addLaw_18 rfl rfl rfl ?_
      refine r_getR (pc1 := 22) w_27 gfX10_9 rfl dX10_addLaw_19 rfl ?_
      refine r_aload_n (pc1 := 23) (i := 0) dX10_addLaw_22 rfl rfl rfl ?_
      refine r_getI (pc1 := 26) w_27 gfX10_44 rfl dX10_addLaw_23 rfl ?_
      refine r_iload_n (pc1 := 27) (i := 1) dX10_addLaw_26 rfl rfl rfl ?_
      refine r_iast (pc1 := 28) w_28 dX10_addLaw_27 rfl ?_
      refine r_lts (fun s3 => ?_)
      refine r_aload_n (pc1 := 29) (i := 0) dX10_addLaw_28 rfl rfl rfl ?_
      refine r_getR (pc1 := 32) w_27 gfX10_15 rfl dX10_addLaw_29 rfl ?_
      refine r_aload_n (pc1 := 33) (i := 0) dX10_addLaw_32 rfl rfl rfl ?_
      refine r_getI (pc1 := 36) w_27 gfX10_44 rfl dX10_addLaw_33 rfl ?_
      refine r_iload_n (pc1 := 37) (i := 2) dX10_addLaw_36 rfl rfl rfl ?_
      refine r_iast (pc1 := 38) w_29 dX10_addLaw_37 rfl ?_
      refine r_lts (fun s4 => ?_)
      refine r_aload_n (pc1 := 39) (i := 0) dX10_addLaw_38 rfl rfl rfl ?_
      refine r_getR (pc1 := 42) w_27 gfX10_18 rfl dX10_addLaw_39 rfl ?_
      refine r_aload_n (pc1 := 43) (i := 0) dX10_addLaw_42 rfl rfl rfl ?_
      refine r_getI (pc1 := 46) w_27 gfX10_44 rfl dX10_addLaw_43 rfl ?_
      refine r_iload_n (pc1 := 47) (i := 3) dX10_addLaw_46 rfl rfl rfl ?_
      refine r_iast (pc1 := 48) w_30 dX10_addLaw_47 rfl ?_
      refine r_lts (fun s5 => ?_)
      refine r_aload_n (pc1 := 49) (i := 0) dX10_addLaw_48 rfl rfl rfl ?_
      refine r_getR (pc1 := 52) w_27 gfX10_21 rfl dX10_addLaw_49 rfl ?_
      refine r_aload_n (pc1 := 53) (i := 0) dX10_addLaw_52 rfl rfl rfl ?_
      refine r_getI (pc1 := 56) w_27 gfX10_44 rfl dX10_addLaw_53 rfl ?_
      refine r_iload (pc1 := 58) dX10_addLaw_56 rfl rfl ?_
      refine r_iast (pc1 := 59) w_31 dX10_addLaw_58 rfl ?_
      refine r_lts (fun s6 => ?_)
      refine r_aload_n (pc1 := 60) (i := 0) dX10_addLaw_59 rfl rfl rfl ?_
      refine r_dup (pc1 := 61) dX10_addLaw_60 rfl rfl ?_
      refine r_getI (pc1 := 64) w_27 gfX10_44 rfl dX10_addLaw_61 rfl ?_
      refine r_iconst (v := 1) (pc1 := 65) dX10_addLaw_64 ki_1 rfl ?_
      refine r_iadd (pc1 := 66) dX10_addLaw_65 rfl ?_
      refine r_putI (pc1 := 69) w_27 pfX10_44 rfl ⟨rfl, rfl⟩ dX10_addLaw_66 rfl ?_
      refine r_lts (fun s7 => ?_)
      refine r_aload_n (pc1 := 70) (i := 0) dX10_addLaw_69 rfl rfl rfl ?_
      refine r_callVv (pc1 := 73) (rv_of w_27 cl_10) lkX10_56 (c_X10_forget _) rfl rfl ⟨Nat.le_of_ble_eq_true rfl, Nat.le_of_ble_eq_true rfl⟩ (Nat.le_of_ble_eq_true rfl) dX10_addLaw_70 rfl (fun v8 s9 => ?_)
      refine r_aload_n (pc1 := 74) (i := 0) dX10_addLaw_73 rfl rfl rfl ?_
      refine r_getI (pc1 := 77) w_27 gfX10_44 rfl dX10_addLaw_74 rfl ?_
      refine r_iconst (v := 1) (pc1 := 78) dX10_addLaw_77 ki_1 rfl ?_
      refine r_isub (pc1 := 79) dX10_addLaw_78 rfl ?_
      exact r_iret rfl rfl dX10_addLaw_79
    · refine r_iconst (v := (-1)) (pc1 := 17) dX10_addLaw_16 ki_m1 rfl ?_
      exact r_iret rfl rfl dX10_addLaw_17
/-! f_X11_law -/
noncomputable def f_X11_law (a1 : Int32) (a2 : Int32) (a3 : Int32) (a4 : Int32) (s0 : SS) : Res := bdp (f_X11_within a1 9 s0) (fun (v1 : Int32) => jn (fun (v2 : Int32) => if (v2 : Int32) = 0 then some ((-1), s0) else bdp (f_X10_lawCount s0) (fun (v5 : Int32) => if (v5 : Int32) < (8 : Int32) then lts (up s0 0 15 ((s0 0 15) + 1)) (fun (s7 : SS) => bd (f_X10_addLaw a1 a2 a3 a4 s7) (fun (v8 : Int32) (s9 : SS) => some (v8, s9))) else some ((-1), s0))) (fun (k3 : Int32 → Res) => jn (k3 0) (fun (k10 : Res) => if (v1 : Int32) = 0 then k10 else bdp (f_X11_within a2 255 s0) (fun (v12 : Int32) => if (v12 : Int32) = 0 then k10 else bdp (f_X11_within a3 255 s0) (fun (v14 : Int32) => if (v14 : Int32) = 0 then k10 else bdp (f_X11_within a4 15 s0) (fun (v16 : Int32) => if (v16 : Int32) = 0 then k10 else k3 1))))))
set_option maxRecDepth 100000 in
set_option maxHeartbeats 4000000 in
theorem c_X11_law {l : Launch} (a1 : Int32) (a2 : Int32) (a3 : Int32) (a4 : Int32) (s0 : SS) : Ct l wF yX11_law cX11_law 6 (some .int) 2 [.ref 0, .int a1, .int a2, .int a3, .int a4] s0 (f_X11_law a1 a2 a3 a4 s0) := by
  refine ct_of (y := yX11_law) plX11 (Nat.le_of_ble_eq_true rfl) ?_
  refine r_pad0 1 (L1 := [.ref 0, .int a1, .int a2, .int a3, .int a4, .null]) rfl ?_
  unfold f_X11_law
  refine r_iload_n (pc1 := 1) (i := 1) dX11_law_0 rfl rfl rfl ?_
  refine r_bipush (v := 9) (pc1 := 3) dX11_law_1 kb_9 rfl ?_
  refine r_callSp (pc1 := 6) lkX11_102 (c_X11_within _ _ _) rfl rfl ⟨Nat.le_of_ble_eq_true rfl, Nat.le_of_ble_eq_true rfl⟩ (Nat.le_of_ble_eq_true rfl) dX11_law_3 rfl (fun v1 => ?_)
  refine r_jn (hyp := fun (k3 : Int32 → Res) => ∀ (v2 : Int32), RC l wF RX11 cX11_law 6 (some .int) 2 44 [.ref 0, .int a1, .int a2, .int a3, .int a4, .null] [.int v2] s0 (k3 v2)) (fun v2 => ?_) (fun k3 hk3 => ?_)
  · refine r_istore (pc1 := 46) dX11_law_44 (by decide) rfl rfl rfl ?_
    refine r_iload (pc1 := 48) dX11_law_46 rfl rfl ?_
    refine r_if_eq (tgt := 63) (pc1 := 51) dX11_law_48 (by decide) rfl (fun q4 => ?_) (fun q4 => ?_)
    · refine r_iconst (v := (-1)) (pc1 := 64) dX11_law_63 ki_m1 rfl ?_
      exact r_iret rfl rfl dX11_law_64
    · refine r_aload_n (pc1 := 52) (i := 0) dX11_law_51 rfl rfl rfl ?_
      refine r_getR (pc1 := 55) w_0 gfX11_42 rfl dX11_law_52 rfl ?_
      refine r_callVp (pc1 := 58) (rv_of w_27 cl_10) lkX11_106 (c_X10_lawCount _) rfl rfl ⟨Nat.le_of_ble_eq_true rfl, Nat.le_of_ble_eq_true rfl⟩ (Nat.le_of_ble_eq_true rfl) dX11_law_55 rfl (fun v5 => ?_)
      refine r_bipush (v := 8) (pc1 := 60) dX11_law_58 kb_8 rfl ?_
      refine r_icmp_lt (tgt := 65) (pc1 := 63) dX11_law_60 (by decide) rfl (fun q6 => ?_) (fun q6 => ?_)
      · refine r_aload_n (pc1 := 66) (i := 0) dX11_law_65 rfl rfl rfl ?_
        refine r_dup (pc1 := 67) dX11_law_66 rfl rfl ?_
        refine r_getI (pc1 := 70) w_0 gfX11_110 rfl dX11_law_67 rfl ?_
        refine r_iconst (v := 1) (pc1 := 71) dX11_law_70 ki_1 rfl ?_
        refine r_iadd (pc1 := 72) dX11_law_71 rfl ?_
        refine r_putI (pc1 := 75) w_0 pfX11_110 rfl ⟨rfl, rfl⟩ dX11_law_72 rfl ?_
        refine r_lts (fun s7 => ?_)
        refine r_aload_n (pc1 := 76) (i := 0) dX11_law_75 rfl rfl rfl ?_
        refine r_getR (pc1 := 79) w_0 gfX11_42 rfl dX11_law_76 rfl ?_
        refine r_iload_n (pc1 := 80) (i := 1) dX11_law_79 rfl rfl rfl ?_
        refine r_iload_n (pc1 := 81) (i := 2) dX11_law_80 rfl rfl rfl ?_
        refine r_iload_n (pc1 := 82) (i := 3) dX11_law_81 rfl rfl rfl ?_
        refine r_iload (pc1 := 84) dX11_law_82 rfl rfl ?_
        refine r_callVi (pc1 := 87) (rv_of w_27 cl_10) lkX11_114 (c_X10_addLaw _ _ _ _ _) rfl rfl ⟨Nat.le_of_ble_eq_true rfl, Nat.le_of_ble_eq_true rfl⟩ (Nat.le_of_ble_eq_true rfl) dX11_law_84 rfl (fun v8 s9 => ?_)
        exact r_iret rfl rfl dX11_law_87
      · refine r_iconst (v := (-1)) (pc1 := 64) dX11_law_63 ki_m1 rfl ?_
        exact r_iret rfl rfl dX11_law_64
  · refine r_jn (hyp := fun (k10 : Res) => RC l wF RX11 cX11_law 6 (some .int) 2 43 [.ref 0, .int a1, .int a2, .int a3, .int a4, .null] [] s0 k10) (?_) (fun k10 hk10 => ?_)
    · refine r_iconst (v := 0) (pc1 := 44) dX11_law_43 ki_0 rfl ?_
      exact r_wk (hk3 0) ⟨Or.inr rfl, Or.inr rfl, Or.inr rfl, Or.inr rfl, Or.inr rfl, Or.inl rfl, trivial⟩
    · refine r_if_eq (tgt := 43) (pc1 := 9) dX11_law_6 (by decide) rfl (fun q11 => ?_) (fun q11 => ?_)
      · exact r_wk (hk10) ⟨Or.inr rfl, Or.inr rfl, Or.inr rfl, Or.inr rfl, Or.inr rfl, Or.inl rfl, trivial⟩
      · refine r_iload_n (pc1 := 10) (i := 2) dX11_law_9 rfl rfl rfl ?_
        refine r_sipush (v := 255) (pc1 := 13) dX11_law_10 ks_255 rfl ?_
        refine r_callSp (pc1 := 16) lkX11_102 (c_X11_within _ _ _) rfl rfl ⟨Nat.le_of_ble_eq_true rfl, Nat.le_of_ble_eq_true rfl⟩ (Nat.le_of_ble_eq_true rfl) dX11_law_13 rfl (fun v12 => ?_)
        refine r_if_eq (tgt := 43) (pc1 := 19) dX11_law_16 (by decide) rfl (fun q13 => ?_) (fun q13 => ?_)
        · exact r_wk (hk10) ⟨Or.inr rfl, Or.inr rfl, Or.inr rfl, Or.inr rfl, Or.inr rfl, Or.inl rfl, trivial⟩
        · refine r_iload_n (pc1 := 20) (i := 3) dX11_law_19 rfl rfl rfl ?_
          refine r_sipush (v := 255) (pc1 := 23) dX11_law_20 ks_255 rfl ?_
          refine r_callSp (pc1 := 26) lkX11_102 (c_X11_within _ _ _) rfl rfl ⟨Nat.le_of_ble_eq_true rfl, Nat.le_of_ble_eq_true rfl⟩ (Nat.le_of_ble_eq_true rfl) dX11_law_23 rfl (fun v14 => ?_)
          refine r_if_eq (tgt := 43) (pc1 := 29) dX11_law_26 (by decide) rfl (fun q15 => ?_) (fun q15 => ?_)
          · exact r_wk (hk10) ⟨Or.inr rfl, Or.inr rfl, Or.inr rfl, Or.inr rfl, Or.inr rfl, Or.inl rfl, trivial⟩
          · refine r_iload (pc1 := 31) dX11_law_29 rfl rfl ?_
            refine r_bipush (v := 15) (pc1 := 33) dX11_law_31 kb_15 rfl ?_
            refine r_callSp (pc1 := 36) lkX11_102 (c_X11_within _ _ _) rfl rfl ⟨Nat.le_of_ble_eq_true rfl, Nat.le_of_ble_eq_true rfl⟩ (Nat.le_of_ble_eq_true rfl) dX11_law_33 rfl (fun v16 => ?_)
            refine r_if_eq (tgt := 43) (pc1 := 39) dX11_law_36 (by decide) rfl (fun q17 => ?_) (fun q17 => ?_)
            · exact r_wk (hk10) ⟨Or.inr rfl, Or.inr rfl, Or.inr rfl, Or.inr rfl, Or.inr rfl, Or.inl rfl, trivial⟩
            · refine r_iconst (v := 1) (pc1 := 40) dX11_law_39 ki_1 rfl ?_
              refine r_goto (tgt := 44) dX11_law_40 (by decide) ?_
              exact r_wk (hk3 1) ⟨Or.inr rfl, Or.inr rfl, Or.inr rfl, Or.inr rfl, Or.inr rfl, Or.inl rfl, trivial⟩
/-! f_X6_bareOf -/
noncomputable def f_X6_bareOf (a1 : Int32) (s0 : SS) : Option Int32 := jn (some 5348) (fun (k1 : Option Int32) => if (a1 : Int32) < 0 then k1 else if (a1 : Int32) < (6 : Int32) then gd (inb a1 6) (some (bareF (Int32.toNatClampNeg a1))) else k1)
set_option maxRecDepth 100000 in
set_option maxHeartbeats 4000000 in
theorem c_X6_bareOf {l : Launch} {wl : WT} (w_3 : WI wl 3 (OE 6 [some 4, some 8])) (w_4 : WI wl 4 (AE 0 5348)) (w_8 : WI wl 8 (AE 0 5348)) (a1 : Int32) (s0 : SS) : Ct l wl yX6_bareOf cX6_bareOf 1 (some .int) 0 [.int a1] s0 (pu (f_X6_bareOf a1 s0) s0) := by
  refine ct_of (y := yX6_bareOf) plX6 (Nat.le_of_ble_eq_true rfl) ?_
  refine r_pad0 0 (L1 := [.int a1]) rfl ?_
  unfold f_X6_bareOf
  refine r_iload_n (pc1 := 1) (i := 0) dX6_bareOf_0 rfl rfl rfl ?_
  refine p_jn (hyp := fun (k1 : Option Int32) => RC l wl RX6 cX6_bareOf 1 (some .int) 0 12 [.null] [] s0 (pu k1 s0)) (?_) (fun k1 hk1 => ?_)
  · refine r_sipush (v := 5348) (pc1 := 15) dX6_bareOf_12 ks_5348 rfl ?_
    refine r_goto (tgt := 23) dX6_bareOf_15 (by decide) ?_
    exact p_iret rfl rfl dX6_bareOf_23
  · refine p_if_lt (tgt := 12) (pc1 := 4) dX6_bareOf_1 (by decide) rfl (fun q2 => ?_) (fun q2 => ?_)
    · exact r_wk (hk1) ⟨Or.inl rfl, trivial⟩
    · refine r_iload_n (pc1 := 5) (i := 0) dX6_bareOf_4 rfl rfl rfl ?_
      refine r_bare (pc1 := 8) bareX6_35 dX6_bareOf_5 rfl ?_
      refine r_bareLen (v := 6) (pc1 := 9) rfl dX6_bareOf_8 rfl ?_
      refine p_icmp_lt (tgt := 18) (pc1 := 12) dX6_bareOf_9 (by decide) rfl (fun q3 => ?_) (fun q3 => ?_)
      · refine r_bare (pc1 := 21) bareX6_35 dX6_bareOf_18 rfl ?_
        refine r_iload_n (pc1 := 22) (i := 0) dX6_bareOf_21 rfl rfl rfl ?_
        refine p_bareLd (pc1 := 23) dX6_bareOf_22 rfl ?_
        exact p_iret rfl rfl dX6_bareOf_23
      · exact r_wk (hk1) ⟨Or.inl rfl, trivial⟩
/-! f_X11_length -/
noncomputable def f_X11_length (a1 : Int32) (s0 : SS) : Res := if (a1 : Int32) < (1 : Int32) then some (0, s0) else if (a1 : Int32) ≤ (4 : Int32) then bdp (f_X6_bareOf a1 s0) (fun (v3 : Int32) => lts (up s0 52 0 v3) (fun (s4 : SS) => lts (up s4 0 14 0) (fun (s5 : SS) => some (1, s5)))) else some (0, s0)
set_option maxRecDepth 100000 in
set_option maxHeartbeats 4000000 in
theorem c_X11_length {l : Launch} (a1 : Int32) (s0 : SS) : Ct l wF yX11_length cX11_length 2 (some .boolean) 1 [.ref 0, .int a1] s0 (f_X11_length a1 s0) := by
  refine ct_of (y := yX11_length) plX11 (Nat.le_of_ble_eq_true rfl) ?_
  refine r_pad0 0 (L1 := [.ref 0, .int a1]) rfl ?_
  unfold f_X11_length
  refine r_iload_n (pc1 := 1) (i := 1) dX11_length_0 rfl rfl rfl ?_
  refine r_iconst (v := 1) (pc1 := 2) dX11_length_1 ki_1 rfl ?_
  refine r_icmp_lt (tgt := 10) (pc1 := 5) dX11_length_2 (by decide) rfl (fun q1 => ?_) (fun q1 => ?_)
  · refine r_iconst (v := 0) (pc1 := 11) dX11_length_10 ki_0 rfl ?_
    exact r_iret rfl rfl dX11_length_11
  · refine r_iload_n (pc1 := 6) (i := 1) dX11_length_5 rfl rfl rfl ?_
    refine r_iconst (v := 4) (pc1 := 7) dX11_length_6 ki_4 rfl ?_
    refine r_icmp_le (tgt := 12) (pc1 := 10) dX11_length_7 (by decide) rfl (fun q2 => ?_) (fun q2 => ?_)
    · refine r_aload_n (pc1 := 13) (i := 0) dX11_length_12 rfl rfl rfl ?_
      refine r_getR (pc1 := 16) w_0 gfX11_88 rfl dX11_length_13 rfl ?_
      refine r_iload_n (pc1 := 17) (i := 1) dX11_length_16 rfl rfl rfl ?_
      refine r_callSp (pc1 := 20) lkX11_118 (c_X6_bareOf w_3 w_4 w_8 _ _) rfl rfl ⟨Nat.le_of_ble_eq_true rfl, Nat.le_of_ble_eq_true rfl⟩ (Nat.le_of_ble_eq_true rfl) dX11_length_17 rfl (fun v3 => ?_)
      refine r_putI (pc1 := 23) w_52 pfX11_122 rfl ⟨rfl, rfl⟩ dX11_length_20 rfl ?_
      refine r_lts (fun s4 => ?_)
      refine r_aload_n (pc1 := 24) (i := 0) dX11_length_23 rfl rfl rfl ?_
      refine r_iconst (v := 0) (pc1 := 25) dX11_length_24 ki_0 rfl ?_
      refine r_putI (pc1 := 28) w_0 pfX11_125 rfl ⟨rfl, rfl⟩ dX11_length_25 rfl ?_
      refine r_lts (fun s5 => ?_)
      refine r_iconst (v := 1) (pc1 := 29) dX11_length_28 ki_1 rfl ?_
      exact r_iret rfl rfl dX11_length_29
    · refine r_iconst (v := 0) (pc1 := 11) dX11_length_10 ki_0 rfl ?_
      exact r_iret rfl rfl dX11_length_11
/-! f_X9_size -/
noncomputable def f_X9_size  (s0 : SS) : Option Int32 := some (s0 1 1)
set_option maxRecDepth 100000 in
set_option maxHeartbeats 4000000 in
theorem c_X9_size {l : Launch}  (s0 : SS) : Ct l wF yX9_size cX9_size 1 (some .int) 0 [.ref 1] s0 (pu (f_X9_size s0) s0) := by
  refine ct_of (y := yX9_size) plX9 (Nat.le_of_ble_eq_true rfl) ?_
  refine r_pad0 0 (L1 := [.ref 1]) rfl ?_
  unfold f_X9_size
  refine r_aload_n (pc1 := 1) (i := 0) dX9_size_0 rfl rfl rfl ?_
  refine r_getI (pc1 := 4) w_1 gfX9_15 rfl dX9_size_1 rfl ?_
  exact p_iret rfl rfl dX9_size_4
/-! f_X9_byteOn -/
noncomputable def f_X9_byteOn (a1 : Int32) (s0 : SS) : Option Int32 := if (a1 : Int32) < 0 then some ((-1)) else if (s0 1 1 : Int32) ≤ (a1 : Int32) then some ((-1)) else if (220 : Int32) ≤ (a1 : Int32) then some ((-1)) else gd (inb a1 220) (some (s0 2 (Int32.toNatClampNeg a1)))
set_option maxRecDepth 100000 in
set_option maxHeartbeats 4000000 in
theorem c_X9_byteOn {l : Launch} (a1 : Int32) (s0 : SS) : Ct l wF yX9_byteOn cX9_byteOn 2 (some .int) 0 [.ref 1, .int a1] s0 (pu (f_X9_byteOn a1 s0) s0) := by
  refine ct_of (y := yX9_byteOn) plX9 (Nat.le_of_ble_eq_true rfl) ?_
  refine r_pad0 0 (L1 := [.ref 1, .int a1]) rfl ?_
  unfold f_X9_byteOn
  refine r_iload_n (pc1 := 1) (i := 1) dX9_byteOn_0 rfl rfl rfl ?_
  refine p_if_lt (tgt := 28) (pc1 := 4) dX9_byteOn_1 (by decide) rfl (fun q1 => ?_) (fun q1 => ?_)
  · refine r_iconst (v := (-1)) (pc1 := 29) dX9_byteOn_28 ki_m1 rfl ?_
    exact p_iret rfl rfl dX9_byteOn_29
  · refine r_iload_n (pc1 := 5) (i := 1) dX9_byteOn_4 rfl rfl rfl ?_
    refine r_aload_n (pc1 := 6) (i := 0) dX9_byteOn_5 rfl rfl rfl ?_
    refine r_getI (pc1 := 9) w_1 gfX9_15 rfl dX9_byteOn_6 rfl ?_
    refine p_icmp_ge (tgt := 28) (pc1 := 12) dX9_byteOn_9 (by decide) rfl (fun q2 => ?_) (fun q2 => ?_)
    · refine r_iconst (v := (-1)) (pc1 := 29) dX9_byteOn_28 ki_m1 rfl ?_
      exact p_iret rfl rfl dX9_byteOn_29
    · refine r_iload_n (pc1 := 13) (i := 1) dX9_byteOn_12 rfl rfl rfl ?_
      refine r_sipush (v := 220) (pc1 := 16) dX9_byteOn_13 ks_220 rfl ?_
      refine p_icmp_ge (tgt := 28) (pc1 := 19) dX9_byteOn_16 (by decide) rfl (fun q3 => ?_) (fun q3 => ?_)
      · refine r_iconst (v := (-1)) (pc1 := 29) dX9_byteOn_28 ki_m1 rfl ?_
        exact p_iret rfl rfl dX9_byteOn_29
      · refine r_aload_n (pc1 := 20) (i := 0) dX9_byteOn_19 rfl rfl rfl ?_
        refine r_getR (pc1 := 23) w_1 gfX9_11 rfl dX9_byteOn_20 rfl ?_
        refine r_iload_n (pc1 := 24) (i := 1) dX9_byteOn_23 rfl rfl rfl ?_
        refine p_iald (pc1 := 25) w_2 dX9_byteOn_24 rfl ?_
        refine r_goto (tgt := 29) dX9_byteOn_25 (by decide) ?_
        exact p_iret rfl rfl dX9_byteOn_29
/-! f_X11_isPerson -/
noncomputable def f_X11_isPerson (a1 : Int32) (s0 : SS) : Option Int32 := if (a1 : Int32) < 0 then some 0 else if (4 : Int32) ≤ (a1 : Int32) then some 0 else some 1
set_option maxRecDepth 100000 in
set_option maxHeartbeats 4000000 in
theorem c_X11_isPerson {l : Launch} (a1 : Int32) (s0 : SS) : Ct l wF yX11_isPerson cX11_isPerson 1 (some .boolean) 0 [.int a1] s0 (pu (f_X11_isPerson a1 s0) s0) := by
  refine ct_of (y := yX11_isPerson) plX11 (Nat.le_of_ble_eq_true rfl) ?_
  refine r_pad0 0 (L1 := [.int a1]) rfl ?_
  unfold f_X11_isPerson
  refine r_iload_n (pc1 := 1) (i := 0) dX11_isPerson_0 rfl rfl rfl ?_
  refine p_if_lt (tgt := 13) (pc1 := 4) dX11_isPerson_1 (by decide) rfl (fun q1 => ?_) (fun q1 => ?_)
  · refine r_iconst (v := 0) (pc1 := 14) dX11_isPerson_13 ki_0 rfl ?_
    exact p_iret rfl rfl dX11_isPerson_14
  · refine r_iload_n (pc1 := 5) (i := 0) dX11_isPerson_4 rfl rfl rfl ?_
    refine r_iconst (v := 4) (pc1 := 6) dX11_isPerson_5 ki_4 rfl ?_
    refine p_icmp_ge (tgt := 13) (pc1 := 9) dX11_isPerson_6 (by decide) rfl (fun q2 => ?_) (fun q2 => ?_)
    · refine r_iconst (v := 0) (pc1 := 14) dX11_isPerson_13 ki_0 rfl ?_
      exact p_iret rfl rfl dX11_isPerson_14
    · refine r_iconst (v := 1) (pc1 := 10) dX11_isPerson_9 ki_1 rfl ?_
      refine r_goto (tgt := 14) dX11_isPerson_10 (by decide) ?_
      exact p_iret rfl rfl dX11_isPerson_14
/-! f_X2_takeRota -/
noncomputable def lp_X2_takeRota_28 (a1 : Int32) (k3 : SS → Res) : Nat → Int32 → SS → Res
  | 0, _, _ => none
  | n7 + 1, v5, s6 => if (a1 : Int32) ≤ (v5 : Int32) then k3 s6 else if (4 : Int32) ≤ (v5 : Int32) then k3 s6 else bdp (f_X9_byteOn v5 s6) (fun (v10 : Int32) => gd (inb v5 4) (lts (up s6 38 (Int32.toNatClampNeg v5) v10) (fun (s11 : SS) => lp_X2_takeRota_28 a1 k3 n7 (v5 + 1) s11)))
noncomputable def lp_X2_takeRota_2 (a1 : Int32) (s0 : SS) (k1 : Res) : Nat → Int32 → Res
  | 0, _ => none
  | n13 + 1, v12 => if (a1 : Int32) ≤ (v12 : Int32) then k1 else bdp (f_X9_byteOn v12 s0) (fun (v15 : Int32) => bdp (f_X11_isPerson v15 s0) (fun (v16 : Int32) => if (v16 : Int32) = 0 then some (0, s0) else lp_X2_takeRota_2 a1 s0 k1 n13 (v12 + 1)))
noncomputable def f_X2_takeRota (a1 : Int32) (s0 : SS) : Res := jn (jn (fun (s2 : SS) => lts (up s2 35 5 a1) (fun (s4 : SS) => some (1, s4))) (fun (k3 : SS → Res) => lp_X2_takeRota_28 a1 k3 FU 0 s0)) (fun (k1 : Res) => lp_X2_takeRota_2 a1 s0 k1 FU 0)
set_option maxRecDepth 100000 in
set_option maxHeartbeats 4000000 in
theorem t_lp_X2_takeRota_28 {l : Launch} (a1 : Int32) (k3 : SS → Res) (hk3 : ∀ (s2 : SS), RC l wF RX2 cX2_takeRota 4 (some .boolean) 1 55 [.ref 35, .ref 1, .int a1, .null] [] s2 (k3 s2)) : ∀ (n7 : Nat) (v5 : Int32) (s6 : SS), RC l wF RX2 cX2_takeRota 4 (some .boolean) 1 28 [.ref 35, .ref 1, .int a1, .int v5] [] s6 (lp_X2_takeRota_28 a1 k3 n7 v5 s6) := by
  intro n7
  induction n7 with
  | zero =>
    intro v5 s6
    rw [lp_X2_takeRota_28]
    exact r_none
  | succ n7 ih =>
    intro v5 s6
    rw [lp_X2_takeRota_28]
    refine r_iload_n (pc1 := 29) (i := 3) dX2_takeRota_28 rfl rfl rfl ?_
    refine r_iload_n (pc1 := 30) (i := 2) dX2_takeRota_29 rfl rfl rfl ?_
    refine r_icmp_ge (tgt := 55) (pc1 := 33) dX2_takeRota_30 (by decide) rfl (fun q8 => ?_) (fun q8 => ?_)
    · exact r_wk (hk3 s6) ⟨Or.inr rfl, Or.inr rfl, Or.inr rfl, Or.inl rfl, trivial⟩
    · refine r_iload_n (pc1 := 34) (i := 3) dX2_takeRota_33 rfl rfl rfl ?_
      refine r_iconst (v := 4) (pc1 := 35) dX2_takeRota_34 ki_4 rfl ?_
      refine r_icmp_ge (tgt := 55) (pc1 := 38) dX2_takeRota_35 (by decide) rfl (fun q9 => ?_) (fun q9 => ?_)
      · exact r_wk (hk3 s6) ⟨Or.inr rfl, Or.inr rfl, Or.inr rfl, Or.inl rfl, trivial⟩
      · refine r_aload_n (pc1 := 39) (i := 0) dX2_takeRota_38 rfl rfl rfl ?_
        refine r_getR (pc1 := 42) w_35 gfX2_18 rfl dX2_takeRota_39 rfl ?_
        refine r_iload_n (pc1 := 43) (i := 3) dX2_takeRota_42 rfl rfl rfl ?_
        refine r_aload_n (pc1 := 44) (i := 1) dX2_takeRota_43 rfl rfl rfl ?_
        refine r_iload_n (pc1 := 45) (i := 3) dX2_takeRota_44 rfl rfl rfl ?_
        refine r_callVp (pc1 := 48) (rv_of w_1 cl_9) lkX2_37 (c_X9_byteOn _ _) rfl rfl ⟨Nat.le_of_ble_eq_true rfl, Nat.le_of_ble_eq_true rfl⟩ (Nat.le_of_ble_eq_true rfl) dX2_takeRota_45 rfl (fun v10 => ?_)
        refine r_iast (pc1 := 49) w_38 dX2_takeRota_48 rfl ?_
        refine r_lts (fun s11 => ?_)
        refine r_iinc (pc1 := 52) dX2_takeRota_49 rfl (kn_1 _) (by decide) rfl rfl rfl ?_
        refine r_goto (tgt := 28) dX2_takeRota_52 (by decide) ?_
        exact r_wk (ih (v5 + 1) s11) ⟨Or.inr rfl, Or.inr rfl, Or.inr rfl, Or.inr rfl, trivial⟩
set_option maxRecDepth 100000 in
set_option maxHeartbeats 4000000 in
theorem t_lp_X2_takeRota_2 {l : Launch} (a1 : Int32) (s0 : SS) (k1 : Res) (hk1 : RC l wF RX2 cX2_takeRota 4 (some .boolean) 1 26 [.ref 35, .ref 1, .int a1, .null] [] s0 k1) : ∀ (n13 : Nat) (v12 : Int32), RC l wF RX2 cX2_takeRota 4 (some .boolean) 1 2 [.ref 35, .ref 1, .int a1, .int v12] [] s0 (lp_X2_takeRota_2 a1 s0 k1 n13 v12) := by
  intro n13
  induction n13 with
  | zero =>
    intro v12
    rw [lp_X2_takeRota_2]
    exact r_none
  | succ n13 ih =>
    intro v12
    rw [lp_X2_takeRota_2]
    refine r_iload_n (pc1 := 3) (i := 3) dX2_takeRota_2 rfl rfl rfl ?_
    refine r_iload_n (pc1 := 4) (i := 2) dX2_takeRota_3 rfl rfl rfl ?_
    refine r_icmp_ge (tgt := 26) (pc1 := 7) dX2_takeRota_4 (by decide) rfl (fun q14 => ?_) (fun q14 => ?_)
    · exact r_wk (hk1) ⟨Or.inr rfl, Or.inr rfl, Or.inr rfl, Or.inl rfl, trivial⟩
    · refine r_aload_n (pc1 := 8) (i := 1) dX2_takeRota_7 rfl rfl rfl ?_
      refine r_iload_n (pc1 := 9) (i := 3) dX2_takeRota_8 rfl rfl rfl ?_
      refine r_callVp (pc1 := 12) (rv_of w_1 cl_9) lkX2_37 (c_X9_byteOn _ _) rfl rfl ⟨Nat.le_of_ble_eq_true rfl, Nat.le_of_ble_eq_true rfl⟩ (Nat.le_of_ble_eq_true rfl) dX2_takeRota_9 rfl (fun v15 => ?_)
      refine r_callSNp (pc1 := 15) lkX2_33 (c_X11_isPerson _ _) rfl rfl ⟨Nat.le_of_ble_eq_true rfl, Nat.le_of_ble_eq_true rfl⟩ (Nat.le_of_ble_eq_true rfl) dX2_takeRota_12 rfl (fun v16 => ?_)
      refine r_if_ne (tgt := 20) (pc1 := 18) dX2_takeRota_15 (by decide) rfl (fun q17 => ?_) (fun q17 => ?_)
      · refine r_iconst (v := 0) (pc1 := 19) dX2_takeRota_18 ki_0 rfl ?_
        exact r_iret rfl rfl dX2_takeRota_19
      · refine r_iinc (pc1 := 23) dX2_takeRota_20 rfl (kn_1 _) (by decide) rfl rfl rfl ?_
        refine r_goto (tgt := 2) dX2_takeRota_23 (by decide) ?_
        exact r_wk (ih (v12 + 1)) ⟨Or.inr rfl, Or.inr rfl, Or.inr rfl, Or.inr rfl, trivial⟩
set_option maxRecDepth 100000 in
set_option maxHeartbeats 4000000 in
theorem c_X2_takeRota {l : Launch} (a1 : Int32) (s0 : SS) : Ct l wF yX2_takeRota cX2_takeRota 4 (some .boolean) 1 [.ref 35, .ref 1, .int a1] s0 (f_X2_takeRota a1 s0) := by
  refine ct_of (y := yX2_takeRota) plX2 (Nat.le_of_ble_eq_true rfl) ?_
  refine r_pad0 1 (L1 := [.ref 35, .ref 1, .int a1, .null]) rfl ?_
  unfold f_X2_takeRota
  refine r_iconst (v := 0) (pc1 := 1) dX2_takeRota_0 ki_0 rfl ?_
  refine r_istore_n (pc1 := 2) (i := 3) dX2_takeRota_1 rfl (by decide) rfl rfl rfl ?_
  refine r_jn (hyp := fun (k1 : Res) => RC l wF RX2 cX2_takeRota 4 (some .boolean) 1 26 [.ref 35, .ref 1, .int a1, .null] [] s0 k1) (?_) (fun k1 hk1 => ?_)
  · refine r_iconst (v := 0) (pc1 := 27) dX2_takeRota_26 ki_0 rfl ?_
    refine r_istore_n (pc1 := 28) (i := 3) dX2_takeRota_27 rfl (by decide) rfl rfl rfl ?_
    refine r_jn (hyp := fun (k3 : SS → Res) => ∀ (s2 : SS), RC l wF RX2 cX2_takeRota 4 (some .boolean) 1 55 [.ref 35, .ref 1, .int a1, .null] [] s2 (k3 s2)) (fun s2 => ?_) (fun k3 hk3 => ?_)
    · refine r_aload_n (pc1 := 56) (i := 0) dX2_takeRota_55 rfl rfl rfl ?_
      refine r_iload_n (pc1 := 57) (i := 2) dX2_takeRota_56 rfl rfl rfl ?_
      refine r_putI (pc1 := 60) w_35 pfX2_21 rfl ⟨rfl, rfl⟩ dX2_takeRota_57 rfl ?_
      refine r_lts (fun s4 => ?_)
      refine r_iconst (v := 1) (pc1 := 61) dX2_takeRota_60 ki_1 rfl ?_
      exact r_iret rfl rfl dX2_takeRota_61
    · exact r_wk (t_lp_X2_takeRota_28 a1 k3 hk3 FU 0 s0) ⟨Or.inr rfl, Or.inr rfl, Or.inr rfl, Or.inr rfl, trivial⟩
  · exact r_wk (t_lp_X2_takeRota_2 a1 s0 k1 hk1 FU 0) ⟨Or.inr rfl, Or.inr rfl, Or.inr rfl, Or.inr rfl, trivial⟩
/-! f_X9_clear -/
noncomputable def f_X9_clear  (s0 : SS) : Res := lts (up s0 1 1 0) (fun (s1 : SS) => some (0, s1))
set_option maxRecDepth 100000 in
set_option maxHeartbeats 4000000 in
theorem c_X9_clear {l : Launch}  (s0 : SS) : Ct l wF yX9_clear cX9_clear 1 none 0 [.ref 1] s0 (f_X9_clear s0) := by
  refine ct_of (y := yX9_clear) plX9 (Nat.le_of_ble_eq_true rfl) ?_
  refine r_pad0 0 (L1 := [.ref 1]) rfl ?_
  unfold f_X9_clear
  refine r_aload_n (pc1 := 1) (i := 0) dX9_clear_0 rfl rfl rfl ?_
  refine r_iconst (v := 0) (pc1 := 2) dX9_clear_1 ki_0 rfl ?_
  refine r_putI (pc1 := 5) w_1 pfX9_15 rfl ⟨rfl, rfl⟩ dX9_clear_2 rfl ?_
  refine r_lts (fun s1 => ?_)
  exact r_vret rfl dX9_clear_5
/-! f_X11_rota -/
noncomputable def f_X11_rota (a1 : Int32) (s0 : SS) : Res := if (a1 : Int32) < (1 : Int32) then some (0, s0) else if (4 : Int32) < (a1 : Int32) then some (0, s0) else bdp (f_X9_size s0) (fun (v3 : Int32) => if (a1 : Int32) ≤ (v3 : Int32) then bd (f_X2_takeRota a1 s0) (fun (v5 : Int32) (s6 : SS) => bd (f_X9_clear s6) (fun (v7 : Int32) (s8 : SS) => if (v5 : Int32) = 0 then gd ((v5 : Int32) = 0 ∨ (v5 : Int32) = 1) (some (v5, s8)) else lts (up s8 52 1 0) (fun (s11 : SS) => lts (up s11 0 14 0) (fun (s12 : SS) => lts (up s12 0 15 ((s12 0 15) + 1)) (fun (s13 : SS) => gd ((v5 : Int32) = 0 ∨ (v5 : Int32) = 1) (some (v5, s13))))))) else some (0, s0))
set_option maxRecDepth 100000 in
set_option maxHeartbeats 4000000 in
theorem c_X11_rota {l : Launch} (a1 : Int32) (s0 : SS) : Ct l wF yX11_rota cX11_rota 3 (some .boolean) 2 [.ref 0, .int a1] s0 (f_X11_rota a1 s0) := by
  refine ct_of (y := yX11_rota) plX11 (Nat.le_of_ble_eq_true rfl) ?_
  refine r_pad0 1 (L1 := [.ref 0, .int a1, .null]) rfl ?_
  unfold f_X11_rota
  refine r_iload_n (pc1 := 1) (i := 1) dX11_rota_0 rfl rfl rfl ?_
  refine r_iconst (v := 1) (pc1 := 2) dX11_rota_1 ki_1 rfl ?_
  refine r_icmp_lt (tgt := 21) (pc1 := 5) dX11_rota_2 (by decide) rfl (fun q1 => ?_) (fun q1 => ?_)
  · refine r_iconst (v := 0) (pc1 := 22) dX11_rota_21 ki_0 rfl ?_
    exact r_iret rfl rfl dX11_rota_22
  · refine r_iload_n (pc1 := 6) (i := 1) dX11_rota_5 rfl rfl rfl ?_
    refine r_iconst (v := 4) (pc1 := 7) dX11_rota_6 ki_4 rfl ?_
    refine r_icmp_gt (tgt := 21) (pc1 := 10) dX11_rota_7 (by decide) rfl (fun q2 => ?_) (fun q2 => ?_)
    · refine r_iconst (v := 0) (pc1 := 22) dX11_rota_21 ki_0 rfl ?_
      exact r_iret rfl rfl dX11_rota_22
    · refine r_iload_n (pc1 := 11) (i := 1) dX11_rota_10 rfl rfl rfl ?_
      refine r_aload_n (pc1 := 12) (i := 0) dX11_rota_11 rfl rfl rfl ?_
      refine r_getR (pc1 := 15) w_0 gfX11_10 rfl dX11_rota_12 rfl ?_
      refine r_callVp (pc1 := 18) (rv_of w_1 cl_9) lkX11_129 (c_X9_size _) rfl rfl ⟨Nat.le_of_ble_eq_true rfl, Nat.le_of_ble_eq_true rfl⟩ (Nat.le_of_ble_eq_true rfl) dX11_rota_15 rfl (fun v3 => ?_)
      refine r_icmp_le (tgt := 23) (pc1 := 21) dX11_rota_18 (by decide) rfl (fun q4 => ?_) (fun q4 => ?_)
      · refine r_aload_n (pc1 := 24) (i := 0) dX11_rota_23 rfl rfl rfl ?_
        refine r_getR (pc1 := 27) w_0 gfX11_51 rfl dX11_rota_24 rfl ?_
        refine r_aload_n (pc1 := 28) (i := 0) dX11_rota_27 rfl rfl rfl ?_
        refine r_getR (pc1 := 31) w_0 gfX11_10 rfl dX11_rota_28 rfl ?_
        refine r_iload_n (pc1 := 32) (i := 1) dX11_rota_31 rfl rfl rfl ?_
        refine r_callVi (pc1 := 35) (rv_of w_35 cl_2) lkX11_132 (c_X2_takeRota _ _) rfl rfl ⟨Nat.le_of_ble_eq_true rfl, Nat.le_of_ble_eq_true rfl⟩ (Nat.le_of_ble_eq_true rfl) dX11_rota_32 rfl (fun v5 s6 => ?_)
        refine r_istore_n (pc1 := 36) (i := 2) dX11_rota_35 rfl (by decide) rfl rfl rfl ?_
        refine r_aload_n (pc1 := 37) (i := 0) dX11_rota_36 rfl rfl rfl ?_
        refine r_getR (pc1 := 40) w_0 gfX11_10 rfl dX11_rota_37 rfl ?_
        refine r_callVv (pc1 := 43) (rv_of w_1 cl_9) lkX11_136 (c_X9_clear _) rfl rfl ⟨Nat.le_of_ble_eq_true rfl, Nat.le_of_ble_eq_true rfl⟩ (Nat.le_of_ble_eq_true rfl) dX11_rota_40 rfl (fun v7 s8 => ?_)
        refine r_iload_n (pc1 := 44) (i := 2) dX11_rota_43 rfl rfl rfl ?_
        refine r_if_eq (tgt := 70) (pc1 := 47) dX11_rota_44 (by decide) rfl (fun q9 => ?_) (fun q9 => ?_)
        · refine r_iload_n (pc1 := 71) (i := 2) dX11_rota_70 rfl rfl rfl ?_
          refine r_gd (fun q10 => ?_)
          exact r_iret rfl (zb_ok q10).1 dX11_rota_71
        · refine r_aload_n (pc1 := 48) (i := 0) dX11_rota_47 rfl rfl rfl ?_
          refine r_getR (pc1 := 51) w_0 gfX11_88 rfl dX11_rota_48 rfl ?_
          refine r_iconst (v := 0) (pc1 := 52) dX11_rota_51 ki_0 rfl ?_
          refine r_putI (pc1 := 55) w_52 pfX11_139 rfl ⟨rfl, rfl⟩ dX11_rota_52 rfl ?_
          refine r_lts (fun s11 => ?_)
          refine r_aload_n (pc1 := 56) (i := 0) dX11_rota_55 rfl rfl rfl ?_
          refine r_iconst (v := 0) (pc1 := 57) dX11_rota_56 ki_0 rfl ?_
          refine r_putI (pc1 := 60) w_0 pfX11_125 rfl ⟨rfl, rfl⟩ dX11_rota_57 rfl ?_
          refine r_lts (fun s12 => ?_)
          refine r_aload_n (pc1 := 61) (i := 0) dX11_rota_60 rfl rfl rfl ?_
          refine r_dup (pc1 := 62) dX11_rota_61 rfl rfl ?_
          refine r_getI (pc1 := 65) w_0 gfX11_110 rfl dX11_rota_62 rfl ?_
          refine r_iconst (v := 1) (pc1 := 66) dX11_rota_65 ki_1 rfl ?_
          refine r_iadd (pc1 := 67) dX11_rota_66 rfl ?_
          refine r_putI (pc1 := 70) w_0 pfX11_110 rfl ⟨rfl, rfl⟩ dX11_rota_67 rfl ?_
          refine r_lts (fun s13 => ?_)
          refine r_iload_n (pc1 := 71) (i := 2) dX11_rota_70 rfl rfl rfl ?_
          refine r_gd (fun q14 => ?_)
          exact r_iret rfl (zb_ok q14).1 dX11_rota_71
      · refine r_iconst (v := 0) (pc1 := 22) dX11_rota_21 ki_0 rfl ?_
        exact r_iret rfl rfl dX11_rota_22
/-! f_X11_isLaw -/
noncomputable def f_X11_isLaw (a1 : Int32) (s0 : SS) : Option Int32 := if (a1 : Int32) < 0 then some 0 else bdp (f_X10_lawCount s0) (fun (v2 : Int32) => if (v2 : Int32) ≤ (a1 : Int32) then some 0 else some 1)
set_option maxRecDepth 100000 in
set_option maxHeartbeats 4000000 in
theorem c_X11_isLaw {l : Launch} (a1 : Int32) (s0 : SS) : Ct l wF yX11_isLaw cX11_isLaw 2 (some .boolean) 1 [.ref 0, .int a1] s0 (pu (f_X11_isLaw a1 s0) s0) := by
  refine ct_of (y := yX11_isLaw) plX11 (Nat.le_of_ble_eq_true rfl) ?_
  refine r_pad0 0 (L1 := [.ref 0, .int a1]) rfl ?_
  unfold f_X11_isLaw
  refine r_iload_n (pc1 := 1) (i := 1) dX11_isLaw_0 rfl rfl rfl ?_
  refine p_if_lt (tgt := 19) (pc1 := 4) dX11_isLaw_1 (by decide) rfl (fun q1 => ?_) (fun q1 => ?_)
  · refine r_iconst (v := 0) (pc1 := 20) dX11_isLaw_19 ki_0 rfl ?_
    exact p_iret rfl rfl dX11_isLaw_20
  · refine r_iload_n (pc1 := 5) (i := 1) dX11_isLaw_4 rfl rfl rfl ?_
    refine r_aload_n (pc1 := 6) (i := 0) dX11_isLaw_5 rfl rfl rfl ?_
    refine r_getR (pc1 := 9) w_0 gfX11_42 rfl dX11_isLaw_6 rfl ?_
    refine p_callVp (pc1 := 12) (rv_of w_27 cl_10) lkX11_106 (c_X10_lawCount _) rfl rfl ⟨Nat.le_of_ble_eq_true rfl, Nat.le_of_ble_eq_true rfl⟩ (Nat.le_of_ble_eq_true rfl) dX11_isLaw_9 rfl (fun v2 => ?_)
    refine p_icmp_ge (tgt := 19) (pc1 := 15) dX11_isLaw_12 (by decide) rfl (fun q3 => ?_) (fun q3 => ?_)
    · refine r_iconst (v := 0) (pc1 := 20) dX11_isLaw_19 ki_0 rfl ?_
      exact p_iret rfl rfl dX11_isLaw_20
    · refine r_iconst (v := 1) (pc1 := 16) dX11_isLaw_15 ki_1 rfl ?_
      refine r_goto (tgt := 20) dX11_isLaw_16 (by decide) ?_
      exact p_iret rfl rfl dX11_isLaw_20
/-! f_X2_setKind -/
noncomputable def f_X2_setKind (a1 : Int32) (a2 : Int32) (a3 : Int32) (s0 : SS) : Res := bdp (f_X11_isPerson a1 s0) (fun (v1 : Int32) => if (v1 : Int32) = 0 then some (0, s0) else gd (inb a1 4) (lts (up s0 36 (Int32.toNatClampNeg a1) a2) (fun (s3 : SS) => gd (inb a1 4) (lts (up s3 37 (Int32.toNatClampNeg a1) a3) (fun (s4 : SS) => some (0, s4))))))
set_option maxRecDepth 100000 in
set_option maxHeartbeats 4000000 in
theorem c_X2_setKind {l : Launch} (a1 : Int32) (a2 : Int32) (a3 : Int32) (s0 : SS) : Ct l wF yX2_setKind cX2_setKind 4 none 1 [.ref 35, .int a1, .int a2, .int a3] s0 (f_X2_setKind a1 a2 a3 s0) := by
  refine ct_of (y := yX2_setKind) plX2 (Nat.le_of_ble_eq_true rfl) ?_
  refine r_pad0 0 (L1 := [.ref 35, .int a1, .int a2, .int a3]) rfl ?_
  unfold f_X2_setKind
  refine r_iload_n (pc1 := 1) (i := 1) dX2_setKind_0 rfl rfl rfl ?_
  refine r_callSNp (pc1 := 4) lkX2_33 (c_X11_isPerson _ _) rfl rfl ⟨Nat.le_of_ble_eq_true rfl, Nat.le_of_ble_eq_true rfl⟩ (Nat.le_of_ble_eq_true rfl) dX2_setKind_1 rfl (fun v1 => ?_)
  refine r_if_eq (tgt := 21) (pc1 := 7) dX2_setKind_4 (by decide) rfl (fun q2 => ?_) (fun q2 => ?_)
  · exact r_vret rfl dX2_setKind_21
  · refine r_aload_n (pc1 := 8) (i := 0) dX2_setKind_7 rfl rfl rfl ?_
    refine r_getR (pc1 := 11) w_35 gfX2_9 rfl dX2_setKind_8 rfl ?_
    refine r_iload_n (pc1 := 12) (i := 1) dX2_setKind_11 rfl rfl rfl ?_
    refine r_iload_n (pc1 := 13) (i := 2) dX2_setKind_12 rfl rfl rfl ?_
    refine r_iast (pc1 := 14) w_36 dX2_setKind_13 rfl ?_
    refine r_lts (fun s3 => ?_)
    refine r_aload_n (pc1 := 15) (i := 0) dX2_setKind_14 rfl rfl rfl ?_
    refine r_getR (pc1 := 18) w_35 gfX2_15 rfl dX2_setKind_15 rfl ?_
    refine r_iload_n (pc1 := 19) (i := 1) dX2_setKind_18 rfl rfl rfl ?_
    refine r_iload_n (pc1 := 20) (i := 3) dX2_setKind_19 rfl rfl rfl ?_
    refine r_iast (pc1 := 21) w_37 dX2_setKind_20 rfl ?_
    refine r_lts (fun s4 => ?_)
    exact r_vret rfl dX2_setKind_21
/-! f_X11_kind -/
noncomputable def f_X11_kind (a1 : Int32) (a2 : Int32) (a3 : Int32) (s0 : SS) : Res := bdp (f_X11_isPerson a1 s0) (fun (v1 : Int32) => if (v1 : Int32) = 0 then some (0, s0) else bdp (f_X11_within a2 4 s0) (fun (v3 : Int32) => if (v3 : Int32) = 0 then some (0, s0) else jn (bd (f_X2_setKind a1 a2 a3 s0) (fun (v6 : Int32) (s7 : SS) => lts (up s7 0 15 ((s7 0 15) + 1)) (fun (s8 : SS) => some (1, s8)))) (fun (k5 : Res) => if (a2 : Int32) = (4 : Int32) then bdp (f_X11_isLaw a3 s0) (fun (v10 : Int32) => if (v10 : Int32) = 0 then some (0, s0) else k5) else k5)))
set_option maxRecDepth 100000 in
set_option maxHeartbeats 4000000 in
theorem c_X11_kind {l : Launch} (a1 : Int32) (a2 : Int32) (a3 : Int32) (s0 : SS) : Ct l wF yX11_kind cX11_kind 4 (some .boolean) 2 [.ref 0, .int a1, .int a2, .int a3] s0 (f_X11_kind a1 a2 a3 s0) := by
  refine ct_of (y := yX11_kind) plX11 (Nat.le_of_ble_eq_true rfl) ?_
  refine r_pad0 0 (L1 := [.ref 0, .int a1, .int a2, .int a3]) rfl ?_
  unfold f_X11_kind
  refine r_iload_n (pc1 := 1) (i := 1) dX11_kind_0 rfl rfl rfl ?_
  refine r_callSp (pc1 := 4) lkX11_142 (c_X11_isPerson _ _) rfl rfl ⟨Nat.le_of_ble_eq_true rfl, Nat.le_of_ble_eq_true rfl⟩ (Nat.le_of_ble_eq_true rfl) dX11_kind_1 rfl (fun v1 => ?_)
  refine r_if_eq (tgt := 28) (pc1 := 7) dX11_kind_4 (by decide) rfl (fun q2 => ?_) (fun q2 => ?_)
  · refine r_iconst (v := 0) (pc1 := 29) dX11_kind_28 ki_0 rfl ?_
    exact r_iret rfl rfl dX11_kind_29
  · refine r_iload_n (pc1 := 8) (i := 2) dX11_kind_7 rfl rfl rfl ?_
    refine r_iconst (v := 4) (pc1 := 9) dX11_kind_8 ki_4 rfl ?_
    refine r_callSp (pc1 := 12) lkX11_102 (c_X11_within _ _ _) rfl rfl ⟨Nat.le_of_ble_eq_true rfl, Nat.le_of_ble_eq_true rfl⟩ (Nat.le_of_ble_eq_true rfl) dX11_kind_9 rfl (fun v3 => ?_)
    refine r_if_eq (tgt := 28) (pc1 := 15) dX11_kind_12 (by decide) rfl (fun q4 => ?_) (fun q4 => ?_)
    · refine r_iconst (v := 0) (pc1 := 29) dX11_kind_28 ki_0 rfl ?_
      exact r_iret rfl rfl dX11_kind_29
    · refine r_iload_n (pc1 := 16) (i := 2) dX11_kind_15 rfl rfl rfl ?_
      refine r_iconst (v := 4) (pc1 := 17) dX11_kind_16 ki_4 rfl ?_
      refine r_jn (hyp := fun (k5 : Res) => RC l wF RX11 cX11_kind 4 (some .boolean) 2 30 [.ref 0, .int a1, .int a2, .int a3] [] s0 k5) (?_) (fun k5 hk5 => ?_)
      · refine r_aload_n (pc1 := 31) (i := 0) dX11_kind_30 rfl rfl rfl ?_
        refine r_getR (pc1 := 34) w_0 gfX11_51 rfl dX11_kind_31 rfl ?_
        refine r_iload_n (pc1 := 35) (i := 1) dX11_kind_34 rfl rfl rfl ?_
        refine r_iload_n (pc1 := 36) (i := 2) dX11_kind_35 rfl rfl rfl ?_
        refine r_iload_n (pc1 := 37) (i := 3) dX11_kind_36 rfl rfl rfl ?_
        refine r_callVv (pc1 := 40) (rv_of w_35 cl_2) lkX11_149 (c_X2_setKind _ _ _ _) rfl rfl ⟨Nat.le_of_ble_eq_true rfl, Nat.le_of_ble_eq_true rfl⟩ (Nat.le_of_ble_eq_true rfl) dX11_kind_37 rfl (fun v6 s7 => ?_)
        refine r_aload_n (pc1 := 41) (i := 0) dX11_kind_40 rfl rfl rfl ?_
        refine r_dup (pc1 := 42) dX11_kind_41 rfl rfl ?_
        refine r_getI (pc1 := 45) w_0 gfX11_110 rfl dX11_kind_42 rfl ?_
        refine r_iconst (v := 1) (pc1 := 46) dX11_kind_45 ki_1 rfl ?_
        refine r_iadd (pc1 := 47) dX11_kind_46 rfl ?_
        refine r_putI (pc1 := 50) w_0 pfX11_110 rfl ⟨rfl, rfl⟩ dX11_kind_47 rfl ?_
        refine r_lts (fun s8 => ?_)
        refine r_iconst (v := 1) (pc1 := 51) dX11_kind_50 ki_1 rfl ?_
        exact r_iret rfl rfl dX11_kind_51
      · refine r_icmp_ne (tgt := 30) (pc1 := 20) dX11_kind_17 (by decide) rfl (fun q9 => ?_) (fun q9 => ?_)
        · refine r_aload_n (pc1 := 21) (i := 0) dX11_kind_20 rfl rfl rfl ?_
          refine r_iload_n (pc1 := 22) (i := 3) dX11_kind_21 rfl rfl rfl ?_
          refine r_callVp (pc1 := 25) (rv_of w_0 cl_11) lkX11_146 (c_X11_isLaw _ _) rfl rfl ⟨Nat.le_of_ble_eq_true rfl, Nat.le_of_ble_eq_true rfl⟩ (Nat.le_of_ble_eq_true rfl) dX11_kind_22 rfl (fun v10 => ?_)
          refine r_if_ne (tgt := 30) (pc1 := 28) dX11_kind_25 (by decide) rfl (fun q11 => ?_) (fun q11 => ?_)
          · refine r_iconst (v := 0) (pc1 := 29) dX11_kind_28 ki_0 rfl ?_
            exact r_iret rfl rfl dX11_kind_29
          · exact r_wk (hk5) ⟨Or.inr rfl, Or.inr rfl, Or.inr rfl, Or.inr rfl, trivial⟩
        · exact r_wk (hk5) ⟨Or.inr rfl, Or.inr rfl, Or.inr rfl, Or.inr rfl, trivial⟩
/-! f_X9_hasRoom -/
noncomputable def f_X9_hasRoom (a1 : Int32) (s0 : SS) : Option Int32 := if (220 - (s0 1 1) : Int32) < (a1 : Int32) then some 0 else some 1
set_option maxRecDepth 100000 in
set_option maxHeartbeats 4000000 in
theorem c_X9_hasRoom {l : Launch} (a1 : Int32) (s0 : SS) : Ct l wF yX9_hasRoom cX9_hasRoom 2 (some .boolean) 0 [.ref 1, .int a1] s0 (pu (f_X9_hasRoom a1 s0) s0) := by
  refine ct_of (y := yX9_hasRoom) plX9 (Nat.le_of_ble_eq_true rfl) ?_
  refine r_pad0 0 (L1 := [.ref 1, .int a1]) rfl ?_
  unfold f_X9_hasRoom
  refine r_iload_n (pc1 := 1) (i := 1) dX9_hasRoom_0 rfl rfl rfl ?_
  refine r_sipush (v := 220) (pc1 := 4) dX9_hasRoom_1 ks_220 rfl ?_
  refine r_aload_n (pc1 := 5) (i := 0) dX9_hasRoom_4 rfl rfl rfl ?_
  refine r_getI (pc1 := 8) w_1 gfX9_15 rfl dX9_hasRoom_5 rfl ?_
  refine r_isub (pc1 := 9) dX9_hasRoom_8 rfl ?_
  refine p_icmp_gt (tgt := 16) (pc1 := 12) dX9_hasRoom_9 (by decide) rfl (fun q1 => ?_) (fun q1 => ?_)
  · refine r_iconst (v := 0) (pc1 := 17) dX9_hasRoom_16 ki_0 rfl ?_
    exact p_iret rfl rfl dX9_hasRoom_17
  · refine r_iconst (v := 1) (pc1 := 13) dX9_hasRoom_12 ki_1 rfl ?_
    refine r_goto (tgt := 17) dX9_hasRoom_13 (by decide) ?_
    exact p_iret rfl rfl dX9_hasRoom_17
/-! f_X9_put -/
noncomputable def lp_X9_put_3 (a1 : Int32) : Nat → Int32 → SS → Res
  | 0, _, _ => none
  | n3 + 1, v1, s2 => if (v1 : Int32) < 0 then some (0, s2) else jn (fun (s5 : SS) => lp_X9_put_3 a1 n3 (v1 + (-8)) s5) (fun (k6 : SS → Res) => if (s2 1 1 : Int32) < 0 then k6 s2 else if (220 : Int32) ≤ (s2 1 1 : Int32) then k6 s2 else gd (inb (s2 1 1) 220) (lts (up s2 2 (Int32.toNatClampNeg (s2 1 1)) ((a1 >>> (v1 &&& 31)) &&& 255)) (fun (s9 : SS) => lts (up s9 1 1 ((s9 1 1) + 1)) (fun (s10 : SS) => k6 s10))))
noncomputable def f_X9_put (a1 : Int32) (s0 : SS) : Res := lp_X9_put_3 a1 FU 24 s0
set_option maxRecDepth 100000 in
set_option maxHeartbeats 4000000 in
theorem t_lp_X9_put_3 {l : Launch} (a1 : Int32)  : ∀ (n3 : Nat) (v1 : Int32) (s2 : SS), RC l wF RX9 cX9_put 3 none 0 3 [.ref 1, .int a1, .int v1] [] s2 (lp_X9_put_3 a1 n3 v1 s2) := by
  intro n3
  induction n3 with
  | zero =>
    intro v1 s2
    rw [lp_X9_put_3]
    exact r_none
  | succ n3 ih =>
    intro v1 s2
    rw [lp_X9_put_3]
    refine r_iload_n (pc1 := 4) (i := 2) dX9_put_3 rfl rfl rfl ?_
    refine r_if_lt (tgt := 56) (pc1 := 7) dX9_put_4 (by decide) rfl (fun q4 => ?_) (fun q4 => ?_)
    · exact r_vret rfl dX9_put_56
    · refine r_aload_n (pc1 := 8) (i := 0) dX9_put_7 rfl rfl rfl ?_
      refine r_getI (pc1 := 11) w_1 gfX9_15 rfl dX9_put_8 rfl ?_
      refine r_jn (hyp := fun (k6 : SS → Res) => ∀ (s5 : SS), RC l wF RX9 cX9_put 3 none 0 50 [.ref 1, .int a1, .int v1] [] s5 (k6 s5)) (fun s5 => ?_) (fun k6 hk6 => ?_)
      · refine r_iinc (pc1 := 53) dX9_put_50 rfl (kn_m8 _) (by decide) rfl rfl rfl ?_
        refine r_goto (tgt := 3) dX9_put_53 (by decide) ?_
        exact r_wk (ih (v1 + (-8)) s5) ⟨Or.inr rfl, Or.inr rfl, Or.inr rfl, trivial⟩
      · refine r_if_lt (tgt := 50) (pc1 := 14) dX9_put_11 (by decide) rfl (fun q7 => ?_) (fun q7 => ?_)
        · exact r_wk (hk6 s2) ⟨Or.inr rfl, Or.inr rfl, Or.inr rfl, trivial⟩
        · refine r_aload_n (pc1 := 15) (i := 0) dX9_put_14 rfl rfl rfl ?_
          refine r_getI (pc1 := 18) w_1 gfX9_15 rfl dX9_put_15 rfl ?_
          refine r_sipush (v := 220) (pc1 := 21) dX9_put_18 ks_220 rfl ?_
          refine r_icmp_ge (tgt := 50) (pc1 := 24) dX9_put_21 (by decide) rfl (fun q8 => ?_) (fun q8 => ?_)
          · exact r_wk (hk6 s2) ⟨Or.inr rfl, Or.inr rfl, Or.inr rfl, trivial⟩
          · refine r_aload_n (pc1 := 25) (i := 0) dX9_put_24 rfl rfl rfl ?_
            refine r_getR (pc1 := 28) w_1 gfX9_11 rfl dX9_put_25 rfl ?_
            refine r_aload_n (pc1 := 29) (i := 0) dX9_put_28 rfl rfl rfl ?_
            refine r_getI (pc1 := 32) w_1 gfX9_15 rfl dX9_put_29 rfl ?_
            refine r_iload_n (pc1 := 33) (i := 1) dX9_put_32 rfl rfl rfl ?_
            refine r_iload_n (pc1 := 34) (i := 2) dX9_put_33 rfl rfl rfl ?_
            refine r_ishr (pc1 := 35) dX9_put_34 rfl ?_
            refine r_sipush (v := 255) (pc1 := 38) dX9_put_35 ks_255 rfl ?_
            refine r_iand (pc1 := 39) dX9_put_38 rfl ?_
            refine r_iast (pc1 := 40) w_2 dX9_put_39 rfl ?_
            refine r_lts (fun s9 => ?_)
            refine r_aload_n (pc1 := 41) (i := 0) dX9_put_40 rfl rfl rfl ?_
            refine r_dup (pc1 := 42) dX9_put_41 rfl rfl ?_
            refine r_getI (pc1 := 45) w_1 gfX9_15 rfl dX9_put_42 rfl ?_
            refine r_iconst (v := 1) (pc1 := 46) dX9_put_45 ki_1 rfl ?_
            refine r_iadd (pc1 := 47) dX9_put_46 rfl ?_
            refine r_putI (pc1 := 50) w_1 pfX9_15 rfl ⟨rfl, rfl⟩ dX9_put_47 rfl ?_
            refine r_lts (fun s10 => ?_)
            exact r_wk (hk6 s10) ⟨Or.inr rfl, Or.inr rfl, Or.inr rfl, trivial⟩
set_option maxRecDepth 100000 in
set_option maxHeartbeats 4000000 in
theorem c_X9_put {l : Launch} (a1 : Int32) (s0 : SS) : Ct l wF yX9_put cX9_put 3 none 0 [.ref 1, .int a1] s0 (f_X9_put a1 s0) := by
  refine ct_of (y := yX9_put) plX9 (Nat.le_of_ble_eq_true rfl) ?_
  refine r_pad0 1 (L1 := [.ref 1, .int a1, .null]) rfl ?_
  unfold f_X9_put
  refine r_bipush (v := 24) (pc1 := 2) dX9_put_0 kb_24 rfl ?_
  refine r_istore_n (pc1 := 3) (i := 2) dX9_put_2 rfl (by decide) rfl rfl rfl ?_
  exact r_wk (t_lp_X9_put_3 a1 FU 24 s0) ⟨Or.inr rfl, Or.inr rfl, Or.inr rfl, trivial⟩
/-! f_X11_feed -/
noncomputable def f_X11_feed (a1 : Int32) (a2 : Int32) (a3 : Int32) (a4 : Int32) (a5 : Int32) (s0 : SS) : Res := bdp (f_X9_hasRoom 20 s0) (fun (v1 : Int32) => if (v1 : Int32) = 0 then some ((-1), s0) else bd (f_X9_put a1 s0) (fun (v3 : Int32) (s4 : SS) => bd (f_X9_put a2 s4) (fun (v5 : Int32) (s6 : SS) => bd (f_X9_put a3 s6) (fun (v7 : Int32) (s8 : SS) => bd (f_X9_put a4 s8) (fun (v9 : Int32) (s10 : SS) => bd (f_X9_put a5 s10) (fun (v11 : Int32) (s12 : SS) => bdp (f_X9_size s12) (fun (v13 : Int32) => some (v13, s12))))))))
set_option maxRecDepth 100000 in
set_option maxHeartbeats 4000000 in
theorem c_X11_feed {l : Launch} (a1 : Int32) (a2 : Int32) (a3 : Int32) (a4 : Int32) (a5 : Int32) (s0 : SS) : Ct l wF yX11_feed cX11_feed 6 (some .int) 1 [.ref 0, .int a1, .int a2, .int a3, .int a4, .int a5] s0 (f_X11_feed a1 a2 a3 a4 a5 s0) := by
  refine ct_of (y := yX11_feed) plX11 (Nat.le_of_ble_eq_true rfl) ?_
  refine r_pad0 0 (L1 := [.ref 0, .int a1, .int a2, .int a3, .int a4, .int a5]) rfl ?_
  unfold f_X11_feed
  refine r_aload_n (pc1 := 1) (i := 0) dX11_feed_0 rfl rfl rfl ?_
  refine r_getR (pc1 := 4) w_0 gfX11_10 rfl dX11_feed_1 rfl ?_
  refine r_bipush (v := 20) (pc1 := 6) dX11_feed_4 kb_20 rfl ?_
  refine r_callVp (pc1 := 9) (rv_of w_1 cl_9) lkX11_153 (c_X9_hasRoom _ _) rfl rfl ⟨Nat.le_of_ble_eq_true rfl, Nat.le_of_ble_eq_true rfl⟩ (Nat.le_of_ble_eq_true rfl) dX11_feed_6 rfl (fun v1 => ?_)
  refine r_if_ne (tgt := 14) (pc1 := 12) dX11_feed_9 (by decide) rfl (fun q2 => ?_) (fun q2 => ?_)
  · refine r_iconst (v := (-1)) (pc1 := 13) dX11_feed_12 ki_m1 rfl ?_
    exact r_iret rfl rfl dX11_feed_13
  · refine r_aload_n (pc1 := 15) (i := 0) dX11_feed_14 rfl rfl rfl ?_
    refine r_getR (pc1 := 18) w_0 gfX11_10 rfl dX11_feed_15 rfl ?_
    refine r_iload_n (pc1 := 19) (i := 1) dX11_feed_18 rfl rfl rfl ?_
    refine r_callVv (pc1 := 22) (rv_of w_1 cl_9) lkX11_156 (c_X9_put _ _) rfl rfl ⟨Nat.le_of_ble_eq_true rfl, Nat.le_of_ble_eq_true rfl⟩ (Nat.le_of_ble_eq_true rfl) dX11_feed_19 rfl (fun v3 s4 => ?_)
    refine r_aload_n (pc1 := 23) (i := 0) dX11_feed_22 rfl rfl rfl ?_
    refine r_getR (pc1 := 26) w_0 gfX11_10 rfl dX11_feed_23 rfl ?_
    refine r_iload_n (pc1 := 27) (i := 2) dX11_feed_26 rfl rfl rfl ?_
    refine r_callVv (pc1 := 30) (rv_of w_1 cl_9) lkX11_156 (c_X9_put _ _) rfl rfl ⟨Nat.le_of_ble_eq_true rfl, Nat.le_of_ble_eq_true rfl⟩ (Nat.le_of_ble_eq_true rfl) dX11_feed_27 rfl (fun v5 s6 => ?_)
    refine r_aload_n (pc1 := 31) (i := 0) dX11_feed_30 rfl rfl rfl ?_
    refine r_getR (pc1 := 34) w_0 gfX11_10 rfl dX11_feed_31 rfl ?_
    refine r_iload_n (pc1 := 35) (i := 3) dX11_feed_34 rfl rfl rfl ?_
    refine r_callVv (pc1 := 38) (rv_of w_1 cl_9) lkX11_156 (c_X9_put _ _) rfl rfl ⟨Nat.le_of_ble_eq_true rfl, Nat.le_of_ble_eq_true rfl⟩ (Nat.le_of_ble_eq_true rfl) dX11_feed_35 rfl (fun v7 s8 => ?_)
    refine r_aload_n (pc1 := 39) (i := 0) dX11_feed_38 rfl rfl rfl ?_
    refine r_getR (pc1 := 42) w_0 gfX11_10 rfl dX11_feed_39 rfl ?_
    refine r_iload (pc1 := 44) dX11_feed_42 rfl rfl ?_
    refine r_callVv (pc1 := 47) (rv_of w_1 cl_9) lkX11_156 (c_X9_put _ _) rfl rfl ⟨Nat.le_of_ble_eq_true rfl, Nat.le_of_ble_eq_true rfl⟩ (Nat.le_of_ble_eq_true rfl) dX11_feed_44 rfl (fun v9 s10 => ?_)
    refine r_aload_n (pc1 := 48) (i := 0) dX11_feed_47 rfl rfl rfl ?_
    refine r_getR (pc1 := 51) w_0 gfX11_10 rfl dX11_feed_48 rfl ?_
    refine r_iload (pc1 := 53) dX11_feed_51 rfl rfl ?_
    refine r_callVv (pc1 := 56) (rv_of w_1 cl_9) lkX11_156 (c_X9_put _ _) rfl rfl ⟨Nat.le_of_ble_eq_true rfl, Nat.le_of_ble_eq_true rfl⟩ (Nat.le_of_ble_eq_true rfl) dX11_feed_53 rfl (fun v11 s12 => ?_)
    refine r_aload_n (pc1 := 57) (i := 0) dX11_feed_56 rfl rfl rfl ?_
    refine r_getR (pc1 := 60) w_0 gfX11_10 rfl dX11_feed_57 rfl ?_
    refine r_callVp (pc1 := 63) (rv_of w_1 cl_9) lkX11_129 (c_X9_size _) rfl rfl ⟨Nat.le_of_ble_eq_true rfl, Nat.le_of_ble_eq_true rfl⟩ (Nat.le_of_ble_eq_true rfl) dX11_feed_60 rfl (fun v13 => ?_)
    exact r_iret rfl rfl dX11_feed_63
/-! f_X1_clear -/
noncomputable def f_X1_clear  (s0 : SS) : Res := lts (up s0 19 7 0) (fun (s1 : SS) => lts (up s1 19 8 0) (fun (s2 : SS) => some (0, s2)))
set_option maxRecDepth 100000 in
set_option maxHeartbeats 4000000 in
theorem c_X1_clear {l : Launch}  (s0 : SS) : Ct l wF yX1_clear cX1_clear 1 none 0 [.ref 19] s0 (f_X1_clear s0) := by
  refine ct_of (y := yX1_clear) plX1 (Nat.le_of_ble_eq_true rfl) ?_
  refine r_pad0 0 (L1 := [.ref 19]) rfl ?_
  unfold f_X1_clear
  refine r_aload_n (pc1 := 1) (i := 0) dX1_clear_0 rfl rfl rfl ?_
  refine r_iconst (v := 0) (pc1 := 2) dX1_clear_1 ki_0 rfl ?_
  refine r_putI (pc1 := 5) w_19 pfX1_37 rfl ⟨rfl, rfl⟩ dX1_clear_2 rfl ?_
  refine r_lts (fun s1 => ?_)
  refine r_aload_n (pc1 := 6) (i := 0) dX1_clear_5 rfl rfl rfl ?_
  refine r_iconst (v := 0) (pc1 := 7) dX1_clear_6 ki_0 rfl ?_
  refine r_putI (pc1 := 10) w_19 pfX1_33 rfl ⟨rfl, rfl⟩ dX1_clear_7 rfl ?_
  refine r_lts (fun s2 => ?_)
  exact r_vret rfl dX1_clear_10
/-! f_X4_sign -/
noncomputable def f_X4_sign  (s0 : SS) : Option Int32 := if (s0 17 3 : Int32) < 0 then some ((-1)) else if (s0 17 2 : Int32) ≤ (s0 17 3 : Int32) then some ((-1)) else if (200 : Int32) ≤ (s0 17 3 : Int32) then some ((-1)) else gd (inb (s0 17 3) 200) (some (s0 18 (Int32.toNatClampNeg (s0 17 3))))
set_option maxRecDepth 100000 in
set_option maxHeartbeats 4000000 in
theorem c_X4_sign {l : Launch}  (s0 : SS) : Ct l wF yX4_sign cX4_sign 1 (some .int) 0 [.ref 17] s0 (pu (f_X4_sign s0) s0) := by
  refine ct_of (y := yX4_sign) plX4 (Nat.le_of_ble_eq_true rfl) ?_
  refine r_pad0 0 (L1 := [.ref 17]) rfl ?_
  unfold f_X4_sign
  refine r_aload_n (pc1 := 1) (i := 0) dX4_sign_0 rfl rfl rfl ?_
  refine r_getI (pc1 := 4) w_17 gfX4_35 rfl dX4_sign_1 rfl ?_
  refine p_if_lt (tgt := 40) (pc1 := 7) dX4_sign_4 (by decide) rfl (fun q1 => ?_) (fun q1 => ?_)
  · refine r_iconst (v := (-1)) (pc1 := 41) dX4_sign_40 ki_m1 rfl ?_
    exact p_iret rfl rfl dX4_sign_41
  · refine r_aload_n (pc1 := 8) (i := 0) dX4_sign_7 rfl rfl rfl ?_
    refine r_getI (pc1 := 11) w_17 gfX4_35 rfl dX4_sign_8 rfl ?_
    refine r_aload_n (pc1 := 12) (i := 0) dX4_sign_11 rfl rfl rfl ?_
    refine r_getI (pc1 := 15) w_17 gfX4_31 rfl dX4_sign_12 rfl ?_
    refine p_icmp_ge (tgt := 40) (pc1 := 18) dX4_sign_15 (by decide) rfl (fun q2 => ?_) (fun q2 => ?_)
    · refine r_iconst (v := (-1)) (pc1 := 41) dX4_sign_40 ki_m1 rfl ?_
      exact p_iret rfl rfl dX4_sign_41
    · refine r_aload_n (pc1 := 19) (i := 0) dX4_sign_18 rfl rfl rfl ?_
      refine r_getI (pc1 := 22) w_17 gfX4_35 rfl dX4_sign_19 rfl ?_
      refine r_sipush (v := 200) (pc1 := 25) dX4_sign_22 ks_200 rfl ?_
      refine p_icmp_ge (tgt := 40) (pc1 := 28) dX4_sign_25 (by decide) rfl (fun q3 => ?_) (fun q3 => ?_)
      · refine r_iconst (v := (-1)) (pc1 := 41) dX4_sign_40 ki_m1 rfl ?_
        exact p_iret rfl rfl dX4_sign_41
      · refine r_aload_n (pc1 := 29) (i := 0) dX4_sign_28 rfl rfl rfl ?_
        refine r_getR (pc1 := 32) w_17 gfX4_9 rfl dX4_sign_29 rfl ?_
        refine r_aload_n (pc1 := 33) (i := 0) dX4_sign_32 rfl rfl rfl ?_
        refine r_getI (pc1 := 36) w_17 gfX4_35 rfl dX4_sign_33 rfl ?_
        refine p_iald (pc1 := 37) w_18 dX4_sign_36 rfl ?_
        refine r_goto (tgt := 41) dX4_sign_37 (by decide) ?_
        exact p_iret rfl rfl dX4_sign_41
/-! f_X4_stop -/
noncomputable def f_X4_stop (a1 : Int32) (s0 : SS) : Res := if (s0 17 4 : Int32) = 0 then lts (up s0 17 4 ((((-1000)) * a1) - (s0 17 3))) (fun (s2 : SS) => some (0, s2)) else some (0, s0)
set_option maxRecDepth 100000 in
set_option maxHeartbeats 4000000 in
theorem c_X4_stop {l : Launch} (a1 : Int32) (s0 : SS) : Ct l wF yX4_stop cX4_stop 2 none 0 [.ref 17, .int a1] s0 (f_X4_stop a1 s0) := by
  refine ct_of (y := yX4_stop) plX4 (Nat.le_of_ble_eq_true rfl) ?_
  refine r_pad0 0 (L1 := [.ref 17, .int a1]) rfl ?_
  unfold f_X4_stop
  refine r_aload_n (pc1 := 1) (i := 0) dX4_stop_0 rfl rfl rfl ?_
  refine r_getI (pc1 := 4) w_17 gfX4_38 rfl dX4_stop_1 rfl ?_
  refine r_if_ne (tgt := 21) (pc1 := 7) dX4_stop_4 (by decide) rfl (fun q1 => ?_) (fun q1 => ?_)
  · refine r_aload_n (pc1 := 8) (i := 0) dX4_stop_7 rfl rfl rfl ?_
    refine r_sipush (v := (-1000)) (pc1 := 11) dX4_stop_8 ks_m1000 rfl ?_
    refine r_iload_n (pc1 := 12) (i := 1) dX4_stop_11 rfl rfl rfl ?_
    refine r_imul (pc1 := 13) dX4_stop_12 rfl ?_
    refine r_aload_n (pc1 := 14) (i := 0) dX4_stop_13 rfl rfl rfl ?_
    refine r_getI (pc1 := 17) w_17 gfX4_35 rfl dX4_stop_14 rfl ?_
    refine r_isub (pc1 := 18) dX4_stop_17 rfl ?_
    refine r_putI (pc1 := 21) w_17 pfX4_38 rfl ⟨rfl, rfl⟩ dX4_stop_18 rfl ?_
    refine r_lts (fun s2 => ?_)
    exact r_vret rfl dX4_stop_21
  · exact r_vret rfl dX4_stop_21
/-! f_X1_stepCount -/
noncomputable def f_X1_stepCount  (s0 : SS) : Option Int32 := some (s0 19 7)
set_option maxRecDepth 100000 in
set_option maxHeartbeats 4000000 in
theorem c_X1_stepCount {l : Launch}  (s0 : SS) : Ct l wF yX1_stepCount cX1_stepCount 1 (some .int) 0 [.ref 19] s0 (pu (f_X1_stepCount s0) s0) := by
  refine ct_of (y := yX1_stepCount) plX1 (Nat.le_of_ble_eq_true rfl) ?_
  refine r_pad0 0 (L1 := [.ref 19]) rfl ?_
  unfold f_X1_stepCount
  refine r_aload_n (pc1 := 1) (i := 0) dX1_stepCount_0 rfl rfl rfl ?_
  refine r_getI (pc1 := 4) w_19 gfX1_37 rfl dX1_stepCount_1 rfl ?_
  exact p_iret rfl rfl dX1_stepCount_4
/-! f_X4_opens -/
noncomputable def f_X4_opens (a1 : Int32) (s0 : SS) : Res := if (a1 : Int32) < (6 : Int32) then lts (up s0 17 3 ((s0 17 3) + 1)) (fun (s2 : SS) => some (1, s2)) else bd (f_X4_stop 5 s0) (fun (v3 : Int32) (s4 : SS) => some (0, s4))
set_option maxRecDepth 100000 in
set_option maxHeartbeats 4000000 in
theorem c_X4_opens {l : Launch} (a1 : Int32) (s0 : SS) : Ct l wF yX4_opens cX4_opens 2 (some .boolean) 1 [.ref 17, .int a1] s0 (f_X4_opens a1 s0) := by
  refine ct_of (y := yX4_opens) plX4 (Nat.le_of_ble_eq_true rfl) ?_
  refine r_pad0 0 (L1 := [.ref 17, .int a1]) rfl ?_
  unfold f_X4_opens
  refine r_iload_n (pc1 := 1) (i := 1) dX4_opens_0 rfl rfl rfl ?_
  refine r_bipush (v := 6) (pc1 := 3) dX4_opens_1 kb_6 rfl ?_
  refine r_icmp_lt (tgt := 13) (pc1 := 6) dX4_opens_3 (by decide) rfl (fun q1 => ?_) (fun q1 => ?_)
  · refine r_aload_n (pc1 := 14) (i := 0) dX4_opens_13 rfl rfl rfl ?_
    refine r_dup (pc1 := 15) dX4_opens_14 rfl rfl ?_
    refine r_getI (pc1 := 18) w_17 gfX4_35 rfl dX4_opens_15 rfl ?_
    refine r_iconst (v := 1) (pc1 := 19) dX4_opens_18 ki_1 rfl ?_
    refine r_iadd (pc1 := 20) dX4_opens_19 rfl ?_
    refine r_putI (pc1 := 23) w_17 pfX4_35 rfl ⟨rfl, rfl⟩ dX4_opens_20 rfl ?_
    refine r_lts (fun s2 => ?_)
    refine r_iconst (v := 1) (pc1 := 24) dX4_opens_23 ki_1 rfl ?_
    exact r_iret rfl rfl dX4_opens_24
  · refine r_aload_n (pc1 := 7) (i := 0) dX4_opens_6 rfl rfl rfl ?_
    refine r_iconst (v := 5) (pc1 := 8) dX4_opens_7 ki_5 rfl ?_
    refine r_callVv (pc1 := 11) (rv_of w_17 cl_4) lkX4_64 (c_X4_stop _ _) rfl rfl ⟨Nat.le_of_ble_eq_true rfl, Nat.le_of_ble_eq_true rfl⟩ (Nat.le_of_ble_eq_true rfl) dX4_opens_8 rfl (fun v3 s4 => ?_)
    refine r_iconst (v := 0) (pc1 := 12) dX4_opens_11 ki_0 rfl ?_
    exact r_iret rfl rfl dX4_opens_12
/-! f_X4_take -/
noncomputable def f_X4_take (a1 : Int32) (s0 : SS) : Res := jn (bd (f_X4_stop 1 s0) (fun (v2 : Int32) (s3 : SS) => some (0, s3))) (fun (k1 : Res) => if (s0 17 4 : Int32) = 0 then bdp (f_X4_sign s0) (fun (v5 : Int32) => if (v5 : Int32) = (a1 : Int32) then lts (up s0 17 3 ((s0 17 3) + 1)) (fun (s7 : SS) => some (0, s7)) else k1) else k1)
set_option maxRecDepth 100000 in
set_option maxHeartbeats 4000000 in
theorem c_X4_take {l : Launch} (a1 : Int32) (s0 : SS) : Ct l wF yX4_take cX4_take 2 none 1 [.ref 17, .int a1] s0 (f_X4_take a1 s0) := by
  refine ct_of (y := yX4_take) plX4 (Nat.le_of_ble_eq_true rfl) ?_
  refine r_pad0 0 (L1 := [.ref 17, .int a1]) rfl ?_
  unfold f_X4_take
  refine r_aload_n (pc1 := 1) (i := 0) dX4_take_0 rfl rfl rfl ?_
  refine r_getI (pc1 := 4) w_17 gfX4_38 rfl dX4_take_1 rfl ?_
  refine r_jn (hyp := fun (k1 : Res) => RC l wF RX4 cX4_take 2 none 1 28 [.ref 17, .null] [] s0 k1) (?_) (fun k1 hk1 => ?_)
  · refine r_aload_n (pc1 := 29) (i := 0) dX4_take_28 rfl rfl rfl ?_
    refine r_iconst (v := 1) (pc1 := 30) dX4_take_29 ki_1 rfl ?_
    refine r_callVv (pc1 := 33) (rv_of w_17 cl_4) lkX4_64 (c_X4_stop _ _) rfl rfl ⟨Nat.le_of_ble_eq_true rfl, Nat.le_of_ble_eq_true rfl⟩ (Nat.le_of_ble_eq_true rfl) dX4_take_30 rfl (fun v2 s3 => ?_)
    exact r_vret rfl dX4_take_33
  · refine r_if_ne (tgt := 28) (pc1 := 7) dX4_take_4 (by decide) rfl (fun q4 => ?_) (fun q4 => ?_)
    · refine r_aload_n (pc1 := 8) (i := 0) dX4_take_7 rfl rfl rfl ?_
      refine r_callVp (pc1 := 11) (rv_of w_17 cl_4) lkX4_61 (c_X4_sign _) rfl rfl ⟨Nat.le_of_ble_eq_true rfl, Nat.le_of_ble_eq_true rfl⟩ (Nat.le_of_ble_eq_true rfl) dX4_take_8 rfl (fun v5 => ?_)
      refine r_iload_n (pc1 := 12) (i := 1) dX4_take_11 rfl rfl rfl ?_
      refine r_icmp_ne (tgt := 28) (pc1 := 15) dX4_take_12 (by decide) rfl (fun q6 => ?_) (fun q6 => ?_)
      · refine r_aload_n (pc1 := 16) (i := 0) dX4_take_15 rfl rfl rfl ?_
        refine r_dup (pc1 := 17) dX4_take_16 rfl rfl ?_
        refine r_getI (pc1 := 20) w_17 gfX4_35 rfl dX4_take_17 rfl ?_
        refine r_iconst (v := 1) (pc1 := 21) dX4_take_20 ki_1 rfl ?_
        refine r_iadd (pc1 := 22) dX4_take_21 rfl ?_
        refine r_putI (pc1 := 25) w_17 pfX4_35 rfl ⟨rfl, rfl⟩ dX4_take_22 rfl ?_
        refine r_lts (fun s7 => ?_)
        refine r_goto (tgt := 33) dX4_take_25 (by decide) ?_
        exact r_vret rfl dX4_take_33
      · exact r_wk (hk1) ⟨Or.inr rfl, Or.inl rfl, trivial⟩
    · exact r_wk (hk1) ⟨Or.inr rfl, Or.inl rfl, trivial⟩
/-! f_X4_isDigit -/
noncomputable def f_X4_isDigit (a1 : Int32) (s0 : SS) : Option Int32 := if (a1 : Int32) < (48 : Int32) then some 0 else if (57 : Int32) < (a1 : Int32) then some 0 else some 1
set_option maxRecDepth 100000 in
set_option maxHeartbeats 4000000 in
theorem c_X4_isDigit {l : Launch} (a1 : Int32) (s0 : SS) : Ct l wF yX4_isDigit cX4_isDigit 1 (some .boolean) 0 [.int a1] s0 (pu (f_X4_isDigit a1 s0) s0) := by
  refine ct_of (y := yX4_isDigit) plX4 (Nat.le_of_ble_eq_true rfl) ?_
  refine r_pad0 0 (L1 := [.int a1]) rfl ?_
  unfold f_X4_isDigit
  refine r_iload_n (pc1 := 1) (i := 0) dX4_isDigit_0 rfl rfl rfl ?_
  refine r_bipush (v := 48) (pc1 := 3) dX4_isDigit_1 kb_48 rfl ?_
  refine p_icmp_lt (tgt := 16) (pc1 := 6) dX4_isDigit_3 (by decide) rfl (fun q1 => ?_) (fun q1 => ?_)
  · refine r_iconst (v := 0) (pc1 := 17) dX4_isDigit_16 ki_0 rfl ?_
    exact p_iret rfl rfl dX4_isDigit_17
  · refine r_iload_n (pc1 := 7) (i := 0) dX4_isDigit_6 rfl rfl rfl ?_
    refine r_bipush (v := 57) (pc1 := 9) dX4_isDigit_7 kb_57 rfl ?_
    refine p_icmp_gt (tgt := 16) (pc1 := 12) dX4_isDigit_9 (by decide) rfl (fun q2 => ?_) (fun q2 => ?_)
    · refine r_iconst (v := 0) (pc1 := 17) dX4_isDigit_16 ki_0 rfl ?_
      exact p_iret rfl rfl dX4_isDigit_17
    · refine r_iconst (v := 1) (pc1 := 13) dX4_isDigit_12 ki_1 rfl ?_
      refine r_goto (tgt := 17) dX4_isDigit_13 (by decide) ?_
      exact p_iret rfl rfl dX4_isDigit_17
/-! f_X1_addStep -/
noncomputable def f_X1_addStep (a1 : Int32) (a2 : Int32) (s0 : SS) : Res := if (s0 19 7 : Int32) < 0 then some ((-1), s0) else if (s0 19 7 : Int32) < (200 : Int32) then gd (inb (s0 19 7) 200) (lts (up s0 20 (Int32.toNatClampNeg (s0 19 7)) a1) (fun (s3 : SS) => gd (inb (s3 19 7) 200) (lts (up s3 21 (Int32.toNatClampNeg (s3 19 7)) a2) (fun (s4 : SS) => lts (up s4 19 7 ((s4 19 7) + 1)) (fun (s5 : SS) => some ((s5 19 7) - 1, s5)))))) else some ((-1), s0)
set_option maxRecDepth 100000 in
set_option maxHeartbeats 4000000 in
theorem c_X1_addStep {l : Launch} (a1 : Int32) (a2 : Int32) (s0 : SS) : Ct l wF yX1_addStep cX1_addStep 3 (some .int) 0 [.ref 19, .int a1, .int a2] s0 (f_X1_addStep a1 a2 s0) := by
  refine ct_of (y := yX1_addStep) plX1 (Nat.le_of_ble_eq_true rfl) ?_
  refine r_pad0 0 (L1 := [.ref 19, .int a1, .int a2]) rfl ?_
  unfold f_X1_addStep
  refine r_aload_n (pc1 := 1) (i := 0) dX1_addStep_0 rfl rfl rfl ?_
  refine r_getI (pc1 := 4) w_19 gfX1_37 rfl dX1_addStep_1 rfl ?_
  refine r_if_lt (tgt := 17) (pc1 := 7) dX1_addStep_4 (by decide) rfl (fun q1 => ?_) (fun q1 => ?_)
  · refine r_iconst (v := (-1)) (pc1 := 18) dX1_addStep_17 ki_m1 rfl ?_
    exact r_iret rfl rfl dX1_addStep_18
  · refine r_aload_n (pc1 := 8) (i := 0) dX1_addStep_7 rfl rfl rfl ?_
    refine r_getI (pc1 := 11) w_19 gfX1_37 rfl dX1_addStep_8 rfl ?_
    refine r_sipush (v := 200) (pc1 := 14) dX1_addStep_11 ks_200 rfl ?_
    refine r_icmp_lt (tgt := 19) (pc1 := 17) dX1_addStep_14 (by decide) rfl (fun q2 => ?_) (fun q2 => ?_)
    · refine r_aload_n (pc1 := 20) (i := 0) dX1_addStep_19 rfl rfl rfl ?_
      refine r_getR (pc1 := 23) w_19 gfX1_9 rfl dX1_addStep_20 rfl ?_
      refine r_aload_n (pc1 := 24) (i := 0) dX1_addStep_23 rfl rfl rfl ?_
      refine r_getI (pc1 := 27) w_19 gfX1_37 rfl dX1_addStep_24 rfl ?_
      refine r_iload_n (pc1 := 28) (i := 1) dX1_addStep_27 rfl rfl rfl ?_
      refine r_iast (pc1 := 29) w_20 dX1_addStep_28 rfl ?_
      refine r_lts (fun s3 => ?_)
      refine r_aload_n (pc1 := 30) (i := 0) dX1_addStep_29 rfl rfl rfl ?_
      refine r_getR (pc1 := 33) w_19 gfX1_15 rfl dX1_addStep_30 rfl ?_
      refine r_aload_n (pc1 := 34) (i := 0) dX1_addStep_33 rfl rfl rfl ?_
      refine r_getI (pc1 := 37) w_19 gfX1_37 rfl dX1_addStep_34 rfl ?_
      refine r_iload_n (pc1 := 38) (i := 2) dX1_addStep_37 rfl rfl rfl ?_
      refine r_iast (pc1 := 39) w_21 dX1_addStep_38 rfl ?_
      refine r_lts (fun s4 => ?_)
      refine r_aload_n (pc1 := 40) (i := 0) dX1_addStep_39 rfl rfl rfl ?_
      refine r_dup (pc1 := 41) dX1_addStep_40 rfl rfl ?_
      refine r_getI (pc1 := 44) w_19 gfX1_37 rfl dX1_addStep_41 rfl ?_
      refine r_iconst (v := 1) (pc1 := 45) dX1_addStep_44 ki_1 rfl ?_
      refine r_iadd (pc1 := 46) dX1_addStep_45 rfl ?_
      refine r_putI (pc1 := 49) w_19 pfX1_37 rfl ⟨rfl, rfl⟩ dX1_addStep_46 rfl ?_
      refine r_lts (fun s5 => ?_)
      refine r_aload_n (pc1 := 50) (i := 0) dX1_addStep_49 rfl rfl rfl ?_
      refine r_getI (pc1 := 53) w_19 gfX1_37 rfl dX1_addStep_50 rfl ?_
      refine r_iconst (v := 1) (pc1 := 54) dX1_addStep_53 ki_1 rfl ?_
      refine r_isub (pc1 := 55) dX1_addStep_54 rfl ?_
      exact r_iret rfl rfl dX1_addStep_55
    · refine r_iconst (v := (-1)) (pc1 := 18) dX1_addStep_17 ki_m1 rfl ?_
      exact r_iret rfl rfl dX1_addStep_18
/-! f_X4_readDigits -/
noncomputable def lp_X4_readDigits_4 (k3 : Int32 → SS → Res) : Nat → Int32 → Int32 → SS → Res
  | 0, _, _, _ => none
  | n16 + 1, v13, v14, s15 => if (5 : Int32) ≤ (v14 : Int32) then k3 v13 s15 else bdp (f_X4_sign s15) (fun (v18 : Int32) => bdp (f_X4_isDigit v18 s15) (fun (v19 : Int32) => if (v19 : Int32) = 0 then k3 v13 s15 else bdp (f_X4_sign s15) (fun (v21 : Int32) => lt (((v13 * 10) + v21) - 48) (fun (v22 : Int32) => lts (up s15 17 3 ((s15 17 3) + 1)) (fun (s23 : SS) => lp_X4_readDigits_4 k3 n16 v22 (v14 + 1) s23)))))
noncomputable def f_X4_readDigits  (s0 : SS) : Res := jn (fun (v1 : Int32) (s2 : SS) => bdp (f_X4_sign s2) (fun (v4 : Int32) => bdp (f_X4_isDigit v4 s2) (fun (v5 : Int32) => jn (fun (s6 : SS) => bd (f_X1_addStep 48 v1 s6) (fun (v8 : Int32) (s9 : SS) => some (0, s9))) (fun (k7 : SS → Res) => if (v5 : Int32) = 0 then k7 s2 else bd (f_X4_stop 2 s2) (fun (v11 : Int32) (s12 : SS) => k7 s12))))) (fun (k3 : Int32 → SS → Res) => lp_X4_readDigits_4 k3 FU 0 0 s0)
set_option maxRecDepth 100000 in
set_option maxHeartbeats 4000000 in
theorem t_lp_X4_readDigits_4 {l : Launch} (k3 : Int32 → SS → Res) (hk3 : ∀ (v1 : Int32) (s2 : SS), RC l wF RX4 cX4_readDigits 3 none 1 48 [.ref 17, .int v1, .null] [] s2 (k3 v1 s2)) : ∀ (n16 : Nat) (v13 : Int32) (v14 : Int32) (s15 : SS), RC l wF RX4 cX4_readDigits 3 none 1 4 [.ref 17, .int v13, .int v14] [] s15 (lp_X4_readDigits_4 k3 n16 v13 v14 s15) := by
  intro n16
  induction n16 with
  | zero =>
    intro v13 v14 s15
    rw [lp_X4_readDigits_4]
    exact r_none
  | succ n16 ih =>
    intro v13 v14 s15
    rw [lp_X4_readDigits_4]
    refine r_iload_n (pc1 := 5) (i := 2) dX4_readDigits_4 rfl rfl rfl ?_
    refine r_iconst (v := 5) (pc1 := 6) dX4_readDigits_5 ki_5 rfl ?_
    refine r_icmp_ge (tgt := 48) (pc1 := 9) dX4_readDigits_6 (by decide) rfl (fun q17 => ?_) (fun q17 => ?_)
    · exact r_wk (hk3 v13 s15) ⟨Or.inr rfl, Or.inr rfl, Or.inl rfl, trivial⟩
    · refine r_aload_n (pc1 := 10) (i := 0) dX4_readDigits_9 rfl rfl rfl ?_
      refine r_callVp (pc1 := 13) (rv_of w_17 cl_4) lkX4_61 (c_X4_sign _) rfl rfl ⟨Nat.le_of_ble_eq_true rfl, Nat.le_of_ble_eq_true rfl⟩ (Nat.le_of_ble_eq_true rfl) dX4_readDigits_10 rfl (fun v18 => ?_)
      refine r_callSp (pc1 := 16) lkX4_108 (c_X4_isDigit _ _) rfl rfl ⟨Nat.le_of_ble_eq_true rfl, Nat.le_of_ble_eq_true rfl⟩ (Nat.le_of_ble_eq_true rfl) dX4_readDigits_13 rfl (fun v19 => ?_)
      refine r_if_eq (tgt := 48) (pc1 := 19) dX4_readDigits_16 (by decide) rfl (fun q20 => ?_) (fun q20 => ?_)
      · exact r_wk (hk3 v13 s15) ⟨Or.inr rfl, Or.inr rfl, Or.inl rfl, trivial⟩
      · refine r_iload_n (pc1 := 20) (i := 1) dX4_readDigits_19 rfl rfl rfl ?_
        refine r_bipush (v := 10) (pc1 := 22) dX4_readDigits_20 kb_10 rfl ?_
        refine r_imul (pc1 := 23) dX4_readDigits_22 rfl ?_
        refine r_aload_n (pc1 := 24) (i := 0) dX4_readDigits_23 rfl rfl rfl ?_
        refine r_callVp (pc1 := 27) (rv_of w_17 cl_4) lkX4_61 (c_X4_sign _) rfl rfl ⟨Nat.le_of_ble_eq_true rfl, Nat.le_of_ble_eq_true rfl⟩ (Nat.le_of_ble_eq_true rfl) dX4_readDigits_24 rfl (fun v21 => ?_)
        refine r_iadd (pc1 := 28) dX4_readDigits_27 rfl ?_
        refine r_bipush (v := 48) (pc1 := 30) dX4_readDigits_28 kb_48 rfl ?_
        refine r_isub (pc1 := 31) dX4_readDigits_30 rfl ?_
        refine r_lt (fun v22 => ?_)
        refine r_istore_n (pc1 := 32) (i := 1) dX4_readDigits_31 rfl (by decide) rfl rfl rfl ?_
        refine r_aload_n (pc1 := 33) (i := 0) dX4_readDigits_32 rfl rfl rfl ?_
        refine r_dup (pc1 := 34) dX4_readDigits_33 rfl rfl ?_
        refine r_getI (pc1 := 37) w_17 gfX4_35 rfl dX4_readDigits_34 rfl ?_
        refine r_iconst (v := 1) (pc1 := 38) dX4_readDigits_37 ki_1 rfl ?_
        refine r_iadd (pc1 := 39) dX4_readDigits_38 rfl ?_
        refine r_putI (pc1 := 42) w_17 pfX4_35 rfl ⟨rfl, rfl⟩ dX4_readDigits_39 rfl ?_
        refine r_lts (fun s23 => ?_)
        refine r_iinc (pc1 := 45) dX4_readDigits_42 rfl (kn_1 _) (by decide) rfl rfl rfl ?_
        refine r_goto (tgt := 4) dX4_readDigits_45 (by decide) ?_
        exact r_wk (ih v22 (v14 + 1) s23) ⟨Or.inr rfl, Or.inr rfl, Or.inr rfl, trivial⟩
set_option maxRecDepth 100000 in
set_option maxHeartbeats 4000000 in
theorem c_X4_readDigits {l : Launch}  (s0 : SS) : Ct l wF yX4_readDigits cX4_readDigits 3 none 1 [.ref 17] s0 (f_X4_readDigits s0) := by
  refine ct_of (y := yX4_readDigits) plX4 (Nat.le_of_ble_eq_true rfl) ?_
  refine r_pad0 2 (L1 := [.ref 17, .null, .null]) rfl ?_
  unfold f_X4_readDigits
  refine r_iconst (v := 0) (pc1 := 1) dX4_readDigits_0 ki_0 rfl ?_
  refine r_istore_n (pc1 := 2) (i := 1) dX4_readDigits_1 rfl (by decide) rfl rfl rfl ?_
  refine r_iconst (v := 0) (pc1 := 3) dX4_readDigits_2 ki_0 rfl ?_
  refine r_istore_n (pc1 := 4) (i := 2) dX4_readDigits_3 rfl (by decide) rfl rfl rfl ?_
  refine r_jn (hyp := fun (k3 : Int32 → SS → Res) => ∀ (v1 : Int32) (s2 : SS), RC l wF RX4 cX4_readDigits 3 none 1 48 [.ref 17, .int v1, .null] [] s2 (k3 v1 s2)) (fun v1 s2 => ?_) (fun k3 hk3 => ?_)
  · refine r_aload_n (pc1 := 49) (i := 0) dX4_readDigits_48 rfl rfl rfl ?_
    refine r_callVp (pc1 := 52) (rv_of w_17 cl_4) lkX4_61 (c_X4_sign _) rfl rfl ⟨Nat.le_of_ble_eq_true rfl, Nat.le_of_ble_eq_true rfl⟩ (Nat.le_of_ble_eq_true rfl) dX4_readDigits_49 rfl (fun v4 => ?_)
    refine r_callSp (pc1 := 55) lkX4_108 (c_X4_isDigit _ _) rfl rfl ⟨Nat.le_of_ble_eq_true rfl, Nat.le_of_ble_eq_true rfl⟩ (Nat.le_of_ble_eq_true rfl) dX4_readDigits_52 rfl (fun v5 => ?_)
    refine r_jn (hyp := fun (k7 : SS → Res) => ∀ (s6 : SS), RC l wF RX4 cX4_readDigits 3 none 1 63 [.ref 17, .int v1, .null] [] s6 (k7 s6)) (fun s6 => ?_) (fun k7 hk7 => ?_)
    · refine r_aload_n (pc1 := 64) (i := 0) dX4_readDigits_63 rfl rfl rfl ?_
      refine r_getR (pc1 := 67) w_17 gfX4_18 rfl dX4_readDigits_64 rfl ?_
      refine r_bipush (v := 48) (pc1 := 69) dX4_readDigits_67 kb_48 rfl ?_
      refine r_iload_n (pc1 := 70) (i := 1) dX4_readDigits_69 rfl rfl rfl ?_
      refine r_callVi (pc1 := 73) (rv_of w_19 cl_1) lkX4_86 (c_X1_addStep _ _ _) rfl rfl ⟨Nat.le_of_ble_eq_true rfl, Nat.le_of_ble_eq_true rfl⟩ (Nat.le_of_ble_eq_true rfl) dX4_readDigits_70 rfl (fun v8 s9 => ?_)
      refine r_pop (pc1 := 74) dX4_readDigits_73 rfl rfl ?_
      exact r_vret rfl dX4_readDigits_74
    · refine r_if_eq (tgt := 63) (pc1 := 58) dX4_readDigits_55 (by decide) rfl (fun q10 => ?_) (fun q10 => ?_)
      · exact r_wk (hk7 s2) ⟨Or.inr rfl, Or.inr rfl, Or.inl rfl, trivial⟩
      · refine r_aload_n (pc1 := 59) (i := 0) dX4_readDigits_58 rfl rfl rfl ?_
        refine r_iconst (v := 2) (pc1 := 60) dX4_readDigits_59 ki_2 rfl ?_
        refine r_callVv (pc1 := 63) (rv_of w_17 cl_4) lkX4_64 (c_X4_stop _ _) rfl rfl ⟨Nat.le_of_ble_eq_true rfl, Nat.le_of_ble_eq_true rfl⟩ (Nat.le_of_ble_eq_true rfl) dX4_readDigits_60 rfl (fun v11 s12 => ?_)
        exact r_wk (hk7 s12) ⟨Or.inr rfl, Or.inr rfl, Or.inl rfl, trivial⟩
  · exact r_wk (t_lp_X4_readDigits_4 k3 hk3 FU 0 0 s0) ⟨Or.inr rfl, Or.inr rfl, Or.inr rfl, trivial⟩
/-! f_J0_isLatin1_aae02 -/
noncomputable def f_J0_isLatin1_aae02  (s0 : SS) : Option Int32 := if (1 : Int32) = 0 then some 0 else if (0 : Int32) = 0 then some 1 else some 0
set_option maxRecDepth 100000 in
set_option maxHeartbeats 4000000 in
theorem c_J0_isLatin1_aae02 {l : Launch}  (s0 : SS) : Ct l wF yJ0_isLatin1_aae02 cJ0_isLatin1_aae02 1 (some .boolean) 0 [.ref 1001] s0 (pu (f_J0_isLatin1_aae02 s0) s0) := by
  refine ct_of (y := yJ0_isLatin1_aae02) plJ0 (Nat.le_of_ble_eq_true rfl) ?_
  refine r_pad0 0 (L1 := [.ref 1001]) rfl ?_
  unfold f_J0_isLatin1_aae02
  refine r_compact (pc1 := 3) flJ0_38 dJ0_isLatin1_aae02_0 rfl ?_
  refine p_if_eq (tgt := 17) (pc1 := 6) dJ0_isLatin1_aae02_3 (by decide) rfl (fun q1 => ?_) (fun q1 => ?_)
  · refine r_iconst (v := 0) (pc1 := 18) dJ0_isLatin1_aae02_17 ki_0 rfl ?_
    exact p_iret rfl rfl dJ0_isLatin1_aae02_18
  · refine r_aload_n (pc1 := 7) (i := 0) dJ0_isLatin1_aae02_6 rfl rfl rfl ?_
    refine r_strC (pc1 := 10) flJ0_15 dJ0_isLatin1_aae02_7 rfl ?_
    refine p_if_ne (tgt := 17) (pc1 := 13) dJ0_isLatin1_aae02_10 (by decide) rfl (fun q2 => ?_) (fun q2 => ?_)
    · refine r_iconst (v := 1) (pc1 := 14) dJ0_isLatin1_aae02_13 ki_1 rfl ?_
      refine r_goto (tgt := 18) dJ0_isLatin1_aae02_14 (by decide) ?_
      exact p_iret rfl rfl dJ0_isLatin1_aae02_18
    · refine r_iconst (v := 0) (pc1 := 18) dJ0_isLatin1_aae02_17 ki_0 rfl ?_
      exact p_iret rfl rfl dJ0_isLatin1_aae02_18
/-! f_J0_coder_7d493 -/
noncomputable def f_J0_coder_7d493  (s0 : SS) : Option Int32 := if (1 : Int32) = 0 then some 1 else some 0
set_option maxRecDepth 100000 in
set_option maxHeartbeats 4000000 in
theorem c_J0_coder_7d493 {l : Launch}  (s0 : SS) : Ct l wF yJ0_coder_7d493 cJ0_coder_7d493 1 (some .byte) 0 [.ref 1001] s0 (pu (f_J0_coder_7d493 s0) s0) := by
  refine ct_of (y := yJ0_coder_7d493) plJ0 (Nat.le_of_ble_eq_true rfl) ?_
  refine r_pad0 0 (L1 := [.ref 1001]) rfl ?_
  unfold f_J0_coder_7d493
  refine r_compact (pc1 := 3) flJ0_38 dJ0_coder_7d493_0 rfl ?_
  refine p_if_eq (tgt := 13) (pc1 := 6) dJ0_coder_7d493_3 (by decide) rfl (fun q1 => ?_) (fun q1 => ?_)
  · refine r_iconst (v := 1) (pc1 := 14) dJ0_coder_7d493_13 ki_1 rfl ?_
    exact p_iret rfl rfl dJ0_coder_7d493_14
  · refine r_aload_n (pc1 := 7) (i := 0) dJ0_coder_7d493_6 rfl rfl rfl ?_
    refine r_strC (pc1 := 10) flJ0_15 dJ0_coder_7d493_7 rfl ?_
    refine r_goto (tgt := 14) dJ0_coder_7d493_10 (by decide) ?_
    exact p_iret rfl rfl dJ0_coder_7d493_14
/-! f_J0_length_8abf5 -/
noncomputable def f_J0_length_8abf5  (s0 : SS) : Option Int32 := bdp (f_J0_coder_7d493 s0) (fun (v1 : Int32) => some (11 >>> (v1 &&& 31)))
set_option maxRecDepth 100000 in
set_option maxHeartbeats 4000000 in
theorem c_J0_length_8abf5 {l : Launch}  (s0 : SS) : Ct l wF yJ0_length_8abf5 cJ0_length_8abf5 1 (some .int) 1 [.ref 1001] s0 (pu (f_J0_length_8abf5 s0) s0) := by
  refine ct_of (y := yJ0_length_8abf5) plJ0 (Nat.le_of_ble_eq_true rfl) ?_
  refine r_pad0 0 (L1 := [.ref 1001]) rfl ?_
  unfold f_J0_length_8abf5
  refine r_aload_n (pc1 := 1) (i := 0) dJ0_length_8abf5_0 rfl rfl rfl ?_
  refine r_strV (pc1 := 4) flJ0_9 dJ0_length_8abf5_1 rfl ?_
  refine r_factLen (v := 11) (pc1 := 5) rfl dJ0_length_8abf5_4 rfl ?_
  refine r_aload_n (pc1 := 6) (i := 0) dJ0_length_8abf5_5 rfl rfl rfl ?_
  refine p_callVp (pc1 := 9) rv_facts lkJ0_335 (c_J0_coder_7d493 _) rfl rfl ⟨Nat.le_of_ble_eq_true rfl, Nat.le_of_ble_eq_true rfl⟩ (Nat.le_of_ble_eq_true rfl) dJ0_length_8abf5_6 rfl (fun v1 => ?_)
  refine r_ishr (pc1 := 10) dJ0_length_8abf5_9 rfl ?_
  exact p_iret rfl rfl dJ0_length_8abf5_10
/-! f_J1_canEncode_9a6ad -/
noncomputable def f_J1_canEncode_9a6ad (a1 : Int32) (s0 : SS) : Option Int32 := if (a1 : Int32) < 0 then some 0 else if (255 : Int32) < (a1 : Int32) then some 0 else some 1
set_option maxRecDepth 100000 in
set_option maxHeartbeats 4000000 in
theorem c_J1_canEncode_9a6ad {l : Launch} (a1 : Int32) (s0 : SS) : Ct l wF yJ1_canEncode_9a6ad cJ1_canEncode_9a6ad 1 (some .boolean) 0 [.int a1] s0 (pu (f_J1_canEncode_9a6ad a1 s0) s0) := by
  refine ct_of (y := yJ1_canEncode_9a6ad) plJ1 (Nat.le_of_ble_eq_true rfl) ?_
  refine r_pad0 0 (L1 := [.int a1]) rfl ?_
  unfold f_J1_canEncode_9a6ad
  refine r_iload_n (pc1 := 1) (i := 0) dJ1_canEncode_9a6ad_0 rfl rfl rfl ?_
  refine p_if_lt (tgt := 15) (pc1 := 4) dJ1_canEncode_9a6ad_1 (by decide) rfl (fun q1 => ?_) (fun q1 => ?_)
  · refine r_iconst (v := 0) (pc1 := 16) dJ1_canEncode_9a6ad_15 ki_0 rfl ?_
    exact p_iret rfl rfl dJ1_canEncode_9a6ad_16
  · refine r_iload_n (pc1 := 5) (i := 0) dJ1_canEncode_9a6ad_4 rfl rfl rfl ?_
    refine r_sipush (v := 255) (pc1 := 8) dJ1_canEncode_9a6ad_5 ks_255 rfl ?_
    refine p_icmp_gt (tgt := 15) (pc1 := 11) dJ1_canEncode_9a6ad_8 (by decide) rfl (fun q2 => ?_) (fun q2 => ?_)
    · refine r_iconst (v := 0) (pc1 := 16) dJ1_canEncode_9a6ad_15 ki_0 rfl ?_
      exact p_iret rfl rfl dJ1_canEncode_9a6ad_16
    · refine r_iconst (v := 1) (pc1 := 12) dJ1_canEncode_9a6ad_11 ki_1 rfl ?_
      refine r_goto (tgt := 16) dJ1_canEncode_9a6ad_12 (by decide) ?_
      exact p_iret rfl rfl dJ1_canEncode_9a6ad_16
/-! f_J1_indexOfChar_4cfef -/
noncomputable def lp_J1_indexOfChar_4cfef_7 (a3 : Int32) (s0 : SS) (v1 : Int32) : Nat → Int32 → Option Int32
  | 0, _ => none
  | n3 + 1, v2 => if (a3 : Int32) ≤ (v2 : Int32) then some ((-1)) else gd (inb v2 11) (if (factsB.getD (Int32.toNatClampNeg v2) 0 : Int32) = (v1 : Int32) then some v2 else lp_J1_indexOfChar_4cfef_7 a3 s0 v1 n3 (v2 + 1))
noncomputable def f_J1_indexOfChar_4cfef (a1 : Int32) (a2 : Int32) (a3 : Int32) (s0 : SS) : Option Int32 := lt ((a1 : Int32).toInt8.toInt32) (fun (v1 : Int32) => lp_J1_indexOfChar_4cfef_7 a3 s0 v1 FU a2)
set_option maxRecDepth 100000 in
set_option maxHeartbeats 4000000 in
theorem t_lp_J1_indexOfChar_4cfef_7 {l : Launch} (a3 : Int32) (s0 : SS) (v1 : Int32)  : ∀ (n3 : Nat) (v2 : Int32), RC l wF RJ1 cJ1_indexOfChar_4cfef 6 (some .int) 0 7 [.ref 1002, .null, .null, .int a3, .int v1, .int v2] [] s0 (pu (lp_J1_indexOfChar_4cfef_7 a3 s0 v1 n3 v2) s0) := by
  intro n3
  induction n3 with
  | zero =>
    intro v2
    rw [lp_J1_indexOfChar_4cfef_7]
    exact p_none
  | succ n3 ih =>
    intro v2
    rw [lp_J1_indexOfChar_4cfef_7]
    refine r_iload (pc1 := 9) dJ1_indexOfChar_4cfef_7 rfl rfl ?_
    refine r_iload_n (pc1 := 10) (i := 3) dJ1_indexOfChar_4cfef_9 rfl rfl rfl ?_
    refine p_icmp_ge (tgt := 31) (pc1 := 13) dJ1_indexOfChar_4cfef_10 (by decide) rfl (fun q4 => ?_) (fun q4 => ?_)
    · refine r_iconst (v := (-1)) (pc1 := 32) dJ1_indexOfChar_4cfef_31 ki_m1 rfl ?_
      exact p_iret rfl rfl dJ1_indexOfChar_4cfef_32
    · refine r_aload_n (pc1 := 14) (i := 0) dJ1_indexOfChar_4cfef_13 rfl rfl rfl ?_
      refine r_iload (pc1 := 16) dJ1_indexOfChar_4cfef_14 rfl rfl ?_
      refine p_factLd (pc1 := 17) dJ1_indexOfChar_4cfef_16 rfl ?_
      refine r_iload (pc1 := 19) dJ1_indexOfChar_4cfef_17 rfl rfl ?_
      refine p_icmp_ne (tgt := 25) (pc1 := 22) dJ1_indexOfChar_4cfef_19 (by decide) rfl (fun q5 => ?_) (fun q5 => ?_)
      · refine r_iload (pc1 := 24) dJ1_indexOfChar_4cfef_22 rfl rfl ?_
        exact p_iret rfl rfl dJ1_indexOfChar_4cfef_24
      · refine r_iinc (pc1 := 28) dJ1_indexOfChar_4cfef_25 rfl (kn_1 _) (by decide) rfl rfl rfl ?_
        refine r_goto (tgt := 7) dJ1_indexOfChar_4cfef_28 (by decide) ?_
        exact r_wk (ih (v2 + 1)) ⟨Or.inr rfl, Or.inl rfl, Or.inl rfl, Or.inr rfl, Or.inr rfl, Or.inr rfl, trivial⟩
set_option maxRecDepth 100000 in
set_option maxHeartbeats 4000000 in
theorem c_J1_indexOfChar_4cfef {l : Launch} (a1 : Int32) (a2 : Int32) (a3 : Int32) (s0 : SS) : Ct l wF yJ1_indexOfChar_4cfef cJ1_indexOfChar_4cfef 6 (some .int) 0 [.ref 1002, .int a1, .int a2, .int a3] s0 (pu (f_J1_indexOfChar_4cfef a1 a2 a3 s0) s0) := by
  refine ct_of (y := yJ1_indexOfChar_4cfef) plJ1 (Nat.le_of_ble_eq_true rfl) ?_
  refine r_pad0 2 (L1 := [.ref 1002, .int a1, .int a2, .int a3, .null, .null]) rfl ?_
  unfold f_J1_indexOfChar_4cfef
  refine r_iload_n (pc1 := 1) (i := 1) dJ1_indexOfChar_4cfef_0 rfl rfl rfl ?_
  refine r_i2b (pc1 := 2) dJ1_indexOfChar_4cfef_1 rfl ?_
  refine p_lt (fun v1 => ?_)
  refine r_istore (pc1 := 4) dJ1_indexOfChar_4cfef_2 (by decide) rfl rfl rfl ?_
  refine r_iload_n (pc1 := 5) (i := 2) dJ1_indexOfChar_4cfef_4 rfl rfl rfl ?_
  refine r_istore (pc1 := 7) dJ1_indexOfChar_4cfef_5 (by decide) rfl rfl rfl ?_
  exact r_wk (t_lp_J1_indexOfChar_4cfef_7 a3 s0 v1 FU a2) ⟨Or.inr rfl, Or.inl rfl, Or.inl rfl, Or.inr rfl, Or.inr rfl, Or.inr rfl, trivial⟩
/-! f_J1_indexOf_4cfef -/
noncomputable def f_J1_indexOf_4cfef (a1 : Int32) (a2 : Int32) (a3 : Int32) (s0 : SS) : Option Int32 := bdp (f_J1_canEncode_9a6ad a1 s0) (fun (v1 : Int32) => if (v1 : Int32) = 0 then some ((-1)) else lt (if (a2 : Int32) < (0 : Int32) then 0 else a2) (fun (v3 : Int32) => lt (if (11 : Int32) < (a3 : Int32) then 11 else a3) (fun (v4 : Int32) => if (v3 : Int32) < (v4 : Int32) then bdp (f_J1_indexOfChar_4cfef a1 v3 v4 s0) (fun (v6 : Int32) => some v6) else some ((-1)))))
set_option maxRecDepth 100000 in
set_option maxHeartbeats 4000000 in
theorem c_J1_indexOf_4cfef {l : Launch} (a1 : Int32) (a2 : Int32) (a3 : Int32) (s0 : SS) : Ct l wF yJ1_indexOf_4cfef cJ1_indexOf_4cfef 4 (some .int) 1 [.ref 1002, .int a1, .int a2, .int a3] s0 (pu (f_J1_indexOf_4cfef a1 a2 a3 s0) s0) := by
  refine ct_of (y := yJ1_indexOf_4cfef) plJ1 (Nat.le_of_ble_eq_true rfl) ?_
  refine r_pad0 0 (L1 := [.ref 1002, .int a1, .int a2, .int a3]) rfl ?_
  unfold f_J1_indexOf_4cfef
  refine r_iload_n (pc1 := 1) (i := 1) dJ1_indexOf_4cfef_0 rfl rfl rfl ?_
  refine p_callSp (pc1 := 4) lkJ1_88 (c_J1_canEncode_9a6ad _ _) rfl rfl ⟨Nat.le_of_ble_eq_true rfl, Nat.le_of_ble_eq_true rfl⟩ (Nat.le_of_ble_eq_true rfl) dJ1_indexOf_4cfef_1 rfl (fun v1 => ?_)
  refine p_if_ne (tgt := 9) (pc1 := 7) dJ1_indexOf_4cfef_4 (by decide) rfl (fun q2 => ?_) (fun q2 => ?_)
  · refine r_iconst (v := (-1)) (pc1 := 8) dJ1_indexOf_4cfef_7 ki_m1 rfl ?_
    exact p_iret rfl rfl dJ1_indexOf_4cfef_8
  · refine r_iload_n (pc1 := 10) (i := 2) dJ1_indexOf_4cfef_9 rfl rfl rfl ?_
    refine r_iconst (v := 0) (pc1 := 11) dJ1_indexOf_4cfef_10 ki_0 rfl ?_
    refine r_mmax (pc1 := 14) mlJ1_92 (by omega) dJ1_indexOf_4cfef_11 rfl (Nat.le_of_ble_eq_true rfl) ?_
    refine p_lt (fun v3 => ?_)
    refine r_istore_n (pc1 := 15) (i := 2) dJ1_indexOf_4cfef_14 rfl (by decide) rfl rfl rfl ?_
    refine r_iload_n (pc1 := 16) (i := 3) dJ1_indexOf_4cfef_15 rfl rfl rfl ?_
    refine r_aload_n (pc1 := 17) (i := 0) dJ1_indexOf_4cfef_16 rfl rfl rfl ?_
    refine r_factLen (v := 11) (pc1 := 18) rfl dJ1_indexOf_4cfef_17 rfl ?_
    refine r_mmin (pc1 := 21) mlJ1_38 (by omega) dJ1_indexOf_4cfef_18 rfl (Nat.le_of_ble_eq_true rfl) ?_
    refine p_lt (fun v4 => ?_)
    refine r_istore_n (pc1 := 22) (i := 3) dJ1_indexOf_4cfef_21 rfl (by decide) rfl rfl rfl ?_
    refine r_iload_n (pc1 := 23) (i := 2) dJ1_indexOf_4cfef_22 rfl rfl rfl ?_
    refine r_iload_n (pc1 := 24) (i := 3) dJ1_indexOf_4cfef_23 rfl rfl rfl ?_
    refine p_icmp_lt (tgt := 29) (pc1 := 27) dJ1_indexOf_4cfef_24 (by decide) rfl (fun q5 => ?_) (fun q5 => ?_)
    · refine r_aload_n (pc1 := 30) (i := 0) dJ1_indexOf_4cfef_29 rfl rfl rfl ?_
      refine r_iload_n (pc1 := 31) (i := 1) dJ1_indexOf_4cfef_30 rfl rfl rfl ?_
      refine r_iload_n (pc1 := 32) (i := 2) dJ1_indexOf_4cfef_31 rfl rfl rfl ?_
      refine r_iload_n (pc1 := 33) (i := 3) dJ1_indexOf_4cfef_32 rfl rfl rfl ?_
      refine p_callSp (pc1 := 36) lkJ1_95 (c_J1_indexOfChar_4cfef _ _ _ _) rfl rfl ⟨Nat.le_of_ble_eq_true rfl, Nat.le_of_ble_eq_true rfl⟩ (Nat.le_of_ble_eq_true rfl) dJ1_indexOf_4cfef_33 rfl (fun v6 => ?_)
      exact p_iret rfl rfl dJ1_indexOf_4cfef_36
    · refine r_iconst (v := (-1)) (pc1 := 28) dJ1_indexOf_4cfef_27 ki_m1 rfl ?_
      exact p_iret rfl rfl dJ1_indexOf_4cfef_28
/-! f_J0_indexOf_7cf53 -/
noncomputable def f_J0_indexOf_7cf53 (a1 : Int32) (a2 : Int32) (s0 : SS) : Option Int32 := bdp (f_J0_isLatin1_aae02 s0) (fun (v1 : Int32) => if (v1 : Int32) = 0 then bdp (f_J0_length_8abf5 s0) (fun (v3 : Int32) => none) else bdp (f_J0_length_8abf5 s0) (fun (v4 : Int32) => bdp (f_J1_indexOf_4cfef a1 a2 v4 s0) (fun (v5 : Int32) => some v5)))
set_option maxRecDepth 100000 in
set_option maxHeartbeats 4000000 in
theorem c_J0_indexOf_7cf53 {l : Launch} (a1 : Int32) (a2 : Int32) (s0 : SS) : Ct l wF yJ0_indexOf_7cf53 cJ0_indexOf_7cf53 3 (some .int) 2 [.ref 1001, .int a1, .int a2] s0 (pu (f_J0_indexOf_7cf53 a1 a2 s0) s0) := by
  refine ct_of (y := yJ0_indexOf_7cf53) plJ0 (Nat.le_of_ble_eq_true rfl) ?_
  refine r_pad0 0 (L1 := [.ref 1001, .int a1, .int a2]) rfl ?_
  unfold f_J0_indexOf_7cf53
  refine r_aload_n (pc1 := 1) (i := 0) dJ0_indexOf_7cf53_0 rfl rfl rfl ?_
  refine p_callVp (pc1 := 4) rv_facts lkJ0_492 (c_J0_isLatin1_aae02 _) rfl rfl ⟨Nat.le_of_ble_eq_true rfl, Nat.le_of_ble_eq_true rfl⟩ (Nat.le_of_ble_eq_true rfl) dJ0_indexOf_7cf53_1 rfl (fun v1 => ?_)
  refine p_if_eq (tgt := 23) (pc1 := 7) dJ0_indexOf_7cf53_4 (by decide) rfl (fun q2 => ?_) (fun q2 => ?_)
  · refine r_aload_n (pc1 := 24) (i := 0) dJ0_indexOf_7cf53_23 rfl rfl rfl ?_
    refine r_strV (pc1 := 27) flJ0_9 dJ0_indexOf_7cf53_24 rfl ?_
    refine r_iload_n (pc1 := 28) (i := 1) dJ0_indexOf_7cf53_27 rfl rfl rfl ?_
    refine r_iload_n (pc1 := 29) (i := 2) dJ0_indexOf_7cf53_28 rfl rfl rfl ?_
    refine r_aload_n (pc1 := 30) (i := 0) dJ0_indexOf_7cf53_29 rfl rfl rfl ?_
    refine p_callVp (pc1 := 33) rv_facts lkJ0_505 (c_J0_length_8abf5 _) rfl rfl ⟨Nat.le_of_ble_eq_true rfl, Nat.le_of_ble_eq_true rfl⟩ (Nat.le_of_ble_eq_true rfl) dJ0_indexOf_7cf53_30 rfl (fun v3 => ?_)
    exact p_none
  · refine r_aload_n (pc1 := 8) (i := 0) dJ0_indexOf_7cf53_7 rfl rfl rfl ?_
    refine r_strV (pc1 := 11) flJ0_9 dJ0_indexOf_7cf53_8 rfl ?_
    refine r_iload_n (pc1 := 12) (i := 1) dJ0_indexOf_7cf53_11 rfl rfl rfl ?_
    refine r_iload_n (pc1 := 13) (i := 2) dJ0_indexOf_7cf53_12 rfl rfl rfl ?_
    refine r_aload_n (pc1 := 14) (i := 0) dJ0_indexOf_7cf53_13 rfl rfl rfl ?_
    refine p_callVp (pc1 := 17) rv_facts lkJ0_505 (c_J0_length_8abf5 _) rfl rfl ⟨Nat.le_of_ble_eq_true rfl, Nat.le_of_ble_eq_true rfl⟩ (Nat.le_of_ble_eq_true rfl) dJ0_indexOf_7cf53_14 rfl (fun v4 => ?_)
    refine p_callSp (pc1 := 20) lkJ0_637 (c_J1_indexOf_4cfef _ _ _ _) rfl rfl ⟨Nat.le_of_ble_eq_true rfl, Nat.le_of_ble_eq_true rfl⟩ (Nat.le_of_ble_eq_true rfl) dJ0_indexOf_7cf53_17 rfl (fun v5 => ?_)
    refine r_goto (tgt := 36) dJ0_indexOf_7cf53_20 (by decide) ?_
    exact p_iret rfl rfl dJ0_indexOf_7cf53_36
/-! f_J0_indexOf_0f7a4 -/
noncomputable def f_J0_indexOf_0f7a4 (a1 : Int32) (s0 : SS) : Option Int32 := bdp (f_J0_indexOf_7cf53 a1 0 s0) (fun (v1 : Int32) => some v1)
set_option maxRecDepth 100000 in
set_option maxHeartbeats 4000000 in
theorem c_J0_indexOf_0f7a4 {l : Launch} (a1 : Int32) (s0 : SS) : Ct l wF yJ0_indexOf_0f7a4 cJ0_indexOf_0f7a4 2 (some .int) 3 [.ref 1001, .int a1] s0 (pu (f_J0_indexOf_0f7a4 a1 s0) s0) := by
  refine ct_of (y := yJ0_indexOf_0f7a4) plJ0 (Nat.le_of_ble_eq_true rfl) ?_
  refine r_pad0 0 (L1 := [.ref 1001, .int a1]) rfl ?_
  unfold f_J0_indexOf_0f7a4
  refine r_aload_n (pc1 := 1) (i := 0) dJ0_indexOf_0f7a4_0 rfl rfl rfl ?_
  refine r_iload_n (pc1 := 2) (i := 1) dJ0_indexOf_0f7a4_1 rfl rfl rfl ?_
  refine r_iconst (v := 0) (pc1 := 3) dJ0_indexOf_0f7a4_2 ki_0 rfl ?_
  refine p_callVp (pc1 := 6) rv_facts lkJ0_633 (c_J0_indexOf_7cf53 _ _ _) rfl rfl ⟨Nat.le_of_ble_eq_true rfl, Nat.le_of_ble_eq_true rfl⟩ (Nat.le_of_ble_eq_true rfl) dJ0_indexOf_0f7a4_3 rfl (fun v1 => ?_)
  exact p_iret rfl rfl dJ0_indexOf_0f7a4_6
/-! f_X4_isProductSign -/
noncomputable def f_X4_isProductSign (a1 : Int32) (s0 : SS) : Option Int32 := jn (some 1) (fun (k1 : Option Int32) => if (a1 : Int32) = (42 : Int32) then k1 else if (a1 : Int32) = (47 : Int32) then k1 else if (a1 : Int32) = (37 : Int32) then k1 else some 0)
set_option maxRecDepth 100000 in
set_option maxHeartbeats 4000000 in
theorem c_X4_isProductSign {l : Launch} (a1 : Int32) (s0 : SS) : Ct l wF yX4_isProductSign cX4_isProductSign 1 (some .boolean) 0 [.int a1] s0 (pu (f_X4_isProductSign a1 s0) s0) := by
  refine ct_of (y := yX4_isProductSign) plX4 (Nat.le_of_ble_eq_true rfl) ?_
  refine r_pad0 0 (L1 := [.int a1]) rfl ?_
  unfold f_X4_isProductSign
  refine r_iload_n (pc1 := 1) (i := 0) dX4_isProductSign_0 rfl rfl rfl ?_
  refine r_bipush (v := 42) (pc1 := 3) dX4_isProductSign_1 kb_42 rfl ?_
  refine p_jn (hyp := fun (k1 : Option Int32) => RC l wF RX4 cX4_isProductSign 1 (some .boolean) 0 18 [.null] [] s0 (pu k1 s0)) (?_) (fun k1 hk1 => ?_)
  · refine r_iconst (v := 1) (pc1 := 19) dX4_isProductSign_18 ki_1 rfl ?_
    refine r_goto (tgt := 23) dX4_isProductSign_19 (by decide) ?_
    exact p_iret rfl rfl dX4_isProductSign_23
  · refine p_icmp_eq (tgt := 18) (pc1 := 6) dX4_isProductSign_3 (by decide) rfl (fun q2 => ?_) (fun q2 => ?_)
    · exact r_wk (hk1) ⟨Or.inl rfl, trivial⟩
    · refine r_iload_n (pc1 := 7) (i := 0) dX4_isProductSign_6 rfl rfl rfl ?_
      refine r_bipush (v := 47) (pc1 := 9) dX4_isProductSign_7 kb_47 rfl ?_
      refine p_icmp_eq (tgt := 18) (pc1 := 12) dX4_isProductSign_9 (by decide) rfl (fun q3 => ?_) (fun q3 => ?_)
      · exact r_wk (hk1) ⟨Or.inl rfl, trivial⟩
      · refine r_iload_n (pc1 := 13) (i := 0) dX4_isProductSign_12 rfl rfl rfl ?_
        refine r_bipush (v := 37) (pc1 := 15) dX4_isProductSign_13 kb_37 rfl ?_
        refine p_icmp_ne (tgt := 22) (pc1 := 18) dX4_isProductSign_15 (by decide) rfl (fun q4 => ?_) (fun q4 => ?_)
        · exact r_wk (hk1) ⟨Or.inl rfl, trivial⟩
        · refine r_iconst (v := 0) (pc1 := 23) dX4_isProductSign_22 ki_0 rfl ?_
          exact p_iret rfl rfl dX4_isProductSign_23
/-! f_X4_readFactor -/
noncomputable def f_X4_readFactor (rf : Int32 → SS → Res) (a1 : Int32) (s0 : SS) : Res := if (s0 17 4 : Int32) = 0 then bdp (f_X4_sign s0) (fun (v2 : Int32) => if (v2 : Int32) = (91 : Int32) then bd (f_X4_opens a1 s0) (fun (v4 : Int32) (s5 : SS) => if (v4 : Int32) = 0 then some (0, s5) else bd (rf (a1 + 1) s5) (fun (v7 : Int32) (s8 : SS) => bd (f_X4_take 93 s8) (fun (v9 : Int32) (s10 : SS) => some (0, s10)))) else bdp (f_X4_isDigit v2 s0) (fun (v11 : Int32) => if (v11 : Int32) = 0 then jn (fun (v13 : Int32) => if (0 : Int32) ≤ v13 then lts (up s0 17 3 ((s0 17 3) + 1)) (fun (s16 : SS) => bd (f_X1_addStep 108 v13 s16) (fun (v17 : Int32) (s18 : SS) => some (0, s18))) else bd (f_X4_stop 1 s0) (fun (v19 : Int32) (s20 : SS) => some (0, s20))) (fun (k14 : Int32 → Res) => if (0 : Int32) ≤ v2 then bdp (f_J0_indexOf_0f7a4 (((v2 : Int32).toUInt32 % 65536).toInt32) s0) (fun (v22 : Int32) => k14 v22) else k14 ((-1))) else bd (f_X4_readDigits s0) (fun (v23 : Int32) (s24 : SS) => some (0, s24)))) else some (0, s0)
set_option maxRecDepth 100000 in
set_option maxHeartbeats 4000000 in
theorem c_X4_readFactor {l : Launch} {dr : Nat} (hdr : 4 ≤ dr) {rf : Int32 → SS → Res} (hrf : ∀ (x0 : Int32) (z : SS), Ct l wF yX4_readSum cX4_readSum 4 none dr [.ref 17, .int x0] z (rf x0 z)) (a1 : Int32) (s0 : SS) : Ct l wF yX4_readFactor cX4_readFactor 4 none (dr + 1) [.ref 17, .int a1] s0 (f_X4_readFactor rf a1 s0) := by
  refine ct_of (y := yX4_readFactor) plX4 (Nat.le_of_ble_eq_true rfl) ?_
  refine r_pad0 2 (L1 := [.ref 17, .int a1, .null, .null]) rfl ?_
  unfold f_X4_readFactor
  refine r_aload_n (pc1 := 1) (i := 0) dX4_readFactor_0 rfl rfl rfl ?_
  refine r_getI (pc1 := 4) w_17 gfX4_38 rfl dX4_readFactor_1 rfl ?_
  refine r_if_eq (tgt := 8) (pc1 := 7) dX4_readFactor_4 (by decide) rfl (fun q1 => ?_) (fun q1 => ?_)
  · refine r_aload_n (pc1 := 9) (i := 0) dX4_readFactor_8 rfl rfl rfl ?_
    refine r_callVp (pc1 := 12) (rv_of w_17 cl_4) lkX4_61 (c_X4_sign _) rfl rfl ⟨by omega, Nat.le_of_ble_eq_true rfl⟩ (Nat.le_of_ble_eq_true rfl) dX4_readFactor_9 rfl (fun v2 => ?_)
    refine r_istore_n (pc1 := 13) (i := 2) dX4_readFactor_12 rfl (by decide) rfl rfl rfl ?_
    refine r_iload_n (pc1 := 14) (i := 2) dX4_readFactor_13 rfl rfl rfl ?_
    refine r_bipush (v := 91) (pc1 := 16) dX4_readFactor_14 kb_91 rfl ?_
    refine r_icmp_ne (tgt := 43) (pc1 := 19) dX4_readFactor_16 (by decide) rfl (fun q3 => ?_) (fun q3 => ?_)
    · refine r_aload_n (pc1 := 20) (i := 0) dX4_readFactor_19 rfl rfl rfl ?_
      refine r_iload_n (pc1 := 21) (i := 1) dX4_readFactor_20 rfl rfl rfl ?_
      refine r_callVi (pc1 := 24) (rv_of w_17 cl_4) lkX4_92 (c_X4_opens _ _) rfl rfl ⟨by omega, Nat.le_of_ble_eq_true rfl⟩ (Nat.le_of_ble_eq_true rfl) dX4_readFactor_21 rfl (fun v4 s5 => ?_)
      refine r_if_eq (tgt := 104) (pc1 := 27) dX4_readFactor_24 (by decide) rfl (fun q6 => ?_) (fun q6 => ?_)
      · exact r_vret rfl dX4_readFactor_104
      · refine r_aload_n (pc1 := 28) (i := 0) dX4_readFactor_27 rfl rfl rfl ?_
        refine r_iload_n (pc1 := 29) (i := 1) dX4_readFactor_28 rfl rfl rfl ?_
        refine r_iconst (v := 1) (pc1 := 30) dX4_readFactor_29 ki_1 rfl ?_
        refine r_iadd (pc1 := 31) dX4_readFactor_30 rfl ?_
        refine r_callVv (pc1 := 34) (rv_of w_17 cl_4) lkX4_70 (hrf _ _) rfl rfl ⟨by omega, Nat.le_of_ble_eq_true rfl⟩ (Nat.le_of_ble_eq_true rfl) dX4_readFactor_31 rfl (fun v7 s8 => ?_)
        refine r_aload_n (pc1 := 35) (i := 0) dX4_readFactor_34 rfl rfl rfl ?_
        refine r_bipush (v := 93) (pc1 := 37) dX4_readFactor_35 kb_93 rfl ?_
        refine r_callVv (pc1 := 40) (rv_of w_17 cl_4) lkX4_54 (c_X4_take _ _) rfl rfl ⟨by omega, Nat.le_of_ble_eq_true rfl⟩ (Nat.le_of_ble_eq_true rfl) dX4_readFactor_37 rfl (fun v9 s10 => ?_)
        refine r_goto (tgt := 104) dX4_readFactor_40 (by decide) ?_
        exact r_vret rfl dX4_readFactor_104
    · refine r_iload_n (pc1 := 44) (i := 2) dX4_readFactor_43 rfl rfl rfl ?_
      refine r_callSp (pc1 := 47) lkX4_108 (c_X4_isDigit _ _) rfl rfl ⟨by omega, Nat.le_of_ble_eq_true rfl⟩ (Nat.le_of_ble_eq_true rfl) dX4_readFactor_44 rfl (fun v11 => ?_)
      refine r_if_eq (tgt := 57) (pc1 := 50) dX4_readFactor_47 (by decide) rfl (fun q12 => ?_) (fun q12 => ?_)
      · refine r_iload_n (pc1 := 58) (i := 2) dX4_readFactor_57 rfl rfl rfl ?_
        refine r_jn (hyp := fun (k14 : Int32 → Res) => ∀ (v13 : Int32), RC l wF RX4 cX4_readFactor 4 none (dr + 1) 72 [.ref 17, .null, .null, .null] [.int v13] s0 (k14 v13)) (fun v13 => ?_) (fun k14 hk14 => ?_)
        · refine r_istore_n (pc1 := 73) (i := 3) dX4_readFactor_72 rfl (by decide) rfl rfl rfl ?_
          refine r_iload_n (pc1 := 74) (i := 3) dX4_readFactor_73 rfl rfl rfl ?_
          refine r_if_ge (tgt := 83) (pc1 := 77) dX4_readFactor_74 (by decide) rfl (fun q15 => ?_) (fun q15 => ?_)
          · refine r_aload_n (pc1 := 84) (i := 0) dX4_readFactor_83 rfl rfl rfl ?_
            refine r_dup (pc1 := 85) dX4_readFactor_84 rfl rfl ?_
            refine r_getI (pc1 := 88) w_17 gfX4_35 rfl dX4_readFactor_85 rfl ?_
            refine r_iconst (v := 1) (pc1 := 89) dX4_readFactor_88 ki_1 rfl ?_
            refine r_iadd (pc1 := 90) dX4_readFactor_89 rfl ?_
            refine r_putI (pc1 := 93) w_17 pfX4_35 rfl ⟨rfl, rfl⟩ dX4_readFactor_90 rfl ?_
            refine r_lts (fun s16 => ?_)
            refine r_aload_n (pc1 := 94) (i := 0) dX4_readFactor_93 rfl rfl rfl ?_
            refine r_getR (pc1 := 97) w_17 gfX4_18 rfl dX4_readFactor_94 rfl ?_
            refine r_bipush (v := 108) (pc1 := 99) dX4_readFactor_97 kb_108 rfl ?_
            refine r_iload_n (pc1 := 100) (i := 3) dX4_readFactor_99 rfl rfl rfl ?_
            refine r_callVi (pc1 := 103) (rv_of w_19 cl_1) lkX4_86 (c_X1_addStep _ _ _) rfl rfl ⟨by omega, Nat.le_of_ble_eq_true rfl⟩ (Nat.le_of_ble_eq_true rfl) dX4_readFactor_100 rfl (fun v17 s18 => ?_)
            refine r_pop (pc1 := 104) dX4_readFactor_103 rfl rfl ?_
            exact r_vret rfl dX4_readFactor_104
          · refine r_aload_n (pc1 := 78) (i := 0) dX4_readFactor_77 rfl rfl rfl ?_
            refine r_iconst (v := 1) (pc1 := 79) dX4_readFactor_78 ki_1 rfl ?_
            refine r_callVv (pc1 := 82) (rv_of w_17 cl_4) lkX4_64 (c_X4_stop _ _) rfl rfl ⟨by omega, Nat.le_of_ble_eq_true rfl⟩ (Nat.le_of_ble_eq_true rfl) dX4_readFactor_79 rfl (fun v19 s20 => ?_)
            exact r_vret rfl dX4_readFactor_82
        · refine r_if_ge (tgt := 65) (pc1 := 61) dX4_readFactor_58 (by decide) rfl (fun q21 => ?_) (fun q21 => ?_)
          · refine r_facts (pc1 := 67) dX4_readFactor_65 rfl ?_
            refine r_iload_n (pc1 := 68) (i := 2) dX4_readFactor_67 rfl rfl rfl ?_
            refine r_i2c (pc1 := 69) dX4_readFactor_68 rfl ?_
            refine r_callVp (pc1 := 72) rv_facts lkX4_116 (c_J0_indexOf_0f7a4 _ _) rfl rfl ⟨by omega, Nat.le_of_ble_eq_true rfl⟩ (Nat.le_of_ble_eq_true rfl) dX4_readFactor_69 rfl (fun v22 => ?_)
            exact r_wk (hk14 v22) ⟨Or.inr rfl, Or.inl rfl, Or.inl rfl, Or.inl rfl, trivial⟩
          · refine r_iconst (v := (-1)) (pc1 := 62) dX4_readFactor_61 ki_m1 rfl ?_
            refine r_goto (tgt := 72) dX4_readFactor_62 (by decide) ?_
            exact r_wk (hk14 ((-1))) ⟨Or.inr rfl, Or.inl rfl, Or.inl rfl, Or.inl rfl, trivial⟩
      · refine r_aload_n (pc1 := 51) (i := 0) dX4_readFactor_50 rfl rfl rfl ?_
        refine r_callVv (pc1 := 54) (rv_of w_17 cl_4) lkX4_111 (c_X4_readDigits _) rfl rfl ⟨by omega, Nat.le_of_ble_eq_true rfl⟩ (Nat.le_of_ble_eq_true rfl) dX4_readFactor_51 rfl (fun v23 s24 => ?_)
        refine r_goto (tgt := 104) dX4_readFactor_54 (by decide) ?_
        exact r_vret rfl dX4_readFactor_104
  · exact r_vret rfl dX4_readFactor_7
/-! f_X4_readProduct -/
noncomputable def lp_X4_readProduct_7 (rf : Int32 → SS → Res) (a1 : Int32) : Nat → Int32 → SS → Res
  | 0, _, _ => none
  | n5 + 1, v3, s4 => if (200 : Int32) ≤ (v3 : Int32) then some (0, s4) else if (s4 17 4 : Int32) = 0 then bdp (f_X4_sign s4) (fun (v8 : Int32) => bdp (f_X4_isProductSign v8 s4) (fun (v9 : Int32) => if (v9 : Int32) = 0 then some (0, s4) else bdp (f_X4_sign s4) (fun (v11 : Int32) => lts (up s4 17 3 ((s4 17 3) + 1)) (fun (s12 : SS) => bd (f_X4_readFactor rf a1 s12) (fun (v13 : Int32) (s14 : SS) => bd (f_X1_addStep v11 0 s14) (fun (v15 : Int32) (s16 : SS) => lp_X4_readProduct_7 rf a1 n5 (v3 + 1) s16)))))) else some (0, s4)
noncomputable def f_X4_readProduct (rf : Int32 → SS → Res) (a1 : Int32) (s0 : SS) : Res := bd (f_X4_readFactor rf a1 s0) (fun (v1 : Int32) (s2 : SS) => lp_X4_readProduct_7 rf a1 FU 0 s2)
set_option maxRecDepth 100000 in
set_option maxHeartbeats 4000000 in
theorem t_lp_X4_readProduct_7 {l : Launch} {dr : Nat} (hdr : 4 ≤ dr) {rf : Int32 → SS → Res} (hrf : ∀ (x0 : Int32) (z : SS), Ct l wF yX4_readSum cX4_readSum 4 none dr [.ref 17, .int x0] z (rf x0 z)) (a1 : Int32)  : ∀ (n5 : Nat) (v3 : Int32) (s4 : SS), RC l wF RX4 cX4_readProduct 4 none (dr + 2) 7 [.ref 17, .int a1, .int v3, .null] [] s4 (lp_X4_readProduct_7 rf a1 n5 v3 s4) := by
  intro n5
  induction n5 with
  | zero =>
    intro v3 s4
    rw [lp_X4_readProduct_7]
    exact r_none
  | succ n5 ih =>
    intro v3 s4
    rw [lp_X4_readProduct_7]
    refine r_iload_n (pc1 := 8) (i := 2) dX4_readProduct_7 rfl rfl rfl ?_
    refine r_sipush (v := 200) (pc1 := 11) dX4_readProduct_8 ks_200 rfl ?_
    refine r_icmp_ge (tgt := 67) (pc1 := 14) dX4_readProduct_11 (by decide) rfl (fun q6 => ?_) (fun q6 => ?_)
    · exact r_vret rfl dX4_readProduct_67
    · refine r_aload_n (pc1 := 15) (i := 0) dX4_readProduct_14 rfl rfl rfl ?_
      refine r_getI (pc1 := 18) w_17 gfX4_38 rfl dX4_readProduct_15 rfl ?_
      refine r_if_ne (tgt := 67) (pc1 := 21) dX4_readProduct_18 (by decide) rfl (fun q7 => ?_) (fun q7 => ?_)
      · refine r_aload_n (pc1 := 22) (i := 0) dX4_readProduct_21 rfl rfl rfl ?_
        refine r_callVp (pc1 := 25) (rv_of w_17 cl_4) lkX4_61 (c_X4_sign _) rfl rfl ⟨by omega, Nat.le_of_ble_eq_true rfl⟩ (Nat.le_of_ble_eq_true rfl) dX4_readProduct_22 rfl (fun v8 => ?_)
        refine r_callSp (pc1 := 28) lkX4_105 (c_X4_isProductSign _ _) rfl rfl ⟨by omega, Nat.le_of_ble_eq_true rfl⟩ (Nat.le_of_ble_eq_true rfl) dX4_readProduct_25 rfl (fun v9 => ?_)
        refine r_if_eq (tgt := 67) (pc1 := 31) dX4_readProduct_28 (by decide) rfl (fun q10 => ?_) (fun q10 => ?_)
        · exact r_vret rfl dX4_readProduct_67
        · refine r_aload_n (pc1 := 32) (i := 0) dX4_readProduct_31 rfl rfl rfl ?_
          refine r_callVp (pc1 := 35) (rv_of w_17 cl_4) lkX4_61 (c_X4_sign _) rfl rfl ⟨by omega, Nat.le_of_ble_eq_true rfl⟩ (Nat.le_of_ble_eq_true rfl) dX4_readProduct_32 rfl (fun v11 => ?_)
          refine r_istore_n (pc1 := 36) (i := 3) dX4_readProduct_35 rfl (by decide) rfl rfl rfl ?_
          refine r_aload_n (pc1 := 37) (i := 0) dX4_readProduct_36 rfl rfl rfl ?_
          refine r_dup (pc1 := 38) dX4_readProduct_37 rfl rfl ?_
          refine r_getI (pc1 := 41) w_17 gfX4_35 rfl dX4_readProduct_38 rfl ?_
          refine r_iconst (v := 1) (pc1 := 42) dX4_readProduct_41 ki_1 rfl ?_
          refine r_iadd (pc1 := 43) dX4_readProduct_42 rfl ?_
          refine r_putI (pc1 := 46) w_17 pfX4_35 rfl ⟨rfl, rfl⟩ dX4_readProduct_43 rfl ?_
          refine r_lts (fun s12 => ?_)
          refine r_aload_n (pc1 := 47) (i := 0) dX4_readProduct_46 rfl rfl rfl ?_
          refine r_iload_n (pc1 := 48) (i := 1) dX4_readProduct_47 rfl rfl rfl ?_
          refine r_callVv (pc1 := 51) (rv_of w_17 cl_4) lkX4_102 (c_X4_readFactor hdr hrf _ _) rfl rfl ⟨by omega, Nat.le_of_ble_eq_true rfl⟩ (Nat.le_of_ble_eq_true rfl) dX4_readProduct_48 rfl (fun v13 s14 => ?_)
          refine r_aload_n (pc1 := 52) (i := 0) dX4_readProduct_51 rfl rfl rfl ?_
          refine r_getR (pc1 := 55) w_17 gfX4_18 rfl dX4_readProduct_52 rfl ?_
          refine r_iload_n (pc1 := 56) (i := 3) dX4_readProduct_55 rfl rfl rfl ?_
          refine r_iconst (v := 0) (pc1 := 57) dX4_readProduct_56 ki_0 rfl ?_
          refine r_callVi (pc1 := 60) (rv_of w_19 cl_1) lkX4_86 (c_X1_addStep _ _ _) rfl rfl ⟨by omega, Nat.le_of_ble_eq_true rfl⟩ (Nat.le_of_ble_eq_true rfl) dX4_readProduct_57 rfl (fun v15 s16 => ?_)
          refine r_pop (pc1 := 61) dX4_readProduct_60 rfl rfl ?_
          refine r_iinc (pc1 := 64) dX4_readProduct_61 rfl (kn_1 _) (by decide) rfl rfl rfl ?_
          refine r_goto (tgt := 7) dX4_readProduct_64 (by decide) ?_
          exact r_wk (ih (v3 + 1) s16) ⟨Or.inr rfl, Or.inr rfl, Or.inr rfl, Or.inl rfl, trivial⟩
      · exact r_vret rfl dX4_readProduct_67
set_option maxRecDepth 100000 in
set_option maxHeartbeats 4000000 in
theorem c_X4_readProduct {l : Launch} {dr : Nat} (hdr : 4 ≤ dr) {rf : Int32 → SS → Res} (hrf : ∀ (x0 : Int32) (z : SS), Ct l wF yX4_readSum cX4_readSum 4 none dr [.ref 17, .int x0] z (rf x0 z)) (a1 : Int32) (s0 : SS) : Ct l wF yX4_readProduct cX4_readProduct 4 none (dr + 2) [.ref 17, .int a1] s0 (f_X4_readProduct rf a1 s0) := by
  refine ct_of (y := yX4_readProduct) plX4 (Nat.le_of_ble_eq_true rfl) ?_
  refine r_pad0 2 (L1 := [.ref 17, .int a1, .null, .null]) rfl ?_
  unfold f_X4_readProduct
  refine r_aload_n (pc1 := 1) (i := 0) dX4_readProduct_0 rfl rfl rfl ?_
  refine r_iload_n (pc1 := 2) (i := 1) dX4_readProduct_1 rfl rfl rfl ?_
  refine r_callVv (pc1 := 5) (rv_of w_17 cl_4) lkX4_102 (c_X4_readFactor hdr hrf _ _) rfl rfl ⟨by omega, Nat.le_of_ble_eq_true rfl⟩ (Nat.le_of_ble_eq_true rfl) dX4_readProduct_2 rfl (fun v1 s2 => ?_)
  refine r_iconst (v := 0) (pc1 := 6) dX4_readProduct_5 ki_0 rfl ?_
  refine r_istore_n (pc1 := 7) (i := 2) dX4_readProduct_6 rfl (by decide) rfl rfl rfl ?_
  exact r_wk (t_lp_X4_readProduct_7 hdr hrf a1 FU 0 s2) ⟨Or.inr rfl, Or.inr rfl, Or.inr rfl, Or.inl rfl, trivial⟩
/-! f_X4_readSum -/
noncomputable def lp_X4_readSum_7 (rf : Int32 → SS → Res) (a1 : Int32) : Nat → Int32 → SS → Res
  | 0, _, _ => none
  | n5 + 1, v3, s4 => if (200 : Int32) ≤ (v3 : Int32) then some (0, s4) else if (s4 17 4 : Int32) = 0 then bdp (f_X4_sign s4) (fun (v8 : Int32) => jn (bdp (f_X4_sign s4) (fun (v10 : Int32) => lts (up s4 17 3 ((s4 17 3) + 1)) (fun (s11 : SS) => bd (f_X4_readProduct rf a1 s11) (fun (v12 : Int32) (s13 : SS) => bd (f_X1_addStep v10 0 s13) (fun (v14 : Int32) (s15 : SS) => lp_X4_readSum_7 rf a1 n5 (v3 + 1) s15))))) (fun (k9 : Res) => if (v8 : Int32) = (43 : Int32) then k9 else bdp (f_X4_sign s4) (fun (v17 : Int32) => if (v17 : Int32) = (45 : Int32) then k9 else some (0, s4)))) else some (0, s4)
noncomputable def o_X4_readSum (rf : Int32 → SS → Res) (a1 : Int32) (s0 : SS) : Res := bd (f_X4_readProduct rf a1 s0) (fun (v1 : Int32) (s2 : SS) => lp_X4_readSum_7 rf a1 FU 0 s2)
set_option maxRecDepth 100000 in
set_option maxHeartbeats 4000000 in
theorem t_lp_X4_readSum_7 {l : Launch} {dr : Nat} (hdr : 4 ≤ dr) {rf : Int32 → SS → Res} (hrf : ∀ (x0 : Int32) (z : SS), Ct l wF yX4_readSum cX4_readSum 4 none dr [.ref 17, .int x0] z (rf x0 z)) (a1 : Int32)  : ∀ (n5 : Nat) (v3 : Int32) (s4 : SS), RC l wF RX4 cX4_readSum 4 none (dr + 3) 7 [.ref 17, .int a1, .int v3, .null] [] s4 (lp_X4_readSum_7 rf a1 n5 v3 s4) := by
  intro n5
  induction n5 with
  | zero =>
    intro v3 s4
    rw [lp_X4_readSum_7]
    exact r_none
  | succ n5 ih =>
    intro v3 s4
    rw [lp_X4_readSum_7]
    refine r_iload_n (pc1 := 8) (i := 2) dX4_readSum_7 rfl rfl rfl ?_
    refine r_sipush (v := 200) (pc1 := 11) dX4_readSum_8 ks_200 rfl ?_
    refine r_icmp_ge (tgt := 75) (pc1 := 14) dX4_readSum_11 (by decide) rfl (fun q6 => ?_) (fun q6 => ?_)
    · exact r_vret rfl dX4_readSum_75
    · refine r_aload_n (pc1 := 15) (i := 0) dX4_readSum_14 rfl rfl rfl ?_
      refine r_getI (pc1 := 18) w_17 gfX4_38 rfl dX4_readSum_15 rfl ?_
      refine r_if_ne (tgt := 75) (pc1 := 21) dX4_readSum_18 (by decide) rfl (fun q7 => ?_) (fun q7 => ?_)
      · refine r_aload_n (pc1 := 22) (i := 0) dX4_readSum_21 rfl rfl rfl ?_
        refine r_callVp (pc1 := 25) (rv_of w_17 cl_4) lkX4_61 (c_X4_sign _) rfl rfl ⟨by omega, Nat.le_of_ble_eq_true rfl⟩ (Nat.le_of_ble_eq_true rfl) dX4_readSum_22 rfl (fun v8 => ?_)
        refine r_bipush (v := 43) (pc1 := 27) dX4_readSum_25 kb_43 rfl ?_
        refine r_jn (hyp := fun (k9 : Res) => RC l wF RX4 cX4_readSum 4 none (dr + 3) 39 [.ref 17, .int a1, .int v3, .null] [] s4 k9) (?_) (fun k9 hk9 => ?_)
        · refine r_aload_n (pc1 := 40) (i := 0) dX4_readSum_39 rfl rfl rfl ?_
          refine r_callVp (pc1 := 43) (rv_of w_17 cl_4) lkX4_61 (c_X4_sign _) rfl rfl ⟨by omega, Nat.le_of_ble_eq_true rfl⟩ (Nat.le_of_ble_eq_true rfl) dX4_readSum_40 rfl (fun v10 => ?_)
          refine r_istore_n (pc1 := 44) (i := 3) dX4_readSum_43 rfl (by decide) rfl rfl rfl ?_
          refine r_aload_n (pc1 := 45) (i := 0) dX4_readSum_44 rfl rfl rfl ?_
          refine r_dup (pc1 := 46) dX4_readSum_45 rfl rfl ?_
          refine r_getI (pc1 := 49) w_17 gfX4_35 rfl dX4_readSum_46 rfl ?_
          refine r_iconst (v := 1) (pc1 := 50) dX4_readSum_49 ki_1 rfl ?_
          refine r_iadd (pc1 := 51) dX4_readSum_50 rfl ?_
          refine r_putI (pc1 := 54) w_17 pfX4_35 rfl ⟨rfl, rfl⟩ dX4_readSum_51 rfl ?_
          refine r_lts (fun s11 => ?_)
          refine r_aload_n (pc1 := 55) (i := 0) dX4_readSum_54 rfl rfl rfl ?_
          refine r_iload_n (pc1 := 56) (i := 1) dX4_readSum_55 rfl rfl rfl ?_
          refine r_callVv (pc1 := 59) (rv_of w_17 cl_4) lkX4_99 (c_X4_readProduct hdr hrf _ _) rfl rfl ⟨by omega, Nat.le_of_ble_eq_true rfl⟩ (Nat.le_of_ble_eq_true rfl) dX4_readSum_56 rfl (fun v12 s13 => ?_)
          refine r_aload_n (pc1 := 60) (i := 0) dX4_readSum_59 rfl rfl rfl ?_
          refine r_getR (pc1 := 63) w_17 gfX4_18 rfl dX4_readSum_60 rfl ?_
          refine r_iload_n (pc1 := 64) (i := 3) dX4_readSum_63 rfl rfl rfl ?_
          refine r_iconst (v := 0) (pc1 := 65) dX4_readSum_64 ki_0 rfl ?_
          refine r_callVi (pc1 := 68) (rv_of w_19 cl_1) lkX4_86 (c_X1_addStep _ _ _) rfl rfl ⟨by omega, Nat.le_of_ble_eq_true rfl⟩ (Nat.le_of_ble_eq_true rfl) dX4_readSum_65 rfl (fun v14 s15 => ?_)
          refine r_pop (pc1 := 69) dX4_readSum_68 rfl rfl ?_
          refine r_iinc (pc1 := 72) dX4_readSum_69 rfl (kn_1 _) (by decide) rfl rfl rfl ?_
          refine r_goto (tgt := 7) dX4_readSum_72 (by decide) ?_
          exact r_wk (ih (v3 + 1) s15) ⟨Or.inr rfl, Or.inr rfl, Or.inr rfl, Or.inl rfl, trivial⟩
        · refine r_icmp_eq (tgt := 39) (pc1 := 30) dX4_readSum_27 (by decide) rfl (fun q16 => ?_) (fun q16 => ?_)
          · exact r_wk (hk9) ⟨Or.inr rfl, Or.inr rfl, Or.inr rfl, Or.inl rfl, trivial⟩
          · refine r_aload_n (pc1 := 31) (i := 0) dX4_readSum_30 rfl rfl rfl ?_
            refine r_callVp (pc1 := 34) (rv_of w_17 cl_4) lkX4_61 (c_X4_sign _) rfl rfl ⟨by omega, Nat.le_of_ble_eq_true rfl⟩ (Nat.le_of_ble_eq_true rfl) dX4_readSum_31 rfl (fun v17 => ?_)
            refine r_bipush (v := 45) (pc1 := 36) dX4_readSum_34 kb_45 rfl ?_
            refine r_icmp_ne (tgt := 75) (pc1 := 39) dX4_readSum_36 (by decide) rfl (fun q18 => ?_) (fun q18 => ?_)
            · exact r_wk (hk9) ⟨Or.inr rfl, Or.inr rfl, Or.inr rfl, Or.inl rfl, trivial⟩
            · exact r_vret rfl dX4_readSum_75
      · exact r_vret rfl dX4_readSum_75
set_option maxRecDepth 100000 in
set_option maxHeartbeats 4000000 in
theorem c_o_X4_readSum {l : Launch} {dr : Nat} (hdr : 4 ≤ dr) {rf : Int32 → SS → Res} (hrf : ∀ (x0 : Int32) (z : SS), Ct l wF yX4_readSum cX4_readSum 4 none dr [.ref 17, .int x0] z (rf x0 z)) (a1 : Int32) (s0 : SS) : Ct l wF yX4_readSum cX4_readSum 4 none (dr + 3) [.ref 17, .int a1] s0 (o_X4_readSum rf a1 s0) := by
  refine ct_of (y := yX4_readSum) plX4 (Nat.le_of_ble_eq_true rfl) ?_
  refine r_pad0 2 (L1 := [.ref 17, .int a1, .null, .null]) rfl ?_
  unfold o_X4_readSum
  refine r_aload_n (pc1 := 1) (i := 0) dX4_readSum_0 rfl rfl rfl ?_
  refine r_iload_n (pc1 := 2) (i := 1) dX4_readSum_1 rfl rfl rfl ?_
  refine r_callVv (pc1 := 5) (rv_of w_17 cl_4) lkX4_99 (c_X4_readProduct hdr hrf _ _) rfl rfl ⟨by omega, Nat.le_of_ble_eq_true rfl⟩ (Nat.le_of_ble_eq_true rfl) dX4_readSum_2 rfl (fun v1 s2 => ?_)
  refine r_iconst (v := 0) (pc1 := 6) dX4_readSum_5 ki_0 rfl ?_
  refine r_istore_n (pc1 := 7) (i := 2) dX4_readSum_6 rfl (by decide) rfl rfl rfl ?_
  exact r_wk (t_lp_X4_readSum_7 hdr hrf a1 FU 0 s2) ⟨Or.inr rfl, Or.inr rfl, Or.inr rfl, Or.inl rfl, trivial⟩
noncomputable def f_X4_readSum : Nat → Int32 → SS → Res
  | 0, _, _ => none
  | n + 1, a1, s0 => o_X4_readSum (f_X4_readSum n) a1 s0
theorem c_X4_readSum {l : Launch} : ∀ (n : Nat) (a1 : Int32) (s0 : SS), Ct l wF yX4_readSum cX4_readSum 4 none (4 + 3 * n) [.ref 17, .int a1] s0 (f_X4_readSum n a1 s0)
  | 0, _, _ => fun r s1 he => by cases he
  | n + 1, a1, s0 => c_o_X4_readSum (by omega) (fun x0 z => c_X4_readSum n x0 z) a1 s0
/-! f_X4_readComparison -/
noncomputable def f_X4_readComparison (a1 : Int32) (s0 : SS) : Res := bd (f_X4_readSum 40 a1 s0) (fun (v1 : Int32) (s2 : SS) => bdp (f_X4_sign s2) (fun (v3 : Int32) => jn (bd (f_X4_stop 1 s2) (fun (v5 : Int32) (s6 : SS) => some (0, s6))) (fun (k4 : Res) => if (s2 17 4 : Int32) = 0 then jn (lts (up s2 17 3 ((s2 17 3) + 1)) (fun (s9 : SS) => bd (f_X4_readSum 40 a1 s9) (fun (v10 : Int32) (s11 : SS) => bd (f_X1_addStep v3 0 s11) (fun (v12 : Int32) (s13 : SS) => some (0, s13))))) (fun (k8 : Res) => if (v3 : Int32) = (60 : Int32) then k8 else if (v3 : Int32) = (62 : Int32) then k8 else if (v3 : Int32) = (61 : Int32) then k8 else k4) else k4)))
set_option maxRecDepth 100000 in
set_option maxHeartbeats 4000000 in
theorem c_X4_readComparison {l : Launch} (a1 : Int32) (s0 : SS) : Ct l wF yX4_readComparison cX4_readComparison 3 none 125 [.ref 17, .int a1] s0 (f_X4_readComparison a1 s0) := by
  refine ct_of (y := yX4_readComparison) plX4 (Nat.le_of_ble_eq_true rfl) ?_
  refine r_pad0 1 (L1 := [.ref 17, .int a1, .null]) rfl ?_
  unfold f_X4_readComparison
  refine r_aload_n (pc1 := 1) (i := 0) dX4_readComparison_0 rfl rfl rfl ?_
  refine r_iload_n (pc1 := 2) (i := 1) dX4_readComparison_1 rfl rfl rfl ?_
  refine r_callVv (pc1 := 5) (rv_of w_17 cl_4) lkX4_70 (c_X4_readSum 40 _ _) rfl rfl ⟨Nat.le_of_ble_eq_true rfl, Nat.le_of_ble_eq_true rfl⟩ (Nat.le_of_ble_eq_true rfl) dX4_readComparison_2 rfl (fun v1 s2 => ?_)
  refine r_aload_n (pc1 := 6) (i := 0) dX4_readComparison_5 rfl rfl rfl ?_
  refine r_callVp (pc1 := 9) (rv_of w_17 cl_4) lkX4_61 (c_X4_sign _) rfl rfl ⟨Nat.le_of_ble_eq_true rfl, Nat.le_of_ble_eq_true rfl⟩ (Nat.le_of_ble_eq_true rfl) dX4_readComparison_6 rfl (fun v3 => ?_)
  refine r_istore_n (pc1 := 10) (i := 2) dX4_readComparison_9 rfl (by decide) rfl rfl rfl ?_
  refine r_aload_n (pc1 := 11) (i := 0) dX4_readComparison_10 rfl rfl rfl ?_
  refine r_getI (pc1 := 14) w_17 gfX4_38 rfl dX4_readComparison_11 rfl ?_
  refine r_jn (hyp := fun (k4 : Res) => RC l wF RX4 cX4_readComparison 3 none 125 35 [.ref 17, .null, .null] [] s2 k4) (?_) (fun k4 hk4 => ?_)
  · refine r_aload_n (pc1 := 36) (i := 0) dX4_readComparison_35 rfl rfl rfl ?_
    refine r_iconst (v := 1) (pc1 := 37) dX4_readComparison_36 ki_1 rfl ?_
    refine r_callVv (pc1 := 40) (rv_of w_17 cl_4) lkX4_64 (c_X4_stop _ _) rfl rfl ⟨Nat.le_of_ble_eq_true rfl, Nat.le_of_ble_eq_true rfl⟩ (Nat.le_of_ble_eq_true rfl) dX4_readComparison_37 rfl (fun v5 s6 => ?_)
    exact r_vret rfl dX4_readComparison_40
  · refine r_if_ne (tgt := 35) (pc1 := 17) dX4_readComparison_14 (by decide) rfl (fun q7 => ?_) (fun q7 => ?_)
    · refine r_iload_n (pc1 := 18) (i := 2) dX4_readComparison_17 rfl rfl rfl ?_
      refine r_bipush (v := 60) (pc1 := 20) dX4_readComparison_18 kb_60 rfl ?_
      refine r_jn (hyp := fun (k8 : Res) => RC l wF RX4 cX4_readComparison 3 none 125 41 [.ref 17, .int a1, .int v3] [] s2 k8) (?_) (fun k8 hk8 => ?_)
      · refine r_aload_n (pc1 := 42) (i := 0) dX4_readComparison_41 rfl rfl rfl ?_
        refine r_dup (pc1 := 43) dX4_readComparison_42 rfl rfl ?_
        refine r_getI (pc1 := 46) w_17 gfX4_35 rfl dX4_readComparison_43 rfl ?_
        refine r_iconst (v := 1) (pc1 := 47) dX4_readComparison_46 ki_1 rfl ?_
        refine r_iadd (pc1 := 48) dX4_readComparison_47 rfl ?_
        refine r_putI (pc1 := 51) w_17 pfX4_35 rfl ⟨rfl, rfl⟩ dX4_readComparison_48 rfl ?_
        refine r_lts (fun s9 => ?_)
        refine r_aload_n (pc1 := 52) (i := 0) dX4_readComparison_51 rfl rfl rfl ?_
        refine r_iload_n (pc1 := 53) (i := 1) dX4_readComparison_52 rfl rfl rfl ?_
        refine r_callVv (pc1 := 56) (rv_of w_17 cl_4) lkX4_70 (c_X4_readSum 40 _ _) rfl rfl ⟨Nat.le_of_ble_eq_true rfl, Nat.le_of_ble_eq_true rfl⟩ (Nat.le_of_ble_eq_true rfl) dX4_readComparison_53 rfl (fun v10 s11 => ?_)
        refine r_aload_n (pc1 := 57) (i := 0) dX4_readComparison_56 rfl rfl rfl ?_
        refine r_getR (pc1 := 60) w_17 gfX4_18 rfl dX4_readComparison_57 rfl ?_
        refine r_iload_n (pc1 := 61) (i := 2) dX4_readComparison_60 rfl rfl rfl ?_
        refine r_iconst (v := 0) (pc1 := 62) dX4_readComparison_61 ki_0 rfl ?_
        refine r_callVi (pc1 := 65) (rv_of w_19 cl_1) lkX4_86 (c_X1_addStep _ _ _) rfl rfl ⟨Nat.le_of_ble_eq_true rfl, Nat.le_of_ble_eq_true rfl⟩ (Nat.le_of_ble_eq_true rfl) dX4_readComparison_62 rfl (fun v12 s13 => ?_)
        refine r_pop (pc1 := 66) dX4_readComparison_65 rfl rfl ?_
        exact r_vret rfl dX4_readComparison_66
      · refine r_icmp_eq (tgt := 41) (pc1 := 23) dX4_readComparison_20 (by decide) rfl (fun q14 => ?_) (fun q14 => ?_)
        · exact r_wk (hk8) ⟨Or.inr rfl, Or.inr rfl, Or.inr rfl, trivial⟩
        · refine r_iload_n (pc1 := 24) (i := 2) dX4_readComparison_23 rfl rfl rfl ?_
          refine r_bipush (v := 62) (pc1 := 26) dX4_readComparison_24 kb_62 rfl ?_
          refine r_icmp_eq (tgt := 41) (pc1 := 29) dX4_readComparison_26 (by decide) rfl (fun q15 => ?_) (fun q15 => ?_)
          · exact r_wk (hk8) ⟨Or.inr rfl, Or.inr rfl, Or.inr rfl, trivial⟩
          · refine r_iload_n (pc1 := 30) (i := 2) dX4_readComparison_29 rfl rfl rfl ?_
            refine r_bipush (v := 61) (pc1 := 32) dX4_readComparison_30 kb_61 rfl ?_
            refine r_icmp_eq (tgt := 41) (pc1 := 35) dX4_readComparison_32 (by decide) rfl (fun q16 => ?_) (fun q16 => ?_)
            · exact r_wk (hk8) ⟨Or.inr rfl, Or.inr rfl, Or.inr rfl, trivial⟩
            · exact r_wk (hk4) ⟨Or.inr rfl, Or.inl rfl, Or.inl rfl, trivial⟩
    · exact r_wk (hk4) ⟨Or.inr rfl, Or.inl rfl, Or.inl rfl, trivial⟩
/-! f_X1_aimHere -/
noncomputable def f_X1_aimHere (a1 : Int32) (s0 : SS) : Res := if (a1 : Int32) < 0 then some (0, s0) else if (200 : Int32) ≤ (a1 : Int32) then some (0, s0) else gd (inb a1 200) (lts (up s0 21 (Int32.toNatClampNeg a1) (s0 19 7)) (fun (s3 : SS) => some (0, s3)))
set_option maxRecDepth 100000 in
set_option maxHeartbeats 4000000 in
theorem c_X1_aimHere {l : Launch} (a1 : Int32) (s0 : SS) : Ct l wF yX1_aimHere cX1_aimHere 2 none 0 [.ref 19, .int a1] s0 (f_X1_aimHere a1 s0) := by
  refine ct_of (y := yX1_aimHere) plX1 (Nat.le_of_ble_eq_true rfl) ?_
  refine r_pad0 0 (L1 := [.ref 19, .int a1]) rfl ?_
  unfold f_X1_aimHere
  refine r_iload_n (pc1 := 1) (i := 1) dX1_aimHere_0 rfl rfl rfl ?_
  refine r_if_lt (tgt := 21) (pc1 := 4) dX1_aimHere_1 (by decide) rfl (fun q1 => ?_) (fun q1 => ?_)
  · exact r_vret rfl dX1_aimHere_21
  · refine r_iload_n (pc1 := 5) (i := 1) dX1_aimHere_4 rfl rfl rfl ?_
    refine r_sipush (v := 200) (pc1 := 8) dX1_aimHere_5 ks_200 rfl ?_
    refine r_icmp_ge (tgt := 21) (pc1 := 11) dX1_aimHere_8 (by decide) rfl (fun q2 => ?_) (fun q2 => ?_)
    · exact r_vret rfl dX1_aimHere_21
    · refine r_aload_n (pc1 := 12) (i := 0) dX1_aimHere_11 rfl rfl rfl ?_
      refine r_getR (pc1 := 15) w_19 gfX1_15 rfl dX1_aimHere_12 rfl ?_
      refine r_iload_n (pc1 := 16) (i := 1) dX1_aimHere_15 rfl rfl rfl ?_
      refine r_aload_n (pc1 := 17) (i := 0) dX1_aimHere_16 rfl rfl rfl ?_
      refine r_getI (pc1 := 20) w_19 gfX1_37 rfl dX1_aimHere_17 rfl ?_
      refine r_iast (pc1 := 21) w_21 dX1_aimHere_20 rfl ?_
      refine r_lts (fun s3 => ?_)
      exact r_vret rfl dX1_aimHere_21
/-! f_X4_readAllOf -/
noncomputable def lp_X4_readAllOf_9 (rf : Int32 → SS → Res) (a1 : Int32) (k5 : Int32 → SS → Res) : Nat → Int32 → Int32 → SS → Res
  | 0, _, _, _ => none
  | n11 + 1, v8, v9, s10 => if (200 : Int32) ≤ (v9 : Int32) then k5 v8 s10 else if (s10 17 4 : Int32) = 0 then bdp (f_X4_sign s10) (fun (v14 : Int32) => if (v14 : Int32) = (38 : Int32) then lts (up s10 17 3 ((s10 17 3) + 1)) (fun (s16 : SS) => bd (f_X1_aimHere v8 s16) (fun (v17 : Int32) (s18 : SS) => bd (f_X1_addStep 38 0 s18) (fun (v19 : Int32) (s20 : SS) => bd (rf a1 s20) (fun (v21 : Int32) (s22 : SS) => lp_X4_readAllOf_9 rf a1 k5 n11 v19 (v9 + 1) s22)))) else k5 v8 s10) else k5 v8 s10
noncomputable def f_X4_readAllOf (rf : Int32 → SS → Res) (a1 : Int32) (s0 : SS) : Res := bd (rf a1 s0) (fun (v1 : Int32) (s2 : SS) => jn (fun (v3 : Int32) (s4 : SS) => bd (f_X1_aimHere v3 s4) (fun (v6 : Int32) (s7 : SS) => some (0, s7))) (fun (k5 : Int32 → SS → Res) => lp_X4_readAllOf_9 rf a1 k5 FU ((-1)) 0 s2))
set_option maxRecDepth 100000 in
set_option maxHeartbeats 4000000 in
theorem t_lp_X4_readAllOf_9 {l : Launch} {dr : Nat} (hdr : 126 ≤ dr) {rf : Int32 → SS → Res} (hrf : ∀ (x0 : Int32) (z : SS), Ct l wF yX4_readPiece cX4_readPiece 2 none dr [.ref 17, .int x0] z (rf x0 z)) (a1 : Int32) (k5 : Int32 → SS → Res) (hk5 : ∀ (v3 : Int32) (s4 : SS), RC l wF RX4 cX4_readAllOf 4 none (dr + 1) 72 [.ref 17, .null, .int v3, .null] [] s4 (k5 v3 s4)) : ∀ (n11 : Nat) (v8 : Int32) (v9 : Int32) (s10 : SS), RC l wF RX4 cX4_readAllOf 4 none (dr + 1) 9 [.ref 17, .int a1, .int v8, .int v9] [] s10 (lp_X4_readAllOf_9 rf a1 k5 n11 v8 v9 s10) := by
  intro n11
  induction n11 with
  | zero =>
    intro v8 v9 s10
    rw [lp_X4_readAllOf_9]
    exact r_none
  | succ n11 ih =>
    intro v8 v9 s10
    rw [lp_X4_readAllOf_9]
    refine r_iload_n (pc1 := 10) (i := 3) dX4_readAllOf_9 rfl rfl rfl ?_
    refine r_sipush (v := 200) (pc1 := 13) dX4_readAllOf_10 ks_200 rfl ?_
    refine r_icmp_ge (tgt := 72) (pc1 := 16) dX4_readAllOf_13 (by decide) rfl (fun q12 => ?_) (fun q12 => ?_)
    · exact r_wk (hk5 v8 s10) ⟨Or.inr rfl, Or.inl rfl, Or.inr rfl, Or.inl rfl, trivial⟩
    · refine r_aload_n (pc1 := 17) (i := 0) dX4_readAllOf_16 rfl rfl rfl ?_
      refine r_getI (pc1 := 20) w_17 gfX4_38 rfl dX4_readAllOf_17 rfl ?_
      refine r_if_ne (tgt := 72) (pc1 := 23) dX4_readAllOf_20 (by decide) rfl (fun q13 => ?_) (fun q13 => ?_)
      · refine r_aload_n (pc1 := 24) (i := 0) dX4_readAllOf_23 rfl rfl rfl ?_
        refine r_callVp (pc1 := 27) (rv_of w_17 cl_4) lkX4_61 (c_X4_sign _) rfl rfl ⟨by omega, Nat.le_of_ble_eq_true rfl⟩ (Nat.le_of_ble_eq_true rfl) dX4_readAllOf_24 rfl (fun v14 => ?_)
        refine r_bipush (v := 38) (pc1 := 29) dX4_readAllOf_27 kb_38 rfl ?_
        refine r_icmp_ne (tgt := 72) (pc1 := 32) dX4_readAllOf_29 (by decide) rfl (fun q15 => ?_) (fun q15 => ?_)
        · refine r_aload_n (pc1 := 33) (i := 0) dX4_readAllOf_32 rfl rfl rfl ?_
          refine r_dup (pc1 := 34) dX4_readAllOf_33 rfl rfl ?_
          refine r_getI (pc1 := 37) w_17 gfX4_35 rfl dX4_readAllOf_34 rfl ?_
          refine r_iconst (v := 1) (pc1 := 38) dX4_readAllOf_37 ki_1 rfl ?_
          refine r_iadd (pc1 := 39) dX4_readAllOf_38 rfl ?_
          refine r_putI (pc1 := 42) w_17 pfX4_35 rfl ⟨rfl, rfl⟩ dX4_readAllOf_39 rfl ?_
          refine r_lts (fun s16 => ?_)
          refine r_aload_n (pc1 := 43) (i := 0) dX4_readAllOf_42 rfl rfl rfl ?_
          refine r_getR (pc1 := 46) w_17 gfX4_18 rfl dX4_readAllOf_43 rfl ?_
          refine r_iload_n (pc1 := 47) (i := 2) dX4_readAllOf_46 rfl rfl rfl ?_
          refine r_callVv (pc1 := 50) (rv_of w_19 cl_1) lkX4_83 (c_X1_aimHere _ _) rfl rfl ⟨by omega, Nat.le_of_ble_eq_true rfl⟩ (Nat.le_of_ble_eq_true rfl) dX4_readAllOf_47 rfl (fun v17 s18 => ?_)
          refine r_aload_n (pc1 := 51) (i := 0) dX4_readAllOf_50 rfl rfl rfl ?_
          refine r_getR (pc1 := 54) w_17 gfX4_18 rfl dX4_readAllOf_51 rfl ?_
          refine r_bipush (v := 38) (pc1 := 56) dX4_readAllOf_54 kb_38 rfl ?_
          refine r_iconst (v := 0) (pc1 := 57) dX4_readAllOf_56 ki_0 rfl ?_
          refine r_callVi (pc1 := 60) (rv_of w_19 cl_1) lkX4_86 (c_X1_addStep _ _ _) rfl rfl ⟨by omega, Nat.le_of_ble_eq_true rfl⟩ (Nat.le_of_ble_eq_true rfl) dX4_readAllOf_57 rfl (fun v19 s20 => ?_)
          refine r_istore_n (pc1 := 61) (i := 2) dX4_readAllOf_60 rfl (by decide) rfl rfl rfl ?_
          refine r_aload_n (pc1 := 62) (i := 0) dX4_readAllOf_61 rfl rfl rfl ?_
          refine r_iload_n (pc1 := 63) (i := 1) dX4_readAllOf_62 rfl rfl rfl ?_
          refine r_callVv (pc1 := 66) (rv_of w_17 cl_4) lkX4_89 (hrf _ _) rfl rfl ⟨by omega, Nat.le_of_ble_eq_true rfl⟩ (Nat.le_of_ble_eq_true rfl) dX4_readAllOf_63 rfl (fun v21 s22 => ?_)
          refine r_iinc (pc1 := 69) dX4_readAllOf_66 rfl (kn_1 _) (by decide) rfl rfl rfl ?_
          refine r_goto (tgt := 9) dX4_readAllOf_69 (by decide) ?_
          exact r_wk (ih v19 (v9 + 1) s22) ⟨Or.inr rfl, Or.inr rfl, Or.inr rfl, Or.inr rfl, trivial⟩
        · exact r_wk (hk5 v8 s10) ⟨Or.inr rfl, Or.inl rfl, Or.inr rfl, Or.inl rfl, trivial⟩
      · exact r_wk (hk5 v8 s10) ⟨Or.inr rfl, Or.inl rfl, Or.inr rfl, Or.inl rfl, trivial⟩
set_option maxRecDepth 100000 in
set_option maxHeartbeats 4000000 in
theorem c_X4_readAllOf {l : Launch} {dr : Nat} (hdr : 126 ≤ dr) {rf : Int32 → SS → Res} (hrf : ∀ (x0 : Int32) (z : SS), Ct l wF yX4_readPiece cX4_readPiece 2 none dr [.ref 17, .int x0] z (rf x0 z)) (a1 : Int32) (s0 : SS) : Ct l wF yX4_readAllOf cX4_readAllOf 4 none (dr + 1) [.ref 17, .int a1] s0 (f_X4_readAllOf rf a1 s0) := by
  refine ct_of (y := yX4_readAllOf) plX4 (Nat.le_of_ble_eq_true rfl) ?_
  refine r_pad0 2 (L1 := [.ref 17, .int a1, .null, .null]) rfl ?_
  unfold f_X4_readAllOf
  refine r_aload_n (pc1 := 1) (i := 0) dX4_readAllOf_0 rfl rfl rfl ?_
  refine r_iload_n (pc1 := 2) (i := 1) dX4_readAllOf_1 rfl rfl rfl ?_
  refine r_callVv (pc1 := 5) (rv_of w_17 cl_4) lkX4_89 (hrf _ _) rfl rfl ⟨by omega, Nat.le_of_ble_eq_true rfl⟩ (Nat.le_of_ble_eq_true rfl) dX4_readAllOf_2 rfl (fun v1 s2 => ?_)
  refine r_iconst (v := (-1)) (pc1 := 6) dX4_readAllOf_5 ki_m1 rfl ?_
  refine r_istore_n (pc1 := 7) (i := 2) dX4_readAllOf_6 rfl (by decide) rfl rfl rfl ?_
  refine r_iconst (v := 0) (pc1 := 8) dX4_readAllOf_7 ki_0 rfl ?_
  refine r_istore_n (pc1 := 9) (i := 3) dX4_readAllOf_8 rfl (by decide) rfl rfl rfl ?_
  refine r_jn (hyp := fun (k5 : Int32 → SS → Res) => ∀ (v3 : Int32) (s4 : SS), RC l wF RX4 cX4_readAllOf 4 none (dr + 1) 72 [.ref 17, .null, .int v3, .null] [] s4 (k5 v3 s4)) (fun v3 s4 => ?_) (fun k5 hk5 => ?_)
  · refine r_aload_n (pc1 := 73) (i := 0) dX4_readAllOf_72 rfl rfl rfl ?_
    refine r_getR (pc1 := 76) w_17 gfX4_18 rfl dX4_readAllOf_73 rfl ?_
    refine r_iload_n (pc1 := 77) (i := 2) dX4_readAllOf_76 rfl rfl rfl ?_
    refine r_callVv (pc1 := 80) (rv_of w_19 cl_1) lkX4_83 (c_X1_aimHere _ _) rfl rfl ⟨by omega, Nat.le_of_ble_eq_true rfl⟩ (Nat.le_of_ble_eq_true rfl) dX4_readAllOf_77 rfl (fun v6 s7 => ?_)
    exact r_vret rfl dX4_readAllOf_80
  · exact r_wk (t_lp_X4_readAllOf_9 hdr hrf a1 k5 hk5 FU ((-1)) 0 s2) ⟨Or.inr rfl, Or.inr rfl, Or.inr rfl, Or.inr rfl, trivial⟩
/-! f_X4_readAnyOf -/
noncomputable def lp_X4_readAnyOf_9 (rf : Int32 → SS → Res) (a1 : Int32) (k5 : Int32 → SS → Res) : Nat → Int32 → Int32 → SS → Res
  | 0, _, _, _ => none
  | n11 + 1, v8, v9, s10 => if (200 : Int32) ≤ (v9 : Int32) then k5 v8 s10 else if (s10 17 4 : Int32) = 0 then bdp (f_X4_sign s10) (fun (v14 : Int32) => if (v14 : Int32) = (124 : Int32) then lts (up s10 17 3 ((s10 17 3) + 1)) (fun (s16 : SS) => bd (f_X1_aimHere v8 s16) (fun (v17 : Int32) (s18 : SS) => bd (f_X1_addStep 124 0 s18) (fun (v19 : Int32) (s20 : SS) => bd (f_X4_readAllOf rf a1 s20) (fun (v21 : Int32) (s22 : SS) => lp_X4_readAnyOf_9 rf a1 k5 n11 v19 (v9 + 1) s22)))) else k5 v8 s10) else k5 v8 s10
noncomputable def f_X4_readAnyOf (rf : Int32 → SS → Res) (a1 : Int32) (s0 : SS) : Res := bd (f_X4_readAllOf rf a1 s0) (fun (v1 : Int32) (s2 : SS) => jn (fun (v3 : Int32) (s4 : SS) => bd (f_X1_aimHere v3 s4) (fun (v6 : Int32) (s7 : SS) => some (0, s7))) (fun (k5 : Int32 → SS → Res) => lp_X4_readAnyOf_9 rf a1 k5 FU ((-1)) 0 s2))
set_option maxRecDepth 100000 in
set_option maxHeartbeats 4000000 in
theorem t_lp_X4_readAnyOf_9 {l : Launch} {dr : Nat} (hdr : 126 ≤ dr) {rf : Int32 → SS → Res} (hrf : ∀ (x0 : Int32) (z : SS), Ct l wF yX4_readPiece cX4_readPiece 2 none dr [.ref 17, .int x0] z (rf x0 z)) (a1 : Int32) (k5 : Int32 → SS → Res) (hk5 : ∀ (v3 : Int32) (s4 : SS), RC l wF RX4 cX4_readAnyOf 4 none (dr + 2) 72 [.ref 17, .null, .int v3, .null] [] s4 (k5 v3 s4)) : ∀ (n11 : Nat) (v8 : Int32) (v9 : Int32) (s10 : SS), RC l wF RX4 cX4_readAnyOf 4 none (dr + 2) 9 [.ref 17, .int a1, .int v8, .int v9] [] s10 (lp_X4_readAnyOf_9 rf a1 k5 n11 v8 v9 s10) := by
  intro n11
  induction n11 with
  | zero =>
    intro v8 v9 s10
    rw [lp_X4_readAnyOf_9]
    exact r_none
  | succ n11 ih =>
    intro v8 v9 s10
    rw [lp_X4_readAnyOf_9]
    refine r_iload_n (pc1 := 10) (i := 3) dX4_readAnyOf_9 rfl rfl rfl ?_
    refine r_sipush (v := 200) (pc1 := 13) dX4_readAnyOf_10 ks_200 rfl ?_
    refine r_icmp_ge (tgt := 72) (pc1 := 16) dX4_readAnyOf_13 (by decide) rfl (fun q12 => ?_) (fun q12 => ?_)
    · exact r_wk (hk5 v8 s10) ⟨Or.inr rfl, Or.inl rfl, Or.inr rfl, Or.inl rfl, trivial⟩
    · refine r_aload_n (pc1 := 17) (i := 0) dX4_readAnyOf_16 rfl rfl rfl ?_
      refine r_getI (pc1 := 20) w_17 gfX4_38 rfl dX4_readAnyOf_17 rfl ?_
      refine r_if_ne (tgt := 72) (pc1 := 23) dX4_readAnyOf_20 (by decide) rfl (fun q13 => ?_) (fun q13 => ?_)
      · refine r_aload_n (pc1 := 24) (i := 0) dX4_readAnyOf_23 rfl rfl rfl ?_
        refine r_callVp (pc1 := 27) (rv_of w_17 cl_4) lkX4_61 (c_X4_sign _) rfl rfl ⟨by omega, Nat.le_of_ble_eq_true rfl⟩ (Nat.le_of_ble_eq_true rfl) dX4_readAnyOf_24 rfl (fun v14 => ?_)
        refine r_bipush (v := 124) (pc1 := 29) dX4_readAnyOf_27 kb_124 rfl ?_
        refine r_icmp_ne (tgt := 72) (pc1 := 32) dX4_readAnyOf_29 (by decide) rfl (fun q15 => ?_) (fun q15 => ?_)
        · refine r_aload_n (pc1 := 33) (i := 0) dX4_readAnyOf_32 rfl rfl rfl ?_
          refine r_dup (pc1 := 34) dX4_readAnyOf_33 rfl rfl ?_
          refine r_getI (pc1 := 37) w_17 gfX4_35 rfl dX4_readAnyOf_34 rfl ?_
          refine r_iconst (v := 1) (pc1 := 38) dX4_readAnyOf_37 ki_1 rfl ?_
          refine r_iadd (pc1 := 39) dX4_readAnyOf_38 rfl ?_
          refine r_putI (pc1 := 42) w_17 pfX4_35 rfl ⟨rfl, rfl⟩ dX4_readAnyOf_39 rfl ?_
          refine r_lts (fun s16 => ?_)
          refine r_aload_n (pc1 := 43) (i := 0) dX4_readAnyOf_42 rfl rfl rfl ?_
          refine r_getR (pc1 := 46) w_17 gfX4_18 rfl dX4_readAnyOf_43 rfl ?_
          refine r_iload_n (pc1 := 47) (i := 2) dX4_readAnyOf_46 rfl rfl rfl ?_
          refine r_callVv (pc1 := 50) (rv_of w_19 cl_1) lkX4_83 (c_X1_aimHere _ _) rfl rfl ⟨by omega, Nat.le_of_ble_eq_true rfl⟩ (Nat.le_of_ble_eq_true rfl) dX4_readAnyOf_47 rfl (fun v17 s18 => ?_)
          refine r_aload_n (pc1 := 51) (i := 0) dX4_readAnyOf_50 rfl rfl rfl ?_
          refine r_getR (pc1 := 54) w_17 gfX4_18 rfl dX4_readAnyOf_51 rfl ?_
          refine r_bipush (v := 124) (pc1 := 56) dX4_readAnyOf_54 kb_124 rfl ?_
          refine r_iconst (v := 0) (pc1 := 57) dX4_readAnyOf_56 ki_0 rfl ?_
          refine r_callVi (pc1 := 60) (rv_of w_19 cl_1) lkX4_86 (c_X1_addStep _ _ _) rfl rfl ⟨by omega, Nat.le_of_ble_eq_true rfl⟩ (Nat.le_of_ble_eq_true rfl) dX4_readAnyOf_57 rfl (fun v19 s20 => ?_)
          refine r_istore_n (pc1 := 61) (i := 2) dX4_readAnyOf_60 rfl (by decide) rfl rfl rfl ?_
          refine r_aload_n (pc1 := 62) (i := 0) dX4_readAnyOf_61 rfl rfl rfl ?_
          refine r_iload_n (pc1 := 63) (i := 1) dX4_readAnyOf_62 rfl rfl rfl ?_
          refine r_callVv (pc1 := 66) (rv_of w_17 cl_4) lkX4_80 (c_X4_readAllOf hdr hrf _ _) rfl rfl ⟨by omega, Nat.le_of_ble_eq_true rfl⟩ (Nat.le_of_ble_eq_true rfl) dX4_readAnyOf_63 rfl (fun v21 s22 => ?_)
          refine r_iinc (pc1 := 69) dX4_readAnyOf_66 rfl (kn_1 _) (by decide) rfl rfl rfl ?_
          refine r_goto (tgt := 9) dX4_readAnyOf_69 (by decide) ?_
          exact r_wk (ih v19 (v9 + 1) s22) ⟨Or.inr rfl, Or.inr rfl, Or.inr rfl, Or.inr rfl, trivial⟩
        · exact r_wk (hk5 v8 s10) ⟨Or.inr rfl, Or.inl rfl, Or.inr rfl, Or.inl rfl, trivial⟩
      · exact r_wk (hk5 v8 s10) ⟨Or.inr rfl, Or.inl rfl, Or.inr rfl, Or.inl rfl, trivial⟩
set_option maxRecDepth 100000 in
set_option maxHeartbeats 4000000 in
theorem c_X4_readAnyOf {l : Launch} {dr : Nat} (hdr : 126 ≤ dr) {rf : Int32 → SS → Res} (hrf : ∀ (x0 : Int32) (z : SS), Ct l wF yX4_readPiece cX4_readPiece 2 none dr [.ref 17, .int x0] z (rf x0 z)) (a1 : Int32) (s0 : SS) : Ct l wF yX4_readAnyOf cX4_readAnyOf 4 none (dr + 2) [.ref 17, .int a1] s0 (f_X4_readAnyOf rf a1 s0) := by
  refine ct_of (y := yX4_readAnyOf) plX4 (Nat.le_of_ble_eq_true rfl) ?_
  refine r_pad0 2 (L1 := [.ref 17, .int a1, .null, .null]) rfl ?_
  unfold f_X4_readAnyOf
  refine r_aload_n (pc1 := 1) (i := 0) dX4_readAnyOf_0 rfl rfl rfl ?_
  refine r_iload_n (pc1 := 2) (i := 1) dX4_readAnyOf_1 rfl rfl rfl ?_
  refine r_callVv (pc1 := 5) (rv_of w_17 cl_4) lkX4_80 (c_X4_readAllOf hdr hrf _ _) rfl rfl ⟨by omega, Nat.le_of_ble_eq_true rfl⟩ (Nat.le_of_ble_eq_true rfl) dX4_readAnyOf_2 rfl (fun v1 s2 => ?_)
  refine r_iconst (v := (-1)) (pc1 := 6) dX4_readAnyOf_5 ki_m1 rfl ?_
  refine r_istore_n (pc1 := 7) (i := 2) dX4_readAnyOf_6 rfl (by decide) rfl rfl rfl ?_
  refine r_iconst (v := 0) (pc1 := 8) dX4_readAnyOf_7 ki_0 rfl ?_
  refine r_istore_n (pc1 := 9) (i := 3) dX4_readAnyOf_8 rfl (by decide) rfl rfl rfl ?_
  refine r_jn (hyp := fun (k5 : Int32 → SS → Res) => ∀ (v3 : Int32) (s4 : SS), RC l wF RX4 cX4_readAnyOf 4 none (dr + 2) 72 [.ref 17, .null, .int v3, .null] [] s4 (k5 v3 s4)) (fun v3 s4 => ?_) (fun k5 hk5 => ?_)
  · refine r_aload_n (pc1 := 73) (i := 0) dX4_readAnyOf_72 rfl rfl rfl ?_
    refine r_getR (pc1 := 76) w_17 gfX4_18 rfl dX4_readAnyOf_73 rfl ?_
    refine r_iload_n (pc1 := 77) (i := 2) dX4_readAnyOf_76 rfl rfl rfl ?_
    refine r_callVv (pc1 := 80) (rv_of w_19 cl_1) lkX4_83 (c_X1_aimHere _ _) rfl rfl ⟨by omega, Nat.le_of_ble_eq_true rfl⟩ (Nat.le_of_ble_eq_true rfl) dX4_readAnyOf_77 rfl (fun v6 s7 => ?_)
    exact r_vret rfl dX4_readAnyOf_80
  · exact r_wk (t_lp_X4_readAnyOf_9 hdr hrf a1 k5 hk5 FU ((-1)) 0 s2) ⟨Or.inr rfl, Or.inr rfl, Or.inr rfl, Or.inr rfl, trivial⟩
