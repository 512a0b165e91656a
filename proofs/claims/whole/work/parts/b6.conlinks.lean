/-! the constructors: instructions, links -/
theorem dX9_init_0 : decode cX9_init 0 = .ok (.aload_n 0, 1) := by decide +kernel
theorem dX9_init_1 : decode cX9_init 1 = .ok (.invokespecial 3, 3) := by decide +kernel
theorem dX9_init_4 : decode cX9_init 4 = .ok (.aload_n 0, 1) := by decide +kernel
theorem dX9_init_5 : decode cX9_init 5 = .ok (.sipush 220, 3) := by decide +kernel
theorem dX9_init_8 : decode cX9_init 8 = .ok (.newarray .int, 2) := by decide +kernel
theorem dX9_init_10 : decode cX9_init 10 = .ok (.putfield 11, 3) := by decide +kernel
theorem dX9_init_13 : decode cX9_init 13 = .ok (.return_, 1) := by decide +kernel
theorem dX1_init_0 : decode cX1_init 0 = .ok (.aload_n 0, 1) := by decide +kernel
theorem dX1_init_1 : decode cX1_init 1 = .ok (.invokespecial 3, 3) := by decide +kernel
theorem dX1_init_4 : decode cX1_init 4 = .ok (.aload_n 0, 1) := by decide +kernel
theorem dX1_init_5 : decode cX1_init 5 = .ok (.sipush 200, 3) := by decide +kernel
theorem dX1_init_8 : decode cX1_init 8 = .ok (.newarray .int, 2) := by decide +kernel
theorem dX1_init_10 : decode cX1_init 10 = .ok (.putfield 9, 3) := by decide +kernel
theorem dX1_init_13 : decode cX1_init 13 = .ok (.aload_n 0, 1) := by decide +kernel
theorem dX1_init_14 : decode cX1_init 14 = .ok (.sipush 200, 3) := by decide +kernel
theorem dX1_init_17 : decode cX1_init 17 = .ok (.newarray .int, 2) := by decide +kernel
theorem dX1_init_19 : decode cX1_init 19 = .ok (.putfield 15, 3) := by decide +kernel
theorem dX1_init_22 : decode cX1_init 22 = .ok (.aload_n 0, 1) := by decide +kernel
theorem dX1_init_23 : decode cX1_init 23 = .ok (.bipush 14, 2) := by decide +kernel
theorem dX1_init_25 : decode cX1_init 25 = .ok (.newarray .int, 2) := by decide +kernel
theorem dX1_init_27 : decode cX1_init 27 = .ok (.putfield 18, 3) := by decide +kernel
theorem dX1_init_30 : decode cX1_init 30 = .ok (.aload_n 0, 1) := by decide +kernel
theorem dX1_init_31 : decode cX1_init 31 = .ok (.bipush 14, 2) := by decide +kernel
theorem dX1_init_33 : decode cX1_init 33 = .ok (.newarray .int, 2) := by decide +kernel
theorem dX1_init_35 : decode cX1_init 35 = .ok (.putfield 21, 3) := by decide +kernel
theorem dX1_init_38 : decode cX1_init 38 = .ok (.aload_n 0, 1) := by decide +kernel
theorem dX1_init_39 : decode cX1_init 39 = .ok (.bipush 14, 2) := by decide +kernel
theorem dX1_init_41 : decode cX1_init 41 = .ok (.newarray .int, 2) := by decide +kernel
theorem dX1_init_43 : decode cX1_init 43 = .ok (.putfield 24, 3) := by decide +kernel
theorem dX1_init_46 : decode cX1_init 46 = .ok (.aload_n 0, 1) := by decide +kernel
theorem dX1_init_47 : decode cX1_init 47 = .ok (.bipush 14, 2) := by decide +kernel
theorem dX1_init_49 : decode cX1_init 49 = .ok (.newarray .int, 2) := by decide +kernel
theorem dX1_init_51 : decode cX1_init 51 = .ok (.putfield 27, 3) := by decide +kernel
theorem dX1_init_54 : decode cX1_init 54 = .ok (.aload_n 0, 1) := by decide +kernel
theorem dX1_init_55 : decode cX1_init 55 = .ok (.bipush 40, 2) := by decide +kernel
theorem dX1_init_57 : decode cX1_init 57 = .ok (.newarray .int, 2) := by decide +kernel
theorem dX1_init_59 : decode cX1_init 59 = .ok (.putfield 30, 3) := by decide +kernel
theorem dX1_init_62 : decode cX1_init 62 = .ok (.return_, 1) := by decide +kernel
theorem dX10_init_0 : decode cX10_init 0 = .ok (.aload_n 0, 1) := by decide +kernel
theorem dX10_init_1 : decode cX10_init 1 = .ok (.invokespecial 3, 3) := by decide +kernel
theorem dX10_init_4 : decode cX10_init 4 = .ok (.aload_n 0, 1) := by decide +kernel
theorem dX10_init_5 : decode cX10_init 5 = .ok (.bipush 8, 2) := by decide +kernel
theorem dX10_init_7 : decode cX10_init 7 = .ok (.newarray .int, 2) := by decide +kernel
theorem dX10_init_9 : decode cX10_init 9 = .ok (.putfield 9, 3) := by decide +kernel
theorem dX10_init_12 : decode cX10_init 12 = .ok (.aload_n 0, 1) := by decide +kernel
theorem dX10_init_13 : decode cX10_init 13 = .ok (.bipush 8, 2) := by decide +kernel
theorem dX10_init_15 : decode cX10_init 15 = .ok (.newarray .int, 2) := by decide +kernel
theorem dX10_init_17 : decode cX10_init 17 = .ok (.putfield 15, 3) := by decide +kernel
theorem dX10_init_20 : decode cX10_init 20 = .ok (.aload_n 0, 1) := by decide +kernel
theorem dX10_init_21 : decode cX10_init 21 = .ok (.bipush 8, 2) := by decide +kernel
theorem dX10_init_23 : decode cX10_init 23 = .ok (.newarray .int, 2) := by decide +kernel
theorem dX10_init_25 : decode cX10_init 25 = .ok (.putfield 18, 3) := by decide +kernel
theorem dX10_init_28 : decode cX10_init 28 = .ok (.aload_n 0, 1) := by decide +kernel
theorem dX10_init_29 : decode cX10_init 29 = .ok (.bipush 8, 2) := by decide +kernel
theorem dX10_init_31 : decode cX10_init 31 = .ok (.newarray .int, 2) := by decide +kernel
theorem dX10_init_33 : decode cX10_init 33 = .ok (.putfield 21, 3) := by decide +kernel
theorem dX10_init_36 : decode cX10_init 36 = .ok (.aload_n 0, 1) := by decide +kernel
theorem dX10_init_37 : decode cX10_init 37 = .ok (.bipush 11, 2) := by decide +kernel
theorem dX10_init_39 : decode cX10_init 39 = .ok (.newarray .int, 2) := by decide +kernel
theorem dX10_init_41 : decode cX10_init 41 = .ok (.putfield 24, 3) := by decide +kernel
theorem dX10_init_44 : decode cX10_init 44 = .ok (.aload_n 0, 1) := by decide +kernel
theorem dX10_init_45 : decode cX10_init 45 = .ok (.sipush 5348, 3) := by decide +kernel
theorem dX10_init_48 : decode cX10_init 48 = .ok (.newarray .long, 2) := by decide +kernel
theorem dX10_init_50 : decode cX10_init 50 = .ok (.putfield 29, 3) := by decide +kernel
theorem dX10_init_53 : decode cX10_init 53 = .ok (.aload_n 0, 1) := by decide +kernel
theorem dX10_init_54 : decode cX10_init 54 = .ok (.sipush 5348, 3) := by decide +kernel
theorem dX10_init_57 : decode cX10_init 57 = .ok (.newarray .long, 2) := by decide +kernel
theorem dX10_init_59 : decode cX10_init 59 = .ok (.putfield 33, 3) := by decide +kernel
theorem dX10_init_62 : decode cX10_init 62 = .ok (.aload_n 0, 1) := by decide +kernel
theorem dX10_init_63 : decode cX10_init 63 = .ok (.aload_n 1, 1) := by decide +kernel
theorem dX10_init_64 : decode cX10_init 64 = .ok (.putfield 36, 3) := by decide +kernel
theorem dX10_init_67 : decode cX10_init 67 = .ok (.aload_n 0, 1) := by decide +kernel
theorem dX10_init_68 : decode cX10_init 68 = .ok (.aload_n 2, 1) := by decide +kernel
theorem dX10_init_69 : decode cX10_init 69 = .ok (.putfield 40, 3) := by decide +kernel
theorem dX10_init_72 : decode cX10_init 72 = .ok (.return_, 1) := by decide +kernel
theorem dX2_init_0 : decode cX2_init 0 = .ok (.aload_n 0, 1) := by decide +kernel
theorem dX2_init_1 : decode cX2_init 1 = .ok (.invokespecial 3, 3) := by decide +kernel
theorem dX2_init_4 : decode cX2_init 4 = .ok (.aload_n 0, 1) := by decide +kernel
theorem dX2_init_5 : decode cX2_init 5 = .ok (.iconst 4, 1) := by decide +kernel
theorem dX2_init_6 : decode cX2_init 6 = .ok (.newarray .int, 2) := by decide +kernel
theorem dX2_init_8 : decode cX2_init 8 = .ok (.putfield 9, 3) := by decide +kernel
theorem dX2_init_11 : decode cX2_init 11 = .ok (.aload_n 0, 1) := by decide +kernel
theorem dX2_init_12 : decode cX2_init 12 = .ok (.iconst 4, 1) := by decide +kernel
theorem dX2_init_13 : decode cX2_init 13 = .ok (.newarray .int, 2) := by decide +kernel
theorem dX2_init_15 : decode cX2_init 15 = .ok (.putfield 15, 3) := by decide +kernel
theorem dX2_init_18 : decode cX2_init 18 = .ok (.aload_n 0, 1) := by decide +kernel
theorem dX2_init_19 : decode cX2_init 19 = .ok (.iconst 4, 1) := by decide +kernel
theorem dX2_init_20 : decode cX2_init 20 = .ok (.newarray .int, 2) := by decide +kernel
theorem dX2_init_22 : decode cX2_init 22 = .ok (.putfield 18, 3) := by decide +kernel
theorem dX2_init_25 : decode cX2_init 25 = .ok (.aload_n 0, 1) := by decide +kernel
theorem dX2_init_26 : decode cX2_init 26 = .ok (.iconst 1, 1) := by decide +kernel
theorem dX2_init_27 : decode cX2_init 27 = .ok (.putfield 21, 3) := by decide +kernel
theorem dX2_init_30 : decode cX2_init 30 = .ok (.aload_n 0, 1) := by decide +kernel
theorem dX2_init_31 : decode cX2_init 31 = .ok (.aload_n 1, 1) := by decide +kernel
theorem dX2_init_32 : decode cX2_init 32 = .ok (.putfield 25, 3) := by decide +kernel
theorem dX2_init_35 : decode cX2_init 35 = .ok (.aload_n 0, 1) := by decide +kernel
theorem dX2_init_36 : decode cX2_init 36 = .ok (.aload_n 2, 1) := by decide +kernel
theorem dX2_init_37 : decode cX2_init 37 = .ok (.putfield 29, 3) := by decide +kernel
theorem dX2_init_40 : decode cX2_init 40 = .ok (.return_, 1) := by decide +kernel
theorem dX5_init_0 : decode cX5_init 0 = .ok (.aload_n 0, 1) := by decide +kernel
theorem dX5_init_1 : decode cX5_init 1 = .ok (.invokespecial 3, 3) := by decide +kernel
theorem dX5_init_4 : decode cX5_init 4 = .ok (.aload_n 0, 1) := by decide +kernel
theorem dX5_init_5 : decode cX5_init 5 = .ok (.iconst 1, 1) := by decide +kernel
theorem dX5_init_6 : decode cX5_init 6 = .ok (.putfield 9, 3) := by decide +kernel
theorem dX5_init_9 : decode cX5_init 9 = .ok (.aload_n 0, 1) := by decide +kernel
theorem dX5_init_10 : decode cX5_init 10 = .ok (.aload_n 1, 1) := by decide +kernel
theorem dX5_init_11 : decode cX5_init 11 = .ok (.putfield 15, 3) := by decide +kernel
theorem dX5_init_14 : decode cX5_init 14 = .ok (.aload_n 0, 1) := by decide +kernel
theorem dX5_init_15 : decode cX5_init 15 = .ok (.aload_n 2, 1) := by decide +kernel
theorem dX5_init_16 : decode cX5_init 16 = .ok (.putfield 19, 3) := by decide +kernel
theorem dX5_init_19 : decode cX5_init 19 = .ok (.aload_n 0, 1) := by decide +kernel
theorem dX5_init_20 : decode cX5_init 20 = .ok (.aload_n 3, 1) := by decide +kernel
theorem dX5_init_21 : decode cX5_init 21 = .ok (.putfield 23, 3) := by decide +kernel
theorem dX5_init_24 : decode cX5_init 24 = .ok (.return_, 1) := by decide +kernel
theorem dX3_init_0 : decode cX3_init 0 = .ok (.aload_n 0, 1) := by decide +kernel
theorem dX3_init_1 : decode cX3_init 1 = .ok (.invokespecial 3, 3) := by decide +kernel
theorem dX3_init_4 : decode cX3_init 4 = .ok (.aload_n 0, 1) := by decide +kernel
theorem dX3_init_5 : decode cX3_init 5 = .ok (.sipush 5348, 3) := by decide +kernel
theorem dX3_init_8 : decode cX3_init 8 = .ok (.newarray .long, 2) := by decide +kernel
theorem dX3_init_10 : decode cX3_init 10 = .ok (.putfield 11, 3) := by decide +kernel
theorem dX3_init_13 : decode cX3_init 13 = .ok (.aload_n 0, 1) := by decide +kernel
theorem dX3_init_14 : decode cX3_init 14 = .ok (.ldc 17, 2) := by decide +kernel
theorem dX3_init_16 : decode cX3_init 16 = .ok (.newarray .long, 2) := by decide +kernel
theorem dX3_init_18 : decode cX3_init 18 = .ok (.putfield 18, 3) := by decide +kernel
theorem dX3_init_21 : decode cX3_init 21 = .ok (.aload_n 0, 1) := by decide +kernel
theorem dX3_init_22 : decode cX3_init 22 = .ok (.bipush 8, 2) := by decide +kernel
theorem dX3_init_24 : decode cX3_init 24 = .ok (.newarray .int, 2) := by decide +kernel
theorem dX3_init_26 : decode cX3_init 26 = .ok (.putfield 21, 3) := by decide +kernel
theorem dX3_init_29 : decode cX3_init 29 = .ok (.aload_n 0, 1) := by decide +kernel
theorem dX3_init_30 : decode cX3_init 30 = .ok (.iconst 4, 1) := by decide +kernel
theorem dX3_init_31 : decode cX3_init 31 = .ok (.newarray .int, 2) := by decide +kernel
theorem dX3_init_33 : decode cX3_init 33 = .ok (.putfield 25, 3) := by decide +kernel
theorem dX3_init_36 : decode cX3_init 36 = .ok (.aload_n 0, 1) := by decide +kernel
theorem dX3_init_37 : decode cX3_init 37 = .ok (.iconst (-1), 1) := by decide +kernel
theorem dX3_init_38 : decode cX3_init 38 = .ok (.putfield 28, 3) := by decide +kernel
theorem dX3_init_41 : decode cX3_init 41 = .ok (.aload_n 0, 1) := by decide +kernel
theorem dX3_init_42 : decode cX3_init 42 = .ok (.aload_n 1, 1) := by decide +kernel
theorem dX3_init_43 : decode cX3_init 43 = .ok (.putfield 32, 3) := by decide +kernel
theorem dX3_init_46 : decode cX3_init 46 = .ok (.aload_n 0, 1) := by decide +kernel
theorem dX3_init_47 : decode cX3_init 47 = .ok (.aload_n 2, 1) := by decide +kernel
theorem dX3_init_48 : decode cX3_init 48 = .ok (.putfield 36, 3) := by decide +kernel
theorem dX3_init_51 : decode cX3_init 51 = .ok (.aload_n 0, 1) := by decide +kernel
theorem dX3_init_52 : decode cX3_init 52 = .ok (.aload_n 3, 1) := by decide +kernel
theorem dX3_init_53 : decode cX3_init 53 = .ok (.putfield 40, 3) := by decide +kernel
theorem dX3_init_56 : decode cX3_init 56 = .ok (.return_, 1) := by decide +kernel
theorem dX0_init_0 : decode cX0_init 0 = .ok (.aload_n 0, 1) := by decide +kernel
theorem dX0_init_1 : decode cX0_init 1 = .ok (.invokespecial 5, 3) := by decide +kernel
theorem dX0_init_4 : decode cX0_init 4 = .ok (.aload_n 0, 1) := by decide +kernel
theorem dX0_init_5 : decode cX0_init 5 = .ok (.sipush 21392, 3) := by decide +kernel
theorem dX0_init_8 : decode cX0_init 8 = .ok (.newarray .long, 2) := by decide +kernel
theorem dX0_init_10 : decode cX0_init 10 = .ok (.putfield 13, 3) := by decide +kernel
theorem dX0_init_13 : decode cX0_init 13 = .ok (.aload_n 0, 1) := by decide +kernel
theorem dX0_init_14 : decode cX0_init 14 = .ok (.sipush 5348, 3) := by decide +kernel
theorem dX0_init_17 : decode cX0_init 17 = .ok (.newarray .int, 2) := by decide +kernel
theorem dX0_init_19 : decode cX0_init 19 = .ok (.putfield 17, 3) := by decide +kernel
theorem dX0_init_22 : decode cX0_init 22 = .ok (.aload_n 0, 1) := by decide +kernel
theorem dX0_init_23 : decode cX0_init 23 = .ok (.iconst (-1), 1) := by decide +kernel
theorem dX0_init_24 : decode cX0_init 24 = .ok (.putfield 21, 3) := by decide +kernel
theorem dX0_init_27 : decode cX0_init 27 = .ok (.aload_n 0, 1) := by decide +kernel
theorem dX0_init_28 : decode cX0_init 28 = .ok (.aload_n 1, 1) := by decide +kernel
theorem dX0_init_29 : decode cX0_init 29 = .ok (.putfield 25, 3) := by decide +kernel
theorem dX0_init_32 : decode cX0_init 32 = .ok (.aload_n 0, 1) := by decide +kernel
theorem dX0_init_33 : decode cX0_init 33 = .ok (.aload_n 2, 1) := by decide +kernel
theorem dX0_init_34 : decode cX0_init 34 = .ok (.putfield 29, 3) := by decide +kernel
theorem dX0_init_37 : decode cX0_init 37 = .ok (.aload_n 0, 1) := by decide +kernel
theorem dX0_init_38 : decode cX0_init 38 = .ok (.aload_n 3, 1) := by decide +kernel
theorem dX0_init_39 : decode cX0_init 39 = .ok (.putfield 33, 3) := by decide +kernel
theorem dX0_init_42 : decode cX0_init 42 = .ok (.return_, 1) := by decide +kernel
theorem dX7_init_0 : decode cX7_init 0 = .ok (.aload_n 0, 1) := by decide +kernel
theorem dX7_init_1 : decode cX7_init 1 = .ok (.invokespecial 3, 3) := by decide +kernel
theorem dX7_init_4 : decode cX7_init 4 = .ok (.aload_n 0, 1) := by decide +kernel
theorem dX7_init_5 : decode cX7_init 5 = .ok (.sipush 5348, 3) := by decide +kernel
theorem dX7_init_8 : decode cX7_init 8 = .ok (.newarray .long, 2) := by decide +kernel
theorem dX7_init_10 : decode cX7_init 10 = .ok (.putfield 11, 3) := by decide +kernel
theorem dX7_init_13 : decode cX7_init 13 = .ok (.aload_n 0, 1) := by decide +kernel
theorem dX7_init_14 : decode cX7_init 14 = .ok (.aload_n 1, 1) := by decide +kernel
theorem dX7_init_15 : decode cX7_init 15 = .ok (.putfield 17, 3) := by decide +kernel
theorem dX7_init_18 : decode cX7_init 18 = .ok (.aload_n 0, 1) := by decide +kernel
theorem dX7_init_19 : decode cX7_init 19 = .ok (.aload_n 2, 1) := by decide +kernel
theorem dX7_init_20 : decode cX7_init 20 = .ok (.putfield 21, 3) := by decide +kernel
theorem dX7_init_23 : decode cX7_init 23 = .ok (.aload_n 0, 1) := by decide +kernel
theorem dX7_init_24 : decode cX7_init 24 = .ok (.aload_n 3, 1) := by decide +kernel
theorem dX7_init_25 : decode cX7_init 25 = .ok (.putfield 25, 3) := by decide +kernel
theorem dX7_init_28 : decode cX7_init 28 = .ok (.return_, 1) := by decide +kernel
theorem dX8_init_0 : decode cX8_init 0 = .ok (.aload_n 0, 1) := by decide +kernel
theorem dX8_init_1 : decode cX8_init 1 = .ok (.invokespecial 1, 3) := by decide +kernel
theorem dX8_init_4 : decode cX8_init 4 = .ok (.aload_n 0, 1) := by decide +kernel
theorem dX8_init_5 : decode cX8_init 5 = .ok (.iconst 3, 1) := by decide +kernel
theorem dX8_init_6 : decode cX8_init 6 = .ok (.invokestatic 7, 3) := by decide +kernel
theorem dX8_init_9 : decode cX8_init 9 = .ok (.putfield 13, 3) := by decide +kernel
theorem dX8_init_12 : decode cX8_init 12 = .ok (.aload_n 0, 1) := by decide +kernel
theorem dX8_init_13 : decode cX8_init 13 = .ok (.iconst 1, 1) := by decide +kernel
theorem dX8_init_14 : decode cX8_init 14 = .ok (.putfield 19, 3) := by decide +kernel
theorem dX8_init_17 : decode cX8_init 17 = .ok (.return_, 1) := by decide +kernel
theorem dX6_init_0 : decode cX6_init 0 = .ok (.aload_n 0, 1) := by decide +kernel
theorem dX6_init_1 : decode cX6_init 1 = .ok (.invokespecial 3, 3) := by decide +kernel
theorem dX6_init_4 : decode cX6_init 4 = .ok (.aload_n 0, 1) := by decide +kernel
theorem dX6_init_5 : decode cX6_init 5 = .ok (.sipush 5348, 3) := by decide +kernel
theorem dX6_init_8 : decode cX6_init 8 = .ok (.newarray .int, 2) := by decide +kernel
theorem dX6_init_10 : decode cX6_init 10 = .ok (.putfield 11, 3) := by decide +kernel
theorem dX6_init_13 : decode cX6_init 13 = .ok (.aload_n 0, 1) := by decide +kernel
theorem dX6_init_14 : decode cX6_init 14 = .ok (.sipush 5348, 3) := by decide +kernel
theorem dX6_init_17 : decode cX6_init 17 = .ok (.newarray .int, 2) := by decide +kernel
theorem dX6_init_19 : decode cX6_init 19 = .ok (.putfield 15, 3) := by decide +kernel
theorem dX6_init_22 : decode cX6_init 22 = .ok (.iconst 1, 1) := by decide +kernel
theorem dX6_init_23 : decode cX6_init 23 = .ok (.istore_n 1, 1) := by decide +kernel
theorem dX6_init_24 : decode cX6_init 24 = .ok (.iload_n 1, 1) := by decide +kernel
theorem dX6_init_25 : decode cX6_init 25 = .ok (.iconst 4, 1) := by decide +kernel
theorem dX6_init_26 : decode cX6_init 26 = .ok (.if_icmp .gt 14, 3) := by decide +kernel
theorem dX6_init_29 : decode cX6_init 29 = .ok (.aload_n 0, 1) := by decide +kernel
theorem dX6_init_30 : decode cX6_init 30 = .ok (.iload_n 1, 1) := by decide +kernel
theorem dX6_init_31 : decode cX6_init 31 = .ok (.invokevirtual 18, 3) := by decide +kernel
theorem dX6_init_34 : decode cX6_init 34 = .ok (.iinc 1 1, 3) := by decide +kernel
theorem dX6_init_37 : decode cX6_init 37 = .ok (.goto (-13), 3) := by decide +kernel
theorem dX6_init_40 : decode cX6_init 40 = .ok (.return_, 1) := by decide +kernel
theorem dX4_init_0 : decode cX4_init 0 = .ok (.aload_n 0, 1) := by decide +kernel
theorem dX4_init_1 : decode cX4_init 1 = .ok (.invokespecial 3, 3) := by decide +kernel
theorem dX4_init_4 : decode cX4_init 4 = .ok (.aload_n 0, 1) := by decide +kernel
theorem dX4_init_5 : decode cX4_init 5 = .ok (.sipush 200, 3) := by decide +kernel
theorem dX4_init_8 : decode cX4_init 8 = .ok (.newarray .int, 2) := by decide +kernel
theorem dX4_init_10 : decode cX4_init 10 = .ok (.putfield 9, 3) := by decide +kernel
theorem dX4_init_13 : decode cX4_init 13 = .ok (.aload_n 0, 1) := by decide +kernel
theorem dX4_init_14 : decode cX4_init 14 = .ok (.new 15, 3) := by decide +kernel
theorem dX4_init_17 : decode cX4_init 17 = .ok (.dup, 1) := by decide +kernel
theorem dX4_init_18 : decode cX4_init 18 = .ok (.invokespecial 17, 3) := by decide +kernel
theorem dX4_init_21 : decode cX4_init 21 = .ok (.putfield 18, 3) := by decide +kernel
theorem dX4_init_24 : decode cX4_init 24 = .ok (.return_, 1) := by decide +kernel
theorem dX11_init_0 : decode cX11_init 0 = .ok (.aload_n 0, 1) := by decide +kernel
theorem dX11_init_1 : decode cX11_init 1 = .ok (.invokespecial 1, 3) := by decide +kernel
theorem dX11_init_4 : decode cX11_init 4 = .ok (.aload_n 0, 1) := by decide +kernel
theorem dX11_init_5 : decode cX11_init 5 = .ok (.new 7, 3) := by decide +kernel
theorem dX11_init_8 : decode cX11_init 8 = .ok (.dup, 1) := by decide +kernel
theorem dX11_init_9 : decode cX11_init 9 = .ok (.invokespecial 9, 3) := by decide +kernel
theorem dX11_init_12 : decode cX11_init 12 = .ok (.putfield 10, 3) := by decide +kernel
theorem dX11_init_15 : decode cX11_init 15 = .ok (.aload_n 0, 1) := by decide +kernel
theorem dX11_init_16 : decode cX11_init 16 = .ok (.new 16, 3) := by decide +kernel
theorem dX11_init_19 : decode cX11_init 19 = .ok (.dup, 1) := by decide +kernel
theorem dX11_init_20 : decode cX11_init 20 = .ok (.invokespecial 18, 3) := by decide +kernel
theorem dX11_init_23 : decode cX11_init 23 = .ok (.putfield 19, 3) := by decide +kernel
theorem dX11_init_26 : decode cX11_init 26 = .ok (.aload_n 0, 1) := by decide +kernel
theorem dX11_init_27 : decode cX11_init 27 = .ok (.new 23, 3) := by decide +kernel
theorem dX11_init_30 : decode cX11_init 30 = .ok (.dup, 1) := by decide +kernel
theorem dX11_init_31 : decode cX11_init 31 = .ok (.invokespecial 25, 3) := by decide +kernel
theorem dX11_init_34 : decode cX11_init 34 = .ok (.putfield 26, 3) := by decide +kernel
theorem dX11_init_37 : decode cX11_init 37 = .ok (.aload_n 0, 1) := by decide +kernel
theorem dX11_init_38 : decode cX11_init 38 = .ok (.new 30, 3) := by decide +kernel
theorem dX11_init_41 : decode cX11_init 41 = .ok (.dup, 1) := by decide +kernel
theorem dX11_init_42 : decode cX11_init 42 = .ok (.invokespecial 32, 3) := by decide +kernel
theorem dX11_init_45 : decode cX11_init 45 = .ok (.putfield 33, 3) := by decide +kernel
theorem dX11_init_48 : decode cX11_init 48 = .ok (.aload_n 0, 1) := by decide +kernel
theorem dX11_init_49 : decode cX11_init 49 = .ok (.new 37, 3) := by decide +kernel
theorem dX11_init_52 : decode cX11_init 52 = .ok (.dup, 1) := by decide +kernel
theorem dX11_init_53 : decode cX11_init 53 = .ok (.aload_n 0, 1) := by decide +kernel
theorem dX11_init_54 : decode cX11_init 54 = .ok (.getfield 19, 3) := by decide +kernel
theorem dX11_init_57 : decode cX11_init 57 = .ok (.aload_n 0, 1) := by decide +kernel
theorem dX11_init_58 : decode cX11_init 58 = .ok (.getfield 26, 3) := by decide +kernel
theorem dX11_init_61 : decode cX11_init 61 = .ok (.invokespecial 39, 3) := by decide +kernel
theorem dX11_init_64 : decode cX11_init 64 = .ok (.putfield 42, 3) := by decide +kernel
theorem dX11_init_67 : decode cX11_init 67 = .ok (.aload_n 0, 1) := by decide +kernel
theorem dX11_init_68 : decode cX11_init 68 = .ok (.new 46, 3) := by decide +kernel
theorem dX11_init_71 : decode cX11_init 71 = .ok (.dup, 1) := by decide +kernel
theorem dX11_init_72 : decode cX11_init 72 = .ok (.aload_n 0, 1) := by decide +kernel
theorem dX11_init_73 : decode cX11_init 73 = .ok (.getfield 19, 3) := by decide +kernel
theorem dX11_init_76 : decode cX11_init 76 = .ok (.aload_n 0, 1) := by decide +kernel
theorem dX11_init_77 : decode cX11_init 77 = .ok (.getfield 42, 3) := by decide +kernel
theorem dX11_init_80 : decode cX11_init 80 = .ok (.invokespecial 48, 3) := by decide +kernel
theorem dX11_init_83 : decode cX11_init 83 = .ok (.putfield 51, 3) := by decide +kernel
theorem dX11_init_86 : decode cX11_init 86 = .ok (.aload_n 0, 1) := by decide +kernel
theorem dX11_init_87 : decode cX11_init 87 = .ok (.new 55, 3) := by decide +kernel
theorem dX11_init_90 : decode cX11_init 90 = .ok (.dup, 1) := by decide +kernel
theorem dX11_init_91 : decode cX11_init 91 = .ok (.aload_n 0, 1) := by decide +kernel
theorem dX11_init_92 : decode cX11_init 92 = .ok (.getfield 19, 3) := by decide +kernel
theorem dX11_init_95 : decode cX11_init 95 = .ok (.aload_n 0, 1) := by decide +kernel
theorem dX11_init_96 : decode cX11_init 96 = .ok (.getfield 42, 3) := by decide +kernel
theorem dX11_init_99 : decode cX11_init 99 = .ok (.aload_n 0, 1) := by decide +kernel
theorem dX11_init_100 : decode cX11_init 100 = .ok (.getfield 51, 3) := by decide +kernel
theorem dX11_init_103 : decode cX11_init 103 = .ok (.invokespecial 57, 3) := by decide +kernel
theorem dX11_init_106 : decode cX11_init 106 = .ok (.putfield 60, 3) := by decide +kernel
theorem dX11_init_109 : decode cX11_init 109 = .ok (.aload_n 0, 1) := by decide +kernel
theorem dX11_init_110 : decode cX11_init 110 = .ok (.new 64, 3) := by decide +kernel
theorem dX11_init_113 : decode cX11_init 113 = .ok (.dup, 1) := by decide +kernel
theorem dX11_init_114 : decode cX11_init 114 = .ok (.aload_n 0, 1) := by decide +kernel
theorem dX11_init_115 : decode cX11_init 115 = .ok (.getfield 19, 3) := by decide +kernel
theorem dX11_init_118 : decode cX11_init 118 = .ok (.aload_n 0, 1) := by decide +kernel
theorem dX11_init_119 : decode cX11_init 119 = .ok (.getfield 42, 3) := by decide +kernel
theorem dX11_init_122 : decode cX11_init 122 = .ok (.aload_n 0, 1) := by decide +kernel
theorem dX11_init_123 : decode cX11_init 123 = .ok (.getfield 51, 3) := by decide +kernel
theorem dX11_init_126 : decode cX11_init 126 = .ok (.invokespecial 66, 3) := by decide +kernel
theorem dX11_init_129 : decode cX11_init 129 = .ok (.putfield 67, 3) := by decide +kernel
theorem dX11_init_132 : decode cX11_init 132 = .ok (.aload_n 0, 1) := by decide +kernel
theorem dX11_init_133 : decode cX11_init 133 = .ok (.new 71, 3) := by decide +kernel
theorem dX11_init_136 : decode cX11_init 136 = .ok (.dup, 1) := by decide +kernel
theorem dX11_init_137 : decode cX11_init 137 = .ok (.aload_n 0, 1) := by decide +kernel
theorem dX11_init_138 : decode cX11_init 138 = .ok (.getfield 19, 3) := by decide +kernel
theorem dX11_init_141 : decode cX11_init 141 = .ok (.aload_n 0, 1) := by decide +kernel
theorem dX11_init_142 : decode cX11_init 142 = .ok (.getfield 42, 3) := by decide +kernel
theorem dX11_init_145 : decode cX11_init 145 = .ok (.aload_n 0, 1) := by decide +kernel
theorem dX11_init_146 : decode cX11_init 146 = .ok (.getfield 51, 3) := by decide +kernel
theorem dX11_init_149 : decode cX11_init 149 = .ok (.invokespecial 73, 3) := by decide +kernel
theorem dX11_init_152 : decode cX11_init 152 = .ok (.putfield 74, 3) := by decide +kernel
theorem dX11_init_155 : decode cX11_init 155 = .ok (.aload_n 0, 1) := by decide +kernel
theorem dX11_init_156 : decode cX11_init 156 = .ok (.new 78, 3) := by decide +kernel
theorem dX11_init_159 : decode cX11_init 159 = .ok (.dup, 1) := by decide +kernel
theorem dX11_init_160 : decode cX11_init 160 = .ok (.aload_n 0, 1) := by decide +kernel
theorem dX11_init_161 : decode cX11_init 161 = .ok (.getfield 19, 3) := by decide +kernel
theorem dX11_init_164 : decode cX11_init 164 = .ok (.aload_n 0, 1) := by decide +kernel
theorem dX11_init_165 : decode cX11_init 165 = .ok (.getfield 42, 3) := by decide +kernel
theorem dX11_init_168 : decode cX11_init 168 = .ok (.aload_n 0, 1) := by decide +kernel
theorem dX11_init_169 : decode cX11_init 169 = .ok (.getfield 51, 3) := by decide +kernel
theorem dX11_init_172 : decode cX11_init 172 = .ok (.invokespecial 80, 3) := by decide +kernel
theorem dX11_init_175 : decode cX11_init 175 = .ok (.putfield 81, 3) := by decide +kernel
theorem dX11_init_178 : decode cX11_init 178 = .ok (.aload_n 0, 1) := by decide +kernel
theorem dX11_init_179 : decode cX11_init 179 = .ok (.new 85, 3) := by decide +kernel
theorem dX11_init_182 : decode cX11_init 182 = .ok (.dup, 1) := by decide +kernel
theorem dX11_init_183 : decode cX11_init 183 = .ok (.invokespecial 87, 3) := by decide +kernel
theorem dX11_init_186 : decode cX11_init 186 = .ok (.putfield 88, 3) := by decide +kernel
theorem dX11_init_189 : decode cX11_init 189 = .ok (.aload_n 0, 1) := by decide +kernel
theorem dX11_init_190 : decode cX11_init 190 = .ok (.new 85, 3) := by decide +kernel
theorem dX11_init_193 : decode cX11_init 193 = .ok (.dup, 1) := by decide +kernel
theorem dX11_init_194 : decode cX11_init 194 = .ok (.invokespecial 87, 3) := by decide +kernel
theorem dX11_init_197 : decode cX11_init 197 = .ok (.putfield 92, 3) := by decide +kernel
theorem dX11_init_200 : decode cX11_init 200 = .ok (.aload_n 0, 1) := by decide +kernel
theorem dX11_init_201 : decode cX11_init 201 = .ok (.bipush 8, 2) := by decide +kernel
theorem dX11_init_203 : decode cX11_init 203 = .ok (.newarray .int, 2) := by decide +kernel
theorem dX11_init_205 : decode cX11_init 205 = .ok (.putfield 95, 3) := by decide +kernel
theorem dX11_init_208 : decode cX11_init 208 = .ok (.aload_n 0, 1) := by decide +kernel
theorem dX11_init_209 : decode cX11_init 209 = .ok (.sipush 400, 3) := by decide +kernel
theorem dX11_init_212 : decode cX11_init 212 = .ok (.newarray .int, 2) := by decide +kernel
theorem dX11_init_214 : decode cX11_init 214 = .ok (.putfield 99, 3) := by decide +kernel
theorem dX11_init_217 : decode cX11_init 217 = .ok (.return_, 1) := by decide +kernel
theorem dX12_init_0 : decode cX12_init 0 = .ok (.aload_n 0, 1) := by decide +kernel
theorem dX12_init_1 : decode cX12_init 1 = .ok (.invokespecial 1, 3) := by decide +kernel
theorem dX12_init_4 : decode cX12_init 4 = .ok (.aload_n 0, 1) := by decide +kernel
theorem dX12_init_5 : decode cX12_init 5 = .ok (.sipush 220, 3) := by decide +kernel
theorem dX12_init_8 : decode cX12_init 8 = .ok (.newarray .byte, 2) := by decide +kernel
theorem dX12_init_10 : decode cX12_init 10 = .ok (.putfield 7, 3) := by decide +kernel
theorem dX12_init_13 : decode cX12_init 13 = .ok (.aload_n 0, 1) := by decide +kernel
theorem dX12_init_14 : decode cX12_init 14 = .ok (.iconst 3, 1) := by decide +kernel
theorem dX12_init_15 : decode cX12_init 15 = .ok (.putfield 13, 3) := by decide +kernel
theorem dX12_init_18 : decode cX12_init 18 = .ok (.aload_n 0, 1) := by decide +kernel
theorem dX12_init_19 : decode cX12_init 19 = .ok (.iconst 1, 1) := by decide +kernel
theorem dX12_init_20 : decode cX12_init 20 = .ok (.putfield 17, 3) := by decide +kernel
theorem dX12_init_23 : decode cX12_init 23 = .ok (.aload_n 0, 1) := by decide +kernel
theorem dX12_init_24 : decode cX12_init 24 = .ok (.iconst 1, 1) := by decide +kernel
theorem dX12_init_25 : decode cX12_init 25 = .ok (.putfield 20, 3) := by decide +kernel
theorem dX12_init_28 : decode cX12_init 28 = .ok (.aload_n 0, 1) := by decide +kernel
theorem dX12_init_29 : decode cX12_init 29 = .ok (.bipush 8, 2) := by decide +kernel
theorem dX12_init_31 : decode cX12_init 31 = .ok (.newarray .int, 2) := by decide +kernel
theorem dX12_init_33 : decode cX12_init 33 = .ok (.putfield 23, 3) := by decide +kernel
theorem dX12_init_36 : decode cX12_init 36 = .ok (.aload_n 0, 1) := by decide +kernel
theorem dX12_init_37 : decode cX12_init 37 = .ok (.bipush 8, 2) := by decide +kernel
theorem dX12_init_39 : decode cX12_init 39 = .ok (.newarray .int, 2) := by decide +kernel
theorem dX12_init_41 : decode cX12_init 41 = .ok (.putfield 27, 3) := by decide +kernel
theorem dX12_init_44 : decode cX12_init 44 = .ok (.aload_n 0, 1) := by decide +kernel
theorem dX12_init_45 : decode cX12_init 45 = .ok (.bipush 8, 2) := by decide +kernel
theorem dX12_init_47 : decode cX12_init 47 = .ok (.newarray .int, 2) := by decide +kernel
theorem dX12_init_49 : decode cX12_init 49 = .ok (.putfield 30, 3) := by decide +kernel
theorem dX12_init_52 : decode cX12_init 52 = .ok (.aload_n 0, 1) := by decide +kernel
theorem dX12_init_53 : decode cX12_init 53 = .ok (.bipush 8, 2) := by decide +kernel
theorem dX12_init_55 : decode cX12_init 55 = .ok (.newarray .int, 2) := by decide +kernel
theorem dX12_init_57 : decode cX12_init 57 = .ok (.putfield 33, 3) := by decide +kernel
theorem dX12_init_60 : decode cX12_init 60 = .ok (.aload_n 0, 1) := by decide +kernel
theorem dX12_init_61 : decode cX12_init 61 = .ok (.iconst 4, 1) := by decide +kernel
theorem dX12_init_62 : decode cX12_init 62 = .ok (.newarray .int, 2) := by decide +kernel
theorem dX12_init_64 : decode cX12_init 64 = .ok (.putfield 36, 3) := by decide +kernel
theorem dX12_init_67 : decode cX12_init 67 = .ok (.aload_n 0, 1) := by decide +kernel
theorem dX12_init_68 : decode cX12_init 68 = .ok (.iconst 4, 1) := by decide +kernel
theorem dX12_init_69 : decode cX12_init 69 = .ok (.newarray .int, 2) := by decide +kernel
theorem dX12_init_71 : decode cX12_init 71 = .ok (.putfield 39, 3) := by decide +kernel
theorem dX12_init_74 : decode cX12_init 74 = .ok (.aload_n 0, 1) := by decide +kernel
theorem dX12_init_75 : decode cX12_init 75 = .ok (.iconst 4, 1) := by decide +kernel
theorem dX12_init_76 : decode cX12_init 76 = .ok (.newarray .int, 2) := by decide +kernel
theorem dX12_init_78 : decode cX12_init 78 = .ok (.putfield 42, 3) := by decide +kernel
theorem dX12_init_81 : decode cX12_init 81 = .ok (.aload_n 0, 1) := by decide +kernel
theorem dX12_init_82 : decode cX12_init 82 = .ok (.bipush 14, 2) := by decide +kernel
theorem dX12_init_84 : decode cX12_init 84 = .ok (.newarray .int, 2) := by decide +kernel
theorem dX12_init_86 : decode cX12_init 86 = .ok (.putfield 45, 3) := by decide +kernel
theorem dX12_init_89 : decode cX12_init 89 = .ok (.aload_n 0, 1) := by decide +kernel
theorem dX12_init_90 : decode cX12_init 90 = .ok (.bipush 14, 2) := by decide +kernel
theorem dX12_init_92 : decode cX12_init 92 = .ok (.newarray .int, 2) := by decide +kernel
theorem dX12_init_94 : decode cX12_init 94 = .ok (.putfield 48, 3) := by decide +kernel
theorem dX12_init_97 : decode cX12_init 97 = .ok (.aload_n 0, 1) := by decide +kernel
theorem dX12_init_98 : decode cX12_init 98 = .ok (.bipush 14, 2) := by decide +kernel
theorem dX12_init_100 : decode cX12_init 100 = .ok (.newarray .int, 2) := by decide +kernel
theorem dX12_init_102 : decode cX12_init 102 = .ok (.putfield 51, 3) := by decide +kernel
theorem dX12_init_105 : decode cX12_init 105 = .ok (.aload_n 0, 1) := by decide +kernel
theorem dX12_init_106 : decode cX12_init 106 = .ok (.bipush 14, 2) := by decide +kernel
theorem dX12_init_108 : decode cX12_init 108 = .ok (.newarray .int, 2) := by decide +kernel
theorem dX12_init_110 : decode cX12_init 110 = .ok (.putfield 54, 3) := by decide +kernel
theorem dX12_init_113 : decode cX12_init 113 = .ok (.aload_n 0, 1) := by decide +kernel
theorem dX12_init_114 : decode cX12_init 114 = .ok (.sipush 200, 3) := by decide +kernel
theorem dX12_init_117 : decode cX12_init 117 = .ok (.newarray .int, 2) := by decide +kernel
theorem dX12_init_119 : decode cX12_init 119 = .ok (.putfield 57, 3) := by decide +kernel
theorem dX12_init_122 : decode cX12_init 122 = .ok (.aload_n 0, 1) := by decide +kernel
theorem dX12_init_123 : decode cX12_init 123 = .ok (.sipush 200, 3) := by decide +kernel
theorem dX12_init_126 : decode cX12_init 126 = .ok (.newarray .int, 2) := by decide +kernel
theorem dX12_init_128 : decode cX12_init 128 = .ok (.putfield 60, 3) := by decide +kernel
theorem dX12_init_131 : decode cX12_init 131 = .ok (.aload_n 0, 1) := by decide +kernel
theorem dX12_init_132 : decode cX12_init 132 = .ok (.bipush 14, 2) := by decide +kernel
theorem dX12_init_134 : decode cX12_init 134 = .ok (.newarray .int, 2) := by decide +kernel
theorem dX12_init_136 : decode cX12_init 136 = .ok (.putfield 63, 3) := by decide +kernel
theorem dX12_init_139 : decode cX12_init 139 = .ok (.aload_n 0, 1) := by decide +kernel
theorem dX12_init_140 : decode cX12_init 140 = .ok (.bipush 14, 2) := by decide +kernel
theorem dX12_init_142 : decode cX12_init 142 = .ok (.newarray .int, 2) := by decide +kernel
theorem dX12_init_144 : decode cX12_init 144 = .ok (.putfield 66, 3) := by decide +kernel
theorem dX12_init_147 : decode cX12_init 147 = .ok (.aload_n 0, 1) := by decide +kernel
theorem dX12_init_148 : decode cX12_init 148 = .ok (.bipush 14, 2) := by decide +kernel
theorem dX12_init_150 : decode cX12_init 150 = .ok (.newarray .int, 2) := by decide +kernel
theorem dX12_init_152 : decode cX12_init 152 = .ok (.putfield 69, 3) := by decide +kernel
theorem dX12_init_155 : decode cX12_init 155 = .ok (.aload_n 0, 1) := by decide +kernel
theorem dX12_init_156 : decode cX12_init 156 = .ok (.bipush 14, 2) := by decide +kernel
theorem dX12_init_158 : decode cX12_init 158 = .ok (.newarray .int, 2) := by decide +kernel
theorem dX12_init_160 : decode cX12_init 160 = .ok (.putfield 72, 3) := by decide +kernel
theorem dX12_init_163 : decode cX12_init 163 = .ok (.aload_n 0, 1) := by decide +kernel
theorem dX12_init_164 : decode cX12_init 164 = .ok (.sipush 200, 3) := by decide +kernel
theorem dX12_init_167 : decode cX12_init 167 = .ok (.newarray .int, 2) := by decide +kernel
theorem dX12_init_169 : decode cX12_init 169 = .ok (.putfield 75, 3) := by decide +kernel
theorem dX12_init_172 : decode cX12_init 172 = .ok (.aload_n 0, 1) := by decide +kernel
theorem dX12_init_173 : decode cX12_init 173 = .ok (.sipush 200, 3) := by decide +kernel
theorem dX12_init_176 : decode cX12_init 176 = .ok (.newarray .int, 2) := by decide +kernel
theorem dX12_init_178 : decode cX12_init 178 = .ok (.putfield 78, 3) := by decide +kernel
theorem dX12_init_181 : decode cX12_init 181 = .ok (.aload_n 0, 1) := by decide +kernel
theorem dX12_init_182 : decode cX12_init 182 = .ok (.sipush 240, 3) := by decide +kernel
theorem dX12_init_185 : decode cX12_init 185 = .ok (.newarray .int, 2) := by decide +kernel
theorem dX12_init_187 : decode cX12_init 187 = .ok (.putfield 81, 3) := by decide +kernel
theorem dX12_init_190 : decode cX12_init 190 = .ok (.aload_n 0, 1) := by decide +kernel
theorem dX12_init_191 : decode cX12_init 191 = .ok (.sipush 240, 3) := by decide +kernel
theorem dX12_init_194 : decode cX12_init 194 = .ok (.newarray .int, 2) := by decide +kernel
theorem dX12_init_196 : decode cX12_init 196 = .ok (.putfield 84, 3) := by decide +kernel
theorem dX12_init_199 : decode cX12_init 199 = .ok (.aload_n 0, 1) := by decide +kernel
theorem dX12_init_200 : decode cX12_init 200 = .ok (.sipush 240, 3) := by decide +kernel
theorem dX12_init_203 : decode cX12_init 203 = .ok (.newarray .boolean, 2) := by decide +kernel
theorem dX12_init_205 : decode cX12_init 205 = .ok (.putfield 87, 3) := by decide +kernel
theorem dX12_init_208 : decode cX12_init 208 = .ok (.aload_n 0, 1) := by decide +kernel
theorem dX12_init_209 : decode cX12_init 209 = .ok (.iconst 4, 1) := by decide +kernel
theorem dX12_init_210 : decode cX12_init 210 = .ok (.newarray .int, 2) := by decide +kernel
theorem dX12_init_212 : decode cX12_init 212 = .ok (.putfield 91, 3) := by decide +kernel
theorem dX12_init_215 : decode cX12_init 215 = .ok (.aload_n 0, 1) := by decide +kernel
theorem dX12_init_216 : decode cX12_init 216 = .ok (.sipush 18724, 3) := by decide +kernel
theorem dX12_init_219 : decode cX12_init 219 = .ok (.newarray .boolean, 2) := by decide +kernel
theorem dX12_init_221 : decode cX12_init 221 = .ok (.putfield 94, 3) := by decide +kernel
theorem dX12_init_224 : decode cX12_init 224 = .ok (.aload_n 0, 1) := by decide +kernel
theorem dX12_init_225 : decode cX12_init 225 = .ok (.sipush 18724, 3) := by decide +kernel
theorem dX12_init_228 : decode cX12_init 228 = .ok (.newarray .int, 2) := by decide +kernel
theorem dX12_init_230 : decode cX12_init 230 = .ok (.putfield 97, 3) := by decide +kernel
theorem dX12_init_233 : decode cX12_init 233 = .ok (.aload_n 0, 1) := by decide +kernel
theorem dX12_init_234 : decode cX12_init 234 = .ok (.sipush 18724, 3) := by decide +kernel
theorem dX12_init_237 : decode cX12_init 237 = .ok (.newarray .boolean, 2) := by decide +kernel
theorem dX12_init_239 : decode cX12_init 239 = .ok (.putfield 100, 3) := by decide +kernel
theorem dX12_init_242 : decode cX12_init 242 = .ok (.aload_n 0, 1) := by decide +kernel
theorem dX12_init_243 : decode cX12_init 243 = .ok (.sipush 18724, 3) := by decide +kernel
theorem dX12_init_246 : decode cX12_init 246 = .ok (.newarray .int, 2) := by decide +kernel
theorem dX12_init_248 : decode cX12_init 248 = .ok (.putfield 103, 3) := by decide +kernel
theorem dX12_init_251 : decode cX12_init 251 = .ok (.aload_n 0, 1) := by decide +kernel
theorem dX12_init_252 : decode cX12_init 252 = .ok (.bipush 100, 2) := by decide +kernel
theorem dX12_init_254 : decode cX12_init 254 = .ok (.newarray .int, 2) := by decide +kernel
theorem dX12_init_256 : decode cX12_init 256 = .ok (.putfield 106, 3) := by decide +kernel
theorem dX12_init_259 : decode cX12_init 259 = .ok (.aload_n 0, 1) := by decide +kernel
theorem dX12_init_260 : decode cX12_init 260 = .ok (.bipush 100, 2) := by decide +kernel
theorem dX12_init_262 : decode cX12_init 262 = .ok (.newarray .int, 2) := by decide +kernel
theorem dX12_init_264 : decode cX12_init 264 = .ok (.putfield 109, 3) := by decide +kernel
theorem dX12_init_267 : decode cX12_init 267 = .ok (.aload_n 0, 1) := by decide +kernel
theorem dX12_init_268 : decode cX12_init 268 = .ok (.bipush 100, 2) := by decide +kernel
theorem dX12_init_270 : decode cX12_init 270 = .ok (.newarray .int, 2) := by decide +kernel
theorem dX12_init_272 : decode cX12_init 272 = .ok (.putfield 112, 3) := by decide +kernel
theorem dX12_init_275 : decode cX12_init 275 = .ok (.aload_n 0, 1) := by decide +kernel
theorem dX12_init_276 : decode cX12_init 276 = .ok (.bipush 100, 2) := by decide +kernel
theorem dX12_init_278 : decode cX12_init 278 = .ok (.newarray .int, 2) := by decide +kernel
theorem dX12_init_280 : decode cX12_init 280 = .ok (.putfield 115, 3) := by decide +kernel
theorem dX12_init_283 : decode cX12_init 283 = .ok (.aload_n 0, 1) := by decide +kernel
theorem dX12_init_284 : decode cX12_init 284 = .ok (.sipush 18724, 3) := by decide +kernel
theorem dX12_init_287 : decode cX12_init 287 = .ok (.newarray .int, 2) := by decide +kernel
theorem dX12_init_289 : decode cX12_init 289 = .ok (.putfield 118, 3) := by decide +kernel
theorem dX12_init_292 : decode cX12_init 292 = .ok (.aload_n 0, 1) := by decide +kernel
theorem dX12_init_293 : decode cX12_init 293 = .ok (.ldc 121, 2) := by decide +kernel
theorem dX12_init_295 : decode cX12_init 295 = .ok (.newarray .boolean, 2) := by decide +kernel
theorem dX12_init_297 : decode cX12_init 297 = .ok (.putfield 122, 3) := by decide +kernel
theorem dX12_init_300 : decode cX12_init 300 = .ok (.aload_n 0, 1) := by decide +kernel
theorem dX12_init_301 : decode cX12_init 301 = .ok (.ldc 121, 2) := by decide +kernel
theorem dX12_init_303 : decode cX12_init 303 = .ok (.newarray .int, 2) := by decide +kernel
theorem dX12_init_305 : decode cX12_init 305 = .ok (.putfield 125, 3) := by decide +kernel
theorem dX12_init_308 : decode cX12_init 308 = .ok (.aload_n 0, 1) := by decide +kernel
theorem dX12_init_309 : decode cX12_init 309 = .ok (.ldc 128, 2) := by decide +kernel
theorem dX12_init_311 : decode cX12_init 311 = .ok (.newarray .int, 2) := by decide +kernel
theorem dX12_init_313 : decode cX12_init 313 = .ok (.putfield 129, 3) := by decide +kernel
theorem dX12_init_316 : decode cX12_init 316 = .ok (.aload_n 0, 1) := by decide +kernel
theorem dX12_init_317 : decode cX12_init 317 = .ok (.sipush 18724, 3) := by decide +kernel
theorem dX12_init_320 : decode cX12_init 320 = .ok (.newarray .int, 2) := by decide +kernel
theorem dX12_init_322 : decode cX12_init 322 = .ok (.putfield 132, 3) := by decide +kernel
theorem dX12_init_325 : decode cX12_init 325 = .ok (.aload_n 0, 1) := by decide +kernel
theorem dX12_init_326 : decode cX12_init 326 = .ok (.bipush 8, 2) := by decide +kernel
theorem dX12_init_328 : decode cX12_init 328 = .ok (.newarray .int, 2) := by decide +kernel
theorem dX12_init_330 : decode cX12_init 330 = .ok (.putfield 135, 3) := by decide +kernel
theorem dX12_init_333 : decode cX12_init 333 = .ok (.return_, 1) := by decide +kernel
theorem ob_inst : Cond.instanceMethod objectInit ∈ gw := gwm hs_1 (i := 29) rfl rfl
theorem ob_code : Cond.code objectInit ⟨#[0xb1]⟩ 1 none ∈ gw := gwm hs_1 (i := 30) rfl rfl
theorem ac_int : Cond.arrayClass (newarray.typeOf .int) ∈ gw := gwm hs_1 (i := 44) rfl rfl
theorem ac_byte : Cond.arrayClass (newarray.typeOf .byte) ∈ gw := gwm hs_3 (i := 201) rfl rfl
theorem ac_boolean : Cond.arrayClass (newarray.typeOf .boolean) ∈ gw := gwm hs_6 (i := 110) rfl rfl
theorem ac_long : Cond.arrayClass (newarray.typeOf .long) ∈ gw := gwm hs_1 (i := 178) rfl rfl
section NA
variable {l : Launch} {p : Program} {en : Env} {R : Room} {s : State} {m : MethodId} {args : Array Value} {below : List Frame} {meth : Method} {c : Code} {D : va_G} {T : CT} {ad : AD} {A : Nat → Prop} {Cn Sn : Nat} {Q : State → Prop} {pc mL : Nat} {L st : List Value} {ws : va_W} {rt : Option FieldType} {own : String} {bs : ByteArray}
theorem n_newarr_int {N Cm Sm : Nat} {nn : Int32} (C : CX own bs mL rt p s m args meth c D T ad A) (hA : ∀ q, s.heap.size ≤ q → A q) (h : decode bs pc = .ok (.newarray .int, 2)) (hn : ¬ nn < 0) (hN : nn.toNatClampNeg = N) (hby : N * 4 ≤ 536870912) (hc : Cn + 1 = Cm) (hs : Sn + N = Sm) (hR : Cm ≤ R.cells ∧ Sm ≤ R.slots) (k : ∀ q : Nat, NW l p en R s m args below meth c D A mL Cm Sm Q (pc + 2) L (.ref q :: st) (ws ++ [(q, .inl (T 0, N, .inl (fun _ => 0)))])) : NW l p en R s m args below meth c D A mL Cn Sn Q pc L (.int nn :: st) ws := n_newa (t := 0) (ty := .int) C hA ac_int rfl (fun _ => rfl) (fun _ _ z => z) rfl h hn hN (show N * 4 ≤ 536870912 by omega) hc hs hR k
theorem n_newarr_byte {N Cm Sm : Nat} {nn : Int32} (C : CX own bs mL rt p s m args meth c D T ad A) (hA : ∀ q, s.heap.size ≤ q → A q) (h : decode bs pc = .ok (.newarray .byte, 2)) (hn : ¬ nn < 0) (hN : nn.toNatClampNeg = N) (hby : N * 4 ≤ 536870912) (hc : Cn + 1 = Cm) (hs : Sn + N = Sm) (hR : Cm ≤ R.cells ∧ Sm ≤ R.slots) (k : ∀ q : Nat, NW l p en R s m args below meth c D A mL Cm Sm Q (pc + 2) L (.ref q :: st) (ws ++ [(q, .inl (T 1, N, .inl (fun _ => 0)))])) : NW l p en R s m args below meth c D A mL Cn Sn Q pc L (.int nn :: st) ws := n_newa (t := 1) (ty := .byte) C hA ac_byte rfl (fun _ => rfl) (fun _ _ z => z) rfl h hn hN (show N * 1 ≤ 536870912 by omega) hc hs hR k
theorem n_newarr_boolean {N Cm Sm : Nat} {nn : Int32} (C : CX own bs mL rt p s m args meth c D T ad A) (hA : ∀ q, s.heap.size ≤ q → A q) (h : decode bs pc = .ok (.newarray .boolean, 2)) (hn : ¬ nn < 0) (hN : nn.toNatClampNeg = N) (hby : N * 4 ≤ 536870912) (hc : Cn + 1 = Cm) (hs : Sn + N = Sm) (hR : Cm ≤ R.cells ∧ Sm ≤ R.slots) (k : ∀ q : Nat, NW l p en R s m args below meth c D A mL Cm Sm Q (pc + 2) L (.ref q :: st) (ws ++ [(q, .inl (T 2, N, .inl (fun _ => 0)))])) : NW l p en R s m args below meth c D A mL Cn Sn Q pc L (.int nn :: st) ws := n_newa (t := 2) (ty := .boolean) C hA ac_boolean rfl (fun _ => rfl) (fun _ _ z => z) rfl h hn hN (show N * 1 ≤ 536870912 by omega) hc hs hR k
theorem n_newarr_long {N Cm Sm : Nat} {nn : Int32} (C : CX own bs mL rt p s m args meth c D T ad A) (hA : ∀ q, s.heap.size ≤ q → A q) (h : decode bs pc = .ok (.newarray .long, 2)) (hn : ¬ nn < 0) (hN : nn.toNatClampNeg = N) (hby : N * 8 ≤ 536870912) (hc : Cn + 1 = Cm) (hs : Sn + N = Sm) (hR : Cm ≤ R.cells ∧ Sm ≤ R.slots) (k : ∀ q : Nat, NW l p en R s m args below meth c D A mL Cm Sm Q (pc + 2) L (.ref q :: st) (ws ++ [(q, .inl (T 3, N, .inr (.inl (fun j => lgt (fun _ => 0) j))))])) : NW l p en R s m args below meth c D A mL Cn Sn Q pc L (.int nn :: st) ws := n_newaL C hA ac_long h hn hN hby hc hs hR k
theorem nw_eq {ws2 : va_W} (e : ws = ws2) (k : NW l p en R s m args below meth c D A mL Cn Sn Q pc L st ws2) : NW l p en R s m args below meth c D A mL Cn Sn Q pc L st ws := by
  subst e
  exact k
theorem nw_pad {L2 : List Value} (n : Nat) (e : L ++ List.replicate n .null = L2) (k : NW l p en R s m args below meth c D A mL Cn Sn Q pc L2 st ws) : NW l p en R s m args below meth c D A mL Cn Sn Q pc L st ws := by
  subst e
  intro H locs ls hP hD hS hl
  refine k H locs ls hP hD hS ⟨hl.1, hl.2.1, fun i v h1 h2 => ?_⟩
  rw [List.getElem?_append] at h1
  by_cases hi : i < L.length
  · rw [if_pos hi] at h1
    exact hl.2.2 i v h1 h2
  · rw [if_neg hi, List.getElem?_replicate] at h1
    by_cases hj : i - L.length < n
    · rw [if_pos hj] at h1
      cases h1
      exact absurd rfl h2
    · rw [if_neg hj] at h1
      cases h1
end NA
theorem noX9 : Cond.methodLink RX9 3 objectInit ∈ gw := gwm hs_1 (i := 36) rfl rfl
theorem npX9_11 : PFF RX9 11 9 0 (tyX9 0) := ⟨TX9, 2, tyX9, rfl, by decide, ugwX9, rfl, gwm hs_1 (i := 37) rfl rfl, tyX9_ok, nmX9, rfl, rfl⟩
theorem noX1 : Cond.methodLink RX1 3 objectInit ∈ gw := gwm hs_1 (i := 84) rfl rfl
theorem npX1_9 : PFF RX1 9 1 0 (tyX1 0) := ⟨TX1, 9, tyX1, rfl, by decide, ugwX1, rfl, gwm hs_1 (i := 85) rfl rfl, tyX1_ok, nmX1, rfl, rfl⟩
theorem npX1_15 : PFF RX1 15 1 1 (tyX1 1) := ⟨TX1, 9, tyX1, rfl, by decide, ugwX1, rfl, gwm hs_1 (i := 86) rfl rfl, tyX1_ok, nmX1, rfl, rfl⟩
theorem npX1_18 : PFF RX1 18 1 2 (tyX1 2) := ⟨TX1, 9, tyX1, rfl, by decide, ugwX1, rfl, gwm hs_1 (i := 87) rfl rfl, tyX1_ok, nmX1, rfl, rfl⟩
theorem npX1_21 : PFF RX1 21 1 3 (tyX1 3) := ⟨TX1, 9, tyX1, rfl, by decide, ugwX1, rfl, gwm hs_1 (i := 88) rfl rfl, tyX1_ok, nmX1, rfl, rfl⟩
theorem npX1_24 : PFF RX1 24 1 4 (tyX1 4) := ⟨TX1, 9, tyX1, rfl, by decide, ugwX1, rfl, gwm hs_1 (i := 89) rfl rfl, tyX1_ok, nmX1, rfl, rfl⟩
theorem npX1_27 : PFF RX1 27 1 5 (tyX1 5) := ⟨TX1, 9, tyX1, rfl, by decide, ugwX1, rfl, gwm hs_1 (i := 90) rfl rfl, tyX1_ok, nmX1, rfl, rfl⟩
theorem npX1_30 : PFF RX1 30 1 6 (tyX1 6) := ⟨TX1, 9, tyX1, rfl, by decide, ugwX1, rfl, gwm hs_1 (i := 91) rfl rfl, tyX1_ok, nmX1, rfl, rfl⟩
theorem noX10 : Cond.methodLink RX10 3 objectInit ∈ gw := gwm hs_1 (i := 143) rfl rfl
theorem npX10_9 : PFF RX10 9 10 2 (tyX10 2) := ⟨TX10, 11, tyX10, rfl, by decide, ugwX10, rfl, gwm hs_1 (i := 146) rfl rfl, tyX10_ok, nmX10, rfl, rfl⟩
theorem npX10_15 : PFF RX10 15 10 3 (tyX10 3) := ⟨TX10, 11, tyX10, rfl, by decide, ugwX10, rfl, gwm hs_1 (i := 147) rfl rfl, tyX10_ok, nmX10, rfl, rfl⟩
theorem npX10_18 : PFF RX10 18 10 4 (tyX10 4) := ⟨TX10, 11, tyX10, rfl, by decide, ugwX10, rfl, gwm hs_1 (i := 148) rfl rfl, tyX10_ok, nmX10, rfl, rfl⟩
theorem npX10_21 : PFF RX10 21 10 5 (tyX10 5) := ⟨TX10, 11, tyX10, rfl, by decide, ugwX10, rfl, gwm hs_1 (i := 149) rfl rfl, tyX10_ok, nmX10, rfl, rfl⟩
theorem npX10_24 : PFF RX10 24 10 6 (tyX10 6) := ⟨TX10, 11, tyX10, rfl, by decide, ugwX10, rfl, gwm hs_1 (i := 150) rfl rfl, tyX10_ok, nmX10, rfl, rfl⟩
theorem npX10_29 : PFF RX10 29 10 7 (tyX10 7) := ⟨TX10, 11, tyX10, rfl, by decide, ugwX10, rfl, gwm hs_1 (i := 151) rfl rfl, tyX10_ok, nmX10, rfl, rfl⟩
theorem npX10_33 : PFF RX10 33 10 8 (tyX10 8) := ⟨TX10, 11, tyX10, rfl, by decide, ugwX10, rfl, gwm hs_1 (i := 152) rfl rfl, tyX10_ok, nmX10, rfl, rfl⟩
theorem npX10_36 : PFF RX10 36 10 0 (tyX10 0) := ⟨TX10, 11, tyX10, rfl, by decide, ugwX10, rfl, gwm hs_1 (i := 144) rfl rfl, tyX10_ok, nmX10, rfl, rfl⟩
theorem npX10_40 : PFF RX10 40 10 1 (tyX10 1) := ⟨TX10, 11, tyX10, rfl, by decide, ugwX10, rfl, gwm hs_1 (i := 145) rfl rfl, tyX10_ok, nmX10, rfl, rfl⟩
theorem noX2 : Cond.methodLink RX2 3 objectInit ∈ gw := gwm hs_1 (i := 184) rfl rfl
theorem npX2_9 : PFF RX2 9 2 2 (tyX2 2) := ⟨TX2, 6, tyX2, rfl, by decide, ugwX2, rfl, gwm hs_1 (i := 187) rfl rfl, tyX2_ok, nmX2, rfl, rfl⟩
theorem npX2_15 : PFF RX2 15 2 3 (tyX2 3) := ⟨TX2, 6, tyX2, rfl, by decide, ugwX2, rfl, gwm hs_1 (i := 188) rfl rfl, tyX2_ok, nmX2, rfl, rfl⟩
theorem npX2_18 : PFF RX2 18 2 4 (tyX2 4) := ⟨TX2, 6, tyX2, rfl, by decide, ugwX2, rfl, gwm hs_1 (i := 189) rfl rfl, tyX2_ok, nmX2, rfl, rfl⟩
theorem npX2_21 : PFV RX2 21 2 5 (tyX2 5) := ⟨TX2, 6, tyX2, rfl, by decide, ugwX2, rfl, gwm hs_1 (i := 190) rfl rfl, tyX2_ok, nmX2, rfl, rfl⟩
theorem npX2_25 : PFF RX2 25 2 0 (tyX2 0) := ⟨TX2, 6, tyX2, rfl, by decide, ugwX2, rfl, gwm hs_1 (i := 185) rfl rfl, tyX2_ok, nmX2, rfl, rfl⟩
theorem npX2_29 : PFF RX2 29 2 1 (tyX2 1) := ⟨TX2, 6, tyX2, rfl, by decide, ugwX2, rfl, gwm hs_1 (i := 186) rfl rfl, tyX2_ok, nmX2, rfl, rfl⟩
theorem noX5 : Cond.methodLink RX5 3 objectInit ∈ gw := gwm hs_1 (i := 209) rfl rfl
theorem npX5_9 : PFV RX5 9 5 4 (tyX5 4) := ⟨TX5, 6, tyX5, rfl, by decide, ugwX5, rfl, gwm hs_1 (i := 215) rfl rfl, tyX5_ok, nmX5, rfl, rfl⟩
theorem npX5_15 : PFF RX5 15 5 0 (tyX5 0) := ⟨TX5, 6, tyX5, rfl, by decide, ugwX5, rfl, gwm hs_1 (i := 210) rfl rfl, tyX5_ok, nmX5, rfl, rfl⟩
theorem npX5_19 : PFF RX5 19 5 1 (tyX5 1) := ⟨TX5, 6, tyX5, rfl, by decide, ugwX5, rfl, gwm hs_1 (i := 211) rfl rfl, tyX5_ok, nmX5, rfl, rfl⟩
theorem npX5_23 : PFF RX5 23 5 2 (tyX5 2) := ⟨TX5, 6, tyX5, rfl, by decide, ugwX5, rfl, gwm hs_1 (i := 212) rfl rfl, tyX5_ok, nmX5, rfl, rfl⟩
theorem noX3 : Cond.methodLink RX3 3 objectInit ∈ gw := gwm hs_1 (i := 236) rfl rfl
theorem npX3_11 : PFF RX3 11 3 3 (tyX3 3) := ⟨TX3, 11, tyX3, rfl, by decide, ugwX3, rfl, gwm hs_2 (i := 1) rfl rfl, tyX3_ok, nmX3, rfl, rfl⟩
theorem npX3_18 : PFF RX3 18 3 4 (tyX3 4) := ⟨TX3, 11, tyX3, rfl, by decide, ugwX3, rfl, gwm hs_2 (i := 2) rfl rfl, tyX3_ok, nmX3, rfl, rfl⟩
theorem npX3_21 : PFF RX3 21 3 5 (tyX3 5) := ⟨TX3, 11, tyX3, rfl, by decide, ugwX3, rfl, gwm hs_2 (i := 3) rfl rfl, tyX3_ok, nmX3, rfl, rfl⟩
theorem npX3_25 : PFF RX3 25 3 6 (tyX3 6) := ⟨TX3, 11, tyX3, rfl, by decide, ugwX3, rfl, gwm hs_2 (i := 4) rfl rfl, tyX3_ok, nmX3, rfl, rfl⟩
theorem npX3_28 : PFV RX3 28 3 8 (tyX3 8) := ⟨TX3, 11, tyX3, rfl, by decide, ugwX3, rfl, gwm hs_2 (i := 6) rfl rfl, tyX3_ok, nmX3, rfl, rfl⟩
theorem npX3_32 : PFF RX3 32 3 0 (tyX3 0) := ⟨TX3, 11, tyX3, rfl, by decide, ugwX3, rfl, gwm hs_1 (i := 238) rfl rfl, tyX3_ok, nmX3, rfl, rfl⟩
theorem npX3_36 : PFF RX3 36 3 1 (tyX3 1) := ⟨TX3, 11, tyX3, rfl, by decide, ugwX3, rfl, gwm hs_1 (i := 239) rfl rfl, tyX3_ok, nmX3, rfl, rfl⟩
theorem npX3_40 : PFF RX3 40 3 2 (tyX3 2) := ⟨TX3, 11, tyX3, rfl, by decide, ugwX3, rfl, gwm hs_2 (i := 0) rfl rfl, tyX3_ok, nmX3, rfl, rfl⟩
theorem noX0 : Cond.methodLink RX0 5 objectInit ∈ gw := gwm hs_2 (i := 37) rfl rfl
theorem npX0_13 : PFF RX0 13 0 3 (tyX0 3) := ⟨TX0, 11, tyX0, rfl, by decide, ugwX0, rfl, gwm hs_2 (i := 41) rfl rfl, tyX0_ok, nmX0, rfl, rfl⟩
theorem npX0_17 : PFF RX0 17 0 4 (tyX0 4) := ⟨TX0, 11, tyX0, rfl, by decide, ugwX0, rfl, gwm hs_2 (i := 42) rfl rfl, tyX0_ok, nmX0, rfl, rfl⟩
theorem npX0_21 : PFV RX0 21 0 8 (tyX0 8) := ⟨TX0, 11, tyX0, rfl, by decide, ugwX0, rfl, gwm hs_2 (i := 47) rfl rfl, tyX0_ok, nmX0, rfl, rfl⟩
theorem npX0_25 : PFF RX0 25 0 0 (tyX0 0) := ⟨TX0, 11, tyX0, rfl, by decide, ugwX0, rfl, gwm hs_2 (i := 38) rfl rfl, tyX0_ok, nmX0, rfl, rfl⟩
theorem npX0_29 : PFF RX0 29 0 1 (tyX0 1) := ⟨TX0, 11, tyX0, rfl, by decide, ugwX0, rfl, gwm hs_2 (i := 39) rfl rfl, tyX0_ok, nmX0, rfl, rfl⟩
theorem npX0_33 : PFF RX0 33 0 2 (tyX0 2) := ⟨TX0, 11, tyX0, rfl, by decide, ugwX0, rfl, gwm hs_2 (i := 40) rfl rfl, tyX0_ok, nmX0, rfl, rfl⟩
theorem noX7 : Cond.methodLink RX7 3 objectInit ∈ gw := gwm hs_2 (i := 78) rfl rfl
theorem npX7_11 : PFF RX7 11 7 3 (tyX7 3) := ⟨TX7, 6, tyX7, rfl, by decide, ugwX7, rfl, gwm hs_2 (i := 82) rfl rfl, tyX7_ok, nmX7, rfl, rfl⟩
theorem npX7_17 : PFF RX7 17 7 0 (tyX7 0) := ⟨TX7, 6, tyX7, rfl, by decide, ugwX7, rfl, gwm hs_2 (i := 79) rfl rfl, tyX7_ok, nmX7, rfl, rfl⟩
theorem npX7_21 : PFF RX7 21 7 1 (tyX7 1) := ⟨TX7, 6, tyX7, rfl, by decide, ugwX7, rfl, gwm hs_2 (i := 80) rfl rfl, tyX7_ok, nmX7, rfl, rfl⟩
theorem npX7_25 : PFF RX7 25 7 2 (tyX7 2) := ⟨TX7, 6, tyX7, rfl, by decide, ugwX7, rfl, gwm hs_2 (i := 81) rfl rfl, tyX7_ok, nmX7, rfl, rfl⟩
theorem noX8 : Cond.methodLink RX8 1 objectInit ∈ gw := gwm hs_2 (i := 103) rfl rfl
theorem npX8_13 : PFV RX8 13 8 0 (tyX8 0) := ⟨TX8, 5, tyX8, rfl, by decide, ugwX8, rfl, gwm hs_2 (i := 105) rfl rfl, tyX8_ok, nmX8, rfl, rfl⟩
theorem npX8_19 : PFV RX8 19 8 3 (tyX8 3) := ⟨TX8, 5, tyX8, rfl, by decide, ugwX8, rfl, gwm hs_2 (i := 117) rfl rfl, tyX8_ok, nmX8, rfl, rfl⟩
theorem noX6 : Cond.methodLink RX6 3 objectInit ∈ gw := gwm hs_1 (i := 50) rfl rfl
theorem npX6_11 : PFF RX6 11 6 0 (tyX6 0) := ⟨TX6, 2, tyX6, rfl, by decide, ugwX6, rfl, gwm hs_1 (i := 72) rfl rfl, tyX6_ok, nmX6, rfl, rfl⟩
theorem npX6_15 : PFF RX6 15 6 1 (tyX6 1) := ⟨TX6, 2, tyX6, rfl, by decide, ugwX6, rfl, gwm hs_1 (i := 73) rfl rfl, tyX6_ok, nmX6, rfl, rfl⟩
theorem noX4 : Cond.methodLink RX4 3 objectInit ∈ gw := gwm hs_1 (i := 118) rfl rfl
theorem npX4_9 : PFF RX4 9 4 0 (tyX4 0) := ⟨TX4, 5, tyX4, rfl, by decide, ugwX4, rfl, gwm hs_1 (i := 121) rfl rfl, tyX4_ok, nmX4, rfl, rfl⟩
theorem nnX4_15 : NL RX4 15 1 [.null, .null, .null, .null, .null, .null, .null, .int 0, .int 0] := ⟨RX1, TX1, 9, tyX1, rfl, ugwX1, tyX1_ok, gwm hs_1 (i := 119) rfl rfl, gwm hs_1 (i := 80) rfl rfl, gwm hs_1 (i := 4) rfl rfl, fun j hj => (match j, hj with | 0, _ => rfl | 1, _ => rfl | 2, _ => rfl | 3, _ => rfl | 4, _ => rfl | 5, _ => rfl | 6, _ => rfl | 7, _ => rfl | 8, _ => rfl | k + 9, h => absurd h (by omega)), rfl⟩
theorem niX4_17 : LI RX4 17 yX1_init cX1_init 1 0 := ⟨⟨gwm hs_1 (i := 4) rfl rfl, gwm hs_1 (i := 83) rfl rfl, by decide +kernel, by decide +kernel, by decide +kernel⟩, Or.inr ⟨"NineLaws", nwm hs_1 (i := 120) rfl rfl⟩, gwm hs_1 (i := 82) rfl rfl, rfl⟩
theorem npX4_18 : PFF RX4 18 4 1 (tyX4 1) := ⟨TX4, 5, tyX4, rfl, by decide, ugwX4, rfl, gwm hs_1 (i := 122) rfl rfl, tyX4_ok, nmX4, rfl, rfl⟩
theorem noX11 : Cond.methodLink RX11 1 objectInit ∈ gw := gwm hs_1 (i := 28) rfl rfl
theorem nnX11_7 : NL RX11 7 9 [.null, .int 0] := ⟨RX9, TX9, 2, tyX9, rfl, ugwX9, tyX9_ok, gwm hs_1 (i := 31) rfl rfl, gwm hs_1 (i := 32) rfl rfl, gwm hs_1 (i := 2) rfl rfl, fun j hj => (match j, hj with | 0, _ => rfl | 1, _ => rfl | k + 2, h => absurd h (by omega)), rfl⟩
theorem niX11_9 : LI RX11 9 yX9_init cX9_init 1 0 := ⟨⟨gwm hs_1 (i := 2) rfl rfl, gwm hs_1 (i := 35) rfl rfl, by decide +kernel, by decide +kernel, by decide +kernel⟩, Or.inr ⟨"NineLaws", nwm hs_1 (i := 33) rfl rfl⟩, gwm hs_1 (i := 34) rfl rfl, rfl⟩
theorem npX11_10 : PFF RX11 10 11 0 (tyX11 0) := ⟨TX11, 16, tyX11, rfl, by decide, ugwX11, rfl, gwm hs_2 (i := 132) rfl rfl, tyX11_ok, nmX11, rfl, rfl⟩
theorem nnX11_16 : NL RX11 16 6 [.null, .null] := ⟨RX6, TX6, 2, tyX6, rfl, ugwX6, tyX6_ok, gwm hs_1 (i := 45) rfl rfl, gwm hs_1 (i := 46) rfl rfl, gwm hs_1 (i := 3) rfl rfl, fun j hj => (match j, hj with | 0, _ => rfl | 1, _ => rfl | k + 2, h => absurd h (by omega)), rfl⟩
theorem niX11_18 : LI RX11 18 yX6_init cX6_init 2 0 := ⟨⟨gwm hs_1 (i := 3) rfl rfl, gwm hs_1 (i := 49) rfl rfl, by decide +kernel, by decide +kernel, by decide +kernel⟩, Or.inl (gwm hs_1 (i := 47) rfl rfl), gwm hs_1 (i := 48) rfl rfl, rfl⟩
theorem npX11_19 : PFF RX11 19 11 1 (tyX11 1) := ⟨TX11, 16, tyX11, rfl, by decide, ugwX11, rfl, gwm hs_2 (i := 133) rfl rfl, tyX11_ok, nmX11, rfl, rfl⟩
theorem nnX11_23 : NL RX11 23 1 [.null, .null, .null, .null, .null, .null, .null, .int 0, .int 0] := ⟨RX1, TX1, 9, tyX1, rfl, ugwX1, tyX1_ok, gwm hs_1 (i := 79) rfl rfl, gwm hs_1 (i := 80) rfl rfl, gwm hs_1 (i := 4) rfl rfl, fun j hj => (match j, hj with | 0, _ => rfl | 1, _ => rfl | 2, _ => rfl | 3, _ => rfl | 4, _ => rfl | 5, _ => rfl | 6, _ => rfl | 7, _ => rfl | 8, _ => rfl | k + 9, h => absurd h (by omega)), rfl⟩
theorem niX11_25 : LI RX11 25 yX1_init cX1_init 1 0 := ⟨⟨gwm hs_1 (i := 4) rfl rfl, gwm hs_1 (i := 83) rfl rfl, by decide +kernel, by decide +kernel, by decide +kernel⟩, Or.inr ⟨"NineLaws", nwm hs_1 (i := 81) rfl rfl⟩, gwm hs_1 (i := 82) rfl rfl, rfl⟩
theorem npX11_26 : PFF RX11 26 11 2 (tyX11 2) := ⟨TX11, 16, tyX11, rfl, by decide, ugwX11, rfl, gwm hs_2 (i := 134) rfl rfl, tyX11_ok, nmX11, rfl, rfl⟩
theorem nnX11_30 : NL RX11 30 4 [.null, .null, .int 0, .int 0, .int 0] := ⟨RX4, TX4, 5, tyX4, rfl, ugwX4, tyX4_ok, gwm hs_1 (i := 113) rfl rfl, gwm hs_1 (i := 114) rfl rfl, gwm hs_1 (i := 5) rfl rfl, fun j hj => (match j, hj with | 0, _ => rfl | 1, _ => rfl | 2, _ => rfl | 3, _ => rfl | 4, _ => rfl | k + 5, h => absurd h (by omega)), rfl⟩
theorem niX11_32 : LI RX11 32 yX4_init cX4_init 1 0 := ⟨⟨gwm hs_1 (i := 5) rfl rfl, gwm hs_1 (i := 117) rfl rfl, by decide +kernel, by decide +kernel, by decide +kernel⟩, Or.inr ⟨"NineLaws", nwm hs_1 (i := 115) rfl rfl⟩, gwm hs_1 (i := 116) rfl rfl, rfl⟩
theorem npX11_33 : PFF RX11 33 11 3 (tyX11 3) := ⟨TX11, 16, tyX11, rfl, by decide, ugwX11, rfl, gwm hs_2 (i := 135) rfl rfl, tyX11_ok, nmX11, rfl, rfl⟩
theorem nnX11_37 : NL RX11 37 10 [.null, .null, .null, .null, .null, .null, .null, .null, .null, .int 0, .int 0] := ⟨RX10, TX10, 11, tyX10, rfl, ugwX10, tyX10_ok, gwm hs_1 (i := 138) rfl rfl, gwm hs_1 (i := 139) rfl rfl, gwm hs_1 (i := 6) rfl rfl, fun j hj => (match j, hj with | 0, _ => rfl | 1, _ => rfl | 2, _ => rfl | 3, _ => rfl | 4, _ => rfl | 5, _ => rfl | 6, _ => rfl | 7, _ => rfl | 8, _ => rfl | 9, _ => rfl | 10, _ => rfl | k + 11, h => absurd h (by omega)), rfl⟩
theorem niX11_39 : LI RX11 39 yX10_init cX10_init 3 2 := ⟨⟨gwm hs_1 (i := 6) rfl rfl, gwm hs_1 (i := 142) rfl rfl, by decide +kernel, by decide +kernel, by decide +kernel⟩, Or.inl (gwm hs_1 (i := 140) rfl rfl), gwm hs_1 (i := 141) rfl rfl, rfl⟩
theorem npX11_42 : PFF RX11 42 11 4 (tyX11 4) := ⟨TX11, 16, tyX11, rfl, by decide, ugwX11, rfl, gwm hs_2 (i := 136) rfl rfl, tyX11_ok, nmX11, rfl, rfl⟩
theorem nnX11_46 : NL RX11 46 2 [.null, .null, .null, .null, .null, .int 0] := ⟨RX2, TX2, 6, tyX2, rfl, ugwX2, tyX2_ok, gwm hs_1 (i := 179) rfl rfl, gwm hs_1 (i := 180) rfl rfl, gwm hs_1 (i := 7) rfl rfl, fun j hj => (match j, hj with | 0, _ => rfl | 1, _ => rfl | 2, _ => rfl | 3, _ => rfl | 4, _ => rfl | 5, _ => rfl | k + 6, h => absurd h (by omega)), rfl⟩
theorem niX11_48 : LI RX11 48 yX2_init cX2_init 3 2 := ⟨⟨gwm hs_1 (i := 7) rfl rfl, gwm hs_1 (i := 183) rfl rfl, by decide +kernel, by decide +kernel, by decide +kernel⟩, Or.inl (gwm hs_1 (i := 181) rfl rfl), gwm hs_1 (i := 182) rfl rfl, rfl⟩
theorem npX11_51 : PFF RX11 51 11 5 (tyX11 5) := ⟨TX11, 16, tyX11, rfl, by decide, ugwX11, rfl, gwm hs_2 (i := 137) rfl rfl, tyX11_ok, nmX11, rfl, rfl⟩
theorem nnX11_55 : NL RX11 55 5 [.null, .null, .null, .int 0, .int 0, .int 0] := ⟨RX5, TX5, 6, tyX5, rfl, ugwX5, tyX5_ok, gwm hs_1 (i := 204) rfl rfl, gwm hs_1 (i := 205) rfl rfl, gwm hs_1 (i := 8) rfl rfl, fun j hj => (match j, hj with | 0, _ => rfl | 1, _ => rfl | 2, _ => rfl | 3, _ => rfl | 4, _ => rfl | 5, _ => rfl | k + 6, h => absurd h (by omega)), rfl⟩
theorem niX11_57 : LI RX11 57 yX5_init cX5_init 4 3 := ⟨⟨gwm hs_1 (i := 8) rfl rfl, gwm hs_1 (i := 208) rfl rfl, by decide +kernel, by decide +kernel, by decide +kernel⟩, Or.inl (gwm hs_1 (i := 206) rfl rfl), gwm hs_1 (i := 207) rfl rfl, rfl⟩
theorem npX11_60 : PFF RX11 60 11 6 (tyX11 6) := ⟨TX11, 16, tyX11, rfl, by decide, ugwX11, rfl, gwm hs_2 (i := 138) rfl rfl, tyX11_ok, nmX11, rfl, rfl⟩
theorem nnX11_64 : NL RX11 64 3 [.null, .null, .null, .null, .null, .null, .null, .int 0, .int 0, .int 0, .int 0] := ⟨RX3, TX3, 11, tyX3, rfl, ugwX3, tyX3_ok, gwm hs_1 (i := 231) rfl rfl, gwm hs_1 (i := 232) rfl rfl, gwm hs_1 (i := 9) rfl rfl, fun j hj => (match j, hj with | 0, _ => rfl | 1, _ => rfl | 2, _ => rfl | 3, _ => rfl | 4, _ => rfl | 5, _ => rfl | 6, _ => rfl | 7, _ => rfl | 8, _ => rfl | 9, _ => rfl | 10, _ => rfl | k + 11, h => absurd h (by omega)), rfl⟩
theorem niX11_66 : LI RX11 66 yX3_init cX3_init 4 3 := ⟨⟨gwm hs_1 (i := 9) rfl rfl, gwm hs_1 (i := 235) rfl rfl, by decide +kernel, by decide +kernel, by decide +kernel⟩, Or.inl (gwm hs_1 (i := 233) rfl rfl), gwm hs_1 (i := 234) rfl rfl, rfl⟩
theorem npX11_67 : PFF RX11 67 11 7 (tyX11 7) := ⟨TX11, 16, tyX11, rfl, by decide, ugwX11, rfl, gwm hs_2 (i := 139) rfl rfl, tyX11_ok, nmX11, rfl, rfl⟩
theorem nnX11_71 : NL RX11 71 0 [.null, .null, .null, .null, .null, .int 0, .int 0, .int 0, .int 0, .int 0, .int 0] := ⟨RX0, TX0, 11, tyX0, rfl, ugwX0, tyX0_ok, gwm hs_2 (i := 32) rfl rfl, gwm hs_2 (i := 33) rfl rfl, gwm hs_1 (i := 10) rfl rfl, fun j hj => (match j, hj with | 0, _ => rfl | 1, _ => rfl | 2, _ => rfl | 3, _ => rfl | 4, _ => rfl | 5, _ => rfl | 6, _ => rfl | 7, _ => rfl | 8, _ => rfl | 9, _ => rfl | 10, _ => rfl | k + 11, h => absurd h (by omega)), rfl⟩
theorem niX11_73 : LI RX11 73 yX0_init cX0_init 4 3 := ⟨⟨gwm hs_1 (i := 10) rfl rfl, gwm hs_2 (i := 36) rfl rfl, by decide +kernel, by decide +kernel, by decide +kernel⟩, Or.inl (gwm hs_2 (i := 34) rfl rfl), gwm hs_2 (i := 35) rfl rfl, rfl⟩
theorem npX11_74 : PFF RX11 74 11 8 (tyX11 8) := ⟨TX11, 16, tyX11, rfl, by decide, ugwX11, rfl, gwm hs_2 (i := 140) rfl rfl, tyX11_ok, nmX11, rfl, rfl⟩
theorem nnX11_78 : NL RX11 78 7 [.null, .null, .null, .null, .int 0, .int 0] := ⟨RX7, TX7, 6, tyX7, rfl, ugwX7, tyX7_ok, gwm hs_2 (i := 73) rfl rfl, gwm hs_2 (i := 74) rfl rfl, gwm hs_1 (i := 11) rfl rfl, fun j hj => (match j, hj with | 0, _ => rfl | 1, _ => rfl | 2, _ => rfl | 3, _ => rfl | 4, _ => rfl | 5, _ => rfl | k + 6, h => absurd h (by omega)), rfl⟩
theorem niX11_80 : LI RX11 80 yX7_init cX7_init 4 3 := ⟨⟨gwm hs_1 (i := 11) rfl rfl, gwm hs_2 (i := 77) rfl rfl, by decide +kernel, by decide +kernel, by decide +kernel⟩, Or.inl (gwm hs_2 (i := 75) rfl rfl), gwm hs_2 (i := 76) rfl rfl, rfl⟩
theorem npX11_81 : PFF RX11 81 11 9 (tyX11 9) := ⟨TX11, 16, tyX11, rfl, by decide, ugwX11, rfl, gwm hs_2 (i := 141) rfl rfl, tyX11_ok, nmX11, rfl, rfl⟩
theorem nnX11_85 : NL RX11 85 8 [.int 0, .int 0, .int 0, .int 0, .int 0] := ⟨RX8, TX8, 5, tyX8, rfl, ugwX8, tyX8_ok, gwm hs_2 (i := 98) rfl rfl, gwm hs_2 (i := 99) rfl rfl, gwm hs_1 (i := 12) rfl rfl, fun j hj => (match j, hj with | 0, _ => rfl | 1, _ => rfl | 2, _ => rfl | 3, _ => rfl | 4, _ => rfl | k + 5, h => absurd h (by omega)), rfl⟩
theorem niX11_87 : LI RX11 87 yX8_init cX8_init 1 0 := ⟨⟨gwm hs_1 (i := 12) rfl rfl, gwm hs_2 (i := 102) rfl rfl, by decide +kernel, by decide +kernel, by decide +kernel⟩, Or.inr ⟨"NineLaws", nwm hs_2 (i := 100) rfl rfl⟩, gwm hs_2 (i := 101) rfl rfl, rfl⟩
theorem npX11_88 : PFF RX11 88 11 10 (tyX11 10) := ⟨TX11, 16, tyX11, rfl, by decide, ugwX11, rfl, gwm hs_2 (i := 142) rfl rfl, tyX11_ok, nmX11, rfl, rfl⟩
theorem npX11_92 : PFF RX11 92 11 11 (tyX11 11) := ⟨TX11, 16, tyX11, rfl, by decide, ugwX11, rfl, gwm hs_2 (i := 143) rfl rfl, tyX11_ok, nmX11, rfl, rfl⟩
theorem npX11_95 : PFF RX11 95 11 12 (tyX11 12) := ⟨TX11, 16, tyX11, rfl, by decide, ugwX11, rfl, gwm hs_2 (i := 144) rfl rfl, tyX11_ok, nmX11, rfl, rfl⟩
theorem npX11_99 : PFF RX11 99 11 13 (tyX11 13) := ⟨TX11, 16, tyX11, rfl, by decide, ugwX11, rfl, gwm hs_2 (i := 145) rfl rfl, tyX11_ok, nmX11, rfl, rfl⟩
theorem noX12 : Cond.methodLink RX12 1 objectInit ∈ gw := gwm hs_5 (i := 124) rfl rfl
theorem npX12_7 : PFF RX12 7 12 0 (tyX12 0) := ⟨TX12, 74, tyX12, rfl, by decide, ugwX12, rfl, gwm hs_5 (i := 127) rfl rfl, tyX12_ok, nmX12, rfl, rfl⟩
theorem npX12_13 : PFV RX12 13 12 3 (tyX12 3) := ⟨TX12, 74, tyX12, rfl, by decide, ugwX12, rfl, gwm hs_5 (i := 130) rfl rfl, tyX12_ok, nmX12, rfl, rfl⟩
theorem npX12_17 : PFV RX12 17 12 5 (tyX12 5) := ⟨TX12, 74, tyX12, rfl, by decide, ugwX12, rfl, gwm hs_5 (i := 132) rfl rfl, tyX12_ok, nmX12, rfl, rfl⟩
theorem npX12_20 : PFV RX12 20 12 8 (tyX12 8) := ⟨TX12, 74, tyX12, rfl, by decide, ugwX12, rfl, gwm hs_5 (i := 135) rfl rfl, tyX12_ok, nmX12, rfl, rfl⟩
theorem npX12_23 : PFF RX12 23 12 10 (tyX12 10) := ⟨TX12, 74, tyX12, rfl, by decide, ugwX12, rfl, gwm hs_5 (i := 137) rfl rfl, tyX12_ok, nmX12, rfl, rfl⟩
theorem npX12_27 : PFF RX12 27 12 11 (tyX12 11) := ⟨TX12, 74, tyX12, rfl, by decide, ugwX12, rfl, gwm hs_5 (i := 138) rfl rfl, tyX12_ok, nmX12, rfl, rfl⟩
theorem npX12_30 : PFF RX12 30 12 12 (tyX12 12) := ⟨TX12, 74, tyX12, rfl, by decide, ugwX12, rfl, gwm hs_5 (i := 139) rfl rfl, tyX12_ok, nmX12, rfl, rfl⟩
theorem npX12_33 : PFF RX12 33 12 13 (tyX12 13) := ⟨TX12, 74, tyX12, rfl, by decide, ugwX12, rfl, gwm hs_5 (i := 140) rfl rfl, tyX12_ok, nmX12, rfl, rfl⟩
theorem npX12_36 : PFF RX12 36 12 14 (tyX12 14) := ⟨TX12, 74, tyX12, rfl, by decide, ugwX12, rfl, gwm hs_5 (i := 141) rfl rfl, tyX12_ok, nmX12, rfl, rfl⟩
theorem npX12_39 : PFF RX12 39 12 15 (tyX12 15) := ⟨TX12, 74, tyX12, rfl, by decide, ugwX12, rfl, gwm hs_5 (i := 142) rfl rfl, tyX12_ok, nmX12, rfl, rfl⟩
theorem npX12_42 : PFF RX12 42 12 16 (tyX12 16) := ⟨TX12, 74, tyX12, rfl, by decide, ugwX12, rfl, gwm hs_5 (i := 143) rfl rfl, tyX12_ok, nmX12, rfl, rfl⟩
theorem npX12_45 : PFF RX12 45 12 18 (tyX12 18) := ⟨TX12, 74, tyX12, rfl, by decide, ugwX12, rfl, gwm hs_5 (i := 145) rfl rfl, tyX12_ok, nmX12, rfl, rfl⟩
theorem npX12_48 : PFF RX12 48 12 19 (tyX12 19) := ⟨TX12, 74, tyX12, rfl, by decide, ugwX12, rfl, gwm hs_5 (i := 146) rfl rfl, tyX12_ok, nmX12, rfl, rfl⟩
theorem npX12_51 : PFF RX12 51 12 20 (tyX12 20) := ⟨TX12, 74, tyX12, rfl, by decide, ugwX12, rfl, gwm hs_5 (i := 147) rfl rfl, tyX12_ok, nmX12, rfl, rfl⟩
theorem npX12_54 : PFF RX12 54 12 21 (tyX12 21) := ⟨TX12, 74, tyX12, rfl, by decide, ugwX12, rfl, gwm hs_5 (i := 148) rfl rfl, tyX12_ok, nmX12, rfl, rfl⟩
theorem npX12_57 : PFF RX12 57 12 22 (tyX12 22) := ⟨TX12, 74, tyX12, rfl, by decide, ugwX12, rfl, gwm hs_5 (i := 149) rfl rfl, tyX12_ok, nmX12, rfl, rfl⟩
theorem npX12_60 : PFF RX12 60 12 23 (tyX12 23) := ⟨TX12, 74, tyX12, rfl, by decide, ugwX12, rfl, gwm hs_5 (i := 150) rfl rfl, tyX12_ok, nmX12, rfl, rfl⟩
theorem npX12_63 : PFF RX12 63 12 24 (tyX12 24) := ⟨TX12, 74, tyX12, rfl, by decide, ugwX12, rfl, gwm hs_5 (i := 151) rfl rfl, tyX12_ok, nmX12, rfl, rfl⟩
theorem npX12_66 : PFF RX12 66 12 25 (tyX12 25) := ⟨TX12, 74, tyX12, rfl, by decide, ugwX12, rfl, gwm hs_5 (i := 152) rfl rfl, tyX12_ok, nmX12, rfl, rfl⟩
theorem npX12_69 : PFF RX12 69 12 26 (tyX12 26) := ⟨TX12, 74, tyX12, rfl, by decide, ugwX12, rfl, gwm hs_5 (i := 153) rfl rfl, tyX12_ok, nmX12, rfl, rfl⟩
theorem npX12_72 : PFF RX12 72 12 27 (tyX12 27) := ⟨TX12, 74, tyX12, rfl, by decide, ugwX12, rfl, gwm hs_5 (i := 154) rfl rfl, tyX12_ok, nmX12, rfl, rfl⟩
theorem npX12_75 : PFF RX12 75 12 28 (tyX12 28) := ⟨TX12, 74, tyX12, rfl, by decide, ugwX12, rfl, gwm hs_5 (i := 155) rfl rfl, tyX12_ok, nmX12, rfl, rfl⟩
theorem npX12_78 : PFF RX12 78 12 29 (tyX12 29) := ⟨TX12, 74, tyX12, rfl, by decide, ugwX12, rfl, gwm hs_5 (i := 156) rfl rfl, tyX12_ok, nmX12, rfl, rfl⟩
theorem npX12_81 : PFF RX12 81 12 39 (tyX12 39) := ⟨TX12, 74, tyX12, rfl, by decide, ugwX12, rfl, gwm hs_5 (i := 166) rfl rfl, tyX12_ok, nmX12, rfl, rfl⟩
theorem npX12_84 : PFF RX12 84 12 45 (tyX12 45) := ⟨TX12, 74, tyX12, rfl, by decide, ugwX12, rfl, gwm hs_5 (i := 172) rfl rfl, tyX12_ok, nmX12, rfl, rfl⟩
theorem npX12_87 : PFF RX12 87 12 46 (tyX12 46) := ⟨TX12, 74, tyX12, rfl, by decide, ugwX12, rfl, gwm hs_5 (i := 173) rfl rfl, tyX12_ok, nmX12, rfl, rfl⟩
theorem npX12_91 : PFF RX12 91 12 47 (tyX12 47) := ⟨TX12, 74, tyX12, rfl, by decide, ugwX12, rfl, gwm hs_5 (i := 174) rfl rfl, tyX12_ok, nmX12, rfl, rfl⟩
theorem npX12_94 : PFF RX12 94 12 51 (tyX12 51) := ⟨TX12, 74, tyX12, rfl, by decide, ugwX12, rfl, gwm hs_5 (i := 178) rfl rfl, tyX12_ok, nmX12, rfl, rfl⟩
theorem npX12_97 : PFF RX12 97 12 52 (tyX12 52) := ⟨TX12, 74, tyX12, rfl, by decide, ugwX12, rfl, gwm hs_5 (i := 179) rfl rfl, tyX12_ok, nmX12, rfl, rfl⟩
theorem npX12_100 : PFF RX12 100 12 53 (tyX12 53) := ⟨TX12, 74, tyX12, rfl, by decide, ugwX12, rfl, gwm hs_5 (i := 180) rfl rfl, tyX12_ok, nmX12, rfl, rfl⟩
theorem npX12_103 : PFF RX12 103 12 54 (tyX12 54) := ⟨TX12, 74, tyX12, rfl, by decide, ugwX12, rfl, gwm hs_5 (i := 181) rfl rfl, tyX12_ok, nmX12, rfl, rfl⟩
theorem npX12_106 : PFF RX12 106 12 55 (tyX12 55) := ⟨TX12, 74, tyX12, rfl, by decide, ugwX12, rfl, gwm hs_5 (i := 182) rfl rfl, tyX12_ok, nmX12, rfl, rfl⟩
theorem npX12_109 : PFF RX12 109 12 56 (tyX12 56) := ⟨TX12, 74, tyX12, rfl, by decide, ugwX12, rfl, gwm hs_5 (i := 183) rfl rfl, tyX12_ok, nmX12, rfl, rfl⟩
theorem npX12_112 : PFF RX12 112 12 57 (tyX12 57) := ⟨TX12, 74, tyX12, rfl, by decide, ugwX12, rfl, gwm hs_5 (i := 184) rfl rfl, tyX12_ok, nmX12, rfl, rfl⟩
theorem npX12_115 : PFF RX12 115 12 58 (tyX12 58) := ⟨TX12, 74, tyX12, rfl, by decide, ugwX12, rfl, gwm hs_5 (i := 185) rfl rfl, tyX12_ok, nmX12, rfl, rfl⟩
theorem npX12_118 : PFF RX12 118 12 59 (tyX12 59) := ⟨TX12, 74, tyX12, rfl, by decide, ugwX12, rfl, gwm hs_5 (i := 186) rfl rfl, tyX12_ok, nmX12, rfl, rfl⟩
theorem npX12_122 : PFF RX12 122 12 63 (tyX12 63) := ⟨TX12, 74, tyX12, rfl, by decide, ugwX12, rfl, gwm hs_5 (i := 190) rfl rfl, tyX12_ok, nmX12, rfl, rfl⟩
theorem npX12_125 : PFF RX12 125 12 64 (tyX12 64) := ⟨TX12, 74, tyX12, rfl, by decide, ugwX12, rfl, gwm hs_5 (i := 191) rfl rfl, tyX12_ok, nmX12, rfl, rfl⟩
theorem npX12_129 : PFF RX12 129 12 65 (tyX12 65) := ⟨TX12, 74, tyX12, rfl, by decide, ugwX12, rfl, gwm hs_5 (i := 192) rfl rfl, tyX12_ok, nmX12, rfl, rfl⟩
theorem npX12_132 : PFF RX12 132 12 66 (tyX12 66) := ⟨TX12, 74, tyX12, rfl, by decide, ugwX12, rfl, gwm hs_5 (i := 193) rfl rfl, tyX12_ok, nmX12, rfl, rfl⟩
theorem npX12_135 : PFF RX12 135 12 67 (tyX12 67) := ⟨TX12, 74, tyX12, rfl, by decide, ugwX12, rfl, gwm hs_5 (i := 194) rfl rfl, tyX12_ok, nmX12, rfl, rfl⟩
theorem nnL_7 : NL "NineLawsLaw" 7 11 [.null, .null, .null, .null, .null, .null, .null, .null, .null, .null, .null, .null, .null, .null, .int 0, .int 0] := ⟨RX11, TX11, 16, tyX11, rfl, ugwX11, tyX11_ok, gwm hs_1 (i := 23) rfl rfl, gwm hs_1 (i := 24) rfl rfl, gwm hs_1 (i := 1) rfl rfl, fun j hj => (match j, hj with | 0, _ => rfl | 1, _ => rfl | 2, _ => rfl | 3, _ => rfl | 4, _ => rfl | 5, _ => rfl | 6, _ => rfl | 7, _ => rfl | 8, _ => rfl | 9, _ => rfl | 10, _ => rfl | 11, _ => rfl | 12, _ => rfl | 13, _ => rfl | 14, _ => rfl | 15, _ => rfl | k + 16, h => absurd h (by omega)), rfl⟩
theorem nnL_10 : NL "NineLawsLaw" 10 12 [.null, .int 0, .int 0, .int 0, .int 0, .int 0, .int 0, .int 0, .int 0, .int 0, .null, .null, .null, .null, .null, .null, .null, .int 0, .null, .null, .null, .null, .null, .null, .null, .null, .null, .null, .null, .null, .int 0, .int 0, .int 0, .int 0, .int 0, .int 0, .int 0, .int 0, .int 0, .null, .int 0, .int 0, .int 0, .int 0, .int 0, .null, .null, .null, .int 0, .int 0, .int 0, .null, .null, .null, .null, .null, .null, .null, .null, .null, .int 0, .int 0, .int 0, .null, .null, .null, .null, .null, .int 0, .int 0, .int 0, .int 0, .int 0, .int 0] := ⟨RX12, TX12, 74, tyX12, rfl, ugwX12, tyX12_ok, gwm hs_5 (i := 119) rfl rfl, gwm hs_5 (i := 120) rfl rfl, gwm hs_1 (i := 13) rfl rfl, fun j hj => (match j, hj with | 0, _ => rfl | 1, _ => rfl | 2, _ => rfl | 3, _ => rfl | 4, _ => rfl | 5, _ => rfl | 6, _ => rfl | 7, _ => rfl | 8, _ => rfl | 9, _ => rfl | 10, _ => rfl | 11, _ => rfl | 12, _ => rfl | 13, _ => rfl | 14, _ => rfl | 15, _ => rfl | 16, _ => rfl | 17, _ => rfl | 18, _ => rfl | 19, _ => rfl | 20, _ => rfl | 21, _ => rfl | 22, _ => rfl | 23, _ => rfl | 24, _ => rfl | 25, _ => rfl | 26, _ => rfl | 27, _ => rfl | 28, _ => rfl | 29, _ => rfl | 30, _ => rfl | 31, _ => rfl | 32, _ => rfl | 33, _ => rfl | 34, _ => rfl | 35, _ => rfl | 36, _ => rfl | 37, _ => rfl | 38, _ => rfl | 39, _ => rfl | 40, _ => rfl | 41, _ => rfl | 42, _ => rfl | 43, _ => rfl | 44, _ => rfl | 45, _ => rfl | 46, _ => rfl | 47, _ => rfl | 48, _ => rfl | 49, _ => rfl | 50, _ => rfl | 51, _ => rfl | 52, _ => rfl | 53, _ => rfl | 54, _ => rfl | 55, _ => rfl | 56, _ => rfl | 57, _ => rfl | 58, _ => rfl | 59, _ => rfl | 60, _ => rfl | 61, _ => rfl | 62, _ => rfl | 63, _ => rfl | 64, _ => rfl | 65, _ => rfl | 66, _ => rfl | 67, _ => rfl | 68, _ => rfl | 69, _ => rfl | 70, _ => rfl | 71, _ => rfl | 72, _ => rfl | 73, _ => rfl | k + 74, h => absurd h (by omega)), rfl⟩
theorem niL_9 : LI "NineLawsLaw" 9 yX11_init cX11_init 1 0 := ⟨⟨gwm hs_1 (i := 1) rfl rfl, gwm hs_1 (i := 27) rfl rfl, by decide +kernel, by decide +kernel, by decide +kernel⟩, Or.inl (gwm hs_1 (i := 25) rfl rfl), gwm hs_1 (i := 26) rfl rfl, rfl⟩
theorem niL_12 : LI "NineLawsLaw" 12 yX12_init cX12_init 1 0 := ⟨⟨gwm hs_1 (i := 13) rfl rfl, gwm hs_5 (i := 123) rfl rfl, by decide +kernel, by decide +kernel, by decide +kernel⟩, Or.inl (gwm hs_5 (i := 121) rfl rfl), gwm hs_5 (i := 122) rfl rfl, rfl⟩
theorem nb_8 : LT RX8 7 yX6_bareOf cX6_bareOf 1 (some .int) 1 := ⟨⟨gwm hs_1 (i := 3) rfl rfl, gwm hs_1 (i := 57) rfl rfl, by decide +kernel, by decide +kernel, by decide +kernel⟩, gwm hs_2 (i := 104) rfl rfl, gwm hs_1 (i := 56) rfl rfl⟩
theorem nl_6 : LV RX6 18 yX6_listAll cX6_listAll 10 none 1 := ⟨⟨gwm hs_1 (i := 3) rfl rfl, gwm hs_1 (i := 54) rfl rfl, by decide +kernel, by decide +kernel, by decide +kernel⟩, gwm hs_1 (i := 51) rfl rfl, gwm hs_1 (i := 53) rfl rfl, gwm hs_0 (i := 0) rfl rfl⟩
