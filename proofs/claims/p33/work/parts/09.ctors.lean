theorem dX0_init_0 : decode cX0_init 0 = .ok (.aload_n 0, 1) := by decide +kernel
theorem dX0_init_1 : decode cX0_init 1 = .ok (.invokespecial 3, 3) := by decide +kernel
theorem dX0_init_4 : decode cX0_init 4 = .ok (.aload_n 0, 1) := by decide +kernel
theorem dX0_init_5 : decode cX0_init 5 = .ok (.bipush 14, 2) := by decide +kernel
theorem dX0_init_7 : decode cX0_init 7 = .ok (.newarray .int, 2) := by decide +kernel
theorem dX0_init_9 : decode cX0_init 9 = .ok (.putfield 9, 3) := by decide +kernel
theorem dX0_init_12 : decode cX0_init 12 = .ok (.aload_n 0, 1) := by decide +kernel
theorem dX0_init_13 : decode cX0_init 13 = .ok (.bipush 14, 2) := by decide +kernel
theorem dX0_init_15 : decode cX0_init 15 = .ok (.newarray .int, 2) := by decide +kernel
theorem dX0_init_17 : decode cX0_init 17 = .ok (.putfield 15, 3) := by decide +kernel
theorem dX0_init_20 : decode cX0_init 20 = .ok (.return_, 1) := by decide +kernel
theorem dX1_init_0 : decode cX1_init 0 = .ok (.aload_n 0, 1) := by decide +kernel
theorem dX1_init_1 : decode cX1_init 1 = .ok (.invokespecial 3, 3) := by decide +kernel
theorem dX1_init_4 : decode cX1_init 4 = .ok (.aload_n 0, 1) := by decide +kernel
theorem dX1_init_5 : decode cX1_init 5 = .ok (.bipush 14, 2) := by decide +kernel
theorem dX1_init_7 : decode cX1_init 7 = .ok (.newarray .int, 2) := by decide +kernel
theorem dX1_init_9 : decode cX1_init 9 = .ok (.putfield 9, 3) := by decide +kernel
theorem dX1_init_12 : decode cX1_init 12 = .ok (.return_, 1) := by decide +kernel
theorem dX2_init_0 : decode cX2_init 0 = .ok (.aload_n 0, 1) := by decide +kernel
theorem dX2_init_1 : decode cX2_init 1 = .ok (.invokespecial 3, 3) := by decide +kernel
theorem dX2_init_4 : decode cX2_init 4 = .ok (.aload_n 0, 1) := by decide +kernel
theorem dX2_init_5 : decode cX2_init 5 = .ok (.bipush 14, 2) := by decide +kernel
theorem dX2_init_7 : decode cX2_init 7 = .ok (.newarray .int, 2) := by decide +kernel
theorem dX2_init_9 : decode cX2_init 9 = .ok (.putfield 9, 3) := by decide +kernel
theorem dX2_init_12 : decode cX2_init 12 = .ok (.return_, 1) := by decide +kernel
theorem dX3_init_0 : decode cX3_init 0 = .ok (.aload_n 0, 1) := by decide +kernel
theorem dX3_init_1 : decode cX3_init 1 = .ok (.invokespecial 3, 3) := by decide +kernel
theorem dX3_init_4 : decode cX3_init 4 = .ok (.aload_n 0, 1) := by decide +kernel
theorem dX3_init_5 : decode cX3_init 5 = .ok (.iconst 2, 1) := by decide +kernel
theorem dX3_init_6 : decode cX3_init 6 = .ok (.putfield 9, 3) := by decide +kernel
theorem dX3_init_9 : decode cX3_init 9 = .ok (.aload_n 0, 1) := by decide +kernel
theorem dX3_init_10 : decode cX3_init 10 = .ok (.iconst 4, 1) := by decide +kernel
theorem dX3_init_11 : decode cX3_init 11 = .ok (.newarray .int, 2) := by decide +kernel
theorem dX3_init_13 : decode cX3_init 13 = .ok (.putfield 15, 3) := by decide +kernel
theorem dX3_init_16 : decode cX3_init 16 = .ok (.aload_n 0, 1) := by decide +kernel
theorem dX3_init_17 : decode cX3_init 17 = .ok (.bipush 16, 2) := by decide +kernel
theorem dX3_init_19 : decode cX3_init 19 = .ok (.newarray .int, 2) := by decide +kernel
theorem dX3_init_21 : decode cX3_init 21 = .ok (.putfield 19, 3) := by decide +kernel
theorem dX3_init_24 : decode cX3_init 24 = .ok (.aload_n 0, 1) := by decide +kernel
theorem dX3_init_25 : decode cX3_init 25 = .ok (.bipush 16, 2) := by decide +kernel
theorem dX3_init_27 : decode cX3_init 27 = .ok (.newarray .boolean, 2) := by decide +kernel
theorem dX3_init_29 : decode cX3_init 29 = .ok (.putfield 22, 3) := by decide +kernel
theorem dX3_init_32 : decode cX3_init 32 = .ok (.aload_n 0, 1) := by decide +kernel
theorem dX3_init_33 : decode cX3_init 33 = .ok (.bipush 14, 2) := by decide +kernel
theorem dX3_init_35 : decode cX3_init 35 = .ok (.newarray .int, 2) := by decide +kernel
theorem dX3_init_37 : decode cX3_init 37 = .ok (.putfield 26, 3) := by decide +kernel
theorem dX3_init_40 : decode cX3_init 40 = .ok (.return_, 1) := by decide +kernel
theorem dX4_init_0 : decode cX4_init 0 = .ok (.aload_n 0, 1) := by decide +kernel
theorem dX4_init_1 : decode cX4_init 1 = .ok (.invokespecial 3, 3) := by decide +kernel
theorem dX4_init_4 : decode cX4_init 4 = .ok (.aload_n 0, 1) := by decide +kernel
theorem dX4_init_5 : decode cX4_init 5 = .ok (.bipush 14, 2) := by decide +kernel
theorem dX4_init_7 : decode cX4_init 7 = .ok (.newarray .int, 2) := by decide +kernel
theorem dX4_init_9 : decode cX4_init 9 = .ok (.putfield 9, 3) := by decide +kernel
theorem dX4_init_12 : decode cX4_init 12 = .ok (.aload_n 0, 1) := by decide +kernel
theorem dX4_init_13 : decode cX4_init 13 = .ok (.bipush 14, 2) := by decide +kernel
theorem dX4_init_15 : decode cX4_init 15 = .ok (.newarray .int, 2) := by decide +kernel
theorem dX4_init_17 : decode cX4_init 17 = .ok (.putfield 15, 3) := by decide +kernel
theorem dX4_init_20 : decode cX4_init 20 = .ok (.aload_n 0, 1) := by decide +kernel
theorem dX4_init_21 : decode cX4_init 21 = .ok (.sipush 196, 3) := by decide +kernel
theorem dX4_init_24 : decode cX4_init 24 = .ok (.newarray .int, 2) := by decide +kernel
theorem dX4_init_26 : decode cX4_init 26 = .ok (.putfield 18, 3) := by decide +kernel
theorem dX4_init_29 : decode cX4_init 29 = .ok (.return_, 1) := by decide +kernel
theorem dX5_init_0 : decode cX5_init 0 = .ok (.aload_n 0, 1) := by decide +kernel
theorem dX5_init_1 : decode cX5_init 1 = .ok (.invokespecial 3, 3) := by decide +kernel
theorem dX5_init_4 : decode cX5_init 4 = .ok (.aload_n 0, 1) := by decide +kernel
theorem dX5_init_5 : decode cX5_init 5 = .ok (.bipush 14, 2) := by decide +kernel
theorem dX5_init_7 : decode cX5_init 7 = .ok (.newarray .int, 2) := by decide +kernel
theorem dX5_init_9 : decode cX5_init 9 = .ok (.putfield 9, 3) := by decide +kernel
theorem dX5_init_12 : decode cX5_init 12 = .ok (.aload_n 0, 1) := by decide +kernel
theorem dX5_init_13 : decode cX5_init 13 = .ok (.bipush 56, 2) := by decide +kernel
theorem dX5_init_15 : decode cX5_init 15 = .ok (.newarray .int, 2) := by decide +kernel
theorem dX5_init_17 : decode cX5_init 17 = .ok (.putfield 15, 3) := by decide +kernel
theorem dX5_init_20 : decode cX5_init 20 = .ok (.aload_n 0, 1) := by decide +kernel
theorem dX5_init_21 : decode cX5_init 21 = .ok (.bipush 14, 2) := by decide +kernel
theorem dX5_init_23 : decode cX5_init 23 = .ok (.newarray .int, 2) := by decide +kernel
theorem dX5_init_25 : decode cX5_init 25 = .ok (.putfield 18, 3) := by decide +kernel
theorem dX5_init_28 : decode cX5_init 28 = .ok (.aload_n 0, 1) := by decide +kernel
theorem dX5_init_29 : decode cX5_init 29 = .ok (.bipush 14, 2) := by decide +kernel
theorem dX5_init_31 : decode cX5_init 31 = .ok (.newarray .int, 2) := by decide +kernel
theorem dX5_init_33 : decode cX5_init 33 = .ok (.putfield 21, 3) := by decide +kernel
theorem dX5_init_36 : decode cX5_init 36 = .ok (.aload_n 0, 1) := by decide +kernel
theorem dX5_init_37 : decode cX5_init 37 = .ok (.bipush 14, 2) := by decide +kernel
theorem dX5_init_39 : decode cX5_init 39 = .ok (.newarray .int, 2) := by decide +kernel
theorem dX5_init_41 : decode cX5_init 41 = .ok (.putfield 24, 3) := by decide +kernel
theorem dX5_init_44 : decode cX5_init 44 = .ok (.aload_n 0, 1) := by decide +kernel
theorem dX5_init_45 : decode cX5_init 45 = .ok (.sipush 196, 3) := by decide +kernel
theorem dX5_init_48 : decode cX5_init 48 = .ok (.newarray .int, 2) := by decide +kernel
theorem dX5_init_50 : decode cX5_init 50 = .ok (.putfield 27, 3) := by decide +kernel
theorem dX5_init_53 : decode cX5_init 53 = .ok (.aload_n 0, 1) := by decide +kernel
theorem dX5_init_54 : decode cX5_init 54 = .ok (.bipush 14, 2) := by decide +kernel
theorem dX5_init_56 : decode cX5_init 56 = .ok (.newarray .int, 2) := by decide +kernel
theorem dX5_init_58 : decode cX5_init 58 = .ok (.putfield 30, 3) := by decide +kernel
theorem dX5_init_61 : decode cX5_init 61 = .ok (.aload_n 0, 1) := by decide +kernel
theorem dX5_init_62 : decode cX5_init 62 = .ok (.bipush 14, 2) := by decide +kernel
theorem dX5_init_64 : decode cX5_init 64 = .ok (.newarray .int, 2) := by decide +kernel
theorem dX5_init_66 : decode cX5_init 66 = .ok (.putfield 33, 3) := by decide +kernel
theorem dX5_init_69 : decode cX5_init 69 = .ok (.aload_n 0, 1) := by decide +kernel
theorem dX5_init_70 : decode cX5_init 70 = .ok (.bipush 14, 2) := by decide +kernel
theorem dX5_init_72 : decode cX5_init 72 = .ok (.newarray .int, 2) := by decide +kernel
theorem dX5_init_74 : decode cX5_init 74 = .ok (.putfield 36, 3) := by decide +kernel
theorem dX5_init_77 : decode cX5_init 77 = .ok (.aload_n 0, 1) := by decide +kernel
theorem dX5_init_78 : decode cX5_init 78 = .ok (.new 39, 3) := by decide +kernel
theorem dX5_init_81 : decode cX5_init 81 = .ok (.dup, 1) := by decide +kernel
theorem dX5_init_82 : decode cX5_init 82 = .ok (.invokespecial 41, 3) := by decide +kernel
theorem dX5_init_85 : decode cX5_init 85 = .ok (.putfield 42, 3) := by decide +kernel
theorem dX5_init_88 : decode cX5_init 88 = .ok (.return_, 1) := by decide +kernel
theorem dX7_init_0 : decode cX7_init 0 = .ok (.aload_n 0, 1) := by decide +kernel
theorem dX7_init_1 : decode cX7_init 1 = .ok (.invokespecial 3, 3) := by decide +kernel
theorem dX7_init_4 : decode cX7_init 4 = .ok (.aload_n 0, 1) := by decide +kernel
theorem dX7_init_5 : decode cX7_init 5 = .ok (.bipush 14, 2) := by decide +kernel
theorem dX7_init_7 : decode cX7_init 7 = .ok (.newarray .int, 2) := by decide +kernel
theorem dX7_init_9 : decode cX7_init 9 = .ok (.putfield 9, 3) := by decide +kernel
theorem dX7_init_12 : decode cX7_init 12 = .ok (.aload_n 0, 1) := by decide +kernel
theorem dX7_init_13 : decode cX7_init 13 = .ok (.bipush 56, 2) := by decide +kernel
theorem dX7_init_15 : decode cX7_init 15 = .ok (.newarray .int, 2) := by decide +kernel
theorem dX7_init_17 : decode cX7_init 17 = .ok (.putfield 15, 3) := by decide +kernel
theorem dX7_init_20 : decode cX7_init 20 = .ok (.aload_n 0, 1) := by decide +kernel
theorem dX7_init_21 : decode cX7_init 21 = .ok (.bipush 14, 2) := by decide +kernel
theorem dX7_init_23 : decode cX7_init 23 = .ok (.newarray .int, 2) := by decide +kernel
theorem dX7_init_25 : decode cX7_init 25 = .ok (.putfield 18, 3) := by decide +kernel
theorem dX7_init_28 : decode cX7_init 28 = .ok (.aload_n 0, 1) := by decide +kernel
theorem dX7_init_29 : decode cX7_init 29 = .ok (.bipush 14, 2) := by decide +kernel
theorem dX7_init_31 : decode cX7_init 31 = .ok (.newarray .int, 2) := by decide +kernel
theorem dX7_init_33 : decode cX7_init 33 = .ok (.putfield 21, 3) := by decide +kernel
theorem dX7_init_36 : decode cX7_init 36 = .ok (.aload_n 0, 1) := by decide +kernel
theorem dX7_init_37 : decode cX7_init 37 = .ok (.bipush 56, 2) := by decide +kernel
theorem dX7_init_39 : decode cX7_init 39 = .ok (.newarray .int, 2) := by decide +kernel
theorem dX7_init_41 : decode cX7_init 41 = .ok (.putfield 24, 3) := by decide +kernel
theorem dX7_init_44 : decode cX7_init 44 = .ok (.aload_n 0, 1) := by decide +kernel
theorem dX7_init_45 : decode cX7_init 45 = .ok (.sipush 3584, 3) := by decide +kernel
theorem dX7_init_48 : decode cX7_init 48 = .ok (.newarray .int, 2) := by decide +kernel
theorem dX7_init_50 : decode cX7_init 50 = .ok (.putfield 27, 3) := by decide +kernel
theorem dX7_init_53 : decode cX7_init 53 = .ok (.aload_n 0, 1) := by decide +kernel
theorem dX7_init_54 : decode cX7_init 54 = .ok (.sipush 3584, 3) := by decide +kernel
theorem dX7_init_57 : decode cX7_init 57 = .ok (.newarray .int, 2) := by decide +kernel
theorem dX7_init_59 : decode cX7_init 59 = .ok (.putfield 30, 3) := by decide +kernel
theorem dX7_init_62 : decode cX7_init 62 = .ok (.aload_n 0, 1) := by decide +kernel
theorem dX7_init_63 : decode cX7_init 63 = .ok (.aload_n 1, 1) := by decide +kernel
theorem dX7_init_64 : decode cX7_init 64 = .ok (.putfield 33, 3) := by decide +kernel
theorem dX7_init_67 : decode cX7_init 67 = .ok (.aload_n 0, 1) := by decide +kernel
theorem dX7_init_68 : decode cX7_init 68 = .ok (.aload_n 2, 1) := by decide +kernel
theorem dX7_init_69 : decode cX7_init 69 = .ok (.putfield 37, 3) := by decide +kernel
theorem dX7_init_72 : decode cX7_init 72 = .ok (.aload_n 0, 1) := by decide +kernel
theorem dX7_init_73 : decode cX7_init 73 = .ok (.aload_n 3, 1) := by decide +kernel
theorem dX7_init_74 : decode cX7_init 74 = .ok (.putfield 41, 3) := by decide +kernel
theorem dX7_init_77 : decode cX7_init 77 = .ok (.return_, 1) := by decide +kernel
theorem dX8_init_0 : decode cX8_init 0 = .ok (.aload_n 0, 1) := by decide +kernel
theorem dX8_init_1 : decode cX8_init 1 = .ok (.invokespecial 3, 3) := by decide +kernel
theorem dX8_init_4 : decode cX8_init 4 = .ok (.aload_n 0, 1) := by decide +kernel
theorem dX8_init_5 : decode cX8_init 5 = .ok (.new 9, 3) := by decide +kernel
theorem dX8_init_8 : decode cX8_init 8 = .ok (.dup, 1) := by decide +kernel
theorem dX8_init_9 : decode cX8_init 9 = .ok (.invokespecial 11, 3) := by decide +kernel
theorem dX8_init_12 : decode cX8_init 12 = .ok (.putfield 12, 3) := by decide +kernel
theorem dX8_init_15 : decode cX8_init 15 = .ok (.aload_n 0, 1) := by decide +kernel
theorem dX8_init_16 : decode cX8_init 16 = .ok (.new 18, 3) := by decide +kernel
theorem dX8_init_19 : decode cX8_init 19 = .ok (.dup, 1) := by decide +kernel
theorem dX8_init_20 : decode cX8_init 20 = .ok (.invokespecial 20, 3) := by decide +kernel
theorem dX8_init_23 : decode cX8_init 23 = .ok (.putfield 21, 3) := by decide +kernel
theorem dX8_init_26 : decode cX8_init 26 = .ok (.aload_n 0, 1) := by decide +kernel
theorem dX8_init_27 : decode cX8_init 27 = .ok (.new 25, 3) := by decide +kernel
theorem dX8_init_30 : decode cX8_init 30 = .ok (.dup, 1) := by decide +kernel
theorem dX8_init_31 : decode cX8_init 31 = .ok (.invokespecial 27, 3) := by decide +kernel
theorem dX8_init_34 : decode cX8_init 34 = .ok (.putfield 28, 3) := by decide +kernel
theorem dX8_init_37 : decode cX8_init 37 = .ok (.aload_n 0, 1) := by decide +kernel
theorem dX8_init_38 : decode cX8_init 38 = .ok (.new 32, 3) := by decide +kernel
theorem dX8_init_41 : decode cX8_init 41 = .ok (.dup, 1) := by decide +kernel
theorem dX8_init_42 : decode cX8_init 42 = .ok (.invokespecial 34, 3) := by decide +kernel
theorem dX8_init_45 : decode cX8_init 45 = .ok (.putfield 35, 3) := by decide +kernel
theorem dX8_init_48 : decode cX8_init 48 = .ok (.aload_n 0, 1) := by decide +kernel
theorem dX8_init_49 : decode cX8_init 49 = .ok (.new 39, 3) := by decide +kernel
theorem dX8_init_52 : decode cX8_init 52 = .ok (.dup, 1) := by decide +kernel
theorem dX8_init_53 : decode cX8_init 53 = .ok (.invokespecial 41, 3) := by decide +kernel
theorem dX8_init_56 : decode cX8_init 56 = .ok (.putfield 42, 3) := by decide +kernel
theorem dX8_init_59 : decode cX8_init 59 = .ok (.aload_n 0, 1) := by decide +kernel
theorem dX8_init_60 : decode cX8_init 60 = .ok (.new 46, 3) := by decide +kernel
theorem dX8_init_63 : decode cX8_init 63 = .ok (.dup, 1) := by decide +kernel
theorem dX8_init_64 : decode cX8_init 64 = .ok (.invokespecial 48, 3) := by decide +kernel
theorem dX8_init_67 : decode cX8_init 67 = .ok (.putfield 49, 3) := by decide +kernel
theorem dX8_init_70 : decode cX8_init 70 = .ok (.return_, 1) := by decide +kernel
theorem dX9_init_0 : decode cX9_init 0 = .ok (.aload_n 0, 1) := by decide +kernel
theorem dX9_init_1 : decode cX9_init 1 = .ok (.invokespecial 1, 3) := by decide +kernel
theorem dX9_init_4 : decode cX9_init 4 = .ok (.aload_n 0, 1) := by decide +kernel
theorem dX9_init_5 : decode cX9_init 5 = .ok (.iconst 0, 1) := by decide +kernel
theorem dX9_init_6 : decode cX9_init 6 = .ok (.putfield 7, 3) := by decide +kernel
theorem dX9_init_9 : decode cX9_init 9 = .ok (.aload_n 0, 1) := by decide +kernel
theorem dX9_init_10 : decode cX9_init 10 = .ok (.bipush 14, 2) := by decide +kernel
theorem dX9_init_12 : decode cX9_init 12 = .ok (.newarray .int, 2) := by decide +kernel
theorem dX9_init_14 : decode cX9_init 14 = .ok (.putfield 13, 3) := by decide +kernel
theorem dX9_init_17 : decode cX9_init 17 = .ok (.aload_n 0, 1) := by decide +kernel
theorem dX9_init_18 : decode cX9_init 18 = .ok (.bipush 14, 2) := by decide +kernel
theorem dX9_init_20 : decode cX9_init 20 = .ok (.newarray .int, 2) := by decide +kernel
theorem dX9_init_22 : decode cX9_init 22 = .ok (.putfield 17, 3) := by decide +kernel
theorem dX9_init_25 : decode cX9_init 25 = .ok (.aload_n 0, 1) := by decide +kernel
theorem dX9_init_26 : decode cX9_init 26 = .ok (.sipush 196, 3) := by decide +kernel
theorem dX9_init_29 : decode cX9_init 29 = .ok (.newarray .int, 2) := by decide +kernel
theorem dX9_init_31 : decode cX9_init 31 = .ok (.putfield 20, 3) := by decide +kernel
theorem dX9_init_34 : decode cX9_init 34 = .ok (.aload_n 0, 1) := by decide +kernel
theorem dX9_init_35 : decode cX9_init 35 = .ok (.iconst 0, 1) := by decide +kernel
theorem dX9_init_36 : decode cX9_init 36 = .ok (.putfield 23, 3) := by decide +kernel
theorem dX9_init_39 : decode cX9_init 39 = .ok (.aload_n 0, 1) := by decide +kernel
theorem dX9_init_40 : decode cX9_init 40 = .ok (.bipush 14, 2) := by decide +kernel
theorem dX9_init_42 : decode cX9_init 42 = .ok (.newarray .int, 2) := by decide +kernel
theorem dX9_init_44 : decode cX9_init 44 = .ok (.putfield 26, 3) := by decide +kernel
theorem dX9_init_47 : decode cX9_init 47 = .ok (.aload_n 0, 1) := by decide +kernel
theorem dX9_init_48 : decode cX9_init 48 = .ok (.iconst 0, 1) := by decide +kernel
theorem dX9_init_49 : decode cX9_init 49 = .ok (.putfield 29, 3) := by decide +kernel
theorem dX9_init_52 : decode cX9_init 52 = .ok (.aload_n 0, 1) := by decide +kernel
theorem dX9_init_53 : decode cX9_init 53 = .ok (.bipush 14, 2) := by decide +kernel
theorem dX9_init_55 : decode cX9_init 55 = .ok (.newarray .int, 2) := by decide +kernel
theorem dX9_init_57 : decode cX9_init 57 = .ok (.putfield 32, 3) := by decide +kernel
theorem dX9_init_60 : decode cX9_init 60 = .ok (.aload_n 0, 1) := by decide +kernel
theorem dX9_init_61 : decode cX9_init 61 = .ok (.bipush 14, 2) := by decide +kernel
theorem dX9_init_63 : decode cX9_init 63 = .ok (.newarray .int, 2) := by decide +kernel
theorem dX9_init_65 : decode cX9_init 65 = .ok (.putfield 35, 3) := by decide +kernel
theorem dX9_init_68 : decode cX9_init 68 = .ok (.aload_n 0, 1) := by decide +kernel
theorem dX9_init_69 : decode cX9_init 69 = .ok (.sipush 16384, 3) := by decide +kernel
theorem dX9_init_72 : decode cX9_init 72 = .ok (.newarray .int, 2) := by decide +kernel
theorem dX9_init_74 : decode cX9_init 74 = .ok (.putfield 38, 3) := by decide +kernel
theorem dX9_init_77 : decode cX9_init 77 = .ok (.aload_n 0, 1) := by decide +kernel
theorem dX9_init_78 : decode cX9_init 78 = .ok (.iconst 2, 1) := by decide +kernel
theorem dX9_init_79 : decode cX9_init 79 = .ok (.putfield 41, 3) := by decide +kernel
theorem dX9_init_82 : decode cX9_init 82 = .ok (.aload_n 0, 1) := by decide +kernel
theorem dX9_init_83 : decode cX9_init 83 = .ok (.iconst 4, 1) := by decide +kernel
theorem dX9_init_84 : decode cX9_init 84 = .ok (.newarray .int, 2) := by decide +kernel
theorem dX9_init_86 : decode cX9_init 86 = .ok (.putfield 44, 3) := by decide +kernel
theorem dX9_init_89 : decode cX9_init 89 = .ok (.aload_n 0, 1) := by decide +kernel
theorem dX9_init_90 : decode cX9_init 90 = .ok (.bipush 16, 2) := by decide +kernel
theorem dX9_init_92 : decode cX9_init 92 = .ok (.newarray .int, 2) := by decide +kernel
theorem dX9_init_94 : decode cX9_init 94 = .ok (.putfield 47, 3) := by decide +kernel
theorem dX9_init_97 : decode cX9_init 97 = .ok (.aload_n 0, 1) := by decide +kernel
theorem dX9_init_98 : decode cX9_init 98 = .ok (.bipush 14, 2) := by decide +kernel
theorem dX9_init_100 : decode cX9_init 100 = .ok (.newarray .int, 2) := by decide +kernel
theorem dX9_init_102 : decode cX9_init 102 = .ok (.putfield 50, 3) := by decide +kernel
theorem dX9_init_105 : decode cX9_init 105 = .ok (.aload_n 0, 1) := by decide +kernel
theorem dX9_init_106 : decode cX9_init 106 = .ok (.bipush 16, 2) := by decide +kernel
theorem dX9_init_108 : decode cX9_init 108 = .ok (.newarray .boolean, 2) := by decide +kernel
theorem dX9_init_110 : decode cX9_init 110 = .ok (.putfield 53, 3) := by decide +kernel
theorem dX9_init_113 : decode cX9_init 113 = .ok (.aload_n 0, 1) := by decide +kernel
theorem dX9_init_114 : decode cX9_init 114 = .ok (.bipush 14, 2) := by decide +kernel
theorem dX9_init_116 : decode cX9_init 116 = .ok (.newarray .int, 2) := by decide +kernel
theorem dX9_init_118 : decode cX9_init 118 = .ok (.putfield 57, 3) := by decide +kernel
theorem dX9_init_121 : decode cX9_init 121 = .ok (.aload_n 0, 1) := by decide +kernel
theorem dX9_init_122 : decode cX9_init 122 = .ok (.bipush 14, 2) := by decide +kernel
theorem dX9_init_124 : decode cX9_init 124 = .ok (.newarray .int, 2) := by decide +kernel
theorem dX9_init_126 : decode cX9_init 126 = .ok (.putfield 60, 3) := by decide +kernel
theorem dX9_init_129 : decode cX9_init 129 = .ok (.aload_n 0, 1) := by decide +kernel
theorem dX9_init_130 : decode cX9_init 130 = .ok (.sipush 14336, 3) := by decide +kernel
theorem dX9_init_133 : decode cX9_init 133 = .ok (.newarray .long, 2) := by decide +kernel
theorem dX9_init_135 : decode cX9_init 135 = .ok (.putfield 63, 3) := by decide +kernel
theorem dX9_init_138 : decode cX9_init 138 = .ok (.aload_n 0, 1) := by decide +kernel
theorem dX9_init_139 : decode cX9_init 139 = .ok (.sipush 14336, 3) := by decide +kernel
theorem dX9_init_142 : decode cX9_init 142 = .ok (.newarray .long, 2) := by decide +kernel
theorem dX9_init_144 : decode cX9_init 144 = .ok (.putfield 67, 3) := by decide +kernel
theorem dX9_init_147 : decode cX9_init 147 = .ok (.aload_n 0, 1) := by decide +kernel
theorem dX9_init_148 : decode cX9_init 148 = .ok (.sipush 14336, 3) := by decide +kernel
theorem dX9_init_151 : decode cX9_init 151 = .ok (.newarray .long, 2) := by decide +kernel
theorem dX9_init_153 : decode cX9_init 153 = .ok (.putfield 70, 3) := by decide +kernel
theorem dX9_init_156 : decode cX9_init 156 = .ok (.aload_n 0, 1) := by decide +kernel
theorem dX9_init_157 : decode cX9_init 157 = .ok (.lconst 0, 1) := by decide +kernel
theorem dX9_init_158 : decode cX9_init 158 = .ok (.putfield 73, 3) := by decide +kernel
theorem dX9_init_161 : decode cX9_init 161 = .ok (.aload_n 0, 1) := by decide +kernel
theorem dX9_init_162 : decode cX9_init 162 = .ok (.lconst 0, 1) := by decide +kernel
theorem dX9_init_163 : decode cX9_init 163 = .ok (.putfield 77, 3) := by decide +kernel
theorem dX9_init_166 : decode cX9_init 166 = .ok (.aload_n 0, 1) := by decide +kernel
theorem dX9_init_167 : decode cX9_init 167 = .ok (.lconst 0, 1) := by decide +kernel
theorem dX9_init_168 : decode cX9_init 168 = .ok (.putfield 80, 3) := by decide +kernel
theorem dX9_init_171 : decode cX9_init 171 = .ok (.return_, 1) := by decide +kernel
def iB_X0 (cA : Nat → ClassId) (q_t : Nat) : Option Value → va_W → Prop := fun res w => ∃ (q7 : Nat) (q15 : Nat), res = none ∧ w = [oB q_t 0 [.ref q7, .ref q15, .int 0], aI cA q7 14 (fun _ => 0), aI cA q15 14 (fun _ => 0)]
set_option maxRecDepth 100000 in
set_option maxHeartbeats 1000000 in
theorem c_X0_init (l : Launch) (cA : Nat → ClassId) (q_t : Nat) : MT l cA yX0_init cX0_init 1 none ({ frames := 1, cells := 2, slots := 28, locals := 20 } : Room) [.ref q_t] [oB q_t 0 [.null, .null, .int 0]] (iB_X0 cA q_t) := by
  refine MT.of (by decide) (Nat.le_of_ble_eq_true rfl) ?_
  intro X hXl C F hnm hrc hrs
  subst hXl
  have C : Cx X cX0_init RX0 none cA 1 20 1 := C
  show Go X 1 0 0 0 [oB q_t 0 [.null, .null, .int 0]] [(0, .ref q_t)] []
  refine g_aload_n C 0 0 dX0_init_0 rfl rfl ?_
  refine g_obj C 1 dX0_init_1 kw_530 kw_531 kw_532 (by decide) (Nat.le_of_ble_eq_true rfl) ?_
  refine g_aload_n C 4 0 dX0_init_4 rfl rfl ?_
  refine g_bipush C 5 (14 : Int32) dX0_init_5 (by decide) ?_
  refine g_newI C 7 14 1 14 (fun z => [oB q_t 0 [.null, .null, .int 0], aI cA z 14 (fun _ => 0)]) dX0_init_7 kw_533 (by decide) (by decide) (by decide) (by rw [hrc]; exact Nat.le_of_ble_eq_true rfl) (by rw [hrs]; exact Nat.le_of_ble_eq_true rfl) rfl rfl (fun _ => rfl) (fun q7 => ?_)
  refine g_putF C 9 0 0 (ws' := [oB q_t 0 [.ref q7, .null, .int 0], aI cA q7 14 (fun _ => 0)]) tyX0 dX0_init_9 inX0 tyX0_ok nmX0 rfl rfl (by decide) kw_1 rfl hnm rfl rfl rfl (Nat.le_of_ble_eq_true rfl) rfl ?_
  refine g_aload_n C 12 0 dX0_init_12 rfl rfl ?_
  refine g_bipush C 13 (14 : Int32) dX0_init_13 (by decide) ?_
  refine g_newI C 15 14 2 28 (fun z => [oB q_t 0 [.ref q7, .null, .int 0], aI cA q7 14 (fun _ => 0), aI cA z 14 (fun _ => 0)]) dX0_init_15 kw_533 (by decide) (by decide) (by decide) (by rw [hrc]; exact Nat.le_of_ble_eq_true rfl) (by rw [hrs]; exact Nat.le_of_ble_eq_true rfl) rfl rfl (fun _ => rfl) (fun q15 => ?_)
  refine g_putF C 17 0 1 (ws' := [oB q_t 0 [.ref q7, .ref q15, .int 0], aI cA q7 14 (fun _ => 0), aI cA q15 14 (fun _ => 0)]) tyX0 dX0_init_17 inX0 tyX0_ok nmX0 rfl rfl (by decide) kw_2 rfl hnm rfl rfl rfl (Nat.le_of_ble_eq_true rfl) rfl ?_
  exact g_vret C 20 dX0_init_20 F ⟨q7, q15, rfl, rfl⟩
def iB_X1 (cA : Nat → ClassId) (q_t : Nat) : Option Value → va_W → Prop := fun res w => ∃ (q7 : Nat), res = none ∧ w = [oB q_t 1 [.ref q7, .int 0, .int 0], aI cA q7 14 (fun _ => 0)]
set_option maxRecDepth 100000 in
set_option maxHeartbeats 1000000 in
theorem c_X1_init (l : Launch) (cA : Nat → ClassId) (q_t : Nat) : MT l cA yX1_init cX1_init 1 none ({ frames := 1, cells := 1, slots := 14, locals := 20 } : Room) [.ref q_t] [oB q_t 1 [.null, .int 0, .int 0]] (iB_X1 cA q_t) := by
  refine MT.of (by decide) (Nat.le_of_ble_eq_true rfl) ?_
  intro X hXl C F hnm hrc hrs
  subst hXl
  have C : Cx X cX1_init RX1 none cA 1 20 1 := C
  show Go X 1 0 0 0 [oB q_t 1 [.null, .int 0, .int 0]] [(0, .ref q_t)] []
  refine g_aload_n C 0 0 dX1_init_0 rfl rfl ?_
  refine g_obj C 1 dX1_init_1 kw_534 kw_531 kw_532 (by decide) (Nat.le_of_ble_eq_true rfl) ?_
  refine g_aload_n C 4 0 dX1_init_4 rfl rfl ?_
  refine g_bipush C 5 (14 : Int32) dX1_init_5 (by decide) ?_
  refine g_newI C 7 14 1 14 (fun z => [oB q_t 1 [.null, .int 0, .int 0], aI cA z 14 (fun _ => 0)]) dX1_init_7 kw_533 (by decide) (by decide) (by decide) (by rw [hrc]; exact Nat.le_of_ble_eq_true rfl) (by rw [hrs]; exact Nat.le_of_ble_eq_true rfl) rfl rfl (fun _ => rfl) (fun q7 => ?_)
  refine g_putF C 9 0 0 (ws' := [oB q_t 1 [.ref q7, .int 0, .int 0], aI cA q7 14 (fun _ => 0)]) tyX1 dX1_init_9 inX1 tyX1_ok nmX1 rfl rfl (by decide) kw_8 rfl hnm rfl rfl rfl (Nat.le_of_ble_eq_true rfl) rfl ?_
  exact g_vret C 12 dX1_init_12 F ⟨q7, rfl, rfl⟩
def iB_X2 (cA : Nat → ClassId) (q_t : Nat) : Option Value → va_W → Prop := fun res w => ∃ (q7 : Nat), res = none ∧ w = [oB q_t 2 [.ref q7, .int 0, .int 0], aI cA q7 14 (fun _ => 0)]
set_option maxRecDepth 100000 in
set_option maxHeartbeats 1000000 in
theorem c_X2_init (l : Launch) (cA : Nat → ClassId) (q_t : Nat) : MT l cA yX2_init cX2_init 1 none ({ frames := 1, cells := 1, slots := 14, locals := 20 } : Room) [.ref q_t] [oB q_t 2 [.null, .int 0, .int 0]] (iB_X2 cA q_t) := by
  refine MT.of (by decide) (Nat.le_of_ble_eq_true rfl) ?_
  intro X hXl C F hnm hrc hrs
  subst hXl
  have C : Cx X cX2_init RX2 none cA 1 20 1 := C
  show Go X 1 0 0 0 [oB q_t 2 [.null, .int 0, .int 0]] [(0, .ref q_t)] []
  refine g_aload_n C 0 0 dX2_init_0 rfl rfl ?_
  refine g_obj C 1 dX2_init_1 kw_535 kw_531 kw_532 (by decide) (Nat.le_of_ble_eq_true rfl) ?_
  refine g_aload_n C 4 0 dX2_init_4 rfl rfl ?_
  refine g_bipush C 5 (14 : Int32) dX2_init_5 (by decide) ?_
  refine g_newI C 7 14 1 14 (fun z => [oB q_t 2 [.null, .int 0, .int 0], aI cA z 14 (fun _ => 0)]) dX2_init_7 kw_533 (by decide) (by decide) (by decide) (by rw [hrc]; exact Nat.le_of_ble_eq_true rfl) (by rw [hrs]; exact Nat.le_of_ble_eq_true rfl) rfl rfl (fun _ => rfl) (fun q7 => ?_)
  refine g_putF C 9 0 0 (ws' := [oB q_t 2 [.ref q7, .int 0, .int 0], aI cA q7 14 (fun _ => 0)]) tyX2 dX2_init_9 inX2 tyX2_ok nmX2 rfl rfl (by decide) kw_4 rfl hnm rfl rfl rfl (Nat.le_of_ble_eq_true rfl) rfl ?_
  exact g_vret C 12 dX2_init_12 F ⟨q7, rfl, rfl⟩
def iB_X3 (cA : Nat → ClassId) (q_t : Nat) : Option Value → va_W → Prop := fun res w => ∃ (q11 : Nat) (q19 : Nat) (q27 : Nat) (q35 : Nat), res = none ∧ w = [oB q_t 3 [.int (2 : Int32), .ref q11, .ref q19, .ref q27, .ref q35], aI cA q11 4 (fun _ => 0), aI cA q19 16 (fun _ => 0), aZ cA q27 16 (fun _ => 0), aI cA q35 14 (fun _ => 0)]
set_option maxRecDepth 100000 in
set_option maxHeartbeats 1000000 in
theorem c_X3_init (l : Launch) (cA : Nat → ClassId) (q_t : Nat) : MT l cA yX3_init cX3_init 1 none ({ frames := 1, cells := 4, slots := 50, locals := 20 } : Room) [.ref q_t] [oB q_t 3 [.int 0, .null, .null, .null, .null]] (iB_X3 cA q_t) := by
  refine MT.of (by decide) (Nat.le_of_ble_eq_true rfl) ?_
  intro X hXl C F hnm hrc hrs
  subst hXl
  have C : Cx X cX3_init RX3 none cA 1 20 1 := C
  show Go X 1 0 0 0 [oB q_t 3 [.int 0, .null, .null, .null, .null]] [(0, .ref q_t)] []
  refine g_aload_n C 0 0 dX3_init_0 rfl rfl ?_
  refine g_obj C 1 dX3_init_1 kw_536 kw_531 kw_532 (by decide) (Nat.le_of_ble_eq_true rfl) ?_
  refine g_aload_n C 4 0 dX3_init_4 rfl rfl ?_
  refine g_iconst C 5 (2 : Int32) dX3_init_5 (by decide) ?_
  refine g_putV C 6 0 0 (ws' := [oB q_t 3 [.int (2 : Int32), .null, .null, .null, .null]]) tyX3 dX3_init_6 inX3 tyX3_ok nmX3 rfl rfl (by decide) kw_92 rfl rfl rfl (Nat.le_of_ble_eq_true rfl) rfl ?_
  refine g_aload_n C 9 0 dX3_init_9 rfl rfl ?_
  refine g_iconst C 10 (4 : Int32) dX3_init_10 (by decide) ?_
  refine g_newI C 11 4 1 4 (fun z => [oB q_t 3 [.int (2 : Int32), .null, .null, .null, .null], aI cA z 4 (fun _ => 0)]) dX3_init_11 kw_533 (by decide) (by decide) (by decide) (by rw [hrc]; exact Nat.le_of_ble_eq_true rfl) (by rw [hrs]; exact Nat.le_of_ble_eq_true rfl) rfl rfl (fun _ => rfl) (fun q11 => ?_)
  refine g_putF C 13 0 1 (ws' := [oB q_t 3 [.int (2 : Int32), .ref q11, .null, .null, .null], aI cA q11 4 (fun _ => 0)]) tyX3 dX3_init_13 inX3 tyX3_ok nmX3 rfl rfl (by decide) kw_93 rfl hnm rfl rfl rfl (Nat.le_of_ble_eq_true rfl) rfl ?_
  refine g_aload_n C 16 0 dX3_init_16 rfl rfl ?_
  refine g_bipush C 17 (16 : Int32) dX3_init_17 (by decide) ?_
  refine g_newI C 19 16 2 20 (fun z => [oB q_t 3 [.int (2 : Int32), .ref q11, .null, .null, .null], aI cA q11 4 (fun _ => 0), aI cA z 16 (fun _ => 0)]) dX3_init_19 kw_533 (by decide) (by decide) (by decide) (by rw [hrc]; exact Nat.le_of_ble_eq_true rfl) (by rw [hrs]; exact Nat.le_of_ble_eq_true rfl) rfl rfl (fun _ => rfl) (fun q19 => ?_)
  refine g_putF C 21 0 2 (ws' := [oB q_t 3 [.int (2 : Int32), .ref q11, .ref q19, .null, .null], aI cA q11 4 (fun _ => 0), aI cA q19 16 (fun _ => 0)]) tyX3 dX3_init_21 inX3 tyX3_ok nmX3 rfl rfl (by decide) kw_94 rfl hnm rfl rfl rfl (Nat.le_of_ble_eq_true rfl) rfl ?_
  refine g_aload_n C 24 0 dX3_init_24 rfl rfl ?_
  refine g_bipush C 25 (16 : Int32) dX3_init_25 (by decide) ?_
  refine g_newZ C 27 16 3 36 (fun z => [oB q_t 3 [.int (2 : Int32), .ref q11, .ref q19, .null, .null], aI cA q11 4 (fun _ => 0), aI cA q19 16 (fun _ => 0), aZ cA z 16 (fun _ => 0)]) dX3_init_27 kw_537 (by decide) (by decide) (by decide) (by rw [hrc]; exact Nat.le_of_ble_eq_true rfl) (by rw [hrs]; exact Nat.le_of_ble_eq_true rfl) rfl rfl (fun _ => rfl) (fun q27 => ?_)
  refine g_putF C 29 0 3 (ws' := [oB q_t 3 [.int (2 : Int32), .ref q11, .ref q19, .ref q27, .null], aI cA q11 4 (fun _ => 0), aI cA q19 16 (fun _ => 0), aZ cA q27 16 (fun _ => 0)]) tyX3 dX3_init_29 inX3 tyX3_ok nmX3 rfl rfl (by decide) kw_96 rfl hnm rfl rfl rfl (Nat.le_of_ble_eq_true rfl) rfl ?_
  refine g_aload_n C 32 0 dX3_init_32 rfl rfl ?_
  refine g_bipush C 33 (14 : Int32) dX3_init_33 (by decide) ?_
  refine g_newI C 35 14 4 50 (fun z => [oB q_t 3 [.int (2 : Int32), .ref q11, .ref q19, .ref q27, .null], aI cA q11 4 (fun _ => 0), aI cA q19 16 (fun _ => 0), aZ cA q27 16 (fun _ => 0), aI cA z 14 (fun _ => 0)]) dX3_init_35 kw_533 (by decide) (by decide) (by decide) (by rw [hrc]; exact Nat.le_of_ble_eq_true rfl) (by rw [hrs]; exact Nat.le_of_ble_eq_true rfl) rfl rfl (fun _ => rfl) (fun q35 => ?_)
  refine g_putF C 37 0 4 (ws' := [oB q_t 3 [.int (2 : Int32), .ref q11, .ref q19, .ref q27, .ref q35], aI cA q11 4 (fun _ => 0), aI cA q19 16 (fun _ => 0), aZ cA q27 16 (fun _ => 0), aI cA q35 14 (fun _ => 0)]) tyX3 dX3_init_37 inX3 tyX3_ok nmX3 rfl rfl (by decide) kw_95 rfl hnm rfl rfl rfl (Nat.le_of_ble_eq_true rfl) rfl ?_
  exact g_vret C 40 dX3_init_40 F ⟨q11, q19, q27, q35, rfl, rfl⟩
def iB_X4 (cA : Nat → ClassId) (q_t : Nat) : Option Value → va_W → Prop := fun res w => ∃ (q7 : Nat) (q15 : Nat) (q24 : Nat), res = none ∧ w = [oB q_t 4 [.ref q7, .ref q15, .ref q24, .int 0, .int 0], aI cA q7 14 (fun _ => 0), aI cA q15 14 (fun _ => 0), aI cA q24 196 (fun _ => 0)]
set_option maxRecDepth 100000 in
set_option maxHeartbeats 1000000 in
theorem c_X4_init (l : Launch) (cA : Nat → ClassId) (q_t : Nat) : MT l cA yX4_init cX4_init 1 none ({ frames := 1, cells := 3, slots := 224, locals := 20 } : Room) [.ref q_t] [oB q_t 4 [.null, .null, .null, .int 0, .int 0]] (iB_X4 cA q_t) := by
  refine MT.of (by decide) (Nat.le_of_ble_eq_true rfl) ?_
  intro X hXl C F hnm hrc hrs
  subst hXl
  have C : Cx X cX4_init RX4 none cA 1 20 1 := C
  show Go X 1 0 0 0 [oB q_t 4 [.null, .null, .null, .int 0, .int 0]] [(0, .ref q_t)] []
  refine g_aload_n C 0 0 dX4_init_0 rfl rfl ?_
  refine g_obj C 1 dX4_init_1 kw_538 kw_531 kw_532 (by decide) (Nat.le_of_ble_eq_true rfl) ?_
  refine g_aload_n C 4 0 dX4_init_4 rfl rfl ?_
  refine g_bipush C 5 (14 : Int32) dX4_init_5 (by decide) ?_
  refine g_newI C 7 14 1 14 (fun z => [oB q_t 4 [.null, .null, .null, .int 0, .int 0], aI cA z 14 (fun _ => 0)]) dX4_init_7 kw_533 (by decide) (by decide) (by decide) (by rw [hrc]; exact Nat.le_of_ble_eq_true rfl) (by rw [hrs]; exact Nat.le_of_ble_eq_true rfl) rfl rfl (fun _ => rfl) (fun q7 => ?_)
  refine g_putF C 9 0 0 (ws' := [oB q_t 4 [.ref q7, .null, .null, .int 0, .int 0], aI cA q7 14 (fun _ => 0)]) tyX4 dX4_init_9 inX4 tyX4_ok nmX4 rfl rfl (by decide) kw_97 rfl hnm rfl rfl rfl (Nat.le_of_ble_eq_true rfl) rfl ?_
  refine g_aload_n C 12 0 dX4_init_12 rfl rfl ?_
  refine g_bipush C 13 (14 : Int32) dX4_init_13 (by decide) ?_
  refine g_newI C 15 14 2 28 (fun z => [oB q_t 4 [.ref q7, .null, .null, .int 0, .int 0], aI cA q7 14 (fun _ => 0), aI cA z 14 (fun _ => 0)]) dX4_init_15 kw_533 (by decide) (by decide) (by decide) (by rw [hrc]; exact Nat.le_of_ble_eq_true rfl) (by rw [hrs]; exact Nat.le_of_ble_eq_true rfl) rfl rfl (fun _ => rfl) (fun q15 => ?_)
  refine g_putF C 17 0 1 (ws' := [oB q_t 4 [.ref q7, .ref q15, .null, .int 0, .int 0], aI cA q7 14 (fun _ => 0), aI cA q15 14 (fun _ => 0)]) tyX4 dX4_init_17 inX4 tyX4_ok nmX4 rfl rfl (by decide) kw_51 rfl hnm rfl rfl rfl (Nat.le_of_ble_eq_true rfl) rfl ?_
  refine g_aload_n C 20 0 dX4_init_20 rfl rfl ?_
  refine g_sipush C 21 (196 : Int32) dX4_init_21 (by decide) ?_
  refine g_newI C 24 196 3 224 (fun z => [oB q_t 4 [.ref q7, .ref q15, .null, .int 0, .int 0], aI cA q7 14 (fun _ => 0), aI cA q15 14 (fun _ => 0), aI cA z 196 (fun _ => 0)]) dX4_init_24 kw_533 (by decide) (by decide) (by decide) (by rw [hrc]; exact Nat.le_of_ble_eq_true rfl) (by rw [hrs]; exact Nat.le_of_ble_eq_true rfl) rfl rfl (fun _ => rfl) (fun q24 => ?_)
  refine g_putF C 26 0 2 (ws' := [oB q_t 4 [.ref q7, .ref q15, .ref q24, .int 0, .int 0], aI cA q7 14 (fun _ => 0), aI cA q15 14 (fun _ => 0), aI cA q24 196 (fun _ => 0)]) tyX4 dX4_init_26 inX4 tyX4_ok nmX4 rfl rfl (by decide) kw_98 rfl hnm rfl rfl rfl (Nat.le_of_ble_eq_true rfl) rfl ?_
  exact g_vret C 29 dX4_init_29 F ⟨q7, q15, q24, rfl, rfl⟩
def iB_X5 (cA : Nat → ClassId) (q_t : Nat) : Option Value → va_W → Prop := fun res w => ∃ (q7 : Nat) (q15 : Nat) (q23 : Nat) (q31 : Nat) (q39 : Nat) (q48 : Nat) (q56 : Nat) (q64 : Nat) (q72 : Nat) (q78 : Nat) (q78_q7 : Nat), res = none ∧ w = [oB q_t 5 [.ref q7, .ref q15, .ref q23, .ref q31, .ref q39, .ref q48, .ref q56, .int 0, .ref q64, .ref q72, .ref q78], aI cA q7 14 (fun _ => 0), aI cA q15 56 (fun _ => 0), aI cA q23 14 (fun _ => 0), aI cA q31 14 (fun _ => 0), aI cA q39 14 (fun _ => 0), aI cA q48 196 (fun _ => 0), aI cA q56 14 (fun _ => 0), aI cA q64 14 (fun _ => 0), aI cA q72 14 (fun _ => 0), oB q78 1 [.ref q78_q7, .int 0, .int 0], aI cA q78_q7 14 (fun _ => 0)]
set_option maxRecDepth 100000 in
set_option maxHeartbeats 1000000 in
theorem c_X5_init (l : Launch) (cA : Nat → ClassId) (q_t : Nat) : MT l cA yX5_init cX5_init 1 none ({ frames := 2, cells := 11, slots := 367, locals := 40 } : Room) [.ref q_t] [oB q_t 5 [.null, .null, .null, .null, .null, .null, .null, .int 0, .null, .null, .null]] (iB_X5 cA q_t) := by
  refine MT.of (by decide) (Nat.le_of_ble_eq_true rfl) ?_
  intro X hXl C F hnm hrc hrs
  subst hXl
  have C : Cx X cX5_init RX5 none cA 2 40 1 := C
  show Go X 1 0 0 0 [oB q_t 5 [.null, .null, .null, .null, .null, .null, .null, .int 0, .null, .null, .null]] [(0, .ref q_t)] []
  refine g_aload_n C 0 0 dX5_init_0 rfl rfl ?_
  refine g_obj C 1 dX5_init_1 kw_539 kw_531 kw_532 (by decide) (Nat.le_of_ble_eq_true rfl) ?_
  refine g_aload_n C 4 0 dX5_init_4 rfl rfl ?_
  refine g_bipush C 5 (14 : Int32) dX5_init_5 (by decide) ?_
  refine g_newI C 7 14 1 14 (fun z => [oB q_t 5 [.null, .null, .null, .null, .null, .null, .null, .int 0, .null, .null, .null], aI cA z 14 (fun _ => 0)]) dX5_init_7 kw_533 (by decide) (by decide) (by decide) (by rw [hrc]; exact Nat.le_of_ble_eq_true rfl) (by rw [hrs]; exact Nat.le_of_ble_eq_true rfl) rfl rfl (fun _ => rfl) (fun q7 => ?_)
  refine g_putF C 9 0 0 (ws' := [oB q_t 5 [.ref q7, .null, .null, .null, .null, .null, .null, .int 0, .null, .null, .null], aI cA q7 14 (fun _ => 0)]) tyX5 dX5_init_9 inX5 tyX5_ok nmX5 rfl rfl (by decide) kw_109 rfl hnm rfl rfl rfl (Nat.le_of_ble_eq_true rfl) rfl ?_
  refine g_aload_n C 12 0 dX5_init_12 rfl rfl ?_
  refine g_bipush C 13 (56 : Int32) dX5_init_13 (by decide) ?_
  refine g_newI C 15 56 2 70 (fun z => [oB q_t 5 [.ref q7, .null, .null, .null, .null, .null, .null, .int 0, .null, .null, .null], aI cA q7 14 (fun _ => 0), aI cA z 56 (fun _ => 0)]) dX5_init_15 kw_533 (by decide) (by decide) (by decide) (by rw [hrc]; exact Nat.le_of_ble_eq_true rfl) (by rw [hrs]; exact Nat.le_of_ble_eq_true rfl) rfl rfl (fun _ => rfl) (fun q15 => ?_)
  refine g_putF C 17 0 1 (ws' := [oB q_t 5 [.ref q7, .ref q15, .null, .null, .null, .null, .null, .int 0, .null, .null, .null], aI cA q7 14 (fun _ => 0), aI cA q15 56 (fun _ => 0)]) tyX5 dX5_init_17 inX5 tyX5_ok nmX5 rfl rfl (by decide) kw_118 rfl hnm rfl rfl rfl (Nat.le_of_ble_eq_true rfl) rfl ?_
  refine g_aload_n C 20 0 dX5_init_20 rfl rfl ?_
  refine g_bipush C 21 (14 : Int32) dX5_init_21 (by decide) ?_
  refine g_newI C 23 14 3 84 (fun z => [oB q_t 5 [.ref q7, .ref q15, .null, .null, .null, .null, .null, .int 0, .null, .null, .null], aI cA q7 14 (fun _ => 0), aI cA q15 56 (fun _ => 0), aI cA z 14 (fun _ => 0)]) dX5_init_23 kw_533 (by decide) (by decide) (by decide) (by rw [hrc]; exact Nat.le_of_ble_eq_true rfl) (by rw [hrs]; exact Nat.le_of_ble_eq_true rfl) rfl rfl (fun _ => rfl) (fun q23 => ?_)
  refine g_putF C 25 0 2 (ws' := [oB q_t 5 [.ref q7, .ref q15, .ref q23, .null, .null, .null, .null, .int 0, .null, .null, .null], aI cA q7 14 (fun _ => 0), aI cA q15 56 (fun _ => 0), aI cA q23 14 (fun _ => 0)]) tyX5 dX5_init_25 inX5 tyX5_ok nmX5 rfl rfl (by decide) kw_112 rfl hnm rfl rfl rfl (Nat.le_of_ble_eq_true rfl) rfl ?_
  refine g_aload_n C 28 0 dX5_init_28 rfl rfl ?_
  refine g_bipush C 29 (14 : Int32) dX5_init_29 (by decide) ?_
  refine g_newI C 31 14 4 98 (fun z => [oB q_t 5 [.ref q7, .ref q15, .ref q23, .null, .null, .null, .null, .int 0, .null, .null, .null], aI cA q7 14 (fun _ => 0), aI cA q15 56 (fun _ => 0), aI cA q23 14 (fun _ => 0), aI cA z 14 (fun _ => 0)]) dX5_init_31 kw_533 (by decide) (by decide) (by decide) (by rw [hrc]; exact Nat.le_of_ble_eq_true rfl) (by rw [hrs]; exact Nat.le_of_ble_eq_true rfl) rfl rfl (fun _ => rfl) (fun q31 => ?_)
  refine g_putF C 33 0 3 (ws' := [oB q_t 5 [.ref q7, .ref q15, .ref q23, .ref q31, .null, .null, .null, .int 0, .null, .null, .null], aI cA q7 14 (fun _ => 0), aI cA q15 56 (fun _ => 0), aI cA q23 14 (fun _ => 0), aI cA q31 14 (fun _ => 0)]) tyX5 dX5_init_33 inX5 tyX5_ok nmX5 rfl rfl (by decide) kw_113 rfl hnm rfl rfl rfl (Nat.le_of_ble_eq_true rfl) rfl ?_
  refine g_aload_n C 36 0 dX5_init_36 rfl rfl ?_
  refine g_bipush C 37 (14 : Int32) dX5_init_37 (by decide) ?_
  refine g_newI C 39 14 5 112 (fun z => [oB q_t 5 [.ref q7, .ref q15, .ref q23, .ref q31, .null, .null, .null, .int 0, .null, .null, .null], aI cA q7 14 (fun _ => 0), aI cA q15 56 (fun _ => 0), aI cA q23 14 (fun _ => 0), aI cA q31 14 (fun _ => 0), aI cA z 14 (fun _ => 0)]) dX5_init_39 kw_533 (by decide) (by decide) (by decide) (by rw [hrc]; exact Nat.le_of_ble_eq_true rfl) (by rw [hrs]; exact Nat.le_of_ble_eq_true rfl) rfl rfl (fun _ => rfl) (fun q39 => ?_)
  refine g_putF C 41 0 4 (ws' := [oB q_t 5 [.ref q7, .ref q15, .ref q23, .ref q31, .ref q39, .null, .null, .int 0, .null, .null, .null], aI cA q7 14 (fun _ => 0), aI cA q15 56 (fun _ => 0), aI cA q23 14 (fun _ => 0), aI cA q31 14 (fun _ => 0), aI cA q39 14 (fun _ => 0)]) tyX5 dX5_init_41 inX5 tyX5_ok nmX5 rfl rfl (by decide) kw_114 rfl hnm rfl rfl rfl (Nat.le_of_ble_eq_true rfl) rfl ?_
  refine g_aload_n C 44 0 dX5_init_44 rfl rfl ?_
  refine g_sipush C 45 (196 : Int32) dX5_init_45 (by decide) ?_
  refine g_newI C 48 196 6 308 (fun z => [oB q_t 5 [.ref q7, .ref q15, .ref q23, .ref q31, .ref q39, .null, .null, .int 0, .null, .null, .null], aI cA q7 14 (fun _ => 0), aI cA q15 56 (fun _ => 0), aI cA q23 14 (fun _ => 0), aI cA q31 14 (fun _ => 0), aI cA q39 14 (fun _ => 0), aI cA z 196 (fun _ => 0)]) dX5_init_48 kw_533 (by decide) (by decide) (by decide) (by rw [hrc]; exact Nat.le_of_ble_eq_true rfl) (by rw [hrs]; exact Nat.le_of_ble_eq_true rfl) rfl rfl (fun _ => rfl) (fun q48 => ?_)
  refine g_putF C 50 0 5 (ws' := [oB q_t 5 [.ref q7, .ref q15, .ref q23, .ref q31, .ref q39, .ref q48, .null, .int 0, .null, .null, .null], aI cA q7 14 (fun _ => 0), aI cA q15 56 (fun _ => 0), aI cA q23 14 (fun _ => 0), aI cA q31 14 (fun _ => 0), aI cA q39 14 (fun _ => 0), aI cA q48 196 (fun _ => 0)]) tyX5 dX5_init_50 inX5 tyX5_ok nmX5 rfl rfl (by decide) kw_116 rfl hnm rfl rfl rfl (Nat.le_of_ble_eq_true rfl) rfl ?_
  refine g_aload_n C 53 0 dX5_init_53 rfl rfl ?_
  refine g_bipush C 54 (14 : Int32) dX5_init_54 (by decide) ?_
  refine g_newI C 56 14 7 322 (fun z => [oB q_t 5 [.ref q7, .ref q15, .ref q23, .ref q31, .ref q39, .ref q48, .null, .int 0, .null, .null, .null], aI cA q7 14 (fun _ => 0), aI cA q15 56 (fun _ => 0), aI cA q23 14 (fun _ => 0), aI cA q31 14 (fun _ => 0), aI cA q39 14 (fun _ => 0), aI cA q48 196 (fun _ => 0), aI cA z 14 (fun _ => 0)]) dX5_init_56 kw_533 (by decide) (by decide) (by decide) (by rw [hrc]; exact Nat.le_of_ble_eq_true rfl) (by rw [hrs]; exact Nat.le_of_ble_eq_true rfl) rfl rfl (fun _ => rfl) (fun q56 => ?_)
  refine g_putF C 58 0 6 (ws' := [oB q_t 5 [.ref q7, .ref q15, .ref q23, .ref q31, .ref q39, .ref q48, .ref q56, .int 0, .null, .null, .null], aI cA q7 14 (fun _ => 0), aI cA q15 56 (fun _ => 0), aI cA q23 14 (fun _ => 0), aI cA q31 14 (fun _ => 0), aI cA q39 14 (fun _ => 0), aI cA q48 196 (fun _ => 0), aI cA q56 14 (fun _ => 0)]) tyX5 dX5_init_58 inX5 tyX5_ok nmX5 rfl rfl (by decide) kw_117 rfl hnm rfl rfl rfl (Nat.le_of_ble_eq_true rfl) rfl ?_
  refine g_aload_n C 61 0 dX5_init_61 rfl rfl ?_
  refine g_bipush C 62 (14 : Int32) dX5_init_62 (by decide) ?_
  refine g_newI C 64 14 8 336 (fun z => [oB q_t 5 [.ref q7, .ref q15, .ref q23, .ref q31, .ref q39, .ref q48, .ref q56, .int 0, .null, .null, .null], aI cA q7 14 (fun _ => 0), aI cA q15 56 (fun _ => 0), aI cA q23 14 (fun _ => 0), aI cA q31 14 (fun _ => 0), aI cA q39 14 (fun _ => 0), aI cA q48 196 (fun _ => 0), aI cA q56 14 (fun _ => 0), aI cA z 14 (fun _ => 0)]) dX5_init_64 kw_533 (by decide) (by decide) (by decide) (by rw [hrc]; exact Nat.le_of_ble_eq_true rfl) (by rw [hrs]; exact Nat.le_of_ble_eq_true rfl) rfl rfl (fun _ => rfl) (fun q64 => ?_)
  refine g_putF C 66 0 8 (ws' := [oB q_t 5 [.ref q7, .ref q15, .ref q23, .ref q31, .ref q39, .ref q48, .ref q56, .int 0, .ref q64, .null, .null], aI cA q7 14 (fun _ => 0), aI cA q15 56 (fun _ => 0), aI cA q23 14 (fun _ => 0), aI cA q31 14 (fun _ => 0), aI cA q39 14 (fun _ => 0), aI cA q48 196 (fun _ => 0), aI cA q56 14 (fun _ => 0), aI cA q64 14 (fun _ => 0)]) tyX5 dX5_init_66 inX5 tyX5_ok nmX5 rfl rfl (by decide) kw_119 rfl hnm rfl rfl rfl (Nat.le_of_ble_eq_true rfl) rfl ?_
  refine g_aload_n C 69 0 dX5_init_69 rfl rfl ?_
  refine g_bipush C 70 (14 : Int32) dX5_init_70 (by decide) ?_
  refine g_newI C 72 14 9 350 (fun z => [oB q_t 5 [.ref q7, .ref q15, .ref q23, .ref q31, .ref q39, .ref q48, .ref q56, .int 0, .ref q64, .null, .null], aI cA q7 14 (fun _ => 0), aI cA q15 56 (fun _ => 0), aI cA q23 14 (fun _ => 0), aI cA q31 14 (fun _ => 0), aI cA q39 14 (fun _ => 0), aI cA q48 196 (fun _ => 0), aI cA q56 14 (fun _ => 0), aI cA q64 14 (fun _ => 0), aI cA z 14 (fun _ => 0)]) dX5_init_72 kw_533 (by decide) (by decide) (by decide) (by rw [hrc]; exact Nat.le_of_ble_eq_true rfl) (by rw [hrs]; exact Nat.le_of_ble_eq_true rfl) rfl rfl (fun _ => rfl) (fun q72 => ?_)
  refine g_putF C 74 0 9 (ws' := [oB q_t 5 [.ref q7, .ref q15, .ref q23, .ref q31, .ref q39, .ref q48, .ref q56, .int 0, .ref q64, .ref q72, .null], aI cA q7 14 (fun _ => 0), aI cA q15 56 (fun _ => 0), aI cA q23 14 (fun _ => 0), aI cA q31 14 (fun _ => 0), aI cA q39 14 (fun _ => 0), aI cA q48 196 (fun _ => 0), aI cA q56 14 (fun _ => 0), aI cA q64 14 (fun _ => 0), aI cA q72 14 (fun _ => 0)]) tyX5 dX5_init_74 inX5 tyX5_ok nmX5 rfl rfl (by decide) kw_107 rfl hnm rfl rfl rfl (Nat.le_of_ble_eq_true rfl) rfl ?_
  refine g_aload_n C 77 0 dX5_init_77 rfl rfl ?_
  refine g_new C 78 tyX1 [.null, .int 0, .int 0] 10 353 (fun z => [oB q_t 5 [.ref q7, .ref q15, .ref q23, .ref q31, .ref q39, .ref q48, .ref q56, .int 0, .ref q64, .ref q72, .null], aI cA q7 14 (fun _ => 0), aI cA q15 56 (fun _ => 0), aI cA q23 14 (fun _ => 0), aI cA q31 14 (fun _ => 0), aI cA q39 14 (fun _ => 0), aI cA q48 196 (fun _ => 0), aI cA q56 14 (fun _ => 0), aI cA q64 14 (fun _ => 0), aI cA q72 14 (fun _ => 0), oB z 1 [.null, .int 0, .int 0]]) dX5_init_78 inX1 tyX1_ok kw_540 kw_541 kw_16 rfl (by decide) (by rw [hrc]; exact Nat.le_of_ble_eq_true rfl) (by rw [hrs]; exact Nat.le_of_ble_eq_true rfl) rfl rfl (fun _ => rfl) (fun q78 => ?_)
  refine g_dup C 81 dX5_init_81 rfl ?_
  refine g_callIN C 82 [10] (rest := [.ref q78, .ref q_t]) 11 367 dX5_init_82 (c_X1_init (x_l X) cA q78) (List.mem_of_getElem? (i := 6) rfl) kw_542 kw_16 kw_543 rfl ok_X1_init ⟨Nat.le_of_ble_eq_true rfl, Nat.le_of_ble_eq_true rfl⟩ (by rw [hrc]; exact Nat.le_of_ble_eq_true rfl) (by rw [hrs]; exact Nat.le_of_ble_eq_true rfl) rfl rfl rfl rfl rfl (Nat.le_of_ble_eq_true rfl) ?_
  intro res w1 hB; obtain ⟨q78_q7, rfl, rfl⟩ := hB
  refine ⟨Nat.le_of_ble_eq_true rfl, ?_⟩
  show Go X 1 11 367 85 [oB q_t 5 [.ref q7, .ref q15, .ref q23, .ref q31, .ref q39, .ref q48, .ref q56, .int 0, .ref q64, .ref q72, .null], aI cA q7 14 (fun _ => 0), aI cA q15 56 (fun _ => 0), aI cA q23 14 (fun _ => 0), aI cA q31 14 (fun _ => 0), aI cA q39 14 (fun _ => 0), aI cA q48 196 (fun _ => 0), aI cA q56 14 (fun _ => 0), aI cA q64 14 (fun _ => 0), aI cA q72 14 (fun _ => 0), oB q78 1 [.ref q78_q7, .int 0, .int 0], aI cA q78_q7 14 (fun _ => 0)] [(0, .ref q_t)] [.ref q78, .ref q_t]
  refine g_putF C 85 0 10 (ws' := [oB q_t 5 [.ref q7, .ref q15, .ref q23, .ref q31, .ref q39, .ref q48, .ref q56, .int 0, .ref q64, .ref q72, .ref q78], aI cA q7 14 (fun _ => 0), aI cA q15 56 (fun _ => 0), aI cA q23 14 (fun _ => 0), aI cA q31 14 (fun _ => 0), aI cA q39 14 (fun _ => 0), aI cA q48 196 (fun _ => 0), aI cA q56 14 (fun _ => 0), aI cA q64 14 (fun _ => 0), aI cA q72 14 (fun _ => 0), oB q78 1 [.ref q78_q7, .int 0, .int 0], aI cA q78_q7 14 (fun _ => 0)]) tyX5 dX5_init_85 inX5 tyX5_ok nmX5 rfl rfl (by decide) kw_110 rfl hnm rfl rfl rfl (Nat.le_of_ble_eq_true rfl) rfl ?_
  exact g_vret C 88 dX5_init_88 F ⟨q7, q15, q23, q31, q39, q48, q56, q64, q72, q78, q78_q7, rfl, rfl⟩
def iB_X7 (cA : Nat → ClassId) (q_t : Nat) (q_u : Nat) (q_v : Nat) (q_w : Nat) : Option Value → va_W → Prop := fun res w => ∃ (q7 : Nat) (q15 : Nat) (q23 : Nat) (q31 : Nat) (q39 : Nat) (q48 : Nat) (q57 : Nat), res = none ∧ w = [oB q_t 7 [.ref q7, .int 0, .int 0, .ref q_u, .ref q_v, .ref q_w, .ref q15, .ref q23, .ref q31, .ref q39, .ref q48, .ref q57, .int 0, .int 0, .int 0, .int 0, .long 0], aI cA q7 14 (fun _ => 0), aI cA q15 56 (fun _ => 0), aI cA q23 14 (fun _ => 0), aI cA q31 14 (fun _ => 0), aI cA q39 56 (fun _ => 0), aI cA q48 3584 (fun _ => 0), aI cA q57 3584 (fun _ => 0)]
set_option maxRecDepth 100000 in
set_option maxHeartbeats 1000000 in
theorem c_X7_init (l : Launch) (cA : Nat → ClassId) (q_t : Nat) (q_u : Nat) (q_v : Nat) (q_w : Nat) : MT l cA yX7_init cX7_init 4 none ({ frames := 1, cells := 7, slots := 7322, locals := 20 } : Room) [.ref q_t, .ref q_u, .ref q_v, .ref q_w] [oB q_t 7 [.null, .int 0, .int 0, .null, .null, .null, .null, .null, .null, .null, .null, .null, .int 0, .int 0, .int 0, .int 0, .long 0]] (iB_X7 cA q_t q_u q_v q_w) := by
  refine MT.of (by decide) (Nat.le_of_ble_eq_true rfl) ?_
  intro X hXl C F hnm hrc hrs
  subst hXl
  have C : Cx X cX7_init RX7 none cA 1 20 4 := C
  show Go X 4 0 0 0 [oB q_t 7 [.null, .int 0, .int 0, .null, .null, .null, .null, .null, .null, .null, .null, .null, .int 0, .int 0, .int 0, .int 0, .long 0]] [(0, .ref q_t), (1, .ref q_u), (2, .ref q_v), (3, .ref q_w)] []
  refine g_aload_n C 0 0 dX7_init_0 rfl rfl ?_
  refine g_obj C 1 dX7_init_1 kw_544 kw_531 kw_532 (by decide) (Nat.le_of_ble_eq_true rfl) ?_
  refine g_aload_n C 4 0 dX7_init_4 rfl rfl ?_
  refine g_bipush C 5 (14 : Int32) dX7_init_5 (by decide) ?_
  refine g_newI C 7 14 1 14 (fun z => [oB q_t 7 [.null, .int 0, .int 0, .null, .null, .null, .null, .null, .null, .null, .null, .null, .int 0, .int 0, .int 0, .int 0, .long 0], aI cA z 14 (fun _ => 0)]) dX7_init_7 kw_533 (by decide) (by decide) (by decide) (by rw [hrc]; exact Nat.le_of_ble_eq_true rfl) (by rw [hrs]; exact Nat.le_of_ble_eq_true rfl) rfl rfl (fun _ => rfl) (fun q7 => ?_)
  refine g_putF C 9 0 0 (ws' := [oB q_t 7 [.ref q7, .int 0, .int 0, .null, .null, .null, .null, .null, .null, .null, .null, .null, .int 0, .int 0, .int 0, .int 0, .long 0], aI cA q7 14 (fun _ => 0)]) tyX7 dX7_init_9 inX7 tyX7_ok nmX7 rfl rfl (by decide) kw_144 rfl hnm rfl rfl rfl (Nat.le_of_ble_eq_true rfl) rfl ?_
  refine g_aload_n C 12 0 dX7_init_12 rfl rfl ?_
  refine g_bipush C 13 (56 : Int32) dX7_init_13 (by decide) ?_
  refine g_newI C 15 56 2 70 (fun z => [oB q_t 7 [.ref q7, .int 0, .int 0, .null, .null, .null, .null, .null, .null, .null, .null, .null, .int 0, .int 0, .int 0, .int 0, .long 0], aI cA q7 14 (fun _ => 0), aI cA z 56 (fun _ => 0)]) dX7_init_15 kw_533 (by decide) (by decide) (by decide) (by rw [hrc]; exact Nat.le_of_ble_eq_true rfl) (by rw [hrs]; exact Nat.le_of_ble_eq_true rfl) rfl rfl (fun _ => rfl) (fun q15 => ?_)
  refine g_putF C 17 0 6 (ws' := [oB q_t 7 [.ref q7, .int 0, .int 0, .null, .null, .null, .ref q15, .null, .null, .null, .null, .null, .int 0, .int 0, .int 0, .int 0, .long 0], aI cA q7 14 (fun _ => 0), aI cA q15 56 (fun _ => 0)]) tyX7 dX7_init_17 inX7 tyX7_ok nmX7 rfl rfl (by decide) kw_153 rfl hnm rfl rfl rfl (Nat.le_of_ble_eq_true rfl) rfl ?_
  refine g_aload_n C 20 0 dX7_init_20 rfl rfl ?_
  refine g_bipush C 21 (14 : Int32) dX7_init_21 (by decide) ?_
  refine g_newI C 23 14 3 84 (fun z => [oB q_t 7 [.ref q7, .int 0, .int 0, .null, .null, .null, .ref q15, .null, .null, .null, .null, .null, .int 0, .int 0, .int 0, .int 0, .long 0], aI cA q7 14 (fun _ => 0), aI cA q15 56 (fun _ => 0), aI cA z 14 (fun _ => 0)]) dX7_init_23 kw_533 (by decide) (by decide) (by decide) (by rw [hrc]; exact Nat.le_of_ble_eq_true rfl) (by rw [hrs]; exact Nat.le_of_ble_eq_true rfl) rfl rfl (fun _ => rfl) (fun q23 => ?_)
  refine g_putF C 25 0 7 (ws' := [oB q_t 7 [.ref q7, .int 0, .int 0, .null, .null, .null, .ref q15, .ref q23, .null, .null, .null, .null, .int 0, .int 0, .int 0, .int 0, .long 0], aI cA q7 14 (fun _ => 0), aI cA q15 56 (fun _ => 0), aI cA q23 14 (fun _ => 0)]) tyX7 dX7_init_25 inX7 tyX7_ok nmX7 rfl rfl (by decide) kw_152 rfl hnm rfl rfl rfl (Nat.le_of_ble_eq_true rfl) rfl ?_
  refine g_aload_n C 28 0 dX7_init_28 rfl rfl ?_
  refine g_bipush C 29 (14 : Int32) dX7_init_29 (by decide) ?_
  refine g_newI C 31 14 4 98 (fun z => [oB q_t 7 [.ref q7, .int 0, .int 0, .null, .null, .null, .ref q15, .ref q23, .null, .null, .null, .null, .int 0, .int 0, .int 0, .int 0, .long 0], aI cA q7 14 (fun _ => 0), aI cA q15 56 (fun _ => 0), aI cA q23 14 (fun _ => 0), aI cA z 14 (fun _ => 0)]) dX7_init_31 kw_533 (by decide) (by decide) (by decide) (by rw [hrc]; exact Nat.le_of_ble_eq_true rfl) (by rw [hrs]; exact Nat.le_of_ble_eq_true rfl) rfl rfl (fun _ => rfl) (fun q31 => ?_)
  refine g_putF C 33 0 8 (ws' := [oB q_t 7 [.ref q7, .int 0, .int 0, .null, .null, .null, .ref q15, .ref q23, .ref q31, .null, .null, .null, .int 0, .int 0, .int 0, .int 0, .long 0], aI cA q7 14 (fun _ => 0), aI cA q15 56 (fun _ => 0), aI cA q23 14 (fun _ => 0), aI cA q31 14 (fun _ => 0)]) tyX7 dX7_init_33 inX7 tyX7_ok nmX7 rfl rfl (by decide) kw_154 rfl hnm rfl rfl rfl (Nat.le_of_ble_eq_true rfl) rfl ?_
  refine g_aload_n C 36 0 dX7_init_36 rfl rfl ?_
  refine g_bipush C 37 (56 : Int32) dX7_init_37 (by decide) ?_
  refine g_newI C 39 56 5 154 (fun z => [oB q_t 7 [.ref q7, .int 0, .int 0, .null, .null, .null, .ref q15, .ref q23, .ref q31, .null, .null, .null, .int 0, .int 0, .int 0, .int 0, .long 0], aI cA q7 14 (fun _ => 0), aI cA q15 56 (fun _ => 0), aI cA q23 14 (fun _ => 0), aI cA q31 14 (fun _ => 0), aI cA z 56 (fun _ => 0)]) dX7_init_39 kw_533 (by decide) (by decide) (by decide) (by rw [hrc]; exact Nat.le_of_ble_eq_true rfl) (by rw [hrs]; exact Nat.le_of_ble_eq_true rfl) rfl rfl (fun _ => rfl) (fun q39 => ?_)
  refine g_putF C 41 0 9 (ws' := [oB q_t 7 [.ref q7, .int 0, .int 0, .null, .null, .null, .ref q15, .ref q23, .ref q31, .ref q39, .null, .null, .int 0, .int 0, .int 0, .int 0, .long 0], aI cA q7 14 (fun _ => 0), aI cA q15 56 (fun _ => 0), aI cA q23 14 (fun _ => 0), aI cA q31 14 (fun _ => 0), aI cA q39 56 (fun _ => 0)]) tyX7 dX7_init_41 inX7 tyX7_ok nmX7 rfl rfl (by decide) kw_171 rfl hnm rfl rfl rfl (Nat.le_of_ble_eq_true rfl) rfl ?_
  refine g_aload_n C 44 0 dX7_init_44 rfl rfl ?_
  refine g_sipush C 45 (3584 : Int32) dX7_init_45 (by decide) ?_
  refine g_newI C 48 3584 6 3738 (fun z => [oB q_t 7 [.ref q7, .int 0, .int 0, .null, .null, .null, .ref q15, .ref q23, .ref q31, .ref q39, .null, .null, .int 0, .int 0, .int 0, .int 0, .long 0], aI cA q7 14 (fun _ => 0), aI cA q15 56 (fun _ => 0), aI cA q23 14 (fun _ => 0), aI cA q31 14 (fun _ => 0), aI cA q39 56 (fun _ => 0), aI cA z 3584 (fun _ => 0)]) dX7_init_48 kw_533 (by decide) (by decide) (by decide) (by rw [hrc]; exact Nat.le_of_ble_eq_true rfl) (by rw [hrs]; exact Nat.le_of_ble_eq_true rfl) rfl rfl (fun _ => rfl) (fun q48 => ?_)
  refine g_putF C 50 0 10 (ws' := [oB q_t 7 [.ref q7, .int 0, .int 0, .null, .null, .null, .ref q15, .ref q23, .ref q31, .ref q39, .ref q48, .null, .int 0, .int 0, .int 0, .int 0, .long 0], aI cA q7 14 (fun _ => 0), aI cA q15 56 (fun _ => 0), aI cA q23 14 (fun _ => 0), aI cA q31 14 (fun _ => 0), aI cA q39 56 (fun _ => 0), aI cA q48 3584 (fun _ => 0)]) tyX7 dX7_init_50 inX7 tyX7_ok nmX7 rfl rfl (by decide) kw_179 rfl hnm rfl rfl rfl (Nat.le_of_ble_eq_true rfl) rfl ?_
  refine g_aload_n C 53 0 dX7_init_53 rfl rfl ?_
  refine g_sipush C 54 (3584 : Int32) dX7_init_54 (by decide) ?_
  refine g_newI C 57 3584 7 7322 (fun z => [oB q_t 7 [.ref q7, .int 0, .int 0, .null, .null, .null, .ref q15, .ref q23, .ref q31, .ref q39, .ref q48, .null, .int 0, .int 0, .int 0, .int 0, .long 0], aI cA q7 14 (fun _ => 0), aI cA q15 56 (fun _ => 0), aI cA q23 14 (fun _ => 0), aI cA q31 14 (fun _ => 0), aI cA q39 56 (fun _ => 0), aI cA q48 3584 (fun _ => 0), aI cA z 3584 (fun _ => 0)]) dX7_init_57 kw_533 (by decide) (by decide) (by decide) (by rw [hrc]; exact Nat.le_of_ble_eq_true rfl) (by rw [hrs]; exact Nat.le_of_ble_eq_true rfl) rfl rfl (fun _ => rfl) (fun q57 => ?_)
  refine g_putF C 59 0 11 (ws' := [oB q_t 7 [.ref q7, .int 0, .int 0, .null, .null, .null, .ref q15, .ref q23, .ref q31, .ref q39, .ref q48, .ref q57, .int 0, .int 0, .int 0, .int 0, .long 0], aI cA q7 14 (fun _ => 0), aI cA q15 56 (fun _ => 0), aI cA q23 14 (fun _ => 0), aI cA q31 14 (fun _ => 0), aI cA q39 56 (fun _ => 0), aI cA q48 3584 (fun _ => 0), aI cA q57 3584 (fun _ => 0)]) tyX7 dX7_init_59 inX7 tyX7_ok nmX7 rfl rfl (by decide) kw_178 rfl hnm rfl rfl rfl (Nat.le_of_ble_eq_true rfl) rfl ?_
  refine g_aload_n C 62 0 dX7_init_62 rfl rfl ?_
  refine g_aload_n C 63 1 dX7_init_63 rfl rfl ?_
  refine g_putF C 64 0 3 (ws' := [oB q_t 7 [.ref q7, .int 0, .int 0, .ref q_u, .null, .null, .ref q15, .ref q23, .ref q31, .ref q39, .ref q48, .ref q57, .int 0, .int 0, .int 0, .int 0, .long 0], aI cA q7 14 (fun _ => 0), aI cA q15 56 (fun _ => 0), aI cA q23 14 (fun _ => 0), aI cA q31 14 (fun _ => 0), aI cA q39 56 (fun _ => 0), aI cA q48 3584 (fun _ => 0), aI cA q57 3584 (fun _ => 0)]) tyX7 dX7_init_64 inX7 tyX7_ok nmX7 rfl rfl (by decide) kw_142 rfl hnm rfl rfl rfl (Nat.le_of_ble_eq_true rfl) rfl ?_
  refine g_aload_n C 67 0 dX7_init_67 rfl rfl ?_
  refine g_aload_n C 68 2 dX7_init_68 rfl rfl ?_
  refine g_putF C 69 0 4 (ws' := [oB q_t 7 [.ref q7, .int 0, .int 0, .ref q_u, .ref q_v, .null, .ref q15, .ref q23, .ref q31, .ref q39, .ref q48, .ref q57, .int 0, .int 0, .int 0, .int 0, .long 0], aI cA q7 14 (fun _ => 0), aI cA q15 56 (fun _ => 0), aI cA q23 14 (fun _ => 0), aI cA q31 14 (fun _ => 0), aI cA q39 56 (fun _ => 0), aI cA q48 3584 (fun _ => 0), aI cA q57 3584 (fun _ => 0)]) tyX7 dX7_init_69 inX7 tyX7_ok nmX7 rfl rfl (by decide) kw_145 rfl hnm rfl rfl rfl (Nat.le_of_ble_eq_true rfl) rfl ?_
  refine g_aload_n C 72 0 dX7_init_72 rfl rfl ?_
  refine g_aload_n C 73 3 dX7_init_73 rfl rfl ?_
  refine g_putF C 74 0 5 (ws' := [oB q_t 7 [.ref q7, .int 0, .int 0, .ref q_u, .ref q_v, .ref q_w, .ref q15, .ref q23, .ref q31, .ref q39, .ref q48, .ref q57, .int 0, .int 0, .int 0, .int 0, .long 0], aI cA q7 14 (fun _ => 0), aI cA q15 56 (fun _ => 0), aI cA q23 14 (fun _ => 0), aI cA q31 14 (fun _ => 0), aI cA q39 56 (fun _ => 0), aI cA q48 3584 (fun _ => 0), aI cA q57 3584 (fun _ => 0)]) tyX7 dX7_init_74 inX7 tyX7_ok nmX7 rfl rfl (by decide) kw_163 rfl hnm rfl rfl rfl (Nat.le_of_ble_eq_true rfl) rfl ?_
  exact g_vret C 77 dX7_init_77 F ⟨q7, q15, q23, q31, q39, q48, q57, rfl, rfl⟩
def iB_X8 (cA : Nat → ClassId) (q_t : Nat) : Option Value → va_W → Prop := fun res w => ∃ (q5 : Nat) (q5_q7 : Nat) (q5_q15 : Nat) (q5_q24 : Nat) (q16 : Nat) (q16_q7 : Nat) (q27 : Nat) (q27_q7 : Nat) (q27_q15 : Nat) (q38 : Nat) (q38_q11 : Nat) (q38_q19 : Nat) (q38_q27 : Nat) (q38_q35 : Nat) (q49 : Nat) (q49_q7 : Nat) (q60 : Nat) (q60_q7 : Nat) (q60_q15 : Nat) (q60_q23 : Nat) (q60_q31 : Nat) (q60_q39 : Nat) (q60_q48 : Nat) (q60_q56 : Nat) (q60_q64 : Nat) (q60_q72 : Nat) (q60_q78 : Nat) (q60_q78_q7 : Nat), res = none ∧ w = [oB q_t 8 [.ref q5, .ref q16, .ref q27, .ref q38, .ref q49, .ref q60, .null, .null], oB q5 4 [.ref q5_q7, .ref q5_q15, .ref q5_q24, .int 0, .int 0], aI cA q5_q7 14 (fun _ => 0), aI cA q5_q15 14 (fun _ => 0), aI cA q5_q24 196 (fun _ => 0), oB q16 2 [.ref q16_q7, .int 0, .int 0], aI cA q16_q7 14 (fun _ => 0), oB q27 0 [.ref q27_q7, .ref q27_q15, .int 0], aI cA q27_q7 14 (fun _ => 0), aI cA q27_q15 14 (fun _ => 0), oB q38 3 [.int (2 : Int32), .ref q38_q11, .ref q38_q19, .ref q38_q27, .ref q38_q35], aI cA q38_q11 4 (fun _ => 0), aI cA q38_q19 16 (fun _ => 0), aZ cA q38_q27 16 (fun _ => 0), aI cA q38_q35 14 (fun _ => 0), oB q49 1 [.ref q49_q7, .int 0, .int 0], aI cA q49_q7 14 (fun _ => 0), oB q60 5 [.ref q60_q7, .ref q60_q15, .ref q60_q23, .ref q60_q31, .ref q60_q39, .ref q60_q48, .ref q60_q56, .int 0, .ref q60_q64, .ref q60_q72, .ref q60_q78], aI cA q60_q7 14 (fun _ => 0), aI cA q60_q15 56 (fun _ => 0), aI cA q60_q23 14 (fun _ => 0), aI cA q60_q31 14 (fun _ => 0), aI cA q60_q39 14 (fun _ => 0), aI cA q60_q48 196 (fun _ => 0), aI cA q60_q56 14 (fun _ => 0), aI cA q60_q64 14 (fun _ => 0), aI cA q60_q72 14 (fun _ => 0), oB q60_q78 1 [.ref q60_q78_q7, .int 0, .int 0], aI cA q60_q78_q7 14 (fun _ => 0)]
set_option maxRecDepth 100000 in
set_option maxHeartbeats 1000000 in
theorem c_X8_init (l : Launch) (cA : Nat → ClassId) (q_t : Nat) : MT l cA yX8_init cX8_init 1 none ({ frames := 3, cells := 28, slots := 727, locals := 60 } : Room) [.ref q_t] [oB q_t 8 [.null, .null, .null, .null, .null, .null, .null, .null]] (iB_X8 cA q_t) := by
  refine MT.of (by decide) (Nat.le_of_ble_eq_true rfl) ?_
  intro X hXl C F hnm hrc hrs
  subst hXl
  have C : Cx X cX8_init RX8 none cA 3 60 1 := C
  show Go X 1 0 0 0 [oB q_t 8 [.null, .null, .null, .null, .null, .null, .null, .null]] [(0, .ref q_t)] []
  refine g_aload_n C 0 0 dX8_init_0 rfl rfl ?_
  refine g_obj C 1 dX8_init_1 kw_545 kw_531 kw_532 (by decide) (Nat.le_of_ble_eq_true rfl) ?_
  refine g_aload_n C 4 0 dX8_init_4 rfl rfl ?_
  refine g_new C 5 tyX4 [.null, .null, .null, .int 0, .int 0] 1 5 (fun z => [oB q_t 8 [.null, .null, .null, .null, .null, .null, .null, .null], oB z 4 [.null, .null, .null, .int 0, .int 0]]) dX8_init_5 inX4 tyX4_ok kw_546 kw_547 kw_49 rfl (by decide) (by rw [hrc]; exact Nat.le_of_ble_eq_true rfl) (by rw [hrs]; exact Nat.le_of_ble_eq_true rfl) rfl rfl (fun _ => rfl) (fun q5 => ?_)
  refine g_dup C 8 dX8_init_8 rfl ?_
  refine g_callIN C 9 [1] (rest := [.ref q5, .ref q_t]) 4 229 dX8_init_9 (c_X4_init (x_l X) cA q5) (List.mem_of_getElem? (i := 0) rfl) kw_548 kw_49 kw_549 rfl ok_X4_init ⟨Nat.le_of_ble_eq_true rfl, Nat.le_of_ble_eq_true rfl⟩ (by rw [hrc]; exact Nat.le_of_ble_eq_true rfl) (by rw [hrs]; exact Nat.le_of_ble_eq_true rfl) rfl rfl rfl rfl rfl (Nat.le_of_ble_eq_true rfl) ?_
  intro res w1 hB; obtain ⟨q5_q7, q5_q15, q5_q24, rfl, rfl⟩ := hB
  refine ⟨Nat.le_of_ble_eq_true rfl, ?_⟩
  show Go X 1 4 229 12 [oB q_t 8 [.null, .null, .null, .null, .null, .null, .null, .null], oB q5 4 [.ref q5_q7, .ref q5_q15, .ref q5_q24, .int 0, .int 0], aI cA q5_q7 14 (fun _ => 0), aI cA q5_q15 14 (fun _ => 0), aI cA q5_q24 196 (fun _ => 0)] [(0, .ref q_t)] [.ref q5, .ref q_t]
  refine g_putF C 12 0 0 (ws' := [oB q_t 8 [.ref q5, .null, .null, .null, .null, .null, .null, .null], oB q5 4 [.ref q5_q7, .ref q5_q15, .ref q5_q24, .int 0, .int 0], aI cA q5_q7 14 (fun _ => 0), aI cA q5_q15 14 (fun _ => 0), aI cA q5_q24 196 (fun _ => 0)]) tyX8 dX8_init_12 inX8 tyX8_ok nmX8 rfl rfl (by decide) kw_229 rfl hnm rfl rfl rfl (Nat.le_of_ble_eq_true rfl) rfl ?_
  refine g_aload_n C 15 0 dX8_init_15 rfl rfl ?_
  refine g_new C 16 tyX2 [.null, .int 0, .int 0] 5 232 (fun z => [oB q_t 8 [.ref q5, .null, .null, .null, .null, .null, .null, .null], oB q5 4 [.ref q5_q7, .ref q5_q15, .ref q5_q24, .int 0, .int 0], aI cA q5_q7 14 (fun _ => 0), aI cA q5_q15 14 (fun _ => 0), aI cA q5_q24 196 (fun _ => 0), oB z 2 [.null, .int 0, .int 0]]) dX8_init_16 inX2 tyX2_ok kw_550 kw_551 kw_29 rfl (by decide) (by rw [hrc]; exact Nat.le_of_ble_eq_true rfl) (by rw [hrs]; exact Nat.le_of_ble_eq_true rfl) rfl rfl (fun _ => rfl) (fun q16 => ?_)
  refine g_dup C 19 dX8_init_19 rfl ?_
  refine g_callIN C 20 [5] (rest := [.ref q16, .ref q_t]) 6 246 dX8_init_20 (c_X2_init (x_l X) cA q16) (List.mem_of_getElem? (i := 1) rfl) kw_552 kw_29 kw_553 rfl ok_X2_init ⟨Nat.le_of_ble_eq_true rfl, Nat.le_of_ble_eq_true rfl⟩ (by rw [hrc]; exact Nat.le_of_ble_eq_true rfl) (by rw [hrs]; exact Nat.le_of_ble_eq_true rfl) rfl rfl rfl rfl rfl (Nat.le_of_ble_eq_true rfl) ?_
  intro res w1 hB; obtain ⟨q16_q7, rfl, rfl⟩ := hB
  refine ⟨Nat.le_of_ble_eq_true rfl, ?_⟩
  show Go X 1 6 246 23 [oB q_t 8 [.ref q5, .null, .null, .null, .null, .null, .null, .null], oB q5 4 [.ref q5_q7, .ref q5_q15, .ref q5_q24, .int 0, .int 0], aI cA q5_q7 14 (fun _ => 0), aI cA q5_q15 14 (fun _ => 0), aI cA q5_q24 196 (fun _ => 0), oB q16 2 [.ref q16_q7, .int 0, .int 0], aI cA q16_q7 14 (fun _ => 0)] [(0, .ref q_t)] [.ref q16, .ref q_t]
  refine g_putF C 23 0 1 (ws' := [oB q_t 8 [.ref q5, .ref q16, .null, .null, .null, .null, .null, .null], oB q5 4 [.ref q5_q7, .ref q5_q15, .ref q5_q24, .int 0, .int 0], aI cA q5_q7 14 (fun _ => 0), aI cA q5_q15 14 (fun _ => 0), aI cA q5_q24 196 (fun _ => 0), oB q16 2 [.ref q16_q7, .int 0, .int 0], aI cA q16_q7 14 (fun _ => 0)]) tyX8 dX8_init_23 inX8 tyX8_ok nmX8 rfl rfl (by decide) kw_231 rfl hnm rfl rfl rfl (Nat.le_of_ble_eq_true rfl) rfl ?_
  refine g_aload_n C 26 0 dX8_init_26 rfl rfl ?_
  refine g_new C 27 tyX0 [.null, .null, .int 0] 7 249 (fun z => [oB q_t 8 [.ref q5, .ref q16, .null, .null, .null, .null, .null, .null], oB q5 4 [.ref q5_q7, .ref q5_q15, .ref q5_q24, .int 0, .int 0], aI cA q5_q7 14 (fun _ => 0), aI cA q5_q15 14 (fun _ => 0), aI cA q5_q24 196 (fun _ => 0), oB q16 2 [.ref q16_q7, .int 0, .int 0], aI cA q16_q7 14 (fun _ => 0), oB z 0 [.null, .null, .int 0]]) dX8_init_27 inX0 tyX0_ok kw_554 kw_555 kw_43 rfl (by decide) (by rw [hrc]; exact Nat.le_of_ble_eq_true rfl) (by rw [hrs]; exact Nat.le_of_ble_eq_true rfl) rfl rfl (fun _ => rfl) (fun q27 => ?_)
  refine g_dup C 30 dX8_init_30 rfl ?_
  refine g_callIN C 31 [7] (rest := [.ref q27, .ref q_t]) 9 277 dX8_init_31 (c_X0_init (x_l X) cA q27) (List.mem_of_getElem? (i := 2) rfl) kw_556 kw_43 kw_557 rfl ok_X0_init ⟨Nat.le_of_ble_eq_true rfl, Nat.le_of_ble_eq_true rfl⟩ (by rw [hrc]; exact Nat.le_of_ble_eq_true rfl) (by rw [hrs]; exact Nat.le_of_ble_eq_true rfl) rfl rfl rfl rfl rfl (Nat.le_of_ble_eq_true rfl) ?_
  intro res w1 hB; obtain ⟨q27_q7, q27_q15, rfl, rfl⟩ := hB
  refine ⟨Nat.le_of_ble_eq_true rfl, ?_⟩
  show Go X 1 9 277 34 [oB q_t 8 [.ref q5, .ref q16, .null, .null, .null, .null, .null, .null], oB q5 4 [.ref q5_q7, .ref q5_q15, .ref q5_q24, .int 0, .int 0], aI cA q5_q7 14 (fun _ => 0), aI cA q5_q15 14 (fun _ => 0), aI cA q5_q24 196 (fun _ => 0), oB q16 2 [.ref q16_q7, .int 0, .int 0], aI cA q16_q7 14 (fun _ => 0), oB q27 0 [.ref q27_q7, .ref q27_q15, .int 0], aI cA q27_q7 14 (fun _ => 0), aI cA q27_q15 14 (fun _ => 0)] [(0, .ref q_t)] [.ref q27, .ref q_t]
  refine g_putF C 34 0 2 (ws' := [oB q_t 8 [.ref q5, .ref q16, .ref q27, .null, .null, .null, .null, .null], oB q5 4 [.ref q5_q7, .ref q5_q15, .ref q5_q24, .int 0, .int 0], aI cA q5_q7 14 (fun _ => 0), aI cA q5_q15 14 (fun _ => 0), aI cA q5_q24 196 (fun _ => 0), oB q16 2 [.ref q16_q7, .int 0, .int 0], aI cA q16_q7 14 (fun _ => 0), oB q27 0 [.ref q27_q7, .ref q27_q15, .int 0], aI cA q27_q7 14 (fun _ => 0), aI cA q27_q15 14 (fun _ => 0)]) tyX8 dX8_init_34 inX8 tyX8_ok nmX8 rfl rfl (by decide) kw_236 rfl hnm rfl rfl rfl (Nat.le_of_ble_eq_true rfl) rfl ?_
  refine g_aload_n C 37 0 dX8_init_37 rfl rfl ?_
  refine g_new C 38 tyX3 [.int 0, .null, .null, .null, .null] 10 282 (fun z => [oB q_t 8 [.ref q5, .ref q16, .ref q27, .null, .null, .null, .null, .null], oB q5 4 [.ref q5_q7, .ref q5_q15, .ref q5_q24, .int 0, .int 0], aI cA q5_q7 14 (fun _ => 0), aI cA q5_q15 14 (fun _ => 0), aI cA q5_q24 196 (fun _ => 0), oB q16 2 [.ref q16_q7, .int 0, .int 0], aI cA q16_q7 14 (fun _ => 0), oB q27 0 [.ref q27_q7, .ref q27_q15, .int 0], aI cA q27_q7 14 (fun _ => 0), aI cA q27_q15 14 (fun _ => 0), oB z 3 [.int 0, .null, .null, .null, .null]]) dX8_init_38 inX3 tyX3_ok kw_558 kw_559 kw_149 rfl (by decide) (by rw [hrc]; exact Nat.le_of_ble_eq_true rfl) (by rw [hrs]; exact Nat.le_of_ble_eq_true rfl) rfl rfl (fun _ => rfl) (fun q38 => ?_)
  refine g_dup C 41 dX8_init_41 rfl ?_
  refine g_callIN C 42 [10] (rest := [.ref q38, .ref q_t]) 14 332 dX8_init_42 (c_X3_init (x_l X) cA q38) (List.mem_of_getElem? (i := 3) rfl) kw_560 kw_149 kw_561 rfl ok_X3_init ⟨Nat.le_of_ble_eq_true rfl, Nat.le_of_ble_eq_true rfl⟩ (by rw [hrc]; exact Nat.le_of_ble_eq_true rfl) (by rw [hrs]; exact Nat.le_of_ble_eq_true rfl) rfl rfl rfl rfl rfl (Nat.le_of_ble_eq_true rfl) ?_
  intro res w1 hB; obtain ⟨q38_q11, q38_q19, q38_q27, q38_q35, rfl, rfl⟩ := hB
  refine ⟨Nat.le_of_ble_eq_true rfl, ?_⟩
  show Go X 1 14 332 45 [oB q_t 8 [.ref q5, .ref q16, .ref q27, .null, .null, .null, .null, .null], oB q5 4 [.ref q5_q7, .ref q5_q15, .ref q5_q24, .int 0, .int 0], aI cA q5_q7 14 (fun _ => 0), aI cA q5_q15 14 (fun _ => 0), aI cA q5_q24 196 (fun _ => 0), oB q16 2 [.ref q16_q7, .int 0, .int 0], aI cA q16_q7 14 (fun _ => 0), oB q27 0 [.ref q27_q7, .ref q27_q15, .int 0], aI cA q27_q7 14 (fun _ => 0), aI cA q27_q15 14 (fun _ => 0), oB q38 3 [.int (2 : Int32), .ref q38_q11, .ref q38_q19, .ref q38_q27, .ref q38_q35], aI cA q38_q11 4 (fun _ => 0), aI cA q38_q19 16 (fun _ => 0), aZ cA q38_q27 16 (fun _ => 0), aI cA q38_q35 14 (fun _ => 0)] [(0, .ref q_t)] [.ref q38, .ref q_t]
  refine g_putF C 45 0 3 (ws' := [oB q_t 8 [.ref q5, .ref q16, .ref q27, .ref q38, .null, .null, .null, .null], oB q5 4 [.ref q5_q7, .ref q5_q15, .ref q5_q24, .int 0, .int 0], aI cA q5_q7 14 (fun _ => 0), aI cA q5_q15 14 (fun _ => 0), aI cA q5_q24 196 (fun _ => 0), oB q16 2 [.ref q16_q7, .int 0, .int 0], aI cA q16_q7 14 (fun _ => 0), oB q27 0 [.ref q27_q7, .ref q27_q15, .int 0], aI cA q27_q7 14 (fun _ => 0), aI cA q27_q15 14 (fun _ => 0), oB q38 3 [.int (2 : Int32), .ref q38_q11, .ref q38_q19, .ref q38_q27, .ref q38_q35], aI cA q38_q11 4 (fun _ => 0), aI cA q38_q19 16 (fun _ => 0), aZ cA q38_q27 16 (fun _ => 0), aI cA q38_q35 14 (fun _ => 0)]) tyX8 dX8_init_45 inX8 tyX8_ok nmX8 rfl rfl (by decide) kw_317 rfl hnm rfl rfl rfl (Nat.le_of_ble_eq_true rfl) rfl ?_
  refine g_aload_n C 48 0 dX8_init_48 rfl rfl ?_
  refine g_new C 49 tyX1 [.null, .int 0, .int 0] 15 335 (fun z => [oB q_t 8 [.ref q5, .ref q16, .ref q27, .ref q38, .null, .null, .null, .null], oB q5 4 [.ref q5_q7, .ref q5_q15, .ref q5_q24, .int 0, .int 0], aI cA q5_q7 14 (fun _ => 0), aI cA q5_q15 14 (fun _ => 0), aI cA q5_q24 196 (fun _ => 0), oB q16 2 [.ref q16_q7, .int 0, .int 0], aI cA q16_q7 14 (fun _ => 0), oB q27 0 [.ref q27_q7, .ref q27_q15, .int 0], aI cA q27_q7 14 (fun _ => 0), aI cA q27_q15 14 (fun _ => 0), oB q38 3 [.int (2 : Int32), .ref q38_q11, .ref q38_q19, .ref q38_q27, .ref q38_q35], aI cA q38_q11 4 (fun _ => 0), aI cA q38_q19 16 (fun _ => 0), aZ cA q38_q27 16 (fun _ => 0), aI cA q38_q35 14 (fun _ => 0), oB z 1 [.null, .int 0, .int 0]]) dX8_init_49 inX1 tyX1_ok kw_562 kw_541 kw_16 rfl (by decide) (by rw [hrc]; exact Nat.le_of_ble_eq_true rfl) (by rw [hrs]; exact Nat.le_of_ble_eq_true rfl) rfl rfl (fun _ => rfl) (fun q49 => ?_)
  refine g_dup C 52 dX8_init_52 rfl ?_
  refine g_callIN C 53 [15] (rest := [.ref q49, .ref q_t]) 16 349 dX8_init_53 (c_X1_init (x_l X) cA q49) (List.mem_of_getElem? (i := 4) rfl) kw_542 kw_16 kw_543 rfl ok_X1_init ⟨Nat.le_of_ble_eq_true rfl, Nat.le_of_ble_eq_true rfl⟩ (by rw [hrc]; exact Nat.le_of_ble_eq_true rfl) (by rw [hrs]; exact Nat.le_of_ble_eq_true rfl) rfl rfl rfl rfl rfl (Nat.le_of_ble_eq_true rfl) ?_
  intro res w1 hB; obtain ⟨q49_q7, rfl, rfl⟩ := hB
  refine ⟨Nat.le_of_ble_eq_true rfl, ?_⟩
  show Go X 1 16 349 56 [oB q_t 8 [.ref q5, .ref q16, .ref q27, .ref q38, .null, .null, .null, .null], oB q5 4 [.ref q5_q7, .ref q5_q15, .ref q5_q24, .int 0, .int 0], aI cA q5_q7 14 (fun _ => 0), aI cA q5_q15 14 (fun _ => 0), aI cA q5_q24 196 (fun _ => 0), oB q16 2 [.ref q16_q7, .int 0, .int 0], aI cA q16_q7 14 (fun _ => 0), oB q27 0 [.ref q27_q7, .ref q27_q15, .int 0], aI cA q27_q7 14 (fun _ => 0), aI cA q27_q15 14 (fun _ => 0), oB q38 3 [.int (2 : Int32), .ref q38_q11, .ref q38_q19, .ref q38_q27, .ref q38_q35], aI cA q38_q11 4 (fun _ => 0), aI cA q38_q19 16 (fun _ => 0), aZ cA q38_q27 16 (fun _ => 0), aI cA q38_q35 14 (fun _ => 0), oB q49 1 [.ref q49_q7, .int 0, .int 0], aI cA q49_q7 14 (fun _ => 0)] [(0, .ref q_t)] [.ref q49, .ref q_t]
  refine g_putF C 56 0 4 (ws' := [oB q_t 8 [.ref q5, .ref q16, .ref q27, .ref q38, .ref q49, .null, .null, .null], oB q5 4 [.ref q5_q7, .ref q5_q15, .ref q5_q24, .int 0, .int 0], aI cA q5_q7 14 (fun _ => 0), aI cA q5_q15 14 (fun _ => 0), aI cA q5_q24 196 (fun _ => 0), oB q16 2 [.ref q16_q7, .int 0, .int 0], aI cA q16_q7 14 (fun _ => 0), oB q27 0 [.ref q27_q7, .ref q27_q15, .int 0], aI cA q27_q7 14 (fun _ => 0), aI cA q27_q15 14 (fun _ => 0), oB q38 3 [.int (2 : Int32), .ref q38_q11, .ref q38_q19, .ref q38_q27, .ref q38_q35], aI cA q38_q11 4 (fun _ => 0), aI cA q38_q19 16 (fun _ => 0), aZ cA q38_q27 16 (fun _ => 0), aI cA q38_q35 14 (fun _ => 0), oB q49 1 [.ref q49_q7, .int 0, .int 0], aI cA q49_q7 14 (fun _ => 0)]) tyX8 dX8_init_56 inX8 tyX8_ok nmX8 rfl rfl (by decide) kw_267 rfl hnm rfl rfl rfl (Nat.le_of_ble_eq_true rfl) rfl ?_
  refine g_aload_n C 59 0 dX8_init_59 rfl rfl ?_
  refine g_new C 60 tyX5 [.null, .null, .null, .null, .null, .null, .null, .int 0, .null, .null, .null] 17 360 (fun z => [oB q_t 8 [.ref q5, .ref q16, .ref q27, .ref q38, .ref q49, .null, .null, .null], oB q5 4 [.ref q5_q7, .ref q5_q15, .ref q5_q24, .int 0, .int 0], aI cA q5_q7 14 (fun _ => 0), aI cA q5_q15 14 (fun _ => 0), aI cA q5_q24 196 (fun _ => 0), oB q16 2 [.ref q16_q7, .int 0, .int 0], aI cA q16_q7 14 (fun _ => 0), oB q27 0 [.ref q27_q7, .ref q27_q15, .int 0], aI cA q27_q7 14 (fun _ => 0), aI cA q27_q15 14 (fun _ => 0), oB q38 3 [.int (2 : Int32), .ref q38_q11, .ref q38_q19, .ref q38_q27, .ref q38_q35], aI cA q38_q11 4 (fun _ => 0), aI cA q38_q19 16 (fun _ => 0), aZ cA q38_q27 16 (fun _ => 0), aI cA q38_q35 14 (fun _ => 0), oB q49 1 [.ref q49_q7, .int 0, .int 0], aI cA q49_q7 14 (fun _ => 0), oB z 5 [.null, .null, .null, .null, .null, .null, .null, .int 0, .null, .null, .null]]) dX8_init_60 inX5 tyX5_ok kw_563 kw_564 kw_131 rfl (by decide) (by rw [hrc]; exact Nat.le_of_ble_eq_true rfl) (by rw [hrs]; exact Nat.le_of_ble_eq_true rfl) rfl rfl (fun _ => rfl) (fun q60 => ?_)
  refine g_dup C 63 dX8_init_63 rfl ?_
  refine g_callIN C 64 [17] (rest := [.ref q60, .ref q_t]) 28 727 dX8_init_64 (c_X5_init (x_l X) cA q60) (List.mem_of_getElem? (i := 5) rfl) kw_565 kw_131 kw_566 rfl ok_X5_init ⟨Nat.le_of_ble_eq_true rfl, Nat.le_of_ble_eq_true rfl⟩ (by rw [hrc]; exact Nat.le_of_ble_eq_true rfl) (by rw [hrs]; exact Nat.le_of_ble_eq_true rfl) rfl rfl rfl rfl rfl (Nat.le_of_ble_eq_true rfl) ?_
  intro res w1 hB; obtain ⟨q60_q7, q60_q15, q60_q23, q60_q31, q60_q39, q60_q48, q60_q56, q60_q64, q60_q72, q60_q78, q60_q78_q7, rfl, rfl⟩ := hB
  refine ⟨Nat.le_of_ble_eq_true rfl, ?_⟩
  show Go X 1 28 727 67 [oB q_t 8 [.ref q5, .ref q16, .ref q27, .ref q38, .ref q49, .null, .null, .null], oB q5 4 [.ref q5_q7, .ref q5_q15, .ref q5_q24, .int 0, .int 0], aI cA q5_q7 14 (fun _ => 0), aI cA q5_q15 14 (fun _ => 0), aI cA q5_q24 196 (fun _ => 0), oB q16 2 [.ref q16_q7, .int 0, .int 0], aI cA q16_q7 14 (fun _ => 0), oB q27 0 [.ref q27_q7, .ref q27_q15, .int 0], aI cA q27_q7 14 (fun _ => 0), aI cA q27_q15 14 (fun _ => 0), oB q38 3 [.int (2 : Int32), .ref q38_q11, .ref q38_q19, .ref q38_q27, .ref q38_q35], aI cA q38_q11 4 (fun _ => 0), aI cA q38_q19 16 (fun _ => 0), aZ cA q38_q27 16 (fun _ => 0), aI cA q38_q35 14 (fun _ => 0), oB q49 1 [.ref q49_q7, .int 0, .int 0], aI cA q49_q7 14 (fun _ => 0), oB q60 5 [.ref q60_q7, .ref q60_q15, .ref q60_q23, .ref q60_q31, .ref q60_q39, .ref q60_q48, .ref q60_q56, .int 0, .ref q60_q64, .ref q60_q72, .ref q60_q78], aI cA q60_q7 14 (fun _ => 0), aI cA q60_q15 56 (fun _ => 0), aI cA q60_q23 14 (fun _ => 0), aI cA q60_q31 14 (fun _ => 0), aI cA q60_q39 14 (fun _ => 0), aI cA q60_q48 196 (fun _ => 0), aI cA q60_q56 14 (fun _ => 0), aI cA q60_q64 14 (fun _ => 0), aI cA q60_q72 14 (fun _ => 0), oB q60_q78 1 [.ref q60_q78_q7, .int 0, .int 0], aI cA q60_q78_q7 14 (fun _ => 0)] [(0, .ref q_t)] [.ref q60, .ref q_t]
  refine g_putF C 67 0 5 (ws' := [oB q_t 8 [.ref q5, .ref q16, .ref q27, .ref q38, .ref q49, .ref q60, .null, .null], oB q5 4 [.ref q5_q7, .ref q5_q15, .ref q5_q24, .int 0, .int 0], aI cA q5_q7 14 (fun _ => 0), aI cA q5_q15 14 (fun _ => 0), aI cA q5_q24 196 (fun _ => 0), oB q16 2 [.ref q16_q7, .int 0, .int 0], aI cA q16_q7 14 (fun _ => 0), oB q27 0 [.ref q27_q7, .ref q27_q15, .int 0], aI cA q27_q7 14 (fun _ => 0), aI cA q27_q15 14 (fun _ => 0), oB q38 3 [.int (2 : Int32), .ref q38_q11, .ref q38_q19, .ref q38_q27, .ref q38_q35], aI cA q38_q11 4 (fun _ => 0), aI cA q38_q19 16 (fun _ => 0), aZ cA q38_q27 16 (fun _ => 0), aI cA q38_q35 14 (fun _ => 0), oB q49 1 [.ref q49_q7, .int 0, .int 0], aI cA q49_q7 14 (fun _ => 0), oB q60 5 [.ref q60_q7, .ref q60_q15, .ref q60_q23, .ref q60_q31, .ref q60_q39, .ref q60_q48, .ref q60_q56, .int 0, .ref q60_q64, .ref q60_q72, .ref q60_q78], aI cA q60_q7 14 (fun _ => 0), aI cA q60_q15 56 (fun _ => 0), aI cA q60_q23 14 (fun _ => 0), aI cA q60_q31 14 (fun _ => 0), aI cA q60_q39 14 (fun _ => 0), aI cA q60_q48 196 (fun _ => 0), aI cA q60_q56 14 (fun _ => 0), aI cA q60_q64 14 (fun _ => 0), aI cA q60_q72 14 (fun _ => 0), oB q60_q78 1 [.ref q60_q78_q7, .int 0, .int 0], aI cA q60_q78_q7 14 (fun _ => 0)]) tyX8 dX8_init_67 inX8 tyX8_ok nmX8 rfl rfl (by decide) kw_501 rfl hnm rfl rfl rfl (Nat.le_of_ble_eq_true rfl) rfl ?_
  exact g_vret C 70 dX8_init_70 F ⟨q5, q5_q7, q5_q15, q5_q24, q16, q16_q7, q27, q27_q7, q27_q15, q38, q38_q11, q38_q19, q38_q27, q38_q35, q49, q49_q7, q60, q60_q7, q60_q15, q60_q23, q60_q31, q60_q39, q60_q48, q60_q56, q60_q64, q60_q72, q60_q78, q60_q78_q7, rfl, rfl⟩
def iB_X9 (cA : Nat → ClassId) (q_t : Nat) : Option Value → va_W → Prop := fun res w => ∃ (q12 : Nat) (q20 : Nat) (q29 : Nat) (q42 : Nat) (q55 : Nat) (q63 : Nat) (q72 : Nat) (q84 : Nat) (q92 : Nat) (q100 : Nat) (q108 : Nat) (q116 : Nat) (q124 : Nat) (q133 : Nat) (q142 : Nat) (q151 : Nat), res = none ∧ w = [oB q_t 9 [.int (0 : Int32), .ref q12, .ref q20, .ref q29, .int (0 : Int32), .ref q42, .int (0 : Int32), .ref q55, .ref q63, .ref q72, .int (2 : Int32), .ref q84, .ref q92, .ref q100, .ref q108, .ref q116, .ref q124, .ref q133, .ref q142, .ref q151, .long (0 : Int64), .long (0 : Int64), .long (0 : Int64)], aI cA q12 14 (fun _ => 0), aI cA q20 14 (fun _ => 0), aI cA q29 196 (fun _ => 0), aI cA q42 14 (fun _ => 0), aI cA q55 14 (fun _ => 0), aI cA q63 14 (fun _ => 0), aI cA q72 16384 (fun _ => 0), aI cA q84 4 (fun _ => 0), aI cA q92 16 (fun _ => 0), aI cA q100 14 (fun _ => 0), aZ cA q108 16 (fun _ => 0), aI cA q116 14 (fun _ => 0), aI cA q124 14 (fun _ => 0), aJ cA q133 14336 (fun _ => 0), aJ cA q142 14336 (fun _ => 0), aJ cA q151 14336 (fun _ => 0)]
set_option maxRecDepth 100000 in
set_option maxHeartbeats 1000000 in
theorem c_X9_init (l : Launch) (cA : Nat → ClassId) (q_t : Nat) : MT l cA yX9_init cX9_init 1 none ({ frames := 1, cells := 16, slots := 59736, locals := 20 } : Room) [.ref q_t] [oB q_t 9 [.int 0, .null, .null, .null, .int 0, .null, .int 0, .null, .null, .null, .int 0, .null, .null, .null, .null, .null, .null, .null, .null, .null, .long 0, .long 0, .long 0]] (iB_X9 cA q_t) := by
  refine MT.of (by decide) (Nat.le_of_ble_eq_true rfl) ?_
  intro X hXl C F hnm hrc hrs
  subst hXl
  have C : Cx X cX9_init RX9 none cA 1 20 1 := C
  show Go X 1 0 0 0 [oB q_t 9 [.int 0, .null, .null, .null, .int 0, .null, .int 0, .null, .null, .null, .int 0, .null, .null, .null, .null, .null, .null, .null, .null, .null, .long 0, .long 0, .long 0]] [(0, .ref q_t)] []
  refine g_aload_n C 0 0 dX9_init_0 rfl rfl ?_
  refine g_obj C 1 dX9_init_1 kw_567 kw_531 kw_532 (by decide) (Nat.le_of_ble_eq_true rfl) ?_
  refine g_aload_n C 4 0 dX9_init_4 rfl rfl ?_
  refine g_iconst C 5 (0 : Int32) dX9_init_5 (by decide) ?_
  refine g_putV C 6 0 0 (ws' := [oB q_t 9 [.int (0 : Int32), .null, .null, .null, .int 0, .null, .int 0, .null, .null, .null, .int 0, .null, .null, .null, .null, .null, .null, .null, .null, .null, .long 0, .long 0, .long 0]]) tyX9 dX9_init_6 inX9 tyX9_ok nmX9 rfl rfl (by decide) kw_339 rfl rfl rfl (Nat.le_of_ble_eq_true rfl) rfl ?_
  refine g_aload_n C 9 0 dX9_init_9 rfl rfl ?_
  refine g_bipush C 10 (14 : Int32) dX9_init_10 (by decide) ?_
  refine g_newI C 12 14 1 14 (fun z => [oB q_t 9 [.int (0 : Int32), .null, .null, .null, .int 0, .null, .int 0, .null, .null, .null, .int 0, .null, .null, .null, .null, .null, .null, .null, .null, .null, .long 0, .long 0, .long 0], aI cA z 14 (fun _ => 0)]) dX9_init_12 kw_533 (by decide) (by decide) (by decide) (by rw [hrc]; exact Nat.le_of_ble_eq_true rfl) (by rw [hrs]; exact Nat.le_of_ble_eq_true rfl) rfl rfl (fun _ => rfl) (fun q12 => ?_)
  refine g_putF C 14 0 1 (ws' := [oB q_t 9 [.int (0 : Int32), .ref q12, .null, .null, .int 0, .null, .int 0, .null, .null, .null, .int 0, .null, .null, .null, .null, .null, .null, .null, .null, .null, .long 0, .long 0, .long 0], aI cA q12 14 (fun _ => 0)]) tyX9 dX9_init_14 inX9 tyX9_ok nmX9 rfl rfl (by decide) kw_345 rfl hnm rfl rfl rfl (Nat.le_of_ble_eq_true rfl) rfl ?_
  refine g_aload_n C 17 0 dX9_init_17 rfl rfl ?_
  refine g_bipush C 18 (14 : Int32) dX9_init_18 (by decide) ?_
  refine g_newI C 20 14 2 28 (fun z => [oB q_t 9 [.int (0 : Int32), .ref q12, .null, .null, .int 0, .null, .int 0, .null, .null, .null, .int 0, .null, .null, .null, .null, .null, .null, .null, .null, .null, .long 0, .long 0, .long 0], aI cA q12 14 (fun _ => 0), aI cA z 14 (fun _ => 0)]) dX9_init_20 kw_533 (by decide) (by decide) (by decide) (by rw [hrc]; exact Nat.le_of_ble_eq_true rfl) (by rw [hrs]; exact Nat.le_of_ble_eq_true rfl) rfl rfl (fun _ => rfl) (fun q20 => ?_)
  refine g_putF C 22 0 2 (ws' := [oB q_t 9 [.int (0 : Int32), .ref q12, .ref q20, .null, .int 0, .null, .int 0, .null, .null, .null, .int 0, .null, .null, .null, .null, .null, .null, .null, .null, .null, .long 0, .long 0, .long 0], aI cA q12 14 (fun _ => 0), aI cA q20 14 (fun _ => 0)]) tyX9 dX9_init_22 inX9 tyX9_ok nmX9 rfl rfl (by decide) kw_346 rfl hnm rfl rfl rfl (Nat.le_of_ble_eq_true rfl) rfl ?_
  refine g_aload_n C 25 0 dX9_init_25 rfl rfl ?_
  refine g_sipush C 26 (196 : Int32) dX9_init_26 (by decide) ?_
  refine g_newI C 29 196 3 224 (fun z => [oB q_t 9 [.int (0 : Int32), .ref q12, .ref q20, .null, .int 0, .null, .int 0, .null, .null, .null, .int 0, .null, .null, .null, .null, .null, .null, .null, .null, .null, .long 0, .long 0, .long 0], aI cA q12 14 (fun _ => 0), aI cA q20 14 (fun _ => 0), aI cA z 196 (fun _ => 0)]) dX9_init_29 kw_533 (by decide) (by decide) (by decide) (by rw [hrc]; exact Nat.le_of_ble_eq_true rfl) (by rw [hrs]; exact Nat.le_of_ble_eq_true rfl) rfl rfl (fun _ => rfl) (fun q29 => ?_)
  refine g_putF C 31 0 3 (ws' := [oB q_t 9 [.int (0 : Int32), .ref q12, .ref q20, .ref q29, .int 0, .null, .int 0, .null, .null, .null, .int 0, .null, .null, .null, .null, .null, .null, .null, .null, .null, .long 0, .long 0, .long 0], aI cA q12 14 (fun _ => 0), aI cA q20 14 (fun _ => 0), aI cA q29 196 (fun _ => 0)]) tyX9 dX9_init_31 inX9 tyX9_ok nmX9 rfl rfl (by decide) kw_353 rfl hnm rfl rfl rfl (Nat.le_of_ble_eq_true rfl) rfl ?_
  refine g_aload_n C 34 0 dX9_init_34 rfl rfl ?_
  refine g_iconst C 35 (0 : Int32) dX9_init_35 (by decide) ?_
  refine g_putV C 36 0 4 (ws' := [oB q_t 9 [.int (0 : Int32), .ref q12, .ref q20, .ref q29, .int (0 : Int32), .null, .int 0, .null, .null, .null, .int 0, .null, .null, .null, .null, .null, .null, .null, .null, .null, .long 0, .long 0, .long 0], aI cA q12 14 (fun _ => 0), aI cA q20 14 (fun _ => 0), aI cA q29 196 (fun _ => 0)]) tyX9 dX9_init_36 inX9 tyX9_ok nmX9 rfl rfl (by decide) kw_347 rfl rfl rfl (Nat.le_of_ble_eq_true rfl) rfl ?_
  refine g_aload_n C 39 0 dX9_init_39 rfl rfl ?_
  refine g_bipush C 40 (14 : Int32) dX9_init_40 (by decide) ?_
  refine g_newI C 42 14 4 238 (fun z => [oB q_t 9 [.int (0 : Int32), .ref q12, .ref q20, .ref q29, .int (0 : Int32), .null, .int 0, .null, .null, .null, .int 0, .null, .null, .null, .null, .null, .null, .null, .null, .null, .long 0, .long 0, .long 0], aI cA q12 14 (fun _ => 0), aI cA q20 14 (fun _ => 0), aI cA q29 196 (fun _ => 0), aI cA z 14 (fun _ => 0)]) dX9_init_42 kw_533 (by decide) (by decide) (by decide) (by rw [hrc]; exact Nat.le_of_ble_eq_true rfl) (by rw [hrs]; exact Nat.le_of_ble_eq_true rfl) rfl rfl (fun _ => rfl) (fun q42 => ?_)
  refine g_putF C 44 0 5 (ws' := [oB q_t 9 [.int (0 : Int32), .ref q12, .ref q20, .ref q29, .int (0 : Int32), .ref q42, .int 0, .null, .null, .null, .int 0, .null, .null, .null, .null, .null, .null, .null, .null, .null, .long 0, .long 0, .long 0], aI cA q12 14 (fun _ => 0), aI cA q20 14 (fun _ => 0), aI cA q29 196 (fun _ => 0), aI cA q42 14 (fun _ => 0)]) tyX9 dX9_init_44 inX9 tyX9_ok nmX9 rfl rfl (by decide) kw_358 rfl hnm rfl rfl rfl (Nat.le_of_ble_eq_true rfl) rfl ?_
  refine g_aload_n C 47 0 dX9_init_47 rfl rfl ?_
  refine g_iconst C 48 (0 : Int32) dX9_init_48 (by decide) ?_
  refine g_putV C 49 0 6 (ws' := [oB q_t 9 [.int (0 : Int32), .ref q12, .ref q20, .ref q29, .int (0 : Int32), .ref q42, .int (0 : Int32), .null, .null, .null, .int 0, .null, .null, .null, .null, .null, .null, .null, .null, .null, .long 0, .long 0, .long 0], aI cA q12 14 (fun _ => 0), aI cA q20 14 (fun _ => 0), aI cA q29 196 (fun _ => 0), aI cA q42 14 (fun _ => 0)]) tyX9 dX9_init_49 inX9 tyX9_ok nmX9 rfl rfl (by decide) kw_348 rfl rfl rfl (Nat.le_of_ble_eq_true rfl) rfl ?_
  refine g_aload_n C 52 0 dX9_init_52 rfl rfl ?_
  refine g_bipush C 53 (14 : Int32) dX9_init_53 (by decide) ?_
  refine g_newI C 55 14 5 252 (fun z => [oB q_t 9 [.int (0 : Int32), .ref q12, .ref q20, .ref q29, .int (0 : Int32), .ref q42, .int (0 : Int32), .null, .null, .null, .int 0, .null, .null, .null, .null, .null, .null, .null, .null, .null, .long 0, .long 0, .long 0], aI cA q12 14 (fun _ => 0), aI cA q20 14 (fun _ => 0), aI cA q29 196 (fun _ => 0), aI cA q42 14 (fun _ => 0), aI cA z 14 (fun _ => 0)]) dX9_init_55 kw_533 (by decide) (by decide) (by decide) (by rw [hrc]; exact Nat.le_of_ble_eq_true rfl) (by rw [hrs]; exact Nat.le_of_ble_eq_true rfl) rfl rfl (fun _ => rfl) (fun q55 => ?_)
  refine g_putF C 57 0 7 (ws' := [oB q_t 9 [.int (0 : Int32), .ref q12, .ref q20, .ref q29, .int (0 : Int32), .ref q42, .int (0 : Int32), .ref q55, .null, .null, .int 0, .null, .null, .null, .null, .null, .null, .null, .null, .null, .long 0, .long 0, .long 0], aI cA q12 14 (fun _ => 0), aI cA q20 14 (fun _ => 0), aI cA q29 196 (fun _ => 0), aI cA q42 14 (fun _ => 0), aI cA q55 14 (fun _ => 0)]) tyX9 dX9_init_57 inX9 tyX9_ok nmX9 rfl rfl (by decide) kw_371 rfl hnm rfl rfl rfl (Nat.le_of_ble_eq_true rfl) rfl ?_
  refine g_aload_n C 60 0 dX9_init_60 rfl rfl ?_
  refine g_bipush C 61 (14 : Int32) dX9_init_61 (by decide) ?_
  refine g_newI C 63 14 6 266 (fun z => [oB q_t 9 [.int (0 : Int32), .ref q12, .ref q20, .ref q29, .int (0 : Int32), .ref q42, .int (0 : Int32), .ref q55, .null, .null, .int 0, .null, .null, .null, .null, .null, .null, .null, .null, .null, .long 0, .long 0, .long 0], aI cA q12 14 (fun _ => 0), aI cA q20 14 (fun _ => 0), aI cA q29 196 (fun _ => 0), aI cA q42 14 (fun _ => 0), aI cA q55 14 (fun _ => 0), aI cA z 14 (fun _ => 0)]) dX9_init_63 kw_533 (by decide) (by decide) (by decide) (by rw [hrc]; exact Nat.le_of_ble_eq_true rfl) (by rw [hrs]; exact Nat.le_of_ble_eq_true rfl) rfl rfl (fun _ => rfl) (fun q63 => ?_)
  refine g_putF C 65 0 8 (ws' := [oB q_t 9 [.int (0 : Int32), .ref q12, .ref q20, .ref q29, .int (0 : Int32), .ref q42, .int (0 : Int32), .ref q55, .ref q63, .null, .int 0, .null, .null, .null, .null, .null, .null, .null, .null, .null, .long 0, .long 0, .long 0], aI cA q12 14 (fun _ => 0), aI cA q20 14 (fun _ => 0), aI cA q29 196 (fun _ => 0), aI cA q42 14 (fun _ => 0), aI cA q55 14 (fun _ => 0), aI cA q63 14 (fun _ => 0)]) tyX9 dX9_init_65 inX9 tyX9_ok nmX9 rfl rfl (by decide) kw_380 rfl hnm rfl rfl rfl (Nat.le_of_ble_eq_true rfl) rfl ?_
  refine g_aload_n C 68 0 dX9_init_68 rfl rfl ?_
  refine g_sipush C 69 (16384 : Int32) dX9_init_69 (by decide) ?_
  refine g_newI C 72 16384 7 16650 (fun z => [oB q_t 9 [.int (0 : Int32), .ref q12, .ref q20, .ref q29, .int (0 : Int32), .ref q42, .int (0 : Int32), .ref q55, .ref q63, .null, .int 0, .null, .null, .null, .null, .null, .null, .null, .null, .null, .long 0, .long 0, .long 0], aI cA q12 14 (fun _ => 0), aI cA q20 14 (fun _ => 0), aI cA q29 196 (fun _ => 0), aI cA q42 14 (fun _ => 0), aI cA q55 14 (fun _ => 0), aI cA q63 14 (fun _ => 0), aI cA z 16384 (fun _ => 0)]) dX9_init_72 kw_533 (by decide) (by decide) (by decide) (by rw [hrc]; exact Nat.le_of_ble_eq_true rfl) (by rw [hrs]; exact Nat.le_of_ble_eq_true rfl) rfl rfl (fun _ => rfl) (fun q72 => ?_)
  refine g_putF C 74 0 9 (ws' := [oB q_t 9 [.int (0 : Int32), .ref q12, .ref q20, .ref q29, .int (0 : Int32), .ref q42, .int (0 : Int32), .ref q55, .ref q63, .ref q72, .int 0, .null, .null, .null, .null, .null, .null, .null, .null, .null, .long 0, .long 0, .long 0], aI cA q12 14 (fun _ => 0), aI cA q20 14 (fun _ => 0), aI cA q29 196 (fun _ => 0), aI cA q42 14 (fun _ => 0), aI cA q55 14 (fun _ => 0), aI cA q63 14 (fun _ => 0), aI cA q72 16384 (fun _ => 0)]) tyX9 dX9_init_74 inX9 tyX9_ok nmX9 rfl rfl (by decide) kw_389 rfl hnm rfl rfl rfl (Nat.le_of_ble_eq_true rfl) rfl ?_
  refine g_aload_n C 77 0 dX9_init_77 rfl rfl ?_
  refine g_iconst C 78 (2 : Int32) dX9_init_78 (by decide) ?_
  refine g_putV C 79 0 10 (ws' := [oB q_t 9 [.int (0 : Int32), .ref q12, .ref q20, .ref q29, .int (0 : Int32), .ref q42, .int (0 : Int32), .ref q55, .ref q63, .ref q72, .int (2 : Int32), .null, .null, .null, .null, .null, .null, .null, .null, .null, .long 0, .long 0, .long 0], aI cA q12 14 (fun _ => 0), aI cA q20 14 (fun _ => 0), aI cA q29 196 (fun _ => 0), aI cA q42 14 (fun _ => 0), aI cA q55 14 (fun _ => 0), aI cA q63 14 (fun _ => 0), aI cA q72 16384 (fun _ => 0)]) tyX9 dX9_init_79 inX9 tyX9_ok nmX9 rfl rfl (by decide) kw_398 rfl rfl rfl (Nat.le_of_ble_eq_true rfl) rfl ?_
  refine g_aload_n C 82 0 dX9_init_82 rfl rfl ?_
  refine g_iconst C 83 (4 : Int32) dX9_init_83 (by decide) ?_
  refine g_newI C 84 4 8 16654 (fun z => [oB q_t 9 [.int (0 : Int32), .ref q12, .ref q20, .ref q29, .int (0 : Int32), .ref q42, .int (0 : Int32), .ref q55, .ref q63, .ref q72, .int (2 : Int32), .null, .null, .null, .null, .null, .null, .null, .null, .null, .long 0, .long 0, .long 0], aI cA q12 14 (fun _ => 0), aI cA q20 14 (fun _ => 0), aI cA q29 196 (fun _ => 0), aI cA q42 14 (fun _ => 0), aI cA q55 14 (fun _ => 0), aI cA q63 14 (fun _ => 0), aI cA q72 16384 (fun _ => 0), aI cA z 4 (fun _ => 0)]) dX9_init_84 kw_533 (by decide) (by decide) (by decide) (by rw [hrc]; exact Nat.le_of_ble_eq_true rfl) (by rw [hrs]; exact Nat.le_of_ble_eq_true rfl) rfl rfl (fun _ => rfl) (fun q84 => ?_)
  refine g_putF C 86 0 11 (ws' := [oB q_t 9 [.int (0 : Int32), .ref q12, .ref q20, .ref q29, .int (0 : Int32), .ref q42, .int (0 : Int32), .ref q55, .ref q63, .ref q72, .int (2 : Int32), .ref q84, .null, .null, .null, .null, .null, .null, .null, .null, .long 0, .long 0, .long 0], aI cA q12 14 (fun _ => 0), aI cA q20 14 (fun _ => 0), aI cA q29 196 (fun _ => 0), aI cA q42 14 (fun _ => 0), aI cA q55 14 (fun _ => 0), aI cA q63 14 (fun _ => 0), aI cA q72 16384 (fun _ => 0), aI cA q84 4 (fun _ => 0)]) tyX9 dX9_init_86 inX9 tyX9_ok nmX9 rfl rfl (by decide) kw_402 rfl hnm rfl rfl rfl (Nat.le_of_ble_eq_true rfl) rfl ?_
  refine g_aload_n C 89 0 dX9_init_89 rfl rfl ?_
  refine g_bipush C 90 (16 : Int32) dX9_init_90 (by decide) ?_
  refine g_newI C 92 16 9 16670 (fun z => [oB q_t 9 [.int (0 : Int32), .ref q12, .ref q20, .ref q29, .int (0 : Int32), .ref q42, .int (0 : Int32), .ref q55, .ref q63, .ref q72, .int (2 : Int32), .ref q84, .null, .null, .null, .null, .null, .null, .null, .null, .long 0, .long 0, .long 0], aI cA q12 14 (fun _ => 0), aI cA q20 14 (fun _ => 0), aI cA q29 196 (fun _ => 0), aI cA q42 14 (fun _ => 0), aI cA q55 14 (fun _ => 0), aI cA q63 14 (fun _ => 0), aI cA q72 16384 (fun _ => 0), aI cA q84 4 (fun _ => 0), aI cA z 16 (fun _ => 0)]) dX9_init_92 kw_533 (by decide) (by decide) (by decide) (by rw [hrc]; exact Nat.le_of_ble_eq_true rfl) (by rw [hrs]; exact Nat.le_of_ble_eq_true rfl) rfl rfl (fun _ => rfl) (fun q92 => ?_)
  refine g_putF C 94 0 12 (ws' := [oB q_t 9 [.int (0 : Int32), .ref q12, .ref q20, .ref q29, .int (0 : Int32), .ref q42, .int (0 : Int32), .ref q55, .ref q63, .ref q72, .int (2 : Int32), .ref q84, .ref q92, .null, .null, .null, .null, .null, .null, .null, .long 0, .long 0, .long 0], aI cA q12 14 (fun _ => 0), aI cA q20 14 (fun _ => 0), aI cA q29 196 (fun _ => 0), aI cA q42 14 (fun _ => 0), aI cA q55 14 (fun _ => 0), aI cA q63 14 (fun _ => 0), aI cA q72 16384 (fun _ => 0), aI cA q84 4 (fun _ => 0), aI cA q92 16 (fun _ => 0)]) tyX9 dX9_init_94 inX9 tyX9_ok nmX9 rfl rfl (by decide) kw_400 rfl hnm rfl rfl rfl (Nat.le_of_ble_eq_true rfl) rfl ?_
  refine g_aload_n C 97 0 dX9_init_97 rfl rfl ?_
  refine g_bipush C 98 (14 : Int32) dX9_init_98 (by decide) ?_
  refine g_newI C 100 14 10 16684 (fun z => [oB q_t 9 [.int (0 : Int32), .ref q12, .ref q20, .ref q29, .int (0 : Int32), .ref q42, .int (0 : Int32), .ref q55, .ref q63, .ref q72, .int (2 : Int32), .ref q84, .ref q92, .null, .null, .null, .null, .null, .null, .null, .long 0, .long 0, .long 0], aI cA q12 14 (fun _ => 0), aI cA q20 14 (fun _ => 0), aI cA q29 196 (fun _ => 0), aI cA q42 14 (fun _ => 0), aI cA q55 14 (fun _ => 0), aI cA q63 14 (fun _ => 0), aI cA q72 16384 (fun _ => 0), aI cA q84 4 (fun _ => 0), aI cA q92 16 (fun _ => 0), aI cA z 14 (fun _ => 0)]) dX9_init_100 kw_533 (by decide) (by decide) (by decide) (by rw [hrc]; exact Nat.le_of_ble_eq_true rfl) (by rw [hrs]; exact Nat.le_of_ble_eq_true rfl) rfl rfl (fun _ => rfl) (fun q100 => ?_)
  refine g_putF C 102 0 13 (ws' := [oB q_t 9 [.int (0 : Int32), .ref q12, .ref q20, .ref q29, .int (0 : Int32), .ref q42, .int (0 : Int32), .ref q55, .ref q63, .ref q72, .int (2 : Int32), .ref q84, .ref q92, .ref q100, .null, .null, .null, .null, .null, .null, .long 0, .long 0, .long 0], aI cA q12 14 (fun _ => 0), aI cA q20 14 (fun _ => 0), aI cA q29 196 (fun _ => 0), aI cA q42 14 (fun _ => 0), aI cA q55 14 (fun _ => 0), aI cA q63 14 (fun _ => 0), aI cA q72 16384 (fun _ => 0), aI cA q84 4 (fun _ => 0), aI cA q92 16 (fun _ => 0), aI cA q100 14 (fun _ => 0)]) tyX9 dX9_init_102 inX9 tyX9_ok nmX9 rfl rfl (by decide) kw_399 rfl hnm rfl rfl rfl (Nat.le_of_ble_eq_true rfl) rfl ?_
  refine g_aload_n C 105 0 dX9_init_105 rfl rfl ?_
  refine g_bipush C 106 (16 : Int32) dX9_init_106 (by decide) ?_
  refine g_newZ C 108 16 11 16700 (fun z => [oB q_t 9 [.int (0 : Int32), .ref q12, .ref q20, .ref q29, .int (0 : Int32), .ref q42, .int (0 : Int32), .ref q55, .ref q63, .ref q72, .int (2 : Int32), .ref q84, .ref q92, .ref q100, .null, .null, .null, .null, .null, .null, .long 0, .long 0, .long 0], aI cA q12 14 (fun _ => 0), aI cA q20 14 (fun _ => 0), aI cA q29 196 (fun _ => 0), aI cA q42 14 (fun _ => 0), aI cA q55 14 (fun _ => 0), aI cA q63 14 (fun _ => 0), aI cA q72 16384 (fun _ => 0), aI cA q84 4 (fun _ => 0), aI cA q92 16 (fun _ => 0), aI cA q100 14 (fun _ => 0), aZ cA z 16 (fun _ => 0)]) dX9_init_108 kw_537 (by decide) (by decide) (by decide) (by rw [hrc]; exact Nat.le_of_ble_eq_true rfl) (by rw [hrs]; exact Nat.le_of_ble_eq_true rfl) rfl rfl (fun _ => rfl) (fun q108 => ?_)
  refine g_putF C 110 0 14 (ws' := [oB q_t 9 [.int (0 : Int32), .ref q12, .ref q20, .ref q29, .int (0 : Int32), .ref q42, .int (0 : Int32), .ref q55, .ref q63, .ref q72, .int (2 : Int32), .ref q84, .ref q92, .ref q100, .ref q108, .null, .null, .null, .null, .null, .long 0, .long 0, .long 0], aI cA q12 14 (fun _ => 0), aI cA q20 14 (fun _ => 0), aI cA q29 196 (fun _ => 0), aI cA q42 14 (fun _ => 0), aI cA q55 14 (fun _ => 0), aI cA q63 14 (fun _ => 0), aI cA q72 16384 (fun _ => 0), aI cA q84 4 (fun _ => 0), aI cA q92 16 (fun _ => 0), aI cA q100 14 (fun _ => 0), aZ cA q108 16 (fun _ => 0)]) tyX9 dX9_init_110 inX9 tyX9_ok nmX9 rfl rfl (by decide) kw_401 rfl hnm rfl rfl rfl (Nat.le_of_ble_eq_true rfl) rfl ?_
  refine g_aload_n C 113 0 dX9_init_113 rfl rfl ?_
  refine g_bipush C 114 (14 : Int32) dX9_init_114 (by decide) ?_
  refine g_newI C 116 14 12 16714 (fun z => [oB q_t 9 [.int (0 : Int32), .ref q12, .ref q20, .ref q29, .int (0 : Int32), .ref q42, .int (0 : Int32), .ref q55, .ref q63, .ref q72, .int (2 : Int32), .ref q84, .ref q92, .ref q100, .ref q108, .null, .null, .null, .null, .null, .long 0, .long 0, .long 0], aI cA q12 14 (fun _ => 0), aI cA q20 14 (fun _ => 0), aI cA q29 196 (fun _ => 0), aI cA q42 14 (fun _ => 0), aI cA q55 14 (fun _ => 0), aI cA q63 14 (fun _ => 0), aI cA q72 16384 (fun _ => 0), aI cA q84 4 (fun _ => 0), aI cA q92 16 (fun _ => 0), aI cA q100 14 (fun _ => 0), aZ cA q108 16 (fun _ => 0), aI cA z 14 (fun _ => 0)]) dX9_init_116 kw_533 (by decide) (by decide) (by decide) (by rw [hrc]; exact Nat.le_of_ble_eq_true rfl) (by rw [hrs]; exact Nat.le_of_ble_eq_true rfl) rfl rfl (fun _ => rfl) (fun q116 => ?_)
  refine g_putF C 118 0 15 (ws' := [oB q_t 9 [.int (0 : Int32), .ref q12, .ref q20, .ref q29, .int (0 : Int32), .ref q42, .int (0 : Int32), .ref q55, .ref q63, .ref q72, .int (2 : Int32), .ref q84, .ref q92, .ref q100, .ref q108, .ref q116, .null, .null, .null, .null, .long 0, .long 0, .long 0], aI cA q12 14 (fun _ => 0), aI cA q20 14 (fun _ => 0), aI cA q29 196 (fun _ => 0), aI cA q42 14 (fun _ => 0), aI cA q55 14 (fun _ => 0), aI cA q63 14 (fun _ => 0), aI cA q72 16384 (fun _ => 0), aI cA q84 4 (fun _ => 0), aI cA q92 16 (fun _ => 0), aI cA q100 14 (fun _ => 0), aZ cA q108 16 (fun _ => 0), aI cA q116 14 (fun _ => 0)]) tyX9 dX9_init_118 inX9 tyX9_ok nmX9 rfl rfl (by decide) kw_411 rfl hnm rfl rfl rfl (Nat.le_of_ble_eq_true rfl) rfl ?_
  refine g_aload_n C 121 0 dX9_init_121 rfl rfl ?_
  refine g_bipush C 122 (14 : Int32) dX9_init_122 (by decide) ?_
  refine g_newI C 124 14 13 16728 (fun z => [oB q_t 9 [.int (0 : Int32), .ref q12, .ref q20, .ref q29, .int (0 : Int32), .ref q42, .int (0 : Int32), .ref q55, .ref q63, .ref q72, .int (2 : Int32), .ref q84, .ref q92, .ref q100, .ref q108, .ref q116, .null, .null, .null, .null, .long 0, .long 0, .long 0], aI cA q12 14 (fun _ => 0), aI cA q20 14 (fun _ => 0), aI cA q29 196 (fun _ => 0), aI cA q42 14 (fun _ => 0), aI cA q55 14 (fun _ => 0), aI cA q63 14 (fun _ => 0), aI cA q72 16384 (fun _ => 0), aI cA q84 4 (fun _ => 0), aI cA q92 16 (fun _ => 0), aI cA q100 14 (fun _ => 0), aZ cA q108 16 (fun _ => 0), aI cA q116 14 (fun _ => 0), aI cA z 14 (fun _ => 0)]) dX9_init_124 kw_533 (by decide) (by decide) (by decide) (by rw [hrc]; exact Nat.le_of_ble_eq_true rfl) (by rw [hrs]; exact Nat.le_of_ble_eq_true rfl) rfl rfl (fun _ => rfl) (fun q124 => ?_)
  refine g_putF C 126 0 16 (ws' := [oB q_t 9 [.int (0 : Int32), .ref q12, .ref q20, .ref q29, .int (0 : Int32), .ref q42, .int (0 : Int32), .ref q55, .ref q63, .ref q72, .int (2 : Int32), .ref q84, .ref q92, .ref q100, .ref q108, .ref q116, .ref q124, .null, .null, .null, .long 0, .long 0, .long 0], aI cA q12 14 (fun _ => 0), aI cA q20 14 (fun _ => 0), aI cA q29 196 (fun _ => 0), aI cA q42 14 (fun _ => 0), aI cA q55 14 (fun _ => 0), aI cA q63 14 (fun _ => 0), aI cA q72 16384 (fun _ => 0), aI cA q84 4 (fun _ => 0), aI cA q92 16 (fun _ => 0), aI cA q100 14 (fun _ => 0), aZ cA q108 16 (fun _ => 0), aI cA q116 14 (fun _ => 0), aI cA q124 14 (fun _ => 0)]) tyX9 dX9_init_126 inX9 tyX9_ok nmX9 rfl rfl (by decide) kw_412 rfl hnm rfl rfl rfl (Nat.le_of_ble_eq_true rfl) rfl ?_
  refine g_aload_n C 129 0 dX9_init_129 rfl rfl ?_
  refine g_sipush C 130 (14336 : Int32) dX9_init_130 (by decide) ?_
  refine g_newJ C 133 14336 14 31064 (fun z => [oB q_t 9 [.int (0 : Int32), .ref q12, .ref q20, .ref q29, .int (0 : Int32), .ref q42, .int (0 : Int32), .ref q55, .ref q63, .ref q72, .int (2 : Int32), .ref q84, .ref q92, .ref q100, .ref q108, .ref q116, .ref q124, .null, .null, .null, .long 0, .long 0, .long 0], aI cA q12 14 (fun _ => 0), aI cA q20 14 (fun _ => 0), aI cA q29 196 (fun _ => 0), aI cA q42 14 (fun _ => 0), aI cA q55 14 (fun _ => 0), aI cA q63 14 (fun _ => 0), aI cA q72 16384 (fun _ => 0), aI cA q84 4 (fun _ => 0), aI cA q92 16 (fun _ => 0), aI cA q100 14 (fun _ => 0), aZ cA q108 16 (fun _ => 0), aI cA q116 14 (fun _ => 0), aI cA q124 14 (fun _ => 0), aJ cA z 14336 (fun _ => 0)]) dX9_init_133 kw_568 (by decide) (by decide) (by decide) (by rw [hrc]; exact Nat.le_of_ble_eq_true rfl) (by rw [hrs]; exact Nat.le_of_ble_eq_true rfl) rfl rfl (fun _ => rfl) (fun q133 => ?_)
  refine g_putF C 135 0 17 (ws' := [oB q_t 9 [.int (0 : Int32), .ref q12, .ref q20, .ref q29, .int (0 : Int32), .ref q42, .int (0 : Int32), .ref q55, .ref q63, .ref q72, .int (2 : Int32), .ref q84, .ref q92, .ref q100, .ref q108, .ref q116, .ref q124, .ref q133, .null, .null, .long 0, .long 0, .long 0], aI cA q12 14 (fun _ => 0), aI cA q20 14 (fun _ => 0), aI cA q29 196 (fun _ => 0), aI cA q42 14 (fun _ => 0), aI cA q55 14 (fun _ => 0), aI cA q63 14 (fun _ => 0), aI cA q72 16384 (fun _ => 0), aI cA q84 4 (fun _ => 0), aI cA q92 16 (fun _ => 0), aI cA q100 14 (fun _ => 0), aZ cA q108 16 (fun _ => 0), aI cA q116 14 (fun _ => 0), aI cA q124 14 (fun _ => 0), aJ cA q133 14336 (fun _ => 0)]) tyX9 dX9_init_135 inX9 tyX9_ok nmX9 rfl rfl (by decide) kw_421 rfl hnm rfl rfl rfl (Nat.le_of_ble_eq_true rfl) rfl ?_
  refine g_aload_n C 138 0 dX9_init_138 rfl rfl ?_
  refine g_sipush C 139 (14336 : Int32) dX9_init_139 (by decide) ?_
  refine g_newJ C 142 14336 15 45400 (fun z => [oB q_t 9 [.int (0 : Int32), .ref q12, .ref q20, .ref q29, .int (0 : Int32), .ref q42, .int (0 : Int32), .ref q55, .ref q63, .ref q72, .int (2 : Int32), .ref q84, .ref q92, .ref q100, .ref q108, .ref q116, .ref q124, .ref q133, .null, .null, .long 0, .long 0, .long 0], aI cA q12 14 (fun _ => 0), aI cA q20 14 (fun _ => 0), aI cA q29 196 (fun _ => 0), aI cA q42 14 (fun _ => 0), aI cA q55 14 (fun _ => 0), aI cA q63 14 (fun _ => 0), aI cA q72 16384 (fun _ => 0), aI cA q84 4 (fun _ => 0), aI cA q92 16 (fun _ => 0), aI cA q100 14 (fun _ => 0), aZ cA q108 16 (fun _ => 0), aI cA q116 14 (fun _ => 0), aI cA q124 14 (fun _ => 0), aJ cA q133 14336 (fun _ => 0), aJ cA z 14336 (fun _ => 0)]) dX9_init_142 kw_568 (by decide) (by decide) (by decide) (by rw [hrc]; exact Nat.le_of_ble_eq_true rfl) (by rw [hrs]; exact Nat.le_of_ble_eq_true rfl) rfl rfl (fun _ => rfl) (fun q142 => ?_)
  refine g_putF C 144 0 18 (ws' := [oB q_t 9 [.int (0 : Int32), .ref q12, .ref q20, .ref q29, .int (0 : Int32), .ref q42, .int (0 : Int32), .ref q55, .ref q63, .ref q72, .int (2 : Int32), .ref q84, .ref q92, .ref q100, .ref q108, .ref q116, .ref q124, .ref q133, .ref q142, .null, .long 0, .long 0, .long 0], aI cA q12 14 (fun _ => 0), aI cA q20 14 (fun _ => 0), aI cA q29 196 (fun _ => 0), aI cA q42 14 (fun _ => 0), aI cA q55 14 (fun _ => 0), aI cA q63 14 (fun _ => 0), aI cA q72 16384 (fun _ => 0), aI cA q84 4 (fun _ => 0), aI cA q92 16 (fun _ => 0), aI cA q100 14 (fun _ => 0), aZ cA q108 16 (fun _ => 0), aI cA q116 14 (fun _ => 0), aI cA q124 14 (fun _ => 0), aJ cA q133 14336 (fun _ => 0), aJ cA q142 14336 (fun _ => 0)]) tyX9 dX9_init_144 inX9 tyX9_ok nmX9 rfl rfl (by decide) kw_422 rfl hnm rfl rfl rfl (Nat.le_of_ble_eq_true rfl) rfl ?_
  refine g_aload_n C 147 0 dX9_init_147 rfl rfl ?_
  refine g_sipush C 148 (14336 : Int32) dX9_init_148 (by decide) ?_
  refine g_newJ C 151 14336 16 59736 (fun z => [oB q_t 9 [.int (0 : Int32), .ref q12, .ref q20, .ref q29, .int (0 : Int32), .ref q42, .int (0 : Int32), .ref q55, .ref q63, .ref q72, .int (2 : Int32), .ref q84, .ref q92, .ref q100, .ref q108, .ref q116, .ref q124, .ref q133, .ref q142, .null, .long 0, .long 0, .long 0], aI cA q12 14 (fun _ => 0), aI cA q20 14 (fun _ => 0), aI cA q29 196 (fun _ => 0), aI cA q42 14 (fun _ => 0), aI cA q55 14 (fun _ => 0), aI cA q63 14 (fun _ => 0), aI cA q72 16384 (fun _ => 0), aI cA q84 4 (fun _ => 0), aI cA q92 16 (fun _ => 0), aI cA q100 14 (fun _ => 0), aZ cA q108 16 (fun _ => 0), aI cA q116 14 (fun _ => 0), aI cA q124 14 (fun _ => 0), aJ cA q133 14336 (fun _ => 0), aJ cA q142 14336 (fun _ => 0), aJ cA z 14336 (fun _ => 0)]) dX9_init_151 kw_568 (by decide) (by decide) (by decide) (by rw [hrc]; exact Nat.le_of_ble_eq_true rfl) (by rw [hrs]; exact Nat.le_of_ble_eq_true rfl) rfl rfl (fun _ => rfl) (fun q151 => ?_)
  refine g_putF C 153 0 19 (ws' := [oB q_t 9 [.int (0 : Int32), .ref q12, .ref q20, .ref q29, .int (0 : Int32), .ref q42, .int (0 : Int32), .ref q55, .ref q63, .ref q72, .int (2 : Int32), .ref q84, .ref q92, .ref q100, .ref q108, .ref q116, .ref q124, .ref q133, .ref q142, .ref q151, .long 0, .long 0, .long 0], aI cA q12 14 (fun _ => 0), aI cA q20 14 (fun _ => 0), aI cA q29 196 (fun _ => 0), aI cA q42 14 (fun _ => 0), aI cA q55 14 (fun _ => 0), aI cA q63 14 (fun _ => 0), aI cA q72 16384 (fun _ => 0), aI cA q84 4 (fun _ => 0), aI cA q92 16 (fun _ => 0), aI cA q100 14 (fun _ => 0), aZ cA q108 16 (fun _ => 0), aI cA q116 14 (fun _ => 0), aI cA q124 14 (fun _ => 0), aJ cA q133 14336 (fun _ => 0), aJ cA q142 14336 (fun _ => 0), aJ cA q151 14336 (fun _ => 0)]) tyX9 dX9_init_153 inX9 tyX9_ok nmX9 rfl rfl (by decide) kw_423 rfl hnm rfl rfl rfl (Nat.le_of_ble_eq_true rfl) rfl ?_
  refine g_aload_n C 156 0 dX9_init_156 rfl rfl ?_
  refine g_lconst C 157 (0 : Int64) dX9_init_157 (by decide) ?_
  refine g_putV C 158 0 20 (ws' := [oB q_t 9 [.int (0 : Int32), .ref q12, .ref q20, .ref q29, .int (0 : Int32), .ref q42, .int (0 : Int32), .ref q55, .ref q63, .ref q72, .int (2 : Int32), .ref q84, .ref q92, .ref q100, .ref q108, .ref q116, .ref q124, .ref q133, .ref q142, .ref q151, .long (0 : Int64), .long 0, .long 0], aI cA q12 14 (fun _ => 0), aI cA q20 14 (fun _ => 0), aI cA q29 196 (fun _ => 0), aI cA q42 14 (fun _ => 0), aI cA q55 14 (fun _ => 0), aI cA q63 14 (fun _ => 0), aI cA q72 16384 (fun _ => 0), aI cA q84 4 (fun _ => 0), aI cA q92 16 (fun _ => 0), aI cA q100 14 (fun _ => 0), aZ cA q108 16 (fun _ => 0), aI cA q116 14 (fun _ => 0), aI cA q124 14 (fun _ => 0), aJ cA q133 14336 (fun _ => 0), aJ cA q142 14336 (fun _ => 0), aJ cA q151 14336 (fun _ => 0)]) tyX9 dX9_init_158 inX9 tyX9_ok nmX9 rfl rfl (by decide) kw_424 rfl rfl rfl (Nat.le_of_ble_eq_true rfl) rfl ?_
  refine g_aload_n C 161 0 dX9_init_161 rfl rfl ?_
  refine g_lconst C 162 (0 : Int64) dX9_init_162 (by decide) ?_
  refine g_putV C 163 0 21 (ws' := [oB q_t 9 [.int (0 : Int32), .ref q12, .ref q20, .ref q29, .int (0 : Int32), .ref q42, .int (0 : Int32), .ref q55, .ref q63, .ref q72, .int (2 : Int32), .ref q84, .ref q92, .ref q100, .ref q108, .ref q116, .ref q124, .ref q133, .ref q142, .ref q151, .long (0 : Int64), .long (0 : Int64), .long 0], aI cA q12 14 (fun _ => 0), aI cA q20 14 (fun _ => 0), aI cA q29 196 (fun _ => 0), aI cA q42 14 (fun _ => 0), aI cA q55 14 (fun _ => 0), aI cA q63 14 (fun _ => 0), aI cA q72 16384 (fun _ => 0), aI cA q84 4 (fun _ => 0), aI cA q92 16 (fun _ => 0), aI cA q100 14 (fun _ => 0), aZ cA q108 16 (fun _ => 0), aI cA q116 14 (fun _ => 0), aI cA q124 14 (fun _ => 0), aJ cA q133 14336 (fun _ => 0), aJ cA q142 14336 (fun _ => 0), aJ cA q151 14336 (fun _ => 0)]) tyX9 dX9_init_163 inX9 tyX9_ok nmX9 rfl rfl (by decide) kw_425 rfl rfl rfl (Nat.le_of_ble_eq_true rfl) rfl ?_
  refine g_aload_n C 166 0 dX9_init_166 rfl rfl ?_
  refine g_lconst C 167 (0 : Int64) dX9_init_167 (by decide) ?_
  refine g_putV C 168 0 22 (ws' := [oB q_t 9 [.int (0 : Int32), .ref q12, .ref q20, .ref q29, .int (0 : Int32), .ref q42, .int (0 : Int32), .ref q55, .ref q63, .ref q72, .int (2 : Int32), .ref q84, .ref q92, .ref q100, .ref q108, .ref q116, .ref q124, .ref q133, .ref q142, .ref q151, .long (0 : Int64), .long (0 : Int64), .long (0 : Int64)], aI cA q12 14 (fun _ => 0), aI cA q20 14 (fun _ => 0), aI cA q29 196 (fun _ => 0), aI cA q42 14 (fun _ => 0), aI cA q55 14 (fun _ => 0), aI cA q63 14 (fun _ => 0), aI cA q72 16384 (fun _ => 0), aI cA q84 4 (fun _ => 0), aI cA q92 16 (fun _ => 0), aI cA q100 14 (fun _ => 0), aZ cA q108 16 (fun _ => 0), aI cA q116 14 (fun _ => 0), aI cA q124 14 (fun _ => 0), aJ cA q133 14336 (fun _ => 0), aJ cA q142 14336 (fun _ => 0), aJ cA q151 14336 (fun _ => 0)]) tyX9 dX9_init_168 inX9 tyX9_ok nmX9 rfl rfl (by decide) kw_426 rfl rfl rfl (Nat.le_of_ble_eq_true rfl) rfl ?_
  exact g_vret C 171 dX9_init_171 F ⟨q12, q20, q29, q42, q55, q63, q72, q84, q92, q100, q108, q116, q124, q133, q142, q151, rfl, rfl⟩
