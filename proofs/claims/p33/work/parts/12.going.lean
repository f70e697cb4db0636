theorem dX1_start_0 : decode cX1_start 0 = .ok (.aload_n 1, 1) := by decide +kernel
theorem dX1_start_1 : decode cX1_start 1 = .ok (.getfield 15, 3) := by decide +kernel
theorem dX1_start_4 : decode cX1_start 4 = .ok (.iconst 0, 1) := by decide +kernel
theorem dX1_start_5 : decode cX1_start 5 = .ok (.aload_n 0, 1) := by decide +kernel
theorem dX1_start_6 : decode cX1_start 6 = .ok (.getfield 9, 3) := by decide +kernel
theorem dX1_start_9 : decode cX1_start 9 = .ok (.iconst 0, 1) := by decide +kernel
theorem dX1_start_10 : decode cX1_start 10 = .ok (.bipush 14, 2) := by decide +kernel
theorem dX1_start_12 : decode cX1_start 12 = .ok (.invokestatic 18, 3) := by decide +kernel
theorem dX1_start_15 : decode cX1_start 15 = .ok (.aload_n 0, 1) := by decide +kernel
theorem dX1_start_16 : decode cX1_start 16 = .ok (.aload_n 1, 1) := by decide +kernel
theorem dX1_start_17 : decode cX1_start 17 = .ok (.invokevirtual 24, 3) := by decide +kernel
theorem dX1_start_20 : decode cX1_start 20 = .ok (.putfield 28, 3) := by decide +kernel
theorem dX1_start_23 : decode cX1_start 23 = .ok (.aload_n 0, 1) := by decide +kernel
theorem dX1_start_24 : decode cX1_start 24 = .ok (.iconst 0, 1) := by decide +kernel
theorem dX1_start_25 : decode cX1_start 25 = .ok (.putfield 32, 3) := by decide +kernel
theorem dX1_start_28 : decode cX1_start 28 = .ok (.return_, 1) := by decide +kernel
theorem dX1_startAs_0 : decode cX1_startAs 0 = .ok (.aload_n 1, 1) := by decide +kernel
theorem dX1_startAs_1 : decode cX1_startAs 1 = .ok (.getfield 9, 3) := by decide +kernel
theorem dX1_startAs_4 : decode cX1_startAs 4 = .ok (.iconst 0, 1) := by decide +kernel
theorem dX1_startAs_5 : decode cX1_startAs 5 = .ok (.aload_n 0, 1) := by decide +kernel
theorem dX1_startAs_6 : decode cX1_startAs 6 = .ok (.getfield 9, 3) := by decide +kernel
theorem dX1_startAs_9 : decode cX1_startAs 9 = .ok (.iconst 0, 1) := by decide +kernel
theorem dX1_startAs_10 : decode cX1_startAs 10 = .ok (.bipush 14, 2) := by decide +kernel
theorem dX1_startAs_12 : decode cX1_startAs 12 = .ok (.invokestatic 18, 3) := by decide +kernel
theorem dX1_startAs_15 : decode cX1_startAs 15 = .ok (.aload_n 0, 1) := by decide +kernel
theorem dX1_startAs_16 : decode cX1_startAs 16 = .ok (.aload_n 1, 1) := by decide +kernel
theorem dX1_startAs_17 : decode cX1_startAs 17 = .ok (.getfield 28, 3) := by decide +kernel
theorem dX1_startAs_20 : decode cX1_startAs 20 = .ok (.putfield 28, 3) := by decide +kernel
theorem dX1_startAs_23 : decode cX1_startAs 23 = .ok (.aload_n 0, 1) := by decide +kernel
theorem dX1_startAs_24 : decode cX1_startAs 24 = .ok (.aload_n 1, 1) := by decide +kernel
theorem dX1_startAs_25 : decode cX1_startAs 25 = .ok (.getfield 32, 3) := by decide +kernel
theorem dX1_startAs_28 : decode cX1_startAs 28 = .ok (.putfield 32, 3) := by decide +kernel
theorem dX1_startAs_31 : decode cX1_startAs 31 = .ok (.return_, 1) := by decide +kernel
theorem dX1_letGo_0 : decode cX1_letGo 0 = .ok (.aload_n 0, 1) := by decide +kernel
theorem dX1_letGo_1 : decode cX1_letGo 1 = .ok (.getfield 9, 3) := by decide +kernel
theorem dX1_letGo_4 : decode cX1_letGo 4 = .ok (.iload_n 1, 1) := by decide +kernel
theorem dX1_letGo_5 : decode cX1_letGo 5 = .ok (.iaload, 1) := by decide +kernel
theorem dX1_letGo_6 : decode cX1_letGo 6 = .ok (.istore_n 2, 1) := by decide +kernel
theorem dX1_letGo_7 : decode cX1_letGo 7 = .ok (.aload_n 0, 1) := by decide +kernel
theorem dX1_letGo_8 : decode cX1_letGo 8 = .ok (.iload_n 1, 1) := by decide +kernel
theorem dX1_letGo_9 : decode cX1_letGo 9 = .ok (.invokevirtual 35, 3) := by decide +kernel
theorem dX1_letGo_12 : decode cX1_letGo 12 = .ok (.iconst 0, 1) := by decide +kernel
theorem dX1_letGo_13 : decode cX1_letGo 13 = .ok (.istore_n 3, 1) := by decide +kernel
theorem dX1_letGo_14 : decode cX1_letGo 14 = .ok (.iload_n 3, 1) := by decide +kernel
theorem dX1_letGo_15 : decode cX1_letGo 15 = .ok (.bipush 14, 2) := by decide +kernel
theorem dX1_letGo_17 : decode cX1_letGo 17 = .ok (.if_icmp .ge 63, 3) := by decide +kernel
theorem dX1_letGo_20 : decode cX1_letGo 20 = .ok (.iload_n 2, 1) := by decide +kernel
theorem dX1_letGo_21 : decode cX1_letGo 21 = .ok (.iload_n 3, 1) := by decide +kernel
theorem dX1_letGo_22 : decode cX1_letGo 22 = .ok (.invokestatic 39, 3) := by decide +kernel
theorem dX1_letGo_25 : decode cX1_letGo 25 = .ok (.ifCond .ne 6, 3) := by decide +kernel
theorem dX1_letGo_28 : decode cX1_letGo 28 = .ok (.goto 46, 3) := by decide +kernel
theorem dX1_letGo_31 : decode cX1_letGo 31 = .ok (.iload_n 2, 1) := by decide +kernel
theorem dX1_letGo_32 : decode cX1_letGo 32 = .ok (.aload_n 0, 1) := by decide +kernel
theorem dX1_letGo_33 : decode cX1_letGo 33 = .ok (.getfield 9, 3) := by decide +kernel
theorem dX1_letGo_36 : decode cX1_letGo 36 = .ok (.iload_n 3, 1) := by decide +kernel
theorem dX1_letGo_37 : decode cX1_letGo 37 = .ok (.iaload, 1) := by decide +kernel
theorem dX1_letGo_38 : decode cX1_letGo 38 = .ok (.iconst (-1), 1) := by decide +kernel
theorem dX1_letGo_39 : decode cX1_letGo 39 = .ok (.ixor, 1) := by decide +kernel
theorem dX1_letGo_40 : decode cX1_letGo 40 = .ok (.iand, 1) := by decide +kernel
theorem dX1_letGo_41 : decode cX1_letGo 41 = .ok (.iconst 1, 1) := by decide +kernel
theorem dX1_letGo_42 : decode cX1_letGo 42 = .ok (.iload_n 3, 1) := by decide +kernel
theorem dX1_letGo_43 : decode cX1_letGo 43 = .ok (.ishl, 1) := by decide +kernel
theorem dX1_letGo_44 : decode cX1_letGo 44 = .ok (.iconst (-1), 1) := by decide +kernel
theorem dX1_letGo_45 : decode cX1_letGo 45 = .ok (.ixor, 1) := by decide +kernel
theorem dX1_letGo_46 : decode cX1_letGo 46 = .ok (.iand, 1) := by decide +kernel
theorem dX1_letGo_47 : decode cX1_letGo 47 = .ok (.istore 4, 2) := by decide +kernel
theorem dX1_letGo_49 : decode cX1_letGo 49 = .ok (.aload_n 0, 1) := by decide +kernel
theorem dX1_letGo_50 : decode cX1_letGo 50 = .ok (.dup, 1) := by decide +kernel
theorem dX1_letGo_51 : decode cX1_letGo 51 = .ok (.getfield 32, 3) := by decide +kernel
theorem dX1_letGo_54 : decode cX1_letGo 54 = .ok (.iload 4, 2) := by decide +kernel
theorem dX1_letGo_56 : decode cX1_letGo 56 = .ok (.invokestatic 43, 3) := by decide +kernel
theorem dX1_letGo_59 : decode cX1_letGo 59 = .ok (.iadd, 1) := by decide +kernel
theorem dX1_letGo_60 : decode cX1_letGo 60 = .ok (.putfield 32, 3) := by decide +kernel
theorem dX1_letGo_63 : decode cX1_letGo 63 = .ok (.aload_n 0, 1) := by decide +kernel
theorem dX1_letGo_64 : decode cX1_letGo 64 = .ok (.getfield 9, 3) := by decide +kernel
theorem dX1_letGo_67 : decode cX1_letGo 67 = .ok (.iload_n 3, 1) := by decide +kernel
theorem dX1_letGo_68 : decode cX1_letGo 68 = .ok (.dup2, 1) := by decide +kernel
theorem dX1_letGo_69 : decode cX1_letGo 69 = .ok (.iaload, 1) := by decide +kernel
theorem dX1_letGo_70 : decode cX1_letGo 70 = .ok (.iload 4, 2) := by decide +kernel
theorem dX1_letGo_72 : decode cX1_letGo 72 = .ok (.ior, 1) := by decide +kernel
theorem dX1_letGo_73 : decode cX1_letGo 73 = .ok (.iastore, 1) := by decide +kernel
theorem dX1_letGo_74 : decode cX1_letGo 74 = .ok (.iinc 3 1, 3) := by decide +kernel
theorem dX1_letGo_77 : decode cX1_letGo 77 = .ok (.goto (-63), 3) := by decide +kernel
theorem dX1_letGo_80 : decode cX1_letGo 80 = .ok (.return_, 1) := by decide +kernel
theorem dX1_takeAway_0 : decode cX1_takeAway 0 = .ok (.aload_n 0, 1) := by decide +kernel
theorem dX1_takeAway_1 : decode cX1_takeAway 1 = .ok (.getfield 9, 3) := by decide +kernel
theorem dX1_takeAway_4 : decode cX1_takeAway 4 = .ok (.iload_n 1, 1) := by decide +kernel
theorem dX1_takeAway_5 : decode cX1_takeAway 5 = .ok (.iaload, 1) := by decide +kernel
theorem dX1_takeAway_6 : decode cX1_takeAway 6 = .ok (.istore_n 2, 1) := by decide +kernel
theorem dX1_takeAway_7 : decode cX1_takeAway 7 = .ok (.iconst 0, 1) := by decide +kernel
theorem dX1_takeAway_8 : decode cX1_takeAway 8 = .ok (.istore_n 3, 1) := by decide +kernel
theorem dX1_takeAway_9 : decode cX1_takeAway 9 = .ok (.iload_n 3, 1) := by decide +kernel
theorem dX1_takeAway_10 : decode cX1_takeAway 10 = .ok (.bipush 14, 2) := by decide +kernel
theorem dX1_takeAway_12 : decode cX1_takeAway 12 = .ok (.if_icmp .ge 31, 3) := by decide +kernel
theorem dX1_takeAway_15 : decode cX1_takeAway 15 = .ok (.iload_n 2, 1) := by decide +kernel
theorem dX1_takeAway_16 : decode cX1_takeAway 16 = .ok (.iload_n 3, 1) := by decide +kernel
theorem dX1_takeAway_17 : decode cX1_takeAway 17 = .ok (.invokestatic 39, 3) := by decide +kernel
theorem dX1_takeAway_20 : decode cX1_takeAway 20 = .ok (.ifCond .eq 17, 3) := by decide +kernel
theorem dX1_takeAway_23 : decode cX1_takeAway 23 = .ok (.aload_n 0, 1) := by decide +kernel
theorem dX1_takeAway_24 : decode cX1_takeAway 24 = .ok (.getfield 9, 3) := by decide +kernel
theorem dX1_takeAway_27 : decode cX1_takeAway 27 = .ok (.iload_n 3, 1) := by decide +kernel
theorem dX1_takeAway_28 : decode cX1_takeAway 28 = .ok (.dup2, 1) := by decide +kernel
theorem dX1_takeAway_29 : decode cX1_takeAway 29 = .ok (.iaload, 1) := by decide +kernel
theorem dX1_takeAway_30 : decode cX1_takeAway 30 = .ok (.iconst 1, 1) := by decide +kernel
theorem dX1_takeAway_31 : decode cX1_takeAway 31 = .ok (.iload_n 1, 1) := by decide +kernel
theorem dX1_takeAway_32 : decode cX1_takeAway 32 = .ok (.ishl, 1) := by decide +kernel
theorem dX1_takeAway_33 : decode cX1_takeAway 33 = .ok (.iconst (-1), 1) := by decide +kernel
theorem dX1_takeAway_34 : decode cX1_takeAway 34 = .ok (.ixor, 1) := by decide +kernel
theorem dX1_takeAway_35 : decode cX1_takeAway 35 = .ok (.iand, 1) := by decide +kernel
theorem dX1_takeAway_36 : decode cX1_takeAway 36 = .ok (.iastore, 1) := by decide +kernel
theorem dX1_takeAway_37 : decode cX1_takeAway 37 = .ok (.iinc 3 1, 3) := by decide +kernel
theorem dX1_takeAway_40 : decode cX1_takeAway 40 = .ok (.goto (-31), 3) := by decide +kernel
theorem dX1_takeAway_43 : decode cX1_takeAway 43 = .ok (.aload_n 0, 1) := by decide +kernel
theorem dX1_takeAway_44 : decode cX1_takeAway 44 = .ok (.getfield 9, 3) := by decide +kernel
theorem dX1_takeAway_47 : decode cX1_takeAway 47 = .ok (.iload_n 1, 1) := by decide +kernel
theorem dX1_takeAway_48 : decode cX1_takeAway 48 = .ok (.iconst 0, 1) := by decide +kernel
theorem dX1_takeAway_49 : decode cX1_takeAway 49 = .ok (.iastore, 1) := by decide +kernel
theorem dX1_takeAway_50 : decode cX1_takeAway 50 = .ok (.aload_n 0, 1) := by decide +kernel
theorem dX1_takeAway_51 : decode cX1_takeAway 51 = .ok (.dup, 1) := by decide +kernel
theorem dX1_takeAway_52 : decode cX1_takeAway 52 = .ok (.getfield 28, 3) := by decide +kernel
theorem dX1_takeAway_55 : decode cX1_takeAway 55 = .ok (.iconst 1, 1) := by decide +kernel
theorem dX1_takeAway_56 : decode cX1_takeAway 56 = .ok (.iload_n 1, 1) := by decide +kernel
theorem dX1_takeAway_57 : decode cX1_takeAway 57 = .ok (.ishl, 1) := by decide +kernel
theorem dX1_takeAway_58 : decode cX1_takeAway 58 = .ok (.iconst (-1), 1) := by decide +kernel
theorem dX1_takeAway_59 : decode cX1_takeAway 59 = .ok (.ixor, 1) := by decide +kernel
theorem dX1_takeAway_60 : decode cX1_takeAway 60 = .ok (.iand, 1) := by decide +kernel
theorem dX1_takeAway_61 : decode cX1_takeAway 61 = .ok (.putfield 28, 3) := by decide +kernel
theorem dX1_takeAway_64 : decode cX1_takeAway 64 = .ok (.return_, 1) := by decide +kernel
theorem dX1_loneliest_0 : decode cX1_loneliest 0 = .ok (.iconst 0, 1) := by decide +kernel
theorem dX1_loneliest_1 : decode cX1_loneliest 1 = .ok (.istore_n 1, 1) := by decide +kernel
theorem dX1_loneliest_2 : decode cX1_loneliest 2 = .ok (.bipush 14, 2) := by decide +kernel
theorem dX1_loneliest_4 : decode cX1_loneliest 4 = .ok (.istore_n 2, 1) := by decide +kernel
theorem dX1_loneliest_5 : decode cX1_loneliest 5 = .ok (.iconst 0, 1) := by decide +kernel
theorem dX1_loneliest_6 : decode cX1_loneliest 6 = .ok (.istore_n 3, 1) := by decide +kernel
theorem dX1_loneliest_7 : decode cX1_loneliest 7 = .ok (.iload_n 3, 1) := by decide +kernel
theorem dX1_loneliest_8 : decode cX1_loneliest 8 = .ok (.bipush 14, 2) := by decide +kernel
theorem dX1_loneliest_10 : decode cX1_loneliest 10 = .ok (.if_icmp .ge 45, 3) := by decide +kernel
theorem dX1_loneliest_13 : decode cX1_loneliest 13 = .ok (.aload_n 0, 1) := by decide +kernel
theorem dX1_loneliest_14 : decode cX1_loneliest 14 = .ok (.getfield 28, 3) := by decide +kernel
theorem dX1_loneliest_17 : decode cX1_loneliest 17 = .ok (.iload_n 3, 1) := by decide +kernel
theorem dX1_loneliest_18 : decode cX1_loneliest 18 = .ok (.invokestatic 39, 3) := by decide +kernel
theorem dX1_loneliest_21 : decode cX1_loneliest 21 = .ok (.ifCond .ne 6, 3) := by decide +kernel
theorem dX1_loneliest_24 : decode cX1_loneliest 24 = .ok (.goto 25, 3) := by decide +kernel
theorem dX1_loneliest_27 : decode cX1_loneliest 27 = .ok (.aload_n 0, 1) := by decide +kernel
theorem dX1_loneliest_28 : decode cX1_loneliest 28 = .ok (.getfield 9, 3) := by decide +kernel
theorem dX1_loneliest_31 : decode cX1_loneliest 31 = .ok (.iload_n 3, 1) := by decide +kernel
theorem dX1_loneliest_32 : decode cX1_loneliest 32 = .ok (.iaload, 1) := by decide +kernel
theorem dX1_loneliest_33 : decode cX1_loneliest 33 = .ok (.invokestatic 43, 3) := by decide +kernel
theorem dX1_loneliest_36 : decode cX1_loneliest 36 = .ok (.istore 4, 2) := by decide +kernel
theorem dX1_loneliest_38 : decode cX1_loneliest 38 = .ok (.iload 4, 2) := by decide +kernel
theorem dX1_loneliest_40 : decode cX1_loneliest 40 = .ok (.iload_n 2, 1) := by decide +kernel
theorem dX1_loneliest_41 : decode cX1_loneliest 41 = .ok (.if_icmp .ge 8, 3) := by decide +kernel
theorem dX1_loneliest_44 : decode cX1_loneliest 44 = .ok (.iload_n 3, 1) := by decide +kernel
theorem dX1_loneliest_45 : decode cX1_loneliest 45 = .ok (.istore_n 1, 1) := by decide +kernel
theorem dX1_loneliest_46 : decode cX1_loneliest 46 = .ok (.iload 4, 2) := by decide +kernel
theorem dX1_loneliest_48 : decode cX1_loneliest 48 = .ok (.istore_n 2, 1) := by decide +kernel
theorem dX1_loneliest_49 : decode cX1_loneliest 49 = .ok (.iinc 3 1, 3) := by decide +kernel
theorem dX1_loneliest_52 : decode cX1_loneliest 52 = .ok (.goto (-45), 3) := by decide +kernel
theorem dX1_loneliest_55 : decode cX1_loneliest 55 = .ok (.iload_n 1, 1) := by decide +kernel
theorem dX1_loneliest_56 : decode cX1_loneliest 56 = .ok (.ireturn, 1) := by decide +kernel
theorem dX1_harmless_0 : decode cX1_harmless 0 = .ok (.iconst 0, 1) := by decide +kernel
theorem dX1_harmless_1 : decode cX1_harmless 1 = .ok (.istore_n 2, 1) := by decide +kernel
theorem dX1_harmless_2 : decode cX1_harmless 2 = .ok (.iload_n 2, 1) := by decide +kernel
theorem dX1_harmless_3 : decode cX1_harmless 3 = .ok (.bipush 14, 2) := by decide +kernel
theorem dX1_harmless_5 : decode cX1_harmless 5 = .ok (.if_icmp .ge 48, 3) := by decide +kernel
theorem dX1_harmless_8 : decode cX1_harmless 8 = .ok (.aload_n 0, 1) := by decide +kernel
theorem dX1_harmless_9 : decode cX1_harmless 9 = .ok (.getfield 28, 3) := by decide +kernel
theorem dX1_harmless_12 : decode cX1_harmless 12 = .ok (.iload_n 2, 1) := by decide +kernel
theorem dX1_harmless_13 : decode cX1_harmless 13 = .ok (.invokestatic 39, 3) := by decide +kernel
theorem dX1_harmless_16 : decode cX1_harmless 16 = .ok (.ifCond .eq 31, 3) := by decide +kernel
theorem dX1_harmless_19 : decode cX1_harmless 19 = .ok (.aload_n 0, 1) := by decide +kernel
theorem dX1_harmless_20 : decode cX1_harmless 20 = .ok (.getfield 9, 3) := by decide +kernel
theorem dX1_harmless_23 : decode cX1_harmless 23 = .ok (.iload_n 2, 1) := by decide +kernel
theorem dX1_harmless_24 : decode cX1_harmless 24 = .ok (.iaload, 1) := by decide +kernel
theorem dX1_harmless_25 : decode cX1_harmless 25 = .ok (.invokestatic 43, 3) := by decide +kernel
theorem dX1_harmless_28 : decode cX1_harmless 28 = .ok (.iload_n 1, 1) := by decide +kernel
theorem dX1_harmless_29 : decode cX1_harmless 29 = .ok (.if_icmp .gt 18, 3) := by decide +kernel
theorem dX1_harmless_32 : decode cX1_harmless 32 = .ok (.aload_n 0, 1) := by decide +kernel
theorem dX1_harmless_33 : decode cX1_harmless 33 = .ok (.aload_n 0, 1) := by decide +kernel
theorem dX1_harmless_34 : decode cX1_harmless 34 = .ok (.getfield 9, 3) := by decide +kernel
theorem dX1_harmless_37 : decode cX1_harmless 37 = .ok (.iload_n 2, 1) := by decide +kernel
theorem dX1_harmless_38 : decode cX1_harmless 38 = .ok (.iaload, 1) := by decide +kernel
theorem dX1_harmless_39 : decode cX1_harmless 39 = .ok (.invokevirtual 49, 3) := by decide +kernel
theorem dX1_harmless_42 : decode cX1_harmless 42 = .ok (.ifCond .eq 5, 3) := by decide +kernel
theorem dX1_harmless_45 : decode cX1_harmless 45 = .ok (.iload_n 2, 1) := by decide +kernel
theorem dX1_harmless_46 : decode cX1_harmless 46 = .ok (.ireturn, 1) := by decide +kernel
theorem dX1_harmless_47 : decode cX1_harmless 47 = .ok (.iinc 2 1, 3) := by decide +kernel
theorem dX1_harmless_50 : decode cX1_harmless 50 = .ok (.goto (-48), 3) := by decide +kernel
theorem dX1_harmless_53 : decode cX1_harmless 53 = .ok (.iconst (-1), 1) := by decide +kernel
theorem dX1_harmless_54 : decode cX1_harmless 54 = .ok (.ireturn, 1) := by decide +kernel
theorem dX1_isNearlyJoined_0 : decode cX1_isNearlyJoined 0 = .ok (.iconst 0, 1) := by decide +kernel
theorem dX1_isNearlyJoined_1 : decode cX1_isNearlyJoined 1 = .ok (.istore_n 2, 1) := by decide +kernel
theorem dX1_isNearlyJoined_2 : decode cX1_isNearlyJoined 2 = .ok (.iconst 0, 1) := by decide +kernel
theorem dX1_isNearlyJoined_3 : decode cX1_isNearlyJoined 3 = .ok (.istore_n 3, 1) := by decide +kernel
theorem dX1_isNearlyJoined_4 : decode cX1_isNearlyJoined 4 = .ok (.iconst 0, 1) := by decide +kernel
theorem dX1_isNearlyJoined_5 : decode cX1_isNearlyJoined 5 = .ok (.istore 4, 2) := by decide +kernel
theorem dX1_isNearlyJoined_7 : decode cX1_isNearlyJoined 7 = .ok (.iload 4, 2) := by decide +kernel
theorem dX1_isNearlyJoined_9 : decode cX1_isNearlyJoined 9 = .ok (.bipush 14, 2) := by decide +kernel
theorem dX1_isNearlyJoined_11 : decode cX1_isNearlyJoined 11 = .ok (.if_icmp .ge 56, 3) := by decide +kernel
theorem dX1_isNearlyJoined_14 : decode cX1_isNearlyJoined 14 = .ok (.iload_n 1, 1) := by decide +kernel
theorem dX1_isNearlyJoined_15 : decode cX1_isNearlyJoined 15 = .ok (.iload 4, 2) := by decide +kernel
theorem dX1_isNearlyJoined_17 : decode cX1_isNearlyJoined 17 = .ok (.invokestatic 39, 3) := by decide +kernel
theorem dX1_isNearlyJoined_20 : decode cX1_isNearlyJoined 20 = .ok (.ifCond .ne 6, 3) := by decide +kernel
theorem dX1_isNearlyJoined_23 : decode cX1_isNearlyJoined 23 = .ok (.goto 38, 3) := by decide +kernel
theorem dX1_isNearlyJoined_26 : decode cX1_isNearlyJoined 26 = .ok (.iload_n 1, 1) := by decide +kernel
theorem dX1_isNearlyJoined_27 : decode cX1_isNearlyJoined 27 = .ok (.aload_n 0, 1) := by decide +kernel
theorem dX1_isNearlyJoined_28 : decode cX1_isNearlyJoined 28 = .ok (.getfield 9, 3) := by decide +kernel
theorem dX1_isNearlyJoined_31 : decode cX1_isNearlyJoined 31 = .ok (.iload 4, 2) := by decide +kernel
theorem dX1_isNearlyJoined_33 : decode cX1_isNearlyJoined 33 = .ok (.iaload, 1) := by decide +kernel
theorem dX1_isNearlyJoined_34 : decode cX1_isNearlyJoined 34 = .ok (.iconst (-1), 1) := by decide +kernel
theorem dX1_isNearlyJoined_35 : decode cX1_isNearlyJoined 35 = .ok (.ixor, 1) := by decide +kernel
theorem dX1_isNearlyJoined_36 : decode cX1_isNearlyJoined 36 = .ok (.iand, 1) := by decide +kernel
theorem dX1_isNearlyJoined_37 : decode cX1_isNearlyJoined 37 = .ok (.iconst 1, 1) := by decide +kernel
theorem dX1_isNearlyJoined_38 : decode cX1_isNearlyJoined 38 = .ok (.iload 4, 2) := by decide +kernel
theorem dX1_isNearlyJoined_40 : decode cX1_isNearlyJoined 40 = .ok (.ishl, 1) := by decide +kernel
theorem dX1_isNearlyJoined_41 : decode cX1_isNearlyJoined 41 = .ok (.iconst (-1), 1) := by decide +kernel
theorem dX1_isNearlyJoined_42 : decode cX1_isNearlyJoined 42 = .ok (.ixor, 1) := by decide +kernel
theorem dX1_isNearlyJoined_43 : decode cX1_isNearlyJoined 43 = .ok (.iand, 1) := by decide +kernel
theorem dX1_isNearlyJoined_44 : decode cX1_isNearlyJoined 44 = .ok (.invokestatic 43, 3) := by decide +kernel
theorem dX1_isNearlyJoined_47 : decode cX1_isNearlyJoined 47 = .ok (.istore 5, 2) := by decide +kernel
theorem dX1_isNearlyJoined_49 : decode cX1_isNearlyJoined 49 = .ok (.iload_n 2, 1) := by decide +kernel
theorem dX1_isNearlyJoined_50 : decode cX1_isNearlyJoined 50 = .ok (.iload 5, 2) := by decide +kernel
theorem dX1_isNearlyJoined_52 : decode cX1_isNearlyJoined 52 = .ok (.iadd, 1) := by decide +kernel
theorem dX1_isNearlyJoined_53 : decode cX1_isNearlyJoined 53 = .ok (.istore_n 2, 1) := by decide +kernel
theorem dX1_isNearlyJoined_54 : decode cX1_isNearlyJoined 54 = .ok (.iload_n 3, 1) := by decide +kernel
theorem dX1_isNearlyJoined_55 : decode cX1_isNearlyJoined 55 = .ok (.iload 5, 2) := by decide +kernel
theorem dX1_isNearlyJoined_57 : decode cX1_isNearlyJoined 57 = .ok (.invokestatic 53, 3) := by decide +kernel
theorem dX1_isNearlyJoined_60 : decode cX1_isNearlyJoined 60 = .ok (.istore_n 3, 1) := by decide +kernel
theorem dX1_isNearlyJoined_61 : decode cX1_isNearlyJoined 61 = .ok (.iinc 4 1, 3) := by decide +kernel
theorem dX1_isNearlyJoined_64 : decode cX1_isNearlyJoined 64 = .ok (.goto (-57), 3) := by decide +kernel
theorem dX1_isNearlyJoined_67 : decode cX1_isNearlyJoined 67 = .ok (.iload_n 2, 1) := by decide +kernel
theorem dX1_isNearlyJoined_68 : decode cX1_isNearlyJoined 68 = .ok (.iconst 2, 1) := by decide +kernel
theorem dX1_isNearlyJoined_69 : decode cX1_isNearlyJoined 69 = .ok (.iload_n 3, 1) := by decide +kernel
theorem dX1_isNearlyJoined_70 : decode cX1_isNearlyJoined 70 = .ok (.imul, 1) := by decide +kernel
theorem dX1_isNearlyJoined_71 : decode cX1_isNearlyJoined 71 = .ok (.if_icmp .ne 7, 3) := by decide +kernel
theorem dX1_isNearlyJoined_74 : decode cX1_isNearlyJoined 74 = .ok (.iconst 1, 1) := by decide +kernel
theorem dX1_isNearlyJoined_75 : decode cX1_isNearlyJoined 75 = .ok (.goto 4, 3) := by decide +kernel
theorem dX1_isNearlyJoined_78 : decode cX1_isNearlyJoined 78 = .ok (.iconst 0, 1) := by decide +kernel
theorem dX1_isNearlyJoined_79 : decode cX1_isNearlyJoined 79 = .ok (.ireturn, 1) := by decide +kernel
def L_X1_takeAway_9 (a1 : Int32)  : Nat → Int32 → Int32 → Int32 → (Nat → Int32) → Option (Int32 × (Nat → Int32))
  | 0, _, _, _, _ => none
  | n + 1, x2, x3, t_left, t_near =>
    if (14 : Int32) ≤ x3 then
      stI t_near 14 a1 (0 : Int32) fun t_near_4 =>
      bnd (t_left &&& (((1 : Int32) <<< (a1 &&& 31)) ^^^ (-1 : Int32))) fun t_left_5 =>
      some (t_left_5, t_near_4)
    else
      cal (f_X8_hasBit x2 x3) fun u6 =>
      if u6 = 0 then
        bnd (x3 + (1 : Int32)) fun x3_7 =>
        L_X1_takeAway_9 a1 n x2 x3_7 t_left t_near
      else
        ldA t_near 14 x3 fun v8 =>
        stI t_near 14 x3 (v8 &&& (((1 : Int32) <<< (a1 &&& 31)) ^^^ (-1 : Int32))) fun t_near_9 =>
        bnd (x3 + (1 : Int32)) fun x3_10 =>
        L_X1_takeAway_9 a1 n x2 x3_10 t_left t_near_9

set_option maxRecDepth 100000 in
set_option maxHeartbeats 1000000 in
theorem w_X1_takeAway_9 (cA : Nat → ClassId) (q_t : Nat) (t_newEnds : Int32) (q_t_near : Nat) (a1 : Int32) {X : XT}  (C : Cx X cX1_takeAway RX1 none cA 1 21 4) {kk nn : Nat} {BB : Option Value → va_W → Prop} (hk : kk ≤ (x_R X).cells ∧ nn ≤ (x_R X).slots) (F : Fx X BB kk nn) (r : Int32 × (Nat → Int32)) (hB : BB (none) [oB q_t 1 [.ref q_t_near, .int r.1, .int t_newEnds], aI cA q_t_near 14 r.2])  : ∀ (n : Nat) (x2 : Int32) (x3 : Int32) (t_left : Int32) (t_near : Nat → Int32), L_X1_takeAway_9 a1 n x2 x3 t_left t_near = some r → Go X 4 kk nn 9 [oB q_t 1 [.ref q_t_near, .int t_left, .int t_newEnds], aI cA q_t_near 14 t_near] [(0, .ref q_t), (1, .int a1), (2, .int x2), (3, .int x3)] [] := by
  intro n
  induction n with
  | zero => intro x2 x3 t_left t_near hf; exact no_some hf
  | succ n ih =>
    intro x2 x3 t_left t_near hf
    rw [L_X1_takeAway_9] at hf
    refine g_iload_n C 9 3 dX1_takeAway_9 rfl rfl ?_
    refine g_bipush C 10 (14 : Int32) dX1_takeAway_10 (by decide) ?_
    refine g_icmp_ge C 12 43 dX1_takeAway_12 (by decide) hf (fun hf => ?_) (fun hf => ?_)
    · refine g_aload_n C 43 0 dX1_takeAway_43 rfl rfl ?_
      refine g_get C 44 0 0 dX1_takeAway_44 inX1 rfl rfl (by decide) kw_8 rfl ?_
      refine g_iload_n C 47 1 dX1_takeAway_47 rfl rfl ?_
      refine g_iconst C 48 (0 : Int32) dX1_takeAway_48 (by decide) ?_
      refine g_iast C 49 1 (fun z => [oB q_t 1 [.ref q_t_near, .int t_left, .int t_newEnds], aI cA q_t_near 14 z]) dX1_takeAway_49 rfl (fun _ => rfl) hf (fun t_near_4 hf => ?_)
      refine g_aload_n C 50 0 dX1_takeAway_50 rfl rfl ?_
      refine g_dup C 51 dX1_takeAway_51 rfl ?_
      refine g_get C 52 0 1 dX1_takeAway_52 inX1 rfl rfl (by decide) kw_9 rfl ?_
      refine g_iconst C 55 (1 : Int32) dX1_takeAway_55 (by decide) ?_
      refine g_iload_n C 56 1 dX1_takeAway_56 rfl rfl ?_
      refine g_ishl C 57 dX1_takeAway_57 ?_
      refine g_iconst C 58 (-1 : Int32) dX1_takeAway_58 (by decide) ?_
      refine g_ixor C 59 dX1_takeAway_59 ?_
      refine g_iand C 60 dX1_takeAway_60 ?_
      refine g_puti C 61 0 1 tyX1 (fun z => [oB q_t 1 [.ref q_t_near, .int z, .int t_newEnds], aI cA q_t_near 14 t_near_4]) dX1_takeAway_61 inX1 tyX1_ok nmX1 rfl rfl (by decide) kw_9 rfl rfl (Nat.le_of_ble_eq_true rfl) (fun _ => rfl) hf (fun t_left_5 hf => ?_)
      cases hf
      exact g_vret C 64 dX1_takeAway_64 F hB
    · refine g_iload_n C 15 2 dX1_takeAway_15 rfl rfl ?_
      refine g_iload_n C 16 3 dX1_takeAway_16 rfl rfl ?_
      obtain ⟨u6, hu6, hf⟩ := cal_some hf
      refine g_callSN C 17 [] (rest := []) dX1_takeAway_17 (c_X8_hasBit (x_l X) cA x2 x3 u6 hu6) (List.mem_of_getElem? (i := 9) rfl) kw_5 kw_6 kw_7 ok_X8_hasBit ⟨Nat.le_of_ble_eq_true rfl, Nat.le_of_ble_eq_true rfl⟩ hk ⟨rfl, rfl⟩ rfl rfl rfl (Nat.le_of_ble_eq_true rfl) rfl (ws' := [oB q_t 1 [.ref q_t_near, .int t_left, .int t_newEnds], aI cA q_t_near 14 t_near]) (st' := [.int u6]) (N0 := 2) rfl [none, none] (by decide) rfl rfl ?_
      refine g_if_eq C 20 37 dX1_takeAway_20 (by decide) hf (fun hf => ?_) (fun hf => ?_)
      · refine g_iinc C 37 3 (v := x3 + (1 : Int32)) (fun z => [(3, .int z), (0, .ref q_t), (1, .int a1), (2, .int x2)]) dX1_takeAway_37 rfl rfl (by decide) (fun _ => rfl) hf (fun x3_7 hf => ?_)
        refine g_goto C 40 9 dX1_takeAway_40 (by decide) ?_
        refine g_lv [1, 2, 3, 0] rfl ?_
        exact ih x2 x3_7 t_left t_near hf
      · refine g_aload_n C 23 0 dX1_takeAway_23 rfl rfl ?_
        refine g_get C 24 0 0 dX1_takeAway_24 inX1 rfl rfl (by decide) kw_8 rfl ?_
        refine g_iload_n C 27 3 dX1_takeAway_27 rfl rfl ?_
        refine g_dup2 C 28 dX1_takeAway_28 rfl rfl ?_
        refine g_iald C 29 1 dX1_takeAway_29 rfl hf (fun v8 hf => ?_)
        refine g_iconst C 30 (1 : Int32) dX1_takeAway_30 (by decide) ?_
        refine g_iload_n C 31 1 dX1_takeAway_31 rfl rfl ?_
        refine g_ishl C 32 dX1_takeAway_32 ?_
        refine g_iconst C 33 (-1 : Int32) dX1_takeAway_33 (by decide) ?_
        refine g_ixor C 34 dX1_takeAway_34 ?_
        refine g_iand C 35 dX1_takeAway_35 ?_
        refine g_iast C 36 1 (fun z => [oB q_t 1 [.ref q_t_near, .int t_left, .int t_newEnds], aI cA q_t_near 14 z]) dX1_takeAway_36 rfl (fun _ => rfl) hf (fun t_near_9 hf => ?_)
        refine g_iinc C 37 3 (v := x3 + (1 : Int32)) (fun z => [(3, .int z), (0, .ref q_t), (1, .int a1), (2, .int x2)]) dX1_takeAway_37 rfl rfl (by decide) (fun _ => rfl) hf (fun x3_10 hf => ?_)
        refine g_goto C 40 9 dX1_takeAway_40 (by decide) ?_
        refine g_lv [1, 2, 3, 0] rfl ?_
        exact ih x2 x3_10 t_left t_near_9 hf
def f_X1_takeAway (a1 : Int32) (t_left : Int32) (t_near : Nat → Int32) : Option (Int32 × (Nat → Int32)) :=
  ldA t_near 14 a1 fun v1 =>
  bnd v1 fun x2_2 =>
  bnd (0 : Int32) fun x3_3 =>
  L_X1_takeAway_9 a1 NN x2_2 x3_3 t_left t_near

set_option maxRecDepth 100000 in
set_option maxHeartbeats 1000000 in
theorem c_X1_takeAway (l : Launch) (cA : Nat → ClassId) (q_t : Nat) (t_left : Int32) (t_newEnds : Int32) (q_t_near : Nat) (t_near : Nat → Int32)  (a1 : Int32) (r : Int32 × (Nat → Int32)) (hf : f_X1_takeAway a1 t_left t_near = some r) : MT l cA yX1_takeAway cX1_takeAway 4 none ({ frames := 1, cells := 0, slots := 0, locals := 21 } : Room) [.ref q_t, .int a1] [oB q_t 1 [.ref q_t_near, .int t_left, .int t_newEnds], aI cA q_t_near 14 t_near] (sB (none) [oB q_t 1 [.ref q_t_near, .int r.1, .int t_newEnds], aI cA q_t_near 14 r.2]) := by
  refine MT.of (by decide) (Nat.le_of_ble_eq_true rfl) ?_
  intro X hXl C F hnm hrc hrs
  subst hXl
  have hk : 0 ≤ (x_R X).cells ∧ 0 ≤ (x_R X).slots := ⟨Nat.zero_le _, Nat.zero_le _⟩
  have hB : (sB (none) [oB q_t 1 [.ref q_t_near, .int r.1, .int t_newEnds], aI cA q_t_near 14 r.2]) (none) [oB q_t 1 [.ref q_t_near, .int r.1, .int t_newEnds], aI cA q_t_near 14 r.2] := ⟨rfl, rfl⟩
  unfold f_X1_takeAway at hf
  have C : Cx X cX1_takeAway RX1 none cA 1 21 4 := C
  show Go X 4 0 0 0 [oB q_t 1 [.ref q_t_near, .int t_left, .int t_newEnds], aI cA q_t_near 14 t_near] [(0, .ref q_t), (1, .int a1)] []
  refine g_aload_n C 0 0 dX1_takeAway_0 rfl rfl ?_
  refine g_get C 1 0 0 dX1_takeAway_1 inX1 rfl rfl (by decide) kw_8 rfl ?_
  refine g_iload_n C 4 1 dX1_takeAway_4 rfl rfl ?_
  refine g_iald C 5 1 dX1_takeAway_5 rfl hf (fun v1 hf => ?_)
  refine g_istore_n C 6 (fun z => [(2, .int z), (0, .ref q_t), (1, .int a1)]) dX1_takeAway_6 rfl (by decide) (fun _ => rfl) hf (fun x2_2 hf => ?_)
  refine g_iconst C 7 (0 : Int32) dX1_takeAway_7 (by decide) ?_
  refine g_istore_n C 8 (fun z => [(3, .int z), (2, .int x2_2), (0, .ref q_t), (1, .int a1)]) dX1_takeAway_8 rfl (by decide) (fun _ => rfl) hf (fun x3_3 hf => ?_)
  refine g_lv [2, 3, 1, 0] rfl ?_
  exact w_X1_takeAway_9 cA q_t t_newEnds q_t_near a1 C hk F r hB NN x2_2 x3_3 t_left t_near hf

def L_X1_letGo_14 (a1 : Int32)  : Nat → Int32 → Int32 → Int32 → Int32 → (Nat → Int32) → Option (Int32 × Int32 × (Nat → Int32))
  | 0, _, _, _, _, _ => none
  | n + 1, x2, x3, t_left, t_newEnds, t_near =>
    if (14 : Int32) ≤ x3 then
      some (t_left, t_newEnds, t_near)
    else
      cal (f_X8_hasBit x2 x3) fun u5 =>
      if u5 = 0 then
        bnd (x3 + (1 : Int32)) fun x3_13 =>
        L_X1_letGo_14 a1 n x2 x3_13 t_left t_newEnds t_near
      else
        ldA t_near 14 x3 fun v6 =>
        bnd ((x2 &&& (v6 ^^^ (-1 : Int32))) &&& (((1 : Int32) <<< (x3 &&& 31)) ^^^ (-1 : Int32))) fun x4_7 =>
        cal (f_J6_bitCount_0f7a4 x4_7) fun u8 =>
        bnd (t_newEnds + u8) fun t_newEnds_9 =>
        ldA t_near 14 x3 fun v10 =>
        stI t_near 14 x3 (v10 ||| x4_7) fun t_near_11 =>
        bnd (x3 + (1 : Int32)) fun x3_12 =>
        L_X1_letGo_14 a1 n x2 x3_12 t_left t_newEnds_9 t_near_11

set_option maxRecDepth 100000 in
set_option maxHeartbeats 1000000 in
theorem w_X1_letGo_14 (cA : Nat → ClassId) (q_t : Nat) (q_t_near : Nat) (a1 : Int32) {X : XT}  (C : Cx X cX1_letGo RX1 none cA 2 44 5) {kk nn : Nat} {BB : Option Value → va_W → Prop} (hk : kk ≤ (x_R X).cells ∧ nn ≤ (x_R X).slots) (F : Fx X BB kk nn) (r : Int32 × Int32 × (Nat → Int32)) (hB : BB (none) [oB q_t 1 [.ref q_t_near, .int r.1, .int r.2.1], aI cA q_t_near 14 r.2.2])  : ∀ (n : Nat) (x2 : Int32) (x3 : Int32) (t_left : Int32) (t_newEnds : Int32) (t_near : Nat → Int32), L_X1_letGo_14 a1 n x2 x3 t_left t_newEnds t_near = some r → Go X 5 kk nn 14 [oB q_t 1 [.ref q_t_near, .int t_left, .int t_newEnds], aI cA q_t_near 14 t_near] [(0, .ref q_t), (2, .int x2), (3, .int x3)] [] := by
  intro n
  induction n with
  | zero => intro x2 x3 t_left t_newEnds t_near hf; exact no_some hf
  | succ n ih =>
    intro x2 x3 t_left t_newEnds t_near hf
    rw [L_X1_letGo_14] at hf
    refine g_iload_n C 14 2 dX1_letGo_14 rfl rfl ?_
    refine g_bipush C 15 (14 : Int32) dX1_letGo_15 (by decide) ?_
    refine g_icmp_ge C 17 80 dX1_letGo_17 (by decide) hf (fun hf => ?_) (fun hf => ?_)
    · cases hf
      exact g_vret C 80 dX1_letGo_80 F hB
    · refine g_iload_n C 20 1 dX1_letGo_20 rfl rfl ?_
      refine g_iload_n C 21 2 dX1_letGo_21 rfl rfl ?_
      obtain ⟨u5, hu5, hf⟩ := cal_some hf
      refine g_callSN C 22 [] (rest := []) dX1_letGo_22 (c_X8_hasBit (x_l X) cA x2 x3 u5 hu5) (List.mem_of_getElem? (i := 9) rfl) kw_5 kw_6 kw_7 ok_X8_hasBit ⟨Nat.le_of_ble_eq_true rfl, Nat.le_of_ble_eq_true rfl⟩ hk ⟨rfl, rfl⟩ rfl rfl rfl (Nat.le_of_ble_eq_true rfl) rfl (ws' := [oB q_t 1 [.ref q_t_near, .int t_left, .int t_newEnds], aI cA q_t_near 14 t_near]) (st' := [.int u5]) (N0 := 2) rfl [none, none] (by decide) rfl rfl ?_
      refine g_if_ne C 25 31 dX1_letGo_25 (by decide) hf (fun hf => ?_) (fun hf => ?_)
      · refine g_iload_n C 31 1 dX1_letGo_31 rfl rfl ?_
        refine g_aload_n C 32 0 dX1_letGo_32 rfl rfl ?_
        refine g_get C 33 0 0 dX1_letGo_33 inX1 rfl rfl (by decide) kw_8 rfl ?_
        refine g_iload_n C 36 2 dX1_letGo_36 rfl rfl ?_
        refine g_iald C 37 1 dX1_letGo_37 rfl hf (fun v6 hf => ?_)
        refine g_iconst C 38 (-1 : Int32) dX1_letGo_38 (by decide) ?_
        refine g_ixor C 39 dX1_letGo_39 ?_
        refine g_iand C 40 dX1_letGo_40 ?_
        refine g_iconst C 41 (1 : Int32) dX1_letGo_41 (by decide) ?_
        refine g_iload_n C 42 2 dX1_letGo_42 rfl rfl ?_
        refine g_ishl C 43 dX1_letGo_43 ?_
        refine g_iconst C 44 (-1 : Int32) dX1_letGo_44 (by decide) ?_
        refine g_ixor C 45 dX1_letGo_45 ?_
        refine g_iand C 46 dX1_letGo_46 ?_
        refine g_istore C 47 (fun z => [(4, .int z), (0, .ref q_t), (2, .int x2), (3, .int x3)]) dX1_letGo_47 (by decide) (fun _ => rfl) hf (fun x4_7 hf => ?_)
        refine g_aload_n C 49 1 dX1_letGo_49 rfl rfl ?_
        refine g_dup C 50 dX1_letGo_50 rfl ?_
        refine g_get C 51 0 2 dX1_letGo_51 inX1 rfl rfl (by decide) kw_18 rfl ?_
        refine g_iload C 54 0 dX1_letGo_54 rfl ?_
        obtain ⟨u8, hu8, hf⟩ := cal_some hf
        refine g_callS C 56 [] (rest := [.int t_newEnds, .ref q_t]) dX1_letGo_56 (c_J6_bitCount_0f7a4 (x_l X) cA x4_7 u8 hu8) kw_19 kw_20 kw_21 kw_22 ok_J6_bitCount_0f7a4 ⟨Nat.le_of_ble_eq_true rfl, Nat.le_of_ble_eq_true rfl⟩ hk ⟨rfl, rfl⟩ rfl rfl rfl (Nat.le_of_ble_eq_true rfl) rfl (ws' := [oB q_t 1 [.ref q_t_near, .int t_left, .int t_newEnds], aI cA q_t_near 14 t_near]) (st' := [.int u8, .int t_newEnds, .ref q_t]) (N0 := 2) rfl [none, none] (by decide) rfl rfl ?_
        refine g_iadd C 59 dX1_letGo_59 ?_
        refine g_puti C 60 0 2 tyX1 (fun z => [oB q_t 1 [.ref q_t_near, .int t_left, .int z], aI cA q_t_near 14 t_near]) dX1_letGo_60 inX1 tyX1_ok nmX1 rfl rfl (by decide) kw_18 rfl rfl (Nat.le_of_ble_eq_true rfl) (fun _ => rfl) hf (fun t_newEnds_9 hf => ?_)
        refine g_aload_n C 63 1 dX1_letGo_63 rfl rfl ?_
        refine g_get C 64 0 0 dX1_letGo_64 inX1 rfl rfl (by decide) kw_8 rfl ?_
        refine g_iload_n C 67 3 dX1_letGo_67 rfl rfl ?_
        refine g_dup2 C 68 dX1_letGo_68 rfl rfl ?_
        refine g_iald C 69 1 dX1_letGo_69 rfl hf (fun v10 hf => ?_)
        refine g_iload C 70 0 dX1_letGo_70 rfl ?_
        refine g_ior C 72 dX1_letGo_72 ?_
        refine g_iast C 73 1 (fun z => [oB q_t 1 [.ref q_t_near, .int t_left, .int t_newEnds_9], aI cA q_t_near 14 z]) dX1_letGo_73 rfl (fun _ => rfl) hf (fun t_near_11 hf => ?_)
        refine g_iinc C 74 3 (v := x3 + (1 : Int32)) (fun z => [(3, .int z), (4, .int x4_7), (0, .ref q_t), (2, .int x2)]) dX1_letGo_74 rfl rfl (by decide) (fun _ => rfl) hf (fun x3_12 hf => ?_)
        refine g_goto C 77 14 dX1_letGo_77 (by decide) ?_
        refine g_lv [2, 3, 0] rfl ?_
        exact ih x2 x3_12 t_left t_newEnds_9 t_near_11 hf
      · refine g_goto C 28 74 dX1_letGo_28 (by decide) ?_
        refine g_iinc C 74 2 (v := x3 + (1 : Int32)) (fun z => [(3, .int z), (0, .ref q_t), (2, .int x2)]) dX1_letGo_74 rfl rfl (by decide) (fun _ => rfl) hf (fun x3_13 hf => ?_)
        refine g_goto C 77 14 dX1_letGo_77 (by decide) ?_
        refine g_lv [1, 2, 0] rfl ?_
        exact ih x2 x3_13 t_left t_newEnds t_near hf
def f_X1_letGo (a1 : Int32) (t_left : Int32) (t_newEnds : Int32) (t_near : Nat → Int32) : Option (Int32 × Int32 × (Nat → Int32)) :=
  ldA t_near 14 a1 fun v1 =>
  bnd v1 fun x2_2 =>
  cal (f_X1_takeAway a1 t_left t_near) fun u3 =>
  bnd (0 : Int32) fun x3_4 =>
  L_X1_letGo_14 a1 NN x2_2 x3_4 u3.1 t_newEnds u3.2

set_option maxRecDepth 100000 in
set_option maxHeartbeats 1000000 in
theorem c_X1_letGo (l : Launch) (cA : Nat → ClassId) (q_t : Nat) (t_left : Int32) (t_newEnds : Int32) (q_t_near : Nat) (t_near : Nat → Int32)  (a1 : Int32) (r : Int32 × Int32 × (Nat → Int32)) (hf : f_X1_letGo a1 t_left t_newEnds t_near = some r) : MT l cA yX1_letGo cX1_letGo 5 none ({ frames := 2, cells := 0, slots := 0, locals := 44 } : Room) [.ref q_t, .int a1] [oB q_t 1 [.ref q_t_near, .int t_left, .int t_newEnds], aI cA q_t_near 14 t_near] (sB (none) [oB q_t 1 [.ref q_t_near, .int r.1, .int r.2.1], aI cA q_t_near 14 r.2.2]) := by
  refine MT.of (by decide) (Nat.le_of_ble_eq_true rfl) ?_
  intro X hXl C F hnm hrc hrs
  subst hXl
  have hk : 0 ≤ (x_R X).cells ∧ 0 ≤ (x_R X).slots := ⟨Nat.zero_le _, Nat.zero_le _⟩
  have hB : (sB (none) [oB q_t 1 [.ref q_t_near, .int r.1, .int r.2.1], aI cA q_t_near 14 r.2.2]) (none) [oB q_t 1 [.ref q_t_near, .int r.1, .int r.2.1], aI cA q_t_near 14 r.2.2] := ⟨rfl, rfl⟩
  unfold f_X1_letGo at hf
  have C : Cx X cX1_letGo RX1 none cA 2 44 5 := C
  show Go X 5 0 0 0 [oB q_t 1 [.ref q_t_near, .int t_left, .int t_newEnds], aI cA q_t_near 14 t_near] [(0, .ref q_t), (1, .int a1)] []
  refine g_aload_n C 0 0 dX1_letGo_0 rfl rfl ?_
  refine g_get C 1 0 0 dX1_letGo_1 inX1 rfl rfl (by decide) kw_8 rfl ?_
  refine g_iload_n C 4 1 dX1_letGo_4 rfl rfl ?_
  refine g_iald C 5 1 dX1_letGo_5 rfl hf (fun v1 hf => ?_)
  refine g_istore_n C 6 (fun z => [(2, .int z), (0, .ref q_t), (1, .int a1)]) dX1_letGo_6 rfl (by decide) (fun _ => rfl) hf (fun x2_2 hf => ?_)
  refine g_aload_n C 7 1 dX1_letGo_7 rfl rfl ?_
  refine g_iload_n C 8 2 dX1_letGo_8 rfl rfl ?_
  obtain ⟨u3, hu3, hf⟩ := cal_some hf
  refine g_callV1 C 9 [0, 1] 0 (rest := []) dX1_letGo_9 (c_X1_takeAway (x_l X) cA q_t t_left t_newEnds q_t_near t_near a1 u3 hu3) kw_13 kw_14 kw_15 kw_16 kw_17 ok_X1_takeAway ⟨Nat.le_of_ble_eq_true rfl, Nat.le_of_ble_eq_true rfl⟩ hk ⟨rfl, rfl⟩ rfl rfl rfl rfl rfl (Nat.le_of_ble_eq_true rfl) rfl (ws' := [oB q_t 1 [.ref q_t_near, .int u3.1, .int t_newEnds], aI cA q_t_near 14 u3.2]) (st' := []) (N0 := 2) rfl [some 0, some 1] (by decide) rfl rfl ?_
  refine g_iconst C 12 (0 : Int32) dX1_letGo_12 (by decide) ?_
  refine g_istore_n C 13 (fun z => [(3, .int z), (2, .int x2_2), (0, .ref q_t), (1, .int a1)]) dX1_letGo_13 rfl (by decide) (fun _ => rfl) hf (fun x3_4 hf => ?_)
  refine g_lv [2, 1, 0] rfl ?_
  exact w_X1_letGo_14 cA q_t q_t_near a1 C hk F r hB NN x2_2 x3_4 u3.1 t_newEnds u3.2 hf

def f_X1_start (t_left : Int32) (t_newEnds : Int32) (t_near : Nat → Int32) (u_size : Int32) (u_near : Nat → Int32) : Option (Int32 × Int32 × (Nat → Int32)) :=
  bnd (va_cpy u_near t_near 0 0 14) fun t_near_1 =>
  cal (f_X4_everyKnot u_size) fun u2 =>
  bnd u2 fun t_left_3 =>
  bnd (0 : Int32) fun t_newEnds_4 =>
  some (t_left_3, t_newEnds_4, t_near_1)

set_option maxRecDepth 100000 in
set_option maxHeartbeats 1000000 in
theorem c_X1_start (l : Launch) (cA : Nat → ClassId) (q_t : Nat) (t_left : Int32) (t_newEnds : Int32) (q_t_near : Nat) (t_near : Nat → Int32) (q_u : Nat) (q_u_loads : Nat) (q_u_ties : Nat) (u_size : Int32) (u_edges : Int32) (q_u_near : Nat) (u_near : Nat → Int32)   (r : Int32 × Int32 × (Nat → Int32)) (hf : f_X1_start t_left t_newEnds t_near u_size u_near = some r) : MT l cA yX1_start cX1_start 2 none ({ frames := 1, cells := 0, slots := 0, locals := 60 } : Room) [.ref q_t, .ref q_u] [oB q_t 1 [.ref q_t_near, .int t_left, .int t_newEnds], aI cA q_t_near 14 t_near, oB q_u 4 [.ref q_u_loads, .ref q_u_near, .ref q_u_ties, .int u_size, .int u_edges], aI cA q_u_near 14 u_near] (sB (none) [oB q_t 1 [.ref q_t_near, .int r.1, .int r.2.1], aI cA q_t_near 14 r.2.2, oB q_u 4 [.ref q_u_loads, .ref q_u_near, .ref q_u_ties, .int u_size, .int u_edges], aI cA q_u_near 14 u_near]) := by
  refine MT.of (by decide) (Nat.le_of_ble_eq_true rfl) ?_
  intro X hXl C F hnm hrc hrs
  subst hXl
  have hk : 0 ≤ (x_R X).cells ∧ 0 ≤ (x_R X).slots := ⟨Nat.zero_le _, Nat.zero_le _⟩
  have hB : (sB (none) [oB q_t 1 [.ref q_t_near, .int r.1, .int r.2.1], aI cA q_t_near 14 r.2.2, oB q_u 4 [.ref q_u_loads, .ref q_u_near, .ref q_u_ties, .int u_size, .int u_edges], aI cA q_u_near 14 u_near]) (none) [oB q_t 1 [.ref q_t_near, .int r.1, .int r.2.1], aI cA q_t_near 14 r.2.2, oB q_u 4 [.ref q_u_loads, .ref q_u_near, .ref q_u_ties, .int u_size, .int u_edges], aI cA q_u_near 14 u_near] := ⟨rfl, rfl⟩
  unfold f_X1_start at hf
  have C : Cx X cX1_start RX1 none cA 1 60 2 := C
  show Go X 2 0 0 0 [oB q_t 1 [.ref q_t_near, .int t_left, .int t_newEnds], aI cA q_t_near 14 t_near, oB q_u 4 [.ref q_u_loads, .ref q_u_near, .ref q_u_ties, .int u_size, .int u_edges], aI cA q_u_near 14 u_near] [(0, .ref q_t), (1, .ref q_u)] []
  refine g_aload_n C 0 1 dX1_start_0 rfl rfl ?_
  refine g_get C 1 2 1 dX1_start_1 inX4 rfl rfl (by decide) kw_77 rfl ?_
  refine g_iconst C 4 (0 : Int32) dX1_start_4 (by decide) ?_
  refine g_aload_n C 5 0 dX1_start_5 rfl rfl ?_
  refine g_get C 6 0 0 dX1_start_6 inX1 rfl rfl (by decide) kw_8 rfl ?_
  refine g_iconst C 9 (0 : Int32) dX1_start_9 (by decide) ?_
  refine g_bipush C 10 (14 : Int32) dX1_start_10 (by decide) ?_
  refine g_copy C 12 3 1 (fun z => [oB q_t 1 [.ref q_t_near, .int t_left, .int t_newEnds], aI cA q_t_near 14 z, oB q_u 4 [.ref q_u_loads, .ref q_u_near, .ref q_u_ties, .int u_size, .int u_edges], aI cA q_u_near 14 u_near]) dX1_start_12 kw_78 kw_79 kw_80 kw_81 rfl rfl (by decide) (by decide) (Nat.le_of_ble_eq_true rfl) (fun _ => rfl) hf (fun t_near_1 hf => ?_)
  refine g_aload_n C 15 0 dX1_start_15 rfl rfl ?_
  refine g_aload_n C 16 1 dX1_start_16 rfl rfl ?_
  obtain ⟨u2, hu2, hf⟩ := cal_some hf
  refine g_callV1 C 17 [2] 2 (rest := [.ref q_t]) dX1_start_17 (c_X4_everyKnot (x_l X) cA q_u q_u_loads q_u_near q_u_ties u_size u_edges u2 hu2) kw_82 kw_83 kw_84 kw_49 kw_85 ok_X4_everyKnot ⟨Nat.le_of_ble_eq_true rfl, Nat.le_of_ble_eq_true rfl⟩ hk ⟨rfl, rfl⟩ rfl rfl rfl rfl rfl (Nat.le_of_ble_eq_true rfl) rfl (ws' := [oB q_t 1 [.ref q_t_near, .int t_left, .int t_newEnds], aI cA q_t_near 14 t_near_1, oB q_u 4 [.ref q_u_loads, .ref q_u_near, .ref q_u_ties, .int u_size, .int u_edges], aI cA q_u_near 14 u_near]) (st' := [.int u2, .ref q_t]) (N0 := 4) rfl [none, none, some 0, none] (by decide) rfl rfl ?_
  refine g_puti C 20 0 1 tyX1 (fun z => [oB q_t 1 [.ref q_t_near, .int z, .int t_newEnds], aI cA q_t_near 14 t_near_1, oB q_u 4 [.ref q_u_loads, .ref q_u_near, .ref q_u_ties, .int u_size, .int u_edges], aI cA q_u_near 14 u_near]) dX1_start_20 inX1 tyX1_ok nmX1 rfl rfl (by decide) kw_9 rfl rfl (Nat.le_of_ble_eq_true rfl) (fun _ => rfl) hf (fun t_left_3 hf => ?_)
  refine g_aload_n C 23 0 dX1_start_23 rfl rfl ?_
  refine g_iconst C 24 (0 : Int32) dX1_start_24 (by decide) ?_
  refine g_puti C 25 0 2 tyX1 (fun z => [oB q_t 1 [.ref q_t_near, .int t_left_3, .int z], aI cA q_t_near 14 t_near_1, oB q_u 4 [.ref q_u_loads, .ref q_u_near, .ref q_u_ties, .int u_size, .int u_edges], aI cA q_u_near 14 u_near]) dX1_start_25 inX1 tyX1_ok nmX1 rfl rfl (by decide) kw_18 rfl rfl (Nat.le_of_ble_eq_true rfl) (fun _ => rfl) hf (fun t_newEnds_4 hf => ?_)
  cases hf
  exact g_vret C 28 dX1_start_28 F hB

def f_X1_startAs (t_left : Int32) (t_newEnds : Int32) (t_near : Nat → Int32) (u_left : Int32) (u_newEnds : Int32) (u_near : Nat → Int32) : Option (Int32 × Int32 × (Nat → Int32)) :=
  bnd (va_cpy u_near t_near 0 0 14) fun t_near_1 =>
  bnd u_left fun t_left_2 =>
  bnd u_newEnds fun t_newEnds_3 =>
  some (t_left_2, t_newEnds_3, t_near_1)

set_option maxRecDepth 100000 in
set_option maxHeartbeats 1000000 in
theorem c_X1_startAs (l : Launch) (cA : Nat → ClassId) (q_t : Nat) (t_left : Int32) (t_newEnds : Int32) (q_t_near : Nat) (t_near : Nat → Int32) (q_u : Nat) (u_left : Int32) (u_newEnds : Int32) (q_u_near : Nat) (u_near : Nat → Int32)   (r : Int32 × Int32 × (Nat → Int32)) (hf : f_X1_startAs t_left t_newEnds t_near u_left u_newEnds u_near = some r) : MT l cA yX1_startAs cX1_startAs 2 none ({ frames := 1, cells := 0, slots := 0, locals := 60 } : Room) [.ref q_t, .ref q_u] [oB q_t 1 [.ref q_t_near, .int t_left, .int t_newEnds], aI cA q_t_near 14 t_near, oB q_u 1 [.ref q_u_near, .int u_left, .int u_newEnds], aI cA q_u_near 14 u_near] (sB (none) [oB q_t 1 [.ref q_t_near, .int r.1, .int r.2.1], aI cA q_t_near 14 r.2.2, oB q_u 1 [.ref q_u_near, .int u_left, .int u_newEnds], aI cA q_u_near 14 u_near]) := by
  refine MT.of (by decide) (Nat.le_of_ble_eq_true rfl) ?_
  intro X hXl C F hnm hrc hrs
  subst hXl
  have hk : 0 ≤ (x_R X).cells ∧ 0 ≤ (x_R X).slots := ⟨Nat.zero_le _, Nat.zero_le _⟩
  have hB : (sB (none) [oB q_t 1 [.ref q_t_near, .int r.1, .int r.2.1], aI cA q_t_near 14 r.2.2, oB q_u 1 [.ref q_u_near, .int u_left, .int u_newEnds], aI cA q_u_near 14 u_near]) (none) [oB q_t 1 [.ref q_t_near, .int r.1, .int r.2.1], aI cA q_t_near 14 r.2.2, oB q_u 1 [.ref q_u_near, .int u_left, .int u_newEnds], aI cA q_u_near 14 u_near] := ⟨rfl, rfl⟩
  unfold f_X1_startAs at hf
  have C : Cx X cX1_startAs RX1 none cA 1 60 2 := C
  show Go X 2 0 0 0 [oB q_t 1 [.ref q_t_near, .int t_left, .int t_newEnds], aI cA q_t_near 14 t_near, oB q_u 1 [.ref q_u_near, .int u_left, .int u_newEnds], aI cA q_u_near 14 u_near] [(0, .ref q_t), (1, .ref q_u)] []
  refine g_aload_n C 0 1 dX1_startAs_0 rfl rfl ?_
  refine g_get C 1 2 0 dX1_startAs_1 inX1 rfl rfl (by decide) kw_8 rfl ?_
  refine g_iconst C 4 (0 : Int32) dX1_startAs_4 (by decide) ?_
  refine g_aload_n C 5 0 dX1_startAs_5 rfl rfl ?_
  refine g_get C 6 0 0 dX1_startAs_6 inX1 rfl rfl (by decide) kw_8 rfl ?_
  refine g_iconst C 9 (0 : Int32) dX1_startAs_9 (by decide) ?_
  refine g_bipush C 10 (14 : Int32) dX1_startAs_10 (by decide) ?_
  refine g_copy C 12 3 1 (fun z => [oB q_t 1 [.ref q_t_near, .int t_left, .int t_newEnds], aI cA q_t_near 14 z, oB q_u 1 [.ref q_u_near, .int u_left, .int u_newEnds], aI cA q_u_near 14 u_near]) dX1_startAs_12 kw_78 kw_79 kw_80 kw_81 rfl rfl (by decide) (by decide) (Nat.le_of_ble_eq_true rfl) (fun _ => rfl) hf (fun t_near_1 hf => ?_)
  refine g_aload_n C 15 0 dX1_startAs_15 rfl rfl ?_
  refine g_aload_n C 16 1 dX1_startAs_16 rfl rfl ?_
  refine g_get C 17 2 1 dX1_startAs_17 inX1 rfl rfl (by decide) kw_9 rfl ?_
  refine g_puti C 20 0 1 tyX1 (fun z => [oB q_t 1 [.ref q_t_near, .int z, .int t_newEnds], aI cA q_t_near 14 t_near_1, oB q_u 1 [.ref q_u_near, .int u_left, .int u_newEnds], aI cA q_u_near 14 u_near]) dX1_startAs_20 inX1 tyX1_ok nmX1 rfl rfl (by decide) kw_9 rfl rfl (Nat.le_of_ble_eq_true rfl) (fun _ => rfl) hf (fun t_left_2 hf => ?_)
  refine g_aload_n C 23 0 dX1_startAs_23 rfl rfl ?_
  refine g_aload_n C 24 1 dX1_startAs_24 rfl rfl ?_
  refine g_get C 25 2 2 dX1_startAs_25 inX1 rfl rfl (by decide) kw_18 rfl ?_
  refine g_puti C 28 0 2 tyX1 (fun z => [oB q_t 1 [.ref q_t_near, .int t_left_2, .int z], aI cA q_t_near 14 t_near_1, oB q_u 1 [.ref q_u_near, .int u_left, .int u_newEnds], aI cA q_u_near 14 u_near]) dX1_startAs_28 inX1 tyX1_ok nmX1 rfl rfl (by decide) kw_18 rfl rfl (Nat.le_of_ble_eq_true rfl) (fun _ => rfl) hf (fun t_newEnds_3 hf => ?_)
  cases hf
  exact g_vret C 31 dX1_startAs_31 F hB

def L_X1_loneliest_7 (t_left : Int32) (t_near : Nat → Int32)  : Nat → Int32 → Int32 → Int32 → Option (Int32)
  | 0, _, _, _ => none
  | n + 1, x1, x2, x3 =>
    if (14 : Int32) ≤ x3 then
      some (x1)
    else
      cal (f_X8_hasBit t_left x3) fun u4 =>
      if u4 = 0 then
        bnd (x3 + (1 : Int32)) fun x3_12 =>
        L_X1_loneliest_7 t_left t_near n x1 x2 x3_12
      else
        ldA t_near 14 x3 fun v5 =>
        cal (f_J6_bitCount_0f7a4 v5) fun u6 =>
        bnd u6 fun x4_7 =>
        if x2 ≤ x4_7 then
          bnd (x3 + (1 : Int32)) fun x3_8 =>
          L_X1_loneliest_7 t_left t_near n x1 x2 x3_8
        else
          bnd x3 fun x1_9 =>
          bnd x4_7 fun x2_10 =>
          bnd (x3 + (1 : Int32)) fun x3_11 =>
          L_X1_loneliest_7 t_left t_near n x1_9 x2_10 x3_11

set_option maxRecDepth 100000 in
set_option maxHeartbeats 1000000 in
theorem w_X1_loneliest_7 (cA : Nat → ClassId) (q_t : Nat) (t_newEnds : Int32) (q_t_near : Nat) (t_left : Int32) (t_near : Nat → Int32) {X : XT}  (C : Cx X cX1_loneliest RX1 (some .int) cA 1 21 5) {kk nn : Nat} {BB : Option Value → va_W → Prop} (hk : kk ≤ (x_R X).cells ∧ nn ≤ (x_R X).slots) (F : Fx X BB kk nn) (r : Int32) (hB : BB (some (.int r)) [oB q_t 1 [.ref q_t_near, .int t_left, .int t_newEnds], aI cA q_t_near 14 t_near])  : ∀ (n : Nat) (x1 : Int32) (x2 : Int32) (x3 : Int32), L_X1_loneliest_7 t_left t_near n x1 x2 x3 = some r → Go X 5 kk nn 7 [oB q_t 1 [.ref q_t_near, .int t_left, .int t_newEnds], aI cA q_t_near 14 t_near] [(0, .ref q_t), (1, .int x1), (2, .int x2), (3, .int x3)] [] := by
  intro n
  induction n with
  | zero => intro x1 x2 x3 hf; exact no_some hf
  | succ n ih =>
    intro x1 x2 x3 hf
    rw [L_X1_loneliest_7] at hf
    refine g_iload_n C 7 3 dX1_loneliest_7 rfl rfl ?_
    refine g_bipush C 8 (14 : Int32) dX1_loneliest_8 (by decide) ?_
    refine g_icmp_ge C 10 55 dX1_loneliest_10 (by decide) hf (fun hf => ?_) (fun hf => ?_)
    · refine g_iload_n C 55 1 dX1_loneliest_55 rfl rfl ?_
      cases hf
      exact g_iret C 56 dX1_loneliest_56 F hB
    · refine g_aload_n C 13 0 dX1_loneliest_13 rfl rfl ?_
      refine g_get C 14 0 1 dX1_loneliest_14 inX1 rfl rfl (by decide) kw_9 rfl ?_
      refine g_iload_n C 17 3 dX1_loneliest_17 rfl rfl ?_
      obtain ⟨u4, hu4, hf⟩ := cal_some hf
      refine g_callSN C 18 [] (rest := []) dX1_loneliest_18 (c_X8_hasBit (x_l X) cA t_left x3 u4 hu4) (List.mem_of_getElem? (i := 9) rfl) kw_5 kw_6 kw_7 ok_X8_hasBit ⟨Nat.le_of_ble_eq_true rfl, Nat.le_of_ble_eq_true rfl⟩ hk ⟨rfl, rfl⟩ rfl rfl rfl (Nat.le_of_ble_eq_true rfl) rfl (ws' := [oB q_t 1 [.ref q_t_near, .int t_left, .int t_newEnds], aI cA q_t_near 14 t_near]) (st' := [.int u4]) (N0 := 2) rfl [none, none] (by decide) rfl rfl ?_
      refine g_if_ne C 21 27 dX1_loneliest_21 (by decide) hf (fun hf => ?_) (fun hf => ?_)
      · refine g_aload_n C 27 0 dX1_loneliest_27 rfl rfl ?_
        refine g_get C 28 0 0 dX1_loneliest_28 inX1 rfl rfl (by decide) kw_8 rfl ?_
        refine g_iload_n C 31 3 dX1_loneliest_31 rfl rfl ?_
        refine g_iald C 32 1 dX1_loneliest_32 rfl hf (fun v5 hf => ?_)
        obtain ⟨u6, hu6, hf⟩ := cal_some hf
        refine g_callS C 33 [] (rest := []) dX1_loneliest_33 (c_J6_bitCount_0f7a4 (x_l X) cA v5 u6 hu6) kw_19 kw_20 kw_21 kw_22 ok_J6_bitCount_0f7a4 ⟨Nat.le_of_ble_eq_true rfl, Nat.le_of_ble_eq_true rfl⟩ hk ⟨rfl, rfl⟩ rfl rfl rfl (Nat.le_of_ble_eq_true rfl) rfl (ws' := [oB q_t 1 [.ref q_t_near, .int t_left, .int t_newEnds], aI cA q_t_near 14 t_near]) (st' := [.int u6]) (N0 := 2) rfl [none, none] (by decide) rfl rfl ?_
        refine g_istore C 36 (fun z => [(4, .int z), (0, .ref q_t), (1, .int x1), (2, .int x2), (3, .int x3)]) dX1_loneliest_36 (by decide) (fun _ => rfl) hf (fun x4_7 hf => ?_)
        refine g_iload C 38 0 dX1_loneliest_38 rfl ?_
        refine g_iload_n C 40 3 dX1_loneliest_40 rfl rfl ?_
        refine g_icmp_ge C 41 49 dX1_loneliest_41 (by decide) hf (fun hf => ?_) (fun hf => ?_)
        · refine g_iinc C 49 4 (v := x3 + (1 : Int32)) (fun z => [(3, .int z), (4, .int x4_7), (0, .ref q_t), (1, .int x1), (2, .int x2)]) dX1_loneliest_49 rfl rfl (by decide) (fun _ => rfl) hf (fun x3_8 hf => ?_)
          refine g_goto C 52 7 dX1_loneliest_52 (by decide) ?_
          refine g_lv [2, 3, 4, 0] rfl ?_
          exact ih x1 x2 x3_8 hf
        · refine g_iload_n C 44 4 dX1_loneliest_44 rfl rfl ?_
          refine g_istore_n C 45 (fun z => [(1, .int z), (4, .int x4_7), (0, .ref q_t), (2, .int x2), (3, .int x3)]) dX1_loneliest_45 rfl (by decide) (fun _ => rfl) hf (fun x1_9 hf => ?_)
          refine g_iload C 46 1 dX1_loneliest_46 rfl ?_
          refine g_istore_n C 48 (fun z => [(2, .int z), (1, .int x1_9), (4, .int x4_7), (0, .ref q_t), (3, .int x3)]) dX1_loneliest_48 rfl (by decide) (fun _ => rfl) hf (fun x2_10 hf => ?_)
          refine g_iinc C 49 4 (v := x3 + (1 : Int32)) (fun z => [(3, .int z), (2, .int x2_10), (1, .int x1_9), (4, .int x4_7), (0, .ref q_t)]) dX1_loneliest_49 rfl rfl (by decide) (fun _ => rfl) hf (fun x3_11 hf => ?_)
          refine g_goto C 52 7 dX1_loneliest_52 (by decide) ?_
          refine g_lv [4, 2, 1, 0] rfl ?_
          exact ih x1_9 x2_10 x3_11 hf
      · refine g_goto C 24 49 dX1_loneliest_24 (by decide) ?_
        refine g_iinc C 49 3 (v := x3 + (1 : Int32)) (fun z => [(3, .int z), (0, .ref q_t), (1, .int x1), (2, .int x2)]) dX1_loneliest_49 rfl rfl (by decide) (fun _ => rfl) hf (fun x3_12 hf => ?_)
        refine g_goto C 52 7 dX1_loneliest_52 (by decide) ?_
        refine g_lv [1, 2, 3, 0] rfl ?_
        exact ih x1 x2 x3_12 hf
def f_X1_loneliest (t_left : Int32) (t_near : Nat → Int32) : Option (Int32) :=
  bnd (0 : Int32) fun x1_1 =>
  bnd (14 : Int32) fun x2_2 =>
  bnd (0 : Int32) fun x3_3 =>
  L_X1_loneliest_7 t_left t_near NN x1_1 x2_2 x3_3

set_option maxRecDepth 100000 in
set_option maxHeartbeats 1000000 in
theorem c_X1_loneliest (l : Launch) (cA : Nat → ClassId) (q_t : Nat) (t_left : Int32) (t_newEnds : Int32) (q_t_near : Nat) (t_near : Nat → Int32)   (r : Int32) (hf : f_X1_loneliest t_left t_near = some r) : MT l cA yX1_loneliest cX1_loneliest 5 (some .int) ({ frames := 1, cells := 0, slots := 0, locals := 21 } : Room) [.ref q_t] [oB q_t 1 [.ref q_t_near, .int t_left, .int t_newEnds], aI cA q_t_near 14 t_near] (sB (some (.int r)) [oB q_t 1 [.ref q_t_near, .int t_left, .int t_newEnds], aI cA q_t_near 14 t_near]) := by
  refine MT.of (by decide) (Nat.le_of_ble_eq_true rfl) ?_
  intro X hXl C F hnm hrc hrs
  subst hXl
  have hk : 0 ≤ (x_R X).cells ∧ 0 ≤ (x_R X).slots := ⟨Nat.zero_le _, Nat.zero_le _⟩
  have hB : (sB (some (.int r)) [oB q_t 1 [.ref q_t_near, .int t_left, .int t_newEnds], aI cA q_t_near 14 t_near]) (some (.int r)) [oB q_t 1 [.ref q_t_near, .int t_left, .int t_newEnds], aI cA q_t_near 14 t_near] := ⟨rfl, rfl⟩
  unfold f_X1_loneliest at hf
  have C : Cx X cX1_loneliest RX1 (some .int) cA 1 21 5 := C
  show Go X 5 0 0 0 [oB q_t 1 [.ref q_t_near, .int t_left, .int t_newEnds], aI cA q_t_near 14 t_near] [(0, .ref q_t)] []
  refine g_iconst C 0 (0 : Int32) dX1_loneliest_0 (by decide) ?_
  refine g_istore_n C 1 (fun z => [(1, .int z), (0, .ref q_t)]) dX1_loneliest_1 rfl (by decide) (fun _ => rfl) hf (fun x1_1 hf => ?_)
  refine g_bipush C 2 (14 : Int32) dX1_loneliest_2 (by decide) ?_
  refine g_istore_n C 4 (fun z => [(2, .int z), (1, .int x1_1), (0, .ref q_t)]) dX1_loneliest_4 rfl (by decide) (fun _ => rfl) hf (fun x2_2 hf => ?_)
  refine g_iconst C 5 (0 : Int32) dX1_loneliest_5 (by decide) ?_
  refine g_istore_n C 6 (fun z => [(3, .int z), (2, .int x2_2), (1, .int x1_1), (0, .ref q_t)]) dX1_loneliest_6 rfl (by decide) (fun _ => rfl) hf (fun x3_3 hf => ?_)
  refine g_lv [3, 2, 1, 0] rfl ?_
  exact w_X1_loneliest_7 cA q_t t_newEnds q_t_near t_left t_near C hk F r hB NN x1_1 x2_2 x3_3 hf

def L_X1_isNearlyJoined_7 (a1 : Int32) (t_near : Nat → Int32)  : Nat → Int32 → Int32 → Int32 → Option (Int32)
  | 0, _, _, _ => none
  | n + 1, x2, x3, x4 =>
    if (14 : Int32) ≤ x4 then
      if x2 = ((2 : Int32) * x3) then
        some ((1 : Int32))
      else
        some ((0 : Int32))
    else
      cal (f_X8_hasBit a1 x4) fun u4 =>
      if u4 = 0 then
        bnd (x4 + (1 : Int32)) fun x4_11 =>
        L_X1_isNearlyJoined_7 a1 t_near n x2 x3 x4_11
      else
        ldA t_near 14 x4 fun v5 =>
        cal (f_J6_bitCount_0f7a4 ((a1 &&& (v5 ^^^ (-1 : Int32))) &&& (((1 : Int32) <<< (x4 &&& 31)) ^^^ (-1 : Int32)))) fun u6 =>
        bnd u6 fun x5_7 =>
        bnd (x2 + x5_7) fun x2_8 =>
        bnd (if x3 < x5_7 then x5_7 else x3) fun x3_9 =>
        bnd (x4 + (1 : Int32)) fun x4_10 =>
        L_X1_isNearlyJoined_7 a1 t_near n x2_8 x3_9 x4_10

set_option maxRecDepth 100000 in
set_option maxHeartbeats 1000000 in
theorem w_X1_isNearlyJoined_7 (cA : Nat → ClassId) (q_t : Nat) (t_left : Int32) (t_newEnds : Int32) (q_t_near : Nat) (a1 : Int32) (t_near : Nat → Int32) {X : XT}  (C : Cx X cX1_isNearlyJoined RX1 (some .boolean) cA 1 21 6) {kk nn : Nat} {BB : Option Value → va_W → Prop} (hk : kk ≤ (x_R X).cells ∧ nn ≤ (x_R X).slots) (F : Fx X BB kk nn) (r : Int32) (hB : BB (some (.int r)) [oB q_t 1 [.ref q_t_near, .int t_left, .int t_newEnds], aI cA q_t_near 14 t_near])  : ∀ (n : Nat) (x2 : Int32) (x3 : Int32) (x4 : Int32), L_X1_isNearlyJoined_7 a1 t_near n x2 x3 x4 = some r → Go X 6 kk nn 7 [oB q_t 1 [.ref q_t_near, .int t_left, .int t_newEnds], aI cA q_t_near 14 t_near] [(0, .ref q_t), (1, .int a1), (2, .int x2), (3, .int x3), (4, .int x4)] [] := by
  intro n
  induction n with
  | zero => intro x2 x3 x4 hf; exact no_some hf
  | succ n ih =>
    intro x2 x3 x4 hf
    rw [L_X1_isNearlyJoined_7] at hf
    refine g_iload C 7 4 dX1_isNearlyJoined_7 rfl ?_
    refine g_bipush C 9 (14 : Int32) dX1_isNearlyJoined_9 (by decide) ?_
    refine g_icmp_ge C 11 67 dX1_isNearlyJoined_11 (by decide) hf (fun hf => ?_) (fun hf => ?_)
    · refine g_iload_n C 67 2 dX1_isNearlyJoined_67 rfl rfl ?_
      refine g_iconst C 68 (2 : Int32) dX1_isNearlyJoined_68 (by decide) ?_
      refine g_iload_n C 69 3 dX1_isNearlyJoined_69 rfl rfl ?_
      refine g_imul C 70 dX1_isNearlyJoined_70 ?_
      refine g_icmp_ne C 71 78 dX1_isNearlyJoined_71 (by decide) hf (fun hf => ?_) (fun hf => ?_)
      · refine g_iconst C 78 (0 : Int32) dX1_isNearlyJoined_78 (by decide) ?_
        cases hf
        exact g_zret C 79 dX1_isNearlyJoined_79 (by decide) F hB
      · refine g_iconst C 74 (1 : Int32) dX1_isNearlyJoined_74 (by decide) ?_
        refine g_goto C 75 79 dX1_isNearlyJoined_75 (by decide) ?_
        cases hf
        exact g_zret C 79 dX1_isNearlyJoined_79 (by decide) F hB
    · refine g_iload_n C 14 1 dX1_isNearlyJoined_14 rfl rfl ?_
      refine g_iload C 15 4 dX1_isNearlyJoined_15 rfl ?_
      obtain ⟨u4, hu4, hf⟩ := cal_some hf
      refine g_callSN C 17 [] (rest := []) dX1_isNearlyJoined_17 (c_X8_hasBit (x_l X) cA a1 x4 u4 hu4) (List.mem_of_getElem? (i := 9) rfl) kw_5 kw_6 kw_7 ok_X8_hasBit ⟨Nat.le_of_ble_eq_true rfl, Nat.le_of_ble_eq_true rfl⟩ hk ⟨rfl, rfl⟩ rfl rfl rfl (Nat.le_of_ble_eq_true rfl) rfl (ws' := [oB q_t 1 [.ref q_t_near, .int t_left, .int t_newEnds], aI cA q_t_near 14 t_near]) (st' := [.int u4]) (N0 := 2) rfl [none, none] (by decide) rfl rfl ?_
      refine g_if_ne C 20 26 dX1_isNearlyJoined_20 (by decide) hf (fun hf => ?_) (fun hf => ?_)
      · refine g_iload_n C 26 1 dX1_isNearlyJoined_26 rfl rfl ?_
        refine g_aload_n C 27 0 dX1_isNearlyJoined_27 rfl rfl ?_
        refine g_get C 28 0 0 dX1_isNearlyJoined_28 inX1 rfl rfl (by decide) kw_8 rfl ?_
        refine g_iload C 31 4 dX1_isNearlyJoined_31 rfl ?_
        refine g_iald C 33 1 dX1_isNearlyJoined_33 rfl hf (fun v5 hf => ?_)
        refine g_iconst C 34 (-1 : Int32) dX1_isNearlyJoined_34 (by decide) ?_
        refine g_ixor C 35 dX1_isNearlyJoined_35 ?_
        refine g_iand C 36 dX1_isNearlyJoined_36 ?_
        refine g_iconst C 37 (1 : Int32) dX1_isNearlyJoined_37 (by decide) ?_
        refine g_iload C 38 4 dX1_isNearlyJoined_38 rfl ?_
        refine g_ishl C 40 dX1_isNearlyJoined_40 ?_
        refine g_iconst C 41 (-1 : Int32) dX1_isNearlyJoined_41 (by decide) ?_
        refine g_ixor C 42 dX1_isNearlyJoined_42 ?_
        refine g_iand C 43 dX1_isNearlyJoined_43 ?_
        obtain ⟨u6, hu6, hf⟩ := cal_some hf
        refine g_callS C 44 [] (rest := []) dX1_isNearlyJoined_44 (c_J6_bitCount_0f7a4 (x_l X) cA ((a1 &&& (v5 ^^^ (-1 : Int32))) &&& (((1 : Int32) <<< (x4 &&& 31)) ^^^ (-1 : Int32))) u6 hu6) kw_19 kw_20 kw_21 kw_22 ok_J6_bitCount_0f7a4 ⟨Nat.le_of_ble_eq_true rfl, Nat.le_of_ble_eq_true rfl⟩ hk ⟨rfl, rfl⟩ rfl rfl rfl (Nat.le_of_ble_eq_true rfl) rfl (ws' := [oB q_t 1 [.ref q_t_near, .int t_left, .int t_newEnds], aI cA q_t_near 14 t_near]) (st' := [.int u6]) (N0 := 2) rfl [none, none] (by decide) rfl rfl ?_
        refine g_istore C 47 (fun z => [(5, .int z), (0, .ref q_t), (1, .int a1), (2, .int x2), (3, .int x3), (4, .int x4)]) dX1_isNearlyJoined_47 (by decide) (fun _ => rfl) hf (fun x5_7 hf => ?_)
        refine g_iload_n C 49 3 dX1_isNearlyJoined_49 rfl rfl ?_
        refine g_iload C 50 0 dX1_isNearlyJoined_50 rfl ?_
        refine g_iadd C 52 dX1_isNearlyJoined_52 ?_
        refine g_istore_n C 53 (fun z => [(2, .int z), (5, .int x5_7), (0, .ref q_t), (1, .int a1), (3, .int x3), (4, .int x4)]) dX1_isNearlyJoined_53 rfl (by decide) (fun _ => rfl) hf (fun x2_8 hf => ?_)
        refine g_iload_n C 54 4 dX1_isNearlyJoined_54 rfl rfl ?_
        refine g_iload C 55 1 dX1_isNearlyJoined_55 rfl ?_
        refine g_max C 57 dX1_isNearlyJoined_57 kw_86 kw_37 kw_38 kw_39 (by decide) (Nat.le_of_ble_eq_true rfl) hk.1 hk.2 ?_
        refine g_istore_n C 60 (fun z => [(3, .int z), (2, .int x2_8), (5, .int x5_7), (0, .ref q_t), (1, .int a1), (4, .int x4)]) dX1_isNearlyJoined_60 rfl (by decide) (fun _ => rfl) hf (fun x3_9 hf => ?_)
        refine g_iinc C 61 5 (v := x4 + (1 : Int32)) (fun z => [(4, .int z), (3, .int x3_9), (2, .int x2_8), (5, .int x5_7), (0, .ref q_t), (1, .int a1)]) dX1_isNearlyJoined_61 rfl rfl (by decide) (fun _ => rfl) hf (fun x4_10 hf => ?_)
        refine g_goto C 64 7 dX1_isNearlyJoined_64 (by decide) ?_
        refine g_lv [4, 5, 2, 1, 0] rfl ?_
        exact ih x2_8 x3_9 x4_10 hf
      · refine g_goto C 23 61 dX1_isNearlyJoined_23 (by decide) ?_
        refine g_iinc C 61 4 (v := x4 + (1 : Int32)) (fun z => [(4, .int z), (0, .ref q_t), (1, .int a1), (2, .int x2), (3, .int x3)]) dX1_isNearlyJoined_61 rfl rfl (by decide) (fun _ => rfl) hf (fun x4_11 hf => ?_)
        refine g_goto C 64 7 dX1_isNearlyJoined_64 (by decide) ?_
        refine g_lv [1, 2, 3, 4, 0] rfl ?_
        exact ih x2 x3 x4_11 hf
def f_X1_isNearlyJoined (a1 : Int32) (t_near : Nat → Int32) : Option (Int32) :=
  bnd (0 : Int32) fun x2_1 =>
  bnd (0 : Int32) fun x3_2 =>
  bnd (0 : Int32) fun x4_3 =>
  L_X1_isNearlyJoined_7 a1 t_near NN x2_1 x3_2 x4_3

set_option maxRecDepth 100000 in
set_option maxHeartbeats 1000000 in
theorem c_X1_isNearlyJoined (l : Launch) (cA : Nat → ClassId) (q_t : Nat) (t_left : Int32) (t_newEnds : Int32) (q_t_near : Nat) (t_near : Nat → Int32)  (a1 : Int32) (r : Int32) (hf : f_X1_isNearlyJoined a1 t_near = some r) : MT l cA yX1_isNearlyJoined cX1_isNearlyJoined 6 (some .boolean) ({ frames := 1, cells := 0, slots := 0, locals := 21 } : Room) [.ref q_t, .int a1] [oB q_t 1 [.ref q_t_near, .int t_left, .int t_newEnds], aI cA q_t_near 14 t_near] (sB (some (.int r)) [oB q_t 1 [.ref q_t_near, .int t_left, .int t_newEnds], aI cA q_t_near 14 t_near]) := by
  refine MT.of (by decide) (Nat.le_of_ble_eq_true rfl) ?_
  intro X hXl C F hnm hrc hrs
  subst hXl
  have hk : 0 ≤ (x_R X).cells ∧ 0 ≤ (x_R X).slots := ⟨Nat.zero_le _, Nat.zero_le _⟩
  have hB : (sB (some (.int r)) [oB q_t 1 [.ref q_t_near, .int t_left, .int t_newEnds], aI cA q_t_near 14 t_near]) (some (.int r)) [oB q_t 1 [.ref q_t_near, .int t_left, .int t_newEnds], aI cA q_t_near 14 t_near] := ⟨rfl, rfl⟩
  unfold f_X1_isNearlyJoined at hf
  have C : Cx X cX1_isNearlyJoined RX1 (some .boolean) cA 1 21 6 := C
  show Go X 6 0 0 0 [oB q_t 1 [.ref q_t_near, .int t_left, .int t_newEnds], aI cA q_t_near 14 t_near] [(0, .ref q_t), (1, .int a1)] []
  refine g_iconst C 0 (0 : Int32) dX1_isNearlyJoined_0 (by decide) ?_
  refine g_istore_n C 1 (fun z => [(2, .int z), (0, .ref q_t), (1, .int a1)]) dX1_isNearlyJoined_1 rfl (by decide) (fun _ => rfl) hf (fun x2_1 hf => ?_)
  refine g_iconst C 2 (0 : Int32) dX1_isNearlyJoined_2 (by decide) ?_
  refine g_istore_n C 3 (fun z => [(3, .int z), (2, .int x2_1), (0, .ref q_t), (1, .int a1)]) dX1_isNearlyJoined_3 rfl (by decide) (fun _ => rfl) hf (fun x3_2 hf => ?_)
  refine g_iconst C 4 (0 : Int32) dX1_isNearlyJoined_4 (by decide) ?_
  refine g_istore C 5 (fun z => [(4, .int z), (3, .int x3_2), (2, .int x2_1), (0, .ref q_t), (1, .int a1)]) dX1_isNearlyJoined_5 (by decide) (fun _ => rfl) hf (fun x4_3 hf => ?_)
  refine g_lv [3, 4, 2, 1, 0] rfl ?_
  exact w_X1_isNearlyJoined_7 cA q_t t_left t_newEnds q_t_near a1 t_near C hk F r hB NN x2_1 x3_2 x4_3 hf

def L_X1_harmless_2 (a1 : Int32) (t_left : Int32) (t_near : Nat → Int32)  : Nat → Int32 → Option (Int32)
  | 0, _ => none
  | n + 1, x2 =>
    if (14 : Int32) ≤ x2 then
      some ((-1 : Int32))
    else
      cal (f_X8_hasBit t_left x2) fun u2 =>
      if u2 = 0 then
        bnd (x2 + (1 : Int32)) fun x2_3 =>
        L_X1_harmless_2 a1 t_left t_near n x2_3
      else
        ldA t_near 14 x2 fun v4 =>
        cal (f_J6_bitCount_0f7a4 v4) fun u5 =>
        if a1 < u5 then
          bnd (x2 + (1 : Int32)) fun x2_6 =>
          L_X1_harmless_2 a1 t_left t_near n x2_6
        else
          ldA t_near 14 x2 fun v7 =>
          cal (f_X1_isNearlyJoined v7 t_near) fun u8 =>
          if u8 = 0 then
            bnd (x2 + (1 : Int32)) fun x2_9 =>
            L_X1_harmless_2 a1 t_left t_near n x2_9
          else
            some (x2)

set_option maxRecDepth 100000 in
set_option maxHeartbeats 1000000 in
theorem w_X1_harmless_2 (cA : Nat → ClassId) (q_t : Nat) (t_newEnds : Int32) (q_t_near : Nat) (a1 : Int32) (t_left : Int32) (t_near : Nat → Int32) {X : XT}  (C : Cx X cX1_harmless RX1 (some .int) cA 2 46 3) {kk nn : Nat} {BB : Option Value → va_W → Prop} (hk : kk ≤ (x_R X).cells ∧ nn ≤ (x_R X).slots) (F : Fx X BB kk nn) (r : Int32) (hB : BB (some (.int r)) [oB q_t 1 [.ref q_t_near, .int t_left, .int t_newEnds], aI cA q_t_near 14 t_near])  : ∀ (n : Nat) (x2 : Int32), L_X1_harmless_2 a1 t_left t_near n x2 = some r → Go X 3 kk nn 2 [oB q_t 1 [.ref q_t_near, .int t_left, .int t_newEnds], aI cA q_t_near 14 t_near] [(0, .ref q_t), (1, .int a1), (2, .int x2)] [] := by
  intro n
  induction n with
  | zero => intro x2 hf; exact no_some hf
  | succ n ih =>
    intro x2 hf
    rw [L_X1_harmless_2] at hf
    refine g_iload_n C 2 2 dX1_harmless_2 rfl rfl ?_
    refine g_bipush C 3 (14 : Int32) dX1_harmless_3 (by decide) ?_
    refine g_icmp_ge C 5 53 dX1_harmless_5 (by decide) hf (fun hf => ?_) (fun hf => ?_)
    · refine g_iconst C 53 (-1 : Int32) dX1_harmless_53 (by decide) ?_
      cases hf
      exact g_iret C 54 dX1_harmless_54 F hB
    · refine g_aload_n C 8 0 dX1_harmless_8 rfl rfl ?_
      refine g_get C 9 0 1 dX1_harmless_9 inX1 rfl rfl (by decide) kw_9 rfl ?_
      refine g_iload_n C 12 2 dX1_harmless_12 rfl rfl ?_
      obtain ⟨u2, hu2, hf⟩ := cal_some hf
      refine g_callSN C 13 [] (rest := []) dX1_harmless_13 (c_X8_hasBit (x_l X) cA t_left x2 u2 hu2) (List.mem_of_getElem? (i := 9) rfl) kw_5 kw_6 kw_7 ok_X8_hasBit ⟨Nat.le_of_ble_eq_true rfl, Nat.le_of_ble_eq_true rfl⟩ hk ⟨rfl, rfl⟩ rfl rfl rfl (Nat.le_of_ble_eq_true rfl) rfl (ws' := [oB q_t 1 [.ref q_t_near, .int t_left, .int t_newEnds], aI cA q_t_near 14 t_near]) (st' := [.int u2]) (N0 := 2) rfl [none, none] (by decide) rfl rfl ?_
      refine g_if_eq C 16 47 dX1_harmless_16 (by decide) hf (fun hf => ?_) (fun hf => ?_)
      · refine g_iinc C 47 2 (v := x2 + (1 : Int32)) (fun z => [(2, .int z), (0, .ref q_t), (1, .int a1)]) dX1_harmless_47 rfl rfl (by decide) (fun _ => rfl) hf (fun x2_3 hf => ?_)
        refine g_goto C 50 2 dX1_harmless_50 (by decide) ?_
        refine g_lv [1, 2, 0] rfl ?_
        exact ih x2_3 hf
      · refine g_aload_n C 19 0 dX1_harmless_19 rfl rfl ?_
        refine g_get C 20 0 0 dX1_harmless_20 inX1 rfl rfl (by decide) kw_8 rfl ?_
        refine g_iload_n C 23 2 dX1_harmless_23 rfl rfl ?_
        refine g_iald C 24 1 dX1_harmless_24 rfl hf (fun v4 hf => ?_)
        obtain ⟨u5, hu5, hf⟩ := cal_some hf
        refine g_callS C 25 [] (rest := []) dX1_harmless_25 (c_J6_bitCount_0f7a4 (x_l X) cA v4 u5 hu5) kw_19 kw_20 kw_21 kw_22 ok_J6_bitCount_0f7a4 ⟨Nat.le_of_ble_eq_true rfl, Nat.le_of_ble_eq_true rfl⟩ hk ⟨rfl, rfl⟩ rfl rfl rfl (Nat.le_of_ble_eq_true rfl) rfl (ws' := [oB q_t 1 [.ref q_t_near, .int t_left, .int t_newEnds], aI cA q_t_near 14 t_near]) (st' := [.int u5]) (N0 := 2) rfl [none, none] (by decide) rfl rfl ?_
        refine g_iload_n C 28 1 dX1_harmless_28 rfl rfl ?_
        refine g_icmp_gt C 29 47 dX1_harmless_29 (by decide) hf (fun hf => ?_) (fun hf => ?_)
        · refine g_iinc C 47 2 (v := x2 + (1 : Int32)) (fun z => [(2, .int z), (0, .ref q_t), (1, .int a1)]) dX1_harmless_47 rfl rfl (by decide) (fun _ => rfl) hf (fun x2_6 hf => ?_)
          refine g_goto C 50 2 dX1_harmless_50 (by decide) ?_
          refine g_lv [1, 2, 0] rfl ?_
          exact ih x2_6 hf
        · refine g_aload_n C 32 0 dX1_harmless_32 rfl rfl ?_
          refine g_aload_n C 33 0 dX1_harmless_33 rfl rfl ?_
          refine g_get C 34 0 0 dX1_harmless_34 inX1 rfl rfl (by decide) kw_8 rfl ?_
          refine g_iload_n C 37 2 dX1_harmless_37 rfl rfl ?_
          refine g_iald C 38 1 dX1_harmless_38 rfl hf (fun v7 hf => ?_)
          obtain ⟨u8, hu8, hf⟩ := cal_some hf
          refine g_callV1 C 39 [0, 1] 0 (rest := []) dX1_harmless_39 (c_X1_isNearlyJoined (x_l X) cA q_t t_left t_newEnds q_t_near t_near v7 u8 hu8) kw_87 kw_88 kw_89 kw_16 kw_90 ok_X1_isNearlyJoined ⟨Nat.le_of_ble_eq_true rfl, Nat.le_of_ble_eq_true rfl⟩ hk ⟨rfl, rfl⟩ rfl rfl rfl rfl rfl (Nat.le_of_ble_eq_true rfl) rfl (ws' := [oB q_t 1 [.ref q_t_near, .int t_left, .int t_newEnds], aI cA q_t_near 14 t_near]) (st' := [.int u8]) (N0 := 2) rfl [some 0, some 1] (by decide) rfl rfl ?_
          refine g_if_eq C 42 47 dX1_harmless_42 (by decide) hf (fun hf => ?_) (fun hf => ?_)
          · refine g_iinc C 47 2 (v := x2 + (1 : Int32)) (fun z => [(2, .int z), (0, .ref q_t), (1, .int a1)]) dX1_harmless_47 rfl rfl (by decide) (fun _ => rfl) hf (fun x2_9 hf => ?_)
            refine g_goto C 50 2 dX1_harmless_50 (by decide) ?_
            refine g_lv [1, 2, 0] rfl ?_
            exact ih x2_9 hf
          · refine g_iload_n C 45 2 dX1_harmless_45 rfl rfl ?_
            cases hf
            exact g_iret C 46 dX1_harmless_46 F hB
def f_X1_harmless (a1 : Int32) (t_left : Int32) (t_near : Nat → Int32) : Option (Int32) :=
  bnd (0 : Int32) fun x2_1 =>
  L_X1_harmless_2 a1 t_left t_near NN x2_1

set_option maxRecDepth 100000 in
set_option maxHeartbeats 1000000 in
theorem c_X1_harmless (l : Launch) (cA : Nat → ClassId) (q_t : Nat) (t_left : Int32) (t_newEnds : Int32) (q_t_near : Nat) (t_near : Nat → Int32)  (a1 : Int32) (r : Int32) (hf : f_X1_harmless a1 t_left t_near = some r) : MT l cA yX1_harmless cX1_harmless 3 (some .int) ({ frames := 2, cells := 0, slots := 0, locals := 46 } : Room) [.ref q_t, .int a1] [oB q_t 1 [.ref q_t_near, .int t_left, .int t_newEnds], aI cA q_t_near 14 t_near] (sB (some (.int r)) [oB q_t 1 [.ref q_t_near, .int t_left, .int t_newEnds], aI cA q_t_near 14 t_near]) := by
  refine MT.of (by decide) (Nat.le_of_ble_eq_true rfl) ?_
  intro X hXl C F hnm hrc hrs
  subst hXl
  have hk : 0 ≤ (x_R X).cells ∧ 0 ≤ (x_R X).slots := ⟨Nat.zero_le _, Nat.zero_le _⟩
  have hB : (sB (some (.int r)) [oB q_t 1 [.ref q_t_near, .int t_left, .int t_newEnds], aI cA q_t_near 14 t_near]) (some (.int r)) [oB q_t 1 [.ref q_t_near, .int t_left, .int t_newEnds], aI cA q_t_near 14 t_near] := ⟨rfl, rfl⟩
  unfold f_X1_harmless at hf
  have C : Cx X cX1_harmless RX1 (some .int) cA 2 46 3 := C
  show Go X 3 0 0 0 [oB q_t 1 [.ref q_t_near, .int t_left, .int t_newEnds], aI cA q_t_near 14 t_near] [(0, .ref q_t), (1, .int a1)] []
  refine g_iconst C 0 (0 : Int32) dX1_harmless_0 (by decide) ?_
  refine g_istore_n C 1 (fun z => [(2, .int z), (0, .ref q_t), (1, .int a1)]) dX1_harmless_1 rfl (by decide) (fun _ => rfl) hf (fun x2_1 hf => ?_)
  refine g_lv [1, 2, 0] rfl ?_
  exact w_X1_harmless_2 cA q_t t_newEnds q_t_near a1 t_left t_near C hk F r hB NN x2_1 hf
