theorem dX2_holds_0 : decode cX2_holds 0 = .ok (.aload_n 0, 1) := by decide +kernel
theorem dX2_holds_1 : decode cX2_holds 1 = .ok (.getfield 15, 3) := by decide +kernel
theorem dX2_holds_4 : decode cX2_holds 4 = .ok (.iload_n 1, 1) := by decide +kernel
theorem dX2_holds_5 : decode cX2_holds 5 = .ok (.invokestatic 19, 3) := by decide +kernel
theorem dX2_holds_8 : decode cX2_holds 8 = .ok (.ireturn, 1) := by decide +kernel
theorem dX2_append_0 : decode cX2_append 0 = .ok (.aload_n 0, 1) := by decide +kernel
theorem dX2_append_1 : decode cX2_append 1 = .ok (.getfield 23, 3) := by decide +kernel
theorem dX2_append_4 : decode cX2_append 4 = .ok (.bipush 14, 2) := by decide +kernel
theorem dX2_append_6 : decode cX2_append 6 = .ok (.if_icmp .lt 4, 3) := by decide +kernel
theorem dX2_append_9 : decode cX2_append 9 = .ok (.return_, 1) := by decide +kernel
theorem dX2_append_10 : decode cX2_append 10 = .ok (.aload_n 0, 1) := by decide +kernel
theorem dX2_append_11 : decode cX2_append 11 = .ok (.getfield 9, 3) := by decide +kernel
theorem dX2_append_14 : decode cX2_append 14 = .ok (.aload_n 0, 1) := by decide +kernel
theorem dX2_append_15 : decode cX2_append 15 = .ok (.getfield 23, 3) := by decide +kernel
theorem dX2_append_18 : decode cX2_append 18 = .ok (.iload_n 1, 1) := by decide +kernel
theorem dX2_append_19 : decode cX2_append 19 = .ok (.iastore, 1) := by decide +kernel
theorem dX2_append_20 : decode cX2_append 20 = .ok (.aload_n 0, 1) := by decide +kernel
theorem dX2_append_21 : decode cX2_append 21 = .ok (.dup, 1) := by decide +kernel
theorem dX2_append_22 : decode cX2_append 22 = .ok (.getfield 23, 3) := by decide +kernel
theorem dX2_append_25 : decode cX2_append 25 = .ok (.iconst 1, 1) := by decide +kernel
theorem dX2_append_26 : decode cX2_append 26 = .ok (.iadd, 1) := by decide +kernel
theorem dX2_append_27 : decode cX2_append 27 = .ok (.putfield 23, 3) := by decide +kernel
theorem dX2_append_30 : decode cX2_append 30 = .ok (.aload_n 0, 1) := by decide +kernel
theorem dX2_append_31 : decode cX2_append 31 = .ok (.dup, 1) := by decide +kernel
theorem dX2_append_32 : decode cX2_append 32 = .ok (.getfield 15, 3) := by decide +kernel
theorem dX2_append_35 : decode cX2_append 35 = .ok (.iconst 1, 1) := by decide +kernel
theorem dX2_append_36 : decode cX2_append 36 = .ok (.iload_n 1, 1) := by decide +kernel
theorem dX2_append_37 : decode cX2_append 37 = .ok (.ishl, 1) := by decide +kernel
theorem dX2_append_38 : decode cX2_append 38 = .ok (.ior, 1) := by decide +kernel
theorem dX2_append_39 : decode cX2_append 39 = .ok (.putfield 15, 3) := by decide +kernel
theorem dX2_append_42 : decode cX2_append 42 = .ok (.return_, 1) := by decide +kernel
theorem dX2_empty_0 : decode cX2_empty 0 = .ok (.aload_n 0, 1) := by decide +kernel
theorem dX2_empty_1 : decode cX2_empty 1 = .ok (.iconst 0, 1) := by decide +kernel
theorem dX2_empty_2 : decode cX2_empty 2 = .ok (.putfield 23, 3) := by decide +kernel
theorem dX2_empty_5 : decode cX2_empty 5 = .ok (.aload_n 0, 1) := by decide +kernel
theorem dX2_empty_6 : decode cX2_empty 6 = .ok (.iconst 0, 1) := by decide +kernel
theorem dX2_empty_7 : decode cX2_empty 7 = .ok (.putfield 15, 3) := by decide +kernel
theorem dX2_empty_10 : decode cX2_empty 10 = .ok (.return_, 1) := by decide +kernel
theorem dX2_nextPlace_0 : decode cX2_nextPlace 0 = .ok (.iload_n 1, 1) := by decide +kernel
theorem dX2_nextPlace_1 : decode cX2_nextPlace 1 = .ok (.iconst 1, 1) := by decide +kernel
theorem dX2_nextPlace_2 : decode cX2_nextPlace 2 = .ok (.iadd, 1) := by decide +kernel
theorem dX2_nextPlace_3 : decode cX2_nextPlace 3 = .ok (.istore_n 3, 1) := by decide +kernel
theorem dX2_nextPlace_4 : decode cX2_nextPlace 4 = .ok (.iload_n 3, 1) := by decide +kernel
theorem dX2_nextPlace_5 : decode cX2_nextPlace 5 = .ok (.aload_n 0, 1) := by decide +kernel
theorem dX2_nextPlace_6 : decode cX2_nextPlace 6 = .ok (.getfield 23, 3) := by decide +kernel
theorem dX2_nextPlace_9 : decode cX2_nextPlace 9 = .ok (.if_icmp .ge 24, 3) := by decide +kernel
theorem dX2_nextPlace_12 : decode cX2_nextPlace 12 = .ok (.iload_n 2, 1) := by decide +kernel
theorem dX2_nextPlace_13 : decode cX2_nextPlace 13 = .ok (.aload_n 0, 1) := by decide +kernel
theorem dX2_nextPlace_14 : decode cX2_nextPlace 14 = .ok (.getfield 9, 3) := by decide +kernel
theorem dX2_nextPlace_17 : decode cX2_nextPlace 17 = .ok (.iload_n 3, 1) := by decide +kernel
theorem dX2_nextPlace_18 : decode cX2_nextPlace 18 = .ok (.iaload, 1) := by decide +kernel
theorem dX2_nextPlace_19 : decode cX2_nextPlace 19 = .ok (.invokestatic 19, 3) := by decide +kernel
theorem dX2_nextPlace_22 : decode cX2_nextPlace 22 = .ok (.ifCond .eq 5, 3) := by decide +kernel
theorem dX2_nextPlace_25 : decode cX2_nextPlace 25 = .ok (.iload_n 3, 1) := by decide +kernel
theorem dX2_nextPlace_26 : decode cX2_nextPlace 26 = .ok (.ireturn, 1) := by decide +kernel
theorem dX2_nextPlace_27 : decode cX2_nextPlace 27 = .ok (.iinc 3 1, 3) := by decide +kernel
theorem dX2_nextPlace_30 : decode cX2_nextPlace 30 = .ok (.goto (-26), 3) := by decide +kernel
theorem dX2_nextPlace_33 : decode cX2_nextPlace 33 = .ok (.iload_n 1, 1) := by decide +kernel
theorem dX2_nextPlace_34 : decode cX2_nextPlace 34 = .ok (.iconst 1, 1) := by decide +kernel
theorem dX2_nextPlace_35 : decode cX2_nextPlace 35 = .ok (.iadd, 1) := by decide +kernel
theorem dX2_nextPlace_36 : decode cX2_nextPlace 36 = .ok (.aload_n 0, 1) := by decide +kernel
theorem dX2_nextPlace_37 : decode cX2_nextPlace 37 = .ok (.getfield 23, 3) := by decide +kernel
theorem dX2_nextPlace_40 : decode cX2_nextPlace 40 = .ok (.if_icmp .ge 9, 3) := by decide +kernel
theorem dX2_nextPlace_43 : decode cX2_nextPlace 43 = .ok (.iload_n 1, 1) := by decide +kernel
theorem dX2_nextPlace_44 : decode cX2_nextPlace 44 = .ok (.iconst 1, 1) := by decide +kernel
theorem dX2_nextPlace_45 : decode cX2_nextPlace 45 = .ok (.iadd, 1) := by decide +kernel
theorem dX2_nextPlace_46 : decode cX2_nextPlace 46 = .ok (.goto 4, 3) := by decide +kernel
theorem dX2_nextPlace_49 : decode cX2_nextPlace 49 = .ok (.iconst (-1), 1) := by decide +kernel
theorem dX2_nextPlace_50 : decode cX2_nextPlace 50 = .ok (.ireturn, 1) := by decide +kernel
theorem dX3_has_0 : decode cX3_has 0 = .ok (.iload_n 1, 1) := by decide +kernel
theorem dX3_has_1 : decode cX3_has 1 = .ok (.ifCond .lt 15, 3) := by decide +kernel
theorem dX3_has_4 : decode cX3_has 4 = .ok (.iload_n 1, 1) := by decide +kernel
theorem dX3_has_5 : decode cX3_has 5 = .ok (.aload_n 0, 1) := by decide +kernel
theorem dX3_has_6 : decode cX3_has 6 = .ok (.getfield 9, 3) := by decide +kernel
theorem dX3_has_9 : decode cX3_has 9 = .ok (.if_icmp .ge 7, 3) := by decide +kernel
theorem dX3_has_12 : decode cX3_has 12 = .ok (.iconst 1, 1) := by decide +kernel
theorem dX3_has_13 : decode cX3_has 13 = .ok (.goto 4, 3) := by decide +kernel
theorem dX3_has_16 : decode cX3_has 16 = .ok (.iconst 0, 1) := by decide +kernel
theorem dX3_has_17 : decode cX3_has 17 = .ok (.ireturn, 1) := by decide +kernel
theorem dX3_startAgain_0 : decode cX3_startAgain 0 = .ok (.aload_n 0, 1) := by decide +kernel
theorem dX3_startAgain_1 : decode cX3_startAgain 1 = .ok (.iload_n 1, 1) := by decide +kernel
theorem dX3_startAgain_2 : decode cX3_startAgain 2 = .ok (.putfield 9, 3) := by decide +kernel
theorem dX3_startAgain_5 : decode cX3_startAgain 5 = .ok (.iconst 0, 1) := by decide +kernel
theorem dX3_startAgain_6 : decode cX3_startAgain 6 = .ok (.istore_n 2, 1) := by decide +kernel
theorem dX3_startAgain_7 : decode cX3_startAgain 7 = .ok (.iload_n 2, 1) := by decide +kernel
theorem dX3_startAgain_8 : decode cX3_startAgain 8 = .ok (.aload_n 0, 1) := by decide +kernel
theorem dX3_startAgain_9 : decode cX3_startAgain 9 = .ok (.getfield 15, 3) := by decide +kernel
theorem dX3_startAgain_12 : decode cX3_startAgain 12 = .ok (.arraylength, 1) := by decide +kernel
theorem dX3_startAgain_13 : decode cX3_startAgain 13 = .ok (.if_icmp .ge 16, 3) := by decide +kernel
theorem dX3_startAgain_16 : decode cX3_startAgain 16 = .ok (.aload_n 0, 1) := by decide +kernel
theorem dX3_startAgain_17 : decode cX3_startAgain 17 = .ok (.getfield 15, 3) := by decide +kernel
theorem dX3_startAgain_20 : decode cX3_startAgain 20 = .ok (.iload_n 2, 1) := by decide +kernel
theorem dX3_startAgain_21 : decode cX3_startAgain 21 = .ok (.iconst 0, 1) := by decide +kernel
theorem dX3_startAgain_22 : decode cX3_startAgain 22 = .ok (.iastore, 1) := by decide +kernel
theorem dX3_startAgain_23 : decode cX3_startAgain 23 = .ok (.iinc 2 1, 3) := by decide +kernel
theorem dX3_startAgain_26 : decode cX3_startAgain 26 = .ok (.goto (-19), 3) := by decide +kernel
theorem dX3_startAgain_29 : decode cX3_startAgain 29 = .ok (.iconst 0, 1) := by decide +kernel
theorem dX3_startAgain_30 : decode cX3_startAgain 30 = .ok (.istore_n 2, 1) := by decide +kernel
theorem dX3_startAgain_31 : decode cX3_startAgain 31 = .ok (.iload_n 2, 1) := by decide +kernel
theorem dX3_startAgain_32 : decode cX3_startAgain 32 = .ok (.aload_n 0, 1) := by decide +kernel
theorem dX3_startAgain_33 : decode cX3_startAgain 33 = .ok (.getfield 19, 3) := by decide +kernel
theorem dX3_startAgain_36 : decode cX3_startAgain 36 = .ok (.arraylength, 1) := by decide +kernel
theorem dX3_startAgain_37 : decode cX3_startAgain 37 = .ok (.if_icmp .ge 23, 3) := by decide +kernel
theorem dX3_startAgain_40 : decode cX3_startAgain 40 = .ok (.aload_n 0, 1) := by decide +kernel
theorem dX3_startAgain_41 : decode cX3_startAgain 41 = .ok (.getfield 19, 3) := by decide +kernel
theorem dX3_startAgain_44 : decode cX3_startAgain 44 = .ok (.iload_n 2, 1) := by decide +kernel
theorem dX3_startAgain_45 : decode cX3_startAgain 45 = .ok (.iconst 0, 1) := by decide +kernel
theorem dX3_startAgain_46 : decode cX3_startAgain 46 = .ok (.iastore, 1) := by decide +kernel
theorem dX3_startAgain_47 : decode cX3_startAgain 47 = .ok (.aload_n 0, 1) := by decide +kernel
theorem dX3_startAgain_48 : decode cX3_startAgain 48 = .ok (.getfield 22, 3) := by decide +kernel
theorem dX3_startAgain_51 : decode cX3_startAgain 51 = .ok (.iload_n 2, 1) := by decide +kernel
theorem dX3_startAgain_52 : decode cX3_startAgain 52 = .ok (.iconst 0, 1) := by decide +kernel
theorem dX3_startAgain_53 : decode cX3_startAgain 53 = .ok (.bastore, 1) := by decide +kernel
theorem dX3_startAgain_54 : decode cX3_startAgain 54 = .ok (.iinc 2 1, 3) := by decide +kernel
theorem dX3_startAgain_57 : decode cX3_startAgain 57 = .ok (.goto (-26), 3) := by decide +kernel
theorem dX3_startAgain_60 : decode cX3_startAgain 60 = .ok (.iconst 0, 1) := by decide +kernel
theorem dX3_startAgain_61 : decode cX3_startAgain 61 = .ok (.istore_n 2, 1) := by decide +kernel
theorem dX3_startAgain_62 : decode cX3_startAgain 62 = .ok (.iload_n 2, 1) := by decide +kernel
theorem dX3_startAgain_63 : decode cX3_startAgain 63 = .ok (.aload_n 0, 1) := by decide +kernel
theorem dX3_startAgain_64 : decode cX3_startAgain 64 = .ok (.getfield 26, 3) := by decide +kernel
theorem dX3_startAgain_67 : decode cX3_startAgain 67 = .ok (.arraylength, 1) := by decide +kernel
theorem dX3_startAgain_68 : decode cX3_startAgain 68 = .ok (.if_icmp .ge 16, 3) := by decide +kernel
theorem dX3_startAgain_71 : decode cX3_startAgain 71 = .ok (.aload_n 0, 1) := by decide +kernel
theorem dX3_startAgain_72 : decode cX3_startAgain 72 = .ok (.getfield 26, 3) := by decide +kernel
theorem dX3_startAgain_75 : decode cX3_startAgain 75 = .ok (.iload_n 2, 1) := by decide +kernel
theorem dX3_startAgain_76 : decode cX3_startAgain 76 = .ok (.iconst 0, 1) := by decide +kernel
theorem dX3_startAgain_77 : decode cX3_startAgain 77 = .ok (.iastore, 1) := by decide +kernel
theorem dX3_startAgain_78 : decode cX3_startAgain 78 = .ok (.iinc 2 1, 3) := by decide +kernel
theorem dX3_startAgain_81 : decode cX3_startAgain 81 = .ok (.goto (-19), 3) := by decide +kernel
theorem dX3_startAgain_84 : decode cX3_startAgain 84 = .ok (.return_, 1) := by decide +kernel
theorem dX3_setPair_0 : decode cX3_setPair 0 = .ok (.aload_n 0, 1) := by decide +kernel
theorem dX3_setPair_1 : decode cX3_setPair 1 = .ok (.getfield 19, 3) := by decide +kernel
theorem dX3_setPair_4 : decode cX3_setPair 4 = .ok (.iload_n 1, 1) := by decide +kernel
theorem dX3_setPair_5 : decode cX3_setPair 5 = .ok (.iconst 4, 1) := by decide +kernel
theorem dX3_setPair_6 : decode cX3_setPair 6 = .ok (.imul, 1) := by decide +kernel
theorem dX3_setPair_7 : decode cX3_setPair 7 = .ok (.iload_n 2, 1) := by decide +kernel
theorem dX3_setPair_8 : decode cX3_setPair 8 = .ok (.iadd, 1) := by decide +kernel
theorem dX3_setPair_9 : decode cX3_setPair 9 = .ok (.iload 4, 2) := by decide +kernel
theorem dX3_setPair_11 : decode cX3_setPair 11 = .ok (.iastore, 1) := by decide +kernel
theorem dX3_setPair_12 : decode cX3_setPair 12 = .ok (.aload_n 0, 1) := by decide +kernel
theorem dX3_setPair_13 : decode cX3_setPair 13 = .ok (.getfield 19, 3) := by decide +kernel
theorem dX3_setPair_16 : decode cX3_setPair 16 = .ok (.iload_n 2, 1) := by decide +kernel
theorem dX3_setPair_17 : decode cX3_setPair 17 = .ok (.iconst 4, 1) := by decide +kernel
theorem dX3_setPair_18 : decode cX3_setPair 18 = .ok (.imul, 1) := by decide +kernel
theorem dX3_setPair_19 : decode cX3_setPair 19 = .ok (.iload_n 1, 1) := by decide +kernel
theorem dX3_setPair_20 : decode cX3_setPair 20 = .ok (.iadd, 1) := by decide +kernel
theorem dX3_setPair_21 : decode cX3_setPair 21 = .ok (.iload 4, 2) := by decide +kernel
theorem dX3_setPair_23 : decode cX3_setPair 23 = .ok (.iastore, 1) := by decide +kernel
theorem dX3_setPair_24 : decode cX3_setPair 24 = .ok (.aload_n 0, 1) := by decide +kernel
theorem dX3_setPair_25 : decode cX3_setPair 25 = .ok (.getfield 22, 3) := by decide +kernel
theorem dX3_setPair_28 : decode cX3_setPair 28 = .ok (.iload_n 1, 1) := by decide +kernel
theorem dX3_setPair_29 : decode cX3_setPair 29 = .ok (.iconst 4, 1) := by decide +kernel
theorem dX3_setPair_30 : decode cX3_setPair 30 = .ok (.imul, 1) := by decide +kernel
theorem dX3_setPair_31 : decode cX3_setPair 31 = .ok (.iload_n 2, 1) := by decide +kernel
theorem dX3_setPair_32 : decode cX3_setPair 32 = .ok (.iadd, 1) := by decide +kernel
theorem dX3_setPair_33 : decode cX3_setPair 33 = .ok (.iload_n 3, 1) := by decide +kernel
theorem dX3_setPair_34 : decode cX3_setPair 34 = .ok (.bastore, 1) := by decide +kernel
theorem dX3_setPair_35 : decode cX3_setPair 35 = .ok (.aload_n 0, 1) := by decide +kernel
theorem dX3_setPair_36 : decode cX3_setPair 36 = .ok (.getfield 22, 3) := by decide +kernel
theorem dX3_setPair_39 : decode cX3_setPair 39 = .ok (.iload_n 2, 1) := by decide +kernel
theorem dX3_setPair_40 : decode cX3_setPair 40 = .ok (.iconst 4, 1) := by decide +kernel
theorem dX3_setPair_41 : decode cX3_setPair 41 = .ok (.imul, 1) := by decide +kernel
theorem dX3_setPair_42 : decode cX3_setPair 42 = .ok (.iload_n 1, 1) := by decide +kernel
theorem dX3_setPair_43 : decode cX3_setPair 43 = .ok (.iadd, 1) := by decide +kernel
theorem dX3_setPair_44 : decode cX3_setPair 44 = .ok (.iload_n 3, 1) := by decide +kernel
theorem dX3_setPair_45 : decode cX3_setPair 45 = .ok (.bastore, 1) := by decide +kernel
theorem dX3_setPair_46 : decode cX3_setPair 46 = .ok (.return_, 1) := by decide +kernel
theorem dX3_openFor_0 : decode cX3_openFor 0 = .ok (.iconst 1, 1) := by decide +kernel
theorem dX3_openFor_1 : decode cX3_openFor 1 = .ok (.aload_n 0, 1) := by decide +kernel
theorem dX3_openFor_2 : decode cX3_openFor 2 = .ok (.getfield 9, 3) := by decide +kernel
theorem dX3_openFor_5 : decode cX3_openFor 5 = .ok (.ishl, 1) := by decide +kernel
theorem dX3_openFor_6 : decode cX3_openFor 6 = .ok (.iconst 1, 1) := by decide +kernel
theorem dX3_openFor_7 : decode cX3_openFor 7 = .ok (.isub, 1) := by decide +kernel
theorem dX3_openFor_8 : decode cX3_openFor 8 = .ok (.aload_n 0, 1) := by decide +kernel
theorem dX3_openFor_9 : decode cX3_openFor 9 = .ok (.getfield 26, 3) := by decide +kernel
theorem dX3_openFor_12 : decode cX3_openFor 12 = .ok (.iload_n 1, 1) := by decide +kernel
theorem dX3_openFor_13 : decode cX3_openFor 13 = .ok (.iaload, 1) := by decide +kernel
theorem dX3_openFor_14 : decode cX3_openFor 14 = .ok (.iconst (-1), 1) := by decide +kernel
theorem dX3_openFor_15 : decode cX3_openFor 15 = .ok (.ixor, 1) := by decide +kernel
theorem dX3_openFor_16 : decode cX3_openFor 16 = .ok (.iand, 1) := by decide +kernel
theorem dX3_openFor_17 : decode cX3_openFor 17 = .ok (.ireturn, 1) := by decide +kernel
theorem dX4_has_0 : decode cX4_has 0 = .ok (.iload_n 1, 1) := by decide +kernel
theorem dX4_has_1 : decode cX4_has 1 = .ok (.ifCond .lt 15, 3) := by decide +kernel
theorem dX4_has_4 : decode cX4_has 4 = .ok (.iload_n 1, 1) := by decide +kernel
theorem dX4_has_5 : decode cX4_has 5 = .ok (.aload_n 0, 1) := by decide +kernel
theorem dX4_has_6 : decode cX4_has 6 = .ok (.getfield 21, 3) := by decide +kernel
theorem dX4_has_9 : decode cX4_has 9 = .ok (.if_icmp .ge 7, 3) := by decide +kernel
theorem dX4_has_12 : decode cX4_has 12 = .ok (.iconst 1, 1) := by decide +kernel
theorem dX4_has_13 : decode cX4_has 13 = .ok (.goto 4, 3) := by decide +kernel
theorem dX4_has_16 : decode cX4_has 16 = .ok (.iconst 0, 1) := by decide +kernel
theorem dX4_has_17 : decode cX4_has 17 = .ok (.ireturn, 1) := by decide +kernel
theorem dX4_everyKnot_0 : decode cX4_everyKnot 0 = .ok (.iconst 1, 1) := by decide +kernel
theorem dX4_everyKnot_1 : decode cX4_everyKnot 1 = .ok (.aload_n 0, 1) := by decide +kernel
theorem dX4_everyKnot_2 : decode cX4_everyKnot 2 = .ok (.getfield 21, 3) := by decide +kernel
theorem dX4_everyKnot_5 : decode cX4_everyKnot 5 = .ok (.ishl, 1) := by decide +kernel
theorem dX4_everyKnot_6 : decode cX4_everyKnot 6 = .ok (.iconst 1, 1) := by decide +kernel
theorem dX4_everyKnot_7 : decode cX4_everyKnot 7 = .ok (.isub, 1) := by decide +kernel
theorem dX4_everyKnot_8 : decode cX4_everyKnot 8 = .ok (.ireturn, 1) := by decide +kernel
theorem dX4_joined_0 : decode cX4_joined 0 = .ok (.aload_n 0, 1) := by decide +kernel
theorem dX4_joined_1 : decode cX4_joined 1 = .ok (.iload_n 1, 1) := by decide +kernel
theorem dX4_joined_2 : decode cX4_joined 2 = .ok (.invokevirtual 25, 3) := by decide +kernel
theorem dX4_joined_5 : decode cX4_joined 5 = .ok (.ifCond .eq 28, 3) := by decide +kernel
theorem dX4_joined_8 : decode cX4_joined 8 = .ok (.aload_n 0, 1) := by decide +kernel
theorem dX4_joined_9 : decode cX4_joined 9 = .ok (.iload_n 2, 1) := by decide +kernel
theorem dX4_joined_10 : decode cX4_joined 10 = .ok (.invokevirtual 25, 3) := by decide +kernel
theorem dX4_joined_13 : decode cX4_joined 13 = .ok (.ifCond .eq 20, 3) := by decide +kernel
theorem dX4_joined_16 : decode cX4_joined 16 = .ok (.aload_n 0, 1) := by decide +kernel
theorem dX4_joined_17 : decode cX4_joined 17 = .ok (.getfield 15, 3) := by decide +kernel
theorem dX4_joined_20 : decode cX4_joined 20 = .ok (.iload_n 1, 1) := by decide +kernel
theorem dX4_joined_21 : decode cX4_joined 21 = .ok (.iaload, 1) := by decide +kernel
theorem dX4_joined_22 : decode cX4_joined 22 = .ok (.iload_n 2, 1) := by decide +kernel
theorem dX4_joined_23 : decode cX4_joined 23 = .ok (.invokestatic 29, 3) := by decide +kernel
theorem dX4_joined_26 : decode cX4_joined 26 = .ok (.ifCond .eq 7, 3) := by decide +kernel
theorem dX4_joined_29 : decode cX4_joined 29 = .ok (.iconst 1, 1) := by decide +kernel
theorem dX4_joined_30 : decode cX4_joined 30 = .ok (.goto 4, 3) := by decide +kernel
theorem dX4_joined_33 : decode cX4_joined 33 = .ok (.iconst 0, 1) := by decide +kernel
theorem dX4_joined_34 : decode cX4_joined 34 = .ok (.ireturn, 1) := by decide +kernel
theorem dX4_addKnot_0 : decode cX4_addKnot 0 = .ok (.aload_n 0, 1) := by decide +kernel
theorem dX4_addKnot_1 : decode cX4_addKnot 1 = .ok (.getfield 9, 3) := by decide +kernel
theorem dX4_addKnot_4 : decode cX4_addKnot 4 = .ok (.aload_n 0, 1) := by decide +kernel
theorem dX4_addKnot_5 : decode cX4_addKnot 5 = .ok (.getfield 21, 3) := by decide +kernel
theorem dX4_addKnot_8 : decode cX4_addKnot 8 = .ok (.iload_n 1, 1) := by decide +kernel
theorem dX4_addKnot_9 : decode cX4_addKnot 9 = .ok (.iastore, 1) := by decide +kernel
theorem dX4_addKnot_10 : decode cX4_addKnot 10 = .ok (.aload_n 0, 1) := by decide +kernel
theorem dX4_addKnot_11 : decode cX4_addKnot 11 = .ok (.dup, 1) := by decide +kernel
theorem dX4_addKnot_12 : decode cX4_addKnot 12 = .ok (.getfield 21, 3) := by decide +kernel
theorem dX4_addKnot_15 : decode cX4_addKnot 15 = .ok (.iconst 1, 1) := by decide +kernel
theorem dX4_addKnot_16 : decode cX4_addKnot 16 = .ok (.iadd, 1) := by decide +kernel
theorem dX4_addKnot_17 : decode cX4_addKnot 17 = .ok (.putfield 21, 3) := by decide +kernel
theorem dX4_addKnot_20 : decode cX4_addKnot 20 = .ok (.aload_n 0, 1) := by decide +kernel
theorem dX4_addKnot_21 : decode cX4_addKnot 21 = .ok (.getfield 21, 3) := by decide +kernel
theorem dX4_addKnot_24 : decode cX4_addKnot 24 = .ok (.iconst 1, 1) := by decide +kernel
theorem dX4_addKnot_25 : decode cX4_addKnot 25 = .ok (.isub, 1) := by decide +kernel
theorem dX4_addKnot_26 : decode cX4_addKnot 26 = .ok (.ireturn, 1) := by decide +kernel
theorem dX4_join_0 : decode cX4_join 0 = .ok (.aload_n 0, 1) := by decide +kernel
theorem dX4_join_1 : decode cX4_join 1 = .ok (.getfield 15, 3) := by decide +kernel
theorem dX4_join_4 : decode cX4_join 4 = .ok (.iload_n 1, 1) := by decide +kernel
theorem dX4_join_5 : decode cX4_join 5 = .ok (.iaload, 1) := by decide +kernel
theorem dX4_join_6 : decode cX4_join 6 = .ok (.iload_n 2, 1) := by decide +kernel
theorem dX4_join_7 : decode cX4_join 7 = .ok (.invokestatic 29, 3) := by decide +kernel
theorem dX4_join_10 : decode cX4_join 10 = .ok (.ifCond .ne 7, 3) := by decide +kernel
theorem dX4_join_13 : decode cX4_join 13 = .ok (.iconst 1, 1) := by decide +kernel
theorem dX4_join_14 : decode cX4_join 14 = .ok (.goto 4, 3) := by decide +kernel
theorem dX4_join_17 : decode cX4_join 17 = .ok (.iconst 0, 1) := by decide +kernel
theorem dX4_join_18 : decode cX4_join 18 = .ok (.istore 4, 2) := by decide +kernel
theorem dX4_join_20 : decode cX4_join 20 = .ok (.iload 4, 2) := by decide +kernel
theorem dX4_join_22 : decode cX4_join 22 = .ok (.ifCond .eq 13, 3) := by decide +kernel
theorem dX4_join_25 : decode cX4_join 25 = .ok (.aload_n 0, 1) := by decide +kernel
theorem dX4_join_26 : decode cX4_join 26 = .ok (.dup, 1) := by decide +kernel
theorem dX4_join_27 : decode cX4_join 27 = .ok (.getfield 33, 3) := by decide +kernel
theorem dX4_join_30 : decode cX4_join 30 = .ok (.iconst 1, 1) := by decide +kernel
theorem dX4_join_31 : decode cX4_join 31 = .ok (.iadd, 1) := by decide +kernel
theorem dX4_join_32 : decode cX4_join 32 = .ok (.putfield 33, 3) := by decide +kernel
theorem dX4_join_35 : decode cX4_join 35 = .ok (.aload_n 0, 1) := by decide +kernel
theorem dX4_join_36 : decode cX4_join 36 = .ok (.getfield 15, 3) := by decide +kernel
theorem dX4_join_39 : decode cX4_join 39 = .ok (.iload_n 1, 1) := by decide +kernel
theorem dX4_join_40 : decode cX4_join 40 = .ok (.dup2, 1) := by decide +kernel
theorem dX4_join_41 : decode cX4_join 41 = .ok (.iaload, 1) := by decide +kernel
theorem dX4_join_42 : decode cX4_join 42 = .ok (.iconst 1, 1) := by decide +kernel
theorem dX4_join_43 : decode cX4_join 43 = .ok (.iload_n 2, 1) := by decide +kernel
theorem dX4_join_44 : decode cX4_join 44 = .ok (.ishl, 1) := by decide +kernel
theorem dX4_join_45 : decode cX4_join 45 = .ok (.ior, 1) := by decide +kernel
theorem dX4_join_46 : decode cX4_join 46 = .ok (.iastore, 1) := by decide +kernel
theorem dX4_join_47 : decode cX4_join 47 = .ok (.aload_n 0, 1) := by decide +kernel
theorem dX4_join_48 : decode cX4_join 48 = .ok (.getfield 15, 3) := by decide +kernel
theorem dX4_join_51 : decode cX4_join 51 = .ok (.iload_n 2, 1) := by decide +kernel
theorem dX4_join_52 : decode cX4_join 52 = .ok (.dup2, 1) := by decide +kernel
theorem dX4_join_53 : decode cX4_join 53 = .ok (.iaload, 1) := by decide +kernel
theorem dX4_join_54 : decode cX4_join 54 = .ok (.iconst 1, 1) := by decide +kernel
theorem dX4_join_55 : decode cX4_join 55 = .ok (.iload_n 1, 1) := by decide +kernel
theorem dX4_join_56 : decode cX4_join 56 = .ok (.ishl, 1) := by decide +kernel
theorem dX4_join_57 : decode cX4_join 57 = .ok (.ior, 1) := by decide +kernel
theorem dX4_join_58 : decode cX4_join 58 = .ok (.iastore, 1) := by decide +kernel
theorem dX4_join_59 : decode cX4_join 59 = .ok (.aload_n 0, 1) := by decide +kernel
theorem dX4_join_60 : decode cX4_join 60 = .ok (.getfield 18, 3) := by decide +kernel
theorem dX4_join_63 : decode cX4_join 63 = .ok (.iload_n 1, 1) := by decide +kernel
theorem dX4_join_64 : decode cX4_join 64 = .ok (.bipush 14, 2) := by decide +kernel
theorem dX4_join_66 : decode cX4_join 66 = .ok (.imul, 1) := by decide +kernel
theorem dX4_join_67 : decode cX4_join 67 = .ok (.iload_n 2, 1) := by decide +kernel
theorem dX4_join_68 : decode cX4_join 68 = .ok (.iadd, 1) := by decide +kernel
theorem dX4_join_69 : decode cX4_join 69 = .ok (.iload_n 3, 1) := by decide +kernel
theorem dX4_join_70 : decode cX4_join 70 = .ok (.iastore, 1) := by decide +kernel
theorem dX4_join_71 : decode cX4_join 71 = .ok (.aload_n 0, 1) := by decide +kernel
theorem dX4_join_72 : decode cX4_join 72 = .ok (.getfield 18, 3) := by decide +kernel
theorem dX4_join_75 : decode cX4_join 75 = .ok (.iload_n 2, 1) := by decide +kernel
theorem dX4_join_76 : decode cX4_join 76 = .ok (.bipush 14, 2) := by decide +kernel
theorem dX4_join_78 : decode cX4_join 78 = .ok (.imul, 1) := by decide +kernel
theorem dX4_join_79 : decode cX4_join 79 = .ok (.iload_n 1, 1) := by decide +kernel
theorem dX4_join_80 : decode cX4_join 80 = .ok (.iadd, 1) := by decide +kernel
theorem dX4_join_81 : decode cX4_join 81 = .ok (.iload_n 3, 1) := by decide +kernel
theorem dX4_join_82 : decode cX4_join 82 = .ok (.iastore, 1) := by decide +kernel
theorem dX4_join_83 : decode cX4_join 83 = .ok (.iload 4, 2) := by decide +kernel
theorem dX4_join_85 : decode cX4_join 85 = .ok (.ireturn, 1) := by decide +kernel
theorem dX4_part_0 : decode cX4_part 0 = .ok (.aload_n 0, 1) := by decide +kernel
theorem dX4_part_1 : decode cX4_part 1 = .ok (.getfield 15, 3) := by decide +kernel
theorem dX4_part_4 : decode cX4_part 4 = .ok (.iload_n 1, 1) := by decide +kernel
theorem dX4_part_5 : decode cX4_part 5 = .ok (.dup2, 1) := by decide +kernel
theorem dX4_part_6 : decode cX4_part 6 = .ok (.iaload, 1) := by decide +kernel
theorem dX4_part_7 : decode cX4_part 7 = .ok (.iconst 1, 1) := by decide +kernel
theorem dX4_part_8 : decode cX4_part 8 = .ok (.iload_n 2, 1) := by decide +kernel
theorem dX4_part_9 : decode cX4_part 9 = .ok (.ishl, 1) := by decide +kernel
theorem dX4_part_10 : decode cX4_part 10 = .ok (.iconst (-1), 1) := by decide +kernel
theorem dX4_part_11 : decode cX4_part 11 = .ok (.ixor, 1) := by decide +kernel
theorem dX4_part_12 : decode cX4_part 12 = .ok (.iand, 1) := by decide +kernel
theorem dX4_part_13 : decode cX4_part 13 = .ok (.iastore, 1) := by decide +kernel
theorem dX4_part_14 : decode cX4_part 14 = .ok (.aload_n 0, 1) := by decide +kernel
theorem dX4_part_15 : decode cX4_part 15 = .ok (.getfield 15, 3) := by decide +kernel
theorem dX4_part_18 : decode cX4_part 18 = .ok (.iload_n 2, 1) := by decide +kernel
theorem dX4_part_19 : decode cX4_part 19 = .ok (.dup2, 1) := by decide +kernel
theorem dX4_part_20 : decode cX4_part 20 = .ok (.iaload, 1) := by decide +kernel
theorem dX4_part_21 : decode cX4_part 21 = .ok (.iconst 1, 1) := by decide +kernel
theorem dX4_part_22 : decode cX4_part 22 = .ok (.iload_n 1, 1) := by decide +kernel
theorem dX4_part_23 : decode cX4_part 23 = .ok (.ishl, 1) := by decide +kernel
theorem dX4_part_24 : decode cX4_part 24 = .ok (.iconst (-1), 1) := by decide +kernel
theorem dX4_part_25 : decode cX4_part 25 = .ok (.ixor, 1) := by decide +kernel
theorem dX4_part_26 : decode cX4_part 26 = .ok (.iand, 1) := by decide +kernel
theorem dX4_part_27 : decode cX4_part 27 = .ok (.iastore, 1) := by decide +kernel
theorem dX4_part_28 : decode cX4_part 28 = .ok (.aload_n 0, 1) := by decide +kernel
theorem dX4_part_29 : decode cX4_part 29 = .ok (.dup, 1) := by decide +kernel
theorem dX4_part_30 : decode cX4_part 30 = .ok (.getfield 33, 3) := by decide +kernel
theorem dX4_part_33 : decode cX4_part 33 = .ok (.iconst 1, 1) := by decide +kernel
theorem dX4_part_34 : decode cX4_part 34 = .ok (.isub, 1) := by decide +kernel
theorem dX4_part_35 : decode cX4_part 35 = .ok (.putfield 33, 3) := by decide +kernel
theorem dX4_part_38 : decode cX4_part 38 = .ok (.aload_n 0, 1) := by decide +kernel
theorem dX4_part_39 : decode cX4_part 39 = .ok (.getfield 18, 3) := by decide +kernel
theorem dX4_part_42 : decode cX4_part 42 = .ok (.iload_n 1, 1) := by decide +kernel
theorem dX4_part_43 : decode cX4_part 43 = .ok (.bipush 14, 2) := by decide +kernel
theorem dX4_part_45 : decode cX4_part 45 = .ok (.imul, 1) := by decide +kernel
theorem dX4_part_46 : decode cX4_part 46 = .ok (.iload_n 2, 1) := by decide +kernel
theorem dX4_part_47 : decode cX4_part 47 = .ok (.iadd, 1) := by decide +kernel
theorem dX4_part_48 : decode cX4_part 48 = .ok (.iaload, 1) := by decide +kernel
theorem dX4_part_49 : decode cX4_part 49 = .ok (.ireturn, 1) := by decide +kernel
theorem dX4_largestPart_0 : decode cX4_largestPart 0 = .ok (.iload_n 1, 1) := by decide +kernel
theorem dX4_largestPart_1 : decode cX4_largestPart 1 = .ok (.istore_n 2, 1) := by decide +kernel
theorem dX4_largestPart_2 : decode cX4_largestPart 2 = .ok (.iconst 0, 1) := by decide +kernel
theorem dX4_largestPart_3 : decode cX4_largestPart 3 = .ok (.istore_n 3, 1) := by decide +kernel
theorem dX4_largestPart_4 : decode cX4_largestPart 4 = .ok (.iconst 0, 1) := by decide +kernel
theorem dX4_largestPart_5 : decode cX4_largestPart 5 = .ok (.istore 4, 2) := by decide +kernel
theorem dX4_largestPart_7 : decode cX4_largestPart 7 = .ok (.iload 4, 2) := by decide +kernel
theorem dX4_largestPart_9 : decode cX4_largestPart 9 = .ok (.aload_n 0, 1) := by decide +kernel
theorem dX4_largestPart_10 : decode cX4_largestPart 10 = .ok (.getfield 21, 3) := by decide +kernel
theorem dX4_largestPart_13 : decode cX4_largestPart 13 = .ok (.if_icmp .ge 49, 3) := by decide +kernel
theorem dX4_largestPart_16 : decode cX4_largestPart 16 = .ok (.iload_n 2, 1) := by decide +kernel
theorem dX4_largestPart_17 : decode cX4_largestPart 17 = .ok (.iload 4, 2) := by decide +kernel
theorem dX4_largestPart_19 : decode cX4_largestPart 19 = .ok (.invokestatic 29, 3) := by decide +kernel
theorem dX4_largestPart_22 : decode cX4_largestPart 22 = .ok (.ifCond .ne 6, 3) := by decide +kernel
theorem dX4_largestPart_25 : decode cX4_largestPart 25 = .ok (.goto 31, 3) := by decide +kernel
theorem dX4_largestPart_28 : decode cX4_largestPart 28 = .ok (.aload_n 0, 1) := by decide +kernel
theorem dX4_largestPart_29 : decode cX4_largestPart 29 = .ok (.iconst 1, 1) := by decide +kernel
theorem dX4_largestPart_30 : decode cX4_largestPart 30 = .ok (.iload 4, 2) := by decide +kernel
theorem dX4_largestPart_32 : decode cX4_largestPart 32 = .ok (.ishl, 1) := by decide +kernel
theorem dX4_largestPart_33 : decode cX4_largestPart 33 = .ok (.iload_n 1, 1) := by decide +kernel
theorem dX4_largestPart_34 : decode cX4_largestPart 34 = .ok (.invokevirtual 36, 3) := by decide +kernel
theorem dX4_largestPart_37 : decode cX4_largestPart 37 = .ok (.istore 5, 2) := by decide +kernel
theorem dX4_largestPart_39 : decode cX4_largestPart 39 = .ok (.iload_n 3, 1) := by decide +kernel
theorem dX4_largestPart_40 : decode cX4_largestPart 40 = .ok (.iload 5, 2) := by decide +kernel
theorem dX4_largestPart_42 : decode cX4_largestPart 42 = .ok (.invokestatic 40, 3) := by decide +kernel
theorem dX4_largestPart_45 : decode cX4_largestPart 45 = .ok (.invokestatic 46, 3) := by decide +kernel
theorem dX4_largestPart_48 : decode cX4_largestPart 48 = .ok (.istore_n 3, 1) := by decide +kernel
theorem dX4_largestPart_49 : decode cX4_largestPart 49 = .ok (.iload_n 2, 1) := by decide +kernel
theorem dX4_largestPart_50 : decode cX4_largestPart 50 = .ok (.iload 5, 2) := by decide +kernel
theorem dX4_largestPart_52 : decode cX4_largestPart 52 = .ok (.iconst (-1), 1) := by decide +kernel
theorem dX4_largestPart_53 : decode cX4_largestPart 53 = .ok (.ixor, 1) := by decide +kernel
theorem dX4_largestPart_54 : decode cX4_largestPart 54 = .ok (.iand, 1) := by decide +kernel
theorem dX4_largestPart_55 : decode cX4_largestPart 55 = .ok (.istore_n 2, 1) := by decide +kernel
theorem dX4_largestPart_56 : decode cX4_largestPart 56 = .ok (.iinc 4 1, 3) := by decide +kernel
theorem dX4_largestPart_59 : decode cX4_largestPart 59 = .ok (.goto (-52), 3) := by decide +kernel
theorem dX4_largestPart_62 : decode cX4_largestPart 62 = .ok (.iload_n 3, 1) := by decide +kernel
theorem dX4_largestPart_63 : decode cX4_largestPart 63 = .ok (.ireturn, 1) := by decide +kernel
theorem dX4_reached_0 : decode cX4_reached 0 = .ok (.iload_n 1, 1) := by decide +kernel
theorem dX4_reached_1 : decode cX4_reached 1 = .ok (.istore_n 3, 1) := by decide +kernel
theorem dX4_reached_2 : decode cX4_reached 2 = .ok (.iconst 0, 1) := by decide +kernel
theorem dX4_reached_3 : decode cX4_reached 3 = .ok (.istore 4, 2) := by decide +kernel
theorem dX4_reached_5 : decode cX4_reached 5 = .ok (.iload 4, 2) := by decide +kernel
theorem dX4_reached_7 : decode cX4_reached 7 = .ok (.aload_n 0, 1) := by decide +kernel
theorem dX4_reached_8 : decode cX4_reached 8 = .ok (.getfield 21, 3) := by decide +kernel
theorem dX4_reached_11 : decode cX4_reached 11 = .ok (.if_icmp .ge 65, 3) := by decide +kernel
theorem dX4_reached_14 : decode cX4_reached 14 = .ok (.iload_n 3, 1) := by decide +kernel
theorem dX4_reached_15 : decode cX4_reached 15 = .ok (.istore 5, 2) := by decide +kernel
theorem dX4_reached_17 : decode cX4_reached 17 = .ok (.iconst 0, 1) := by decide +kernel
theorem dX4_reached_18 : decode cX4_reached 18 = .ok (.istore 6, 2) := by decide +kernel
theorem dX4_reached_20 : decode cX4_reached 20 = .ok (.iload 6, 2) := by decide +kernel
theorem dX4_reached_22 : decode cX4_reached 22 = .ok (.aload_n 0, 1) := by decide +kernel
theorem dX4_reached_23 : decode cX4_reached 23 = .ok (.getfield 21, 3) := by decide +kernel
theorem dX4_reached_26 : decode cX4_reached 26 = .ok (.if_icmp .ge 32, 3) := by decide +kernel
theorem dX4_reached_29 : decode cX4_reached 29 = .ok (.iload_n 3, 1) := by decide +kernel
theorem dX4_reached_30 : decode cX4_reached 30 = .ok (.iload 6, 2) := by decide +kernel
theorem dX4_reached_32 : decode cX4_reached 32 = .ok (.invokestatic 29, 3) := by decide +kernel
theorem dX4_reached_35 : decode cX4_reached 35 = .ok (.ifCond .eq 17, 3) := by decide +kernel
theorem dX4_reached_38 : decode cX4_reached 38 = .ok (.iload 5, 2) := by decide +kernel
theorem dX4_reached_40 : decode cX4_reached 40 = .ok (.aload_n 0, 1) := by decide +kernel
theorem dX4_reached_41 : decode cX4_reached 41 = .ok (.getfield 15, 3) := by decide +kernel
theorem dX4_reached_44 : decode cX4_reached 44 = .ok (.iload 6, 2) := by decide +kernel
theorem dX4_reached_46 : decode cX4_reached 46 = .ok (.iaload, 1) := by decide +kernel
theorem dX4_reached_47 : decode cX4_reached 47 = .ok (.iload_n 2, 1) := by decide +kernel
theorem dX4_reached_48 : decode cX4_reached 48 = .ok (.iand, 1) := by decide +kernel
theorem dX4_reached_49 : decode cX4_reached 49 = .ok (.ior, 1) := by decide +kernel
theorem dX4_reached_50 : decode cX4_reached 50 = .ok (.istore 5, 2) := by decide +kernel
theorem dX4_reached_52 : decode cX4_reached 52 = .ok (.iinc 6 1, 3) := by decide +kernel
theorem dX4_reached_55 : decode cX4_reached 55 = .ok (.goto (-35), 3) := by decide +kernel
theorem dX4_reached_58 : decode cX4_reached 58 = .ok (.iload 5, 2) := by decide +kernel
theorem dX4_reached_60 : decode cX4_reached 60 = .ok (.iload_n 3, 1) := by decide +kernel
theorem dX4_reached_61 : decode cX4_reached 61 = .ok (.if_icmp .ne 6, 3) := by decide +kernel
theorem dX4_reached_64 : decode cX4_reached 64 = .ok (.goto 12, 3) := by decide +kernel
theorem dX4_reached_67 : decode cX4_reached 67 = .ok (.iload 5, 2) := by decide +kernel
theorem dX4_reached_69 : decode cX4_reached 69 = .ok (.istore_n 3, 1) := by decide +kernel
theorem dX4_reached_70 : decode cX4_reached 70 = .ok (.iinc 4 1, 3) := by decide +kernel
theorem dX4_reached_73 : decode cX4_reached 73 = .ok (.goto (-68), 3) := by decide +kernel
theorem dX4_reached_76 : decode cX4_reached 76 = .ok (.iload_n 3, 1) := by decide +kernel
theorem dX4_reached_77 : decode cX4_reached 77 = .ok (.ireturn, 1) := by decide +kernel
def L_X2_nextPlace_4 (a1 : Int32) (a2 : Int32) (t_size : Int32) (t_knots : Nat → Int32)  : Nat → Int32 → Option (Int32)
  | 0, _ => none
  | n + 1, x3 =>
    if t_size ≤ x3 then
      if t_size ≤ (a1 + (1 : Int32)) then
        some ((-1 : Int32))
      else
        some ((a1 + (1 : Int32)))
    else
      ldA t_knots 14 x3 fun v2 =>
      cal (f_X8_hasBit a2 v2) fun u3 =>
      if u3 = 0 then
        bnd (x3 + (1 : Int32)) fun x3_4 =>
        L_X2_nextPlace_4 a1 a2 t_size t_knots n x3_4
      else
        some (x3)

set_option maxRecDepth 100000 in
set_option maxHeartbeats 1000000 in
theorem w_X2_nextPlace_4 (cA : Nat → ClassId) (q_t : Nat) (t_held : Int32) (q_t_knots : Nat) (a1 : Int32) (a2 : Int32) (t_size : Int32) (t_knots : Nat → Int32) {X : XT}  (C : Cx X cX2_nextPlace RX2 (some .int) cA 1 21 4) {kk nn : Nat} {BB : Option Value → va_W → Prop} (hk : kk ≤ (x_R X).cells ∧ nn ≤ (x_R X).slots) (F : Fx X BB kk nn) (r : Int32) (hB : BB (some (.int r)) [oB q_t 2 [.ref q_t_knots, .int t_size, .int t_held], aI cA q_t_knots 14 t_knots])  : ∀ (n : Nat) (x3 : Int32), L_X2_nextPlace_4 a1 a2 t_size t_knots n x3 = some r → Go X 4 kk nn 4 [oB q_t 2 [.ref q_t_knots, .int t_size, .int t_held], aI cA q_t_knots 14 t_knots] [(0, .ref q_t), (1, .int a1), (2, .int a2), (3, .int x3)] [] := by
  intro n
  induction n with
  | zero => intro x3 hf; exact no_some hf
  | succ n ih =>
    intro x3 hf
    rw [L_X2_nextPlace_4] at hf
    refine g_iload_n C 4 3 dX2_nextPlace_4 rfl rfl ?_
    refine g_aload_n C 5 0 dX2_nextPlace_5 rfl rfl ?_
    refine g_get C 6 0 1 dX2_nextPlace_6 inX2 rfl rfl (by decide) kw_3 rfl ?_
    refine g_icmp_ge C 9 33 dX2_nextPlace_9 (by decide) hf (fun hf => ?_) (fun hf => ?_)
    · refine g_iload_n C 33 1 dX2_nextPlace_33 rfl rfl ?_
      refine g_iconst C 34 (1 : Int32) dX2_nextPlace_34 (by decide) ?_
      refine g_iadd C 35 dX2_nextPlace_35 ?_
      refine g_aload_n C 36 0 dX2_nextPlace_36 rfl rfl ?_
      refine g_get C 37 0 1 dX2_nextPlace_37 inX2 rfl rfl (by decide) kw_3 rfl ?_
      refine g_icmp_ge C 40 49 dX2_nextPlace_40 (by decide) hf (fun hf => ?_) (fun hf => ?_)
      · refine g_iconst C 49 (-1 : Int32) dX2_nextPlace_49 (by decide) ?_
        cases hf
        exact g_iret C 50 dX2_nextPlace_50 F hB
      · refine g_iload_n C 43 1 dX2_nextPlace_43 rfl rfl ?_
        refine g_iconst C 44 (1 : Int32) dX2_nextPlace_44 (by decide) ?_
        refine g_iadd C 45 dX2_nextPlace_45 ?_
        refine g_goto C 46 50 dX2_nextPlace_46 (by decide) ?_
        cases hf
        exact g_iret C 50 dX2_nextPlace_50 F hB
    · refine g_iload_n C 12 2 dX2_nextPlace_12 rfl rfl ?_
      refine g_aload_n C 13 0 dX2_nextPlace_13 rfl rfl ?_
      refine g_get C 14 0 0 dX2_nextPlace_14 inX2 rfl rfl (by decide) kw_4 rfl ?_
      refine g_iload_n C 17 3 dX2_nextPlace_17 rfl rfl ?_
      refine g_iald C 18 1 dX2_nextPlace_18 rfl hf (fun v2 hf => ?_)
      obtain ⟨u3, hu3, hf⟩ := cal_some hf
      refine g_callSN C 19 [] (rest := []) dX2_nextPlace_19 (c_X8_hasBit (x_l X) cA a2 v2 u3 hu3) (List.mem_of_getElem? (i := 8) rfl) kw_5 kw_6 kw_7 ok_X8_hasBit ⟨Nat.le_of_ble_eq_true rfl, Nat.le_of_ble_eq_true rfl⟩ hk ⟨rfl, rfl⟩ rfl rfl rfl (Nat.le_of_ble_eq_true rfl) rfl (ws' := [oB q_t 2 [.ref q_t_knots, .int t_size, .int t_held], aI cA q_t_knots 14 t_knots]) (st' := [.int u3]) (N0 := 2) rfl [none, none] (by decide) rfl rfl ?_
      refine g_if_eq C 22 27 dX2_nextPlace_22 (by decide) hf (fun hf => ?_) (fun hf => ?_)
      · refine g_iinc C 27 3 (v := x3 + (1 : Int32)) (fun z => [(3, .int z), (0, .ref q_t), (1, .int a1), (2, .int a2)]) dX2_nextPlace_27 rfl rfl (by decide) (fun _ => rfl) hf (fun x3_4 hf => ?_)
        refine g_goto C 30 4 dX2_nextPlace_30 (by decide) ?_
        refine g_lv [1, 2, 3, 0] rfl ?_
        exact ih x3_4 hf
      · refine g_iload_n C 25 3 dX2_nextPlace_25 rfl rfl ?_
        cases hf
        exact g_iret C 26 dX2_nextPlace_26 F hB
def f_X2_nextPlace (a1 : Int32) (a2 : Int32) (t_size : Int32) (t_knots : Nat → Int32) : Option (Int32) :=
  bnd (a1 + (1 : Int32)) fun x3_1 =>
  L_X2_nextPlace_4 a1 a2 t_size t_knots NN x3_1

set_option maxRecDepth 100000 in
set_option maxHeartbeats 1000000 in
theorem c_X2_nextPlace (l : Launch) (cA : Nat → ClassId) (q_t : Nat) (t_size : Int32) (t_held : Int32) (q_t_knots : Nat) (t_knots : Nat → Int32)  (a1 : Int32) (a2 : Int32) (r : Int32) (hf : f_X2_nextPlace a1 a2 t_size t_knots = some r) : MT l cA yX2_nextPlace cX2_nextPlace 4 (some .int) ({ frames := 1, cells := 0, slots := 0, locals := 21 } : Room) [.ref q_t, .int a1, .int a2] [oB q_t 2 [.ref q_t_knots, .int t_size, .int t_held], aI cA q_t_knots 14 t_knots] (sB (some (.int r)) [oB q_t 2 [.ref q_t_knots, .int t_size, .int t_held], aI cA q_t_knots 14 t_knots]) := by
  refine MT.of (by decide) (Nat.le_of_ble_eq_true rfl) ?_
  intro X hXl C F hnm hrc hrs
  subst hXl
  have hk : 0 ≤ (x_R X).cells ∧ 0 ≤ (x_R X).slots := ⟨Nat.zero_le _, Nat.zero_le _⟩
  have hB : (sB (some (.int r)) [oB q_t 2 [.ref q_t_knots, .int t_size, .int t_held], aI cA q_t_knots 14 t_knots]) (some (.int r)) [oB q_t 2 [.ref q_t_knots, .int t_size, .int t_held], aI cA q_t_knots 14 t_knots] := ⟨rfl, rfl⟩
  unfold f_X2_nextPlace at hf
  have C : Cx X cX2_nextPlace RX2 (some .int) cA 1 21 4 := C
  show Go X 4 0 0 0 [oB q_t 2 [.ref q_t_knots, .int t_size, .int t_held], aI cA q_t_knots 14 t_knots] [(0, .ref q_t), (1, .int a1), (2, .int a2)] []
  refine g_iload_n C 0 1 dX2_nextPlace_0 rfl rfl ?_
  refine g_iconst C 1 (1 : Int32) dX2_nextPlace_1 (by decide) ?_
  refine g_iadd C 2 dX2_nextPlace_2 ?_
  refine g_istore_n C 3 (fun z => [(3, .int z), (0, .ref q_t), (1, .int a1), (2, .int a2)]) dX2_nextPlace_3 rfl (by decide) (fun _ => rfl) hf (fun x3_1 hf => ?_)
  refine g_lv [1, 2, 3, 0] rfl ?_
  exact w_X2_nextPlace_4 cA q_t t_held q_t_knots a1 a2 t_size t_knots C hk F r hB NN x3_1 hf

def f_X4_has (a1 : Int32) (t_size : Int32) : Option (Int32) :=
  if a1 < 0 then
    some ((0 : Int32))
  else
    if t_size ≤ a1 then
      some ((0 : Int32))
    else
      some ((1 : Int32))

set_option maxRecDepth 100000 in
set_option maxHeartbeats 1000000 in
theorem c_X4_has (l : Launch) (cA : Nat → ClassId) (q_t : Nat) (q_t_loads : Nat) (q_t_near : Nat) (q_t_ties : Nat) (t_size : Int32) (t_edges : Int32)  (a1 : Int32) (r : Int32) (hf : f_X4_has a1 t_size = some r) : MT l cA yX4_has cX4_has 2 (some .boolean) ({ frames := 0, cells := 0, slots := 0, locals := 0 } : Room) [.ref q_t, .int a1] [oB q_t 4 [.ref q_t_loads, .ref q_t_near, .ref q_t_ties, .int t_size, .int t_edges]] (sB (some (.int r)) [oB q_t 4 [.ref q_t_loads, .ref q_t_near, .ref q_t_ties, .int t_size, .int t_edges]]) := by
  refine MT.of (by decide) (Nat.le_of_ble_eq_true rfl) ?_
  intro X hXl C F hnm hrc hrs
  subst hXl
  have hk : 0 ≤ (x_R X).cells ∧ 0 ≤ (x_R X).slots := ⟨Nat.zero_le _, Nat.zero_le _⟩
  have hB : (sB (some (.int r)) [oB q_t 4 [.ref q_t_loads, .ref q_t_near, .ref q_t_ties, .int t_size, .int t_edges]]) (some (.int r)) [oB q_t 4 [.ref q_t_loads, .ref q_t_near, .ref q_t_ties, .int t_size, .int t_edges]] := ⟨rfl, rfl⟩
  unfold f_X4_has at hf
  have C : Cx X cX4_has RX4 (some .boolean) cA 0 0 2 := C
  show Go X 2 0 0 0 [oB q_t 4 [.ref q_t_loads, .ref q_t_near, .ref q_t_ties, .int t_size, .int t_edges]] [(0, .ref q_t), (1, .int a1)] []
  refine g_iload_n C 0 1 dX4_has_0 rfl rfl ?_
  refine g_if_lt C 1 16 dX4_has_1 (by decide) hf (fun hf => ?_) (fun hf => ?_)
  · refine g_iconst C 16 (0 : Int32) dX4_has_16 (by decide) ?_
    cases hf
    exact g_zret C 17 dX4_has_17 (by decide) F hB
  · refine g_iload_n C 4 1 dX4_has_4 rfl rfl ?_
    refine g_aload_n C 5 0 dX4_has_5 rfl rfl ?_
    refine g_get C 6 0 3 dX4_has_6 inX4 rfl rfl (by decide) kw_45 rfl ?_
    refine g_icmp_ge C 9 16 dX4_has_9 (by decide) hf (fun hf => ?_) (fun hf => ?_)
    · refine g_iconst C 16 (0 : Int32) dX4_has_16 (by decide) ?_
      cases hf
      exact g_zret C 17 dX4_has_17 (by decide) F hB
    · refine g_iconst C 12 (1 : Int32) dX4_has_12 (by decide) ?_
      refine g_goto C 13 17 dX4_has_13 (by decide) ?_
      cases hf
      exact g_zret C 17 dX4_has_17 (by decide) F hB

def f_X4_joined (a1 : Int32) (a2 : Int32) (t_size : Int32) (t_near : Nat → Int32) : Option (Int32) :=
  cal (f_X4_has a1 t_size) fun u1 =>
  if u1 = 0 then
    some ((0 : Int32))
  else
    cal (f_X4_has a2 t_size) fun u2 =>
    if u2 = 0 then
      some ((0 : Int32))
    else
      ldA t_near 14 a1 fun v3 =>
      cal (f_X8_hasBit v3 a2) fun u4 =>
      if u4 = 0 then
        some ((0 : Int32))
      else
        some ((1 : Int32))

set_option maxRecDepth 100000 in
set_option maxHeartbeats 1000000 in
theorem c_X4_joined (l : Launch) (cA : Nat → ClassId) (q_t : Nat) (q_t_loads : Nat) (q_t_ties : Nat) (t_size : Int32) (t_edges : Int32) (q_t_near : Nat) (t_near : Nat → Int32)  (a1 : Int32) (a2 : Int32) (r : Int32) (hf : f_X4_joined a1 a2 t_size t_near = some r) : MT l cA yX4_joined cX4_joined 3 (some .boolean) ({ frames := 1, cells := 0, slots := 0, locals := 21 } : Room) [.ref q_t, .int a1, .int a2] [oB q_t 4 [.ref q_t_loads, .ref q_t_near, .ref q_t_ties, .int t_size, .int t_edges], aI cA q_t_near 14 t_near] (sB (some (.int r)) [oB q_t 4 [.ref q_t_loads, .ref q_t_near, .ref q_t_ties, .int t_size, .int t_edges], aI cA q_t_near 14 t_near]) := by
  refine MT.of (by decide) (Nat.le_of_ble_eq_true rfl) ?_
  intro X hXl C F hnm hrc hrs
  subst hXl
  have hk : 0 ≤ (x_R X).cells ∧ 0 ≤ (x_R X).slots := ⟨Nat.zero_le _, Nat.zero_le _⟩
  have hB : (sB (some (.int r)) [oB q_t 4 [.ref q_t_loads, .ref q_t_near, .ref q_t_ties, .int t_size, .int t_edges], aI cA q_t_near 14 t_near]) (some (.int r)) [oB q_t 4 [.ref q_t_loads, .ref q_t_near, .ref q_t_ties, .int t_size, .int t_edges], aI cA q_t_near 14 t_near] := ⟨rfl, rfl⟩
  unfold f_X4_joined at hf
  have C : Cx X cX4_joined RX4 (some .boolean) cA 1 21 3 := C
  show Go X 3 0 0 0 [oB q_t 4 [.ref q_t_loads, .ref q_t_near, .ref q_t_ties, .int t_size, .int t_edges], aI cA q_t_near 14 t_near] [(0, .ref q_t), (1, .int a1), (2, .int a2)] []
  refine g_aload_n C 0 0 dX4_joined_0 rfl rfl ?_
  refine g_iload_n C 1 1 dX4_joined_1 rfl rfl ?_
  obtain ⟨u1, hu1, hf⟩ := cal_some hf
  refine g_callV1 C 2 [0] 0 (rest := []) dX4_joined_2 (c_X4_has (x_l X) cA q_t q_t_loads q_t_near q_t_ties t_size t_edges a1 u1 hu1) kw_46 kw_47 kw_48 kw_49 kw_50 ok_X4_has ⟨Nat.le_of_ble_eq_true rfl, Nat.le_of_ble_eq_true rfl⟩ hk ⟨rfl, rfl⟩ rfl rfl rfl rfl rfl (Nat.le_of_ble_eq_true rfl) rfl (ws' := [oB q_t 4 [.ref q_t_loads, .ref q_t_near, .ref q_t_ties, .int t_size, .int t_edges], aI cA q_t_near 14 t_near]) (st' := [.int u1]) (N0 := 2) rfl [some 0, none] (by decide) rfl rfl ?_
  refine g_if_eq C 5 33 dX4_joined_5 (by decide) hf (fun hf => ?_) (fun hf => ?_)
  · refine g_iconst C 33 (0 : Int32) dX4_joined_33 (by decide) ?_
    cases hf
    exact g_zret C 34 dX4_joined_34 (by decide) F hB
  · refine g_aload_n C 8 0 dX4_joined_8 rfl rfl ?_
    refine g_iload_n C 9 2 dX4_joined_9 rfl rfl ?_
    obtain ⟨u2, hu2, hf⟩ := cal_some hf
    refine g_callV1 C 10 [0] 0 (rest := []) dX4_joined_10 (c_X4_has (x_l X) cA q_t q_t_loads q_t_near q_t_ties t_size t_edges a2 u2 hu2) kw_46 kw_47 kw_48 kw_49 kw_50 ok_X4_has ⟨Nat.le_of_ble_eq_true rfl, Nat.le_of_ble_eq_true rfl⟩ hk ⟨rfl, rfl⟩ rfl rfl rfl rfl rfl (Nat.le_of_ble_eq_true rfl) rfl (ws' := [oB q_t 4 [.ref q_t_loads, .ref q_t_near, .ref q_t_ties, .int t_size, .int t_edges], aI cA q_t_near 14 t_near]) (st' := [.int u2]) (N0 := 2) rfl [some 0, none] (by decide) rfl rfl ?_
    refine g_if_eq C 13 33 dX4_joined_13 (by decide) hf (fun hf => ?_) (fun hf => ?_)
    · refine g_iconst C 33 (0 : Int32) dX4_joined_33 (by decide) ?_
      cases hf
      exact g_zret C 34 dX4_joined_34 (by decide) F hB
    · refine g_aload_n C 16 0 dX4_joined_16 rfl rfl ?_
      refine g_get C 17 0 1 dX4_joined_17 inX4 rfl rfl (by decide) kw_51 rfl ?_
      refine g_iload_n C 20 1 dX4_joined_20 rfl rfl ?_
      refine g_iald C 21 1 dX4_joined_21 rfl hf (fun v3 hf => ?_)
      refine g_iload_n C 22 2 dX4_joined_22 rfl rfl ?_
      obtain ⟨u4, hu4, hf⟩ := cal_some hf
      refine g_callSN C 23 [] (rest := []) dX4_joined_23 (c_X8_hasBit (x_l X) cA v3 a2 u4 hu4) (List.mem_of_getElem? (i := 7) rfl) kw_5 kw_6 kw_7 ok_X8_hasBit ⟨Nat.le_of_ble_eq_true rfl, Nat.le_of_ble_eq_true rfl⟩ hk ⟨rfl, rfl⟩ rfl rfl rfl (Nat.le_of_ble_eq_true rfl) rfl (ws' := [oB q_t 4 [.ref q_t_loads, .ref q_t_near, .ref q_t_ties, .int t_size, .int t_edges], aI cA q_t_near 14 t_near]) (st' := [.int u4]) (N0 := 2) rfl [none, none] (by decide) rfl rfl ?_
      refine g_if_eq C 26 33 dX4_joined_26 (by decide) hf (fun hf => ?_) (fun hf => ?_)
      · refine g_iconst C 33 (0 : Int32) dX4_joined_33 (by decide) ?_
        cases hf
        exact g_zret C 34 dX4_joined_34 (by decide) F hB
      · refine g_iconst C 29 (1 : Int32) dX4_joined_29 (by decide) ?_
        refine g_goto C 30 34 dX4_joined_30 (by decide) ?_
        cases hf
        exact g_zret C 34 dX4_joined_34 (by decide) F hB

def f_X4_everyKnot (t_size : Int32) : Option (Int32) :=
  some ((((1 : Int32) <<< (t_size &&& 31)) - (1 : Int32)))

set_option maxRecDepth 100000 in
set_option maxHeartbeats 1000000 in
theorem c_X4_everyKnot (l : Launch) (cA : Nat → ClassId) (q_t : Nat) (q_t_loads : Nat) (q_t_near : Nat) (q_t_ties : Nat) (t_size : Int32) (t_edges : Int32)   (r : Int32) (hf : f_X4_everyKnot t_size = some r) : MT l cA yX4_everyKnot cX4_everyKnot 1 (some .int) ({ frames := 0, cells := 0, slots := 0, locals := 0 } : Room) [.ref q_t] [oB q_t 4 [.ref q_t_loads, .ref q_t_near, .ref q_t_ties, .int t_size, .int t_edges]] (sB (some (.int r)) [oB q_t 4 [.ref q_t_loads, .ref q_t_near, .ref q_t_ties, .int t_size, .int t_edges]]) := by
  refine MT.of (by decide) (Nat.le_of_ble_eq_true rfl) ?_
  intro X hXl C F hnm hrc hrs
  subst hXl
  have hk : 0 ≤ (x_R X).cells ∧ 0 ≤ (x_R X).slots := ⟨Nat.zero_le _, Nat.zero_le _⟩
  have hB : (sB (some (.int r)) [oB q_t 4 [.ref q_t_loads, .ref q_t_near, .ref q_t_ties, .int t_size, .int t_edges]]) (some (.int r)) [oB q_t 4 [.ref q_t_loads, .ref q_t_near, .ref q_t_ties, .int t_size, .int t_edges]] := ⟨rfl, rfl⟩
  unfold f_X4_everyKnot at hf
  have C : Cx X cX4_everyKnot RX4 (some .int) cA 0 0 1 := C
  show Go X 1 0 0 0 [oB q_t 4 [.ref q_t_loads, .ref q_t_near, .ref q_t_ties, .int t_size, .int t_edges]] [(0, .ref q_t)] []
  refine g_iconst C 0 (1 : Int32) dX4_everyKnot_0 (by decide) ?_
  refine g_aload_n C 1 0 dX4_everyKnot_1 rfl rfl ?_
  refine g_get C 2 0 3 dX4_everyKnot_2 inX4 rfl rfl (by decide) kw_45 rfl ?_
  refine g_ishl C 5 dX4_everyKnot_5 ?_
  refine g_iconst C 6 (1 : Int32) dX4_everyKnot_6 (by decide) ?_
  refine g_isub C 7 dX4_everyKnot_7 ?_
  cases hf
  exact g_iret C 8 dX4_everyKnot_8 F hB

def f_X2_holds (a1 : Int32) (t_held : Int32) : Option (Int32) :=
  cal (f_X8_hasBit t_held a1) fun u1 =>
  chk (u1 = 0 ∨ u1 = 1) (some (u1))

set_option maxRecDepth 100000 in
set_option maxHeartbeats 1000000 in
theorem c_X2_holds (l : Launch) (cA : Nat → ClassId) (q_t : Nat) (q_t_knots : Nat) (t_size : Int32) (t_held : Int32)  (a1 : Int32) (r : Int32) (hf : f_X2_holds a1 t_held = some r) : MT l cA yX2_holds cX2_holds 2 (some .boolean) ({ frames := 1, cells := 0, slots := 0, locals := 21 } : Room) [.ref q_t, .int a1] [oB q_t 2 [.ref q_t_knots, .int t_size, .int t_held]] (sB (some (.int r)) [oB q_t 2 [.ref q_t_knots, .int t_size, .int t_held]]) := by
  refine MT.of (by decide) (Nat.le_of_ble_eq_true rfl) ?_
  intro X hXl C F hnm hrc hrs
  subst hXl
  have hk : 0 ≤ (x_R X).cells ∧ 0 ≤ (x_R X).slots := ⟨Nat.zero_le _, Nat.zero_le _⟩
  have hB : (sB (some (.int r)) [oB q_t 2 [.ref q_t_knots, .int t_size, .int t_held]]) (some (.int r)) [oB q_t 2 [.ref q_t_knots, .int t_size, .int t_held]] := ⟨rfl, rfl⟩
  unfold f_X2_holds at hf
  have C : Cx X cX2_holds RX2 (some .boolean) cA 1 21 2 := C
  show Go X 2 0 0 0 [oB q_t 2 [.ref q_t_knots, .int t_size, .int t_held]] [(0, .ref q_t), (1, .int a1)] []
  refine g_aload_n C 0 0 dX2_holds_0 rfl rfl ?_
  refine g_get C 1 0 2 dX2_holds_1 inX2 rfl rfl (by decide) kw_91 rfl ?_
  refine g_iload_n C 4 1 dX2_holds_4 rfl rfl ?_
  obtain ⟨u1, hu1, hf⟩ := cal_some hf
  refine g_callSN C 5 [] (rest := []) dX2_holds_5 (c_X8_hasBit (x_l X) cA t_held a1 u1 hu1) (List.mem_of_getElem? (i := 8) rfl) kw_5 kw_6 kw_7 ok_X8_hasBit ⟨Nat.le_of_ble_eq_true rfl, Nat.le_of_ble_eq_true rfl⟩ hk ⟨rfl, rfl⟩ rfl rfl rfl (Nat.le_of_ble_eq_true rfl) rfl (ws' := [oB q_t 2 [.ref q_t_knots, .int t_size, .int t_held]]) (st' := [.int u1]) (N0 := 1) rfl [none] (by decide) rfl rfl ?_
  obtain ⟨hv, hf⟩ := chk_some hf
  cases hf
  exact g_zret C 8 dX2_holds_8 hv F hB

def f_X2_append (a1 : Int32) (t_size : Int32) (t_held : Int32) (t_knots : Nat → Int32) : Option (Int32 × Int32 × (Nat → Int32)) :=
  if t_size < (14 : Int32) then
    stI t_knots 14 t_size a1 fun t_knots_1 =>
    bnd (t_size + (1 : Int32)) fun t_size_2 =>
    bnd (t_held ||| ((1 : Int32) <<< (a1 &&& 31))) fun t_held_3 =>
    some (t_size_2, t_held_3, t_knots_1)
  else
    some (t_size, t_held, t_knots)

set_option maxRecDepth 100000 in
set_option maxHeartbeats 1000000 in
theorem c_X2_append (l : Launch) (cA : Nat → ClassId) (q_t : Nat) (t_size : Int32) (t_held : Int32) (q_t_knots : Nat) (t_knots : Nat → Int32)  (a1 : Int32) (r : Int32 × Int32 × (Nat → Int32)) (hf : f_X2_append a1 t_size t_held t_knots = some r) : MT l cA yX2_append cX2_append 2 none ({ frames := 0, cells := 0, slots := 0, locals := 0 } : Room) [.ref q_t, .int a1] [oB q_t 2 [.ref q_t_knots, .int t_size, .int t_held], aI cA q_t_knots 14 t_knots] (sB (none) [oB q_t 2 [.ref q_t_knots, .int r.1, .int r.2.1], aI cA q_t_knots 14 r.2.2]) := by
  refine MT.of (by decide) (Nat.le_of_ble_eq_true rfl) ?_
  intro X hXl C F hnm hrc hrs
  subst hXl
  have hk : 0 ≤ (x_R X).cells ∧ 0 ≤ (x_R X).slots := ⟨Nat.zero_le _, Nat.zero_le _⟩
  have hB : (sB (none) [oB q_t 2 [.ref q_t_knots, .int r.1, .int r.2.1], aI cA q_t_knots 14 r.2.2]) (none) [oB q_t 2 [.ref q_t_knots, .int r.1, .int r.2.1], aI cA q_t_knots 14 r.2.2] := ⟨rfl, rfl⟩
  unfold f_X2_append at hf
  have C : Cx X cX2_append RX2 none cA 0 0 2 := C
  show Go X 2 0 0 0 [oB q_t 2 [.ref q_t_knots, .int t_size, .int t_held], aI cA q_t_knots 14 t_knots] [(0, .ref q_t), (1, .int a1)] []
  refine g_aload_n C 0 0 dX2_append_0 rfl rfl ?_
  refine g_get C 1 0 1 dX2_append_1 inX2 rfl rfl (by decide) kw_3 rfl ?_
  refine g_bipush C 4 (14 : Int32) dX2_append_4 (by decide) ?_
  refine g_icmp_lt C 6 10 dX2_append_6 (by decide) hf (fun hf => ?_) (fun hf => ?_)
  · refine g_aload_n C 10 0 dX2_append_10 rfl rfl ?_
    refine g_get C 11 0 0 dX2_append_11 inX2 rfl rfl (by decide) kw_4 rfl ?_
    refine g_aload_n C 14 0 dX2_append_14 rfl rfl ?_
    refine g_get C 15 0 1 dX2_append_15 inX2 rfl rfl (by decide) kw_3 rfl ?_
    refine g_iload_n C 18 1 dX2_append_18 rfl rfl ?_
    refine g_iast C 19 1 (fun z => [oB q_t 2 [.ref q_t_knots, .int t_size, .int t_held], aI cA q_t_knots 14 z]) dX2_append_19 rfl (fun _ => rfl) hf (fun t_knots_1 hf => ?_)
    refine g_aload_n C 20 0 dX2_append_20 rfl rfl ?_
    refine g_dup C 21 dX2_append_21 rfl ?_
    refine g_get C 22 0 1 dX2_append_22 inX2 rfl rfl (by decide) kw_3 rfl ?_
    refine g_iconst C 25 (1 : Int32) dX2_append_25 (by decide) ?_
    refine g_iadd C 26 dX2_append_26 ?_
    refine g_puti C 27 0 1 tyX2 (fun z => [oB q_t 2 [.ref q_t_knots, .int z, .int t_held], aI cA q_t_knots 14 t_knots_1]) dX2_append_27 inX2 tyX2_ok nmX2 rfl rfl (by decide) kw_3 rfl rfl (Nat.le_of_ble_eq_true rfl) (fun _ => rfl) hf (fun t_size_2 hf => ?_)
    refine g_aload_n C 30 0 dX2_append_30 rfl rfl ?_
    refine g_dup C 31 dX2_append_31 rfl ?_
    refine g_get C 32 0 2 dX2_append_32 inX2 rfl rfl (by decide) kw_91 rfl ?_
    refine g_iconst C 35 (1 : Int32) dX2_append_35 (by decide) ?_
    refine g_iload_n C 36 1 dX2_append_36 rfl rfl ?_
    refine g_ishl C 37 dX2_append_37 ?_
    refine g_ior C 38 dX2_append_38 ?_
    refine g_puti C 39 0 2 tyX2 (fun z => [oB q_t 2 [.ref q_t_knots, .int t_size_2, .int z], aI cA q_t_knots 14 t_knots_1]) dX2_append_39 inX2 tyX2_ok nmX2 rfl rfl (by decide) kw_91 rfl rfl (Nat.le_of_ble_eq_true rfl) (fun _ => rfl) hf (fun t_held_3 hf => ?_)
    cases hf
    exact g_vret C 42 dX2_append_42 F hB
  · cases hf
    exact g_vret C 9 dX2_append_9 F hB

def f_X2_empty (t_size : Int32) (t_held : Int32) : Option (Int32 × Int32) :=
  bnd (0 : Int32) fun t_size_1 =>
  bnd (0 : Int32) fun t_held_2 =>
  some (t_size_1, t_held_2)

set_option maxRecDepth 100000 in
set_option maxHeartbeats 1000000 in
theorem c_X2_empty (l : Launch) (cA : Nat → ClassId) (q_t : Nat) (q_t_knots : Nat) (t_size : Int32) (t_held : Int32)   (r : Int32 × Int32) (hf : f_X2_empty t_size t_held = some r) : MT l cA yX2_empty cX2_empty 1 none ({ frames := 0, cells := 0, slots := 0, locals := 0 } : Room) [.ref q_t] [oB q_t 2 [.ref q_t_knots, .int t_size, .int t_held]] (sB (none) [oB q_t 2 [.ref q_t_knots, .int r.1, .int r.2]]) := by
  refine MT.of (by decide) (Nat.le_of_ble_eq_true rfl) ?_
  intro X hXl C F hnm hrc hrs
  subst hXl
  have hk : 0 ≤ (x_R X).cells ∧ 0 ≤ (x_R X).slots := ⟨Nat.zero_le _, Nat.zero_le _⟩
  have hB : (sB (none) [oB q_t 2 [.ref q_t_knots, .int r.1, .int r.2]]) (none) [oB q_t 2 [.ref q_t_knots, .int r.1, .int r.2]] := ⟨rfl, rfl⟩
  unfold f_X2_empty at hf
  have C : Cx X cX2_empty RX2 none cA 0 0 1 := C
  show Go X 1 0 0 0 [oB q_t 2 [.ref q_t_knots, .int t_size, .int t_held]] [(0, .ref q_t)] []
  refine g_aload_n C 0 0 dX2_empty_0 rfl rfl ?_
  refine g_iconst C 1 (0 : Int32) dX2_empty_1 (by decide) ?_
  refine g_puti C 2 0 1 tyX2 (fun z => [oB q_t 2 [.ref q_t_knots, .int z, .int t_held]]) dX2_empty_2 inX2 tyX2_ok nmX2 rfl rfl (by decide) kw_3 rfl rfl (Nat.le_of_ble_eq_true rfl) (fun _ => rfl) hf (fun t_size_1 hf => ?_)
  refine g_aload_n C 5 0 dX2_empty_5 rfl rfl ?_
  refine g_iconst C 6 (0 : Int32) dX2_empty_6 (by decide) ?_
  refine g_puti C 7 0 2 tyX2 (fun z => [oB q_t 2 [.ref q_t_knots, .int t_size_1, .int z]]) dX2_empty_7 inX2 tyX2_ok nmX2 rfl rfl (by decide) kw_91 rfl rfl (Nat.le_of_ble_eq_true rfl) (fun _ => rfl) hf (fun t_held_2 hf => ?_)
  cases hf
  exact g_vret C 10 dX2_empty_10 F hB

def f_X3_has (a1 : Int32) (t_size : Int32) : Option (Int32) :=
  if a1 < 0 then
    some ((0 : Int32))
  else
    if t_size ≤ a1 then
      some ((0 : Int32))
    else
      some ((1 : Int32))

set_option maxRecDepth 100000 in
set_option maxHeartbeats 1000000 in
theorem c_X3_has (l : Launch) (cA : Nat → ClassId) (q_t : Nat) (t_size : Int32) (q_t_factors : Nat) (q_t_pairFactors : Nat) (q_t_barred : Nat) (q_t_forbidden : Nat)  (a1 : Int32) (r : Int32) (hf : f_X3_has a1 t_size = some r) : MT l cA yX3_has cX3_has 2 (some .boolean) ({ frames := 0, cells := 0, slots := 0, locals := 0 } : Room) [.ref q_t, .int a1] [oB q_t 3 [.int t_size, .ref q_t_factors, .ref q_t_pairFactors, .ref q_t_barred, .ref q_t_forbidden]] (sB (some (.int r)) [oB q_t 3 [.int t_size, .ref q_t_factors, .ref q_t_pairFactors, .ref q_t_barred, .ref q_t_forbidden]]) := by
  refine MT.of (by decide) (Nat.le_of_ble_eq_true rfl) ?_
  intro X hXl C F hnm hrc hrs
  subst hXl
  have hk : 0 ≤ (x_R X).cells ∧ 0 ≤ (x_R X).slots := ⟨Nat.zero_le _, Nat.zero_le _⟩
  have hB : (sB (some (.int r)) [oB q_t 3 [.int t_size, .ref q_t_factors, .ref q_t_pairFactors, .ref q_t_barred, .ref q_t_forbidden]]) (some (.int r)) [oB q_t 3 [.int t_size, .ref q_t_factors, .ref q_t_pairFactors, .ref q_t_barred, .ref q_t_forbidden]] := ⟨rfl, rfl⟩
  unfold f_X3_has at hf
  have C : Cx X cX3_has RX3 (some .boolean) cA 0 0 2 := C
  show Go X 2 0 0 0 [oB q_t 3 [.int t_size, .ref q_t_factors, .ref q_t_pairFactors, .ref q_t_barred, .ref q_t_forbidden]] [(0, .ref q_t), (1, .int a1)] []
  refine g_iload_n C 0 1 dX3_has_0 rfl rfl ?_
  refine g_if_lt C 1 16 dX3_has_1 (by decide) hf (fun hf => ?_) (fun hf => ?_)
  · refine g_iconst C 16 (0 : Int32) dX3_has_16 (by decide) ?_
    cases hf
    exact g_zret C 17 dX3_has_17 (by decide) F hB
  · refine g_iload_n C 4 1 dX3_has_4 rfl rfl ?_
    refine g_aload_n C 5 0 dX3_has_5 rfl rfl ?_
    refine g_get C 6 0 0 dX3_has_6 inX3 rfl rfl (by decide) kw_92 rfl ?_
    refine g_icmp_ge C 9 16 dX3_has_9 (by decide) hf (fun hf => ?_) (fun hf => ?_)
    · refine g_iconst C 16 (0 : Int32) dX3_has_16 (by decide) ?_
      cases hf
      exact g_zret C 17 dX3_has_17 (by decide) F hB
    · refine g_iconst C 12 (1 : Int32) dX3_has_12 (by decide) ?_
      refine g_goto C 13 17 dX3_has_13 (by decide) ?_
      cases hf
      exact g_zret C 17 dX3_has_17 (by decide) F hB

def L_X3_startAgain_62 (a1 : Int32)  : Nat → Int32 → Int32 → (Nat → Int32) → (Nat → Int32) → (Nat → Int32) → (Nat → Int32) → Option (Int32 × (Nat → Int32) × (Nat → Int32) × (Nat → Int32) × (Nat → Int32))
  | 0, _, _, _, _, _, _ => none
  | n + 1, x2, t_size, t_factors, t_pairFactors, t_barred, t_forbidden =>
    if (14 : Int32) ≤ x2 then
      some (t_size, t_factors, t_pairFactors, t_barred, t_forbidden)
    else
      stI t_forbidden 14 x2 (0 : Int32) fun t_forbidden_5 =>
      bnd (x2 + (1 : Int32)) fun x2_6 =>
      L_X3_startAgain_62 a1 n x2_6 t_size t_factors t_pairFactors t_barred t_forbidden_5

set_option maxRecDepth 100000 in
set_option maxHeartbeats 1000000 in
theorem w_X3_startAgain_62 (cA : Nat → ClassId) (q_t : Nat) (q_t_factors : Nat) (q_t_pairFactors : Nat) (q_t_barred : Nat) (q_t_forbidden : Nat) (a1 : Int32) {X : XT}  (C : Cx X cX3_startAgain RX3 none cA 0 0 3) {kk nn : Nat} {BB : Option Value → va_W → Prop} (hk : kk ≤ (x_R X).cells ∧ nn ≤ (x_R X).slots) (F : Fx X BB kk nn) (r : Int32 × (Nat → Int32) × (Nat → Int32) × (Nat → Int32) × (Nat → Int32)) (hB : BB (none) [oB q_t 3 [.int r.1, .ref q_t_factors, .ref q_t_pairFactors, .ref q_t_barred, .ref q_t_forbidden], aI cA q_t_factors 4 r.2.1, aI cA q_t_pairFactors 16 r.2.2.1, aZ cA q_t_barred 16 r.2.2.2.1, aI cA q_t_forbidden 14 r.2.2.2.2])  : ∀ (n : Nat) (x2 : Int32) (t_size : Int32) (t_factors : Nat → Int32) (t_pairFactors : Nat → Int32) (t_barred : Nat → Int32) (t_forbidden : Nat → Int32), L_X3_startAgain_62 a1 n x2 t_size t_factors t_pairFactors t_barred t_forbidden = some r → Go X 3 kk nn 62 [oB q_t 3 [.int t_size, .ref q_t_factors, .ref q_t_pairFactors, .ref q_t_barred, .ref q_t_forbidden], aI cA q_t_factors 4 t_factors, aI cA q_t_pairFactors 16 t_pairFactors, aZ cA q_t_barred 16 t_barred, aI cA q_t_forbidden 14 t_forbidden] [(0, .ref q_t), (2, .int x2)] [] := by
  intro n
  induction n with
  | zero => intro x2 t_size t_factors t_pairFactors t_barred t_forbidden hf; exact no_some hf
  | succ n ih =>
    intro x2 t_size t_factors t_pairFactors t_barred t_forbidden hf
    rw [L_X3_startAgain_62] at hf
    refine g_iload_n C 62 1 dX3_startAgain_62 rfl rfl ?_
    refine g_aload_n C 63 0 dX3_startAgain_63 rfl rfl ?_
    refine g_get C 64 0 4 dX3_startAgain_64 inX3 rfl rfl (by decide) kw_95 rfl ?_
    refine g_alen C 67 4 0 (14 : Int32) dX3_startAgain_67 rfl rfl rfl ?_
    refine g_icmp_ge C 68 84 dX3_startAgain_68 (by decide) hf (fun hf => ?_) (fun hf => ?_)
    · cases hf
      exact g_vret C 84 dX3_startAgain_84 F hB
    · refine g_aload_n C 71 0 dX3_startAgain_71 rfl rfl ?_
      refine g_get C 72 0 4 dX3_startAgain_72 inX3 rfl rfl (by decide) kw_95 rfl ?_
      refine g_iload_n C 75 1 dX3_startAgain_75 rfl rfl ?_
      refine g_iconst C 76 (0 : Int32) dX3_startAgain_76 (by decide) ?_
      refine g_iast C 77 4 (fun z => [oB q_t 3 [.int t_size, .ref q_t_factors, .ref q_t_pairFactors, .ref q_t_barred, .ref q_t_forbidden], aI cA q_t_factors 4 t_factors, aI cA q_t_pairFactors 16 t_pairFactors, aZ cA q_t_barred 16 t_barred, aI cA q_t_forbidden 14 z]) dX3_startAgain_77 rfl (fun _ => rfl) hf (fun t_forbidden_5 hf => ?_)
      refine g_iinc C 78 1 (v := x2 + (1 : Int32)) (fun z => [(2, .int z), (0, .ref q_t)]) dX3_startAgain_78 rfl rfl (by decide) (fun _ => rfl) hf (fun x2_6 hf => ?_)
      refine g_goto C 81 62 dX3_startAgain_81 (by decide) ?_
      refine g_lv [1, 0] rfl ?_
      exact ih x2_6 t_size t_factors t_pairFactors t_barred t_forbidden_5 hf
def L_X3_startAgain_31 (a1 : Int32)  : Nat → Int32 → Int32 → (Nat → Int32) → (Nat → Int32) → (Nat → Int32) → (Nat → Int32) → Option (Int32 × (Nat → Int32) × (Nat → Int32) × (Nat → Int32) × (Nat → Int32))
  | 0, _, _, _, _, _, _ => none
  | n + 1, x2, t_size, t_factors, t_pairFactors, t_barred, t_forbidden =>
    if (16 : Int32) ≤ x2 then
      bnd (0 : Int32) fun x2_4 =>
      L_X3_startAgain_62 a1 NN x2_4 t_size t_factors t_pairFactors t_barred t_forbidden
    else
      stI t_pairFactors 16 x2 (0 : Int32) fun t_pairFactors_7 =>
      stZ t_barred 16 x2 (0 : Int32) fun t_barred_8 =>
      bnd (x2 + (1 : Int32)) fun x2_9 =>
      L_X3_startAgain_31 a1 n x2_9 t_size t_factors t_pairFactors_7 t_barred_8 t_forbidden

set_option maxRecDepth 100000 in
set_option maxHeartbeats 1000000 in
theorem w_X3_startAgain_31 (cA : Nat → ClassId) (q_t : Nat) (q_t_factors : Nat) (q_t_pairFactors : Nat) (q_t_barred : Nat) (q_t_forbidden : Nat) (a1 : Int32) {X : XT}  (C : Cx X cX3_startAgain RX3 none cA 0 0 3) {kk nn : Nat} {BB : Option Value → va_W → Prop} (hk : kk ≤ (x_R X).cells ∧ nn ≤ (x_R X).slots) (F : Fx X BB kk nn) (r : Int32 × (Nat → Int32) × (Nat → Int32) × (Nat → Int32) × (Nat → Int32)) (hB : BB (none) [oB q_t 3 [.int r.1, .ref q_t_factors, .ref q_t_pairFactors, .ref q_t_barred, .ref q_t_forbidden], aI cA q_t_factors 4 r.2.1, aI cA q_t_pairFactors 16 r.2.2.1, aZ cA q_t_barred 16 r.2.2.2.1, aI cA q_t_forbidden 14 r.2.2.2.2])  : ∀ (n : Nat) (x2 : Int32) (t_size : Int32) (t_factors : Nat → Int32) (t_pairFactors : Nat → Int32) (t_barred : Nat → Int32) (t_forbidden : Nat → Int32), L_X3_startAgain_31 a1 n x2 t_size t_factors t_pairFactors t_barred t_forbidden = some r → Go X 3 kk nn 31 [oB q_t 3 [.int t_size, .ref q_t_factors, .ref q_t_pairFactors, .ref q_t_barred, .ref q_t_forbidden], aI cA q_t_factors 4 t_factors, aI cA q_t_pairFactors 16 t_pairFactors, aZ cA q_t_barred 16 t_barred, aI cA q_t_forbidden 14 t_forbidden] [(0, .ref q_t), (2, .int x2)] [] := by
  intro n
  induction n with
  | zero => intro x2 t_size t_factors t_pairFactors t_barred t_forbidden hf; exact no_some hf
  | succ n ih =>
    intro x2 t_size t_factors t_pairFactors t_barred t_forbidden hf
    rw [L_X3_startAgain_31] at hf
    refine g_iload_n C 31 1 dX3_startAgain_31 rfl rfl ?_
    refine g_aload_n C 32 0 dX3_startAgain_32 rfl rfl ?_
    refine g_get C 33 0 2 dX3_startAgain_33 inX3 rfl rfl (by decide) kw_94 rfl ?_
    refine g_alen C 36 2 0 (16 : Int32) dX3_startAgain_36 rfl rfl rfl ?_
    refine g_icmp_ge C 37 60 dX3_startAgain_37 (by decide) hf (fun hf => ?_) (fun hf => ?_)
    · refine g_iconst C 60 (0 : Int32) dX3_startAgain_60 (by decide) ?_
      refine g_istore_n C 61 (fun z => [(2, .int z), (0, .ref q_t)]) dX3_startAgain_61 rfl (by decide) (fun _ => rfl) hf (fun x2_4 hf => ?_)
      refine g_lv [1, 0] rfl ?_
      exact w_X3_startAgain_62 cA q_t q_t_factors q_t_pairFactors q_t_barred q_t_forbidden a1 C hk F r hB NN x2_4 t_size t_factors t_pairFactors t_barred t_forbidden hf
    · refine g_aload_n C 40 0 dX3_startAgain_40 rfl rfl ?_
      refine g_get C 41 0 2 dX3_startAgain_41 inX3 rfl rfl (by decide) kw_94 rfl ?_
      refine g_iload_n C 44 1 dX3_startAgain_44 rfl rfl ?_
      refine g_iconst C 45 (0 : Int32) dX3_startAgain_45 (by decide) ?_
      refine g_iast C 46 2 (fun z => [oB q_t 3 [.int t_size, .ref q_t_factors, .ref q_t_pairFactors, .ref q_t_barred, .ref q_t_forbidden], aI cA q_t_factors 4 t_factors, aI cA q_t_pairFactors 16 z, aZ cA q_t_barred 16 t_barred, aI cA q_t_forbidden 14 t_forbidden]) dX3_startAgain_46 rfl (fun _ => rfl) hf (fun t_pairFactors_7 hf => ?_)
      refine g_aload_n C 47 0 dX3_startAgain_47 rfl rfl ?_
      refine g_get C 48 0 3 dX3_startAgain_48 inX3 rfl rfl (by decide) kw_96 rfl ?_
      refine g_iload_n C 51 1 dX3_startAgain_51 rfl rfl ?_
      refine g_iconst C 52 (0 : Int32) dX3_startAgain_52 (by decide) ?_
      refine g_zast C 53 3 (fun z => [oB q_t 3 [.int t_size, .ref q_t_factors, .ref q_t_pairFactors, .ref q_t_barred, .ref q_t_forbidden], aI cA q_t_factors 4 t_factors, aI cA q_t_pairFactors 16 t_pairFactors_7, aZ cA q_t_barred 16 z, aI cA q_t_forbidden 14 t_forbidden]) dX3_startAgain_53 rfl (fun _ => rfl) hf (fun t_barred_8 hf => ?_)
      refine g_iinc C 54 1 (v := x2 + (1 : Int32)) (fun z => [(2, .int z), (0, .ref q_t)]) dX3_startAgain_54 rfl rfl (by decide) (fun _ => rfl) hf (fun x2_9 hf => ?_)
      refine g_goto C 57 31 dX3_startAgain_57 (by decide) ?_
      refine g_lv [1, 0] rfl ?_
      exact ih x2_9 t_size t_factors t_pairFactors_7 t_barred_8 t_forbidden hf
def L_X3_startAgain_7 (a1 : Int32)  : Nat → Int32 → Int32 → (Nat → Int32) → (Nat → Int32) → (Nat → Int32) → (Nat → Int32) → Option (Int32 × (Nat → Int32) × (Nat → Int32) × (Nat → Int32) × (Nat → Int32))
  | 0, _, _, _, _, _, _ => none
  | n + 1, x2, t_size, t_factors, t_pairFactors, t_barred, t_forbidden =>
    if (4 : Int32) ≤ x2 then
      bnd (0 : Int32) fun x2_3 =>
      L_X3_startAgain_31 a1 NN x2_3 t_size t_factors t_pairFactors t_barred t_forbidden
    else
      stI t_factors 4 x2 (0 : Int32) fun t_factors_10 =>
      bnd (x2 + (1 : Int32)) fun x2_11 =>
      L_X3_startAgain_7 a1 n x2_11 t_size t_factors_10 t_pairFactors t_barred t_forbidden

set_option maxRecDepth 100000 in
set_option maxHeartbeats 1000000 in
theorem w_X3_startAgain_7 (cA : Nat → ClassId) (q_t : Nat) (q_t_factors : Nat) (q_t_pairFactors : Nat) (q_t_barred : Nat) (q_t_forbidden : Nat) (a1 : Int32) {X : XT}  (C : Cx X cX3_startAgain RX3 none cA 0 0 3) {kk nn : Nat} {BB : Option Value → va_W → Prop} (hk : kk ≤ (x_R X).cells ∧ nn ≤ (x_R X).slots) (F : Fx X BB kk nn) (r : Int32 × (Nat → Int32) × (Nat → Int32) × (Nat → Int32) × (Nat → Int32)) (hB : BB (none) [oB q_t 3 [.int r.1, .ref q_t_factors, .ref q_t_pairFactors, .ref q_t_barred, .ref q_t_forbidden], aI cA q_t_factors 4 r.2.1, aI cA q_t_pairFactors 16 r.2.2.1, aZ cA q_t_barred 16 r.2.2.2.1, aI cA q_t_forbidden 14 r.2.2.2.2])  : ∀ (n : Nat) (x2 : Int32) (t_size : Int32) (t_factors : Nat → Int32) (t_pairFactors : Nat → Int32) (t_barred : Nat → Int32) (t_forbidden : Nat → Int32), L_X3_startAgain_7 a1 n x2 t_size t_factors t_pairFactors t_barred t_forbidden = some r → Go X 3 kk nn 7 [oB q_t 3 [.int t_size, .ref q_t_factors, .ref q_t_pairFactors, .ref q_t_barred, .ref q_t_forbidden], aI cA q_t_factors 4 t_factors, aI cA q_t_pairFactors 16 t_pairFactors, aZ cA q_t_barred 16 t_barred, aI cA q_t_forbidden 14 t_forbidden] [(0, .ref q_t), (2, .int x2)] [] := by
  intro n
  induction n with
  | zero => intro x2 t_size t_factors t_pairFactors t_barred t_forbidden hf; exact no_some hf
  | succ n ih =>
    intro x2 t_size t_factors t_pairFactors t_barred t_forbidden hf
    rw [L_X3_startAgain_7] at hf
    refine g_iload_n C 7 1 dX3_startAgain_7 rfl rfl ?_
    refine g_aload_n C 8 0 dX3_startAgain_8 rfl rfl ?_
    refine g_get C 9 0 1 dX3_startAgain_9 inX3 rfl rfl (by decide) kw_93 rfl ?_
    refine g_alen C 12 1 0 (4 : Int32) dX3_startAgain_12 rfl rfl rfl ?_
    refine g_icmp_ge C 13 29 dX3_startAgain_13 (by decide) hf (fun hf => ?_) (fun hf => ?_)
    · refine g_iconst C 29 (0 : Int32) dX3_startAgain_29 (by decide) ?_
      refine g_istore_n C 30 (fun z => [(2, .int z), (0, .ref q_t)]) dX3_startAgain_30 rfl (by decide) (fun _ => rfl) hf (fun x2_3 hf => ?_)
      refine g_lv [1, 0] rfl ?_
      exact w_X3_startAgain_31 cA q_t q_t_factors q_t_pairFactors q_t_barred q_t_forbidden a1 C hk F r hB NN x2_3 t_size t_factors t_pairFactors t_barred t_forbidden hf
    · refine g_aload_n C 16 0 dX3_startAgain_16 rfl rfl ?_
      refine g_get C 17 0 1 dX3_startAgain_17 inX3 rfl rfl (by decide) kw_93 rfl ?_
      refine g_iload_n C 20 1 dX3_startAgain_20 rfl rfl ?_
      refine g_iconst C 21 (0 : Int32) dX3_startAgain_21 (by decide) ?_
      refine g_iast C 22 1 (fun z => [oB q_t 3 [.int t_size, .ref q_t_factors, .ref q_t_pairFactors, .ref q_t_barred, .ref q_t_forbidden], aI cA q_t_factors 4 z, aI cA q_t_pairFactors 16 t_pairFactors, aZ cA q_t_barred 16 t_barred, aI cA q_t_forbidden 14 t_forbidden]) dX3_startAgain_22 rfl (fun _ => rfl) hf (fun t_factors_10 hf => ?_)
      refine g_iinc C 23 1 (v := x2 + (1 : Int32)) (fun z => [(2, .int z), (0, .ref q_t)]) dX3_startAgain_23 rfl rfl (by decide) (fun _ => rfl) hf (fun x2_11 hf => ?_)
      refine g_goto C 26 7 dX3_startAgain_26 (by decide) ?_
      refine g_lv [1, 0] rfl ?_
      exact ih x2_11 t_size t_factors_10 t_pairFactors t_barred t_forbidden hf
def f_X3_startAgain (a1 : Int32) (t_size : Int32) (t_factors : Nat → Int32) (t_pairFactors : Nat → Int32) (t_barred : Nat → Int32) (t_forbidden : Nat → Int32) : Option (Int32 × (Nat → Int32) × (Nat → Int32) × (Nat → Int32) × (Nat → Int32)) :=
  bnd a1 fun t_size_1 =>
  bnd (0 : Int32) fun x2_2 =>
  L_X3_startAgain_7 a1 NN x2_2 t_size_1 t_factors t_pairFactors t_barred t_forbidden

set_option maxRecDepth 100000 in
set_option maxHeartbeats 1000000 in
theorem c_X3_startAgain (l : Launch) (cA : Nat → ClassId) (q_t : Nat) (t_size : Int32) (q_t_factors : Nat) (t_factors : Nat → Int32) (q_t_pairFactors : Nat) (t_pairFactors : Nat → Int32) (q_t_barred : Nat) (t_barred : Nat → Int32) (q_t_forbidden : Nat) (t_forbidden : Nat → Int32)  (a1 : Int32) (r : Int32 × (Nat → Int32) × (Nat → Int32) × (Nat → Int32) × (Nat → Int32)) (hf : f_X3_startAgain a1 t_size t_factors t_pairFactors t_barred t_forbidden = some r) : MT l cA yX3_startAgain cX3_startAgain 3 none ({ frames := 0, cells := 0, slots := 0, locals := 0 } : Room) [.ref q_t, .int a1] [oB q_t 3 [.int t_size, .ref q_t_factors, .ref q_t_pairFactors, .ref q_t_barred, .ref q_t_forbidden], aI cA q_t_factors 4 t_factors, aI cA q_t_pairFactors 16 t_pairFactors, aZ cA q_t_barred 16 t_barred, aI cA q_t_forbidden 14 t_forbidden] (sB (none) [oB q_t 3 [.int r.1, .ref q_t_factors, .ref q_t_pairFactors, .ref q_t_barred, .ref q_t_forbidden], aI cA q_t_factors 4 r.2.1, aI cA q_t_pairFactors 16 r.2.2.1, aZ cA q_t_barred 16 r.2.2.2.1, aI cA q_t_forbidden 14 r.2.2.2.2]) := by
  refine MT.of (by decide) (Nat.le_of_ble_eq_true rfl) ?_
  intro X hXl C F hnm hrc hrs
  subst hXl
  have hk : 0 ≤ (x_R X).cells ∧ 0 ≤ (x_R X).slots := ⟨Nat.zero_le _, Nat.zero_le _⟩
  have hB : (sB (none) [oB q_t 3 [.int r.1, .ref q_t_factors, .ref q_t_pairFactors, .ref q_t_barred, .ref q_t_forbidden], aI cA q_t_factors 4 r.2.1, aI cA q_t_pairFactors 16 r.2.2.1, aZ cA q_t_barred 16 r.2.2.2.1, aI cA q_t_forbidden 14 r.2.2.2.2]) (none) [oB q_t 3 [.int r.1, .ref q_t_factors, .ref q_t_pairFactors, .ref q_t_barred, .ref q_t_forbidden], aI cA q_t_factors 4 r.2.1, aI cA q_t_pairFactors 16 r.2.2.1, aZ cA q_t_barred 16 r.2.2.2.1, aI cA q_t_forbidden 14 r.2.2.2.2] := ⟨rfl, rfl⟩
  unfold f_X3_startAgain at hf
  have C : Cx X cX3_startAgain RX3 none cA 0 0 3 := C
  show Go X 3 0 0 0 [oB q_t 3 [.int t_size, .ref q_t_factors, .ref q_t_pairFactors, .ref q_t_barred, .ref q_t_forbidden], aI cA q_t_factors 4 t_factors, aI cA q_t_pairFactors 16 t_pairFactors, aZ cA q_t_barred 16 t_barred, aI cA q_t_forbidden 14 t_forbidden] [(0, .ref q_t), (1, .int a1)] []
  refine g_aload_n C 0 0 dX3_startAgain_0 rfl rfl ?_
  refine g_iload_n C 1 1 dX3_startAgain_1 rfl rfl ?_
  refine g_puti C 2 0 0 tyX3 (fun z => [oB q_t 3 [.int z, .ref q_t_factors, .ref q_t_pairFactors, .ref q_t_barred, .ref q_t_forbidden], aI cA q_t_factors 4 t_factors, aI cA q_t_pairFactors 16 t_pairFactors, aZ cA q_t_barred 16 t_barred, aI cA q_t_forbidden 14 t_forbidden]) dX3_startAgain_2 inX3 tyX3_ok nmX3 rfl rfl (by decide) kw_92 rfl rfl (Nat.le_of_ble_eq_true rfl) (fun _ => rfl) hf (fun t_size_1 hf => ?_)
  refine g_iconst C 5 (0 : Int32) dX3_startAgain_5 (by decide) ?_
  refine g_istore_n C 6 (fun z => [(2, .int z), (0, .ref q_t), (1, .int a1)]) dX3_startAgain_6 rfl (by decide) (fun _ => rfl) hf (fun x2_2 hf => ?_)
  refine g_lv [1, 0] rfl ?_
  exact w_X3_startAgain_7 cA q_t q_t_factors q_t_pairFactors q_t_barred q_t_forbidden a1 C hk F r hB NN x2_2 t_size_1 t_factors t_pairFactors t_barred t_forbidden hf

def f_X3_setPair (a1 : Int32) (a2 : Int32) (a3 : Int32) (a4 : Int32) (t_pairFactors : Nat → Int32) (t_barred : Nat → Int32) : Option ((Nat → Int32) × (Nat → Int32)) :=
  stI t_pairFactors 16 ((a1 * (4 : Int32)) + a2) a4 fun t_pairFactors_1 =>
  stI t_pairFactors_1 16 ((a2 * (4 : Int32)) + a1) a4 fun t_pairFactors_2 =>
  stZ t_barred 16 ((a1 * (4 : Int32)) + a2) a3 fun t_barred_3 =>
  stZ t_barred_3 16 ((a2 * (4 : Int32)) + a1) a3 fun t_barred_4 =>
  some (t_pairFactors_2, t_barred_4)

set_option maxRecDepth 100000 in
set_option maxHeartbeats 1000000 in
theorem c_X3_setPair (l : Launch) (cA : Nat → ClassId) (q_t : Nat) (t_size : Int32) (q_t_factors : Nat) (q_t_forbidden : Nat) (q_t_pairFactors : Nat) (t_pairFactors : Nat → Int32) (q_t_barred : Nat) (t_barred : Nat → Int32)  (a1 : Int32) (a2 : Int32) (a3 : Int32) (a4 : Int32) (r : (Nat → Int32) × (Nat → Int32)) (hf : f_X3_setPair a1 a2 a3 a4 t_pairFactors t_barred = some r) : MT l cA yX3_setPair cX3_setPair 5 none ({ frames := 0, cells := 0, slots := 0, locals := 0 } : Room) [.ref q_t, .int a1, .int a2, .int a3, .int a4] [oB q_t 3 [.int t_size, .ref q_t_factors, .ref q_t_pairFactors, .ref q_t_barred, .ref q_t_forbidden], aI cA q_t_pairFactors 16 t_pairFactors, aZ cA q_t_barred 16 t_barred] (sB (none) [oB q_t 3 [.int t_size, .ref q_t_factors, .ref q_t_pairFactors, .ref q_t_barred, .ref q_t_forbidden], aI cA q_t_pairFactors 16 r.1, aZ cA q_t_barred 16 r.2]) := by
  refine MT.of (by decide) (Nat.le_of_ble_eq_true rfl) ?_
  intro X hXl C F hnm hrc hrs
  subst hXl
  have hk : 0 ≤ (x_R X).cells ∧ 0 ≤ (x_R X).slots := ⟨Nat.zero_le _, Nat.zero_le _⟩
  have hB : (sB (none) [oB q_t 3 [.int t_size, .ref q_t_factors, .ref q_t_pairFactors, .ref q_t_barred, .ref q_t_forbidden], aI cA q_t_pairFactors 16 r.1, aZ cA q_t_barred 16 r.2]) (none) [oB q_t 3 [.int t_size, .ref q_t_factors, .ref q_t_pairFactors, .ref q_t_barred, .ref q_t_forbidden], aI cA q_t_pairFactors 16 r.1, aZ cA q_t_barred 16 r.2] := ⟨rfl, rfl⟩
  unfold f_X3_setPair at hf
  have C : Cx X cX3_setPair RX3 none cA 0 0 5 := C
  show Go X 5 0 0 0 [oB q_t 3 [.int t_size, .ref q_t_factors, .ref q_t_pairFactors, .ref q_t_barred, .ref q_t_forbidden], aI cA q_t_pairFactors 16 t_pairFactors, aZ cA q_t_barred 16 t_barred] [(0, .ref q_t), (1, .int a1), (2, .int a2), (3, .int a3), (4, .int a4)] []
  refine g_aload_n C 0 0 dX3_setPair_0 rfl rfl ?_
  refine g_get C 1 0 2 dX3_setPair_1 inX3 rfl rfl (by decide) kw_94 rfl ?_
  refine g_iload_n C 4 1 dX3_setPair_4 rfl rfl ?_
  refine g_iconst C 5 (4 : Int32) dX3_setPair_5 (by decide) ?_
  refine g_imul C 6 dX3_setPair_6 ?_
  refine g_iload_n C 7 2 dX3_setPair_7 rfl rfl ?_
  refine g_iadd C 8 dX3_setPair_8 ?_
  refine g_iload C 9 4 dX3_setPair_9 rfl ?_
  refine g_iast C 11 1 (fun z => [oB q_t 3 [.int t_size, .ref q_t_factors, .ref q_t_pairFactors, .ref q_t_barred, .ref q_t_forbidden], aI cA q_t_pairFactors 16 z, aZ cA q_t_barred 16 t_barred]) dX3_setPair_11 rfl (fun _ => rfl) hf (fun t_pairFactors_1 hf => ?_)
  refine g_aload_n C 12 0 dX3_setPair_12 rfl rfl ?_
  refine g_get C 13 0 2 dX3_setPair_13 inX3 rfl rfl (by decide) kw_94 rfl ?_
  refine g_iload_n C 16 2 dX3_setPair_16 rfl rfl ?_
  refine g_iconst C 17 (4 : Int32) dX3_setPair_17 (by decide) ?_
  refine g_imul C 18 dX3_setPair_18 ?_
  refine g_iload_n C 19 1 dX3_setPair_19 rfl rfl ?_
  refine g_iadd C 20 dX3_setPair_20 ?_
  refine g_iload C 21 4 dX3_setPair_21 rfl ?_
  refine g_iast C 23 1 (fun z => [oB q_t 3 [.int t_size, .ref q_t_factors, .ref q_t_pairFactors, .ref q_t_barred, .ref q_t_forbidden], aI cA q_t_pairFactors 16 z, aZ cA q_t_barred 16 t_barred]) dX3_setPair_23 rfl (fun _ => rfl) hf (fun t_pairFactors_2 hf => ?_)
  refine g_aload_n C 24 0 dX3_setPair_24 rfl rfl ?_
  refine g_get C 25 0 3 dX3_setPair_25 inX3 rfl rfl (by decide) kw_96 rfl ?_
  refine g_iload_n C 28 1 dX3_setPair_28 rfl rfl ?_
  refine g_iconst C 29 (4 : Int32) dX3_setPair_29 (by decide) ?_
  refine g_imul C 30 dX3_setPair_30 ?_
  refine g_iload_n C 31 2 dX3_setPair_31 rfl rfl ?_
  refine g_iadd C 32 dX3_setPair_32 ?_
  refine g_iload_n C 33 3 dX3_setPair_33 rfl rfl ?_
  refine g_zast C 34 2 (fun z => [oB q_t 3 [.int t_size, .ref q_t_factors, .ref q_t_pairFactors, .ref q_t_barred, .ref q_t_forbidden], aI cA q_t_pairFactors 16 t_pairFactors_2, aZ cA q_t_barred 16 z]) dX3_setPair_34 rfl (fun _ => rfl) hf (fun t_barred_3 hf => ?_)
  refine g_aload_n C 35 0 dX3_setPair_35 rfl rfl ?_
  refine g_get C 36 0 3 dX3_setPair_36 inX3 rfl rfl (by decide) kw_96 rfl ?_
  refine g_iload_n C 39 2 dX3_setPair_39 rfl rfl ?_
  refine g_iconst C 40 (4 : Int32) dX3_setPair_40 (by decide) ?_
  refine g_imul C 41 dX3_setPair_41 ?_
  refine g_iload_n C 42 1 dX3_setPair_42 rfl rfl ?_
  refine g_iadd C 43 dX3_setPair_43 ?_
  refine g_iload_n C 44 3 dX3_setPair_44 rfl rfl ?_
  refine g_zast C 45 2 (fun z => [oB q_t 3 [.int t_size, .ref q_t_factors, .ref q_t_pairFactors, .ref q_t_barred, .ref q_t_forbidden], aI cA q_t_pairFactors 16 t_pairFactors_2, aZ cA q_t_barred 16 z]) dX3_setPair_45 rfl (fun _ => rfl) hf (fun t_barred_4 hf => ?_)
  cases hf
  exact g_vret C 46 dX3_setPair_46 F hB

def f_X3_openFor (a1 : Int32) (t_size : Int32) (t_forbidden : Nat → Int32) : Option (Int32) :=
  ldA t_forbidden 14 a1 fun v1 =>
  some (((((1 : Int32) <<< (t_size &&& 31)) - (1 : Int32)) &&& (v1 ^^^ (-1 : Int32))))

set_option maxRecDepth 100000 in
set_option maxHeartbeats 1000000 in
theorem c_X3_openFor (l : Launch) (cA : Nat → ClassId) (q_t : Nat) (t_size : Int32) (q_t_factors : Nat) (q_t_pairFactors : Nat) (q_t_barred : Nat) (q_t_forbidden : Nat) (t_forbidden : Nat → Int32)  (a1 : Int32) (r : Int32) (hf : f_X3_openFor a1 t_size t_forbidden = some r) : MT l cA yX3_openFor cX3_openFor 2 (some .int) ({ frames := 0, cells := 0, slots := 0, locals := 0 } : Room) [.ref q_t, .int a1] [oB q_t 3 [.int t_size, .ref q_t_factors, .ref q_t_pairFactors, .ref q_t_barred, .ref q_t_forbidden], aI cA q_t_forbidden 14 t_forbidden] (sB (some (.int r)) [oB q_t 3 [.int t_size, .ref q_t_factors, .ref q_t_pairFactors, .ref q_t_barred, .ref q_t_forbidden], aI cA q_t_forbidden 14 t_forbidden]) := by
  refine MT.of (by decide) (Nat.le_of_ble_eq_true rfl) ?_
  intro X hXl C F hnm hrc hrs
  subst hXl
  have hk : 0 ≤ (x_R X).cells ∧ 0 ≤ (x_R X).slots := ⟨Nat.zero_le _, Nat.zero_le _⟩
  have hB : (sB (some (.int r)) [oB q_t 3 [.int t_size, .ref q_t_factors, .ref q_t_pairFactors, .ref q_t_barred, .ref q_t_forbidden], aI cA q_t_forbidden 14 t_forbidden]) (some (.int r)) [oB q_t 3 [.int t_size, .ref q_t_factors, .ref q_t_pairFactors, .ref q_t_barred, .ref q_t_forbidden], aI cA q_t_forbidden 14 t_forbidden] := ⟨rfl, rfl⟩
  unfold f_X3_openFor at hf
  have C : Cx X cX3_openFor RX3 (some .int) cA 0 0 2 := C
  show Go X 2 0 0 0 [oB q_t 3 [.int t_size, .ref q_t_factors, .ref q_t_pairFactors, .ref q_t_barred, .ref q_t_forbidden], aI cA q_t_forbidden 14 t_forbidden] [(0, .ref q_t), (1, .int a1)] []
  refine g_iconst C 0 (1 : Int32) dX3_openFor_0 (by decide) ?_
  refine g_aload_n C 1 0 dX3_openFor_1 rfl rfl ?_
  refine g_get C 2 0 0 dX3_openFor_2 inX3 rfl rfl (by decide) kw_92 rfl ?_
  refine g_ishl C 5 dX3_openFor_5 ?_
  refine g_iconst C 6 (1 : Int32) dX3_openFor_6 (by decide) ?_
  refine g_isub C 7 dX3_openFor_7 ?_
  refine g_aload_n C 8 0 dX3_openFor_8 rfl rfl ?_
  refine g_get C 9 0 4 dX3_openFor_9 inX3 rfl rfl (by decide) kw_95 rfl ?_
  refine g_iload_n C 12 1 dX3_openFor_12 rfl rfl ?_
  refine g_iald C 13 1 dX3_openFor_13 rfl hf (fun v1 hf => ?_)
  refine g_iconst C 14 (-1 : Int32) dX3_openFor_14 (by decide) ?_
  refine g_ixor C 15 dX3_openFor_15 ?_
  refine g_iand C 16 dX3_openFor_16 ?_
  cases hf
  exact g_iret C 17 dX3_openFor_17 F hB

def f_X4_addKnot (a1 : Int32) (t_size : Int32) (t_loads : Nat → Int32) : Option (Int32 × Int32 × (Nat → Int32)) :=
  stI t_loads 14 t_size a1 fun t_loads_1 =>
  bnd (t_size + (1 : Int32)) fun t_size_2 =>
  some ((t_size_2 - (1 : Int32)), t_size_2, t_loads_1)

set_option maxRecDepth 100000 in
set_option maxHeartbeats 1000000 in
theorem c_X4_addKnot (l : Launch) (cA : Nat → ClassId) (q_t : Nat) (q_t_near : Nat) (q_t_ties : Nat) (t_size : Int32) (t_edges : Int32) (q_t_loads : Nat) (t_loads : Nat → Int32)  (a1 : Int32) (r : Int32 × Int32 × (Nat → Int32)) (hf : f_X4_addKnot a1 t_size t_loads = some r) : MT l cA yX4_addKnot cX4_addKnot 2 (some .int) ({ frames := 0, cells := 0, slots := 0, locals := 0 } : Room) [.ref q_t, .int a1] [oB q_t 4 [.ref q_t_loads, .ref q_t_near, .ref q_t_ties, .int t_size, .int t_edges], aI cA q_t_loads 14 t_loads] (sB (some (.int r.1)) [oB q_t 4 [.ref q_t_loads, .ref q_t_near, .ref q_t_ties, .int r.2.1, .int t_edges], aI cA q_t_loads 14 r.2.2]) := by
  refine MT.of (by decide) (Nat.le_of_ble_eq_true rfl) ?_
  intro X hXl C F hnm hrc hrs
  subst hXl
  have hk : 0 ≤ (x_R X).cells ∧ 0 ≤ (x_R X).slots := ⟨Nat.zero_le _, Nat.zero_le _⟩
  have hB : (sB (some (.int r.1)) [oB q_t 4 [.ref q_t_loads, .ref q_t_near, .ref q_t_ties, .int r.2.1, .int t_edges], aI cA q_t_loads 14 r.2.2]) (some (.int r.1)) [oB q_t 4 [.ref q_t_loads, .ref q_t_near, .ref q_t_ties, .int r.2.1, .int t_edges], aI cA q_t_loads 14 r.2.2] := ⟨rfl, rfl⟩
  unfold f_X4_addKnot at hf
  have C : Cx X cX4_addKnot RX4 (some .int) cA 0 0 2 := C
  show Go X 2 0 0 0 [oB q_t 4 [.ref q_t_loads, .ref q_t_near, .ref q_t_ties, .int t_size, .int t_edges], aI cA q_t_loads 14 t_loads] [(0, .ref q_t), (1, .int a1)] []
  refine g_aload_n C 0 0 dX4_addKnot_0 rfl rfl ?_
  refine g_get C 1 0 0 dX4_addKnot_1 inX4 rfl rfl (by decide) kw_97 rfl ?_
  refine g_aload_n C 4 0 dX4_addKnot_4 rfl rfl ?_
  refine g_get C 5 0 3 dX4_addKnot_5 inX4 rfl rfl (by decide) kw_45 rfl ?_
  refine g_iload_n C 8 1 dX4_addKnot_8 rfl rfl ?_
  refine g_iast C 9 1 (fun z => [oB q_t 4 [.ref q_t_loads, .ref q_t_near, .ref q_t_ties, .int t_size, .int t_edges], aI cA q_t_loads 14 z]) dX4_addKnot_9 rfl (fun _ => rfl) hf (fun t_loads_1 hf => ?_)
  refine g_aload_n C 10 0 dX4_addKnot_10 rfl rfl ?_
  refine g_dup C 11 dX4_addKnot_11 rfl ?_
  refine g_get C 12 0 3 dX4_addKnot_12 inX4 rfl rfl (by decide) kw_45 rfl ?_
  refine g_iconst C 15 (1 : Int32) dX4_addKnot_15 (by decide) ?_
  refine g_iadd C 16 dX4_addKnot_16 ?_
  refine g_puti C 17 0 3 tyX4 (fun z => [oB q_t 4 [.ref q_t_loads, .ref q_t_near, .ref q_t_ties, .int z, .int t_edges], aI cA q_t_loads 14 t_loads_1]) dX4_addKnot_17 inX4 tyX4_ok nmX4 rfl rfl (by decide) kw_45 rfl rfl (Nat.le_of_ble_eq_true rfl) (fun _ => rfl) hf (fun t_size_2 hf => ?_)
  refine g_aload_n C 20 0 dX4_addKnot_20 rfl rfl ?_
  refine g_get C 21 0 3 dX4_addKnot_21 inX4 rfl rfl (by decide) kw_45 rfl ?_
  refine g_iconst C 24 (1 : Int32) dX4_addKnot_24 (by decide) ?_
  refine g_isub C 25 dX4_addKnot_25 ?_
  cases hf
  exact g_iret C 26 dX4_addKnot_26 F hB

def J_X4_join_35 (a1 : Int32) (a2 : Int32) (a3 : Int32)  (x4 : Int32) (t_edges : Int32) (t_near : Nat → Int32) (t_ties : Nat → Int32) : Option (Int32 × Int32 × (Nat → Int32) × (Nat → Int32)) :=
  ldA t_near 14 a1 fun v4 =>
  stI t_near 14 a1 (v4 ||| ((1 : Int32) <<< (a2 &&& 31))) fun t_near_5 =>
  ldA t_near_5 14 a2 fun v6 =>
  stI t_near_5 14 a2 (v6 ||| ((1 : Int32) <<< (a1 &&& 31))) fun t_near_7 =>
  stI t_ties 196 ((a1 * (14 : Int32)) + a2) a3 fun t_ties_8 =>
  stI t_ties_8 196 ((a2 * (14 : Int32)) + a1) a3 fun t_ties_9 =>
  chk (x4 = 0 ∨ x4 = 1) (some (x4, t_edges, t_near_7, t_ties_9))

set_option maxRecDepth 100000 in
set_option maxHeartbeats 1000000 in
theorem w_X4_join_35 (cA : Nat → ClassId) (q_t : Nat) (q_t_loads : Nat) (t_size : Int32) (q_t_near : Nat) (q_t_ties : Nat) (a1 : Int32) (a2 : Int32) (a3 : Int32) {X : XT}  (C : Cx X cX4_join RX4 (some .boolean) cA 1 21 5) {kk nn : Nat} {BB : Option Value → va_W → Prop} (hk : kk ≤ (x_R X).cells ∧ nn ≤ (x_R X).slots) (F : Fx X BB kk nn) (r : Int32 × Int32 × (Nat → Int32) × (Nat → Int32)) (hB : BB (some (.int r.1)) [oB q_t 4 [.ref q_t_loads, .ref q_t_near, .ref q_t_ties, .int t_size, .int r.2.1], aI cA q_t_near 14 r.2.2.1, aI cA q_t_ties 196 r.2.2.2])  : ∀ (x4 : Int32) (t_edges : Int32) (t_near : Nat → Int32) (t_ties : Nat → Int32), J_X4_join_35 a1 a2 a3 x4 t_edges t_near t_ties = some r → Go X 5 kk nn 35 [oB q_t 4 [.ref q_t_loads, .ref q_t_near, .ref q_t_ties, .int t_size, .int t_edges], aI cA q_t_near 14 t_near, aI cA q_t_ties 196 t_ties] [(0, .ref q_t), (1, .int a1), (2, .int a2), (3, .int a3), (4, .int x4)] [] := by
  intro x4 t_edges t_near t_ties hf
  unfold J_X4_join_35 at hf
  refine g_aload_n C 35 0 dX4_join_35 rfl rfl ?_
  refine g_get C 36 0 1 dX4_join_36 inX4 rfl rfl (by decide) kw_51 rfl ?_
  refine g_iload_n C 39 1 dX4_join_39 rfl rfl ?_
  refine g_dup2 C 40 dX4_join_40 rfl rfl ?_
  refine g_iald C 41 1 dX4_join_41 rfl hf (fun v4 hf => ?_)
  refine g_iconst C 42 (1 : Int32) dX4_join_42 (by decide) ?_
  refine g_iload_n C 43 2 dX4_join_43 rfl rfl ?_
  refine g_ishl C 44 dX4_join_44 ?_
  refine g_ior C 45 dX4_join_45 ?_
  refine g_iast C 46 1 (fun z => [oB q_t 4 [.ref q_t_loads, .ref q_t_near, .ref q_t_ties, .int t_size, .int t_edges], aI cA q_t_near 14 z, aI cA q_t_ties 196 t_ties]) dX4_join_46 rfl (fun _ => rfl) hf (fun t_near_5 hf => ?_)
  refine g_aload_n C 47 0 dX4_join_47 rfl rfl ?_
  refine g_get C 48 0 1 dX4_join_48 inX4 rfl rfl (by decide) kw_51 rfl ?_
  refine g_iload_n C 51 2 dX4_join_51 rfl rfl ?_
  refine g_dup2 C 52 dX4_join_52 rfl rfl ?_
  refine g_iald C 53 1 dX4_join_53 rfl hf (fun v6 hf => ?_)
  refine g_iconst C 54 (1 : Int32) dX4_join_54 (by decide) ?_
  refine g_iload_n C 55 1 dX4_join_55 rfl rfl ?_
  refine g_ishl C 56 dX4_join_56 ?_
  refine g_ior C 57 dX4_join_57 ?_
  refine g_iast C 58 1 (fun z => [oB q_t 4 [.ref q_t_loads, .ref q_t_near, .ref q_t_ties, .int t_size, .int t_edges], aI cA q_t_near 14 z, aI cA q_t_ties 196 t_ties]) dX4_join_58 rfl (fun _ => rfl) hf (fun t_near_7 hf => ?_)
  refine g_aload_n C 59 0 dX4_join_59 rfl rfl ?_
  refine g_get C 60 0 2 dX4_join_60 inX4 rfl rfl (by decide) kw_98 rfl ?_
  refine g_iload_n C 63 1 dX4_join_63 rfl rfl ?_
  refine g_bipush C 64 (14 : Int32) dX4_join_64 (by decide) ?_
  refine g_imul C 66 dX4_join_66 ?_
  refine g_iload_n C 67 2 dX4_join_67 rfl rfl ?_
  refine g_iadd C 68 dX4_join_68 ?_
  refine g_iload_n C 69 3 dX4_join_69 rfl rfl ?_
  refine g_iast C 70 2 (fun z => [oB q_t 4 [.ref q_t_loads, .ref q_t_near, .ref q_t_ties, .int t_size, .int t_edges], aI cA q_t_near 14 t_near_7, aI cA q_t_ties 196 z]) dX4_join_70 rfl (fun _ => rfl) hf (fun t_ties_8 hf => ?_)
  refine g_aload_n C 71 0 dX4_join_71 rfl rfl ?_
  refine g_get C 72 0 2 dX4_join_72 inX4 rfl rfl (by decide) kw_98 rfl ?_
  refine g_iload_n C 75 2 dX4_join_75 rfl rfl ?_
  refine g_bipush C 76 (14 : Int32) dX4_join_76 (by decide) ?_
  refine g_imul C 78 dX4_join_78 ?_
  refine g_iload_n C 79 1 dX4_join_79 rfl rfl ?_
  refine g_iadd C 80 dX4_join_80 ?_
  refine g_iload_n C 81 3 dX4_join_81 rfl rfl ?_
  refine g_iast C 82 2 (fun z => [oB q_t 4 [.ref q_t_loads, .ref q_t_near, .ref q_t_ties, .int t_size, .int t_edges], aI cA q_t_near 14 t_near_7, aI cA q_t_ties 196 z]) dX4_join_82 rfl (fun _ => rfl) hf (fun t_ties_9 hf => ?_)
  refine g_iload C 83 4 dX4_join_83 rfl ?_
  obtain ⟨hv, hf⟩ := chk_some hf
  cases hf
  exact g_zret C 85 dX4_join_85 hv F hB
def J_X4_join_18 (a1 : Int32) (a2 : Int32) (a3 : Int32)  (s0 : Int32) (t_edges : Int32) (t_near : Nat → Int32) (t_ties : Nat → Int32) : Option (Int32 × Int32 × (Nat → Int32) × (Nat → Int32)) :=
  bnd s0 fun x4_3 =>
  if x4_3 = 0 then
    J_X4_join_35 a1 a2 a3 x4_3 t_edges t_near t_ties
  else
    bnd (t_edges + (1 : Int32)) fun t_edges_10 =>
    J_X4_join_35 a1 a2 a3 x4_3 t_edges_10 t_near t_ties

set_option maxRecDepth 100000 in
set_option maxHeartbeats 1000000 in
theorem w_X4_join_18 (cA : Nat → ClassId) (q_t : Nat) (q_t_loads : Nat) (t_size : Int32) (q_t_near : Nat) (q_t_ties : Nat) (a1 : Int32) (a2 : Int32) (a3 : Int32) {X : XT}  (C : Cx X cX4_join RX4 (some .boolean) cA 1 21 5) {kk nn : Nat} {BB : Option Value → va_W → Prop} (hk : kk ≤ (x_R X).cells ∧ nn ≤ (x_R X).slots) (F : Fx X BB kk nn) (r : Int32 × Int32 × (Nat → Int32) × (Nat → Int32)) (hB : BB (some (.int r.1)) [oB q_t 4 [.ref q_t_loads, .ref q_t_near, .ref q_t_ties, .int t_size, .int r.2.1], aI cA q_t_near 14 r.2.2.1, aI cA q_t_ties 196 r.2.2.2])  : ∀ (s0 : Int32) (t_edges : Int32) (t_near : Nat → Int32) (t_ties : Nat → Int32), J_X4_join_18 a1 a2 a3 s0 t_edges t_near t_ties = some r → Go X 5 kk nn 18 [oB q_t 4 [.ref q_t_loads, .ref q_t_near, .ref q_t_ties, .int t_size, .int t_edges], aI cA q_t_near 14 t_near, aI cA q_t_ties 196 t_ties] [(0, .ref q_t), (1, .int a1), (2, .int a2), (3, .int a3)] [.int s0] := by
  intro s0 t_edges t_near t_ties hf
  unfold J_X4_join_18 at hf
  refine g_istore C 18 (fun z => [(4, .int z), (0, .ref q_t), (1, .int a1), (2, .int a2), (3, .int a3)]) dX4_join_18 (by decide) (fun _ => rfl) hf (fun x4_3 hf => ?_)
  refine g_iload C 20 0 dX4_join_20 rfl ?_
  refine g_if_eq C 22 35 dX4_join_22 (by decide) hf (fun hf => ?_) (fun hf => ?_)
  · refine g_lv [1, 2, 3, 4, 0] rfl ?_
    exact w_X4_join_35 cA q_t q_t_loads t_size q_t_near q_t_ties a1 a2 a3 C hk F r hB x4_3 t_edges t_near t_ties hf
  · refine g_aload_n C 25 1 dX4_join_25 rfl rfl ?_
    refine g_dup C 26 dX4_join_26 rfl ?_
    refine g_get C 27 0 4 dX4_join_27 inX4 rfl rfl (by decide) kw_99 rfl ?_
    refine g_iconst C 30 (1 : Int32) dX4_join_30 (by decide) ?_
    refine g_iadd C 31 dX4_join_31 ?_
    refine g_puti C 32 0 4 tyX4 (fun z => [oB q_t 4 [.ref q_t_loads, .ref q_t_near, .ref q_t_ties, .int t_size, .int z], aI cA q_t_near 14 t_near, aI cA q_t_ties 196 t_ties]) dX4_join_32 inX4 tyX4_ok nmX4 rfl rfl (by decide) kw_99 rfl rfl (Nat.le_of_ble_eq_true rfl) (fun _ => rfl) hf (fun t_edges_10 hf => ?_)
    refine g_lv [1, 2, 3, 4, 0] rfl ?_
    exact w_X4_join_35 cA q_t q_t_loads t_size q_t_near q_t_ties a1 a2 a3 C hk F r hB x4_3 t_edges_10 t_near t_ties hf
def f_X4_join (a1 : Int32) (a2 : Int32) (a3 : Int32) (t_edges : Int32) (t_near : Nat → Int32) (t_ties : Nat → Int32) : Option (Int32 × Int32 × (Nat → Int32) × (Nat → Int32)) :=
  ldA t_near 14 a1 fun v1 =>
  cal (f_X8_hasBit v1 a2) fun u2 =>
  if u2 = 0 then
    J_X4_join_18 a1 a2 a3 (1 : Int32) t_edges t_near t_ties
  else
    J_X4_join_18 a1 a2 a3 (0 : Int32) t_edges t_near t_ties

set_option maxRecDepth 100000 in
set_option maxHeartbeats 1000000 in
theorem c_X4_join (l : Launch) (cA : Nat → ClassId) (q_t : Nat) (q_t_loads : Nat) (t_size : Int32) (t_edges : Int32) (q_t_near : Nat) (t_near : Nat → Int32) (q_t_ties : Nat) (t_ties : Nat → Int32)  (a1 : Int32) (a2 : Int32) (a3 : Int32) (r : Int32 × Int32 × (Nat → Int32) × (Nat → Int32)) (hf : f_X4_join a1 a2 a3 t_edges t_near t_ties = some r) : MT l cA yX4_join cX4_join 5 (some .boolean) ({ frames := 1, cells := 0, slots := 0, locals := 21 } : Room) [.ref q_t, .int a1, .int a2, .int a3] [oB q_t 4 [.ref q_t_loads, .ref q_t_near, .ref q_t_ties, .int t_size, .int t_edges], aI cA q_t_near 14 t_near, aI cA q_t_ties 196 t_ties] (sB (some (.int r.1)) [oB q_t 4 [.ref q_t_loads, .ref q_t_near, .ref q_t_ties, .int t_size, .int r.2.1], aI cA q_t_near 14 r.2.2.1, aI cA q_t_ties 196 r.2.2.2]) := by
  refine MT.of (by decide) (Nat.le_of_ble_eq_true rfl) ?_
  intro X hXl C F hnm hrc hrs
  subst hXl
  have hk : 0 ≤ (x_R X).cells ∧ 0 ≤ (x_R X).slots := ⟨Nat.zero_le _, Nat.zero_le _⟩
  have hB : (sB (some (.int r.1)) [oB q_t 4 [.ref q_t_loads, .ref q_t_near, .ref q_t_ties, .int t_size, .int r.2.1], aI cA q_t_near 14 r.2.2.1, aI cA q_t_ties 196 r.2.2.2]) (some (.int r.1)) [oB q_t 4 [.ref q_t_loads, .ref q_t_near, .ref q_t_ties, .int t_size, .int r.2.1], aI cA q_t_near 14 r.2.2.1, aI cA q_t_ties 196 r.2.2.2] := ⟨rfl, rfl⟩
  unfold f_X4_join at hf
  have C : Cx X cX4_join RX4 (some .boolean) cA 1 21 5 := C
  show Go X 5 0 0 0 [oB q_t 4 [.ref q_t_loads, .ref q_t_near, .ref q_t_ties, .int t_size, .int t_edges], aI cA q_t_near 14 t_near, aI cA q_t_ties 196 t_ties] [(0, .ref q_t), (1, .int a1), (2, .int a2), (3, .int a3)] []
  refine g_aload_n C 0 0 dX4_join_0 rfl rfl ?_
  refine g_get C 1 0 1 dX4_join_1 inX4 rfl rfl (by decide) kw_51 rfl ?_
  refine g_iload_n C 4 1 dX4_join_4 rfl rfl ?_
  refine g_iald C 5 1 dX4_join_5 rfl hf (fun v1 hf => ?_)
  refine g_iload_n C 6 2 dX4_join_6 rfl rfl ?_
  obtain ⟨u2, hu2, hf⟩ := cal_some hf
  refine g_callSN C 7 [] (rest := []) dX4_join_7 (c_X8_hasBit (x_l X) cA v1 a2 u2 hu2) (List.mem_of_getElem? (i := 7) rfl) kw_5 kw_6 kw_7 ok_X8_hasBit ⟨Nat.le_of_ble_eq_true rfl, Nat.le_of_ble_eq_true rfl⟩ hk ⟨rfl, rfl⟩ rfl rfl rfl (Nat.le_of_ble_eq_true rfl) rfl (ws' := [oB q_t 4 [.ref q_t_loads, .ref q_t_near, .ref q_t_ties, .int t_size, .int t_edges], aI cA q_t_near 14 t_near, aI cA q_t_ties 196 t_ties]) (st' := [.int u2]) (N0 := 3) rfl [none, none, none] (by decide) rfl rfl ?_
  refine g_if_ne C 10 17 dX4_join_10 (by decide) hf (fun hf => ?_) (fun hf => ?_)
  · refine g_iconst C 17 (0 : Int32) dX4_join_17 (by decide) ?_
    exact w_X4_join_18 cA q_t q_t_loads t_size q_t_near q_t_ties a1 a2 a3 C hk F r hB (0 : Int32) t_edges t_near t_ties hf
  · refine g_iconst C 13 (1 : Int32) dX4_join_13 (by decide) ?_
    refine g_goto C 14 18 dX4_join_14 (by decide) ?_
    exact w_X4_join_18 cA q_t q_t_loads t_size q_t_near q_t_ties a1 a2 a3 C hk F r hB (1 : Int32) t_edges t_near t_ties hf

def f_X4_part (a1 : Int32) (a2 : Int32) (t_edges : Int32) (t_near : Nat → Int32) (t_ties : Nat → Int32) : Option (Int32 × Int32 × (Nat → Int32)) :=
  ldA t_near 14 a1 fun v1 =>
  stI t_near 14 a1 (v1 &&& (((1 : Int32) <<< (a2 &&& 31)) ^^^ (-1 : Int32))) fun t_near_2 =>
  ldA t_near_2 14 a2 fun v3 =>
  stI t_near_2 14 a2 (v3 &&& (((1 : Int32) <<< (a1 &&& 31)) ^^^ (-1 : Int32))) fun t_near_4 =>
  bnd (t_edges - (1 : Int32)) fun t_edges_5 =>
  ldA t_ties 196 ((a1 * (14 : Int32)) + a2) fun v6 =>
  some (v6, t_edges_5, t_near_4)

set_option maxRecDepth 100000 in
set_option maxHeartbeats 1000000 in
theorem c_X4_part (l : Launch) (cA : Nat → ClassId) (q_t : Nat) (q_t_loads : Nat) (t_size : Int32) (t_edges : Int32) (q_t_near : Nat) (t_near : Nat → Int32) (q_t_ties : Nat) (t_ties : Nat → Int32)  (a1 : Int32) (a2 : Int32) (r : Int32 × Int32 × (Nat → Int32)) (hf : f_X4_part a1 a2 t_edges t_near t_ties = some r) : MT l cA yX4_part cX4_part 3 (some .int) ({ frames := 0, cells := 0, slots := 0, locals := 0 } : Room) [.ref q_t, .int a1, .int a2] [oB q_t 4 [.ref q_t_loads, .ref q_t_near, .ref q_t_ties, .int t_size, .int t_edges], aI cA q_t_near 14 t_near, aI cA q_t_ties 196 t_ties] (sB (some (.int r.1)) [oB q_t 4 [.ref q_t_loads, .ref q_t_near, .ref q_t_ties, .int t_size, .int r.2.1], aI cA q_t_near 14 r.2.2, aI cA q_t_ties 196 t_ties]) := by
  refine MT.of (by decide) (Nat.le_of_ble_eq_true rfl) ?_
  intro X hXl C F hnm hrc hrs
  subst hXl
  have hk : 0 ≤ (x_R X).cells ∧ 0 ≤ (x_R X).slots := ⟨Nat.zero_le _, Nat.zero_le _⟩
  have hB : (sB (some (.int r.1)) [oB q_t 4 [.ref q_t_loads, .ref q_t_near, .ref q_t_ties, .int t_size, .int r.2.1], aI cA q_t_near 14 r.2.2, aI cA q_t_ties 196 t_ties]) (some (.int r.1)) [oB q_t 4 [.ref q_t_loads, .ref q_t_near, .ref q_t_ties, .int t_size, .int r.2.1], aI cA q_t_near 14 r.2.2, aI cA q_t_ties 196 t_ties] := ⟨rfl, rfl⟩
  unfold f_X4_part at hf
  have C : Cx X cX4_part RX4 (some .int) cA 0 0 3 := C
  show Go X 3 0 0 0 [oB q_t 4 [.ref q_t_loads, .ref q_t_near, .ref q_t_ties, .int t_size, .int t_edges], aI cA q_t_near 14 t_near, aI cA q_t_ties 196 t_ties] [(0, .ref q_t), (1, .int a1), (2, .int a2)] []
  refine g_aload_n C 0 0 dX4_part_0 rfl rfl ?_
  refine g_get C 1 0 1 dX4_part_1 inX4 rfl rfl (by decide) kw_51 rfl ?_
  refine g_iload_n C 4 1 dX4_part_4 rfl rfl ?_
  refine g_dup2 C 5 dX4_part_5 rfl rfl ?_
  refine g_iald C 6 1 dX4_part_6 rfl hf (fun v1 hf => ?_)
  refine g_iconst C 7 (1 : Int32) dX4_part_7 (by decide) ?_
  refine g_iload_n C 8 2 dX4_part_8 rfl rfl ?_
  refine g_ishl C 9 dX4_part_9 ?_
  refine g_iconst C 10 (-1 : Int32) dX4_part_10 (by decide) ?_
  refine g_ixor C 11 dX4_part_11 ?_
  refine g_iand C 12 dX4_part_12 ?_
  refine g_iast C 13 1 (fun z => [oB q_t 4 [.ref q_t_loads, .ref q_t_near, .ref q_t_ties, .int t_size, .int t_edges], aI cA q_t_near 14 z, aI cA q_t_ties 196 t_ties]) dX4_part_13 rfl (fun _ => rfl) hf (fun t_near_2 hf => ?_)
  refine g_aload_n C 14 0 dX4_part_14 rfl rfl ?_
  refine g_get C 15 0 1 dX4_part_15 inX4 rfl rfl (by decide) kw_51 rfl ?_
  refine g_iload_n C 18 2 dX4_part_18 rfl rfl ?_
  refine g_dup2 C 19 dX4_part_19 rfl rfl ?_
  refine g_iald C 20 1 dX4_part_20 rfl hf (fun v3 hf => ?_)
  refine g_iconst C 21 (1 : Int32) dX4_part_21 (by decide) ?_
  refine g_iload_n C 22 1 dX4_part_22 rfl rfl ?_
  refine g_ishl C 23 dX4_part_23 ?_
  refine g_iconst C 24 (-1 : Int32) dX4_part_24 (by decide) ?_
  refine g_ixor C 25 dX4_part_25 ?_
  refine g_iand C 26 dX4_part_26 ?_
  refine g_iast C 27 1 (fun z => [oB q_t 4 [.ref q_t_loads, .ref q_t_near, .ref q_t_ties, .int t_size, .int t_edges], aI cA q_t_near 14 z, aI cA q_t_ties 196 t_ties]) dX4_part_27 rfl (fun _ => rfl) hf (fun t_near_4 hf => ?_)
  refine g_aload_n C 28 0 dX4_part_28 rfl rfl ?_
  refine g_dup C 29 dX4_part_29 rfl ?_
  refine g_get C 30 0 4 dX4_part_30 inX4 rfl rfl (by decide) kw_99 rfl ?_
  refine g_iconst C 33 (1 : Int32) dX4_part_33 (by decide) ?_
  refine g_isub C 34 dX4_part_34 ?_
  refine g_puti C 35 0 4 tyX4 (fun z => [oB q_t 4 [.ref q_t_loads, .ref q_t_near, .ref q_t_ties, .int t_size, .int z], aI cA q_t_near 14 t_near_4, aI cA q_t_ties 196 t_ties]) dX4_part_35 inX4 tyX4_ok nmX4 rfl rfl (by decide) kw_99 rfl rfl (Nat.le_of_ble_eq_true rfl) (fun _ => rfl) hf (fun t_edges_5 hf => ?_)
  refine g_aload_n C 38 0 dX4_part_38 rfl rfl ?_
  refine g_get C 39 0 2 dX4_part_39 inX4 rfl rfl (by decide) kw_98 rfl ?_
  refine g_iload_n C 42 1 dX4_part_42 rfl rfl ?_
  refine g_bipush C 43 (14 : Int32) dX4_part_43 (by decide) ?_
  refine g_imul C 45 dX4_part_45 ?_
  refine g_iload_n C 46 2 dX4_part_46 rfl rfl ?_
  refine g_iadd C 47 dX4_part_47 ?_
  refine g_iald C 48 2 dX4_part_48 rfl hf (fun v6 hf => ?_)
  cases hf
  exact g_iret C 49 dX4_part_49 F hB

def L_X4_reached_20 (a1 : Int32) (a2 : Int32) (t_size : Int32) (t_near : Nat → Int32) (k_5 : Int32 → Int32 → Option (Int32)) : Nat → Int32 → Int32 → Int32 → Int32 → Option (Int32)
  | 0, _, _, _, _ => none
  | n + 1, x3, x4, x5, x6 =>
    if t_size ≤ x6 then
      if x5 = x3 then
        some (x3)
      else
        bnd x5 fun x3_5 =>
        bnd (x4 + (1 : Int32)) fun x4_6 =>
        k_5 x3_5 x4_6
    else
      cal (f_X8_hasBit x3 x6) fun u7 =>
      if u7 = 0 then
        bnd (x6 + (1 : Int32)) fun x6_8 =>
        L_X4_reached_20 a1 a2 t_size t_near k_5 n x3 x4 x5 x6_8
      else
        ldA t_near 14 x6 fun v9 =>
        bnd (x5 ||| (v9 &&& a2)) fun x5_10 =>
        bnd (x6 + (1 : Int32)) fun x6_11 =>
        L_X4_reached_20 a1 a2 t_size t_near k_5 n x3 x4 x5_10 x6_11

set_option maxRecDepth 100000 in
set_option maxHeartbeats 1000000 in
theorem w_X4_reached_20 (cA : Nat → ClassId) (q_t : Nat) (q_t_loads : Nat) (q_t_ties : Nat) (t_edges : Int32) (q_t_near : Nat) (a1 : Int32) (a2 : Int32) (t_size : Int32) (t_near : Nat → Int32) {X : XT}  (C : Cx X cX4_reached RX4 (some .int) cA 1 21 7) {kk nn : Nat} {BB : Option Value → va_W → Prop} (hk : kk ≤ (x_R X).cells ∧ nn ≤ (x_R X).slots) (F : Fx X BB kk nn) (r : Int32) (hB : BB (some (.int r)) [oB q_t 4 [.ref q_t_loads, .ref q_t_near, .ref q_t_ties, .int t_size, .int t_edges], aI cA q_t_near 14 t_near]) (k_5 : Int32 → Int32 → Option (Int32)) (h_5 : ∀ (x3 : Int32) (x4 : Int32), k_5 x3 x4 = some r → Go X 7 kk nn 5 [oB q_t 4 [.ref q_t_loads, .ref q_t_near, .ref q_t_ties, .int t_size, .int t_edges], aI cA q_t_near 14 t_near] [(0, .ref q_t), (2, .int a2), (3, .int x3), (4, .int x4)] []) : ∀ (n : Nat) (x3 : Int32) (x4 : Int32) (x5 : Int32) (x6 : Int32), L_X4_reached_20 a1 a2 t_size t_near k_5 n x3 x4 x5 x6 = some r → Go X 7 kk nn 20 [oB q_t 4 [.ref q_t_loads, .ref q_t_near, .ref q_t_ties, .int t_size, .int t_edges], aI cA q_t_near 14 t_near] [(0, .ref q_t), (2, .int a2), (3, .int x3), (4, .int x4), (5, .int x5), (6, .int x6)] [] := by
  intro n
  induction n with
  | zero => intro x3 x4 x5 x6 hf; exact no_some hf
  | succ n ih =>
    intro x3 x4 x5 x6 hf
    rw [L_X4_reached_20] at hf
    refine g_iload C 20 5 dX4_reached_20 rfl ?_
    refine g_aload_n C 22 0 dX4_reached_22 rfl rfl ?_
    refine g_get C 23 0 3 dX4_reached_23 inX4 rfl rfl (by decide) kw_45 rfl ?_
    refine g_icmp_ge C 26 58 dX4_reached_26 (by decide) hf (fun hf => ?_) (fun hf => ?_)
    · refine g_iload C 58 4 dX4_reached_58 rfl ?_
      refine g_iload_n C 60 2 dX4_reached_60 rfl rfl ?_
      refine g_icmp_ne C 61 67 dX4_reached_61 (by decide) hf (fun hf => ?_) (fun hf => ?_)
      · refine g_iload C 67 4 dX4_reached_67 rfl ?_
        refine g_istore_n C 69 (fun z => [(3, .int z), (0, .ref q_t), (2, .int a2), (4, .int x4), (5, .int x5), (6, .int x6)]) dX4_reached_69 rfl (by decide) (fun _ => rfl) hf (fun x3_5 hf => ?_)
        refine g_iinc C 70 3 (v := x4 + (1 : Int32)) (fun z => [(4, .int z), (3, .int x3_5), (0, .ref q_t), (2, .int a2), (5, .int x5), (6, .int x6)]) dX4_reached_70 rfl rfl (by decide) (fun _ => rfl) hf (fun x4_6 hf => ?_)
        refine g_goto C 73 5 dX4_reached_73 (by decide) ?_
        refine g_lv [2, 3, 1, 0] rfl ?_
        exact h_5 x3_5 x4_6 hf
      · refine g_goto C 64 76 dX4_reached_64 (by decide) ?_
        refine g_iload_n C 76 2 dX4_reached_76 rfl rfl ?_
        cases hf
        exact g_iret C 77 dX4_reached_77 F hB
    · refine g_iload_n C 29 2 dX4_reached_29 rfl rfl ?_
      refine g_iload C 30 5 dX4_reached_30 rfl ?_
      obtain ⟨u7, hu7, hf⟩ := cal_some hf
      refine g_callSN C 32 [] (rest := []) dX4_reached_32 (c_X8_hasBit (x_l X) cA x3 x6 u7 hu7) (List.mem_of_getElem? (i := 7) rfl) kw_5 kw_6 kw_7 ok_X8_hasBit ⟨Nat.le_of_ble_eq_true rfl, Nat.le_of_ble_eq_true rfl⟩ hk ⟨rfl, rfl⟩ rfl rfl rfl (Nat.le_of_ble_eq_true rfl) rfl (ws' := [oB q_t 4 [.ref q_t_loads, .ref q_t_near, .ref q_t_ties, .int t_size, .int t_edges], aI cA q_t_near 14 t_near]) (st' := [.int u7]) (N0 := 2) rfl [none, none] (by decide) rfl rfl ?_
      refine g_if_eq C 35 52 dX4_reached_35 (by decide) hf (fun hf => ?_) (fun hf => ?_)
      · refine g_iinc C 52 5 (v := x6 + (1 : Int32)) (fun z => [(6, .int z), (0, .ref q_t), (2, .int a2), (3, .int x3), (4, .int x4), (5, .int x5)]) dX4_reached_52 rfl rfl (by decide) (fun _ => rfl) hf (fun x6_8 hf => ?_)
        refine g_goto C 55 20 dX4_reached_55 (by decide) ?_
        refine g_lv [1, 2, 3, 4, 5, 0] rfl ?_
        exact ih x3 x4 x5 x6_8 hf
      · refine g_iload C 38 4 dX4_reached_38 rfl ?_
        refine g_aload_n C 40 0 dX4_reached_40 rfl rfl ?_
        refine g_get C 41 0 1 dX4_reached_41 inX4 rfl rfl (by decide) kw_51 rfl ?_
        refine g_iload C 44 5 dX4_reached_44 rfl ?_
        refine g_iald C 46 1 dX4_reached_46 rfl hf (fun v9 hf => ?_)
        refine g_iload_n C 47 1 dX4_reached_47 rfl rfl ?_
        refine g_iand C 48 dX4_reached_48 ?_
        refine g_ior C 49 dX4_reached_49 ?_
        refine g_istore C 50 (fun z => [(5, .int z), (0, .ref q_t), (2, .int a2), (3, .int x3), (4, .int x4), (6, .int x6)]) dX4_reached_50 (by decide) (fun _ => rfl) hf (fun x5_10 hf => ?_)
        refine g_iinc C 52 5 (v := x6 + (1 : Int32)) (fun z => [(6, .int z), (5, .int x5_10), (0, .ref q_t), (2, .int a2), (3, .int x3), (4, .int x4)]) dX4_reached_52 rfl rfl (by decide) (fun _ => rfl) hf (fun x6_11 hf => ?_)
        refine g_goto C 55 20 dX4_reached_55 (by decide) ?_
        refine g_lv [2, 3, 4, 5, 1, 0] rfl ?_
        exact ih x3 x4 x5_10 x6_11 hf
def L_X4_reached_5 (a1 : Int32) (a2 : Int32) (t_size : Int32) (t_near : Nat → Int32)  : Nat → Int32 → Int32 → Option (Int32)
  | 0, _, _ => none
  | n + 1, x3, x4 =>
    if t_size ≤ x4 then
      some (x3)
    else
      bnd x3 fun x5_3 =>
      bnd (0 : Int32) fun x6_4 =>
      L_X4_reached_20 a1 a2 t_size t_near (fun y0 y1 => L_X4_reached_5 a1 a2 t_size t_near n y0 y1) NN x3 x4 x5_3 x6_4

set_option maxRecDepth 100000 in
set_option maxHeartbeats 1000000 in
theorem w_X4_reached_5 (cA : Nat → ClassId) (q_t : Nat) (q_t_loads : Nat) (q_t_ties : Nat) (t_edges : Int32) (q_t_near : Nat) (a1 : Int32) (a2 : Int32) (t_size : Int32) (t_near : Nat → Int32) {X : XT}  (C : Cx X cX4_reached RX4 (some .int) cA 1 21 7) {kk nn : Nat} {BB : Option Value → va_W → Prop} (hk : kk ≤ (x_R X).cells ∧ nn ≤ (x_R X).slots) (F : Fx X BB kk nn) (r : Int32) (hB : BB (some (.int r)) [oB q_t 4 [.ref q_t_loads, .ref q_t_near, .ref q_t_ties, .int t_size, .int t_edges], aI cA q_t_near 14 t_near])  : ∀ (n : Nat) (x3 : Int32) (x4 : Int32), L_X4_reached_5 a1 a2 t_size t_near n x3 x4 = some r → Go X 7 kk nn 5 [oB q_t 4 [.ref q_t_loads, .ref q_t_near, .ref q_t_ties, .int t_size, .int t_edges], aI cA q_t_near 14 t_near] [(0, .ref q_t), (2, .int a2), (3, .int x3), (4, .int x4)] [] := by
  intro n
  induction n with
  | zero => intro x3 x4 hf; exact no_some hf
  | succ n ih =>
    intro x3 x4 hf
    rw [L_X4_reached_5] at hf
    refine g_iload C 5 3 dX4_reached_5 rfl ?_
    refine g_aload_n C 7 0 dX4_reached_7 rfl rfl ?_
    refine g_get C 8 0 3 dX4_reached_8 inX4 rfl rfl (by decide) kw_45 rfl ?_
    refine g_icmp_ge C 11 76 dX4_reached_11 (by decide) hf (fun hf => ?_) (fun hf => ?_)
    · refine g_iload_n C 76 2 dX4_reached_76 rfl rfl ?_
      cases hf
      exact g_iret C 77 dX4_reached_77 F hB
    · refine g_iload_n C 14 2 dX4_reached_14 rfl rfl ?_
      refine g_istore C 15 (fun z => [(5, .int z), (0, .ref q_t), (2, .int a2), (3, .int x3), (4, .int x4)]) dX4_reached_15 (by decide) (fun _ => rfl) hf (fun x5_3 hf => ?_)
      refine g_iconst C 17 (0 : Int32) dX4_reached_17 (by decide) ?_
      refine g_istore C 18 (fun z => [(6, .int z), (5, .int x5_3), (0, .ref q_t), (2, .int a2), (3, .int x3), (4, .int x4)]) dX4_reached_18 (by decide) (fun _ => rfl) hf (fun x6_4 hf => ?_)
      refine g_lv [2, 3, 4, 5, 1, 0] rfl ?_
      exact w_X4_reached_20 cA q_t q_t_loads q_t_ties t_edges q_t_near a1 a2 t_size t_near C hk F r hB (fun y0 y1 => L_X4_reached_5 a1 a2 t_size t_near n y0 y1) (fun y0 y1 hf => ih y0 y1 hf) NN x3 x4 x5_3 x6_4 hf
def f_X4_reached (a1 : Int32) (a2 : Int32) (t_size : Int32) (t_near : Nat → Int32) : Option (Int32) :=
  bnd a1 fun x3_1 =>
  bnd (0 : Int32) fun x4_2 =>
  L_X4_reached_5 a1 a2 t_size t_near NN x3_1 x4_2

set_option maxRecDepth 100000 in
set_option maxHeartbeats 1000000 in
theorem c_X4_reached (l : Launch) (cA : Nat → ClassId) (q_t : Nat) (q_t_loads : Nat) (q_t_ties : Nat) (t_size : Int32) (t_edges : Int32) (q_t_near : Nat) (t_near : Nat → Int32)  (a1 : Int32) (a2 : Int32) (r : Int32) (hf : f_X4_reached a1 a2 t_size t_near = some r) : MT l cA yX4_reached cX4_reached 7 (some .int) ({ frames := 1, cells := 0, slots := 0, locals := 21 } : Room) [.ref q_t, .int a1, .int a2] [oB q_t 4 [.ref q_t_loads, .ref q_t_near, .ref q_t_ties, .int t_size, .int t_edges], aI cA q_t_near 14 t_near] (sB (some (.int r)) [oB q_t 4 [.ref q_t_loads, .ref q_t_near, .ref q_t_ties, .int t_size, .int t_edges], aI cA q_t_near 14 t_near]) := by
  refine MT.of (by decide) (Nat.le_of_ble_eq_true rfl) ?_
  intro X hXl C F hnm hrc hrs
  subst hXl
  have hk : 0 ≤ (x_R X).cells ∧ 0 ≤ (x_R X).slots := ⟨Nat.zero_le _, Nat.zero_le _⟩
  have hB : (sB (some (.int r)) [oB q_t 4 [.ref q_t_loads, .ref q_t_near, .ref q_t_ties, .int t_size, .int t_edges], aI cA q_t_near 14 t_near]) (some (.int r)) [oB q_t 4 [.ref q_t_loads, .ref q_t_near, .ref q_t_ties, .int t_size, .int t_edges], aI cA q_t_near 14 t_near] := ⟨rfl, rfl⟩
  unfold f_X4_reached at hf
  have C : Cx X cX4_reached RX4 (some .int) cA 1 21 7 := C
  show Go X 7 0 0 0 [oB q_t 4 [.ref q_t_loads, .ref q_t_near, .ref q_t_ties, .int t_size, .int t_edges], aI cA q_t_near 14 t_near] [(0, .ref q_t), (1, .int a1), (2, .int a2)] []
  refine g_iload_n C 0 1 dX4_reached_0 rfl rfl ?_
  refine g_istore_n C 1 (fun z => [(3, .int z), (0, .ref q_t), (1, .int a1), (2, .int a2)]) dX4_reached_1 rfl (by decide) (fun _ => rfl) hf (fun x3_1 hf => ?_)
  refine g_iconst C 2 (0 : Int32) dX4_reached_2 (by decide) ?_
  refine g_istore C 3 (fun z => [(4, .int z), (3, .int x3_1), (0, .ref q_t), (1, .int a1), (2, .int a2)]) dX4_reached_3 (by decide) (fun _ => rfl) hf (fun x4_2 hf => ?_)
  refine g_lv [2, 4, 1, 0] rfl ?_
  exact w_X4_reached_5 cA q_t q_t_loads q_t_ties t_edges q_t_near a1 a2 t_size t_near C hk F r hB NN x3_1 x4_2 hf

def L_X4_largestPart_7 (a1 : Int32) (t_size : Int32) (t_near : Nat → Int32)  : Nat → Int32 → Int32 → Int32 → Option (Int32)
  | 0, _, _, _ => none
  | n + 1, x2, x3, x4 =>
    if t_size ≤ x4 then
      some (x3)
    else
      cal (f_X8_hasBit x2 x4) fun u4 =>
      if u4 = 0 then
        bnd (x4 + (1 : Int32)) fun x4_11 =>
        L_X4_largestPart_7 a1 t_size t_near n x2 x3 x4_11
      else
        cal (f_X4_reached ((1 : Int32) <<< (x4 &&& 31)) a1 t_size t_near) fun u5 =>
        bnd u5 fun x5_6 =>
        cal (f_J6_bitCount_0f7a4 x5_6) fun u7 =>
        bnd (if x3 < u7 then u7 else x3) fun x3_8 =>
        bnd (x2 &&& (x5_6 ^^^ (-1 : Int32))) fun x2_9 =>
        bnd (x4 + (1 : Int32)) fun x4_10 =>
        L_X4_largestPart_7 a1 t_size t_near n x2_9 x3_8 x4_10

set_option maxRecDepth 100000 in
set_option maxHeartbeats 1000000 in
theorem w_X4_largestPart_7 (cA : Nat → ClassId) (q_t : Nat) (q_t_loads : Nat) (q_t_ties : Nat) (t_edges : Int32) (q_t_near : Nat) (a1 : Int32) (t_size : Int32) (t_near : Nat → Int32) {X : XT}  (C : Cx X cX4_largestPart RX4 (some .int) cA 2 47 6) {kk nn : Nat} {BB : Option Value → va_W → Prop} (hk : kk ≤ (x_R X).cells ∧ nn ≤ (x_R X).slots) (F : Fx X BB kk nn) (r : Int32) (hB : BB (some (.int r)) [oB q_t 4 [.ref q_t_loads, .ref q_t_near, .ref q_t_ties, .int t_size, .int t_edges], aI cA q_t_near 14 t_near])  : ∀ (n : Nat) (x2 : Int32) (x3 : Int32) (x4 : Int32), L_X4_largestPart_7 a1 t_size t_near n x2 x3 x4 = some r → Go X 6 kk nn 7 [oB q_t 4 [.ref q_t_loads, .ref q_t_near, .ref q_t_ties, .int t_size, .int t_edges], aI cA q_t_near 14 t_near] [(0, .ref q_t), (1, .int a1), (2, .int x2), (3, .int x3), (4, .int x4)] [] := by
  intro n
  induction n with
  | zero => intro x2 x3 x4 hf; exact no_some hf
  | succ n ih =>
    intro x2 x3 x4 hf
    rw [L_X4_largestPart_7] at hf
    refine g_iload C 7 4 dX4_largestPart_7 rfl ?_
    refine g_aload_n C 9 0 dX4_largestPart_9 rfl rfl ?_
    refine g_get C 10 0 3 dX4_largestPart_10 inX4 rfl rfl (by decide) kw_45 rfl ?_
    refine g_icmp_ge C 13 62 dX4_largestPart_13 (by decide) hf (fun hf => ?_) (fun hf => ?_)
    · refine g_iload_n C 62 3 dX4_largestPart_62 rfl rfl ?_
      cases hf
      exact g_iret C 63 dX4_largestPart_63 F hB
    · refine g_iload_n C 16 2 dX4_largestPart_16 rfl rfl ?_
      refine g_iload C 17 4 dX4_largestPart_17 rfl ?_
      obtain ⟨u4, hu4, hf⟩ := cal_some hf
      refine g_callSN C 19 [] (rest := []) dX4_largestPart_19 (c_X8_hasBit (x_l X) cA x2 x4 u4 hu4) (List.mem_of_getElem? (i := 7) rfl) kw_5 kw_6 kw_7 ok_X8_hasBit ⟨Nat.le_of_ble_eq_true rfl, Nat.le_of_ble_eq_true rfl⟩ hk ⟨rfl, rfl⟩ rfl rfl rfl (Nat.le_of_ble_eq_true rfl) rfl (ws' := [oB q_t 4 [.ref q_t_loads, .ref q_t_near, .ref q_t_ties, .int t_size, .int t_edges], aI cA q_t_near 14 t_near]) (st' := [.int u4]) (N0 := 2) rfl [none, none] (by decide) rfl rfl ?_
      refine g_if_ne C 22 28 dX4_largestPart_22 (by decide) hf (fun hf => ?_) (fun hf => ?_)
      · refine g_aload_n C 28 0 dX4_largestPart_28 rfl rfl ?_
        refine g_iconst C 29 (1 : Int32) dX4_largestPart_29 (by decide) ?_
        refine g_iload C 30 4 dX4_largestPart_30 rfl ?_
        refine g_ishl C 32 dX4_largestPart_32 ?_
        refine g_iload_n C 33 1 dX4_largestPart_33 rfl rfl ?_
        obtain ⟨u5, hu5, hf⟩ := cal_some hf
        refine g_callV1 C 34 [0, 1] 0 (rest := []) dX4_largestPart_34 (c_X4_reached (x_l X) cA q_t q_t_loads q_t_ties t_size t_edges q_t_near t_near ((1 : Int32) <<< (x4 &&& 31)) a1 u5 hu5) kw_100 kw_101 kw_102 kw_49 kw_103 ok_X4_reached ⟨Nat.le_of_ble_eq_true rfl, Nat.le_of_ble_eq_true rfl⟩ hk ⟨rfl, rfl⟩ rfl rfl rfl rfl rfl (Nat.le_of_ble_eq_true rfl) rfl (ws' := [oB q_t 4 [.ref q_t_loads, .ref q_t_near, .ref q_t_ties, .int t_size, .int t_edges], aI cA q_t_near 14 t_near]) (st' := [.int u5]) (N0 := 2) rfl [some 0, some 1] (by decide) rfl rfl ?_
        refine g_istore C 37 (fun z => [(5, .int z), (0, .ref q_t), (1, .int a1), (2, .int x2), (3, .int x3), (4, .int x4)]) dX4_largestPart_37 (by decide) (fun _ => rfl) hf (fun x5_6 hf => ?_)
        refine g_iload_n C 39 4 dX4_largestPart_39 rfl rfl ?_
        refine g_iload C 40 0 dX4_largestPart_40 rfl ?_
        obtain ⟨u7, hu7, hf⟩ := cal_some hf
        refine g_callS C 42 [] (rest := [.int x3]) dX4_largestPart_42 (c_J6_bitCount_0f7a4 (x_l X) cA x5_6 u7 hu7) kw_104 kw_20 kw_21 kw_22 ok_J6_bitCount_0f7a4 ⟨Nat.le_of_ble_eq_true rfl, Nat.le_of_ble_eq_true rfl⟩ hk ⟨rfl, rfl⟩ rfl rfl rfl (Nat.le_of_ble_eq_true rfl) rfl (ws' := [oB q_t 4 [.ref q_t_loads, .ref q_t_near, .ref q_t_ties, .int t_size, .int t_edges], aI cA q_t_near 14 t_near]) (st' := [.int u7, .int x3]) (N0 := 2) rfl [none, none] (by decide) rfl rfl ?_
        refine g_max C 45 dX4_largestPart_45 kw_105 kw_37 kw_38 kw_39 (by decide) (Nat.le_of_ble_eq_true rfl) hk.1 hk.2 ?_
        refine g_istore_n C 48 (fun z => [(3, .int z), (5, .int x5_6), (0, .ref q_t), (1, .int a1), (2, .int x2), (4, .int x4)]) dX4_largestPart_48 rfl (by decide) (fun _ => rfl) hf (fun x3_8 hf => ?_)
        refine g_iload_n C 49 4 dX4_largestPart_49 rfl rfl ?_
        refine g_iload C 50 1 dX4_largestPart_50 rfl ?_
        refine g_iconst C 52 (-1 : Int32) dX4_largestPart_52 (by decide) ?_
        refine g_ixor C 53 dX4_largestPart_53 ?_
        refine g_iand C 54 dX4_largestPart_54 ?_
        refine g_istore_n C 55 (fun z => [(2, .int z), (3, .int x3_8), (5, .int x5_6), (0, .ref q_t), (1, .int a1), (4, .int x4)]) dX4_largestPart_55 rfl (by decide) (fun _ => rfl) hf (fun x2_9 hf => ?_)
        refine g_iinc C 56 5 (v := x4 + (1 : Int32)) (fun z => [(4, .int z), (2, .int x2_9), (3, .int x3_8), (5, .int x5_6), (0, .ref q_t), (1, .int a1)]) dX4_largestPart_56 rfl rfl (by decide) (fun _ => rfl) hf (fun x4_10 hf => ?_)
        refine g_goto C 59 7 dX4_largestPart_59 (by decide) ?_
        refine g_lv [4, 5, 1, 2, 0] rfl ?_
        exact ih x2_9 x3_8 x4_10 hf
      · refine g_goto C 25 56 dX4_largestPart_25 (by decide) ?_
        refine g_iinc C 56 4 (v := x4 + (1 : Int32)) (fun z => [(4, .int z), (0, .ref q_t), (1, .int a1), (2, .int x2), (3, .int x3)]) dX4_largestPart_56 rfl rfl (by decide) (fun _ => rfl) hf (fun x4_11 hf => ?_)
        refine g_goto C 59 7 dX4_largestPart_59 (by decide) ?_
        refine g_lv [1, 2, 3, 4, 0] rfl ?_
        exact ih x2 x3 x4_11 hf
def f_X4_largestPart (a1 : Int32) (t_size : Int32) (t_near : Nat → Int32) : Option (Int32) :=
  bnd a1 fun x2_1 =>
  bnd (0 : Int32) fun x3_2 =>
  bnd (0 : Int32) fun x4_3 =>
  L_X4_largestPart_7 a1 t_size t_near NN x2_1 x3_2 x4_3

set_option maxRecDepth 100000 in
set_option maxHeartbeats 1000000 in
theorem c_X4_largestPart (l : Launch) (cA : Nat → ClassId) (q_t : Nat) (q_t_loads : Nat) (q_t_ties : Nat) (t_size : Int32) (t_edges : Int32) (q_t_near : Nat) (t_near : Nat → Int32)  (a1 : Int32) (r : Int32) (hf : f_X4_largestPart a1 t_size t_near = some r) : MT l cA yX4_largestPart cX4_largestPart 6 (some .int) ({ frames := 2, cells := 0, slots := 0, locals := 47 } : Room) [.ref q_t, .int a1] [oB q_t 4 [.ref q_t_loads, .ref q_t_near, .ref q_t_ties, .int t_size, .int t_edges], aI cA q_t_near 14 t_near] (sB (some (.int r)) [oB q_t 4 [.ref q_t_loads, .ref q_t_near, .ref q_t_ties, .int t_size, .int t_edges], aI cA q_t_near 14 t_near]) := by
  refine MT.of (by decide) (Nat.le_of_ble_eq_true rfl) ?_
  intro X hXl C F hnm hrc hrs
  subst hXl
  have hk : 0 ≤ (x_R X).cells ∧ 0 ≤ (x_R X).slots := ⟨Nat.zero_le _, Nat.zero_le _⟩
  have hB : (sB (some (.int r)) [oB q_t 4 [.ref q_t_loads, .ref q_t_near, .ref q_t_ties, .int t_size, .int t_edges], aI cA q_t_near 14 t_near]) (some (.int r)) [oB q_t 4 [.ref q_t_loads, .ref q_t_near, .ref q_t_ties, .int t_size, .int t_edges], aI cA q_t_near 14 t_near] := ⟨rfl, rfl⟩
  unfold f_X4_largestPart at hf
  have C : Cx X cX4_largestPart RX4 (some .int) cA 2 47 6 := C
  show Go X 6 0 0 0 [oB q_t 4 [.ref q_t_loads, .ref q_t_near, .ref q_t_ties, .int t_size, .int t_edges], aI cA q_t_near 14 t_near] [(0, .ref q_t), (1, .int a1)] []
  refine g_iload_n C 0 1 dX4_largestPart_0 rfl rfl ?_
  refine g_istore_n C 1 (fun z => [(2, .int z), (0, .ref q_t), (1, .int a1)]) dX4_largestPart_1 rfl (by decide) (fun _ => rfl) hf (fun x2_1 hf => ?_)
  refine g_iconst C 2 (0 : Int32) dX4_largestPart_2 (by decide) ?_
  refine g_istore_n C 3 (fun z => [(3, .int z), (2, .int x2_1), (0, .ref q_t), (1, .int a1)]) dX4_largestPart_3 rfl (by decide) (fun _ => rfl) hf (fun x3_2 hf => ?_)
  refine g_iconst C 4 (0 : Int32) dX4_largestPart_4 (by decide) ?_
  refine g_istore C 5 (fun z => [(4, .int z), (3, .int x3_2), (2, .int x2_1), (0, .ref q_t), (1, .int a1)]) dX4_largestPart_5 (by decide) (fun _ => rfl) hf (fun x4_3 hf => ?_)
  refine g_lv [3, 4, 2, 1, 0] rfl ?_
  exact w_X4_largestPart_7 cA q_t q_t_loads q_t_ties t_edges q_t_near a1 t_size t_near C hk F r hB NN x2_1 x3_2 x4_3 hf
