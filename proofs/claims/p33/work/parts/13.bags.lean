theorem dX0_has_0 : decode cX0_has 0 = .ok (.iload_n 1, 1) := by decide +kernel
theorem dX0_has_1 : decode cX0_has 1 = .ok (.ifCond .lt 15, 3) := by decide +kernel
theorem dX0_has_4 : decode cX0_has 4 = .ok (.iload_n 1, 1) := by decide +kernel
theorem dX0_has_5 : decode cX0_has 5 = .ok (.aload_n 0, 1) := by decide +kernel
theorem dX0_has_6 : decode cX0_has 6 = .ok (.getfield 18, 3) := by decide +kernel
theorem dX0_has_9 : decode cX0_has 9 = .ok (.if_icmp .ge 7, 3) := by decide +kernel
theorem dX0_has_12 : decode cX0_has 12 = .ok (.iconst 1, 1) := by decide +kernel
theorem dX0_has_13 : decode cX0_has 13 = .ok (.goto 4, 3) := by decide +kernel
theorem dX0_has_16 : decode cX0_has 16 = .ok (.iconst 0, 1) := by decide +kernel
theorem dX0_has_17 : decode cX0_has 17 = .ok (.ireturn, 1) := by decide +kernel
theorem dX0_empty_0 : decode cX0_empty 0 = .ok (.aload_n 0, 1) := by decide +kernel
theorem dX0_empty_1 : decode cX0_empty 1 = .ok (.iconst 0, 1) := by decide +kernel
theorem dX0_empty_2 : decode cX0_empty 2 = .ok (.putfield 18, 3) := by decide +kernel
theorem dX0_empty_5 : decode cX0_empty 5 = .ok (.return_, 1) := by decide +kernel
theorem dX0_append_0 : decode cX0_append 0 = .ok (.aload_n 0, 1) := by decide +kernel
theorem dX0_append_1 : decode cX0_append 1 = .ok (.getfield 18, 3) := by decide +kernel
theorem dX0_append_4 : decode cX0_append 4 = .ok (.ifCond .le 18, 3) := by decide +kernel
theorem dX0_append_7 : decode cX0_append 7 = .ok (.aload_n 0, 1) := by decide +kernel
theorem dX0_append_8 : decode cX0_append 8 = .ok (.getfield 15, 3) := by decide +kernel
theorem dX0_append_11 : decode cX0_append 11 = .ok (.aload_n 0, 1) := by decide +kernel
theorem dX0_append_12 : decode cX0_append 12 = .ok (.getfield 18, 3) := by decide +kernel
theorem dX0_append_15 : decode cX0_append 15 = .ok (.iconst 1, 1) := by decide +kernel
theorem dX0_append_16 : decode cX0_append 16 = .ok (.isub, 1) := by decide +kernel
theorem dX0_append_17 : decode cX0_append 17 = .ok (.aload_n 0, 1) := by decide +kernel
theorem dX0_append_18 : decode cX0_append 18 = .ok (.getfield 18, 3) := by decide +kernel
theorem dX0_append_21 : decode cX0_append 21 = .ok (.iastore, 1) := by decide +kernel
theorem dX0_append_22 : decode cX0_append 22 = .ok (.aload_n 0, 1) := by decide +kernel
theorem dX0_append_23 : decode cX0_append 23 = .ok (.getfield 9, 3) := by decide +kernel
theorem dX0_append_26 : decode cX0_append 26 = .ok (.aload_n 0, 1) := by decide +kernel
theorem dX0_append_27 : decode cX0_append 27 = .ok (.getfield 18, 3) := by decide +kernel
theorem dX0_append_30 : decode cX0_append 30 = .ok (.iload_n 1, 1) := by decide +kernel
theorem dX0_append_31 : decode cX0_append 31 = .ok (.iastore, 1) := by decide +kernel
theorem dX0_append_32 : decode cX0_append 32 = .ok (.aload_n 0, 1) := by decide +kernel
theorem dX0_append_33 : decode cX0_append 33 = .ok (.getfield 15, 3) := by decide +kernel
theorem dX0_append_36 : decode cX0_append 36 = .ok (.aload_n 0, 1) := by decide +kernel
theorem dX0_append_37 : decode cX0_append 37 = .ok (.getfield 18, 3) := by decide +kernel
theorem dX0_append_40 : decode cX0_append 40 = .ok (.iconst (-1), 1) := by decide +kernel
theorem dX0_append_41 : decode cX0_append 41 = .ok (.iastore, 1) := by decide +kernel
theorem dX0_append_42 : decode cX0_append 42 = .ok (.aload_n 0, 1) := by decide +kernel
theorem dX0_append_43 : decode cX0_append 43 = .ok (.dup, 1) := by decide +kernel
theorem dX0_append_44 : decode cX0_append 44 = .ok (.getfield 18, 3) := by decide +kernel
theorem dX0_append_47 : decode cX0_append 47 = .ok (.iconst 1, 1) := by decide +kernel
theorem dX0_append_48 : decode cX0_append 48 = .ok (.iadd, 1) := by decide +kernel
theorem dX0_append_49 : decode cX0_append 49 = .ok (.putfield 18, 3) := by decide +kernel
theorem dX0_append_52 : decode cX0_append 52 = .ok (.aload_n 0, 1) := by decide +kernel
theorem dX0_append_53 : decode cX0_append 53 = .ok (.getfield 18, 3) := by decide +kernel
theorem dX0_append_56 : decode cX0_append 56 = .ok (.iconst 1, 1) := by decide +kernel
theorem dX0_append_57 : decode cX0_append 57 = .ok (.isub, 1) := by decide +kernel
theorem dX0_append_58 : decode cX0_append 58 = .ok (.ireturn, 1) := by decide +kernel
theorem dX0_takeApart_0 : decode cX0_takeApart 0 = .ok (.aload_n 0, 1) := by decide +kernel
theorem dX0_takeApart_1 : decode cX0_takeApart 1 = .ok (.aload_n 1, 1) := by decide +kernel
theorem dX0_takeApart_2 : decode cX0_takeApart 2 = .ok (.getfield 22, 3) := by decide +kernel
theorem dX0_takeApart_5 : decode cX0_takeApart 5 = .ok (.putfield 18, 3) := by decide +kernel
theorem dX0_takeApart_8 : decode cX0_takeApart 8 = .ok (.iconst 0, 1) := by decide +kernel
theorem dX0_takeApart_9 : decode cX0_takeApart 9 = .ok (.istore_n 3, 1) := by decide +kernel
theorem dX0_takeApart_10 : decode cX0_takeApart 10 = .ok (.iload_n 3, 1) := by decide +kernel
theorem dX0_takeApart_11 : decode cX0_takeApart 11 = .ok (.aload_n 0, 1) := by decide +kernel
theorem dX0_takeApart_12 : decode cX0_takeApart 12 = .ok (.getfield 18, 3) := by decide +kernel
theorem dX0_takeApart_15 : decode cX0_takeApart 15 = .ok (.if_icmp .ge 58, 3) := by decide +kernel
theorem dX0_takeApart_18 : decode cX0_takeApart 18 = .ok (.aload_n 1, 1) := by decide +kernel
theorem dX0_takeApart_19 : decode cX0_takeApart 19 = .ok (.getfield 25, 3) := by decide +kernel
theorem dX0_takeApart_22 : decode cX0_takeApart 22 = .ok (.iload_n 3, 1) := by decide +kernel
theorem dX0_takeApart_23 : decode cX0_takeApart 23 = .ok (.iaload, 1) := by decide +kernel
theorem dX0_takeApart_24 : decode cX0_takeApart 24 = .ok (.istore 4, 2) := by decide +kernel
theorem dX0_takeApart_26 : decode cX0_takeApart 26 = .ok (.aload_n 2, 1) := by decide +kernel
theorem dX0_takeApart_27 : decode cX0_takeApart 27 = .ok (.getfield 28, 3) := by decide +kernel
theorem dX0_takeApart_30 : decode cX0_takeApart 30 = .ok (.iload 4, 2) := by decide +kernel
theorem dX0_takeApart_32 : decode cX0_takeApart 32 = .ok (.iaload, 1) := by decide +kernel
theorem dX0_takeApart_33 : decode cX0_takeApart 33 = .ok (.istore 5, 2) := by decide +kernel
theorem dX0_takeApart_35 : decode cX0_takeApart 35 = .ok (.aload_n 0, 1) := by decide +kernel
theorem dX0_takeApart_36 : decode cX0_takeApart 36 = .ok (.getfield 9, 3) := by decide +kernel
theorem dX0_takeApart_39 : decode cX0_takeApart 39 = .ok (.iload_n 3, 1) := by decide +kernel
theorem dX0_takeApart_40 : decode cX0_takeApart 40 = .ok (.iload 5, 2) := by decide +kernel
theorem dX0_takeApart_42 : decode cX0_takeApart 42 = .ok (.iconst 1, 1) := by decide +kernel
theorem dX0_takeApart_43 : decode cX0_takeApart 43 = .ok (.iload 4, 2) := by decide +kernel
theorem dX0_takeApart_45 : decode cX0_takeApart 45 = .ok (.ishl, 1) := by decide +kernel
theorem dX0_takeApart_46 : decode cX0_takeApart 46 = .ok (.ior, 1) := by decide +kernel
theorem dX0_takeApart_47 : decode cX0_takeApart 47 = .ok (.iastore, 1) := by decide +kernel
theorem dX0_takeApart_48 : decode cX0_takeApart 48 = .ok (.aload_n 0, 1) := by decide +kernel
theorem dX0_takeApart_49 : decode cX0_takeApart 49 = .ok (.getfield 15, 3) := by decide +kernel
theorem dX0_takeApart_52 : decode cX0_takeApart 52 = .ok (.iload_n 3, 1) := by decide +kernel
theorem dX0_takeApart_53 : decode cX0_takeApart 53 = .ok (.aload_n 1, 1) := by decide +kernel
theorem dX0_takeApart_54 : decode cX0_takeApart 54 = .ok (.iload_n 3, 1) := by decide +kernel
theorem dX0_takeApart_55 : decode cX0_takeApart 55 = .ok (.iload 5, 2) := by decide +kernel
theorem dX0_takeApart_57 : decode cX0_takeApart 57 = .ok (.invokevirtual 33, 3) := by decide +kernel
theorem dX0_takeApart_60 : decode cX0_takeApart 60 = .ok (.iastore, 1) := by decide +kernel
theorem dX0_takeApart_61 : decode cX0_takeApart 61 = .ok (.aload_n 2, 1) := by decide +kernel
theorem dX0_takeApart_62 : decode cX0_takeApart 62 = .ok (.iload 4, 2) := by decide +kernel
theorem dX0_takeApart_64 : decode cX0_takeApart 64 = .ok (.invokevirtual 37, 3) := by decide +kernel
theorem dX0_takeApart_67 : decode cX0_takeApart 67 = .ok (.iinc 3 1, 3) := by decide +kernel
theorem dX0_takeApart_70 : decode cX0_takeApart 70 = .ok (.goto (-60), 3) := by decide +kernel
theorem dX0_takeApart_73 : decode cX0_takeApart 73 = .ok (.return_, 1) := by decide +kernel
theorem dX0_mostKnots_0 : decode cX0_mostKnots 0 = .ok (.iconst 0, 1) := by decide +kernel
theorem dX0_mostKnots_1 : decode cX0_mostKnots 1 = .ok (.istore_n 1, 1) := by decide +kernel
theorem dX0_mostKnots_2 : decode cX0_mostKnots 2 = .ok (.iconst 0, 1) := by decide +kernel
theorem dX0_mostKnots_3 : decode cX0_mostKnots 3 = .ok (.istore_n 2, 1) := by decide +kernel
theorem dX0_mostKnots_4 : decode cX0_mostKnots 4 = .ok (.iload_n 2, 1) := by decide +kernel
theorem dX0_mostKnots_5 : decode cX0_mostKnots 5 = .ok (.aload_n 0, 1) := by decide +kernel
theorem dX0_mostKnots_6 : decode cX0_mostKnots 6 = .ok (.getfield 18, 3) := by decide +kernel
theorem dX0_mostKnots_9 : decode cX0_mostKnots 9 = .ok (.if_icmp .ge 23, 3) := by decide +kernel
theorem dX0_mostKnots_12 : decode cX0_mostKnots 12 = .ok (.iload_n 1, 1) := by decide +kernel
theorem dX0_mostKnots_13 : decode cX0_mostKnots 13 = .ok (.aload_n 0, 1) := by decide +kernel
theorem dX0_mostKnots_14 : decode cX0_mostKnots 14 = .ok (.getfield 9, 3) := by decide +kernel
theorem dX0_mostKnots_17 : decode cX0_mostKnots 17 = .ok (.iload_n 2, 1) := by decide +kernel
theorem dX0_mostKnots_18 : decode cX0_mostKnots 18 = .ok (.iaload, 1) := by decide +kernel
theorem dX0_mostKnots_19 : decode cX0_mostKnots 19 = .ok (.invokestatic 41, 3) := by decide +kernel
theorem dX0_mostKnots_22 : decode cX0_mostKnots 22 = .ok (.invokestatic 47, 3) := by decide +kernel
theorem dX0_mostKnots_25 : decode cX0_mostKnots 25 = .ok (.istore_n 1, 1) := by decide +kernel
theorem dX0_mostKnots_26 : decode cX0_mostKnots 26 = .ok (.iinc 2 1, 3) := by decide +kernel
theorem dX0_mostKnots_29 : decode cX0_mostKnots 29 = .ok (.goto (-25), 3) := by decide +kernel
theorem dX0_mostKnots_32 : decode cX0_mostKnots 32 = .ok (.iload_n 1, 1) := by decide +kernel
theorem dX0_mostKnots_33 : decode cX0_mostKnots 33 = .ok (.ireturn, 1) := by decide +kernel
theorem dX0_hangingOn_0 : decode cX0_hangingOn 0 = .ok (.iconst 0, 1) := by decide +kernel
theorem dX0_hangingOn_1 : decode cX0_hangingOn 1 = .ok (.istore_n 2, 1) := by decide +kernel
theorem dX0_hangingOn_2 : decode cX0_hangingOn 2 = .ok (.iconst 0, 1) := by decide +kernel
theorem dX0_hangingOn_3 : decode cX0_hangingOn 3 = .ok (.istore_n 3, 1) := by decide +kernel
theorem dX0_hangingOn_4 : decode cX0_hangingOn 4 = .ok (.iload_n 3, 1) := by decide +kernel
theorem dX0_hangingOn_5 : decode cX0_hangingOn 5 = .ok (.aload_n 0, 1) := by decide +kernel
theorem dX0_hangingOn_6 : decode cX0_hangingOn 6 = .ok (.getfield 18, 3) := by decide +kernel
theorem dX0_hangingOn_9 : decode cX0_hangingOn 9 = .ok (.if_icmp .ge 22, 3) := by decide +kernel
theorem dX0_hangingOn_12 : decode cX0_hangingOn 12 = .ok (.aload_n 0, 1) := by decide +kernel
theorem dX0_hangingOn_13 : decode cX0_hangingOn 13 = .ok (.getfield 15, 3) := by decide +kernel
theorem dX0_hangingOn_16 : decode cX0_hangingOn 16 = .ok (.iload_n 3, 1) := by decide +kernel
theorem dX0_hangingOn_17 : decode cX0_hangingOn 17 = .ok (.iaload, 1) := by decide +kernel
theorem dX0_hangingOn_18 : decode cX0_hangingOn 18 = .ok (.iload_n 1, 1) := by decide +kernel
theorem dX0_hangingOn_19 : decode cX0_hangingOn 19 = .ok (.if_icmp .ne 6, 3) := by decide +kernel
theorem dX0_hangingOn_22 : decode cX0_hangingOn 22 = .ok (.iinc 2 1, 3) := by decide +kernel
theorem dX0_hangingOn_25 : decode cX0_hangingOn 25 = .ok (.iinc 3 1, 3) := by decide +kernel
theorem dX0_hangingOn_28 : decode cX0_hangingOn 28 = .ok (.goto (-24), 3) := by decide +kernel
theorem dX0_hangingOn_31 : decode cX0_hangingOn 31 = .ok (.iload_n 2, 1) := by decide +kernel
theorem dX0_hangingOn_32 : decode cX0_hangingOn 32 = .ok (.ireturn, 1) := by decide +kernel
theorem dX0_endingIn_0 : decode cX0_endingIn 0 = .ok (.aload_n 0, 1) := by decide +kernel
theorem dX0_endingIn_1 : decode cX0_endingIn 1 = .ok (.getfield 15, 3) := by decide +kernel
theorem dX0_endingIn_4 : decode cX0_endingIn 4 = .ok (.iload_n 1, 1) := by decide +kernel
theorem dX0_endingIn_5 : decode cX0_endingIn 5 = .ok (.iaload, 1) := by decide +kernel
theorem dX0_endingIn_6 : decode cX0_endingIn 6 = .ok (.istore_n 2, 1) := by decide +kernel
theorem dX0_endingIn_7 : decode cX0_endingIn 7 = .ok (.aload_n 0, 1) := by decide +kernel
theorem dX0_endingIn_8 : decode cX0_endingIn 8 = .ok (.iload_n 2, 1) := by decide +kernel
theorem dX0_endingIn_9 : decode cX0_endingIn 9 = .ok (.invokevirtual 52, 3) := by decide +kernel
theorem dX0_endingIn_12 : decode cX0_endingIn 12 = .ok (.ifCond .eq 21, 3) := by decide +kernel
theorem dX0_endingIn_15 : decode cX0_endingIn 15 = .ok (.aload_n 0, 1) := by decide +kernel
theorem dX0_endingIn_16 : decode cX0_endingIn 16 = .ok (.getfield 9, 3) := by decide +kernel
theorem dX0_endingIn_19 : decode cX0_endingIn 19 = .ok (.iload_n 1, 1) := by decide +kernel
theorem dX0_endingIn_20 : decode cX0_endingIn 20 = .ok (.iaload, 1) := by decide +kernel
theorem dX0_endingIn_21 : decode cX0_endingIn 21 = .ok (.aload_n 0, 1) := by decide +kernel
theorem dX0_endingIn_22 : decode cX0_endingIn 22 = .ok (.getfield 9, 3) := by decide +kernel
theorem dX0_endingIn_25 : decode cX0_endingIn 25 = .ok (.iload_n 2, 1) := by decide +kernel
theorem dX0_endingIn_26 : decode cX0_endingIn 26 = .ok (.iaload, 1) := by decide +kernel
theorem dX0_endingIn_27 : decode cX0_endingIn 27 = .ok (.iconst (-1), 1) := by decide +kernel
theorem dX0_endingIn_28 : decode cX0_endingIn 28 = .ok (.ixor, 1) := by decide +kernel
theorem dX0_endingIn_29 : decode cX0_endingIn 29 = .ok (.iand, 1) := by decide +kernel
theorem dX0_endingIn_30 : decode cX0_endingIn 30 = .ok (.goto 9, 3) := by decide +kernel
theorem dX0_endingIn_33 : decode cX0_endingIn 33 = .ok (.aload_n 0, 1) := by decide +kernel
theorem dX0_endingIn_34 : decode cX0_endingIn 34 = .ok (.getfield 9, 3) := by decide +kernel
theorem dX0_endingIn_37 : decode cX0_endingIn 37 = .ok (.iload_n 1, 1) := by decide +kernel
theorem dX0_endingIn_38 : decode cX0_endingIn 38 = .ok (.iaload, 1) := by decide +kernel
theorem dX0_endingIn_39 : decode cX0_endingIn 39 = .ok (.ireturn, 1) := by decide +kernel
theorem dX0_matesOf_0 : decode cX0_matesOf 0 = .ok (.iconst 0, 1) := by decide +kernel
theorem dX0_matesOf_1 : decode cX0_matesOf 1 = .ok (.istore_n 2, 1) := by decide +kernel
theorem dX0_matesOf_2 : decode cX0_matesOf 2 = .ok (.iconst 0, 1) := by decide +kernel
theorem dX0_matesOf_3 : decode cX0_matesOf 3 = .ok (.istore_n 3, 1) := by decide +kernel
theorem dX0_matesOf_4 : decode cX0_matesOf 4 = .ok (.iload_n 3, 1) := by decide +kernel
theorem dX0_matesOf_5 : decode cX0_matesOf 5 = .ok (.aload_n 0, 1) := by decide +kernel
theorem dX0_matesOf_6 : decode cX0_matesOf 6 = .ok (.getfield 18, 3) := by decide +kernel
theorem dX0_matesOf_9 : decode cX0_matesOf 9 = .ok (.if_icmp .ge 31, 3) := by decide +kernel
theorem dX0_matesOf_12 : decode cX0_matesOf 12 = .ok (.aload_n 0, 1) := by decide +kernel
theorem dX0_matesOf_13 : decode cX0_matesOf 13 = .ok (.getfield 9, 3) := by decide +kernel
theorem dX0_matesOf_16 : decode cX0_matesOf 16 = .ok (.iload_n 3, 1) := by decide +kernel
theorem dX0_matesOf_17 : decode cX0_matesOf 17 = .ok (.iaload, 1) := by decide +kernel
theorem dX0_matesOf_18 : decode cX0_matesOf 18 = .ok (.iload_n 1, 1) := by decide +kernel
theorem dX0_matesOf_19 : decode cX0_matesOf 19 = .ok (.invokestatic 56, 3) := by decide +kernel
theorem dX0_matesOf_22 : decode cX0_matesOf 22 = .ok (.ifCond .eq 12, 3) := by decide +kernel
theorem dX0_matesOf_25 : decode cX0_matesOf 25 = .ok (.iload_n 2, 1) := by decide +kernel
theorem dX0_matesOf_26 : decode cX0_matesOf 26 = .ok (.aload_n 0, 1) := by decide +kernel
theorem dX0_matesOf_27 : decode cX0_matesOf 27 = .ok (.getfield 9, 3) := by decide +kernel
theorem dX0_matesOf_30 : decode cX0_matesOf 30 = .ok (.iload_n 3, 1) := by decide +kernel
theorem dX0_matesOf_31 : decode cX0_matesOf 31 = .ok (.iaload, 1) := by decide +kernel
theorem dX0_matesOf_32 : decode cX0_matesOf 32 = .ok (.ior, 1) := by decide +kernel
theorem dX0_matesOf_33 : decode cX0_matesOf 33 = .ok (.istore_n 2, 1) := by decide +kernel
theorem dX0_matesOf_34 : decode cX0_matesOf 34 = .ok (.iinc 3 1, 3) := by decide +kernel
theorem dX0_matesOf_37 : decode cX0_matesOf 37 = .ok (.goto (-33), 3) := by decide +kernel
theorem dX0_matesOf_40 : decode cX0_matesOf 40 = .ok (.iload_n 2, 1) := by decide +kernel
theorem dX0_matesOf_41 : decode cX0_matesOf 41 = .ok (.ireturn, 1) := by decide +kernel
theorem dX0_fault_0 : decode cX0_fault 0 = .ok (.aload_n 0, 1) := by decide +kernel
theorem dX0_fault_1 : decode cX0_fault 1 = .ok (.aload_n 1, 1) := by decide +kernel
theorem dX0_fault_2 : decode cX0_fault 2 = .ok (.invokevirtual 60, 3) := by decide +kernel
theorem dX0_fault_5 : decode cX0_fault 5 = .ok (.istore_n 2, 1) := by decide +kernel
theorem dX0_fault_6 : decode cX0_fault 6 = .ok (.iload_n 2, 1) := by decide +kernel
theorem dX0_fault_7 : decode cX0_fault 7 = .ok (.ifCond .ne 9, 3) := by decide +kernel
theorem dX0_fault_10 : decode cX0_fault 10 = .ok (.aload_n 0, 1) := by decide +kernel
theorem dX0_fault_11 : decode cX0_fault 11 = .ok (.aload_n 1, 1) := by decide +kernel
theorem dX0_fault_12 : decode cX0_fault 12 = .ok (.invokevirtual 64, 3) := by decide +kernel
theorem dX0_fault_15 : decode cX0_fault 15 = .ok (.istore_n 2, 1) := by decide +kernel
theorem dX0_fault_16 : decode cX0_fault 16 = .ok (.iload_n 2, 1) := by decide +kernel
theorem dX0_fault_17 : decode cX0_fault 17 = .ok (.ifCond .ne 9, 3) := by decide +kernel
theorem dX0_fault_20 : decode cX0_fault 20 = .ok (.aload_n 0, 1) := by decide +kernel
theorem dX0_fault_21 : decode cX0_fault 21 = .ok (.aload_n 1, 1) := by decide +kernel
theorem dX0_fault_22 : decode cX0_fault 22 = .ok (.invokevirtual 67, 3) := by decide +kernel
theorem dX0_fault_25 : decode cX0_fault 25 = .ok (.istore_n 2, 1) := by decide +kernel
theorem dX0_fault_26 : decode cX0_fault 26 = .ok (.iload_n 2, 1) := by decide +kernel
theorem dX0_fault_27 : decode cX0_fault 27 = .ok (.ireturn, 1) := by decide +kernel
theorem dX0_looseEdge_0 : decode cX0_looseEdge 0 = .ok (.iconst 0, 1) := by decide +kernel
theorem dX0_looseEdge_1 : decode cX0_looseEdge 1 = .ok (.istore_n 2, 1) := by decide +kernel
theorem dX0_looseEdge_2 : decode cX0_looseEdge 2 = .ok (.iload_n 2, 1) := by decide +kernel
theorem dX0_looseEdge_3 : decode cX0_looseEdge 3 = .ok (.aload_n 1, 1) := by decide +kernel
theorem dX0_looseEdge_4 : decode cX0_looseEdge 4 = .ok (.getfield 70, 3) := by decide +kernel
theorem dX0_looseEdge_7 : decode cX0_looseEdge 7 = .ok (.if_icmp .ge 59, 3) := by decide +kernel
theorem dX0_looseEdge_10 : decode cX0_looseEdge 10 = .ok (.iload_n 2, 1) := by decide +kernel
theorem dX0_looseEdge_11 : decode cX0_looseEdge 11 = .ok (.iconst 1, 1) := by decide +kernel
theorem dX0_looseEdge_12 : decode cX0_looseEdge 12 = .ok (.iadd, 1) := by decide +kernel
theorem dX0_looseEdge_13 : decode cX0_looseEdge 13 = .ok (.istore_n 3, 1) := by decide +kernel
theorem dX0_looseEdge_14 : decode cX0_looseEdge 14 = .ok (.iload_n 3, 1) := by decide +kernel
theorem dX0_looseEdge_15 : decode cX0_looseEdge 15 = .ok (.aload_n 1, 1) := by decide +kernel
theorem dX0_looseEdge_16 : decode cX0_looseEdge 16 = .ok (.getfield 70, 3) := by decide +kernel
theorem dX0_looseEdge_19 : decode cX0_looseEdge 19 = .ok (.if_icmp .ge 41, 3) := by decide +kernel
theorem dX0_looseEdge_22 : decode cX0_looseEdge 22 = .ok (.aload_n 1, 1) := by decide +kernel
theorem dX0_looseEdge_23 : decode cX0_looseEdge 23 = .ok (.iload_n 2, 1) := by decide +kernel
theorem dX0_looseEdge_24 : decode cX0_looseEdge 24 = .ok (.iload_n 3, 1) := by decide +kernel
theorem dX0_looseEdge_25 : decode cX0_looseEdge 25 = .ok (.invokevirtual 73, 3) := by decide +kernel
theorem dX0_looseEdge_28 : decode cX0_looseEdge 28 = .ok (.ifCond .eq 26, 3) := by decide +kernel
theorem dX0_looseEdge_31 : decode cX0_looseEdge 31 = .ok (.aload_n 0, 1) := by decide +kernel
theorem dX0_looseEdge_32 : decode cX0_looseEdge 32 = .ok (.iconst 1, 1) := by decide +kernel
theorem dX0_looseEdge_33 : decode cX0_looseEdge 33 = .ok (.iload_n 2, 1) := by decide +kernel
theorem dX0_looseEdge_34 : decode cX0_looseEdge 34 = .ok (.ishl, 1) := by decide +kernel
theorem dX0_looseEdge_35 : decode cX0_looseEdge 35 = .ok (.iconst 1, 1) := by decide +kernel
theorem dX0_looseEdge_36 : decode cX0_looseEdge 36 = .ok (.iload_n 3, 1) := by decide +kernel
theorem dX0_looseEdge_37 : decode cX0_looseEdge 37 = .ok (.ishl, 1) := by decide +kernel
theorem dX0_looseEdge_38 : decode cX0_looseEdge 38 = .ok (.ior, 1) := by decide +kernel
theorem dX0_looseEdge_39 : decode cX0_looseEdge 39 = .ok (.invokevirtual 76, 3) := by decide +kernel
theorem dX0_looseEdge_42 : decode cX0_looseEdge 42 = .ok (.ifCond .ne 12, 3) := by decide +kernel
theorem dX0_looseEdge_45 : decode cX0_looseEdge 45 = .ok (.iconst 1, 1) := by decide +kernel
theorem dX0_looseEdge_46 : decode cX0_looseEdge 46 = .ok (.bipush 16, 2) := by decide +kernel
theorem dX0_looseEdge_48 : decode cX0_looseEdge 48 = .ok (.iload_n 2, 1) := by decide +kernel
theorem dX0_looseEdge_49 : decode cX0_looseEdge 49 = .ok (.imul, 1) := by decide +kernel
theorem dX0_looseEdge_50 : decode cX0_looseEdge 50 = .ok (.iadd, 1) := by decide +kernel
theorem dX0_looseEdge_51 : decode cX0_looseEdge 51 = .ok (.iload_n 3, 1) := by decide +kernel
theorem dX0_looseEdge_52 : decode cX0_looseEdge 52 = .ok (.iadd, 1) := by decide +kernel
theorem dX0_looseEdge_53 : decode cX0_looseEdge 53 = .ok (.ireturn, 1) := by decide +kernel
theorem dX0_looseEdge_54 : decode cX0_looseEdge 54 = .ok (.iinc 3 1, 3) := by decide +kernel
theorem dX0_looseEdge_57 : decode cX0_looseEdge 57 = .ok (.goto (-43), 3) := by decide +kernel
theorem dX0_looseEdge_60 : decode cX0_looseEdge 60 = .ok (.iinc 2 1, 3) := by decide +kernel
theorem dX0_looseEdge_63 : decode cX0_looseEdge 63 = .ok (.goto (-61), 3) := by decide +kernel
theorem dX0_looseEdge_66 : decode cX0_looseEdge 66 = .ok (.iconst 0, 1) := by decide +kernel
theorem dX0_looseEdge_67 : decode cX0_looseEdge 67 = .ok (.ireturn, 1) := by decide +kernel
theorem dX0_holdTogether_0 : decode cX0_holdTogether 0 = .ok (.iconst 0, 1) := by decide +kernel
theorem dX0_holdTogether_1 : decode cX0_holdTogether 1 = .ok (.istore_n 2, 1) := by decide +kernel
theorem dX0_holdTogether_2 : decode cX0_holdTogether 2 = .ok (.iload_n 2, 1) := by decide +kernel
theorem dX0_holdTogether_3 : decode cX0_holdTogether 3 = .ok (.aload_n 0, 1) := by decide +kernel
theorem dX0_holdTogether_4 : decode cX0_holdTogether 4 = .ok (.getfield 18, 3) := by decide +kernel
theorem dX0_holdTogether_7 : decode cX0_holdTogether 7 = .ok (.if_icmp .ge 24, 3) := by decide +kernel
theorem dX0_holdTogether_10 : decode cX0_holdTogether 10 = .ok (.iload_n 1, 1) := by decide +kernel
theorem dX0_holdTogether_11 : decode cX0_holdTogether 11 = .ok (.aload_n 0, 1) := by decide +kernel
theorem dX0_holdTogether_12 : decode cX0_holdTogether 12 = .ok (.getfield 9, 3) := by decide +kernel
theorem dX0_holdTogether_15 : decode cX0_holdTogether 15 = .ok (.iload_n 2, 1) := by decide +kernel
theorem dX0_holdTogether_16 : decode cX0_holdTogether 16 = .ok (.iaload, 1) := by decide +kernel
theorem dX0_holdTogether_17 : decode cX0_holdTogether 17 = .ok (.iconst (-1), 1) := by decide +kernel
theorem dX0_holdTogether_18 : decode cX0_holdTogether 18 = .ok (.ixor, 1) := by decide +kernel
theorem dX0_holdTogether_19 : decode cX0_holdTogether 19 = .ok (.iand, 1) := by decide +kernel
theorem dX0_holdTogether_20 : decode cX0_holdTogether 20 = .ok (.ifCond .ne 5, 3) := by decide +kernel
theorem dX0_holdTogether_23 : decode cX0_holdTogether 23 = .ok (.iconst 1, 1) := by decide +kernel
theorem dX0_holdTogether_24 : decode cX0_holdTogether 24 = .ok (.ireturn, 1) := by decide +kernel
theorem dX0_holdTogether_25 : decode cX0_holdTogether 25 = .ok (.iinc 2 1, 3) := by decide +kernel
theorem dX0_holdTogether_28 : decode cX0_holdTogether 28 = .ok (.goto (-26), 3) := by decide +kernel
theorem dX0_holdTogether_31 : decode cX0_holdTogether 31 = .ok (.iconst 0, 1) := by decide +kernel
theorem dX0_holdTogether_32 : decode cX0_holdTogether 32 = .ok (.ireturn, 1) := by decide +kernel
theorem dX0_missingKnot_0 : decode cX0_missingKnot 0 = .ok (.iconst 0, 1) := by decide +kernel
theorem dX0_missingKnot_1 : decode cX0_missingKnot 1 = .ok (.istore_n 2, 1) := by decide +kernel
theorem dX0_missingKnot_2 : decode cX0_missingKnot 2 = .ok (.iload_n 2, 1) := by decide +kernel
theorem dX0_missingKnot_3 : decode cX0_missingKnot 3 = .ok (.aload_n 1, 1) := by decide +kernel
theorem dX0_missingKnot_4 : decode cX0_missingKnot 4 = .ok (.getfield 70, 3) := by decide +kernel
theorem dX0_missingKnot_7 : decode cX0_missingKnot 7 = .ok (.if_icmp .ge 25, 3) := by decide +kernel
theorem dX0_missingKnot_10 : decode cX0_missingKnot 10 = .ok (.aload_n 0, 1) := by decide +kernel
theorem dX0_missingKnot_11 : decode cX0_missingKnot 11 = .ok (.iconst 1, 1) := by decide +kernel
theorem dX0_missingKnot_12 : decode cX0_missingKnot 12 = .ok (.iload_n 2, 1) := by decide +kernel
theorem dX0_missingKnot_13 : decode cX0_missingKnot 13 = .ok (.ishl, 1) := by decide +kernel
theorem dX0_missingKnot_14 : decode cX0_missingKnot 14 = .ok (.invokevirtual 76, 3) := by decide +kernel
theorem dX0_missingKnot_17 : decode cX0_missingKnot 17 = .ok (.ifCond .ne 9, 3) := by decide +kernel
theorem dX0_missingKnot_20 : decode cX0_missingKnot 20 = .ok (.sipush 1001, 3) := by decide +kernel
theorem dX0_missingKnot_23 : decode cX0_missingKnot 23 = .ok (.iload_n 2, 1) := by decide +kernel
theorem dX0_missingKnot_24 : decode cX0_missingKnot 24 = .ok (.iadd, 1) := by decide +kernel
theorem dX0_missingKnot_25 : decode cX0_missingKnot 25 = .ok (.ireturn, 1) := by decide +kernel
theorem dX0_missingKnot_26 : decode cX0_missingKnot 26 = .ok (.iinc 2 1, 3) := by decide +kernel
theorem dX0_missingKnot_29 : decode cX0_missingKnot 29 = .ok (.goto (-27), 3) := by decide +kernel
theorem dX0_missingKnot_32 : decode cX0_missingKnot 32 = .ok (.iconst 0, 1) := by decide +kernel
theorem dX0_missingKnot_33 : decode cX0_missingKnot 33 = .ok (.ireturn, 1) := by decide +kernel
theorem dX0_scatteredKnot_0 : decode cX0_scatteredKnot 0 = .ok (.iconst 0, 1) := by decide +kernel
theorem dX0_scatteredKnot_1 : decode cX0_scatteredKnot 1 = .ok (.istore_n 2, 1) := by decide +kernel
theorem dX0_scatteredKnot_2 : decode cX0_scatteredKnot 2 = .ok (.iconst 0, 1) := by decide +kernel
theorem dX0_scatteredKnot_3 : decode cX0_scatteredKnot 3 = .ok (.istore_n 3, 1) := by decide +kernel
theorem dX0_scatteredKnot_4 : decode cX0_scatteredKnot 4 = .ok (.iconst 0, 1) := by decide +kernel
theorem dX0_scatteredKnot_5 : decode cX0_scatteredKnot 5 = .ok (.istore 4, 2) := by decide +kernel
theorem dX0_scatteredKnot_7 : decode cX0_scatteredKnot 7 = .ok (.iload 4, 2) := by decide +kernel
theorem dX0_scatteredKnot_9 : decode cX0_scatteredKnot 9 = .ok (.aload_n 0, 1) := by decide +kernel
theorem dX0_scatteredKnot_10 : decode cX0_scatteredKnot 10 = .ok (.getfield 18, 3) := by decide +kernel
theorem dX0_scatteredKnot_13 : decode cX0_scatteredKnot 13 = .ok (.if_icmp .ge 29, 3) := by decide +kernel
theorem dX0_scatteredKnot_16 : decode cX0_scatteredKnot 16 = .ok (.aload_n 0, 1) := by decide +kernel
theorem dX0_scatteredKnot_17 : decode cX0_scatteredKnot 17 = .ok (.iload 4, 2) := by decide +kernel
theorem dX0_scatteredKnot_19 : decode cX0_scatteredKnot 19 = .ok (.invokevirtual 79, 3) := by decide +kernel
theorem dX0_scatteredKnot_22 : decode cX0_scatteredKnot 22 = .ok (.istore 5, 2) := by decide +kernel
theorem dX0_scatteredKnot_24 : decode cX0_scatteredKnot 24 = .ok (.iload_n 3, 1) := by decide +kernel
theorem dX0_scatteredKnot_25 : decode cX0_scatteredKnot 25 = .ok (.iload_n 2, 1) := by decide +kernel
theorem dX0_scatteredKnot_26 : decode cX0_scatteredKnot 26 = .ok (.iload 5, 2) := by decide +kernel
theorem dX0_scatteredKnot_28 : decode cX0_scatteredKnot 28 = .ok (.iand, 1) := by decide +kernel
theorem dX0_scatteredKnot_29 : decode cX0_scatteredKnot 29 = .ok (.ior, 1) := by decide +kernel
theorem dX0_scatteredKnot_30 : decode cX0_scatteredKnot 30 = .ok (.istore_n 3, 1) := by decide +kernel
theorem dX0_scatteredKnot_31 : decode cX0_scatteredKnot 31 = .ok (.iload_n 2, 1) := by decide +kernel
theorem dX0_scatteredKnot_32 : decode cX0_scatteredKnot 32 = .ok (.iload 5, 2) := by decide +kernel
theorem dX0_scatteredKnot_34 : decode cX0_scatteredKnot 34 = .ok (.ior, 1) := by decide +kernel
theorem dX0_scatteredKnot_35 : decode cX0_scatteredKnot 35 = .ok (.istore_n 2, 1) := by decide +kernel
theorem dX0_scatteredKnot_36 : decode cX0_scatteredKnot 36 = .ok (.iinc 4 1, 3) := by decide +kernel
theorem dX0_scatteredKnot_39 : decode cX0_scatteredKnot 39 = .ok (.goto (-32), 3) := by decide +kernel
theorem dX0_scatteredKnot_42 : decode cX0_scatteredKnot 42 = .ok (.iconst 0, 1) := by decide +kernel
theorem dX0_scatteredKnot_43 : decode cX0_scatteredKnot 43 = .ok (.istore 4, 2) := by decide +kernel
theorem dX0_scatteredKnot_45 : decode cX0_scatteredKnot 45 = .ok (.iload 4, 2) := by decide +kernel
theorem dX0_scatteredKnot_47 : decode cX0_scatteredKnot 47 = .ok (.aload_n 1, 1) := by decide +kernel
theorem dX0_scatteredKnot_48 : decode cX0_scatteredKnot 48 = .ok (.getfield 70, 3) := by decide +kernel
theorem dX0_scatteredKnot_51 : decode cX0_scatteredKnot 51 = .ok (.if_icmp .ge 25, 3) := by decide +kernel
theorem dX0_scatteredKnot_54 : decode cX0_scatteredKnot 54 = .ok (.iload_n 3, 1) := by decide +kernel
theorem dX0_scatteredKnot_55 : decode cX0_scatteredKnot 55 = .ok (.iload 4, 2) := by decide +kernel
theorem dX0_scatteredKnot_57 : decode cX0_scatteredKnot 57 = .ok (.invokestatic 56, 3) := by decide +kernel
theorem dX0_scatteredKnot_60 : decode cX0_scatteredKnot 60 = .ok (.ifCond .eq 10, 3) := by decide +kernel
theorem dX0_scatteredKnot_63 : decode cX0_scatteredKnot 63 = .ok (.sipush 2001, 3) := by decide +kernel
theorem dX0_scatteredKnot_66 : decode cX0_scatteredKnot 66 = .ok (.iload 4, 2) := by decide +kernel
theorem dX0_scatteredKnot_68 : decode cX0_scatteredKnot 68 = .ok (.iadd, 1) := by decide +kernel
theorem dX0_scatteredKnot_69 : decode cX0_scatteredKnot 69 = .ok (.ireturn, 1) := by decide +kernel
theorem dX0_scatteredKnot_70 : decode cX0_scatteredKnot 70 = .ok (.iinc 4 1, 3) := by decide +kernel
theorem dX0_scatteredKnot_73 : decode cX0_scatteredKnot 73 = .ok (.goto (-28), 3) := by decide +kernel
theorem dX0_scatteredKnot_76 : decode cX0_scatteredKnot 76 = .ok (.iconst 0, 1) := by decide +kernel
theorem dX0_scatteredKnot_77 : decode cX0_scatteredKnot 77 = .ok (.ireturn, 1) := by decide +kernel
def f_X0_has (a1 : Int32) (t_size : Int32) : Option (Int32) :=
  if a1 < 0 then
    some ((0 : Int32))
  else
    if t_size ≤ a1 then
      some ((0 : Int32))
    else
      some ((1 : Int32))

set_option maxRecDepth 100000 in
set_option maxHeartbeats 1000000 in
theorem c_X0_has (l : Launch) (cA : Nat → ClassId) (q_t : Nat) (q_t_masks : Nat) (q_t_ups : Nat) (t_size : Int32)  (a1 : Int32) (r : Int32) (hf : f_X0_has a1 t_size = some r) : MT l cA yX0_has cX0_has 2 (some .boolean) ({ frames := 0, cells := 0, slots := 0, locals := 0 } : Room) [.ref q_t, .int a1] [oB q_t 0 [.ref q_t_masks, .ref q_t_ups, .int t_size]] (sB (some (.int r)) [oB q_t 0 [.ref q_t_masks, .ref q_t_ups, .int t_size]]) := by
  refine MT.of (by decide) (Nat.le_of_ble_eq_true rfl) ?_
  intro X hXl C F hnm hrc hrs
  subst hXl
  have hk : 0 ≤ (x_R X).cells ∧ 0 ≤ (x_R X).slots := ⟨Nat.zero_le _, Nat.zero_le _⟩
  have hB : (sB (some (.int r)) [oB q_t 0 [.ref q_t_masks, .ref q_t_ups, .int t_size]]) (some (.int r)) [oB q_t 0 [.ref q_t_masks, .ref q_t_ups, .int t_size]] := ⟨rfl, rfl⟩
  unfold f_X0_has at hf
  have C : Cx X cX0_has RX0 (some .boolean) cA 0 0 2 := C
  show Go X 2 0 0 0 [oB q_t 0 [.ref q_t_masks, .ref q_t_ups, .int t_size]] [(0, .ref q_t), (1, .int a1)] []
  refine g_iload_n C 0 1 dX0_has_0 rfl rfl ?_
  refine g_if_lt C 1 16 dX0_has_1 (by decide) hf (fun hf => ?_) (fun hf => ?_)
  · refine g_iconst C 16 (0 : Int32) dX0_has_16 (by decide) ?_
    cases hf
    exact g_zret C 17 dX0_has_17 (by decide) F hB
  · refine g_iload_n C 4 1 dX0_has_4 rfl rfl ?_
    refine g_aload_n C 5 0 dX0_has_5 rfl rfl ?_
    refine g_get C 6 0 2 dX0_has_6 inX0 rfl rfl (by decide) kw_0 rfl ?_
    refine g_icmp_ge C 9 16 dX0_has_9 (by decide) hf (fun hf => ?_) (fun hf => ?_)
    · refine g_iconst C 16 (0 : Int32) dX0_has_16 (by decide) ?_
      cases hf
      exact g_zret C 17 dX0_has_17 (by decide) F hB
    · refine g_iconst C 12 (1 : Int32) dX0_has_12 (by decide) ?_
      refine g_goto C 13 17 dX0_has_13 (by decide) ?_
      cases hf
      exact g_zret C 17 dX0_has_17 (by decide) F hB

def f_X0_empty (t_size : Int32) : Option (Int32) :=
  bnd (0 : Int32) fun t_size_1 =>
  some (t_size_1)

set_option maxRecDepth 100000 in
set_option maxHeartbeats 1000000 in
theorem c_X0_empty (l : Launch) (cA : Nat → ClassId) (q_t : Nat) (q_t_masks : Nat) (q_t_ups : Nat) (t_size : Int32)   (r : Int32) (hf : f_X0_empty t_size = some r) : MT l cA yX0_empty cX0_empty 1 none ({ frames := 0, cells := 0, slots := 0, locals := 0 } : Room) [.ref q_t] [oB q_t 0 [.ref q_t_masks, .ref q_t_ups, .int t_size]] (sB (none) [oB q_t 0 [.ref q_t_masks, .ref q_t_ups, .int r]]) := by
  refine MT.of (by decide) (Nat.le_of_ble_eq_true rfl) ?_
  intro X hXl C F hnm hrc hrs
  subst hXl
  have hk : 0 ≤ (x_R X).cells ∧ 0 ≤ (x_R X).slots := ⟨Nat.zero_le _, Nat.zero_le _⟩
  have hB : (sB (none) [oB q_t 0 [.ref q_t_masks, .ref q_t_ups, .int r]]) (none) [oB q_t 0 [.ref q_t_masks, .ref q_t_ups, .int r]] := ⟨rfl, rfl⟩
  unfold f_X0_empty at hf
  have C : Cx X cX0_empty RX0 none cA 0 0 1 := C
  show Go X 1 0 0 0 [oB q_t 0 [.ref q_t_masks, .ref q_t_ups, .int t_size]] [(0, .ref q_t)] []
  refine g_aload_n C 0 0 dX0_empty_0 rfl rfl ?_
  refine g_iconst C 1 (0 : Int32) dX0_empty_1 (by decide) ?_
  refine g_puti C 2 0 2 tyX0 (fun z => [oB q_t 0 [.ref q_t_masks, .ref q_t_ups, .int z]]) dX0_empty_2 inX0 tyX0_ok nmX0 rfl rfl (by decide) kw_0 rfl rfl (Nat.le_of_ble_eq_true rfl) (fun _ => rfl) hf (fun t_size_1 hf => ?_)
  cases hf
  exact g_vret C 5 dX0_empty_5 F hB

def J_X0_append_22 (a1 : Int32)  (t_size : Int32) (t_masks : Nat → Int32) (t_ups : Nat → Int32) : Option (Int32 × Int32 × (Nat → Int32) × (Nat → Int32)) :=
  stI t_masks 14 t_size a1 fun t_masks_1 =>
  stI t_ups 14 t_size (-1 : Int32) fun t_ups_2 =>
  bnd (t_size + (1 : Int32)) fun t_size_3 =>
  some ((t_size_3 - (1 : Int32)), t_size_3, t_masks_1, t_ups_2)

set_option maxRecDepth 100000 in
set_option maxHeartbeats 1000000 in
theorem w_X0_append_22 (cA : Nat → ClassId) (q_t : Nat) (q_t_masks : Nat) (q_t_ups : Nat) (a1 : Int32) {X : XT}  (C : Cx X cX0_append RX0 (some .int) cA 0 0 2) {kk nn : Nat} {BB : Option Value → va_W → Prop} (hk : kk ≤ (x_R X).cells ∧ nn ≤ (x_R X).slots) (F : Fx X BB kk nn) (r : Int32 × Int32 × (Nat → Int32) × (Nat → Int32)) (hB : BB (some (.int r.1)) [oB q_t 0 [.ref q_t_masks, .ref q_t_ups, .int r.2.1], aI cA q_t_masks 14 r.2.2.1, aI cA q_t_ups 14 r.2.2.2])  : ∀ (t_size : Int32) (t_masks : Nat → Int32) (t_ups : Nat → Int32), J_X0_append_22 a1 t_size t_masks t_ups = some r → Go X 2 kk nn 22 [oB q_t 0 [.ref q_t_masks, .ref q_t_ups, .int t_size], aI cA q_t_masks 14 t_masks, aI cA q_t_ups 14 t_ups] [(0, .ref q_t), (1, .int a1)] [] := by
  intro t_size t_masks t_ups hf
  unfold J_X0_append_22 at hf
  refine g_aload_n C 22 0 dX0_append_22 rfl rfl ?_
  refine g_get C 23 0 0 dX0_append_23 inX0 rfl rfl (by decide) kw_1 rfl ?_
  refine g_aload_n C 26 0 dX0_append_26 rfl rfl ?_
  refine g_get C 27 0 2 dX0_append_27 inX0 rfl rfl (by decide) kw_0 rfl ?_
  refine g_iload_n C 30 1 dX0_append_30 rfl rfl ?_
  refine g_iast C 31 1 (fun z => [oB q_t 0 [.ref q_t_masks, .ref q_t_ups, .int t_size], aI cA q_t_masks 14 z, aI cA q_t_ups 14 t_ups]) dX0_append_31 rfl (fun _ => rfl) hf (fun t_masks_1 hf => ?_)
  refine g_aload_n C 32 0 dX0_append_32 rfl rfl ?_
  refine g_get C 33 0 1 dX0_append_33 inX0 rfl rfl (by decide) kw_2 rfl ?_
  refine g_aload_n C 36 0 dX0_append_36 rfl rfl ?_
  refine g_get C 37 0 2 dX0_append_37 inX0 rfl rfl (by decide) kw_0 rfl ?_
  refine g_iconst C 40 (-1 : Int32) dX0_append_40 (by decide) ?_
  refine g_iast C 41 2 (fun z => [oB q_t 0 [.ref q_t_masks, .ref q_t_ups, .int t_size], aI cA q_t_masks 14 t_masks_1, aI cA q_t_ups 14 z]) dX0_append_41 rfl (fun _ => rfl) hf (fun t_ups_2 hf => ?_)
  refine g_aload_n C 42 0 dX0_append_42 rfl rfl ?_
  refine g_dup C 43 dX0_append_43 rfl ?_
  refine g_get C 44 0 2 dX0_append_44 inX0 rfl rfl (by decide) kw_0 rfl ?_
  refine g_iconst C 47 (1 : Int32) dX0_append_47 (by decide) ?_
  refine g_iadd C 48 dX0_append_48 ?_
  refine g_puti C 49 0 2 tyX0 (fun z => [oB q_t 0 [.ref q_t_masks, .ref q_t_ups, .int z], aI cA q_t_masks 14 t_masks_1, aI cA q_t_ups 14 t_ups_2]) dX0_append_49 inX0 tyX0_ok nmX0 rfl rfl (by decide) kw_0 rfl rfl (Nat.le_of_ble_eq_true rfl) (fun _ => rfl) hf (fun t_size_3 hf => ?_)
  refine g_aload_n C 52 0 dX0_append_52 rfl rfl ?_
  refine g_get C 53 0 2 dX0_append_53 inX0 rfl rfl (by decide) kw_0 rfl ?_
  refine g_iconst C 56 (1 : Int32) dX0_append_56 (by decide) ?_
  refine g_isub C 57 dX0_append_57 ?_
  cases hf
  exact g_iret C 58 dX0_append_58 F hB
def f_X0_append (a1 : Int32) (t_size : Int32) (t_masks : Nat → Int32) (t_ups : Nat → Int32) : Option (Int32 × Int32 × (Nat → Int32) × (Nat → Int32)) :=
  if t_size ≤ 0 then
    J_X0_append_22 a1 t_size t_masks t_ups
  else
    stI t_ups 14 (t_size - (1 : Int32)) t_size fun t_ups_4 =>
    J_X0_append_22 a1 t_size t_masks t_ups_4

set_option maxRecDepth 100000 in
set_option maxHeartbeats 1000000 in
theorem c_X0_append (l : Launch) (cA : Nat → ClassId) (q_t : Nat) (t_size : Int32) (q_t_masks : Nat) (t_masks : Nat → Int32) (q_t_ups : Nat) (t_ups : Nat → Int32)  (a1 : Int32) (r : Int32 × Int32 × (Nat → Int32) × (Nat → Int32)) (hf : f_X0_append a1 t_size t_masks t_ups = some r) : MT l cA yX0_append cX0_append 2 (some .int) ({ frames := 0, cells := 0, slots := 0, locals := 0 } : Room) [.ref q_t, .int a1] [oB q_t 0 [.ref q_t_masks, .ref q_t_ups, .int t_size], aI cA q_t_masks 14 t_masks, aI cA q_t_ups 14 t_ups] (sB (some (.int r.1)) [oB q_t 0 [.ref q_t_masks, .ref q_t_ups, .int r.2.1], aI cA q_t_masks 14 r.2.2.1, aI cA q_t_ups 14 r.2.2.2]) := by
  refine MT.of (by decide) (Nat.le_of_ble_eq_true rfl) ?_
  intro X hXl C F hnm hrc hrs
  subst hXl
  have hk : 0 ≤ (x_R X).cells ∧ 0 ≤ (x_R X).slots := ⟨Nat.zero_le _, Nat.zero_le _⟩
  have hB : (sB (some (.int r.1)) [oB q_t 0 [.ref q_t_masks, .ref q_t_ups, .int r.2.1], aI cA q_t_masks 14 r.2.2.1, aI cA q_t_ups 14 r.2.2.2]) (some (.int r.1)) [oB q_t 0 [.ref q_t_masks, .ref q_t_ups, .int r.2.1], aI cA q_t_masks 14 r.2.2.1, aI cA q_t_ups 14 r.2.2.2] := ⟨rfl, rfl⟩
  unfold f_X0_append at hf
  have C : Cx X cX0_append RX0 (some .int) cA 0 0 2 := C
  show Go X 2 0 0 0 [oB q_t 0 [.ref q_t_masks, .ref q_t_ups, .int t_size], aI cA q_t_masks 14 t_masks, aI cA q_t_ups 14 t_ups] [(0, .ref q_t), (1, .int a1)] []
  refine g_aload_n C 0 0 dX0_append_0 rfl rfl ?_
  refine g_get C 1 0 2 dX0_append_1 inX0 rfl rfl (by decide) kw_0 rfl ?_
  refine g_if_le C 4 22 dX0_append_4 (by decide) hf (fun hf => ?_) (fun hf => ?_)
  · exact w_X0_append_22 cA q_t q_t_masks q_t_ups a1 C hk F r hB t_size t_masks t_ups hf
  · refine g_aload_n C 7 0 dX0_append_7 rfl rfl ?_
    refine g_get C 8 0 1 dX0_append_8 inX0 rfl rfl (by decide) kw_2 rfl ?_
    refine g_aload_n C 11 0 dX0_append_11 rfl rfl ?_
    refine g_get C 12 0 2 dX0_append_12 inX0 rfl rfl (by decide) kw_0 rfl ?_
    refine g_iconst C 15 (1 : Int32) dX0_append_15 (by decide) ?_
    refine g_isub C 16 dX0_append_16 ?_
    refine g_aload_n C 17 0 dX0_append_17 rfl rfl ?_
    refine g_get C 18 0 2 dX0_append_18 inX0 rfl rfl (by decide) kw_0 rfl ?_
    refine g_iast C 21 2 (fun z => [oB q_t 0 [.ref q_t_masks, .ref q_t_ups, .int t_size], aI cA q_t_masks 14 t_masks, aI cA q_t_ups 14 z]) dX0_append_21 rfl (fun _ => rfl) hf (fun t_ups_4 hf => ?_)
    exact w_X0_append_22 cA q_t q_t_masks q_t_ups a1 C hk F r hB t_size t_masks t_ups_4 hf

def L_X0_takeApart_10 (u_size : Int32) (u_knots : Nat → Int32)  : Nat → Int32 → Int32 → (Nat → Int32) → (Nat → Int32) → Int32 → Int32 → (Nat → Int32) → Option (Int32 × (Nat → Int32) × (Nat → Int32) × Int32 × Int32 × (Nat → Int32))
  | 0, _, _, _, _, _, _, _ => none
  | n + 1, x3, t_size, t_masks, t_ups, v_left, v_newEnds, v_near =>
    if t_size ≤ x3 then
      some (t_size, t_masks, t_ups, v_left, v_newEnds, v_near)
    else
      ldA u_knots 14 x3 fun v3 =>
      bnd v3 fun x4_4 =>
      ldA v_near 14 x4_4 fun v5 =>
      bnd v5 fun x5_6 =>
      stI t_masks 14 x3 (x5_6 ||| ((1 : Int32) <<< (x4_4 &&& 31))) fun t_masks_7 =>
      cal (f_X2_nextPlace x3 x5_6 u_size u_knots) fun u8 =>
      stI t_ups 14 x3 u8 fun t_ups_9 =>
      cal (f_X1_letGo x4_4 v_left v_newEnds v_near) fun u10 =>
      bnd (x3 + (1 : Int32)) fun x3_11 =>
      L_X0_takeApart_10 u_size u_knots n x3_11 t_size t_masks_7 t_ups_9 u10.1 u10.2.1 u10.2.2

set_option maxRecDepth 100000 in
set_option maxHeartbeats 1000000 in
theorem w_X0_takeApart_10 (cA : Nat → ClassId) (q_t : Nat) (q_t_masks : Nat) (q_t_ups : Nat) (q_u : Nat) (u_held : Int32) (q_u_knots : Nat) (q_v : Nat) (q_v_near : Nat) (u_size : Int32) (u_knots : Nat → Int32) {X : XT}  (C : Cx X cX0_takeApart RX0 none cA 3 68 6) {kk nn : Nat} {BB : Option Value → va_W → Prop} (hk : kk ≤ (x_R X).cells ∧ nn ≤ (x_R X).slots) (F : Fx X BB kk nn) (r : Int32 × (Nat → Int32) × (Nat → Int32) × Int32 × Int32 × (Nat → Int32)) (hB : BB (none) [oB q_t 0 [.ref q_t_masks, .ref q_t_ups, .int r.1], aI cA q_t_masks 14 r.2.1, aI cA q_t_ups 14 r.2.2.1, oB q_u 2 [.ref q_u_knots, .int u_size, .int u_held], aI cA q_u_knots 14 u_knots, oB q_v 1 [.ref q_v_near, .int r.2.2.2.1, .int r.2.2.2.2.1], aI cA q_v_near 14 r.2.2.2.2.2])  : ∀ (n : Nat) (x3 : Int32) (t_size : Int32) (t_masks : Nat → Int32) (t_ups : Nat → Int32) (v_left : Int32) (v_newEnds : Int32) (v_near : Nat → Int32), L_X0_takeApart_10 u_size u_knots n x3 t_size t_masks t_ups v_left v_newEnds v_near = some r → Go X 6 kk nn 10 [oB q_t 0 [.ref q_t_masks, .ref q_t_ups, .int t_size], aI cA q_t_masks 14 t_masks, aI cA q_t_ups 14 t_ups, oB q_u 2 [.ref q_u_knots, .int u_size, .int u_held], aI cA q_u_knots 14 u_knots, oB q_v 1 [.ref q_v_near, .int v_left, .int v_newEnds], aI cA q_v_near 14 v_near] [(0, .ref q_t), (1, .ref q_u), (2, .ref q_v), (3, .int x3)] [] := by
  intro n
  induction n with
  | zero => intro x3 t_size t_masks t_ups v_left v_newEnds v_near hf; exact no_some hf
  | succ n ih =>
    intro x3 t_size t_masks t_ups v_left v_newEnds v_near hf
    rw [L_X0_takeApart_10] at hf
    refine g_iload_n C 10 3 dX0_takeApart_10 rfl rfl ?_
    refine g_aload_n C 11 0 dX0_takeApart_11 rfl rfl ?_
    refine g_get C 12 0 2 dX0_takeApart_12 inX0 rfl rfl (by decide) kw_0 rfl ?_
    refine g_icmp_ge C 15 73 dX0_takeApart_15 (by decide) hf (fun hf => ?_) (fun hf => ?_)
    · cases hf
      exact g_vret C 73 dX0_takeApart_73 F hB
    · refine g_aload_n C 18 1 dX0_takeApart_18 rfl rfl ?_
      refine g_get C 19 3 0 dX0_takeApart_19 inX2 rfl rfl (by decide) kw_24 rfl ?_
      refine g_iload_n C 22 3 dX0_takeApart_22 rfl rfl ?_
      refine g_iald C 23 4 dX0_takeApart_23 rfl hf (fun v3 hf => ?_)
      refine g_istore C 24 (fun z => [(4, .int z), (0, .ref q_t), (1, .ref q_u), (2, .ref q_v), (3, .int x3)]) dX0_takeApart_24 (by decide) (fun _ => rfl) hf (fun x4_4 hf => ?_)
      refine g_aload_n C 26 3 dX0_takeApart_26 rfl rfl ?_
      refine g_get C 27 5 0 dX0_takeApart_27 inX1 rfl rfl (by decide) kw_25 rfl ?_
      refine g_iload C 30 0 dX0_takeApart_30 rfl ?_
      refine g_iald C 32 6 dX0_takeApart_32 rfl hf (fun v5 hf => ?_)
      refine g_istore C 33 (fun z => [(5, .int z), (4, .int x4_4), (0, .ref q_t), (1, .ref q_u), (2, .ref q_v), (3, .int x3)]) dX0_takeApart_33 (by decide) (fun _ => rfl) hf (fun x5_6 hf => ?_)
      refine g_aload_n C 35 2 dX0_takeApart_35 rfl rfl ?_
      refine g_get C 36 0 0 dX0_takeApart_36 inX0 rfl rfl (by decide) kw_1 rfl ?_
      refine g_iload_n C 39 5 dX0_takeApart_39 rfl rfl ?_
      refine g_iload C 40 0 dX0_takeApart_40 rfl ?_
      refine g_iconst C 42 (1 : Int32) dX0_takeApart_42 (by decide) ?_
      refine g_iload C 43 1 dX0_takeApart_43 rfl ?_
      refine g_ishl C 45 dX0_takeApart_45 ?_
      refine g_ior C 46 dX0_takeApart_46 ?_
      refine g_iast C 47 1 (fun z => [oB q_t 0 [.ref q_t_masks, .ref q_t_ups, .int t_size], aI cA q_t_masks 14 z, aI cA q_t_ups 14 t_ups, oB q_u 2 [.ref q_u_knots, .int u_size, .int u_held], aI cA q_u_knots 14 u_knots, oB q_v 1 [.ref q_v_near, .int v_left, .int v_newEnds], aI cA q_v_near 14 v_near]) dX0_takeApart_47 rfl (fun _ => rfl) hf (fun t_masks_7 hf => ?_)
      refine g_aload_n C 48 2 dX0_takeApart_48 rfl rfl ?_
      refine g_get C 49 0 1 dX0_takeApart_49 inX0 rfl rfl (by decide) kw_2 rfl ?_
      refine g_iload_n C 52 5 dX0_takeApart_52 rfl rfl ?_
      refine g_aload_n C 53 3 dX0_takeApart_53 rfl rfl ?_
      refine g_iload_n C 54 5 dX0_takeApart_54 rfl rfl ?_
      refine g_iload C 55 0 dX0_takeApart_55 rfl ?_
      obtain ⟨u8, hu8, hf⟩ := cal_some hf
      refine g_callV1 C 57 [3, 4] 3 (rest := [.int x3, .ref q_t_ups]) dX0_takeApart_57 (c_X2_nextPlace (x_l X) cA q_u u_size u_held q_u_knots u_knots x3 x5_6 u8 hu8) kw_26 kw_27 kw_28 kw_29 kw_30 ok_X2_nextPlace ⟨Nat.le_of_ble_eq_true rfl, Nat.le_of_ble_eq_true rfl⟩ hk ⟨rfl, rfl⟩ rfl rfl rfl rfl rfl (Nat.le_of_ble_eq_true rfl) rfl (ws' := [oB q_t 0 [.ref q_t_masks, .ref q_t_ups, .int t_size], aI cA q_t_masks 14 t_masks_7, aI cA q_t_ups 14 t_ups, oB q_u 2 [.ref q_u_knots, .int u_size, .int u_held], aI cA q_u_knots 14 u_knots, oB q_v 1 [.ref q_v_near, .int v_left, .int v_newEnds], aI cA q_v_near 14 v_near]) (st' := [.int u8, .int x3, .ref q_t_ups]) (N0 := 7) rfl [none, none, none, some 0, some 1, none, none] (by decide) rfl rfl ?_
      refine g_iast C 60 2 (fun z => [oB q_t 0 [.ref q_t_masks, .ref q_t_ups, .int t_size], aI cA q_t_masks 14 t_masks_7, aI cA q_t_ups 14 z, oB q_u 2 [.ref q_u_knots, .int u_size, .int u_held], aI cA q_u_knots 14 u_knots, oB q_v 1 [.ref q_v_near, .int v_left, .int v_newEnds], aI cA q_v_near 14 v_near]) dX0_takeApart_60 rfl (fun _ => rfl) hf (fun t_ups_9 hf => ?_)
      refine g_aload_n C 61 4 dX0_takeApart_61 rfl rfl ?_
      refine g_iload C 62 1 dX0_takeApart_62 rfl ?_
      obtain ⟨u10, hu10, hf⟩ := cal_some hf
      refine g_callV1 C 64 [5, 6] 5 (rest := []) dX0_takeApart_64 (c_X1_letGo (x_l X) cA q_v v_left v_newEnds q_v_near v_near x4_4 u10 hu10) kw_31 kw_32 kw_33 kw_16 kw_34 ok_X1_letGo ⟨Nat.le_of_ble_eq_true rfl, Nat.le_of_ble_eq_true rfl⟩ hk ⟨rfl, rfl⟩ rfl rfl rfl rfl rfl (Nat.le_of_ble_eq_true rfl) rfl (ws' := [oB q_t 0 [.ref q_t_masks, .ref q_t_ups, .int t_size], aI cA q_t_masks 14 t_masks_7, aI cA q_t_ups 14 t_ups_9, oB q_u 2 [.ref q_u_knots, .int u_size, .int u_held], aI cA q_u_knots 14 u_knots, oB q_v 1 [.ref q_v_near, .int u10.1, .int u10.2.1], aI cA q_v_near 14 u10.2.2]) (st' := []) (N0 := 7) rfl [none, none, none, none, none, some 0, some 1] (by decide) rfl rfl ?_
      refine g_iinc C 67 5 (v := x3 + (1 : Int32)) (fun z => [(3, .int z), (5, .int x5_6), (4, .int x4_4), (0, .ref q_t), (1, .ref q_u), (2, .ref q_v)]) dX0_takeApart_67 rfl rfl (by decide) (fun _ => rfl) hf (fun x3_11 hf => ?_)
      refine g_goto C 70 10 dX0_takeApart_70 (by decide) ?_
      refine g_lv [3, 4, 5, 0] rfl ?_
      exact ih x3_11 t_size t_masks_7 t_ups_9 u10.1 u10.2.1 u10.2.2 hf
def f_X0_takeApart (t_size : Int32) (t_masks : Nat → Int32) (t_ups : Nat → Int32) (u_size : Int32) (u_knots : Nat → Int32) (v_left : Int32) (v_newEnds : Int32) (v_near : Nat → Int32) : Option (Int32 × (Nat → Int32) × (Nat → Int32) × Int32 × Int32 × (Nat → Int32)) :=
  bnd u_size fun t_size_1 =>
  bnd (0 : Int32) fun x3_2 =>
  L_X0_takeApart_10 u_size u_knots NN x3_2 t_size_1 t_masks t_ups v_left v_newEnds v_near

set_option maxRecDepth 100000 in
set_option maxHeartbeats 1000000 in
theorem c_X0_takeApart (l : Launch) (cA : Nat → ClassId) (q_t : Nat) (t_size : Int32) (q_t_masks : Nat) (t_masks : Nat → Int32) (q_t_ups : Nat) (t_ups : Nat → Int32) (q_u : Nat) (u_size : Int32) (u_held : Int32) (q_u_knots : Nat) (u_knots : Nat → Int32) (q_v : Nat) (v_left : Int32) (v_newEnds : Int32) (q_v_near : Nat) (v_near : Nat → Int32)   (r : Int32 × (Nat → Int32) × (Nat → Int32) × Int32 × Int32 × (Nat → Int32)) (hf : f_X0_takeApart t_size t_masks t_ups u_size u_knots v_left v_newEnds v_near = some r) : MT l cA yX0_takeApart cX0_takeApart 6 none ({ frames := 3, cells := 0, slots := 0, locals := 68 } : Room) [.ref q_t, .ref q_u, .ref q_v] [oB q_t 0 [.ref q_t_masks, .ref q_t_ups, .int t_size], aI cA q_t_masks 14 t_masks, aI cA q_t_ups 14 t_ups, oB q_u 2 [.ref q_u_knots, .int u_size, .int u_held], aI cA q_u_knots 14 u_knots, oB q_v 1 [.ref q_v_near, .int v_left, .int v_newEnds], aI cA q_v_near 14 v_near] (sB (none) [oB q_t 0 [.ref q_t_masks, .ref q_t_ups, .int r.1], aI cA q_t_masks 14 r.2.1, aI cA q_t_ups 14 r.2.2.1, oB q_u 2 [.ref q_u_knots, .int u_size, .int u_held], aI cA q_u_knots 14 u_knots, oB q_v 1 [.ref q_v_near, .int r.2.2.2.1, .int r.2.2.2.2.1], aI cA q_v_near 14 r.2.2.2.2.2]) := by
  refine MT.of (by decide) (Nat.le_of_ble_eq_true rfl) ?_
  intro X hXl C F hnm hrc hrs
  subst hXl
  have hk : 0 ≤ (x_R X).cells ∧ 0 ≤ (x_R X).slots := ⟨Nat.zero_le _, Nat.zero_le _⟩
  have hB : (sB (none) [oB q_t 0 [.ref q_t_masks, .ref q_t_ups, .int r.1], aI cA q_t_masks 14 r.2.1, aI cA q_t_ups 14 r.2.2.1, oB q_u 2 [.ref q_u_knots, .int u_size, .int u_held], aI cA q_u_knots 14 u_knots, oB q_v 1 [.ref q_v_near, .int r.2.2.2.1, .int r.2.2.2.2.1], aI cA q_v_near 14 r.2.2.2.2.2]) (none) [oB q_t 0 [.ref q_t_masks, .ref q_t_ups, .int r.1], aI cA q_t_masks 14 r.2.1, aI cA q_t_ups 14 r.2.2.1, oB q_u 2 [.ref q_u_knots, .int u_size, .int u_held], aI cA q_u_knots 14 u_knots, oB q_v 1 [.ref q_v_near, .int r.2.2.2.1, .int r.2.2.2.2.1], aI cA q_v_near 14 r.2.2.2.2.2] := ⟨rfl, rfl⟩
  unfold f_X0_takeApart at hf
  have C : Cx X cX0_takeApart RX0 none cA 3 68 6 := C
  show Go X 6 0 0 0 [oB q_t 0 [.ref q_t_masks, .ref q_t_ups, .int t_size], aI cA q_t_masks 14 t_masks, aI cA q_t_ups 14 t_ups, oB q_u 2 [.ref q_u_knots, .int u_size, .int u_held], aI cA q_u_knots 14 u_knots, oB q_v 1 [.ref q_v_near, .int v_left, .int v_newEnds], aI cA q_v_near 14 v_near] [(0, .ref q_t), (1, .ref q_u), (2, .ref q_v)] []
  refine g_aload_n C 0 0 dX0_takeApart_0 rfl rfl ?_
  refine g_aload_n C 1 1 dX0_takeApart_1 rfl rfl ?_
  refine g_get C 2 3 1 dX0_takeApart_2 inX2 rfl rfl (by decide) kw_23 rfl ?_
  refine g_puti C 5 0 2 tyX0 (fun z => [oB q_t 0 [.ref q_t_masks, .ref q_t_ups, .int z], aI cA q_t_masks 14 t_masks, aI cA q_t_ups 14 t_ups, oB q_u 2 [.ref q_u_knots, .int u_size, .int u_held], aI cA q_u_knots 14 u_knots, oB q_v 1 [.ref q_v_near, .int v_left, .int v_newEnds], aI cA q_v_near 14 v_near]) dX0_takeApart_5 inX0 tyX0_ok nmX0 rfl rfl (by decide) kw_0 rfl rfl (Nat.le_of_ble_eq_true rfl) (fun _ => rfl) hf (fun t_size_1 hf => ?_)
  refine g_iconst C 8 (0 : Int32) dX0_takeApart_8 (by decide) ?_
  refine g_istore_n C 9 (fun z => [(3, .int z), (0, .ref q_t), (1, .ref q_u), (2, .ref q_v)]) dX0_takeApart_9 rfl (by decide) (fun _ => rfl) hf (fun x3_2 hf => ?_)
  refine g_lv [1, 2, 3, 0] rfl ?_
  exact w_X0_takeApart_10 cA q_t q_t_masks q_t_ups q_u u_held q_u_knots q_v q_v_near u_size u_knots C hk F r hB NN x3_2 t_size_1 t_masks t_ups v_left v_newEnds v_near hf

def L_X0_mostKnots_4 (t_size : Int32) (t_masks : Nat → Int32)  : Nat → Int32 → Int32 → Option (Int32)
  | 0, _, _ => none
  | n + 1, x1, x2 =>
    if t_size ≤ x2 then
      some (x1)
    else
      ldA t_masks 14 x2 fun v3 =>
      cal (f_J6_bitCount_0f7a4 v3) fun u4 =>
      bnd (if x1 < u4 then u4 else x1) fun x1_5 =>
      bnd (x2 + (1 : Int32)) fun x2_6 =>
      L_X0_mostKnots_4 t_size t_masks n x1_5 x2_6

set_option maxRecDepth 100000 in
set_option maxHeartbeats 1000000 in
theorem w_X0_mostKnots_4 (cA : Nat → ClassId) (q_t : Nat) (q_t_ups : Nat) (q_t_masks : Nat) (t_size : Int32) (t_masks : Nat → Int32) {X : XT}  (C : Cx X cX0_mostKnots RX0 (some .int) cA 1 21 3) {kk nn : Nat} {BB : Option Value → va_W → Prop} (hk : kk ≤ (x_R X).cells ∧ nn ≤ (x_R X).slots) (F : Fx X BB kk nn) (r : Int32) (hB : BB (some (.int r)) [oB q_t 0 [.ref q_t_masks, .ref q_t_ups, .int t_size], aI cA q_t_masks 14 t_masks])  : ∀ (n : Nat) (x1 : Int32) (x2 : Int32), L_X0_mostKnots_4 t_size t_masks n x1 x2 = some r → Go X 3 kk nn 4 [oB q_t 0 [.ref q_t_masks, .ref q_t_ups, .int t_size], aI cA q_t_masks 14 t_masks] [(0, .ref q_t), (1, .int x1), (2, .int x2)] [] := by
  intro n
  induction n with
  | zero => intro x1 x2 hf; exact no_some hf
  | succ n ih =>
    intro x1 x2 hf
    rw [L_X0_mostKnots_4] at hf
    refine g_iload_n C 4 2 dX0_mostKnots_4 rfl rfl ?_
    refine g_aload_n C 5 0 dX0_mostKnots_5 rfl rfl ?_
    refine g_get C 6 0 2 dX0_mostKnots_6 inX0 rfl rfl (by decide) kw_0 rfl ?_
    refine g_icmp_ge C 9 32 dX0_mostKnots_9 (by decide) hf (fun hf => ?_) (fun hf => ?_)
    · refine g_iload_n C 32 1 dX0_mostKnots_32 rfl rfl ?_
      cases hf
      exact g_iret C 33 dX0_mostKnots_33 F hB
    · refine g_iload_n C 12 1 dX0_mostKnots_12 rfl rfl ?_
      refine g_aload_n C 13 0 dX0_mostKnots_13 rfl rfl ?_
      refine g_get C 14 0 0 dX0_mostKnots_14 inX0 rfl rfl (by decide) kw_1 rfl ?_
      refine g_iload_n C 17 2 dX0_mostKnots_17 rfl rfl ?_
      refine g_iald C 18 1 dX0_mostKnots_18 rfl hf (fun v3 hf => ?_)
      obtain ⟨u4, hu4, hf⟩ := cal_some hf
      refine g_callS C 19 [] (rest := [.int x1]) dX0_mostKnots_19 (c_J6_bitCount_0f7a4 (x_l X) cA v3 u4 hu4) kw_35 kw_20 kw_21 kw_22 ok_J6_bitCount_0f7a4 ⟨Nat.le_of_ble_eq_true rfl, Nat.le_of_ble_eq_true rfl⟩ hk ⟨rfl, rfl⟩ rfl rfl rfl (Nat.le_of_ble_eq_true rfl) rfl (ws' := [oB q_t 0 [.ref q_t_masks, .ref q_t_ups, .int t_size], aI cA q_t_masks 14 t_masks]) (st' := [.int u4, .int x1]) (N0 := 2) rfl [none, none] (by decide) rfl rfl ?_
      refine g_max C 22 dX0_mostKnots_22 kw_36 kw_37 kw_38 kw_39 (by decide) (Nat.le_of_ble_eq_true rfl) hk.1 hk.2 ?_
      refine g_istore_n C 25 (fun z => [(1, .int z), (0, .ref q_t), (2, .int x2)]) dX0_mostKnots_25 rfl (by decide) (fun _ => rfl) hf (fun x1_5 hf => ?_)
      refine g_iinc C 26 2 (v := x2 + (1 : Int32)) (fun z => [(2, .int z), (1, .int x1_5), (0, .ref q_t)]) dX0_mostKnots_26 rfl rfl (by decide) (fun _ => rfl) hf (fun x2_6 hf => ?_)
      refine g_goto C 29 4 dX0_mostKnots_29 (by decide) ?_
      refine g_lv [2, 1, 0] rfl ?_
      exact ih x1_5 x2_6 hf
def f_X0_mostKnots (t_size : Int32) (t_masks : Nat → Int32) : Option (Int32) :=
  bnd (0 : Int32) fun x1_1 =>
  bnd (0 : Int32) fun x2_2 =>
  L_X0_mostKnots_4 t_size t_masks NN x1_1 x2_2

set_option maxRecDepth 100000 in
set_option maxHeartbeats 1000000 in
theorem c_X0_mostKnots (l : Launch) (cA : Nat → ClassId) (q_t : Nat) (q_t_ups : Nat) (t_size : Int32) (q_t_masks : Nat) (t_masks : Nat → Int32)   (r : Int32) (hf : f_X0_mostKnots t_size t_masks = some r) : MT l cA yX0_mostKnots cX0_mostKnots 3 (some .int) ({ frames := 1, cells := 0, slots := 0, locals := 21 } : Room) [.ref q_t] [oB q_t 0 [.ref q_t_masks, .ref q_t_ups, .int t_size], aI cA q_t_masks 14 t_masks] (sB (some (.int r)) [oB q_t 0 [.ref q_t_masks, .ref q_t_ups, .int t_size], aI cA q_t_masks 14 t_masks]) := by
  refine MT.of (by decide) (Nat.le_of_ble_eq_true rfl) ?_
  intro X hXl C F hnm hrc hrs
  subst hXl
  have hk : 0 ≤ (x_R X).cells ∧ 0 ≤ (x_R X).slots := ⟨Nat.zero_le _, Nat.zero_le _⟩
  have hB : (sB (some (.int r)) [oB q_t 0 [.ref q_t_masks, .ref q_t_ups, .int t_size], aI cA q_t_masks 14 t_masks]) (some (.int r)) [oB q_t 0 [.ref q_t_masks, .ref q_t_ups, .int t_size], aI cA q_t_masks 14 t_masks] := ⟨rfl, rfl⟩
  unfold f_X0_mostKnots at hf
  have C : Cx X cX0_mostKnots RX0 (some .int) cA 1 21 3 := C
  show Go X 3 0 0 0 [oB q_t 0 [.ref q_t_masks, .ref q_t_ups, .int t_size], aI cA q_t_masks 14 t_masks] [(0, .ref q_t)] []
  refine g_iconst C 0 (0 : Int32) dX0_mostKnots_0 (by decide) ?_
  refine g_istore_n C 1 (fun z => [(1, .int z), (0, .ref q_t)]) dX0_mostKnots_1 rfl (by decide) (fun _ => rfl) hf (fun x1_1 hf => ?_)
  refine g_iconst C 2 (0 : Int32) dX0_mostKnots_2 (by decide) ?_
  refine g_istore_n C 3 (fun z => [(2, .int z), (1, .int x1_1), (0, .ref q_t)]) dX0_mostKnots_3 rfl (by decide) (fun _ => rfl) hf (fun x2_2 hf => ?_)
  refine g_lv [2, 1, 0] rfl ?_
  exact w_X0_mostKnots_4 cA q_t q_t_ups q_t_masks t_size t_masks C hk F r hB NN x1_1 x2_2 hf

def L_X0_hangingOn_4 (a1 : Int32) (t_size : Int32) (t_ups : Nat → Int32)  : Nat → Int32 → Int32 → Option (Int32)
  | 0, _, _ => none
  | n + 1, x2, x3 =>
    if t_size ≤ x3 then
      some (x2)
    else
      ldA t_ups 14 x3 fun v3 =>
      if v3 = a1 then
        bnd (x2 + (1 : Int32)) fun x2_5 =>
        bnd (x3 + (1 : Int32)) fun x3_6 =>
        L_X0_hangingOn_4 a1 t_size t_ups n x2_5 x3_6
      else
        bnd (x3 + (1 : Int32)) fun x3_4 =>
        L_X0_hangingOn_4 a1 t_size t_ups n x2 x3_4

set_option maxRecDepth 100000 in
set_option maxHeartbeats 1000000 in
theorem w_X0_hangingOn_4 (cA : Nat → ClassId) (q_t : Nat) (q_t_masks : Nat) (q_t_ups : Nat) (a1 : Int32) (t_size : Int32) (t_ups : Nat → Int32) {X : XT}  (C : Cx X cX0_hangingOn RX0 (some .int) cA 0 0 4) {kk nn : Nat} {BB : Option Value → va_W → Prop} (hk : kk ≤ (x_R X).cells ∧ nn ≤ (x_R X).slots) (F : Fx X BB kk nn) (r : Int32) (hB : BB (some (.int r)) [oB q_t 0 [.ref q_t_masks, .ref q_t_ups, .int t_size], aI cA q_t_ups 14 t_ups])  : ∀ (n : Nat) (x2 : Int32) (x3 : Int32), L_X0_hangingOn_4 a1 t_size t_ups n x2 x3 = some r → Go X 4 kk nn 4 [oB q_t 0 [.ref q_t_masks, .ref q_t_ups, .int t_size], aI cA q_t_ups 14 t_ups] [(0, .ref q_t), (1, .int a1), (2, .int x2), (3, .int x3)] [] := by
  intro n
  induction n with
  | zero => intro x2 x3 hf; exact no_some hf
  | succ n ih =>
    intro x2 x3 hf
    rw [L_X0_hangingOn_4] at hf
    refine g_iload_n C 4 3 dX0_hangingOn_4 rfl rfl ?_
    refine g_aload_n C 5 0 dX0_hangingOn_5 rfl rfl ?_
    refine g_get C 6 0 2 dX0_hangingOn_6 inX0 rfl rfl (by decide) kw_0 rfl ?_
    refine g_icmp_ge C 9 31 dX0_hangingOn_9 (by decide) hf (fun hf => ?_) (fun hf => ?_)
    · refine g_iload_n C 31 2 dX0_hangingOn_31 rfl rfl ?_
      cases hf
      exact g_iret C 32 dX0_hangingOn_32 F hB
    · refine g_aload_n C 12 0 dX0_hangingOn_12 rfl rfl ?_
      refine g_get C 13 0 1 dX0_hangingOn_13 inX0 rfl rfl (by decide) kw_2 rfl ?_
      refine g_iload_n C 16 3 dX0_hangingOn_16 rfl rfl ?_
      refine g_iald C 17 1 dX0_hangingOn_17 rfl hf (fun v3 hf => ?_)
      refine g_iload_n C 18 1 dX0_hangingOn_18 rfl rfl ?_
      refine g_icmp_ne C 19 25 dX0_hangingOn_19 (by decide) hf (fun hf => ?_) (fun hf => ?_)
      · refine g_iinc C 25 3 (v := x3 + (1 : Int32)) (fun z => [(3, .int z), (0, .ref q_t), (1, .int a1), (2, .int x2)]) dX0_hangingOn_25 rfl rfl (by decide) (fun _ => rfl) hf (fun x3_4 hf => ?_)
        refine g_goto C 28 4 dX0_hangingOn_28 (by decide) ?_
        refine g_lv [1, 2, 3, 0] rfl ?_
        exact ih x2 x3_4 hf
      · refine g_iinc C 22 2 (v := x2 + (1 : Int32)) (fun z => [(2, .int z), (0, .ref q_t), (1, .int a1), (3, .int x3)]) dX0_hangingOn_22 rfl rfl (by decide) (fun _ => rfl) hf (fun x2_5 hf => ?_)
        refine g_iinc C 25 3 (v := x3 + (1 : Int32)) (fun z => [(3, .int z), (2, .int x2_5), (0, .ref q_t), (1, .int a1)]) dX0_hangingOn_25 rfl rfl (by decide) (fun _ => rfl) hf (fun x3_6 hf => ?_)
        refine g_goto C 28 4 dX0_hangingOn_28 (by decide) ?_
        refine g_lv [2, 3, 1, 0] rfl ?_
        exact ih x2_5 x3_6 hf
def f_X0_hangingOn (a1 : Int32) (t_size : Int32) (t_ups : Nat → Int32) : Option (Int32) :=
  bnd (0 : Int32) fun x2_1 =>
  bnd (0 : Int32) fun x3_2 =>
  L_X0_hangingOn_4 a1 t_size t_ups NN x2_1 x3_2

set_option maxRecDepth 100000 in
set_option maxHeartbeats 1000000 in
theorem c_X0_hangingOn (l : Launch) (cA : Nat → ClassId) (q_t : Nat) (q_t_masks : Nat) (t_size : Int32) (q_t_ups : Nat) (t_ups : Nat → Int32)  (a1 : Int32) (r : Int32) (hf : f_X0_hangingOn a1 t_size t_ups = some r) : MT l cA yX0_hangingOn cX0_hangingOn 4 (some .int) ({ frames := 0, cells := 0, slots := 0, locals := 0 } : Room) [.ref q_t, .int a1] [oB q_t 0 [.ref q_t_masks, .ref q_t_ups, .int t_size], aI cA q_t_ups 14 t_ups] (sB (some (.int r)) [oB q_t 0 [.ref q_t_masks, .ref q_t_ups, .int t_size], aI cA q_t_ups 14 t_ups]) := by
  refine MT.of (by decide) (Nat.le_of_ble_eq_true rfl) ?_
  intro X hXl C F hnm hrc hrs
  subst hXl
  have hk : 0 ≤ (x_R X).cells ∧ 0 ≤ (x_R X).slots := ⟨Nat.zero_le _, Nat.zero_le _⟩
  have hB : (sB (some (.int r)) [oB q_t 0 [.ref q_t_masks, .ref q_t_ups, .int t_size], aI cA q_t_ups 14 t_ups]) (some (.int r)) [oB q_t 0 [.ref q_t_masks, .ref q_t_ups, .int t_size], aI cA q_t_ups 14 t_ups] := ⟨rfl, rfl⟩
  unfold f_X0_hangingOn at hf
  have C : Cx X cX0_hangingOn RX0 (some .int) cA 0 0 4 := C
  show Go X 4 0 0 0 [oB q_t 0 [.ref q_t_masks, .ref q_t_ups, .int t_size], aI cA q_t_ups 14 t_ups] [(0, .ref q_t), (1, .int a1)] []
  refine g_iconst C 0 (0 : Int32) dX0_hangingOn_0 (by decide) ?_
  refine g_istore_n C 1 (fun z => [(2, .int z), (0, .ref q_t), (1, .int a1)]) dX0_hangingOn_1 rfl (by decide) (fun _ => rfl) hf (fun x2_1 hf => ?_)
  refine g_iconst C 2 (0 : Int32) dX0_hangingOn_2 (by decide) ?_
  refine g_istore_n C 3 (fun z => [(3, .int z), (2, .int x2_1), (0, .ref q_t), (1, .int a1)]) dX0_hangingOn_3 rfl (by decide) (fun _ => rfl) hf (fun x3_2 hf => ?_)
  refine g_lv [2, 3, 1, 0] rfl ?_
  exact w_X0_hangingOn_4 cA q_t q_t_masks q_t_ups a1 t_size t_ups C hk F r hB NN x2_1 x3_2 hf

def f_X0_endingIn (a1 : Int32) (t_size : Int32) (t_masks : Nat → Int32) (t_ups : Nat → Int32) : Option (Int32) :=
  ldA t_ups 14 a1 fun v1 =>
  bnd v1 fun x2_2 =>
  cal (f_X0_has x2_2 t_size) fun u3 =>
  if u3 = 0 then
    ldA t_masks 14 a1 fun v4 =>
    some (v4)
  else
    ldA t_masks 14 a1 fun v5 =>
    ldA t_masks 14 x2_2 fun v6 =>
    some ((v5 &&& (v6 ^^^ (-1 : Int32))))

set_option maxRecDepth 100000 in
set_option maxHeartbeats 1000000 in
theorem c_X0_endingIn (l : Launch) (cA : Nat → ClassId) (q_t : Nat) (t_size : Int32) (q_t_masks : Nat) (t_masks : Nat → Int32) (q_t_ups : Nat) (t_ups : Nat → Int32)  (a1 : Int32) (r : Int32) (hf : f_X0_endingIn a1 t_size t_masks t_ups = some r) : MT l cA yX0_endingIn cX0_endingIn 3 (some .int) ({ frames := 1, cells := 0, slots := 0, locals := 21 } : Room) [.ref q_t, .int a1] [oB q_t 0 [.ref q_t_masks, .ref q_t_ups, .int t_size], aI cA q_t_masks 14 t_masks, aI cA q_t_ups 14 t_ups] (sB (some (.int r)) [oB q_t 0 [.ref q_t_masks, .ref q_t_ups, .int t_size], aI cA q_t_masks 14 t_masks, aI cA q_t_ups 14 t_ups]) := by
  refine MT.of (by decide) (Nat.le_of_ble_eq_true rfl) ?_
  intro X hXl C F hnm hrc hrs
  subst hXl
  have hk : 0 ≤ (x_R X).cells ∧ 0 ≤ (x_R X).slots := ⟨Nat.zero_le _, Nat.zero_le _⟩
  have hB : (sB (some (.int r)) [oB q_t 0 [.ref q_t_masks, .ref q_t_ups, .int t_size], aI cA q_t_masks 14 t_masks, aI cA q_t_ups 14 t_ups]) (some (.int r)) [oB q_t 0 [.ref q_t_masks, .ref q_t_ups, .int t_size], aI cA q_t_masks 14 t_masks, aI cA q_t_ups 14 t_ups] := ⟨rfl, rfl⟩
  unfold f_X0_endingIn at hf
  have C : Cx X cX0_endingIn RX0 (some .int) cA 1 21 3 := C
  show Go X 3 0 0 0 [oB q_t 0 [.ref q_t_masks, .ref q_t_ups, .int t_size], aI cA q_t_masks 14 t_masks, aI cA q_t_ups 14 t_ups] [(0, .ref q_t), (1, .int a1)] []
  refine g_aload_n C 0 0 dX0_endingIn_0 rfl rfl ?_
  refine g_get C 1 0 1 dX0_endingIn_1 inX0 rfl rfl (by decide) kw_2 rfl ?_
  refine g_iload_n C 4 1 dX0_endingIn_4 rfl rfl ?_
  refine g_iald C 5 2 dX0_endingIn_5 rfl hf (fun v1 hf => ?_)
  refine g_istore_n C 6 (fun z => [(2, .int z), (0, .ref q_t), (1, .int a1)]) dX0_endingIn_6 rfl (by decide) (fun _ => rfl) hf (fun x2_2 hf => ?_)
  refine g_aload_n C 7 1 dX0_endingIn_7 rfl rfl ?_
  refine g_iload_n C 8 0 dX0_endingIn_8 rfl rfl ?_
  obtain ⟨u3, hu3, hf⟩ := cal_some hf
  refine g_callV1 C 9 [0] 0 (rest := []) dX0_endingIn_9 (c_X0_has (x_l X) cA q_t q_t_masks q_t_ups t_size x2_2 u3 hu3) kw_40 kw_41 kw_42 kw_43 kw_44 ok_X0_has ⟨Nat.le_of_ble_eq_true rfl, Nat.le_of_ble_eq_true rfl⟩ hk ⟨rfl, rfl⟩ rfl rfl rfl rfl rfl (Nat.le_of_ble_eq_true rfl) rfl (ws' := [oB q_t 0 [.ref q_t_masks, .ref q_t_ups, .int t_size], aI cA q_t_masks 14 t_masks, aI cA q_t_ups 14 t_ups]) (st' := [.int u3]) (N0 := 3) rfl [some 0, none, none] (by decide) rfl rfl ?_
  refine g_if_eq C 12 33 dX0_endingIn_12 (by decide) hf (fun hf => ?_) (fun hf => ?_)
  · refine g_aload_n C 33 1 dX0_endingIn_33 rfl rfl ?_
    refine g_get C 34 0 0 dX0_endingIn_34 inX0 rfl rfl (by decide) kw_1 rfl ?_
    refine g_iload_n C 37 2 dX0_endingIn_37 rfl rfl ?_
    refine g_iald C 38 1 dX0_endingIn_38 rfl hf (fun v4 hf => ?_)
    cases hf
    exact g_iret C 39 dX0_endingIn_39 F hB
  · refine g_aload_n C 15 1 dX0_endingIn_15 rfl rfl ?_
    refine g_get C 16 0 0 dX0_endingIn_16 inX0 rfl rfl (by decide) kw_1 rfl ?_
    refine g_iload_n C 19 2 dX0_endingIn_19 rfl rfl ?_
    refine g_iald C 20 1 dX0_endingIn_20 rfl hf (fun v5 hf => ?_)
    refine g_aload_n C 21 1 dX0_endingIn_21 rfl rfl ?_
    refine g_get C 22 0 0 dX0_endingIn_22 inX0 rfl rfl (by decide) kw_1 rfl ?_
    refine g_iload_n C 25 0 dX0_endingIn_25 rfl rfl ?_
    refine g_iald C 26 1 dX0_endingIn_26 rfl hf (fun v6 hf => ?_)
    refine g_iconst C 27 (-1 : Int32) dX0_endingIn_27 (by decide) ?_
    refine g_ixor C 28 dX0_endingIn_28 ?_
    refine g_iand C 29 dX0_endingIn_29 ?_
    refine g_goto C 30 39 dX0_endingIn_30 (by decide) ?_
    cases hf
    exact g_iret C 39 dX0_endingIn_39 F hB

def L_X0_matesOf_4 (a1 : Int32) (t_size : Int32) (t_masks : Nat → Int32)  : Nat → Int32 → Int32 → Option (Int32)
  | 0, _, _ => none
  | n + 1, x2, x3 =>
    if t_size ≤ x3 then
      some (x2)
    else
      ldA t_masks 14 x3 fun v3 =>
      cal (f_X8_hasBit v3 a1) fun u4 =>
      if u4 = 0 then
        bnd (x3 + (1 : Int32)) fun x3_5 =>
        L_X0_matesOf_4 a1 t_size t_masks n x2 x3_5
      else
        ldA t_masks 14 x3 fun v6 =>
        bnd (x2 ||| v6) fun x2_7 =>
        bnd (x3 + (1 : Int32)) fun x3_8 =>
        L_X0_matesOf_4 a1 t_size t_masks n x2_7 x3_8

set_option maxRecDepth 100000 in
set_option maxHeartbeats 1000000 in
theorem w_X0_matesOf_4 (cA : Nat → ClassId) (q_t : Nat) (q_t_ups : Nat) (q_t_masks : Nat) (a1 : Int32) (t_size : Int32) (t_masks : Nat → Int32) {X : XT}  (C : Cx X cX0_matesOf RX0 (some .int) cA 1 21 4) {kk nn : Nat} {BB : Option Value → va_W → Prop} (hk : kk ≤ (x_R X).cells ∧ nn ≤ (x_R X).slots) (F : Fx X BB kk nn) (r : Int32) (hB : BB (some (.int r)) [oB q_t 0 [.ref q_t_masks, .ref q_t_ups, .int t_size], aI cA q_t_masks 14 t_masks])  : ∀ (n : Nat) (x2 : Int32) (x3 : Int32), L_X0_matesOf_4 a1 t_size t_masks n x2 x3 = some r → Go X 4 kk nn 4 [oB q_t 0 [.ref q_t_masks, .ref q_t_ups, .int t_size], aI cA q_t_masks 14 t_masks] [(0, .ref q_t), (1, .int a1), (2, .int x2), (3, .int x3)] [] := by
  intro n
  induction n with
  | zero => intro x2 x3 hf; exact no_some hf
  | succ n ih =>
    intro x2 x3 hf
    rw [L_X0_matesOf_4] at hf
    refine g_iload_n C 4 3 dX0_matesOf_4 rfl rfl ?_
    refine g_aload_n C 5 0 dX0_matesOf_5 rfl rfl ?_
    refine g_get C 6 0 2 dX0_matesOf_6 inX0 rfl rfl (by decide) kw_0 rfl ?_
    refine g_icmp_ge C 9 40 dX0_matesOf_9 (by decide) hf (fun hf => ?_) (fun hf => ?_)
    · refine g_iload_n C 40 2 dX0_matesOf_40 rfl rfl ?_
      cases hf
      exact g_iret C 41 dX0_matesOf_41 F hB
    · refine g_aload_n C 12 0 dX0_matesOf_12 rfl rfl ?_
      refine g_get C 13 0 0 dX0_matesOf_13 inX0 rfl rfl (by decide) kw_1 rfl ?_
      refine g_iload_n C 16 3 dX0_matesOf_16 rfl rfl ?_
      refine g_iald C 17 1 dX0_matesOf_17 rfl hf (fun v3 hf => ?_)
      refine g_iload_n C 18 1 dX0_matesOf_18 rfl rfl ?_
      obtain ⟨u4, hu4, hf⟩ := cal_some hf
      refine g_callSN C 19 [] (rest := []) dX0_matesOf_19 (c_X8_hasBit (x_l X) cA v3 a1 u4 hu4) (List.mem_of_getElem? (i := 12) rfl) kw_5 kw_6 kw_7 ok_X8_hasBit ⟨Nat.le_of_ble_eq_true rfl, Nat.le_of_ble_eq_true rfl⟩ hk ⟨rfl, rfl⟩ rfl rfl rfl (Nat.le_of_ble_eq_true rfl) rfl (ws' := [oB q_t 0 [.ref q_t_masks, .ref q_t_ups, .int t_size], aI cA q_t_masks 14 t_masks]) (st' := [.int u4]) (N0 := 2) rfl [none, none] (by decide) rfl rfl ?_
      refine g_if_eq C 22 34 dX0_matesOf_22 (by decide) hf (fun hf => ?_) (fun hf => ?_)
      · refine g_iinc C 34 3 (v := x3 + (1 : Int32)) (fun z => [(3, .int z), (0, .ref q_t), (1, .int a1), (2, .int x2)]) dX0_matesOf_34 rfl rfl (by decide) (fun _ => rfl) hf (fun x3_5 hf => ?_)
        refine g_goto C 37 4 dX0_matesOf_37 (by decide) ?_
        refine g_lv [1, 2, 3, 0] rfl ?_
        exact ih x2 x3_5 hf
      · refine g_iload_n C 25 2 dX0_matesOf_25 rfl rfl ?_
        refine g_aload_n C 26 0 dX0_matesOf_26 rfl rfl ?_
        refine g_get C 27 0 0 dX0_matesOf_27 inX0 rfl rfl (by decide) kw_1 rfl ?_
        refine g_iload_n C 30 3 dX0_matesOf_30 rfl rfl ?_
        refine g_iald C 31 1 dX0_matesOf_31 rfl hf (fun v6 hf => ?_)
        refine g_ior C 32 dX0_matesOf_32 ?_
        refine g_istore_n C 33 (fun z => [(2, .int z), (0, .ref q_t), (1, .int a1), (3, .int x3)]) dX0_matesOf_33 rfl (by decide) (fun _ => rfl) hf (fun x2_7 hf => ?_)
        refine g_iinc C 34 3 (v := x3 + (1 : Int32)) (fun z => [(3, .int z), (2, .int x2_7), (0, .ref q_t), (1, .int a1)]) dX0_matesOf_34 rfl rfl (by decide) (fun _ => rfl) hf (fun x3_8 hf => ?_)
        refine g_goto C 37 4 dX0_matesOf_37 (by decide) ?_
        refine g_lv [2, 3, 1, 0] rfl ?_
        exact ih x2_7 x3_8 hf
def f_X0_matesOf (a1 : Int32) (t_size : Int32) (t_masks : Nat → Int32) : Option (Int32) :=
  bnd (0 : Int32) fun x2_1 =>
  bnd (0 : Int32) fun x3_2 =>
  L_X0_matesOf_4 a1 t_size t_masks NN x2_1 x3_2

set_option maxRecDepth 100000 in
set_option maxHeartbeats 1000000 in
theorem c_X0_matesOf (l : Launch) (cA : Nat → ClassId) (q_t : Nat) (q_t_ups : Nat) (t_size : Int32) (q_t_masks : Nat) (t_masks : Nat → Int32)  (a1 : Int32) (r : Int32) (hf : f_X0_matesOf a1 t_size t_masks = some r) : MT l cA yX0_matesOf cX0_matesOf 4 (some .int) ({ frames := 1, cells := 0, slots := 0, locals := 21 } : Room) [.ref q_t, .int a1] [oB q_t 0 [.ref q_t_masks, .ref q_t_ups, .int t_size], aI cA q_t_masks 14 t_masks] (sB (some (.int r)) [oB q_t 0 [.ref q_t_masks, .ref q_t_ups, .int t_size], aI cA q_t_masks 14 t_masks]) := by
  refine MT.of (by decide) (Nat.le_of_ble_eq_true rfl) ?_
  intro X hXl C F hnm hrc hrs
  subst hXl
  have hk : 0 ≤ (x_R X).cells ∧ 0 ≤ (x_R X).slots := ⟨Nat.zero_le _, Nat.zero_le _⟩
  have hB : (sB (some (.int r)) [oB q_t 0 [.ref q_t_masks, .ref q_t_ups, .int t_size], aI cA q_t_masks 14 t_masks]) (some (.int r)) [oB q_t 0 [.ref q_t_masks, .ref q_t_ups, .int t_size], aI cA q_t_masks 14 t_masks] := ⟨rfl, rfl⟩
  unfold f_X0_matesOf at hf
  have C : Cx X cX0_matesOf RX0 (some .int) cA 1 21 4 := C
  show Go X 4 0 0 0 [oB q_t 0 [.ref q_t_masks, .ref q_t_ups, .int t_size], aI cA q_t_masks 14 t_masks] [(0, .ref q_t), (1, .int a1)] []
  refine g_iconst C 0 (0 : Int32) dX0_matesOf_0 (by decide) ?_
  refine g_istore_n C 1 (fun z => [(2, .int z), (0, .ref q_t), (1, .int a1)]) dX0_matesOf_1 rfl (by decide) (fun _ => rfl) hf (fun x2_1 hf => ?_)
  refine g_iconst C 2 (0 : Int32) dX0_matesOf_2 (by decide) ?_
  refine g_istore_n C 3 (fun z => [(3, .int z), (2, .int x2_1), (0, .ref q_t), (1, .int a1)]) dX0_matesOf_3 rfl (by decide) (fun _ => rfl) hf (fun x3_2 hf => ?_)
  refine g_lv [2, 3, 1, 0] rfl ?_
  exact w_X0_matesOf_4 cA q_t q_t_ups q_t_masks a1 t_size t_masks C hk F r hB NN x2_1 x3_2 hf

def L_X0_holdTogether_2 (a1 : Int32) (t_size : Int32) (t_masks : Nat → Int32)  : Nat → Int32 → Option (Int32)
  | 0, _ => none
  | n + 1, x2 =>
    if t_size ≤ x2 then
      some ((0 : Int32))
    else
      ldA t_masks 14 x2 fun v2 =>
      if (a1 &&& (v2 ^^^ (-1 : Int32))) = 0 then
        some ((1 : Int32))
      else
        bnd (x2 + (1 : Int32)) fun x2_3 =>
        L_X0_holdTogether_2 a1 t_size t_masks n x2_3

set_option maxRecDepth 100000 in
set_option maxHeartbeats 1000000 in
theorem w_X0_holdTogether_2 (cA : Nat → ClassId) (q_t : Nat) (q_t_ups : Nat) (q_t_masks : Nat) (a1 : Int32) (t_size : Int32) (t_masks : Nat → Int32) {X : XT}  (C : Cx X cX0_holdTogether RX0 (some .boolean) cA 0 0 3) {kk nn : Nat} {BB : Option Value → va_W → Prop} (hk : kk ≤ (x_R X).cells ∧ nn ≤ (x_R X).slots) (F : Fx X BB kk nn) (r : Int32) (hB : BB (some (.int r)) [oB q_t 0 [.ref q_t_masks, .ref q_t_ups, .int t_size], aI cA q_t_masks 14 t_masks])  : ∀ (n : Nat) (x2 : Int32), L_X0_holdTogether_2 a1 t_size t_masks n x2 = some r → Go X 3 kk nn 2 [oB q_t 0 [.ref q_t_masks, .ref q_t_ups, .int t_size], aI cA q_t_masks 14 t_masks] [(0, .ref q_t), (1, .int a1), (2, .int x2)] [] := by
  intro n
  induction n with
  | zero => intro x2 hf; exact no_some hf
  | succ n ih =>
    intro x2 hf
    rw [L_X0_holdTogether_2] at hf
    refine g_iload_n C 2 2 dX0_holdTogether_2 rfl rfl ?_
    refine g_aload_n C 3 0 dX0_holdTogether_3 rfl rfl ?_
    refine g_get C 4 0 2 dX0_holdTogether_4 inX0 rfl rfl (by decide) kw_0 rfl ?_
    refine g_icmp_ge C 7 31 dX0_holdTogether_7 (by decide) hf (fun hf => ?_) (fun hf => ?_)
    · refine g_iconst C 31 (0 : Int32) dX0_holdTogether_31 (by decide) ?_
      cases hf
      exact g_zret C 32 dX0_holdTogether_32 (by decide) F hB
    · refine g_iload_n C 10 1 dX0_holdTogether_10 rfl rfl ?_
      refine g_aload_n C 11 0 dX0_holdTogether_11 rfl rfl ?_
      refine g_get C 12 0 0 dX0_holdTogether_12 inX0 rfl rfl (by decide) kw_1 rfl ?_
      refine g_iload_n C 15 2 dX0_holdTogether_15 rfl rfl ?_
      refine g_iald C 16 1 dX0_holdTogether_16 rfl hf (fun v2 hf => ?_)
      refine g_iconst C 17 (-1 : Int32) dX0_holdTogether_17 (by decide) ?_
      refine g_ixor C 18 dX0_holdTogether_18 ?_
      refine g_iand C 19 dX0_holdTogether_19 ?_
      refine g_if_ne C 20 25 dX0_holdTogether_20 (by decide) hf (fun hf => ?_) (fun hf => ?_)
      · refine g_iinc C 25 2 (v := x2 + (1 : Int32)) (fun z => [(2, .int z), (0, .ref q_t), (1, .int a1)]) dX0_holdTogether_25 rfl rfl (by decide) (fun _ => rfl) hf (fun x2_3 hf => ?_)
        refine g_goto C 28 2 dX0_holdTogether_28 (by decide) ?_
        refine g_lv [1, 2, 0] rfl ?_
        exact ih x2_3 hf
      · refine g_iconst C 23 (1 : Int32) dX0_holdTogether_23 (by decide) ?_
        cases hf
        exact g_zret C 24 dX0_holdTogether_24 (by decide) F hB
def f_X0_holdTogether (a1 : Int32) (t_size : Int32) (t_masks : Nat → Int32) : Option (Int32) :=
  bnd (0 : Int32) fun x2_1 =>
  L_X0_holdTogether_2 a1 t_size t_masks NN x2_1

set_option maxRecDepth 100000 in
set_option maxHeartbeats 1000000 in
theorem c_X0_holdTogether (l : Launch) (cA : Nat → ClassId) (q_t : Nat) (q_t_ups : Nat) (t_size : Int32) (q_t_masks : Nat) (t_masks : Nat → Int32)  (a1 : Int32) (r : Int32) (hf : f_X0_holdTogether a1 t_size t_masks = some r) : MT l cA yX0_holdTogether cX0_holdTogether 3 (some .boolean) ({ frames := 0, cells := 0, slots := 0, locals := 0 } : Room) [.ref q_t, .int a1] [oB q_t 0 [.ref q_t_masks, .ref q_t_ups, .int t_size], aI cA q_t_masks 14 t_masks] (sB (some (.int r)) [oB q_t 0 [.ref q_t_masks, .ref q_t_ups, .int t_size], aI cA q_t_masks 14 t_masks]) := by
  refine MT.of (by decide) (Nat.le_of_ble_eq_true rfl) ?_
  intro X hXl C F hnm hrc hrs
  subst hXl
  have hk : 0 ≤ (x_R X).cells ∧ 0 ≤ (x_R X).slots := ⟨Nat.zero_le _, Nat.zero_le _⟩
  have hB : (sB (some (.int r)) [oB q_t 0 [.ref q_t_masks, .ref q_t_ups, .int t_size], aI cA q_t_masks 14 t_masks]) (some (.int r)) [oB q_t 0 [.ref q_t_masks, .ref q_t_ups, .int t_size], aI cA q_t_masks 14 t_masks] := ⟨rfl, rfl⟩
  unfold f_X0_holdTogether at hf
  have C : Cx X cX0_holdTogether RX0 (some .boolean) cA 0 0 3 := C
  show Go X 3 0 0 0 [oB q_t 0 [.ref q_t_masks, .ref q_t_ups, .int t_size], aI cA q_t_masks 14 t_masks] [(0, .ref q_t), (1, .int a1)] []
  refine g_iconst C 0 (0 : Int32) dX0_holdTogether_0 (by decide) ?_
  refine g_istore_n C 1 (fun z => [(2, .int z), (0, .ref q_t), (1, .int a1)]) dX0_holdTogether_1 rfl (by decide) (fun _ => rfl) hf (fun x2_1 hf => ?_)
  refine g_lv [1, 2, 0] rfl ?_
  exact w_X0_holdTogether_2 cA q_t q_t_ups q_t_masks a1 t_size t_masks C hk F r hB NN x2_1 hf

def L_X0_looseEdge_14 (t_size : Int32) (t_masks : Nat → Int32) (u_size : Int32) (u_near : Nat → Int32) (k_2 : Int32 → Option (Int32)) : Nat → Int32 → Int32 → Option (Int32)
  | 0, _, _ => none
  | n + 1, x2, x3 =>
    if u_size ≤ x3 then
      bnd (x2 + (1 : Int32)) fun x2_3 =>
      k_2 x2_3
    else
      cal (f_X4_joined x2 x3 u_size u_near) fun u4 =>
      if u4 = 0 then
        bnd (x3 + (1 : Int32)) fun x3_5 =>
        L_X0_looseEdge_14 t_size t_masks u_size u_near k_2 n x2 x3_5
      else
        cal (f_X0_holdTogether (((1 : Int32) <<< (x2 &&& 31)) ||| ((1 : Int32) <<< (x3 &&& 31))) t_size t_masks) fun u6 =>
        if u6 = 0 then
          some ((((1 : Int32) + ((16 : Int32) * x2)) + x3))
        else
          bnd (x3 + (1 : Int32)) fun x3_7 =>
          L_X0_looseEdge_14 t_size t_masks u_size u_near k_2 n x2 x3_7

set_option maxRecDepth 100000 in
set_option maxHeartbeats 1000000 in
theorem w_X0_looseEdge_14 (cA : Nat → ClassId) (q_t : Nat) (q_t_ups : Nat) (q_t_masks : Nat) (q_u : Nat) (q_u_loads : Nat) (q_u_ties : Nat) (u_edges : Int32) (q_u_near : Nat) (t_size : Int32) (t_masks : Nat → Int32) (u_size : Int32) (u_near : Nat → Int32) {X : XT}  (C : Cx X cX0_looseEdge RX0 (some .int) cA 2 43 4) {kk nn : Nat} {BB : Option Value → va_W → Prop} (hk : kk ≤ (x_R X).cells ∧ nn ≤ (x_R X).slots) (F : Fx X BB kk nn) (r : Int32) (hB : BB (some (.int r)) [oB q_t 0 [.ref q_t_masks, .ref q_t_ups, .int t_size], aI cA q_t_masks 14 t_masks, oB q_u 4 [.ref q_u_loads, .ref q_u_near, .ref q_u_ties, .int u_size, .int u_edges], aI cA q_u_near 14 u_near]) (k_2 : Int32 → Option (Int32)) (h_2 : ∀ (x2 : Int32), k_2 x2 = some r → Go X 4 kk nn 2 [oB q_t 0 [.ref q_t_masks, .ref q_t_ups, .int t_size], aI cA q_t_masks 14 t_masks, oB q_u 4 [.ref q_u_loads, .ref q_u_near, .ref q_u_ties, .int u_size, .int u_edges], aI cA q_u_near 14 u_near] [(0, .ref q_t), (1, .ref q_u), (2, .int x2)] []) : ∀ (n : Nat) (x2 : Int32) (x3 : Int32), L_X0_looseEdge_14 t_size t_masks u_size u_near k_2 n x2 x3 = some r → Go X 4 kk nn 14 [oB q_t 0 [.ref q_t_masks, .ref q_t_ups, .int t_size], aI cA q_t_masks 14 t_masks, oB q_u 4 [.ref q_u_loads, .ref q_u_near, .ref q_u_ties, .int u_size, .int u_edges], aI cA q_u_near 14 u_near] [(0, .ref q_t), (1, .ref q_u), (2, .int x2), (3, .int x3)] [] := by
  intro n
  induction n with
  | zero => intro x2 x3 hf; exact no_some hf
  | succ n ih =>
    intro x2 x3 hf
    rw [L_X0_looseEdge_14] at hf
    refine g_iload_n C 14 3 dX0_looseEdge_14 rfl rfl ?_
    refine g_aload_n C 15 1 dX0_looseEdge_15 rfl rfl ?_
    refine g_get C 16 2 3 dX0_looseEdge_16 inX4 rfl rfl (by decide) kw_52 rfl ?_
    refine g_icmp_ge C 19 60 dX0_looseEdge_19 (by decide) hf (fun hf => ?_) (fun hf => ?_)
    · refine g_iinc C 60 2 (v := x2 + (1 : Int32)) (fun z => [(2, .int z), (0, .ref q_t), (1, .ref q_u), (3, .int x3)]) dX0_looseEdge_60 rfl rfl (by decide) (fun _ => rfl) hf (fun x2_3 hf => ?_)
      refine g_goto C 63 2 dX0_looseEdge_63 (by decide) ?_
      refine g_lv [1, 2, 0] rfl ?_
      exact h_2 x2_3 hf
    · refine g_aload_n C 22 1 dX0_looseEdge_22 rfl rfl ?_
      refine g_iload_n C 23 2 dX0_looseEdge_23 rfl rfl ?_
      refine g_iload_n C 24 3 dX0_looseEdge_24 rfl rfl ?_
      obtain ⟨u4, hu4, hf⟩ := cal_some hf
      refine g_callV1 C 25 [2, 3] 2 (rest := []) dX0_looseEdge_25 (c_X4_joined (x_l X) cA q_u q_u_loads q_u_ties u_size u_edges q_u_near u_near x2 x3 u4 hu4) kw_53 kw_54 kw_55 kw_49 kw_56 ok_X4_joined ⟨Nat.le_of_ble_eq_true rfl, Nat.le_of_ble_eq_true rfl⟩ hk ⟨rfl, rfl⟩ rfl rfl rfl rfl rfl (Nat.le_of_ble_eq_true rfl) rfl (ws' := [oB q_t 0 [.ref q_t_masks, .ref q_t_ups, .int t_size], aI cA q_t_masks 14 t_masks, oB q_u 4 [.ref q_u_loads, .ref q_u_near, .ref q_u_ties, .int u_size, .int u_edges], aI cA q_u_near 14 u_near]) (st' := [.int u4]) (N0 := 4) rfl [none, none, some 0, some 1] (by decide) rfl rfl ?_
      refine g_if_eq C 28 54 dX0_looseEdge_28 (by decide) hf (fun hf => ?_) (fun hf => ?_)
      · refine g_iinc C 54 3 (v := x3 + (1 : Int32)) (fun z => [(3, .int z), (0, .ref q_t), (1, .ref q_u), (2, .int x2)]) dX0_looseEdge_54 rfl rfl (by decide) (fun _ => rfl) hf (fun x3_5 hf => ?_)
        refine g_goto C 57 14 dX0_looseEdge_57 (by decide) ?_
        refine g_lv [1, 2, 3, 0] rfl ?_
        exact ih x2 x3_5 hf
      · refine g_aload_n C 31 0 dX0_looseEdge_31 rfl rfl ?_
        refine g_iconst C 32 (1 : Int32) dX0_looseEdge_32 (by decide) ?_
        refine g_iload_n C 33 2 dX0_looseEdge_33 rfl rfl ?_
        refine g_ishl C 34 dX0_looseEdge_34 ?_
        refine g_iconst C 35 (1 : Int32) dX0_looseEdge_35 (by decide) ?_
        refine g_iload_n C 36 3 dX0_looseEdge_36 rfl rfl ?_
        refine g_ishl C 37 dX0_looseEdge_37 ?_
        refine g_ior C 38 dX0_looseEdge_38 ?_
        obtain ⟨u6, hu6, hf⟩ := cal_some hf
        refine g_callV1 C 39 [0, 1] 0 (rest := []) dX0_looseEdge_39 (c_X0_holdTogether (x_l X) cA q_t q_t_ups t_size q_t_masks t_masks (((1 : Int32) <<< (x2 &&& 31)) ||| ((1 : Int32) <<< (x3 &&& 31))) u6 hu6) kw_57 kw_58 kw_59 kw_43 kw_60 ok_X0_holdTogether ⟨Nat.le_of_ble_eq_true rfl, Nat.le_of_ble_eq_true rfl⟩ hk ⟨rfl, rfl⟩ rfl rfl rfl rfl rfl (Nat.le_of_ble_eq_true rfl) rfl (ws' := [oB q_t 0 [.ref q_t_masks, .ref q_t_ups, .int t_size], aI cA q_t_masks 14 t_masks, oB q_u 4 [.ref q_u_loads, .ref q_u_near, .ref q_u_ties, .int u_size, .int u_edges], aI cA q_u_near 14 u_near]) (st' := [.int u6]) (N0 := 4) rfl [some 0, some 1, none, none] (by decide) rfl rfl ?_
        refine g_if_ne C 42 54 dX0_looseEdge_42 (by decide) hf (fun hf => ?_) (fun hf => ?_)
        · refine g_iinc C 54 3 (v := x3 + (1 : Int32)) (fun z => [(3, .int z), (0, .ref q_t), (1, .ref q_u), (2, .int x2)]) dX0_looseEdge_54 rfl rfl (by decide) (fun _ => rfl) hf (fun x3_7 hf => ?_)
          refine g_goto C 57 14 dX0_looseEdge_57 (by decide) ?_
          refine g_lv [1, 2, 3, 0] rfl ?_
          exact ih x2 x3_7 hf
        · refine g_iconst C 45 (1 : Int32) dX0_looseEdge_45 (by decide) ?_
          refine g_bipush C 46 (16 : Int32) dX0_looseEdge_46 (by decide) ?_
          refine g_iload_n C 48 2 dX0_looseEdge_48 rfl rfl ?_
          refine g_imul C 49 dX0_looseEdge_49 ?_
          refine g_iadd C 50 dX0_looseEdge_50 ?_
          refine g_iload_n C 51 3 dX0_looseEdge_51 rfl rfl ?_
          refine g_iadd C 52 dX0_looseEdge_52 ?_
          cases hf
          exact g_iret C 53 dX0_looseEdge_53 F hB
def L_X0_looseEdge_2 (t_size : Int32) (t_masks : Nat → Int32) (u_size : Int32) (u_near : Nat → Int32)  : Nat → Int32 → Option (Int32)
  | 0, _ => none
  | n + 1, x2 =>
    if u_size ≤ x2 then
      some ((0 : Int32))
    else
      bnd (x2 + (1 : Int32)) fun x3_2 =>
      L_X0_looseEdge_14 t_size t_masks u_size u_near (fun y0 => L_X0_looseEdge_2 t_size t_masks u_size u_near n y0) NN x2 x3_2

set_option maxRecDepth 100000 in
set_option maxHeartbeats 1000000 in
theorem w_X0_looseEdge_2 (cA : Nat → ClassId) (q_t : Nat) (q_t_ups : Nat) (q_t_masks : Nat) (q_u : Nat) (q_u_loads : Nat) (q_u_ties : Nat) (u_edges : Int32) (q_u_near : Nat) (t_size : Int32) (t_masks : Nat → Int32) (u_size : Int32) (u_near : Nat → Int32) {X : XT}  (C : Cx X cX0_looseEdge RX0 (some .int) cA 2 43 4) {kk nn : Nat} {BB : Option Value → va_W → Prop} (hk : kk ≤ (x_R X).cells ∧ nn ≤ (x_R X).slots) (F : Fx X BB kk nn) (r : Int32) (hB : BB (some (.int r)) [oB q_t 0 [.ref q_t_masks, .ref q_t_ups, .int t_size], aI cA q_t_masks 14 t_masks, oB q_u 4 [.ref q_u_loads, .ref q_u_near, .ref q_u_ties, .int u_size, .int u_edges], aI cA q_u_near 14 u_near])  : ∀ (n : Nat) (x2 : Int32), L_X0_looseEdge_2 t_size t_masks u_size u_near n x2 = some r → Go X 4 kk nn 2 [oB q_t 0 [.ref q_t_masks, .ref q_t_ups, .int t_size], aI cA q_t_masks 14 t_masks, oB q_u 4 [.ref q_u_loads, .ref q_u_near, .ref q_u_ties, .int u_size, .int u_edges], aI cA q_u_near 14 u_near] [(0, .ref q_t), (1, .ref q_u), (2, .int x2)] [] := by
  intro n
  induction n with
  | zero => intro x2 hf; exact no_some hf
  | succ n ih =>
    intro x2 hf
    rw [L_X0_looseEdge_2] at hf
    refine g_iload_n C 2 2 dX0_looseEdge_2 rfl rfl ?_
    refine g_aload_n C 3 1 dX0_looseEdge_3 rfl rfl ?_
    refine g_get C 4 2 3 dX0_looseEdge_4 inX4 rfl rfl (by decide) kw_52 rfl ?_
    refine g_icmp_ge C 7 66 dX0_looseEdge_7 (by decide) hf (fun hf => ?_) (fun hf => ?_)
    · refine g_iconst C 66 (0 : Int32) dX0_looseEdge_66 (by decide) ?_
      cases hf
      exact g_iret C 67 dX0_looseEdge_67 F hB
    · refine g_iload_n C 10 2 dX0_looseEdge_10 rfl rfl ?_
      refine g_iconst C 11 (1 : Int32) dX0_looseEdge_11 (by decide) ?_
      refine g_iadd C 12 dX0_looseEdge_12 ?_
      refine g_istore_n C 13 (fun z => [(3, .int z), (0, .ref q_t), (1, .ref q_u), (2, .int x2)]) dX0_looseEdge_13 rfl (by decide) (fun _ => rfl) hf (fun x3_2 hf => ?_)
      refine g_lv [1, 2, 3, 0] rfl ?_
      exact w_X0_looseEdge_14 cA q_t q_t_ups q_t_masks q_u q_u_loads q_u_ties u_edges q_u_near t_size t_masks u_size u_near C hk F r hB (fun y0 => L_X0_looseEdge_2 t_size t_masks u_size u_near n y0) (fun y0 hf => ih y0 hf) NN x2 x3_2 hf
def f_X0_looseEdge (t_size : Int32) (t_masks : Nat → Int32) (u_size : Int32) (u_near : Nat → Int32) : Option (Int32) :=
  bnd (0 : Int32) fun x2_1 =>
  L_X0_looseEdge_2 t_size t_masks u_size u_near NN x2_1

set_option maxRecDepth 100000 in
set_option maxHeartbeats 1000000 in
theorem c_X0_looseEdge (l : Launch) (cA : Nat → ClassId) (q_t : Nat) (q_t_ups : Nat) (t_size : Int32) (q_t_masks : Nat) (t_masks : Nat → Int32) (q_u : Nat) (q_u_loads : Nat) (q_u_ties : Nat) (u_size : Int32) (u_edges : Int32) (q_u_near : Nat) (u_near : Nat → Int32)   (r : Int32) (hf : f_X0_looseEdge t_size t_masks u_size u_near = some r) : MT l cA yX0_looseEdge cX0_looseEdge 4 (some .int) ({ frames := 2, cells := 0, slots := 0, locals := 43 } : Room) [.ref q_t, .ref q_u] [oB q_t 0 [.ref q_t_masks, .ref q_t_ups, .int t_size], aI cA q_t_masks 14 t_masks, oB q_u 4 [.ref q_u_loads, .ref q_u_near, .ref q_u_ties, .int u_size, .int u_edges], aI cA q_u_near 14 u_near] (sB (some (.int r)) [oB q_t 0 [.ref q_t_masks, .ref q_t_ups, .int t_size], aI cA q_t_masks 14 t_masks, oB q_u 4 [.ref q_u_loads, .ref q_u_near, .ref q_u_ties, .int u_size, .int u_edges], aI cA q_u_near 14 u_near]) := by
  refine MT.of (by decide) (Nat.le_of_ble_eq_true rfl) ?_
  intro X hXl C F hnm hrc hrs
  subst hXl
  have hk : 0 ≤ (x_R X).cells ∧ 0 ≤ (x_R X).slots := ⟨Nat.zero_le _, Nat.zero_le _⟩
  have hB : (sB (some (.int r)) [oB q_t 0 [.ref q_t_masks, .ref q_t_ups, .int t_size], aI cA q_t_masks 14 t_masks, oB q_u 4 [.ref q_u_loads, .ref q_u_near, .ref q_u_ties, .int u_size, .int u_edges], aI cA q_u_near 14 u_near]) (some (.int r)) [oB q_t 0 [.ref q_t_masks, .ref q_t_ups, .int t_size], aI cA q_t_masks 14 t_masks, oB q_u 4 [.ref q_u_loads, .ref q_u_near, .ref q_u_ties, .int u_size, .int u_edges], aI cA q_u_near 14 u_near] := ⟨rfl, rfl⟩
  unfold f_X0_looseEdge at hf
  have C : Cx X cX0_looseEdge RX0 (some .int) cA 2 43 4 := C
  show Go X 4 0 0 0 [oB q_t 0 [.ref q_t_masks, .ref q_t_ups, .int t_size], aI cA q_t_masks 14 t_masks, oB q_u 4 [.ref q_u_loads, .ref q_u_near, .ref q_u_ties, .int u_size, .int u_edges], aI cA q_u_near 14 u_near] [(0, .ref q_t), (1, .ref q_u)] []
  refine g_iconst C 0 (0 : Int32) dX0_looseEdge_0 (by decide) ?_
  refine g_istore_n C 1 (fun z => [(2, .int z), (0, .ref q_t), (1, .ref q_u)]) dX0_looseEdge_1 rfl (by decide) (fun _ => rfl) hf (fun x2_1 hf => ?_)
  refine g_lv [1, 2, 0] rfl ?_
  exact w_X0_looseEdge_2 cA q_t q_t_ups q_t_masks q_u q_u_loads q_u_ties u_edges q_u_near t_size t_masks u_size u_near C hk F r hB NN x2_1 hf

def L_X0_missingKnot_2 (t_size : Int32) (t_masks : Nat → Int32) (u_size : Int32)  : Nat → Int32 → Option (Int32)
  | 0, _ => none
  | n + 1, x2 =>
    if u_size ≤ x2 then
      some ((0 : Int32))
    else
      cal (f_X0_holdTogether ((1 : Int32) <<< (x2 &&& 31)) t_size t_masks) fun u2 =>
      if u2 = 0 then
        some (((1001 : Int32) + x2))
      else
        bnd (x2 + (1 : Int32)) fun x2_3 =>
        L_X0_missingKnot_2 t_size t_masks u_size n x2_3

set_option maxRecDepth 100000 in
set_option maxHeartbeats 1000000 in
theorem w_X0_missingKnot_2 (cA : Nat → ClassId) (q_t : Nat) (q_t_ups : Nat) (q_t_masks : Nat) (q_u : Nat) (q_u_loads : Nat) (q_u_near : Nat) (q_u_ties : Nat) (u_edges : Int32) (t_size : Int32) (t_masks : Nat → Int32) (u_size : Int32) {X : XT}  (C : Cx X cX0_missingKnot RX0 (some .int) cA 1 22 3) {kk nn : Nat} {BB : Option Value → va_W → Prop} (hk : kk ≤ (x_R X).cells ∧ nn ≤ (x_R X).slots) (F : Fx X BB kk nn) (r : Int32) (hB : BB (some (.int r)) [oB q_t 0 [.ref q_t_masks, .ref q_t_ups, .int t_size], aI cA q_t_masks 14 t_masks, oB q_u 4 [.ref q_u_loads, .ref q_u_near, .ref q_u_ties, .int u_size, .int u_edges]])  : ∀ (n : Nat) (x2 : Int32), L_X0_missingKnot_2 t_size t_masks u_size n x2 = some r → Go X 3 kk nn 2 [oB q_t 0 [.ref q_t_masks, .ref q_t_ups, .int t_size], aI cA q_t_masks 14 t_masks, oB q_u 4 [.ref q_u_loads, .ref q_u_near, .ref q_u_ties, .int u_size, .int u_edges]] [(0, .ref q_t), (1, .ref q_u), (2, .int x2)] [] := by
  intro n
  induction n with
  | zero => intro x2 hf; exact no_some hf
  | succ n ih =>
    intro x2 hf
    rw [L_X0_missingKnot_2] at hf
    refine g_iload_n C 2 2 dX0_missingKnot_2 rfl rfl ?_
    refine g_aload_n C 3 1 dX0_missingKnot_3 rfl rfl ?_
    refine g_get C 4 2 3 dX0_missingKnot_4 inX4 rfl rfl (by decide) kw_52 rfl ?_
    refine g_icmp_ge C 7 32 dX0_missingKnot_7 (by decide) hf (fun hf => ?_) (fun hf => ?_)
    · refine g_iconst C 32 (0 : Int32) dX0_missingKnot_32 (by decide) ?_
      cases hf
      exact g_iret C 33 dX0_missingKnot_33 F hB
    · refine g_aload_n C 10 0 dX0_missingKnot_10 rfl rfl ?_
      refine g_iconst C 11 (1 : Int32) dX0_missingKnot_11 (by decide) ?_
      refine g_iload_n C 12 2 dX0_missingKnot_12 rfl rfl ?_
      refine g_ishl C 13 dX0_missingKnot_13 ?_
      obtain ⟨u2, hu2, hf⟩ := cal_some hf
      refine g_callV1 C 14 [0, 1] 0 (rest := []) dX0_missingKnot_14 (c_X0_holdTogether (x_l X) cA q_t q_t_ups t_size q_t_masks t_masks ((1 : Int32) <<< (x2 &&& 31)) u2 hu2) kw_57 kw_58 kw_59 kw_43 kw_60 ok_X0_holdTogether ⟨Nat.le_of_ble_eq_true rfl, Nat.le_of_ble_eq_true rfl⟩ hk ⟨rfl, rfl⟩ rfl rfl rfl rfl rfl (Nat.le_of_ble_eq_true rfl) rfl (ws' := [oB q_t 0 [.ref q_t_masks, .ref q_t_ups, .int t_size], aI cA q_t_masks 14 t_masks, oB q_u 4 [.ref q_u_loads, .ref q_u_near, .ref q_u_ties, .int u_size, .int u_edges]]) (st' := [.int u2]) (N0 := 3) rfl [some 0, some 1, none] (by decide) rfl rfl ?_
      refine g_if_ne C 17 26 dX0_missingKnot_17 (by decide) hf (fun hf => ?_) (fun hf => ?_)
      · refine g_iinc C 26 2 (v := x2 + (1 : Int32)) (fun z => [(2, .int z), (0, .ref q_t), (1, .ref q_u)]) dX0_missingKnot_26 rfl rfl (by decide) (fun _ => rfl) hf (fun x2_3 hf => ?_)
        refine g_goto C 29 2 dX0_missingKnot_29 (by decide) ?_
        refine g_lv [1, 2, 0] rfl ?_
        exact ih x2_3 hf
      · refine g_sipush C 20 (1001 : Int32) dX0_missingKnot_20 (by decide) ?_
        refine g_iload_n C 23 2 dX0_missingKnot_23 rfl rfl ?_
        refine g_iadd C 24 dX0_missingKnot_24 ?_
        cases hf
        exact g_iret C 25 dX0_missingKnot_25 F hB
def f_X0_missingKnot (t_size : Int32) (t_masks : Nat → Int32) (u_size : Int32) : Option (Int32) :=
  bnd (0 : Int32) fun x2_1 =>
  L_X0_missingKnot_2 t_size t_masks u_size NN x2_1

set_option maxRecDepth 100000 in
set_option maxHeartbeats 1000000 in
theorem c_X0_missingKnot (l : Launch) (cA : Nat → ClassId) (q_t : Nat) (q_t_ups : Nat) (t_size : Int32) (q_t_masks : Nat) (t_masks : Nat → Int32) (q_u : Nat) (q_u_loads : Nat) (q_u_near : Nat) (q_u_ties : Nat) (u_size : Int32) (u_edges : Int32)   (r : Int32) (hf : f_X0_missingKnot t_size t_masks u_size = some r) : MT l cA yX0_missingKnot cX0_missingKnot 3 (some .int) ({ frames := 1, cells := 0, slots := 0, locals := 22 } : Room) [.ref q_t, .ref q_u] [oB q_t 0 [.ref q_t_masks, .ref q_t_ups, .int t_size], aI cA q_t_masks 14 t_masks, oB q_u 4 [.ref q_u_loads, .ref q_u_near, .ref q_u_ties, .int u_size, .int u_edges]] (sB (some (.int r)) [oB q_t 0 [.ref q_t_masks, .ref q_t_ups, .int t_size], aI cA q_t_masks 14 t_masks, oB q_u 4 [.ref q_u_loads, .ref q_u_near, .ref q_u_ties, .int u_size, .int u_edges]]) := by
  refine MT.of (by decide) (Nat.le_of_ble_eq_true rfl) ?_
  intro X hXl C F hnm hrc hrs
  subst hXl
  have hk : 0 ≤ (x_R X).cells ∧ 0 ≤ (x_R X).slots := ⟨Nat.zero_le _, Nat.zero_le _⟩
  have hB : (sB (some (.int r)) [oB q_t 0 [.ref q_t_masks, .ref q_t_ups, .int t_size], aI cA q_t_masks 14 t_masks, oB q_u 4 [.ref q_u_loads, .ref q_u_near, .ref q_u_ties, .int u_size, .int u_edges]]) (some (.int r)) [oB q_t 0 [.ref q_t_masks, .ref q_t_ups, .int t_size], aI cA q_t_masks 14 t_masks, oB q_u 4 [.ref q_u_loads, .ref q_u_near, .ref q_u_ties, .int u_size, .int u_edges]] := ⟨rfl, rfl⟩
  unfold f_X0_missingKnot at hf
  have C : Cx X cX0_missingKnot RX0 (some .int) cA 1 22 3 := C
  show Go X 3 0 0 0 [oB q_t 0 [.ref q_t_masks, .ref q_t_ups, .int t_size], aI cA q_t_masks 14 t_masks, oB q_u 4 [.ref q_u_loads, .ref q_u_near, .ref q_u_ties, .int u_size, .int u_edges]] [(0, .ref q_t), (1, .ref q_u)] []
  refine g_iconst C 0 (0 : Int32) dX0_missingKnot_0 (by decide) ?_
  refine g_istore_n C 1 (fun z => [(2, .int z), (0, .ref q_t), (1, .ref q_u)]) dX0_missingKnot_1 rfl (by decide) (fun _ => rfl) hf (fun x2_1 hf => ?_)
  refine g_lv [1, 2, 0] rfl ?_
  exact w_X0_missingKnot_2 cA q_t q_t_ups q_t_masks q_u q_u_loads q_u_near q_u_ties u_edges t_size t_masks u_size C hk F r hB NN x2_1 hf

def L_X0_scatteredKnot_45 (t_size : Int32) (t_masks : Nat → Int32) (t_ups : Nat → Int32) (u_size : Int32)  : Nat → Int32 → Int32 → Option (Int32)
  | 0, _, _ => none
  | n + 1, x3, x4 =>
    if u_size ≤ x4 then
      some ((0 : Int32))
    else
      cal (f_X8_hasBit x3 x4) fun u5 =>
      if u5 = 0 then
        bnd (x4 + (1 : Int32)) fun x4_6 =>
        L_X0_scatteredKnot_45 t_size t_masks t_ups u_size n x3 x4_6
      else
        some (((2001 : Int32) + x4))

set_option maxRecDepth 100000 in
set_option maxHeartbeats 1000000 in
theorem w_X0_scatteredKnot_45 (cA : Nat → ClassId) (q_t : Nat) (q_t_masks : Nat) (q_t_ups : Nat) (q_u : Nat) (q_u_loads : Nat) (q_u_near : Nat) (q_u_ties : Nat) (u_edges : Int32) (t_size : Int32) (t_masks : Nat → Int32) (t_ups : Nat → Int32) (u_size : Int32) {X : XT}  (C : Cx X cX0_scatteredKnot RX0 (some .int) cA 2 43 6) {kk nn : Nat} {BB : Option Value → va_W → Prop} (hk : kk ≤ (x_R X).cells ∧ nn ≤ (x_R X).slots) (F : Fx X BB kk nn) (r : Int32) (hB : BB (some (.int r)) [oB q_t 0 [.ref q_t_masks, .ref q_t_ups, .int t_size], aI cA q_t_masks 14 t_masks, aI cA q_t_ups 14 t_ups, oB q_u 4 [.ref q_u_loads, .ref q_u_near, .ref q_u_ties, .int u_size, .int u_edges]])  : ∀ (n : Nat) (x3 : Int32) (x4 : Int32), L_X0_scatteredKnot_45 t_size t_masks t_ups u_size n x3 x4 = some r → Go X 6 kk nn 45 [oB q_t 0 [.ref q_t_masks, .ref q_t_ups, .int t_size], aI cA q_t_masks 14 t_masks, aI cA q_t_ups 14 t_ups, oB q_u 4 [.ref q_u_loads, .ref q_u_near, .ref q_u_ties, .int u_size, .int u_edges]] [(1, .ref q_u), (3, .int x3), (4, .int x4)] [] := by
  intro n
  induction n with
  | zero => intro x3 x4 hf; exact no_some hf
  | succ n ih =>
    intro x3 x4 hf
    rw [L_X0_scatteredKnot_45] at hf
    refine g_iload C 45 2 dX0_scatteredKnot_45 rfl ?_
    refine g_aload_n C 47 0 dX0_scatteredKnot_47 rfl rfl ?_
    refine g_get C 48 3 3 dX0_scatteredKnot_48 inX4 rfl rfl (by decide) kw_52 rfl ?_
    refine g_icmp_ge C 51 76 dX0_scatteredKnot_51 (by decide) hf (fun hf => ?_) (fun hf => ?_)
    · refine g_iconst C 76 (0 : Int32) dX0_scatteredKnot_76 (by decide) ?_
      cases hf
      exact g_iret C 77 dX0_scatteredKnot_77 F hB
    · refine g_iload_n C 54 1 dX0_scatteredKnot_54 rfl rfl ?_
      refine g_iload C 55 2 dX0_scatteredKnot_55 rfl ?_
      obtain ⟨u5, hu5, hf⟩ := cal_some hf
      refine g_callSN C 57 [] (rest := []) dX0_scatteredKnot_57 (c_X8_hasBit (x_l X) cA x3 x4 u5 hu5) (List.mem_of_getElem? (i := 12) rfl) kw_5 kw_6 kw_7 ok_X8_hasBit ⟨Nat.le_of_ble_eq_true rfl, Nat.le_of_ble_eq_true rfl⟩ hk ⟨rfl, rfl⟩ rfl rfl rfl (Nat.le_of_ble_eq_true rfl) rfl (ws' := [oB q_t 0 [.ref q_t_masks, .ref q_t_ups, .int t_size], aI cA q_t_masks 14 t_masks, aI cA q_t_ups 14 t_ups, oB q_u 4 [.ref q_u_loads, .ref q_u_near, .ref q_u_ties, .int u_size, .int u_edges]]) (st' := [.int u5]) (N0 := 4) rfl [none, none, none, none] (by decide) rfl rfl ?_
      refine g_if_eq C 60 70 dX0_scatteredKnot_60 (by decide) hf (fun hf => ?_) (fun hf => ?_)
      · refine g_iinc C 70 2 (v := x4 + (1 : Int32)) (fun z => [(4, .int z), (1, .ref q_u), (3, .int x3)]) dX0_scatteredKnot_70 rfl rfl (by decide) (fun _ => rfl) hf (fun x4_6 hf => ?_)
        refine g_goto C 73 45 dX0_scatteredKnot_73 (by decide) ?_
        refine g_lv [1, 2, 0] rfl ?_
        exact ih x3 x4_6 hf
      · refine g_sipush C 63 (2001 : Int32) dX0_scatteredKnot_63 (by decide) ?_
        refine g_iload C 66 2 dX0_scatteredKnot_66 rfl ?_
        refine g_iadd C 68 dX0_scatteredKnot_68 ?_
        cases hf
        exact g_iret C 69 dX0_scatteredKnot_69 F hB
def L_X0_scatteredKnot_7 (t_size : Int32) (t_masks : Nat → Int32) (t_ups : Nat → Int32) (u_size : Int32)  : Nat → Int32 → Int32 → Int32 → Option (Int32)
  | 0, _, _, _ => none
  | n + 1, x2, x3, x4 =>
    if t_size ≤ x4 then
      bnd (0 : Int32) fun x4_4 =>
      L_X0_scatteredKnot_45 t_size t_masks t_ups u_size NN x3 x4_4
    else
      cal (f_X0_endingIn x4 t_size t_masks t_ups) fun u7 =>
      bnd u7 fun x5_8 =>
      bnd (x3 ||| (x2 &&& x5_8)) fun x3_9 =>
      bnd (x2 ||| x5_8) fun x2_10 =>
      bnd (x4 + (1 : Int32)) fun x4_11 =>
      L_X0_scatteredKnot_7 t_size t_masks t_ups u_size n x2_10 x3_9 x4_11

set_option maxRecDepth 100000 in
set_option maxHeartbeats 1000000 in
theorem w_X0_scatteredKnot_7 (cA : Nat → ClassId) (q_t : Nat) (q_t_masks : Nat) (q_t_ups : Nat) (q_u : Nat) (q_u_loads : Nat) (q_u_near : Nat) (q_u_ties : Nat) (u_edges : Int32) (t_size : Int32) (t_masks : Nat → Int32) (t_ups : Nat → Int32) (u_size : Int32) {X : XT}  (C : Cx X cX0_scatteredKnot RX0 (some .int) cA 2 43 6) {kk nn : Nat} {BB : Option Value → va_W → Prop} (hk : kk ≤ (x_R X).cells ∧ nn ≤ (x_R X).slots) (F : Fx X BB kk nn) (r : Int32) (hB : BB (some (.int r)) [oB q_t 0 [.ref q_t_masks, .ref q_t_ups, .int t_size], aI cA q_t_masks 14 t_masks, aI cA q_t_ups 14 t_ups, oB q_u 4 [.ref q_u_loads, .ref q_u_near, .ref q_u_ties, .int u_size, .int u_edges]])  : ∀ (n : Nat) (x2 : Int32) (x3 : Int32) (x4 : Int32), L_X0_scatteredKnot_7 t_size t_masks t_ups u_size n x2 x3 x4 = some r → Go X 6 kk nn 7 [oB q_t 0 [.ref q_t_masks, .ref q_t_ups, .int t_size], aI cA q_t_masks 14 t_masks, aI cA q_t_ups 14 t_ups, oB q_u 4 [.ref q_u_loads, .ref q_u_near, .ref q_u_ties, .int u_size, .int u_edges]] [(0, .ref q_t), (1, .ref q_u), (2, .int x2), (3, .int x3), (4, .int x4)] [] := by
  intro n
  induction n with
  | zero => intro x2 x3 x4 hf; exact no_some hf
  | succ n ih =>
    intro x2 x3 x4 hf
    rw [L_X0_scatteredKnot_7] at hf
    refine g_iload C 7 4 dX0_scatteredKnot_7 rfl ?_
    refine g_aload_n C 9 0 dX0_scatteredKnot_9 rfl rfl ?_
    refine g_get C 10 0 2 dX0_scatteredKnot_10 inX0 rfl rfl (by decide) kw_0 rfl ?_
    refine g_icmp_ge C 13 42 dX0_scatteredKnot_13 (by decide) hf (fun hf => ?_) (fun hf => ?_)
    · refine g_iconst C 42 (0 : Int32) dX0_scatteredKnot_42 (by decide) ?_
      refine g_istore C 43 (fun z => [(4, .int z), (0, .ref q_t), (1, .ref q_u), (2, .int x2), (3, .int x3)]) dX0_scatteredKnot_43 (by decide) (fun _ => rfl) hf (fun x4_4 hf => ?_)
      refine g_lv [2, 4, 0] rfl ?_
      exact w_X0_scatteredKnot_45 cA q_t q_t_masks q_t_ups q_u q_u_loads q_u_near q_u_ties u_edges t_size t_masks t_ups u_size C hk F r hB NN x3 x4_4 hf
    · refine g_aload_n C 16 0 dX0_scatteredKnot_16 rfl rfl ?_
      refine g_iload C 17 4 dX0_scatteredKnot_17 rfl ?_
      obtain ⟨u7, hu7, hf⟩ := cal_some hf
      refine g_callV1 C 19 [0, 1, 2] 0 (rest := []) dX0_scatteredKnot_19 (c_X0_endingIn (x_l X) cA q_t t_size q_t_masks t_masks q_t_ups t_ups x4 u7 hu7) kw_61 kw_62 kw_63 kw_43 kw_64 ok_X0_endingIn ⟨Nat.le_of_ble_eq_true rfl, Nat.le_of_ble_eq_true rfl⟩ hk ⟨rfl, rfl⟩ rfl rfl rfl rfl rfl (Nat.le_of_ble_eq_true rfl) rfl (ws' := [oB q_t 0 [.ref q_t_masks, .ref q_t_ups, .int t_size], aI cA q_t_masks 14 t_masks, aI cA q_t_ups 14 t_ups, oB q_u 4 [.ref q_u_loads, .ref q_u_near, .ref q_u_ties, .int u_size, .int u_edges]]) (st' := [.int u7]) (N0 := 4) rfl [some 0, some 1, some 2, none] (by decide) rfl rfl ?_
      refine g_istore C 22 (fun z => [(5, .int z), (0, .ref q_t), (1, .ref q_u), (2, .int x2), (3, .int x3), (4, .int x4)]) dX0_scatteredKnot_22 (by decide) (fun _ => rfl) hf (fun x5_8 hf => ?_)
      refine g_iload_n C 24 4 dX0_scatteredKnot_24 rfl rfl ?_
      refine g_iload_n C 25 3 dX0_scatteredKnot_25 rfl rfl ?_
      refine g_iload C 26 0 dX0_scatteredKnot_26 rfl ?_
      refine g_iand C 28 dX0_scatteredKnot_28 ?_
      refine g_ior C 29 dX0_scatteredKnot_29 ?_
      refine g_istore_n C 30 (fun z => [(3, .int z), (5, .int x5_8), (0, .ref q_t), (1, .ref q_u), (2, .int x2), (4, .int x4)]) dX0_scatteredKnot_30 rfl (by decide) (fun _ => rfl) hf (fun x3_9 hf => ?_)
      refine g_iload_n C 31 4 dX0_scatteredKnot_31 rfl rfl ?_
      refine g_iload C 32 1 dX0_scatteredKnot_32 rfl ?_
      refine g_ior C 34 dX0_scatteredKnot_34 ?_
      refine g_istore_n C 35 (fun z => [(2, .int z), (3, .int x3_9), (5, .int x5_8), (0, .ref q_t), (1, .ref q_u), (4, .int x4)]) dX0_scatteredKnot_35 rfl (by decide) (fun _ => rfl) hf (fun x2_10 hf => ?_)
      refine g_iinc C 36 5 (v := x4 + (1 : Int32)) (fun z => [(4, .int z), (2, .int x2_10), (3, .int x3_9), (5, .int x5_8), (0, .ref q_t), (1, .ref q_u)]) dX0_scatteredKnot_36 rfl rfl (by decide) (fun _ => rfl) hf (fun x4_11 hf => ?_)
      refine g_goto C 39 7 dX0_scatteredKnot_39 (by decide) ?_
      refine g_lv [4, 5, 1, 2, 0] rfl ?_
      exact ih x2_10 x3_9 x4_11 hf
def f_X0_scatteredKnot (t_size : Int32) (t_masks : Nat → Int32) (t_ups : Nat → Int32) (u_size : Int32) : Option (Int32) :=
  bnd (0 : Int32) fun x2_1 =>
  bnd (0 : Int32) fun x3_2 =>
  bnd (0 : Int32) fun x4_3 =>
  L_X0_scatteredKnot_7 t_size t_masks t_ups u_size NN x2_1 x3_2 x4_3

set_option maxRecDepth 100000 in
set_option maxHeartbeats 1000000 in
theorem c_X0_scatteredKnot (l : Launch) (cA : Nat → ClassId) (q_t : Nat) (t_size : Int32) (q_t_masks : Nat) (t_masks : Nat → Int32) (q_t_ups : Nat) (t_ups : Nat → Int32) (q_u : Nat) (q_u_loads : Nat) (q_u_near : Nat) (q_u_ties : Nat) (u_size : Int32) (u_edges : Int32)   (r : Int32) (hf : f_X0_scatteredKnot t_size t_masks t_ups u_size = some r) : MT l cA yX0_scatteredKnot cX0_scatteredKnot 6 (some .int) ({ frames := 2, cells := 0, slots := 0, locals := 43 } : Room) [.ref q_t, .ref q_u] [oB q_t 0 [.ref q_t_masks, .ref q_t_ups, .int t_size], aI cA q_t_masks 14 t_masks, aI cA q_t_ups 14 t_ups, oB q_u 4 [.ref q_u_loads, .ref q_u_near, .ref q_u_ties, .int u_size, .int u_edges]] (sB (some (.int r)) [oB q_t 0 [.ref q_t_masks, .ref q_t_ups, .int t_size], aI cA q_t_masks 14 t_masks, aI cA q_t_ups 14 t_ups, oB q_u 4 [.ref q_u_loads, .ref q_u_near, .ref q_u_ties, .int u_size, .int u_edges]]) := by
  refine MT.of (by decide) (Nat.le_of_ble_eq_true rfl) ?_
  intro X hXl C F hnm hrc hrs
  subst hXl
  have hk : 0 ≤ (x_R X).cells ∧ 0 ≤ (x_R X).slots := ⟨Nat.zero_le _, Nat.zero_le _⟩
  have hB : (sB (some (.int r)) [oB q_t 0 [.ref q_t_masks, .ref q_t_ups, .int t_size], aI cA q_t_masks 14 t_masks, aI cA q_t_ups 14 t_ups, oB q_u 4 [.ref q_u_loads, .ref q_u_near, .ref q_u_ties, .int u_size, .int u_edges]]) (some (.int r)) [oB q_t 0 [.ref q_t_masks, .ref q_t_ups, .int t_size], aI cA q_t_masks 14 t_masks, aI cA q_t_ups 14 t_ups, oB q_u 4 [.ref q_u_loads, .ref q_u_near, .ref q_u_ties, .int u_size, .int u_edges]] := ⟨rfl, rfl⟩
  unfold f_X0_scatteredKnot at hf
  have C : Cx X cX0_scatteredKnot RX0 (some .int) cA 2 43 6 := C
  show Go X 6 0 0 0 [oB q_t 0 [.ref q_t_masks, .ref q_t_ups, .int t_size], aI cA q_t_masks 14 t_masks, aI cA q_t_ups 14 t_ups, oB q_u 4 [.ref q_u_loads, .ref q_u_near, .ref q_u_ties, .int u_size, .int u_edges]] [(0, .ref q_t), (1, .ref q_u)] []
  refine g_iconst C 0 (0 : Int32) dX0_scatteredKnot_0 (by decide) ?_
  refine g_istore_n C 1 (fun z => [(2, .int z), (0, .ref q_t), (1, .ref q_u)]) dX0_scatteredKnot_1 rfl (by decide) (fun _ => rfl) hf (fun x2_1 hf => ?_)
  refine g_iconst C 2 (0 : Int32) dX0_scatteredKnot_2 (by decide) ?_
  refine g_istore_n C 3 (fun z => [(3, .int z), (2, .int x2_1), (0, .ref q_t), (1, .ref q_u)]) dX0_scatteredKnot_3 rfl (by decide) (fun _ => rfl) hf (fun x3_2 hf => ?_)
  refine g_iconst C 4 (0 : Int32) dX0_scatteredKnot_4 (by decide) ?_
  refine g_istore C 5 (fun z => [(4, .int z), (3, .int x3_2), (2, .int x2_1), (0, .ref q_t), (1, .ref q_u)]) dX0_scatteredKnot_5 (by decide) (fun _ => rfl) hf (fun x4_3 hf => ?_)
  refine g_lv [3, 4, 2, 1, 0] rfl ?_
  exact w_X0_scatteredKnot_7 cA q_t q_t_masks q_t_ups q_u q_u_loads q_u_near q_u_ties u_edges t_size t_masks t_ups u_size C hk F r hB NN x2_1 x3_2 x4_3 hf

def J_X0_fault_16 (t_size : Int32) (t_masks : Nat → Int32) (t_ups : Nat → Int32) (u_size : Int32) (u_near : Nat → Int32)  (x2 : Int32) : Option (Int32) :=
  if x2 = 0 then
    cal (f_X0_scatteredKnot t_size t_masks t_ups u_size) fun u3 =>
    bnd u3 fun x2_4 =>
    some (x2_4)
  else
    some (x2)

set_option maxRecDepth 100000 in
set_option maxHeartbeats 1000000 in
theorem w_X0_fault_16 (cA : Nat → ClassId) (q_t : Nat) (q_t_masks : Nat) (q_t_ups : Nat) (q_u : Nat) (q_u_loads : Nat) (q_u_ties : Nat) (u_edges : Int32) (q_u_near : Nat) (t_size : Int32) (t_masks : Nat → Int32) (t_ups : Nat → Int32) (u_size : Int32) (u_near : Nat → Int32) {X : XT}  (C : Cx X cX0_fault RX0 (some .int) cA 3 68 3) {kk nn : Nat} {BB : Option Value → va_W → Prop} (hk : kk ≤ (x_R X).cells ∧ nn ≤ (x_R X).slots) (F : Fx X BB kk nn) (r : Int32) (hB : BB (some (.int r)) [oB q_t 0 [.ref q_t_masks, .ref q_t_ups, .int t_size], aI cA q_t_masks 14 t_masks, aI cA q_t_ups 14 t_ups, oB q_u 4 [.ref q_u_loads, .ref q_u_near, .ref q_u_ties, .int u_size, .int u_edges], aI cA q_u_near 14 u_near])  : ∀ (x2 : Int32), J_X0_fault_16 t_size t_masks t_ups u_size u_near x2 = some r → Go X 3 kk nn 16 [oB q_t 0 [.ref q_t_masks, .ref q_t_ups, .int t_size], aI cA q_t_masks 14 t_masks, aI cA q_t_ups 14 t_ups, oB q_u 4 [.ref q_u_loads, .ref q_u_near, .ref q_u_ties, .int u_size, .int u_edges], aI cA q_u_near 14 u_near] [(0, .ref q_t), (1, .ref q_u), (2, .int x2)] [] := by
  intro x2 hf
  unfold J_X0_fault_16 at hf
  refine g_iload_n C 16 2 dX0_fault_16 rfl rfl ?_
  refine g_if_ne C 17 26 dX0_fault_17 (by decide) hf (fun hf => ?_) (fun hf => ?_)
  · refine g_iload_n C 26 2 dX0_fault_26 rfl rfl ?_
    cases hf
    exact g_iret C 27 dX0_fault_27 F hB
  · refine g_aload_n C 20 0 dX0_fault_20 rfl rfl ?_
    refine g_aload_n C 21 1 dX0_fault_21 rfl rfl ?_
    obtain ⟨u3, hu3, hf⟩ := cal_some hf
    refine g_callV1 C 22 [0, 1, 2, 3] 0 (rest := []) dX0_fault_22 (c_X0_scatteredKnot (x_l X) cA q_t t_size q_t_masks t_masks q_t_ups t_ups q_u q_u_loads q_u_near q_u_ties u_size u_edges u3 hu3) kw_69 kw_70 kw_71 kw_43 kw_72 ok_X0_scatteredKnot ⟨Nat.le_of_ble_eq_true rfl, Nat.le_of_ble_eq_true rfl⟩ hk ⟨rfl, rfl⟩ rfl rfl rfl rfl rfl (Nat.le_of_ble_eq_true rfl) rfl (ws' := [oB q_t 0 [.ref q_t_masks, .ref q_t_ups, .int t_size], aI cA q_t_masks 14 t_masks, aI cA q_t_ups 14 t_ups, oB q_u 4 [.ref q_u_loads, .ref q_u_near, .ref q_u_ties, .int u_size, .int u_edges], aI cA q_u_near 14 u_near]) (st' := [.int u3]) (N0 := 5) rfl [some 0, some 1, some 2, some 3, none] (by decide) rfl rfl ?_
    refine g_istore_n C 25 (fun z => [(2, .int z), (0, .ref q_t), (1, .ref q_u)]) dX0_fault_25 rfl (by decide) (fun _ => rfl) hf (fun x2_4 hf => ?_)
    refine g_iload_n C 26 0 dX0_fault_26 rfl rfl ?_
    cases hf
    exact g_iret C 27 dX0_fault_27 F hB
def f_X0_fault (t_size : Int32) (t_masks : Nat → Int32) (t_ups : Nat → Int32) (u_size : Int32) (u_near : Nat → Int32) : Option (Int32) :=
  cal (f_X0_looseEdge t_size t_masks u_size u_near) fun u1 =>
  bnd u1 fun x2_2 =>
  if x2_2 = 0 then
    cal (f_X0_missingKnot t_size t_masks u_size) fun u5 =>
    bnd u5 fun x2_6 =>
    J_X0_fault_16 t_size t_masks t_ups u_size u_near x2_6
  else
    J_X0_fault_16 t_size t_masks t_ups u_size u_near x2_2

set_option maxRecDepth 100000 in
set_option maxHeartbeats 1000000 in
theorem c_X0_fault (l : Launch) (cA : Nat → ClassId) (q_t : Nat) (t_size : Int32) (q_t_masks : Nat) (t_masks : Nat → Int32) (q_t_ups : Nat) (t_ups : Nat → Int32) (q_u : Nat) (q_u_loads : Nat) (q_u_ties : Nat) (u_size : Int32) (u_edges : Int32) (q_u_near : Nat) (u_near : Nat → Int32)   (r : Int32) (hf : f_X0_fault t_size t_masks t_ups u_size u_near = some r) : MT l cA yX0_fault cX0_fault 3 (some .int) ({ frames := 3, cells := 0, slots := 0, locals := 68 } : Room) [.ref q_t, .ref q_u] [oB q_t 0 [.ref q_t_masks, .ref q_t_ups, .int t_size], aI cA q_t_masks 14 t_masks, aI cA q_t_ups 14 t_ups, oB q_u 4 [.ref q_u_loads, .ref q_u_near, .ref q_u_ties, .int u_size, .int u_edges], aI cA q_u_near 14 u_near] (sB (some (.int r)) [oB q_t 0 [.ref q_t_masks, .ref q_t_ups, .int t_size], aI cA q_t_masks 14 t_masks, aI cA q_t_ups 14 t_ups, oB q_u 4 [.ref q_u_loads, .ref q_u_near, .ref q_u_ties, .int u_size, .int u_edges], aI cA q_u_near 14 u_near]) := by
  refine MT.of (by decide) (Nat.le_of_ble_eq_true rfl) ?_
  intro X hXl C F hnm hrc hrs
  subst hXl
  have hk : 0 ≤ (x_R X).cells ∧ 0 ≤ (x_R X).slots := ⟨Nat.zero_le _, Nat.zero_le _⟩
  have hB : (sB (some (.int r)) [oB q_t 0 [.ref q_t_masks, .ref q_t_ups, .int t_size], aI cA q_t_masks 14 t_masks, aI cA q_t_ups 14 t_ups, oB q_u 4 [.ref q_u_loads, .ref q_u_near, .ref q_u_ties, .int u_size, .int u_edges], aI cA q_u_near 14 u_near]) (some (.int r)) [oB q_t 0 [.ref q_t_masks, .ref q_t_ups, .int t_size], aI cA q_t_masks 14 t_masks, aI cA q_t_ups 14 t_ups, oB q_u 4 [.ref q_u_loads, .ref q_u_near, .ref q_u_ties, .int u_size, .int u_edges], aI cA q_u_near 14 u_near] := ⟨rfl, rfl⟩
  unfold f_X0_fault at hf
  have C : Cx X cX0_fault RX0 (some .int) cA 3 68 3 := C
  show Go X 3 0 0 0 [oB q_t 0 [.ref q_t_masks, .ref q_t_ups, .int t_size], aI cA q_t_masks 14 t_masks, aI cA q_t_ups 14 t_ups, oB q_u 4 [.ref q_u_loads, .ref q_u_near, .ref q_u_ties, .int u_size, .int u_edges], aI cA q_u_near 14 u_near] [(0, .ref q_t), (1, .ref q_u)] []
  refine g_aload_n C 0 0 dX0_fault_0 rfl rfl ?_
  refine g_aload_n C 1 1 dX0_fault_1 rfl rfl ?_
  obtain ⟨u1, hu1, hf⟩ := cal_some hf
  refine g_callV1 C 2 [0, 1, 3, 4] 0 (rest := []) dX0_fault_2 (c_X0_looseEdge (x_l X) cA q_t q_t_ups t_size q_t_masks t_masks q_u q_u_loads q_u_ties u_size u_edges q_u_near u_near u1 hu1) kw_65 kw_66 kw_67 kw_43 kw_68 ok_X0_looseEdge ⟨Nat.le_of_ble_eq_true rfl, Nat.le_of_ble_eq_true rfl⟩ hk ⟨rfl, rfl⟩ rfl rfl rfl rfl rfl (Nat.le_of_ble_eq_true rfl) rfl (ws' := [oB q_t 0 [.ref q_t_masks, .ref q_t_ups, .int t_size], aI cA q_t_masks 14 t_masks, aI cA q_t_ups 14 t_ups, oB q_u 4 [.ref q_u_loads, .ref q_u_near, .ref q_u_ties, .int u_size, .int u_edges], aI cA q_u_near 14 u_near]) (st' := [.int u1]) (N0 := 5) rfl [some 0, some 1, none, some 2, some 3] (by decide) rfl rfl ?_
  refine g_istore_n C 5 (fun z => [(2, .int z), (0, .ref q_t), (1, .ref q_u)]) dX0_fault_5 rfl (by decide) (fun _ => rfl) hf (fun x2_2 hf => ?_)
  refine g_iload_n C 6 0 dX0_fault_6 rfl rfl ?_
  refine g_if_ne C 7 16 dX0_fault_7 (by decide) hf (fun hf => ?_) (fun hf => ?_)
  · refine g_lv [1, 2, 0] rfl ?_
    exact w_X0_fault_16 cA q_t q_t_masks q_t_ups q_u q_u_loads q_u_ties u_edges q_u_near t_size t_masks t_ups u_size u_near C hk F r hB x2_2 hf
  · refine g_aload_n C 10 1 dX0_fault_10 rfl rfl ?_
    refine g_aload_n C 11 2 dX0_fault_11 rfl rfl ?_
    obtain ⟨u5, hu5, hf⟩ := cal_some hf
    refine g_callV1 C 12 [0, 1, 3] 0 (rest := []) dX0_fault_12 (c_X0_missingKnot (x_l X) cA q_t q_t_ups t_size q_t_masks t_masks q_u q_u_loads q_u_near q_u_ties u_size u_edges u5 hu5) kw_73 kw_74 kw_75 kw_43 kw_76 ok_X0_missingKnot ⟨Nat.le_of_ble_eq_true rfl, Nat.le_of_ble_eq_true rfl⟩ hk ⟨rfl, rfl⟩ rfl rfl rfl rfl rfl (Nat.le_of_ble_eq_true rfl) rfl (ws' := [oB q_t 0 [.ref q_t_masks, .ref q_t_ups, .int t_size], aI cA q_t_masks 14 t_masks, aI cA q_t_ups 14 t_ups, oB q_u 4 [.ref q_u_loads, .ref q_u_near, .ref q_u_ties, .int u_size, .int u_edges], aI cA q_u_near 14 u_near]) (st' := [.int u5]) (N0 := 5) rfl [some 0, some 1, none, some 2, none] (by decide) rfl rfl ?_
    refine g_istore_n C 15 (fun z => [(2, .int z), (0, .ref q_t), (1, .ref q_u)]) dX0_fault_15 rfl (by decide) (fun _ => rfl) hf (fun x2_6 hf => ?_)
    refine g_lv [1, 2, 0] rfl ?_
    exact w_X0_fault_16 cA q_t q_t_masks q_t_ups q_u q_u_loads q_u_ties u_edges q_u_near t_size t_masks t_ups u_size u_near C hk F r hB x2_6 hf
