theorem dX6_bestOrder_0 : decode cX6_bestOrder 0 = .ok (.iload_n 3, 1) := by decide +kernel
theorem dX6_bestOrder_1 : decode cX6_bestOrder 1 = .ok (.istore 4, 2) := by decide +kernel
theorem dX6_bestOrder_3 : decode cX6_bestOrder 3 = .ok (.iload 4, 2) := by decide +kernel
theorem dX6_bestOrder_5 : decode cX6_bestOrder 5 = .ok (.aload_n 1, 1) := by decide +kernel
theorem dX6_bestOrder_6 : decode cX6_bestOrder 6 = .ok (.getfield 26, 3) := by decide +kernel
theorem dX6_bestOrder_9 : decode cX6_bestOrder 9 = .ok (.if_icmp .ge 19, 3) := by decide +kernel
theorem dX6_bestOrder_12 : decode cX6_bestOrder 12 = .ok (.aload_n 0, 1) := by decide +kernel
theorem dX6_bestOrder_13 : decode cX6_bestOrder 13 = .ok (.aload_n 1, 1) := by decide +kernel
theorem dX6_bestOrder_14 : decode cX6_bestOrder 14 = .ok (.iload 4, 2) := by decide +kernel
theorem dX6_bestOrder_16 : decode cX6_bestOrder 16 = .ok (.invokevirtual 32, 3) := by decide +kernel
theorem dX6_bestOrder_19 : decode cX6_bestOrder 19 = .ok (.ifCond .ne 9, 3) := by decide +kernel
theorem dX6_bestOrder_22 : decode cX6_bestOrder 22 = .ok (.iinc 4 1, 3) := by decide +kernel
theorem dX6_bestOrder_25 : decode cX6_bestOrder 25 = .ok (.goto (-22), 3) := by decide +kernel
theorem dX6_bestOrder_28 : decode cX6_bestOrder 28 = .ok (.aload_n 0, 1) := by decide +kernel
theorem dX6_bestOrder_29 : decode cX6_bestOrder 29 = .ok (.getfield 12, 3) := by decide +kernel
theorem dX6_bestOrder_32 : decode cX6_bestOrder 32 = .ok (.aload_n 1, 1) := by decide +kernel
theorem dX6_bestOrder_33 : decode cX6_bestOrder 33 = .ok (.invokevirtual 36, 3) := by decide +kernel
theorem dX6_bestOrder_36 : decode cX6_bestOrder 36 = .ok (.iconst 0, 1) := by decide +kernel
theorem dX6_bestOrder_37 : decode cX6_bestOrder 37 = .ok (.istore 5, 2) := by decide +kernel
theorem dX6_bestOrder_39 : decode cX6_bestOrder 39 = .ok (.iload 5, 2) := by decide +kernel
theorem dX6_bestOrder_41 : decode cX6_bestOrder 41 = .ok (.aload_n 1, 1) := by decide +kernel
theorem dX6_bestOrder_42 : decode cX6_bestOrder 42 = .ok (.getfield 26, 3) := by decide +kernel
theorem dX6_bestOrder_45 : decode cX6_bestOrder 45 = .ok (.if_icmp .ge 54, 3) := by decide +kernel
theorem dX6_bestOrder_48 : decode cX6_bestOrder 48 = .ok (.iconst 0, 1) := by decide +kernel
theorem dX6_bestOrder_49 : decode cX6_bestOrder 49 = .ok (.istore 6, 2) := by decide +kernel
theorem dX6_bestOrder_51 : decode cX6_bestOrder 51 = .ok (.iload 6, 2) := by decide +kernel
theorem dX6_bestOrder_53 : decode cX6_bestOrder 53 = .ok (.bipush 13, 2) := by decide +kernel
theorem dX6_bestOrder_55 : decode cX6_bestOrder 55 = .ok (.if_icmp .ge 23, 3) := by decide +kernel
theorem dX6_bestOrder_58 : decode cX6_bestOrder 58 = .ok (.aload_n 0, 1) := by decide +kernel
theorem dX6_bestOrder_59 : decode cX6_bestOrder 59 = .ok (.aload_n 0, 1) := by decide +kernel
theorem dX6_bestOrder_60 : decode cX6_bestOrder 60 = .ok (.getfield 12, 3) := by decide +kernel
theorem dX6_bestOrder_63 : decode cX6_bestOrder 63 = .ok (.iload 6, 2) := by decide +kernel
theorem dX6_bestOrder_65 : decode cX6_bestOrder 65 = .ok (.iconst 0, 1) := by decide +kernel
theorem dX6_bestOrder_66 : decode cX6_bestOrder 66 = .ok (.invokevirtual 40, 3) := by decide +kernel
theorem dX6_bestOrder_69 : decode cX6_bestOrder 69 = .ok (.ifCond .ne 9, 3) := by decide +kernel
theorem dX6_bestOrder_72 : decode cX6_bestOrder 72 = .ok (.iinc 6 1, 3) := by decide +kernel
theorem dX6_bestOrder_75 : decode cX6_bestOrder 75 = .ok (.goto (-24), 3) := by decide +kernel
theorem dX6_bestOrder_78 : decode cX6_bestOrder 78 = .ok (.aload_n 2, 1) := by decide +kernel
theorem dX6_bestOrder_79 : decode cX6_bestOrder 79 = .ok (.iload 6, 2) := by decide +kernel
theorem dX6_bestOrder_81 : decode cX6_bestOrder 81 = .ok (.invokevirtual 44, 3) := by decide +kernel
theorem dX6_bestOrder_84 : decode cX6_bestOrder 84 = .ok (.aload_n 0, 1) := by decide +kernel
theorem dX6_bestOrder_85 : decode cX6_bestOrder 85 = .ok (.getfield 12, 3) := by decide +kernel
theorem dX6_bestOrder_88 : decode cX6_bestOrder 88 = .ok (.iload 6, 2) := by decide +kernel
theorem dX6_bestOrder_90 : decode cX6_bestOrder 90 = .ok (.invokevirtual 50, 3) := by decide +kernel
theorem dX6_bestOrder_93 : decode cX6_bestOrder 93 = .ok (.iinc 5 1, 3) := by decide +kernel
theorem dX6_bestOrder_96 : decode cX6_bestOrder 96 = .ok (.goto (-57), 3) := by decide +kernel
theorem dX6_bestOrder_99 : decode cX6_bestOrder 99 = .ok (.iload 4, 2) := by decide +kernel
theorem dX6_bestOrder_101 : decode cX6_bestOrder 101 = .ok (.ireturn, 1) := by decide +kernel
theorem dX6_netFits_0 : decode cX6_netFits 0 = .ok (.aload_n 0, 1) := by decide +kernel
theorem dX6_netFits_1 : decode cX6_netFits 1 = .ok (.iload_n 2, 1) := by decide +kernel
theorem dX6_netFits_2 : decode cX6_netFits 2 = .ok (.putfield 53, 3) := by decide +kernel
theorem dX6_netFits_5 : decode cX6_netFits 5 = .ok (.aload_n 0, 1) := by decide +kernel
theorem dX6_netFits_6 : decode cX6_netFits 6 = .ok (.getfield 22, 3) := by decide +kernel
theorem dX6_netFits_9 : decode cX6_netFits 9 = .ok (.lconst 0, 1) := by decide +kernel
theorem dX6_netFits_10 : decode cX6_netFits 10 = .ok (.invokestatic 56, 3) := by decide +kernel
theorem dX6_netFits_13 : decode cX6_netFits 13 = .ok (.aload_n 0, 1) := by decide +kernel
theorem dX6_netFits_14 : decode cX6_netFits 14 = .ok (.getfield 18, 3) := by decide +kernel
theorem dX6_netFits_17 : decode cX6_netFits 17 = .ok (.iconst 0, 1) := by decide +kernel
theorem dX6_netFits_18 : decode cX6_netFits 18 = .ok (.aaload, 1) := by decide +kernel
theorem dX6_netFits_19 : decode cX6_netFits 19 = .ok (.aload_n 1, 1) := by decide +kernel
theorem dX6_netFits_20 : decode cX6_netFits 20 = .ok (.invokevirtual 36, 3) := by decide +kernel
theorem dX6_netFits_23 : decode cX6_netFits 23 = .ok (.aload_n 0, 1) := by decide +kernel
theorem dX6_netFits_24 : decode cX6_netFits 24 = .ok (.iconst 0, 1) := by decide +kernel
theorem dX6_netFits_25 : decode cX6_netFits 25 = .ok (.invokevirtual 62, 3) := by decide +kernel
theorem dX6_netFits_28 : decode cX6_netFits 28 = .ok (.ireturn, 1) := by decide +kernel
theorem dX6_fitsBehind_0 : decode cX6_fitsBehind 0 = .ok (.aload_n 1, 1) := by decide +kernel
theorem dX6_fitsBehind_1 : decode cX6_fitsBehind 1 = .ok (.getfield 66, 3) := by decide +kernel
theorem dX6_fitsBehind_4 : decode cX6_fitsBehind 4 = .ok (.iload_n 2, 1) := by decide +kernel
theorem dX6_fitsBehind_5 : decode cX6_fitsBehind 5 = .ok (.invokestatic 69, 3) := by decide +kernel
theorem dX6_fitsBehind_8 : decode cX6_fitsBehind 8 = .ok (.ifCond .eq 19, 3) := by decide +kernel
theorem dX6_fitsBehind_11 : decode cX6_fitsBehind 11 = .ok (.aload_n 1, 1) := by decide +kernel
theorem dX6_fitsBehind_12 : decode cX6_fitsBehind 12 = .ok (.getfield 73, 3) := by decide +kernel
theorem dX6_fitsBehind_15 : decode cX6_fitsBehind 15 = .ok (.iload_n 2, 1) := by decide +kernel
theorem dX6_fitsBehind_16 : decode cX6_fitsBehind 16 = .ok (.iaload, 1) := by decide +kernel
theorem dX6_fitsBehind_17 : decode cX6_fitsBehind 17 = .ok (.invokestatic 77, 3) := by decide +kernel
theorem dX6_fitsBehind_20 : decode cX6_fitsBehind 20 = .ok (.aload_n 0, 1) := by decide +kernel
theorem dX6_fitsBehind_21 : decode cX6_fitsBehind 21 = .ok (.getfield 53, 3) := by decide +kernel
theorem dX6_fitsBehind_24 : decode cX6_fitsBehind 24 = .ok (.if_icmp .le 5, 3) := by decide +kernel
theorem dX6_fitsBehind_27 : decode cX6_fitsBehind 27 = .ok (.iconst 0, 1) := by decide +kernel
theorem dX6_fitsBehind_28 : decode cX6_fitsBehind 28 = .ok (.ireturn, 1) := by decide +kernel
theorem dX6_fitsBehind_29 : decode cX6_fitsBehind 29 = .ok (.aload_n 0, 1) := by decide +kernel
theorem dX6_fitsBehind_30 : decode cX6_fitsBehind 30 = .ok (.getfield 18, 3) := by decide +kernel
theorem dX6_fitsBehind_33 : decode cX6_fitsBehind 33 = .ok (.iload_n 3, 1) := by decide +kernel
theorem dX6_fitsBehind_34 : decode cX6_fitsBehind 34 = .ok (.aaload, 1) := by decide +kernel
theorem dX6_fitsBehind_35 : decode cX6_fitsBehind 35 = .ok (.aload_n 1, 1) := by decide +kernel
theorem dX6_fitsBehind_36 : decode cX6_fitsBehind 36 = .ok (.invokevirtual 83, 3) := by decide +kernel
theorem dX6_fitsBehind_39 : decode cX6_fitsBehind 39 = .ok (.aload_n 0, 1) := by decide +kernel
theorem dX6_fitsBehind_40 : decode cX6_fitsBehind 40 = .ok (.getfield 18, 3) := by decide +kernel
theorem dX6_fitsBehind_43 : decode cX6_fitsBehind 43 = .ok (.iload_n 3, 1) := by decide +kernel
theorem dX6_fitsBehind_44 : decode cX6_fitsBehind 44 = .ok (.aaload, 1) := by decide +kernel
theorem dX6_fitsBehind_45 : decode cX6_fitsBehind 45 = .ok (.iload_n 2, 1) := by decide +kernel
theorem dX6_fitsBehind_46 : decode cX6_fitsBehind 46 = .ok (.invokevirtual 50, 3) := by decide +kernel
theorem dX6_fitsBehind_49 : decode cX6_fitsBehind 49 = .ok (.aload_n 0, 1) := by decide +kernel
theorem dX6_fitsBehind_50 : decode cX6_fitsBehind 50 = .ok (.iload_n 3, 1) := by decide +kernel
theorem dX6_fitsBehind_51 : decode cX6_fitsBehind 51 = .ok (.invokevirtual 62, 3) := by decide +kernel
theorem dX6_fitsBehind_54 : decode cX6_fitsBehind 54 = .ok (.ireturn, 1) := by decide +kernel
theorem dX6_fits_0 : decode cX6_fits 0 = .ok (.aload_n 0, 1) := by decide +kernel
theorem dX6_fits_1 : decode cX6_fits 1 = .ok (.getfield 18, 3) := by decide +kernel
theorem dX6_fits_4 : decode cX6_fits 4 = .ok (.iload_n 1, 1) := by decide +kernel
theorem dX6_fits_5 : decode cX6_fits 5 = .ok (.aaload, 1) := by decide +kernel
theorem dX6_fits_6 : decode cX6_fits 6 = .ok (.astore_n 2, 1) := by decide +kernel
theorem dX6_fits_7 : decode cX6_fits 7 = .ok (.iconst 0, 1) := by decide +kernel
theorem dX6_fits_8 : decode cX6_fits 8 = .ok (.istore_n 3, 1) := by decide +kernel
theorem dX6_fits_9 : decode cX6_fits 9 = .ok (.iload_n 3, 1) := by decide +kernel
theorem dX6_fits_10 : decode cX6_fits 10 = .ok (.bipush 14, 2) := by decide +kernel
theorem dX6_fits_12 : decode cX6_fits 12 = .ok (.if_icmp .ge 34, 3) := by decide +kernel
theorem dX6_fits_15 : decode cX6_fits 15 = .ok (.aload_n 2, 1) := by decide +kernel
theorem dX6_fits_16 : decode cX6_fits 16 = .ok (.aload_n 0, 1) := by decide +kernel
theorem dX6_fits_17 : decode cX6_fits 17 = .ok (.getfield 53, 3) := by decide +kernel
theorem dX6_fits_20 : decode cX6_fits 20 = .ok (.invokevirtual 87, 3) := by decide +kernel
theorem dX6_fits_23 : decode cX6_fits 23 = .ok (.istore 4, 2) := by decide +kernel
theorem dX6_fits_25 : decode cX6_fits 25 = .ok (.iload 4, 2) := by decide +kernel
theorem dX6_fits_27 : decode cX6_fits 27 = .ok (.iconst (-1), 1) := by decide +kernel
theorem dX6_fits_28 : decode cX6_fits 28 = .ok (.if_icmp .ne 6, 3) := by decide +kernel
theorem dX6_fits_31 : decode cX6_fits 31 = .ok (.goto 15, 3) := by decide +kernel
theorem dX6_fits_34 : decode cX6_fits 34 = .ok (.aload_n 2, 1) := by decide +kernel
theorem dX6_fits_35 : decode cX6_fits 35 = .ok (.iload 4, 2) := by decide +kernel
theorem dX6_fits_37 : decode cX6_fits 37 = .ok (.invokevirtual 50, 3) := by decide +kernel
theorem dX6_fits_40 : decode cX6_fits 40 = .ok (.iinc 3 1, 3) := by decide +kernel
theorem dX6_fits_43 : decode cX6_fits 43 = .ok (.goto (-34), 3) := by decide +kernel
theorem dX6_fits_46 : decode cX6_fits 46 = .ok (.aload_n 2, 1) := by decide +kernel
theorem dX6_fits_47 : decode cX6_fits 47 = .ok (.getfield 66, 3) := by decide +kernel
theorem dX6_fits_50 : decode cX6_fits 50 = .ok (.invokestatic 77, 3) := by decide +kernel
theorem dX6_fits_53 : decode cX6_fits 53 = .ok (.aload_n 0, 1) := by decide +kernel
theorem dX6_fits_54 : decode cX6_fits 54 = .ok (.getfield 53, 3) := by decide +kernel
theorem dX6_fits_57 : decode cX6_fits 57 = .ok (.iconst 1, 1) := by decide +kernel
theorem dX6_fits_58 : decode cX6_fits 58 = .ok (.iadd, 1) := by decide +kernel
theorem dX6_fits_59 : decode cX6_fits 59 = .ok (.if_icmp .gt 5, 3) := by decide +kernel
theorem dX6_fits_62 : decode cX6_fits 62 = .ok (.iconst 1, 1) := by decide +kernel
theorem dX6_fits_63 : decode cX6_fits 63 = .ok (.ireturn, 1) := by decide +kernel
theorem dX6_fits_64 : decode cX6_fits 64 = .ok (.iload_n 1, 1) := by decide +kernel
theorem dX6_fits_65 : decode cX6_fits 65 = .ok (.iconst 1, 1) := by decide +kernel
theorem dX6_fits_66 : decode cX6_fits 66 = .ok (.iadd, 1) := by decide +kernel
theorem dX6_fits_67 : decode cX6_fits 67 = .ok (.aload_n 0, 1) := by decide +kernel
theorem dX6_fits_68 : decode cX6_fits 68 = .ok (.getfield 18, 3) := by decide +kernel
theorem dX6_fits_71 : decode cX6_fits 71 = .ok (.arraylength, 1) := by decide +kernel
theorem dX6_fits_72 : decode cX6_fits 72 = .ok (.if_icmp .ge 14, 3) := by decide +kernel
theorem dX6_fits_75 : decode cX6_fits 75 = .ok (.aload_n 0, 1) := by decide +kernel
theorem dX6_fits_76 : decode cX6_fits 76 = .ok (.aload_n 2, 1) := by decide +kernel
theorem dX6_fits_77 : decode cX6_fits 77 = .ok (.getfield 66, 3) := by decide +kernel
theorem dX6_fits_80 : decode cX6_fits 80 = .ok (.invokevirtual 90, 3) := by decide +kernel
theorem dX6_fits_83 : decode cX6_fits 83 = .ok (.ifCond .eq 5, 3) := by decide +kernel
theorem dX6_fits_86 : decode cX6_fits 86 = .ok (.iconst 0, 1) := by decide +kernel
theorem dX6_fits_87 : decode cX6_fits 87 = .ok (.ireturn, 1) := by decide +kernel
theorem dX6_fits_88 : decode cX6_fits 88 = .ok (.iconst 0, 1) := by decide +kernel
theorem dX6_fits_89 : decode cX6_fits 89 = .ok (.istore_n 3, 1) := by decide +kernel
theorem dX6_fits_90 : decode cX6_fits 90 = .ok (.iload_n 3, 1) := by decide +kernel
theorem dX6_fits_91 : decode cX6_fits 91 = .ok (.bipush 14, 2) := by decide +kernel
theorem dX6_fits_93 : decode cX6_fits 93 = .ok (.if_icmp .ge 23, 3) := by decide +kernel
theorem dX6_fits_96 : decode cX6_fits 96 = .ok (.aload_n 0, 1) := by decide +kernel
theorem dX6_fits_97 : decode cX6_fits 97 = .ok (.aload_n 2, 1) := by decide +kernel
theorem dX6_fits_98 : decode cX6_fits 98 = .ok (.iload_n 3, 1) := by decide +kernel
theorem dX6_fits_99 : decode cX6_fits 99 = .ok (.iload_n 1, 1) := by decide +kernel
theorem dX6_fits_100 : decode cX6_fits 100 = .ok (.iconst 1, 1) := by decide +kernel
theorem dX6_fits_101 : decode cX6_fits 101 = .ok (.iadd, 1) := by decide +kernel
theorem dX6_fits_102 : decode cX6_fits 102 = .ok (.invokevirtual 40, 3) := by decide +kernel
theorem dX6_fits_105 : decode cX6_fits 105 = .ok (.ifCond .eq 5, 3) := by decide +kernel
theorem dX6_fits_108 : decode cX6_fits 108 = .ok (.iconst 1, 1) := by decide +kernel
theorem dX6_fits_109 : decode cX6_fits 109 = .ok (.ireturn, 1) := by decide +kernel
theorem dX6_fits_110 : decode cX6_fits 110 = .ok (.iinc 3 1, 3) := by decide +kernel
theorem dX6_fits_113 : decode cX6_fits 113 = .ok (.goto (-23), 3) := by decide +kernel
theorem dX6_fits_116 : decode cX6_fits 116 = .ok (.aload_n 0, 1) := by decide +kernel
theorem dX6_fits_117 : decode cX6_fits 117 = .ok (.getfield 22, 3) := by decide +kernel
theorem dX6_fits_120 : decode cX6_fits 120 = .ok (.aload_n 2, 1) := by decide +kernel
theorem dX6_fits_121 : decode cX6_fits 121 = .ok (.getfield 66, 3) := by decide +kernel
theorem dX6_fits_124 : decode cX6_fits 124 = .ok (.bipush 6, 2) := by decide +kernel
theorem dX6_fits_126 : decode cX6_fits 126 = .ok (.ishr, 1) := by decide +kernel
theorem dX6_fits_127 : decode cX6_fits 127 = .ok (.dup2, 1) := by decide +kernel
theorem dX6_fits_128 : decode cX6_fits 128 = .ok (.laload, 1) := by decide +kernel
theorem dX6_fits_129 : decode cX6_fits 129 = .ok (.lconst 1, 1) := by decide +kernel
theorem dX6_fits_130 : decode cX6_fits 130 = .ok (.aload_n 2, 1) := by decide +kernel
theorem dX6_fits_131 : decode cX6_fits 131 = .ok (.getfield 66, 3) := by decide +kernel
theorem dX6_fits_134 : decode cX6_fits 134 = .ok (.bipush 63, 2) := by decide +kernel
theorem dX6_fits_136 : decode cX6_fits 136 = .ok (.iand, 1) := by decide +kernel
theorem dX6_fits_137 : decode cX6_fits 137 = .ok (.lshl, 1) := by decide +kernel
theorem dX6_fits_138 : decode cX6_fits 138 = .ok (.lor, 1) := by decide +kernel
theorem dX6_fits_139 : decode cX6_fits 139 = .ok (.lastore, 1) := by decide +kernel
theorem dX6_fits_140 : decode cX6_fits 140 = .ok (.iconst 0, 1) := by decide +kernel
theorem dX6_fits_141 : decode cX6_fits 141 = .ok (.ireturn, 1) := by decide +kernel
theorem dX6_isStuck_0 : decode cX6_isStuck 0 = .ok (.aload_n 0, 1) := by decide +kernel
theorem dX6_isStuck_1 : decode cX6_isStuck 1 = .ok (.getfield 22, 3) := by decide +kernel
theorem dX6_isStuck_4 : decode cX6_isStuck 4 = .ok (.iload_n 1, 1) := by decide +kernel
theorem dX6_isStuck_5 : decode cX6_isStuck 5 = .ok (.bipush 6, 2) := by decide +kernel
theorem dX6_isStuck_7 : decode cX6_isStuck 7 = .ok (.ishr, 1) := by decide +kernel
theorem dX6_isStuck_8 : decode cX6_isStuck 8 = .ok (.laload, 1) := by decide +kernel
theorem dX6_isStuck_9 : decode cX6_isStuck 9 = .ok (.iload_n 1, 1) := by decide +kernel
theorem dX6_isStuck_10 : decode cX6_isStuck 10 = .ok (.bipush 63, 2) := by decide +kernel
theorem dX6_isStuck_12 : decode cX6_isStuck 12 = .ok (.iand, 1) := by decide +kernel
theorem dX6_isStuck_13 : decode cX6_isStuck 13 = .ok (.lshr, 1) := by decide +kernel
theorem dX6_isStuck_14 : decode cX6_isStuck 14 = .ok (.lconst 1, 1) := by decide +kernel
theorem dX6_isStuck_15 : decode cX6_isStuck 15 = .ok (.land, 1) := by decide +kernel
theorem dX6_isStuck_16 : decode cX6_isStuck 16 = .ok (.lconst 0, 1) := by decide +kernel
theorem dX6_isStuck_17 : decode cX6_isStuck 17 = .ok (.lcmp, 1) := by decide +kernel
theorem dX6_isStuck_18 : decode cX6_isStuck 18 = .ok (.ifCond .eq 7, 3) := by decide +kernel
theorem dX6_isStuck_21 : decode cX6_isStuck 21 = .ok (.iconst 1, 1) := by decide +kernel
theorem dX6_isStuck_22 : decode cX6_isStuck 22 = .ok (.goto 4, 3) := by decide +kernel
theorem dX6_isStuck_25 : decode cX6_isStuck 25 = .ok (.iconst 0, 1) := by decide +kernel
theorem dX6_isStuck_26 : decode cX6_isStuck 26 = .ok (.ireturn, 1) := by decide +kernel
def f_X6_isStuck (a1 : Int32) (t_stuck : Nat → Int64) : Option (Int32) :=
  ldA t_stuck 256 (a1 >>> ((6 : Int32) &&& 31)) fun v1 =>
  if (lg_cmp ((v1 >>> (((a1 &&& (63 : Int32))).toInt64 &&& 63)) &&& (1 : Int64)) (0 : Int64)) = 0 then
    some ((0 : Int32))
  else
    some ((1 : Int32))

set_option maxRecDepth 100000 in
set_option maxHeartbeats 1000000 in
theorem c_X6_isStuck (l : Launch) (cA : Nat → ClassId) (q_t : Nat) (q_t_rest : Nat) (q_t_levels : Nat) (t_limit : Int32) (q_t_stuck : Nat) (t_stuck : Nat → Int64)  (a1 : Int32) (r : Int32) (hf : f_X6_isStuck a1 t_stuck = some r) : MT l cA yX6_isStuck cX6_isStuck 2 (some .boolean) ({ frames := 0, cells := 0, slots := 0, locals := 0 } : Room) [.ref q_t, .int a1] [oB q_t 6 [.ref q_t_rest, .ref q_t_levels, .ref q_t_stuck, .int t_limit], aJ cA q_t_stuck 256 t_stuck] (sB (some (.int r)) [oB q_t 6 [.ref q_t_rest, .ref q_t_levels, .ref q_t_stuck, .int t_limit], aJ cA q_t_stuck 256 t_stuck]) := by
  refine MT.of (by decide) (Nat.le_of_ble_eq_true rfl) ?_
  intro X hXl C F hnm hrc hrs
  subst hXl
  have hk : 0 ≤ (x_R X).cells ∧ 0 ≤ (x_R X).slots := ⟨Nat.zero_le _, Nat.zero_le _⟩
  have hB : (sB (some (.int r)) [oB q_t 6 [.ref q_t_rest, .ref q_t_levels, .ref q_t_stuck, .int t_limit], aJ cA q_t_stuck 256 t_stuck]) (some (.int r)) [oB q_t 6 [.ref q_t_rest, .ref q_t_levels, .ref q_t_stuck, .int t_limit], aJ cA q_t_stuck 256 t_stuck] := ⟨rfl, rfl⟩
  unfold f_X6_isStuck at hf
  have C : Cx X cX6_isStuck RX6 (some .boolean) cA 0 0 2 := C
  show Go X 2 0 0 0 [oB q_t 6 [.ref q_t_rest, .ref q_t_levels, .ref q_t_stuck, .int t_limit], aJ cA q_t_stuck 256 t_stuck] [(0, .ref q_t), (1, .int a1)] []
  refine g_aload_n C 0 0 dX6_isStuck_0 rfl rfl ?_
  refine g_get C 1 0 2 dX6_isStuck_1 inX6 rfl rfl (by decide) kw_141 rfl ?_
  refine g_iload_n C 4 1 dX6_isStuck_4 rfl rfl ?_
  refine g_bipush C 5 (6 : Int32) dX6_isStuck_5 (by decide) ?_
  refine g_ishr C 7 dX6_isStuck_7 ?_
  refine g_lald C 8 1 dX6_isStuck_8 rfl hf (fun v1 hf => ?_)
  refine g_iload_n C 9 1 dX6_isStuck_9 rfl rfl ?_
  refine g_bipush C 10 (63 : Int32) dX6_isStuck_10 (by decide) ?_
  refine g_iand C 12 dX6_isStuck_12 ?_
  refine g_lshr C 13 dX6_isStuck_13 ?_
  refine g_lconst C 14 (1 : Int64) dX6_isStuck_14 (by decide) ?_
  refine g_land C 15 dX6_isStuck_15 ?_
  refine g_lconst C 16 (0 : Int64) dX6_isStuck_16 (by decide) ?_
  refine g_lcmp C 17 dX6_isStuck_17 ?_
  refine g_if_eq C 18 25 dX6_isStuck_18 (by decide) hf (fun hf => ?_) (fun hf => ?_)
  · refine g_iconst C 25 (0 : Int32) dX6_isStuck_25 (by decide) ?_
    cases hf
    exact g_zret C 26 dX6_isStuck_26 (by decide) F hB
  · refine g_iconst C 21 (1 : Int32) dX6_isStuck_21 (by decide) ?_
    refine g_goto C 22 26 dX6_isStuck_22 (by decide) ?_
    cases hf
    exact g_zret C 26 dX6_isStuck_26 (by decide) F hB

/-- the contract of fits, of any function FF -/
def FitsOK (l : Launch) (cA : Nat → ClassId) (q_t q_t_rest q_t_rest_near q_t_levels q_t_stuck : Nat) (ad an : Nat → Nat) (fd ld : Nat) (FF : Int32 → Int32 → (Nat → Int64) → (Nat → Int32) → (Nat → Int32) → (Nat → Nat → Int32) → Option (Int32 × (Nat → Int64) × (Nat → Int32) × (Nat → Int32) × (Nat → Nat → Int32))) : Prop :=
  ∀ (t_limit t_rest_left t_rest_newEnds : Int32) (t_rest_near : Nat → Int32) (t_stuck : Nat → Int64) (lf ne : Nat → Int32) (nr : Nat → Nat → Int32) (a1 : Int32) (r : Int32 × (Nat → Int64) × (Nat → Int32) × (Nat → Int32) × (Nat → Nat → Int32)), FF a1 t_limit t_stuck lf ne nr = some r → MT l cA yX6_fits cX6_fits 5 (some .boolean) ({ frames := fd, cells := 0, slots := 0, locals := ld } : Room) [.ref q_t, .int a1] ([oB q_t 6 [.ref q_t_rest, .ref q_t_levels, .ref q_t_stuck, .int t_limit], oB q_t_rest 1 [.ref q_t_rest_near, .int t_rest_left, .int t_rest_newEnds], aI cA q_t_rest_near 14 t_rest_near, aG cA q_t_levels 15 (fun i => some (ad i)), aJ cA q_t_stuck 256 t_stuck] ++ lvW cA ad an lf ne nr) (sB (some (.int r.1)) ([oB q_t 6 [.ref q_t_rest, .ref q_t_levels, .ref q_t_stuck, .int t_limit], oB q_t_rest 1 [.ref q_t_rest_near, .int t_rest_left, .int t_rest_newEnds], aI cA q_t_rest_near 14 t_rest_near, aG cA q_t_levels 15 (fun i => some (ad i)), aJ cA q_t_stuck 256 r.2.1] ++ lvW cA ad an r.2.2.1 r.2.2.2.1 r.2.2.2.2))
def f_X6_fitsBehindL (FF : Int32 → Int32 → (Nat → Int64) → (Nat → Int32) → (Nat → Int32) → (Nat → Nat → Int32) → Option (Int32 × (Nat → Int64) × (Nat → Int32) × (Nat → Int32) × (Nat → Nat → Int32))) (J : Nat) (a2 : Int32) (a3 : Int32) (t_limit : Int32) (t_stuck : Nat → Int64) (lf : Nat → Int32) (ne : Nat → Int32) (nr : Nat → Nat → Int32) : Option (Int32 × (Nat → Int64) × (Nat → Int32) × (Nat → Int32) × (Nat → Nat → Int32)) :=
  cal (f_X8_hasBit (lf J) a2) fun u1 =>
  if u1 = 0 then
    some ((0 : Int32), t_stuck, lf, ne, nr)
  else
    ldA (nr J) 14 a2 fun v2 =>
    cal (f_J6_bitCount_0f7a4 v2) fun u3 =>
    if u3 ≤ t_limit then
      ckI a3 15 <|
      chk (J ≠ a3.toNatClampNeg) <|
      cal (f_X1_startAs (lf a3.toNatClampNeg) (ne a3.toNatClampNeg) (nr a3.toNatClampNeg) (lf J) (ne J) (nr J)) fun u4 =>
      ckI a3 15 <|
      cal (f_X1_letGo a2 ((upd lf a3.toNatClampNeg u4.1) a3.toNatClampNeg) ((upd ne a3.toNatClampNeg u4.2.1) a3.toNatClampNeg) ((va_up nr a3.toNatClampNeg u4.2.2) a3.toNatClampNeg)) fun u5 =>
      cal (FF a3 t_limit t_stuck (upd (upd lf a3.toNatClampNeg u4.1) a3.toNatClampNeg u5.1) (upd (upd ne a3.toNatClampNeg u4.2.1) a3.toNatClampNeg u5.2.1) (va_up (va_up nr a3.toNatClampNeg u4.2.2) a3.toNatClampNeg u5.2.2)) fun u6 =>
      chk (u6.1 = 0 ∨ u6.1 = 1) (some (u6.1, u6.2.1, u6.2.2.1, u6.2.2.2.1, u6.2.2.2.2))
    else
      some ((0 : Int32), t_stuck, lf, ne, nr)

set_option maxRecDepth 100000 in
set_option maxHeartbeats 1000000 in
theorem c_X6_fitsBehindL (l : Launch) (cA : Nat → ClassId) (q_t : Nat) (t_limit : Int32) (q_t_rest : Nat) (t_rest_left : Int32) (t_rest_newEnds : Int32) (q_t_rest_near : Nat) (t_rest_near : Nat → Int32) (q_t_levels : Nat) (q_t_stuck : Nat) (t_stuck : Nat → Int64) (ad : Nat → Nat) (an : Nat → Nat) (lf : Nat → Int32) (ne : Nat → Int32) (nr : Nat → Nat → Int32) (fd ld : Nat) (FF : Int32 → Int32 → (Nat → Int64) → (Nat → Int32) → (Nat → Int32) → (Nat → Nat → Int32) → Option (Int32 × (Nat → Int64) × (Nat → Int32) × (Nat → Int32) × (Nat → Nat → Int32))) (hFF : FitsOK l cA q_t q_t_rest q_t_rest_near q_t_levels q_t_stuck ad an fd ld FF) (J : Nat) (hJ : J < 15) (a2 : Int32) (a3 : Int32) (r : Int32 × (Nat → Int64) × (Nat → Int32) × (Nat → Int32) × (Nat → Nat → Int32)) (hf : f_X6_fitsBehindL FF J a2 a3 t_limit t_stuck lf ne nr = some r) : MT l cA yX6_fitsBehind cX6_fitsBehind 4 (some .boolean) ({ frames := (fd + 6), cells := 0, slots := 0, locals := (ld + 200) } : Room) [.ref q_t, .ref (ad J), .int a2, .int a3] ([oB q_t 6 [.ref q_t_rest, .ref q_t_levels, .ref q_t_stuck, .int t_limit], oB q_t_rest 1 [.ref q_t_rest_near, .int t_rest_left, .int t_rest_newEnds], aI cA q_t_rest_near 14 t_rest_near, aG cA q_t_levels 15 (fun i => some (ad i)), aJ cA q_t_stuck 256 t_stuck] ++ lvW cA ad an lf ne nr) (sB (some (.int r.1)) ([oB q_t 6 [.ref q_t_rest, .ref q_t_levels, .ref q_t_stuck, .int t_limit], oB q_t_rest 1 [.ref q_t_rest_near, .int t_rest_left, .int t_rest_newEnds], aI cA q_t_rest_near 14 t_rest_near, aG cA q_t_levels 15 (fun i => some (ad i)), aJ cA q_t_stuck 256 r.2.1] ++ lvW cA ad an r.2.2.1 r.2.2.2.1 r.2.2.2.2)) := by
  refine MT.of (by decide) (Nat.le_of_ble_eq_true rfl) ?_
  intro X hXl C F hnm hrc hrs
  subst hXl
  have hk : 0 ≤ (x_R X).cells ∧ 0 ≤ (x_R X).slots := ⟨Nat.zero_le _, Nat.zero_le _⟩
  have hB : (sB (some (.int r.1)) ([oB q_t 6 [.ref q_t_rest, .ref q_t_levels, .ref q_t_stuck, .int t_limit], oB q_t_rest 1 [.ref q_t_rest_near, .int t_rest_left, .int t_rest_newEnds], aI cA q_t_rest_near 14 t_rest_near, aG cA q_t_levels 15 (fun i => some (ad i)), aJ cA q_t_stuck 256 r.2.1] ++ lvW cA ad an r.2.2.1 r.2.2.2.1 r.2.2.2.2)) (some (.int r.1)) ([oB q_t 6 [.ref q_t_rest, .ref q_t_levels, .ref q_t_stuck, .int t_limit], oB q_t_rest 1 [.ref q_t_rest_near, .int t_rest_left, .int t_rest_newEnds], aI cA q_t_rest_near 14 t_rest_near, aG cA q_t_levels 15 (fun i => some (ad i)), aJ cA q_t_stuck 256 r.2.1] ++ lvW cA ad an r.2.2.1 r.2.2.2.1 r.2.2.2.2) := ⟨rfl, rfl⟩
  unfold f_X6_fitsBehindL at hf
  have C : Cx X cX6_fitsBehind RX6 (some .boolean) cA (fd + 6) (ld + 200) 4 := C
  show Go X 4 0 0 0 ([oB q_t 6 [.ref q_t_rest, .ref q_t_levels, .ref q_t_stuck, .int t_limit], oB q_t_rest 1 [.ref q_t_rest_near, .int t_rest_left, .int t_rest_newEnds], aI cA q_t_rest_near 14 t_rest_near, aG cA q_t_levels 15 (fun i => some (ad i)), aJ cA q_t_stuck 256 t_stuck] ++ lvW cA ad an lf ne nr) [(0, .ref q_t), (1, .ref (ad J)), (2, .int a2), (3, .int a3)] []
  refine g_aload_n C 0 1 dX6_fitsBehind_0 rfl rfl ?_
  refine g_get C 1 (5 + 2 * J) 1 dX6_fitsBehind_1 inX1 (fam_o rfl hJ) rfl (by decide) kw_456 rfl ?_
  refine g_iload_n C 4 2 dX6_fitsBehind_4 rfl rfl ?_
  obtain ⟨u1, hu1, hf⟩ := cal_some hf
  refine g_callSN0 C 5 (rest := []) dX6_fitsBehind_5 (c_X8_hasBit (x_l X) cA  (lf J) a2 u1 hu1) (List.mem_of_getElem? (i := 11) rfl) kw_5 kw_6 kw_7 ok_X8_hasBit ⟨by (try dsimp only); omega, by (try dsimp only); omega⟩ hk ⟨rfl, rfl⟩ rfl (Nat.le_of_ble_eq_true rfl) (st' := [.int u1]) rfl ?_
  refine g_if_eq C 8 27 dX6_fitsBehind_8 (by decide) hf (fun hf => ?_) (fun hf => ?_)
  · refine g_iconst C 27 (0 : Int32) dX6_fitsBehind_27 (by decide) ?_
    cases hf
    exact g_zret C 28 dX6_fitsBehind_28 (by decide) F hB
  · refine g_aload_n C 11 1 dX6_fitsBehind_11 rfl rfl ?_
    refine g_get C 12 (5 + 2 * J) 0 dX6_fitsBehind_12 inX1 (fam_o rfl hJ) rfl (by decide) kw_457 rfl ?_
    refine g_iload_n C 15 2 dX6_fitsBehind_15 rfl rfl ?_
    refine g_iald C 16 (5 + 2 * J + 1) dX6_fitsBehind_16 (fam_a rfl hJ) hf (fun v2 hf => ?_)
    obtain ⟨u3, hu3, hf⟩ := cal_some hf
    refine g_callSB C 17 [] (rest := []) (P' := [oB q_t 6 [.ref q_t_rest, .ref q_t_levels, .ref q_t_stuck, .int t_limit], oB q_t_rest 1 [.ref q_t_rest_near, .int t_rest_left, .int t_rest_newEnds], aI cA q_t_rest_near 14 t_rest_near, aG cA q_t_levels 15 (fun i => some (ad i)), aJ cA q_t_stuck 256 t_stuck]) dX6_fitsBehind_17 (c_J6_bitCount_0f7a4 (x_l X) cA  v2 u3 hu3) kw_458 kw_20 kw_21 kw_22 ok_J6_bitCount_0f7a4 ⟨by (try dsimp only); omega, by (try dsimp only); omega⟩ hk ⟨rfl, rfl⟩ rfl rfl rfl (Nat.le_of_ble_eq_true rfl) rfl (N0 := 5) rfl [none, none, none, none, none] (by decide) rfl (st' := [.int u3]) rfl ?_
    refine g_aload_n C 20 0 dX6_fitsBehind_20 rfl rfl ?_
    refine g_get C 21 0 3 dX6_fitsBehind_21 inX6 rfl rfl (by decide) kw_459 rfl ?_
    refine g_icmp_le C 24 29 dX6_fitsBehind_24 (by decide) hf (fun hf => ?_) (fun hf => ?_)
    · refine g_aload_n C 29 0 dX6_fitsBehind_29 rfl rfl ?_
      refine g_get C 30 0 1 dX6_fitsBehind_30 inX6 rfl rfl (by decide) kw_460 rfl ?_
      refine g_iload_n C 33 3 dX6_fitsBehind_33 rfl rfl ?_
      refine g_ald C 34 3 dX6_fitsBehind_34 rfl hf (fun hj4 hf => ?_)
      obtain ⟨hne, hf⟩ := chk_some hf
      refine g_aload_n C 35 1 dX6_fitsBehind_35 rfl rfl ?_
      obtain ⟨u4, hu4, hf⟩ := cal_some hf
      refine g_callP C 36 [(5 + 2 * a3.toNatClampNeg), (5 + 2 * a3.toNatClampNeg + 1), (5 + 2 * J), (5 + 2 * J + 1)] (5 + 2 * a3.toNatClampNeg) (rest := []) (ws' := ([oB q_t 6 [.ref q_t_rest, .ref q_t_levels, .ref q_t_stuck, .int t_limit], oB q_t_rest 1 [.ref q_t_rest_near, .int t_rest_left, .int t_rest_newEnds], aI cA q_t_rest_near 14 t_rest_near, aG cA q_t_levels 15 (fun i => some (ad i)), aJ cA q_t_stuck 256 t_stuck] ++ lvW cA ad an (upd lf a3.toNatClampNeg u4.1) (upd ne a3.toNatClampNeg u4.2.1) (va_up nr a3.toNatClampNeg u4.2.2))) dX6_fitsBehind_36 (c_X1_startAs (x_l X) cA (ad a3.toNatClampNeg) (lf a3.toNatClampNeg) (ne a3.toNatClampNeg) (an a3.toNatClampNeg) (nr a3.toNatClampNeg) (ad J) (lf J) (ne J) (an J) (nr J)  u4 hu4) kw_461 kw_462 kw_463 kw_16 kw_464 ok_X1_startAs ⟨by (try dsimp only); omega, by (try dsimp only); omega⟩ hk ⟨rfl, rfl⟩ (fam_o rfl hj4) rfl (fam_C2 rfl hj4 (fam_C rfl hJ)) (nd4 hne) rfl (Nat.le_of_ble_eq_true rfl) rfl (fam_sub rfl hj4 (fam_C rfl hJ) (nd4 hne)) (st' := []) rfl ?_
      refine g_aload_n C 39 0 dX6_fitsBehind_39 rfl rfl ?_
      refine g_get C 40 0 1 dX6_fitsBehind_40 inX6 rfl rfl (by decide) kw_460 rfl ?_
      refine g_iload_n C 43 3 dX6_fitsBehind_43 rfl rfl ?_
      refine g_ald C 44 3 dX6_fitsBehind_44 rfl hf (fun hj4 hf => ?_)
      refine g_iload_n C 45 2 dX6_fitsBehind_45 rfl rfl ?_
      obtain ⟨u5, hu5, hf⟩ := cal_some hf
      refine g_callP C 46 [(5 + 2 * a3.toNatClampNeg), (5 + 2 * a3.toNatClampNeg + 1)] (5 + 2 * a3.toNatClampNeg) (rest := []) (ws' := ([oB q_t 6 [.ref q_t_rest, .ref q_t_levels, .ref q_t_stuck, .int t_limit], oB q_t_rest 1 [.ref q_t_rest_near, .int t_rest_left, .int t_rest_newEnds], aI cA q_t_rest_near 14 t_rest_near, aG cA q_t_levels 15 (fun i => some (ad i)), aJ cA q_t_stuck 256 t_stuck] ++ lvW cA ad an (upd (upd lf a3.toNatClampNeg u4.1) a3.toNatClampNeg u5.1) (upd (upd ne a3.toNatClampNeg u4.2.1) a3.toNatClampNeg u5.2.1) (va_up (va_up nr a3.toNatClampNeg u4.2.2) a3.toNatClampNeg u5.2.2))) dX6_fitsBehind_46 (c_X1_letGo (x_l X) cA (ad a3.toNatClampNeg) ((upd lf a3.toNatClampNeg u4.1) a3.toNatClampNeg) ((upd ne a3.toNatClampNeg u4.2.1) a3.toNatClampNeg) (an a3.toNatClampNeg) ((va_up nr a3.toNatClampNeg u4.2.2) a3.toNatClampNeg) a2 u5 hu5) kw_465 kw_32 kw_33 kw_16 kw_34 ok_X1_letGo ⟨by (try dsimp only); omega, by (try dsimp only); omega⟩ hk ⟨rfl, rfl⟩ (fam_o rfl hj4) rfl (fam_C rfl hj4) nd2 rfl (Nat.le_of_ble_eq_true rfl) rfl (fam_sub (is := []) (wc := []) rfl hj4 rfl nd2) (st' := []) rfl ?_
      refine g_aload_n C 49 0 dX6_fitsBehind_49 rfl rfl ?_
      refine g_iload_n C 50 3 dX6_fitsBehind_50 rfl rfl ?_
      obtain ⟨u6, hu6, hf⟩ := cal_some hf
      refine g_callT C 51 [0, 1, 2, 3, 4] 0 (rest := []) (P' := [oB q_t 6 [.ref q_t_rest, .ref q_t_levels, .ref q_t_stuck, .int t_limit], oB q_t_rest 1 [.ref q_t_rest_near, .int t_rest_left, .int t_rest_newEnds], aI cA q_t_rest_near 14 t_rest_near, aG cA q_t_levels 15 (fun i => some (ad i)), aJ cA q_t_stuck 256 u6.2.1]) (S1 := lvW cA ad an u6.2.2.1 u6.2.2.2.1 u6.2.2.2.2) dX6_fitsBehind_51 (hFF t_limit t_rest_left t_rest_newEnds t_rest_near t_stuck (upd (upd lf a3.toNatClampNeg u4.1) a3.toNatClampNeg u5.1) (upd (upd ne a3.toNatClampNeg u4.2.1) a3.toNatClampNeg u5.2.1) (va_up (va_up nr a3.toNatClampNeg u4.2.2) a3.toNatClampNeg u5.2.2) a3 u6 hu6) kw_466 kw_467 kw_468 kw_469 kw_470 ok_X6_fits ⟨by (try dsimp only); omega, by (try dsimp only); omega⟩ hk ⟨rfl, rfl⟩ rfl rfl rfl rfl rfl (Nat.le_of_ble_eq_true rfl) rfl (lvW_len.trans lvW_len.symm) (N0 := 5) rfl [some 0, some 1, some 2, some 3, some 4] (by decide) rfl (st' := [.int u6.1]) rfl ?_
      obtain ⟨hv, hf⟩ := chk_some hf
      cases hf
      exact g_zret C 54 dX6_fitsBehind_54 hv F hB
    · refine g_iconst C 27 (0 : Int32) dX6_fitsBehind_27 (by decide) ?_
      cases hf
      exact g_zret C 28 dX6_fitsBehind_28 (by decide) F hB
def f_X6_fitsBehindR (FF : Int32 → Int32 → (Nat → Int64) → (Nat → Int32) → (Nat → Int32) → (Nat → Nat → Int32) → Option (Int32 × (Nat → Int64) × (Nat → Int32) × (Nat → Int32) × (Nat → Nat → Int32))) (a2 : Int32) (a3 : Int32) (t_limit : Int32) (t_rest_left : Int32) (t_rest_newEnds : Int32) (t_rest_near : Nat → Int32) (t_stuck : Nat → Int64) (lf : Nat → Int32) (ne : Nat → Int32) (nr : Nat → Nat → Int32) : Option (Int32 × (Nat → Int64) × (Nat → Int32) × (Nat → Int32) × (Nat → Nat → Int32)) :=
  cal (f_X8_hasBit t_rest_left a2) fun u1 =>
  if u1 = 0 then
    some ((0 : Int32), t_stuck, lf, ne, nr)
  else
    ldA t_rest_near 14 a2 fun v2 =>
    cal (f_J6_bitCount_0f7a4 v2) fun u3 =>
    if u3 ≤ t_limit then
      ckI a3 15 <|
      cal (f_X1_startAs (lf a3.toNatClampNeg) (ne a3.toNatClampNeg) (nr a3.toNatClampNeg) t_rest_left t_rest_newEnds t_rest_near) fun u4 =>
      ckI a3 15 <|
      cal (f_X1_letGo a2 ((upd lf a3.toNatClampNeg u4.1) a3.toNatClampNeg) ((upd ne a3.toNatClampNeg u4.2.1) a3.toNatClampNeg) ((va_up nr a3.toNatClampNeg u4.2.2) a3.toNatClampNeg)) fun u5 =>
      cal (FF a3 t_limit t_stuck (upd (upd lf a3.toNatClampNeg u4.1) a3.toNatClampNeg u5.1) (upd (upd ne a3.toNatClampNeg u4.2.1) a3.toNatClampNeg u5.2.1) (va_up (va_up nr a3.toNatClampNeg u4.2.2) a3.toNatClampNeg u5.2.2)) fun u6 =>
      chk (u6.1 = 0 ∨ u6.1 = 1) (some (u6.1, u6.2.1, u6.2.2.1, u6.2.2.2.1, u6.2.2.2.2))
    else
      some ((0 : Int32), t_stuck, lf, ne, nr)

set_option maxRecDepth 100000 in
set_option maxHeartbeats 1000000 in
theorem c_X6_fitsBehindR (l : Launch) (cA : Nat → ClassId) (q_t : Nat) (t_limit : Int32) (q_t_rest : Nat) (t_rest_left : Int32) (t_rest_newEnds : Int32) (q_t_rest_near : Nat) (t_rest_near : Nat → Int32) (q_t_levels : Nat) (q_t_stuck : Nat) (t_stuck : Nat → Int64) (ad : Nat → Nat) (an : Nat → Nat) (lf : Nat → Int32) (ne : Nat → Int32) (nr : Nat → Nat → Int32) (fd ld : Nat) (FF : Int32 → Int32 → (Nat → Int64) → (Nat → Int32) → (Nat → Int32) → (Nat → Nat → Int32) → Option (Int32 × (Nat → Int64) × (Nat → Int32) × (Nat → Int32) × (Nat → Nat → Int32))) (hFF : FitsOK l cA q_t q_t_rest q_t_rest_near q_t_levels q_t_stuck ad an fd ld FF) (a2 : Int32) (a3 : Int32) (r : Int32 × (Nat → Int64) × (Nat → Int32) × (Nat → Int32) × (Nat → Nat → Int32)) (hf : f_X6_fitsBehindR FF a2 a3 t_limit t_rest_left t_rest_newEnds t_rest_near t_stuck lf ne nr = some r) : MT l cA yX6_fitsBehind cX6_fitsBehind 4 (some .boolean) ({ frames := (fd + 6), cells := 0, slots := 0, locals := (ld + 200) } : Room) [.ref q_t, .ref q_t_rest, .int a2, .int a3] ([oB q_t 6 [.ref q_t_rest, .ref q_t_levels, .ref q_t_stuck, .int t_limit], oB q_t_rest 1 [.ref q_t_rest_near, .int t_rest_left, .int t_rest_newEnds], aI cA q_t_rest_near 14 t_rest_near, aG cA q_t_levels 15 (fun i => some (ad i)), aJ cA q_t_stuck 256 t_stuck] ++ lvW cA ad an lf ne nr) (sB (some (.int r.1)) ([oB q_t 6 [.ref q_t_rest, .ref q_t_levels, .ref q_t_stuck, .int t_limit], oB q_t_rest 1 [.ref q_t_rest_near, .int t_rest_left, .int t_rest_newEnds], aI cA q_t_rest_near 14 t_rest_near, aG cA q_t_levels 15 (fun i => some (ad i)), aJ cA q_t_stuck 256 r.2.1] ++ lvW cA ad an r.2.2.1 r.2.2.2.1 r.2.2.2.2)) := by
  refine MT.of (by decide) (Nat.le_of_ble_eq_true rfl) ?_
  intro X hXl C F hnm hrc hrs
  subst hXl
  have hk : 0 ≤ (x_R X).cells ∧ 0 ≤ (x_R X).slots := ⟨Nat.zero_le _, Nat.zero_le _⟩
  have hB : (sB (some (.int r.1)) ([oB q_t 6 [.ref q_t_rest, .ref q_t_levels, .ref q_t_stuck, .int t_limit], oB q_t_rest 1 [.ref q_t_rest_near, .int t_rest_left, .int t_rest_newEnds], aI cA q_t_rest_near 14 t_rest_near, aG cA q_t_levels 15 (fun i => some (ad i)), aJ cA q_t_stuck 256 r.2.1] ++ lvW cA ad an r.2.2.1 r.2.2.2.1 r.2.2.2.2)) (some (.int r.1)) ([oB q_t 6 [.ref q_t_rest, .ref q_t_levels, .ref q_t_stuck, .int t_limit], oB q_t_rest 1 [.ref q_t_rest_near, .int t_rest_left, .int t_rest_newEnds], aI cA q_t_rest_near 14 t_rest_near, aG cA q_t_levels 15 (fun i => some (ad i)), aJ cA q_t_stuck 256 r.2.1] ++ lvW cA ad an r.2.2.1 r.2.2.2.1 r.2.2.2.2) := ⟨rfl, rfl⟩
  unfold f_X6_fitsBehindR at hf
  have C : Cx X cX6_fitsBehind RX6 (some .boolean) cA (fd + 6) (ld + 200) 4 := C
  show Go X 4 0 0 0 ([oB q_t 6 [.ref q_t_rest, .ref q_t_levels, .ref q_t_stuck, .int t_limit], oB q_t_rest 1 [.ref q_t_rest_near, .int t_rest_left, .int t_rest_newEnds], aI cA q_t_rest_near 14 t_rest_near, aG cA q_t_levels 15 (fun i => some (ad i)), aJ cA q_t_stuck 256 t_stuck] ++ lvW cA ad an lf ne nr) [(0, .ref q_t), (1, .ref q_t_rest), (2, .int a2), (3, .int a3)] []
  refine g_aload_n C 0 1 dX6_fitsBehind_0 rfl rfl ?_
  refine g_get C 1 1 1 dX6_fitsBehind_1 inX1 rfl rfl (by decide) kw_456 rfl ?_
  refine g_iload_n C 4 2 dX6_fitsBehind_4 rfl rfl ?_
  obtain ⟨u1, hu1, hf⟩ := cal_some hf
  refine g_callSN0 C 5 (rest := []) dX6_fitsBehind_5 (c_X8_hasBit (x_l X) cA  t_rest_left a2 u1 hu1) (List.mem_of_getElem? (i := 11) rfl) kw_5 kw_6 kw_7 ok_X8_hasBit ⟨by (try dsimp only); omega, by (try dsimp only); omega⟩ hk ⟨rfl, rfl⟩ rfl (Nat.le_of_ble_eq_true rfl) (st' := [.int u1]) rfl ?_
  refine g_if_eq C 8 27 dX6_fitsBehind_8 (by decide) hf (fun hf => ?_) (fun hf => ?_)
  · refine g_iconst C 27 (0 : Int32) dX6_fitsBehind_27 (by decide) ?_
    cases hf
    exact g_zret C 28 dX6_fitsBehind_28 (by decide) F hB
  · refine g_aload_n C 11 1 dX6_fitsBehind_11 rfl rfl ?_
    refine g_get C 12 1 0 dX6_fitsBehind_12 inX1 rfl rfl (by decide) kw_457 rfl ?_
    refine g_iload_n C 15 2 dX6_fitsBehind_15 rfl rfl ?_
    refine g_iald C 16 2 dX6_fitsBehind_16 rfl hf (fun v2 hf => ?_)
    obtain ⟨u3, hu3, hf⟩ := cal_some hf
    refine g_callSB C 17 [] (rest := []) (P' := [oB q_t 6 [.ref q_t_rest, .ref q_t_levels, .ref q_t_stuck, .int t_limit], oB q_t_rest 1 [.ref q_t_rest_near, .int t_rest_left, .int t_rest_newEnds], aI cA q_t_rest_near 14 t_rest_near, aG cA q_t_levels 15 (fun i => some (ad i)), aJ cA q_t_stuck 256 t_stuck]) dX6_fitsBehind_17 (c_J6_bitCount_0f7a4 (x_l X) cA  v2 u3 hu3) kw_458 kw_20 kw_21 kw_22 ok_J6_bitCount_0f7a4 ⟨by (try dsimp only); omega, by (try dsimp only); omega⟩ hk ⟨rfl, rfl⟩ rfl rfl rfl (Nat.le_of_ble_eq_true rfl) rfl (N0 := 5) rfl [none, none, none, none, none] (by decide) rfl (st' := [.int u3]) rfl ?_
    refine g_aload_n C 20 0 dX6_fitsBehind_20 rfl rfl ?_
    refine g_get C 21 0 3 dX6_fitsBehind_21 inX6 rfl rfl (by decide) kw_459 rfl ?_
    refine g_icmp_le C 24 29 dX6_fitsBehind_24 (by decide) hf (fun hf => ?_) (fun hf => ?_)
    · refine g_aload_n C 29 0 dX6_fitsBehind_29 rfl rfl ?_
      refine g_get C 30 0 1 dX6_fitsBehind_30 inX6 rfl rfl (by decide) kw_460 rfl ?_
      refine g_iload_n C 33 3 dX6_fitsBehind_33 rfl rfl ?_
      refine g_ald C 34 3 dX6_fitsBehind_34 rfl hf (fun hj4 hf => ?_)
      refine g_aload_n C 35 1 dX6_fitsBehind_35 rfl rfl ?_
      obtain ⟨u4, hu4, hf⟩ := cal_some hf
      refine g_callP C 36 [(5 + 2 * a3.toNatClampNeg), (5 + 2 * a3.toNatClampNeg + 1), 1, 2] (5 + 2 * a3.toNatClampNeg) (rest := []) (ws' := ([oB q_t 6 [.ref q_t_rest, .ref q_t_levels, .ref q_t_stuck, .int t_limit], oB q_t_rest 1 [.ref q_t_rest_near, .int t_rest_left, .int t_rest_newEnds], aI cA q_t_rest_near 14 t_rest_near, aG cA q_t_levels 15 (fun i => some (ad i)), aJ cA q_t_stuck 256 t_stuck] ++ lvW cA ad an (upd lf a3.toNatClampNeg u4.1) (upd ne a3.toNatClampNeg u4.2.1) (va_up nr a3.toNatClampNeg u4.2.2))) dX6_fitsBehind_36 (c_X1_startAs (x_l X) cA (ad a3.toNatClampNeg) (lf a3.toNatClampNeg) (ne a3.toNatClampNeg) (an a3.toNatClampNeg) (nr a3.toNatClampNeg) q_t_rest t_rest_left t_rest_newEnds q_t_rest_near t_rest_near  u4 hu4) kw_461 kw_462 kw_463 kw_16 kw_464 ok_X1_startAs ⟨by (try dsimp only); omega, by (try dsimp only); omega⟩ hk ⟨rfl, rfl⟩ (fam_o rfl hj4) rfl (fam_C2 rfl hj4 rfl) (ndb (n0 := 5) (by decide) (by decide) (by decide)) rfl (Nat.le_of_ble_eq_true rfl) rfl (fam_sub rfl hj4 rfl (ndb (n0 := 5) (by decide) (by decide) (by decide))) (st' := []) rfl ?_
      refine g_aload_n C 39 0 dX6_fitsBehind_39 rfl rfl ?_
      refine g_get C 40 0 1 dX6_fitsBehind_40 inX6 rfl rfl (by decide) kw_460 rfl ?_
      refine g_iload_n C 43 3 dX6_fitsBehind_43 rfl rfl ?_
      refine g_ald C 44 3 dX6_fitsBehind_44 rfl hf (fun hj4 hf => ?_)
      refine g_iload_n C 45 2 dX6_fitsBehind_45 rfl rfl ?_
      obtain ⟨u5, hu5, hf⟩ := cal_some hf
      refine g_callP C 46 [(5 + 2 * a3.toNatClampNeg), (5 + 2 * a3.toNatClampNeg + 1)] (5 + 2 * a3.toNatClampNeg) (rest := []) (ws' := ([oB q_t 6 [.ref q_t_rest, .ref q_t_levels, .ref q_t_stuck, .int t_limit], oB q_t_rest 1 [.ref q_t_rest_near, .int t_rest_left, .int t_rest_newEnds], aI cA q_t_rest_near 14 t_rest_near, aG cA q_t_levels 15 (fun i => some (ad i)), aJ cA q_t_stuck 256 t_stuck] ++ lvW cA ad an (upd (upd lf a3.toNatClampNeg u4.1) a3.toNatClampNeg u5.1) (upd (upd ne a3.toNatClampNeg u4.2.1) a3.toNatClampNeg u5.2.1) (va_up (va_up nr a3.toNatClampNeg u4.2.2) a3.toNatClampNeg u5.2.2))) dX6_fitsBehind_46 (c_X1_letGo (x_l X) cA (ad a3.toNatClampNeg) ((upd lf a3.toNatClampNeg u4.1) a3.toNatClampNeg) ((upd ne a3.toNatClampNeg u4.2.1) a3.toNatClampNeg) (an a3.toNatClampNeg) ((va_up nr a3.toNatClampNeg u4.2.2) a3.toNatClampNeg) a2 u5 hu5) kw_465 kw_32 kw_33 kw_16 kw_34 ok_X1_letGo ⟨by (try dsimp only); omega, by (try dsimp only); omega⟩ hk ⟨rfl, rfl⟩ (fam_o rfl hj4) rfl (fam_C rfl hj4) nd2 rfl (Nat.le_of_ble_eq_true rfl) rfl (fam_sub (is := []) (wc := []) rfl hj4 rfl nd2) (st' := []) rfl ?_
      refine g_aload_n C 49 0 dX6_fitsBehind_49 rfl rfl ?_
      refine g_iload_n C 50 3 dX6_fitsBehind_50 rfl rfl ?_
      obtain ⟨u6, hu6, hf⟩ := cal_some hf
      refine g_callT C 51 [0, 1, 2, 3, 4] 0 (rest := []) (P' := [oB q_t 6 [.ref q_t_rest, .ref q_t_levels, .ref q_t_stuck, .int t_limit], oB q_t_rest 1 [.ref q_t_rest_near, .int t_rest_left, .int t_rest_newEnds], aI cA q_t_rest_near 14 t_rest_near, aG cA q_t_levels 15 (fun i => some (ad i)), aJ cA q_t_stuck 256 u6.2.1]) (S1 := lvW cA ad an u6.2.2.1 u6.2.2.2.1 u6.2.2.2.2) dX6_fitsBehind_51 (hFF t_limit t_rest_left t_rest_newEnds t_rest_near t_stuck (upd (upd lf a3.toNatClampNeg u4.1) a3.toNatClampNeg u5.1) (upd (upd ne a3.toNatClampNeg u4.2.1) a3.toNatClampNeg u5.2.1) (va_up (va_up nr a3.toNatClampNeg u4.2.2) a3.toNatClampNeg u5.2.2) a3 u6 hu6) kw_466 kw_467 kw_468 kw_469 kw_470 ok_X6_fits ⟨by (try dsimp only); omega, by (try dsimp only); omega⟩ hk ⟨rfl, rfl⟩ rfl rfl rfl rfl rfl (Nat.le_of_ble_eq_true rfl) rfl (lvW_len.trans lvW_len.symm) (N0 := 5) rfl [some 0, some 1, some 2, some 3, some 4] (by decide) rfl (st' := [.int u6.1]) rfl ?_
      obtain ⟨hv, hf⟩ := chk_some hf
      cases hf
      exact g_zret C 54 dX6_fitsBehind_54 hv F hB
    · refine g_iconst C 27 (0 : Int32) dX6_fitsBehind_27 (by decide) ?_
      cases hf
      exact g_zret C 28 dX6_fitsBehind_28 (by decide) F hB
def L_X6_fitsG_90 (FF : Int32 → Int32 → (Nat → Int64) → (Nat → Int32) → (Nat → Int32) → (Nat → Nat → Int32) → Option (Int32 × (Nat → Int64) × (Nat → Int32) × (Nat → Int32) × (Nat → Nat → Int32))) (a1 : Int32) (t_limit : Int32)  : Nat → Int32 → (Nat → Int64) → (Nat → Int32) → (Nat → Int32) → (Nat → Nat → Int32) → Option (Int32 × (Nat → Int64) × (Nat → Int32) × (Nat → Int32) × (Nat → Nat → Int32))
  | 0, _, _, _, _, _ => none
  | n + 1, x3, t_stuck, lf, ne, nr =>
    if (14 : Int32) ≤ x3 then
      ldA t_stuck 256 ((lf a1.toNatClampNeg) >>> ((6 : Int32) &&& 31)) fun v5 =>
      stJ t_stuck 256 ((lf a1.toNatClampNeg) >>> ((6 : Int32) &&& 31)) (v5 ||| ((1 : Int64) <<< ((((lf a1.toNatClampNeg) &&& (63 : Int32))).toInt64 &&& 63))) fun t_stuck_6 =>
      some ((0 : Int32), t_stuck_6, lf, ne, nr)
    else
      cal (f_X6_fitsBehindL FF a1.toNatClampNeg x3 (a1 + (1 : Int32)) t_limit t_stuck lf ne nr) fun u7 =>
      if u7.1 = 0 then
        bnd (x3 + (1 : Int32)) fun x3_8 =>
        L_X6_fitsG_90 FF a1 t_limit n x3_8 u7.2.1 u7.2.2.1 u7.2.2.2.1 u7.2.2.2.2
      else
        some ((1 : Int32), u7.2.1, u7.2.2.1, u7.2.2.2.1, u7.2.2.2.2)

set_option maxRecDepth 100000 in
set_option maxHeartbeats 1000000 in
theorem w_X6_fitsG_90 (cA : Nat → ClassId) (q_t : Nat) (q_t_rest : Nat) (t_rest_left : Int32) (t_rest_newEnds : Int32) (q_t_rest_near : Nat) (t_rest_near : Nat → Int32) (q_t_levels : Nat) (q_t_stuck : Nat) (ad : Nat → Nat) (an : Nat → Nat) (FF : Int32 → Int32 → (Nat → Int64) → (Nat → Int32) → (Nat → Int32) → (Nat → Nat → Int32) → Option (Int32 × (Nat → Int64) × (Nat → Int32) × (Nat → Int32) × (Nat → Nat → Int32))) (a1 : Int32) (t_limit : Int32) {X : XT} (fd ld : Nat) (hFF : FitsOK (x_l X) cA q_t q_t_rest q_t_rest_near q_t_levels q_t_stuck ad an fd ld FF) (hj : a1.toNatClampNeg < 15) (C : Cx X cX6_fits RX6 (some .boolean) cA (fd + 12) (ld + 400) 5) {kk nn : Nat} {BB : Option Value → va_W → Prop} (hk : kk ≤ (x_R X).cells ∧ nn ≤ (x_R X).slots) (F : Fx X BB kk nn) (r : Int32 × (Nat → Int64) × (Nat → Int32) × (Nat → Int32) × (Nat → Nat → Int32)) (hB : BB (some (.int r.1)) ([oB q_t 6 [.ref q_t_rest, .ref q_t_levels, .ref q_t_stuck, .int t_limit], oB q_t_rest 1 [.ref q_t_rest_near, .int t_rest_left, .int t_rest_newEnds], aI cA q_t_rest_near 14 t_rest_near, aG cA q_t_levels 15 (fun i => some (ad i)), aJ cA q_t_stuck 256 r.2.1] ++ lvW cA ad an r.2.2.1 r.2.2.2.1 r.2.2.2.2))  : ∀ (n : Nat) (x3 : Int32) (t_stuck : Nat → Int64) (lf : Nat → Int32) (ne : Nat → Int32) (nr : Nat → Nat → Int32), L_X6_fitsG_90 FF a1 t_limit n x3 t_stuck lf ne nr = some r → Go X 5 kk nn 90 ([oB q_t 6 [.ref q_t_rest, .ref q_t_levels, .ref q_t_stuck, .int t_limit], oB q_t_rest 1 [.ref q_t_rest_near, .int t_rest_left, .int t_rest_newEnds], aI cA q_t_rest_near 14 t_rest_near, aG cA q_t_levels 15 (fun i => some (ad i)), aJ cA q_t_stuck 256 t_stuck] ++ lvW cA ad an lf ne nr) [(0, .ref q_t), (1, .int a1), (2, .ref (ad a1.toNatClampNeg)), (3, .int x3)] [] := by
  intro n
  induction n with
  | zero => intro x3 t_stuck lf ne nr hf; exact no_some hf
  | succ n ih =>
    intro x3 t_stuck lf ne nr hf
    rw [L_X6_fitsG_90] at hf
    refine g_iload_n C 90 3 dX6_fits_90 rfl rfl ?_
    refine g_bipush C 91 (14 : Int32) dX6_fits_91 (by decide) ?_
    refine g_icmp_ge C 93 116 dX6_fits_93 (by decide) hf (fun hf => ?_) (fun hf => ?_)
    · refine g_aload_n C 116 0 dX6_fits_116 rfl rfl ?_
      refine g_get C 117 0 2 dX6_fits_117 inX6 rfl rfl (by decide) kw_141 rfl ?_
      refine g_aload_n C 120 2 dX6_fits_120 rfl rfl ?_
      refine g_get C 121 (5 + 2 * a1.toNatClampNeg) 1 dX6_fits_121 inX1 (fam_o rfl hj) rfl (by decide) kw_456 rfl ?_
      refine g_bipush C 124 (6 : Int32) dX6_fits_124 (by decide) ?_
      refine g_ishr C 126 dX6_fits_126 ?_
      refine g_dup2 C 127 dX6_fits_127 rfl rfl ?_
      refine g_lald C 128 4 dX6_fits_128 rfl hf (fun v5 hf => ?_)
      refine g_lconst C 129 (1 : Int64) dX6_fits_129 (by decide) ?_
      refine g_aload_n C 130 2 dX6_fits_130 rfl rfl ?_
      refine g_get C 131 (5 + 2 * a1.toNatClampNeg) 1 dX6_fits_131 inX1 (fam_o rfl hj) rfl (by decide) kw_456 rfl ?_
      refine g_bipush C 134 (63 : Int32) dX6_fits_134 (by decide) ?_
      refine g_iand C 136 dX6_fits_136 ?_
      refine g_lshl C 137 dX6_fits_137 ?_
      refine g_lor C 138 dX6_fits_138 ?_
      refine g_last C 139 4 (fun z => ([oB q_t 6 [.ref q_t_rest, .ref q_t_levels, .ref q_t_stuck, .int t_limit], oB q_t_rest 1 [.ref q_t_rest_near, .int t_rest_left, .int t_rest_newEnds], aI cA q_t_rest_near 14 t_rest_near, aG cA q_t_levels 15 (fun i => some (ad i)), aJ cA q_t_stuck 256 z] ++ lvW cA ad an lf ne nr)) dX6_fits_139 rfl (fun _ => rfl) hf (fun t_stuck_6 hf => ?_)
      refine g_iconst C 140 (0 : Int32) dX6_fits_140 (by decide) ?_
      cases hf
      exact g_zret C 141 dX6_fits_141 (by decide) F hB
    · refine g_aload_n C 96 0 dX6_fits_96 rfl rfl ?_
      refine g_aload_n C 97 2 dX6_fits_97 rfl rfl ?_
      refine g_iload_n C 98 3 dX6_fits_98 rfl rfl ?_
      refine g_iload_n C 99 1 dX6_fits_99 rfl rfl ?_
      refine g_iconst C 100 (1 : Int32) dX6_fits_100 (by decide) ?_
      refine g_iadd C 101 dX6_fits_101 ?_
      obtain ⟨u7, hu7, hf⟩ := cal_some hf
      refine g_callT C 102 [0, 1, 2, 3, 4] 0 (rest := []) (P' := [oB q_t 6 [.ref q_t_rest, .ref q_t_levels, .ref q_t_stuck, .int t_limit], oB q_t_rest 1 [.ref q_t_rest_near, .int t_rest_left, .int t_rest_newEnds], aI cA q_t_rest_near 14 t_rest_near, aG cA q_t_levels 15 (fun i => some (ad i)), aJ cA q_t_stuck 256 u7.2.1]) (S1 := lvW cA ad an u7.2.2.1 u7.2.2.2.1 u7.2.2.2.2) dX6_fits_102 (c_X6_fitsBehindL (x_l X) cA q_t t_limit q_t_rest t_rest_left t_rest_newEnds q_t_rest_near t_rest_near q_t_levels q_t_stuck t_stuck ad an lf ne nr fd ld FF hFF a1.toNatClampNeg hj x3 (a1 + (1 : Int32)) u7 hu7) kw_475 kw_476 kw_477 kw_469 kw_478 ok_X6_fitsBehind ⟨by (try dsimp only); omega, by (try dsimp only); omega⟩ hk ⟨rfl, rfl⟩ rfl rfl rfl rfl rfl (Nat.le_of_ble_eq_true rfl) rfl (lvW_len.trans lvW_len.symm) (N0 := 5) rfl [some 0, some 1, some 2, some 3, some 4] (by decide) rfl (st' := [.int u7.1]) rfl ?_
      refine g_if_eq C 105 110 dX6_fits_105 (by decide) hf (fun hf => ?_) (fun hf => ?_)
      · refine g_iinc C 110 3 (v := x3 + (1 : Int32)) (fun z => [(3, .int z), (0, .ref q_t), (1, .int a1), (2, .ref (ad a1.toNatClampNeg))]) dX6_fits_110 rfl rfl (by decide) (fun _ => rfl) hf (fun x3_8 hf => ?_)
        refine g_goto C 113 90 dX6_fits_113 (by decide) ?_
        refine g_lv [1, 2, 3, 0] rfl ?_
        exact ih x3_8 u7.2.1 u7.2.2.1 u7.2.2.2.1 u7.2.2.2.2 hf
      · refine g_iconst C 108 (1 : Int32) dX6_fits_108 (by decide) ?_
        cases hf
        exact g_zret C 109 dX6_fits_109 (by decide) F hB
def J_X6_fitsG_46 (FF : Int32 → Int32 → (Nat → Int64) → (Nat → Int32) → (Nat → Int32) → (Nat → Nat → Int32) → Option (Int32 × (Nat → Int64) × (Nat → Int32) × (Nat → Int32) × (Nat → Nat → Int32))) (a1 : Int32) (t_limit : Int32)  (t_stuck : Nat → Int64) (lf : Nat → Int32) (ne : Nat → Int32) (nr : Nat → Nat → Int32) : Option (Int32 × (Nat → Int64) × (Nat → Int32) × (Nat → Int32) × (Nat → Nat → Int32)) :=
  cal (f_J6_bitCount_0f7a4 (lf a1.toNatClampNeg)) fun u2 =>
  if (t_limit + (1 : Int32)) < u2 then
    if (15 : Int32) ≤ (a1 + (1 : Int32)) then
      some ((0 : Int32), t_stuck, lf, ne, nr)
    else
      cal (f_X6_isStuck (lf a1.toNatClampNeg) t_stuck) fun u3 =>
      if u3 = 0 then
        bnd (0 : Int32) fun x3_4 =>
        L_X6_fitsG_90 FF a1 t_limit NN x3_4 t_stuck lf ne nr
      else
        some ((0 : Int32), t_stuck, lf, ne, nr)
  else
    some ((1 : Int32), t_stuck, lf, ne, nr)

set_option maxRecDepth 100000 in
set_option maxHeartbeats 1000000 in
theorem w_X6_fitsG_46 (cA : Nat → ClassId) (q_t : Nat) (q_t_rest : Nat) (t_rest_left : Int32) (t_rest_newEnds : Int32) (q_t_rest_near : Nat) (t_rest_near : Nat → Int32) (q_t_levels : Nat) (q_t_stuck : Nat) (ad : Nat → Nat) (an : Nat → Nat) (FF : Int32 → Int32 → (Nat → Int64) → (Nat → Int32) → (Nat → Int32) → (Nat → Nat → Int32) → Option (Int32 × (Nat → Int64) × (Nat → Int32) × (Nat → Int32) × (Nat → Nat → Int32))) (a1 : Int32) (t_limit : Int32) {X : XT} (fd ld : Nat) (hFF : FitsOK (x_l X) cA q_t q_t_rest q_t_rest_near q_t_levels q_t_stuck ad an fd ld FF) (hj : a1.toNatClampNeg < 15) (C : Cx X cX6_fits RX6 (some .boolean) cA (fd + 12) (ld + 400) 5) {kk nn : Nat} {BB : Option Value → va_W → Prop} (hk : kk ≤ (x_R X).cells ∧ nn ≤ (x_R X).slots) (F : Fx X BB kk nn) (r : Int32 × (Nat → Int64) × (Nat → Int32) × (Nat → Int32) × (Nat → Nat → Int32)) (hB : BB (some (.int r.1)) ([oB q_t 6 [.ref q_t_rest, .ref q_t_levels, .ref q_t_stuck, .int t_limit], oB q_t_rest 1 [.ref q_t_rest_near, .int t_rest_left, .int t_rest_newEnds], aI cA q_t_rest_near 14 t_rest_near, aG cA q_t_levels 15 (fun i => some (ad i)), aJ cA q_t_stuck 256 r.2.1] ++ lvW cA ad an r.2.2.1 r.2.2.2.1 r.2.2.2.2))  : ∀ (t_stuck : Nat → Int64) (lf : Nat → Int32) (ne : Nat → Int32) (nr : Nat → Nat → Int32), J_X6_fitsG_46 FF a1 t_limit t_stuck lf ne nr = some r → Go X 5 kk nn 46 ([oB q_t 6 [.ref q_t_rest, .ref q_t_levels, .ref q_t_stuck, .int t_limit], oB q_t_rest 1 [.ref q_t_rest_near, .int t_rest_left, .int t_rest_newEnds], aI cA q_t_rest_near 14 t_rest_near, aG cA q_t_levels 15 (fun i => some (ad i)), aJ cA q_t_stuck 256 t_stuck] ++ lvW cA ad an lf ne nr) [(0, .ref q_t), (1, .int a1), (2, .ref (ad a1.toNatClampNeg))] [] := by
  intro t_stuck lf ne nr hf
  unfold J_X6_fitsG_46 at hf
  refine g_aload_n C 46 2 dX6_fits_46 rfl rfl ?_
  refine g_get C 47 (5 + 2 * a1.toNatClampNeg) 1 dX6_fits_47 inX1 (fam_o rfl hj) rfl (by decide) kw_456 rfl ?_
  obtain ⟨u2, hu2, hf⟩ := cal_some hf
  refine g_callSB C 50 [] (rest := []) (P' := [oB q_t 6 [.ref q_t_rest, .ref q_t_levels, .ref q_t_stuck, .int t_limit], oB q_t_rest 1 [.ref q_t_rest_near, .int t_rest_left, .int t_rest_newEnds], aI cA q_t_rest_near 14 t_rest_near, aG cA q_t_levels 15 (fun i => some (ad i)), aJ cA q_t_stuck 256 t_stuck]) dX6_fits_50 (c_J6_bitCount_0f7a4 (x_l X) cA  (lf a1.toNatClampNeg) u2 hu2) kw_458 kw_20 kw_21 kw_22 ok_J6_bitCount_0f7a4 ⟨by (try dsimp only); omega, by (try dsimp only); omega⟩ hk ⟨rfl, rfl⟩ rfl rfl rfl (Nat.le_of_ble_eq_true rfl) rfl (N0 := 5) rfl [none, none, none, none, none] (by decide) rfl (st' := [.int u2]) rfl ?_
  refine g_aload_n C 53 0 dX6_fits_53 rfl rfl ?_
  refine g_get C 54 0 3 dX6_fits_54 inX6 rfl rfl (by decide) kw_459 rfl ?_
  refine g_iconst C 57 (1 : Int32) dX6_fits_57 (by decide) ?_
  refine g_iadd C 58 dX6_fits_58 ?_
  refine g_icmp_gt C 59 64 dX6_fits_59 (by decide) hf (fun hf => ?_) (fun hf => ?_)
  · refine g_iload_n C 64 1 dX6_fits_64 rfl rfl ?_
    refine g_iconst C 65 (1 : Int32) dX6_fits_65 (by decide) ?_
    refine g_iadd C 66 dX6_fits_66 ?_
    refine g_aload_n C 67 0 dX6_fits_67 rfl rfl ?_
    refine g_get C 68 0 1 dX6_fits_68 inX6 rfl rfl (by decide) kw_460 rfl ?_
    refine g_alen C 71 3 3 (15 : Int32) dX6_fits_71 rfl rfl rfl ?_
    refine g_icmp_ge C 72 86 dX6_fits_72 (by decide) hf (fun hf => ?_) (fun hf => ?_)
    · refine g_iconst C 86 (0 : Int32) dX6_fits_86 (by decide) ?_
      cases hf
      exact g_zret C 87 dX6_fits_87 (by decide) F hB
    · refine g_aload_n C 75 0 dX6_fits_75 rfl rfl ?_
      refine g_aload_n C 76 2 dX6_fits_76 rfl rfl ?_
      refine g_get C 77 (5 + 2 * a1.toNatClampNeg) 1 dX6_fits_77 inX1 (fam_o rfl hj) rfl (by decide) kw_456 rfl ?_
      obtain ⟨u3, hu3, hf⟩ := cal_some hf
      refine g_callB C 80 [0, 4] 0 (rest := []) (P' := [oB q_t 6 [.ref q_t_rest, .ref q_t_levels, .ref q_t_stuck, .int t_limit], oB q_t_rest 1 [.ref q_t_rest_near, .int t_rest_left, .int t_rest_newEnds], aI cA q_t_rest_near 14 t_rest_near, aG cA q_t_levels 15 (fun i => some (ad i)), aJ cA q_t_stuck 256 t_stuck]) dX6_fits_80 (c_X6_isStuck (x_l X) cA q_t q_t_rest q_t_levels t_limit q_t_stuck t_stuck (lf a1.toNatClampNeg) u3 hu3) kw_471 kw_472 kw_473 kw_469 kw_474 ok_X6_isStuck ⟨by (try dsimp only); omega, by (try dsimp only); omega⟩ hk ⟨rfl, rfl⟩ rfl rfl rfl rfl rfl (Nat.le_of_ble_eq_true rfl) rfl (N0 := 5) rfl [some 0, none, none, none, some 1] (by decide) rfl (st' := [.int u3]) rfl ?_
      refine g_if_eq C 83 88 dX6_fits_83 (by decide) hf (fun hf => ?_) (fun hf => ?_)
      · refine g_iconst C 88 (0 : Int32) dX6_fits_88 (by decide) ?_
        refine g_istore_n C 89 (fun z => [(3, .int z), (0, .ref q_t), (1, .int a1), (2, .ref (ad a1.toNatClampNeg))]) dX6_fits_89 rfl (by decide) (fun _ => rfl) hf (fun x3_4 hf => ?_)
        refine g_lv [1, 2, 3, 0] rfl ?_
        exact w_X6_fitsG_90 cA q_t q_t_rest t_rest_left t_rest_newEnds q_t_rest_near t_rest_near q_t_levels q_t_stuck ad an FF a1 t_limit fd ld hFF hj C hk F r hB NN x3_4 t_stuck lf ne nr hf
      · refine g_iconst C 86 (0 : Int32) dX6_fits_86 (by decide) ?_
        cases hf
        exact g_zret C 87 dX6_fits_87 (by decide) F hB
  · refine g_iconst C 62 (1 : Int32) dX6_fits_62 (by decide) ?_
    cases hf
    exact g_zret C 63 dX6_fits_63 (by decide) F hB
def L_X6_fitsG_9 (FF : Int32 → Int32 → (Nat → Int64) → (Nat → Int32) → (Nat → Int32) → (Nat → Nat → Int32) → Option (Int32 × (Nat → Int64) × (Nat → Int32) × (Nat → Int32) × (Nat → Nat → Int32))) (a1 : Int32) (t_limit : Int32)  : Nat → Int32 → (Nat → Int64) → (Nat → Int32) → (Nat → Int32) → (Nat → Nat → Int32) → Option (Int32 × (Nat → Int64) × (Nat → Int32) × (Nat → Int32) × (Nat → Nat → Int32))
  | 0, _, _, _, _, _ => none
  | n + 1, x3, t_stuck, lf, ne, nr =>
    if (14 : Int32) ≤ x3 then
      J_X6_fitsG_46 FF a1 t_limit t_stuck lf ne nr
    else
      cal (f_X1_harmless t_limit (lf a1.toNatClampNeg) (nr a1.toNatClampNeg)) fun u9 =>
      bnd u9 fun x4_10 =>
      if x4_10 = (-1 : Int32) then
        J_X6_fitsG_46 FF a1 t_limit t_stuck lf ne nr
      else
        cal (f_X1_letGo x4_10 (lf a1.toNatClampNeg) (ne a1.toNatClampNeg) (nr a1.toNatClampNeg)) fun u11 =>
        bnd (x3 + (1 : Int32)) fun x3_12 =>
        L_X6_fitsG_9 FF a1 t_limit n x3_12 t_stuck (upd lf a1.toNatClampNeg u11.1) (upd ne a1.toNatClampNeg u11.2.1) (va_up nr a1.toNatClampNeg u11.2.2)

set_option maxRecDepth 100000 in
set_option maxHeartbeats 1000000 in
theorem w_X6_fitsG_9 (cA : Nat → ClassId) (q_t : Nat) (q_t_rest : Nat) (t_rest_left : Int32) (t_rest_newEnds : Int32) (q_t_rest_near : Nat) (t_rest_near : Nat → Int32) (q_t_levels : Nat) (q_t_stuck : Nat) (ad : Nat → Nat) (an : Nat → Nat) (FF : Int32 → Int32 → (Nat → Int64) → (Nat → Int32) → (Nat → Int32) → (Nat → Nat → Int32) → Option (Int32 × (Nat → Int64) × (Nat → Int32) × (Nat → Int32) × (Nat → Nat → Int32))) (a1 : Int32) (t_limit : Int32) {X : XT} (fd ld : Nat) (hFF : FitsOK (x_l X) cA q_t q_t_rest q_t_rest_near q_t_levels q_t_stuck ad an fd ld FF) (hj : a1.toNatClampNeg < 15) (C : Cx X cX6_fits RX6 (some .boolean) cA (fd + 12) (ld + 400) 5) {kk nn : Nat} {BB : Option Value → va_W → Prop} (hk : kk ≤ (x_R X).cells ∧ nn ≤ (x_R X).slots) (F : Fx X BB kk nn) (r : Int32 × (Nat → Int64) × (Nat → Int32) × (Nat → Int32) × (Nat → Nat → Int32)) (hB : BB (some (.int r.1)) ([oB q_t 6 [.ref q_t_rest, .ref q_t_levels, .ref q_t_stuck, .int t_limit], oB q_t_rest 1 [.ref q_t_rest_near, .int t_rest_left, .int t_rest_newEnds], aI cA q_t_rest_near 14 t_rest_near, aG cA q_t_levels 15 (fun i => some (ad i)), aJ cA q_t_stuck 256 r.2.1] ++ lvW cA ad an r.2.2.1 r.2.2.2.1 r.2.2.2.2))  : ∀ (n : Nat) (x3 : Int32) (t_stuck : Nat → Int64) (lf : Nat → Int32) (ne : Nat → Int32) (nr : Nat → Nat → Int32), L_X6_fitsG_9 FF a1 t_limit n x3 t_stuck lf ne nr = some r → Go X 5 kk nn 9 ([oB q_t 6 [.ref q_t_rest, .ref q_t_levels, .ref q_t_stuck, .int t_limit], oB q_t_rest 1 [.ref q_t_rest_near, .int t_rest_left, .int t_rest_newEnds], aI cA q_t_rest_near 14 t_rest_near, aG cA q_t_levels 15 (fun i => some (ad i)), aJ cA q_t_stuck 256 t_stuck] ++ lvW cA ad an lf ne nr) [(0, .ref q_t), (1, .int a1), (2, .ref (ad a1.toNatClampNeg)), (3, .int x3)] [] := by
  intro n
  induction n with
  | zero => intro x3 t_stuck lf ne nr hf; exact no_some hf
  | succ n ih =>
    intro x3 t_stuck lf ne nr hf
    rw [L_X6_fitsG_9] at hf
    refine g_iload_n C 9 3 dX6_fits_9 rfl rfl ?_
    refine g_bipush C 10 (14 : Int32) dX6_fits_10 (by decide) ?_
    refine g_icmp_ge C 12 46 dX6_fits_12 (by decide) hf (fun hf => ?_) (fun hf => ?_)
    · refine g_lv [0, 1, 2] rfl ?_
      exact w_X6_fitsG_46 cA q_t q_t_rest t_rest_left t_rest_newEnds q_t_rest_near t_rest_near q_t_levels q_t_stuck ad an FF a1 t_limit fd ld hFF hj C hk F r hB t_stuck lf ne nr hf
    · refine g_aload_n C 15 2 dX6_fits_15 rfl rfl ?_
      refine g_aload_n C 16 0 dX6_fits_16 rfl rfl ?_
      refine g_get C 17 0 3 dX6_fits_17 inX6 rfl rfl (by decide) kw_459 rfl ?_
      obtain ⟨u9, hu9, hf⟩ := cal_some hf
      refine g_callP C 20 [(5 + 2 * a1.toNatClampNeg), (5 + 2 * a1.toNatClampNeg + 1)] (5 + 2 * a1.toNatClampNeg) (rest := []) (ws' := ([oB q_t 6 [.ref q_t_rest, .ref q_t_levels, .ref q_t_stuck, .int t_limit], oB q_t_rest 1 [.ref q_t_rest_near, .int t_rest_left, .int t_rest_newEnds], aI cA q_t_rest_near 14 t_rest_near, aG cA q_t_levels 15 (fun i => some (ad i)), aJ cA q_t_stuck 256 t_stuck] ++ lvW cA ad an lf ne nr)) dX6_fits_20 (c_X1_harmless (x_l X) cA (ad a1.toNatClampNeg) (lf a1.toNatClampNeg) (ne a1.toNatClampNeg) (an a1.toNatClampNeg) (nr a1.toNatClampNeg) t_limit u9 hu9) kw_479 kw_480 kw_481 kw_16 kw_482 ok_X1_harmless ⟨by (try dsimp only); omega, by (try dsimp only); omega⟩ hk ⟨rfl, rfl⟩ (fam_o rfl hj) rfl (fam_C rfl hj) nd2 rfl (Nat.le_of_ble_eq_true rfl) rfl (put_same nd2 (fam_C rfl hj)) (st' := [.int u9]) rfl ?_
      refine g_istore C 23 (fun z => [(4, .int z), (0, .ref q_t), (1, .int a1), (2, .ref (ad a1.toNatClampNeg)), (3, .int x3)]) dX6_fits_23 (by decide) (fun _ => rfl) hf (fun x4_10 hf => ?_)
      refine g_iload C 25 0 dX6_fits_25 rfl ?_
      refine g_iconst C 27 (-1 : Int32) dX6_fits_27 (by decide) ?_
      refine g_icmp_ne C 28 34 dX6_fits_28 (by decide) hf (fun hf => ?_) (fun hf => ?_)
      · refine g_aload_n C 34 3 dX6_fits_34 rfl rfl ?_
        refine g_iload C 35 0 dX6_fits_35 rfl ?_
        obtain ⟨u11, hu11, hf⟩ := cal_some hf
        refine g_callP C 37 [(5 + 2 * a1.toNatClampNeg), (5 + 2 * a1.toNatClampNeg + 1)] (5 + 2 * a1.toNatClampNeg) (rest := []) (ws' := ([oB q_t 6 [.ref q_t_rest, .ref q_t_levels, .ref q_t_stuck, .int t_limit], oB q_t_rest 1 [.ref q_t_rest_near, .int t_rest_left, .int t_rest_newEnds], aI cA q_t_rest_near 14 t_rest_near, aG cA q_t_levels 15 (fun i => some (ad i)), aJ cA q_t_stuck 256 t_stuck] ++ lvW cA ad an (upd lf a1.toNatClampNeg u11.1) (upd ne a1.toNatClampNeg u11.2.1) (va_up nr a1.toNatClampNeg u11.2.2))) dX6_fits_37 (c_X1_letGo (x_l X) cA (ad a1.toNatClampNeg) (lf a1.toNatClampNeg) (ne a1.toNatClampNeg) (an a1.toNatClampNeg) (nr a1.toNatClampNeg) x4_10 u11 hu11) kw_465 kw_32 kw_33 kw_16 kw_34 ok_X1_letGo ⟨by (try dsimp only); omega, by (try dsimp only); omega⟩ hk ⟨rfl, rfl⟩ (fam_o rfl hj) rfl (fam_C rfl hj) nd2 rfl (Nat.le_of_ble_eq_true rfl) rfl (fam_sub (is := []) (wc := []) rfl hj rfl nd2) (st' := []) rfl ?_
        refine g_iinc C 40 4 (v := x3 + (1 : Int32)) (fun z => [(3, .int z), (4, .int x4_10), (0, .ref q_t), (1, .int a1), (2, .ref (ad a1.toNatClampNeg))]) dX6_fits_40 rfl rfl (by decide) (fun _ => rfl) hf (fun x3_12 hf => ?_)
        refine g_goto C 43 9 dX6_fits_43 (by decide) ?_
        refine g_lv [2, 3, 4, 0] rfl ?_
        exact ih x3_12 t_stuck (upd lf a1.toNatClampNeg u11.1) (upd ne a1.toNatClampNeg u11.2.1) (va_up nr a1.toNatClampNeg u11.2.2) hf
      · refine g_goto C 31 46 dX6_fits_31 (by decide) ?_
        refine g_lv [1, 2, 3] rfl ?_
        exact w_X6_fitsG_46 cA q_t q_t_rest t_rest_left t_rest_newEnds q_t_rest_near t_rest_near q_t_levels q_t_stuck ad an FF a1 t_limit fd ld hFF hj C hk F r hB t_stuck lf ne nr hf
def f_X6_fitsG (FF : Int32 → Int32 → (Nat → Int64) → (Nat → Int32) → (Nat → Int32) → (Nat → Nat → Int32) → Option (Int32 × (Nat → Int64) × (Nat → Int32) × (Nat → Int32) × (Nat → Nat → Int32))) (a1 : Int32) (t_limit : Int32) (t_stuck : Nat → Int64) (lf : Nat → Int32) (ne : Nat → Int32) (nr : Nat → Nat → Int32) : Option (Int32 × (Nat → Int64) × (Nat → Int32) × (Nat → Int32) × (Nat → Nat → Int32)) :=
  ckI a1 15 <|
  bnd (0 : Int32) fun x3_1 =>
  L_X6_fitsG_9 FF a1 t_limit NN x3_1 t_stuck lf ne nr

set_option maxRecDepth 100000 in
set_option maxHeartbeats 1000000 in
theorem c_X6_fitsG (l : Launch) (cA : Nat → ClassId) (q_t : Nat) (t_limit : Int32) (q_t_rest : Nat) (t_rest_left : Int32) (t_rest_newEnds : Int32) (q_t_rest_near : Nat) (t_rest_near : Nat → Int32) (q_t_levels : Nat) (q_t_stuck : Nat) (t_stuck : Nat → Int64) (ad : Nat → Nat) (an : Nat → Nat) (lf : Nat → Int32) (ne : Nat → Int32) (nr : Nat → Nat → Int32) (fd ld : Nat) (FF : Int32 → Int32 → (Nat → Int64) → (Nat → Int32) → (Nat → Int32) → (Nat → Nat → Int32) → Option (Int32 × (Nat → Int64) × (Nat → Int32) × (Nat → Int32) × (Nat → Nat → Int32))) (hFF : FitsOK l cA q_t q_t_rest q_t_rest_near q_t_levels q_t_stuck ad an fd ld FF) (a1 : Int32) (r : Int32 × (Nat → Int64) × (Nat → Int32) × (Nat → Int32) × (Nat → Nat → Int32)) (hf : f_X6_fitsG FF a1 t_limit t_stuck lf ne nr = some r) : MT l cA yX6_fits cX6_fits 5 (some .boolean) ({ frames := (fd + 12), cells := 0, slots := 0, locals := (ld + 400) } : Room) [.ref q_t, .int a1] ([oB q_t 6 [.ref q_t_rest, .ref q_t_levels, .ref q_t_stuck, .int t_limit], oB q_t_rest 1 [.ref q_t_rest_near, .int t_rest_left, .int t_rest_newEnds], aI cA q_t_rest_near 14 t_rest_near, aG cA q_t_levels 15 (fun i => some (ad i)), aJ cA q_t_stuck 256 t_stuck] ++ lvW cA ad an lf ne nr) (sB (some (.int r.1)) ([oB q_t 6 [.ref q_t_rest, .ref q_t_levels, .ref q_t_stuck, .int t_limit], oB q_t_rest 1 [.ref q_t_rest_near, .int t_rest_left, .int t_rest_newEnds], aI cA q_t_rest_near 14 t_rest_near, aG cA q_t_levels 15 (fun i => some (ad i)), aJ cA q_t_stuck 256 r.2.1] ++ lvW cA ad an r.2.2.1 r.2.2.2.1 r.2.2.2.2)) := by
  refine MT.of (by decide) (Nat.le_of_ble_eq_true rfl) ?_
  intro X hXl C F hnm hrc hrs
  subst hXl
  have hk : 0 ≤ (x_R X).cells ∧ 0 ≤ (x_R X).slots := ⟨Nat.zero_le _, Nat.zero_le _⟩
  have hB : (sB (some (.int r.1)) ([oB q_t 6 [.ref q_t_rest, .ref q_t_levels, .ref q_t_stuck, .int t_limit], oB q_t_rest 1 [.ref q_t_rest_near, .int t_rest_left, .int t_rest_newEnds], aI cA q_t_rest_near 14 t_rest_near, aG cA q_t_levels 15 (fun i => some (ad i)), aJ cA q_t_stuck 256 r.2.1] ++ lvW cA ad an r.2.2.1 r.2.2.2.1 r.2.2.2.2)) (some (.int r.1)) ([oB q_t 6 [.ref q_t_rest, .ref q_t_levels, .ref q_t_stuck, .int t_limit], oB q_t_rest 1 [.ref q_t_rest_near, .int t_rest_left, .int t_rest_newEnds], aI cA q_t_rest_near 14 t_rest_near, aG cA q_t_levels 15 (fun i => some (ad i)), aJ cA q_t_stuck 256 r.2.1] ++ lvW cA ad an r.2.2.1 r.2.2.2.1 r.2.2.2.2) := ⟨rfl, rfl⟩
  unfold f_X6_fitsG at hf
  have C : Cx X cX6_fits RX6 (some .boolean) cA (fd + 12) (ld + 400) 5 := C
  show Go X 5 0 0 0 ([oB q_t 6 [.ref q_t_rest, .ref q_t_levels, .ref q_t_stuck, .int t_limit], oB q_t_rest 1 [.ref q_t_rest_near, .int t_rest_left, .int t_rest_newEnds], aI cA q_t_rest_near 14 t_rest_near, aG cA q_t_levels 15 (fun i => some (ad i)), aJ cA q_t_stuck 256 t_stuck] ++ lvW cA ad an lf ne nr) [(0, .ref q_t), (1, .int a1)] []
  refine g_aload_n C 0 0 dX6_fits_0 rfl rfl ?_
  refine g_get C 1 0 1 dX6_fits_1 inX6 rfl rfl (by decide) kw_460 rfl ?_
  refine g_iload_n C 4 1 dX6_fits_4 rfl rfl ?_
  refine g_ald C 5 3 dX6_fits_5 rfl hf (fun hj hf => ?_)
  refine g_astore_n C 6 dX6_fits_6 rfl (by decide) rfl ?_
  refine g_iconst C 7 (0 : Int32) dX6_fits_7 (by decide) ?_
  refine g_istore_n C 8 (fun z => [(3, .int z), (2, .ref (ad a1.toNatClampNeg)), (0, .ref q_t), (1, .int a1)]) dX6_fits_8 rfl (by decide) (fun _ => rfl) hf (fun x3_1 hf => ?_)
  refine g_lv [2, 3, 1, 0] rfl ?_
  exact w_X6_fitsG_9 cA q_t q_t_rest t_rest_left t_rest_newEnds q_t_rest_near t_rest_near q_t_levels q_t_stuck ad an FF a1 t_limit fd ld hFF hj C hk F r hB NN x3_1 t_stuck lf ne nr hf
def f_X6_fits : Nat → Int32 → Int32 → (Nat → Int64) → (Nat → Int32) → (Nat → Int32) → (Nat → Nat → Int32) → Option (Int32 × (Nat → Int64) × (Nat → Int32) × (Nat → Int32) × (Nat → Nat → Int32))
  | 0 => fun _ _ _ _ _ _ => none
  | D + 1 => f_X6_fitsG (f_X6_fits D)
theorem c_X6_fits (l : Launch) (cA : Nat → ClassId) (q_t q_t_rest q_t_rest_near q_t_levels q_t_stuck : Nat) (ad an : Nat → Nat) : ∀ D : Nat, FitsOK l cA q_t q_t_rest q_t_rest_near q_t_levels q_t_stuck ad an (12 * D) (400 * D) (f_X6_fits D)
  | 0 => fun _ _ _ _ _ _ _ _ _ _ hf => no_some hf
  | D + 1 => fun t_limit t_rest_left t_rest_newEnds t_rest_near t_stuck lf ne nr a1 r hf => c_X6_fitsG l cA q_t t_limit q_t_rest t_rest_left t_rest_newEnds q_t_rest_near t_rest_near q_t_levels q_t_stuck t_stuck ad an lf ne nr (12 * D) (400 * D) (f_X6_fits D) (c_X6_fits l cA q_t q_t_rest q_t_rest_near q_t_levels q_t_stuck ad an D) a1 r hf
def f_X6_netFits (a2 : Int32) (u_size : Int32) (u_near : Nat → Int32) (t_limit : Int32) (t_stuck : Nat → Int64) (lf : Nat → Int32) (ne : Nat → Int32) (nr : Nat → Nat → Int32) : Option (Int32 × Int32 × (Nat → Int64) × (Nat → Int32) × (Nat → Int32) × (Nat → Nat → Int32)) :=
  bnd a2 fun t_limit_1 =>
  cal (f_J7_fill_d0a16 256 (0 : Int64) t_stuck) fun u2 =>
  ckI (0 : Int32) 15 <|
  cal (f_X1_start (lf ((0 : Int32).toNatClampNeg)) (ne ((0 : Int32).toNatClampNeg)) (nr ((0 : Int32).toNatClampNeg)) u_size u_near) fun u3 =>
  cal ((f_X6_fits 16) (0 : Int32) t_limit_1 u2 (upd lf ((0 : Int32).toNatClampNeg) u3.1) (upd ne ((0 : Int32).toNatClampNeg) u3.2.1) (va_up nr ((0 : Int32).toNatClampNeg) u3.2.2)) fun u4 =>
  chk (u4.1 = 0 ∨ u4.1 = 1) (some (u4.1, t_limit_1, u4.2.1, u4.2.2.1, u4.2.2.2.1, u4.2.2.2.2))

set_option maxRecDepth 100000 in
set_option maxHeartbeats 1000000 in
theorem c_X6_netFits (l : Launch) (cA : Nat → ClassId) (q_u : Nat) (q_u_loads : Nat) (q_u_ties : Nat) (u_size : Int32) (u_edges : Int32) (q_u_near : Nat) (u_near : Nat → Int32) (q_t : Nat) (t_limit : Int32) (q_t_rest : Nat) (t_rest_left : Int32) (t_rest_newEnds : Int32) (q_t_rest_near : Nat) (t_rest_near : Nat → Int32) (q_t_levels : Nat) (q_t_stuck : Nat) (t_stuck : Nat → Int64) (ad : Nat → Nat) (an : Nat → Nat) (lf : Nat → Int32) (ne : Nat → Int32) (nr : Nat → Nat → Int32)  (a2 : Int32) (r : Int32 × Int32 × (Nat → Int64) × (Nat → Int32) × (Nat → Int32) × (Nat → Nat → Int32)) (hf : f_X6_netFits a2 u_size u_near t_limit t_stuck lf ne nr = some r) : MT l cA yX6_netFits cX6_netFits 3 (some .boolean) ({ frames := 200, cells := 0, slots := 0, locals := 7000 } : Room) [.ref q_t, .ref q_u, .int a2] ([oB q_u 4 [.ref q_u_loads, .ref q_u_near, .ref q_u_ties, .int u_size, .int u_edges], aI cA q_u_near 14 u_near, oB q_t 6 [.ref q_t_rest, .ref q_t_levels, .ref q_t_stuck, .int t_limit], oB q_t_rest 1 [.ref q_t_rest_near, .int t_rest_left, .int t_rest_newEnds], aI cA q_t_rest_near 14 t_rest_near, aG cA q_t_levels 15 (fun i => some (ad i)), aJ cA q_t_stuck 256 t_stuck] ++ lvW cA ad an lf ne nr) (sB (some (.int r.1)) ([oB q_u 4 [.ref q_u_loads, .ref q_u_near, .ref q_u_ties, .int u_size, .int u_edges], aI cA q_u_near 14 u_near, oB q_t 6 [.ref q_t_rest, .ref q_t_levels, .ref q_t_stuck, .int r.2.1], oB q_t_rest 1 [.ref q_t_rest_near, .int t_rest_left, .int t_rest_newEnds], aI cA q_t_rest_near 14 t_rest_near, aG cA q_t_levels 15 (fun i => some (ad i)), aJ cA q_t_stuck 256 r.2.2.1] ++ lvW cA ad an r.2.2.2.1 r.2.2.2.2.1 r.2.2.2.2.2)) := by
  refine MT.of (by decide) (Nat.le_of_ble_eq_true rfl) ?_
  intro X hXl C F hnm hrc hrs
  subst hXl
  have hk : 0 ≤ (x_R X).cells ∧ 0 ≤ (x_R X).slots := ⟨Nat.zero_le _, Nat.zero_le _⟩
  have hB : (sB (some (.int r.1)) ([oB q_u 4 [.ref q_u_loads, .ref q_u_near, .ref q_u_ties, .int u_size, .int u_edges], aI cA q_u_near 14 u_near, oB q_t 6 [.ref q_t_rest, .ref q_t_levels, .ref q_t_stuck, .int r.2.1], oB q_t_rest 1 [.ref q_t_rest_near, .int t_rest_left, .int t_rest_newEnds], aI cA q_t_rest_near 14 t_rest_near, aG cA q_t_levels 15 (fun i => some (ad i)), aJ cA q_t_stuck 256 r.2.2.1] ++ lvW cA ad an r.2.2.2.1 r.2.2.2.2.1 r.2.2.2.2.2)) (some (.int r.1)) ([oB q_u 4 [.ref q_u_loads, .ref q_u_near, .ref q_u_ties, .int u_size, .int u_edges], aI cA q_u_near 14 u_near, oB q_t 6 [.ref q_t_rest, .ref q_t_levels, .ref q_t_stuck, .int r.2.1], oB q_t_rest 1 [.ref q_t_rest_near, .int t_rest_left, .int t_rest_newEnds], aI cA q_t_rest_near 14 t_rest_near, aG cA q_t_levels 15 (fun i => some (ad i)), aJ cA q_t_stuck 256 r.2.2.1] ++ lvW cA ad an r.2.2.2.1 r.2.2.2.2.1 r.2.2.2.2.2) := ⟨rfl, rfl⟩
  unfold f_X6_netFits at hf
  have C : Cx X cX6_netFits RX6 (some .boolean) cA 200 7000 3 := C
  show Go X 3 0 0 0 ([oB q_u 4 [.ref q_u_loads, .ref q_u_near, .ref q_u_ties, .int u_size, .int u_edges], aI cA q_u_near 14 u_near, oB q_t 6 [.ref q_t_rest, .ref q_t_levels, .ref q_t_stuck, .int t_limit], oB q_t_rest 1 [.ref q_t_rest_near, .int t_rest_left, .int t_rest_newEnds], aI cA q_t_rest_near 14 t_rest_near, aG cA q_t_levels 15 (fun i => some (ad i)), aJ cA q_t_stuck 256 t_stuck] ++ lvW cA ad an lf ne nr) [(0, .ref q_t), (1, .ref q_u), (2, .int a2)] []
  refine g_aload_n C 0 0 dX6_netFits_0 rfl rfl ?_
  refine g_iload_n C 1 2 dX6_netFits_1 rfl rfl ?_
  refine g_puti C 2 2 3 tyX6 (fun z => ([oB q_u 4 [.ref q_u_loads, .ref q_u_near, .ref q_u_ties, .int u_size, .int u_edges], aI cA q_u_near 14 u_near, oB q_t 6 [.ref q_t_rest, .ref q_t_levels, .ref q_t_stuck, .int z], oB q_t_rest 1 [.ref q_t_rest_near, .int t_rest_left, .int t_rest_newEnds], aI cA q_t_rest_near 14 t_rest_near, aG cA q_t_levels 15 (fun i => some (ad i)), aJ cA q_t_stuck 256 t_stuck] ++ lvW cA ad an lf ne nr)) dX6_netFits_2 inX6 tyX6_ok nmX6 rfl rfl (by decide) kw_459 rfl rfl (Nat.le_of_ble_eq_true rfl) (fun _ => rfl) hf (fun t_limit_1 hf => ?_)
  refine g_aload_n C 5 0 dX6_netFits_5 rfl rfl ?_
  refine g_get C 6 2 2 dX6_netFits_6 inX6 rfl rfl (by decide) kw_141 rfl ?_
  refine g_lconst C 9 (0 : Int64) dX6_netFits_9 (by decide) ?_
  obtain ⟨u2, hu2, hf⟩ := cal_some hf
  refine g_callSB C 10 [6] (rest := []) (P' := [oB q_u 4 [.ref q_u_loads, .ref q_u_near, .ref q_u_ties, .int u_size, .int u_edges], aI cA q_u_near 14 u_near, oB q_t 6 [.ref q_t_rest, .ref q_t_levels, .ref q_t_stuck, .int t_limit_1], oB q_t_rest 1 [.ref q_t_rest_near, .int t_rest_left, .int t_rest_newEnds], aI cA q_t_rest_near 14 t_rest_near, aG cA q_t_levels 15 (fun i => some (ad i)), aJ cA q_t_stuck 256 u2]) dX6_netFits_10 (c_J7_fill_d0a16 (x_l X) cA q_t_stuck 256 t_stuck (0 : Int64) u2 hu2) kw_483 kw_484 kw_485 kw_486 ok_J7_fill_d0a16 ⟨by (try dsimp only); omega, by (try dsimp only); omega⟩ hk ⟨rfl, rfl⟩ rfl rfl rfl (Nat.le_of_ble_eq_true rfl) rfl (N0 := 7) rfl [none, none, none, none, none, none, some 0] (by decide) rfl (st' := []) rfl ?_
  refine g_aload_n C 13 0 dX6_netFits_13 rfl rfl ?_
  refine g_get C 14 2 1 dX6_netFits_14 inX6 rfl rfl (by decide) kw_460 rfl ?_
  refine g_iconst C 17 (0 : Int32) dX6_netFits_17 (by decide) ?_
  refine g_ald C 18 5 dX6_netFits_18 rfl hf (fun hj3 hf => ?_)
  refine g_aload_n C 19 1 dX6_netFits_19 rfl rfl ?_
  obtain ⟨u3, hu3, hf⟩ := cal_some hf
  refine g_callP C 20 [(7 + 2 * ((0 : Int32).toNatClampNeg)), (7 + 2 * ((0 : Int32).toNatClampNeg) + 1), 0, 1] (7 + 2 * ((0 : Int32).toNatClampNeg)) (rest := []) (ws' := ([oB q_u 4 [.ref q_u_loads, .ref q_u_near, .ref q_u_ties, .int u_size, .int u_edges], aI cA q_u_near 14 u_near, oB q_t 6 [.ref q_t_rest, .ref q_t_levels, .ref q_t_stuck, .int t_limit_1], oB q_t_rest 1 [.ref q_t_rest_near, .int t_rest_left, .int t_rest_newEnds], aI cA q_t_rest_near 14 t_rest_near, aG cA q_t_levels 15 (fun i => some (ad i)), aJ cA q_t_stuck 256 u2] ++ lvW cA ad an (upd lf ((0 : Int32).toNatClampNeg) u3.1) (upd ne ((0 : Int32).toNatClampNeg) u3.2.1) (va_up nr ((0 : Int32).toNatClampNeg) u3.2.2))) dX6_netFits_20 (c_X1_start (x_l X) cA (ad (0 : Int32).toNatClampNeg) (lf ((0 : Int32).toNatClampNeg)) (ne ((0 : Int32).toNatClampNeg)) (an (0 : Int32).toNatClampNeg) (nr ((0 : Int32).toNatClampNeg)) q_u q_u_loads q_u_ties u_size u_edges q_u_near u_near  u3 hu3) kw_487 kw_125 kw_126 kw_16 kw_127 ok_X1_start ⟨by (try dsimp only); omega, by (try dsimp only); omega⟩ hk ⟨rfl, rfl⟩ (fam_o rfl hj3) rfl (fam_C2 rfl hj3 rfl) (ndb (n0 := 7) (by decide) (by decide) (by decide)) rfl (Nat.le_of_ble_eq_true rfl) rfl (fam_sub rfl hj3 rfl (ndb (n0 := 7) (by decide) (by decide) (by decide))) (st' := []) rfl ?_
  refine g_aload_n C 23 0 dX6_netFits_23 rfl rfl ?_
  refine g_iconst C 24 (0 : Int32) dX6_netFits_24 (by decide) ?_
  obtain ⟨u4, hu4, hf⟩ := cal_some hf
  refine g_callT C 25 [2, 3, 4, 5, 6] 2 (rest := []) (P' := [oB q_u 4 [.ref q_u_loads, .ref q_u_near, .ref q_u_ties, .int u_size, .int u_edges], aI cA q_u_near 14 u_near, oB q_t 6 [.ref q_t_rest, .ref q_t_levels, .ref q_t_stuck, .int t_limit_1], oB q_t_rest 1 [.ref q_t_rest_near, .int t_rest_left, .int t_rest_newEnds], aI cA q_t_rest_near 14 t_rest_near, aG cA q_t_levels 15 (fun i => some (ad i)), aJ cA q_t_stuck 256 u4.2.1]) (S1 := lvW cA ad an u4.2.2.1 u4.2.2.2.1 u4.2.2.2.2) dX6_netFits_25 ((c_X6_fits (x_l X) cA q_t q_t_rest q_t_rest_near q_t_levels q_t_stuck ad an 16) t_limit_1 t_rest_left t_rest_newEnds t_rest_near u2 (upd lf ((0 : Int32).toNatClampNeg) u3.1) (upd ne ((0 : Int32).toNatClampNeg) u3.2.1) (va_up nr ((0 : Int32).toNatClampNeg) u3.2.2) (0 : Int32) u4 hu4) kw_466 kw_467 kw_468 kw_469 kw_470 ok_X6_fits ⟨by (try dsimp only); omega, by (try dsimp only); omega⟩ hk ⟨rfl, rfl⟩ rfl rfl rfl rfl rfl (Nat.le_of_ble_eq_true rfl) rfl (lvW_len.trans lvW_len.symm) (N0 := 7) rfl [none, none, some 0, some 1, some 2, some 3, some 4] (by decide) rfl (st' := [.int u4.1]) rfl ?_
  obtain ⟨hv, hf⟩ := chk_some hf
  cases hf
  exact g_zret C 28 dX6_netFits_28 hv F hB
def J_X6_bestOrder_78 (a3 : Int32) (u_size : Int32) (u_near : Nat → Int32) (k_39 : Int32 → Int32 → Int32 → Int32 → (Nat → Int32) → Int32 → Int32 → Int32 → (Nat → Int32) → (Nat → Int64) → (Nat → Int32) → (Nat → Int32) → (Nat → Nat → Int32) → Option (Int32 × Int32 × Int32 × (Nat → Int32) × Int32 × Int32 × Int32 × (Nat → Int32) × (Nat → Int64) × (Nat → Int32) × (Nat → Int32) × (Nat → Nat → Int32))) (x4 : Int32) (x5 : Int32) (x6 : Int32) (v_size : Int32) (v_held : Int32) (v_knots : Nat → Int32) (t_limit : Int32) (t_rest_left : Int32) (t_rest_newEnds : Int32) (t_rest_near : Nat → Int32) (t_stuck : Nat → Int64) (lf : Nat → Int32) (ne : Nat → Int32) (nr : Nat → Nat → Int32) : Option (Int32 × Int32 × Int32 × (Nat → Int32) × Int32 × Int32 × Int32 × (Nat → Int32) × (Nat → Int64) × (Nat → Int32) × (Nat → Int32) × (Nat → Nat → Int32)) :=
  cal (f_X2_append x6 v_size v_held v_knots) fun u5 =>
  cal (f_X1_letGo x6 t_rest_left t_rest_newEnds t_rest_near) fun u6 =>
  bnd (x5 + (1 : Int32)) fun x5_7 =>
  k_39 x4 x5_7 u5.1 u5.2.1 u5.2.2 t_limit u6.1 u6.2.1 u6.2.2 t_stuck lf ne nr

set_option maxRecDepth 100000 in
set_option maxHeartbeats 1000000 in
theorem w_X6_bestOrder_78 (cA : Nat → ClassId) (q_v : Nat) (q_v_knots : Nat) (q_u : Nat) (q_u_loads : Nat) (q_u_ties : Nat) (u_edges : Int32) (q_u_near : Nat) (q_t : Nat) (q_t_rest : Nat) (q_t_rest_near : Nat) (q_t_levels : Nat) (q_t_stuck : Nat) (ad : Nat → Nat) (an : Nat → Nat) (a3 : Int32) (u_size : Int32) (u_near : Nat → Int32) {X : XT}  (C : Cx X cX6_bestOrder RX6 (some .int) cA 210 7600 7) {kk nn : Nat} {BB : Option Value → va_W → Prop} (hk : kk ≤ (x_R X).cells ∧ nn ≤ (x_R X).slots) (F : Fx X BB kk nn) (r : Int32 × Int32 × Int32 × (Nat → Int32) × Int32 × Int32 × Int32 × (Nat → Int32) × (Nat → Int64) × (Nat → Int32) × (Nat → Int32) × (Nat → Nat → Int32)) (hB : BB (some (.int r.1)) ([oB q_v 2 [.ref q_v_knots, .int r.2.1, .int r.2.2.1], aI cA q_v_knots 14 r.2.2.2.1, oB q_u 4 [.ref q_u_loads, .ref q_u_near, .ref q_u_ties, .int u_size, .int u_edges], aI cA q_u_near 14 u_near, oB q_t 6 [.ref q_t_rest, .ref q_t_levels, .ref q_t_stuck, .int r.2.2.2.2.1], oB q_t_rest 1 [.ref q_t_rest_near, .int r.2.2.2.2.2.1, .int r.2.2.2.2.2.2.1], aI cA q_t_rest_near 14 r.2.2.2.2.2.2.2.1, aG cA q_t_levels 15 (fun i => some (ad i)), aJ cA q_t_stuck 256 r.2.2.2.2.2.2.2.2.1] ++ lvW cA ad an r.2.2.2.2.2.2.2.2.2.1 r.2.2.2.2.2.2.2.2.2.2.1 r.2.2.2.2.2.2.2.2.2.2.2)) (k_39 : Int32 → Int32 → Int32 → Int32 → (Nat → Int32) → Int32 → Int32 → Int32 → (Nat → Int32) → (Nat → Int64) → (Nat → Int32) → (Nat → Int32) → (Nat → Nat → Int32) → Option (Int32 × Int32 × Int32 × (Nat → Int32) × Int32 × Int32 × Int32 × (Nat → Int32) × (Nat → Int64) × (Nat → Int32) × (Nat → Int32) × (Nat → Nat → Int32))) (h_39 : ∀ (x4 : Int32) (x5 : Int32) (v_size : Int32) (v_held : Int32) (v_knots : Nat → Int32) (t_limit : Int32) (t_rest_left : Int32) (t_rest_newEnds : Int32) (t_rest_near : Nat → Int32) (t_stuck : Nat → Int64) (lf : Nat → Int32) (ne : Nat → Int32) (nr : Nat → Nat → Int32), k_39 x4 x5 v_size v_held v_knots t_limit t_rest_left t_rest_newEnds t_rest_near t_stuck lf ne nr = some r → Go X 7 kk nn 39 ([oB q_v 2 [.ref q_v_knots, .int v_size, .int v_held], aI cA q_v_knots 14 v_knots, oB q_u 4 [.ref q_u_loads, .ref q_u_near, .ref q_u_ties, .int u_size, .int u_edges], aI cA q_u_near 14 u_near, oB q_t 6 [.ref q_t_rest, .ref q_t_levels, .ref q_t_stuck, .int t_limit], oB q_t_rest 1 [.ref q_t_rest_near, .int t_rest_left, .int t_rest_newEnds], aI cA q_t_rest_near 14 t_rest_near, aG cA q_t_levels 15 (fun i => some (ad i)), aJ cA q_t_stuck 256 t_stuck] ++ lvW cA ad an lf ne nr) [(0, .ref q_t), (1, .ref q_u), (2, .ref q_v), (4, .int x4), (5, .int x5)] []) : ∀ (x4 : Int32) (x5 : Int32) (x6 : Int32) (v_size : Int32) (v_held : Int32) (v_knots : Nat → Int32) (t_limit : Int32) (t_rest_left : Int32) (t_rest_newEnds : Int32) (t_rest_near : Nat → Int32) (t_stuck : Nat → Int64) (lf : Nat → Int32) (ne : Nat → Int32) (nr : Nat → Nat → Int32), J_X6_bestOrder_78 a3 u_size u_near k_39 x4 x5 x6 v_size v_held v_knots t_limit t_rest_left t_rest_newEnds t_rest_near t_stuck lf ne nr = some r → Go X 7 kk nn 78 ([oB q_v 2 [.ref q_v_knots, .int v_size, .int v_held], aI cA q_v_knots 14 v_knots, oB q_u 4 [.ref q_u_loads, .ref q_u_near, .ref q_u_ties, .int u_size, .int u_edges], aI cA q_u_near 14 u_near, oB q_t 6 [.ref q_t_rest, .ref q_t_levels, .ref q_t_stuck, .int t_limit], oB q_t_rest 1 [.ref q_t_rest_near, .int t_rest_left, .int t_rest_newEnds], aI cA q_t_rest_near 14 t_rest_near, aG cA q_t_levels 15 (fun i => some (ad i)), aJ cA q_t_stuck 256 t_stuck] ++ lvW cA ad an lf ne nr) [(0, .ref q_t), (1, .ref q_u), (2, .ref q_v), (4, .int x4), (5, .int x5), (6, .int x6)] [] := by
  intro x4 x5 x6 v_size v_held v_knots t_limit t_rest_left t_rest_newEnds t_rest_near t_stuck lf ne nr hf
  unfold J_X6_bestOrder_78 at hf
  refine g_aload_n C 78 2 dX6_bestOrder_78 rfl rfl ?_
  refine g_iload C 79 5 dX6_bestOrder_79 rfl ?_
  obtain ⟨u5, hu5, hf⟩ := cal_some hf
  refine g_callB C 81 [0, 1] 0 (rest := []) (P' := [oB q_v 2 [.ref q_v_knots, .int u5.1, .int u5.2.1], aI cA q_v_knots 14 u5.2.2, oB q_u 4 [.ref q_u_loads, .ref q_u_near, .ref q_u_ties, .int u_size, .int u_edges], aI cA q_u_near 14 u_near, oB q_t 6 [.ref q_t_rest, .ref q_t_levels, .ref q_t_stuck, .int t_limit], oB q_t_rest 1 [.ref q_t_rest_near, .int t_rest_left, .int t_rest_newEnds], aI cA q_t_rest_near 14 t_rest_near, aG cA q_t_levels 15 (fun i => some (ad i)), aJ cA q_t_stuck 256 t_stuck]) dX6_bestOrder_81 (c_X2_append (x_l X) cA q_v v_size v_held q_v_knots v_knots x6 u5 hu5) kw_490 kw_263 kw_264 kw_29 kw_265 ok_X2_append ⟨by (try dsimp only); omega, by (try dsimp only); omega⟩ hk ⟨rfl, rfl⟩ rfl rfl rfl rfl rfl (Nat.le_of_ble_eq_true rfl) rfl (N0 := 9) rfl [some 0, some 1, none, none, none, none, none, none, none] (by decide) rfl (st' := []) rfl ?_
  refine g_aload_n C 84 0 dX6_bestOrder_84 rfl rfl ?_
  refine g_get C 85 4 0 dX6_bestOrder_85 inX6 rfl rfl (by decide) kw_489 rfl ?_
  refine g_iload C 88 5 dX6_bestOrder_88 rfl ?_
  obtain ⟨u6, hu6, hf⟩ := cal_some hf
  refine g_callB C 90 [5, 6] 5 (rest := []) (P' := [oB q_v 2 [.ref q_v_knots, .int u5.1, .int u5.2.1], aI cA q_v_knots 14 u5.2.2, oB q_u 4 [.ref q_u_loads, .ref q_u_near, .ref q_u_ties, .int u_size, .int u_edges], aI cA q_u_near 14 u_near, oB q_t 6 [.ref q_t_rest, .ref q_t_levels, .ref q_t_stuck, .int t_limit], oB q_t_rest 1 [.ref q_t_rest_near, .int u6.1, .int u6.2.1], aI cA q_t_rest_near 14 u6.2.2, aG cA q_t_levels 15 (fun i => some (ad i)), aJ cA q_t_stuck 256 t_stuck]) dX6_bestOrder_90 (c_X1_letGo (x_l X) cA q_t_rest t_rest_left t_rest_newEnds q_t_rest_near t_rest_near x6 u6 hu6) kw_465 kw_32 kw_33 kw_16 kw_34 ok_X1_letGo ⟨by (try dsimp only); omega, by (try dsimp only); omega⟩ hk ⟨rfl, rfl⟩ rfl rfl rfl rfl rfl (Nat.le_of_ble_eq_true rfl) rfl (N0 := 9) rfl [none, none, none, none, none, some 0, some 1, none, none] (by decide) rfl (st' := []) rfl ?_
  refine g_iinc C 93 4 (v := x5 + (1 : Int32)) (fun z => [(5, .int z), (0, .ref q_t), (1, .ref q_u), (2, .ref q_v), (4, .int x4), (6, .int x6)]) dX6_bestOrder_93 rfl rfl (by decide) (fun _ => rfl) hf (fun x5_7 hf => ?_)
  refine g_goto C 96 39 dX6_bestOrder_96 (by decide) ?_
  refine g_lv [1, 2, 3, 4, 0] rfl ?_
  exact h_39 x4 x5_7 u5.1 u5.2.1 u5.2.2 t_limit u6.1 u6.2.1 u6.2.2 t_stuck lf ne nr hf
def L_X6_bestOrder_51 (a3 : Int32) (u_size : Int32) (u_near : Nat → Int32) (k_39 : Int32 → Int32 → Int32 → Int32 → (Nat → Int32) → Int32 → Int32 → Int32 → (Nat → Int32) → (Nat → Int64) → (Nat → Int32) → (Nat → Int32) → (Nat → Nat → Int32) → Option (Int32 × Int32 × Int32 × (Nat → Int32) × Int32 × Int32 × Int32 × (Nat → Int32) × (Nat → Int64) × (Nat → Int32) × (Nat → Int32) × (Nat → Nat → Int32))) : Nat → Int32 → Int32 → Int32 → Int32 → Int32 → (Nat → Int32) → Int32 → Int32 → Int32 → (Nat → Int32) → (Nat → Int64) → (Nat → Int32) → (Nat → Int32) → (Nat → Nat → Int32) → Option (Int32 × Int32 × Int32 × (Nat → Int32) × Int32 × Int32 × Int32 × (Nat → Int32) × (Nat → Int64) × (Nat → Int32) × (Nat → Int32) × (Nat → Nat → Int32))
  | 0, _, _, _, _, _, _, _, _, _, _, _, _, _, _ => none
  | n + 1, x4, x5, x6, v_size, v_held, v_knots, t_limit, t_rest_left, t_rest_newEnds, t_rest_near, t_stuck, lf, ne, nr =>
    if (13 : Int32) ≤ x6 then
      J_X6_bestOrder_78 a3 u_size u_near k_39 x4 x5 x6 v_size v_held v_knots t_limit t_rest_left t_rest_newEnds t_rest_near t_stuck lf ne nr
    else
      cal (f_X6_fitsBehindR (f_X6_fits 16) x6 (0 : Int32) t_limit t_rest_left t_rest_newEnds t_rest_near t_stuck lf ne nr) fun u8 =>
      if u8.1 = 0 then
        bnd (x6 + (1 : Int32)) fun x6_9 =>
        L_X6_bestOrder_51 a3 u_size u_near k_39 n x4 x5 x6_9 v_size v_held v_knots t_limit t_rest_left t_rest_newEnds t_rest_near u8.2.1 u8.2.2.1 u8.2.2.2.1 u8.2.2.2.2
      else
        J_X6_bestOrder_78 a3 u_size u_near k_39 x4 x5 x6 v_size v_held v_knots t_limit t_rest_left t_rest_newEnds t_rest_near u8.2.1 u8.2.2.1 u8.2.2.2.1 u8.2.2.2.2

set_option maxRecDepth 100000 in
set_option maxHeartbeats 1000000 in
theorem w_X6_bestOrder_51 (cA : Nat → ClassId) (q_v : Nat) (q_v_knots : Nat) (q_u : Nat) (q_u_loads : Nat) (q_u_ties : Nat) (u_edges : Int32) (q_u_near : Nat) (q_t : Nat) (q_t_rest : Nat) (q_t_rest_near : Nat) (q_t_levels : Nat) (q_t_stuck : Nat) (ad : Nat → Nat) (an : Nat → Nat) (a3 : Int32) (u_size : Int32) (u_near : Nat → Int32) {X : XT}  (C : Cx X cX6_bestOrder RX6 (some .int) cA 210 7600 7) {kk nn : Nat} {BB : Option Value → va_W → Prop} (hk : kk ≤ (x_R X).cells ∧ nn ≤ (x_R X).slots) (F : Fx X BB kk nn) (r : Int32 × Int32 × Int32 × (Nat → Int32) × Int32 × Int32 × Int32 × (Nat → Int32) × (Nat → Int64) × (Nat → Int32) × (Nat → Int32) × (Nat → Nat → Int32)) (hB : BB (some (.int r.1)) ([oB q_v 2 [.ref q_v_knots, .int r.2.1, .int r.2.2.1], aI cA q_v_knots 14 r.2.2.2.1, oB q_u 4 [.ref q_u_loads, .ref q_u_near, .ref q_u_ties, .int u_size, .int u_edges], aI cA q_u_near 14 u_near, oB q_t 6 [.ref q_t_rest, .ref q_t_levels, .ref q_t_stuck, .int r.2.2.2.2.1], oB q_t_rest 1 [.ref q_t_rest_near, .int r.2.2.2.2.2.1, .int r.2.2.2.2.2.2.1], aI cA q_t_rest_near 14 r.2.2.2.2.2.2.2.1, aG cA q_t_levels 15 (fun i => some (ad i)), aJ cA q_t_stuck 256 r.2.2.2.2.2.2.2.2.1] ++ lvW cA ad an r.2.2.2.2.2.2.2.2.2.1 r.2.2.2.2.2.2.2.2.2.2.1 r.2.2.2.2.2.2.2.2.2.2.2)) (k_39 : Int32 → Int32 → Int32 → Int32 → (Nat → Int32) → Int32 → Int32 → Int32 → (Nat → Int32) → (Nat → Int64) → (Nat → Int32) → (Nat → Int32) → (Nat → Nat → Int32) → Option (Int32 × Int32 × Int32 × (Nat → Int32) × Int32 × Int32 × Int32 × (Nat → Int32) × (Nat → Int64) × (Nat → Int32) × (Nat → Int32) × (Nat → Nat → Int32))) (h_39 : ∀ (x4 : Int32) (x5 : Int32) (v_size : Int32) (v_held : Int32) (v_knots : Nat → Int32) (t_limit : Int32) (t_rest_left : Int32) (t_rest_newEnds : Int32) (t_rest_near : Nat → Int32) (t_stuck : Nat → Int64) (lf : Nat → Int32) (ne : Nat → Int32) (nr : Nat → Nat → Int32), k_39 x4 x5 v_size v_held v_knots t_limit t_rest_left t_rest_newEnds t_rest_near t_stuck lf ne nr = some r → Go X 7 kk nn 39 ([oB q_v 2 [.ref q_v_knots, .int v_size, .int v_held], aI cA q_v_knots 14 v_knots, oB q_u 4 [.ref q_u_loads, .ref q_u_near, .ref q_u_ties, .int u_size, .int u_edges], aI cA q_u_near 14 u_near, oB q_t 6 [.ref q_t_rest, .ref q_t_levels, .ref q_t_stuck, .int t_limit], oB q_t_rest 1 [.ref q_t_rest_near, .int t_rest_left, .int t_rest_newEnds], aI cA q_t_rest_near 14 t_rest_near, aG cA q_t_levels 15 (fun i => some (ad i)), aJ cA q_t_stuck 256 t_stuck] ++ lvW cA ad an lf ne nr) [(0, .ref q_t), (1, .ref q_u), (2, .ref q_v), (4, .int x4), (5, .int x5)] []) : ∀ (n : Nat) (x4 : Int32) (x5 : Int32) (x6 : Int32) (v_size : Int32) (v_held : Int32) (v_knots : Nat → Int32) (t_limit : Int32) (t_rest_left : Int32) (t_rest_newEnds : Int32) (t_rest_near : Nat → Int32) (t_stuck : Nat → Int64) (lf : Nat → Int32) (ne : Nat → Int32) (nr : Nat → Nat → Int32), L_X6_bestOrder_51 a3 u_size u_near k_39 n x4 x5 x6 v_size v_held v_knots t_limit t_rest_left t_rest_newEnds t_rest_near t_stuck lf ne nr = some r → Go X 7 kk nn 51 ([oB q_v 2 [.ref q_v_knots, .int v_size, .int v_held], aI cA q_v_knots 14 v_knots, oB q_u 4 [.ref q_u_loads, .ref q_u_near, .ref q_u_ties, .int u_size, .int u_edges], aI cA q_u_near 14 u_near, oB q_t 6 [.ref q_t_rest, .ref q_t_levels, .ref q_t_stuck, .int t_limit], oB q_t_rest 1 [.ref q_t_rest_near, .int t_rest_left, .int t_rest_newEnds], aI cA q_t_rest_near 14 t_rest_near, aG cA q_t_levels 15 (fun i => some (ad i)), aJ cA q_t_stuck 256 t_stuck] ++ lvW cA ad an lf ne nr) [(0, .ref q_t), (1, .ref q_u), (2, .ref q_v), (4, .int x4), (5, .int x5), (6, .int x6)] [] := by
  intro n
  induction n with
  | zero => intro x4 x5 x6 v_size v_held v_knots t_limit t_rest_left t_rest_newEnds t_rest_near t_stuck lf ne nr hf; exact no_some hf
  | succ n ih =>
    intro x4 x5 x6 v_size v_held v_knots t_limit t_rest_left t_rest_newEnds t_rest_near t_stuck lf ne nr hf
    rw [L_X6_bestOrder_51] at hf
    refine g_iload C 51 5 dX6_bestOrder_51 rfl ?_
    refine g_bipush C 53 (13 : Int32) dX6_bestOrder_53 (by decide) ?_
    refine g_icmp_ge C 55 78 dX6_bestOrder_55 (by decide) hf (fun hf => ?_) (fun hf => ?_)
    · exact w_X6_bestOrder_78 cA q_v q_v_knots q_u q_u_loads q_u_ties u_edges q_u_near q_t q_t_rest q_t_rest_near q_t_levels q_t_stuck ad an a3 u_size u_near C hk F r hB k_39 h_39 x4 x5 x6 v_size v_held v_knots t_limit t_rest_left t_rest_newEnds t_rest_near t_stuck lf ne nr hf
    · refine g_aload_n C 58 0 dX6_bestOrder_58 rfl rfl ?_
      refine g_aload_n C 59 0 dX6_bestOrder_59 rfl rfl ?_
      refine g_get C 60 4 0 dX6_bestOrder_60 inX6 rfl rfl (by decide) kw_489 rfl ?_
      refine g_iload C 63 5 dX6_bestOrder_63 rfl ?_
      refine g_iconst C 65 (0 : Int32) dX6_bestOrder_65 (by decide) ?_
      obtain ⟨u8, hu8, hf⟩ := cal_some hf
      refine g_callT C 66 [4, 5, 6, 7, 8] 4 (rest := []) (P' := [oB q_v 2 [.ref q_v_knots, .int v_size, .int v_held], aI cA q_v_knots 14 v_knots, oB q_u 4 [.ref q_u_loads, .ref q_u_near, .ref q_u_ties, .int u_size, .int u_edges], aI cA q_u_near 14 u_near, oB q_t 6 [.ref q_t_rest, .ref q_t_levels, .ref q_t_stuck, .int t_limit], oB q_t_rest 1 [.ref q_t_rest_near, .int t_rest_left, .int t_rest_newEnds], aI cA q_t_rest_near 14 t_rest_near, aG cA q_t_levels 15 (fun i => some (ad i)), aJ cA q_t_stuck 256 u8.2.1]) (S1 := lvW cA ad an u8.2.2.1 u8.2.2.2.1 u8.2.2.2.2) dX6_bestOrder_66 (c_X6_fitsBehindR (x_l X) cA q_t t_limit q_t_rest t_rest_left t_rest_newEnds q_t_rest_near t_rest_near q_t_levels q_t_stuck t_stuck ad an lf ne nr (12 * 16) (400 * 16) (f_X6_fits 16) (c_X6_fits (x_l X) cA q_t q_t_rest q_t_rest_near q_t_levels q_t_stuck ad an 16)  x6 (0 : Int32) u8 hu8) kw_475 kw_476 kw_477 kw_469 kw_478 ok_X6_fitsBehind ⟨by (try dsimp only); omega, by (try dsimp only); omega⟩ hk ⟨rfl, rfl⟩ rfl rfl rfl rfl rfl (Nat.le_of_ble_eq_true rfl) rfl (lvW_len.trans lvW_len.symm) (N0 := 9) rfl [none, none, none, none, some 0, some 1, some 2, some 3, some 4] (by decide) rfl (st' := [.int u8.1]) rfl ?_
      refine g_if_ne C 69 78 dX6_bestOrder_69 (by decide) hf (fun hf => ?_) (fun hf => ?_)
      · exact w_X6_bestOrder_78 cA q_v q_v_knots q_u q_u_loads q_u_ties u_edges q_u_near q_t q_t_rest q_t_rest_near q_t_levels q_t_stuck ad an a3 u_size u_near C hk F r hB k_39 h_39 x4 x5 x6 v_size v_held v_knots t_limit t_rest_left t_rest_newEnds t_rest_near u8.2.1 u8.2.2.1 u8.2.2.2.1 u8.2.2.2.2 hf
      · refine g_iinc C 72 5 (v := x6 + (1 : Int32)) (fun z => [(6, .int z), (0, .ref q_t), (1, .ref q_u), (2, .ref q_v), (4, .int x4), (5, .int x5)]) dX6_bestOrder_72 rfl rfl (by decide) (fun _ => rfl) hf (fun x6_9 hf => ?_)
        refine g_goto C 75 51 dX6_bestOrder_75 (by decide) ?_
        refine g_lv [1, 2, 3, 4, 5, 0] rfl ?_
        exact ih x4 x5 x6_9 v_size v_held v_knots t_limit t_rest_left t_rest_newEnds t_rest_near u8.2.1 u8.2.2.1 u8.2.2.2.1 u8.2.2.2.2 hf
def L_X6_bestOrder_39 (a3 : Int32) (u_size : Int32) (u_near : Nat → Int32)  : Nat → Int32 → Int32 → Int32 → Int32 → (Nat → Int32) → Int32 → Int32 → Int32 → (Nat → Int32) → (Nat → Int64) → (Nat → Int32) → (Nat → Int32) → (Nat → Nat → Int32) → Option (Int32 × Int32 × Int32 × (Nat → Int32) × Int32 × Int32 × Int32 × (Nat → Int32) × (Nat → Int64) × (Nat → Int32) × (Nat → Int32) × (Nat → Nat → Int32))
  | 0, _, _, _, _, _, _, _, _, _, _, _, _, _ => none
  | n + 1, x4, x5, v_size, v_held, v_knots, t_limit, t_rest_left, t_rest_newEnds, t_rest_near, t_stuck, lf, ne, nr =>
    if u_size ≤ x5 then
      some (x4, v_size, v_held, v_knots, t_limit, t_rest_left, t_rest_newEnds, t_rest_near, t_stuck, lf, ne, nr)
    else
      bnd (0 : Int32) fun x6_4 =>
      L_X6_bestOrder_51 a3 u_size u_near (fun y0 y1 y2 y3 y4 y5 y6 y7 y8 y9 y10 y11 y12 => L_X6_bestOrder_39 a3 u_size u_near n y0 y1 y2 y3 y4 y5 y6 y7 y8 y9 y10 y11 y12) NN x4 x5 x6_4 v_size v_held v_knots t_limit t_rest_left t_rest_newEnds t_rest_near t_stuck lf ne nr

set_option maxRecDepth 100000 in
set_option maxHeartbeats 1000000 in
theorem w_X6_bestOrder_39 (cA : Nat → ClassId) (q_v : Nat) (q_v_knots : Nat) (q_u : Nat) (q_u_loads : Nat) (q_u_ties : Nat) (u_edges : Int32) (q_u_near : Nat) (q_t : Nat) (q_t_rest : Nat) (q_t_rest_near : Nat) (q_t_levels : Nat) (q_t_stuck : Nat) (ad : Nat → Nat) (an : Nat → Nat) (a3 : Int32) (u_size : Int32) (u_near : Nat → Int32) {X : XT}  (C : Cx X cX6_bestOrder RX6 (some .int) cA 210 7600 7) {kk nn : Nat} {BB : Option Value → va_W → Prop} (hk : kk ≤ (x_R X).cells ∧ nn ≤ (x_R X).slots) (F : Fx X BB kk nn) (r : Int32 × Int32 × Int32 × (Nat → Int32) × Int32 × Int32 × Int32 × (Nat → Int32) × (Nat → Int64) × (Nat → Int32) × (Nat → Int32) × (Nat → Nat → Int32)) (hB : BB (some (.int r.1)) ([oB q_v 2 [.ref q_v_knots, .int r.2.1, .int r.2.2.1], aI cA q_v_knots 14 r.2.2.2.1, oB q_u 4 [.ref q_u_loads, .ref q_u_near, .ref q_u_ties, .int u_size, .int u_edges], aI cA q_u_near 14 u_near, oB q_t 6 [.ref q_t_rest, .ref q_t_levels, .ref q_t_stuck, .int r.2.2.2.2.1], oB q_t_rest 1 [.ref q_t_rest_near, .int r.2.2.2.2.2.1, .int r.2.2.2.2.2.2.1], aI cA q_t_rest_near 14 r.2.2.2.2.2.2.2.1, aG cA q_t_levels 15 (fun i => some (ad i)), aJ cA q_t_stuck 256 r.2.2.2.2.2.2.2.2.1] ++ lvW cA ad an r.2.2.2.2.2.2.2.2.2.1 r.2.2.2.2.2.2.2.2.2.2.1 r.2.2.2.2.2.2.2.2.2.2.2))  : ∀ (n : Nat) (x4 : Int32) (x5 : Int32) (v_size : Int32) (v_held : Int32) (v_knots : Nat → Int32) (t_limit : Int32) (t_rest_left : Int32) (t_rest_newEnds : Int32) (t_rest_near : Nat → Int32) (t_stuck : Nat → Int64) (lf : Nat → Int32) (ne : Nat → Int32) (nr : Nat → Nat → Int32), L_X6_bestOrder_39 a3 u_size u_near n x4 x5 v_size v_held v_knots t_limit t_rest_left t_rest_newEnds t_rest_near t_stuck lf ne nr = some r → Go X 7 kk nn 39 ([oB q_v 2 [.ref q_v_knots, .int v_size, .int v_held], aI cA q_v_knots 14 v_knots, oB q_u 4 [.ref q_u_loads, .ref q_u_near, .ref q_u_ties, .int u_size, .int u_edges], aI cA q_u_near 14 u_near, oB q_t 6 [.ref q_t_rest, .ref q_t_levels, .ref q_t_stuck, .int t_limit], oB q_t_rest 1 [.ref q_t_rest_near, .int t_rest_left, .int t_rest_newEnds], aI cA q_t_rest_near 14 t_rest_near, aG cA q_t_levels 15 (fun i => some (ad i)), aJ cA q_t_stuck 256 t_stuck] ++ lvW cA ad an lf ne nr) [(0, .ref q_t), (1, .ref q_u), (2, .ref q_v), (4, .int x4), (5, .int x5)] [] := by
  intro n
  induction n with
  | zero => intro x4 x5 v_size v_held v_knots t_limit t_rest_left t_rest_newEnds t_rest_near t_stuck lf ne nr hf; exact no_some hf
  | succ n ih =>
    intro x4 x5 v_size v_held v_knots t_limit t_rest_left t_rest_newEnds t_rest_near t_stuck lf ne nr hf
    rw [L_X6_bestOrder_39] at hf
    refine g_iload C 39 4 dX6_bestOrder_39 rfl ?_
    refine g_aload_n C 41 1 dX6_bestOrder_41 rfl rfl ?_
    refine g_get C 42 2 3 dX6_bestOrder_42 inX4 rfl rfl (by decide) kw_488 rfl ?_
    refine g_icmp_ge C 45 99 dX6_bestOrder_45 (by decide) hf (fun hf => ?_) (fun hf => ?_)
    · refine g_iload C 99 3 dX6_bestOrder_99 rfl ?_
      cases hf
      exact g_iret C 101 dX6_bestOrder_101 F hB
    · refine g_iconst C 48 (0 : Int32) dX6_bestOrder_48 (by decide) ?_
      refine g_istore C 49 (fun z => [(6, .int z), (0, .ref q_t), (1, .ref q_u), (2, .ref q_v), (4, .int x4), (5, .int x5)]) dX6_bestOrder_49 (by decide) (fun _ => rfl) hf (fun x6_4 hf => ?_)
      refine g_lv [1, 2, 3, 4, 5, 0] rfl ?_
      exact w_X6_bestOrder_51 cA q_v q_v_knots q_u q_u_loads q_u_ties u_edges q_u_near q_t q_t_rest q_t_rest_near q_t_levels q_t_stuck ad an a3 u_size u_near C hk F r hB (fun y0 y1 y2 y3 y4 y5 y6 y7 y8 y9 y10 y11 y12 => L_X6_bestOrder_39 a3 u_size u_near n y0 y1 y2 y3 y4 y5 y6 y7 y8 y9 y10 y11 y12) (fun y0 y1 y2 y3 y4 y5 y6 y7 y8 y9 y10 y11 y12 hf => ih y0 y1 y2 y3 y4 y5 y6 y7 y8 y9 y10 y11 y12 hf) NN x4 x5 x6_4 v_size v_held v_knots t_limit t_rest_left t_rest_newEnds t_rest_near t_stuck lf ne nr hf
def L_X6_bestOrder_3 (a3 : Int32) (u_size : Int32) (u_near : Nat → Int32)  : Nat → Int32 → Int32 → Int32 → (Nat → Int32) → Int32 → Int32 → Int32 → (Nat → Int32) → (Nat → Int64) → (Nat → Int32) → (Nat → Int32) → (Nat → Nat → Int32) → Option (Int32 × Int32 × Int32 × (Nat → Int32) × Int32 × Int32 × Int32 × (Nat → Int32) × (Nat → Int64) × (Nat → Int32) × (Nat → Int32) × (Nat → Nat → Int32))
  | 0, _, _, _, _, _, _, _, _, _, _, _, _ => none
  | n + 1, x4, v_size, v_held, v_knots, t_limit, t_rest_left, t_rest_newEnds, t_rest_near, t_stuck, lf, ne, nr =>
    if u_size ≤ x4 then
      cal (f_X1_start t_rest_left t_rest_newEnds t_rest_near u_size u_near) fun u2 =>
      bnd (0 : Int32) fun x5_3 =>
      L_X6_bestOrder_39 a3 u_size u_near NN x4 x5_3 v_size v_held v_knots t_limit u2.1 u2.2.1 u2.2.2 t_stuck lf ne nr
    else
      cal (f_X6_netFits x4 u_size u_near t_limit t_stuck lf ne nr) fun u10 =>
      if u10.1 = 0 then
        bnd (x4 + (1 : Int32)) fun x4_13 =>
        L_X6_bestOrder_3 a3 u_size u_near n x4_13 v_size v_held v_knots u10.2.1 t_rest_left t_rest_newEnds t_rest_near u10.2.2.1 u10.2.2.2.1 u10.2.2.2.2.1 u10.2.2.2.2.2
      else
        cal (f_X1_start t_rest_left t_rest_newEnds t_rest_near u_size u_near) fun u11 =>
        bnd (0 : Int32) fun x5_12 =>
        L_X6_bestOrder_39 a3 u_size u_near NN x4 x5_12 v_size v_held v_knots u10.2.1 u11.1 u11.2.1 u11.2.2 u10.2.2.1 u10.2.2.2.1 u10.2.2.2.2.1 u10.2.2.2.2.2

set_option maxRecDepth 100000 in
set_option maxHeartbeats 1000000 in
theorem w_X6_bestOrder_3 (cA : Nat → ClassId) (q_v : Nat) (q_v_knots : Nat) (q_u : Nat) (q_u_loads : Nat) (q_u_ties : Nat) (u_edges : Int32) (q_u_near : Nat) (q_t : Nat) (q_t_rest : Nat) (q_t_rest_near : Nat) (q_t_levels : Nat) (q_t_stuck : Nat) (ad : Nat → Nat) (an : Nat → Nat) (a3 : Int32) (u_size : Int32) (u_near : Nat → Int32) {X : XT}  (C : Cx X cX6_bestOrder RX6 (some .int) cA 210 7600 7) {kk nn : Nat} {BB : Option Value → va_W → Prop} (hk : kk ≤ (x_R X).cells ∧ nn ≤ (x_R X).slots) (F : Fx X BB kk nn) (r : Int32 × Int32 × Int32 × (Nat → Int32) × Int32 × Int32 × Int32 × (Nat → Int32) × (Nat → Int64) × (Nat → Int32) × (Nat → Int32) × (Nat → Nat → Int32)) (hB : BB (some (.int r.1)) ([oB q_v 2 [.ref q_v_knots, .int r.2.1, .int r.2.2.1], aI cA q_v_knots 14 r.2.2.2.1, oB q_u 4 [.ref q_u_loads, .ref q_u_near, .ref q_u_ties, .int u_size, .int u_edges], aI cA q_u_near 14 u_near, oB q_t 6 [.ref q_t_rest, .ref q_t_levels, .ref q_t_stuck, .int r.2.2.2.2.1], oB q_t_rest 1 [.ref q_t_rest_near, .int r.2.2.2.2.2.1, .int r.2.2.2.2.2.2.1], aI cA q_t_rest_near 14 r.2.2.2.2.2.2.2.1, aG cA q_t_levels 15 (fun i => some (ad i)), aJ cA q_t_stuck 256 r.2.2.2.2.2.2.2.2.1] ++ lvW cA ad an r.2.2.2.2.2.2.2.2.2.1 r.2.2.2.2.2.2.2.2.2.2.1 r.2.2.2.2.2.2.2.2.2.2.2))  : ∀ (n : Nat) (x4 : Int32) (v_size : Int32) (v_held : Int32) (v_knots : Nat → Int32) (t_limit : Int32) (t_rest_left : Int32) (t_rest_newEnds : Int32) (t_rest_near : Nat → Int32) (t_stuck : Nat → Int64) (lf : Nat → Int32) (ne : Nat → Int32) (nr : Nat → Nat → Int32), L_X6_bestOrder_3 a3 u_size u_near n x4 v_size v_held v_knots t_limit t_rest_left t_rest_newEnds t_rest_near t_stuck lf ne nr = some r → Go X 7 kk nn 3 ([oB q_v 2 [.ref q_v_knots, .int v_size, .int v_held], aI cA q_v_knots 14 v_knots, oB q_u 4 [.ref q_u_loads, .ref q_u_near, .ref q_u_ties, .int u_size, .int u_edges], aI cA q_u_near 14 u_near, oB q_t 6 [.ref q_t_rest, .ref q_t_levels, .ref q_t_stuck, .int t_limit], oB q_t_rest 1 [.ref q_t_rest_near, .int t_rest_left, .int t_rest_newEnds], aI cA q_t_rest_near 14 t_rest_near, aG cA q_t_levels 15 (fun i => some (ad i)), aJ cA q_t_stuck 256 t_stuck] ++ lvW cA ad an lf ne nr) [(0, .ref q_t), (1, .ref q_u), (2, .ref q_v), (4, .int x4)] [] := by
  intro n
  induction n with
  | zero => intro x4 v_size v_held v_knots t_limit t_rest_left t_rest_newEnds t_rest_near t_stuck lf ne nr hf; exact no_some hf
  | succ n ih =>
    intro x4 v_size v_held v_knots t_limit t_rest_left t_rest_newEnds t_rest_near t_stuck lf ne nr hf
    rw [L_X6_bestOrder_3] at hf
    refine g_iload C 3 3 dX6_bestOrder_3 rfl ?_
    refine g_aload_n C 5 1 dX6_bestOrder_5 rfl rfl ?_
    refine g_get C 6 2 3 dX6_bestOrder_6 inX4 rfl rfl (by decide) kw_488 rfl ?_
    refine g_icmp_ge C 9 28 dX6_bestOrder_9 (by decide) hf (fun hf => ?_) (fun hf => ?_)
    · refine g_aload_n C 28 0 dX6_bestOrder_28 rfl rfl ?_
      refine g_get C 29 4 0 dX6_bestOrder_29 inX6 rfl rfl (by decide) kw_489 rfl ?_
      refine g_aload_n C 32 1 dX6_bestOrder_32 rfl rfl ?_
      obtain ⟨u2, hu2, hf⟩ := cal_some hf
      refine g_callB C 33 [5, 6, 2, 3] 5 (rest := []) (P' := [oB q_v 2 [.ref q_v_knots, .int v_size, .int v_held], aI cA q_v_knots 14 v_knots, oB q_u 4 [.ref q_u_loads, .ref q_u_near, .ref q_u_ties, .int u_size, .int u_edges], aI cA q_u_near 14 u_near, oB q_t 6 [.ref q_t_rest, .ref q_t_levels, .ref q_t_stuck, .int t_limit], oB q_t_rest 1 [.ref q_t_rest_near, .int u2.1, .int u2.2.1], aI cA q_t_rest_near 14 u2.2.2, aG cA q_t_levels 15 (fun i => some (ad i)), aJ cA q_t_stuck 256 t_stuck]) dX6_bestOrder_33 (c_X1_start (x_l X) cA q_t_rest t_rest_left t_rest_newEnds q_t_rest_near t_rest_near q_u q_u_loads q_u_ties u_size u_edges q_u_near u_near  u2 hu2) kw_487 kw_125 kw_126 kw_16 kw_127 ok_X1_start ⟨by (try dsimp only); omega, by (try dsimp only); omega⟩ hk ⟨rfl, rfl⟩ rfl rfl rfl rfl rfl (Nat.le_of_ble_eq_true rfl) rfl (N0 := 9) rfl [none, none, some 2, some 3, none, some 0, some 1, none, none] (by decide) rfl (st' := []) rfl ?_
      refine g_iconst C 36 (0 : Int32) dX6_bestOrder_36 (by decide) ?_
      refine g_istore C 37 (fun z => [(5, .int z), (0, .ref q_t), (1, .ref q_u), (2, .ref q_v), (4, .int x4)]) dX6_bestOrder_37 (by decide) (fun _ => rfl) hf (fun x5_3 hf => ?_)
      refine g_lv [1, 2, 3, 4, 0] rfl ?_
      exact w_X6_bestOrder_39 cA q_v q_v_knots q_u q_u_loads q_u_ties u_edges q_u_near q_t q_t_rest q_t_rest_near q_t_levels q_t_stuck ad an a3 u_size u_near C hk F r hB NN x4 x5_3 v_size v_held v_knots t_limit u2.1 u2.2.1 u2.2.2 t_stuck lf ne nr hf
    · refine g_aload_n C 12 0 dX6_bestOrder_12 rfl rfl ?_
      refine g_aload_n C 13 1 dX6_bestOrder_13 rfl rfl ?_
      refine g_iload C 14 3 dX6_bestOrder_14 rfl ?_
      obtain ⟨u10, hu10, hf⟩ := cal_some hf
      refine g_callT C 16 [2, 3, 4, 5, 6, 7, 8] 4 (rest := []) (P' := [oB q_v 2 [.ref q_v_knots, .int v_size, .int v_held], aI cA q_v_knots 14 v_knots, oB q_u 4 [.ref q_u_loads, .ref q_u_near, .ref q_u_ties, .int u_size, .int u_edges], aI cA q_u_near 14 u_near, oB q_t 6 [.ref q_t_rest, .ref q_t_levels, .ref q_t_stuck, .int u10.2.1], oB q_t_rest 1 [.ref q_t_rest_near, .int t_rest_left, .int t_rest_newEnds], aI cA q_t_rest_near 14 t_rest_near, aG cA q_t_levels 15 (fun i => some (ad i)), aJ cA q_t_stuck 256 u10.2.2.1]) (S1 := lvW cA ad an u10.2.2.2.1 u10.2.2.2.2.1 u10.2.2.2.2.2) dX6_bestOrder_16 (c_X6_netFits (x_l X) cA q_u q_u_loads q_u_ties u_size u_edges q_u_near u_near q_t t_limit q_t_rest t_rest_left t_rest_newEnds q_t_rest_near t_rest_near q_t_levels q_t_stuck t_stuck ad an lf ne nr x4 u10 hu10) kw_491 kw_492 kw_493 kw_469 kw_494 ok_X6_netFits ⟨by (try dsimp only); omega, by (try dsimp only); omega⟩ hk ⟨rfl, rfl⟩ rfl rfl rfl rfl rfl (Nat.le_of_ble_eq_true rfl) rfl (lvW_len.trans lvW_len.symm) (N0 := 9) rfl [none, none, some 0, some 1, some 2, some 3, some 4, some 5, some 6] (by decide) rfl (st' := [.int u10.1]) rfl ?_
      refine g_if_ne C 19 28 dX6_bestOrder_19 (by decide) hf (fun hf => ?_) (fun hf => ?_)
      · refine g_aload_n C 28 0 dX6_bestOrder_28 rfl rfl ?_
        refine g_get C 29 4 0 dX6_bestOrder_29 inX6 rfl rfl (by decide) kw_489 rfl ?_
        refine g_aload_n C 32 1 dX6_bestOrder_32 rfl rfl ?_
        obtain ⟨u11, hu11, hf⟩ := cal_some hf
        refine g_callB C 33 [5, 6, 2, 3] 5 (rest := []) (P' := [oB q_v 2 [.ref q_v_knots, .int v_size, .int v_held], aI cA q_v_knots 14 v_knots, oB q_u 4 [.ref q_u_loads, .ref q_u_near, .ref q_u_ties, .int u_size, .int u_edges], aI cA q_u_near 14 u_near, oB q_t 6 [.ref q_t_rest, .ref q_t_levels, .ref q_t_stuck, .int u10.2.1], oB q_t_rest 1 [.ref q_t_rest_near, .int u11.1, .int u11.2.1], aI cA q_t_rest_near 14 u11.2.2, aG cA q_t_levels 15 (fun i => some (ad i)), aJ cA q_t_stuck 256 u10.2.2.1]) dX6_bestOrder_33 (c_X1_start (x_l X) cA q_t_rest t_rest_left t_rest_newEnds q_t_rest_near t_rest_near q_u q_u_loads q_u_ties u_size u_edges q_u_near u_near  u11 hu11) kw_487 kw_125 kw_126 kw_16 kw_127 ok_X1_start ⟨by (try dsimp only); omega, by (try dsimp only); omega⟩ hk ⟨rfl, rfl⟩ rfl rfl rfl rfl rfl (Nat.le_of_ble_eq_true rfl) rfl (N0 := 9) rfl [none, none, some 2, some 3, none, some 0, some 1, none, none] (by decide) rfl (st' := []) rfl ?_
        refine g_iconst C 36 (0 : Int32) dX6_bestOrder_36 (by decide) ?_
        refine g_istore C 37 (fun z => [(5, .int z), (0, .ref q_t), (1, .ref q_u), (2, .ref q_v), (4, .int x4)]) dX6_bestOrder_37 (by decide) (fun _ => rfl) hf (fun x5_12 hf => ?_)
        refine g_lv [1, 2, 3, 4, 0] rfl ?_
        exact w_X6_bestOrder_39 cA q_v q_v_knots q_u q_u_loads q_u_ties u_edges q_u_near q_t q_t_rest q_t_rest_near q_t_levels q_t_stuck ad an a3 u_size u_near C hk F r hB NN x4 x5_12 v_size v_held v_knots u10.2.1 u11.1 u11.2.1 u11.2.2 u10.2.2.1 u10.2.2.2.1 u10.2.2.2.2.1 u10.2.2.2.2.2 hf
      · refine g_iinc C 22 3 (v := x4 + (1 : Int32)) (fun z => [(4, .int z), (0, .ref q_t), (1, .ref q_u), (2, .ref q_v)]) dX6_bestOrder_22 rfl rfl (by decide) (fun _ => rfl) hf (fun x4_13 hf => ?_)
        refine g_goto C 25 3 dX6_bestOrder_25 (by decide) ?_
        refine g_lv [1, 2, 3, 0] rfl ?_
        exact ih x4_13 v_size v_held v_knots u10.2.1 t_rest_left t_rest_newEnds t_rest_near u10.2.2.1 u10.2.2.2.1 u10.2.2.2.2.1 u10.2.2.2.2.2 hf
def f_X6_bestOrder (a3 : Int32) (v_size : Int32) (v_held : Int32) (v_knots : Nat → Int32) (u_size : Int32) (u_near : Nat → Int32) (t_limit : Int32) (t_rest_left : Int32) (t_rest_newEnds : Int32) (t_rest_near : Nat → Int32) (t_stuck : Nat → Int64) (lf : Nat → Int32) (ne : Nat → Int32) (nr : Nat → Nat → Int32) : Option (Int32 × Int32 × Int32 × (Nat → Int32) × Int32 × Int32 × Int32 × (Nat → Int32) × (Nat → Int64) × (Nat → Int32) × (Nat → Int32) × (Nat → Nat → Int32)) :=
  bnd a3 fun x4_1 =>
  L_X6_bestOrder_3 a3 u_size u_near NN x4_1 v_size v_held v_knots t_limit t_rest_left t_rest_newEnds t_rest_near t_stuck lf ne nr

set_option maxRecDepth 100000 in
set_option maxHeartbeats 1000000 in
theorem c_X6_bestOrder (l : Launch) (cA : Nat → ClassId) (q_v : Nat) (v_size : Int32) (v_held : Int32) (q_v_knots : Nat) (v_knots : Nat → Int32) (q_u : Nat) (q_u_loads : Nat) (q_u_ties : Nat) (u_size : Int32) (u_edges : Int32) (q_u_near : Nat) (u_near : Nat → Int32) (q_t : Nat) (t_limit : Int32) (q_t_rest : Nat) (t_rest_left : Int32) (t_rest_newEnds : Int32) (q_t_rest_near : Nat) (t_rest_near : Nat → Int32) (q_t_levels : Nat) (q_t_stuck : Nat) (t_stuck : Nat → Int64) (ad : Nat → Nat) (an : Nat → Nat) (lf : Nat → Int32) (ne : Nat → Int32) (nr : Nat → Nat → Int32)  (a3 : Int32) (r : Int32 × Int32 × Int32 × (Nat → Int32) × Int32 × Int32 × Int32 × (Nat → Int32) × (Nat → Int64) × (Nat → Int32) × (Nat → Int32) × (Nat → Nat → Int32)) (hf : f_X6_bestOrder a3 v_size v_held v_knots u_size u_near t_limit t_rest_left t_rest_newEnds t_rest_near t_stuck lf ne nr = some r) : MT l cA yX6_bestOrder cX6_bestOrder 7 (some .int) ({ frames := 210, cells := 0, slots := 0, locals := 7600 } : Room) [.ref q_t, .ref q_u, .ref q_v, .int a3] ([oB q_v 2 [.ref q_v_knots, .int v_size, .int v_held], aI cA q_v_knots 14 v_knots, oB q_u 4 [.ref q_u_loads, .ref q_u_near, .ref q_u_ties, .int u_size, .int u_edges], aI cA q_u_near 14 u_near, oB q_t 6 [.ref q_t_rest, .ref q_t_levels, .ref q_t_stuck, .int t_limit], oB q_t_rest 1 [.ref q_t_rest_near, .int t_rest_left, .int t_rest_newEnds], aI cA q_t_rest_near 14 t_rest_near, aG cA q_t_levels 15 (fun i => some (ad i)), aJ cA q_t_stuck 256 t_stuck] ++ lvW cA ad an lf ne nr) (sB (some (.int r.1)) ([oB q_v 2 [.ref q_v_knots, .int r.2.1, .int r.2.2.1], aI cA q_v_knots 14 r.2.2.2.1, oB q_u 4 [.ref q_u_loads, .ref q_u_near, .ref q_u_ties, .int u_size, .int u_edges], aI cA q_u_near 14 u_near, oB q_t 6 [.ref q_t_rest, .ref q_t_levels, .ref q_t_stuck, .int r.2.2.2.2.1], oB q_t_rest 1 [.ref q_t_rest_near, .int r.2.2.2.2.2.1, .int r.2.2.2.2.2.2.1], aI cA q_t_rest_near 14 r.2.2.2.2.2.2.2.1, aG cA q_t_levels 15 (fun i => some (ad i)), aJ cA q_t_stuck 256 r.2.2.2.2.2.2.2.2.1] ++ lvW cA ad an r.2.2.2.2.2.2.2.2.2.1 r.2.2.2.2.2.2.2.2.2.2.1 r.2.2.2.2.2.2.2.2.2.2.2)) := by
  refine MT.of (by decide) (Nat.le_of_ble_eq_true rfl) ?_
  intro X hXl C F hnm hrc hrs
  subst hXl
  have hk : 0 ≤ (x_R X).cells ∧ 0 ≤ (x_R X).slots := ⟨Nat.zero_le _, Nat.zero_le _⟩
  have hB : (sB (some (.int r.1)) ([oB q_v 2 [.ref q_v_knots, .int r.2.1, .int r.2.2.1], aI cA q_v_knots 14 r.2.2.2.1, oB q_u 4 [.ref q_u_loads, .ref q_u_near, .ref q_u_ties, .int u_size, .int u_edges], aI cA q_u_near 14 u_near, oB q_t 6 [.ref q_t_rest, .ref q_t_levels, .ref q_t_stuck, .int r.2.2.2.2.1], oB q_t_rest 1 [.ref q_t_rest_near, .int r.2.2.2.2.2.1, .int r.2.2.2.2.2.2.1], aI cA q_t_rest_near 14 r.2.2.2.2.2.2.2.1, aG cA q_t_levels 15 (fun i => some (ad i)), aJ cA q_t_stuck 256 r.2.2.2.2.2.2.2.2.1] ++ lvW cA ad an r.2.2.2.2.2.2.2.2.2.1 r.2.2.2.2.2.2.2.2.2.2.1 r.2.2.2.2.2.2.2.2.2.2.2)) (some (.int r.1)) ([oB q_v 2 [.ref q_v_knots, .int r.2.1, .int r.2.2.1], aI cA q_v_knots 14 r.2.2.2.1, oB q_u 4 [.ref q_u_loads, .ref q_u_near, .ref q_u_ties, .int u_size, .int u_edges], aI cA q_u_near 14 u_near, oB q_t 6 [.ref q_t_rest, .ref q_t_levels, .ref q_t_stuck, .int r.2.2.2.2.1], oB q_t_rest 1 [.ref q_t_rest_near, .int r.2.2.2.2.2.1, .int r.2.2.2.2.2.2.1], aI cA q_t_rest_near 14 r.2.2.2.2.2.2.2.1, aG cA q_t_levels 15 (fun i => some (ad i)), aJ cA q_t_stuck 256 r.2.2.2.2.2.2.2.2.1] ++ lvW cA ad an r.2.2.2.2.2.2.2.2.2.1 r.2.2.2.2.2.2.2.2.2.2.1 r.2.2.2.2.2.2.2.2.2.2.2) := ⟨rfl, rfl⟩
  unfold f_X6_bestOrder at hf
  have C : Cx X cX6_bestOrder RX6 (some .int) cA 210 7600 7 := C
  show Go X 7 0 0 0 ([oB q_v 2 [.ref q_v_knots, .int v_size, .int v_held], aI cA q_v_knots 14 v_knots, oB q_u 4 [.ref q_u_loads, .ref q_u_near, .ref q_u_ties, .int u_size, .int u_edges], aI cA q_u_near 14 u_near, oB q_t 6 [.ref q_t_rest, .ref q_t_levels, .ref q_t_stuck, .int t_limit], oB q_t_rest 1 [.ref q_t_rest_near, .int t_rest_left, .int t_rest_newEnds], aI cA q_t_rest_near 14 t_rest_near, aG cA q_t_levels 15 (fun i => some (ad i)), aJ cA q_t_stuck 256 t_stuck] ++ lvW cA ad an lf ne nr) [(0, .ref q_t), (1, .ref q_u), (2, .ref q_v), (3, .int a3)] []
  refine g_iload_n C 0 3 dX6_bestOrder_0 rfl rfl ?_
  refine g_istore C 1 (fun z => [(4, .int z), (0, .ref q_t), (1, .ref q_u), (2, .ref q_v), (3, .int a3)]) dX6_bestOrder_1 (by decide) (fun _ => rfl) hf (fun x4_1 hf => ?_)
  refine g_lv [1, 2, 3, 0] rfl ?_
  exact w_X6_bestOrder_3 cA q_v q_v_knots q_u q_u_loads q_u_ties u_edges q_u_near q_t q_t_rest q_t_rest_near q_t_levels q_t_stuck ad an a3 u_size u_near C hk F r hB NN x4_1 v_size v_held v_knots t_limit t_rest_left t_rest_newEnds t_rest_near t_stuck lf ne nr hf
