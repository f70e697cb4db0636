theorem dX8_knot_0 : decode cX8_knot 0 = .ok (.iload_n 1, 1) := by decide +kernel
theorem dX8_knot_1 : decode cX8_knot 1 = .ok (.invokestatic 53, 3) := by decide +kernel
theorem dX8_knot_4 : decode cX8_knot 4 = .ok (.ifCond .ne 6, 3) := by decide +kernel
theorem dX8_knot_7 : decode cX8_knot 7 = .ok (.bipush (-2), 2) := by decide +kernel
theorem dX8_knot_9 : decode cX8_knot 9 = .ok (.ireturn, 1) := by decide +kernel
theorem dX8_knot_10 : decode cX8_knot 10 = .ok (.aload_n 0, 1) := by decide +kernel
theorem dX8_knot_11 : decode cX8_knot 11 = .ok (.getfield 12, 3) := by decide +kernel
theorem dX8_knot_14 : decode cX8_knot 14 = .ok (.getfield 57, 3) := by decide +kernel
theorem dX8_knot_17 : decode cX8_knot 17 = .ok (.bipush 14, 2) := by decide +kernel
theorem dX8_knot_19 : decode cX8_knot 19 = .ok (.if_icmp .lt 6, 3) := by decide +kernel
theorem dX8_knot_22 : decode cX8_knot 22 = .ok (.bipush (-3), 2) := by decide +kernel
theorem dX8_knot_24 : decode cX8_knot 24 = .ok (.ireturn, 1) := by decide +kernel
theorem dX8_knot_25 : decode cX8_knot 25 = .ok (.aload_n 0, 1) := by decide +kernel
theorem dX8_knot_26 : decode cX8_knot 26 = .ok (.getfield 21, 3) := by decide +kernel
theorem dX8_knot_29 : decode cX8_knot 29 = .ok (.invokevirtual 61, 3) := by decide +kernel
theorem dX8_knot_32 : decode cX8_knot 32 = .ok (.aload_n 0, 1) := by decide +kernel
theorem dX8_knot_33 : decode cX8_knot 33 = .ok (.getfield 28, 3) := by decide +kernel
theorem dX8_knot_36 : decode cX8_knot 36 = .ok (.invokevirtual 64, 3) := by decide +kernel
theorem dX8_knot_39 : decode cX8_knot 39 = .ok (.aload_n 0, 1) := by decide +kernel
theorem dX8_knot_40 : decode cX8_knot 40 = .ok (.getfield 12, 3) := by decide +kernel
theorem dX8_knot_43 : decode cX8_knot 43 = .ok (.iload_n 1, 1) := by decide +kernel
theorem dX8_knot_44 : decode cX8_knot 44 = .ok (.invokevirtual 65, 3) := by decide +kernel
theorem dX8_knot_47 : decode cX8_knot 47 = .ok (.ireturn, 1) := by decide +kernel
theorem dX8_edge_0 : decode cX8_edge 0 = .ok (.aload_n 0, 1) := by decide +kernel
theorem dX8_edge_1 : decode cX8_edge 1 = .ok (.getfield 12, 3) := by decide +kernel
theorem dX8_edge_4 : decode cX8_edge 4 = .ok (.iload_n 1, 1) := by decide +kernel
theorem dX8_edge_5 : decode cX8_edge 5 = .ok (.invokevirtual 69, 3) := by decide +kernel
theorem dX8_edge_8 : decode cX8_edge 8 = .ok (.ifCond .eq 14, 3) := by decide +kernel
theorem dX8_edge_11 : decode cX8_edge 11 = .ok (.aload_n 0, 1) := by decide +kernel
theorem dX8_edge_12 : decode cX8_edge 12 = .ok (.getfield 12, 3) := by decide +kernel
theorem dX8_edge_15 : decode cX8_edge 15 = .ok (.iload_n 2, 1) := by decide +kernel
theorem dX8_edge_16 : decode cX8_edge 16 = .ok (.invokevirtual 69, 3) := by decide +kernel
theorem dX8_edge_19 : decode cX8_edge 19 = .ok (.ifCond .ne 5, 3) := by decide +kernel
theorem dX8_edge_22 : decode cX8_edge 22 = .ok (.iconst (-1), 1) := by decide +kernel
theorem dX8_edge_23 : decode cX8_edge 23 = .ok (.ireturn, 1) := by decide +kernel
theorem dX8_edge_24 : decode cX8_edge 24 = .ok (.iload_n 1, 1) := by decide +kernel
theorem dX8_edge_25 : decode cX8_edge 25 = .ok (.iload_n 2, 1) := by decide +kernel
theorem dX8_edge_26 : decode cX8_edge 26 = .ok (.if_icmp .eq 10, 3) := by decide +kernel
theorem dX8_edge_29 : decode cX8_edge 29 = .ok (.iload_n 3, 1) := by decide +kernel
theorem dX8_edge_30 : decode cX8_edge 30 = .ok (.invokestatic 53, 3) := by decide +kernel
theorem dX8_edge_33 : decode cX8_edge 33 = .ok (.ifCond .ne 6, 3) := by decide +kernel
theorem dX8_edge_36 : decode cX8_edge 36 = .ok (.bipush (-2), 2) := by decide +kernel
theorem dX8_edge_38 : decode cX8_edge 38 = .ok (.ireturn, 1) := by decide +kernel
theorem dX8_edge_39 : decode cX8_edge 39 = .ok (.aload_n 0, 1) := by decide +kernel
theorem dX8_edge_40 : decode cX8_edge 40 = .ok (.getfield 12, 3) := by decide +kernel
theorem dX8_edge_43 : decode cX8_edge 43 = .ok (.iload_n 1, 1) := by decide +kernel
theorem dX8_edge_44 : decode cX8_edge 44 = .ok (.iload_n 2, 1) := by decide +kernel
theorem dX8_edge_45 : decode cX8_edge 45 = .ok (.iload_n 3, 1) := by decide +kernel
theorem dX8_edge_46 : decode cX8_edge 46 = .ok (.invokevirtual 72, 3) := by decide +kernel
theorem dX8_edge_49 : decode cX8_edge 49 = .ok (.ifCond .eq 7, 3) := by decide +kernel
theorem dX8_edge_52 : decode cX8_edge 52 = .ok (.iconst 1, 1) := by decide +kernel
theorem dX8_edge_53 : decode cX8_edge 53 = .ok (.goto 4, 3) := by decide +kernel
theorem dX8_edge_56 : decode cX8_edge 56 = .ok (.iconst 0, 1) := by decide +kernel
theorem dX8_edge_57 : decode cX8_edge 57 = .ok (.ireturn, 1) := by decide +kernel
theorem dX8_cut_0 : decode cX8_cut 0 = .ok (.aload_n 0, 1) := by decide +kernel
theorem dX8_cut_1 : decode cX8_cut 1 = .ok (.getfield 12, 3) := by decide +kernel
theorem dX8_cut_4 : decode cX8_cut 4 = .ok (.iload_n 1, 1) := by decide +kernel
theorem dX8_cut_5 : decode cX8_cut 5 = .ok (.iload_n 2, 1) := by decide +kernel
theorem dX8_cut_6 : decode cX8_cut 6 = .ok (.invokevirtual 76, 3) := by decide +kernel
theorem dX8_cut_9 : decode cX8_cut 9 = .ok (.ifCond .eq 15, 3) := by decide +kernel
theorem dX8_cut_12 : decode cX8_cut 12 = .ok (.aload_n 0, 1) := by decide +kernel
theorem dX8_cut_13 : decode cX8_cut 13 = .ok (.getfield 12, 3) := by decide +kernel
theorem dX8_cut_16 : decode cX8_cut 16 = .ok (.iload_n 1, 1) := by decide +kernel
theorem dX8_cut_17 : decode cX8_cut 17 = .ok (.iload_n 2, 1) := by decide +kernel
theorem dX8_cut_18 : decode cX8_cut 18 = .ok (.invokevirtual 80, 3) := by decide +kernel
theorem dX8_cut_21 : decode cX8_cut 21 = .ok (.goto 4, 3) := by decide +kernel
theorem dX8_cut_24 : decode cX8_cut 24 = .ok (.iconst (-1), 1) := by decide +kernel
theorem dX8_cut_25 : decode cX8_cut 25 = .ok (.ireturn, 1) := by decide +kernel
theorem dX8_weigh_0 : decode cX8_weigh 0 = .ok (.aload_n 0, 1) := by decide +kernel
theorem dX8_weigh_1 : decode cX8_weigh 1 = .ok (.getfield 12, 3) := by decide +kernel
theorem dX8_weigh_4 : decode cX8_weigh 4 = .ok (.iload_n 1, 1) := by decide +kernel
theorem dX8_weigh_5 : decode cX8_weigh 5 = .ok (.invokevirtual 69, 3) := by decide +kernel
theorem dX8_weigh_8 : decode cX8_weigh 8 = .ok (.ifCond .ne 5, 3) := by decide +kernel
theorem dX8_weigh_11 : decode cX8_weigh 11 = .ok (.iconst (-1), 1) := by decide +kernel
theorem dX8_weigh_12 : decode cX8_weigh 12 = .ok (.ireturn, 1) := by decide +kernel
theorem dX8_weigh_13 : decode cX8_weigh 13 = .ok (.iload_n 2, 1) := by decide +kernel
theorem dX8_weigh_14 : decode cX8_weigh 14 = .ok (.invokestatic 53, 3) := by decide +kernel
theorem dX8_weigh_17 : decode cX8_weigh 17 = .ok (.ifCond .ne 6, 3) := by decide +kernel
theorem dX8_weigh_20 : decode cX8_weigh 20 = .ok (.bipush (-2), 2) := by decide +kernel
theorem dX8_weigh_22 : decode cX8_weigh 22 = .ok (.ireturn, 1) := by decide +kernel
theorem dX8_weigh_23 : decode cX8_weigh 23 = .ok (.aload_n 0, 1) := by decide +kernel
theorem dX8_weigh_24 : decode cX8_weigh 24 = .ok (.getfield 12, 3) := by decide +kernel
theorem dX8_weigh_27 : decode cX8_weigh 27 = .ok (.getfield 84, 3) := by decide +kernel
theorem dX8_weigh_30 : decode cX8_weigh 30 = .ok (.iload_n 1, 1) := by decide +kernel
theorem dX8_weigh_31 : decode cX8_weigh 31 = .ok (.iaload, 1) := by decide +kernel
theorem dX8_weigh_32 : decode cX8_weigh 32 = .ok (.istore_n 3, 1) := by decide +kernel
theorem dX8_weigh_33 : decode cX8_weigh 33 = .ok (.aload_n 0, 1) := by decide +kernel
theorem dX8_weigh_34 : decode cX8_weigh 34 = .ok (.getfield 12, 3) := by decide +kernel
theorem dX8_weigh_37 : decode cX8_weigh 37 = .ok (.getfield 84, 3) := by decide +kernel
theorem dX8_weigh_40 : decode cX8_weigh 40 = .ok (.iload_n 1, 1) := by decide +kernel
theorem dX8_weigh_41 : decode cX8_weigh 41 = .ok (.iload_n 2, 1) := by decide +kernel
theorem dX8_weigh_42 : decode cX8_weigh 42 = .ok (.iastore, 1) := by decide +kernel
theorem dX8_weigh_43 : decode cX8_weigh 43 = .ok (.iload_n 3, 1) := by decide +kernel
theorem dX8_weigh_44 : decode cX8_weigh 44 = .ok (.ireturn, 1) := by decide +kernel
theorem dX8_weight_0 : decode cX8_weight 0 = .ok (.iload_n 1, 1) := by decide +kernel
theorem dX8_weight_1 : decode cX8_weight 1 = .ok (.iload_n 2, 1) := by decide +kernel
theorem dX8_weight_2 : decode cX8_weight 2 = .ok (.if_icmp .ne 28, 3) := by decide +kernel
theorem dX8_weight_5 : decode cX8_weight 5 = .ok (.aload_n 0, 1) := by decide +kernel
theorem dX8_weight_6 : decode cX8_weight 6 = .ok (.getfield 12, 3) := by decide +kernel
theorem dX8_weight_9 : decode cX8_weight 9 = .ok (.iload_n 1, 1) := by decide +kernel
theorem dX8_weight_10 : decode cX8_weight 10 = .ok (.invokevirtual 69, 3) := by decide +kernel
theorem dX8_weight_13 : decode cX8_weight 13 = .ok (.ifCond .eq 15, 3) := by decide +kernel
theorem dX8_weight_16 : decode cX8_weight 16 = .ok (.aload_n 0, 1) := by decide +kernel
theorem dX8_weight_17 : decode cX8_weight 17 = .ok (.getfield 12, 3) := by decide +kernel
theorem dX8_weight_20 : decode cX8_weight 20 = .ok (.getfield 84, 3) := by decide +kernel
theorem dX8_weight_23 : decode cX8_weight 23 = .ok (.iload_n 1, 1) := by decide +kernel
theorem dX8_weight_24 : decode cX8_weight 24 = .ok (.iaload, 1) := by decide +kernel
theorem dX8_weight_25 : decode cX8_weight 25 = .ok (.goto 4, 3) := by decide +kernel
theorem dX8_weight_28 : decode cX8_weight 28 = .ok (.iconst (-1), 1) := by decide +kernel
theorem dX8_weight_29 : decode cX8_weight 29 = .ok (.ireturn, 1) := by decide +kernel
theorem dX8_weight_30 : decode cX8_weight 30 = .ok (.aload_n 0, 1) := by decide +kernel
theorem dX8_weight_31 : decode cX8_weight 31 = .ok (.getfield 12, 3) := by decide +kernel
theorem dX8_weight_34 : decode cX8_weight 34 = .ok (.iload_n 1, 1) := by decide +kernel
theorem dX8_weight_35 : decode cX8_weight 35 = .ok (.iload_n 2, 1) := by decide +kernel
theorem dX8_weight_36 : decode cX8_weight 36 = .ok (.invokevirtual 76, 3) := by decide +kernel
theorem dX8_weight_39 : decode cX8_weight 39 = .ok (.ifCond .eq 20, 3) := by decide +kernel
theorem dX8_weight_42 : decode cX8_weight 42 = .ok (.aload_n 0, 1) := by decide +kernel
theorem dX8_weight_43 : decode cX8_weight 43 = .ok (.getfield 12, 3) := by decide +kernel
theorem dX8_weight_46 : decode cX8_weight 46 = .ok (.getfield 88, 3) := by decide +kernel
theorem dX8_weight_49 : decode cX8_weight 49 = .ok (.iload_n 1, 1) := by decide +kernel
theorem dX8_weight_50 : decode cX8_weight 50 = .ok (.bipush 14, 2) := by decide +kernel
theorem dX8_weight_52 : decode cX8_weight 52 = .ok (.imul, 1) := by decide +kernel
theorem dX8_weight_53 : decode cX8_weight 53 = .ok (.iload_n 2, 1) := by decide +kernel
theorem dX8_weight_54 : decode cX8_weight 54 = .ok (.iadd, 1) := by decide +kernel
theorem dX8_weight_55 : decode cX8_weight 55 = .ok (.iaload, 1) := by decide +kernel
theorem dX8_weight_56 : decode cX8_weight 56 = .ok (.goto 4, 3) := by decide +kernel
theorem dX8_weight_59 : decode cX8_weight 59 = .ok (.iconst (-1), 1) := by decide +kernel
theorem dX8_weight_60 : decode cX8_weight 60 = .ok (.ireturn, 1) := by decide +kernel
theorem dX8_beside_0 : decode cX8_beside 0 = .ok (.aload_n 0, 1) := by decide +kernel
theorem dX8_beside_1 : decode cX8_beside 1 = .ok (.getfield 12, 3) := by decide +kernel
theorem dX8_beside_4 : decode cX8_beside 4 = .ok (.iload_n 1, 1) := by decide +kernel
theorem dX8_beside_5 : decode cX8_beside 5 = .ok (.invokevirtual 69, 3) := by decide +kernel
theorem dX8_beside_8 : decode cX8_beside 8 = .ok (.ifCond .eq 15, 3) := by decide +kernel
theorem dX8_beside_11 : decode cX8_beside 11 = .ok (.aload_n 0, 1) := by decide +kernel
theorem dX8_beside_12 : decode cX8_beside 12 = .ok (.getfield 12, 3) := by decide +kernel
theorem dX8_beside_15 : decode cX8_beside 15 = .ok (.getfield 91, 3) := by decide +kernel
theorem dX8_beside_18 : decode cX8_beside 18 = .ok (.iload_n 1, 1) := by decide +kernel
theorem dX8_beside_19 : decode cX8_beside 19 = .ok (.iaload, 1) := by decide +kernel
theorem dX8_beside_20 : decode cX8_beside 20 = .ok (.goto 4, 3) := by decide +kernel
theorem dX8_beside_23 : decode cX8_beside 23 = .ok (.iconst (-1), 1) := by decide +kernel
theorem dX8_beside_24 : decode cX8_beside 24 = .ok (.ireturn, 1) := by decide +kernel
theorem dX8_put_0 : decode cX8_put 0 = .ok (.aload_n 0, 1) := by decide +kernel
theorem dX8_put_1 : decode cX8_put 1 = .ok (.getfield 12, 3) := by decide +kernel
theorem dX8_put_4 : decode cX8_put 4 = .ok (.iload_n 1, 1) := by decide +kernel
theorem dX8_put_5 : decode cX8_put 5 = .ok (.invokevirtual 69, 3) := by decide +kernel
theorem dX8_put_8 : decode cX8_put 8 = .ok (.ifCond .ne 5, 3) := by decide +kernel
theorem dX8_put_11 : decode cX8_put 11 = .ok (.iconst (-1), 1) := by decide +kernel
theorem dX8_put_12 : decode cX8_put 12 = .ok (.ireturn, 1) := by decide +kernel
theorem dX8_put_13 : decode cX8_put 13 = .ok (.aload_n 0, 1) := by decide +kernel
theorem dX8_put_14 : decode cX8_put 14 = .ok (.getfield 21, 3) := by decide +kernel
theorem dX8_put_17 : decode cX8_put 17 = .ok (.iload_n 1, 1) := by decide +kernel
theorem dX8_put_18 : decode cX8_put 18 = .ok (.invokevirtual 94, 3) := by decide +kernel
theorem dX8_put_21 : decode cX8_put 21 = .ok (.ifCond .eq 6, 3) := by decide +kernel
theorem dX8_put_24 : decode cX8_put 24 = .ok (.bipush (-2), 2) := by decide +kernel
theorem dX8_put_26 : decode cX8_put 26 = .ok (.ireturn, 1) := by decide +kernel
theorem dX8_put_27 : decode cX8_put 27 = .ok (.aload_n 0, 1) := by decide +kernel
theorem dX8_put_28 : decode cX8_put 28 = .ok (.getfield 21, 3) := by decide +kernel
theorem dX8_put_31 : decode cX8_put 31 = .ok (.iload_n 1, 1) := by decide +kernel
theorem dX8_put_32 : decode cX8_put 32 = .ok (.invokevirtual 97, 3) := by decide +kernel
theorem dX8_put_35 : decode cX8_put 35 = .ok (.aload_n 0, 1) := by decide +kernel
theorem dX8_put_36 : decode cX8_put 36 = .ok (.getfield 21, 3) := by decide +kernel
theorem dX8_put_39 : decode cX8_put 39 = .ok (.getfield 101, 3) := by decide +kernel
theorem dX8_put_42 : decode cX8_put 42 = .ok (.ireturn, 1) := by decide +kernel
theorem dX8_wipe_0 : decode cX8_wipe 0 = .ok (.aload_n 0, 1) := by decide +kernel
theorem dX8_wipe_1 : decode cX8_wipe 1 = .ok (.getfield 21, 3) := by decide +kernel
theorem dX8_wipe_4 : decode cX8_wipe 4 = .ok (.getfield 101, 3) := by decide +kernel
theorem dX8_wipe_7 : decode cX8_wipe 7 = .ok (.istore_n 1, 1) := by decide +kernel
theorem dX8_wipe_8 : decode cX8_wipe 8 = .ok (.aload_n 0, 1) := by decide +kernel
theorem dX8_wipe_9 : decode cX8_wipe 9 = .ok (.getfield 21, 3) := by decide +kernel
theorem dX8_wipe_12 : decode cX8_wipe 12 = .ok (.invokevirtual 61, 3) := by decide +kernel
theorem dX8_wipe_15 : decode cX8_wipe 15 = .ok (.iload_n 1, 1) := by decide +kernel
theorem dX8_wipe_16 : decode cX8_wipe 16 = .ok (.ireturn, 1) := by decide +kernel
theorem dX8_make_0 : decode cX8_make 0 = .ok (.aload_n 0, 1) := by decide +kernel
theorem dX8_make_1 : decode cX8_make 1 = .ok (.getfield 12, 3) := by decide +kernel
theorem dX8_make_4 : decode cX8_make 4 = .ok (.getfield 57, 3) := by decide +kernel
theorem dX8_make_7 : decode cX8_make 7 = .ok (.ifCond .eq 20, 3) := by decide +kernel
theorem dX8_make_10 : decode cX8_make 10 = .ok (.aload_n 0, 1) := by decide +kernel
theorem dX8_make_11 : decode cX8_make 11 = .ok (.getfield 21, 3) := by decide +kernel
theorem dX8_make_14 : decode cX8_make 14 = .ok (.getfield 101, 3) := by decide +kernel
theorem dX8_make_17 : decode cX8_make 17 = .ok (.aload_n 0, 1) := by decide +kernel
theorem dX8_make_18 : decode cX8_make 18 = .ok (.getfield 12, 3) := by decide +kernel
theorem dX8_make_21 : decode cX8_make 21 = .ok (.getfield 57, 3) := by decide +kernel
theorem dX8_make_24 : decode cX8_make 24 = .ok (.if_icmp .eq 6, 3) := by decide +kernel
theorem dX8_make_27 : decode cX8_make 27 = .ok (.bipush (-4), 2) := by decide +kernel
theorem dX8_make_29 : decode cX8_make 29 = .ok (.ireturn, 1) := by decide +kernel
theorem dX8_make_30 : decode cX8_make 30 = .ok (.aload_n 0, 1) := by decide +kernel
theorem dX8_make_31 : decode cX8_make 31 = .ok (.getfield 42, 3) := by decide +kernel
theorem dX8_make_34 : decode cX8_make 34 = .ok (.aload_n 0, 1) := by decide +kernel
theorem dX8_make_35 : decode cX8_make 35 = .ok (.getfield 12, 3) := by decide +kernel
theorem dX8_make_38 : decode cX8_make 38 = .ok (.invokevirtual 102, 3) := by decide +kernel
theorem dX8_make_41 : decode cX8_make 41 = .ok (.aload_n 0, 1) := by decide +kernel
theorem dX8_make_42 : decode cX8_make 42 = .ok (.getfield 28, 3) := by decide +kernel
theorem dX8_make_45 : decode cX8_make 45 = .ok (.aload_n 0, 1) := by decide +kernel
theorem dX8_make_46 : decode cX8_make 46 = .ok (.getfield 21, 3) := by decide +kernel
theorem dX8_make_49 : decode cX8_make 49 = .ok (.aload_n 0, 1) := by decide +kernel
theorem dX8_make_50 : decode cX8_make 50 = .ok (.getfield 42, 3) := by decide +kernel
theorem dX8_make_53 : decode cX8_make 53 = .ok (.invokevirtual 106, 3) := by decide +kernel
theorem dX8_make_56 : decode cX8_make 56 = .ok (.aload_n 0, 1) := by decide +kernel
theorem dX8_make_57 : decode cX8_make 57 = .ok (.getfield 28, 3) := by decide +kernel
theorem dX8_make_60 : decode cX8_make 60 = .ok (.invokevirtual 110, 3) := by decide +kernel
theorem dX8_make_63 : decode cX8_make 63 = .ok (.iconst 1, 1) := by decide +kernel
theorem dX8_make_64 : decode cX8_make 64 = .ok (.isub, 1) := by decide +kernel
theorem dX8_make_65 : decode cX8_make 65 = .ok (.ireturn, 1) := by decide +kernel
theorem dX8_fills_0 : decode cX8_fills 0 = .ok (.aload_n 0, 1) := by decide +kernel
theorem dX8_fills_1 : decode cX8_fills 1 = .ok (.getfield 21, 3) := by decide +kernel
theorem dX8_fills_4 : decode cX8_fills 4 = .ok (.getfield 101, 3) := by decide +kernel
theorem dX8_fills_7 : decode cX8_fills 7 = .ok (.aload_n 0, 1) := by decide +kernel
theorem dX8_fills_8 : decode cX8_fills 8 = .ok (.getfield 12, 3) := by decide +kernel
theorem dX8_fills_11 : decode cX8_fills 11 = .ok (.getfield 57, 3) := by decide +kernel
theorem dX8_fills_14 : decode cX8_fills 14 = .ok (.if_icmp .eq 5, 3) := by decide +kernel
theorem dX8_fills_17 : decode cX8_fills 17 = .ok (.iconst (-1), 1) := by decide +kernel
theorem dX8_fills_18 : decode cX8_fills 18 = .ok (.ireturn, 1) := by decide +kernel
theorem dX8_fills_19 : decode cX8_fills 19 = .ok (.aload_n 0, 1) := by decide +kernel
theorem dX8_fills_20 : decode cX8_fills 20 = .ok (.getfield 42, 3) := by decide +kernel
theorem dX8_fills_23 : decode cX8_fills 23 = .ok (.aload_n 0, 1) := by decide +kernel
theorem dX8_fills_24 : decode cX8_fills 24 = .ok (.getfield 12, 3) := by decide +kernel
theorem dX8_fills_27 : decode cX8_fills 27 = .ok (.invokevirtual 102, 3) := by decide +kernel
theorem dX8_fills_30 : decode cX8_fills 30 = .ok (.iconst 0, 1) := by decide +kernel
theorem dX8_fills_31 : decode cX8_fills 31 = .ok (.istore_n 1, 1) := by decide +kernel
theorem dX8_fills_32 : decode cX8_fills 32 = .ok (.iload_n 1, 1) := by decide +kernel
theorem dX8_fills_33 : decode cX8_fills 33 = .ok (.aload_n 0, 1) := by decide +kernel
theorem dX8_fills_34 : decode cX8_fills 34 = .ok (.getfield 21, 3) := by decide +kernel
theorem dX8_fills_37 : decode cX8_fills 37 = .ok (.getfield 101, 3) := by decide +kernel
theorem dX8_fills_40 : decode cX8_fills 40 = .ok (.if_icmp .ge 25, 3) := by decide +kernel
theorem dX8_fills_43 : decode cX8_fills 43 = .ok (.aload_n 0, 1) := by decide +kernel
theorem dX8_fills_44 : decode cX8_fills 44 = .ok (.getfield 42, 3) := by decide +kernel
theorem dX8_fills_47 : decode cX8_fills 47 = .ok (.aload_n 0, 1) := by decide +kernel
theorem dX8_fills_48 : decode cX8_fills 48 = .ok (.getfield 21, 3) := by decide +kernel
theorem dX8_fills_51 : decode cX8_fills 51 = .ok (.getfield 114, 3) := by decide +kernel
theorem dX8_fills_54 : decode cX8_fills 54 = .ok (.iload_n 1, 1) := by decide +kernel
theorem dX8_fills_55 : decode cX8_fills 55 = .ok (.iaload, 1) := by decide +kernel
theorem dX8_fills_56 : decode cX8_fills 56 = .ok (.invokevirtual 117, 3) := by decide +kernel
theorem dX8_fills_59 : decode cX8_fills 59 = .ok (.iinc 1 1, 3) := by decide +kernel
theorem dX8_fills_62 : decode cX8_fills 62 = .ok (.goto (-30), 3) := by decide +kernel
theorem dX8_fills_65 : decode cX8_fills 65 = .ok (.aload_n 0, 1) := by decide +kernel
theorem dX8_fills_66 : decode cX8_fills 66 = .ok (.getfield 42, 3) := by decide +kernel
theorem dX8_fills_69 : decode cX8_fills 69 = .ok (.getfield 120, 3) := by decide +kernel
theorem dX8_fills_72 : decode cX8_fills 72 = .ok (.iconst 2, 1) := by decide +kernel
theorem dX8_fills_73 : decode cX8_fills 73 = .ok (.idiv, 1) := by decide +kernel
theorem dX8_fills_74 : decode cX8_fills 74 = .ok (.ireturn, 1) := by decide +kernel
theorem dX8_fewest_0 : decode cX8_fewest 0 = .ok (.aload_n 0, 1) := by decide +kernel
theorem dX8_fewest_1 : decode cX8_fewest 1 = .ok (.getfield 21, 3) := by decide +kernel
theorem dX8_fewest_4 : decode cX8_fewest 4 = .ok (.invokevirtual 61, 3) := by decide +kernel
theorem dX8_fewest_7 : decode cX8_fewest 7 = .ok (.aload_n 0, 1) := by decide +kernel
theorem dX8_fewest_8 : decode cX8_fewest 8 = .ok (.getfield 42, 3) := by decide +kernel
theorem dX8_fewest_11 : decode cX8_fewest 11 = .ok (.aload_n 0, 1) := by decide +kernel
theorem dX8_fewest_12 : decode cX8_fewest 12 = .ok (.getfield 12, 3) := by decide +kernel
theorem dX8_fewest_15 : decode cX8_fewest 15 = .ok (.invokevirtual 102, 3) := by decide +kernel
theorem dX8_fewest_18 : decode cX8_fewest 18 = .ok (.iconst (-1), 1) := by decide +kernel
theorem dX8_fewest_19 : decode cX8_fewest 19 = .ok (.istore_n 1, 1) := by decide +kernel
theorem dX8_fewest_20 : decode cX8_fewest 20 = .ok (.iconst 0, 1) := by decide +kernel
theorem dX8_fewest_21 : decode cX8_fewest 21 = .ok (.istore_n 2, 1) := by decide +kernel
theorem dX8_fewest_22 : decode cX8_fewest 22 = .ok (.iload_n 2, 1) := by decide +kernel
theorem dX8_fewest_23 : decode cX8_fewest 23 = .ok (.aload_n 0, 1) := by decide +kernel
theorem dX8_fewest_24 : decode cX8_fewest 24 = .ok (.getfield 12, 3) := by decide +kernel
theorem dX8_fewest_27 : decode cX8_fewest 27 = .ok (.getfield 57, 3) := by decide +kernel
theorem dX8_fewest_30 : decode cX8_fewest 30 = .ok (.if_icmp .ge 50, 3) := by decide +kernel
theorem dX8_fewest_33 : decode cX8_fewest 33 = .ok (.aload_n 0, 1) := by decide +kernel
theorem dX8_fewest_34 : decode cX8_fewest 34 = .ok (.getfield 42, 3) := by decide +kernel
theorem dX8_fewest_37 : decode cX8_fewest 37 = .ok (.invokevirtual 123, 3) := by decide +kernel
theorem dX8_fewest_40 : decode cX8_fewest 40 = .ok (.istore_n 3, 1) := by decide +kernel
theorem dX8_fewest_41 : decode cX8_fewest 41 = .ok (.iload_n 1, 1) := by decide +kernel
theorem dX8_fewest_42 : decode cX8_fewest 42 = .ok (.aload_n 0, 1) := by decide +kernel
theorem dX8_fewest_43 : decode cX8_fewest 43 = .ok (.getfield 42, 3) := by decide +kernel
theorem dX8_fewest_46 : decode cX8_fewest 46 = .ok (.getfield 126, 3) := by decide +kernel
theorem dX8_fewest_49 : decode cX8_fewest 49 = .ok (.iload_n 3, 1) := by decide +kernel
theorem dX8_fewest_50 : decode cX8_fewest 50 = .ok (.iaload, 1) := by decide +kernel
theorem dX8_fewest_51 : decode cX8_fewest 51 = .ok (.invokestatic 127, 3) := by decide +kernel
theorem dX8_fewest_54 : decode cX8_fewest 54 = .ok (.invokestatic 132, 3) := by decide +kernel
theorem dX8_fewest_57 : decode cX8_fewest 57 = .ok (.istore_n 1, 1) := by decide +kernel
theorem dX8_fewest_58 : decode cX8_fewest 58 = .ok (.aload_n 0, 1) := by decide +kernel
theorem dX8_fewest_59 : decode cX8_fewest 59 = .ok (.getfield 21, 3) := by decide +kernel
theorem dX8_fewest_62 : decode cX8_fewest 62 = .ok (.iload_n 3, 1) := by decide +kernel
theorem dX8_fewest_63 : decode cX8_fewest 63 = .ok (.invokevirtual 97, 3) := by decide +kernel
theorem dX8_fewest_66 : decode cX8_fewest 66 = .ok (.aload_n 0, 1) := by decide +kernel
theorem dX8_fewest_67 : decode cX8_fewest 67 = .ok (.getfield 42, 3) := by decide +kernel
theorem dX8_fewest_70 : decode cX8_fewest 70 = .ok (.iload_n 3, 1) := by decide +kernel
theorem dX8_fewest_71 : decode cX8_fewest 71 = .ok (.invokevirtual 117, 3) := by decide +kernel
theorem dX8_fewest_74 : decode cX8_fewest 74 = .ok (.iinc 2 1, 3) := by decide +kernel
theorem dX8_fewest_77 : decode cX8_fewest 77 = .ok (.goto (-55), 3) := by decide +kernel
theorem dX8_fewest_80 : decode cX8_fewest 80 = .ok (.iload_n 1, 1) := by decide +kernel
theorem dX8_fewest_81 : decode cX8_fewest 81 = .ok (.ireturn, 1) := by decide +kernel
theorem dX8_row_0 : decode cX8_row 0 = .ok (.iload_n 1, 1) := by decide +kernel
theorem dX8_row_1 : decode cX8_row 1 = .ok (.ifCond .lt 26, 3) := by decide +kernel
theorem dX8_row_4 : decode cX8_row 4 = .ok (.iload_n 1, 1) := by decide +kernel
theorem dX8_row_5 : decode cX8_row 5 = .ok (.aload_n 0, 1) := by decide +kernel
theorem dX8_row_6 : decode cX8_row 6 = .ok (.getfield 21, 3) := by decide +kernel
theorem dX8_row_9 : decode cX8_row 9 = .ok (.getfield 101, 3) := by decide +kernel
theorem dX8_row_12 : decode cX8_row 12 = .ok (.if_icmp .ge 15, 3) := by decide +kernel
theorem dX8_row_15 : decode cX8_row 15 = .ok (.aload_n 0, 1) := by decide +kernel
theorem dX8_row_16 : decode cX8_row 16 = .ok (.getfield 21, 3) := by decide +kernel
theorem dX8_row_19 : decode cX8_row 19 = .ok (.getfield 114, 3) := by decide +kernel
theorem dX8_row_22 : decode cX8_row 22 = .ok (.iload_n 1, 1) := by decide +kernel
theorem dX8_row_23 : decode cX8_row 23 = .ok (.iaload, 1) := by decide +kernel
theorem dX8_row_24 : decode cX8_row 24 = .ok (.goto 4, 3) := by decide +kernel
theorem dX8_row_27 : decode cX8_row 27 = .ok (.iconst (-1), 1) := by decide +kernel
theorem dX8_row_28 : decode cX8_row 28 = .ok (.ireturn, 1) := by decide +kernel
theorem dX8_below_0 : decode cX8_below 0 = .ok (.aload_n 0, 1) := by decide +kernel
theorem dX8_below_1 : decode cX8_below 1 = .ok (.invokevirtual 144, 3) := by decide +kernel
theorem dX8_below_4 : decode cX8_below 4 = .ok (.ireturn, 1) := by decide +kernel
theorem dX8_clear_0 : decode cX8_clear 0 = .ok (.aload_n 0, 1) := by decide +kernel
theorem dX8_clear_1 : decode cX8_clear 1 = .ok (.getfield 28, 3) := by decide +kernel
theorem dX8_clear_4 : decode cX8_clear 4 = .ok (.getfield 151, 3) := by decide +kernel
theorem dX8_clear_7 : decode cX8_clear 7 = .ok (.istore_n 1, 1) := by decide +kernel
theorem dX8_clear_8 : decode cX8_clear 8 = .ok (.aload_n 0, 1) := by decide +kernel
theorem dX8_clear_9 : decode cX8_clear 9 = .ok (.getfield 28, 3) := by decide +kernel
theorem dX8_clear_12 : decode cX8_clear 12 = .ok (.invokevirtual 64, 3) := by decide +kernel
theorem dX8_clear_15 : decode cX8_clear 15 = .ok (.iload_n 1, 1) := by decide +kernel
theorem dX8_clear_16 : decode cX8_clear 16 = .ok (.ireturn, 1) := by decide +kernel
theorem dX8_bag_0 : decode cX8_bag 0 = .ok (.iload_n 1, 1) := by decide +kernel
theorem dX8_bag_1 : decode cX8_bag 1 = .ok (.ifCond .eq 17, 3) := by decide +kernel
theorem dX8_bag_4 : decode cX8_bag 4 = .ok (.iload_n 1, 1) := by decide +kernel
theorem dX8_bag_5 : decode cX8_bag 5 = .ok (.aload_n 0, 1) := by decide +kernel
theorem dX8_bag_6 : decode cX8_bag 6 = .ok (.getfield 12, 3) := by decide +kernel
theorem dX8_bag_9 : decode cX8_bag 9 = .ok (.invokevirtual 152, 3) := by decide +kernel
theorem dX8_bag_12 : decode cX8_bag 12 = .ok (.iconst (-1), 1) := by decide +kernel
theorem dX8_bag_13 : decode cX8_bag 13 = .ok (.ixor, 1) := by decide +kernel
theorem dX8_bag_14 : decode cX8_bag 14 = .ok (.iand, 1) := by decide +kernel
theorem dX8_bag_15 : decode cX8_bag 15 = .ok (.ifCond .eq 6, 3) := by decide +kernel
theorem dX8_bag_18 : decode cX8_bag 18 = .ok (.bipush (-2), 2) := by decide +kernel
theorem dX8_bag_20 : decode cX8_bag 20 = .ok (.ireturn, 1) := by decide +kernel
theorem dX8_bag_21 : decode cX8_bag 21 = .ok (.aload_n 0, 1) := by decide +kernel
theorem dX8_bag_22 : decode cX8_bag 22 = .ok (.getfield 28, 3) := by decide +kernel
theorem dX8_bag_25 : decode cX8_bag 25 = .ok (.getfield 151, 3) := by decide +kernel
theorem dX8_bag_28 : decode cX8_bag 28 = .ok (.bipush 14, 2) := by decide +kernel
theorem dX8_bag_30 : decode cX8_bag 30 = .ok (.if_icmp .lt 6, 3) := by decide +kernel
theorem dX8_bag_33 : decode cX8_bag 33 = .ok (.bipush (-3), 2) := by decide +kernel
theorem dX8_bag_35 : decode cX8_bag 35 = .ok (.ireturn, 1) := by decide +kernel
theorem dX8_bag_36 : decode cX8_bag 36 = .ok (.aload_n 0, 1) := by decide +kernel
theorem dX8_bag_37 : decode cX8_bag 37 = .ok (.getfield 28, 3) := by decide +kernel
theorem dX8_bag_40 : decode cX8_bag 40 = .ok (.iload_n 1, 1) := by decide +kernel
theorem dX8_bag_41 : decode cX8_bag 41 = .ok (.invokevirtual 155, 3) := by decide +kernel
theorem dX8_bag_44 : decode cX8_bag 44 = .ok (.ireturn, 1) := by decide +kernel
theorem dX8_hang_0 : decode cX8_hang 0 = .ok (.aload_n 0, 1) := by decide +kernel
theorem dX8_hang_1 : decode cX8_hang 1 = .ok (.getfield 28, 3) := by decide +kernel
theorem dX8_hang_4 : decode cX8_hang 4 = .ok (.iload_n 1, 1) := by decide +kernel
theorem dX8_hang_5 : decode cX8_hang 5 = .ok (.invokevirtual 157, 3) := by decide +kernel
theorem dX8_hang_8 : decode cX8_hang 8 = .ok (.ifCond .eq 14, 3) := by decide +kernel
theorem dX8_hang_11 : decode cX8_hang 11 = .ok (.aload_n 0, 1) := by decide +kernel
theorem dX8_hang_12 : decode cX8_hang 12 = .ok (.getfield 28, 3) := by decide +kernel
theorem dX8_hang_15 : decode cX8_hang 15 = .ok (.iload_n 2, 1) := by decide +kernel
theorem dX8_hang_16 : decode cX8_hang 16 = .ok (.invokevirtual 157, 3) := by decide +kernel
theorem dX8_hang_19 : decode cX8_hang 19 = .ok (.ifCond .ne 5, 3) := by decide +kernel
theorem dX8_hang_22 : decode cX8_hang 22 = .ok (.iconst (-1), 1) := by decide +kernel
theorem dX8_hang_23 : decode cX8_hang 23 = .ok (.ireturn, 1) := by decide +kernel
theorem dX8_hang_24 : decode cX8_hang 24 = .ok (.iload_n 1, 1) := by decide +kernel
theorem dX8_hang_25 : decode cX8_hang 25 = .ok (.aload_n 0, 1) := by decide +kernel
theorem dX8_hang_26 : decode cX8_hang 26 = .ok (.getfield 28, 3) := by decide +kernel
theorem dX8_hang_29 : decode cX8_hang 29 = .ok (.getfield 151, 3) := by decide +kernel
theorem dX8_hang_32 : decode cX8_hang 32 = .ok (.iconst 1, 1) := by decide +kernel
theorem dX8_hang_33 : decode cX8_hang 33 = .ok (.isub, 1) := by decide +kernel
theorem dX8_hang_34 : decode cX8_hang 34 = .ok (.if_icmp .eq 8, 3) := by decide +kernel
theorem dX8_hang_37 : decode cX8_hang 37 = .ok (.iload_n 2, 1) := by decide +kernel
theorem dX8_hang_38 : decode cX8_hang 38 = .ok (.iload_n 1, 1) := by decide +kernel
theorem dX8_hang_39 : decode cX8_hang 39 = .ok (.if_icmp .gt 6, 3) := by decide +kernel
theorem dX8_hang_42 : decode cX8_hang 42 = .ok (.bipush (-2), 2) := by decide +kernel
theorem dX8_hang_44 : decode cX8_hang 44 = .ok (.ireturn, 1) := by decide +kernel
theorem dX8_hang_45 : decode cX8_hang 45 = .ok (.aload_n 0, 1) := by decide +kernel
theorem dX8_hang_46 : decode cX8_hang 46 = .ok (.getfield 28, 3) := by decide +kernel
theorem dX8_hang_49 : decode cX8_hang 49 = .ok (.getfield 158, 3) := by decide +kernel
theorem dX8_hang_52 : decode cX8_hang 52 = .ok (.iload_n 1, 1) := by decide +kernel
theorem dX8_hang_53 : decode cX8_hang 53 = .ok (.iaload, 1) := by decide +kernel
theorem dX8_hang_54 : decode cX8_hang 54 = .ok (.istore_n 3, 1) := by decide +kernel
theorem dX8_hang_55 : decode cX8_hang 55 = .ok (.aload_n 0, 1) := by decide +kernel
theorem dX8_hang_56 : decode cX8_hang 56 = .ok (.getfield 28, 3) := by decide +kernel
theorem dX8_hang_59 : decode cX8_hang 59 = .ok (.getfield 158, 3) := by decide +kernel
theorem dX8_hang_62 : decode cX8_hang 62 = .ok (.iload_n 1, 1) := by decide +kernel
theorem dX8_hang_63 : decode cX8_hang 63 = .ok (.iload_n 2, 1) := by decide +kernel
theorem dX8_hang_64 : decode cX8_hang 64 = .ok (.iastore, 1) := by decide +kernel
theorem dX8_hang_65 : decode cX8_hang 65 = .ok (.iload_n 3, 1) := by decide +kernel
theorem dX8_hang_66 : decode cX8_hang 66 = .ok (.ireturn, 1) := by decide +kernel
theorem dX8_bagged_0 : decode cX8_bagged 0 = .ok (.aload_n 0, 1) := by decide +kernel
theorem dX8_bagged_1 : decode cX8_bagged 1 = .ok (.getfield 28, 3) := by decide +kernel
theorem dX8_bagged_4 : decode cX8_bagged 4 = .ok (.iload_n 1, 1) := by decide +kernel
theorem dX8_bagged_5 : decode cX8_bagged 5 = .ok (.invokevirtual 157, 3) := by decide +kernel
theorem dX8_bagged_8 : decode cX8_bagged 8 = .ok (.ifCond .ne 5, 3) := by decide +kernel
theorem dX8_bagged_11 : decode cX8_bagged 11 = .ok (.iconst (-1), 1) := by decide +kernel
theorem dX8_bagged_12 : decode cX8_bagged 12 = .ok (.ireturn, 1) := by decide +kernel
theorem dX8_bagged_13 : decode cX8_bagged 13 = .ok (.iload_n 2, 1) := by decide +kernel
theorem dX8_bagged_14 : decode cX8_bagged 14 = .ok (.tableswitch 55 0 2 #[26, 36, 46], 26) := by decide +kernel
theorem dX8_bagged_40 : decode cX8_bagged 40 = .ok (.aload_n 0, 1) := by decide +kernel
theorem dX8_bagged_41 : decode cX8_bagged 41 = .ok (.getfield 28, 3) := by decide +kernel
theorem dX8_bagged_44 : decode cX8_bagged 44 = .ok (.getfield 161, 3) := by decide +kernel
theorem dX8_bagged_47 : decode cX8_bagged 47 = .ok (.iload_n 1, 1) := by decide +kernel
theorem dX8_bagged_48 : decode cX8_bagged 48 = .ok (.iaload, 1) := by decide +kernel
theorem dX8_bagged_49 : decode cX8_bagged 49 = .ok (.ireturn, 1) := by decide +kernel
theorem dX8_bagged_50 : decode cX8_bagged 50 = .ok (.aload_n 0, 1) := by decide +kernel
theorem dX8_bagged_51 : decode cX8_bagged 51 = .ok (.getfield 28, 3) := by decide +kernel
theorem dX8_bagged_54 : decode cX8_bagged 54 = .ok (.getfield 158, 3) := by decide +kernel
theorem dX8_bagged_57 : decode cX8_bagged 57 = .ok (.iload_n 1, 1) := by decide +kernel
theorem dX8_bagged_58 : decode cX8_bagged 58 = .ok (.iaload, 1) := by decide +kernel
theorem dX8_bagged_59 : decode cX8_bagged 59 = .ok (.ireturn, 1) := by decide +kernel
theorem dX8_bagged_60 : decode cX8_bagged 60 = .ok (.aload_n 0, 1) := by decide +kernel
theorem dX8_bagged_61 : decode cX8_bagged 61 = .ok (.getfield 28, 3) := by decide +kernel
theorem dX8_bagged_64 : decode cX8_bagged 64 = .ok (.iload_n 1, 1) := by decide +kernel
theorem dX8_bagged_65 : decode cX8_bagged 65 = .ok (.invokevirtual 164, 3) := by decide +kernel
theorem dX8_bagged_68 : decode cX8_bagged 68 = .ok (.ireturn, 1) := by decide +kernel
theorem dX8_bagged_69 : decode cX8_bagged 69 = .ok (.iconst (-1), 1) := by decide +kernel
theorem dX8_bagged_70 : decode cX8_bagged 70 = .ok (.ireturn, 1) := by decide +kernel
theorem dX8_sound_0 : decode cX8_sound 0 = .ok (.aload_n 0, 1) := by decide +kernel
theorem dX8_sound_1 : decode cX8_sound 1 = .ok (.getfield 28, 3) := by decide +kernel
theorem dX8_sound_4 : decode cX8_sound 4 = .ok (.getfield 151, 3) := by decide +kernel
theorem dX8_sound_7 : decode cX8_sound 7 = .ok (.ifCond .ne 8, 3) := by decide +kernel
theorem dX8_sound_10 : decode cX8_sound 10 = .ok (.bipush (-4), 2) := by decide +kernel
theorem dX8_sound_12 : decode cX8_sound 12 = .ok (.goto 14, 3) := by decide +kernel
theorem dX8_sound_15 : decode cX8_sound 15 = .ok (.aload_n 0, 1) := by decide +kernel
theorem dX8_sound_16 : decode cX8_sound 16 = .ok (.getfield 28, 3) := by decide +kernel
theorem dX8_sound_19 : decode cX8_sound 19 = .ok (.aload_n 0, 1) := by decide +kernel
theorem dX8_sound_20 : decode cX8_sound 20 = .ok (.getfield 12, 3) := by decide +kernel
theorem dX8_sound_23 : decode cX8_sound 23 = .ok (.invokevirtual 167, 3) := by decide +kernel
theorem dX8_sound_26 : decode cX8_sound 26 = .ok (.ireturn, 1) := by decide +kernel
theorem dX8_width_0 : decode cX8_width 0 = .ok (.aload_n 0, 1) := by decide +kernel
theorem dX8_width_1 : decode cX8_width 1 = .ok (.getfield 28, 3) := by decide +kernel
theorem dX8_width_4 : decode cX8_width 4 = .ok (.getfield 151, 3) := by decide +kernel
theorem dX8_width_7 : decode cX8_width 7 = .ok (.ifCond .ne 7, 3) := by decide +kernel
theorem dX8_width_10 : decode cX8_width 10 = .ok (.iconst (-1), 1) := by decide +kernel
theorem dX8_width_11 : decode cX8_width 11 = .ok (.goto 12, 3) := by decide +kernel
theorem dX8_width_14 : decode cX8_width 14 = .ok (.aload_n 0, 1) := by decide +kernel
theorem dX8_width_15 : decode cX8_width 15 = .ok (.getfield 28, 3) := by decide +kernel
theorem dX8_width_18 : decode cX8_width 18 = .ok (.invokevirtual 110, 3) := by decide +kernel
theorem dX8_width_21 : decode cX8_width 21 = .ok (.iconst 1, 1) := by decide +kernel
theorem dX8_width_22 : decode cX8_width 22 = .ok (.isub, 1) := by decide +kernel
theorem dX8_width_23 : decode cX8_width 23 = .ok (.ireturn, 1) := by decide +kernel
theorem dX8_separator_0 : decode cX8_separator 0 = .ok (.aload_n 0, 1) := by decide +kernel
theorem dX8_separator_1 : decode cX8_separator 1 = .ok (.invokevirtual 171, 3) := by decide +kernel
theorem dX8_separator_4 : decode cX8_separator 4 = .ok (.ifCond .ne 6, 3) := by decide +kernel
theorem dX8_separator_7 : decode cX8_separator 7 = .ok (.bipush (-4), 2) := by decide +kernel
theorem dX8_separator_9 : decode cX8_separator 9 = .ok (.ireturn, 1) := by decide +kernel
theorem dX8_separator_10 : decode cX8_separator 10 = .ok (.iconst 0, 1) := by decide +kernel
theorem dX8_separator_11 : decode cX8_separator 11 = .ok (.istore_n 1, 1) := by decide +kernel
theorem dX8_separator_12 : decode cX8_separator 12 = .ok (.iload_n 1, 1) := by decide +kernel
theorem dX8_separator_13 : decode cX8_separator 13 = .ok (.aload_n 0, 1) := by decide +kernel
theorem dX8_separator_14 : decode cX8_separator 14 = .ok (.getfield 28, 3) := by decide +kernel
theorem dX8_separator_17 : decode cX8_separator 17 = .ok (.getfield 151, 3) := by decide +kernel
theorem dX8_separator_20 : decode cX8_separator 20 = .ok (.if_icmp .ge 49, 3) := by decide +kernel
theorem dX8_separator_23 : decode cX8_separator 23 = .ok (.aload_n 0, 1) := by decide +kernel
theorem dX8_separator_24 : decode cX8_separator 24 = .ok (.getfield 12, 3) := by decide +kernel
theorem dX8_separator_27 : decode cX8_separator 27 = .ok (.aload_n 0, 1) := by decide +kernel
theorem dX8_separator_28 : decode cX8_separator 28 = .ok (.getfield 12, 3) := by decide +kernel
theorem dX8_separator_31 : decode cX8_separator 31 = .ok (.invokevirtual 152, 3) := by decide +kernel
theorem dX8_separator_34 : decode cX8_separator 34 = .ok (.aload_n 0, 1) := by decide +kernel
theorem dX8_separator_35 : decode cX8_separator 35 = .ok (.getfield 28, 3) := by decide +kernel
theorem dX8_separator_38 : decode cX8_separator 38 = .ok (.getfield 161, 3) := by decide +kernel
theorem dX8_separator_41 : decode cX8_separator 41 = .ok (.iload_n 1, 1) := by decide +kernel
theorem dX8_separator_42 : decode cX8_separator 42 = .ok (.iaload, 1) := by decide +kernel
theorem dX8_separator_43 : decode cX8_separator 43 = .ok (.iconst (-1), 1) := by decide +kernel
theorem dX8_separator_44 : decode cX8_separator 44 = .ok (.ixor, 1) := by decide +kernel
theorem dX8_separator_45 : decode cX8_separator 45 = .ok (.iand, 1) := by decide +kernel
theorem dX8_separator_46 : decode cX8_separator 46 = .ok (.invokevirtual 175, 3) := by decide +kernel
theorem dX8_separator_49 : decode cX8_separator 49 = .ok (.aload_n 0, 1) := by decide +kernel
theorem dX8_separator_50 : decode cX8_separator 50 = .ok (.getfield 12, 3) := by decide +kernel
theorem dX8_separator_53 : decode cX8_separator 53 = .ok (.getfield 57, 3) := by decide +kernel
theorem dX8_separator_56 : decode cX8_separator 56 = .ok (.iconst 2, 1) := by decide +kernel
theorem dX8_separator_57 : decode cX8_separator 57 = .ok (.idiv, 1) := by decide +kernel
theorem dX8_separator_58 : decode cX8_separator 58 = .ok (.if_icmp .gt 5, 3) := by decide +kernel
theorem dX8_separator_61 : decode cX8_separator 61 = .ok (.iload_n 1, 1) := by decide +kernel
theorem dX8_separator_62 : decode cX8_separator 62 = .ok (.ireturn, 1) := by decide +kernel
theorem dX8_separator_63 : decode cX8_separator 63 = .ok (.iinc 1 1, 3) := by decide +kernel
theorem dX8_separator_66 : decode cX8_separator 66 = .ok (.goto (-54), 3) := by decide +kernel
theorem dX8_separator_69 : decode cX8_separator 69 = .ok (.iconst (-1), 1) := by decide +kernel
theorem dX8_separator_70 : decode cX8_separator 70 = .ok (.ireturn, 1) := by decide +kernel
theorem dX8_states_0 : decode cX8_states 0 = .ok (.iload_n 1, 1) := by decide +kernel
theorem dX8_states_1 : decode cX8_states 1 = .ok (.iconst 1, 1) := by decide +kernel
theorem dX8_states_2 : decode cX8_states 2 = .ok (.if_icmp .lt 8, 3) := by decide +kernel
theorem dX8_states_5 : decode cX8_states 5 = .ok (.iload_n 1, 1) := by decide +kernel
theorem dX8_states_6 : decode cX8_states 6 = .ok (.iconst 4, 1) := by decide +kernel
theorem dX8_states_7 : decode cX8_states 7 = .ok (.if_icmp .le 6, 3) := by decide +kernel
theorem dX8_states_10 : decode cX8_states 10 = .ok (.bipush (-2), 2) := by decide +kernel
theorem dX8_states_12 : decode cX8_states 12 = .ok (.ireturn, 1) := by decide +kernel
theorem dX8_states_13 : decode cX8_states 13 = .ok (.aload_n 0, 1) := by decide +kernel
theorem dX8_states_14 : decode cX8_states 14 = .ok (.getfield 35, 3) := by decide +kernel
theorem dX8_states_17 : decode cX8_states 17 = .ok (.getfield 178, 3) := by decide +kernel
theorem dX8_states_20 : decode cX8_states 20 = .ok (.istore_n 2, 1) := by decide +kernel
theorem dX8_states_21 : decode cX8_states 21 = .ok (.aload_n 0, 1) := by decide +kernel
theorem dX8_states_22 : decode cX8_states 22 = .ok (.getfield 35, 3) := by decide +kernel
theorem dX8_states_25 : decode cX8_states 25 = .ok (.iload_n 1, 1) := by decide +kernel
theorem dX8_states_26 : decode cX8_states 26 = .ok (.invokevirtual 179, 3) := by decide +kernel
theorem dX8_states_29 : decode cX8_states 29 = .ok (.iload_n 2, 1) := by decide +kernel
theorem dX8_states_30 : decode cX8_states 30 = .ok (.ireturn, 1) := by decide +kernel
theorem dX8_factor_0 : decode cX8_factor 0 = .ok (.aload_n 0, 1) := by decide +kernel
theorem dX8_factor_1 : decode cX8_factor 1 = .ok (.getfield 35, 3) := by decide +kernel
theorem dX8_factor_4 : decode cX8_factor 4 = .ok (.iload_n 1, 1) := by decide +kernel
theorem dX8_factor_5 : decode cX8_factor 5 = .ok (.invokevirtual 182, 3) := by decide +kernel
theorem dX8_factor_8 : decode cX8_factor 8 = .ok (.ifCond .ne 5, 3) := by decide +kernel
theorem dX8_factor_11 : decode cX8_factor 11 = .ok (.iconst (-1), 1) := by decide +kernel
theorem dX8_factor_12 : decode cX8_factor 12 = .ok (.ireturn, 1) := by decide +kernel
theorem dX8_factor_13 : decode cX8_factor 13 = .ok (.iload_n 2, 1) := by decide +kernel
theorem dX8_factor_14 : decode cX8_factor 14 = .ok (.invokestatic 183, 3) := by decide +kernel
theorem dX8_factor_17 : decode cX8_factor 17 = .ok (.ifCond .ne 6, 3) := by decide +kernel
theorem dX8_factor_20 : decode cX8_factor 20 = .ok (.bipush (-2), 2) := by decide +kernel
theorem dX8_factor_22 : decode cX8_factor 22 = .ok (.ireturn, 1) := by decide +kernel
theorem dX8_factor_23 : decode cX8_factor 23 = .ok (.aload_n 0, 1) := by decide +kernel
theorem dX8_factor_24 : decode cX8_factor 24 = .ok (.getfield 35, 3) := by decide +kernel
theorem dX8_factor_27 : decode cX8_factor 27 = .ok (.getfield 186, 3) := by decide +kernel
theorem dX8_factor_30 : decode cX8_factor 30 = .ok (.iload_n 1, 1) := by decide +kernel
theorem dX8_factor_31 : decode cX8_factor 31 = .ok (.iaload, 1) := by decide +kernel
theorem dX8_factor_32 : decode cX8_factor 32 = .ok (.istore_n 3, 1) := by decide +kernel
theorem dX8_factor_33 : decode cX8_factor 33 = .ok (.aload_n 0, 1) := by decide +kernel
theorem dX8_factor_34 : decode cX8_factor 34 = .ok (.getfield 35, 3) := by decide +kernel
theorem dX8_factor_37 : decode cX8_factor 37 = .ok (.getfield 186, 3) := by decide +kernel
theorem dX8_factor_40 : decode cX8_factor 40 = .ok (.iload_n 1, 1) := by decide +kernel
theorem dX8_factor_41 : decode cX8_factor 41 = .ok (.iload_n 2, 1) := by decide +kernel
theorem dX8_factor_42 : decode cX8_factor 42 = .ok (.iastore, 1) := by decide +kernel
theorem dX8_factor_43 : decode cX8_factor 43 = .ok (.iload_n 3, 1) := by decide +kernel
theorem dX8_factor_44 : decode cX8_factor 44 = .ok (.bipush 100, 2) := by decide +kernel
theorem dX8_factor_46 : decode cX8_factor 46 = .ok (.iadd, 1) := by decide +kernel
theorem dX8_factor_47 : decode cX8_factor 47 = .ok (.ireturn, 1) := by decide +kernel
theorem dX8_pair_0 : decode cX8_pair 0 = .ok (.aload_n 0, 1) := by decide +kernel
theorem dX8_pair_1 : decode cX8_pair 1 = .ok (.getfield 35, 3) := by decide +kernel
theorem dX8_pair_4 : decode cX8_pair 4 = .ok (.iload_n 1, 1) := by decide +kernel
theorem dX8_pair_5 : decode cX8_pair 5 = .ok (.invokevirtual 182, 3) := by decide +kernel
theorem dX8_pair_8 : decode cX8_pair 8 = .ok (.ifCond .eq 14, 3) := by decide +kernel
theorem dX8_pair_11 : decode cX8_pair 11 = .ok (.aload_n 0, 1) := by decide +kernel
theorem dX8_pair_12 : decode cX8_pair 12 = .ok (.getfield 35, 3) := by decide +kernel
theorem dX8_pair_15 : decode cX8_pair 15 = .ok (.iload_n 2, 1) := by decide +kernel
theorem dX8_pair_16 : decode cX8_pair 16 = .ok (.invokevirtual 182, 3) := by decide +kernel
theorem dX8_pair_19 : decode cX8_pair 19 = .ok (.ifCond .ne 5, 3) := by decide +kernel
theorem dX8_pair_22 : decode cX8_pair 22 = .ok (.iconst (-1), 1) := by decide +kernel
theorem dX8_pair_23 : decode cX8_pair 23 = .ok (.ireturn, 1) := by decide +kernel
theorem dX8_pair_24 : decode cX8_pair 24 = .ok (.iload_n 3, 1) := by decide +kernel
theorem dX8_pair_25 : decode cX8_pair 25 = .ok (.ifCond .lt 16, 3) := by decide +kernel
theorem dX8_pair_28 : decode cX8_pair 28 = .ok (.iload_n 3, 1) := by decide +kernel
theorem dX8_pair_29 : decode cX8_pair 29 = .ok (.iconst 1, 1) := by decide +kernel
theorem dX8_pair_30 : decode cX8_pair 30 = .ok (.if_icmp .gt 11, 3) := by decide +kernel
theorem dX8_pair_33 : decode cX8_pair 33 = .ok (.iload 4, 2) := by decide +kernel
theorem dX8_pair_35 : decode cX8_pair 35 = .ok (.invokestatic 183, 3) := by decide +kernel
theorem dX8_pair_38 : decode cX8_pair 38 = .ok (.ifCond .ne 6, 3) := by decide +kernel
theorem dX8_pair_41 : decode cX8_pair 41 = .ok (.bipush (-2), 2) := by decide +kernel
theorem dX8_pair_43 : decode cX8_pair 43 = .ok (.ireturn, 1) := by decide +kernel
theorem dX8_pair_44 : decode cX8_pair 44 = .ok (.aload_n 0, 1) := by decide +kernel
theorem dX8_pair_45 : decode cX8_pair 45 = .ok (.getfield 35, 3) := by decide +kernel
theorem dX8_pair_48 : decode cX8_pair 48 = .ok (.getfield 189, 3) := by decide +kernel
theorem dX8_pair_51 : decode cX8_pair 51 = .ok (.iload_n 1, 1) := by decide +kernel
theorem dX8_pair_52 : decode cX8_pair 52 = .ok (.iconst 4, 1) := by decide +kernel
theorem dX8_pair_53 : decode cX8_pair 53 = .ok (.imul, 1) := by decide +kernel
theorem dX8_pair_54 : decode cX8_pair 54 = .ok (.iload_n 2, 1) := by decide +kernel
theorem dX8_pair_55 : decode cX8_pair 55 = .ok (.iadd, 1) := by decide +kernel
theorem dX8_pair_56 : decode cX8_pair 56 = .ok (.baload, 1) := by decide +kernel
theorem dX8_pair_57 : decode cX8_pair 57 = .ok (.ifCond .eq 7, 3) := by decide +kernel
theorem dX8_pair_60 : decode cX8_pair 60 = .ok (.iconst 0, 1) := by decide +kernel
theorem dX8_pair_61 : decode cX8_pair 61 = .ok (.goto 19, 3) := by decide +kernel
theorem dX8_pair_64 : decode cX8_pair 64 = .ok (.aload_n 0, 1) := by decide +kernel
theorem dX8_pair_65 : decode cX8_pair 65 = .ok (.getfield 35, 3) := by decide +kernel
theorem dX8_pair_68 : decode cX8_pair 68 = .ok (.getfield 193, 3) := by decide +kernel
theorem dX8_pair_71 : decode cX8_pair 71 = .ok (.iload_n 1, 1) := by decide +kernel
theorem dX8_pair_72 : decode cX8_pair 72 = .ok (.iconst 4, 1) := by decide +kernel
theorem dX8_pair_73 : decode cX8_pair 73 = .ok (.imul, 1) := by decide +kernel
theorem dX8_pair_74 : decode cX8_pair 74 = .ok (.iload_n 2, 1) := by decide +kernel
theorem dX8_pair_75 : decode cX8_pair 75 = .ok (.iadd, 1) := by decide +kernel
theorem dX8_pair_76 : decode cX8_pair 76 = .ok (.iaload, 1) := by decide +kernel
theorem dX8_pair_77 : decode cX8_pair 77 = .ok (.bipush 100, 2) := by decide +kernel
theorem dX8_pair_79 : decode cX8_pair 79 = .ok (.iadd, 1) := by decide +kernel
theorem dX8_pair_80 : decode cX8_pair 80 = .ok (.istore 5, 2) := by decide +kernel
theorem dX8_pair_82 : decode cX8_pair 82 = .ok (.aload_n 0, 1) := by decide +kernel
theorem dX8_pair_83 : decode cX8_pair 83 = .ok (.getfield 35, 3) := by decide +kernel
theorem dX8_pair_86 : decode cX8_pair 86 = .ok (.iload_n 1, 1) := by decide +kernel
theorem dX8_pair_87 : decode cX8_pair 87 = .ok (.iload_n 2, 1) := by decide +kernel
theorem dX8_pair_88 : decode cX8_pair 88 = .ok (.iload_n 3, 1) := by decide +kernel
theorem dX8_pair_89 : decode cX8_pair 89 = .ok (.ifCond .ne 7, 3) := by decide +kernel
theorem dX8_pair_92 : decode cX8_pair 92 = .ok (.iconst 1, 1) := by decide +kernel
theorem dX8_pair_93 : decode cX8_pair 93 = .ok (.goto 4, 3) := by decide +kernel
theorem dX8_pair_96 : decode cX8_pair 96 = .ok (.iconst 0, 1) := by decide +kernel
theorem dX8_pair_97 : decode cX8_pair 97 = .ok (.iload 4, 2) := by decide +kernel
theorem dX8_pair_99 : decode cX8_pair 99 = .ok (.invokevirtual 196, 3) := by decide +kernel
theorem dX8_pair_102 : decode cX8_pair 102 = .ok (.iload 5, 2) := by decide +kernel
theorem dX8_pair_104 : decode cX8_pair 104 = .ok (.ireturn, 1) := by decide +kernel
theorem dX8_forbid_0 : decode cX8_forbid 0 = .ok (.aload_n 0, 1) := by decide +kernel
theorem dX8_forbid_1 : decode cX8_forbid 1 = .ok (.getfield 12, 3) := by decide +kernel
theorem dX8_forbid_4 : decode cX8_forbid 4 = .ok (.iload_n 1, 1) := by decide +kernel
theorem dX8_forbid_5 : decode cX8_forbid 5 = .ok (.invokevirtual 69, 3) := by decide +kernel
theorem dX8_forbid_8 : decode cX8_forbid 8 = .ok (.ifCond .ne 5, 3) := by decide +kernel
theorem dX8_forbid_11 : decode cX8_forbid 11 = .ok (.iconst (-1), 1) := by decide +kernel
theorem dX8_forbid_12 : decode cX8_forbid 12 = .ok (.ireturn, 1) := by decide +kernel
theorem dX8_forbid_13 : decode cX8_forbid 13 = .ok (.iload_n 2, 1) := by decide +kernel
theorem dX8_forbid_14 : decode cX8_forbid 14 = .ok (.ifCond .lt 9, 3) := by decide +kernel
theorem dX8_forbid_17 : decode cX8_forbid 17 = .ok (.iload_n 2, 1) := by decide +kernel
theorem dX8_forbid_18 : decode cX8_forbid 18 = .ok (.bipush 15, 2) := by decide +kernel
theorem dX8_forbid_20 : decode cX8_forbid 20 = .ok (.if_icmp .le 6, 3) := by decide +kernel
theorem dX8_forbid_23 : decode cX8_forbid 23 = .ok (.bipush (-2), 2) := by decide +kernel
theorem dX8_forbid_25 : decode cX8_forbid 25 = .ok (.ireturn, 1) := by decide +kernel
theorem dX8_forbid_26 : decode cX8_forbid 26 = .ok (.aload_n 0, 1) := by decide +kernel
theorem dX8_forbid_27 : decode cX8_forbid 27 = .ok (.getfield 35, 3) := by decide +kernel
theorem dX8_forbid_30 : decode cX8_forbid 30 = .ok (.getfield 200, 3) := by decide +kernel
theorem dX8_forbid_33 : decode cX8_forbid 33 = .ok (.iload_n 1, 1) := by decide +kernel
theorem dX8_forbid_34 : decode cX8_forbid 34 = .ok (.iaload, 1) := by decide +kernel
theorem dX8_forbid_35 : decode cX8_forbid 35 = .ok (.istore_n 3, 1) := by decide +kernel
theorem dX8_forbid_36 : decode cX8_forbid 36 = .ok (.aload_n 0, 1) := by decide +kernel
theorem dX8_forbid_37 : decode cX8_forbid 37 = .ok (.getfield 35, 3) := by decide +kernel
theorem dX8_forbid_40 : decode cX8_forbid 40 = .ok (.getfield 200, 3) := by decide +kernel
theorem dX8_forbid_43 : decode cX8_forbid 43 = .ok (.iload_n 1, 1) := by decide +kernel
theorem dX8_forbid_44 : decode cX8_forbid 44 = .ok (.iload_n 2, 1) := by decide +kernel
theorem dX8_forbid_45 : decode cX8_forbid 45 = .ok (.iastore, 1) := by decide +kernel
theorem dX8_forbid_46 : decode cX8_forbid 46 = .ok (.iload_n 3, 1) := by decide +kernel
theorem dX8_forbid_47 : decode cX8_forbid 47 = .ok (.ireturn, 1) := by decide +kernel
theorem dX8_count_0 : decode cX8_count 0 = .ok (.iload_n 1, 1) := by decide +kernel
theorem dX8_count_1 : decode cX8_count 1 = .ok (.tableswitch 92 0 5 #[39, 47, 55, 63, 71, 79], 39) := by decide +kernel
theorem dX8_count_40 : decode cX8_count 40 = .ok (.aload_n 0, 1) := by decide +kernel
theorem dX8_count_41 : decode cX8_count 41 = .ok (.getfield 12, 3) := by decide +kernel
theorem dX8_count_44 : decode cX8_count 44 = .ok (.getfield 57, 3) := by decide +kernel
theorem dX8_count_47 : decode cX8_count 47 = .ok (.ireturn, 1) := by decide +kernel
theorem dX8_count_48 : decode cX8_count 48 = .ok (.aload_n 0, 1) := by decide +kernel
theorem dX8_count_49 : decode cX8_count 49 = .ok (.getfield 12, 3) := by decide +kernel
theorem dX8_count_52 : decode cX8_count 52 = .ok (.getfield 234, 3) := by decide +kernel
theorem dX8_count_55 : decode cX8_count 55 = .ok (.ireturn, 1) := by decide +kernel
theorem dX8_count_56 : decode cX8_count 56 = .ok (.aload_n 0, 1) := by decide +kernel
theorem dX8_count_57 : decode cX8_count 57 = .ok (.getfield 21, 3) := by decide +kernel
theorem dX8_count_60 : decode cX8_count 60 = .ok (.getfield 101, 3) := by decide +kernel
theorem dX8_count_63 : decode cX8_count 63 = .ok (.ireturn, 1) := by decide +kernel
theorem dX8_count_64 : decode cX8_count 64 = .ok (.aload_n 0, 1) := by decide +kernel
theorem dX8_count_65 : decode cX8_count 65 = .ok (.getfield 28, 3) := by decide +kernel
theorem dX8_count_68 : decode cX8_count 68 = .ok (.getfield 151, 3) := by decide +kernel
theorem dX8_count_71 : decode cX8_count 71 = .ok (.ireturn, 1) := by decide +kernel
theorem dX8_count_72 : decode cX8_count 72 = .ok (.aload_n 0, 1) := by decide +kernel
theorem dX8_count_73 : decode cX8_count 73 = .ok (.getfield 35, 3) := by decide +kernel
theorem dX8_count_76 : decode cX8_count 76 = .ok (.getfield 178, 3) := by decide +kernel
theorem dX8_count_79 : decode cX8_count 79 = .ok (.ireturn, 1) := by decide +kernel
theorem dX8_count_80 : decode cX8_count 80 = .ok (.aload_n 0, 1) := by decide +kernel
theorem dX8_count_81 : decode cX8_count 81 = .ok (.invokevirtual 171, 3) := by decide +kernel
theorem dX8_count_84 : decode cX8_count 84 = .ok (.ifCond .eq 7, 3) := by decide +kernel
theorem dX8_count_87 : decode cX8_count 87 = .ok (.iconst 1, 1) := by decide +kernel
theorem dX8_count_88 : decode cX8_count 88 = .ok (.goto 4, 3) := by decide +kernel
theorem dX8_count_91 : decode cX8_count 91 = .ok (.iconst 0, 1) := by decide +kernel
theorem dX8_count_92 : decode cX8_count 92 = .ok (.ireturn, 1) := by decide +kernel
theorem dX8_count_93 : decode cX8_count 93 = .ok (.iconst (-1), 1) := by decide +kernel
theorem dX8_count_94 : decode cX8_count 94 = .ok (.ireturn, 1) := by decide +kernel
theorem dX8_isSound_0 : decode cX8_isSound 0 = .ok (.aload_n 0, 1) := by decide +kernel
theorem dX8_isSound_1 : decode cX8_isSound 1 = .ok (.getfield 28, 3) := by decide +kernel
theorem dX8_isSound_4 : decode cX8_isSound 4 = .ok (.getfield 151, 3) := by decide +kernel
theorem dX8_isSound_7 : decode cX8_isSound 7 = .ok (.ifCond .le 21, 3) := by decide +kernel
theorem dX8_isSound_10 : decode cX8_isSound 10 = .ok (.aload_n 0, 1) := by decide +kernel
theorem dX8_isSound_11 : decode cX8_isSound 11 = .ok (.getfield 28, 3) := by decide +kernel
theorem dX8_isSound_14 : decode cX8_isSound 14 = .ok (.aload_n 0, 1) := by decide +kernel
theorem dX8_isSound_15 : decode cX8_isSound 15 = .ok (.getfield 12, 3) := by decide +kernel
theorem dX8_isSound_18 : decode cX8_isSound 18 = .ok (.invokevirtual 167, 3) := by decide +kernel
theorem dX8_isSound_21 : decode cX8_isSound 21 = .ok (.ifCond .ne 7, 3) := by decide +kernel
theorem dX8_isSound_24 : decode cX8_isSound 24 = .ok (.iconst 1, 1) := by decide +kernel
theorem dX8_isSound_25 : decode cX8_isSound 25 = .ok (.goto 4, 3) := by decide +kernel
theorem dX8_isSound_28 : decode cX8_isSound 28 = .ok (.iconst 0, 1) := by decide +kernel
theorem dX8_isSound_29 : decode cX8_isSound 29 = .ok (.ireturn, 1) := by decide +kernel
theorem dX8_canAsk_0 : decode cX8_canAsk 0 = .ok (.aload_n 0, 1) := by decide +kernel
theorem dX8_canAsk_1 : decode cX8_canAsk 1 = .ok (.invokevirtual 171, 3) := by decide +kernel
theorem dX8_canAsk_4 : decode cX8_canAsk 4 = .ok (.ifCond .eq 20, 3) := by decide +kernel
theorem dX8_canAsk_7 : decode cX8_canAsk 7 = .ok (.aload_n 0, 1) := by decide +kernel
theorem dX8_canAsk_8 : decode cX8_canAsk 8 = .ok (.getfield 28, 3) := by decide +kernel
theorem dX8_canAsk_11 : decode cX8_canAsk 11 = .ok (.invokevirtual 110, 3) := by decide +kernel
theorem dX8_canAsk_14 : decode cX8_canAsk 14 = .ok (.iconst 1, 1) := by decide +kernel
theorem dX8_canAsk_15 : decode cX8_canAsk 15 = .ok (.isub, 1) := by decide +kernel
theorem dX8_canAsk_16 : decode cX8_canAsk 16 = .ok (.iconst 4, 1) := by decide +kernel
theorem dX8_canAsk_17 : decode cX8_canAsk 17 = .ok (.if_icmp .gt 7, 3) := by decide +kernel
theorem dX8_canAsk_20 : decode cX8_canAsk 20 = .ok (.iconst 1, 1) := by decide +kernel
theorem dX8_canAsk_21 : decode cX8_canAsk 21 = .ok (.goto 4, 3) := by decide +kernel
theorem dX8_canAsk_24 : decode cX8_canAsk 24 = .ok (.iconst 0, 1) := by decide +kernel
theorem dX8_canAsk_25 : decode cX8_canAsk 25 = .ok (.ireturn, 1) := by decide +kernel
theorem dX8_lowerBound_0 : decode cX8_lowerBound 0 = .ok (.aload_n 0, 1) := by decide +kernel
theorem dX8_lowerBound_1 : decode cX8_lowerBound 1 = .ok (.getfield 42, 3) := by decide +kernel
theorem dX8_lowerBound_4 : decode cX8_lowerBound 4 = .ok (.aload_n 0, 1) := by decide +kernel
theorem dX8_lowerBound_5 : decode cX8_lowerBound 5 = .ok (.getfield 12, 3) := by decide +kernel
theorem dX8_lowerBound_8 : decode cX8_lowerBound 8 = .ok (.invokevirtual 102, 3) := by decide +kernel
theorem dX8_lowerBound_11 : decode cX8_lowerBound 11 = .ok (.iconst (-1), 1) := by decide +kernel
theorem dX8_lowerBound_12 : decode cX8_lowerBound 12 = .ok (.istore_n 1, 1) := by decide +kernel
theorem dX8_lowerBound_13 : decode cX8_lowerBound 13 = .ok (.iconst 0, 1) := by decide +kernel
theorem dX8_lowerBound_14 : decode cX8_lowerBound 14 = .ok (.istore_n 2, 1) := by decide +kernel
theorem dX8_lowerBound_15 : decode cX8_lowerBound 15 = .ok (.iload_n 2, 1) := by decide +kernel
theorem dX8_lowerBound_16 : decode cX8_lowerBound 16 = .ok (.aload_n 0, 1) := by decide +kernel
theorem dX8_lowerBound_17 : decode cX8_lowerBound 17 = .ok (.getfield 12, 3) := by decide +kernel
theorem dX8_lowerBound_20 : decode cX8_lowerBound 20 = .ok (.getfield 57, 3) := by decide +kernel
theorem dX8_lowerBound_23 : decode cX8_lowerBound 23 = .ok (.if_icmp .ge 42, 3) := by decide +kernel
theorem dX8_lowerBound_26 : decode cX8_lowerBound 26 = .ok (.aload_n 0, 1) := by decide +kernel
theorem dX8_lowerBound_27 : decode cX8_lowerBound 27 = .ok (.getfield 42, 3) := by decide +kernel
theorem dX8_lowerBound_30 : decode cX8_lowerBound 30 = .ok (.invokevirtual 123, 3) := by decide +kernel
theorem dX8_lowerBound_33 : decode cX8_lowerBound 33 = .ok (.istore_n 3, 1) := by decide +kernel
theorem dX8_lowerBound_34 : decode cX8_lowerBound 34 = .ok (.iload_n 1, 1) := by decide +kernel
theorem dX8_lowerBound_35 : decode cX8_lowerBound 35 = .ok (.aload_n 0, 1) := by decide +kernel
theorem dX8_lowerBound_36 : decode cX8_lowerBound 36 = .ok (.getfield 42, 3) := by decide +kernel
theorem dX8_lowerBound_39 : decode cX8_lowerBound 39 = .ok (.getfield 126, 3) := by decide +kernel
theorem dX8_lowerBound_42 : decode cX8_lowerBound 42 = .ok (.iload_n 3, 1) := by decide +kernel
theorem dX8_lowerBound_43 : decode cX8_lowerBound 43 = .ok (.iaload, 1) := by decide +kernel
theorem dX8_lowerBound_44 : decode cX8_lowerBound 44 = .ok (.invokestatic 127, 3) := by decide +kernel
theorem dX8_lowerBound_47 : decode cX8_lowerBound 47 = .ok (.invokestatic 132, 3) := by decide +kernel
theorem dX8_lowerBound_50 : decode cX8_lowerBound 50 = .ok (.istore_n 1, 1) := by decide +kernel
theorem dX8_lowerBound_51 : decode cX8_lowerBound 51 = .ok (.aload_n 0, 1) := by decide +kernel
theorem dX8_lowerBound_52 : decode cX8_lowerBound 52 = .ok (.getfield 42, 3) := by decide +kernel
theorem dX8_lowerBound_55 : decode cX8_lowerBound 55 = .ok (.iload_n 3, 1) := by decide +kernel
theorem dX8_lowerBound_56 : decode cX8_lowerBound 56 = .ok (.invokevirtual 251, 3) := by decide +kernel
theorem dX8_lowerBound_59 : decode cX8_lowerBound 59 = .ok (.iinc 2 1, 3) := by decide +kernel
theorem dX8_lowerBound_62 : decode cX8_lowerBound 62 = .ok (.goto (-47), 3) := by decide +kernel
theorem dX8_lowerBound_65 : decode cX8_lowerBound 65 = .ok (.iload_n 1, 1) := by decide +kernel
theorem dX8_lowerBound_66 : decode cX8_lowerBound 66 = .ok (.ireturn, 1) := by decide +kernel
def f_X8_knot (a1 : Int32) (t_net_size : Int32) (t_net_loads : Nat → Int32) (t_order_size : Int32) (t_order_held : Int32) (t_bags_size : Int32) : Option (Int32 × Int32 × (Nat → Int32) × Int32 × Int32 × Int32) :=
  cal (f_X8_isWeight a1) fun u1 =>
  if u1 = 0 then
    some ((-2 : Int32), t_net_size, t_net_loads, t_order_size, t_order_held, t_bags_size)
  else
    if t_net_size < (14 : Int32) then
      cal (f_X2_empty t_order_size t_order_held) fun u2 =>
      cal (f_X0_empty t_bags_size) fun u3 =>
      cal (f_X4_addKnot a1 t_net_size t_net_loads) fun u4 =>
      some (u4.1, u4.2.1, u4.2.2, u2.1, u2.2, u3)
    else
      some ((-3 : Int32), t_net_size, t_net_loads, t_order_size, t_order_held, t_bags_size)

set_option maxRecDepth 100000 in
set_option maxHeartbeats 1000000 in
theorem c_X8_knot (l : Launch) (cA : Nat → ClassId) (q_t : Nat) (q_t_law : Nat) (q_t_going : Nat) (q_t_plan : Nat) (z_t_search : Value) (z_t_tally : Value) (q_t_net : Nat) (q_t_net_near : Nat) (q_t_net_ties : Nat) (t_net_size : Int32) (t_net_edges : Int32) (q_t_net_loads : Nat) (t_net_loads : Nat → Int32) (q_t_order : Nat) (q_t_order_knots : Nat) (t_order_size : Int32) (t_order_held : Int32) (q_t_bags : Nat) (q_t_bags_masks : Nat) (q_t_bags_ups : Nat) (t_bags_size : Int32)  (a1 : Int32) (r : Int32 × Int32 × (Nat → Int32) × Int32 × Int32 × Int32) (hf : f_X8_knot a1 t_net_size t_net_loads t_order_size t_order_held t_bags_size = some r) : MT l cA yX8_knot cX8_knot 2 (some .int) ({ frames := 1, cells := 0, slots := 0, locals := 21 } : Room) [.ref q_t, .int a1] [oB q_t 8 [.ref q_t_net, .ref q_t_order, .ref q_t_bags, .ref q_t_law, .ref q_t_going, .ref q_t_plan, z_t_search, z_t_tally], oB q_t_net 4 [.ref q_t_net_loads, .ref q_t_net_near, .ref q_t_net_ties, .int t_net_size, .int t_net_edges], aI cA q_t_net_loads 14 t_net_loads, oB q_t_order 2 [.ref q_t_order_knots, .int t_order_size, .int t_order_held], oB q_t_bags 0 [.ref q_t_bags_masks, .ref q_t_bags_ups, .int t_bags_size]] (sB (some (.int r.1)) [oB q_t 8 [.ref q_t_net, .ref q_t_order, .ref q_t_bags, .ref q_t_law, .ref q_t_going, .ref q_t_plan, z_t_search, z_t_tally], oB q_t_net 4 [.ref q_t_net_loads, .ref q_t_net_near, .ref q_t_net_ties, .int r.2.1, .int t_net_edges], aI cA q_t_net_loads 14 r.2.2.1, oB q_t_order 2 [.ref q_t_order_knots, .int r.2.2.2.1, .int r.2.2.2.2.1], oB q_t_bags 0 [.ref q_t_bags_masks, .ref q_t_bags_ups, .int r.2.2.2.2.2]]) := by
  refine MT.of (by decide) (Nat.le_of_ble_eq_true rfl) ?_
  intro X hXl C F hnm hrc hrs
  subst hXl
  have hk : 0 ≤ (x_R X).cells ∧ 0 ≤ (x_R X).slots := ⟨Nat.zero_le _, Nat.zero_le _⟩
  have hB : (sB (some (.int r.1)) [oB q_t 8 [.ref q_t_net, .ref q_t_order, .ref q_t_bags, .ref q_t_law, .ref q_t_going, .ref q_t_plan, z_t_search, z_t_tally], oB q_t_net 4 [.ref q_t_net_loads, .ref q_t_net_near, .ref q_t_net_ties, .int r.2.1, .int t_net_edges], aI cA q_t_net_loads 14 r.2.2.1, oB q_t_order 2 [.ref q_t_order_knots, .int r.2.2.2.1, .int r.2.2.2.2.1], oB q_t_bags 0 [.ref q_t_bags_masks, .ref q_t_bags_ups, .int r.2.2.2.2.2]]) (some (.int r.1)) [oB q_t 8 [.ref q_t_net, .ref q_t_order, .ref q_t_bags, .ref q_t_law, .ref q_t_going, .ref q_t_plan, z_t_search, z_t_tally], oB q_t_net 4 [.ref q_t_net_loads, .ref q_t_net_near, .ref q_t_net_ties, .int r.2.1, .int t_net_edges], aI cA q_t_net_loads 14 r.2.2.1, oB q_t_order 2 [.ref q_t_order_knots, .int r.2.2.2.1, .int r.2.2.2.2.1], oB q_t_bags 0 [.ref q_t_bags_masks, .ref q_t_bags_ups, .int r.2.2.2.2.2]] := ⟨rfl, rfl⟩
  unfold f_X8_knot at hf
  have C : Cx X cX8_knot RX8 (some .int) cA 1 21 2 := C
  show Go X 2 0 0 0 [oB q_t 8 [.ref q_t_net, .ref q_t_order, .ref q_t_bags, .ref q_t_law, .ref q_t_going, .ref q_t_plan, z_t_search, z_t_tally], oB q_t_net 4 [.ref q_t_net_loads, .ref q_t_net_near, .ref q_t_net_ties, .int t_net_size, .int t_net_edges], aI cA q_t_net_loads 14 t_net_loads, oB q_t_order 2 [.ref q_t_order_knots, .int t_order_size, .int t_order_held], oB q_t_bags 0 [.ref q_t_bags_masks, .ref q_t_bags_ups, .int t_bags_size]] [(0, .ref q_t), (1, .int a1)] []
  refine g_iload_n C 0 1 dX8_knot_0 rfl rfl ?_
  obtain ⟨u1, hu1, hf⟩ := cal_some hf
  refine g_callS C 1 [] (rest := []) dX8_knot_1 (c_X8_isWeight (x_l X) cA a1 u1 hu1) kw_226 kw_227 kw_6 kw_228 ok_X8_isWeight ⟨Nat.le_of_ble_eq_true rfl, Nat.le_of_ble_eq_true rfl⟩ hk ⟨rfl, rfl⟩ rfl rfl rfl (Nat.le_of_ble_eq_true rfl) rfl (ws' := [oB q_t 8 [.ref q_t_net, .ref q_t_order, .ref q_t_bags, .ref q_t_law, .ref q_t_going, .ref q_t_plan, z_t_search, z_t_tally], oB q_t_net 4 [.ref q_t_net_loads, .ref q_t_net_near, .ref q_t_net_ties, .int t_net_size, .int t_net_edges], aI cA q_t_net_loads 14 t_net_loads, oB q_t_order 2 [.ref q_t_order_knots, .int t_order_size, .int t_order_held], oB q_t_bags 0 [.ref q_t_bags_masks, .ref q_t_bags_ups, .int t_bags_size]]) (st' := [.int u1]) (N0 := 5) rfl [none, none, none, none, none] (by decide) rfl rfl ?_
  refine g_if_ne C 4 10 dX8_knot_4 (by decide) hf (fun hf => ?_) (fun hf => ?_)
  · refine g_aload_n C 10 0 dX8_knot_10 rfl rfl ?_
    refine g_get C 11 0 0 dX8_knot_11 inX8 rfl rfl (by decide) kw_229 rfl ?_
    refine g_get C 14 1 3 dX8_knot_14 inX4 rfl rfl (by decide) kw_230 rfl ?_
    refine g_bipush C 17 (14 : Int32) dX8_knot_17 (by decide) ?_
    refine g_icmp_lt C 19 25 dX8_knot_19 (by decide) hf (fun hf => ?_) (fun hf => ?_)
    · refine g_aload_n C 25 0 dX8_knot_25 rfl rfl ?_
      refine g_get C 26 0 1 dX8_knot_26 inX8 rfl rfl (by decide) kw_231 rfl ?_
      obtain ⟨u2, hu2, hf⟩ := cal_some hf
      refine g_callV1 C 29 [3] 3 (rest := []) dX8_knot_29 (c_X2_empty (x_l X) cA q_t_order q_t_order_knots t_order_size t_order_held u2 hu2) kw_232 kw_233 kw_234 kw_29 kw_235 ok_X2_empty ⟨Nat.le_of_ble_eq_true rfl, Nat.le_of_ble_eq_true rfl⟩ hk ⟨rfl, rfl⟩ rfl rfl rfl rfl rfl (Nat.le_of_ble_eq_true rfl) rfl (ws' := [oB q_t 8 [.ref q_t_net, .ref q_t_order, .ref q_t_bags, .ref q_t_law, .ref q_t_going, .ref q_t_plan, z_t_search, z_t_tally], oB q_t_net 4 [.ref q_t_net_loads, .ref q_t_net_near, .ref q_t_net_ties, .int t_net_size, .int t_net_edges], aI cA q_t_net_loads 14 t_net_loads, oB q_t_order 2 [.ref q_t_order_knots, .int u2.1, .int u2.2], oB q_t_bags 0 [.ref q_t_bags_masks, .ref q_t_bags_ups, .int t_bags_size]]) (st' := []) (N0 := 5) rfl [none, none, none, some 0, none] (by decide) rfl rfl ?_
      refine g_aload_n C 32 0 dX8_knot_32 rfl rfl ?_
      refine g_get C 33 0 2 dX8_knot_33 inX8 rfl rfl (by decide) kw_236 rfl ?_
      obtain ⟨u3, hu3, hf⟩ := cal_some hf
      refine g_callV1 C 36 [4] 4 (rest := []) dX8_knot_36 (c_X0_empty (x_l X) cA q_t_bags q_t_bags_masks q_t_bags_ups t_bags_size u3 hu3) kw_237 kw_238 kw_239 kw_43 kw_240 ok_X0_empty ⟨Nat.le_of_ble_eq_true rfl, Nat.le_of_ble_eq_true rfl⟩ hk ⟨rfl, rfl⟩ rfl rfl rfl rfl rfl (Nat.le_of_ble_eq_true rfl) rfl (ws' := [oB q_t 8 [.ref q_t_net, .ref q_t_order, .ref q_t_bags, .ref q_t_law, .ref q_t_going, .ref q_t_plan, z_t_search, z_t_tally], oB q_t_net 4 [.ref q_t_net_loads, .ref q_t_net_near, .ref q_t_net_ties, .int t_net_size, .int t_net_edges], aI cA q_t_net_loads 14 t_net_loads, oB q_t_order 2 [.ref q_t_order_knots, .int u2.1, .int u2.2], oB q_t_bags 0 [.ref q_t_bags_masks, .ref q_t_bags_ups, .int u3]]) (st' := []) (N0 := 5) rfl [none, none, none, none, some 0] (by decide) rfl rfl ?_
      refine g_aload_n C 39 0 dX8_knot_39 rfl rfl ?_
      refine g_get C 40 0 0 dX8_knot_40 inX8 rfl rfl (by decide) kw_229 rfl ?_
      refine g_iload_n C 43 1 dX8_knot_43 rfl rfl ?_
      obtain ⟨u4, hu4, hf⟩ := cal_some hf
      refine g_callV1 C 44 [1, 2] 1 (rest := []) dX8_knot_44 (c_X4_addKnot (x_l X) cA q_t_net q_t_net_near q_t_net_ties t_net_size t_net_edges q_t_net_loads t_net_loads a1 u4 hu4) kw_241 kw_242 kw_243 kw_49 kw_244 ok_X4_addKnot ⟨Nat.le_of_ble_eq_true rfl, Nat.le_of_ble_eq_true rfl⟩ hk ⟨rfl, rfl⟩ rfl rfl rfl rfl rfl (Nat.le_of_ble_eq_true rfl) rfl (ws' := [oB q_t 8 [.ref q_t_net, .ref q_t_order, .ref q_t_bags, .ref q_t_law, .ref q_t_going, .ref q_t_plan, z_t_search, z_t_tally], oB q_t_net 4 [.ref q_t_net_loads, .ref q_t_net_near, .ref q_t_net_ties, .int u4.2.1, .int t_net_edges], aI cA q_t_net_loads 14 u4.2.2, oB q_t_order 2 [.ref q_t_order_knots, .int u2.1, .int u2.2], oB q_t_bags 0 [.ref q_t_bags_masks, .ref q_t_bags_ups, .int u3]]) (st' := [.int u4.1]) (N0 := 5) rfl [none, some 0, some 1, none, none] (by decide) rfl rfl ?_
      cases hf
      exact g_iret C 47 dX8_knot_47 F hB
    · refine g_bipush C 22 (-3 : Int32) dX8_knot_22 (by decide) ?_
      cases hf
      exact g_iret C 24 dX8_knot_24 F hB
  · refine g_bipush C 7 (-2 : Int32) dX8_knot_7 (by decide) ?_
    cases hf
    exact g_iret C 9 dX8_knot_9 F hB

def f_X8_edge (a1 : Int32) (a2 : Int32) (a3 : Int32) (t_net_size : Int32) (t_net_edges : Int32) (t_net_near : Nat → Int32) (t_net_ties : Nat → Int32) : Option (Int32 × Int32 × (Nat → Int32) × (Nat → Int32)) :=
  cal (f_X4_has a1 t_net_size) fun u1 =>
  if u1 = 0 then
    some ((-1 : Int32), t_net_edges, t_net_near, t_net_ties)
  else
    cal (f_X4_has a2 t_net_size) fun u2 =>
    if u2 = 0 then
      some ((-1 : Int32), t_net_edges, t_net_near, t_net_ties)
    else
      if a1 = a2 then
        some ((-2 : Int32), t_net_edges, t_net_near, t_net_ties)
      else
        cal (f_X8_isWeight a3) fun u3 =>
        if u3 = 0 then
          some ((-2 : Int32), t_net_edges, t_net_near, t_net_ties)
        else
          cal (f_X4_join a1 a2 a3 t_net_edges t_net_near t_net_ties) fun u4 =>
          if u4.1 = 0 then
            some ((0 : Int32), u4.2.1, u4.2.2.1, u4.2.2.2)
          else
            some ((1 : Int32), u4.2.1, u4.2.2.1, u4.2.2.2)

set_option maxRecDepth 100000 in
set_option maxHeartbeats 1000000 in
theorem c_X8_edge (l : Launch) (cA : Nat → ClassId) (q_t : Nat) (q_t_order : Nat) (q_t_bags : Nat) (q_t_law : Nat) (q_t_going : Nat) (q_t_plan : Nat) (z_t_search : Value) (z_t_tally : Value) (q_t_net : Nat) (q_t_net_loads : Nat) (t_net_size : Int32) (t_net_edges : Int32) (q_t_net_near : Nat) (t_net_near : Nat → Int32) (q_t_net_ties : Nat) (t_net_ties : Nat → Int32)  (a1 : Int32) (a2 : Int32) (a3 : Int32) (r : Int32 × Int32 × (Nat → Int32) × (Nat → Int32)) (hf : f_X8_edge a1 a2 a3 t_net_size t_net_edges t_net_near t_net_ties = some r) : MT l cA yX8_edge cX8_edge 4 (some .int) ({ frames := 2, cells := 0, slots := 0, locals := 45 } : Room) [.ref q_t, .int a1, .int a2, .int a3] [oB q_t 8 [.ref q_t_net, .ref q_t_order, .ref q_t_bags, .ref q_t_law, .ref q_t_going, .ref q_t_plan, z_t_search, z_t_tally], oB q_t_net 4 [.ref q_t_net_loads, .ref q_t_net_near, .ref q_t_net_ties, .int t_net_size, .int t_net_edges], aI cA q_t_net_near 14 t_net_near, aI cA q_t_net_ties 196 t_net_ties] (sB (some (.int r.1)) [oB q_t 8 [.ref q_t_net, .ref q_t_order, .ref q_t_bags, .ref q_t_law, .ref q_t_going, .ref q_t_plan, z_t_search, z_t_tally], oB q_t_net 4 [.ref q_t_net_loads, .ref q_t_net_near, .ref q_t_net_ties, .int t_net_size, .int r.2.1], aI cA q_t_net_near 14 r.2.2.1, aI cA q_t_net_ties 196 r.2.2.2]) := by
  refine MT.of (by decide) (Nat.le_of_ble_eq_true rfl) ?_
  intro X hXl C F hnm hrc hrs
  subst hXl
  have hk : 0 ≤ (x_R X).cells ∧ 0 ≤ (x_R X).slots := ⟨Nat.zero_le _, Nat.zero_le _⟩
  have hB : (sB (some (.int r.1)) [oB q_t 8 [.ref q_t_net, .ref q_t_order, .ref q_t_bags, .ref q_t_law, .ref q_t_going, .ref q_t_plan, z_t_search, z_t_tally], oB q_t_net 4 [.ref q_t_net_loads, .ref q_t_net_near, .ref q_t_net_ties, .int t_net_size, .int r.2.1], aI cA q_t_net_near 14 r.2.2.1, aI cA q_t_net_ties 196 r.2.2.2]) (some (.int r.1)) [oB q_t 8 [.ref q_t_net, .ref q_t_order, .ref q_t_bags, .ref q_t_law, .ref q_t_going, .ref q_t_plan, z_t_search, z_t_tally], oB q_t_net 4 [.ref q_t_net_loads, .ref q_t_net_near, .ref q_t_net_ties, .int t_net_size, .int r.2.1], aI cA q_t_net_near 14 r.2.2.1, aI cA q_t_net_ties 196 r.2.2.2] := ⟨rfl, rfl⟩
  unfold f_X8_edge at hf
  have C : Cx X cX8_edge RX8 (some .int) cA 2 45 4 := C
  show Go X 4 0 0 0 [oB q_t 8 [.ref q_t_net, .ref q_t_order, .ref q_t_bags, .ref q_t_law, .ref q_t_going, .ref q_t_plan, z_t_search, z_t_tally], oB q_t_net 4 [.ref q_t_net_loads, .ref q_t_net_near, .ref q_t_net_ties, .int t_net_size, .int t_net_edges], aI cA q_t_net_near 14 t_net_near, aI cA q_t_net_ties 196 t_net_ties] [(0, .ref q_t), (1, .int a1), (2, .int a2), (3, .int a3)] []
  refine g_aload_n C 0 0 dX8_edge_0 rfl rfl ?_
  refine g_get C 1 0 0 dX8_edge_1 inX8 rfl rfl (by decide) kw_229 rfl ?_
  refine g_iload_n C 4 1 dX8_edge_4 rfl rfl ?_
  obtain ⟨u1, hu1, hf⟩ := cal_some hf
  refine g_callV1 C 5 [1] 1 (rest := []) dX8_edge_5 (c_X4_has (x_l X) cA q_t_net q_t_net_loads q_t_net_near q_t_net_ties t_net_size t_net_edges a1 u1 hu1) kw_245 kw_47 kw_48 kw_49 kw_50 ok_X4_has ⟨Nat.le_of_ble_eq_true rfl, Nat.le_of_ble_eq_true rfl⟩ hk ⟨rfl, rfl⟩ rfl rfl rfl rfl rfl (Nat.le_of_ble_eq_true rfl) rfl (ws' := [oB q_t 8 [.ref q_t_net, .ref q_t_order, .ref q_t_bags, .ref q_t_law, .ref q_t_going, .ref q_t_plan, z_t_search, z_t_tally], oB q_t_net 4 [.ref q_t_net_loads, .ref q_t_net_near, .ref q_t_net_ties, .int t_net_size, .int t_net_edges], aI cA q_t_net_near 14 t_net_near, aI cA q_t_net_ties 196 t_net_ties]) (st' := [.int u1]) (N0 := 4) rfl [none, some 0, none, none] (by decide) rfl rfl ?_
  refine g_if_eq C 8 22 dX8_edge_8 (by decide) hf (fun hf => ?_) (fun hf => ?_)
  · refine g_iconst C 22 (-1 : Int32) dX8_edge_22 (by decide) ?_
    cases hf
    exact g_iret C 23 dX8_edge_23 F hB
  · refine g_aload_n C 11 0 dX8_edge_11 rfl rfl ?_
    refine g_get C 12 0 0 dX8_edge_12 inX8 rfl rfl (by decide) kw_229 rfl ?_
    refine g_iload_n C 15 2 dX8_edge_15 rfl rfl ?_
    obtain ⟨u2, hu2, hf⟩ := cal_some hf
    refine g_callV1 C 16 [1] 1 (rest := []) dX8_edge_16 (c_X4_has (x_l X) cA q_t_net q_t_net_loads q_t_net_near q_t_net_ties t_net_size t_net_edges a2 u2 hu2) kw_245 kw_47 kw_48 kw_49 kw_50 ok_X4_has ⟨Nat.le_of_ble_eq_true rfl, Nat.le_of_ble_eq_true rfl⟩ hk ⟨rfl, rfl⟩ rfl rfl rfl rfl rfl (Nat.le_of_ble_eq_true rfl) rfl (ws' := [oB q_t 8 [.ref q_t_net, .ref q_t_order, .ref q_t_bags, .ref q_t_law, .ref q_t_going, .ref q_t_plan, z_t_search, z_t_tally], oB q_t_net 4 [.ref q_t_net_loads, .ref q_t_net_near, .ref q_t_net_ties, .int t_net_size, .int t_net_edges], aI cA q_t_net_near 14 t_net_near, aI cA q_t_net_ties 196 t_net_ties]) (st' := [.int u2]) (N0 := 4) rfl [none, some 0, none, none] (by decide) rfl rfl ?_
    refine g_if_ne C 19 24 dX8_edge_19 (by decide) hf (fun hf => ?_) (fun hf => ?_)
    · refine g_iload_n C 24 1 dX8_edge_24 rfl rfl ?_
      refine g_iload_n C 25 2 dX8_edge_25 rfl rfl ?_
      refine g_icmp_eq C 26 36 dX8_edge_26 (by decide) hf (fun hf => ?_) (fun hf => ?_)
      · refine g_bipush C 36 (-2 : Int32) dX8_edge_36 (by decide) ?_
        cases hf
        exact g_iret C 38 dX8_edge_38 F hB
      · refine g_iload_n C 29 3 dX8_edge_29 rfl rfl ?_
        obtain ⟨u3, hu3, hf⟩ := cal_some hf
        refine g_callS C 30 [] (rest := []) dX8_edge_30 (c_X8_isWeight (x_l X) cA a3 u3 hu3) kw_226 kw_227 kw_6 kw_228 ok_X8_isWeight ⟨Nat.le_of_ble_eq_true rfl, Nat.le_of_ble_eq_true rfl⟩ hk ⟨rfl, rfl⟩ rfl rfl rfl (Nat.le_of_ble_eq_true rfl) rfl (ws' := [oB q_t 8 [.ref q_t_net, .ref q_t_order, .ref q_t_bags, .ref q_t_law, .ref q_t_going, .ref q_t_plan, z_t_search, z_t_tally], oB q_t_net 4 [.ref q_t_net_loads, .ref q_t_net_near, .ref q_t_net_ties, .int t_net_size, .int t_net_edges], aI cA q_t_net_near 14 t_net_near, aI cA q_t_net_ties 196 t_net_ties]) (st' := [.int u3]) (N0 := 4) rfl [none, none, none, none] (by decide) rfl rfl ?_
        refine g_if_ne C 33 39 dX8_edge_33 (by decide) hf (fun hf => ?_) (fun hf => ?_)
        · refine g_aload_n C 39 0 dX8_edge_39 rfl rfl ?_
          refine g_get C 40 0 0 dX8_edge_40 inX8 rfl rfl (by decide) kw_229 rfl ?_
          refine g_iload_n C 43 1 dX8_edge_43 rfl rfl ?_
          refine g_iload_n C 44 2 dX8_edge_44 rfl rfl ?_
          refine g_iload_n C 45 3 dX8_edge_45 rfl rfl ?_
          obtain ⟨u4, hu4, hf⟩ := cal_some hf
          refine g_callV1 C 46 [1, 2, 3] 1 (rest := []) dX8_edge_46 (c_X4_join (x_l X) cA q_t_net q_t_net_loads t_net_size t_net_edges q_t_net_near t_net_near q_t_net_ties t_net_ties a1 a2 a3 u4 hu4) kw_246 kw_247 kw_248 kw_49 kw_249 ok_X4_join ⟨Nat.le_of_ble_eq_true rfl, Nat.le_of_ble_eq_true rfl⟩ hk ⟨rfl, rfl⟩ rfl rfl rfl rfl rfl (Nat.le_of_ble_eq_true rfl) rfl (ws' := [oB q_t 8 [.ref q_t_net, .ref q_t_order, .ref q_t_bags, .ref q_t_law, .ref q_t_going, .ref q_t_plan, z_t_search, z_t_tally], oB q_t_net 4 [.ref q_t_net_loads, .ref q_t_net_near, .ref q_t_net_ties, .int t_net_size, .int u4.2.1], aI cA q_t_net_near 14 u4.2.2.1, aI cA q_t_net_ties 196 u4.2.2.2]) (st' := [.int u4.1]) (N0 := 4) rfl [none, some 0, some 1, some 2] (by decide) rfl rfl ?_
          refine g_if_eq C 49 56 dX8_edge_49 (by decide) hf (fun hf => ?_) (fun hf => ?_)
          · refine g_iconst C 56 (0 : Int32) dX8_edge_56 (by decide) ?_
            cases hf
            exact g_iret C 57 dX8_edge_57 F hB
          · refine g_iconst C 52 (1 : Int32) dX8_edge_52 (by decide) ?_
            refine g_goto C 53 57 dX8_edge_53 (by decide) ?_
            cases hf
            exact g_iret C 57 dX8_edge_57 F hB
        · refine g_bipush C 36 (-2 : Int32) dX8_edge_36 (by decide) ?_
          cases hf
          exact g_iret C 38 dX8_edge_38 F hB
    · refine g_iconst C 22 (-1 : Int32) dX8_edge_22 (by decide) ?_
      cases hf
      exact g_iret C 23 dX8_edge_23 F hB

def f_X8_cut (a1 : Int32) (a2 : Int32) (t_net_size : Int32) (t_net_edges : Int32) (t_net_near : Nat → Int32) (t_net_ties : Nat → Int32) : Option (Int32 × Int32 × (Nat → Int32)) :=
  cal (f_X4_joined a1 a2 t_net_size t_net_near) fun u1 =>
  if u1 = 0 then
    some ((-1 : Int32), t_net_edges, t_net_near)
  else
    cal (f_X4_part a1 a2 t_net_edges t_net_near t_net_ties) fun u2 =>
    some (u2.1, u2.2.1, u2.2.2)

set_option maxRecDepth 100000 in
set_option maxHeartbeats 1000000 in
theorem c_X8_cut (l : Launch) (cA : Nat → ClassId) (q_t : Nat) (q_t_order : Nat) (q_t_bags : Nat) (q_t_law : Nat) (q_t_going : Nat) (q_t_plan : Nat) (z_t_search : Value) (z_t_tally : Value) (q_t_net : Nat) (q_t_net_loads : Nat) (t_net_size : Int32) (t_net_edges : Int32) (q_t_net_near : Nat) (t_net_near : Nat → Int32) (q_t_net_ties : Nat) (t_net_ties : Nat → Int32)  (a1 : Int32) (a2 : Int32) (r : Int32 × Int32 × (Nat → Int32)) (hf : f_X8_cut a1 a2 t_net_size t_net_edges t_net_near t_net_ties = some r) : MT l cA yX8_cut cX8_cut 3 (some .int) ({ frames := 2, cells := 0, slots := 0, locals := 43 } : Room) [.ref q_t, .int a1, .int a2] [oB q_t 8 [.ref q_t_net, .ref q_t_order, .ref q_t_bags, .ref q_t_law, .ref q_t_going, .ref q_t_plan, z_t_search, z_t_tally], oB q_t_net 4 [.ref q_t_net_loads, .ref q_t_net_near, .ref q_t_net_ties, .int t_net_size, .int t_net_edges], aI cA q_t_net_near 14 t_net_near, aI cA q_t_net_ties 196 t_net_ties] (sB (some (.int r.1)) [oB q_t 8 [.ref q_t_net, .ref q_t_order, .ref q_t_bags, .ref q_t_law, .ref q_t_going, .ref q_t_plan, z_t_search, z_t_tally], oB q_t_net 4 [.ref q_t_net_loads, .ref q_t_net_near, .ref q_t_net_ties, .int t_net_size, .int r.2.1], aI cA q_t_net_near 14 r.2.2, aI cA q_t_net_ties 196 t_net_ties]) := by
  refine MT.of (by decide) (Nat.le_of_ble_eq_true rfl) ?_
  intro X hXl C F hnm hrc hrs
  subst hXl
  have hk : 0 ≤ (x_R X).cells ∧ 0 ≤ (x_R X).slots := ⟨Nat.zero_le _, Nat.zero_le _⟩
  have hB : (sB (some (.int r.1)) [oB q_t 8 [.ref q_t_net, .ref q_t_order, .ref q_t_bags, .ref q_t_law, .ref q_t_going, .ref q_t_plan, z_t_search, z_t_tally], oB q_t_net 4 [.ref q_t_net_loads, .ref q_t_net_near, .ref q_t_net_ties, .int t_net_size, .int r.2.1], aI cA q_t_net_near 14 r.2.2, aI cA q_t_net_ties 196 t_net_ties]) (some (.int r.1)) [oB q_t 8 [.ref q_t_net, .ref q_t_order, .ref q_t_bags, .ref q_t_law, .ref q_t_going, .ref q_t_plan, z_t_search, z_t_tally], oB q_t_net 4 [.ref q_t_net_loads, .ref q_t_net_near, .ref q_t_net_ties, .int t_net_size, .int r.2.1], aI cA q_t_net_near 14 r.2.2, aI cA q_t_net_ties 196 t_net_ties] := ⟨rfl, rfl⟩
  unfold f_X8_cut at hf
  have C : Cx X cX8_cut RX8 (some .int) cA 2 43 3 := C
  show Go X 3 0 0 0 [oB q_t 8 [.ref q_t_net, .ref q_t_order, .ref q_t_bags, .ref q_t_law, .ref q_t_going, .ref q_t_plan, z_t_search, z_t_tally], oB q_t_net 4 [.ref q_t_net_loads, .ref q_t_net_near, .ref q_t_net_ties, .int t_net_size, .int t_net_edges], aI cA q_t_net_near 14 t_net_near, aI cA q_t_net_ties 196 t_net_ties] [(0, .ref q_t), (1, .int a1), (2, .int a2)] []
  refine g_aload_n C 0 0 dX8_cut_0 rfl rfl ?_
  refine g_get C 1 0 0 dX8_cut_1 inX8 rfl rfl (by decide) kw_229 rfl ?_
  refine g_iload_n C 4 1 dX8_cut_4 rfl rfl ?_
  refine g_iload_n C 5 2 dX8_cut_5 rfl rfl ?_
  obtain ⟨u1, hu1, hf⟩ := cal_some hf
  refine g_callV1 C 6 [1, 2] 1 (rest := []) dX8_cut_6 (c_X4_joined (x_l X) cA q_t_net q_t_net_loads q_t_net_ties t_net_size t_net_edges q_t_net_near t_net_near a1 a2 u1 hu1) kw_250 kw_54 kw_55 kw_49 kw_56 ok_X4_joined ⟨Nat.le_of_ble_eq_true rfl, Nat.le_of_ble_eq_true rfl⟩ hk ⟨rfl, rfl⟩ rfl rfl rfl rfl rfl (Nat.le_of_ble_eq_true rfl) rfl (ws' := [oB q_t 8 [.ref q_t_net, .ref q_t_order, .ref q_t_bags, .ref q_t_law, .ref q_t_going, .ref q_t_plan, z_t_search, z_t_tally], oB q_t_net 4 [.ref q_t_net_loads, .ref q_t_net_near, .ref q_t_net_ties, .int t_net_size, .int t_net_edges], aI cA q_t_net_near 14 t_net_near, aI cA q_t_net_ties 196 t_net_ties]) (st' := [.int u1]) (N0 := 4) rfl [none, some 0, some 1, none] (by decide) rfl rfl ?_
  refine g_if_eq C 9 24 dX8_cut_9 (by decide) hf (fun hf => ?_) (fun hf => ?_)
  · refine g_iconst C 24 (-1 : Int32) dX8_cut_24 (by decide) ?_
    cases hf
    exact g_iret C 25 dX8_cut_25 F hB
  · refine g_aload_n C 12 0 dX8_cut_12 rfl rfl ?_
    refine g_get C 13 0 0 dX8_cut_13 inX8 rfl rfl (by decide) kw_229 rfl ?_
    refine g_iload_n C 16 1 dX8_cut_16 rfl rfl ?_
    refine g_iload_n C 17 2 dX8_cut_17 rfl rfl ?_
    obtain ⟨u2, hu2, hf⟩ := cal_some hf
    refine g_callV1 C 18 [1, 2, 3] 1 (rest := []) dX8_cut_18 (c_X4_part (x_l X) cA q_t_net q_t_net_loads t_net_size t_net_edges q_t_net_near t_net_near q_t_net_ties t_net_ties a1 a2 u2 hu2) kw_251 kw_252 kw_253 kw_49 kw_254 ok_X4_part ⟨Nat.le_of_ble_eq_true rfl, Nat.le_of_ble_eq_true rfl⟩ hk ⟨rfl, rfl⟩ rfl rfl rfl rfl rfl (Nat.le_of_ble_eq_true rfl) rfl (ws' := [oB q_t 8 [.ref q_t_net, .ref q_t_order, .ref q_t_bags, .ref q_t_law, .ref q_t_going, .ref q_t_plan, z_t_search, z_t_tally], oB q_t_net 4 [.ref q_t_net_loads, .ref q_t_net_near, .ref q_t_net_ties, .int t_net_size, .int u2.2.1], aI cA q_t_net_near 14 u2.2.2, aI cA q_t_net_ties 196 t_net_ties]) (st' := [.int u2.1]) (N0 := 4) rfl [none, some 0, some 1, some 2] (by decide) rfl rfl ?_
    refine g_goto C 21 25 dX8_cut_21 (by decide) ?_
    cases hf
    exact g_iret C 25 dX8_cut_25 F hB

def f_X8_weigh (a1 : Int32) (a2 : Int32) (t_net_size : Int32) (t_net_loads : Nat → Int32) : Option (Int32 × (Nat → Int32)) :=
  cal (f_X4_has a1 t_net_size) fun u1 =>
  if u1 = 0 then
    some ((-1 : Int32), t_net_loads)
  else
    cal (f_X8_isWeight a2) fun u2 =>
    if u2 = 0 then
      some ((-2 : Int32), t_net_loads)
    else
      ldA t_net_loads 14 a1 fun v3 =>
      bnd v3 fun x3_4 =>
      stI t_net_loads 14 a1 a2 fun t_net_loads_5 =>
      some (x3_4, t_net_loads_5)

set_option maxRecDepth 100000 in
set_option maxHeartbeats 1000000 in
theorem c_X8_weigh (l : Launch) (cA : Nat → ClassId) (q_t : Nat) (q_t_order : Nat) (q_t_bags : Nat) (q_t_law : Nat) (q_t_going : Nat) (q_t_plan : Nat) (z_t_search : Value) (z_t_tally : Value) (q_t_net : Nat) (q_t_net_near : Nat) (q_t_net_ties : Nat) (t_net_size : Int32) (t_net_edges : Int32) (q_t_net_loads : Nat) (t_net_loads : Nat → Int32)  (a1 : Int32) (a2 : Int32) (r : Int32 × (Nat → Int32)) (hf : f_X8_weigh a1 a2 t_net_size t_net_loads = some r) : MT l cA yX8_weigh cX8_weigh 4 (some .int) ({ frames := 1, cells := 0, slots := 0, locals := 21 } : Room) [.ref q_t, .int a1, .int a2] [oB q_t 8 [.ref q_t_net, .ref q_t_order, .ref q_t_bags, .ref q_t_law, .ref q_t_going, .ref q_t_plan, z_t_search, z_t_tally], oB q_t_net 4 [.ref q_t_net_loads, .ref q_t_net_near, .ref q_t_net_ties, .int t_net_size, .int t_net_edges], aI cA q_t_net_loads 14 t_net_loads] (sB (some (.int r.1)) [oB q_t 8 [.ref q_t_net, .ref q_t_order, .ref q_t_bags, .ref q_t_law, .ref q_t_going, .ref q_t_plan, z_t_search, z_t_tally], oB q_t_net 4 [.ref q_t_net_loads, .ref q_t_net_near, .ref q_t_net_ties, .int t_net_size, .int t_net_edges], aI cA q_t_net_loads 14 r.2]) := by
  refine MT.of (by decide) (Nat.le_of_ble_eq_true rfl) ?_
  intro X hXl C F hnm hrc hrs
  subst hXl
  have hk : 0 ≤ (x_R X).cells ∧ 0 ≤ (x_R X).slots := ⟨Nat.zero_le _, Nat.zero_le _⟩
  have hB : (sB (some (.int r.1)) [oB q_t 8 [.ref q_t_net, .ref q_t_order, .ref q_t_bags, .ref q_t_law, .ref q_t_going, .ref q_t_plan, z_t_search, z_t_tally], oB q_t_net 4 [.ref q_t_net_loads, .ref q_t_net_near, .ref q_t_net_ties, .int t_net_size, .int t_net_edges], aI cA q_t_net_loads 14 r.2]) (some (.int r.1)) [oB q_t 8 [.ref q_t_net, .ref q_t_order, .ref q_t_bags, .ref q_t_law, .ref q_t_going, .ref q_t_plan, z_t_search, z_t_tally], oB q_t_net 4 [.ref q_t_net_loads, .ref q_t_net_near, .ref q_t_net_ties, .int t_net_size, .int t_net_edges], aI cA q_t_net_loads 14 r.2] := ⟨rfl, rfl⟩
  unfold f_X8_weigh at hf
  have C : Cx X cX8_weigh RX8 (some .int) cA 1 21 4 := C
  show Go X 4 0 0 0 [oB q_t 8 [.ref q_t_net, .ref q_t_order, .ref q_t_bags, .ref q_t_law, .ref q_t_going, .ref q_t_plan, z_t_search, z_t_tally], oB q_t_net 4 [.ref q_t_net_loads, .ref q_t_net_near, .ref q_t_net_ties, .int t_net_size, .int t_net_edges], aI cA q_t_net_loads 14 t_net_loads] [(0, .ref q_t), (1, .int a1), (2, .int a2)] []
  refine g_aload_n C 0 0 dX8_weigh_0 rfl rfl ?_
  refine g_get C 1 0 0 dX8_weigh_1 inX8 rfl rfl (by decide) kw_229 rfl ?_
  refine g_iload_n C 4 1 dX8_weigh_4 rfl rfl ?_
  obtain ⟨u1, hu1, hf⟩ := cal_some hf
  refine g_callV1 C 5 [1] 1 (rest := []) dX8_weigh_5 (c_X4_has (x_l X) cA q_t_net q_t_net_loads q_t_net_near q_t_net_ties t_net_size t_net_edges a1 u1 hu1) kw_245 kw_47 kw_48 kw_49 kw_50 ok_X4_has ⟨Nat.le_of_ble_eq_true rfl, Nat.le_of_ble_eq_true rfl⟩ hk ⟨rfl, rfl⟩ rfl rfl rfl rfl rfl (Nat.le_of_ble_eq_true rfl) rfl (ws' := [oB q_t 8 [.ref q_t_net, .ref q_t_order, .ref q_t_bags, .ref q_t_law, .ref q_t_going, .ref q_t_plan, z_t_search, z_t_tally], oB q_t_net 4 [.ref q_t_net_loads, .ref q_t_net_near, .ref q_t_net_ties, .int t_net_size, .int t_net_edges], aI cA q_t_net_loads 14 t_net_loads]) (st' := [.int u1]) (N0 := 3) rfl [none, some 0, none] (by decide) rfl rfl ?_
  refine g_if_ne C 8 13 dX8_weigh_8 (by decide) hf (fun hf => ?_) (fun hf => ?_)
  · refine g_iload_n C 13 2 dX8_weigh_13 rfl rfl ?_
    obtain ⟨u2, hu2, hf⟩ := cal_some hf
    refine g_callS C 14 [] (rest := []) dX8_weigh_14 (c_X8_isWeight (x_l X) cA a2 u2 hu2) kw_226 kw_227 kw_6 kw_228 ok_X8_isWeight ⟨Nat.le_of_ble_eq_true rfl, Nat.le_of_ble_eq_true rfl⟩ hk ⟨rfl, rfl⟩ rfl rfl rfl (Nat.le_of_ble_eq_true rfl) rfl (ws' := [oB q_t 8 [.ref q_t_net, .ref q_t_order, .ref q_t_bags, .ref q_t_law, .ref q_t_going, .ref q_t_plan, z_t_search, z_t_tally], oB q_t_net 4 [.ref q_t_net_loads, .ref q_t_net_near, .ref q_t_net_ties, .int t_net_size, .int t_net_edges], aI cA q_t_net_loads 14 t_net_loads]) (st' := [.int u2]) (N0 := 3) rfl [none, none, none] (by decide) rfl rfl ?_
    refine g_if_ne C 17 23 dX8_weigh_17 (by decide) hf (fun hf => ?_) (fun hf => ?_)
    · refine g_aload_n C 23 0 dX8_weigh_23 rfl rfl ?_
      refine g_get C 24 0 0 dX8_weigh_24 inX8 rfl rfl (by decide) kw_229 rfl ?_
      refine g_get C 27 1 0 dX8_weigh_27 inX4 rfl rfl (by decide) kw_255 rfl ?_
      refine g_iload_n C 30 1 dX8_weigh_30 rfl rfl ?_
      refine g_iald C 31 2 dX8_weigh_31 rfl hf (fun v3 hf => ?_)
      refine g_istore_n C 32 (fun z => [(3, .int z), (0, .ref q_t), (1, .int a1), (2, .int a2)]) dX8_weigh_32 rfl (by decide) (fun _ => rfl) hf (fun x3_4 hf => ?_)
      refine g_aload_n C 33 1 dX8_weigh_33 rfl rfl ?_
      refine g_get C 34 0 0 dX8_weigh_34 inX8 rfl rfl (by decide) kw_229 rfl ?_
      refine g_get C 37 1 0 dX8_weigh_37 inX4 rfl rfl (by decide) kw_255 rfl ?_
      refine g_iload_n C 40 2 dX8_weigh_40 rfl rfl ?_
      refine g_iload_n C 41 3 dX8_weigh_41 rfl rfl ?_
      refine g_iast C 42 2 (fun z => [oB q_t 8 [.ref q_t_net, .ref q_t_order, .ref q_t_bags, .ref q_t_law, .ref q_t_going, .ref q_t_plan, z_t_search, z_t_tally], oB q_t_net 4 [.ref q_t_net_loads, .ref q_t_net_near, .ref q_t_net_ties, .int t_net_size, .int t_net_edges], aI cA q_t_net_loads 14 z]) dX8_weigh_42 rfl (fun _ => rfl) hf (fun t_net_loads_5 hf => ?_)
      refine g_iload_n C 43 0 dX8_weigh_43 rfl rfl ?_
      cases hf
      exact g_iret C 44 dX8_weigh_44 F hB
    · refine g_bipush C 20 (-2 : Int32) dX8_weigh_20 (by decide) ?_
      cases hf
      exact g_iret C 22 dX8_weigh_22 F hB
  · refine g_iconst C 11 (-1 : Int32) dX8_weigh_11 (by decide) ?_
    cases hf
    exact g_iret C 12 dX8_weigh_12 F hB

def f_X8_weight (a1 : Int32) (a2 : Int32) (t_net_size : Int32) (t_net_loads : Nat → Int32) (t_net_near : Nat → Int32) (t_net_ties : Nat → Int32) : Option (Int32) :=
  if a1 = a2 then
    cal (f_X4_has a1 t_net_size) fun u3 =>
    if u3 = 0 then
      some ((-1 : Int32))
    else
      ldA t_net_loads 14 a1 fun v4 =>
      some (v4)
  else
    cal (f_X4_joined a1 a2 t_net_size t_net_near) fun u1 =>
    if u1 = 0 then
      some ((-1 : Int32))
    else
      ldA t_net_ties 196 ((a1 * (14 : Int32)) + a2) fun v2 =>
      some (v2)

set_option maxRecDepth 100000 in
set_option maxHeartbeats 1000000 in
theorem c_X8_weight (l : Launch) (cA : Nat → ClassId) (q_t : Nat) (q_t_order : Nat) (q_t_bags : Nat) (q_t_law : Nat) (q_t_going : Nat) (q_t_plan : Nat) (z_t_search : Value) (z_t_tally : Value) (q_t_net : Nat) (t_net_size : Int32) (t_net_edges : Int32) (q_t_net_loads : Nat) (t_net_loads : Nat → Int32) (q_t_net_near : Nat) (t_net_near : Nat → Int32) (q_t_net_ties : Nat) (t_net_ties : Nat → Int32)  (a1 : Int32) (a2 : Int32) (r : Int32) (hf : f_X8_weight a1 a2 t_net_size t_net_loads t_net_near t_net_ties = some r) : MT l cA yX8_weight cX8_weight 3 (some .int) ({ frames := 2, cells := 0, slots := 0, locals := 43 } : Room) [.ref q_t, .int a1, .int a2] [oB q_t 8 [.ref q_t_net, .ref q_t_order, .ref q_t_bags, .ref q_t_law, .ref q_t_going, .ref q_t_plan, z_t_search, z_t_tally], oB q_t_net 4 [.ref q_t_net_loads, .ref q_t_net_near, .ref q_t_net_ties, .int t_net_size, .int t_net_edges], aI cA q_t_net_loads 14 t_net_loads, aI cA q_t_net_near 14 t_net_near, aI cA q_t_net_ties 196 t_net_ties] (sB (some (.int r)) [oB q_t 8 [.ref q_t_net, .ref q_t_order, .ref q_t_bags, .ref q_t_law, .ref q_t_going, .ref q_t_plan, z_t_search, z_t_tally], oB q_t_net 4 [.ref q_t_net_loads, .ref q_t_net_near, .ref q_t_net_ties, .int t_net_size, .int t_net_edges], aI cA q_t_net_loads 14 t_net_loads, aI cA q_t_net_near 14 t_net_near, aI cA q_t_net_ties 196 t_net_ties]) := by
  refine MT.of (by decide) (Nat.le_of_ble_eq_true rfl) ?_
  intro X hXl C F hnm hrc hrs
  subst hXl
  have hk : 0 ≤ (x_R X).cells ∧ 0 ≤ (x_R X).slots := ⟨Nat.zero_le _, Nat.zero_le _⟩
  have hB : (sB (some (.int r)) [oB q_t 8 [.ref q_t_net, .ref q_t_order, .ref q_t_bags, .ref q_t_law, .ref q_t_going, .ref q_t_plan, z_t_search, z_t_tally], oB q_t_net 4 [.ref q_t_net_loads, .ref q_t_net_near, .ref q_t_net_ties, .int t_net_size, .int t_net_edges], aI cA q_t_net_loads 14 t_net_loads, aI cA q_t_net_near 14 t_net_near, aI cA q_t_net_ties 196 t_net_ties]) (some (.int r)) [oB q_t 8 [.ref q_t_net, .ref q_t_order, .ref q_t_bags, .ref q_t_law, .ref q_t_going, .ref q_t_plan, z_t_search, z_t_tally], oB q_t_net 4 [.ref q_t_net_loads, .ref q_t_net_near, .ref q_t_net_ties, .int t_net_size, .int t_net_edges], aI cA q_t_net_loads 14 t_net_loads, aI cA q_t_net_near 14 t_net_near, aI cA q_t_net_ties 196 t_net_ties] := ⟨rfl, rfl⟩
  unfold f_X8_weight at hf
  have C : Cx X cX8_weight RX8 (some .int) cA 2 43 3 := C
  show Go X 3 0 0 0 [oB q_t 8 [.ref q_t_net, .ref q_t_order, .ref q_t_bags, .ref q_t_law, .ref q_t_going, .ref q_t_plan, z_t_search, z_t_tally], oB q_t_net 4 [.ref q_t_net_loads, .ref q_t_net_near, .ref q_t_net_ties, .int t_net_size, .int t_net_edges], aI cA q_t_net_loads 14 t_net_loads, aI cA q_t_net_near 14 t_net_near, aI cA q_t_net_ties 196 t_net_ties] [(0, .ref q_t), (1, .int a1), (2, .int a2)] []
  refine g_iload_n C 0 1 dX8_weight_0 rfl rfl ?_
  refine g_iload_n C 1 2 dX8_weight_1 rfl rfl ?_
  refine g_icmp_ne C 2 30 dX8_weight_2 (by decide) hf (fun hf => ?_) (fun hf => ?_)
  · refine g_aload_n C 30 0 dX8_weight_30 rfl rfl ?_
    refine g_get C 31 0 0 dX8_weight_31 inX8 rfl rfl (by decide) kw_229 rfl ?_
    refine g_iload_n C 34 1 dX8_weight_34 rfl rfl ?_
    refine g_iload_n C 35 2 dX8_weight_35 rfl rfl ?_
    obtain ⟨u1, hu1, hf⟩ := cal_some hf
    refine g_callV1 C 36 [1, 3] 1 (rest := []) dX8_weight_36 (c_X4_joined (x_l X) cA q_t_net q_t_net_loads q_t_net_ties t_net_size t_net_edges q_t_net_near t_net_near a1 a2 u1 hu1) kw_250 kw_54 kw_55 kw_49 kw_56 ok_X4_joined ⟨Nat.le_of_ble_eq_true rfl, Nat.le_of_ble_eq_true rfl⟩ hk ⟨rfl, rfl⟩ rfl rfl rfl rfl rfl (Nat.le_of_ble_eq_true rfl) rfl (ws' := [oB q_t 8 [.ref q_t_net, .ref q_t_order, .ref q_t_bags, .ref q_t_law, .ref q_t_going, .ref q_t_plan, z_t_search, z_t_tally], oB q_t_net 4 [.ref q_t_net_loads, .ref q_t_net_near, .ref q_t_net_ties, .int t_net_size, .int t_net_edges], aI cA q_t_net_loads 14 t_net_loads, aI cA q_t_net_near 14 t_net_near, aI cA q_t_net_ties 196 t_net_ties]) (st' := [.int u1]) (N0 := 5) rfl [none, some 0, none, some 1, none] (by decide) rfl rfl ?_
    refine g_if_eq C 39 59 dX8_weight_39 (by decide) hf (fun hf => ?_) (fun hf => ?_)
    · refine g_iconst C 59 (-1 : Int32) dX8_weight_59 (by decide) ?_
      cases hf
      exact g_iret C 60 dX8_weight_60 F hB
    · refine g_aload_n C 42 0 dX8_weight_42 rfl rfl ?_
      refine g_get C 43 0 0 dX8_weight_43 inX8 rfl rfl (by decide) kw_229 rfl ?_
      refine g_get C 46 1 2 dX8_weight_46 inX4 rfl rfl (by decide) kw_256 rfl ?_
      refine g_iload_n C 49 1 dX8_weight_49 rfl rfl ?_
      refine g_bipush C 50 (14 : Int32) dX8_weight_50 (by decide) ?_
      refine g_imul C 52 dX8_weight_52 ?_
      refine g_iload_n C 53 2 dX8_weight_53 rfl rfl ?_
      refine g_iadd C 54 dX8_weight_54 ?_
      refine g_iald C 55 4 dX8_weight_55 rfl hf (fun v2 hf => ?_)
      refine g_goto C 56 60 dX8_weight_56 (by decide) ?_
      cases hf
      exact g_iret C 60 dX8_weight_60 F hB
  · refine g_aload_n C 5 0 dX8_weight_5 rfl rfl ?_
    refine g_get C 6 0 0 dX8_weight_6 inX8 rfl rfl (by decide) kw_229 rfl ?_
    refine g_iload_n C 9 1 dX8_weight_9 rfl rfl ?_
    obtain ⟨u3, hu3, hf⟩ := cal_some hf
    refine g_callV1 C 10 [1] 1 (rest := []) dX8_weight_10 (c_X4_has (x_l X) cA q_t_net q_t_net_loads q_t_net_near q_t_net_ties t_net_size t_net_edges a1 u3 hu3) kw_245 kw_47 kw_48 kw_49 kw_50 ok_X4_has ⟨Nat.le_of_ble_eq_true rfl, Nat.le_of_ble_eq_true rfl⟩ hk ⟨rfl, rfl⟩ rfl rfl rfl rfl rfl (Nat.le_of_ble_eq_true rfl) rfl (ws' := [oB q_t 8 [.ref q_t_net, .ref q_t_order, .ref q_t_bags, .ref q_t_law, .ref q_t_going, .ref q_t_plan, z_t_search, z_t_tally], oB q_t_net 4 [.ref q_t_net_loads, .ref q_t_net_near, .ref q_t_net_ties, .int t_net_size, .int t_net_edges], aI cA q_t_net_loads 14 t_net_loads, aI cA q_t_net_near 14 t_net_near, aI cA q_t_net_ties 196 t_net_ties]) (st' := [.int u3]) (N0 := 5) rfl [none, some 0, none, none, none] (by decide) rfl rfl ?_
    refine g_if_eq C 13 28 dX8_weight_13 (by decide) hf (fun hf => ?_) (fun hf => ?_)
    · refine g_iconst C 28 (-1 : Int32) dX8_weight_28 (by decide) ?_
      cases hf
      exact g_iret C 29 dX8_weight_29 F hB
    · refine g_aload_n C 16 0 dX8_weight_16 rfl rfl ?_
      refine g_get C 17 0 0 dX8_weight_17 inX8 rfl rfl (by decide) kw_229 rfl ?_
      refine g_get C 20 1 0 dX8_weight_20 inX4 rfl rfl (by decide) kw_255 rfl ?_
      refine g_iload_n C 23 1 dX8_weight_23 rfl rfl ?_
      refine g_iald C 24 2 dX8_weight_24 rfl hf (fun v4 hf => ?_)
      refine g_goto C 25 29 dX8_weight_25 (by decide) ?_
      cases hf
      exact g_iret C 29 dX8_weight_29 F hB

def f_X8_beside (a1 : Int32) (t_net_size : Int32) (t_net_near : Nat → Int32) : Option (Int32) :=
  cal (f_X4_has a1 t_net_size) fun u1 =>
  if u1 = 0 then
    some ((-1 : Int32))
  else
    ldA t_net_near 14 a1 fun v2 =>
    some (v2)

set_option maxRecDepth 100000 in
set_option maxHeartbeats 1000000 in
theorem c_X8_beside (l : Launch) (cA : Nat → ClassId) (q_t : Nat) (q_t_order : Nat) (q_t_bags : Nat) (q_t_law : Nat) (q_t_going : Nat) (q_t_plan : Nat) (z_t_search : Value) (z_t_tally : Value) (q_t_net : Nat) (q_t_net_loads : Nat) (q_t_net_ties : Nat) (t_net_size : Int32) (t_net_edges : Int32) (q_t_net_near : Nat) (t_net_near : Nat → Int32)  (a1 : Int32) (r : Int32) (hf : f_X8_beside a1 t_net_size t_net_near = some r) : MT l cA yX8_beside cX8_beside 2 (some .int) ({ frames := 1, cells := 0, slots := 0, locals := 21 } : Room) [.ref q_t, .int a1] [oB q_t 8 [.ref q_t_net, .ref q_t_order, .ref q_t_bags, .ref q_t_law, .ref q_t_going, .ref q_t_plan, z_t_search, z_t_tally], oB q_t_net 4 [.ref q_t_net_loads, .ref q_t_net_near, .ref q_t_net_ties, .int t_net_size, .int t_net_edges], aI cA q_t_net_near 14 t_net_near] (sB (some (.int r)) [oB q_t 8 [.ref q_t_net, .ref q_t_order, .ref q_t_bags, .ref q_t_law, .ref q_t_going, .ref q_t_plan, z_t_search, z_t_tally], oB q_t_net 4 [.ref q_t_net_loads, .ref q_t_net_near, .ref q_t_net_ties, .int t_net_size, .int t_net_edges], aI cA q_t_net_near 14 t_net_near]) := by
  refine MT.of (by decide) (Nat.le_of_ble_eq_true rfl) ?_
  intro X hXl C F hnm hrc hrs
  subst hXl
  have hk : 0 ≤ (x_R X).cells ∧ 0 ≤ (x_R X).slots := ⟨Nat.zero_le _, Nat.zero_le _⟩
  have hB : (sB (some (.int r)) [oB q_t 8 [.ref q_t_net, .ref q_t_order, .ref q_t_bags, .ref q_t_law, .ref q_t_going, .ref q_t_plan, z_t_search, z_t_tally], oB q_t_net 4 [.ref q_t_net_loads, .ref q_t_net_near, .ref q_t_net_ties, .int t_net_size, .int t_net_edges], aI cA q_t_net_near 14 t_net_near]) (some (.int r)) [oB q_t 8 [.ref q_t_net, .ref q_t_order, .ref q_t_bags, .ref q_t_law, .ref q_t_going, .ref q_t_plan, z_t_search, z_t_tally], oB q_t_net 4 [.ref q_t_net_loads, .ref q_t_net_near, .ref q_t_net_ties, .int t_net_size, .int t_net_edges], aI cA q_t_net_near 14 t_net_near] := ⟨rfl, rfl⟩
  unfold f_X8_beside at hf
  have C : Cx X cX8_beside RX8 (some .int) cA 1 21 2 := C
  show Go X 2 0 0 0 [oB q_t 8 [.ref q_t_net, .ref q_t_order, .ref q_t_bags, .ref q_t_law, .ref q_t_going, .ref q_t_plan, z_t_search, z_t_tally], oB q_t_net 4 [.ref q_t_net_loads, .ref q_t_net_near, .ref q_t_net_ties, .int t_net_size, .int t_net_edges], aI cA q_t_net_near 14 t_net_near] [(0, .ref q_t), (1, .int a1)] []
  refine g_aload_n C 0 0 dX8_beside_0 rfl rfl ?_
  refine g_get C 1 0 0 dX8_beside_1 inX8 rfl rfl (by decide) kw_229 rfl ?_
  refine g_iload_n C 4 1 dX8_beside_4 rfl rfl ?_
  obtain ⟨u1, hu1, hf⟩ := cal_some hf
  refine g_callV1 C 5 [1] 1 (rest := []) dX8_beside_5 (c_X4_has (x_l X) cA q_t_net q_t_net_loads q_t_net_near q_t_net_ties t_net_size t_net_edges a1 u1 hu1) kw_245 kw_47 kw_48 kw_49 kw_50 ok_X4_has ⟨Nat.le_of_ble_eq_true rfl, Nat.le_of_ble_eq_true rfl⟩ hk ⟨rfl, rfl⟩ rfl rfl rfl rfl rfl (Nat.le_of_ble_eq_true rfl) rfl (ws' := [oB q_t 8 [.ref q_t_net, .ref q_t_order, .ref q_t_bags, .ref q_t_law, .ref q_t_going, .ref q_t_plan, z_t_search, z_t_tally], oB q_t_net 4 [.ref q_t_net_loads, .ref q_t_net_near, .ref q_t_net_ties, .int t_net_size, .int t_net_edges], aI cA q_t_net_near 14 t_net_near]) (st' := [.int u1]) (N0 := 3) rfl [none, some 0, none] (by decide) rfl rfl ?_
  refine g_if_eq C 8 23 dX8_beside_8 (by decide) hf (fun hf => ?_) (fun hf => ?_)
  · refine g_iconst C 23 (-1 : Int32) dX8_beside_23 (by decide) ?_
    cases hf
    exact g_iret C 24 dX8_beside_24 F hB
  · refine g_aload_n C 11 0 dX8_beside_11 rfl rfl ?_
    refine g_get C 12 0 0 dX8_beside_12 inX8 rfl rfl (by decide) kw_229 rfl ?_
    refine g_get C 15 1 1 dX8_beside_15 inX4 rfl rfl (by decide) kw_257 rfl ?_
    refine g_iload_n C 18 1 dX8_beside_18 rfl rfl ?_
    refine g_iald C 19 2 dX8_beside_19 rfl hf (fun v2 hf => ?_)
    refine g_goto C 20 24 dX8_beside_20 (by decide) ?_
    cases hf
    exact g_iret C 24 dX8_beside_24 F hB

def f_X8_put (a1 : Int32) (t_net_size : Int32) (t_order_size : Int32) (t_order_held : Int32) (t_order_knots : Nat → Int32) : Option (Int32 × Int32 × Int32 × (Nat → Int32)) :=
  cal (f_X4_has a1 t_net_size) fun u1 =>
  if u1 = 0 then
    some ((-1 : Int32), t_order_size, t_order_held, t_order_knots)
  else
    cal (f_X2_holds a1 t_order_held) fun u2 =>
    if u2 = 0 then
      cal (f_X2_append a1 t_order_size t_order_held t_order_knots) fun u3 =>
      some (u3.1, u3.1, u3.2.1, u3.2.2)
    else
      some ((-2 : Int32), t_order_size, t_order_held, t_order_knots)

set_option maxRecDepth 100000 in
set_option maxHeartbeats 1000000 in
theorem c_X8_put (l : Launch) (cA : Nat → ClassId) (q_t : Nat) (q_t_bags : Nat) (q_t_law : Nat) (q_t_going : Nat) (q_t_plan : Nat) (z_t_search : Value) (z_t_tally : Value) (q_t_net : Nat) (q_t_net_loads : Nat) (q_t_net_near : Nat) (q_t_net_ties : Nat) (t_net_size : Int32) (t_net_edges : Int32) (q_t_order : Nat) (t_order_size : Int32) (t_order_held : Int32) (q_t_order_knots : Nat) (t_order_knots : Nat → Int32)  (a1 : Int32) (r : Int32 × Int32 × Int32 × (Nat → Int32)) (hf : f_X8_put a1 t_net_size t_order_size t_order_held t_order_knots = some r) : MT l cA yX8_put cX8_put 2 (some .int) ({ frames := 2, cells := 0, slots := 0, locals := 42 } : Room) [.ref q_t, .int a1] [oB q_t 8 [.ref q_t_net, .ref q_t_order, .ref q_t_bags, .ref q_t_law, .ref q_t_going, .ref q_t_plan, z_t_search, z_t_tally], oB q_t_net 4 [.ref q_t_net_loads, .ref q_t_net_near, .ref q_t_net_ties, .int t_net_size, .int t_net_edges], oB q_t_order 2 [.ref q_t_order_knots, .int t_order_size, .int t_order_held], aI cA q_t_order_knots 14 t_order_knots] (sB (some (.int r.1)) [oB q_t 8 [.ref q_t_net, .ref q_t_order, .ref q_t_bags, .ref q_t_law, .ref q_t_going, .ref q_t_plan, z_t_search, z_t_tally], oB q_t_net 4 [.ref q_t_net_loads, .ref q_t_net_near, .ref q_t_net_ties, .int t_net_size, .int t_net_edges], oB q_t_order 2 [.ref q_t_order_knots, .int r.2.1, .int r.2.2.1], aI cA q_t_order_knots 14 r.2.2.2]) := by
  refine MT.of (by decide) (Nat.le_of_ble_eq_true rfl) ?_
  intro X hXl C F hnm hrc hrs
  subst hXl
  have hk : 0 ≤ (x_R X).cells ∧ 0 ≤ (x_R X).slots := ⟨Nat.zero_le _, Nat.zero_le _⟩
  have hB : (sB (some (.int r.1)) [oB q_t 8 [.ref q_t_net, .ref q_t_order, .ref q_t_bags, .ref q_t_law, .ref q_t_going, .ref q_t_plan, z_t_search, z_t_tally], oB q_t_net 4 [.ref q_t_net_loads, .ref q_t_net_near, .ref q_t_net_ties, .int t_net_size, .int t_net_edges], oB q_t_order 2 [.ref q_t_order_knots, .int r.2.1, .int r.2.2.1], aI cA q_t_order_knots 14 r.2.2.2]) (some (.int r.1)) [oB q_t 8 [.ref q_t_net, .ref q_t_order, .ref q_t_bags, .ref q_t_law, .ref q_t_going, .ref q_t_plan, z_t_search, z_t_tally], oB q_t_net 4 [.ref q_t_net_loads, .ref q_t_net_near, .ref q_t_net_ties, .int t_net_size, .int t_net_edges], oB q_t_order 2 [.ref q_t_order_knots, .int r.2.1, .int r.2.2.1], aI cA q_t_order_knots 14 r.2.2.2] := ⟨rfl, rfl⟩
  unfold f_X8_put at hf
  have C : Cx X cX8_put RX8 (some .int) cA 2 42 2 := C
  show Go X 2 0 0 0 [oB q_t 8 [.ref q_t_net, .ref q_t_order, .ref q_t_bags, .ref q_t_law, .ref q_t_going, .ref q_t_plan, z_t_search, z_t_tally], oB q_t_net 4 [.ref q_t_net_loads, .ref q_t_net_near, .ref q_t_net_ties, .int t_net_size, .int t_net_edges], oB q_t_order 2 [.ref q_t_order_knots, .int t_order_size, .int t_order_held], aI cA q_t_order_knots 14 t_order_knots] [(0, .ref q_t), (1, .int a1)] []
  refine g_aload_n C 0 0 dX8_put_0 rfl rfl ?_
  refine g_get C 1 0 0 dX8_put_1 inX8 rfl rfl (by decide) kw_229 rfl ?_
  refine g_iload_n C 4 1 dX8_put_4 rfl rfl ?_
  obtain ⟨u1, hu1, hf⟩ := cal_some hf
  refine g_callV1 C 5 [1] 1 (rest := []) dX8_put_5 (c_X4_has (x_l X) cA q_t_net q_t_net_loads q_t_net_near q_t_net_ties t_net_size t_net_edges a1 u1 hu1) kw_245 kw_47 kw_48 kw_49 kw_50 ok_X4_has ⟨Nat.le_of_ble_eq_true rfl, Nat.le_of_ble_eq_true rfl⟩ hk ⟨rfl, rfl⟩ rfl rfl rfl rfl rfl (Nat.le_of_ble_eq_true rfl) rfl (ws' := [oB q_t 8 [.ref q_t_net, .ref q_t_order, .ref q_t_bags, .ref q_t_law, .ref q_t_going, .ref q_t_plan, z_t_search, z_t_tally], oB q_t_net 4 [.ref q_t_net_loads, .ref q_t_net_near, .ref q_t_net_ties, .int t_net_size, .int t_net_edges], oB q_t_order 2 [.ref q_t_order_knots, .int t_order_size, .int t_order_held], aI cA q_t_order_knots 14 t_order_knots]) (st' := [.int u1]) (N0 := 4) rfl [none, some 0, none, none] (by decide) rfl rfl ?_
  refine g_if_ne C 8 13 dX8_put_8 (by decide) hf (fun hf => ?_) (fun hf => ?_)
  · refine g_aload_n C 13 0 dX8_put_13 rfl rfl ?_
    refine g_get C 14 0 1 dX8_put_14 inX8 rfl rfl (by decide) kw_231 rfl ?_
    refine g_iload_n C 17 1 dX8_put_17 rfl rfl ?_
    obtain ⟨u2, hu2, hf⟩ := cal_some hf
    refine g_callV1 C 18 [2] 2 (rest := []) dX8_put_18 (c_X2_holds (x_l X) cA q_t_order q_t_order_knots t_order_size t_order_held a1 u2 hu2) kw_258 kw_259 kw_260 kw_29 kw_261 ok_X2_holds ⟨Nat.le_of_ble_eq_true rfl, Nat.le_of_ble_eq_true rfl⟩ hk ⟨rfl, rfl⟩ rfl rfl rfl rfl rfl (Nat.le_of_ble_eq_true rfl) rfl (ws' := [oB q_t 8 [.ref q_t_net, .ref q_t_order, .ref q_t_bags, .ref q_t_law, .ref q_t_going, .ref q_t_plan, z_t_search, z_t_tally], oB q_t_net 4 [.ref q_t_net_loads, .ref q_t_net_near, .ref q_t_net_ties, .int t_net_size, .int t_net_edges], oB q_t_order 2 [.ref q_t_order_knots, .int t_order_size, .int t_order_held], aI cA q_t_order_knots 14 t_order_knots]) (st' := [.int u2]) (N0 := 4) rfl [none, none, some 0, none] (by decide) rfl rfl ?_
    refine g_if_eq C 21 27 dX8_put_21 (by decide) hf (fun hf => ?_) (fun hf => ?_)
    · refine g_aload_n C 27 0 dX8_put_27 rfl rfl ?_
      refine g_get C 28 0 1 dX8_put_28 inX8 rfl rfl (by decide) kw_231 rfl ?_
      refine g_iload_n C 31 1 dX8_put_31 rfl rfl ?_
      obtain ⟨u3, hu3, hf⟩ := cal_some hf
      refine g_callV1 C 32 [2, 3] 2 (rest := []) dX8_put_32 (c_X2_append (x_l X) cA q_t_order t_order_size t_order_held q_t_order_knots t_order_knots a1 u3 hu3) kw_262 kw_263 kw_264 kw_29 kw_265 ok_X2_append ⟨Nat.le_of_ble_eq_true rfl, Nat.le_of_ble_eq_true rfl⟩ hk ⟨rfl, rfl⟩ rfl rfl rfl rfl rfl (Nat.le_of_ble_eq_true rfl) rfl (ws' := [oB q_t 8 [.ref q_t_net, .ref q_t_order, .ref q_t_bags, .ref q_t_law, .ref q_t_going, .ref q_t_plan, z_t_search, z_t_tally], oB q_t_net 4 [.ref q_t_net_loads, .ref q_t_net_near, .ref q_t_net_ties, .int t_net_size, .int t_net_edges], oB q_t_order 2 [.ref q_t_order_knots, .int u3.1, .int u3.2.1], aI cA q_t_order_knots 14 u3.2.2]) (st' := []) (N0 := 4) rfl [none, none, some 0, some 1] (by decide) rfl rfl ?_
      refine g_aload_n C 35 0 dX8_put_35 rfl rfl ?_
      refine g_get C 36 0 1 dX8_put_36 inX8 rfl rfl (by decide) kw_231 rfl ?_
      refine g_get C 39 2 1 dX8_put_39 inX2 rfl rfl (by decide) kw_266 rfl ?_
      cases hf
      exact g_iret C 42 dX8_put_42 F hB
    · refine g_bipush C 24 (-2 : Int32) dX8_put_24 (by decide) ?_
      cases hf
      exact g_iret C 26 dX8_put_26 F hB
  · refine g_iconst C 11 (-1 : Int32) dX8_put_11 (by decide) ?_
    cases hf
    exact g_iret C 12 dX8_put_12 F hB

def f_X8_wipe (t_order_size : Int32) (t_order_held : Int32) : Option (Int32 × Int32 × Int32) :=
  bnd t_order_size fun x1_1 =>
  cal (f_X2_empty t_order_size t_order_held) fun u2 =>
  some (x1_1, u2.1, u2.2)

set_option maxRecDepth 100000 in
set_option maxHeartbeats 1000000 in
theorem c_X8_wipe (l : Launch) (cA : Nat → ClassId) (q_t : Nat) (q_t_net : Nat) (q_t_bags : Nat) (q_t_law : Nat) (q_t_going : Nat) (q_t_plan : Nat) (z_t_search : Value) (z_t_tally : Value) (q_t_order : Nat) (q_t_order_knots : Nat) (t_order_size : Int32) (t_order_held : Int32)   (r : Int32 × Int32 × Int32) (hf : f_X8_wipe t_order_size t_order_held = some r) : MT l cA yX8_wipe cX8_wipe 2 (some .int) ({ frames := 1, cells := 0, slots := 0, locals := 20 } : Room) [.ref q_t] [oB q_t 8 [.ref q_t_net, .ref q_t_order, .ref q_t_bags, .ref q_t_law, .ref q_t_going, .ref q_t_plan, z_t_search, z_t_tally], oB q_t_order 2 [.ref q_t_order_knots, .int t_order_size, .int t_order_held]] (sB (some (.int r.1)) [oB q_t 8 [.ref q_t_net, .ref q_t_order, .ref q_t_bags, .ref q_t_law, .ref q_t_going, .ref q_t_plan, z_t_search, z_t_tally], oB q_t_order 2 [.ref q_t_order_knots, .int r.2.1, .int r.2.2]]) := by
  refine MT.of (by decide) (Nat.le_of_ble_eq_true rfl) ?_
  intro X hXl C F hnm hrc hrs
  subst hXl
  have hk : 0 ≤ (x_R X).cells ∧ 0 ≤ (x_R X).slots := ⟨Nat.zero_le _, Nat.zero_le _⟩
  have hB : (sB (some (.int r.1)) [oB q_t 8 [.ref q_t_net, .ref q_t_order, .ref q_t_bags, .ref q_t_law, .ref q_t_going, .ref q_t_plan, z_t_search, z_t_tally], oB q_t_order 2 [.ref q_t_order_knots, .int r.2.1, .int r.2.2]]) (some (.int r.1)) [oB q_t 8 [.ref q_t_net, .ref q_t_order, .ref q_t_bags, .ref q_t_law, .ref q_t_going, .ref q_t_plan, z_t_search, z_t_tally], oB q_t_order 2 [.ref q_t_order_knots, .int r.2.1, .int r.2.2]] := ⟨rfl, rfl⟩
  unfold f_X8_wipe at hf
  have C : Cx X cX8_wipe RX8 (some .int) cA 1 20 2 := C
  show Go X 2 0 0 0 [oB q_t 8 [.ref q_t_net, .ref q_t_order, .ref q_t_bags, .ref q_t_law, .ref q_t_going, .ref q_t_plan, z_t_search, z_t_tally], oB q_t_order 2 [.ref q_t_order_knots, .int t_order_size, .int t_order_held]] [(0, .ref q_t)] []
  refine g_aload_n C 0 0 dX8_wipe_0 rfl rfl ?_
  refine g_get C 1 0 1 dX8_wipe_1 inX8 rfl rfl (by decide) kw_231 rfl ?_
  refine g_get C 4 1 1 dX8_wipe_4 inX2 rfl rfl (by decide) kw_266 rfl ?_
  refine g_istore_n C 7 (fun z => [(1, .int z), (0, .ref q_t)]) dX8_wipe_7 rfl (by decide) (fun _ => rfl) hf (fun x1_1 hf => ?_)
  refine g_aload_n C 8 1 dX8_wipe_8 rfl rfl ?_
  refine g_get C 9 0 1 dX8_wipe_9 inX8 rfl rfl (by decide) kw_231 rfl ?_
  obtain ⟨u2, hu2, hf⟩ := cal_some hf
  refine g_callV1 C 12 [1] 1 (rest := []) dX8_wipe_12 (c_X2_empty (x_l X) cA q_t_order q_t_order_knots t_order_size t_order_held u2 hu2) kw_232 kw_233 kw_234 kw_29 kw_235 ok_X2_empty ⟨Nat.le_of_ble_eq_true rfl, Nat.le_of_ble_eq_true rfl⟩ hk ⟨rfl, rfl⟩ rfl rfl rfl rfl rfl (Nat.le_of_ble_eq_true rfl) rfl (ws' := [oB q_t 8 [.ref q_t_net, .ref q_t_order, .ref q_t_bags, .ref q_t_law, .ref q_t_going, .ref q_t_plan, z_t_search, z_t_tally], oB q_t_order 2 [.ref q_t_order_knots, .int u2.1, .int u2.2]]) (st' := []) (N0 := 2) rfl [none, some 0] (by decide) rfl rfl ?_
  refine g_iload_n C 15 0 dX8_wipe_15 rfl rfl ?_
  cases hf
  exact g_iret C 16 dX8_wipe_16 F hB

def f_X8_make (t_net_size : Int32) (t_net_near : Nat → Int32) (t_order_size : Int32) (t_order_knots : Nat → Int32) (t_bags_size : Int32) (t_bags_masks : Nat → Int32) (t_bags_ups : Nat → Int32) (t_going_left : Int32) (t_going_newEnds : Int32) (t_going_near : Nat → Int32) : Option (Int32 × Int32 × (Nat → Int32) × (Nat → Int32) × Int32 × Int32 × (Nat → Int32)) :=
  if t_net_size = 0 then
    some ((-4 : Int32), t_bags_size, t_bags_masks, t_bags_ups, t_going_left, t_going_newEnds, t_going_near)
  else
    if t_order_size = t_net_size then
      cal (f_X1_start t_going_left t_going_newEnds t_going_near t_net_size t_net_near) fun u1 =>
      cal (f_X0_takeApart t_bags_size t_bags_masks t_bags_ups t_order_size t_order_knots u1.1 u1.2.1 u1.2.2) fun u2 =>
      cal (f_X0_mostKnots u2.1 u2.2.1) fun u3 =>
      some ((u3 - (1 : Int32)), u2.1, u2.2.1, u2.2.2.1, u2.2.2.2.1, u2.2.2.2.2.1, u2.2.2.2.2.2)
    else
      some ((-4 : Int32), t_bags_size, t_bags_masks, t_bags_ups, t_going_left, t_going_newEnds, t_going_near)

set_option maxRecDepth 100000 in
set_option maxHeartbeats 1000000 in
theorem c_X8_make (l : Launch) (cA : Nat → ClassId) (q_t : Nat) (q_t_law : Nat) (q_t_plan : Nat) (z_t_search : Value) (z_t_tally : Value) (q_t_net : Nat) (q_t_net_loads : Nat) (q_t_net_ties : Nat) (t_net_size : Int32) (t_net_edges : Int32) (q_t_net_near : Nat) (t_net_near : Nat → Int32) (q_t_order : Nat) (t_order_size : Int32) (t_order_held : Int32) (q_t_order_knots : Nat) (t_order_knots : Nat → Int32) (q_t_bags : Nat) (t_bags_size : Int32) (q_t_bags_masks : Nat) (t_bags_masks : Nat → Int32) (q_t_bags_ups : Nat) (t_bags_ups : Nat → Int32) (q_t_going : Nat) (t_going_left : Int32) (t_going_newEnds : Int32) (q_t_going_near : Nat) (t_going_near : Nat → Int32)   (r : Int32 × Int32 × (Nat → Int32) × (Nat → Int32) × Int32 × Int32 × (Nat → Int32)) (hf : f_X8_make t_net_size t_net_near t_order_size t_order_knots t_bags_size t_bags_masks t_bags_ups t_going_left t_going_newEnds t_going_near = some r) : MT l cA yX8_make cX8_make 1 (some .int) ({ frames := 4, cells := 0, slots := 0, locals := 93 } : Room) [.ref q_t] [oB q_t 8 [.ref q_t_net, .ref q_t_order, .ref q_t_bags, .ref q_t_law, .ref q_t_going, .ref q_t_plan, z_t_search, z_t_tally], oB q_t_net 4 [.ref q_t_net_loads, .ref q_t_net_near, .ref q_t_net_ties, .int t_net_size, .int t_net_edges], aI cA q_t_net_near 14 t_net_near, oB q_t_order 2 [.ref q_t_order_knots, .int t_order_size, .int t_order_held], aI cA q_t_order_knots 14 t_order_knots, oB q_t_bags 0 [.ref q_t_bags_masks, .ref q_t_bags_ups, .int t_bags_size], aI cA q_t_bags_masks 14 t_bags_masks, aI cA q_t_bags_ups 14 t_bags_ups, oB q_t_going 1 [.ref q_t_going_near, .int t_going_left, .int t_going_newEnds], aI cA q_t_going_near 14 t_going_near] (sB (some (.int r.1)) [oB q_t 8 [.ref q_t_net, .ref q_t_order, .ref q_t_bags, .ref q_t_law, .ref q_t_going, .ref q_t_plan, z_t_search, z_t_tally], oB q_t_net 4 [.ref q_t_net_loads, .ref q_t_net_near, .ref q_t_net_ties, .int t_net_size, .int t_net_edges], aI cA q_t_net_near 14 t_net_near, oB q_t_order 2 [.ref q_t_order_knots, .int t_order_size, .int t_order_held], aI cA q_t_order_knots 14 t_order_knots, oB q_t_bags 0 [.ref q_t_bags_masks, .ref q_t_bags_ups, .int r.2.1], aI cA q_t_bags_masks 14 r.2.2.1, aI cA q_t_bags_ups 14 r.2.2.2.1, oB q_t_going 1 [.ref q_t_going_near, .int r.2.2.2.2.1, .int r.2.2.2.2.2.1], aI cA q_t_going_near 14 r.2.2.2.2.2.2]) := by
  refine MT.of (by decide) (Nat.le_of_ble_eq_true rfl) ?_
  intro X hXl C F hnm hrc hrs
  subst hXl
  have hk : 0 ≤ (x_R X).cells ∧ 0 ≤ (x_R X).slots := ⟨Nat.zero_le _, Nat.zero_le _⟩
  have hB : (sB (some (.int r.1)) [oB q_t 8 [.ref q_t_net, .ref q_t_order, .ref q_t_bags, .ref q_t_law, .ref q_t_going, .ref q_t_plan, z_t_search, z_t_tally], oB q_t_net 4 [.ref q_t_net_loads, .ref q_t_net_near, .ref q_t_net_ties, .int t_net_size, .int t_net_edges], aI cA q_t_net_near 14 t_net_near, oB q_t_order 2 [.ref q_t_order_knots, .int t_order_size, .int t_order_held], aI cA q_t_order_knots 14 t_order_knots, oB q_t_bags 0 [.ref q_t_bags_masks, .ref q_t_bags_ups, .int r.2.1], aI cA q_t_bags_masks 14 r.2.2.1, aI cA q_t_bags_ups 14 r.2.2.2.1, oB q_t_going 1 [.ref q_t_going_near, .int r.2.2.2.2.1, .int r.2.2.2.2.2.1], aI cA q_t_going_near 14 r.2.2.2.2.2.2]) (some (.int r.1)) [oB q_t 8 [.ref q_t_net, .ref q_t_order, .ref q_t_bags, .ref q_t_law, .ref q_t_going, .ref q_t_plan, z_t_search, z_t_tally], oB q_t_net 4 [.ref q_t_net_loads, .ref q_t_net_near, .ref q_t_net_ties, .int t_net_size, .int t_net_edges], aI cA q_t_net_near 14 t_net_near, oB q_t_order 2 [.ref q_t_order_knots, .int t_order_size, .int t_order_held], aI cA q_t_order_knots 14 t_order_knots, oB q_t_bags 0 [.ref q_t_bags_masks, .ref q_t_bags_ups, .int r.2.1], aI cA q_t_bags_masks 14 r.2.2.1, aI cA q_t_bags_ups 14 r.2.2.2.1, oB q_t_going 1 [.ref q_t_going_near, .int r.2.2.2.2.1, .int r.2.2.2.2.2.1], aI cA q_t_going_near 14 r.2.2.2.2.2.2] := ⟨rfl, rfl⟩
  unfold f_X8_make at hf
  have C : Cx X cX8_make RX8 (some .int) cA 4 93 1 := C
  show Go X 1 0 0 0 [oB q_t 8 [.ref q_t_net, .ref q_t_order, .ref q_t_bags, .ref q_t_law, .ref q_t_going, .ref q_t_plan, z_t_search, z_t_tally], oB q_t_net 4 [.ref q_t_net_loads, .ref q_t_net_near, .ref q_t_net_ties, .int t_net_size, .int t_net_edges], aI cA q_t_net_near 14 t_net_near, oB q_t_order 2 [.ref q_t_order_knots, .int t_order_size, .int t_order_held], aI cA q_t_order_knots 14 t_order_knots, oB q_t_bags 0 [.ref q_t_bags_masks, .ref q_t_bags_ups, .int t_bags_size], aI cA q_t_bags_masks 14 t_bags_masks, aI cA q_t_bags_ups 14 t_bags_ups, oB q_t_going 1 [.ref q_t_going_near, .int t_going_left, .int t_going_newEnds], aI cA q_t_going_near 14 t_going_near] [(0, .ref q_t)] []
  refine g_aload_n C 0 0 dX8_make_0 rfl rfl ?_
  refine g_get C 1 0 0 dX8_make_1 inX8 rfl rfl (by decide) kw_229 rfl ?_
  refine g_get C 4 1 3 dX8_make_4 inX4 rfl rfl (by decide) kw_230 rfl ?_
  refine g_if_eq C 7 27 dX8_make_7 (by decide) hf (fun hf => ?_) (fun hf => ?_)
  · refine g_bipush C 27 (-4 : Int32) dX8_make_27 (by decide) ?_
    cases hf
    exact g_iret C 29 dX8_make_29 F hB
  · refine g_aload_n C 10 0 dX8_make_10 rfl rfl ?_
    refine g_get C 11 0 1 dX8_make_11 inX8 rfl rfl (by decide) kw_231 rfl ?_
    refine g_get C 14 3 1 dX8_make_14 inX2 rfl rfl (by decide) kw_266 rfl ?_
    refine g_aload_n C 17 0 dX8_make_17 rfl rfl ?_
    refine g_get C 18 0 0 dX8_make_18 inX8 rfl rfl (by decide) kw_229 rfl ?_
    refine g_get C 21 1 3 dX8_make_21 inX4 rfl rfl (by decide) kw_230 rfl ?_
    refine g_icmp_eq C 24 30 dX8_make_24 (by decide) hf (fun hf => ?_) (fun hf => ?_)
    · refine g_aload_n C 30 0 dX8_make_30 rfl rfl ?_
      refine g_get C 31 0 4 dX8_make_31 inX8 rfl rfl (by decide) kw_267 rfl ?_
      refine g_aload_n C 34 0 dX8_make_34 rfl rfl ?_
      refine g_get C 35 0 0 dX8_make_35 inX8 rfl rfl (by decide) kw_229 rfl ?_
      obtain ⟨u1, hu1, hf⟩ := cal_some hf
      refine g_callV1 C 38 [8, 9, 1, 2] 8 (rest := []) dX8_make_38 (c_X1_start (x_l X) cA q_t_going t_going_left t_going_newEnds q_t_going_near t_going_near q_t_net q_t_net_loads q_t_net_ties t_net_size t_net_edges q_t_net_near t_net_near u1 hu1) kw_268 kw_125 kw_126 kw_16 kw_127 ok_X1_start ⟨Nat.le_of_ble_eq_true rfl, Nat.le_of_ble_eq_true rfl⟩ hk ⟨rfl, rfl⟩ rfl rfl rfl rfl rfl (Nat.le_of_ble_eq_true rfl) rfl (ws' := [oB q_t 8 [.ref q_t_net, .ref q_t_order, .ref q_t_bags, .ref q_t_law, .ref q_t_going, .ref q_t_plan, z_t_search, z_t_tally], oB q_t_net 4 [.ref q_t_net_loads, .ref q_t_net_near, .ref q_t_net_ties, .int t_net_size, .int t_net_edges], aI cA q_t_net_near 14 t_net_near, oB q_t_order 2 [.ref q_t_order_knots, .int t_order_size, .int t_order_held], aI cA q_t_order_knots 14 t_order_knots, oB q_t_bags 0 [.ref q_t_bags_masks, .ref q_t_bags_ups, .int t_bags_size], aI cA q_t_bags_masks 14 t_bags_masks, aI cA q_t_bags_ups 14 t_bags_ups, oB q_t_going 1 [.ref q_t_going_near, .int u1.1, .int u1.2.1], aI cA q_t_going_near 14 u1.2.2]) (st' := []) (N0 := 10) rfl [none, some 2, some 3, none, none, none, none, none, some 0, some 1] (by decide) rfl rfl ?_
      refine g_aload_n C 41 0 dX8_make_41 rfl rfl ?_
      refine g_get C 42 0 2 dX8_make_42 inX8 rfl rfl (by decide) kw_236 rfl ?_
      refine g_aload_n C 45 0 dX8_make_45 rfl rfl ?_
      refine g_get C 46 0 1 dX8_make_46 inX8 rfl rfl (by decide) kw_231 rfl ?_
      refine g_aload_n C 49 0 dX8_make_49 rfl rfl ?_
      refine g_get C 50 0 4 dX8_make_50 inX8 rfl rfl (by decide) kw_267 rfl ?_
      obtain ⟨u2, hu2, hf⟩ := cal_some hf
      refine g_callV1 C 53 [5, 6, 7, 3, 4, 8, 9] 5 (rest := []) dX8_make_53 (c_X0_takeApart (x_l X) cA q_t_bags t_bags_size q_t_bags_masks t_bags_masks q_t_bags_ups t_bags_ups q_t_order t_order_size t_order_held q_t_order_knots t_order_knots q_t_going u1.1 u1.2.1 q_t_going_near u1.2.2 u2 hu2) kw_269 kw_270 kw_271 kw_43 kw_272 ok_X0_takeApart ⟨Nat.le_of_ble_eq_true rfl, Nat.le_of_ble_eq_true rfl⟩ hk ⟨rfl, rfl⟩ rfl rfl rfl rfl rfl (Nat.le_of_ble_eq_true rfl) rfl (ws' := [oB q_t 8 [.ref q_t_net, .ref q_t_order, .ref q_t_bags, .ref q_t_law, .ref q_t_going, .ref q_t_plan, z_t_search, z_t_tally], oB q_t_net 4 [.ref q_t_net_loads, .ref q_t_net_near, .ref q_t_net_ties, .int t_net_size, .int t_net_edges], aI cA q_t_net_near 14 t_net_near, oB q_t_order 2 [.ref q_t_order_knots, .int t_order_size, .int t_order_held], aI cA q_t_order_knots 14 t_order_knots, oB q_t_bags 0 [.ref q_t_bags_masks, .ref q_t_bags_ups, .int u2.1], aI cA q_t_bags_masks 14 u2.2.1, aI cA q_t_bags_ups 14 u2.2.2.1, oB q_t_going 1 [.ref q_t_going_near, .int u2.2.2.2.1, .int u2.2.2.2.2.1], aI cA q_t_going_near 14 u2.2.2.2.2.2]) (st' := []) (N0 := 10) rfl [none, none, none, some 3, some 4, some 0, some 1, some 2, some 5, some 6] (by decide) rfl rfl ?_
      refine g_aload_n C 56 0 dX8_make_56 rfl rfl ?_
      refine g_get C 57 0 2 dX8_make_57 inX8 rfl rfl (by decide) kw_236 rfl ?_
      obtain ⟨u3, hu3, hf⟩ := cal_some hf
      refine g_callV1 C 60 [5, 6] 5 (rest := []) dX8_make_60 (c_X0_mostKnots (x_l X) cA q_t_bags q_t_bags_ups u2.1 q_t_bags_masks u2.2.1 u3 hu3) kw_273 kw_274 kw_275 kw_43 kw_276 ok_X0_mostKnots ⟨Nat.le_of_ble_eq_true rfl, Nat.le_of_ble_eq_true rfl⟩ hk ⟨rfl, rfl⟩ rfl rfl rfl rfl rfl (Nat.le_of_ble_eq_true rfl) rfl (ws' := [oB q_t 8 [.ref q_t_net, .ref q_t_order, .ref q_t_bags, .ref q_t_law, .ref q_t_going, .ref q_t_plan, z_t_search, z_t_tally], oB q_t_net 4 [.ref q_t_net_loads, .ref q_t_net_near, .ref q_t_net_ties, .int t_net_size, .int t_net_edges], aI cA q_t_net_near 14 t_net_near, oB q_t_order 2 [.ref q_t_order_knots, .int t_order_size, .int t_order_held], aI cA q_t_order_knots 14 t_order_knots, oB q_t_bags 0 [.ref q_t_bags_masks, .ref q_t_bags_ups, .int u2.1], aI cA q_t_bags_masks 14 u2.2.1, aI cA q_t_bags_ups 14 u2.2.2.1, oB q_t_going 1 [.ref q_t_going_near, .int u2.2.2.2.1, .int u2.2.2.2.2.1], aI cA q_t_going_near 14 u2.2.2.2.2.2]) (st' := [.int u3]) (N0 := 10) rfl [none, none, none, none, none, some 0, some 1, none, none, none] (by decide) rfl rfl ?_
      refine g_iconst C 63 (1 : Int32) dX8_make_63 (by decide) ?_
      refine g_isub C 64 dX8_make_64 ?_
      cases hf
      exact g_iret C 65 dX8_make_65 F hB
    · refine g_bipush C 27 (-4 : Int32) dX8_make_27 (by decide) ?_
      cases hf
      exact g_iret C 29 dX8_make_29 F hB

def L_X8_fills_32 (t_net_size : Int32) (t_net_near : Nat → Int32) (t_order_size : Int32) (t_order_knots : Nat → Int32)  : Nat → Int32 → Int32 → Int32 → (Nat → Int32) → Option (Int32 × Int32 × Int32 × (Nat → Int32))
  | 0, _, _, _, _ => none
  | n + 1, x1, t_going_left, t_going_newEnds, t_going_near =>
    if t_order_size ≤ x1 then
      some ((t_going_newEnds / (2 : Int32)), t_going_left, t_going_newEnds, t_going_near)
    else
      ldA t_order_knots 14 x1 fun v3 =>
      cal (f_X1_letGo v3 t_going_left t_going_newEnds t_going_near) fun u4 =>
      bnd (x1 + (1 : Int32)) fun x1_5 =>
      L_X8_fills_32 t_net_size t_net_near t_order_size t_order_knots n x1_5 u4.1 u4.2.1 u4.2.2

set_option maxRecDepth 100000 in
set_option maxHeartbeats 1000000 in
theorem w_X8_fills_32 (cA : Nat → ClassId) (q_t : Nat) (q_t_bags : Nat) (q_t_law : Nat) (q_t_plan : Nat) (z_t_search : Value) (z_t_tally : Value) (q_t_net : Nat) (q_t_net_loads : Nat) (q_t_net_ties : Nat) (t_net_edges : Int32) (q_t_net_near : Nat) (q_t_order : Nat) (t_order_held : Int32) (q_t_order_knots : Nat) (q_t_going : Nat) (q_t_going_near : Nat) (t_net_size : Int32) (t_net_near : Nat → Int32) (t_order_size : Int32) (t_order_knots : Nat → Int32) {X : XT}  (C : Cx X cX8_fills RX8 (some .int) cA 3 81 2) {kk nn : Nat} {BB : Option Value → va_W → Prop} (hk : kk ≤ (x_R X).cells ∧ nn ≤ (x_R X).slots) (F : Fx X BB kk nn) (r : Int32 × Int32 × Int32 × (Nat → Int32)) (hB : BB (some (.int r.1)) [oB q_t 8 [.ref q_t_net, .ref q_t_order, .ref q_t_bags, .ref q_t_law, .ref q_t_going, .ref q_t_plan, z_t_search, z_t_tally], oB q_t_net 4 [.ref q_t_net_loads, .ref q_t_net_near, .ref q_t_net_ties, .int t_net_size, .int t_net_edges], aI cA q_t_net_near 14 t_net_near, oB q_t_order 2 [.ref q_t_order_knots, .int t_order_size, .int t_order_held], aI cA q_t_order_knots 14 t_order_knots, oB q_t_going 1 [.ref q_t_going_near, .int r.2.1, .int r.2.2.1], aI cA q_t_going_near 14 r.2.2.2])  : ∀ (n : Nat) (x1 : Int32) (t_going_left : Int32) (t_going_newEnds : Int32) (t_going_near : Nat → Int32), L_X8_fills_32 t_net_size t_net_near t_order_size t_order_knots n x1 t_going_left t_going_newEnds t_going_near = some r → Go X 2 kk nn 32 [oB q_t 8 [.ref q_t_net, .ref q_t_order, .ref q_t_bags, .ref q_t_law, .ref q_t_going, .ref q_t_plan, z_t_search, z_t_tally], oB q_t_net 4 [.ref q_t_net_loads, .ref q_t_net_near, .ref q_t_net_ties, .int t_net_size, .int t_net_edges], aI cA q_t_net_near 14 t_net_near, oB q_t_order 2 [.ref q_t_order_knots, .int t_order_size, .int t_order_held], aI cA q_t_order_knots 14 t_order_knots, oB q_t_going 1 [.ref q_t_going_near, .int t_going_left, .int t_going_newEnds], aI cA q_t_going_near 14 t_going_near] [(0, .ref q_t), (1, .int x1)] [] := by
  intro n
  induction n with
  | zero => intro x1 t_going_left t_going_newEnds t_going_near hf; exact no_some hf
  | succ n ih =>
    intro x1 t_going_left t_going_newEnds t_going_near hf
    rw [L_X8_fills_32] at hf
    refine g_iload_n C 32 1 dX8_fills_32 rfl rfl ?_
    refine g_aload_n C 33 0 dX8_fills_33 rfl rfl ?_
    refine g_get C 34 0 1 dX8_fills_34 inX8 rfl rfl (by decide) kw_231 rfl ?_
    refine g_get C 37 3 1 dX8_fills_37 inX2 rfl rfl (by decide) kw_266 rfl ?_
    refine g_icmp_ge C 40 65 dX8_fills_40 (by decide) hf (fun hf => ?_) (fun hf => ?_)
    · refine g_aload_n C 65 0 dX8_fills_65 rfl rfl ?_
      refine g_get C 66 0 4 dX8_fills_66 inX8 rfl rfl (by decide) kw_267 rfl ?_
      refine g_get C 69 5 2 dX8_fills_69 inX1 rfl rfl (by decide) kw_277 rfl ?_
      refine g_iconst C 72 (2 : Int32) dX8_fills_72 (by decide) ?_
      refine g_idiv C 73 dX8_fills_73 (by decide) ?_
      cases hf
      exact g_iret C 74 dX8_fills_74 F hB
    · refine g_aload_n C 43 0 dX8_fills_43 rfl rfl ?_
      refine g_get C 44 0 4 dX8_fills_44 inX8 rfl rfl (by decide) kw_267 rfl ?_
      refine g_aload_n C 47 0 dX8_fills_47 rfl rfl ?_
      refine g_get C 48 0 1 dX8_fills_48 inX8 rfl rfl (by decide) kw_231 rfl ?_
      refine g_get C 51 3 0 dX8_fills_51 inX2 rfl rfl (by decide) kw_278 rfl ?_
      refine g_iload_n C 54 1 dX8_fills_54 rfl rfl ?_
      refine g_iald C 55 4 dX8_fills_55 rfl hf (fun v3 hf => ?_)
      obtain ⟨u4, hu4, hf⟩ := cal_some hf
      refine g_callV1 C 56 [5, 6] 5 (rest := []) dX8_fills_56 (c_X1_letGo (x_l X) cA q_t_going t_going_left t_going_newEnds q_t_going_near t_going_near v3 u4 hu4) kw_279 kw_32 kw_33 kw_16 kw_34 ok_X1_letGo ⟨Nat.le_of_ble_eq_true rfl, Nat.le_of_ble_eq_true rfl⟩ hk ⟨rfl, rfl⟩ rfl rfl rfl rfl rfl (Nat.le_of_ble_eq_true rfl) rfl (ws' := [oB q_t 8 [.ref q_t_net, .ref q_t_order, .ref q_t_bags, .ref q_t_law, .ref q_t_going, .ref q_t_plan, z_t_search, z_t_tally], oB q_t_net 4 [.ref q_t_net_loads, .ref q_t_net_near, .ref q_t_net_ties, .int t_net_size, .int t_net_edges], aI cA q_t_net_near 14 t_net_near, oB q_t_order 2 [.ref q_t_order_knots, .int t_order_size, .int t_order_held], aI cA q_t_order_knots 14 t_order_knots, oB q_t_going 1 [.ref q_t_going_near, .int u4.1, .int u4.2.1], aI cA q_t_going_near 14 u4.2.2]) (st' := []) (N0 := 7) rfl [none, none, none, none, none, some 0, some 1] (by decide) rfl rfl ?_
      refine g_iinc C 59 1 (v := x1 + (1 : Int32)) (fun z => [(1, .int z), (0, .ref q_t)]) dX8_fills_59 rfl rfl (by decide) (fun _ => rfl) hf (fun x1_5 hf => ?_)
      refine g_goto C 62 32 dX8_fills_62 (by decide) ?_
      refine g_lv [1, 0] rfl ?_
      exact ih x1_5 u4.1 u4.2.1 u4.2.2 hf
def f_X8_fills (t_net_size : Int32) (t_net_near : Nat → Int32) (t_order_size : Int32) (t_order_knots : Nat → Int32) (t_going_left : Int32) (t_going_newEnds : Int32) (t_going_near : Nat → Int32) : Option (Int32 × Int32 × Int32 × (Nat → Int32)) :=
  if t_order_size = t_net_size then
    cal (f_X1_start t_going_left t_going_newEnds t_going_near t_net_size t_net_near) fun u1 =>
    bnd (0 : Int32) fun x1_2 =>
    L_X8_fills_32 t_net_size t_net_near t_order_size t_order_knots NN x1_2 u1.1 u1.2.1 u1.2.2
  else
    some ((-1 : Int32), t_going_left, t_going_newEnds, t_going_near)

set_option maxRecDepth 100000 in
set_option maxHeartbeats 1000000 in
theorem c_X8_fills (l : Launch) (cA : Nat → ClassId) (q_t : Nat) (q_t_bags : Nat) (q_t_law : Nat) (q_t_plan : Nat) (z_t_search : Value) (z_t_tally : Value) (q_t_net : Nat) (q_t_net_loads : Nat) (q_t_net_ties : Nat) (t_net_size : Int32) (t_net_edges : Int32) (q_t_net_near : Nat) (t_net_near : Nat → Int32) (q_t_order : Nat) (t_order_size : Int32) (t_order_held : Int32) (q_t_order_knots : Nat) (t_order_knots : Nat → Int32) (q_t_going : Nat) (t_going_left : Int32) (t_going_newEnds : Int32) (q_t_going_near : Nat) (t_going_near : Nat → Int32)   (r : Int32 × Int32 × Int32 × (Nat → Int32)) (hf : f_X8_fills t_net_size t_net_near t_order_size t_order_knots t_going_left t_going_newEnds t_going_near = some r) : MT l cA yX8_fills cX8_fills 2 (some .int) ({ frames := 3, cells := 0, slots := 0, locals := 81 } : Room) [.ref q_t] [oB q_t 8 [.ref q_t_net, .ref q_t_order, .ref q_t_bags, .ref q_t_law, .ref q_t_going, .ref q_t_plan, z_t_search, z_t_tally], oB q_t_net 4 [.ref q_t_net_loads, .ref q_t_net_near, .ref q_t_net_ties, .int t_net_size, .int t_net_edges], aI cA q_t_net_near 14 t_net_near, oB q_t_order 2 [.ref q_t_order_knots, .int t_order_size, .int t_order_held], aI cA q_t_order_knots 14 t_order_knots, oB q_t_going 1 [.ref q_t_going_near, .int t_going_left, .int t_going_newEnds], aI cA q_t_going_near 14 t_going_near] (sB (some (.int r.1)) [oB q_t 8 [.ref q_t_net, .ref q_t_order, .ref q_t_bags, .ref q_t_law, .ref q_t_going, .ref q_t_plan, z_t_search, z_t_tally], oB q_t_net 4 [.ref q_t_net_loads, .ref q_t_net_near, .ref q_t_net_ties, .int t_net_size, .int t_net_edges], aI cA q_t_net_near 14 t_net_near, oB q_t_order 2 [.ref q_t_order_knots, .int t_order_size, .int t_order_held], aI cA q_t_order_knots 14 t_order_knots, oB q_t_going 1 [.ref q_t_going_near, .int r.2.1, .int r.2.2.1], aI cA q_t_going_near 14 r.2.2.2]) := by
  refine MT.of (by decide) (Nat.le_of_ble_eq_true rfl) ?_
  intro X hXl C F hnm hrc hrs
  subst hXl
  have hk : 0 ≤ (x_R X).cells ∧ 0 ≤ (x_R X).slots := ⟨Nat.zero_le _, Nat.zero_le _⟩
  have hB : (sB (some (.int r.1)) [oB q_t 8 [.ref q_t_net, .ref q_t_order, .ref q_t_bags, .ref q_t_law, .ref q_t_going, .ref q_t_plan, z_t_search, z_t_tally], oB q_t_net 4 [.ref q_t_net_loads, .ref q_t_net_near, .ref q_t_net_ties, .int t_net_size, .int t_net_edges], aI cA q_t_net_near 14 t_net_near, oB q_t_order 2 [.ref q_t_order_knots, .int t_order_size, .int t_order_held], aI cA q_t_order_knots 14 t_order_knots, oB q_t_going 1 [.ref q_t_going_near, .int r.2.1, .int r.2.2.1], aI cA q_t_going_near 14 r.2.2.2]) (some (.int r.1)) [oB q_t 8 [.ref q_t_net, .ref q_t_order, .ref q_t_bags, .ref q_t_law, .ref q_t_going, .ref q_t_plan, z_t_search, z_t_tally], oB q_t_net 4 [.ref q_t_net_loads, .ref q_t_net_near, .ref q_t_net_ties, .int t_net_size, .int t_net_edges], aI cA q_t_net_near 14 t_net_near, oB q_t_order 2 [.ref q_t_order_knots, .int t_order_size, .int t_order_held], aI cA q_t_order_knots 14 t_order_knots, oB q_t_going 1 [.ref q_t_going_near, .int r.2.1, .int r.2.2.1], aI cA q_t_going_near 14 r.2.2.2] := ⟨rfl, rfl⟩
  unfold f_X8_fills at hf
  have C : Cx X cX8_fills RX8 (some .int) cA 3 81 2 := C
  show Go X 2 0 0 0 [oB q_t 8 [.ref q_t_net, .ref q_t_order, .ref q_t_bags, .ref q_t_law, .ref q_t_going, .ref q_t_plan, z_t_search, z_t_tally], oB q_t_net 4 [.ref q_t_net_loads, .ref q_t_net_near, .ref q_t_net_ties, .int t_net_size, .int t_net_edges], aI cA q_t_net_near 14 t_net_near, oB q_t_order 2 [.ref q_t_order_knots, .int t_order_size, .int t_order_held], aI cA q_t_order_knots 14 t_order_knots, oB q_t_going 1 [.ref q_t_going_near, .int t_going_left, .int t_going_newEnds], aI cA q_t_going_near 14 t_going_near] [(0, .ref q_t)] []
  refine g_aload_n C 0 0 dX8_fills_0 rfl rfl ?_
  refine g_get C 1 0 1 dX8_fills_1 inX8 rfl rfl (by decide) kw_231 rfl ?_
  refine g_get C 4 3 1 dX8_fills_4 inX2 rfl rfl (by decide) kw_266 rfl ?_
  refine g_aload_n C 7 0 dX8_fills_7 rfl rfl ?_
  refine g_get C 8 0 0 dX8_fills_8 inX8 rfl rfl (by decide) kw_229 rfl ?_
  refine g_get C 11 1 3 dX8_fills_11 inX4 rfl rfl (by decide) kw_230 rfl ?_
  refine g_icmp_eq C 14 19 dX8_fills_14 (by decide) hf (fun hf => ?_) (fun hf => ?_)
  · refine g_aload_n C 19 0 dX8_fills_19 rfl rfl ?_
    refine g_get C 20 0 4 dX8_fills_20 inX8 rfl rfl (by decide) kw_267 rfl ?_
    refine g_aload_n C 23 0 dX8_fills_23 rfl rfl ?_
    refine g_get C 24 0 0 dX8_fills_24 inX8 rfl rfl (by decide) kw_229 rfl ?_
    obtain ⟨u1, hu1, hf⟩ := cal_some hf
    refine g_callV1 C 27 [5, 6, 1, 2] 5 (rest := []) dX8_fills_27 (c_X1_start (x_l X) cA q_t_going t_going_left t_going_newEnds q_t_going_near t_going_near q_t_net q_t_net_loads q_t_net_ties t_net_size t_net_edges q_t_net_near t_net_near u1 hu1) kw_268 kw_125 kw_126 kw_16 kw_127 ok_X1_start ⟨Nat.le_of_ble_eq_true rfl, Nat.le_of_ble_eq_true rfl⟩ hk ⟨rfl, rfl⟩ rfl rfl rfl rfl rfl (Nat.le_of_ble_eq_true rfl) rfl (ws' := [oB q_t 8 [.ref q_t_net, .ref q_t_order, .ref q_t_bags, .ref q_t_law, .ref q_t_going, .ref q_t_plan, z_t_search, z_t_tally], oB q_t_net 4 [.ref q_t_net_loads, .ref q_t_net_near, .ref q_t_net_ties, .int t_net_size, .int t_net_edges], aI cA q_t_net_near 14 t_net_near, oB q_t_order 2 [.ref q_t_order_knots, .int t_order_size, .int t_order_held], aI cA q_t_order_knots 14 t_order_knots, oB q_t_going 1 [.ref q_t_going_near, .int u1.1, .int u1.2.1], aI cA q_t_going_near 14 u1.2.2]) (st' := []) (N0 := 7) rfl [none, some 2, some 3, none, none, some 0, some 1] (by decide) rfl rfl ?_
    refine g_iconst C 30 (0 : Int32) dX8_fills_30 (by decide) ?_
    refine g_istore_n C 31 (fun z => [(1, .int z), (0, .ref q_t)]) dX8_fills_31 rfl (by decide) (fun _ => rfl) hf (fun x1_2 hf => ?_)
    refine g_lv [1, 0] rfl ?_
    exact w_X8_fills_32 cA q_t q_t_bags q_t_law q_t_plan z_t_search z_t_tally q_t_net q_t_net_loads q_t_net_ties t_net_edges q_t_net_near q_t_order t_order_held q_t_order_knots q_t_going q_t_going_near t_net_size t_net_near t_order_size t_order_knots C hk F r hB NN x1_2 u1.1 u1.2.1 u1.2.2 hf
  · refine g_iconst C 17 (-1 : Int32) dX8_fills_17 (by decide) ?_
    cases hf
    exact g_iret C 18 dX8_fills_18 F hB

def L_X8_fewest_22 (t_net_size : Int32) (t_net_near : Nat → Int32)  : Nat → Int32 → Int32 → Int32 → Int32 → (Nat → Int32) → Int32 → Int32 → (Nat → Int32) → Option (Int32 × Int32 × Int32 × (Nat → Int32) × Int32 × Int32 × (Nat → Int32))
  | 0, _, _, _, _, _, _, _, _ => none
  | n + 1, x1, x2, t_order_size, t_order_held, t_order_knots, t_going_left, t_going_newEnds, t_going_near =>
    if t_net_size ≤ x2 then
      some (x1, t_order_size, t_order_held, t_order_knots, t_going_left, t_going_newEnds, t_going_near)
    else
      cal (f_X1_loneliest t_going_left t_going_near) fun u5 =>
      bnd u5 fun x3_6 =>
      ldA t_going_near 14 x3_6 fun v7 =>
      cal (f_J6_bitCount_0f7a4 v7) fun u8 =>
      bnd (if x1 < u8 then u8 else x1) fun x1_9 =>
      cal (f_X2_append x3_6 t_order_size t_order_held t_order_knots) fun u10 =>
      cal (f_X1_letGo x3_6 t_going_left t_going_newEnds t_going_near) fun u11 =>
      bnd (x2 + (1 : Int32)) fun x2_12 =>
      L_X8_fewest_22 t_net_size t_net_near n x1_9 x2_12 u10.1 u10.2.1 u10.2.2 u11.1 u11.2.1 u11.2.2

set_option maxRecDepth 100000 in
set_option maxHeartbeats 1000000 in
theorem w_X8_fewest_22 (cA : Nat → ClassId) (q_t : Nat) (q_t_bags : Nat) (q_t_law : Nat) (q_t_plan : Nat) (z_t_search : Value) (z_t_tally : Value) (q_t_net : Nat) (q_t_net_loads : Nat) (q_t_net_ties : Nat) (t_net_edges : Int32) (q_t_net_near : Nat) (q_t_order : Nat) (q_t_order_knots : Nat) (q_t_going : Nat) (q_t_going_near : Nat) (t_net_size : Int32) (t_net_near : Nat → Int32) {X : XT}  (C : Cx X cX8_fewest RX8 (some .int) cA 3 81 4) {kk nn : Nat} {BB : Option Value → va_W → Prop} (hk : kk ≤ (x_R X).cells ∧ nn ≤ (x_R X).slots) (F : Fx X BB kk nn) (r : Int32 × Int32 × Int32 × (Nat → Int32) × Int32 × Int32 × (Nat → Int32)) (hB : BB (some (.int r.1)) [oB q_t 8 [.ref q_t_net, .ref q_t_order, .ref q_t_bags, .ref q_t_law, .ref q_t_going, .ref q_t_plan, z_t_search, z_t_tally], oB q_t_net 4 [.ref q_t_net_loads, .ref q_t_net_near, .ref q_t_net_ties, .int t_net_size, .int t_net_edges], aI cA q_t_net_near 14 t_net_near, oB q_t_order 2 [.ref q_t_order_knots, .int r.2.1, .int r.2.2.1], aI cA q_t_order_knots 14 r.2.2.2.1, oB q_t_going 1 [.ref q_t_going_near, .int r.2.2.2.2.1, .int r.2.2.2.2.2.1], aI cA q_t_going_near 14 r.2.2.2.2.2.2])  : ∀ (n : Nat) (x1 : Int32) (x2 : Int32) (t_order_size : Int32) (t_order_held : Int32) (t_order_knots : Nat → Int32) (t_going_left : Int32) (t_going_newEnds : Int32) (t_going_near : Nat → Int32), L_X8_fewest_22 t_net_size t_net_near n x1 x2 t_order_size t_order_held t_order_knots t_going_left t_going_newEnds t_going_near = some r → Go X 4 kk nn 22 [oB q_t 8 [.ref q_t_net, .ref q_t_order, .ref q_t_bags, .ref q_t_law, .ref q_t_going, .ref q_t_plan, z_t_search, z_t_tally], oB q_t_net 4 [.ref q_t_net_loads, .ref q_t_net_near, .ref q_t_net_ties, .int t_net_size, .int t_net_edges], aI cA q_t_net_near 14 t_net_near, oB q_t_order 2 [.ref q_t_order_knots, .int t_order_size, .int t_order_held], aI cA q_t_order_knots 14 t_order_knots, oB q_t_going 1 [.ref q_t_going_near, .int t_going_left, .int t_going_newEnds], aI cA q_t_going_near 14 t_going_near] [(0, .ref q_t), (1, .int x1), (2, .int x2)] [] := by
  intro n
  induction n with
  | zero => intro x1 x2 t_order_size t_order_held t_order_knots t_going_left t_going_newEnds t_going_near hf; exact no_some hf
  | succ n ih =>
    intro x1 x2 t_order_size t_order_held t_order_knots t_going_left t_going_newEnds t_going_near hf
    rw [L_X8_fewest_22] at hf
    refine g_iload_n C 22 2 dX8_fewest_22 rfl rfl ?_
    refine g_aload_n C 23 0 dX8_fewest_23 rfl rfl ?_
    refine g_get C 24 0 0 dX8_fewest_24 inX8 rfl rfl (by decide) kw_229 rfl ?_
    refine g_get C 27 1 3 dX8_fewest_27 inX4 rfl rfl (by decide) kw_230 rfl ?_
    refine g_icmp_ge C 30 80 dX8_fewest_30 (by decide) hf (fun hf => ?_) (fun hf => ?_)
    · refine g_iload_n C 80 1 dX8_fewest_80 rfl rfl ?_
      cases hf
      exact g_iret C 81 dX8_fewest_81 F hB
    · refine g_aload_n C 33 0 dX8_fewest_33 rfl rfl ?_
      refine g_get C 34 0 4 dX8_fewest_34 inX8 rfl rfl (by decide) kw_267 rfl ?_
      obtain ⟨u5, hu5, hf⟩ := cal_some hf
      refine g_callV1 C 37 [5, 6] 5 (rest := []) dX8_fewest_37 (c_X1_loneliest (x_l X) cA q_t_going t_going_left t_going_newEnds q_t_going_near t_going_near u5 hu5) kw_280 kw_281 kw_282 kw_16 kw_283 ok_X1_loneliest ⟨Nat.le_of_ble_eq_true rfl, Nat.le_of_ble_eq_true rfl⟩ hk ⟨rfl, rfl⟩ rfl rfl rfl rfl rfl (Nat.le_of_ble_eq_true rfl) rfl (ws' := [oB q_t 8 [.ref q_t_net, .ref q_t_order, .ref q_t_bags, .ref q_t_law, .ref q_t_going, .ref q_t_plan, z_t_search, z_t_tally], oB q_t_net 4 [.ref q_t_net_loads, .ref q_t_net_near, .ref q_t_net_ties, .int t_net_size, .int t_net_edges], aI cA q_t_net_near 14 t_net_near, oB q_t_order 2 [.ref q_t_order_knots, .int t_order_size, .int t_order_held], aI cA q_t_order_knots 14 t_order_knots, oB q_t_going 1 [.ref q_t_going_near, .int t_going_left, .int t_going_newEnds], aI cA q_t_going_near 14 t_going_near]) (st' := [.int u5]) (N0 := 7) rfl [none, none, none, none, none, some 0, some 1] (by decide) rfl rfl ?_
      refine g_istore_n C 40 (fun z => [(3, .int z), (0, .ref q_t), (1, .int x1), (2, .int x2)]) dX8_fewest_40 rfl (by decide) (fun _ => rfl) hf (fun x3_6 hf => ?_)
      refine g_iload_n C 41 2 dX8_fewest_41 rfl rfl ?_
      refine g_aload_n C 42 1 dX8_fewest_42 rfl rfl ?_
      refine g_get C 43 0 4 dX8_fewest_43 inX8 rfl rfl (by decide) kw_267 rfl ?_
      refine g_get C 46 5 0 dX8_fewest_46 inX1 rfl rfl (by decide) kw_284 rfl ?_
      refine g_iload_n C 49 0 dX8_fewest_49 rfl rfl ?_
      refine g_iald C 50 6 dX8_fewest_50 rfl hf (fun v7 hf => ?_)
      obtain ⟨u8, hu8, hf⟩ := cal_some hf
      refine g_callS C 51 [] (rest := [.int x1]) dX8_fewest_51 (c_J6_bitCount_0f7a4 (x_l X) cA v7 u8 hu8) kw_285 kw_20 kw_21 kw_22 ok_J6_bitCount_0f7a4 ⟨Nat.le_of_ble_eq_true rfl, Nat.le_of_ble_eq_true rfl⟩ hk ⟨rfl, rfl⟩ rfl rfl rfl (Nat.le_of_ble_eq_true rfl) rfl (ws' := [oB q_t 8 [.ref q_t_net, .ref q_t_order, .ref q_t_bags, .ref q_t_law, .ref q_t_going, .ref q_t_plan, z_t_search, z_t_tally], oB q_t_net 4 [.ref q_t_net_loads, .ref q_t_net_near, .ref q_t_net_ties, .int t_net_size, .int t_net_edges], aI cA q_t_net_near 14 t_net_near, oB q_t_order 2 [.ref q_t_order_knots, .int t_order_size, .int t_order_held], aI cA q_t_order_knots 14 t_order_knots, oB q_t_going 1 [.ref q_t_going_near, .int t_going_left, .int t_going_newEnds], aI cA q_t_going_near 14 t_going_near]) (st' := [.int u8, .int x1]) (N0 := 7) rfl [none, none, none, none, none, none, none] (by decide) rfl rfl ?_
      refine g_max C 54 dX8_fewest_54 kw_286 kw_37 kw_38 kw_39 (by decide) (Nat.le_of_ble_eq_true rfl) hk.1 hk.2 ?_
      refine g_istore_n C 57 (fun z => [(1, .int z), (3, .int x3_6), (0, .ref q_t), (2, .int x2)]) dX8_fewest_57 rfl (by decide) (fun _ => rfl) hf (fun x1_9 hf => ?_)
      refine g_aload_n C 58 2 dX8_fewest_58 rfl rfl ?_
      refine g_get C 59 0 1 dX8_fewest_59 inX8 rfl rfl (by decide) kw_231 rfl ?_
      refine g_iload_n C 62 1 dX8_fewest_62 rfl rfl ?_
      obtain ⟨u10, hu10, hf⟩ := cal_some hf
      refine g_callV1 C 63 [3, 4] 3 (rest := []) dX8_fewest_63 (c_X2_append (x_l X) cA q_t_order t_order_size t_order_held q_t_order_knots t_order_knots x3_6 u10 hu10) kw_262 kw_263 kw_264 kw_29 kw_265 ok_X2_append ⟨Nat.le_of_ble_eq_true rfl, Nat.le_of_ble_eq_true rfl⟩ hk ⟨rfl, rfl⟩ rfl rfl rfl rfl rfl (Nat.le_of_ble_eq_true rfl) rfl (ws' := [oB q_t 8 [.ref q_t_net, .ref q_t_order, .ref q_t_bags, .ref q_t_law, .ref q_t_going, .ref q_t_plan, z_t_search, z_t_tally], oB q_t_net 4 [.ref q_t_net_loads, .ref q_t_net_near, .ref q_t_net_ties, .int t_net_size, .int t_net_edges], aI cA q_t_net_near 14 t_net_near, oB q_t_order 2 [.ref q_t_order_knots, .int u10.1, .int u10.2.1], aI cA q_t_order_knots 14 u10.2.2, oB q_t_going 1 [.ref q_t_going_near, .int t_going_left, .int t_going_newEnds], aI cA q_t_going_near 14 t_going_near]) (st' := []) (N0 := 7) rfl [none, none, none, some 0, some 1, none, none] (by decide) rfl rfl ?_
      refine g_aload_n C 66 2 dX8_fewest_66 rfl rfl ?_
      refine g_get C 67 0 4 dX8_fewest_67 inX8 rfl rfl (by decide) kw_267 rfl ?_
      refine g_iload_n C 70 1 dX8_fewest_70 rfl rfl ?_
      obtain ⟨u11, hu11, hf⟩ := cal_some hf
      refine g_callV1 C 71 [5, 6] 5 (rest := []) dX8_fewest_71 (c_X1_letGo (x_l X) cA q_t_going t_going_left t_going_newEnds q_t_going_near t_going_near x3_6 u11 hu11) kw_279 kw_32 kw_33 kw_16 kw_34 ok_X1_letGo ⟨Nat.le_of_ble_eq_true rfl, Nat.le_of_ble_eq_true rfl⟩ hk ⟨rfl, rfl⟩ rfl rfl rfl rfl rfl (Nat.le_of_ble_eq_true rfl) rfl (ws' := [oB q_t 8 [.ref q_t_net, .ref q_t_order, .ref q_t_bags, .ref q_t_law, .ref q_t_going, .ref q_t_plan, z_t_search, z_t_tally], oB q_t_net 4 [.ref q_t_net_loads, .ref q_t_net_near, .ref q_t_net_ties, .int t_net_size, .int t_net_edges], aI cA q_t_net_near 14 t_net_near, oB q_t_order 2 [.ref q_t_order_knots, .int u10.1, .int u10.2.1], aI cA q_t_order_knots 14 u10.2.2, oB q_t_going 1 [.ref q_t_going_near, .int u11.1, .int u11.2.1], aI cA q_t_going_near 14 u11.2.2]) (st' := []) (N0 := 7) rfl [none, none, none, none, none, some 0, some 1] (by decide) rfl rfl ?_
      refine g_iinc C 74 3 (v := x2 + (1 : Int32)) (fun z => [(2, .int z), (1, .int x1_9), (3, .int x3_6), (0, .ref q_t)]) dX8_fewest_74 rfl rfl (by decide) (fun _ => rfl) hf (fun x2_12 hf => ?_)
      refine g_goto C 77 22 dX8_fewest_77 (by decide) ?_
      refine g_lv [3, 1, 0] rfl ?_
      exact ih x1_9 x2_12 u10.1 u10.2.1 u10.2.2 u11.1 u11.2.1 u11.2.2 hf
def f_X8_fewest (t_net_size : Int32) (t_net_near : Nat → Int32) (t_order_size : Int32) (t_order_held : Int32) (t_order_knots : Nat → Int32) (t_going_left : Int32) (t_going_newEnds : Int32) (t_going_near : Nat → Int32) : Option (Int32 × Int32 × Int32 × (Nat → Int32) × Int32 × Int32 × (Nat → Int32)) :=
  cal (f_X2_empty t_order_size t_order_held) fun u1 =>
  cal (f_X1_start t_going_left t_going_newEnds t_going_near t_net_size t_net_near) fun u2 =>
  bnd (-1 : Int32) fun x1_3 =>
  bnd (0 : Int32) fun x2_4 =>
  L_X8_fewest_22 t_net_size t_net_near NN x1_3 x2_4 u1.1 u1.2 t_order_knots u2.1 u2.2.1 u2.2.2

set_option maxRecDepth 100000 in
set_option maxHeartbeats 1000000 in
theorem c_X8_fewest (l : Launch) (cA : Nat → ClassId) (q_t : Nat) (q_t_bags : Nat) (q_t_law : Nat) (q_t_plan : Nat) (z_t_search : Value) (z_t_tally : Value) (q_t_net : Nat) (q_t_net_loads : Nat) (q_t_net_ties : Nat) (t_net_size : Int32) (t_net_edges : Int32) (q_t_net_near : Nat) (t_net_near : Nat → Int32) (q_t_order : Nat) (t_order_size : Int32) (t_order_held : Int32) (q_t_order_knots : Nat) (t_order_knots : Nat → Int32) (q_t_going : Nat) (t_going_left : Int32) (t_going_newEnds : Int32) (q_t_going_near : Nat) (t_going_near : Nat → Int32)   (r : Int32 × Int32 × Int32 × (Nat → Int32) × Int32 × Int32 × (Nat → Int32)) (hf : f_X8_fewest t_net_size t_net_near t_order_size t_order_held t_order_knots t_going_left t_going_newEnds t_going_near = some r) : MT l cA yX8_fewest cX8_fewest 4 (some .int) ({ frames := 3, cells := 0, slots := 0, locals := 81 } : Room) [.ref q_t] [oB q_t 8 [.ref q_t_net, .ref q_t_order, .ref q_t_bags, .ref q_t_law, .ref q_t_going, .ref q_t_plan, z_t_search, z_t_tally], oB q_t_net 4 [.ref q_t_net_loads, .ref q_t_net_near, .ref q_t_net_ties, .int t_net_size, .int t_net_edges], aI cA q_t_net_near 14 t_net_near, oB q_t_order 2 [.ref q_t_order_knots, .int t_order_size, .int t_order_held], aI cA q_t_order_knots 14 t_order_knots, oB q_t_going 1 [.ref q_t_going_near, .int t_going_left, .int t_going_newEnds], aI cA q_t_going_near 14 t_going_near] (sB (some (.int r.1)) [oB q_t 8 [.ref q_t_net, .ref q_t_order, .ref q_t_bags, .ref q_t_law, .ref q_t_going, .ref q_t_plan, z_t_search, z_t_tally], oB q_t_net 4 [.ref q_t_net_loads, .ref q_t_net_near, .ref q_t_net_ties, .int t_net_size, .int t_net_edges], aI cA q_t_net_near 14 t_net_near, oB q_t_order 2 [.ref q_t_order_knots, .int r.2.1, .int r.2.2.1], aI cA q_t_order_knots 14 r.2.2.2.1, oB q_t_going 1 [.ref q_t_going_near, .int r.2.2.2.2.1, .int r.2.2.2.2.2.1], aI cA q_t_going_near 14 r.2.2.2.2.2.2]) := by
  refine MT.of (by decide) (Nat.le_of_ble_eq_true rfl) ?_
  intro X hXl C F hnm hrc hrs
  subst hXl
  have hk : 0 ≤ (x_R X).cells ∧ 0 ≤ (x_R X).slots := ⟨Nat.zero_le _, Nat.zero_le _⟩
  have hB : (sB (some (.int r.1)) [oB q_t 8 [.ref q_t_net, .ref q_t_order, .ref q_t_bags, .ref q_t_law, .ref q_t_going, .ref q_t_plan, z_t_search, z_t_tally], oB q_t_net 4 [.ref q_t_net_loads, .ref q_t_net_near, .ref q_t_net_ties, .int t_net_size, .int t_net_edges], aI cA q_t_net_near 14 t_net_near, oB q_t_order 2 [.ref q_t_order_knots, .int r.2.1, .int r.2.2.1], aI cA q_t_order_knots 14 r.2.2.2.1, oB q_t_going 1 [.ref q_t_going_near, .int r.2.2.2.2.1, .int r.2.2.2.2.2.1], aI cA q_t_going_near 14 r.2.2.2.2.2.2]) (some (.int r.1)) [oB q_t 8 [.ref q_t_net, .ref q_t_order, .ref q_t_bags, .ref q_t_law, .ref q_t_going, .ref q_t_plan, z_t_search, z_t_tally], oB q_t_net 4 [.ref q_t_net_loads, .ref q_t_net_near, .ref q_t_net_ties, .int t_net_size, .int t_net_edges], aI cA q_t_net_near 14 t_net_near, oB q_t_order 2 [.ref q_t_order_knots, .int r.2.1, .int r.2.2.1], aI cA q_t_order_knots 14 r.2.2.2.1, oB q_t_going 1 [.ref q_t_going_near, .int r.2.2.2.2.1, .int r.2.2.2.2.2.1], aI cA q_t_going_near 14 r.2.2.2.2.2.2] := ⟨rfl, rfl⟩
  unfold f_X8_fewest at hf
  have C : Cx X cX8_fewest RX8 (some .int) cA 3 81 4 := C
  show Go X 4 0 0 0 [oB q_t 8 [.ref q_t_net, .ref q_t_order, .ref q_t_bags, .ref q_t_law, .ref q_t_going, .ref q_t_plan, z_t_search, z_t_tally], oB q_t_net 4 [.ref q_t_net_loads, .ref q_t_net_near, .ref q_t_net_ties, .int t_net_size, .int t_net_edges], aI cA q_t_net_near 14 t_net_near, oB q_t_order 2 [.ref q_t_order_knots, .int t_order_size, .int t_order_held], aI cA q_t_order_knots 14 t_order_knots, oB q_t_going 1 [.ref q_t_going_near, .int t_going_left, .int t_going_newEnds], aI cA q_t_going_near 14 t_going_near] [(0, .ref q_t)] []
  refine g_aload_n C 0 0 dX8_fewest_0 rfl rfl ?_
  refine g_get C 1 0 1 dX8_fewest_1 inX8 rfl rfl (by decide) kw_231 rfl ?_
  obtain ⟨u1, hu1, hf⟩ := cal_some hf
  refine g_callV1 C 4 [3] 3 (rest := []) dX8_fewest_4 (c_X2_empty (x_l X) cA q_t_order q_t_order_knots t_order_size t_order_held u1 hu1) kw_232 kw_233 kw_234 kw_29 kw_235 ok_X2_empty ⟨Nat.le_of_ble_eq_true rfl, Nat.le_of_ble_eq_true rfl⟩ hk ⟨rfl, rfl⟩ rfl rfl rfl rfl rfl (Nat.le_of_ble_eq_true rfl) rfl (ws' := [oB q_t 8 [.ref q_t_net, .ref q_t_order, .ref q_t_bags, .ref q_t_law, .ref q_t_going, .ref q_t_plan, z_t_search, z_t_tally], oB q_t_net 4 [.ref q_t_net_loads, .ref q_t_net_near, .ref q_t_net_ties, .int t_net_size, .int t_net_edges], aI cA q_t_net_near 14 t_net_near, oB q_t_order 2 [.ref q_t_order_knots, .int u1.1, .int u1.2], aI cA q_t_order_knots 14 t_order_knots, oB q_t_going 1 [.ref q_t_going_near, .int t_going_left, .int t_going_newEnds], aI cA q_t_going_near 14 t_going_near]) (st' := []) (N0 := 7) rfl [none, none, none, some 0, none, none, none] (by decide) rfl rfl ?_
  refine g_aload_n C 7 0 dX8_fewest_7 rfl rfl ?_
  refine g_get C 8 0 4 dX8_fewest_8 inX8 rfl rfl (by decide) kw_267 rfl ?_
  refine g_aload_n C 11 0 dX8_fewest_11 rfl rfl ?_
  refine g_get C 12 0 0 dX8_fewest_12 inX8 rfl rfl (by decide) kw_229 rfl ?_
  obtain ⟨u2, hu2, hf⟩ := cal_some hf
  refine g_callV1 C 15 [5, 6, 1, 2] 5 (rest := []) dX8_fewest_15 (c_X1_start (x_l X) cA q_t_going t_going_left t_going_newEnds q_t_going_near t_going_near q_t_net q_t_net_loads q_t_net_ties t_net_size t_net_edges q_t_net_near t_net_near u2 hu2) kw_268 kw_125 kw_126 kw_16 kw_127 ok_X1_start ⟨Nat.le_of_ble_eq_true rfl, Nat.le_of_ble_eq_true rfl⟩ hk ⟨rfl, rfl⟩ rfl rfl rfl rfl rfl (Nat.le_of_ble_eq_true rfl) rfl (ws' := [oB q_t 8 [.ref q_t_net, .ref q_t_order, .ref q_t_bags, .ref q_t_law, .ref q_t_going, .ref q_t_plan, z_t_search, z_t_tally], oB q_t_net 4 [.ref q_t_net_loads, .ref q_t_net_near, .ref q_t_net_ties, .int t_net_size, .int t_net_edges], aI cA q_t_net_near 14 t_net_near, oB q_t_order 2 [.ref q_t_order_knots, .int u1.1, .int u1.2], aI cA q_t_order_knots 14 t_order_knots, oB q_t_going 1 [.ref q_t_going_near, .int u2.1, .int u2.2.1], aI cA q_t_going_near 14 u2.2.2]) (st' := []) (N0 := 7) rfl [none, some 2, some 3, none, none, some 0, some 1] (by decide) rfl rfl ?_
  refine g_iconst C 18 (-1 : Int32) dX8_fewest_18 (by decide) ?_
  refine g_istore_n C 19 (fun z => [(1, .int z), (0, .ref q_t)]) dX8_fewest_19 rfl (by decide) (fun _ => rfl) hf (fun x1_3 hf => ?_)
  refine g_iconst C 20 (0 : Int32) dX8_fewest_20 (by decide) ?_
  refine g_istore_n C 21 (fun z => [(2, .int z), (1, .int x1_3), (0, .ref q_t)]) dX8_fewest_21 rfl (by decide) (fun _ => rfl) hf (fun x2_4 hf => ?_)
  refine g_lv [2, 1, 0] rfl ?_
  exact w_X8_fewest_22 cA q_t q_t_bags q_t_law q_t_plan z_t_search z_t_tally q_t_net q_t_net_loads q_t_net_ties t_net_edges q_t_net_near q_t_order q_t_order_knots q_t_going q_t_going_near t_net_size t_net_near C hk F r hB NN x1_3 x2_4 u1.1 u1.2 t_order_knots u2.1 u2.2.1 u2.2.2 hf

def L_X8_lowerBound_15 (t_net_size : Int32) (t_net_near : Nat → Int32)  : Nat → Int32 → Int32 → Int32 → Int32 → (Nat → Int32) → Option (Int32 × Int32 × Int32 × (Nat → Int32))
  | 0, _, _, _, _, _ => none
  | n + 1, x1, x2, t_going_left, t_going_newEnds, t_going_near =>
    if t_net_size ≤ x2 then
      some (x1, t_going_left, t_going_newEnds, t_going_near)
    else
      cal (f_X1_loneliest t_going_left t_going_near) fun u4 =>
      bnd u4 fun x3_5 =>
      ldA t_going_near 14 x3_5 fun v6 =>
      cal (f_J6_bitCount_0f7a4 v6) fun u7 =>
      bnd (if x1 < u7 then u7 else x1) fun x1_8 =>
      cal (f_X1_takeAway x3_5 t_going_left t_going_near) fun u9 =>
      bnd (x2 + (1 : Int32)) fun x2_10 =>
      L_X8_lowerBound_15 t_net_size t_net_near n x1_8 x2_10 u9.1 t_going_newEnds u9.2

set_option maxRecDepth 100000 in
set_option maxHeartbeats 1000000 in
theorem w_X8_lowerBound_15 (cA : Nat → ClassId) (q_t : Nat) (q_t_order : Nat) (q_t_bags : Nat) (q_t_law : Nat) (q_t_plan : Nat) (z_t_search : Value) (z_t_tally : Value) (q_t_net : Nat) (q_t_net_loads : Nat) (q_t_net_ties : Nat) (t_net_edges : Int32) (q_t_net_near : Nat) (q_t_going : Nat) (q_t_going_near : Nat) (t_net_size : Int32) (t_net_near : Nat → Int32) {X : XT}  (C : Cx X cX8_lowerBound RX8 (some .int) cA 2 81 4) {kk nn : Nat} {BB : Option Value → va_W → Prop} (hk : kk ≤ (x_R X).cells ∧ nn ≤ (x_R X).slots) (F : Fx X BB kk nn) (r : Int32 × Int32 × Int32 × (Nat → Int32)) (hB : BB (some (.int r.1)) [oB q_t 8 [.ref q_t_net, .ref q_t_order, .ref q_t_bags, .ref q_t_law, .ref q_t_going, .ref q_t_plan, z_t_search, z_t_tally], oB q_t_net 4 [.ref q_t_net_loads, .ref q_t_net_near, .ref q_t_net_ties, .int t_net_size, .int t_net_edges], aI cA q_t_net_near 14 t_net_near, oB q_t_going 1 [.ref q_t_going_near, .int r.2.1, .int r.2.2.1], aI cA q_t_going_near 14 r.2.2.2])  : ∀ (n : Nat) (x1 : Int32) (x2 : Int32) (t_going_left : Int32) (t_going_newEnds : Int32) (t_going_near : Nat → Int32), L_X8_lowerBound_15 t_net_size t_net_near n x1 x2 t_going_left t_going_newEnds t_going_near = some r → Go X 4 kk nn 15 [oB q_t 8 [.ref q_t_net, .ref q_t_order, .ref q_t_bags, .ref q_t_law, .ref q_t_going, .ref q_t_plan, z_t_search, z_t_tally], oB q_t_net 4 [.ref q_t_net_loads, .ref q_t_net_near, .ref q_t_net_ties, .int t_net_size, .int t_net_edges], aI cA q_t_net_near 14 t_net_near, oB q_t_going 1 [.ref q_t_going_near, .int t_going_left, .int t_going_newEnds], aI cA q_t_going_near 14 t_going_near] [(0, .ref q_t), (1, .int x1), (2, .int x2)] [] := by
  intro n
  induction n with
  | zero => intro x1 x2 t_going_left t_going_newEnds t_going_near hf; exact no_some hf
  | succ n ih =>
    intro x1 x2 t_going_left t_going_newEnds t_going_near hf
    rw [L_X8_lowerBound_15] at hf
    refine g_iload_n C 15 2 dX8_lowerBound_15 rfl rfl ?_
    refine g_aload_n C 16 0 dX8_lowerBound_16 rfl rfl ?_
    refine g_get C 17 0 0 dX8_lowerBound_17 inX8 rfl rfl (by decide) kw_229 rfl ?_
    refine g_get C 20 1 3 dX8_lowerBound_20 inX4 rfl rfl (by decide) kw_230 rfl ?_
    refine g_icmp_ge C 23 65 dX8_lowerBound_23 (by decide) hf (fun hf => ?_) (fun hf => ?_)
    · refine g_iload_n C 65 1 dX8_lowerBound_65 rfl rfl ?_
      cases hf
      exact g_iret C 66 dX8_lowerBound_66 F hB
    · refine g_aload_n C 26 0 dX8_lowerBound_26 rfl rfl ?_
      refine g_get C 27 0 4 dX8_lowerBound_27 inX8 rfl rfl (by decide) kw_267 rfl ?_
      obtain ⟨u4, hu4, hf⟩ := cal_some hf
      refine g_callV1 C 30 [3, 4] 3 (rest := []) dX8_lowerBound_30 (c_X1_loneliest (x_l X) cA q_t_going t_going_left t_going_newEnds q_t_going_near t_going_near u4 hu4) kw_280 kw_281 kw_282 kw_16 kw_283 ok_X1_loneliest ⟨Nat.le_of_ble_eq_true rfl, Nat.le_of_ble_eq_true rfl⟩ hk ⟨rfl, rfl⟩ rfl rfl rfl rfl rfl (Nat.le_of_ble_eq_true rfl) rfl (ws' := [oB q_t 8 [.ref q_t_net, .ref q_t_order, .ref q_t_bags, .ref q_t_law, .ref q_t_going, .ref q_t_plan, z_t_search, z_t_tally], oB q_t_net 4 [.ref q_t_net_loads, .ref q_t_net_near, .ref q_t_net_ties, .int t_net_size, .int t_net_edges], aI cA q_t_net_near 14 t_net_near, oB q_t_going 1 [.ref q_t_going_near, .int t_going_left, .int t_going_newEnds], aI cA q_t_going_near 14 t_going_near]) (st' := [.int u4]) (N0 := 5) rfl [none, none, none, some 0, some 1] (by decide) rfl rfl ?_
      refine g_istore_n C 33 (fun z => [(3, .int z), (0, .ref q_t), (1, .int x1), (2, .int x2)]) dX8_lowerBound_33 rfl (by decide) (fun _ => rfl) hf (fun x3_5 hf => ?_)
      refine g_iload_n C 34 2 dX8_lowerBound_34 rfl rfl ?_
      refine g_aload_n C 35 1 dX8_lowerBound_35 rfl rfl ?_
      refine g_get C 36 0 4 dX8_lowerBound_36 inX8 rfl rfl (by decide) kw_267 rfl ?_
      refine g_get C 39 3 0 dX8_lowerBound_39 inX1 rfl rfl (by decide) kw_284 rfl ?_
      refine g_iload_n C 42 0 dX8_lowerBound_42 rfl rfl ?_
      refine g_iald C 43 4 dX8_lowerBound_43 rfl hf (fun v6 hf => ?_)
      obtain ⟨u7, hu7, hf⟩ := cal_some hf
      refine g_callS C 44 [] (rest := [.int x1]) dX8_lowerBound_44 (c_J6_bitCount_0f7a4 (x_l X) cA v6 u7 hu7) kw_285 kw_20 kw_21 kw_22 ok_J6_bitCount_0f7a4 ⟨Nat.le_of_ble_eq_true rfl, Nat.le_of_ble_eq_true rfl⟩ hk ⟨rfl, rfl⟩ rfl rfl rfl (Nat.le_of_ble_eq_true rfl) rfl (ws' := [oB q_t 8 [.ref q_t_net, .ref q_t_order, .ref q_t_bags, .ref q_t_law, .ref q_t_going, .ref q_t_plan, z_t_search, z_t_tally], oB q_t_net 4 [.ref q_t_net_loads, .ref q_t_net_near, .ref q_t_net_ties, .int t_net_size, .int t_net_edges], aI cA q_t_net_near 14 t_net_near, oB q_t_going 1 [.ref q_t_going_near, .int t_going_left, .int t_going_newEnds], aI cA q_t_going_near 14 t_going_near]) (st' := [.int u7, .int x1]) (N0 := 5) rfl [none, none, none, none, none] (by decide) rfl rfl ?_
      refine g_max C 47 dX8_lowerBound_47 kw_286 kw_37 kw_38 kw_39 (by decide) (Nat.le_of_ble_eq_true rfl) hk.1 hk.2 ?_
      refine g_istore_n C 50 (fun z => [(1, .int z), (3, .int x3_5), (0, .ref q_t), (2, .int x2)]) dX8_lowerBound_50 rfl (by decide) (fun _ => rfl) hf (fun x1_8 hf => ?_)
      refine g_aload_n C 51 2 dX8_lowerBound_51 rfl rfl ?_
      refine g_get C 52 0 4 dX8_lowerBound_52 inX8 rfl rfl (by decide) kw_267 rfl ?_
      refine g_iload_n C 55 1 dX8_lowerBound_55 rfl rfl ?_
      obtain ⟨u9, hu9, hf⟩ := cal_some hf
      refine g_callV1 C 56 [3, 4] 3 (rest := []) dX8_lowerBound_56 (c_X1_takeAway (x_l X) cA q_t_going t_going_left t_going_newEnds q_t_going_near t_going_near x3_5 u9 hu9) kw_287 kw_14 kw_15 kw_16 kw_17 ok_X1_takeAway ⟨Nat.le_of_ble_eq_true rfl, Nat.le_of_ble_eq_true rfl⟩ hk ⟨rfl, rfl⟩ rfl rfl rfl rfl rfl (Nat.le_of_ble_eq_true rfl) rfl (ws' := [oB q_t 8 [.ref q_t_net, .ref q_t_order, .ref q_t_bags, .ref q_t_law, .ref q_t_going, .ref q_t_plan, z_t_search, z_t_tally], oB q_t_net 4 [.ref q_t_net_loads, .ref q_t_net_near, .ref q_t_net_ties, .int t_net_size, .int t_net_edges], aI cA q_t_net_near 14 t_net_near, oB q_t_going 1 [.ref q_t_going_near, .int u9.1, .int t_going_newEnds], aI cA q_t_going_near 14 u9.2]) (st' := []) (N0 := 5) rfl [none, none, none, some 0, some 1] (by decide) rfl rfl ?_
      refine g_iinc C 59 3 (v := x2 + (1 : Int32)) (fun z => [(2, .int z), (1, .int x1_8), (3, .int x3_5), (0, .ref q_t)]) dX8_lowerBound_59 rfl rfl (by decide) (fun _ => rfl) hf (fun x2_10 hf => ?_)
      refine g_goto C 62 15 dX8_lowerBound_62 (by decide) ?_
      refine g_lv [3, 1, 0] rfl ?_
      exact ih x1_8 x2_10 u9.1 t_going_newEnds u9.2 hf
def f_X8_lowerBound (t_net_size : Int32) (t_net_near : Nat → Int32) (t_going_left : Int32) (t_going_newEnds : Int32) (t_going_near : Nat → Int32) : Option (Int32 × Int32 × Int32 × (Nat → Int32)) :=
  cal (f_X1_start t_going_left t_going_newEnds t_going_near t_net_size t_net_near) fun u1 =>
  bnd (-1 : Int32) fun x1_2 =>
  bnd (0 : Int32) fun x2_3 =>
  L_X8_lowerBound_15 t_net_size t_net_near NN x1_2 x2_3 u1.1 u1.2.1 u1.2.2

set_option maxRecDepth 100000 in
set_option maxHeartbeats 1000000 in
theorem c_X8_lowerBound (l : Launch) (cA : Nat → ClassId) (q_t : Nat) (q_t_order : Nat) (q_t_bags : Nat) (q_t_law : Nat) (q_t_plan : Nat) (z_t_search : Value) (z_t_tally : Value) (q_t_net : Nat) (q_t_net_loads : Nat) (q_t_net_ties : Nat) (t_net_size : Int32) (t_net_edges : Int32) (q_t_net_near : Nat) (t_net_near : Nat → Int32) (q_t_going : Nat) (t_going_left : Int32) (t_going_newEnds : Int32) (q_t_going_near : Nat) (t_going_near : Nat → Int32)   (r : Int32 × Int32 × Int32 × (Nat → Int32)) (hf : f_X8_lowerBound t_net_size t_net_near t_going_left t_going_newEnds t_going_near = some r) : MT l cA yX8_lowerBound cX8_lowerBound 4 (some .int) ({ frames := 2, cells := 0, slots := 0, locals := 81 } : Room) [.ref q_t] [oB q_t 8 [.ref q_t_net, .ref q_t_order, .ref q_t_bags, .ref q_t_law, .ref q_t_going, .ref q_t_plan, z_t_search, z_t_tally], oB q_t_net 4 [.ref q_t_net_loads, .ref q_t_net_near, .ref q_t_net_ties, .int t_net_size, .int t_net_edges], aI cA q_t_net_near 14 t_net_near, oB q_t_going 1 [.ref q_t_going_near, .int t_going_left, .int t_going_newEnds], aI cA q_t_going_near 14 t_going_near] (sB (some (.int r.1)) [oB q_t 8 [.ref q_t_net, .ref q_t_order, .ref q_t_bags, .ref q_t_law, .ref q_t_going, .ref q_t_plan, z_t_search, z_t_tally], oB q_t_net 4 [.ref q_t_net_loads, .ref q_t_net_near, .ref q_t_net_ties, .int t_net_size, .int t_net_edges], aI cA q_t_net_near 14 t_net_near, oB q_t_going 1 [.ref q_t_going_near, .int r.2.1, .int r.2.2.1], aI cA q_t_going_near 14 r.2.2.2]) := by
  refine MT.of (by decide) (Nat.le_of_ble_eq_true rfl) ?_
  intro X hXl C F hnm hrc hrs
  subst hXl
  have hk : 0 ≤ (x_R X).cells ∧ 0 ≤ (x_R X).slots := ⟨Nat.zero_le _, Nat.zero_le _⟩
  have hB : (sB (some (.int r.1)) [oB q_t 8 [.ref q_t_net, .ref q_t_order, .ref q_t_bags, .ref q_t_law, .ref q_t_going, .ref q_t_plan, z_t_search, z_t_tally], oB q_t_net 4 [.ref q_t_net_loads, .ref q_t_net_near, .ref q_t_net_ties, .int t_net_size, .int t_net_edges], aI cA q_t_net_near 14 t_net_near, oB q_t_going 1 [.ref q_t_going_near, .int r.2.1, .int r.2.2.1], aI cA q_t_going_near 14 r.2.2.2]) (some (.int r.1)) [oB q_t 8 [.ref q_t_net, .ref q_t_order, .ref q_t_bags, .ref q_t_law, .ref q_t_going, .ref q_t_plan, z_t_search, z_t_tally], oB q_t_net 4 [.ref q_t_net_loads, .ref q_t_net_near, .ref q_t_net_ties, .int t_net_size, .int t_net_edges], aI cA q_t_net_near 14 t_net_near, oB q_t_going 1 [.ref q_t_going_near, .int r.2.1, .int r.2.2.1], aI cA q_t_going_near 14 r.2.2.2] := ⟨rfl, rfl⟩
  unfold f_X8_lowerBound at hf
  have C : Cx X cX8_lowerBound RX8 (some .int) cA 2 81 4 := C
  show Go X 4 0 0 0 [oB q_t 8 [.ref q_t_net, .ref q_t_order, .ref q_t_bags, .ref q_t_law, .ref q_t_going, .ref q_t_plan, z_t_search, z_t_tally], oB q_t_net 4 [.ref q_t_net_loads, .ref q_t_net_near, .ref q_t_net_ties, .int t_net_size, .int t_net_edges], aI cA q_t_net_near 14 t_net_near, oB q_t_going 1 [.ref q_t_going_near, .int t_going_left, .int t_going_newEnds], aI cA q_t_going_near 14 t_going_near] [(0, .ref q_t)] []
  refine g_aload_n C 0 0 dX8_lowerBound_0 rfl rfl ?_
  refine g_get C 1 0 4 dX8_lowerBound_1 inX8 rfl rfl (by decide) kw_267 rfl ?_
  refine g_aload_n C 4 0 dX8_lowerBound_4 rfl rfl ?_
  refine g_get C 5 0 0 dX8_lowerBound_5 inX8 rfl rfl (by decide) kw_229 rfl ?_
  obtain ⟨u1, hu1, hf⟩ := cal_some hf
  refine g_callV1 C 8 [3, 4, 1, 2] 3 (rest := []) dX8_lowerBound_8 (c_X1_start (x_l X) cA q_t_going t_going_left t_going_newEnds q_t_going_near t_going_near q_t_net q_t_net_loads q_t_net_ties t_net_size t_net_edges q_t_net_near t_net_near u1 hu1) kw_268 kw_125 kw_126 kw_16 kw_127 ok_X1_start ⟨Nat.le_of_ble_eq_true rfl, Nat.le_of_ble_eq_true rfl⟩ hk ⟨rfl, rfl⟩ rfl rfl rfl rfl rfl (Nat.le_of_ble_eq_true rfl) rfl (ws' := [oB q_t 8 [.ref q_t_net, .ref q_t_order, .ref q_t_bags, .ref q_t_law, .ref q_t_going, .ref q_t_plan, z_t_search, z_t_tally], oB q_t_net 4 [.ref q_t_net_loads, .ref q_t_net_near, .ref q_t_net_ties, .int t_net_size, .int t_net_edges], aI cA q_t_net_near 14 t_net_near, oB q_t_going 1 [.ref q_t_going_near, .int u1.1, .int u1.2.1], aI cA q_t_going_near 14 u1.2.2]) (st' := []) (N0 := 5) rfl [none, some 2, some 3, some 0, some 1] (by decide) rfl rfl ?_
  refine g_iconst C 11 (-1 : Int32) dX8_lowerBound_11 (by decide) ?_
  refine g_istore_n C 12 (fun z => [(1, .int z), (0, .ref q_t)]) dX8_lowerBound_12 rfl (by decide) (fun _ => rfl) hf (fun x1_2 hf => ?_)
  refine g_iconst C 13 (0 : Int32) dX8_lowerBound_13 (by decide) ?_
  refine g_istore_n C 14 (fun z => [(2, .int z), (1, .int x1_2), (0, .ref q_t)]) dX8_lowerBound_14 rfl (by decide) (fun _ => rfl) hf (fun x2_3 hf => ?_)
  refine g_lv [2, 1, 0] rfl ?_
  exact w_X8_lowerBound_15 cA q_t q_t_order q_t_bags q_t_law q_t_plan z_t_search z_t_tally q_t_net q_t_net_loads q_t_net_ties t_net_edges q_t_net_near q_t_going q_t_going_near t_net_size t_net_near C hk F r hB NN x1_2 x2_3 u1.1 u1.2.1 u1.2.2 hf

def f_X8_row (a1 : Int32) (t_order_size : Int32) (t_order_knots : Nat → Int32) : Option (Int32) :=
  if a1 < 0 then
    some ((-1 : Int32))
  else
    if t_order_size ≤ a1 then
      some ((-1 : Int32))
    else
      ldA t_order_knots 14 a1 fun v1 =>
      some (v1)

set_option maxRecDepth 100000 in
set_option maxHeartbeats 1000000 in
theorem c_X8_row (l : Launch) (cA : Nat → ClassId) (q_t : Nat) (q_t_net : Nat) (q_t_bags : Nat) (q_t_law : Nat) (q_t_going : Nat) (q_t_plan : Nat) (z_t_search : Value) (z_t_tally : Value) (q_t_order : Nat) (t_order_size : Int32) (t_order_held : Int32) (q_t_order_knots : Nat) (t_order_knots : Nat → Int32)  (a1 : Int32) (r : Int32) (hf : f_X8_row a1 t_order_size t_order_knots = some r) : MT l cA yX8_row cX8_row 2 (some .int) ({ frames := 0, cells := 0, slots := 0, locals := 0 } : Room) [.ref q_t, .int a1] [oB q_t 8 [.ref q_t_net, .ref q_t_order, .ref q_t_bags, .ref q_t_law, .ref q_t_going, .ref q_t_plan, z_t_search, z_t_tally], oB q_t_order 2 [.ref q_t_order_knots, .int t_order_size, .int t_order_held], aI cA q_t_order_knots 14 t_order_knots] (sB (some (.int r)) [oB q_t 8 [.ref q_t_net, .ref q_t_order, .ref q_t_bags, .ref q_t_law, .ref q_t_going, .ref q_t_plan, z_t_search, z_t_tally], oB q_t_order 2 [.ref q_t_order_knots, .int t_order_size, .int t_order_held], aI cA q_t_order_knots 14 t_order_knots]) := by
  refine MT.of (by decide) (Nat.le_of_ble_eq_true rfl) ?_
  intro X hXl C F hnm hrc hrs
  subst hXl
  have hk : 0 ≤ (x_R X).cells ∧ 0 ≤ (x_R X).slots := ⟨Nat.zero_le _, Nat.zero_le _⟩
  have hB : (sB (some (.int r)) [oB q_t 8 [.ref q_t_net, .ref q_t_order, .ref q_t_bags, .ref q_t_law, .ref q_t_going, .ref q_t_plan, z_t_search, z_t_tally], oB q_t_order 2 [.ref q_t_order_knots, .int t_order_size, .int t_order_held], aI cA q_t_order_knots 14 t_order_knots]) (some (.int r)) [oB q_t 8 [.ref q_t_net, .ref q_t_order, .ref q_t_bags, .ref q_t_law, .ref q_t_going, .ref q_t_plan, z_t_search, z_t_tally], oB q_t_order 2 [.ref q_t_order_knots, .int t_order_size, .int t_order_held], aI cA q_t_order_knots 14 t_order_knots] := ⟨rfl, rfl⟩
  unfold f_X8_row at hf
  have C : Cx X cX8_row RX8 (some .int) cA 0 0 2 := C
  show Go X 2 0 0 0 [oB q_t 8 [.ref q_t_net, .ref q_t_order, .ref q_t_bags, .ref q_t_law, .ref q_t_going, .ref q_t_plan, z_t_search, z_t_tally], oB q_t_order 2 [.ref q_t_order_knots, .int t_order_size, .int t_order_held], aI cA q_t_order_knots 14 t_order_knots] [(0, .ref q_t), (1, .int a1)] []
  refine g_iload_n C 0 1 dX8_row_0 rfl rfl ?_
  refine g_if_lt C 1 27 dX8_row_1 (by decide) hf (fun hf => ?_) (fun hf => ?_)
  · refine g_iconst C 27 (-1 : Int32) dX8_row_27 (by decide) ?_
    cases hf
    exact g_iret C 28 dX8_row_28 F hB
  · refine g_iload_n C 4 1 dX8_row_4 rfl rfl ?_
    refine g_aload_n C 5 0 dX8_row_5 rfl rfl ?_
    refine g_get C 6 0 1 dX8_row_6 inX8 rfl rfl (by decide) kw_231 rfl ?_
    refine g_get C 9 1 1 dX8_row_9 inX2 rfl rfl (by decide) kw_266 rfl ?_
    refine g_icmp_ge C 12 27 dX8_row_12 (by decide) hf (fun hf => ?_) (fun hf => ?_)
    · refine g_iconst C 27 (-1 : Int32) dX8_row_27 (by decide) ?_
      cases hf
      exact g_iret C 28 dX8_row_28 F hB
    · refine g_aload_n C 15 0 dX8_row_15 rfl rfl ?_
      refine g_get C 16 0 1 dX8_row_16 inX8 rfl rfl (by decide) kw_231 rfl ?_
      refine g_get C 19 1 0 dX8_row_19 inX2 rfl rfl (by decide) kw_278 rfl ?_
      refine g_iload_n C 22 1 dX8_row_22 rfl rfl ?_
      refine g_iald C 23 2 dX8_row_23 rfl hf (fun v1 hf => ?_)
      refine g_goto C 24 28 dX8_row_24 (by decide) ?_
      cases hf
      exact g_iret C 28 dX8_row_28 F hB

def f_X8_below (t_net_size : Int32) (t_net_near : Nat → Int32) (t_going_left : Int32) (t_going_newEnds : Int32) (t_going_near : Nat → Int32) : Option (Int32 × Int32 × Int32 × (Nat → Int32)) :=
  cal (f_X8_lowerBound t_net_size t_net_near t_going_left t_going_newEnds t_going_near) fun u1 =>
  some (u1.1, u1.2.1, u1.2.2.1, u1.2.2.2)

set_option maxRecDepth 100000 in
set_option maxHeartbeats 1000000 in
theorem c_X8_below (l : Launch) (cA : Nat → ClassId) (q_t : Nat) (q_t_order : Nat) (q_t_bags : Nat) (q_t_law : Nat) (q_t_plan : Nat) (z_t_search : Value) (z_t_tally : Value) (q_t_net : Nat) (q_t_net_loads : Nat) (q_t_net_ties : Nat) (t_net_size : Int32) (t_net_edges : Int32) (q_t_net_near : Nat) (t_net_near : Nat → Int32) (q_t_going : Nat) (t_going_left : Int32) (t_going_newEnds : Int32) (q_t_going_near : Nat) (t_going_near : Nat → Int32)   (r : Int32 × Int32 × Int32 × (Nat → Int32)) (hf : f_X8_below t_net_size t_net_near t_going_left t_going_newEnds t_going_near = some r) : MT l cA yX8_below cX8_below 1 (some .int) ({ frames := 3, cells := 0, slots := 0, locals := 104 } : Room) [.ref q_t] [oB q_t 8 [.ref q_t_net, .ref q_t_order, .ref q_t_bags, .ref q_t_law, .ref q_t_going, .ref q_t_plan, z_t_search, z_t_tally], oB q_t_net 4 [.ref q_t_net_loads, .ref q_t_net_near, .ref q_t_net_ties, .int t_net_size, .int t_net_edges], aI cA q_t_net_near 14 t_net_near, oB q_t_going 1 [.ref q_t_going_near, .int t_going_left, .int t_going_newEnds], aI cA q_t_going_near 14 t_going_near] (sB (some (.int r.1)) [oB q_t 8 [.ref q_t_net, .ref q_t_order, .ref q_t_bags, .ref q_t_law, .ref q_t_going, .ref q_t_plan, z_t_search, z_t_tally], oB q_t_net 4 [.ref q_t_net_loads, .ref q_t_net_near, .ref q_t_net_ties, .int t_net_size, .int t_net_edges], aI cA q_t_net_near 14 t_net_near, oB q_t_going 1 [.ref q_t_going_near, .int r.2.1, .int r.2.2.1], aI cA q_t_going_near 14 r.2.2.2]) := by
  refine MT.of (by decide) (Nat.le_of_ble_eq_true rfl) ?_
  intro X hXl C F hnm hrc hrs
  subst hXl
  have hk : 0 ≤ (x_R X).cells ∧ 0 ≤ (x_R X).slots := ⟨Nat.zero_le _, Nat.zero_le _⟩
  have hB : (sB (some (.int r.1)) [oB q_t 8 [.ref q_t_net, .ref q_t_order, .ref q_t_bags, .ref q_t_law, .ref q_t_going, .ref q_t_plan, z_t_search, z_t_tally], oB q_t_net 4 [.ref q_t_net_loads, .ref q_t_net_near, .ref q_t_net_ties, .int t_net_size, .int t_net_edges], aI cA q_t_net_near 14 t_net_near, oB q_t_going 1 [.ref q_t_going_near, .int r.2.1, .int r.2.2.1], aI cA q_t_going_near 14 r.2.2.2]) (some (.int r.1)) [oB q_t 8 [.ref q_t_net, .ref q_t_order, .ref q_t_bags, .ref q_t_law, .ref q_t_going, .ref q_t_plan, z_t_search, z_t_tally], oB q_t_net 4 [.ref q_t_net_loads, .ref q_t_net_near, .ref q_t_net_ties, .int t_net_size, .int t_net_edges], aI cA q_t_net_near 14 t_net_near, oB q_t_going 1 [.ref q_t_going_near, .int r.2.1, .int r.2.2.1], aI cA q_t_going_near 14 r.2.2.2] := ⟨rfl, rfl⟩
  unfold f_X8_below at hf
  have C : Cx X cX8_below RX8 (some .int) cA 3 104 1 := C
  show Go X 1 0 0 0 [oB q_t 8 [.ref q_t_net, .ref q_t_order, .ref q_t_bags, .ref q_t_law, .ref q_t_going, .ref q_t_plan, z_t_search, z_t_tally], oB q_t_net 4 [.ref q_t_net_loads, .ref q_t_net_near, .ref q_t_net_ties, .int t_net_size, .int t_net_edges], aI cA q_t_net_near 14 t_net_near, oB q_t_going 1 [.ref q_t_going_near, .int t_going_left, .int t_going_newEnds], aI cA q_t_going_near 14 t_going_near] [(0, .ref q_t)] []
  refine g_aload_n C 0 0 dX8_below_0 rfl rfl ?_
  obtain ⟨u1, hu1, hf⟩ := cal_some hf
  refine g_callV1 C 1 [0, 1, 2, 3, 4] 0 (rest := []) dX8_below_1 (c_X8_lowerBound (x_l X) cA q_t q_t_order q_t_bags q_t_law q_t_plan z_t_search z_t_tally q_t_net q_t_net_loads q_t_net_ties t_net_size t_net_edges q_t_net_near t_net_near q_t_going t_going_left t_going_newEnds q_t_going_near t_going_near u1 hu1) kw_288 kw_289 kw_290 kw_6 kw_291 ok_X8_lowerBound ⟨Nat.le_of_ble_eq_true rfl, Nat.le_of_ble_eq_true rfl⟩ hk ⟨rfl, rfl⟩ rfl rfl rfl rfl rfl (Nat.le_of_ble_eq_true rfl) rfl (ws' := [oB q_t 8 [.ref q_t_net, .ref q_t_order, .ref q_t_bags, .ref q_t_law, .ref q_t_going, .ref q_t_plan, z_t_search, z_t_tally], oB q_t_net 4 [.ref q_t_net_loads, .ref q_t_net_near, .ref q_t_net_ties, .int t_net_size, .int t_net_edges], aI cA q_t_net_near 14 t_net_near, oB q_t_going 1 [.ref q_t_going_near, .int u1.2.1, .int u1.2.2.1], aI cA q_t_going_near 14 u1.2.2.2]) (st' := [.int u1.1]) (N0 := 5) rfl [some 0, some 1, some 2, some 3, some 4] (by decide) rfl rfl ?_
  cases hf
  exact g_iret C 4 dX8_below_4 F hB

def f_X8_clear (t_bags_size : Int32) : Option (Int32 × Int32) :=
  bnd t_bags_size fun x1_1 =>
  cal (f_X0_empty t_bags_size) fun u2 =>
  some (x1_1, u2)

set_option maxRecDepth 100000 in
set_option maxHeartbeats 1000000 in
theorem c_X8_clear (l : Launch) (cA : Nat → ClassId) (q_t : Nat) (q_t_net : Nat) (q_t_order : Nat) (q_t_law : Nat) (q_t_going : Nat) (q_t_plan : Nat) (z_t_search : Value) (z_t_tally : Value) (q_t_bags : Nat) (q_t_bags_masks : Nat) (q_t_bags_ups : Nat) (t_bags_size : Int32)   (r : Int32 × Int32) (hf : f_X8_clear t_bags_size = some r) : MT l cA yX8_clear cX8_clear 2 (some .int) ({ frames := 1, cells := 0, slots := 0, locals := 20 } : Room) [.ref q_t] [oB q_t 8 [.ref q_t_net, .ref q_t_order, .ref q_t_bags, .ref q_t_law, .ref q_t_going, .ref q_t_plan, z_t_search, z_t_tally], oB q_t_bags 0 [.ref q_t_bags_masks, .ref q_t_bags_ups, .int t_bags_size]] (sB (some (.int r.1)) [oB q_t 8 [.ref q_t_net, .ref q_t_order, .ref q_t_bags, .ref q_t_law, .ref q_t_going, .ref q_t_plan, z_t_search, z_t_tally], oB q_t_bags 0 [.ref q_t_bags_masks, .ref q_t_bags_ups, .int r.2]]) := by
  refine MT.of (by decide) (Nat.le_of_ble_eq_true rfl) ?_
  intro X hXl C F hnm hrc hrs
  subst hXl
  have hk : 0 ≤ (x_R X).cells ∧ 0 ≤ (x_R X).slots := ⟨Nat.zero_le _, Nat.zero_le _⟩
  have hB : (sB (some (.int r.1)) [oB q_t 8 [.ref q_t_net, .ref q_t_order, .ref q_t_bags, .ref q_t_law, .ref q_t_going, .ref q_t_plan, z_t_search, z_t_tally], oB q_t_bags 0 [.ref q_t_bags_masks, .ref q_t_bags_ups, .int r.2]]) (some (.int r.1)) [oB q_t 8 [.ref q_t_net, .ref q_t_order, .ref q_t_bags, .ref q_t_law, .ref q_t_going, .ref q_t_plan, z_t_search, z_t_tally], oB q_t_bags 0 [.ref q_t_bags_masks, .ref q_t_bags_ups, .int r.2]] := ⟨rfl, rfl⟩
  unfold f_X8_clear at hf
  have C : Cx X cX8_clear RX8 (some .int) cA 1 20 2 := C
  show Go X 2 0 0 0 [oB q_t 8 [.ref q_t_net, .ref q_t_order, .ref q_t_bags, .ref q_t_law, .ref q_t_going, .ref q_t_plan, z_t_search, z_t_tally], oB q_t_bags 0 [.ref q_t_bags_masks, .ref q_t_bags_ups, .int t_bags_size]] [(0, .ref q_t)] []
  refine g_aload_n C 0 0 dX8_clear_0 rfl rfl ?_
  refine g_get C 1 0 2 dX8_clear_1 inX8 rfl rfl (by decide) kw_236 rfl ?_
  refine g_get C 4 1 2 dX8_clear_4 inX0 rfl rfl (by decide) kw_292 rfl ?_
  refine g_istore_n C 7 (fun z => [(1, .int z), (0, .ref q_t)]) dX8_clear_7 rfl (by decide) (fun _ => rfl) hf (fun x1_1 hf => ?_)
  refine g_aload_n C 8 1 dX8_clear_8 rfl rfl ?_
  refine g_get C 9 0 2 dX8_clear_9 inX8 rfl rfl (by decide) kw_236 rfl ?_
  obtain ⟨u2, hu2, hf⟩ := cal_some hf
  refine g_callV1 C 12 [1] 1 (rest := []) dX8_clear_12 (c_X0_empty (x_l X) cA q_t_bags q_t_bags_masks q_t_bags_ups t_bags_size u2 hu2) kw_237 kw_238 kw_239 kw_43 kw_240 ok_X0_empty ⟨Nat.le_of_ble_eq_true rfl, Nat.le_of_ble_eq_true rfl⟩ hk ⟨rfl, rfl⟩ rfl rfl rfl rfl rfl (Nat.le_of_ble_eq_true rfl) rfl (ws' := [oB q_t 8 [.ref q_t_net, .ref q_t_order, .ref q_t_bags, .ref q_t_law, .ref q_t_going, .ref q_t_plan, z_t_search, z_t_tally], oB q_t_bags 0 [.ref q_t_bags_masks, .ref q_t_bags_ups, .int u2]]) (st' := []) (N0 := 2) rfl [none, some 0] (by decide) rfl rfl ?_
  refine g_iload_n C 15 0 dX8_clear_15 rfl rfl ?_
  cases hf
  exact g_iret C 16 dX8_clear_16 F hB

def f_X8_bag (a1 : Int32) (t_net_size : Int32) (t_bags_size : Int32) (t_bags_masks : Nat → Int32) (t_bags_ups : Nat → Int32) : Option (Int32 × Int32 × (Nat → Int32) × (Nat → Int32)) :=
  if a1 = 0 then
    some ((-2 : Int32), t_bags_size, t_bags_masks, t_bags_ups)
  else
    cal (f_X4_everyKnot t_net_size) fun u1 =>
    if (a1 &&& (u1 ^^^ (-1 : Int32))) = 0 then
      if t_bags_size < (14 : Int32) then
        cal (f_X0_append a1 t_bags_size t_bags_masks t_bags_ups) fun u2 =>
        some (u2.1, u2.2.1, u2.2.2.1, u2.2.2.2)
      else
        some ((-3 : Int32), t_bags_size, t_bags_masks, t_bags_ups)
    else
      some ((-2 : Int32), t_bags_size, t_bags_masks, t_bags_ups)

set_option maxRecDepth 100000 in
set_option maxHeartbeats 1000000 in
theorem c_X8_bag (l : Launch) (cA : Nat → ClassId) (q_t : Nat) (q_t_order : Nat) (q_t_law : Nat) (q_t_going : Nat) (q_t_plan : Nat) (z_t_search : Value) (z_t_tally : Value) (q_t_net : Nat) (q_t_net_loads : Nat) (q_t_net_near : Nat) (q_t_net_ties : Nat) (t_net_size : Int32) (t_net_edges : Int32) (q_t_bags : Nat) (t_bags_size : Int32) (q_t_bags_masks : Nat) (t_bags_masks : Nat → Int32) (q_t_bags_ups : Nat) (t_bags_ups : Nat → Int32)  (a1 : Int32) (r : Int32 × Int32 × (Nat → Int32) × (Nat → Int32)) (hf : f_X8_bag a1 t_net_size t_bags_size t_bags_masks t_bags_ups = some r) : MT l cA yX8_bag cX8_bag 2 (some .int) ({ frames := 1, cells := 0, slots := 0, locals := 21 } : Room) [.ref q_t, .int a1] [oB q_t 8 [.ref q_t_net, .ref q_t_order, .ref q_t_bags, .ref q_t_law, .ref q_t_going, .ref q_t_plan, z_t_search, z_t_tally], oB q_t_net 4 [.ref q_t_net_loads, .ref q_t_net_near, .ref q_t_net_ties, .int t_net_size, .int t_net_edges], oB q_t_bags 0 [.ref q_t_bags_masks, .ref q_t_bags_ups, .int t_bags_size], aI cA q_t_bags_masks 14 t_bags_masks, aI cA q_t_bags_ups 14 t_bags_ups] (sB (some (.int r.1)) [oB q_t 8 [.ref q_t_net, .ref q_t_order, .ref q_t_bags, .ref q_t_law, .ref q_t_going, .ref q_t_plan, z_t_search, z_t_tally], oB q_t_net 4 [.ref q_t_net_loads, .ref q_t_net_near, .ref q_t_net_ties, .int t_net_size, .int t_net_edges], oB q_t_bags 0 [.ref q_t_bags_masks, .ref q_t_bags_ups, .int r.2.1], aI cA q_t_bags_masks 14 r.2.2.1, aI cA q_t_bags_ups 14 r.2.2.2]) := by
  refine MT.of (by decide) (Nat.le_of_ble_eq_true rfl) ?_
  intro X hXl C F hnm hrc hrs
  subst hXl
  have hk : 0 ≤ (x_R X).cells ∧ 0 ≤ (x_R X).slots := ⟨Nat.zero_le _, Nat.zero_le _⟩
  have hB : (sB (some (.int r.1)) [oB q_t 8 [.ref q_t_net, .ref q_t_order, .ref q_t_bags, .ref q_t_law, .ref q_t_going, .ref q_t_plan, z_t_search, z_t_tally], oB q_t_net 4 [.ref q_t_net_loads, .ref q_t_net_near, .ref q_t_net_ties, .int t_net_size, .int t_net_edges], oB q_t_bags 0 [.ref q_t_bags_masks, .ref q_t_bags_ups, .int r.2.1], aI cA q_t_bags_masks 14 r.2.2.1, aI cA q_t_bags_ups 14 r.2.2.2]) (some (.int r.1)) [oB q_t 8 [.ref q_t_net, .ref q_t_order, .ref q_t_bags, .ref q_t_law, .ref q_t_going, .ref q_t_plan, z_t_search, z_t_tally], oB q_t_net 4 [.ref q_t_net_loads, .ref q_t_net_near, .ref q_t_net_ties, .int t_net_size, .int t_net_edges], oB q_t_bags 0 [.ref q_t_bags_masks, .ref q_t_bags_ups, .int r.2.1], aI cA q_t_bags_masks 14 r.2.2.1, aI cA q_t_bags_ups 14 r.2.2.2] := ⟨rfl, rfl⟩
  unfold f_X8_bag at hf
  have C : Cx X cX8_bag RX8 (some .int) cA 1 21 2 := C
  show Go X 2 0 0 0 [oB q_t 8 [.ref q_t_net, .ref q_t_order, .ref q_t_bags, .ref q_t_law, .ref q_t_going, .ref q_t_plan, z_t_search, z_t_tally], oB q_t_net 4 [.ref q_t_net_loads, .ref q_t_net_near, .ref q_t_net_ties, .int t_net_size, .int t_net_edges], oB q_t_bags 0 [.ref q_t_bags_masks, .ref q_t_bags_ups, .int t_bags_size], aI cA q_t_bags_masks 14 t_bags_masks, aI cA q_t_bags_ups 14 t_bags_ups] [(0, .ref q_t), (1, .int a1)] []
  refine g_iload_n C 0 1 dX8_bag_0 rfl rfl ?_
  refine g_if_eq C 1 18 dX8_bag_1 (by decide) hf (fun hf => ?_) (fun hf => ?_)
  · refine g_bipush C 18 (-2 : Int32) dX8_bag_18 (by decide) ?_
    cases hf
    exact g_iret C 20 dX8_bag_20 F hB
  · refine g_iload_n C 4 1 dX8_bag_4 rfl rfl ?_
    refine g_aload_n C 5 0 dX8_bag_5 rfl rfl ?_
    refine g_get C 6 0 0 dX8_bag_6 inX8 rfl rfl (by decide) kw_229 rfl ?_
    obtain ⟨u1, hu1, hf⟩ := cal_some hf
    refine g_callV1 C 9 [1] 1 (rest := [.int a1]) dX8_bag_9 (c_X4_everyKnot (x_l X) cA q_t_net q_t_net_loads q_t_net_near q_t_net_ties t_net_size t_net_edges u1 hu1) kw_293 kw_83 kw_84 kw_49 kw_85 ok_X4_everyKnot ⟨Nat.le_of_ble_eq_true rfl, Nat.le_of_ble_eq_true rfl⟩ hk ⟨rfl, rfl⟩ rfl rfl rfl rfl rfl (Nat.le_of_ble_eq_true rfl) rfl (ws' := [oB q_t 8 [.ref q_t_net, .ref q_t_order, .ref q_t_bags, .ref q_t_law, .ref q_t_going, .ref q_t_plan, z_t_search, z_t_tally], oB q_t_net 4 [.ref q_t_net_loads, .ref q_t_net_near, .ref q_t_net_ties, .int t_net_size, .int t_net_edges], oB q_t_bags 0 [.ref q_t_bags_masks, .ref q_t_bags_ups, .int t_bags_size], aI cA q_t_bags_masks 14 t_bags_masks, aI cA q_t_bags_ups 14 t_bags_ups]) (st' := [.int u1, .int a1]) (N0 := 5) rfl [none, some 0, none, none, none] (by decide) rfl rfl ?_
    refine g_iconst C 12 (-1 : Int32) dX8_bag_12 (by decide) ?_
    refine g_ixor C 13 dX8_bag_13 ?_
    refine g_iand C 14 dX8_bag_14 ?_
    refine g_if_eq C 15 21 dX8_bag_15 (by decide) hf (fun hf => ?_) (fun hf => ?_)
    · refine g_aload_n C 21 0 dX8_bag_21 rfl rfl ?_
      refine g_get C 22 0 2 dX8_bag_22 inX8 rfl rfl (by decide) kw_236 rfl ?_
      refine g_get C 25 2 2 dX8_bag_25 inX0 rfl rfl (by decide) kw_292 rfl ?_
      refine g_bipush C 28 (14 : Int32) dX8_bag_28 (by decide) ?_
      refine g_icmp_lt C 30 36 dX8_bag_30 (by decide) hf (fun hf => ?_) (fun hf => ?_)
      · refine g_aload_n C 36 0 dX8_bag_36 rfl rfl ?_
        refine g_get C 37 0 2 dX8_bag_37 inX8 rfl rfl (by decide) kw_236 rfl ?_
        refine g_iload_n C 40 1 dX8_bag_40 rfl rfl ?_
        obtain ⟨u2, hu2, hf⟩ := cal_some hf
        refine g_callV1 C 41 [2, 3, 4] 2 (rest := []) dX8_bag_41 (c_X0_append (x_l X) cA q_t_bags t_bags_size q_t_bags_masks t_bags_masks q_t_bags_ups t_bags_ups a1 u2 hu2) kw_294 kw_295 kw_296 kw_43 kw_297 ok_X0_append ⟨Nat.le_of_ble_eq_true rfl, Nat.le_of_ble_eq_true rfl⟩ hk ⟨rfl, rfl⟩ rfl rfl rfl rfl rfl (Nat.le_of_ble_eq_true rfl) rfl (ws' := [oB q_t 8 [.ref q_t_net, .ref q_t_order, .ref q_t_bags, .ref q_t_law, .ref q_t_going, .ref q_t_plan, z_t_search, z_t_tally], oB q_t_net 4 [.ref q_t_net_loads, .ref q_t_net_near, .ref q_t_net_ties, .int t_net_size, .int t_net_edges], oB q_t_bags 0 [.ref q_t_bags_masks, .ref q_t_bags_ups, .int u2.2.1], aI cA q_t_bags_masks 14 u2.2.2.1, aI cA q_t_bags_ups 14 u2.2.2.2]) (st' := [.int u2.1]) (N0 := 5) rfl [none, none, some 0, some 1, some 2] (by decide) rfl rfl ?_
        cases hf
        exact g_iret C 44 dX8_bag_44 F hB
      · refine g_bipush C 33 (-3 : Int32) dX8_bag_33 (by decide) ?_
        cases hf
        exact g_iret C 35 dX8_bag_35 F hB
    · refine g_bipush C 18 (-2 : Int32) dX8_bag_18 (by decide) ?_
      cases hf
      exact g_iret C 20 dX8_bag_20 F hB

def f_X8_hang (a1 : Int32) (a2 : Int32) (t_bags_size : Int32) (t_bags_ups : Nat → Int32) : Option (Int32 × (Nat → Int32)) :=
  cal (f_X0_has a1 t_bags_size) fun u1 =>
  if u1 = 0 then
    some ((-1 : Int32), t_bags_ups)
  else
    cal (f_X0_has a2 t_bags_size) fun u2 =>
    if u2 = 0 then
      some ((-1 : Int32), t_bags_ups)
    else
      if a1 = (t_bags_size - (1 : Int32)) then
        some ((-2 : Int32), t_bags_ups)
      else
        if a1 < a2 then
          ldA t_bags_ups 14 a1 fun v3 =>
          bnd v3 fun x3_4 =>
          stI t_bags_ups 14 a1 a2 fun t_bags_ups_5 =>
          some (x3_4, t_bags_ups_5)
        else
          some ((-2 : Int32), t_bags_ups)

set_option maxRecDepth 100000 in
set_option maxHeartbeats 1000000 in
theorem c_X8_hang (l : Launch) (cA : Nat → ClassId) (q_t : Nat) (q_t_net : Nat) (q_t_order : Nat) (q_t_law : Nat) (q_t_going : Nat) (q_t_plan : Nat) (z_t_search : Value) (z_t_tally : Value) (q_t_bags : Nat) (q_t_bags_masks : Nat) (t_bags_size : Int32) (q_t_bags_ups : Nat) (t_bags_ups : Nat → Int32)  (a1 : Int32) (a2 : Int32) (r : Int32 × (Nat → Int32)) (hf : f_X8_hang a1 a2 t_bags_size t_bags_ups = some r) : MT l cA yX8_hang cX8_hang 4 (some .int) ({ frames := 1, cells := 0, slots := 0, locals := 21 } : Room) [.ref q_t, .int a1, .int a2] [oB q_t 8 [.ref q_t_net, .ref q_t_order, .ref q_t_bags, .ref q_t_law, .ref q_t_going, .ref q_t_plan, z_t_search, z_t_tally], oB q_t_bags 0 [.ref q_t_bags_masks, .ref q_t_bags_ups, .int t_bags_size], aI cA q_t_bags_ups 14 t_bags_ups] (sB (some (.int r.1)) [oB q_t 8 [.ref q_t_net, .ref q_t_order, .ref q_t_bags, .ref q_t_law, .ref q_t_going, .ref q_t_plan, z_t_search, z_t_tally], oB q_t_bags 0 [.ref q_t_bags_masks, .ref q_t_bags_ups, .int t_bags_size], aI cA q_t_bags_ups 14 r.2]) := by
  refine MT.of (by decide) (Nat.le_of_ble_eq_true rfl) ?_
  intro X hXl C F hnm hrc hrs
  subst hXl
  have hk : 0 ≤ (x_R X).cells ∧ 0 ≤ (x_R X).slots := ⟨Nat.zero_le _, Nat.zero_le _⟩
  have hB : (sB (some (.int r.1)) [oB q_t 8 [.ref q_t_net, .ref q_t_order, .ref q_t_bags, .ref q_t_law, .ref q_t_going, .ref q_t_plan, z_t_search, z_t_tally], oB q_t_bags 0 [.ref q_t_bags_masks, .ref q_t_bags_ups, .int t_bags_size], aI cA q_t_bags_ups 14 r.2]) (some (.int r.1)) [oB q_t 8 [.ref q_t_net, .ref q_t_order, .ref q_t_bags, .ref q_t_law, .ref q_t_going, .ref q_t_plan, z_t_search, z_t_tally], oB q_t_bags 0 [.ref q_t_bags_masks, .ref q_t_bags_ups, .int t_bags_size], aI cA q_t_bags_ups 14 r.2] := ⟨rfl, rfl⟩
  unfold f_X8_hang at hf
  have C : Cx X cX8_hang RX8 (some .int) cA 1 21 4 := C
  show Go X 4 0 0 0 [oB q_t 8 [.ref q_t_net, .ref q_t_order, .ref q_t_bags, .ref q_t_law, .ref q_t_going, .ref q_t_plan, z_t_search, z_t_tally], oB q_t_bags 0 [.ref q_t_bags_masks, .ref q_t_bags_ups, .int t_bags_size], aI cA q_t_bags_ups 14 t_bags_ups] [(0, .ref q_t), (1, .int a1), (2, .int a2)] []
  refine g_aload_n C 0 0 dX8_hang_0 rfl rfl ?_
  refine g_get C 1 0 2 dX8_hang_1 inX8 rfl rfl (by decide) kw_236 rfl ?_
  refine g_iload_n C 4 1 dX8_hang_4 rfl rfl ?_
  obtain ⟨u1, hu1, hf⟩ := cal_some hf
  refine g_callV1 C 5 [1] 1 (rest := []) dX8_hang_5 (c_X0_has (x_l X) cA q_t_bags q_t_bags_masks q_t_bags_ups t_bags_size a1 u1 hu1) kw_298 kw_41 kw_42 kw_43 kw_44 ok_X0_has ⟨Nat.le_of_ble_eq_true rfl, Nat.le_of_ble_eq_true rfl⟩ hk ⟨rfl, rfl⟩ rfl rfl rfl rfl rfl (Nat.le_of_ble_eq_true rfl) rfl (ws' := [oB q_t 8 [.ref q_t_net, .ref q_t_order, .ref q_t_bags, .ref q_t_law, .ref q_t_going, .ref q_t_plan, z_t_search, z_t_tally], oB q_t_bags 0 [.ref q_t_bags_masks, .ref q_t_bags_ups, .int t_bags_size], aI cA q_t_bags_ups 14 t_bags_ups]) (st' := [.int u1]) (N0 := 3) rfl [none, some 0, none] (by decide) rfl rfl ?_
  refine g_if_eq C 8 22 dX8_hang_8 (by decide) hf (fun hf => ?_) (fun hf => ?_)
  · refine g_iconst C 22 (-1 : Int32) dX8_hang_22 (by decide) ?_
    cases hf
    exact g_iret C 23 dX8_hang_23 F hB
  · refine g_aload_n C 11 0 dX8_hang_11 rfl rfl ?_
    refine g_get C 12 0 2 dX8_hang_12 inX8 rfl rfl (by decide) kw_236 rfl ?_
    refine g_iload_n C 15 2 dX8_hang_15 rfl rfl ?_
    obtain ⟨u2, hu2, hf⟩ := cal_some hf
    refine g_callV1 C 16 [1] 1 (rest := []) dX8_hang_16 (c_X0_has (x_l X) cA q_t_bags q_t_bags_masks q_t_bags_ups t_bags_size a2 u2 hu2) kw_298 kw_41 kw_42 kw_43 kw_44 ok_X0_has ⟨Nat.le_of_ble_eq_true rfl, Nat.le_of_ble_eq_true rfl⟩ hk ⟨rfl, rfl⟩ rfl rfl rfl rfl rfl (Nat.le_of_ble_eq_true rfl) rfl (ws' := [oB q_t 8 [.ref q_t_net, .ref q_t_order, .ref q_t_bags, .ref q_t_law, .ref q_t_going, .ref q_t_plan, z_t_search, z_t_tally], oB q_t_bags 0 [.ref q_t_bags_masks, .ref q_t_bags_ups, .int t_bags_size], aI cA q_t_bags_ups 14 t_bags_ups]) (st' := [.int u2]) (N0 := 3) rfl [none, some 0, none] (by decide) rfl rfl ?_
    refine g_if_ne C 19 24 dX8_hang_19 (by decide) hf (fun hf => ?_) (fun hf => ?_)
    · refine g_iload_n C 24 1 dX8_hang_24 rfl rfl ?_
      refine g_aload_n C 25 0 dX8_hang_25 rfl rfl ?_
      refine g_get C 26 0 2 dX8_hang_26 inX8 rfl rfl (by decide) kw_236 rfl ?_
      refine g_get C 29 1 2 dX8_hang_29 inX0 rfl rfl (by decide) kw_292 rfl ?_
      refine g_iconst C 32 (1 : Int32) dX8_hang_32 (by decide) ?_
      refine g_isub C 33 dX8_hang_33 ?_
      refine g_icmp_eq C 34 42 dX8_hang_34 (by decide) hf (fun hf => ?_) (fun hf => ?_)
      · refine g_bipush C 42 (-2 : Int32) dX8_hang_42 (by decide) ?_
        cases hf
        exact g_iret C 44 dX8_hang_44 F hB
      · refine g_iload_n C 37 2 dX8_hang_37 rfl rfl ?_
        refine g_iload_n C 38 1 dX8_hang_38 rfl rfl ?_
        refine g_icmp_gt C 39 45 dX8_hang_39 (by decide) hf (fun hf => ?_) (fun hf => ?_)
        · refine g_aload_n C 45 0 dX8_hang_45 rfl rfl ?_
          refine g_get C 46 0 2 dX8_hang_46 inX8 rfl rfl (by decide) kw_236 rfl ?_
          refine g_get C 49 1 1 dX8_hang_49 inX0 rfl rfl (by decide) kw_299 rfl ?_
          refine g_iload_n C 52 1 dX8_hang_52 rfl rfl ?_
          refine g_iald C 53 2 dX8_hang_53 rfl hf (fun v3 hf => ?_)
          refine g_istore_n C 54 (fun z => [(3, .int z), (0, .ref q_t), (1, .int a1), (2, .int a2)]) dX8_hang_54 rfl (by decide) (fun _ => rfl) hf (fun x3_4 hf => ?_)
          refine g_aload_n C 55 1 dX8_hang_55 rfl rfl ?_
          refine g_get C 56 0 2 dX8_hang_56 inX8 rfl rfl (by decide) kw_236 rfl ?_
          refine g_get C 59 1 1 dX8_hang_59 inX0 rfl rfl (by decide) kw_299 rfl ?_
          refine g_iload_n C 62 2 dX8_hang_62 rfl rfl ?_
          refine g_iload_n C 63 3 dX8_hang_63 rfl rfl ?_
          refine g_iast C 64 2 (fun z => [oB q_t 8 [.ref q_t_net, .ref q_t_order, .ref q_t_bags, .ref q_t_law, .ref q_t_going, .ref q_t_plan, z_t_search, z_t_tally], oB q_t_bags 0 [.ref q_t_bags_masks, .ref q_t_bags_ups, .int t_bags_size], aI cA q_t_bags_ups 14 z]) dX8_hang_64 rfl (fun _ => rfl) hf (fun t_bags_ups_5 hf => ?_)
          refine g_iload_n C 65 0 dX8_hang_65 rfl rfl ?_
          cases hf
          exact g_iret C 66 dX8_hang_66 F hB
        · refine g_bipush C 42 (-2 : Int32) dX8_hang_42 (by decide) ?_
          cases hf
          exact g_iret C 44 dX8_hang_44 F hB
    · refine g_iconst C 22 (-1 : Int32) dX8_hang_22 (by decide) ?_
      cases hf
      exact g_iret C 23 dX8_hang_23 F hB

def f_X8_bagged (a1 : Int32) (a2 : Int32) (t_bags_size : Int32) (t_bags_masks : Nat → Int32) (t_bags_ups : Nat → Int32) : Option (Int32) :=
  cal (f_X0_has a1 t_bags_size) fun u1 =>
  if u1 = 0 then
    some ((-1 : Int32))
  else
    if a2 = 0 then
      ldA t_bags_masks 14 a1 fun v3 =>
      some (v3)
    else
      if a2 = 1 then
        ldA t_bags_ups 14 a1 fun v5 =>
        some (v5)
      else
        if a2 = 2 then
          cal (f_X0_hangingOn a1 t_bags_size t_bags_ups) fun u7 =>
          some (u7)
        else
          some ((-1 : Int32))

set_option maxRecDepth 100000 in
set_option maxHeartbeats 1000000 in
theorem c_X8_bagged (l : Launch) (cA : Nat → ClassId) (q_t : Nat) (q_t_net : Nat) (q_t_order : Nat) (q_t_law : Nat) (q_t_going : Nat) (q_t_plan : Nat) (z_t_search : Value) (z_t_tally : Value) (q_t_bags : Nat) (t_bags_size : Int32) (q_t_bags_masks : Nat) (t_bags_masks : Nat → Int32) (q_t_bags_ups : Nat) (t_bags_ups : Nat → Int32)  (a1 : Int32) (a2 : Int32) (r : Int32) (hf : f_X8_bagged a1 a2 t_bags_size t_bags_masks t_bags_ups = some r) : MT l cA yX8_bagged cX8_bagged 3 (some .int) ({ frames := 1, cells := 0, slots := 0, locals := 23 } : Room) [.ref q_t, .int a1, .int a2] [oB q_t 8 [.ref q_t_net, .ref q_t_order, .ref q_t_bags, .ref q_t_law, .ref q_t_going, .ref q_t_plan, z_t_search, z_t_tally], oB q_t_bags 0 [.ref q_t_bags_masks, .ref q_t_bags_ups, .int t_bags_size], aI cA q_t_bags_masks 14 t_bags_masks, aI cA q_t_bags_ups 14 t_bags_ups] (sB (some (.int r)) [oB q_t 8 [.ref q_t_net, .ref q_t_order, .ref q_t_bags, .ref q_t_law, .ref q_t_going, .ref q_t_plan, z_t_search, z_t_tally], oB q_t_bags 0 [.ref q_t_bags_masks, .ref q_t_bags_ups, .int t_bags_size], aI cA q_t_bags_masks 14 t_bags_masks, aI cA q_t_bags_ups 14 t_bags_ups]) := by
  refine MT.of (by decide) (Nat.le_of_ble_eq_true rfl) ?_
  intro X hXl C F hnm hrc hrs
  subst hXl
  have hk : 0 ≤ (x_R X).cells ∧ 0 ≤ (x_R X).slots := ⟨Nat.zero_le _, Nat.zero_le _⟩
  have hB : (sB (some (.int r)) [oB q_t 8 [.ref q_t_net, .ref q_t_order, .ref q_t_bags, .ref q_t_law, .ref q_t_going, .ref q_t_plan, z_t_search, z_t_tally], oB q_t_bags 0 [.ref q_t_bags_masks, .ref q_t_bags_ups, .int t_bags_size], aI cA q_t_bags_masks 14 t_bags_masks, aI cA q_t_bags_ups 14 t_bags_ups]) (some (.int r)) [oB q_t 8 [.ref q_t_net, .ref q_t_order, .ref q_t_bags, .ref q_t_law, .ref q_t_going, .ref q_t_plan, z_t_search, z_t_tally], oB q_t_bags 0 [.ref q_t_bags_masks, .ref q_t_bags_ups, .int t_bags_size], aI cA q_t_bags_masks 14 t_bags_masks, aI cA q_t_bags_ups 14 t_bags_ups] := ⟨rfl, rfl⟩
  unfold f_X8_bagged at hf
  have C : Cx X cX8_bagged RX8 (some .int) cA 1 23 3 := C
  show Go X 3 0 0 0 [oB q_t 8 [.ref q_t_net, .ref q_t_order, .ref q_t_bags, .ref q_t_law, .ref q_t_going, .ref q_t_plan, z_t_search, z_t_tally], oB q_t_bags 0 [.ref q_t_bags_masks, .ref q_t_bags_ups, .int t_bags_size], aI cA q_t_bags_masks 14 t_bags_masks, aI cA q_t_bags_ups 14 t_bags_ups] [(0, .ref q_t), (1, .int a1), (2, .int a2)] []
  refine g_aload_n C 0 0 dX8_bagged_0 rfl rfl ?_
  refine g_get C 1 0 2 dX8_bagged_1 inX8 rfl rfl (by decide) kw_236 rfl ?_
  refine g_iload_n C 4 1 dX8_bagged_4 rfl rfl ?_
  obtain ⟨u1, hu1, hf⟩ := cal_some hf
  refine g_callV1 C 5 [1] 1 (rest := []) dX8_bagged_5 (c_X0_has (x_l X) cA q_t_bags q_t_bags_masks q_t_bags_ups t_bags_size a1 u1 hu1) kw_298 kw_41 kw_42 kw_43 kw_44 ok_X0_has ⟨Nat.le_of_ble_eq_true rfl, Nat.le_of_ble_eq_true rfl⟩ hk ⟨rfl, rfl⟩ rfl rfl rfl rfl rfl (Nat.le_of_ble_eq_true rfl) rfl (ws' := [oB q_t 8 [.ref q_t_net, .ref q_t_order, .ref q_t_bags, .ref q_t_law, .ref q_t_going, .ref q_t_plan, z_t_search, z_t_tally], oB q_t_bags 0 [.ref q_t_bags_masks, .ref q_t_bags_ups, .int t_bags_size], aI cA q_t_bags_masks 14 t_bags_masks, aI cA q_t_bags_ups 14 t_bags_ups]) (st' := [.int u1]) (N0 := 4) rfl [none, some 0, none, none] (by decide) rfl rfl ?_
  refine g_if_ne C 8 13 dX8_bagged_8 (by decide) hf (fun hf => ?_) (fun hf => ?_)
  · refine g_iload_n C 13 2 dX8_bagged_13 rfl rfl ?_
    rcases ite_or hf with ⟨hx2, hf⟩ | ⟨hx2, hf⟩
    · refine g_tsw C 14 40 dX8_bagged_14 hx2 (by decide) (by decide) rfl (by decide) ?_
      refine g_aload_n C 40 0 dX8_bagged_40 rfl rfl ?_
      refine g_get C 41 0 2 dX8_bagged_41 inX8 rfl rfl (by decide) kw_236 rfl ?_
      refine g_get C 44 1 0 dX8_bagged_44 inX0 rfl rfl (by decide) kw_300 rfl ?_
      refine g_iload_n C 47 1 dX8_bagged_47 rfl rfl ?_
      refine g_iald C 48 2 dX8_bagged_48 rfl hf (fun v3 hf => ?_)
      cases hf
      exact g_iret C 49 dX8_bagged_49 F hB
    · skip
      rcases ite_or hf with ⟨hx4, hf⟩ | ⟨hx4, hf⟩
      · refine g_tsw C 14 50 dX8_bagged_14 hx4 (by decide) (by decide) rfl (by decide) ?_
        refine g_aload_n C 50 0 dX8_bagged_50 rfl rfl ?_
        refine g_get C 51 0 2 dX8_bagged_51 inX8 rfl rfl (by decide) kw_236 rfl ?_
        refine g_get C 54 1 1 dX8_bagged_54 inX0 rfl rfl (by decide) kw_299 rfl ?_
        refine g_iload_n C 57 1 dX8_bagged_57 rfl rfl ?_
        refine g_iald C 58 3 dX8_bagged_58 rfl hf (fun v5 hf => ?_)
        cases hf
        exact g_iret C 59 dX8_bagged_59 F hB
      · skip
        rcases ite_or hf with ⟨hx6, hf⟩ | ⟨hx6, hf⟩
        · refine g_tsw C 14 60 dX8_bagged_14 hx6 (by decide) (by decide) rfl (by decide) ?_
          refine g_aload_n C 60 0 dX8_bagged_60 rfl rfl ?_
          refine g_get C 61 0 2 dX8_bagged_61 inX8 rfl rfl (by decide) kw_236 rfl ?_
          refine g_iload_n C 64 1 dX8_bagged_64 rfl rfl ?_
          obtain ⟨u7, hu7, hf⟩ := cal_some hf
          refine g_callV1 C 65 [1, 3] 1 (rest := []) dX8_bagged_65 (c_X0_hangingOn (x_l X) cA q_t_bags q_t_bags_masks t_bags_size q_t_bags_ups t_bags_ups a1 u7 hu7) kw_301 kw_302 kw_303 kw_43 kw_304 ok_X0_hangingOn ⟨Nat.le_of_ble_eq_true rfl, Nat.le_of_ble_eq_true rfl⟩ hk ⟨rfl, rfl⟩ rfl rfl rfl rfl rfl (Nat.le_of_ble_eq_true rfl) rfl (ws' := [oB q_t 8 [.ref q_t_net, .ref q_t_order, .ref q_t_bags, .ref q_t_law, .ref q_t_going, .ref q_t_plan, z_t_search, z_t_tally], oB q_t_bags 0 [.ref q_t_bags_masks, .ref q_t_bags_ups, .int t_bags_size], aI cA q_t_bags_masks 14 t_bags_masks, aI cA q_t_bags_ups 14 t_bags_ups]) (st' := [.int u7]) (N0 := 4) rfl [none, some 0, none, some 1] (by decide) rfl rfl ?_
          cases hf
          exact g_iret C 68 dX8_bagged_68 F hB
        · refine g_tswO C 14 69 dX8_bagged_14 (tsw_out3 hx2 hx4 hx6) (by decide) ?_
          refine g_iconst C 69 (-1 : Int32) dX8_bagged_69 (by decide) ?_
          cases hf
          exact g_iret C 70 dX8_bagged_70 F hB
  · refine g_iconst C 11 (-1 : Int32) dX8_bagged_11 (by decide) ?_
    cases hf
    exact g_iret C 12 dX8_bagged_12 F hB

def f_X8_sound (t_net_size : Int32) (t_net_near : Nat → Int32) (t_bags_size : Int32) (t_bags_masks : Nat → Int32) (t_bags_ups : Nat → Int32) : Option (Int32) :=
  if t_bags_size = 0 then
    some ((-4 : Int32))
  else
    cal (f_X0_fault t_bags_size t_bags_masks t_bags_ups t_net_size t_net_near) fun u1 =>
    some (u1)

set_option maxRecDepth 100000 in
set_option maxHeartbeats 1000000 in
theorem c_X8_sound (l : Launch) (cA : Nat → ClassId) (q_t : Nat) (q_t_order : Nat) (q_t_law : Nat) (q_t_going : Nat) (q_t_plan : Nat) (z_t_search : Value) (z_t_tally : Value) (q_t_net : Nat) (q_t_net_loads : Nat) (q_t_net_ties : Nat) (t_net_size : Int32) (t_net_edges : Int32) (q_t_net_near : Nat) (t_net_near : Nat → Int32) (q_t_bags : Nat) (t_bags_size : Int32) (q_t_bags_masks : Nat) (t_bags_masks : Nat → Int32) (q_t_bags_ups : Nat) (t_bags_ups : Nat → Int32)   (r : Int32) (hf : f_X8_sound t_net_size t_net_near t_bags_size t_bags_masks t_bags_ups = some r) : MT l cA yX8_sound cX8_sound 1 (some .int) ({ frames := 4, cells := 0, slots := 0, locals := 90 } : Room) [.ref q_t] [oB q_t 8 [.ref q_t_net, .ref q_t_order, .ref q_t_bags, .ref q_t_law, .ref q_t_going, .ref q_t_plan, z_t_search, z_t_tally], oB q_t_net 4 [.ref q_t_net_loads, .ref q_t_net_near, .ref q_t_net_ties, .int t_net_size, .int t_net_edges], aI cA q_t_net_near 14 t_net_near, oB q_t_bags 0 [.ref q_t_bags_masks, .ref q_t_bags_ups, .int t_bags_size], aI cA q_t_bags_masks 14 t_bags_masks, aI cA q_t_bags_ups 14 t_bags_ups] (sB (some (.int r)) [oB q_t 8 [.ref q_t_net, .ref q_t_order, .ref q_t_bags, .ref q_t_law, .ref q_t_going, .ref q_t_plan, z_t_search, z_t_tally], oB q_t_net 4 [.ref q_t_net_loads, .ref q_t_net_near, .ref q_t_net_ties, .int t_net_size, .int t_net_edges], aI cA q_t_net_near 14 t_net_near, oB q_t_bags 0 [.ref q_t_bags_masks, .ref q_t_bags_ups, .int t_bags_size], aI cA q_t_bags_masks 14 t_bags_masks, aI cA q_t_bags_ups 14 t_bags_ups]) := by
  refine MT.of (by decide) (Nat.le_of_ble_eq_true rfl) ?_
  intro X hXl C F hnm hrc hrs
  subst hXl
  have hk : 0 ≤ (x_R X).cells ∧ 0 ≤ (x_R X).slots := ⟨Nat.zero_le _, Nat.zero_le _⟩
  have hB : (sB (some (.int r)) [oB q_t 8 [.ref q_t_net, .ref q_t_order, .ref q_t_bags, .ref q_t_law, .ref q_t_going, .ref q_t_plan, z_t_search, z_t_tally], oB q_t_net 4 [.ref q_t_net_loads, .ref q_t_net_near, .ref q_t_net_ties, .int t_net_size, .int t_net_edges], aI cA q_t_net_near 14 t_net_near, oB q_t_bags 0 [.ref q_t_bags_masks, .ref q_t_bags_ups, .int t_bags_size], aI cA q_t_bags_masks 14 t_bags_masks, aI cA q_t_bags_ups 14 t_bags_ups]) (some (.int r)) [oB q_t 8 [.ref q_t_net, .ref q_t_order, .ref q_t_bags, .ref q_t_law, .ref q_t_going, .ref q_t_plan, z_t_search, z_t_tally], oB q_t_net 4 [.ref q_t_net_loads, .ref q_t_net_near, .ref q_t_net_ties, .int t_net_size, .int t_net_edges], aI cA q_t_net_near 14 t_net_near, oB q_t_bags 0 [.ref q_t_bags_masks, .ref q_t_bags_ups, .int t_bags_size], aI cA q_t_bags_masks 14 t_bags_masks, aI cA q_t_bags_ups 14 t_bags_ups] := ⟨rfl, rfl⟩
  unfold f_X8_sound at hf
  have C : Cx X cX8_sound RX8 (some .int) cA 4 90 1 := C
  show Go X 1 0 0 0 [oB q_t 8 [.ref q_t_net, .ref q_t_order, .ref q_t_bags, .ref q_t_law, .ref q_t_going, .ref q_t_plan, z_t_search, z_t_tally], oB q_t_net 4 [.ref q_t_net_loads, .ref q_t_net_near, .ref q_t_net_ties, .int t_net_size, .int t_net_edges], aI cA q_t_net_near 14 t_net_near, oB q_t_bags 0 [.ref q_t_bags_masks, .ref q_t_bags_ups, .int t_bags_size], aI cA q_t_bags_masks 14 t_bags_masks, aI cA q_t_bags_ups 14 t_bags_ups] [(0, .ref q_t)] []
  refine g_aload_n C 0 0 dX8_sound_0 rfl rfl ?_
  refine g_get C 1 0 2 dX8_sound_1 inX8 rfl rfl (by decide) kw_236 rfl ?_
  refine g_get C 4 3 2 dX8_sound_4 inX0 rfl rfl (by decide) kw_292 rfl ?_
  refine g_if_ne C 7 15 dX8_sound_7 (by decide) hf (fun hf => ?_) (fun hf => ?_)
  · refine g_aload_n C 15 0 dX8_sound_15 rfl rfl ?_
    refine g_get C 16 0 2 dX8_sound_16 inX8 rfl rfl (by decide) kw_236 rfl ?_
    refine g_aload_n C 19 0 dX8_sound_19 rfl rfl ?_
    refine g_get C 20 0 0 dX8_sound_20 inX8 rfl rfl (by decide) kw_229 rfl ?_
    obtain ⟨u1, hu1, hf⟩ := cal_some hf
    refine g_callV1 C 23 [3, 4, 5, 1, 2] 3 (rest := []) dX8_sound_23 (c_X0_fault (x_l X) cA q_t_bags t_bags_size q_t_bags_masks t_bags_masks q_t_bags_ups t_bags_ups q_t_net q_t_net_loads q_t_net_ties t_net_size t_net_edges q_t_net_near t_net_near u1 hu1) kw_305 kw_306 kw_307 kw_43 kw_308 ok_X0_fault ⟨Nat.le_of_ble_eq_true rfl, Nat.le_of_ble_eq_true rfl⟩ hk ⟨rfl, rfl⟩ rfl rfl rfl rfl rfl (Nat.le_of_ble_eq_true rfl) rfl (ws' := [oB q_t 8 [.ref q_t_net, .ref q_t_order, .ref q_t_bags, .ref q_t_law, .ref q_t_going, .ref q_t_plan, z_t_search, z_t_tally], oB q_t_net 4 [.ref q_t_net_loads, .ref q_t_net_near, .ref q_t_net_ties, .int t_net_size, .int t_net_edges], aI cA q_t_net_near 14 t_net_near, oB q_t_bags 0 [.ref q_t_bags_masks, .ref q_t_bags_ups, .int t_bags_size], aI cA q_t_bags_masks 14 t_bags_masks, aI cA q_t_bags_ups 14 t_bags_ups]) (st' := [.int u1]) (N0 := 6) rfl [none, some 3, some 4, some 0, some 1, some 2] (by decide) rfl rfl ?_
    cases hf
    exact g_iret C 26 dX8_sound_26 F hB
  · refine g_bipush C 10 (-4 : Int32) dX8_sound_10 (by decide) ?_
    refine g_goto C 12 26 dX8_sound_12 (by decide) ?_
    cases hf
    exact g_iret C 26 dX8_sound_26 F hB

def f_X8_width (t_bags_size : Int32) (t_bags_masks : Nat → Int32) : Option (Int32) :=
  if t_bags_size = 0 then
    some ((-1 : Int32))
  else
    cal (f_X0_mostKnots t_bags_size t_bags_masks) fun u1 =>
    some ((u1 - (1 : Int32)))

set_option maxRecDepth 100000 in
set_option maxHeartbeats 1000000 in
theorem c_X8_width (l : Launch) (cA : Nat → ClassId) (q_t : Nat) (q_t_net : Nat) (q_t_order : Nat) (q_t_law : Nat) (q_t_going : Nat) (q_t_plan : Nat) (z_t_search : Value) (z_t_tally : Value) (q_t_bags : Nat) (q_t_bags_ups : Nat) (t_bags_size : Int32) (q_t_bags_masks : Nat) (t_bags_masks : Nat → Int32)   (r : Int32) (hf : f_X8_width t_bags_size t_bags_masks = some r) : MT l cA yX8_width cX8_width 1 (some .int) ({ frames := 2, cells := 0, slots := 0, locals := 43 } : Room) [.ref q_t] [oB q_t 8 [.ref q_t_net, .ref q_t_order, .ref q_t_bags, .ref q_t_law, .ref q_t_going, .ref q_t_plan, z_t_search, z_t_tally], oB q_t_bags 0 [.ref q_t_bags_masks, .ref q_t_bags_ups, .int t_bags_size], aI cA q_t_bags_masks 14 t_bags_masks] (sB (some (.int r)) [oB q_t 8 [.ref q_t_net, .ref q_t_order, .ref q_t_bags, .ref q_t_law, .ref q_t_going, .ref q_t_plan, z_t_search, z_t_tally], oB q_t_bags 0 [.ref q_t_bags_masks, .ref q_t_bags_ups, .int t_bags_size], aI cA q_t_bags_masks 14 t_bags_masks]) := by
  refine MT.of (by decide) (Nat.le_of_ble_eq_true rfl) ?_
  intro X hXl C F hnm hrc hrs
  subst hXl
  have hk : 0 ≤ (x_R X).cells ∧ 0 ≤ (x_R X).slots := ⟨Nat.zero_le _, Nat.zero_le _⟩
  have hB : (sB (some (.int r)) [oB q_t 8 [.ref q_t_net, .ref q_t_order, .ref q_t_bags, .ref q_t_law, .ref q_t_going, .ref q_t_plan, z_t_search, z_t_tally], oB q_t_bags 0 [.ref q_t_bags_masks, .ref q_t_bags_ups, .int t_bags_size], aI cA q_t_bags_masks 14 t_bags_masks]) (some (.int r)) [oB q_t 8 [.ref q_t_net, .ref q_t_order, .ref q_t_bags, .ref q_t_law, .ref q_t_going, .ref q_t_plan, z_t_search, z_t_tally], oB q_t_bags 0 [.ref q_t_bags_masks, .ref q_t_bags_ups, .int t_bags_size], aI cA q_t_bags_masks 14 t_bags_masks] := ⟨rfl, rfl⟩
  unfold f_X8_width at hf
  have C : Cx X cX8_width RX8 (some .int) cA 2 43 1 := C
  show Go X 1 0 0 0 [oB q_t 8 [.ref q_t_net, .ref q_t_order, .ref q_t_bags, .ref q_t_law, .ref q_t_going, .ref q_t_plan, z_t_search, z_t_tally], oB q_t_bags 0 [.ref q_t_bags_masks, .ref q_t_bags_ups, .int t_bags_size], aI cA q_t_bags_masks 14 t_bags_masks] [(0, .ref q_t)] []
  refine g_aload_n C 0 0 dX8_width_0 rfl rfl ?_
  refine g_get C 1 0 2 dX8_width_1 inX8 rfl rfl (by decide) kw_236 rfl ?_
  refine g_get C 4 1 2 dX8_width_4 inX0 rfl rfl (by decide) kw_292 rfl ?_
  refine g_if_ne C 7 14 dX8_width_7 (by decide) hf (fun hf => ?_) (fun hf => ?_)
  · refine g_aload_n C 14 0 dX8_width_14 rfl rfl ?_
    refine g_get C 15 0 2 dX8_width_15 inX8 rfl rfl (by decide) kw_236 rfl ?_
    obtain ⟨u1, hu1, hf⟩ := cal_some hf
    refine g_callV1 C 18 [1, 2] 1 (rest := []) dX8_width_18 (c_X0_mostKnots (x_l X) cA q_t_bags q_t_bags_ups t_bags_size q_t_bags_masks t_bags_masks u1 hu1) kw_273 kw_274 kw_275 kw_43 kw_276 ok_X0_mostKnots ⟨Nat.le_of_ble_eq_true rfl, Nat.le_of_ble_eq_true rfl⟩ hk ⟨rfl, rfl⟩ rfl rfl rfl rfl rfl (Nat.le_of_ble_eq_true rfl) rfl (ws' := [oB q_t 8 [.ref q_t_net, .ref q_t_order, .ref q_t_bags, .ref q_t_law, .ref q_t_going, .ref q_t_plan, z_t_search, z_t_tally], oB q_t_bags 0 [.ref q_t_bags_masks, .ref q_t_bags_ups, .int t_bags_size], aI cA q_t_bags_masks 14 t_bags_masks]) (st' := [.int u1]) (N0 := 3) rfl [none, some 0, some 1] (by decide) rfl rfl ?_
    refine g_iconst C 21 (1 : Int32) dX8_width_21 (by decide) ?_
    refine g_isub C 22 dX8_width_22 ?_
    cases hf
    exact g_iret C 23 dX8_width_23 F hB
  · refine g_iconst C 10 (-1 : Int32) dX8_width_10 (by decide) ?_
    refine g_goto C 11 23 dX8_width_11 (by decide) ?_
    cases hf
    exact g_iret C 23 dX8_width_23 F hB

def f_X8_isSound (t_net_size : Int32) (t_net_near : Nat → Int32) (t_bags_size : Int32) (t_bags_masks : Nat → Int32) (t_bags_ups : Nat → Int32) : Option (Int32) :=
  if t_bags_size ≤ 0 then
    some ((0 : Int32))
  else
    cal (f_X0_fault t_bags_size t_bags_masks t_bags_ups t_net_size t_net_near) fun u1 =>
    if u1 = 0 then
      some ((1 : Int32))
    else
      some ((0 : Int32))

set_option maxRecDepth 100000 in
set_option maxHeartbeats 1000000 in
theorem c_X8_isSound (l : Launch) (cA : Nat → ClassId) (q_t : Nat) (q_t_order : Nat) (q_t_law : Nat) (q_t_going : Nat) (q_t_plan : Nat) (z_t_search : Value) (z_t_tally : Value) (q_t_net : Nat) (q_t_net_loads : Nat) (q_t_net_ties : Nat) (t_net_size : Int32) (t_net_edges : Int32) (q_t_net_near : Nat) (t_net_near : Nat → Int32) (q_t_bags : Nat) (t_bags_size : Int32) (q_t_bags_masks : Nat) (t_bags_masks : Nat → Int32) (q_t_bags_ups : Nat) (t_bags_ups : Nat → Int32)   (r : Int32) (hf : f_X8_isSound t_net_size t_net_near t_bags_size t_bags_masks t_bags_ups = some r) : MT l cA yX8_isSound cX8_isSound 1 (some .boolean) ({ frames := 4, cells := 0, slots := 0, locals := 90 } : Room) [.ref q_t] [oB q_t 8 [.ref q_t_net, .ref q_t_order, .ref q_t_bags, .ref q_t_law, .ref q_t_going, .ref q_t_plan, z_t_search, z_t_tally], oB q_t_net 4 [.ref q_t_net_loads, .ref q_t_net_near, .ref q_t_net_ties, .int t_net_size, .int t_net_edges], aI cA q_t_net_near 14 t_net_near, oB q_t_bags 0 [.ref q_t_bags_masks, .ref q_t_bags_ups, .int t_bags_size], aI cA q_t_bags_masks 14 t_bags_masks, aI cA q_t_bags_ups 14 t_bags_ups] (sB (some (.int r)) [oB q_t 8 [.ref q_t_net, .ref q_t_order, .ref q_t_bags, .ref q_t_law, .ref q_t_going, .ref q_t_plan, z_t_search, z_t_tally], oB q_t_net 4 [.ref q_t_net_loads, .ref q_t_net_near, .ref q_t_net_ties, .int t_net_size, .int t_net_edges], aI cA q_t_net_near 14 t_net_near, oB q_t_bags 0 [.ref q_t_bags_masks, .ref q_t_bags_ups, .int t_bags_size], aI cA q_t_bags_masks 14 t_bags_masks, aI cA q_t_bags_ups 14 t_bags_ups]) := by
  refine MT.of (by decide) (Nat.le_of_ble_eq_true rfl) ?_
  intro X hXl C F hnm hrc hrs
  subst hXl
  have hk : 0 ≤ (x_R X).cells ∧ 0 ≤ (x_R X).slots := ⟨Nat.zero_le _, Nat.zero_le _⟩
  have hB : (sB (some (.int r)) [oB q_t 8 [.ref q_t_net, .ref q_t_order, .ref q_t_bags, .ref q_t_law, .ref q_t_going, .ref q_t_plan, z_t_search, z_t_tally], oB q_t_net 4 [.ref q_t_net_loads, .ref q_t_net_near, .ref q_t_net_ties, .int t_net_size, .int t_net_edges], aI cA q_t_net_near 14 t_net_near, oB q_t_bags 0 [.ref q_t_bags_masks, .ref q_t_bags_ups, .int t_bags_size], aI cA q_t_bags_masks 14 t_bags_masks, aI cA q_t_bags_ups 14 t_bags_ups]) (some (.int r)) [oB q_t 8 [.ref q_t_net, .ref q_t_order, .ref q_t_bags, .ref q_t_law, .ref q_t_going, .ref q_t_plan, z_t_search, z_t_tally], oB q_t_net 4 [.ref q_t_net_loads, .ref q_t_net_near, .ref q_t_net_ties, .int t_net_size, .int t_net_edges], aI cA q_t_net_near 14 t_net_near, oB q_t_bags 0 [.ref q_t_bags_masks, .ref q_t_bags_ups, .int t_bags_size], aI cA q_t_bags_masks 14 t_bags_masks, aI cA q_t_bags_ups 14 t_bags_ups] := ⟨rfl, rfl⟩
  unfold f_X8_isSound at hf
  have C : Cx X cX8_isSound RX8 (some .boolean) cA 4 90 1 := C
  show Go X 1 0 0 0 [oB q_t 8 [.ref q_t_net, .ref q_t_order, .ref q_t_bags, .ref q_t_law, .ref q_t_going, .ref q_t_plan, z_t_search, z_t_tally], oB q_t_net 4 [.ref q_t_net_loads, .ref q_t_net_near, .ref q_t_net_ties, .int t_net_size, .int t_net_edges], aI cA q_t_net_near 14 t_net_near, oB q_t_bags 0 [.ref q_t_bags_masks, .ref q_t_bags_ups, .int t_bags_size], aI cA q_t_bags_masks 14 t_bags_masks, aI cA q_t_bags_ups 14 t_bags_ups] [(0, .ref q_t)] []
  refine g_aload_n C 0 0 dX8_isSound_0 rfl rfl ?_
  refine g_get C 1 0 2 dX8_isSound_1 inX8 rfl rfl (by decide) kw_236 rfl ?_
  refine g_get C 4 3 2 dX8_isSound_4 inX0 rfl rfl (by decide) kw_292 rfl ?_
  refine g_if_le C 7 28 dX8_isSound_7 (by decide) hf (fun hf => ?_) (fun hf => ?_)
  · refine g_iconst C 28 (0 : Int32) dX8_isSound_28 (by decide) ?_
    cases hf
    exact g_zret C 29 dX8_isSound_29 (by decide) F hB
  · refine g_aload_n C 10 0 dX8_isSound_10 rfl rfl ?_
    refine g_get C 11 0 2 dX8_isSound_11 inX8 rfl rfl (by decide) kw_236 rfl ?_
    refine g_aload_n C 14 0 dX8_isSound_14 rfl rfl ?_
    refine g_get C 15 0 0 dX8_isSound_15 inX8 rfl rfl (by decide) kw_229 rfl ?_
    obtain ⟨u1, hu1, hf⟩ := cal_some hf
    refine g_callV1 C 18 [3, 4, 5, 1, 2] 3 (rest := []) dX8_isSound_18 (c_X0_fault (x_l X) cA q_t_bags t_bags_size q_t_bags_masks t_bags_masks q_t_bags_ups t_bags_ups q_t_net q_t_net_loads q_t_net_ties t_net_size t_net_edges q_t_net_near t_net_near u1 hu1) kw_305 kw_306 kw_307 kw_43 kw_308 ok_X0_fault ⟨Nat.le_of_ble_eq_true rfl, Nat.le_of_ble_eq_true rfl⟩ hk ⟨rfl, rfl⟩ rfl rfl rfl rfl rfl (Nat.le_of_ble_eq_true rfl) rfl (ws' := [oB q_t 8 [.ref q_t_net, .ref q_t_order, .ref q_t_bags, .ref q_t_law, .ref q_t_going, .ref q_t_plan, z_t_search, z_t_tally], oB q_t_net 4 [.ref q_t_net_loads, .ref q_t_net_near, .ref q_t_net_ties, .int t_net_size, .int t_net_edges], aI cA q_t_net_near 14 t_net_near, oB q_t_bags 0 [.ref q_t_bags_masks, .ref q_t_bags_ups, .int t_bags_size], aI cA q_t_bags_masks 14 t_bags_masks, aI cA q_t_bags_ups 14 t_bags_ups]) (st' := [.int u1]) (N0 := 6) rfl [none, some 3, some 4, some 0, some 1, some 2] (by decide) rfl rfl ?_
    refine g_if_ne C 21 28 dX8_isSound_21 (by decide) hf (fun hf => ?_) (fun hf => ?_)
    · refine g_iconst C 28 (0 : Int32) dX8_isSound_28 (by decide) ?_
      cases hf
      exact g_zret C 29 dX8_isSound_29 (by decide) F hB
    · refine g_iconst C 24 (1 : Int32) dX8_isSound_24 (by decide) ?_
      refine g_goto C 25 29 dX8_isSound_25 (by decide) ?_
      cases hf
      exact g_zret C 29 dX8_isSound_29 (by decide) F hB

def L_X8_separator_12 (t_net_size : Int32) (t_net_near : Nat → Int32) (t_bags_size : Int32) (t_bags_masks : Nat → Int32) (t_bags_ups : Nat → Int32)  : Nat → Int32 → Option (Int32)
  | 0, _ => none
  | n + 1, x1 =>
    if t_bags_size ≤ x1 then
      some ((-1 : Int32))
    else
      cal (f_X4_everyKnot t_net_size) fun u3 =>
      ldA t_bags_masks 14 x1 fun v4 =>
      cal (f_X4_largestPart (u3 &&& (v4 ^^^ (-1 : Int32))) t_net_size t_net_near) fun u5 =>
      if (t_net_size / (2 : Int32)) < u5 then
        bnd (x1 + (1 : Int32)) fun x1_6 =>
        L_X8_separator_12 t_net_size t_net_near t_bags_size t_bags_masks t_bags_ups n x1_6
      else
        some (x1)

set_option maxRecDepth 100000 in
set_option maxHeartbeats 1000000 in
theorem w_X8_separator_12 (cA : Nat → ClassId) (q_t : Nat) (q_t_order : Nat) (q_t_law : Nat) (q_t_going : Nat) (q_t_plan : Nat) (z_t_search : Value) (z_t_tally : Value) (q_t_net : Nat) (q_t_net_loads : Nat) (q_t_net_ties : Nat) (t_net_edges : Int32) (q_t_net_near : Nat) (q_t_bags : Nat) (q_t_bags_masks : Nat) (q_t_bags_ups : Nat) (t_net_size : Int32) (t_net_near : Nat → Int32) (t_bags_size : Int32) (t_bags_masks : Nat → Int32) (t_bags_ups : Nat → Int32) {X : XT}  (C : Cx X cX8_separator RX8 (some .int) cA 5 110 2) {kk nn : Nat} {BB : Option Value → va_W → Prop} (hk : kk ≤ (x_R X).cells ∧ nn ≤ (x_R X).slots) (F : Fx X BB kk nn) (r : Int32) (hB : BB (some (.int r)) [oB q_t 8 [.ref q_t_net, .ref q_t_order, .ref q_t_bags, .ref q_t_law, .ref q_t_going, .ref q_t_plan, z_t_search, z_t_tally], oB q_t_net 4 [.ref q_t_net_loads, .ref q_t_net_near, .ref q_t_net_ties, .int t_net_size, .int t_net_edges], aI cA q_t_net_near 14 t_net_near, oB q_t_bags 0 [.ref q_t_bags_masks, .ref q_t_bags_ups, .int t_bags_size], aI cA q_t_bags_masks 14 t_bags_masks, aI cA q_t_bags_ups 14 t_bags_ups])  : ∀ (n : Nat) (x1 : Int32), L_X8_separator_12 t_net_size t_net_near t_bags_size t_bags_masks t_bags_ups n x1 = some r → Go X 2 kk nn 12 [oB q_t 8 [.ref q_t_net, .ref q_t_order, .ref q_t_bags, .ref q_t_law, .ref q_t_going, .ref q_t_plan, z_t_search, z_t_tally], oB q_t_net 4 [.ref q_t_net_loads, .ref q_t_net_near, .ref q_t_net_ties, .int t_net_size, .int t_net_edges], aI cA q_t_net_near 14 t_net_near, oB q_t_bags 0 [.ref q_t_bags_masks, .ref q_t_bags_ups, .int t_bags_size], aI cA q_t_bags_masks 14 t_bags_masks, aI cA q_t_bags_ups 14 t_bags_ups] [(0, .ref q_t), (1, .int x1)] [] := by
  intro n
  induction n with
  | zero => intro x1 hf; exact no_some hf
  | succ n ih =>
    intro x1 hf
    rw [L_X8_separator_12] at hf
    refine g_iload_n C 12 1 dX8_separator_12 rfl rfl ?_
    refine g_aload_n C 13 0 dX8_separator_13 rfl rfl ?_
    refine g_get C 14 0 2 dX8_separator_14 inX8 rfl rfl (by decide) kw_236 rfl ?_
    refine g_get C 17 3 2 dX8_separator_17 inX0 rfl rfl (by decide) kw_292 rfl ?_
    refine g_icmp_ge C 20 69 dX8_separator_20 (by decide) hf (fun hf => ?_) (fun hf => ?_)
    · refine g_iconst C 69 (-1 : Int32) dX8_separator_69 (by decide) ?_
      cases hf
      exact g_iret C 70 dX8_separator_70 F hB
    · refine g_aload_n C 23 0 dX8_separator_23 rfl rfl ?_
      refine g_get C 24 0 0 dX8_separator_24 inX8 rfl rfl (by decide) kw_229 rfl ?_
      refine g_aload_n C 27 0 dX8_separator_27 rfl rfl ?_
      refine g_get C 28 0 0 dX8_separator_28 inX8 rfl rfl (by decide) kw_229 rfl ?_
      obtain ⟨u3, hu3, hf⟩ := cal_some hf
      refine g_callV1 C 31 [1] 1 (rest := [.ref q_t_net]) dX8_separator_31 (c_X4_everyKnot (x_l X) cA q_t_net q_t_net_loads q_t_net_near q_t_net_ties t_net_size t_net_edges u3 hu3) kw_293 kw_83 kw_84 kw_49 kw_85 ok_X4_everyKnot ⟨Nat.le_of_ble_eq_true rfl, Nat.le_of_ble_eq_true rfl⟩ hk ⟨rfl, rfl⟩ rfl rfl rfl rfl rfl (Nat.le_of_ble_eq_true rfl) rfl (ws' := [oB q_t 8 [.ref q_t_net, .ref q_t_order, .ref q_t_bags, .ref q_t_law, .ref q_t_going, .ref q_t_plan, z_t_search, z_t_tally], oB q_t_net 4 [.ref q_t_net_loads, .ref q_t_net_near, .ref q_t_net_ties, .int t_net_size, .int t_net_edges], aI cA q_t_net_near 14 t_net_near, oB q_t_bags 0 [.ref q_t_bags_masks, .ref q_t_bags_ups, .int t_bags_size], aI cA q_t_bags_masks 14 t_bags_masks, aI cA q_t_bags_ups 14 t_bags_ups]) (st' := [.int u3, .ref q_t_net]) (N0 := 6) rfl [none, some 0, none, none, none, none] (by decide) rfl rfl ?_
      refine g_aload_n C 34 0 dX8_separator_34 rfl rfl ?_
      refine g_get C 35 0 2 dX8_separator_35 inX8 rfl rfl (by decide) kw_236 rfl ?_
      refine g_get C 38 3 0 dX8_separator_38 inX0 rfl rfl (by decide) kw_300 rfl ?_
      refine g_iload_n C 41 1 dX8_separator_41 rfl rfl ?_
      refine g_iald C 42 4 dX8_separator_42 rfl hf (fun v4 hf => ?_)
      refine g_iconst C 43 (-1 : Int32) dX8_separator_43 (by decide) ?_
      refine g_ixor C 44 dX8_separator_44 ?_
      refine g_iand C 45 dX8_separator_45 ?_
      obtain ⟨u5, hu5, hf⟩ := cal_some hf
      refine g_callV1 C 46 [1, 2] 1 (rest := []) dX8_separator_46 (c_X4_largestPart (x_l X) cA q_t_net q_t_net_loads q_t_net_ties t_net_size t_net_edges q_t_net_near t_net_near (u3 &&& (v4 ^^^ (-1 : Int32))) u5 hu5) kw_313 kw_314 kw_315 kw_49 kw_316 ok_X4_largestPart ⟨Nat.le_of_ble_eq_true rfl, Nat.le_of_ble_eq_true rfl⟩ hk ⟨rfl, rfl⟩ rfl rfl rfl rfl rfl (Nat.le_of_ble_eq_true rfl) rfl (ws' := [oB q_t 8 [.ref q_t_net, .ref q_t_order, .ref q_t_bags, .ref q_t_law, .ref q_t_going, .ref q_t_plan, z_t_search, z_t_tally], oB q_t_net 4 [.ref q_t_net_loads, .ref q_t_net_near, .ref q_t_net_ties, .int t_net_size, .int t_net_edges], aI cA q_t_net_near 14 t_net_near, oB q_t_bags 0 [.ref q_t_bags_masks, .ref q_t_bags_ups, .int t_bags_size], aI cA q_t_bags_masks 14 t_bags_masks, aI cA q_t_bags_ups 14 t_bags_ups]) (st' := [.int u5]) (N0 := 6) rfl [none, some 0, some 1, none, none, none] (by decide) rfl rfl ?_
      refine g_aload_n C 49 0 dX8_separator_49 rfl rfl ?_
      refine g_get C 50 0 0 dX8_separator_50 inX8 rfl rfl (by decide) kw_229 rfl ?_
      refine g_get C 53 1 3 dX8_separator_53 inX4 rfl rfl (by decide) kw_230 rfl ?_
      refine g_iconst C 56 (2 : Int32) dX8_separator_56 (by decide) ?_
      refine g_idiv C 57 dX8_separator_57 (by decide) ?_
      refine g_icmp_gt C 58 63 dX8_separator_58 (by decide) hf (fun hf => ?_) (fun hf => ?_)
      · refine g_iinc C 63 1 (v := x1 + (1 : Int32)) (fun z => [(1, .int z), (0, .ref q_t)]) dX8_separator_63 rfl rfl (by decide) (fun _ => rfl) hf (fun x1_6 hf => ?_)
        refine g_goto C 66 12 dX8_separator_66 (by decide) ?_
        refine g_lv [1, 0] rfl ?_
        exact ih x1_6 hf
      · refine g_iload_n C 61 1 dX8_separator_61 rfl rfl ?_
        cases hf
        exact g_iret C 62 dX8_separator_62 F hB
def f_X8_separator (t_net_size : Int32) (t_net_near : Nat → Int32) (t_bags_size : Int32) (t_bags_masks : Nat → Int32) (t_bags_ups : Nat → Int32) : Option (Int32) :=
  cal (f_X8_isSound t_net_size t_net_near t_bags_size t_bags_masks t_bags_ups) fun u1 =>
  if u1 = 0 then
    some ((-4 : Int32))
  else
    bnd (0 : Int32) fun x1_2 =>
    L_X8_separator_12 t_net_size t_net_near t_bags_size t_bags_masks t_bags_ups NN x1_2

set_option maxRecDepth 100000 in
set_option maxHeartbeats 1000000 in
theorem c_X8_separator (l : Launch) (cA : Nat → ClassId) (q_t : Nat) (q_t_order : Nat) (q_t_law : Nat) (q_t_going : Nat) (q_t_plan : Nat) (z_t_search : Value) (z_t_tally : Value) (q_t_net : Nat) (q_t_net_loads : Nat) (q_t_net_ties : Nat) (t_net_size : Int32) (t_net_edges : Int32) (q_t_net_near : Nat) (t_net_near : Nat → Int32) (q_t_bags : Nat) (t_bags_size : Int32) (q_t_bags_masks : Nat) (t_bags_masks : Nat → Int32) (q_t_bags_ups : Nat) (t_bags_ups : Nat → Int32)   (r : Int32) (hf : f_X8_separator t_net_size t_net_near t_bags_size t_bags_masks t_bags_ups = some r) : MT l cA yX8_separator cX8_separator 2 (some .int) ({ frames := 5, cells := 0, slots := 0, locals := 110 } : Room) [.ref q_t] [oB q_t 8 [.ref q_t_net, .ref q_t_order, .ref q_t_bags, .ref q_t_law, .ref q_t_going, .ref q_t_plan, z_t_search, z_t_tally], oB q_t_net 4 [.ref q_t_net_loads, .ref q_t_net_near, .ref q_t_net_ties, .int t_net_size, .int t_net_edges], aI cA q_t_net_near 14 t_net_near, oB q_t_bags 0 [.ref q_t_bags_masks, .ref q_t_bags_ups, .int t_bags_size], aI cA q_t_bags_masks 14 t_bags_masks, aI cA q_t_bags_ups 14 t_bags_ups] (sB (some (.int r)) [oB q_t 8 [.ref q_t_net, .ref q_t_order, .ref q_t_bags, .ref q_t_law, .ref q_t_going, .ref q_t_plan, z_t_search, z_t_tally], oB q_t_net 4 [.ref q_t_net_loads, .ref q_t_net_near, .ref q_t_net_ties, .int t_net_size, .int t_net_edges], aI cA q_t_net_near 14 t_net_near, oB q_t_bags 0 [.ref q_t_bags_masks, .ref q_t_bags_ups, .int t_bags_size], aI cA q_t_bags_masks 14 t_bags_masks, aI cA q_t_bags_ups 14 t_bags_ups]) := by
  refine MT.of (by decide) (Nat.le_of_ble_eq_true rfl) ?_
  intro X hXl C F hnm hrc hrs
  subst hXl
  have hk : 0 ≤ (x_R X).cells ∧ 0 ≤ (x_R X).slots := ⟨Nat.zero_le _, Nat.zero_le _⟩
  have hB : (sB (some (.int r)) [oB q_t 8 [.ref q_t_net, .ref q_t_order, .ref q_t_bags, .ref q_t_law, .ref q_t_going, .ref q_t_plan, z_t_search, z_t_tally], oB q_t_net 4 [.ref q_t_net_loads, .ref q_t_net_near, .ref q_t_net_ties, .int t_net_size, .int t_net_edges], aI cA q_t_net_near 14 t_net_near, oB q_t_bags 0 [.ref q_t_bags_masks, .ref q_t_bags_ups, .int t_bags_size], aI cA q_t_bags_masks 14 t_bags_masks, aI cA q_t_bags_ups 14 t_bags_ups]) (some (.int r)) [oB q_t 8 [.ref q_t_net, .ref q_t_order, .ref q_t_bags, .ref q_t_law, .ref q_t_going, .ref q_t_plan, z_t_search, z_t_tally], oB q_t_net 4 [.ref q_t_net_loads, .ref q_t_net_near, .ref q_t_net_ties, .int t_net_size, .int t_net_edges], aI cA q_t_net_near 14 t_net_near, oB q_t_bags 0 [.ref q_t_bags_masks, .ref q_t_bags_ups, .int t_bags_size], aI cA q_t_bags_masks 14 t_bags_masks, aI cA q_t_bags_ups 14 t_bags_ups] := ⟨rfl, rfl⟩
  unfold f_X8_separator at hf
  have C : Cx X cX8_separator RX8 (some .int) cA 5 110 2 := C
  show Go X 2 0 0 0 [oB q_t 8 [.ref q_t_net, .ref q_t_order, .ref q_t_bags, .ref q_t_law, .ref q_t_going, .ref q_t_plan, z_t_search, z_t_tally], oB q_t_net 4 [.ref q_t_net_loads, .ref q_t_net_near, .ref q_t_net_ties, .int t_net_size, .int t_net_edges], aI cA q_t_net_near 14 t_net_near, oB q_t_bags 0 [.ref q_t_bags_masks, .ref q_t_bags_ups, .int t_bags_size], aI cA q_t_bags_masks 14 t_bags_masks, aI cA q_t_bags_ups 14 t_bags_ups] [(0, .ref q_t)] []
  refine g_aload_n C 0 0 dX8_separator_0 rfl rfl ?_
  obtain ⟨u1, hu1, hf⟩ := cal_some hf
  refine g_callV1 C 1 [0, 1, 2, 3, 4, 5] 0 (rest := []) dX8_separator_1 (c_X8_isSound (x_l X) cA q_t q_t_order q_t_law q_t_going q_t_plan z_t_search z_t_tally q_t_net q_t_net_loads q_t_net_ties t_net_size t_net_edges q_t_net_near t_net_near q_t_bags t_bags_size q_t_bags_masks t_bags_masks q_t_bags_ups t_bags_ups u1 hu1) kw_309 kw_310 kw_311 kw_6 kw_312 ok_X8_isSound ⟨Nat.le_of_ble_eq_true rfl, Nat.le_of_ble_eq_true rfl⟩ hk ⟨rfl, rfl⟩ rfl rfl rfl rfl rfl (Nat.le_of_ble_eq_true rfl) rfl (ws' := [oB q_t 8 [.ref q_t_net, .ref q_t_order, .ref q_t_bags, .ref q_t_law, .ref q_t_going, .ref q_t_plan, z_t_search, z_t_tally], oB q_t_net 4 [.ref q_t_net_loads, .ref q_t_net_near, .ref q_t_net_ties, .int t_net_size, .int t_net_edges], aI cA q_t_net_near 14 t_net_near, oB q_t_bags 0 [.ref q_t_bags_masks, .ref q_t_bags_ups, .int t_bags_size], aI cA q_t_bags_masks 14 t_bags_masks, aI cA q_t_bags_ups 14 t_bags_ups]) (st' := [.int u1]) (N0 := 6) rfl [some 0, some 1, some 2, some 3, some 4, some 5] (by decide) rfl rfl ?_
  refine g_if_ne C 4 10 dX8_separator_4 (by decide) hf (fun hf => ?_) (fun hf => ?_)
  · refine g_iconst C 10 (0 : Int32) dX8_separator_10 (by decide) ?_
    refine g_istore_n C 11 (fun z => [(1, .int z), (0, .ref q_t)]) dX8_separator_11 rfl (by decide) (fun _ => rfl) hf (fun x1_2 hf => ?_)
    refine g_lv [1, 0] rfl ?_
    exact w_X8_separator_12 cA q_t q_t_order q_t_law q_t_going q_t_plan z_t_search z_t_tally q_t_net q_t_net_loads q_t_net_ties t_net_edges q_t_net_near q_t_bags q_t_bags_masks q_t_bags_ups t_net_size t_net_near t_bags_size t_bags_masks t_bags_ups C hk F r hB NN x1_2 hf
  · refine g_bipush C 7 (-4 : Int32) dX8_separator_7 (by decide) ?_
    cases hf
    exact g_iret C 9 dX8_separator_9 F hB

def f_X8_states (a1 : Int32) (t_law_size : Int32) (t_law_factors : Nat → Int32) (t_law_pairFactors : Nat → Int32) (t_law_barred : Nat → Int32) (t_law_forbidden : Nat → Int32) : Option (Int32 × Int32 × (Nat → Int32) × (Nat → Int32) × (Nat → Int32) × (Nat → Int32)) :=
  if a1 < (1 : Int32) then
    some ((-2 : Int32), t_law_size, t_law_factors, t_law_pairFactors, t_law_barred, t_law_forbidden)
  else
    if a1 ≤ (4 : Int32) then
      bnd t_law_size fun x2_1 =>
      cal (f_X3_startAgain a1 t_law_size t_law_factors t_law_pairFactors t_law_barred t_law_forbidden) fun u2 =>
      some (x2_1, u2.1, u2.2.1, u2.2.2.1, u2.2.2.2.1, u2.2.2.2.2)
    else
      some ((-2 : Int32), t_law_size, t_law_factors, t_law_pairFactors, t_law_barred, t_law_forbidden)

set_option maxRecDepth 100000 in
set_option maxHeartbeats 1000000 in
theorem c_X8_states (l : Launch) (cA : Nat → ClassId) (q_t : Nat) (q_t_net : Nat) (q_t_order : Nat) (q_t_bags : Nat) (q_t_going : Nat) (q_t_plan : Nat) (z_t_search : Value) (z_t_tally : Value) (q_t_law : Nat) (t_law_size : Int32) (q_t_law_factors : Nat) (t_law_factors : Nat → Int32) (q_t_law_pairFactors : Nat) (t_law_pairFactors : Nat → Int32) (q_t_law_barred : Nat) (t_law_barred : Nat → Int32) (q_t_law_forbidden : Nat) (t_law_forbidden : Nat → Int32)  (a1 : Int32) (r : Int32 × Int32 × (Nat → Int32) × (Nat → Int32) × (Nat → Int32) × (Nat → Int32)) (hf : f_X8_states a1 t_law_size t_law_factors t_law_pairFactors t_law_barred t_law_forbidden = some r) : MT l cA yX8_states cX8_states 3 (some .int) ({ frames := 1, cells := 0, slots := 0, locals := 22 } : Room) [.ref q_t, .int a1] [oB q_t 8 [.ref q_t_net, .ref q_t_order, .ref q_t_bags, .ref q_t_law, .ref q_t_going, .ref q_t_plan, z_t_search, z_t_tally], oB q_t_law 3 [.int t_law_size, .ref q_t_law_factors, .ref q_t_law_pairFactors, .ref q_t_law_barred, .ref q_t_law_forbidden], aI cA q_t_law_factors 4 t_law_factors, aI cA q_t_law_pairFactors 16 t_law_pairFactors, aZ cA q_t_law_barred 16 t_law_barred, aI cA q_t_law_forbidden 14 t_law_forbidden] (sB (some (.int r.1)) [oB q_t 8 [.ref q_t_net, .ref q_t_order, .ref q_t_bags, .ref q_t_law, .ref q_t_going, .ref q_t_plan, z_t_search, z_t_tally], oB q_t_law 3 [.int r.2.1, .ref q_t_law_factors, .ref q_t_law_pairFactors, .ref q_t_law_barred, .ref q_t_law_forbidden], aI cA q_t_law_factors 4 r.2.2.1, aI cA q_t_law_pairFactors 16 r.2.2.2.1, aZ cA q_t_law_barred 16 r.2.2.2.2.1, aI cA q_t_law_forbidden 14 r.2.2.2.2.2]) := by
  refine MT.of (by decide) (Nat.le_of_ble_eq_true rfl) ?_
  intro X hXl C F hnm hrc hrs
  subst hXl
  have hk : 0 ≤ (x_R X).cells ∧ 0 ≤ (x_R X).slots := ⟨Nat.zero_le _, Nat.zero_le _⟩
  have hB : (sB (some (.int r.1)) [oB q_t 8 [.ref q_t_net, .ref q_t_order, .ref q_t_bags, .ref q_t_law, .ref q_t_going, .ref q_t_plan, z_t_search, z_t_tally], oB q_t_law 3 [.int r.2.1, .ref q_t_law_factors, .ref q_t_law_pairFactors, .ref q_t_law_barred, .ref q_t_law_forbidden], aI cA q_t_law_factors 4 r.2.2.1, aI cA q_t_law_pairFactors 16 r.2.2.2.1, aZ cA q_t_law_barred 16 r.2.2.2.2.1, aI cA q_t_law_forbidden 14 r.2.2.2.2.2]) (some (.int r.1)) [oB q_t 8 [.ref q_t_net, .ref q_t_order, .ref q_t_bags, .ref q_t_law, .ref q_t_going, .ref q_t_plan, z_t_search, z_t_tally], oB q_t_law 3 [.int r.2.1, .ref q_t_law_factors, .ref q_t_law_pairFactors, .ref q_t_law_barred, .ref q_t_law_forbidden], aI cA q_t_law_factors 4 r.2.2.1, aI cA q_t_law_pairFactors 16 r.2.2.2.1, aZ cA q_t_law_barred 16 r.2.2.2.2.1, aI cA q_t_law_forbidden 14 r.2.2.2.2.2] := ⟨rfl, rfl⟩
  unfold f_X8_states at hf
  have C : Cx X cX8_states RX8 (some .int) cA 1 22 3 := C
  show Go X 3 0 0 0 [oB q_t 8 [.ref q_t_net, .ref q_t_order, .ref q_t_bags, .ref q_t_law, .ref q_t_going, .ref q_t_plan, z_t_search, z_t_tally], oB q_t_law 3 [.int t_law_size, .ref q_t_law_factors, .ref q_t_law_pairFactors, .ref q_t_law_barred, .ref q_t_law_forbidden], aI cA q_t_law_factors 4 t_law_factors, aI cA q_t_law_pairFactors 16 t_law_pairFactors, aZ cA q_t_law_barred 16 t_law_barred, aI cA q_t_law_forbidden 14 t_law_forbidden] [(0, .ref q_t), (1, .int a1)] []
  refine g_iload_n C 0 1 dX8_states_0 rfl rfl ?_
  refine g_iconst C 1 (1 : Int32) dX8_states_1 (by decide) ?_
  refine g_icmp_lt C 2 10 dX8_states_2 (by decide) hf (fun hf => ?_) (fun hf => ?_)
  · refine g_bipush C 10 (-2 : Int32) dX8_states_10 (by decide) ?_
    cases hf
    exact g_iret C 12 dX8_states_12 F hB
  · refine g_iload_n C 5 1 dX8_states_5 rfl rfl ?_
    refine g_iconst C 6 (4 : Int32) dX8_states_6 (by decide) ?_
    refine g_icmp_le C 7 13 dX8_states_7 (by decide) hf (fun hf => ?_) (fun hf => ?_)
    · refine g_aload_n C 13 0 dX8_states_13 rfl rfl ?_
      refine g_get C 14 0 3 dX8_states_14 inX8 rfl rfl (by decide) kw_317 rfl ?_
      refine g_get C 17 1 0 dX8_states_17 inX3 rfl rfl (by decide) kw_318 rfl ?_
      refine g_istore_n C 20 (fun z => [(2, .int z), (0, .ref q_t), (1, .int a1)]) dX8_states_20 rfl (by decide) (fun _ => rfl) hf (fun x2_1 hf => ?_)
      refine g_aload_n C 21 1 dX8_states_21 rfl rfl ?_
      refine g_get C 22 0 3 dX8_states_22 inX8 rfl rfl (by decide) kw_317 rfl ?_
      refine g_iload_n C 25 2 dX8_states_25 rfl rfl ?_
      obtain ⟨u2, hu2, hf⟩ := cal_some hf
      refine g_callV1 C 26 [1, 2, 3, 4, 5] 1 (rest := []) dX8_states_26 (c_X3_startAgain (x_l X) cA q_t_law t_law_size q_t_law_factors t_law_factors q_t_law_pairFactors t_law_pairFactors q_t_law_barred t_law_barred q_t_law_forbidden t_law_forbidden a1 u2 hu2) kw_319 kw_320 kw_321 kw_149 kw_322 ok_X3_startAgain ⟨Nat.le_of_ble_eq_true rfl, Nat.le_of_ble_eq_true rfl⟩ hk ⟨rfl, rfl⟩ rfl rfl rfl rfl rfl (Nat.le_of_ble_eq_true rfl) rfl (ws' := [oB q_t 8 [.ref q_t_net, .ref q_t_order, .ref q_t_bags, .ref q_t_law, .ref q_t_going, .ref q_t_plan, z_t_search, z_t_tally], oB q_t_law 3 [.int u2.1, .ref q_t_law_factors, .ref q_t_law_pairFactors, .ref q_t_law_barred, .ref q_t_law_forbidden], aI cA q_t_law_factors 4 u2.2.1, aI cA q_t_law_pairFactors 16 u2.2.2.1, aZ cA q_t_law_barred 16 u2.2.2.2.1, aI cA q_t_law_forbidden 14 u2.2.2.2.2]) (st' := []) (N0 := 6) rfl [none, some 0, some 1, some 2, some 3, some 4] (by decide) rfl rfl ?_
      refine g_iload_n C 29 0 dX8_states_29 rfl rfl ?_
      cases hf
      exact g_iret C 30 dX8_states_30 F hB
    · refine g_bipush C 10 (-2 : Int32) dX8_states_10 (by decide) ?_
      cases hf
      exact g_iret C 12 dX8_states_12 F hB

def f_X8_factor (a1 : Int32) (a2 : Int32) (t_law_size : Int32) (t_law_factors : Nat → Int32) : Option (Int32 × (Nat → Int32)) :=
  cal (f_X3_has a1 t_law_size) fun u1 =>
  if u1 = 0 then
    some ((-1 : Int32), t_law_factors)
  else
    cal (f_X8_isFactor a2) fun u2 =>
    if u2 = 0 then
      some ((-2 : Int32), t_law_factors)
    else
      ldA t_law_factors 4 a1 fun v3 =>
      bnd v3 fun x3_4 =>
      stI t_law_factors 4 a1 a2 fun t_law_factors_5 =>
      some ((x3_4 + (100 : Int32)), t_law_factors_5)

set_option maxRecDepth 100000 in
set_option maxHeartbeats 1000000 in
theorem c_X8_factor (l : Launch) (cA : Nat → ClassId) (q_t : Nat) (q_t_net : Nat) (q_t_order : Nat) (q_t_bags : Nat) (q_t_going : Nat) (q_t_plan : Nat) (z_t_search : Value) (z_t_tally : Value) (q_t_law : Nat) (t_law_size : Int32) (q_t_law_pairFactors : Nat) (q_t_law_barred : Nat) (q_t_law_forbidden : Nat) (q_t_law_factors : Nat) (t_law_factors : Nat → Int32)  (a1 : Int32) (a2 : Int32) (r : Int32 × (Nat → Int32)) (hf : f_X8_factor a1 a2 t_law_size t_law_factors = some r) : MT l cA yX8_factor cX8_factor 4 (some .int) ({ frames := 1, cells := 0, slots := 0, locals := 21 } : Room) [.ref q_t, .int a1, .int a2] [oB q_t 8 [.ref q_t_net, .ref q_t_order, .ref q_t_bags, .ref q_t_law, .ref q_t_going, .ref q_t_plan, z_t_search, z_t_tally], oB q_t_law 3 [.int t_law_size, .ref q_t_law_factors, .ref q_t_law_pairFactors, .ref q_t_law_barred, .ref q_t_law_forbidden], aI cA q_t_law_factors 4 t_law_factors] (sB (some (.int r.1)) [oB q_t 8 [.ref q_t_net, .ref q_t_order, .ref q_t_bags, .ref q_t_law, .ref q_t_going, .ref q_t_plan, z_t_search, z_t_tally], oB q_t_law 3 [.int t_law_size, .ref q_t_law_factors, .ref q_t_law_pairFactors, .ref q_t_law_barred, .ref q_t_law_forbidden], aI cA q_t_law_factors 4 r.2]) := by
  refine MT.of (by decide) (Nat.le_of_ble_eq_true rfl) ?_
  intro X hXl C F hnm hrc hrs
  subst hXl
  have hk : 0 ≤ (x_R X).cells ∧ 0 ≤ (x_R X).slots := ⟨Nat.zero_le _, Nat.zero_le _⟩
  have hB : (sB (some (.int r.1)) [oB q_t 8 [.ref q_t_net, .ref q_t_order, .ref q_t_bags, .ref q_t_law, .ref q_t_going, .ref q_t_plan, z_t_search, z_t_tally], oB q_t_law 3 [.int t_law_size, .ref q_t_law_factors, .ref q_t_law_pairFactors, .ref q_t_law_barred, .ref q_t_law_forbidden], aI cA q_t_law_factors 4 r.2]) (some (.int r.1)) [oB q_t 8 [.ref q_t_net, .ref q_t_order, .ref q_t_bags, .ref q_t_law, .ref q_t_going, .ref q_t_plan, z_t_search, z_t_tally], oB q_t_law 3 [.int t_law_size, .ref q_t_law_factors, .ref q_t_law_pairFactors, .ref q_t_law_barred, .ref q_t_law_forbidden], aI cA q_t_law_factors 4 r.2] := ⟨rfl, rfl⟩
  unfold f_X8_factor at hf
  have C : Cx X cX8_factor RX8 (some .int) cA 1 21 4 := C
  show Go X 4 0 0 0 [oB q_t 8 [.ref q_t_net, .ref q_t_order, .ref q_t_bags, .ref q_t_law, .ref q_t_going, .ref q_t_plan, z_t_search, z_t_tally], oB q_t_law 3 [.int t_law_size, .ref q_t_law_factors, .ref q_t_law_pairFactors, .ref q_t_law_barred, .ref q_t_law_forbidden], aI cA q_t_law_factors 4 t_law_factors] [(0, .ref q_t), (1, .int a1), (2, .int a2)] []
  refine g_aload_n C 0 0 dX8_factor_0 rfl rfl ?_
  refine g_get C 1 0 3 dX8_factor_1 inX8 rfl rfl (by decide) kw_317 rfl ?_
  refine g_iload_n C 4 1 dX8_factor_4 rfl rfl ?_
  obtain ⟨u1, hu1, hf⟩ := cal_some hf
  refine g_callV1 C 5 [1] 1 (rest := []) dX8_factor_5 (c_X3_has (x_l X) cA q_t_law t_law_size q_t_law_factors q_t_law_pairFactors q_t_law_barred q_t_law_forbidden a1 u1 hu1) kw_323 kw_324 kw_325 kw_149 kw_326 ok_X3_has ⟨Nat.le_of_ble_eq_true rfl, Nat.le_of_ble_eq_true rfl⟩ hk ⟨rfl, rfl⟩ rfl rfl rfl rfl rfl (Nat.le_of_ble_eq_true rfl) rfl (ws' := [oB q_t 8 [.ref q_t_net, .ref q_t_order, .ref q_t_bags, .ref q_t_law, .ref q_t_going, .ref q_t_plan, z_t_search, z_t_tally], oB q_t_law 3 [.int t_law_size, .ref q_t_law_factors, .ref q_t_law_pairFactors, .ref q_t_law_barred, .ref q_t_law_forbidden], aI cA q_t_law_factors 4 t_law_factors]) (st' := [.int u1]) (N0 := 3) rfl [none, some 0, none] (by decide) rfl rfl ?_
  refine g_if_ne C 8 13 dX8_factor_8 (by decide) hf (fun hf => ?_) (fun hf => ?_)
  · refine g_iload_n C 13 2 dX8_factor_13 rfl rfl ?_
    obtain ⟨u2, hu2, hf⟩ := cal_some hf
    refine g_callS C 14 [] (rest := []) dX8_factor_14 (c_X8_isFactor (x_l X) cA a2 u2 hu2) kw_327 kw_328 kw_6 kw_329 ok_X8_isFactor ⟨Nat.le_of_ble_eq_true rfl, Nat.le_of_ble_eq_true rfl⟩ hk ⟨rfl, rfl⟩ rfl rfl rfl (Nat.le_of_ble_eq_true rfl) rfl (ws' := [oB q_t 8 [.ref q_t_net, .ref q_t_order, .ref q_t_bags, .ref q_t_law, .ref q_t_going, .ref q_t_plan, z_t_search, z_t_tally], oB q_t_law 3 [.int t_law_size, .ref q_t_law_factors, .ref q_t_law_pairFactors, .ref q_t_law_barred, .ref q_t_law_forbidden], aI cA q_t_law_factors 4 t_law_factors]) (st' := [.int u2]) (N0 := 3) rfl [none, none, none] (by decide) rfl rfl ?_
    refine g_if_ne C 17 23 dX8_factor_17 (by decide) hf (fun hf => ?_) (fun hf => ?_)
    · refine g_aload_n C 23 0 dX8_factor_23 rfl rfl ?_
      refine g_get C 24 0 3 dX8_factor_24 inX8 rfl rfl (by decide) kw_317 rfl ?_
      refine g_get C 27 1 1 dX8_factor_27 inX3 rfl rfl (by decide) kw_330 rfl ?_
      refine g_iload_n C 30 1 dX8_factor_30 rfl rfl ?_
      refine g_iald C 31 2 dX8_factor_31 rfl hf (fun v3 hf => ?_)
      refine g_istore_n C 32 (fun z => [(3, .int z), (0, .ref q_t), (1, .int a1), (2, .int a2)]) dX8_factor_32 rfl (by decide) (fun _ => rfl) hf (fun x3_4 hf => ?_)
      refine g_aload_n C 33 1 dX8_factor_33 rfl rfl ?_
      refine g_get C 34 0 3 dX8_factor_34 inX8 rfl rfl (by decide) kw_317 rfl ?_
      refine g_get C 37 1 1 dX8_factor_37 inX3 rfl rfl (by decide) kw_330 rfl ?_
      refine g_iload_n C 40 2 dX8_factor_40 rfl rfl ?_
      refine g_iload_n C 41 3 dX8_factor_41 rfl rfl ?_
      refine g_iast C 42 2 (fun z => [oB q_t 8 [.ref q_t_net, .ref q_t_order, .ref q_t_bags, .ref q_t_law, .ref q_t_going, .ref q_t_plan, z_t_search, z_t_tally], oB q_t_law 3 [.int t_law_size, .ref q_t_law_factors, .ref q_t_law_pairFactors, .ref q_t_law_barred, .ref q_t_law_forbidden], aI cA q_t_law_factors 4 z]) dX8_factor_42 rfl (fun _ => rfl) hf (fun t_law_factors_5 hf => ?_)
      refine g_iload_n C 43 0 dX8_factor_43 rfl rfl ?_
      refine g_bipush C 44 (100 : Int32) dX8_factor_44 (by decide) ?_
      refine g_iadd C 46 dX8_factor_46 ?_
      cases hf
      exact g_iret C 47 dX8_factor_47 F hB
    · refine g_bipush C 20 (-2 : Int32) dX8_factor_20 (by decide) ?_
      cases hf
      exact g_iret C 22 dX8_factor_22 F hB
  · refine g_iconst C 11 (-1 : Int32) dX8_factor_11 (by decide) ?_
    cases hf
    exact g_iret C 12 dX8_factor_12 F hB

def J_X8_pair_80 (a1 : Int32) (a2 : Int32) (a3 : Int32) (a4 : Int32) (t_law_size : Int32)  (s0 : Int32) (t_law_pairFactors : Nat → Int32) (t_law_barred : Nat → Int32) : Option (Int32 × (Nat → Int32) × (Nat → Int32)) :=
  bnd s0 fun x5_6 =>
  if a3 = 0 then
    cal (f_X3_setPair a1 a2 (1 : Int32) a4 t_law_pairFactors t_law_barred) fun u8 =>
    some (x5_6, u8.1, u8.2)
  else
    cal (f_X3_setPair a1 a2 (0 : Int32) a4 t_law_pairFactors t_law_barred) fun u7 =>
    some (x5_6, u7.1, u7.2)

set_option maxRecDepth 100000 in
set_option maxHeartbeats 1000000 in
theorem w_X8_pair_80 (cA : Nat → ClassId) (q_t : Nat) (q_t_net : Nat) (q_t_order : Nat) (q_t_bags : Nat) (q_t_going : Nat) (q_t_plan : Nat) (z_t_search : Value) (z_t_tally : Value) (q_t_law : Nat) (q_t_law_factors : Nat) (q_t_law_forbidden : Nat) (q_t_law_pairFactors : Nat) (q_t_law_barred : Nat) (a1 : Int32) (a2 : Int32) (a3 : Int32) (a4 : Int32) (t_law_size : Int32) {X : XT}  (C : Cx X cX8_pair RX8 (some .int) cA 1 24 6) {kk nn : Nat} {BB : Option Value → va_W → Prop} (hk : kk ≤ (x_R X).cells ∧ nn ≤ (x_R X).slots) (F : Fx X BB kk nn) (r : Int32 × (Nat → Int32) × (Nat → Int32)) (hB : BB (some (.int r.1)) [oB q_t 8 [.ref q_t_net, .ref q_t_order, .ref q_t_bags, .ref q_t_law, .ref q_t_going, .ref q_t_plan, z_t_search, z_t_tally], oB q_t_law 3 [.int t_law_size, .ref q_t_law_factors, .ref q_t_law_pairFactors, .ref q_t_law_barred, .ref q_t_law_forbidden], aI cA q_t_law_pairFactors 16 r.2.1, aZ cA q_t_law_barred 16 r.2.2])  : ∀ (s0 : Int32) (t_law_pairFactors : Nat → Int32) (t_law_barred : Nat → Int32), J_X8_pair_80 a1 a2 a3 a4 t_law_size s0 t_law_pairFactors t_law_barred = some r → Go X 6 kk nn 80 [oB q_t 8 [.ref q_t_net, .ref q_t_order, .ref q_t_bags, .ref q_t_law, .ref q_t_going, .ref q_t_plan, z_t_search, z_t_tally], oB q_t_law 3 [.int t_law_size, .ref q_t_law_factors, .ref q_t_law_pairFactors, .ref q_t_law_barred, .ref q_t_law_forbidden], aI cA q_t_law_pairFactors 16 t_law_pairFactors, aZ cA q_t_law_barred 16 t_law_barred] [(0, .ref q_t), (1, .int a1), (2, .int a2), (3, .int a3), (4, .int a4)] [.int s0] := by
  intro s0 t_law_pairFactors t_law_barred hf
  unfold J_X8_pair_80 at hf
  refine g_istore C 80 (fun z => [(5, .int z), (0, .ref q_t), (1, .int a1), (2, .int a2), (3, .int a3), (4, .int a4)]) dX8_pair_80 (by decide) (fun _ => rfl) hf (fun x5_6 hf => ?_)
  refine g_aload_n C 82 1 dX8_pair_82 rfl rfl ?_
  refine g_get C 83 0 3 dX8_pair_83 inX8 rfl rfl (by decide) kw_317 rfl ?_
  refine g_iload_n C 86 2 dX8_pair_86 rfl rfl ?_
  refine g_iload_n C 87 3 dX8_pair_87 rfl rfl ?_
  refine g_iload_n C 88 4 dX8_pair_88 rfl rfl ?_
  refine g_if_ne C 89 96 dX8_pair_89 (by decide) hf (fun hf => ?_) (fun hf => ?_)
  · refine g_iconst C 96 (0 : Int32) dX8_pair_96 (by decide) ?_
    refine g_iload C 97 5 dX8_pair_97 rfl ?_
    obtain ⟨u7, hu7, hf⟩ := cal_some hf
    refine g_callV1 C 99 [1, 2, 3] 1 (rest := []) dX8_pair_99 (c_X3_setPair (x_l X) cA q_t_law t_law_size q_t_law_factors q_t_law_forbidden q_t_law_pairFactors t_law_pairFactors q_t_law_barred t_law_barred a1 a2 (0 : Int32) a4 u7 hu7) kw_333 kw_334 kw_335 kw_149 kw_336 ok_X3_setPair ⟨Nat.le_of_ble_eq_true rfl, Nat.le_of_ble_eq_true rfl⟩ hk ⟨rfl, rfl⟩ rfl rfl rfl rfl rfl (Nat.le_of_ble_eq_true rfl) rfl (ws' := [oB q_t 8 [.ref q_t_net, .ref q_t_order, .ref q_t_bags, .ref q_t_law, .ref q_t_going, .ref q_t_plan, z_t_search, z_t_tally], oB q_t_law 3 [.int t_law_size, .ref q_t_law_factors, .ref q_t_law_pairFactors, .ref q_t_law_barred, .ref q_t_law_forbidden], aI cA q_t_law_pairFactors 16 u7.1, aZ cA q_t_law_barred 16 u7.2]) (st' := []) (N0 := 4) rfl [none, some 0, some 1, some 2] (by decide) rfl rfl ?_
    refine g_iload C 102 0 dX8_pair_102 rfl ?_
    cases hf
    exact g_iret C 104 dX8_pair_104 F hB
  · refine g_iconst C 92 (1 : Int32) dX8_pair_92 (by decide) ?_
    refine g_goto C 93 97 dX8_pair_93 (by decide) ?_
    refine g_iload C 97 5 dX8_pair_97 rfl ?_
    obtain ⟨u8, hu8, hf⟩ := cal_some hf
    refine g_callV1 C 99 [1, 2, 3] 1 (rest := []) dX8_pair_99 (c_X3_setPair (x_l X) cA q_t_law t_law_size q_t_law_factors q_t_law_forbidden q_t_law_pairFactors t_law_pairFactors q_t_law_barred t_law_barred a1 a2 (1 : Int32) a4 u8 hu8) kw_333 kw_334 kw_335 kw_149 kw_336 ok_X3_setPair ⟨Nat.le_of_ble_eq_true rfl, Nat.le_of_ble_eq_true rfl⟩ hk ⟨rfl, rfl⟩ rfl rfl rfl rfl rfl (Nat.le_of_ble_eq_true rfl) rfl (ws' := [oB q_t 8 [.ref q_t_net, .ref q_t_order, .ref q_t_bags, .ref q_t_law, .ref q_t_going, .ref q_t_plan, z_t_search, z_t_tally], oB q_t_law 3 [.int t_law_size, .ref q_t_law_factors, .ref q_t_law_pairFactors, .ref q_t_law_barred, .ref q_t_law_forbidden], aI cA q_t_law_pairFactors 16 u8.1, aZ cA q_t_law_barred 16 u8.2]) (st' := []) (N0 := 4) rfl [none, some 0, some 1, some 2] (by decide) rfl rfl ?_
    refine g_iload C 102 0 dX8_pair_102 rfl ?_
    cases hf
    exact g_iret C 104 dX8_pair_104 F hB
def f_X8_pair (a1 : Int32) (a2 : Int32) (a3 : Int32) (a4 : Int32) (t_law_size : Int32) (t_law_pairFactors : Nat → Int32) (t_law_barred : Nat → Int32) : Option (Int32 × (Nat → Int32) × (Nat → Int32)) :=
  cal (f_X3_has a1 t_law_size) fun u1 =>
  if u1 = 0 then
    some ((-1 : Int32), t_law_pairFactors, t_law_barred)
  else
    cal (f_X3_has a2 t_law_size) fun u2 =>
    if u2 = 0 then
      some ((-1 : Int32), t_law_pairFactors, t_law_barred)
    else
      if a3 < 0 then
        some ((-2 : Int32), t_law_pairFactors, t_law_barred)
      else
        if (1 : Int32) < a3 then
          some ((-2 : Int32), t_law_pairFactors, t_law_barred)
        else
          cal (f_X8_isFactor a4) fun u3 =>
          if u3 = 0 then
            some ((-2 : Int32), t_law_pairFactors, t_law_barred)
          else
            ldA t_law_barred 16 ((a1 * (4 : Int32)) + a2) fun v4 =>
            if v4 = 0 then
              ldA t_law_pairFactors 16 ((a1 * (4 : Int32)) + a2) fun v5 =>
              J_X8_pair_80 a1 a2 a3 a4 t_law_size (v5 + (100 : Int32)) t_law_pairFactors t_law_barred
            else
              J_X8_pair_80 a1 a2 a3 a4 t_law_size (0 : Int32) t_law_pairFactors t_law_barred

set_option maxRecDepth 100000 in
set_option maxHeartbeats 1000000 in
theorem c_X8_pair (l : Launch) (cA : Nat → ClassId) (q_t : Nat) (q_t_net : Nat) (q_t_order : Nat) (q_t_bags : Nat) (q_t_going : Nat) (q_t_plan : Nat) (z_t_search : Value) (z_t_tally : Value) (q_t_law : Nat) (t_law_size : Int32) (q_t_law_factors : Nat) (q_t_law_forbidden : Nat) (q_t_law_pairFactors : Nat) (t_law_pairFactors : Nat → Int32) (q_t_law_barred : Nat) (t_law_barred : Nat → Int32)  (a1 : Int32) (a2 : Int32) (a3 : Int32) (a4 : Int32) (r : Int32 × (Nat → Int32) × (Nat → Int32)) (hf : f_X8_pair a1 a2 a3 a4 t_law_size t_law_pairFactors t_law_barred = some r) : MT l cA yX8_pair cX8_pair 6 (some .int) ({ frames := 1, cells := 0, slots := 0, locals := 24 } : Room) [.ref q_t, .int a1, .int a2, .int a3, .int a4] [oB q_t 8 [.ref q_t_net, .ref q_t_order, .ref q_t_bags, .ref q_t_law, .ref q_t_going, .ref q_t_plan, z_t_search, z_t_tally], oB q_t_law 3 [.int t_law_size, .ref q_t_law_factors, .ref q_t_law_pairFactors, .ref q_t_law_barred, .ref q_t_law_forbidden], aI cA q_t_law_pairFactors 16 t_law_pairFactors, aZ cA q_t_law_barred 16 t_law_barred] (sB (some (.int r.1)) [oB q_t 8 [.ref q_t_net, .ref q_t_order, .ref q_t_bags, .ref q_t_law, .ref q_t_going, .ref q_t_plan, z_t_search, z_t_tally], oB q_t_law 3 [.int t_law_size, .ref q_t_law_factors, .ref q_t_law_pairFactors, .ref q_t_law_barred, .ref q_t_law_forbidden], aI cA q_t_law_pairFactors 16 r.2.1, aZ cA q_t_law_barred 16 r.2.2]) := by
  refine MT.of (by decide) (Nat.le_of_ble_eq_true rfl) ?_
  intro X hXl C F hnm hrc hrs
  subst hXl
  have hk : 0 ≤ (x_R X).cells ∧ 0 ≤ (x_R X).slots := ⟨Nat.zero_le _, Nat.zero_le _⟩
  have hB : (sB (some (.int r.1)) [oB q_t 8 [.ref q_t_net, .ref q_t_order, .ref q_t_bags, .ref q_t_law, .ref q_t_going, .ref q_t_plan, z_t_search, z_t_tally], oB q_t_law 3 [.int t_law_size, .ref q_t_law_factors, .ref q_t_law_pairFactors, .ref q_t_law_barred, .ref q_t_law_forbidden], aI cA q_t_law_pairFactors 16 r.2.1, aZ cA q_t_law_barred 16 r.2.2]) (some (.int r.1)) [oB q_t 8 [.ref q_t_net, .ref q_t_order, .ref q_t_bags, .ref q_t_law, .ref q_t_going, .ref q_t_plan, z_t_search, z_t_tally], oB q_t_law 3 [.int t_law_size, .ref q_t_law_factors, .ref q_t_law_pairFactors, .ref q_t_law_barred, .ref q_t_law_forbidden], aI cA q_t_law_pairFactors 16 r.2.1, aZ cA q_t_law_barred 16 r.2.2] := ⟨rfl, rfl⟩
  unfold f_X8_pair at hf
  have C : Cx X cX8_pair RX8 (some .int) cA 1 24 6 := C
  show Go X 6 0 0 0 [oB q_t 8 [.ref q_t_net, .ref q_t_order, .ref q_t_bags, .ref q_t_law, .ref q_t_going, .ref q_t_plan, z_t_search, z_t_tally], oB q_t_law 3 [.int t_law_size, .ref q_t_law_factors, .ref q_t_law_pairFactors, .ref q_t_law_barred, .ref q_t_law_forbidden], aI cA q_t_law_pairFactors 16 t_law_pairFactors, aZ cA q_t_law_barred 16 t_law_barred] [(0, .ref q_t), (1, .int a1), (2, .int a2), (3, .int a3), (4, .int a4)] []
  refine g_aload_n C 0 0 dX8_pair_0 rfl rfl ?_
  refine g_get C 1 0 3 dX8_pair_1 inX8 rfl rfl (by decide) kw_317 rfl ?_
  refine g_iload_n C 4 1 dX8_pair_4 rfl rfl ?_
  obtain ⟨u1, hu1, hf⟩ := cal_some hf
  refine g_callV1 C 5 [1] 1 (rest := []) dX8_pair_5 (c_X3_has (x_l X) cA q_t_law t_law_size q_t_law_factors q_t_law_pairFactors q_t_law_barred q_t_law_forbidden a1 u1 hu1) kw_323 kw_324 kw_325 kw_149 kw_326 ok_X3_has ⟨Nat.le_of_ble_eq_true rfl, Nat.le_of_ble_eq_true rfl⟩ hk ⟨rfl, rfl⟩ rfl rfl rfl rfl rfl (Nat.le_of_ble_eq_true rfl) rfl (ws' := [oB q_t 8 [.ref q_t_net, .ref q_t_order, .ref q_t_bags, .ref q_t_law, .ref q_t_going, .ref q_t_plan, z_t_search, z_t_tally], oB q_t_law 3 [.int t_law_size, .ref q_t_law_factors, .ref q_t_law_pairFactors, .ref q_t_law_barred, .ref q_t_law_forbidden], aI cA q_t_law_pairFactors 16 t_law_pairFactors, aZ cA q_t_law_barred 16 t_law_barred]) (st' := [.int u1]) (N0 := 4) rfl [none, some 0, none, none] (by decide) rfl rfl ?_
  refine g_if_eq C 8 22 dX8_pair_8 (by decide) hf (fun hf => ?_) (fun hf => ?_)
  · refine g_iconst C 22 (-1 : Int32) dX8_pair_22 (by decide) ?_
    cases hf
    exact g_iret C 23 dX8_pair_23 F hB
  · refine g_aload_n C 11 0 dX8_pair_11 rfl rfl ?_
    refine g_get C 12 0 3 dX8_pair_12 inX8 rfl rfl (by decide) kw_317 rfl ?_
    refine g_iload_n C 15 2 dX8_pair_15 rfl rfl ?_
    obtain ⟨u2, hu2, hf⟩ := cal_some hf
    refine g_callV1 C 16 [1] 1 (rest := []) dX8_pair_16 (c_X3_has (x_l X) cA q_t_law t_law_size q_t_law_factors q_t_law_pairFactors q_t_law_barred q_t_law_forbidden a2 u2 hu2) kw_323 kw_324 kw_325 kw_149 kw_326 ok_X3_has ⟨Nat.le_of_ble_eq_true rfl, Nat.le_of_ble_eq_true rfl⟩ hk ⟨rfl, rfl⟩ rfl rfl rfl rfl rfl (Nat.le_of_ble_eq_true rfl) rfl (ws' := [oB q_t 8 [.ref q_t_net, .ref q_t_order, .ref q_t_bags, .ref q_t_law, .ref q_t_going, .ref q_t_plan, z_t_search, z_t_tally], oB q_t_law 3 [.int t_law_size, .ref q_t_law_factors, .ref q_t_law_pairFactors, .ref q_t_law_barred, .ref q_t_law_forbidden], aI cA q_t_law_pairFactors 16 t_law_pairFactors, aZ cA q_t_law_barred 16 t_law_barred]) (st' := [.int u2]) (N0 := 4) rfl [none, some 0, none, none] (by decide) rfl rfl ?_
    refine g_if_ne C 19 24 dX8_pair_19 (by decide) hf (fun hf => ?_) (fun hf => ?_)
    · refine g_iload_n C 24 3 dX8_pair_24 rfl rfl ?_
      refine g_if_lt C 25 41 dX8_pair_25 (by decide) hf (fun hf => ?_) (fun hf => ?_)
      · refine g_bipush C 41 (-2 : Int32) dX8_pair_41 (by decide) ?_
        cases hf
        exact g_iret C 43 dX8_pair_43 F hB
      · refine g_iload_n C 28 3 dX8_pair_28 rfl rfl ?_
        refine g_iconst C 29 (1 : Int32) dX8_pair_29 (by decide) ?_
        refine g_icmp_gt C 30 41 dX8_pair_30 (by decide) hf (fun hf => ?_) (fun hf => ?_)
        · refine g_bipush C 41 (-2 : Int32) dX8_pair_41 (by decide) ?_
          cases hf
          exact g_iret C 43 dX8_pair_43 F hB
        · refine g_iload C 33 4 dX8_pair_33 rfl ?_
          obtain ⟨u3, hu3, hf⟩ := cal_some hf
          refine g_callS C 35 [] (rest := []) dX8_pair_35 (c_X8_isFactor (x_l X) cA a4 u3 hu3) kw_327 kw_328 kw_6 kw_329 ok_X8_isFactor ⟨Nat.le_of_ble_eq_true rfl, Nat.le_of_ble_eq_true rfl⟩ hk ⟨rfl, rfl⟩ rfl rfl rfl (Nat.le_of_ble_eq_true rfl) rfl (ws' := [oB q_t 8 [.ref q_t_net, .ref q_t_order, .ref q_t_bags, .ref q_t_law, .ref q_t_going, .ref q_t_plan, z_t_search, z_t_tally], oB q_t_law 3 [.int t_law_size, .ref q_t_law_factors, .ref q_t_law_pairFactors, .ref q_t_law_barred, .ref q_t_law_forbidden], aI cA q_t_law_pairFactors 16 t_law_pairFactors, aZ cA q_t_law_barred 16 t_law_barred]) (st' := [.int u3]) (N0 := 4) rfl [none, none, none, none] (by decide) rfl rfl ?_
          refine g_if_ne C 38 44 dX8_pair_38 (by decide) hf (fun hf => ?_) (fun hf => ?_)
          · refine g_aload_n C 44 0 dX8_pair_44 rfl rfl ?_
            refine g_get C 45 0 3 dX8_pair_45 inX8 rfl rfl (by decide) kw_317 rfl ?_
            refine g_get C 48 1 3 dX8_pair_48 inX3 rfl rfl (by decide) kw_331 rfl ?_
            refine g_iload_n C 51 1 dX8_pair_51 rfl rfl ?_
            refine g_iconst C 52 (4 : Int32) dX8_pair_52 (by decide) ?_
            refine g_imul C 53 dX8_pair_53 ?_
            refine g_iload_n C 54 2 dX8_pair_54 rfl rfl ?_
            refine g_iadd C 55 dX8_pair_55 ?_
            refine g_zald C 56 3 dX8_pair_56 rfl hf (fun v4 hf => ?_)
            refine g_if_eq C 57 64 dX8_pair_57 (by decide) hf (fun hf => ?_) (fun hf => ?_)
            · refine g_aload_n C 64 0 dX8_pair_64 rfl rfl ?_
              refine g_get C 65 0 3 dX8_pair_65 inX8 rfl rfl (by decide) kw_317 rfl ?_
              refine g_get C 68 1 2 dX8_pair_68 inX3 rfl rfl (by decide) kw_332 rfl ?_
              refine g_iload_n C 71 1 dX8_pair_71 rfl rfl ?_
              refine g_iconst C 72 (4 : Int32) dX8_pair_72 (by decide) ?_
              refine g_imul C 73 dX8_pair_73 ?_
              refine g_iload_n C 74 2 dX8_pair_74 rfl rfl ?_
              refine g_iadd C 75 dX8_pair_75 ?_
              refine g_iald C 76 2 dX8_pair_76 rfl hf (fun v5 hf => ?_)
              refine g_bipush C 77 (100 : Int32) dX8_pair_77 (by decide) ?_
              refine g_iadd C 79 dX8_pair_79 ?_
              exact w_X8_pair_80 cA q_t q_t_net q_t_order q_t_bags q_t_going q_t_plan z_t_search z_t_tally q_t_law q_t_law_factors q_t_law_forbidden q_t_law_pairFactors q_t_law_barred a1 a2 a3 a4 t_law_size C hk F r hB (v5 + (100 : Int32)) t_law_pairFactors t_law_barred hf
            · refine g_iconst C 60 (0 : Int32) dX8_pair_60 (by decide) ?_
              refine g_goto C 61 80 dX8_pair_61 (by decide) ?_
              exact w_X8_pair_80 cA q_t q_t_net q_t_order q_t_bags q_t_going q_t_plan z_t_search z_t_tally q_t_law q_t_law_factors q_t_law_forbidden q_t_law_pairFactors q_t_law_barred a1 a2 a3 a4 t_law_size C hk F r hB (0 : Int32) t_law_pairFactors t_law_barred hf
          · refine g_bipush C 41 (-2 : Int32) dX8_pair_41 (by decide) ?_
            cases hf
            exact g_iret C 43 dX8_pair_43 F hB
    · refine g_iconst C 22 (-1 : Int32) dX8_pair_22 (by decide) ?_
      cases hf
      exact g_iret C 23 dX8_pair_23 F hB

def f_X8_forbid (a1 : Int32) (a2 : Int32) (t_net_size : Int32) (t_law_forbidden : Nat → Int32) : Option (Int32 × (Nat → Int32)) :=
  cal (f_X4_has a1 t_net_size) fun u1 =>
  if u1 = 0 then
    some ((-1 : Int32), t_law_forbidden)
  else
    if a2 < 0 then
      some ((-2 : Int32), t_law_forbidden)
    else
      if a2 ≤ (15 : Int32) then
        ldA t_law_forbidden 14 a1 fun v2 =>
        bnd v2 fun x3_3 =>
        stI t_law_forbidden 14 a1 a2 fun t_law_forbidden_4 =>
        some (x3_3, t_law_forbidden_4)
      else
        some ((-2 : Int32), t_law_forbidden)

set_option maxRecDepth 100000 in
set_option maxHeartbeats 1000000 in
theorem c_X8_forbid (l : Launch) (cA : Nat → ClassId) (q_t : Nat) (q_t_order : Nat) (q_t_bags : Nat) (q_t_going : Nat) (q_t_plan : Nat) (z_t_search : Value) (z_t_tally : Value) (q_t_net : Nat) (q_t_net_loads : Nat) (q_t_net_near : Nat) (q_t_net_ties : Nat) (t_net_size : Int32) (t_net_edges : Int32) (q_t_law : Nat) (t_law_size : Int32) (q_t_law_factors : Nat) (q_t_law_pairFactors : Nat) (q_t_law_barred : Nat) (q_t_law_forbidden : Nat) (t_law_forbidden : Nat → Int32)  (a1 : Int32) (a2 : Int32) (r : Int32 × (Nat → Int32)) (hf : f_X8_forbid a1 a2 t_net_size t_law_forbidden = some r) : MT l cA yX8_forbid cX8_forbid 4 (some .int) ({ frames := 1, cells := 0, slots := 0, locals := 21 } : Room) [.ref q_t, .int a1, .int a2] [oB q_t 8 [.ref q_t_net, .ref q_t_order, .ref q_t_bags, .ref q_t_law, .ref q_t_going, .ref q_t_plan, z_t_search, z_t_tally], oB q_t_net 4 [.ref q_t_net_loads, .ref q_t_net_near, .ref q_t_net_ties, .int t_net_size, .int t_net_edges], oB q_t_law 3 [.int t_law_size, .ref q_t_law_factors, .ref q_t_law_pairFactors, .ref q_t_law_barred, .ref q_t_law_forbidden], aI cA q_t_law_forbidden 14 t_law_forbidden] (sB (some (.int r.1)) [oB q_t 8 [.ref q_t_net, .ref q_t_order, .ref q_t_bags, .ref q_t_law, .ref q_t_going, .ref q_t_plan, z_t_search, z_t_tally], oB q_t_net 4 [.ref q_t_net_loads, .ref q_t_net_near, .ref q_t_net_ties, .int t_net_size, .int t_net_edges], oB q_t_law 3 [.int t_law_size, .ref q_t_law_factors, .ref q_t_law_pairFactors, .ref q_t_law_barred, .ref q_t_law_forbidden], aI cA q_t_law_forbidden 14 r.2]) := by
  refine MT.of (by decide) (Nat.le_of_ble_eq_true rfl) ?_
  intro X hXl C F hnm hrc hrs
  subst hXl
  have hk : 0 ≤ (x_R X).cells ∧ 0 ≤ (x_R X).slots := ⟨Nat.zero_le _, Nat.zero_le _⟩
  have hB : (sB (some (.int r.1)) [oB q_t 8 [.ref q_t_net, .ref q_t_order, .ref q_t_bags, .ref q_t_law, .ref q_t_going, .ref q_t_plan, z_t_search, z_t_tally], oB q_t_net 4 [.ref q_t_net_loads, .ref q_t_net_near, .ref q_t_net_ties, .int t_net_size, .int t_net_edges], oB q_t_law 3 [.int t_law_size, .ref q_t_law_factors, .ref q_t_law_pairFactors, .ref q_t_law_barred, .ref q_t_law_forbidden], aI cA q_t_law_forbidden 14 r.2]) (some (.int r.1)) [oB q_t 8 [.ref q_t_net, .ref q_t_order, .ref q_t_bags, .ref q_t_law, .ref q_t_going, .ref q_t_plan, z_t_search, z_t_tally], oB q_t_net 4 [.ref q_t_net_loads, .ref q_t_net_near, .ref q_t_net_ties, .int t_net_size, .int t_net_edges], oB q_t_law 3 [.int t_law_size, .ref q_t_law_factors, .ref q_t_law_pairFactors, .ref q_t_law_barred, .ref q_t_law_forbidden], aI cA q_t_law_forbidden 14 r.2] := ⟨rfl, rfl⟩
  unfold f_X8_forbid at hf
  have C : Cx X cX8_forbid RX8 (some .int) cA 1 21 4 := C
  show Go X 4 0 0 0 [oB q_t 8 [.ref q_t_net, .ref q_t_order, .ref q_t_bags, .ref q_t_law, .ref q_t_going, .ref q_t_plan, z_t_search, z_t_tally], oB q_t_net 4 [.ref q_t_net_loads, .ref q_t_net_near, .ref q_t_net_ties, .int t_net_size, .int t_net_edges], oB q_t_law 3 [.int t_law_size, .ref q_t_law_factors, .ref q_t_law_pairFactors, .ref q_t_law_barred, .ref q_t_law_forbidden], aI cA q_t_law_forbidden 14 t_law_forbidden] [(0, .ref q_t), (1, .int a1), (2, .int a2)] []
  refine g_aload_n C 0 0 dX8_forbid_0 rfl rfl ?_
  refine g_get C 1 0 0 dX8_forbid_1 inX8 rfl rfl (by decide) kw_229 rfl ?_
  refine g_iload_n C 4 1 dX8_forbid_4 rfl rfl ?_
  obtain ⟨u1, hu1, hf⟩ := cal_some hf
  refine g_callV1 C 5 [1] 1 (rest := []) dX8_forbid_5 (c_X4_has (x_l X) cA q_t_net q_t_net_loads q_t_net_near q_t_net_ties t_net_size t_net_edges a1 u1 hu1) kw_245 kw_47 kw_48 kw_49 kw_50 ok_X4_has ⟨Nat.le_of_ble_eq_true rfl, Nat.le_of_ble_eq_true rfl⟩ hk ⟨rfl, rfl⟩ rfl rfl rfl rfl rfl (Nat.le_of_ble_eq_true rfl) rfl (ws' := [oB q_t 8 [.ref q_t_net, .ref q_t_order, .ref q_t_bags, .ref q_t_law, .ref q_t_going, .ref q_t_plan, z_t_search, z_t_tally], oB q_t_net 4 [.ref q_t_net_loads, .ref q_t_net_near, .ref q_t_net_ties, .int t_net_size, .int t_net_edges], oB q_t_law 3 [.int t_law_size, .ref q_t_law_factors, .ref q_t_law_pairFactors, .ref q_t_law_barred, .ref q_t_law_forbidden], aI cA q_t_law_forbidden 14 t_law_forbidden]) (st' := [.int u1]) (N0 := 4) rfl [none, some 0, none, none] (by decide) rfl rfl ?_
  refine g_if_ne C 8 13 dX8_forbid_8 (by decide) hf (fun hf => ?_) (fun hf => ?_)
  · refine g_iload_n C 13 2 dX8_forbid_13 rfl rfl ?_
    refine g_if_lt C 14 23 dX8_forbid_14 (by decide) hf (fun hf => ?_) (fun hf => ?_)
    · refine g_bipush C 23 (-2 : Int32) dX8_forbid_23 (by decide) ?_
      cases hf
      exact g_iret C 25 dX8_forbid_25 F hB
    · refine g_iload_n C 17 2 dX8_forbid_17 rfl rfl ?_
      refine g_bipush C 18 (15 : Int32) dX8_forbid_18 (by decide) ?_
      refine g_icmp_le C 20 26 dX8_forbid_20 (by decide) hf (fun hf => ?_) (fun hf => ?_)
      · refine g_aload_n C 26 0 dX8_forbid_26 rfl rfl ?_
        refine g_get C 27 0 3 dX8_forbid_27 inX8 rfl rfl (by decide) kw_317 rfl ?_
        refine g_get C 30 2 4 dX8_forbid_30 inX3 rfl rfl (by decide) kw_337 rfl ?_
        refine g_iload_n C 33 1 dX8_forbid_33 rfl rfl ?_
        refine g_iald C 34 3 dX8_forbid_34 rfl hf (fun v2 hf => ?_)
        refine g_istore_n C 35 (fun z => [(3, .int z), (0, .ref q_t), (1, .int a1), (2, .int a2)]) dX8_forbid_35 rfl (by decide) (fun _ => rfl) hf (fun x3_3 hf => ?_)
        refine g_aload_n C 36 1 dX8_forbid_36 rfl rfl ?_
        refine g_get C 37 0 3 dX8_forbid_37 inX8 rfl rfl (by decide) kw_317 rfl ?_
        refine g_get C 40 2 4 dX8_forbid_40 inX3 rfl rfl (by decide) kw_337 rfl ?_
        refine g_iload_n C 43 2 dX8_forbid_43 rfl rfl ?_
        refine g_iload_n C 44 3 dX8_forbid_44 rfl rfl ?_
        refine g_iast C 45 3 (fun z => [oB q_t 8 [.ref q_t_net, .ref q_t_order, .ref q_t_bags, .ref q_t_law, .ref q_t_going, .ref q_t_plan, z_t_search, z_t_tally], oB q_t_net 4 [.ref q_t_net_loads, .ref q_t_net_near, .ref q_t_net_ties, .int t_net_size, .int t_net_edges], oB q_t_law 3 [.int t_law_size, .ref q_t_law_factors, .ref q_t_law_pairFactors, .ref q_t_law_barred, .ref q_t_law_forbidden], aI cA q_t_law_forbidden 14 z]) dX8_forbid_45 rfl (fun _ => rfl) hf (fun t_law_forbidden_4 hf => ?_)
        refine g_iload_n C 46 0 dX8_forbid_46 rfl rfl ?_
        cases hf
        exact g_iret C 47 dX8_forbid_47 F hB
      · refine g_bipush C 23 (-2 : Int32) dX8_forbid_23 (by decide) ?_
        cases hf
        exact g_iret C 25 dX8_forbid_25 F hB
  · refine g_iconst C 11 (-1 : Int32) dX8_forbid_11 (by decide) ?_
    cases hf
    exact g_iret C 12 dX8_forbid_12 F hB

def f_X8_canAsk (t_net_size : Int32) (t_net_near : Nat → Int32) (t_bags_size : Int32) (t_bags_masks : Nat → Int32) (t_bags_ups : Nat → Int32) : Option (Int32) :=
  cal (f_X8_isSound t_net_size t_net_near t_bags_size t_bags_masks t_bags_ups) fun u1 =>
  if u1 = 0 then
    some ((0 : Int32))
  else
    cal (f_X0_mostKnots t_bags_size t_bags_masks) fun u2 =>
    if (4 : Int32) < (u2 - (1 : Int32)) then
      some ((0 : Int32))
    else
      some ((1 : Int32))

set_option maxRecDepth 100000 in
set_option maxHeartbeats 1000000 in
theorem c_X8_canAsk (l : Launch) (cA : Nat → ClassId) (q_t : Nat) (q_t_order : Nat) (q_t_law : Nat) (q_t_going : Nat) (q_t_plan : Nat) (z_t_search : Value) (z_t_tally : Value) (q_t_net : Nat) (q_t_net_loads : Nat) (q_t_net_ties : Nat) (t_net_size : Int32) (t_net_edges : Int32) (q_t_net_near : Nat) (t_net_near : Nat → Int32) (q_t_bags : Nat) (t_bags_size : Int32) (q_t_bags_masks : Nat) (t_bags_masks : Nat → Int32) (q_t_bags_ups : Nat) (t_bags_ups : Nat → Int32)   (r : Int32) (hf : f_X8_canAsk t_net_size t_net_near t_bags_size t_bags_masks t_bags_ups = some r) : MT l cA yX8_canAsk cX8_canAsk 1 (some .boolean) ({ frames := 5, cells := 0, slots := 0, locals := 110 } : Room) [.ref q_t] [oB q_t 8 [.ref q_t_net, .ref q_t_order, .ref q_t_bags, .ref q_t_law, .ref q_t_going, .ref q_t_plan, z_t_search, z_t_tally], oB q_t_net 4 [.ref q_t_net_loads, .ref q_t_net_near, .ref q_t_net_ties, .int t_net_size, .int t_net_edges], aI cA q_t_net_near 14 t_net_near, oB q_t_bags 0 [.ref q_t_bags_masks, .ref q_t_bags_ups, .int t_bags_size], aI cA q_t_bags_masks 14 t_bags_masks, aI cA q_t_bags_ups 14 t_bags_ups] (sB (some (.int r)) [oB q_t 8 [.ref q_t_net, .ref q_t_order, .ref q_t_bags, .ref q_t_law, .ref q_t_going, .ref q_t_plan, z_t_search, z_t_tally], oB q_t_net 4 [.ref q_t_net_loads, .ref q_t_net_near, .ref q_t_net_ties, .int t_net_size, .int t_net_edges], aI cA q_t_net_near 14 t_net_near, oB q_t_bags 0 [.ref q_t_bags_masks, .ref q_t_bags_ups, .int t_bags_size], aI cA q_t_bags_masks 14 t_bags_masks, aI cA q_t_bags_ups 14 t_bags_ups]) := by
  refine MT.of (by decide) (Nat.le_of_ble_eq_true rfl) ?_
  intro X hXl C F hnm hrc hrs
  subst hXl
  have hk : 0 ≤ (x_R X).cells ∧ 0 ≤ (x_R X).slots := ⟨Nat.zero_le _, Nat.zero_le _⟩
  have hB : (sB (some (.int r)) [oB q_t 8 [.ref q_t_net, .ref q_t_order, .ref q_t_bags, .ref q_t_law, .ref q_t_going, .ref q_t_plan, z_t_search, z_t_tally], oB q_t_net 4 [.ref q_t_net_loads, .ref q_t_net_near, .ref q_t_net_ties, .int t_net_size, .int t_net_edges], aI cA q_t_net_near 14 t_net_near, oB q_t_bags 0 [.ref q_t_bags_masks, .ref q_t_bags_ups, .int t_bags_size], aI cA q_t_bags_masks 14 t_bags_masks, aI cA q_t_bags_ups 14 t_bags_ups]) (some (.int r)) [oB q_t 8 [.ref q_t_net, .ref q_t_order, .ref q_t_bags, .ref q_t_law, .ref q_t_going, .ref q_t_plan, z_t_search, z_t_tally], oB q_t_net 4 [.ref q_t_net_loads, .ref q_t_net_near, .ref q_t_net_ties, .int t_net_size, .int t_net_edges], aI cA q_t_net_near 14 t_net_near, oB q_t_bags 0 [.ref q_t_bags_masks, .ref q_t_bags_ups, .int t_bags_size], aI cA q_t_bags_masks 14 t_bags_masks, aI cA q_t_bags_ups 14 t_bags_ups] := ⟨rfl, rfl⟩
  unfold f_X8_canAsk at hf
  have C : Cx X cX8_canAsk RX8 (some .boolean) cA 5 110 1 := C
  show Go X 1 0 0 0 [oB q_t 8 [.ref q_t_net, .ref q_t_order, .ref q_t_bags, .ref q_t_law, .ref q_t_going, .ref q_t_plan, z_t_search, z_t_tally], oB q_t_net 4 [.ref q_t_net_loads, .ref q_t_net_near, .ref q_t_net_ties, .int t_net_size, .int t_net_edges], aI cA q_t_net_near 14 t_net_near, oB q_t_bags 0 [.ref q_t_bags_masks, .ref q_t_bags_ups, .int t_bags_size], aI cA q_t_bags_masks 14 t_bags_masks, aI cA q_t_bags_ups 14 t_bags_ups] [(0, .ref q_t)] []
  refine g_aload_n C 0 0 dX8_canAsk_0 rfl rfl ?_
  obtain ⟨u1, hu1, hf⟩ := cal_some hf
  refine g_callV1 C 1 [0, 1, 2, 3, 4, 5] 0 (rest := []) dX8_canAsk_1 (c_X8_isSound (x_l X) cA q_t q_t_order q_t_law q_t_going q_t_plan z_t_search z_t_tally q_t_net q_t_net_loads q_t_net_ties t_net_size t_net_edges q_t_net_near t_net_near q_t_bags t_bags_size q_t_bags_masks t_bags_masks q_t_bags_ups t_bags_ups u1 hu1) kw_309 kw_310 kw_311 kw_6 kw_312 ok_X8_isSound ⟨Nat.le_of_ble_eq_true rfl, Nat.le_of_ble_eq_true rfl⟩ hk ⟨rfl, rfl⟩ rfl rfl rfl rfl rfl (Nat.le_of_ble_eq_true rfl) rfl (ws' := [oB q_t 8 [.ref q_t_net, .ref q_t_order, .ref q_t_bags, .ref q_t_law, .ref q_t_going, .ref q_t_plan, z_t_search, z_t_tally], oB q_t_net 4 [.ref q_t_net_loads, .ref q_t_net_near, .ref q_t_net_ties, .int t_net_size, .int t_net_edges], aI cA q_t_net_near 14 t_net_near, oB q_t_bags 0 [.ref q_t_bags_masks, .ref q_t_bags_ups, .int t_bags_size], aI cA q_t_bags_masks 14 t_bags_masks, aI cA q_t_bags_ups 14 t_bags_ups]) (st' := [.int u1]) (N0 := 6) rfl [some 0, some 1, some 2, some 3, some 4, some 5] (by decide) rfl rfl ?_
  refine g_if_eq C 4 24 dX8_canAsk_4 (by decide) hf (fun hf => ?_) (fun hf => ?_)
  · refine g_iconst C 24 (0 : Int32) dX8_canAsk_24 (by decide) ?_
    cases hf
    exact g_zret C 25 dX8_canAsk_25 (by decide) F hB
  · refine g_aload_n C 7 0 dX8_canAsk_7 rfl rfl ?_
    refine g_get C 8 0 2 dX8_canAsk_8 inX8 rfl rfl (by decide) kw_236 rfl ?_
    obtain ⟨u2, hu2, hf⟩ := cal_some hf
    refine g_callV1 C 11 [3, 4] 3 (rest := []) dX8_canAsk_11 (c_X0_mostKnots (x_l X) cA q_t_bags q_t_bags_ups t_bags_size q_t_bags_masks t_bags_masks u2 hu2) kw_273 kw_274 kw_275 kw_43 kw_276 ok_X0_mostKnots ⟨Nat.le_of_ble_eq_true rfl, Nat.le_of_ble_eq_true rfl⟩ hk ⟨rfl, rfl⟩ rfl rfl rfl rfl rfl (Nat.le_of_ble_eq_true rfl) rfl (ws' := [oB q_t 8 [.ref q_t_net, .ref q_t_order, .ref q_t_bags, .ref q_t_law, .ref q_t_going, .ref q_t_plan, z_t_search, z_t_tally], oB q_t_net 4 [.ref q_t_net_loads, .ref q_t_net_near, .ref q_t_net_ties, .int t_net_size, .int t_net_edges], aI cA q_t_net_near 14 t_net_near, oB q_t_bags 0 [.ref q_t_bags_masks, .ref q_t_bags_ups, .int t_bags_size], aI cA q_t_bags_masks 14 t_bags_masks, aI cA q_t_bags_ups 14 t_bags_ups]) (st' := [.int u2]) (N0 := 6) rfl [none, none, none, some 0, some 1, none] (by decide) rfl rfl ?_
    refine g_iconst C 14 (1 : Int32) dX8_canAsk_14 (by decide) ?_
    refine g_isub C 15 dX8_canAsk_15 ?_
    refine g_iconst C 16 (4 : Int32) dX8_canAsk_16 (by decide) ?_
    refine g_icmp_gt C 17 24 dX8_canAsk_17 (by decide) hf (fun hf => ?_) (fun hf => ?_)
    · refine g_iconst C 24 (0 : Int32) dX8_canAsk_24 (by decide) ?_
      cases hf
      exact g_zret C 25 dX8_canAsk_25 (by decide) F hB
    · refine g_iconst C 20 (1 : Int32) dX8_canAsk_20 (by decide) ?_
      refine g_goto C 21 25 dX8_canAsk_21 (by decide) ?_
      cases hf
      exact g_zret C 25 dX8_canAsk_25 (by decide) F hB

def f_X8_count (a1 : Int32) (t_net_size : Int32) (t_net_edges : Int32) (t_net_near : Nat → Int32) (t_order_size : Int32) (t_bags_size : Int32) (t_bags_masks : Nat → Int32) (t_bags_ups : Nat → Int32) (t_law_size : Int32) : Option (Int32) :=
  if a1 = 0 then
    some (t_net_size)
  else
    if a1 = 1 then
      some (t_net_edges)
    else
      if a1 = 2 then
        some (t_order_size)
      else
        if a1 = 3 then
          some (t_bags_size)
        else
          if a1 = 4 then
            some (t_law_size)
          else
            if a1 = 5 then
              cal (f_X8_isSound t_net_size t_net_near t_bags_size t_bags_masks t_bags_ups) fun u7 =>
              if u7 = 0 then
                some ((0 : Int32))
              else
                some ((1 : Int32))
            else
              some ((-1 : Int32))

set_option maxRecDepth 100000 in
set_option maxHeartbeats 1000000 in
theorem c_X8_count (l : Launch) (cA : Nat → ClassId) (q_t : Nat) (q_t_going : Nat) (q_t_plan : Nat) (z_t_search : Value) (z_t_tally : Value) (q_t_net : Nat) (q_t_net_loads : Nat) (q_t_net_ties : Nat) (t_net_size : Int32) (t_net_edges : Int32) (q_t_net_near : Nat) (t_net_near : Nat → Int32) (q_t_order : Nat) (q_t_order_knots : Nat) (t_order_size : Int32) (t_order_held : Int32) (q_t_bags : Nat) (t_bags_size : Int32) (q_t_bags_masks : Nat) (t_bags_masks : Nat → Int32) (q_t_bags_ups : Nat) (t_bags_ups : Nat → Int32) (q_t_law : Nat) (t_law_size : Int32) (q_t_law_factors : Nat) (q_t_law_pairFactors : Nat) (q_t_law_barred : Nat) (q_t_law_forbidden : Nat)  (a1 : Int32) (r : Int32) (hf : f_X8_count a1 t_net_size t_net_edges t_net_near t_order_size t_bags_size t_bags_masks t_bags_ups t_law_size = some r) : MT l cA yX8_count cX8_count 2 (some .int) ({ frames := 5, cells := 0, slots := 0, locals := 110 } : Room) [.ref q_t, .int a1] [oB q_t 8 [.ref q_t_net, .ref q_t_order, .ref q_t_bags, .ref q_t_law, .ref q_t_going, .ref q_t_plan, z_t_search, z_t_tally], oB q_t_net 4 [.ref q_t_net_loads, .ref q_t_net_near, .ref q_t_net_ties, .int t_net_size, .int t_net_edges], aI cA q_t_net_near 14 t_net_near, oB q_t_order 2 [.ref q_t_order_knots, .int t_order_size, .int t_order_held], oB q_t_bags 0 [.ref q_t_bags_masks, .ref q_t_bags_ups, .int t_bags_size], aI cA q_t_bags_masks 14 t_bags_masks, aI cA q_t_bags_ups 14 t_bags_ups, oB q_t_law 3 [.int t_law_size, .ref q_t_law_factors, .ref q_t_law_pairFactors, .ref q_t_law_barred, .ref q_t_law_forbidden]] (sB (some (.int r)) [oB q_t 8 [.ref q_t_net, .ref q_t_order, .ref q_t_bags, .ref q_t_law, .ref q_t_going, .ref q_t_plan, z_t_search, z_t_tally], oB q_t_net 4 [.ref q_t_net_loads, .ref q_t_net_near, .ref q_t_net_ties, .int t_net_size, .int t_net_edges], aI cA q_t_net_near 14 t_net_near, oB q_t_order 2 [.ref q_t_order_knots, .int t_order_size, .int t_order_held], oB q_t_bags 0 [.ref q_t_bags_masks, .ref q_t_bags_ups, .int t_bags_size], aI cA q_t_bags_masks 14 t_bags_masks, aI cA q_t_bags_ups 14 t_bags_ups, oB q_t_law 3 [.int t_law_size, .ref q_t_law_factors, .ref q_t_law_pairFactors, .ref q_t_law_barred, .ref q_t_law_forbidden]]) := by
  refine MT.of (by decide) (Nat.le_of_ble_eq_true rfl) ?_
  intro X hXl C F hnm hrc hrs
  subst hXl
  have hk : 0 ≤ (x_R X).cells ∧ 0 ≤ (x_R X).slots := ⟨Nat.zero_le _, Nat.zero_le _⟩
  have hB : (sB (some (.int r)) [oB q_t 8 [.ref q_t_net, .ref q_t_order, .ref q_t_bags, .ref q_t_law, .ref q_t_going, .ref q_t_plan, z_t_search, z_t_tally], oB q_t_net 4 [.ref q_t_net_loads, .ref q_t_net_near, .ref q_t_net_ties, .int t_net_size, .int t_net_edges], aI cA q_t_net_near 14 t_net_near, oB q_t_order 2 [.ref q_t_order_knots, .int t_order_size, .int t_order_held], oB q_t_bags 0 [.ref q_t_bags_masks, .ref q_t_bags_ups, .int t_bags_size], aI cA q_t_bags_masks 14 t_bags_masks, aI cA q_t_bags_ups 14 t_bags_ups, oB q_t_law 3 [.int t_law_size, .ref q_t_law_factors, .ref q_t_law_pairFactors, .ref q_t_law_barred, .ref q_t_law_forbidden]]) (some (.int r)) [oB q_t 8 [.ref q_t_net, .ref q_t_order, .ref q_t_bags, .ref q_t_law, .ref q_t_going, .ref q_t_plan, z_t_search, z_t_tally], oB q_t_net 4 [.ref q_t_net_loads, .ref q_t_net_near, .ref q_t_net_ties, .int t_net_size, .int t_net_edges], aI cA q_t_net_near 14 t_net_near, oB q_t_order 2 [.ref q_t_order_knots, .int t_order_size, .int t_order_held], oB q_t_bags 0 [.ref q_t_bags_masks, .ref q_t_bags_ups, .int t_bags_size], aI cA q_t_bags_masks 14 t_bags_masks, aI cA q_t_bags_ups 14 t_bags_ups, oB q_t_law 3 [.int t_law_size, .ref q_t_law_factors, .ref q_t_law_pairFactors, .ref q_t_law_barred, .ref q_t_law_forbidden]] := ⟨rfl, rfl⟩
  unfold f_X8_count at hf
  have C : Cx X cX8_count RX8 (some .int) cA 5 110 2 := C
  show Go X 2 0 0 0 [oB q_t 8 [.ref q_t_net, .ref q_t_order, .ref q_t_bags, .ref q_t_law, .ref q_t_going, .ref q_t_plan, z_t_search, z_t_tally], oB q_t_net 4 [.ref q_t_net_loads, .ref q_t_net_near, .ref q_t_net_ties, .int t_net_size, .int t_net_edges], aI cA q_t_net_near 14 t_net_near, oB q_t_order 2 [.ref q_t_order_knots, .int t_order_size, .int t_order_held], oB q_t_bags 0 [.ref q_t_bags_masks, .ref q_t_bags_ups, .int t_bags_size], aI cA q_t_bags_masks 14 t_bags_masks, aI cA q_t_bags_ups 14 t_bags_ups, oB q_t_law 3 [.int t_law_size, .ref q_t_law_factors, .ref q_t_law_pairFactors, .ref q_t_law_barred, .ref q_t_law_forbidden]] [(0, .ref q_t), (1, .int a1)] []
  refine g_iload_n C 0 1 dX8_count_0 rfl rfl ?_
  rcases ite_or hf with ⟨hx1, hf⟩ | ⟨hx1, hf⟩
  · refine g_tsw C 1 40 dX8_count_1 hx1 (by decide) (by decide) rfl (by decide) ?_
    refine g_aload_n C 40 0 dX8_count_40 rfl rfl ?_
    refine g_get C 41 0 0 dX8_count_41 inX8 rfl rfl (by decide) kw_229 rfl ?_
    refine g_get C 44 1 3 dX8_count_44 inX4 rfl rfl (by decide) kw_230 rfl ?_
    cases hf
    exact g_iret C 47 dX8_count_47 F hB
  · skip
    rcases ite_or hf with ⟨hx2, hf⟩ | ⟨hx2, hf⟩
    · refine g_tsw C 1 48 dX8_count_1 hx2 (by decide) (by decide) rfl (by decide) ?_
      refine g_aload_n C 48 0 dX8_count_48 rfl rfl ?_
      refine g_get C 49 0 0 dX8_count_49 inX8 rfl rfl (by decide) kw_229 rfl ?_
      refine g_get C 52 1 4 dX8_count_52 inX4 rfl rfl (by decide) kw_338 rfl ?_
      cases hf
      exact g_iret C 55 dX8_count_55 F hB
    · skip
      rcases ite_or hf with ⟨hx3, hf⟩ | ⟨hx3, hf⟩
      · refine g_tsw C 1 56 dX8_count_1 hx3 (by decide) (by decide) rfl (by decide) ?_
        refine g_aload_n C 56 0 dX8_count_56 rfl rfl ?_
        refine g_get C 57 0 1 dX8_count_57 inX8 rfl rfl (by decide) kw_231 rfl ?_
        refine g_get C 60 3 1 dX8_count_60 inX2 rfl rfl (by decide) kw_266 rfl ?_
        cases hf
        exact g_iret C 63 dX8_count_63 F hB
      · skip
        rcases ite_or hf with ⟨hx4, hf⟩ | ⟨hx4, hf⟩
        · refine g_tsw C 1 64 dX8_count_1 hx4 (by decide) (by decide) rfl (by decide) ?_
          refine g_aload_n C 64 0 dX8_count_64 rfl rfl ?_
          refine g_get C 65 0 2 dX8_count_65 inX8 rfl rfl (by decide) kw_236 rfl ?_
          refine g_get C 68 4 2 dX8_count_68 inX0 rfl rfl (by decide) kw_292 rfl ?_
          cases hf
          exact g_iret C 71 dX8_count_71 F hB
        · skip
          rcases ite_or hf with ⟨hx5, hf⟩ | ⟨hx5, hf⟩
          · refine g_tsw C 1 72 dX8_count_1 hx5 (by decide) (by decide) rfl (by decide) ?_
            refine g_aload_n C 72 0 dX8_count_72 rfl rfl ?_
            refine g_get C 73 0 3 dX8_count_73 inX8 rfl rfl (by decide) kw_317 rfl ?_
            refine g_get C 76 7 0 dX8_count_76 inX3 rfl rfl (by decide) kw_318 rfl ?_
            cases hf
            exact g_iret C 79 dX8_count_79 F hB
          · skip
            rcases ite_or hf with ⟨hx6, hf⟩ | ⟨hx6, hf⟩
            · refine g_tsw C 1 80 dX8_count_1 hx6 (by decide) (by decide) rfl (by decide) ?_
              refine g_aload_n C 80 0 dX8_count_80 rfl rfl ?_
              obtain ⟨u7, hu7, hf⟩ := cal_some hf
              refine g_callV1 C 81 [0, 1, 2, 4, 5, 6] 0 (rest := []) dX8_count_81 (c_X8_isSound (x_l X) cA q_t q_t_order q_t_law q_t_going q_t_plan z_t_search z_t_tally q_t_net q_t_net_loads q_t_net_ties t_net_size t_net_edges q_t_net_near t_net_near q_t_bags t_bags_size q_t_bags_masks t_bags_masks q_t_bags_ups t_bags_ups u7 hu7) kw_309 kw_310 kw_311 kw_6 kw_312 ok_X8_isSound ⟨Nat.le_of_ble_eq_true rfl, Nat.le_of_ble_eq_true rfl⟩ hk ⟨rfl, rfl⟩ rfl rfl rfl rfl rfl (Nat.le_of_ble_eq_true rfl) rfl (ws' := [oB q_t 8 [.ref q_t_net, .ref q_t_order, .ref q_t_bags, .ref q_t_law, .ref q_t_going, .ref q_t_plan, z_t_search, z_t_tally], oB q_t_net 4 [.ref q_t_net_loads, .ref q_t_net_near, .ref q_t_net_ties, .int t_net_size, .int t_net_edges], aI cA q_t_net_near 14 t_net_near, oB q_t_order 2 [.ref q_t_order_knots, .int t_order_size, .int t_order_held], oB q_t_bags 0 [.ref q_t_bags_masks, .ref q_t_bags_ups, .int t_bags_size], aI cA q_t_bags_masks 14 t_bags_masks, aI cA q_t_bags_ups 14 t_bags_ups, oB q_t_law 3 [.int t_law_size, .ref q_t_law_factors, .ref q_t_law_pairFactors, .ref q_t_law_barred, .ref q_t_law_forbidden]]) (st' := [.int u7]) (N0 := 8) rfl [some 0, some 1, some 2, none, some 3, some 4, some 5, none] (by decide) rfl rfl ?_
              refine g_if_eq C 84 91 dX8_count_84 (by decide) hf (fun hf => ?_) (fun hf => ?_)
              · refine g_iconst C 91 (0 : Int32) dX8_count_91 (by decide) ?_
                cases hf
                exact g_iret C 92 dX8_count_92 F hB
              · refine g_iconst C 87 (1 : Int32) dX8_count_87 (by decide) ?_
                refine g_goto C 88 92 dX8_count_88 (by decide) ?_
                cases hf
                exact g_iret C 92 dX8_count_92 F hB
            · refine g_tswO C 1 93 dX8_count_1 (tsw_out6 hx1 hx2 hx3 hx4 hx5 hx6) (by decide) ?_
              refine g_iconst C 93 (-1 : Int32) dX8_count_93 (by decide) ?_
              cases hf
              exact g_iret C 94 dX8_count_94 F hB
