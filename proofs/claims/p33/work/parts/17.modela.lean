theorem dX9_isKnot_0 : decode cX9_isKnot 0 = .ok (.iload_n 1, 1) := by decide +kernel
theorem dX9_isKnot_1 : decode cX9_isKnot 1 = .ok (.ifCond .lt 15, 3) := by decide +kernel
theorem dX9_isKnot_4 : decode cX9_isKnot 4 = .ok (.iload_n 1, 1) := by decide +kernel
theorem dX9_isKnot_5 : decode cX9_isKnot 5 = .ok (.aload_n 0, 1) := by decide +kernel
theorem dX9_isKnot_6 : decode cX9_isKnot 6 = .ok (.getfield 7, 3) := by decide +kernel
theorem dX9_isKnot_9 : decode cX9_isKnot 9 = .ok (.if_icmp .ge 7, 3) := by decide +kernel
theorem dX9_isKnot_12 : decode cX9_isKnot 12 = .ok (.iconst 1, 1) := by decide +kernel
theorem dX9_isKnot_13 : decode cX9_isKnot 13 = .ok (.goto 4, 3) := by decide +kernel
theorem dX9_isKnot_16 : decode cX9_isKnot 16 = .ok (.iconst 0, 1) := by decide +kernel
theorem dX9_isKnot_17 : decode cX9_isKnot 17 = .ok (.ireturn, 1) := by decide +kernel
theorem dX9_isWeight_0 : decode cX9_isWeight 0 = .ok (.iload_n 1, 1) := by decide +kernel
theorem dX9_isWeight_1 : decode cX9_isWeight 1 = .ok (.ifCond .lt 14, 3) := by decide +kernel
theorem dX9_isWeight_4 : decode cX9_isWeight 4 = .ok (.iload_n 1, 1) := by decide +kernel
theorem dX9_isWeight_5 : decode cX9_isWeight 5 = .ok (.sipush 1000, 3) := by decide +kernel
theorem dX9_isWeight_8 : decode cX9_isWeight 8 = .ok (.if_icmp .gt 7, 3) := by decide +kernel
theorem dX9_isWeight_11 : decode cX9_isWeight 11 = .ok (.iconst 1, 1) := by decide +kernel
theorem dX9_isWeight_12 : decode cX9_isWeight 12 = .ok (.goto 4, 3) := by decide +kernel
theorem dX9_isWeight_15 : decode cX9_isWeight 15 = .ok (.iconst 0, 1) := by decide +kernel
theorem dX9_isWeight_16 : decode cX9_isWeight 16 = .ok (.ireturn, 1) := by decide +kernel
theorem dX9_all_0 : decode cX9_all 0 = .ok (.iconst 1, 1) := by decide +kernel
theorem dX9_all_1 : decode cX9_all 1 = .ok (.aload_n 0, 1) := by decide +kernel
theorem dX9_all_2 : decode cX9_all 2 = .ok (.getfield 7, 3) := by decide +kernel
theorem dX9_all_5 : decode cX9_all 5 = .ok (.ishl, 1) := by decide +kernel
theorem dX9_all_6 : decode cX9_all 6 = .ok (.iconst 1, 1) := by decide +kernel
theorem dX9_all_7 : decode cX9_all 7 = .ok (.isub, 1) := by decide +kernel
theorem dX9_all_8 : decode cX9_all 8 = .ok (.ireturn, 1) := by decide +kernel
theorem dX9_bits_0 : decode cX9_bits 0 = .ok (.iconst 0, 1) := by decide +kernel
theorem dX9_bits_1 : decode cX9_bits 1 = .ok (.istore_n 2, 1) := by decide +kernel
theorem dX9_bits_2 : decode cX9_bits 2 = .ok (.iload_n 1, 1) := by decide +kernel
theorem dX9_bits_3 : decode cX9_bits 3 = .ok (.istore_n 3, 1) := by decide +kernel
theorem dX9_bits_4 : decode cX9_bits 4 = .ok (.iload_n 3, 1) := by decide +kernel
theorem dX9_bits_5 : decode cX9_bits 5 = .ok (.ifCond .eq 15, 3) := by decide +kernel
theorem dX9_bits_8 : decode cX9_bits 8 = .ok (.iinc 2 1, 3) := by decide +kernel
theorem dX9_bits_11 : decode cX9_bits 11 = .ok (.iload_n 3, 1) := by decide +kernel
theorem dX9_bits_12 : decode cX9_bits 12 = .ok (.iload_n 3, 1) := by decide +kernel
theorem dX9_bits_13 : decode cX9_bits 13 = .ok (.iconst 1, 1) := by decide +kernel
theorem dX9_bits_14 : decode cX9_bits 14 = .ok (.isub, 1) := by decide +kernel
theorem dX9_bits_15 : decode cX9_bits 15 = .ok (.iand, 1) := by decide +kernel
theorem dX9_bits_16 : decode cX9_bits 16 = .ok (.istore_n 3, 1) := by decide +kernel
theorem dX9_bits_17 : decode cX9_bits 17 = .ok (.goto (-13), 3) := by decide +kernel
theorem dX9_bits_20 : decode cX9_bits 20 = .ok (.iload_n 2, 1) := by decide +kernel
theorem dX9_bits_21 : decode cX9_bits 21 = .ok (.ireturn, 1) := by decide +kernel
theorem dX9_knot_0 : decode cX9_knot 0 = .ok (.aload_n 0, 1) := by decide +kernel
theorem dX9_knot_1 : decode cX9_knot 1 = .ok (.iload_n 1, 1) := by decide +kernel
theorem dX9_knot_2 : decode cX9_knot 2 = .ok (.invokevirtual 83, 3) := by decide +kernel
theorem dX9_knot_5 : decode cX9_knot 5 = .ok (.ifCond .ne 6, 3) := by decide +kernel
theorem dX9_knot_8 : decode cX9_knot 8 = .ok (.bipush (-2), 2) := by decide +kernel
theorem dX9_knot_10 : decode cX9_knot 10 = .ok (.ireturn, 1) := by decide +kernel
theorem dX9_knot_11 : decode cX9_knot 11 = .ok (.aload_n 0, 1) := by decide +kernel
theorem dX9_knot_12 : decode cX9_knot 12 = .ok (.getfield 7, 3) := by decide +kernel
theorem dX9_knot_15 : decode cX9_knot 15 = .ok (.bipush 14, 2) := by decide +kernel
theorem dX9_knot_17 : decode cX9_knot 17 = .ok (.if_icmp .ne 6, 3) := by decide +kernel
theorem dX9_knot_20 : decode cX9_knot 20 = .ok (.bipush (-3), 2) := by decide +kernel
theorem dX9_knot_22 : decode cX9_knot 22 = .ok (.ireturn, 1) := by decide +kernel
theorem dX9_knot_23 : decode cX9_knot 23 = .ok (.aload_n 0, 1) := by decide +kernel
theorem dX9_knot_24 : decode cX9_knot 24 = .ok (.getfield 13, 3) := by decide +kernel
theorem dX9_knot_27 : decode cX9_knot 27 = .ok (.aload_n 0, 1) := by decide +kernel
theorem dX9_knot_28 : decode cX9_knot 28 = .ok (.getfield 7, 3) := by decide +kernel
theorem dX9_knot_31 : decode cX9_knot 31 = .ok (.iload_n 1, 1) := by decide +kernel
theorem dX9_knot_32 : decode cX9_knot 32 = .ok (.iastore, 1) := by decide +kernel
theorem dX9_knot_33 : decode cX9_knot 33 = .ok (.aload_n 0, 1) := by decide +kernel
theorem dX9_knot_34 : decode cX9_knot 34 = .ok (.getfield 17, 3) := by decide +kernel
theorem dX9_knot_37 : decode cX9_knot 37 = .ok (.aload_n 0, 1) := by decide +kernel
theorem dX9_knot_38 : decode cX9_knot 38 = .ok (.getfield 7, 3) := by decide +kernel
theorem dX9_knot_41 : decode cX9_knot 41 = .ok (.iconst 0, 1) := by decide +kernel
theorem dX9_knot_42 : decode cX9_knot 42 = .ok (.iastore, 1) := by decide +kernel
theorem dX9_knot_43 : decode cX9_knot 43 = .ok (.aload_n 0, 1) := by decide +kernel
theorem dX9_knot_44 : decode cX9_knot 44 = .ok (.dup, 1) := by decide +kernel
theorem dX9_knot_45 : decode cX9_knot 45 = .ok (.getfield 7, 3) := by decide +kernel
theorem dX9_knot_48 : decode cX9_knot 48 = .ok (.iconst 1, 1) := by decide +kernel
theorem dX9_knot_49 : decode cX9_knot 49 = .ok (.iadd, 1) := by decide +kernel
theorem dX9_knot_50 : decode cX9_knot 50 = .ok (.putfield 7, 3) := by decide +kernel
theorem dX9_knot_53 : decode cX9_knot 53 = .ok (.aload_n 0, 1) := by decide +kernel
theorem dX9_knot_54 : decode cX9_knot 54 = .ok (.iconst 0, 1) := by decide +kernel
theorem dX9_knot_55 : decode cX9_knot 55 = .ok (.putfield 23, 3) := by decide +kernel
theorem dX9_knot_58 : decode cX9_knot 58 = .ok (.aload_n 0, 1) := by decide +kernel
theorem dX9_knot_59 : decode cX9_knot 59 = .ok (.iconst 0, 1) := by decide +kernel
theorem dX9_knot_60 : decode cX9_knot 60 = .ok (.putfield 29, 3) := by decide +kernel
theorem dX9_knot_63 : decode cX9_knot 63 = .ok (.aload_n 0, 1) := by decide +kernel
theorem dX9_knot_64 : decode cX9_knot 64 = .ok (.getfield 7, 3) := by decide +kernel
theorem dX9_knot_67 : decode cX9_knot 67 = .ok (.iconst 1, 1) := by decide +kernel
theorem dX9_knot_68 : decode cX9_knot 68 = .ok (.isub, 1) := by decide +kernel
theorem dX9_knot_69 : decode cX9_knot 69 = .ok (.ireturn, 1) := by decide +kernel
theorem dX9_edge_0 : decode cX9_edge 0 = .ok (.aload_n 0, 1) := by decide +kernel
theorem dX9_edge_1 : decode cX9_edge 1 = .ok (.iload_n 1, 1) := by decide +kernel
theorem dX9_edge_2 : decode cX9_edge 2 = .ok (.invokevirtual 87, 3) := by decide +kernel
theorem dX9_edge_5 : decode cX9_edge 5 = .ok (.ifCond .eq 11, 3) := by decide +kernel
theorem dX9_edge_8 : decode cX9_edge 8 = .ok (.aload_n 0, 1) := by decide +kernel
theorem dX9_edge_9 : decode cX9_edge 9 = .ok (.iload_n 2, 1) := by decide +kernel
theorem dX9_edge_10 : decode cX9_edge 10 = .ok (.invokevirtual 87, 3) := by decide +kernel
theorem dX9_edge_13 : decode cX9_edge 13 = .ok (.ifCond .ne 5, 3) := by decide +kernel
theorem dX9_edge_16 : decode cX9_edge 16 = .ok (.iconst (-1), 1) := by decide +kernel
theorem dX9_edge_17 : decode cX9_edge 17 = .ok (.ireturn, 1) := by decide +kernel
theorem dX9_edge_18 : decode cX9_edge 18 = .ok (.iload_n 1, 1) := by decide +kernel
theorem dX9_edge_19 : decode cX9_edge 19 = .ok (.iload_n 2, 1) := by decide +kernel
theorem dX9_edge_20 : decode cX9_edge 20 = .ok (.if_icmp .eq 11, 3) := by decide +kernel
theorem dX9_edge_23 : decode cX9_edge 23 = .ok (.aload_n 0, 1) := by decide +kernel
theorem dX9_edge_24 : decode cX9_edge 24 = .ok (.iload_n 3, 1) := by decide +kernel
theorem dX9_edge_25 : decode cX9_edge 25 = .ok (.invokevirtual 83, 3) := by decide +kernel
theorem dX9_edge_28 : decode cX9_edge 28 = .ok (.ifCond .ne 6, 3) := by decide +kernel
theorem dX9_edge_31 : decode cX9_edge 31 = .ok (.bipush (-2), 2) := by decide +kernel
theorem dX9_edge_33 : decode cX9_edge 33 = .ok (.ireturn, 1) := by decide +kernel
theorem dX9_edge_34 : decode cX9_edge 34 = .ok (.aload_n 0, 1) := by decide +kernel
theorem dX9_edge_35 : decode cX9_edge 35 = .ok (.getfield 17, 3) := by decide +kernel
theorem dX9_edge_38 : decode cX9_edge 38 = .ok (.iload_n 1, 1) := by decide +kernel
theorem dX9_edge_39 : decode cX9_edge 39 = .ok (.iaload, 1) := by decide +kernel
theorem dX9_edge_40 : decode cX9_edge 40 = .ok (.iload_n 2, 1) := by decide +kernel
theorem dX9_edge_41 : decode cX9_edge 41 = .ok (.ishr, 1) := by decide +kernel
theorem dX9_edge_42 : decode cX9_edge 42 = .ok (.iconst 1, 1) := by decide +kernel
theorem dX9_edge_43 : decode cX9_edge 43 = .ok (.iand, 1) := by decide +kernel
theorem dX9_edge_44 : decode cX9_edge 44 = .ok (.istore 4, 2) := by decide +kernel
theorem dX9_edge_46 : decode cX9_edge 46 = .ok (.aload_n 0, 1) := by decide +kernel
theorem dX9_edge_47 : decode cX9_edge 47 = .ok (.getfield 17, 3) := by decide +kernel
theorem dX9_edge_50 : decode cX9_edge 50 = .ok (.iload_n 1, 1) := by decide +kernel
theorem dX9_edge_51 : decode cX9_edge 51 = .ok (.dup2, 1) := by decide +kernel
theorem dX9_edge_52 : decode cX9_edge 52 = .ok (.iaload, 1) := by decide +kernel
theorem dX9_edge_53 : decode cX9_edge 53 = .ok (.iconst 1, 1) := by decide +kernel
theorem dX9_edge_54 : decode cX9_edge 54 = .ok (.iload_n 2, 1) := by decide +kernel
theorem dX9_edge_55 : decode cX9_edge 55 = .ok (.ishl, 1) := by decide +kernel
theorem dX9_edge_56 : decode cX9_edge 56 = .ok (.ior, 1) := by decide +kernel
theorem dX9_edge_57 : decode cX9_edge 57 = .ok (.iastore, 1) := by decide +kernel
theorem dX9_edge_58 : decode cX9_edge 58 = .ok (.aload_n 0, 1) := by decide +kernel
theorem dX9_edge_59 : decode cX9_edge 59 = .ok (.getfield 17, 3) := by decide +kernel
theorem dX9_edge_62 : decode cX9_edge 62 = .ok (.iload_n 2, 1) := by decide +kernel
theorem dX9_edge_63 : decode cX9_edge 63 = .ok (.dup2, 1) := by decide +kernel
theorem dX9_edge_64 : decode cX9_edge 64 = .ok (.iaload, 1) := by decide +kernel
theorem dX9_edge_65 : decode cX9_edge 65 = .ok (.iconst 1, 1) := by decide +kernel
theorem dX9_edge_66 : decode cX9_edge 66 = .ok (.iload_n 1, 1) := by decide +kernel
theorem dX9_edge_67 : decode cX9_edge 67 = .ok (.ishl, 1) := by decide +kernel
theorem dX9_edge_68 : decode cX9_edge 68 = .ok (.ior, 1) := by decide +kernel
theorem dX9_edge_69 : decode cX9_edge 69 = .ok (.iastore, 1) := by decide +kernel
theorem dX9_edge_70 : decode cX9_edge 70 = .ok (.aload_n 0, 1) := by decide +kernel
theorem dX9_edge_71 : decode cX9_edge 71 = .ok (.getfield 20, 3) := by decide +kernel
theorem dX9_edge_74 : decode cX9_edge 74 = .ok (.bipush 14, 2) := by decide +kernel
theorem dX9_edge_76 : decode cX9_edge 76 = .ok (.iload_n 1, 1) := by decide +kernel
theorem dX9_edge_77 : decode cX9_edge 77 = .ok (.imul, 1) := by decide +kernel
theorem dX9_edge_78 : decode cX9_edge 78 = .ok (.iload_n 2, 1) := by decide +kernel
theorem dX9_edge_79 : decode cX9_edge 79 = .ok (.iadd, 1) := by decide +kernel
theorem dX9_edge_80 : decode cX9_edge 80 = .ok (.iload_n 3, 1) := by decide +kernel
theorem dX9_edge_81 : decode cX9_edge 81 = .ok (.iastore, 1) := by decide +kernel
theorem dX9_edge_82 : decode cX9_edge 82 = .ok (.aload_n 0, 1) := by decide +kernel
theorem dX9_edge_83 : decode cX9_edge 83 = .ok (.getfield 20, 3) := by decide +kernel
theorem dX9_edge_86 : decode cX9_edge 86 = .ok (.bipush 14, 2) := by decide +kernel
theorem dX9_edge_88 : decode cX9_edge 88 = .ok (.iload_n 2, 1) := by decide +kernel
theorem dX9_edge_89 : decode cX9_edge 89 = .ok (.imul, 1) := by decide +kernel
theorem dX9_edge_90 : decode cX9_edge 90 = .ok (.iload_n 1, 1) := by decide +kernel
theorem dX9_edge_91 : decode cX9_edge 91 = .ok (.iadd, 1) := by decide +kernel
theorem dX9_edge_92 : decode cX9_edge 92 = .ok (.iload_n 3, 1) := by decide +kernel
theorem dX9_edge_93 : decode cX9_edge 93 = .ok (.iastore, 1) := by decide +kernel
theorem dX9_edge_94 : decode cX9_edge 94 = .ok (.iconst 1, 1) := by decide +kernel
theorem dX9_edge_95 : decode cX9_edge 95 = .ok (.iload 4, 2) := by decide +kernel
theorem dX9_edge_97 : decode cX9_edge 97 = .ok (.isub, 1) := by decide +kernel
theorem dX9_edge_98 : decode cX9_edge 98 = .ok (.ireturn, 1) := by decide +kernel
theorem dX9_isEdge_0 : decode cX9_isEdge 0 = .ok (.aload_n 0, 1) := by decide +kernel
theorem dX9_isEdge_1 : decode cX9_isEdge 1 = .ok (.iload_n 1, 1) := by decide +kernel
theorem dX9_isEdge_2 : decode cX9_isEdge 2 = .ok (.invokevirtual 87, 3) := by decide +kernel
theorem dX9_isEdge_5 : decode cX9_isEdge 5 = .ok (.ifCond .eq 29, 3) := by decide +kernel
theorem dX9_isEdge_8 : decode cX9_isEdge 8 = .ok (.aload_n 0, 1) := by decide +kernel
theorem dX9_isEdge_9 : decode cX9_isEdge 9 = .ok (.iload_n 2, 1) := by decide +kernel
theorem dX9_isEdge_10 : decode cX9_isEdge 10 = .ok (.invokevirtual 87, 3) := by decide +kernel
theorem dX9_isEdge_13 : decode cX9_isEdge 13 = .ok (.ifCond .eq 21, 3) := by decide +kernel
theorem dX9_isEdge_16 : decode cX9_isEdge 16 = .ok (.aload_n 0, 1) := by decide +kernel
theorem dX9_isEdge_17 : decode cX9_isEdge 17 = .ok (.getfield 17, 3) := by decide +kernel
theorem dX9_isEdge_20 : decode cX9_isEdge 20 = .ok (.iload_n 1, 1) := by decide +kernel
theorem dX9_isEdge_21 : decode cX9_isEdge 21 = .ok (.iaload, 1) := by decide +kernel
theorem dX9_isEdge_22 : decode cX9_isEdge 22 = .ok (.iload_n 2, 1) := by decide +kernel
theorem dX9_isEdge_23 : decode cX9_isEdge 23 = .ok (.ishr, 1) := by decide +kernel
theorem dX9_isEdge_24 : decode cX9_isEdge 24 = .ok (.iconst 1, 1) := by decide +kernel
theorem dX9_isEdge_25 : decode cX9_isEdge 25 = .ok (.iand, 1) := by decide +kernel
theorem dX9_isEdge_26 : decode cX9_isEdge 26 = .ok (.iconst 1, 1) := by decide +kernel
theorem dX9_isEdge_27 : decode cX9_isEdge 27 = .ok (.if_icmp .ne 7, 3) := by decide +kernel
theorem dX9_isEdge_30 : decode cX9_isEdge 30 = .ok (.iconst 1, 1) := by decide +kernel
theorem dX9_isEdge_31 : decode cX9_isEdge 31 = .ok (.goto 4, 3) := by decide +kernel
theorem dX9_isEdge_34 : decode cX9_isEdge 34 = .ok (.iconst 0, 1) := by decide +kernel
theorem dX9_isEdge_35 : decode cX9_isEdge 35 = .ok (.ireturn, 1) := by decide +kernel
theorem dX9_cut_0 : decode cX9_cut 0 = .ok (.aload_n 0, 1) := by decide +kernel
theorem dX9_cut_1 : decode cX9_cut 1 = .ok (.iload_n 1, 1) := by decide +kernel
theorem dX9_cut_2 : decode cX9_cut 2 = .ok (.iload_n 2, 1) := by decide +kernel
theorem dX9_cut_3 : decode cX9_cut 3 = .ok (.invokevirtual 90, 3) := by decide +kernel
theorem dX9_cut_6 : decode cX9_cut 6 = .ok (.ifCond .ne 5, 3) := by decide +kernel
theorem dX9_cut_9 : decode cX9_cut 9 = .ok (.iconst (-1), 1) := by decide +kernel
theorem dX9_cut_10 : decode cX9_cut 10 = .ok (.ireturn, 1) := by decide +kernel
theorem dX9_cut_11 : decode cX9_cut 11 = .ok (.aload_n 0, 1) := by decide +kernel
theorem dX9_cut_12 : decode cX9_cut 12 = .ok (.getfield 17, 3) := by decide +kernel
theorem dX9_cut_15 : decode cX9_cut 15 = .ok (.iload_n 1, 1) := by decide +kernel
theorem dX9_cut_16 : decode cX9_cut 16 = .ok (.dup2, 1) := by decide +kernel
theorem dX9_cut_17 : decode cX9_cut 17 = .ok (.iaload, 1) := by decide +kernel
theorem dX9_cut_18 : decode cX9_cut 18 = .ok (.iconst 1, 1) := by decide +kernel
theorem dX9_cut_19 : decode cX9_cut 19 = .ok (.iload_n 2, 1) := by decide +kernel
theorem dX9_cut_20 : decode cX9_cut 20 = .ok (.ishl, 1) := by decide +kernel
theorem dX9_cut_21 : decode cX9_cut 21 = .ok (.iconst (-1), 1) := by decide +kernel
theorem dX9_cut_22 : decode cX9_cut 22 = .ok (.ixor, 1) := by decide +kernel
theorem dX9_cut_23 : decode cX9_cut 23 = .ok (.iand, 1) := by decide +kernel
theorem dX9_cut_24 : decode cX9_cut 24 = .ok (.iastore, 1) := by decide +kernel
theorem dX9_cut_25 : decode cX9_cut 25 = .ok (.aload_n 0, 1) := by decide +kernel
theorem dX9_cut_26 : decode cX9_cut 26 = .ok (.getfield 17, 3) := by decide +kernel
theorem dX9_cut_29 : decode cX9_cut 29 = .ok (.iload_n 2, 1) := by decide +kernel
theorem dX9_cut_30 : decode cX9_cut 30 = .ok (.dup2, 1) := by decide +kernel
theorem dX9_cut_31 : decode cX9_cut 31 = .ok (.iaload, 1) := by decide +kernel
theorem dX9_cut_32 : decode cX9_cut 32 = .ok (.iconst 1, 1) := by decide +kernel
theorem dX9_cut_33 : decode cX9_cut 33 = .ok (.iload_n 1, 1) := by decide +kernel
theorem dX9_cut_34 : decode cX9_cut 34 = .ok (.ishl, 1) := by decide +kernel
theorem dX9_cut_35 : decode cX9_cut 35 = .ok (.iconst (-1), 1) := by decide +kernel
theorem dX9_cut_36 : decode cX9_cut 36 = .ok (.ixor, 1) := by decide +kernel
theorem dX9_cut_37 : decode cX9_cut 37 = .ok (.iand, 1) := by decide +kernel
theorem dX9_cut_38 : decode cX9_cut 38 = .ok (.iastore, 1) := by decide +kernel
theorem dX9_cut_39 : decode cX9_cut 39 = .ok (.aload_n 0, 1) := by decide +kernel
theorem dX9_cut_40 : decode cX9_cut 40 = .ok (.getfield 20, 3) := by decide +kernel
theorem dX9_cut_43 : decode cX9_cut 43 = .ok (.bipush 14, 2) := by decide +kernel
theorem dX9_cut_45 : decode cX9_cut 45 = .ok (.iload_n 1, 1) := by decide +kernel
theorem dX9_cut_46 : decode cX9_cut 46 = .ok (.imul, 1) := by decide +kernel
theorem dX9_cut_47 : decode cX9_cut 47 = .ok (.iload_n 2, 1) := by decide +kernel
theorem dX9_cut_48 : decode cX9_cut 48 = .ok (.iadd, 1) := by decide +kernel
theorem dX9_cut_49 : decode cX9_cut 49 = .ok (.iaload, 1) := by decide +kernel
theorem dX9_cut_50 : decode cX9_cut 50 = .ok (.ireturn, 1) := by decide +kernel
theorem dX9_weigh_0 : decode cX9_weigh 0 = .ok (.aload_n 0, 1) := by decide +kernel
theorem dX9_weigh_1 : decode cX9_weigh 1 = .ok (.iload_n 1, 1) := by decide +kernel
theorem dX9_weigh_2 : decode cX9_weigh 2 = .ok (.invokevirtual 87, 3) := by decide +kernel
theorem dX9_weigh_5 : decode cX9_weigh 5 = .ok (.ifCond .ne 5, 3) := by decide +kernel
theorem dX9_weigh_8 : decode cX9_weigh 8 = .ok (.iconst (-1), 1) := by decide +kernel
theorem dX9_weigh_9 : decode cX9_weigh 9 = .ok (.ireturn, 1) := by decide +kernel
theorem dX9_weigh_10 : decode cX9_weigh 10 = .ok (.aload_n 0, 1) := by decide +kernel
theorem dX9_weigh_11 : decode cX9_weigh 11 = .ok (.iload_n 2, 1) := by decide +kernel
theorem dX9_weigh_12 : decode cX9_weigh 12 = .ok (.invokevirtual 83, 3) := by decide +kernel
theorem dX9_weigh_15 : decode cX9_weigh 15 = .ok (.ifCond .ne 6, 3) := by decide +kernel
theorem dX9_weigh_18 : decode cX9_weigh 18 = .ok (.bipush (-2), 2) := by decide +kernel
theorem dX9_weigh_20 : decode cX9_weigh 20 = .ok (.ireturn, 1) := by decide +kernel
theorem dX9_weigh_21 : decode cX9_weigh 21 = .ok (.aload_n 0, 1) := by decide +kernel
theorem dX9_weigh_22 : decode cX9_weigh 22 = .ok (.getfield 13, 3) := by decide +kernel
theorem dX9_weigh_25 : decode cX9_weigh 25 = .ok (.iload_n 1, 1) := by decide +kernel
theorem dX9_weigh_26 : decode cX9_weigh 26 = .ok (.iaload, 1) := by decide +kernel
theorem dX9_weigh_27 : decode cX9_weigh 27 = .ok (.istore_n 3, 1) := by decide +kernel
theorem dX9_weigh_28 : decode cX9_weigh 28 = .ok (.aload_n 0, 1) := by decide +kernel
theorem dX9_weigh_29 : decode cX9_weigh 29 = .ok (.getfield 13, 3) := by decide +kernel
theorem dX9_weigh_32 : decode cX9_weigh 32 = .ok (.iload_n 1, 1) := by decide +kernel
theorem dX9_weigh_33 : decode cX9_weigh 33 = .ok (.iload_n 2, 1) := by decide +kernel
theorem dX9_weigh_34 : decode cX9_weigh 34 = .ok (.iastore, 1) := by decide +kernel
theorem dX9_weigh_35 : decode cX9_weigh 35 = .ok (.iload_n 3, 1) := by decide +kernel
theorem dX9_weigh_36 : decode cX9_weigh 36 = .ok (.ireturn, 1) := by decide +kernel
theorem dX9_weight_0 : decode cX9_weight 0 = .ok (.iload_n 1, 1) := by decide +kernel
theorem dX9_weight_1 : decode cX9_weight 1 = .ok (.iload_n 2, 1) := by decide +kernel
theorem dX9_weight_2 : decode cX9_weight 2 = .ok (.if_icmp .ne 22, 3) := by decide +kernel
theorem dX9_weight_5 : decode cX9_weight 5 = .ok (.aload_n 0, 1) := by decide +kernel
theorem dX9_weight_6 : decode cX9_weight 6 = .ok (.iload_n 1, 1) := by decide +kernel
theorem dX9_weight_7 : decode cX9_weight 7 = .ok (.invokevirtual 87, 3) := by decide +kernel
theorem dX9_weight_10 : decode cX9_weight 10 = .ok (.ifCond .eq 12, 3) := by decide +kernel
theorem dX9_weight_13 : decode cX9_weight 13 = .ok (.aload_n 0, 1) := by decide +kernel
theorem dX9_weight_14 : decode cX9_weight 14 = .ok (.getfield 13, 3) := by decide +kernel
theorem dX9_weight_17 : decode cX9_weight 17 = .ok (.iload_n 1, 1) := by decide +kernel
theorem dX9_weight_18 : decode cX9_weight 18 = .ok (.iaload, 1) := by decide +kernel
theorem dX9_weight_19 : decode cX9_weight 19 = .ok (.goto 4, 3) := by decide +kernel
theorem dX9_weight_22 : decode cX9_weight 22 = .ok (.iconst (-1), 1) := by decide +kernel
theorem dX9_weight_23 : decode cX9_weight 23 = .ok (.ireturn, 1) := by decide +kernel
theorem dX9_weight_24 : decode cX9_weight 24 = .ok (.aload_n 0, 1) := by decide +kernel
theorem dX9_weight_25 : decode cX9_weight 25 = .ok (.iload_n 1, 1) := by decide +kernel
theorem dX9_weight_26 : decode cX9_weight 26 = .ok (.iload_n 2, 1) := by decide +kernel
theorem dX9_weight_27 : decode cX9_weight 27 = .ok (.invokevirtual 90, 3) := by decide +kernel
theorem dX9_weight_30 : decode cX9_weight 30 = .ok (.ifCond .eq 17, 3) := by decide +kernel
theorem dX9_weight_33 : decode cX9_weight 33 = .ok (.aload_n 0, 1) := by decide +kernel
theorem dX9_weight_34 : decode cX9_weight 34 = .ok (.getfield 20, 3) := by decide +kernel
theorem dX9_weight_37 : decode cX9_weight 37 = .ok (.bipush 14, 2) := by decide +kernel
theorem dX9_weight_39 : decode cX9_weight 39 = .ok (.iload_n 1, 1) := by decide +kernel
theorem dX9_weight_40 : decode cX9_weight 40 = .ok (.imul, 1) := by decide +kernel
theorem dX9_weight_41 : decode cX9_weight 41 = .ok (.iload_n 2, 1) := by decide +kernel
theorem dX9_weight_42 : decode cX9_weight 42 = .ok (.iadd, 1) := by decide +kernel
theorem dX9_weight_43 : decode cX9_weight 43 = .ok (.iaload, 1) := by decide +kernel
theorem dX9_weight_44 : decode cX9_weight 44 = .ok (.goto 4, 3) := by decide +kernel
theorem dX9_weight_47 : decode cX9_weight 47 = .ok (.iconst (-1), 1) := by decide +kernel
theorem dX9_weight_48 : decode cX9_weight 48 = .ok (.ireturn, 1) := by decide +kernel
theorem dX9_beside_0 : decode cX9_beside 0 = .ok (.aload_n 0, 1) := by decide +kernel
theorem dX9_beside_1 : decode cX9_beside 1 = .ok (.iload_n 1, 1) := by decide +kernel
theorem dX9_beside_2 : decode cX9_beside 2 = .ok (.invokevirtual 87, 3) := by decide +kernel
theorem dX9_beside_5 : decode cX9_beside 5 = .ok (.ifCond .eq 12, 3) := by decide +kernel
theorem dX9_beside_8 : decode cX9_beside 8 = .ok (.aload_n 0, 1) := by decide +kernel
theorem dX9_beside_9 : decode cX9_beside 9 = .ok (.getfield 17, 3) := by decide +kernel
theorem dX9_beside_12 : decode cX9_beside 12 = .ok (.iload_n 1, 1) := by decide +kernel
theorem dX9_beside_13 : decode cX9_beside 13 = .ok (.iaload, 1) := by decide +kernel
theorem dX9_beside_14 : decode cX9_beside 14 = .ok (.goto 4, 3) := by decide +kernel
theorem dX9_beside_17 : decode cX9_beside 17 = .ok (.iconst (-1), 1) := by decide +kernel
theorem dX9_beside_18 : decode cX9_beside 18 = .ok (.ireturn, 1) := by decide +kernel
theorem dX9_rowMask_0 : decode cX9_rowMask 0 = .ok (.iconst 0, 1) := by decide +kernel
theorem dX9_rowMask_1 : decode cX9_rowMask 1 = .ok (.istore_n 1, 1) := by decide +kernel
theorem dX9_rowMask_2 : decode cX9_rowMask 2 = .ok (.iconst 0, 1) := by decide +kernel
theorem dX9_rowMask_3 : decode cX9_rowMask 3 = .ok (.istore_n 2, 1) := by decide +kernel
theorem dX9_rowMask_4 : decode cX9_rowMask 4 = .ok (.iload_n 2, 1) := by decide +kernel
theorem dX9_rowMask_5 : decode cX9_rowMask 5 = .ok (.aload_n 0, 1) := by decide +kernel
theorem dX9_rowMask_6 : decode cX9_rowMask 6 = .ok (.getfield 23, 3) := by decide +kernel
theorem dX9_rowMask_9 : decode cX9_rowMask 9 = .ok (.if_icmp .ge 20, 3) := by decide +kernel
theorem dX9_rowMask_12 : decode cX9_rowMask 12 = .ok (.iload_n 1, 1) := by decide +kernel
theorem dX9_rowMask_13 : decode cX9_rowMask 13 = .ok (.iconst 1, 1) := by decide +kernel
theorem dX9_rowMask_14 : decode cX9_rowMask 14 = .ok (.aload_n 0, 1) := by decide +kernel
theorem dX9_rowMask_15 : decode cX9_rowMask 15 = .ok (.getfield 26, 3) := by decide +kernel
theorem dX9_rowMask_18 : decode cX9_rowMask 18 = .ok (.iload_n 2, 1) := by decide +kernel
theorem dX9_rowMask_19 : decode cX9_rowMask 19 = .ok (.iaload, 1) := by decide +kernel
theorem dX9_rowMask_20 : decode cX9_rowMask 20 = .ok (.ishl, 1) := by decide +kernel
theorem dX9_rowMask_21 : decode cX9_rowMask 21 = .ok (.ior, 1) := by decide +kernel
theorem dX9_rowMask_22 : decode cX9_rowMask 22 = .ok (.istore_n 1, 1) := by decide +kernel
theorem dX9_rowMask_23 : decode cX9_rowMask 23 = .ok (.iinc 2 1, 3) := by decide +kernel
theorem dX9_rowMask_26 : decode cX9_rowMask 26 = .ok (.goto (-22), 3) := by decide +kernel
theorem dX9_rowMask_29 : decode cX9_rowMask 29 = .ok (.iload_n 1, 1) := by decide +kernel
theorem dX9_rowMask_30 : decode cX9_rowMask 30 = .ok (.ireturn, 1) := by decide +kernel
theorem dX9_put_0 : decode cX9_put 0 = .ok (.aload_n 0, 1) := by decide +kernel
theorem dX9_put_1 : decode cX9_put 1 = .ok (.iload_n 1, 1) := by decide +kernel
theorem dX9_put_2 : decode cX9_put 2 = .ok (.invokevirtual 87, 3) := by decide +kernel
theorem dX9_put_5 : decode cX9_put 5 = .ok (.ifCond .ne 5, 3) := by decide +kernel
theorem dX9_put_8 : decode cX9_put 8 = .ok (.iconst (-1), 1) := by decide +kernel
theorem dX9_put_9 : decode cX9_put 9 = .ok (.ireturn, 1) := by decide +kernel
theorem dX9_put_10 : decode cX9_put 10 = .ok (.aload_n 0, 1) := by decide +kernel
theorem dX9_put_11 : decode cX9_put 11 = .ok (.invokevirtual 94, 3) := by decide +kernel
theorem dX9_put_14 : decode cX9_put 14 = .ok (.iload_n 1, 1) := by decide +kernel
theorem dX9_put_15 : decode cX9_put 15 = .ok (.ishr, 1) := by decide +kernel
theorem dX9_put_16 : decode cX9_put 16 = .ok (.iconst 1, 1) := by decide +kernel
theorem dX9_put_17 : decode cX9_put 17 = .ok (.iand, 1) := by decide +kernel
theorem dX9_put_18 : decode cX9_put 18 = .ok (.iconst 1, 1) := by decide +kernel
theorem dX9_put_19 : decode cX9_put 19 = .ok (.if_icmp .ne 6, 3) := by decide +kernel
theorem dX9_put_22 : decode cX9_put 22 = .ok (.bipush (-2), 2) := by decide +kernel
theorem dX9_put_24 : decode cX9_put 24 = .ok (.ireturn, 1) := by decide +kernel
theorem dX9_put_25 : decode cX9_put 25 = .ok (.aload_n 0, 1) := by decide +kernel
theorem dX9_put_26 : decode cX9_put 26 = .ok (.getfield 26, 3) := by decide +kernel
theorem dX9_put_29 : decode cX9_put 29 = .ok (.aload_n 0, 1) := by decide +kernel
theorem dX9_put_30 : decode cX9_put 30 = .ok (.getfield 23, 3) := by decide +kernel
theorem dX9_put_33 : decode cX9_put 33 = .ok (.iload_n 1, 1) := by decide +kernel
theorem dX9_put_34 : decode cX9_put 34 = .ok (.iastore, 1) := by decide +kernel
theorem dX9_put_35 : decode cX9_put 35 = .ok (.aload_n 0, 1) := by decide +kernel
theorem dX9_put_36 : decode cX9_put 36 = .ok (.dup, 1) := by decide +kernel
theorem dX9_put_37 : decode cX9_put 37 = .ok (.getfield 23, 3) := by decide +kernel
theorem dX9_put_40 : decode cX9_put 40 = .ok (.iconst 1, 1) := by decide +kernel
theorem dX9_put_41 : decode cX9_put 41 = .ok (.iadd, 1) := by decide +kernel
theorem dX9_put_42 : decode cX9_put 42 = .ok (.putfield 23, 3) := by decide +kernel
theorem dX9_put_45 : decode cX9_put 45 = .ok (.aload_n 0, 1) := by decide +kernel
theorem dX9_put_46 : decode cX9_put 46 = .ok (.getfield 23, 3) := by decide +kernel
theorem dX9_put_49 : decode cX9_put 49 = .ok (.ireturn, 1) := by decide +kernel
theorem dX9_wipe_0 : decode cX9_wipe 0 = .ok (.aload_n 0, 1) := by decide +kernel
theorem dX9_wipe_1 : decode cX9_wipe 1 = .ok (.getfield 23, 3) := by decide +kernel
theorem dX9_wipe_4 : decode cX9_wipe 4 = .ok (.istore_n 1, 1) := by decide +kernel
theorem dX9_wipe_5 : decode cX9_wipe 5 = .ok (.aload_n 0, 1) := by decide +kernel
theorem dX9_wipe_6 : decode cX9_wipe 6 = .ok (.iconst 0, 1) := by decide +kernel
theorem dX9_wipe_7 : decode cX9_wipe 7 = .ok (.putfield 23, 3) := by decide +kernel
theorem dX9_wipe_10 : decode cX9_wipe 10 = .ok (.iload_n 1, 1) := by decide +kernel
theorem dX9_wipe_11 : decode cX9_wipe 11 = .ok (.ireturn, 1) := by decide +kernel
theorem dX9_row_0 : decode cX9_row 0 = .ok (.iload_n 1, 1) := by decide +kernel
theorem dX9_row_1 : decode cX9_row 1 = .ok (.ifCond .lt 11, 3) := by decide +kernel
theorem dX9_row_4 : decode cX9_row 4 = .ok (.iload_n 1, 1) := by decide +kernel
theorem dX9_row_5 : decode cX9_row 5 = .ok (.aload_n 0, 1) := by decide +kernel
theorem dX9_row_6 : decode cX9_row 6 = .ok (.getfield 23, 3) := by decide +kernel
theorem dX9_row_9 : decode cX9_row 9 = .ok (.if_icmp .lt 7, 3) := by decide +kernel
theorem dX9_row_12 : decode cX9_row 12 = .ok (.iconst (-1), 1) := by decide +kernel
theorem dX9_row_13 : decode cX9_row 13 = .ok (.goto 9, 3) := by decide +kernel
theorem dX9_row_16 : decode cX9_row 16 = .ok (.aload_n 0, 1) := by decide +kernel
theorem dX9_row_17 : decode cX9_row 17 = .ok (.getfield 26, 3) := by decide +kernel
theorem dX9_row_20 : decode cX9_row 20 = .ok (.iload_n 1, 1) := by decide +kernel
theorem dX9_row_21 : decode cX9_row 21 = .ok (.iaload, 1) := by decide +kernel
theorem dX9_row_22 : decode cX9_row 22 = .ok (.ireturn, 1) := by decide +kernel
theorem dX9_around_0 : decode cX9_around 0 = .ok (.iconst 1, 1) := by decide +kernel
theorem dX9_around_1 : decode cX9_around 1 = .ok (.iload_n 2, 1) := by decide +kernel
theorem dX9_around_2 : decode cX9_around 2 = .ok (.ishl, 1) := by decide +kernel
theorem dX9_around_3 : decode cX9_around 3 = .ok (.istore_n 3, 1) := by decide +kernel
theorem dX9_around_4 : decode cX9_around 4 = .ok (.aload_n 0, 1) := by decide +kernel
theorem dX9_around_5 : decode cX9_around 5 = .ok (.getfield 17, 3) := by decide +kernel
theorem dX9_around_8 : decode cX9_around 8 = .ok (.iload_n 2, 1) := by decide +kernel
theorem dX9_around_9 : decode cX9_around 9 = .ok (.iaload, 1) := by decide +kernel
theorem dX9_around_10 : decode cX9_around 10 = .ok (.istore 4, 2) := by decide +kernel
theorem dX9_around_12 : decode cX9_around 12 = .ok (.iload 4, 2) := by decide +kernel
theorem dX9_around_14 : decode cX9_around 14 = .ok (.iload_n 3, 1) := by decide +kernel
theorem dX9_around_15 : decode cX9_around 15 = .ok (.iconst (-1), 1) := by decide +kernel
theorem dX9_around_16 : decode cX9_around 16 = .ok (.ixor, 1) := by decide +kernel
theorem dX9_around_17 : decode cX9_around 17 = .ok (.iand, 1) := by decide +kernel
theorem dX9_around_18 : decode cX9_around 18 = .ok (.ifCond .eq 61, 3) := by decide +kernel
theorem dX9_around_21 : decode cX9_around 21 = .ok (.iload 4, 2) := by decide +kernel
theorem dX9_around_23 : decode cX9_around 23 = .ok (.iload_n 3, 1) := by decide +kernel
theorem dX9_around_24 : decode cX9_around 24 = .ok (.iconst (-1), 1) := by decide +kernel
theorem dX9_around_25 : decode cX9_around 25 = .ok (.ixor, 1) := by decide +kernel
theorem dX9_around_26 : decode cX9_around 26 = .ok (.iand, 1) := by decide +kernel
theorem dX9_around_27 : decode cX9_around 27 = .ok (.istore 5, 2) := by decide +kernel
theorem dX9_around_29 : decode cX9_around 29 = .ok (.iload_n 3, 1) := by decide +kernel
theorem dX9_around_30 : decode cX9_around 30 = .ok (.iload 5, 2) := by decide +kernel
theorem dX9_around_32 : decode cX9_around 32 = .ok (.ior, 1) := by decide +kernel
theorem dX9_around_33 : decode cX9_around 33 = .ok (.istore_n 3, 1) := by decide +kernel
theorem dX9_around_34 : decode cX9_around 34 = .ok (.iconst 0, 1) := by decide +kernel
theorem dX9_around_35 : decode cX9_around 35 = .ok (.istore 6, 2) := by decide +kernel
theorem dX9_around_37 : decode cX9_around 37 = .ok (.iload 6, 2) := by decide +kernel
theorem dX9_around_39 : decode cX9_around 39 = .ok (.aload_n 0, 1) := by decide +kernel
theorem dX9_around_40 : decode cX9_around 40 = .ok (.getfield 7, 3) := by decide +kernel
theorem dX9_around_43 : decode cX9_around 43 = .ok (.if_icmp .ge 33, 3) := by decide +kernel
theorem dX9_around_46 : decode cX9_around 46 = .ok (.iload 5, 2) := by decide +kernel
theorem dX9_around_48 : decode cX9_around 48 = .ok (.iload_n 1, 1) := by decide +kernel
theorem dX9_around_49 : decode cX9_around 49 = .ok (.iand, 1) := by decide +kernel
theorem dX9_around_50 : decode cX9_around 50 = .ok (.iconst 1, 1) := by decide +kernel
theorem dX9_around_51 : decode cX9_around 51 = .ok (.iload 6, 2) := by decide +kernel
theorem dX9_around_53 : decode cX9_around 53 = .ok (.ishl, 1) := by decide +kernel
theorem dX9_around_54 : decode cX9_around 54 = .ok (.iand, 1) := by decide +kernel
theorem dX9_around_55 : decode cX9_around 55 = .ok (.ifCond .eq 15, 3) := by decide +kernel
theorem dX9_around_58 : decode cX9_around 58 = .ok (.iload 4, 2) := by decide +kernel
theorem dX9_around_60 : decode cX9_around 60 = .ok (.aload_n 0, 1) := by decide +kernel
theorem dX9_around_61 : decode cX9_around 61 = .ok (.getfield 17, 3) := by decide +kernel
theorem dX9_around_64 : decode cX9_around 64 = .ok (.iload 6, 2) := by decide +kernel
theorem dX9_around_66 : decode cX9_around 66 = .ok (.iaload, 1) := by decide +kernel
theorem dX9_around_67 : decode cX9_around 67 = .ok (.ior, 1) := by decide +kernel
theorem dX9_around_68 : decode cX9_around 68 = .ok (.istore 4, 2) := by decide +kernel
theorem dX9_around_70 : decode cX9_around 70 = .ok (.iinc 6 1, 3) := by decide +kernel
theorem dX9_around_73 : decode cX9_around 73 = .ok (.goto (-36), 3) := by decide +kernel
theorem dX9_around_76 : decode cX9_around 76 = .ok (.goto (-64), 3) := by decide +kernel
theorem dX9_around_79 : decode cX9_around 79 = .ok (.iload_n 3, 1) := by decide +kernel
theorem dX9_around_80 : decode cX9_around 80 = .ok (.iload_n 1, 1) := by decide +kernel
theorem dX9_around_81 : decode cX9_around 81 = .ok (.iconst (-1), 1) := by decide +kernel
theorem dX9_around_82 : decode cX9_around 82 = .ok (.ixor, 1) := by decide +kernel
theorem dX9_around_83 : decode cX9_around 83 = .ok (.iand, 1) := by decide +kernel
theorem dX9_around_84 : decode cX9_around 84 = .ok (.iconst 1, 1) := by decide +kernel
theorem dX9_around_85 : decode cX9_around 85 = .ok (.iload_n 2, 1) := by decide +kernel
theorem dX9_around_86 : decode cX9_around 86 = .ok (.ishl, 1) := by decide +kernel
theorem dX9_around_87 : decode cX9_around 87 = .ok (.iconst (-1), 1) := by decide +kernel
theorem dX9_around_88 : decode cX9_around 88 = .ok (.ixor, 1) := by decide +kernel
theorem dX9_around_89 : decode cX9_around 89 = .ok (.iand, 1) := by decide +kernel
theorem dX9_around_90 : decode cX9_around 90 = .ok (.ireturn, 1) := by decide +kernel
theorem dX9_isOrder_0 : decode cX9_isOrder 0 = .ok (.aload_n 0, 1) := by decide +kernel
theorem dX9_isOrder_1 : decode cX9_isOrder 1 = .ok (.getfield 23, 3) := by decide +kernel
theorem dX9_isOrder_4 : decode cX9_isOrder 4 = .ok (.aload_n 0, 1) := by decide +kernel
theorem dX9_isOrder_5 : decode cX9_isOrder 5 = .ok (.getfield 7, 3) := by decide +kernel
theorem dX9_isOrder_8 : decode cX9_isOrder 8 = .ok (.if_icmp .ne 7, 3) := by decide +kernel
theorem dX9_isOrder_11 : decode cX9_isOrder 11 = .ok (.iconst 1, 1) := by decide +kernel
theorem dX9_isOrder_12 : decode cX9_isOrder 12 = .ok (.goto 4, 3) := by decide +kernel
theorem dX9_isOrder_15 : decode cX9_isOrder 15 = .ok (.iconst 0, 1) := by decide +kernel
theorem dX9_isOrder_16 : decode cX9_isOrder 16 = .ok (.ireturn, 1) := by decide +kernel
theorem dX9_rowWidth_0 : decode cX9_rowWidth 0 = .ok (.iconst 0, 1) := by decide +kernel
theorem dX9_rowWidth_1 : decode cX9_rowWidth 1 = .ok (.istore_n 1, 1) := by decide +kernel
theorem dX9_rowWidth_2 : decode cX9_rowWidth 2 = .ok (.iconst (-1), 1) := by decide +kernel
theorem dX9_rowWidth_3 : decode cX9_rowWidth 3 = .ok (.istore_n 2, 1) := by decide +kernel
theorem dX9_rowWidth_4 : decode cX9_rowWidth 4 = .ok (.iconst 0, 1) := by decide +kernel
theorem dX9_rowWidth_5 : decode cX9_rowWidth 5 = .ok (.istore_n 3, 1) := by decide +kernel
theorem dX9_rowWidth_6 : decode cX9_rowWidth 6 = .ok (.iload_n 3, 1) := by decide +kernel
theorem dX9_rowWidth_7 : decode cX9_rowWidth 7 = .ok (.aload_n 0, 1) := by decide +kernel
theorem dX9_rowWidth_8 : decode cX9_rowWidth 8 = .ok (.getfield 23, 3) := by decide +kernel
theorem dX9_rowWidth_11 : decode cX9_rowWidth 11 = .ok (.if_icmp .ge 50, 3) := by decide +kernel
theorem dX9_rowWidth_14 : decode cX9_rowWidth 14 = .ok (.aload_n 0, 1) := by decide +kernel
theorem dX9_rowWidth_15 : decode cX9_rowWidth 15 = .ok (.aload_n 0, 1) := by decide +kernel
theorem dX9_rowWidth_16 : decode cX9_rowWidth 16 = .ok (.iload_n 1, 1) := by decide +kernel
theorem dX9_rowWidth_17 : decode cX9_rowWidth 17 = .ok (.aload_n 0, 1) := by decide +kernel
theorem dX9_rowWidth_18 : decode cX9_rowWidth 18 = .ok (.getfield 26, 3) := by decide +kernel
theorem dX9_rowWidth_21 : decode cX9_rowWidth 21 = .ok (.iload_n 3, 1) := by decide +kernel
theorem dX9_rowWidth_22 : decode cX9_rowWidth 22 = .ok (.iaload, 1) := by decide +kernel
theorem dX9_rowWidth_23 : decode cX9_rowWidth 23 = .ok (.invokevirtual 98, 3) := by decide +kernel
theorem dX9_rowWidth_26 : decode cX9_rowWidth 26 = .ok (.invokevirtual 102, 3) := by decide +kernel
theorem dX9_rowWidth_29 : decode cX9_rowWidth 29 = .ok (.istore 4, 2) := by decide +kernel
theorem dX9_rowWidth_31 : decode cX9_rowWidth 31 = .ok (.iload 4, 2) := by decide +kernel
theorem dX9_rowWidth_33 : decode cX9_rowWidth 33 = .ok (.iload_n 2, 1) := by decide +kernel
theorem dX9_rowWidth_34 : decode cX9_rowWidth 34 = .ok (.if_icmp .le 8, 3) := by decide +kernel
theorem dX9_rowWidth_37 : decode cX9_rowWidth 37 = .ok (.iload 4, 2) := by decide +kernel
theorem dX9_rowWidth_39 : decode cX9_rowWidth 39 = .ok (.goto 4, 3) := by decide +kernel
theorem dX9_rowWidth_42 : decode cX9_rowWidth 42 = .ok (.iload_n 2, 1) := by decide +kernel
theorem dX9_rowWidth_43 : decode cX9_rowWidth 43 = .ok (.istore_n 2, 1) := by decide +kernel
theorem dX9_rowWidth_44 : decode cX9_rowWidth 44 = .ok (.iload_n 1, 1) := by decide +kernel
theorem dX9_rowWidth_45 : decode cX9_rowWidth 45 = .ok (.iconst 1, 1) := by decide +kernel
theorem dX9_rowWidth_46 : decode cX9_rowWidth 46 = .ok (.aload_n 0, 1) := by decide +kernel
theorem dX9_rowWidth_47 : decode cX9_rowWidth 47 = .ok (.getfield 26, 3) := by decide +kernel
theorem dX9_rowWidth_50 : decode cX9_rowWidth 50 = .ok (.iload_n 3, 1) := by decide +kernel
theorem dX9_rowWidth_51 : decode cX9_rowWidth 51 = .ok (.iaload, 1) := by decide +kernel
theorem dX9_rowWidth_52 : decode cX9_rowWidth 52 = .ok (.ishl, 1) := by decide +kernel
theorem dX9_rowWidth_53 : decode cX9_rowWidth 53 = .ok (.ior, 1) := by decide +kernel
theorem dX9_rowWidth_54 : decode cX9_rowWidth 54 = .ok (.istore_n 1, 1) := by decide +kernel
theorem dX9_rowWidth_55 : decode cX9_rowWidth 55 = .ok (.iinc 3 1, 3) := by decide +kernel
theorem dX9_rowWidth_58 : decode cX9_rowWidth 58 = .ok (.goto (-52), 3) := by decide +kernel
theorem dX9_rowWidth_61 : decode cX9_rowWidth 61 = .ok (.iload_n 2, 1) := by decide +kernel
theorem dX9_rowWidth_62 : decode cX9_rowWidth 62 = .ok (.ireturn, 1) := by decide +kernel
theorem dX9_make_0 : decode cX9_make 0 = .ok (.aload_n 0, 1) := by decide +kernel
theorem dX9_make_1 : decode cX9_make 1 = .ok (.invokevirtual 106, 3) := by decide +kernel
theorem dX9_make_4 : decode cX9_make 4 = .ok (.ifCond .eq 10, 3) := by decide +kernel
theorem dX9_make_7 : decode cX9_make 7 = .ok (.aload_n 0, 1) := by decide +kernel
theorem dX9_make_8 : decode cX9_make 8 = .ok (.getfield 7, 3) := by decide +kernel
theorem dX9_make_11 : decode cX9_make 11 = .ok (.ifCond .ne 6, 3) := by decide +kernel
theorem dX9_make_14 : decode cX9_make 14 = .ok (.bipush (-4), 2) := by decide +kernel
theorem dX9_make_16 : decode cX9_make 16 = .ok (.ireturn, 1) := by decide +kernel
theorem dX9_make_17 : decode cX9_make 17 = .ok (.iconst 0, 1) := by decide +kernel
theorem dX9_make_18 : decode cX9_make 18 = .ok (.istore_n 1, 1) := by decide +kernel
theorem dX9_make_19 : decode cX9_make 19 = .ok (.iconst 0, 1) := by decide +kernel
theorem dX9_make_20 : decode cX9_make 20 = .ok (.istore_n 2, 1) := by decide +kernel
theorem dX9_make_21 : decode cX9_make 21 = .ok (.iload_n 2, 1) := by decide +kernel
theorem dX9_make_22 : decode cX9_make 22 = .ok (.aload_n 0, 1) := by decide +kernel
theorem dX9_make_23 : decode cX9_make 23 = .ok (.getfield 23, 3) := by decide +kernel
theorem dX9_make_26 : decode cX9_make 26 = .ok (.if_icmp .ge 114, 3) := by decide +kernel
theorem dX9_make_29 : decode cX9_make 29 = .ok (.aload_n 0, 1) := by decide +kernel
theorem dX9_make_30 : decode cX9_make 30 = .ok (.iload_n 1, 1) := by decide +kernel
theorem dX9_make_31 : decode cX9_make 31 = .ok (.aload_n 0, 1) := by decide +kernel
theorem dX9_make_32 : decode cX9_make 32 = .ok (.getfield 26, 3) := by decide +kernel
theorem dX9_make_35 : decode cX9_make 35 = .ok (.iload_n 2, 1) := by decide +kernel
theorem dX9_make_36 : decode cX9_make 36 = .ok (.iaload, 1) := by decide +kernel
theorem dX9_make_37 : decode cX9_make 37 = .ok (.invokevirtual 98, 3) := by decide +kernel
theorem dX9_make_40 : decode cX9_make 40 = .ok (.istore_n 3, 1) := by decide +kernel
theorem dX9_make_41 : decode cX9_make 41 = .ok (.aload_n 0, 1) := by decide +kernel
theorem dX9_make_42 : decode cX9_make 42 = .ok (.getfield 32, 3) := by decide +kernel
theorem dX9_make_45 : decode cX9_make 45 = .ok (.iload_n 2, 1) := by decide +kernel
theorem dX9_make_46 : decode cX9_make 46 = .ok (.iload_n 3, 1) := by decide +kernel
theorem dX9_make_47 : decode cX9_make 47 = .ok (.iconst 1, 1) := by decide +kernel
theorem dX9_make_48 : decode cX9_make 48 = .ok (.aload_n 0, 1) := by decide +kernel
theorem dX9_make_49 : decode cX9_make 49 = .ok (.getfield 26, 3) := by decide +kernel
theorem dX9_make_52 : decode cX9_make 52 = .ok (.iload_n 2, 1) := by decide +kernel
theorem dX9_make_53 : decode cX9_make 53 = .ok (.iaload, 1) := by decide +kernel
theorem dX9_make_54 : decode cX9_make 54 = .ok (.ishl, 1) := by decide +kernel
theorem dX9_make_55 : decode cX9_make 55 = .ok (.ior, 1) := by decide +kernel
theorem dX9_make_56 : decode cX9_make 56 = .ok (.iastore, 1) := by decide +kernel
theorem dX9_make_57 : decode cX9_make 57 = .ok (.aload_n 0, 1) := by decide +kernel
theorem dX9_make_58 : decode cX9_make 58 = .ok (.getfield 35, 3) := by decide +kernel
theorem dX9_make_61 : decode cX9_make 61 = .ok (.iload_n 2, 1) := by decide +kernel
theorem dX9_make_62 : decode cX9_make 62 = .ok (.iload_n 2, 1) := by decide +kernel
theorem dX9_make_63 : decode cX9_make 63 = .ok (.iconst 1, 1) := by decide +kernel
theorem dX9_make_64 : decode cX9_make 64 = .ok (.iadd, 1) := by decide +kernel
theorem dX9_make_65 : decode cX9_make 65 = .ok (.aload_n 0, 1) := by decide +kernel
theorem dX9_make_66 : decode cX9_make 66 = .ok (.getfield 23, 3) := by decide +kernel
theorem dX9_make_69 : decode cX9_make 69 = .ok (.if_icmp .ge 9, 3) := by decide +kernel
theorem dX9_make_72 : decode cX9_make 72 = .ok (.iload_n 2, 1) := by decide +kernel
theorem dX9_make_73 : decode cX9_make 73 = .ok (.iconst 1, 1) := by decide +kernel
theorem dX9_make_74 : decode cX9_make 74 = .ok (.iadd, 1) := by decide +kernel
theorem dX9_make_75 : decode cX9_make 75 = .ok (.goto 4, 3) := by decide +kernel
theorem dX9_make_78 : decode cX9_make 78 = .ok (.iconst (-1), 1) := by decide +kernel
theorem dX9_make_79 : decode cX9_make 79 = .ok (.iastore, 1) := by decide +kernel
theorem dX9_make_80 : decode cX9_make 80 = .ok (.aload_n 0, 1) := by decide +kernel
theorem dX9_make_81 : decode cX9_make 81 = .ok (.getfield 23, 3) := by decide +kernel
theorem dX9_make_84 : decode cX9_make 84 = .ok (.iconst 1, 1) := by decide +kernel
theorem dX9_make_85 : decode cX9_make 85 = .ok (.isub, 1) := by decide +kernel
theorem dX9_make_86 : decode cX9_make 86 = .ok (.istore 4, 2) := by decide +kernel
theorem dX9_make_88 : decode cX9_make 88 = .ok (.iload 4, 2) := by decide +kernel
theorem dX9_make_90 : decode cX9_make 90 = .ok (.iload_n 2, 1) := by decide +kernel
theorem dX9_make_91 : decode cX9_make 91 = .ok (.if_icmp .le 32, 3) := by decide +kernel
theorem dX9_make_94 : decode cX9_make 94 = .ok (.iload_n 3, 1) := by decide +kernel
theorem dX9_make_95 : decode cX9_make 95 = .ok (.aload_n 0, 1) := by decide +kernel
theorem dX9_make_96 : decode cX9_make 96 = .ok (.getfield 26, 3) := by decide +kernel
theorem dX9_make_99 : decode cX9_make 99 = .ok (.iload 4, 2) := by decide +kernel
theorem dX9_make_101 : decode cX9_make 101 = .ok (.iaload, 1) := by decide +kernel
theorem dX9_make_102 : decode cX9_make 102 = .ok (.ishr, 1) := by decide +kernel
theorem dX9_make_103 : decode cX9_make 103 = .ok (.iconst 1, 1) := by decide +kernel
theorem dX9_make_104 : decode cX9_make 104 = .ok (.iand, 1) := by decide +kernel
theorem dX9_make_105 : decode cX9_make 105 = .ok (.iconst 1, 1) := by decide +kernel
theorem dX9_make_106 : decode cX9_make 106 = .ok (.if_icmp .ne 11, 3) := by decide +kernel
theorem dX9_make_109 : decode cX9_make 109 = .ok (.aload_n 0, 1) := by decide +kernel
theorem dX9_make_110 : decode cX9_make 110 = .ok (.getfield 35, 3) := by decide +kernel
theorem dX9_make_113 : decode cX9_make 113 = .ok (.iload_n 2, 1) := by decide +kernel
theorem dX9_make_114 : decode cX9_make 114 = .ok (.iload 4, 2) := by decide +kernel
theorem dX9_make_116 : decode cX9_make 116 = .ok (.iastore, 1) := by decide +kernel
theorem dX9_make_117 : decode cX9_make 117 = .ok (.iinc 4 (-1), 3) := by decide +kernel
theorem dX9_make_120 : decode cX9_make 120 = .ok (.goto (-32), 3) := by decide +kernel
theorem dX9_make_123 : decode cX9_make 123 = .ok (.iload_n 1, 1) := by decide +kernel
theorem dX9_make_124 : decode cX9_make 124 = .ok (.iconst 1, 1) := by decide +kernel
theorem dX9_make_125 : decode cX9_make 125 = .ok (.aload_n 0, 1) := by decide +kernel
theorem dX9_make_126 : decode cX9_make 126 = .ok (.getfield 26, 3) := by decide +kernel
theorem dX9_make_129 : decode cX9_make 129 = .ok (.iload_n 2, 1) := by decide +kernel
theorem dX9_make_130 : decode cX9_make 130 = .ok (.iaload, 1) := by decide +kernel
theorem dX9_make_131 : decode cX9_make 131 = .ok (.ishl, 1) := by decide +kernel
theorem dX9_make_132 : decode cX9_make 132 = .ok (.ior, 1) := by decide +kernel
theorem dX9_make_133 : decode cX9_make 133 = .ok (.istore_n 1, 1) := by decide +kernel
theorem dX9_make_134 : decode cX9_make 134 = .ok (.iinc 2 1, 3) := by decide +kernel
theorem dX9_make_137 : decode cX9_make 137 = .ok (.goto (-116), 3) := by decide +kernel
theorem dX9_make_140 : decode cX9_make 140 = .ok (.aload_n 0, 1) := by decide +kernel
theorem dX9_make_141 : decode cX9_make 141 = .ok (.aload_n 0, 1) := by decide +kernel
theorem dX9_make_142 : decode cX9_make 142 = .ok (.getfield 23, 3) := by decide +kernel
theorem dX9_make_145 : decode cX9_make 145 = .ok (.putfield 29, 3) := by decide +kernel
theorem dX9_make_148 : decode cX9_make 148 = .ok (.aload_n 0, 1) := by decide +kernel
theorem dX9_make_149 : decode cX9_make 149 = .ok (.invokevirtual 110, 3) := by decide +kernel
theorem dX9_make_152 : decode cX9_make 152 = .ok (.ireturn, 1) := by decide +kernel
theorem dX9_fills_0 : decode cX9_fills 0 = .ok (.aload_n 0, 1) := by decide +kernel
theorem dX9_fills_1 : decode cX9_fills 1 = .ok (.invokevirtual 106, 3) := by decide +kernel
theorem dX9_fills_4 : decode cX9_fills 4 = .ok (.ifCond .ne 5, 3) := by decide +kernel
theorem dX9_fills_7 : decode cX9_fills 7 = .ok (.iconst (-1), 1) := by decide +kernel
theorem dX9_fills_8 : decode cX9_fills 8 = .ok (.ireturn, 1) := by decide +kernel
theorem dX9_fills_9 : decode cX9_fills 9 = .ok (.iconst 0, 1) := by decide +kernel
theorem dX9_fills_10 : decode cX9_fills 10 = .ok (.istore_n 1, 1) := by decide +kernel
theorem dX9_fills_11 : decode cX9_fills 11 = .ok (.iconst 0, 1) := by decide +kernel
theorem dX9_fills_12 : decode cX9_fills 12 = .ok (.istore_n 2, 1) := by decide +kernel
theorem dX9_fills_13 : decode cX9_fills 13 = .ok (.iconst 0, 1) := by decide +kernel
theorem dX9_fills_14 : decode cX9_fills 14 = .ok (.istore_n 3, 1) := by decide +kernel
theorem dX9_fills_15 : decode cX9_fills 15 = .ok (.iload_n 3, 1) := by decide +kernel
theorem dX9_fills_16 : decode cX9_fills 16 = .ok (.aload_n 0, 1) := by decide +kernel
theorem dX9_fills_17 : decode cX9_fills 17 = .ok (.getfield 23, 3) := by decide +kernel
theorem dX9_fills_20 : decode cX9_fills 20 = .ok (.if_icmp .ge 107, 3) := by decide +kernel
theorem dX9_fills_23 : decode cX9_fills 23 = .ok (.aload_n 0, 1) := by decide +kernel
theorem dX9_fills_24 : decode cX9_fills 24 = .ok (.iload_n 2, 1) := by decide +kernel
theorem dX9_fills_25 : decode cX9_fills 25 = .ok (.aload_n 0, 1) := by decide +kernel
theorem dX9_fills_26 : decode cX9_fills 26 = .ok (.getfield 26, 3) := by decide +kernel
theorem dX9_fills_29 : decode cX9_fills 29 = .ok (.iload_n 3, 1) := by decide +kernel
theorem dX9_fills_30 : decode cX9_fills 30 = .ok (.iaload, 1) := by decide +kernel
theorem dX9_fills_31 : decode cX9_fills 31 = .ok (.invokevirtual 98, 3) := by decide +kernel
theorem dX9_fills_34 : decode cX9_fills 34 = .ok (.istore 4, 2) := by decide +kernel
theorem dX9_fills_36 : decode cX9_fills 36 = .ok (.iconst 0, 1) := by decide +kernel
theorem dX9_fills_37 : decode cX9_fills 37 = .ok (.istore 5, 2) := by decide +kernel
theorem dX9_fills_39 : decode cX9_fills 39 = .ok (.iload 5, 2) := by decide +kernel
theorem dX9_fills_41 : decode cX9_fills 41 = .ok (.aload_n 0, 1) := by decide +kernel
theorem dX9_fills_42 : decode cX9_fills 42 = .ok (.getfield 7, 3) := by decide +kernel
theorem dX9_fills_45 : decode cX9_fills 45 = .ok (.if_icmp .ge 65, 3) := by decide +kernel
theorem dX9_fills_48 : decode cX9_fills 48 = .ok (.iconst 0, 1) := by decide +kernel
theorem dX9_fills_49 : decode cX9_fills 49 = .ok (.istore 6, 2) := by decide +kernel
theorem dX9_fills_51 : decode cX9_fills 51 = .ok (.iload 6, 2) := by decide +kernel
theorem dX9_fills_53 : decode cX9_fills 53 = .ok (.iload 5, 2) := by decide +kernel
theorem dX9_fills_55 : decode cX9_fills 55 = .ok (.if_icmp .ge 49, 3) := by decide +kernel
theorem dX9_fills_58 : decode cX9_fills 58 = .ok (.iload 4, 2) := by decide +kernel
theorem dX9_fills_60 : decode cX9_fills 60 = .ok (.iload 5, 2) := by decide +kernel
theorem dX9_fills_62 : decode cX9_fills 62 = .ok (.ishr, 1) := by decide +kernel
theorem dX9_fills_63 : decode cX9_fills 63 = .ok (.iconst 1, 1) := by decide +kernel
theorem dX9_fills_64 : decode cX9_fills 64 = .ok (.iand, 1) := by decide +kernel
theorem dX9_fills_65 : decode cX9_fills 65 = .ok (.iconst 1, 1) := by decide +kernel
theorem dX9_fills_66 : decode cX9_fills 66 = .ok (.if_icmp .ne 32, 3) := by decide +kernel
theorem dX9_fills_69 : decode cX9_fills 69 = .ok (.iload 4, 2) := by decide +kernel
theorem dX9_fills_71 : decode cX9_fills 71 = .ok (.iload 6, 2) := by decide +kernel
theorem dX9_fills_73 : decode cX9_fills 73 = .ok (.ishr, 1) := by decide +kernel
theorem dX9_fills_74 : decode cX9_fills 74 = .ok (.iconst 1, 1) := by decide +kernel
theorem dX9_fills_75 : decode cX9_fills 75 = .ok (.iand, 1) := by decide +kernel
theorem dX9_fills_76 : decode cX9_fills 76 = .ok (.iconst 1, 1) := by decide +kernel
theorem dX9_fills_77 : decode cX9_fills 77 = .ok (.if_icmp .ne 21, 3) := by decide +kernel
theorem dX9_fills_80 : decode cX9_fills 80 = .ok (.aload_n 0, 1) := by decide +kernel
theorem dX9_fills_81 : decode cX9_fills 81 = .ok (.iload_n 2, 1) := by decide +kernel
theorem dX9_fills_82 : decode cX9_fills 82 = .ok (.iload 5, 2) := by decide +kernel
theorem dX9_fills_84 : decode cX9_fills 84 = .ok (.invokevirtual 98, 3) := by decide +kernel
theorem dX9_fills_87 : decode cX9_fills 87 = .ok (.iload 6, 2) := by decide +kernel
theorem dX9_fills_89 : decode cX9_fills 89 = .ok (.ishr, 1) := by decide +kernel
theorem dX9_fills_90 : decode cX9_fills 90 = .ok (.iconst 1, 1) := by decide +kernel
theorem dX9_fills_91 : decode cX9_fills 91 = .ok (.iand, 1) := by decide +kernel
theorem dX9_fills_92 : decode cX9_fills 92 = .ok (.ifCond .ne 6, 3) := by decide +kernel
theorem dX9_fills_95 : decode cX9_fills 95 = .ok (.iinc 1 1, 3) := by decide +kernel
theorem dX9_fills_98 : decode cX9_fills 98 = .ok (.iinc 6 1, 3) := by decide +kernel
theorem dX9_fills_101 : decode cX9_fills 101 = .ok (.goto (-50), 3) := by decide +kernel
theorem dX9_fills_104 : decode cX9_fills 104 = .ok (.iinc 5 1, 3) := by decide +kernel
theorem dX9_fills_107 : decode cX9_fills 107 = .ok (.goto (-68), 3) := by decide +kernel
theorem dX9_fills_110 : decode cX9_fills 110 = .ok (.iload_n 2, 1) := by decide +kernel
theorem dX9_fills_111 : decode cX9_fills 111 = .ok (.iconst 1, 1) := by decide +kernel
theorem dX9_fills_112 : decode cX9_fills 112 = .ok (.aload_n 0, 1) := by decide +kernel
theorem dX9_fills_113 : decode cX9_fills 113 = .ok (.getfield 26, 3) := by decide +kernel
theorem dX9_fills_116 : decode cX9_fills 116 = .ok (.iload_n 3, 1) := by decide +kernel
theorem dX9_fills_117 : decode cX9_fills 117 = .ok (.iaload, 1) := by decide +kernel
theorem dX9_fills_118 : decode cX9_fills 118 = .ok (.ishl, 1) := by decide +kernel
theorem dX9_fills_119 : decode cX9_fills 119 = .ok (.ior, 1) := by decide +kernel
theorem dX9_fills_120 : decode cX9_fills 120 = .ok (.istore_n 2, 1) := by decide +kernel
theorem dX9_fills_121 : decode cX9_fills 121 = .ok (.iinc 3 1, 3) := by decide +kernel
theorem dX9_fills_124 : decode cX9_fills 124 = .ok (.goto (-109), 3) := by decide +kernel
theorem dX9_fills_127 : decode cX9_fills 127 = .ok (.iload_n 1, 1) := by decide +kernel
theorem dX9_fills_128 : decode cX9_fills 128 = .ok (.ireturn, 1) := by decide +kernel
theorem dX9_width_0 : decode cX9_width 0 = .ok (.iconst (-1), 1) := by decide +kernel
theorem dX9_width_1 : decode cX9_width 1 = .ok (.istore_n 1, 1) := by decide +kernel
theorem dX9_width_2 : decode cX9_width 2 = .ok (.iconst 0, 1) := by decide +kernel
theorem dX9_width_3 : decode cX9_width 3 = .ok (.istore_n 2, 1) := by decide +kernel
theorem dX9_width_4 : decode cX9_width 4 = .ok (.iload_n 2, 1) := by decide +kernel
theorem dX9_width_5 : decode cX9_width 5 = .ok (.aload_n 0, 1) := by decide +kernel
theorem dX9_width_6 : decode cX9_width 6 = .ok (.getfield 29, 3) := by decide +kernel
theorem dX9_width_9 : decode cX9_width 9 = .ok (.if_icmp .ge 42, 3) := by decide +kernel
theorem dX9_width_12 : decode cX9_width 12 = .ok (.aload_n 0, 1) := by decide +kernel
theorem dX9_width_13 : decode cX9_width 13 = .ok (.aload_n 0, 1) := by decide +kernel
theorem dX9_width_14 : decode cX9_width 14 = .ok (.getfield 32, 3) := by decide +kernel
theorem dX9_width_17 : decode cX9_width 17 = .ok (.iload_n 2, 1) := by decide +kernel
theorem dX9_width_18 : decode cX9_width 18 = .ok (.iaload, 1) := by decide +kernel
theorem dX9_width_19 : decode cX9_width 19 = .ok (.invokevirtual 102, 3) := by decide +kernel
theorem dX9_width_22 : decode cX9_width 22 = .ok (.iconst 1, 1) := by decide +kernel
theorem dX9_width_23 : decode cX9_width 23 = .ok (.isub, 1) := by decide +kernel
theorem dX9_width_24 : decode cX9_width 24 = .ok (.iload_n 1, 1) := by decide +kernel
theorem dX9_width_25 : decode cX9_width 25 = .ok (.if_icmp .le 18, 3) := by decide +kernel
theorem dX9_width_28 : decode cX9_width 28 = .ok (.aload_n 0, 1) := by decide +kernel
theorem dX9_width_29 : decode cX9_width 29 = .ok (.aload_n 0, 1) := by decide +kernel
theorem dX9_width_30 : decode cX9_width 30 = .ok (.getfield 32, 3) := by decide +kernel
theorem dX9_width_33 : decode cX9_width 33 = .ok (.iload_n 2, 1) := by decide +kernel
theorem dX9_width_34 : decode cX9_width 34 = .ok (.iaload, 1) := by decide +kernel
theorem dX9_width_35 : decode cX9_width 35 = .ok (.invokevirtual 102, 3) := by decide +kernel
theorem dX9_width_38 : decode cX9_width 38 = .ok (.iconst 1, 1) := by decide +kernel
theorem dX9_width_39 : decode cX9_width 39 = .ok (.isub, 1) := by decide +kernel
theorem dX9_width_40 : decode cX9_width 40 = .ok (.goto 4, 3) := by decide +kernel
theorem dX9_width_43 : decode cX9_width 43 = .ok (.iload_n 1, 1) := by decide +kernel
theorem dX9_width_44 : decode cX9_width 44 = .ok (.istore_n 1, 1) := by decide +kernel
theorem dX9_width_45 : decode cX9_width 45 = .ok (.iinc 2 1, 3) := by decide +kernel
theorem dX9_width_48 : decode cX9_width 48 = .ok (.goto (-44), 3) := by decide +kernel
theorem dX9_width_51 : decode cX9_width 51 = .ok (.aload_n 0, 1) := by decide +kernel
theorem dX9_width_52 : decode cX9_width 52 = .ok (.getfield 29, 3) := by decide +kernel
theorem dX9_width_55 : decode cX9_width 55 = .ok (.ifCond .ne 7, 3) := by decide +kernel
theorem dX9_width_58 : decode cX9_width 58 = .ok (.iconst (-1), 1) := by decide +kernel
theorem dX9_width_59 : decode cX9_width 59 = .ok (.goto 4, 3) := by decide +kernel
theorem dX9_width_62 : decode cX9_width 62 = .ok (.iload_n 1, 1) := by decide +kernel
theorem dX9_width_63 : decode cX9_width 63 = .ok (.ireturn, 1) := by decide +kernel
def f_X9_isKnot (a1 : Int32) (t_knots : Int32) : Option (Int32) :=
  if a1 < 0 then
    some ((0 : Int32))
  else
    if t_knots ≤ a1 then
      some ((0 : Int32))
    else
      some ((1 : Int32))

set_option maxRecDepth 100000 in
set_option maxHeartbeats 1000000 in
theorem c_X9_isKnot (l : Launch) (cA : Nat → ClassId) (q_t : Nat) (t_knots : Int32) (q_t_weight : Nat) (q_t_beside : Nat) (q_t_edge : Nat) (t_rowed : Int32) (q_t_row : Nat) (t_bags : Int32) (q_t_bag : Nat) (q_t_up : Nat) (q_t_least : Nat) (t_q : Int32) (q_t_factor : Nat) (q_t_pairFactor : Nat) (q_t_forbidden : Nat) (q_t_mayNot : Nat) (q_t_fixed : Nat) (q_t_state : Nat) (q_t_count : Nat) (q_t_best : Nat) (q_t_bests : Nat) (t_allCount : Int64) (t_allBest : Int64) (t_allBests : Int64)  (a1 : Int32) (r : Int32) (hf : f_X9_isKnot a1 t_knots = some r) : MT l cA yX9_isKnot cX9_isKnot 2 (some .boolean) ({ frames := 0, cells := 0, slots := 0, locals := 0 } : Room) [.ref q_t, .int a1] [oB q_t 9 [.int t_knots, .ref q_t_weight, .ref q_t_beside, .ref q_t_edge, .int t_rowed, .ref q_t_row, .int t_bags, .ref q_t_bag, .ref q_t_up, .ref q_t_least, .int t_q, .ref q_t_factor, .ref q_t_pairFactor, .ref q_t_forbidden, .ref q_t_mayNot, .ref q_t_fixed, .ref q_t_state, .ref q_t_count, .ref q_t_best, .ref q_t_bests, .long t_allCount, .long t_allBest, .long t_allBests]] (sB (some (.int r)) [oB q_t 9 [.int t_knots, .ref q_t_weight, .ref q_t_beside, .ref q_t_edge, .int t_rowed, .ref q_t_row, .int t_bags, .ref q_t_bag, .ref q_t_up, .ref q_t_least, .int t_q, .ref q_t_factor, .ref q_t_pairFactor, .ref q_t_forbidden, .ref q_t_mayNot, .ref q_t_fixed, .ref q_t_state, .ref q_t_count, .ref q_t_best, .ref q_t_bests, .long t_allCount, .long t_allBest, .long t_allBests]]) := by
  refine MT.of (by decide) (Nat.le_of_ble_eq_true rfl) ?_
  intro X hXl C F hnm hrc hrs
  subst hXl
  have hk : 0 ≤ (x_R X).cells ∧ 0 ≤ (x_R X).slots := ⟨Nat.zero_le _, Nat.zero_le _⟩
  have hB : (sB (some (.int r)) [oB q_t 9 [.int t_knots, .ref q_t_weight, .ref q_t_beside, .ref q_t_edge, .int t_rowed, .ref q_t_row, .int t_bags, .ref q_t_bag, .ref q_t_up, .ref q_t_least, .int t_q, .ref q_t_factor, .ref q_t_pairFactor, .ref q_t_forbidden, .ref q_t_mayNot, .ref q_t_fixed, .ref q_t_state, .ref q_t_count, .ref q_t_best, .ref q_t_bests, .long t_allCount, .long t_allBest, .long t_allBests]]) (some (.int r)) [oB q_t 9 [.int t_knots, .ref q_t_weight, .ref q_t_beside, .ref q_t_edge, .int t_rowed, .ref q_t_row, .int t_bags, .ref q_t_bag, .ref q_t_up, .ref q_t_least, .int t_q, .ref q_t_factor, .ref q_t_pairFactor, .ref q_t_forbidden, .ref q_t_mayNot, .ref q_t_fixed, .ref q_t_state, .ref q_t_count, .ref q_t_best, .ref q_t_bests, .long t_allCount, .long t_allBest, .long t_allBests]] := ⟨rfl, rfl⟩
  unfold f_X9_isKnot at hf
  have C : Cx X cX9_isKnot RX9 (some .boolean) cA 0 0 2 := C
  show Go X 2 0 0 0 [oB q_t 9 [.int t_knots, .ref q_t_weight, .ref q_t_beside, .ref q_t_edge, .int t_rowed, .ref q_t_row, .int t_bags, .ref q_t_bag, .ref q_t_up, .ref q_t_least, .int t_q, .ref q_t_factor, .ref q_t_pairFactor, .ref q_t_forbidden, .ref q_t_mayNot, .ref q_t_fixed, .ref q_t_state, .ref q_t_count, .ref q_t_best, .ref q_t_bests, .long t_allCount, .long t_allBest, .long t_allBests]] [(0, .ref q_t), (1, .int a1)] []
  refine g_iload_n C 0 1 dX9_isKnot_0 rfl rfl ?_
  refine g_if_lt C 1 16 dX9_isKnot_1 (by decide) hf (fun hf => ?_) (fun hf => ?_)
  · refine g_iconst C 16 (0 : Int32) dX9_isKnot_16 (by decide) ?_
    cases hf
    exact g_zret C 17 dX9_isKnot_17 (by decide) F hB
  · refine g_iload_n C 4 1 dX9_isKnot_4 rfl rfl ?_
    refine g_aload_n C 5 0 dX9_isKnot_5 rfl rfl ?_
    refine g_get C 6 0 0 dX9_isKnot_6 inX9 rfl rfl (by decide) kw_339 rfl ?_
    refine g_icmp_ge C 9 16 dX9_isKnot_9 (by decide) hf (fun hf => ?_) (fun hf => ?_)
    · refine g_iconst C 16 (0 : Int32) dX9_isKnot_16 (by decide) ?_
      cases hf
      exact g_zret C 17 dX9_isKnot_17 (by decide) F hB
    · refine g_iconst C 12 (1 : Int32) dX9_isKnot_12 (by decide) ?_
      refine g_goto C 13 17 dX9_isKnot_13 (by decide) ?_
      cases hf
      exact g_zret C 17 dX9_isKnot_17 (by decide) F hB

def f_X9_isWeight (a1 : Int32) : Option (Int32) :=
  if a1 < 0 then
    some ((0 : Int32))
  else
    if (1000 : Int32) < a1 then
      some ((0 : Int32))
    else
      some ((1 : Int32))

set_option maxRecDepth 100000 in
set_option maxHeartbeats 1000000 in
theorem c_X9_isWeight (l : Launch) (cA : Nat → ClassId) (q_t : Nat)  (a1 : Int32) (r : Int32) (hf : f_X9_isWeight a1 = some r) : MT l cA yX9_isWeight cX9_isWeight 2 (some .boolean) ({ frames := 0, cells := 0, slots := 0, locals := 0 } : Room) [.ref q_t, .int a1] [] (sB (some (.int r)) []) := by
  refine MT.of (by decide) (Nat.le_of_ble_eq_true rfl) ?_
  intro X hXl C F hnm hrc hrs
  subst hXl
  have hk : 0 ≤ (x_R X).cells ∧ 0 ≤ (x_R X).slots := ⟨Nat.zero_le _, Nat.zero_le _⟩
  have hB : (sB (some (.int r)) []) (some (.int r)) [] := ⟨rfl, rfl⟩
  unfold f_X9_isWeight at hf
  have C : Cx X cX9_isWeight RX9 (some .boolean) cA 0 0 2 := C
  show Go X 2 0 0 0 [] [(0, .ref q_t), (1, .int a1)] []
  refine g_iload_n C 0 1 dX9_isWeight_0 rfl rfl ?_
  refine g_if_lt C 1 15 dX9_isWeight_1 (by decide) hf (fun hf => ?_) (fun hf => ?_)
  · refine g_iconst C 15 (0 : Int32) dX9_isWeight_15 (by decide) ?_
    cases hf
    exact g_zret C 16 dX9_isWeight_16 (by decide) F hB
  · refine g_iload_n C 4 1 dX9_isWeight_4 rfl rfl ?_
    refine g_sipush C 5 (1000 : Int32) dX9_isWeight_5 (by decide) ?_
    refine g_icmp_gt C 8 15 dX9_isWeight_8 (by decide) hf (fun hf => ?_) (fun hf => ?_)
    · refine g_iconst C 15 (0 : Int32) dX9_isWeight_15 (by decide) ?_
      cases hf
      exact g_zret C 16 dX9_isWeight_16 (by decide) F hB
    · refine g_iconst C 11 (1 : Int32) dX9_isWeight_11 (by decide) ?_
      refine g_goto C 12 16 dX9_isWeight_12 (by decide) ?_
      cases hf
      exact g_zret C 16 dX9_isWeight_16 (by decide) F hB

def f_X9_all (t_knots : Int32) : Option (Int32) :=
  some ((((1 : Int32) <<< (t_knots &&& 31)) - (1 : Int32)))

set_option maxRecDepth 100000 in
set_option maxHeartbeats 1000000 in
theorem c_X9_all (l : Launch) (cA : Nat → ClassId) (q_t : Nat) (t_knots : Int32) (q_t_weight : Nat) (q_t_beside : Nat) (q_t_edge : Nat) (t_rowed : Int32) (q_t_row : Nat) (t_bags : Int32) (q_t_bag : Nat) (q_t_up : Nat) (q_t_least : Nat) (t_q : Int32) (q_t_factor : Nat) (q_t_pairFactor : Nat) (q_t_forbidden : Nat) (q_t_mayNot : Nat) (q_t_fixed : Nat) (q_t_state : Nat) (q_t_count : Nat) (q_t_best : Nat) (q_t_bests : Nat) (t_allCount : Int64) (t_allBest : Int64) (t_allBests : Int64)   (r : Int32) (hf : f_X9_all t_knots = some r) : MT l cA yX9_all cX9_all 1 (some .int) ({ frames := 0, cells := 0, slots := 0, locals := 0 } : Room) [.ref q_t] [oB q_t 9 [.int t_knots, .ref q_t_weight, .ref q_t_beside, .ref q_t_edge, .int t_rowed, .ref q_t_row, .int t_bags, .ref q_t_bag, .ref q_t_up, .ref q_t_least, .int t_q, .ref q_t_factor, .ref q_t_pairFactor, .ref q_t_forbidden, .ref q_t_mayNot, .ref q_t_fixed, .ref q_t_state, .ref q_t_count, .ref q_t_best, .ref q_t_bests, .long t_allCount, .long t_allBest, .long t_allBests]] (sB (some (.int r)) [oB q_t 9 [.int t_knots, .ref q_t_weight, .ref q_t_beside, .ref q_t_edge, .int t_rowed, .ref q_t_row, .int t_bags, .ref q_t_bag, .ref q_t_up, .ref q_t_least, .int t_q, .ref q_t_factor, .ref q_t_pairFactor, .ref q_t_forbidden, .ref q_t_mayNot, .ref q_t_fixed, .ref q_t_state, .ref q_t_count, .ref q_t_best, .ref q_t_bests, .long t_allCount, .long t_allBest, .long t_allBests]]) := by
  refine MT.of (by decide) (Nat.le_of_ble_eq_true rfl) ?_
  intro X hXl C F hnm hrc hrs
  subst hXl
  have hk : 0 ≤ (x_R X).cells ∧ 0 ≤ (x_R X).slots := ⟨Nat.zero_le _, Nat.zero_le _⟩
  have hB : (sB (some (.int r)) [oB q_t 9 [.int t_knots, .ref q_t_weight, .ref q_t_beside, .ref q_t_edge, .int t_rowed, .ref q_t_row, .int t_bags, .ref q_t_bag, .ref q_t_up, .ref q_t_least, .int t_q, .ref q_t_factor, .ref q_t_pairFactor, .ref q_t_forbidden, .ref q_t_mayNot, .ref q_t_fixed, .ref q_t_state, .ref q_t_count, .ref q_t_best, .ref q_t_bests, .long t_allCount, .long t_allBest, .long t_allBests]]) (some (.int r)) [oB q_t 9 [.int t_knots, .ref q_t_weight, .ref q_t_beside, .ref q_t_edge, .int t_rowed, .ref q_t_row, .int t_bags, .ref q_t_bag, .ref q_t_up, .ref q_t_least, .int t_q, .ref q_t_factor, .ref q_t_pairFactor, .ref q_t_forbidden, .ref q_t_mayNot, .ref q_t_fixed, .ref q_t_state, .ref q_t_count, .ref q_t_best, .ref q_t_bests, .long t_allCount, .long t_allBest, .long t_allBests]] := ⟨rfl, rfl⟩
  unfold f_X9_all at hf
  have C : Cx X cX9_all RX9 (some .int) cA 0 0 1 := C
  show Go X 1 0 0 0 [oB q_t 9 [.int t_knots, .ref q_t_weight, .ref q_t_beside, .ref q_t_edge, .int t_rowed, .ref q_t_row, .int t_bags, .ref q_t_bag, .ref q_t_up, .ref q_t_least, .int t_q, .ref q_t_factor, .ref q_t_pairFactor, .ref q_t_forbidden, .ref q_t_mayNot, .ref q_t_fixed, .ref q_t_state, .ref q_t_count, .ref q_t_best, .ref q_t_bests, .long t_allCount, .long t_allBest, .long t_allBests]] [(0, .ref q_t)] []
  refine g_iconst C 0 (1 : Int32) dX9_all_0 (by decide) ?_
  refine g_aload_n C 1 0 dX9_all_1 rfl rfl ?_
  refine g_get C 2 0 0 dX9_all_2 inX9 rfl rfl (by decide) kw_339 rfl ?_
  refine g_ishl C 5 dX9_all_5 ?_
  refine g_iconst C 6 (1 : Int32) dX9_all_6 (by decide) ?_
  refine g_isub C 7 dX9_all_7 ?_
  cases hf
  exact g_iret C 8 dX9_all_8 F hB

def L_X9_bits_4 (a1 : Int32)  : Nat → Int32 → Int32 → Option (Int32)
  | 0, _, _ => none
  | n + 1, x2, x3 =>
    if x3 = 0 then
      some (x2)
    else
      bnd (x2 + (1 : Int32)) fun x2_3 =>
      bnd (x3 &&& (x3 - (1 : Int32))) fun x3_4 =>
      L_X9_bits_4 a1 n x2_3 x3_4

set_option maxRecDepth 100000 in
set_option maxHeartbeats 1000000 in
theorem w_X9_bits_4 (cA : Nat → ClassId) (q_t : Nat) (a1 : Int32) {X : XT}  (C : Cx X cX9_bits RX9 (some .int) cA 0 0 4) {kk nn : Nat} {BB : Option Value → va_W → Prop} (hk : kk ≤ (x_R X).cells ∧ nn ≤ (x_R X).slots) (F : Fx X BB kk nn) (r : Int32) (hB : BB (some (.int r)) [])  : ∀ (n : Nat) (x2 : Int32) (x3 : Int32), L_X9_bits_4 a1 n x2 x3 = some r → Go X 4 kk nn 4 [] [(2, .int x2), (3, .int x3)] [] := by
  intro n
  induction n with
  | zero => intro x2 x3 hf; exact no_some hf
  | succ n ih =>
    intro x2 x3 hf
    rw [L_X9_bits_4] at hf
    refine g_iload_n C 4 1 dX9_bits_4 rfl rfl ?_
    refine g_if_eq C 5 20 dX9_bits_5 (by decide) hf (fun hf => ?_) (fun hf => ?_)
    · refine g_iload_n C 20 0 dX9_bits_20 rfl rfl ?_
      cases hf
      exact g_iret C 21 dX9_bits_21 F hB
    · refine g_iinc C 8 0 (v := x2 + (1 : Int32)) (fun z => [(2, .int z), (3, .int x3)]) dX9_bits_8 rfl rfl (by decide) (fun _ => rfl) hf (fun x2_3 hf => ?_)
      refine g_iload_n C 11 1 dX9_bits_11 rfl rfl ?_
      refine g_iload_n C 12 1 dX9_bits_12 rfl rfl ?_
      refine g_iconst C 13 (1 : Int32) dX9_bits_13 (by decide) ?_
      refine g_isub C 14 dX9_bits_14 ?_
      refine g_iand C 15 dX9_bits_15 ?_
      refine g_istore_n C 16 (fun z => [(3, .int z), (2, .int x2_3)]) dX9_bits_16 rfl (by decide) (fun _ => rfl) hf (fun x3_4 hf => ?_)
      refine g_goto C 17 4 dX9_bits_17 (by decide) ?_
      refine g_lv [1, 0] rfl ?_
      exact ih x2_3 x3_4 hf
def f_X9_bits (a1 : Int32) : Option (Int32) :=
  bnd (0 : Int32) fun x2_1 =>
  bnd a1 fun x3_2 =>
  L_X9_bits_4 a1 NN x2_1 x3_2

set_option maxRecDepth 100000 in
set_option maxHeartbeats 1000000 in
theorem c_X9_bits (l : Launch) (cA : Nat → ClassId) (q_t : Nat)  (a1 : Int32) (r : Int32) (hf : f_X9_bits a1 = some r) : MT l cA yX9_bits cX9_bits 4 (some .int) ({ frames := 0, cells := 0, slots := 0, locals := 0 } : Room) [.ref q_t, .int a1] [] (sB (some (.int r)) []) := by
  refine MT.of (by decide) (Nat.le_of_ble_eq_true rfl) ?_
  intro X hXl C F hnm hrc hrs
  subst hXl
  have hk : 0 ≤ (x_R X).cells ∧ 0 ≤ (x_R X).slots := ⟨Nat.zero_le _, Nat.zero_le _⟩
  have hB : (sB (some (.int r)) []) (some (.int r)) [] := ⟨rfl, rfl⟩
  unfold f_X9_bits at hf
  have C : Cx X cX9_bits RX9 (some .int) cA 0 0 4 := C
  show Go X 4 0 0 0 [] [(0, .ref q_t), (1, .int a1)] []
  refine g_iconst C 0 (0 : Int32) dX9_bits_0 (by decide) ?_
  refine g_istore_n C 1 (fun z => [(2, .int z), (0, .ref q_t), (1, .int a1)]) dX9_bits_1 rfl (by decide) (fun _ => rfl) hf (fun x2_1 hf => ?_)
  refine g_iload_n C 2 2 dX9_bits_2 rfl rfl ?_
  refine g_istore_n C 3 (fun z => [(3, .int z), (2, .int x2_1), (0, .ref q_t), (1, .int a1)]) dX9_bits_3 rfl (by decide) (fun _ => rfl) hf (fun x3_2 hf => ?_)
  refine g_lv [1, 0] rfl ?_
  exact w_X9_bits_4 cA q_t a1 C hk F r hB NN x2_1 x3_2 hf

def f_X9_knot (a1 : Int32) (t_knots : Int32) (t_rowed : Int32) (t_bags : Int32) (t_weight : Nat → Int32) (t_beside : Nat → Int32) : Option (Int32 × Int32 × Int32 × Int32 × (Nat → Int32) × (Nat → Int32)) :=
  cal (f_X9_isWeight a1) fun u1 =>
  if u1 = 0 then
    some ((-2 : Int32), t_knots, t_rowed, t_bags, t_weight, t_beside)
  else
    if t_knots = (14 : Int32) then
      some ((-3 : Int32), t_knots, t_rowed, t_bags, t_weight, t_beside)
    else
      stI t_weight 14 t_knots a1 fun t_weight_2 =>
      stI t_beside 14 t_knots (0 : Int32) fun t_beside_3 =>
      bnd (t_knots + (1 : Int32)) fun t_knots_4 =>
      bnd (0 : Int32) fun t_rowed_5 =>
      bnd (0 : Int32) fun t_bags_6 =>
      some ((t_knots_4 - (1 : Int32)), t_knots_4, t_rowed_5, t_bags_6, t_weight_2, t_beside_3)

set_option maxRecDepth 100000 in
set_option maxHeartbeats 1000000 in
theorem c_X9_knot (l : Launch) (cA : Nat → ClassId) (q_t : Nat) (t_knots : Int32) (q_t_edge : Nat) (t_rowed : Int32) (q_t_row : Nat) (t_bags : Int32) (q_t_bag : Nat) (q_t_up : Nat) (q_t_least : Nat) (t_q : Int32) (q_t_factor : Nat) (q_t_pairFactor : Nat) (q_t_forbidden : Nat) (q_t_mayNot : Nat) (q_t_fixed : Nat) (q_t_state : Nat) (q_t_count : Nat) (q_t_best : Nat) (q_t_bests : Nat) (t_allCount : Int64) (t_allBest : Int64) (t_allBests : Int64) (q_t_weight : Nat) (t_weight : Nat → Int32) (q_t_beside : Nat) (t_beside : Nat → Int32)  (a1 : Int32) (r : Int32 × Int32 × Int32 × Int32 × (Nat → Int32) × (Nat → Int32)) (hf : f_X9_knot a1 t_knots t_rowed t_bags t_weight t_beside = some r) : MT l cA yX9_knot cX9_knot 2 (some .int) ({ frames := 1, cells := 0, slots := 0, locals := 21 } : Room) [.ref q_t, .int a1] [oB q_t 9 [.int t_knots, .ref q_t_weight, .ref q_t_beside, .ref q_t_edge, .int t_rowed, .ref q_t_row, .int t_bags, .ref q_t_bag, .ref q_t_up, .ref q_t_least, .int t_q, .ref q_t_factor, .ref q_t_pairFactor, .ref q_t_forbidden, .ref q_t_mayNot, .ref q_t_fixed, .ref q_t_state, .ref q_t_count, .ref q_t_best, .ref q_t_bests, .long t_allCount, .long t_allBest, .long t_allBests], aI cA q_t_weight 14 t_weight, aI cA q_t_beside 14 t_beside] (sB (some (.int r.1)) [oB q_t 9 [.int r.2.1, .ref q_t_weight, .ref q_t_beside, .ref q_t_edge, .int r.2.2.1, .ref q_t_row, .int r.2.2.2.1, .ref q_t_bag, .ref q_t_up, .ref q_t_least, .int t_q, .ref q_t_factor, .ref q_t_pairFactor, .ref q_t_forbidden, .ref q_t_mayNot, .ref q_t_fixed, .ref q_t_state, .ref q_t_count, .ref q_t_best, .ref q_t_bests, .long t_allCount, .long t_allBest, .long t_allBests], aI cA q_t_weight 14 r.2.2.2.2.1, aI cA q_t_beside 14 r.2.2.2.2.2]) := by
  refine MT.of (by decide) (Nat.le_of_ble_eq_true rfl) ?_
  intro X hXl C F hnm hrc hrs
  subst hXl
  have hk : 0 ≤ (x_R X).cells ∧ 0 ≤ (x_R X).slots := ⟨Nat.zero_le _, Nat.zero_le _⟩
  have hB : (sB (some (.int r.1)) [oB q_t 9 [.int r.2.1, .ref q_t_weight, .ref q_t_beside, .ref q_t_edge, .int r.2.2.1, .ref q_t_row, .int r.2.2.2.1, .ref q_t_bag, .ref q_t_up, .ref q_t_least, .int t_q, .ref q_t_factor, .ref q_t_pairFactor, .ref q_t_forbidden, .ref q_t_mayNot, .ref q_t_fixed, .ref q_t_state, .ref q_t_count, .ref q_t_best, .ref q_t_bests, .long t_allCount, .long t_allBest, .long t_allBests], aI cA q_t_weight 14 r.2.2.2.2.1, aI cA q_t_beside 14 r.2.2.2.2.2]) (some (.int r.1)) [oB q_t 9 [.int r.2.1, .ref q_t_weight, .ref q_t_beside, .ref q_t_edge, .int r.2.2.1, .ref q_t_row, .int r.2.2.2.1, .ref q_t_bag, .ref q_t_up, .ref q_t_least, .int t_q, .ref q_t_factor, .ref q_t_pairFactor, .ref q_t_forbidden, .ref q_t_mayNot, .ref q_t_fixed, .ref q_t_state, .ref q_t_count, .ref q_t_best, .ref q_t_bests, .long t_allCount, .long t_allBest, .long t_allBests], aI cA q_t_weight 14 r.2.2.2.2.1, aI cA q_t_beside 14 r.2.2.2.2.2] := ⟨rfl, rfl⟩
  unfold f_X9_knot at hf
  have C : Cx X cX9_knot RX9 (some .int) cA 1 21 2 := C
  show Go X 2 0 0 0 [oB q_t 9 [.int t_knots, .ref q_t_weight, .ref q_t_beside, .ref q_t_edge, .int t_rowed, .ref q_t_row, .int t_bags, .ref q_t_bag, .ref q_t_up, .ref q_t_least, .int t_q, .ref q_t_factor, .ref q_t_pairFactor, .ref q_t_forbidden, .ref q_t_mayNot, .ref q_t_fixed, .ref q_t_state, .ref q_t_count, .ref q_t_best, .ref q_t_bests, .long t_allCount, .long t_allBest, .long t_allBests], aI cA q_t_weight 14 t_weight, aI cA q_t_beside 14 t_beside] [(0, .ref q_t), (1, .int a1)] []
  refine g_aload_n C 0 0 dX9_knot_0 rfl rfl ?_
  refine g_iload_n C 1 1 dX9_knot_1 rfl rfl ?_
  obtain ⟨u1, hu1, hf⟩ := cal_some hf
  refine g_callV1 C 2 [] 0 (rest := []) dX9_knot_2 (c_X9_isWeight (x_l X) cA q_t a1 u1 hu1) kw_340 kw_341 kw_342 kw_343 kw_344 ok_X9_isWeight ⟨Nat.le_of_ble_eq_true rfl, Nat.le_of_ble_eq_true rfl⟩ hk ⟨rfl, rfl⟩ rfl rfl rfl rfl rfl (Nat.le_of_ble_eq_true rfl) rfl (ws' := [oB q_t 9 [.int t_knots, .ref q_t_weight, .ref q_t_beside, .ref q_t_edge, .int t_rowed, .ref q_t_row, .int t_bags, .ref q_t_bag, .ref q_t_up, .ref q_t_least, .int t_q, .ref q_t_factor, .ref q_t_pairFactor, .ref q_t_forbidden, .ref q_t_mayNot, .ref q_t_fixed, .ref q_t_state, .ref q_t_count, .ref q_t_best, .ref q_t_bests, .long t_allCount, .long t_allBest, .long t_allBests], aI cA q_t_weight 14 t_weight, aI cA q_t_beside 14 t_beside]) (st' := [.int u1]) (N0 := 3) rfl [none, none, none] (by decide) rfl rfl ?_
  refine g_if_ne C 5 11 dX9_knot_5 (by decide) hf (fun hf => ?_) (fun hf => ?_)
  · refine g_aload_n C 11 0 dX9_knot_11 rfl rfl ?_
    refine g_get C 12 0 0 dX9_knot_12 inX9 rfl rfl (by decide) kw_339 rfl ?_
    refine g_bipush C 15 (14 : Int32) dX9_knot_15 (by decide) ?_
    refine g_icmp_ne C 17 23 dX9_knot_17 (by decide) hf (fun hf => ?_) (fun hf => ?_)
    · refine g_aload_n C 23 0 dX9_knot_23 rfl rfl ?_
      refine g_get C 24 0 1 dX9_knot_24 inX9 rfl rfl (by decide) kw_345 rfl ?_
      refine g_aload_n C 27 0 dX9_knot_27 rfl rfl ?_
      refine g_get C 28 0 0 dX9_knot_28 inX9 rfl rfl (by decide) kw_339 rfl ?_
      refine g_iload_n C 31 1 dX9_knot_31 rfl rfl ?_
      refine g_iast C 32 1 (fun z => [oB q_t 9 [.int t_knots, .ref q_t_weight, .ref q_t_beside, .ref q_t_edge, .int t_rowed, .ref q_t_row, .int t_bags, .ref q_t_bag, .ref q_t_up, .ref q_t_least, .int t_q, .ref q_t_factor, .ref q_t_pairFactor, .ref q_t_forbidden, .ref q_t_mayNot, .ref q_t_fixed, .ref q_t_state, .ref q_t_count, .ref q_t_best, .ref q_t_bests, .long t_allCount, .long t_allBest, .long t_allBests], aI cA q_t_weight 14 z, aI cA q_t_beside 14 t_beside]) dX9_knot_32 rfl (fun _ => rfl) hf (fun t_weight_2 hf => ?_)
      refine g_aload_n C 33 0 dX9_knot_33 rfl rfl ?_
      refine g_get C 34 0 2 dX9_knot_34 inX9 rfl rfl (by decide) kw_346 rfl ?_
      refine g_aload_n C 37 0 dX9_knot_37 rfl rfl ?_
      refine g_get C 38 0 0 dX9_knot_38 inX9 rfl rfl (by decide) kw_339 rfl ?_
      refine g_iconst C 41 (0 : Int32) dX9_knot_41 (by decide) ?_
      refine g_iast C 42 2 (fun z => [oB q_t 9 [.int t_knots, .ref q_t_weight, .ref q_t_beside, .ref q_t_edge, .int t_rowed, .ref q_t_row, .int t_bags, .ref q_t_bag, .ref q_t_up, .ref q_t_least, .int t_q, .ref q_t_factor, .ref q_t_pairFactor, .ref q_t_forbidden, .ref q_t_mayNot, .ref q_t_fixed, .ref q_t_state, .ref q_t_count, .ref q_t_best, .ref q_t_bests, .long t_allCount, .long t_allBest, .long t_allBests], aI cA q_t_weight 14 t_weight_2, aI cA q_t_beside 14 z]) dX9_knot_42 rfl (fun _ => rfl) hf (fun t_beside_3 hf => ?_)
      refine g_aload_n C 43 0 dX9_knot_43 rfl rfl ?_
      refine g_dup C 44 dX9_knot_44 rfl ?_
      refine g_get C 45 0 0 dX9_knot_45 inX9 rfl rfl (by decide) kw_339 rfl ?_
      refine g_iconst C 48 (1 : Int32) dX9_knot_48 (by decide) ?_
      refine g_iadd C 49 dX9_knot_49 ?_
      refine g_puti C 50 0 0 tyX9 (fun z => [oB q_t 9 [.int z, .ref q_t_weight, .ref q_t_beside, .ref q_t_edge, .int t_rowed, .ref q_t_row, .int t_bags, .ref q_t_bag, .ref q_t_up, .ref q_t_least, .int t_q, .ref q_t_factor, .ref q_t_pairFactor, .ref q_t_forbidden, .ref q_t_mayNot, .ref q_t_fixed, .ref q_t_state, .ref q_t_count, .ref q_t_best, .ref q_t_bests, .long t_allCount, .long t_allBest, .long t_allBests], aI cA q_t_weight 14 t_weight_2, aI cA q_t_beside 14 t_beside_3]) dX9_knot_50 inX9 tyX9_ok nmX9 rfl rfl (by decide) kw_339 rfl rfl (Nat.le_of_ble_eq_true rfl) (fun _ => rfl) hf (fun t_knots_4 hf => ?_)
      refine g_aload_n C 53 0 dX9_knot_53 rfl rfl ?_
      refine g_iconst C 54 (0 : Int32) dX9_knot_54 (by decide) ?_
      refine g_puti C 55 0 4 tyX9 (fun z => [oB q_t 9 [.int t_knots_4, .ref q_t_weight, .ref q_t_beside, .ref q_t_edge, .int z, .ref q_t_row, .int t_bags, .ref q_t_bag, .ref q_t_up, .ref q_t_least, .int t_q, .ref q_t_factor, .ref q_t_pairFactor, .ref q_t_forbidden, .ref q_t_mayNot, .ref q_t_fixed, .ref q_t_state, .ref q_t_count, .ref q_t_best, .ref q_t_bests, .long t_allCount, .long t_allBest, .long t_allBests], aI cA q_t_weight 14 t_weight_2, aI cA q_t_beside 14 t_beside_3]) dX9_knot_55 inX9 tyX9_ok nmX9 rfl rfl (by decide) kw_347 rfl rfl (Nat.le_of_ble_eq_true rfl) (fun _ => rfl) hf (fun t_rowed_5 hf => ?_)
      refine g_aload_n C 58 0 dX9_knot_58 rfl rfl ?_
      refine g_iconst C 59 (0 : Int32) dX9_knot_59 (by decide) ?_
      refine g_puti C 60 0 6 tyX9 (fun z => [oB q_t 9 [.int t_knots_4, .ref q_t_weight, .ref q_t_beside, .ref q_t_edge, .int t_rowed_5, .ref q_t_row, .int z, .ref q_t_bag, .ref q_t_up, .ref q_t_least, .int t_q, .ref q_t_factor, .ref q_t_pairFactor, .ref q_t_forbidden, .ref q_t_mayNot, .ref q_t_fixed, .ref q_t_state, .ref q_t_count, .ref q_t_best, .ref q_t_bests, .long t_allCount, .long t_allBest, .long t_allBests], aI cA q_t_weight 14 t_weight_2, aI cA q_t_beside 14 t_beside_3]) dX9_knot_60 inX9 tyX9_ok nmX9 rfl rfl (by decide) kw_348 rfl rfl (Nat.le_of_ble_eq_true rfl) (fun _ => rfl) hf (fun t_bags_6 hf => ?_)
      refine g_aload_n C 63 0 dX9_knot_63 rfl rfl ?_
      refine g_get C 64 0 0 dX9_knot_64 inX9 rfl rfl (by decide) kw_339 rfl ?_
      refine g_iconst C 67 (1 : Int32) dX9_knot_67 (by decide) ?_
      refine g_isub C 68 dX9_knot_68 ?_
      cases hf
      exact g_iret C 69 dX9_knot_69 F hB
    · refine g_bipush C 20 (-3 : Int32) dX9_knot_20 (by decide) ?_
      cases hf
      exact g_iret C 22 dX9_knot_22 F hB
  · refine g_bipush C 8 (-2 : Int32) dX9_knot_8 (by decide) ?_
    cases hf
    exact g_iret C 10 dX9_knot_10 F hB

def f_X9_edge (a1 : Int32) (a2 : Int32) (a3 : Int32) (t_knots : Int32) (t_beside : Nat → Int32) (t_edge : Nat → Int32) : Option (Int32 × (Nat → Int32) × (Nat → Int32)) :=
  cal (f_X9_isKnot a1 t_knots) fun u1 =>
  if u1 = 0 then
    some ((-1 : Int32), t_beside, t_edge)
  else
    cal (f_X9_isKnot a2 t_knots) fun u2 =>
    if u2 = 0 then
      some ((-1 : Int32), t_beside, t_edge)
    else
      if a1 = a2 then
        some ((-2 : Int32), t_beside, t_edge)
      else
        cal (f_X9_isWeight a3) fun u3 =>
        if u3 = 0 then
          some ((-2 : Int32), t_beside, t_edge)
        else
          ldA t_beside 14 a1 fun v4 =>
          bnd ((v4 >>> (a2 &&& 31)) &&& (1 : Int32)) fun x4_5 =>
          ldA t_beside 14 a1 fun v6 =>
          stI t_beside 14 a1 (v6 ||| ((1 : Int32) <<< (a2 &&& 31))) fun t_beside_7 =>
          ldA t_beside_7 14 a2 fun v8 =>
          stI t_beside_7 14 a2 (v8 ||| ((1 : Int32) <<< (a1 &&& 31))) fun t_beside_9 =>
          stI t_edge 196 (((14 : Int32) * a1) + a2) a3 fun t_edge_10 =>
          stI t_edge_10 196 (((14 : Int32) * a2) + a1) a3 fun t_edge_11 =>
          some (((1 : Int32) - x4_5), t_beside_9, t_edge_11)

set_option maxRecDepth 100000 in
set_option maxHeartbeats 1000000 in
theorem c_X9_edge (l : Launch) (cA : Nat → ClassId) (q_t : Nat) (t_knots : Int32) (q_t_weight : Nat) (t_rowed : Int32) (q_t_row : Nat) (t_bags : Int32) (q_t_bag : Nat) (q_t_up : Nat) (q_t_least : Nat) (t_q : Int32) (q_t_factor : Nat) (q_t_pairFactor : Nat) (q_t_forbidden : Nat) (q_t_mayNot : Nat) (q_t_fixed : Nat) (q_t_state : Nat) (q_t_count : Nat) (q_t_best : Nat) (q_t_bests : Nat) (t_allCount : Int64) (t_allBest : Int64) (t_allBests : Int64) (q_t_beside : Nat) (t_beside : Nat → Int32) (q_t_edge : Nat) (t_edge : Nat → Int32)  (a1 : Int32) (a2 : Int32) (a3 : Int32) (r : Int32 × (Nat → Int32) × (Nat → Int32)) (hf : f_X9_edge a1 a2 a3 t_knots t_beside t_edge = some r) : MT l cA yX9_edge cX9_edge 5 (some .int) ({ frames := 1, cells := 0, slots := 0, locals := 21 } : Room) [.ref q_t, .int a1, .int a2, .int a3] [oB q_t 9 [.int t_knots, .ref q_t_weight, .ref q_t_beside, .ref q_t_edge, .int t_rowed, .ref q_t_row, .int t_bags, .ref q_t_bag, .ref q_t_up, .ref q_t_least, .int t_q, .ref q_t_factor, .ref q_t_pairFactor, .ref q_t_forbidden, .ref q_t_mayNot, .ref q_t_fixed, .ref q_t_state, .ref q_t_count, .ref q_t_best, .ref q_t_bests, .long t_allCount, .long t_allBest, .long t_allBests], aI cA q_t_beside 14 t_beside, aI cA q_t_edge 196 t_edge] (sB (some (.int r.1)) [oB q_t 9 [.int t_knots, .ref q_t_weight, .ref q_t_beside, .ref q_t_edge, .int t_rowed, .ref q_t_row, .int t_bags, .ref q_t_bag, .ref q_t_up, .ref q_t_least, .int t_q, .ref q_t_factor, .ref q_t_pairFactor, .ref q_t_forbidden, .ref q_t_mayNot, .ref q_t_fixed, .ref q_t_state, .ref q_t_count, .ref q_t_best, .ref q_t_bests, .long t_allCount, .long t_allBest, .long t_allBests], aI cA q_t_beside 14 r.2.1, aI cA q_t_edge 196 r.2.2]) := by
  refine MT.of (by decide) (Nat.le_of_ble_eq_true rfl) ?_
  intro X hXl C F hnm hrc hrs
  subst hXl
  have hk : 0 ≤ (x_R X).cells ∧ 0 ≤ (x_R X).slots := ⟨Nat.zero_le _, Nat.zero_le _⟩
  have hB : (sB (some (.int r.1)) [oB q_t 9 [.int t_knots, .ref q_t_weight, .ref q_t_beside, .ref q_t_edge, .int t_rowed, .ref q_t_row, .int t_bags, .ref q_t_bag, .ref q_t_up, .ref q_t_least, .int t_q, .ref q_t_factor, .ref q_t_pairFactor, .ref q_t_forbidden, .ref q_t_mayNot, .ref q_t_fixed, .ref q_t_state, .ref q_t_count, .ref q_t_best, .ref q_t_bests, .long t_allCount, .long t_allBest, .long t_allBests], aI cA q_t_beside 14 r.2.1, aI cA q_t_edge 196 r.2.2]) (some (.int r.1)) [oB q_t 9 [.int t_knots, .ref q_t_weight, .ref q_t_beside, .ref q_t_edge, .int t_rowed, .ref q_t_row, .int t_bags, .ref q_t_bag, .ref q_t_up, .ref q_t_least, .int t_q, .ref q_t_factor, .ref q_t_pairFactor, .ref q_t_forbidden, .ref q_t_mayNot, .ref q_t_fixed, .ref q_t_state, .ref q_t_count, .ref q_t_best, .ref q_t_bests, .long t_allCount, .long t_allBest, .long t_allBests], aI cA q_t_beside 14 r.2.1, aI cA q_t_edge 196 r.2.2] := ⟨rfl, rfl⟩
  unfold f_X9_edge at hf
  have C : Cx X cX9_edge RX9 (some .int) cA 1 21 5 := C
  show Go X 5 0 0 0 [oB q_t 9 [.int t_knots, .ref q_t_weight, .ref q_t_beside, .ref q_t_edge, .int t_rowed, .ref q_t_row, .int t_bags, .ref q_t_bag, .ref q_t_up, .ref q_t_least, .int t_q, .ref q_t_factor, .ref q_t_pairFactor, .ref q_t_forbidden, .ref q_t_mayNot, .ref q_t_fixed, .ref q_t_state, .ref q_t_count, .ref q_t_best, .ref q_t_bests, .long t_allCount, .long t_allBest, .long t_allBests], aI cA q_t_beside 14 t_beside, aI cA q_t_edge 196 t_edge] [(0, .ref q_t), (1, .int a1), (2, .int a2), (3, .int a3)] []
  refine g_aload_n C 0 0 dX9_edge_0 rfl rfl ?_
  refine g_iload_n C 1 1 dX9_edge_1 rfl rfl ?_
  obtain ⟨u1, hu1, hf⟩ := cal_some hf
  refine g_callV1 C 2 [0] 0 (rest := []) dX9_edge_2 (c_X9_isKnot (x_l X) cA q_t t_knots q_t_weight q_t_beside q_t_edge t_rowed q_t_row t_bags q_t_bag q_t_up q_t_least t_q q_t_factor q_t_pairFactor q_t_forbidden q_t_mayNot q_t_fixed q_t_state q_t_count q_t_best q_t_bests t_allCount t_allBest t_allBests a1 u1 hu1) kw_349 kw_350 kw_351 kw_343 kw_352 ok_X9_isKnot ⟨Nat.le_of_ble_eq_true rfl, Nat.le_of_ble_eq_true rfl⟩ hk ⟨rfl, rfl⟩ rfl rfl rfl rfl rfl (Nat.le_of_ble_eq_true rfl) rfl (ws' := [oB q_t 9 [.int t_knots, .ref q_t_weight, .ref q_t_beside, .ref q_t_edge, .int t_rowed, .ref q_t_row, .int t_bags, .ref q_t_bag, .ref q_t_up, .ref q_t_least, .int t_q, .ref q_t_factor, .ref q_t_pairFactor, .ref q_t_forbidden, .ref q_t_mayNot, .ref q_t_fixed, .ref q_t_state, .ref q_t_count, .ref q_t_best, .ref q_t_bests, .long t_allCount, .long t_allBest, .long t_allBests], aI cA q_t_beside 14 t_beside, aI cA q_t_edge 196 t_edge]) (st' := [.int u1]) (N0 := 3) rfl [some 0, none, none] (by decide) rfl rfl ?_
  refine g_if_eq C 5 16 dX9_edge_5 (by decide) hf (fun hf => ?_) (fun hf => ?_)
  · refine g_iconst C 16 (-1 : Int32) dX9_edge_16 (by decide) ?_
    cases hf
    exact g_iret C 17 dX9_edge_17 F hB
  · refine g_aload_n C 8 0 dX9_edge_8 rfl rfl ?_
    refine g_iload_n C 9 2 dX9_edge_9 rfl rfl ?_
    obtain ⟨u2, hu2, hf⟩ := cal_some hf
    refine g_callV1 C 10 [0] 0 (rest := []) dX9_edge_10 (c_X9_isKnot (x_l X) cA q_t t_knots q_t_weight q_t_beside q_t_edge t_rowed q_t_row t_bags q_t_bag q_t_up q_t_least t_q q_t_factor q_t_pairFactor q_t_forbidden q_t_mayNot q_t_fixed q_t_state q_t_count q_t_best q_t_bests t_allCount t_allBest t_allBests a2 u2 hu2) kw_349 kw_350 kw_351 kw_343 kw_352 ok_X9_isKnot ⟨Nat.le_of_ble_eq_true rfl, Nat.le_of_ble_eq_true rfl⟩ hk ⟨rfl, rfl⟩ rfl rfl rfl rfl rfl (Nat.le_of_ble_eq_true rfl) rfl (ws' := [oB q_t 9 [.int t_knots, .ref q_t_weight, .ref q_t_beside, .ref q_t_edge, .int t_rowed, .ref q_t_row, .int t_bags, .ref q_t_bag, .ref q_t_up, .ref q_t_least, .int t_q, .ref q_t_factor, .ref q_t_pairFactor, .ref q_t_forbidden, .ref q_t_mayNot, .ref q_t_fixed, .ref q_t_state, .ref q_t_count, .ref q_t_best, .ref q_t_bests, .long t_allCount, .long t_allBest, .long t_allBests], aI cA q_t_beside 14 t_beside, aI cA q_t_edge 196 t_edge]) (st' := [.int u2]) (N0 := 3) rfl [some 0, none, none] (by decide) rfl rfl ?_
    refine g_if_ne C 13 18 dX9_edge_13 (by decide) hf (fun hf => ?_) (fun hf => ?_)
    · refine g_iload_n C 18 1 dX9_edge_18 rfl rfl ?_
      refine g_iload_n C 19 2 dX9_edge_19 rfl rfl ?_
      refine g_icmp_eq C 20 31 dX9_edge_20 (by decide) hf (fun hf => ?_) (fun hf => ?_)
      · refine g_bipush C 31 (-2 : Int32) dX9_edge_31 (by decide) ?_
        cases hf
        exact g_iret C 33 dX9_edge_33 F hB
      · refine g_aload_n C 23 0 dX9_edge_23 rfl rfl ?_
        refine g_iload_n C 24 3 dX9_edge_24 rfl rfl ?_
        obtain ⟨u3, hu3, hf⟩ := cal_some hf
        refine g_callV1 C 25 [] 0 (rest := []) dX9_edge_25 (c_X9_isWeight (x_l X) cA q_t a3 u3 hu3) kw_340 kw_341 kw_342 kw_343 kw_344 ok_X9_isWeight ⟨Nat.le_of_ble_eq_true rfl, Nat.le_of_ble_eq_true rfl⟩ hk ⟨rfl, rfl⟩ rfl rfl rfl rfl rfl (Nat.le_of_ble_eq_true rfl) rfl (ws' := [oB q_t 9 [.int t_knots, .ref q_t_weight, .ref q_t_beside, .ref q_t_edge, .int t_rowed, .ref q_t_row, .int t_bags, .ref q_t_bag, .ref q_t_up, .ref q_t_least, .int t_q, .ref q_t_factor, .ref q_t_pairFactor, .ref q_t_forbidden, .ref q_t_mayNot, .ref q_t_fixed, .ref q_t_state, .ref q_t_count, .ref q_t_best, .ref q_t_bests, .long t_allCount, .long t_allBest, .long t_allBests], aI cA q_t_beside 14 t_beside, aI cA q_t_edge 196 t_edge]) (st' := [.int u3]) (N0 := 3) rfl [none, none, none] (by decide) rfl rfl ?_
        refine g_if_ne C 28 34 dX9_edge_28 (by decide) hf (fun hf => ?_) (fun hf => ?_)
        · refine g_aload_n C 34 0 dX9_edge_34 rfl rfl ?_
          refine g_get C 35 0 2 dX9_edge_35 inX9 rfl rfl (by decide) kw_346 rfl ?_
          refine g_iload_n C 38 1 dX9_edge_38 rfl rfl ?_
          refine g_iald C 39 1 dX9_edge_39 rfl hf (fun v4 hf => ?_)
          refine g_iload_n C 40 2 dX9_edge_40 rfl rfl ?_
          refine g_ishr C 41 dX9_edge_41 ?_
          refine g_iconst C 42 (1 : Int32) dX9_edge_42 (by decide) ?_
          refine g_iand C 43 dX9_edge_43 ?_
          refine g_istore C 44 (fun z => [(4, .int z), (0, .ref q_t), (1, .int a1), (2, .int a2), (3, .int a3)]) dX9_edge_44 (by decide) (fun _ => rfl) hf (fun x4_5 hf => ?_)
          refine g_aload_n C 46 1 dX9_edge_46 rfl rfl ?_
          refine g_get C 47 0 2 dX9_edge_47 inX9 rfl rfl (by decide) kw_346 rfl ?_
          refine g_iload_n C 50 2 dX9_edge_50 rfl rfl ?_
          refine g_dup2 C 51 dX9_edge_51 rfl rfl ?_
          refine g_iald C 52 1 dX9_edge_52 rfl hf (fun v6 hf => ?_)
          refine g_iconst C 53 (1 : Int32) dX9_edge_53 (by decide) ?_
          refine g_iload_n C 54 3 dX9_edge_54 rfl rfl ?_
          refine g_ishl C 55 dX9_edge_55 ?_
          refine g_ior C 56 dX9_edge_56 ?_
          refine g_iast C 57 1 (fun z => [oB q_t 9 [.int t_knots, .ref q_t_weight, .ref q_t_beside, .ref q_t_edge, .int t_rowed, .ref q_t_row, .int t_bags, .ref q_t_bag, .ref q_t_up, .ref q_t_least, .int t_q, .ref q_t_factor, .ref q_t_pairFactor, .ref q_t_forbidden, .ref q_t_mayNot, .ref q_t_fixed, .ref q_t_state, .ref q_t_count, .ref q_t_best, .ref q_t_bests, .long t_allCount, .long t_allBest, .long t_allBests], aI cA q_t_beside 14 z, aI cA q_t_edge 196 t_edge]) dX9_edge_57 rfl (fun _ => rfl) hf (fun t_beside_7 hf => ?_)
          refine g_aload_n C 58 1 dX9_edge_58 rfl rfl ?_
          refine g_get C 59 0 2 dX9_edge_59 inX9 rfl rfl (by decide) kw_346 rfl ?_
          refine g_iload_n C 62 3 dX9_edge_62 rfl rfl ?_
          refine g_dup2 C 63 dX9_edge_63 rfl rfl ?_
          refine g_iald C 64 1 dX9_edge_64 rfl hf (fun v8 hf => ?_)
          refine g_iconst C 65 (1 : Int32) dX9_edge_65 (by decide) ?_
          refine g_iload_n C 66 2 dX9_edge_66 rfl rfl ?_
          refine g_ishl C 67 dX9_edge_67 ?_
          refine g_ior C 68 dX9_edge_68 ?_
          refine g_iast C 69 1 (fun z => [oB q_t 9 [.int t_knots, .ref q_t_weight, .ref q_t_beside, .ref q_t_edge, .int t_rowed, .ref q_t_row, .int t_bags, .ref q_t_bag, .ref q_t_up, .ref q_t_least, .int t_q, .ref q_t_factor, .ref q_t_pairFactor, .ref q_t_forbidden, .ref q_t_mayNot, .ref q_t_fixed, .ref q_t_state, .ref q_t_count, .ref q_t_best, .ref q_t_bests, .long t_allCount, .long t_allBest, .long t_allBests], aI cA q_t_beside 14 z, aI cA q_t_edge 196 t_edge]) dX9_edge_69 rfl (fun _ => rfl) hf (fun t_beside_9 hf => ?_)
          refine g_aload_n C 70 1 dX9_edge_70 rfl rfl ?_
          refine g_get C 71 0 3 dX9_edge_71 inX9 rfl rfl (by decide) kw_353 rfl ?_
          refine g_bipush C 74 (14 : Int32) dX9_edge_74 (by decide) ?_
          refine g_iload_n C 76 2 dX9_edge_76 rfl rfl ?_
          refine g_imul C 77 dX9_edge_77 ?_
          refine g_iload_n C 78 3 dX9_edge_78 rfl rfl ?_
          refine g_iadd C 79 dX9_edge_79 ?_
          refine g_iload_n C 80 4 dX9_edge_80 rfl rfl ?_
          refine g_iast C 81 2 (fun z => [oB q_t 9 [.int t_knots, .ref q_t_weight, .ref q_t_beside, .ref q_t_edge, .int t_rowed, .ref q_t_row, .int t_bags, .ref q_t_bag, .ref q_t_up, .ref q_t_least, .int t_q, .ref q_t_factor, .ref q_t_pairFactor, .ref q_t_forbidden, .ref q_t_mayNot, .ref q_t_fixed, .ref q_t_state, .ref q_t_count, .ref q_t_best, .ref q_t_bests, .long t_allCount, .long t_allBest, .long t_allBests], aI cA q_t_beside 14 t_beside_9, aI cA q_t_edge 196 z]) dX9_edge_81 rfl (fun _ => rfl) hf (fun t_edge_10 hf => ?_)
          refine g_aload_n C 82 1 dX9_edge_82 rfl rfl ?_
          refine g_get C 83 0 3 dX9_edge_83 inX9 rfl rfl (by decide) kw_353 rfl ?_
          refine g_bipush C 86 (14 : Int32) dX9_edge_86 (by decide) ?_
          refine g_iload_n C 88 3 dX9_edge_88 rfl rfl ?_
          refine g_imul C 89 dX9_edge_89 ?_
          refine g_iload_n C 90 2 dX9_edge_90 rfl rfl ?_
          refine g_iadd C 91 dX9_edge_91 ?_
          refine g_iload_n C 92 4 dX9_edge_92 rfl rfl ?_
          refine g_iast C 93 2 (fun z => [oB q_t 9 [.int t_knots, .ref q_t_weight, .ref q_t_beside, .ref q_t_edge, .int t_rowed, .ref q_t_row, .int t_bags, .ref q_t_bag, .ref q_t_up, .ref q_t_least, .int t_q, .ref q_t_factor, .ref q_t_pairFactor, .ref q_t_forbidden, .ref q_t_mayNot, .ref q_t_fixed, .ref q_t_state, .ref q_t_count, .ref q_t_best, .ref q_t_bests, .long t_allCount, .long t_allBest, .long t_allBests], aI cA q_t_beside 14 t_beside_9, aI cA q_t_edge 196 z]) dX9_edge_93 rfl (fun _ => rfl) hf (fun t_edge_11 hf => ?_)
          refine g_iconst C 94 (1 : Int32) dX9_edge_94 (by decide) ?_
          refine g_iload C 95 0 dX9_edge_95 rfl ?_
          refine g_isub C 97 dX9_edge_97 ?_
          cases hf
          exact g_iret C 98 dX9_edge_98 F hB
        · refine g_bipush C 31 (-2 : Int32) dX9_edge_31 (by decide) ?_
          cases hf
          exact g_iret C 33 dX9_edge_33 F hB
    · refine g_iconst C 16 (-1 : Int32) dX9_edge_16 (by decide) ?_
      cases hf
      exact g_iret C 17 dX9_edge_17 F hB

def f_X9_isEdge (a1 : Int32) (a2 : Int32) (t_knots : Int32) (t_beside : Nat → Int32) : Option (Int32) :=
  cal (f_X9_isKnot a1 t_knots) fun u1 =>
  if u1 = 0 then
    some ((0 : Int32))
  else
    cal (f_X9_isKnot a2 t_knots) fun u2 =>
    if u2 = 0 then
      some ((0 : Int32))
    else
      ldA t_beside 14 a1 fun v3 =>
      if ((v3 >>> (a2 &&& 31)) &&& (1 : Int32)) = (1 : Int32) then
        some ((1 : Int32))
      else
        some ((0 : Int32))

set_option maxRecDepth 100000 in
set_option maxHeartbeats 1000000 in
theorem c_X9_isEdge (l : Launch) (cA : Nat → ClassId) (q_t : Nat) (t_knots : Int32) (q_t_weight : Nat) (q_t_edge : Nat) (t_rowed : Int32) (q_t_row : Nat) (t_bags : Int32) (q_t_bag : Nat) (q_t_up : Nat) (q_t_least : Nat) (t_q : Int32) (q_t_factor : Nat) (q_t_pairFactor : Nat) (q_t_forbidden : Nat) (q_t_mayNot : Nat) (q_t_fixed : Nat) (q_t_state : Nat) (q_t_count : Nat) (q_t_best : Nat) (q_t_bests : Nat) (t_allCount : Int64) (t_allBest : Int64) (t_allBests : Int64) (q_t_beside : Nat) (t_beside : Nat → Int32)  (a1 : Int32) (a2 : Int32) (r : Int32) (hf : f_X9_isEdge a1 a2 t_knots t_beside = some r) : MT l cA yX9_isEdge cX9_isEdge 3 (some .boolean) ({ frames := 1, cells := 0, slots := 0, locals := 21 } : Room) [.ref q_t, .int a1, .int a2] [oB q_t 9 [.int t_knots, .ref q_t_weight, .ref q_t_beside, .ref q_t_edge, .int t_rowed, .ref q_t_row, .int t_bags, .ref q_t_bag, .ref q_t_up, .ref q_t_least, .int t_q, .ref q_t_factor, .ref q_t_pairFactor, .ref q_t_forbidden, .ref q_t_mayNot, .ref q_t_fixed, .ref q_t_state, .ref q_t_count, .ref q_t_best, .ref q_t_bests, .long t_allCount, .long t_allBest, .long t_allBests], aI cA q_t_beside 14 t_beside] (sB (some (.int r)) [oB q_t 9 [.int t_knots, .ref q_t_weight, .ref q_t_beside, .ref q_t_edge, .int t_rowed, .ref q_t_row, .int t_bags, .ref q_t_bag, .ref q_t_up, .ref q_t_least, .int t_q, .ref q_t_factor, .ref q_t_pairFactor, .ref q_t_forbidden, .ref q_t_mayNot, .ref q_t_fixed, .ref q_t_state, .ref q_t_count, .ref q_t_best, .ref q_t_bests, .long t_allCount, .long t_allBest, .long t_allBests], aI cA q_t_beside 14 t_beside]) := by
  refine MT.of (by decide) (Nat.le_of_ble_eq_true rfl) ?_
  intro X hXl C F hnm hrc hrs
  subst hXl
  have hk : 0 ≤ (x_R X).cells ∧ 0 ≤ (x_R X).slots := ⟨Nat.zero_le _, Nat.zero_le _⟩
  have hB : (sB (some (.int r)) [oB q_t 9 [.int t_knots, .ref q_t_weight, .ref q_t_beside, .ref q_t_edge, .int t_rowed, .ref q_t_row, .int t_bags, .ref q_t_bag, .ref q_t_up, .ref q_t_least, .int t_q, .ref q_t_factor, .ref q_t_pairFactor, .ref q_t_forbidden, .ref q_t_mayNot, .ref q_t_fixed, .ref q_t_state, .ref q_t_count, .ref q_t_best, .ref q_t_bests, .long t_allCount, .long t_allBest, .long t_allBests], aI cA q_t_beside 14 t_beside]) (some (.int r)) [oB q_t 9 [.int t_knots, .ref q_t_weight, .ref q_t_beside, .ref q_t_edge, .int t_rowed, .ref q_t_row, .int t_bags, .ref q_t_bag, .ref q_t_up, .ref q_t_least, .int t_q, .ref q_t_factor, .ref q_t_pairFactor, .ref q_t_forbidden, .ref q_t_mayNot, .ref q_t_fixed, .ref q_t_state, .ref q_t_count, .ref q_t_best, .ref q_t_bests, .long t_allCount, .long t_allBest, .long t_allBests], aI cA q_t_beside 14 t_beside] := ⟨rfl, rfl⟩
  unfold f_X9_isEdge at hf
  have C : Cx X cX9_isEdge RX9 (some .boolean) cA 1 21 3 := C
  show Go X 3 0 0 0 [oB q_t 9 [.int t_knots, .ref q_t_weight, .ref q_t_beside, .ref q_t_edge, .int t_rowed, .ref q_t_row, .int t_bags, .ref q_t_bag, .ref q_t_up, .ref q_t_least, .int t_q, .ref q_t_factor, .ref q_t_pairFactor, .ref q_t_forbidden, .ref q_t_mayNot, .ref q_t_fixed, .ref q_t_state, .ref q_t_count, .ref q_t_best, .ref q_t_bests, .long t_allCount, .long t_allBest, .long t_allBests], aI cA q_t_beside 14 t_beside] [(0, .ref q_t), (1, .int a1), (2, .int a2)] []
  refine g_aload_n C 0 0 dX9_isEdge_0 rfl rfl ?_
  refine g_iload_n C 1 1 dX9_isEdge_1 rfl rfl ?_
  obtain ⟨u1, hu1, hf⟩ := cal_some hf
  refine g_callV1 C 2 [0] 0 (rest := []) dX9_isEdge_2 (c_X9_isKnot (x_l X) cA q_t t_knots q_t_weight q_t_beside q_t_edge t_rowed q_t_row t_bags q_t_bag q_t_up q_t_least t_q q_t_factor q_t_pairFactor q_t_forbidden q_t_mayNot q_t_fixed q_t_state q_t_count q_t_best q_t_bests t_allCount t_allBest t_allBests a1 u1 hu1) kw_349 kw_350 kw_351 kw_343 kw_352 ok_X9_isKnot ⟨Nat.le_of_ble_eq_true rfl, Nat.le_of_ble_eq_true rfl⟩ hk ⟨rfl, rfl⟩ rfl rfl rfl rfl rfl (Nat.le_of_ble_eq_true rfl) rfl (ws' := [oB q_t 9 [.int t_knots, .ref q_t_weight, .ref q_t_beside, .ref q_t_edge, .int t_rowed, .ref q_t_row, .int t_bags, .ref q_t_bag, .ref q_t_up, .ref q_t_least, .int t_q, .ref q_t_factor, .ref q_t_pairFactor, .ref q_t_forbidden, .ref q_t_mayNot, .ref q_t_fixed, .ref q_t_state, .ref q_t_count, .ref q_t_best, .ref q_t_bests, .long t_allCount, .long t_allBest, .long t_allBests], aI cA q_t_beside 14 t_beside]) (st' := [.int u1]) (N0 := 2) rfl [some 0, none] (by decide) rfl rfl ?_
  refine g_if_eq C 5 34 dX9_isEdge_5 (by decide) hf (fun hf => ?_) (fun hf => ?_)
  · refine g_iconst C 34 (0 : Int32) dX9_isEdge_34 (by decide) ?_
    cases hf
    exact g_zret C 35 dX9_isEdge_35 (by decide) F hB
  · refine g_aload_n C 8 0 dX9_isEdge_8 rfl rfl ?_
    refine g_iload_n C 9 2 dX9_isEdge_9 rfl rfl ?_
    obtain ⟨u2, hu2, hf⟩ := cal_some hf
    refine g_callV1 C 10 [0] 0 (rest := []) dX9_isEdge_10 (c_X9_isKnot (x_l X) cA q_t t_knots q_t_weight q_t_beside q_t_edge t_rowed q_t_row t_bags q_t_bag q_t_up q_t_least t_q q_t_factor q_t_pairFactor q_t_forbidden q_t_mayNot q_t_fixed q_t_state q_t_count q_t_best q_t_bests t_allCount t_allBest t_allBests a2 u2 hu2) kw_349 kw_350 kw_351 kw_343 kw_352 ok_X9_isKnot ⟨Nat.le_of_ble_eq_true rfl, Nat.le_of_ble_eq_true rfl⟩ hk ⟨rfl, rfl⟩ rfl rfl rfl rfl rfl (Nat.le_of_ble_eq_true rfl) rfl (ws' := [oB q_t 9 [.int t_knots, .ref q_t_weight, .ref q_t_beside, .ref q_t_edge, .int t_rowed, .ref q_t_row, .int t_bags, .ref q_t_bag, .ref q_t_up, .ref q_t_least, .int t_q, .ref q_t_factor, .ref q_t_pairFactor, .ref q_t_forbidden, .ref q_t_mayNot, .ref q_t_fixed, .ref q_t_state, .ref q_t_count, .ref q_t_best, .ref q_t_bests, .long t_allCount, .long t_allBest, .long t_allBests], aI cA q_t_beside 14 t_beside]) (st' := [.int u2]) (N0 := 2) rfl [some 0, none] (by decide) rfl rfl ?_
    refine g_if_eq C 13 34 dX9_isEdge_13 (by decide) hf (fun hf => ?_) (fun hf => ?_)
    · refine g_iconst C 34 (0 : Int32) dX9_isEdge_34 (by decide) ?_
      cases hf
      exact g_zret C 35 dX9_isEdge_35 (by decide) F hB
    · refine g_aload_n C 16 0 dX9_isEdge_16 rfl rfl ?_
      refine g_get C 17 0 2 dX9_isEdge_17 inX9 rfl rfl (by decide) kw_346 rfl ?_
      refine g_iload_n C 20 1 dX9_isEdge_20 rfl rfl ?_
      refine g_iald C 21 1 dX9_isEdge_21 rfl hf (fun v3 hf => ?_)
      refine g_iload_n C 22 2 dX9_isEdge_22 rfl rfl ?_
      refine g_ishr C 23 dX9_isEdge_23 ?_
      refine g_iconst C 24 (1 : Int32) dX9_isEdge_24 (by decide) ?_
      refine g_iand C 25 dX9_isEdge_25 ?_
      refine g_iconst C 26 (1 : Int32) dX9_isEdge_26 (by decide) ?_
      refine g_icmp_ne C 27 34 dX9_isEdge_27 (by decide) hf (fun hf => ?_) (fun hf => ?_)
      · refine g_iconst C 34 (0 : Int32) dX9_isEdge_34 (by decide) ?_
        cases hf
        exact g_zret C 35 dX9_isEdge_35 (by decide) F hB
      · refine g_iconst C 30 (1 : Int32) dX9_isEdge_30 (by decide) ?_
        refine g_goto C 31 35 dX9_isEdge_31 (by decide) ?_
        cases hf
        exact g_zret C 35 dX9_isEdge_35 (by decide) F hB

def f_X9_cut (a1 : Int32) (a2 : Int32) (t_knots : Int32) (t_beside : Nat → Int32) (t_edge : Nat → Int32) : Option (Int32 × (Nat → Int32)) :=
  cal (f_X9_isEdge a1 a2 t_knots t_beside) fun u1 =>
  if u1 = 0 then
    some ((-1 : Int32), t_beside)
  else
    ldA t_beside 14 a1 fun v2 =>
    stI t_beside 14 a1 (v2 &&& (((1 : Int32) <<< (a2 &&& 31)) ^^^ (-1 : Int32))) fun t_beside_3 =>
    ldA t_beside_3 14 a2 fun v4 =>
    stI t_beside_3 14 a2 (v4 &&& (((1 : Int32) <<< (a1 &&& 31)) ^^^ (-1 : Int32))) fun t_beside_5 =>
    ldA t_edge 196 (((14 : Int32) * a1) + a2) fun v6 =>
    some (v6, t_beside_5)

set_option maxRecDepth 100000 in
set_option maxHeartbeats 1000000 in
theorem c_X9_cut (l : Launch) (cA : Nat → ClassId) (q_t : Nat) (t_knots : Int32) (q_t_weight : Nat) (t_rowed : Int32) (q_t_row : Nat) (t_bags : Int32) (q_t_bag : Nat) (q_t_up : Nat) (q_t_least : Nat) (t_q : Int32) (q_t_factor : Nat) (q_t_pairFactor : Nat) (q_t_forbidden : Nat) (q_t_mayNot : Nat) (q_t_fixed : Nat) (q_t_state : Nat) (q_t_count : Nat) (q_t_best : Nat) (q_t_bests : Nat) (t_allCount : Int64) (t_allBest : Int64) (t_allBests : Int64) (q_t_beside : Nat) (t_beside : Nat → Int32) (q_t_edge : Nat) (t_edge : Nat → Int32)  (a1 : Int32) (a2 : Int32) (r : Int32 × (Nat → Int32)) (hf : f_X9_cut a1 a2 t_knots t_beside t_edge = some r) : MT l cA yX9_cut cX9_cut 3 (some .int) ({ frames := 2, cells := 0, slots := 0, locals := 43 } : Room) [.ref q_t, .int a1, .int a2] [oB q_t 9 [.int t_knots, .ref q_t_weight, .ref q_t_beside, .ref q_t_edge, .int t_rowed, .ref q_t_row, .int t_bags, .ref q_t_bag, .ref q_t_up, .ref q_t_least, .int t_q, .ref q_t_factor, .ref q_t_pairFactor, .ref q_t_forbidden, .ref q_t_mayNot, .ref q_t_fixed, .ref q_t_state, .ref q_t_count, .ref q_t_best, .ref q_t_bests, .long t_allCount, .long t_allBest, .long t_allBests], aI cA q_t_beside 14 t_beside, aI cA q_t_edge 196 t_edge] (sB (some (.int r.1)) [oB q_t 9 [.int t_knots, .ref q_t_weight, .ref q_t_beside, .ref q_t_edge, .int t_rowed, .ref q_t_row, .int t_bags, .ref q_t_bag, .ref q_t_up, .ref q_t_least, .int t_q, .ref q_t_factor, .ref q_t_pairFactor, .ref q_t_forbidden, .ref q_t_mayNot, .ref q_t_fixed, .ref q_t_state, .ref q_t_count, .ref q_t_best, .ref q_t_bests, .long t_allCount, .long t_allBest, .long t_allBests], aI cA q_t_beside 14 r.2, aI cA q_t_edge 196 t_edge]) := by
  refine MT.of (by decide) (Nat.le_of_ble_eq_true rfl) ?_
  intro X hXl C F hnm hrc hrs
  subst hXl
  have hk : 0 ≤ (x_R X).cells ∧ 0 ≤ (x_R X).slots := ⟨Nat.zero_le _, Nat.zero_le _⟩
  have hB : (sB (some (.int r.1)) [oB q_t 9 [.int t_knots, .ref q_t_weight, .ref q_t_beside, .ref q_t_edge, .int t_rowed, .ref q_t_row, .int t_bags, .ref q_t_bag, .ref q_t_up, .ref q_t_least, .int t_q, .ref q_t_factor, .ref q_t_pairFactor, .ref q_t_forbidden, .ref q_t_mayNot, .ref q_t_fixed, .ref q_t_state, .ref q_t_count, .ref q_t_best, .ref q_t_bests, .long t_allCount, .long t_allBest, .long t_allBests], aI cA q_t_beside 14 r.2, aI cA q_t_edge 196 t_edge]) (some (.int r.1)) [oB q_t 9 [.int t_knots, .ref q_t_weight, .ref q_t_beside, .ref q_t_edge, .int t_rowed, .ref q_t_row, .int t_bags, .ref q_t_bag, .ref q_t_up, .ref q_t_least, .int t_q, .ref q_t_factor, .ref q_t_pairFactor, .ref q_t_forbidden, .ref q_t_mayNot, .ref q_t_fixed, .ref q_t_state, .ref q_t_count, .ref q_t_best, .ref q_t_bests, .long t_allCount, .long t_allBest, .long t_allBests], aI cA q_t_beside 14 r.2, aI cA q_t_edge 196 t_edge] := ⟨rfl, rfl⟩
  unfold f_X9_cut at hf
  have C : Cx X cX9_cut RX9 (some .int) cA 2 43 3 := C
  show Go X 3 0 0 0 [oB q_t 9 [.int t_knots, .ref q_t_weight, .ref q_t_beside, .ref q_t_edge, .int t_rowed, .ref q_t_row, .int t_bags, .ref q_t_bag, .ref q_t_up, .ref q_t_least, .int t_q, .ref q_t_factor, .ref q_t_pairFactor, .ref q_t_forbidden, .ref q_t_mayNot, .ref q_t_fixed, .ref q_t_state, .ref q_t_count, .ref q_t_best, .ref q_t_bests, .long t_allCount, .long t_allBest, .long t_allBests], aI cA q_t_beside 14 t_beside, aI cA q_t_edge 196 t_edge] [(0, .ref q_t), (1, .int a1), (2, .int a2)] []
  refine g_aload_n C 0 0 dX9_cut_0 rfl rfl ?_
  refine g_iload_n C 1 1 dX9_cut_1 rfl rfl ?_
  refine g_iload_n C 2 2 dX9_cut_2 rfl rfl ?_
  obtain ⟨u1, hu1, hf⟩ := cal_some hf
  refine g_callV1 C 3 [0, 1] 0 (rest := []) dX9_cut_3 (c_X9_isEdge (x_l X) cA q_t t_knots q_t_weight q_t_edge t_rowed q_t_row t_bags q_t_bag q_t_up q_t_least t_q q_t_factor q_t_pairFactor q_t_forbidden q_t_mayNot q_t_fixed q_t_state q_t_count q_t_best q_t_bests t_allCount t_allBest t_allBests q_t_beside t_beside a1 a2 u1 hu1) kw_354 kw_355 kw_356 kw_343 kw_357 ok_X9_isEdge ⟨Nat.le_of_ble_eq_true rfl, Nat.le_of_ble_eq_true rfl⟩ hk ⟨rfl, rfl⟩ rfl rfl rfl rfl rfl (Nat.le_of_ble_eq_true rfl) rfl (ws' := [oB q_t 9 [.int t_knots, .ref q_t_weight, .ref q_t_beside, .ref q_t_edge, .int t_rowed, .ref q_t_row, .int t_bags, .ref q_t_bag, .ref q_t_up, .ref q_t_least, .int t_q, .ref q_t_factor, .ref q_t_pairFactor, .ref q_t_forbidden, .ref q_t_mayNot, .ref q_t_fixed, .ref q_t_state, .ref q_t_count, .ref q_t_best, .ref q_t_bests, .long t_allCount, .long t_allBest, .long t_allBests], aI cA q_t_beside 14 t_beside, aI cA q_t_edge 196 t_edge]) (st' := [.int u1]) (N0 := 3) rfl [some 0, some 1, none] (by decide) rfl rfl ?_
  refine g_if_ne C 6 11 dX9_cut_6 (by decide) hf (fun hf => ?_) (fun hf => ?_)
  · refine g_aload_n C 11 0 dX9_cut_11 rfl rfl ?_
    refine g_get C 12 0 2 dX9_cut_12 inX9 rfl rfl (by decide) kw_346 rfl ?_
    refine g_iload_n C 15 1 dX9_cut_15 rfl rfl ?_
    refine g_dup2 C 16 dX9_cut_16 rfl rfl ?_
    refine g_iald C 17 1 dX9_cut_17 rfl hf (fun v2 hf => ?_)
    refine g_iconst C 18 (1 : Int32) dX9_cut_18 (by decide) ?_
    refine g_iload_n C 19 2 dX9_cut_19 rfl rfl ?_
    refine g_ishl C 20 dX9_cut_20 ?_
    refine g_iconst C 21 (-1 : Int32) dX9_cut_21 (by decide) ?_
    refine g_ixor C 22 dX9_cut_22 ?_
    refine g_iand C 23 dX9_cut_23 ?_
    refine g_iast C 24 1 (fun z => [oB q_t 9 [.int t_knots, .ref q_t_weight, .ref q_t_beside, .ref q_t_edge, .int t_rowed, .ref q_t_row, .int t_bags, .ref q_t_bag, .ref q_t_up, .ref q_t_least, .int t_q, .ref q_t_factor, .ref q_t_pairFactor, .ref q_t_forbidden, .ref q_t_mayNot, .ref q_t_fixed, .ref q_t_state, .ref q_t_count, .ref q_t_best, .ref q_t_bests, .long t_allCount, .long t_allBest, .long t_allBests], aI cA q_t_beside 14 z, aI cA q_t_edge 196 t_edge]) dX9_cut_24 rfl (fun _ => rfl) hf (fun t_beside_3 hf => ?_)
    refine g_aload_n C 25 0 dX9_cut_25 rfl rfl ?_
    refine g_get C 26 0 2 dX9_cut_26 inX9 rfl rfl (by decide) kw_346 rfl ?_
    refine g_iload_n C 29 2 dX9_cut_29 rfl rfl ?_
    refine g_dup2 C 30 dX9_cut_30 rfl rfl ?_
    refine g_iald C 31 1 dX9_cut_31 rfl hf (fun v4 hf => ?_)
    refine g_iconst C 32 (1 : Int32) dX9_cut_32 (by decide) ?_
    refine g_iload_n C 33 1 dX9_cut_33 rfl rfl ?_
    refine g_ishl C 34 dX9_cut_34 ?_
    refine g_iconst C 35 (-1 : Int32) dX9_cut_35 (by decide) ?_
    refine g_ixor C 36 dX9_cut_36 ?_
    refine g_iand C 37 dX9_cut_37 ?_
    refine g_iast C 38 1 (fun z => [oB q_t 9 [.int t_knots, .ref q_t_weight, .ref q_t_beside, .ref q_t_edge, .int t_rowed, .ref q_t_row, .int t_bags, .ref q_t_bag, .ref q_t_up, .ref q_t_least, .int t_q, .ref q_t_factor, .ref q_t_pairFactor, .ref q_t_forbidden, .ref q_t_mayNot, .ref q_t_fixed, .ref q_t_state, .ref q_t_count, .ref q_t_best, .ref q_t_bests, .long t_allCount, .long t_allBest, .long t_allBests], aI cA q_t_beside 14 z, aI cA q_t_edge 196 t_edge]) dX9_cut_38 rfl (fun _ => rfl) hf (fun t_beside_5 hf => ?_)
    refine g_aload_n C 39 0 dX9_cut_39 rfl rfl ?_
    refine g_get C 40 0 3 dX9_cut_40 inX9 rfl rfl (by decide) kw_353 rfl ?_
    refine g_bipush C 43 (14 : Int32) dX9_cut_43 (by decide) ?_
    refine g_iload_n C 45 1 dX9_cut_45 rfl rfl ?_
    refine g_imul C 46 dX9_cut_46 ?_
    refine g_iload_n C 47 2 dX9_cut_47 rfl rfl ?_
    refine g_iadd C 48 dX9_cut_48 ?_
    refine g_iald C 49 2 dX9_cut_49 rfl hf (fun v6 hf => ?_)
    cases hf
    exact g_iret C 50 dX9_cut_50 F hB
  · refine g_iconst C 9 (-1 : Int32) dX9_cut_9 (by decide) ?_
    cases hf
    exact g_iret C 10 dX9_cut_10 F hB

def f_X9_weigh (a1 : Int32) (a2 : Int32) (t_knots : Int32) (t_weight : Nat → Int32) : Option (Int32 × (Nat → Int32)) :=
  cal (f_X9_isKnot a1 t_knots) fun u1 =>
  if u1 = 0 then
    some ((-1 : Int32), t_weight)
  else
    cal (f_X9_isWeight a2) fun u2 =>
    if u2 = 0 then
      some ((-2 : Int32), t_weight)
    else
      ldA t_weight 14 a1 fun v3 =>
      bnd v3 fun x3_4 =>
      stI t_weight 14 a1 a2 fun t_weight_5 =>
      some (x3_4, t_weight_5)

set_option maxRecDepth 100000 in
set_option maxHeartbeats 1000000 in
theorem c_X9_weigh (l : Launch) (cA : Nat → ClassId) (q_t : Nat) (t_knots : Int32) (q_t_beside : Nat) (q_t_edge : Nat) (t_rowed : Int32) (q_t_row : Nat) (t_bags : Int32) (q_t_bag : Nat) (q_t_up : Nat) (q_t_least : Nat) (t_q : Int32) (q_t_factor : Nat) (q_t_pairFactor : Nat) (q_t_forbidden : Nat) (q_t_mayNot : Nat) (q_t_fixed : Nat) (q_t_state : Nat) (q_t_count : Nat) (q_t_best : Nat) (q_t_bests : Nat) (t_allCount : Int64) (t_allBest : Int64) (t_allBests : Int64) (q_t_weight : Nat) (t_weight : Nat → Int32)  (a1 : Int32) (a2 : Int32) (r : Int32 × (Nat → Int32)) (hf : f_X9_weigh a1 a2 t_knots t_weight = some r) : MT l cA yX9_weigh cX9_weigh 4 (some .int) ({ frames := 1, cells := 0, slots := 0, locals := 21 } : Room) [.ref q_t, .int a1, .int a2] [oB q_t 9 [.int t_knots, .ref q_t_weight, .ref q_t_beside, .ref q_t_edge, .int t_rowed, .ref q_t_row, .int t_bags, .ref q_t_bag, .ref q_t_up, .ref q_t_least, .int t_q, .ref q_t_factor, .ref q_t_pairFactor, .ref q_t_forbidden, .ref q_t_mayNot, .ref q_t_fixed, .ref q_t_state, .ref q_t_count, .ref q_t_best, .ref q_t_bests, .long t_allCount, .long t_allBest, .long t_allBests], aI cA q_t_weight 14 t_weight] (sB (some (.int r.1)) [oB q_t 9 [.int t_knots, .ref q_t_weight, .ref q_t_beside, .ref q_t_edge, .int t_rowed, .ref q_t_row, .int t_bags, .ref q_t_bag, .ref q_t_up, .ref q_t_least, .int t_q, .ref q_t_factor, .ref q_t_pairFactor, .ref q_t_forbidden, .ref q_t_mayNot, .ref q_t_fixed, .ref q_t_state, .ref q_t_count, .ref q_t_best, .ref q_t_bests, .long t_allCount, .long t_allBest, .long t_allBests], aI cA q_t_weight 14 r.2]) := by
  refine MT.of (by decide) (Nat.le_of_ble_eq_true rfl) ?_
  intro X hXl C F hnm hrc hrs
  subst hXl
  have hk : 0 ≤ (x_R X).cells ∧ 0 ≤ (x_R X).slots := ⟨Nat.zero_le _, Nat.zero_le _⟩
  have hB : (sB (some (.int r.1)) [oB q_t 9 [.int t_knots, .ref q_t_weight, .ref q_t_beside, .ref q_t_edge, .int t_rowed, .ref q_t_row, .int t_bags, .ref q_t_bag, .ref q_t_up, .ref q_t_least, .int t_q, .ref q_t_factor, .ref q_t_pairFactor, .ref q_t_forbidden, .ref q_t_mayNot, .ref q_t_fixed, .ref q_t_state, .ref q_t_count, .ref q_t_best, .ref q_t_bests, .long t_allCount, .long t_allBest, .long t_allBests], aI cA q_t_weight 14 r.2]) (some (.int r.1)) [oB q_t 9 [.int t_knots, .ref q_t_weight, .ref q_t_beside, .ref q_t_edge, .int t_rowed, .ref q_t_row, .int t_bags, .ref q_t_bag, .ref q_t_up, .ref q_t_least, .int t_q, .ref q_t_factor, .ref q_t_pairFactor, .ref q_t_forbidden, .ref q_t_mayNot, .ref q_t_fixed, .ref q_t_state, .ref q_t_count, .ref q_t_best, .ref q_t_bests, .long t_allCount, .long t_allBest, .long t_allBests], aI cA q_t_weight 14 r.2] := ⟨rfl, rfl⟩
  unfold f_X9_weigh at hf
  have C : Cx X cX9_weigh RX9 (some .int) cA 1 21 4 := C
  show Go X 4 0 0 0 [oB q_t 9 [.int t_knots, .ref q_t_weight, .ref q_t_beside, .ref q_t_edge, .int t_rowed, .ref q_t_row, .int t_bags, .ref q_t_bag, .ref q_t_up, .ref q_t_least, .int t_q, .ref q_t_factor, .ref q_t_pairFactor, .ref q_t_forbidden, .ref q_t_mayNot, .ref q_t_fixed, .ref q_t_state, .ref q_t_count, .ref q_t_best, .ref q_t_bests, .long t_allCount, .long t_allBest, .long t_allBests], aI cA q_t_weight 14 t_weight] [(0, .ref q_t), (1, .int a1), (2, .int a2)] []
  refine g_aload_n C 0 0 dX9_weigh_0 rfl rfl ?_
  refine g_iload_n C 1 1 dX9_weigh_1 rfl rfl ?_
  obtain ⟨u1, hu1, hf⟩ := cal_some hf
  refine g_callV1 C 2 [0] 0 (rest := []) dX9_weigh_2 (c_X9_isKnot (x_l X) cA q_t t_knots q_t_weight q_t_beside q_t_edge t_rowed q_t_row t_bags q_t_bag q_t_up q_t_least t_q q_t_factor q_t_pairFactor q_t_forbidden q_t_mayNot q_t_fixed q_t_state q_t_count q_t_best q_t_bests t_allCount t_allBest t_allBests a1 u1 hu1) kw_349 kw_350 kw_351 kw_343 kw_352 ok_X9_isKnot ⟨Nat.le_of_ble_eq_true rfl, Nat.le_of_ble_eq_true rfl⟩ hk ⟨rfl, rfl⟩ rfl rfl rfl rfl rfl (Nat.le_of_ble_eq_true rfl) rfl (ws' := [oB q_t 9 [.int t_knots, .ref q_t_weight, .ref q_t_beside, .ref q_t_edge, .int t_rowed, .ref q_t_row, .int t_bags, .ref q_t_bag, .ref q_t_up, .ref q_t_least, .int t_q, .ref q_t_factor, .ref q_t_pairFactor, .ref q_t_forbidden, .ref q_t_mayNot, .ref q_t_fixed, .ref q_t_state, .ref q_t_count, .ref q_t_best, .ref q_t_bests, .long t_allCount, .long t_allBest, .long t_allBests], aI cA q_t_weight 14 t_weight]) (st' := [.int u1]) (N0 := 2) rfl [some 0, none] (by decide) rfl rfl ?_
  refine g_if_ne C 5 10 dX9_weigh_5 (by decide) hf (fun hf => ?_) (fun hf => ?_)
  · refine g_aload_n C 10 0 dX9_weigh_10 rfl rfl ?_
    refine g_iload_n C 11 2 dX9_weigh_11 rfl rfl ?_
    obtain ⟨u2, hu2, hf⟩ := cal_some hf
    refine g_callV1 C 12 [] 0 (rest := []) dX9_weigh_12 (c_X9_isWeight (x_l X) cA q_t a2 u2 hu2) kw_340 kw_341 kw_342 kw_343 kw_344 ok_X9_isWeight ⟨Nat.le_of_ble_eq_true rfl, Nat.le_of_ble_eq_true rfl⟩ hk ⟨rfl, rfl⟩ rfl rfl rfl rfl rfl (Nat.le_of_ble_eq_true rfl) rfl (ws' := [oB q_t 9 [.int t_knots, .ref q_t_weight, .ref q_t_beside, .ref q_t_edge, .int t_rowed, .ref q_t_row, .int t_bags, .ref q_t_bag, .ref q_t_up, .ref q_t_least, .int t_q, .ref q_t_factor, .ref q_t_pairFactor, .ref q_t_forbidden, .ref q_t_mayNot, .ref q_t_fixed, .ref q_t_state, .ref q_t_count, .ref q_t_best, .ref q_t_bests, .long t_allCount, .long t_allBest, .long t_allBests], aI cA q_t_weight 14 t_weight]) (st' := [.int u2]) (N0 := 2) rfl [none, none] (by decide) rfl rfl ?_
    refine g_if_ne C 15 21 dX9_weigh_15 (by decide) hf (fun hf => ?_) (fun hf => ?_)
    · refine g_aload_n C 21 0 dX9_weigh_21 rfl rfl ?_
      refine g_get C 22 0 1 dX9_weigh_22 inX9 rfl rfl (by decide) kw_345 rfl ?_
      refine g_iload_n C 25 1 dX9_weigh_25 rfl rfl ?_
      refine g_iald C 26 1 dX9_weigh_26 rfl hf (fun v3 hf => ?_)
      refine g_istore_n C 27 (fun z => [(3, .int z), (0, .ref q_t), (1, .int a1), (2, .int a2)]) dX9_weigh_27 rfl (by decide) (fun _ => rfl) hf (fun x3_4 hf => ?_)
      refine g_aload_n C 28 1 dX9_weigh_28 rfl rfl ?_
      refine g_get C 29 0 1 dX9_weigh_29 inX9 rfl rfl (by decide) kw_345 rfl ?_
      refine g_iload_n C 32 2 dX9_weigh_32 rfl rfl ?_
      refine g_iload_n C 33 3 dX9_weigh_33 rfl rfl ?_
      refine g_iast C 34 1 (fun z => [oB q_t 9 [.int t_knots, .ref q_t_weight, .ref q_t_beside, .ref q_t_edge, .int t_rowed, .ref q_t_row, .int t_bags, .ref q_t_bag, .ref q_t_up, .ref q_t_least, .int t_q, .ref q_t_factor, .ref q_t_pairFactor, .ref q_t_forbidden, .ref q_t_mayNot, .ref q_t_fixed, .ref q_t_state, .ref q_t_count, .ref q_t_best, .ref q_t_bests, .long t_allCount, .long t_allBest, .long t_allBests], aI cA q_t_weight 14 z]) dX9_weigh_34 rfl (fun _ => rfl) hf (fun t_weight_5 hf => ?_)
      refine g_iload_n C 35 0 dX9_weigh_35 rfl rfl ?_
      cases hf
      exact g_iret C 36 dX9_weigh_36 F hB
    · refine g_bipush C 18 (-2 : Int32) dX9_weigh_18 (by decide) ?_
      cases hf
      exact g_iret C 20 dX9_weigh_20 F hB
  · refine g_iconst C 8 (-1 : Int32) dX9_weigh_8 (by decide) ?_
    cases hf
    exact g_iret C 9 dX9_weigh_9 F hB

def f_X9_weight (a1 : Int32) (a2 : Int32) (t_knots : Int32) (t_weight : Nat → Int32) (t_beside : Nat → Int32) (t_edge : Nat → Int32) : Option (Int32) :=
  if a1 = a2 then
    cal (f_X9_isKnot a1 t_knots) fun u3 =>
    if u3 = 0 then
      some ((-1 : Int32))
    else
      ldA t_weight 14 a1 fun v4 =>
      some (v4)
  else
    cal (f_X9_isEdge a1 a2 t_knots t_beside) fun u1 =>
    if u1 = 0 then
      some ((-1 : Int32))
    else
      ldA t_edge 196 (((14 : Int32) * a1) + a2) fun v2 =>
      some (v2)

set_option maxRecDepth 100000 in
set_option maxHeartbeats 1000000 in
theorem c_X9_weight (l : Launch) (cA : Nat → ClassId) (q_t : Nat) (t_knots : Int32) (t_rowed : Int32) (q_t_row : Nat) (t_bags : Int32) (q_t_bag : Nat) (q_t_up : Nat) (q_t_least : Nat) (t_q : Int32) (q_t_factor : Nat) (q_t_pairFactor : Nat) (q_t_forbidden : Nat) (q_t_mayNot : Nat) (q_t_fixed : Nat) (q_t_state : Nat) (q_t_count : Nat) (q_t_best : Nat) (q_t_bests : Nat) (t_allCount : Int64) (t_allBest : Int64) (t_allBests : Int64) (q_t_weight : Nat) (t_weight : Nat → Int32) (q_t_beside : Nat) (t_beside : Nat → Int32) (q_t_edge : Nat) (t_edge : Nat → Int32)  (a1 : Int32) (a2 : Int32) (r : Int32) (hf : f_X9_weight a1 a2 t_knots t_weight t_beside t_edge = some r) : MT l cA yX9_weight cX9_weight 3 (some .int) ({ frames := 2, cells := 0, slots := 0, locals := 43 } : Room) [.ref q_t, .int a1, .int a2] [oB q_t 9 [.int t_knots, .ref q_t_weight, .ref q_t_beside, .ref q_t_edge, .int t_rowed, .ref q_t_row, .int t_bags, .ref q_t_bag, .ref q_t_up, .ref q_t_least, .int t_q, .ref q_t_factor, .ref q_t_pairFactor, .ref q_t_forbidden, .ref q_t_mayNot, .ref q_t_fixed, .ref q_t_state, .ref q_t_count, .ref q_t_best, .ref q_t_bests, .long t_allCount, .long t_allBest, .long t_allBests], aI cA q_t_weight 14 t_weight, aI cA q_t_beside 14 t_beside, aI cA q_t_edge 196 t_edge] (sB (some (.int r)) [oB q_t 9 [.int t_knots, .ref q_t_weight, .ref q_t_beside, .ref q_t_edge, .int t_rowed, .ref q_t_row, .int t_bags, .ref q_t_bag, .ref q_t_up, .ref q_t_least, .int t_q, .ref q_t_factor, .ref q_t_pairFactor, .ref q_t_forbidden, .ref q_t_mayNot, .ref q_t_fixed, .ref q_t_state, .ref q_t_count, .ref q_t_best, .ref q_t_bests, .long t_allCount, .long t_allBest, .long t_allBests], aI cA q_t_weight 14 t_weight, aI cA q_t_beside 14 t_beside, aI cA q_t_edge 196 t_edge]) := by
  refine MT.of (by decide) (Nat.le_of_ble_eq_true rfl) ?_
  intro X hXl C F hnm hrc hrs
  subst hXl
  have hk : 0 ≤ (x_R X).cells ∧ 0 ≤ (x_R X).slots := ⟨Nat.zero_le _, Nat.zero_le _⟩
  have hB : (sB (some (.int r)) [oB q_t 9 [.int t_knots, .ref q_t_weight, .ref q_t_beside, .ref q_t_edge, .int t_rowed, .ref q_t_row, .int t_bags, .ref q_t_bag, .ref q_t_up, .ref q_t_least, .int t_q, .ref q_t_factor, .ref q_t_pairFactor, .ref q_t_forbidden, .ref q_t_mayNot, .ref q_t_fixed, .ref q_t_state, .ref q_t_count, .ref q_t_best, .ref q_t_bests, .long t_allCount, .long t_allBest, .long t_allBests], aI cA q_t_weight 14 t_weight, aI cA q_t_beside 14 t_beside, aI cA q_t_edge 196 t_edge]) (some (.int r)) [oB q_t 9 [.int t_knots, .ref q_t_weight, .ref q_t_beside, .ref q_t_edge, .int t_rowed, .ref q_t_row, .int t_bags, .ref q_t_bag, .ref q_t_up, .ref q_t_least, .int t_q, .ref q_t_factor, .ref q_t_pairFactor, .ref q_t_forbidden, .ref q_t_mayNot, .ref q_t_fixed, .ref q_t_state, .ref q_t_count, .ref q_t_best, .ref q_t_bests, .long t_allCount, .long t_allBest, .long t_allBests], aI cA q_t_weight 14 t_weight, aI cA q_t_beside 14 t_beside, aI cA q_t_edge 196 t_edge] := ⟨rfl, rfl⟩
  unfold f_X9_weight at hf
  have C : Cx X cX9_weight RX9 (some .int) cA 2 43 3 := C
  show Go X 3 0 0 0 [oB q_t 9 [.int t_knots, .ref q_t_weight, .ref q_t_beside, .ref q_t_edge, .int t_rowed, .ref q_t_row, .int t_bags, .ref q_t_bag, .ref q_t_up, .ref q_t_least, .int t_q, .ref q_t_factor, .ref q_t_pairFactor, .ref q_t_forbidden, .ref q_t_mayNot, .ref q_t_fixed, .ref q_t_state, .ref q_t_count, .ref q_t_best, .ref q_t_bests, .long t_allCount, .long t_allBest, .long t_allBests], aI cA q_t_weight 14 t_weight, aI cA q_t_beside 14 t_beside, aI cA q_t_edge 196 t_edge] [(0, .ref q_t), (1, .int a1), (2, .int a2)] []
  refine g_iload_n C 0 1 dX9_weight_0 rfl rfl ?_
  refine g_iload_n C 1 2 dX9_weight_1 rfl rfl ?_
  refine g_icmp_ne C 2 24 dX9_weight_2 (by decide) hf (fun hf => ?_) (fun hf => ?_)
  · refine g_aload_n C 24 0 dX9_weight_24 rfl rfl ?_
    refine g_iload_n C 25 1 dX9_weight_25 rfl rfl ?_
    refine g_iload_n C 26 2 dX9_weight_26 rfl rfl ?_
    obtain ⟨u1, hu1, hf⟩ := cal_some hf
    refine g_callV1 C 27 [0, 2] 0 (rest := []) dX9_weight_27 (c_X9_isEdge (x_l X) cA q_t t_knots q_t_weight q_t_edge t_rowed q_t_row t_bags q_t_bag q_t_up q_t_least t_q q_t_factor q_t_pairFactor q_t_forbidden q_t_mayNot q_t_fixed q_t_state q_t_count q_t_best q_t_bests t_allCount t_allBest t_allBests q_t_beside t_beside a1 a2 u1 hu1) kw_354 kw_355 kw_356 kw_343 kw_357 ok_X9_isEdge ⟨Nat.le_of_ble_eq_true rfl, Nat.le_of_ble_eq_true rfl⟩ hk ⟨rfl, rfl⟩ rfl rfl rfl rfl rfl (Nat.le_of_ble_eq_true rfl) rfl (ws' := [oB q_t 9 [.int t_knots, .ref q_t_weight, .ref q_t_beside, .ref q_t_edge, .int t_rowed, .ref q_t_row, .int t_bags, .ref q_t_bag, .ref q_t_up, .ref q_t_least, .int t_q, .ref q_t_factor, .ref q_t_pairFactor, .ref q_t_forbidden, .ref q_t_mayNot, .ref q_t_fixed, .ref q_t_state, .ref q_t_count, .ref q_t_best, .ref q_t_bests, .long t_allCount, .long t_allBest, .long t_allBests], aI cA q_t_weight 14 t_weight, aI cA q_t_beside 14 t_beside, aI cA q_t_edge 196 t_edge]) (st' := [.int u1]) (N0 := 4) rfl [some 0, none, some 1, none] (by decide) rfl rfl ?_
    refine g_if_eq C 30 47 dX9_weight_30 (by decide) hf (fun hf => ?_) (fun hf => ?_)
    · refine g_iconst C 47 (-1 : Int32) dX9_weight_47 (by decide) ?_
      cases hf
      exact g_iret C 48 dX9_weight_48 F hB
    · refine g_aload_n C 33 0 dX9_weight_33 rfl rfl ?_
      refine g_get C 34 0 3 dX9_weight_34 inX9 rfl rfl (by decide) kw_353 rfl ?_
      refine g_bipush C 37 (14 : Int32) dX9_weight_37 (by decide) ?_
      refine g_iload_n C 39 1 dX9_weight_39 rfl rfl ?_
      refine g_imul C 40 dX9_weight_40 ?_
      refine g_iload_n C 41 2 dX9_weight_41 rfl rfl ?_
      refine g_iadd C 42 dX9_weight_42 ?_
      refine g_iald C 43 3 dX9_weight_43 rfl hf (fun v2 hf => ?_)
      refine g_goto C 44 48 dX9_weight_44 (by decide) ?_
      cases hf
      exact g_iret C 48 dX9_weight_48 F hB
  · refine g_aload_n C 5 0 dX9_weight_5 rfl rfl ?_
    refine g_iload_n C 6 1 dX9_weight_6 rfl rfl ?_
    obtain ⟨u3, hu3, hf⟩ := cal_some hf
    refine g_callV1 C 7 [0] 0 (rest := []) dX9_weight_7 (c_X9_isKnot (x_l X) cA q_t t_knots q_t_weight q_t_beside q_t_edge t_rowed q_t_row t_bags q_t_bag q_t_up q_t_least t_q q_t_factor q_t_pairFactor q_t_forbidden q_t_mayNot q_t_fixed q_t_state q_t_count q_t_best q_t_bests t_allCount t_allBest t_allBests a1 u3 hu3) kw_349 kw_350 kw_351 kw_343 kw_352 ok_X9_isKnot ⟨Nat.le_of_ble_eq_true rfl, Nat.le_of_ble_eq_true rfl⟩ hk ⟨rfl, rfl⟩ rfl rfl rfl rfl rfl (Nat.le_of_ble_eq_true rfl) rfl (ws' := [oB q_t 9 [.int t_knots, .ref q_t_weight, .ref q_t_beside, .ref q_t_edge, .int t_rowed, .ref q_t_row, .int t_bags, .ref q_t_bag, .ref q_t_up, .ref q_t_least, .int t_q, .ref q_t_factor, .ref q_t_pairFactor, .ref q_t_forbidden, .ref q_t_mayNot, .ref q_t_fixed, .ref q_t_state, .ref q_t_count, .ref q_t_best, .ref q_t_bests, .long t_allCount, .long t_allBest, .long t_allBests], aI cA q_t_weight 14 t_weight, aI cA q_t_beside 14 t_beside, aI cA q_t_edge 196 t_edge]) (st' := [.int u3]) (N0 := 4) rfl [some 0, none, none, none] (by decide) rfl rfl ?_
    refine g_if_eq C 10 22 dX9_weight_10 (by decide) hf (fun hf => ?_) (fun hf => ?_)
    · refine g_iconst C 22 (-1 : Int32) dX9_weight_22 (by decide) ?_
      cases hf
      exact g_iret C 23 dX9_weight_23 F hB
    · refine g_aload_n C 13 0 dX9_weight_13 rfl rfl ?_
      refine g_get C 14 0 1 dX9_weight_14 inX9 rfl rfl (by decide) kw_345 rfl ?_
      refine g_iload_n C 17 1 dX9_weight_17 rfl rfl ?_
      refine g_iald C 18 1 dX9_weight_18 rfl hf (fun v4 hf => ?_)
      refine g_goto C 19 23 dX9_weight_19 (by decide) ?_
      cases hf
      exact g_iret C 23 dX9_weight_23 F hB

def f_X9_beside (a1 : Int32) (t_knots : Int32) (t_beside : Nat → Int32) : Option (Int32) :=
  cal (f_X9_isKnot a1 t_knots) fun u1 =>
  if u1 = 0 then
    some ((-1 : Int32))
  else
    ldA t_beside 14 a1 fun v2 =>
    some (v2)

set_option maxRecDepth 100000 in
set_option maxHeartbeats 1000000 in
theorem c_X9_beside (l : Launch) (cA : Nat → ClassId) (q_t : Nat) (t_knots : Int32) (q_t_weight : Nat) (q_t_edge : Nat) (t_rowed : Int32) (q_t_row : Nat) (t_bags : Int32) (q_t_bag : Nat) (q_t_up : Nat) (q_t_least : Nat) (t_q : Int32) (q_t_factor : Nat) (q_t_pairFactor : Nat) (q_t_forbidden : Nat) (q_t_mayNot : Nat) (q_t_fixed : Nat) (q_t_state : Nat) (q_t_count : Nat) (q_t_best : Nat) (q_t_bests : Nat) (t_allCount : Int64) (t_allBest : Int64) (t_allBests : Int64) (q_t_beside : Nat) (t_beside : Nat → Int32)  (a1 : Int32) (r : Int32) (hf : f_X9_beside a1 t_knots t_beside = some r) : MT l cA yX9_beside cX9_beside 2 (some .int) ({ frames := 1, cells := 0, slots := 0, locals := 21 } : Room) [.ref q_t, .int a1] [oB q_t 9 [.int t_knots, .ref q_t_weight, .ref q_t_beside, .ref q_t_edge, .int t_rowed, .ref q_t_row, .int t_bags, .ref q_t_bag, .ref q_t_up, .ref q_t_least, .int t_q, .ref q_t_factor, .ref q_t_pairFactor, .ref q_t_forbidden, .ref q_t_mayNot, .ref q_t_fixed, .ref q_t_state, .ref q_t_count, .ref q_t_best, .ref q_t_bests, .long t_allCount, .long t_allBest, .long t_allBests], aI cA q_t_beside 14 t_beside] (sB (some (.int r)) [oB q_t 9 [.int t_knots, .ref q_t_weight, .ref q_t_beside, .ref q_t_edge, .int t_rowed, .ref q_t_row, .int t_bags, .ref q_t_bag, .ref q_t_up, .ref q_t_least, .int t_q, .ref q_t_factor, .ref q_t_pairFactor, .ref q_t_forbidden, .ref q_t_mayNot, .ref q_t_fixed, .ref q_t_state, .ref q_t_count, .ref q_t_best, .ref q_t_bests, .long t_allCount, .long t_allBest, .long t_allBests], aI cA q_t_beside 14 t_beside]) := by
  refine MT.of (by decide) (Nat.le_of_ble_eq_true rfl) ?_
  intro X hXl C F hnm hrc hrs
  subst hXl
  have hk : 0 ≤ (x_R X).cells ∧ 0 ≤ (x_R X).slots := ⟨Nat.zero_le _, Nat.zero_le _⟩
  have hB : (sB (some (.int r)) [oB q_t 9 [.int t_knots, .ref q_t_weight, .ref q_t_beside, .ref q_t_edge, .int t_rowed, .ref q_t_row, .int t_bags, .ref q_t_bag, .ref q_t_up, .ref q_t_least, .int t_q, .ref q_t_factor, .ref q_t_pairFactor, .ref q_t_forbidden, .ref q_t_mayNot, .ref q_t_fixed, .ref q_t_state, .ref q_t_count, .ref q_t_best, .ref q_t_bests, .long t_allCount, .long t_allBest, .long t_allBests], aI cA q_t_beside 14 t_beside]) (some (.int r)) [oB q_t 9 [.int t_knots, .ref q_t_weight, .ref q_t_beside, .ref q_t_edge, .int t_rowed, .ref q_t_row, .int t_bags, .ref q_t_bag, .ref q_t_up, .ref q_t_least, .int t_q, .ref q_t_factor, .ref q_t_pairFactor, .ref q_t_forbidden, .ref q_t_mayNot, .ref q_t_fixed, .ref q_t_state, .ref q_t_count, .ref q_t_best, .ref q_t_bests, .long t_allCount, .long t_allBest, .long t_allBests], aI cA q_t_beside 14 t_beside] := ⟨rfl, rfl⟩
  unfold f_X9_beside at hf
  have C : Cx X cX9_beside RX9 (some .int) cA 1 21 2 := C
  show Go X 2 0 0 0 [oB q_t 9 [.int t_knots, .ref q_t_weight, .ref q_t_beside, .ref q_t_edge, .int t_rowed, .ref q_t_row, .int t_bags, .ref q_t_bag, .ref q_t_up, .ref q_t_least, .int t_q, .ref q_t_factor, .ref q_t_pairFactor, .ref q_t_forbidden, .ref q_t_mayNot, .ref q_t_fixed, .ref q_t_state, .ref q_t_count, .ref q_t_best, .ref q_t_bests, .long t_allCount, .long t_allBest, .long t_allBests], aI cA q_t_beside 14 t_beside] [(0, .ref q_t), (1, .int a1)] []
  refine g_aload_n C 0 0 dX9_beside_0 rfl rfl ?_
  refine g_iload_n C 1 1 dX9_beside_1 rfl rfl ?_
  obtain ⟨u1, hu1, hf⟩ := cal_some hf
  refine g_callV1 C 2 [0] 0 (rest := []) dX9_beside_2 (c_X9_isKnot (x_l X) cA q_t t_knots q_t_weight q_t_beside q_t_edge t_rowed q_t_row t_bags q_t_bag q_t_up q_t_least t_q q_t_factor q_t_pairFactor q_t_forbidden q_t_mayNot q_t_fixed q_t_state q_t_count q_t_best q_t_bests t_allCount t_allBest t_allBests a1 u1 hu1) kw_349 kw_350 kw_351 kw_343 kw_352 ok_X9_isKnot ⟨Nat.le_of_ble_eq_true rfl, Nat.le_of_ble_eq_true rfl⟩ hk ⟨rfl, rfl⟩ rfl rfl rfl rfl rfl (Nat.le_of_ble_eq_true rfl) rfl (ws' := [oB q_t 9 [.int t_knots, .ref q_t_weight, .ref q_t_beside, .ref q_t_edge, .int t_rowed, .ref q_t_row, .int t_bags, .ref q_t_bag, .ref q_t_up, .ref q_t_least, .int t_q, .ref q_t_factor, .ref q_t_pairFactor, .ref q_t_forbidden, .ref q_t_mayNot, .ref q_t_fixed, .ref q_t_state, .ref q_t_count, .ref q_t_best, .ref q_t_bests, .long t_allCount, .long t_allBest, .long t_allBests], aI cA q_t_beside 14 t_beside]) (st' := [.int u1]) (N0 := 2) rfl [some 0, none] (by decide) rfl rfl ?_
  refine g_if_eq C 5 17 dX9_beside_5 (by decide) hf (fun hf => ?_) (fun hf => ?_)
  · refine g_iconst C 17 (-1 : Int32) dX9_beside_17 (by decide) ?_
    cases hf
    exact g_iret C 18 dX9_beside_18 F hB
  · refine g_aload_n C 8 0 dX9_beside_8 rfl rfl ?_
    refine g_get C 9 0 2 dX9_beside_9 inX9 rfl rfl (by decide) kw_346 rfl ?_
    refine g_iload_n C 12 1 dX9_beside_12 rfl rfl ?_
    refine g_iald C 13 1 dX9_beside_13 rfl hf (fun v2 hf => ?_)
    refine g_goto C 14 18 dX9_beside_14 (by decide) ?_
    cases hf
    exact g_iret C 18 dX9_beside_18 F hB

def L_X9_rowMask_4 (t_rowed : Int32) (t_row : Nat → Int32)  : Nat → Int32 → Int32 → Option (Int32)
  | 0, _, _ => none
  | n + 1, x1, x2 =>
    if t_rowed ≤ x2 then
      some (x1)
    else
      ldA t_row 14 x2 fun v3 =>
      bnd (x1 ||| ((1 : Int32) <<< (v3 &&& 31))) fun x1_4 =>
      bnd (x2 + (1 : Int32)) fun x2_5 =>
      L_X9_rowMask_4 t_rowed t_row n x1_4 x2_5

set_option maxRecDepth 100000 in
set_option maxHeartbeats 1000000 in
theorem w_X9_rowMask_4 (cA : Nat → ClassId) (q_t : Nat) (t_knots : Int32) (q_t_weight : Nat) (q_t_beside : Nat) (q_t_edge : Nat) (t_bags : Int32) (q_t_bag : Nat) (q_t_up : Nat) (q_t_least : Nat) (t_q : Int32) (q_t_factor : Nat) (q_t_pairFactor : Nat) (q_t_forbidden : Nat) (q_t_mayNot : Nat) (q_t_fixed : Nat) (q_t_state : Nat) (q_t_count : Nat) (q_t_best : Nat) (q_t_bests : Nat) (t_allCount : Int64) (t_allBest : Int64) (t_allBests : Int64) (q_t_row : Nat) (t_rowed : Int32) (t_row : Nat → Int32) {X : XT}  (C : Cx X cX9_rowMask RX9 (some .int) cA 0 0 3) {kk nn : Nat} {BB : Option Value → va_W → Prop} (hk : kk ≤ (x_R X).cells ∧ nn ≤ (x_R X).slots) (F : Fx X BB kk nn) (r : Int32) (hB : BB (some (.int r)) [oB q_t 9 [.int t_knots, .ref q_t_weight, .ref q_t_beside, .ref q_t_edge, .int t_rowed, .ref q_t_row, .int t_bags, .ref q_t_bag, .ref q_t_up, .ref q_t_least, .int t_q, .ref q_t_factor, .ref q_t_pairFactor, .ref q_t_forbidden, .ref q_t_mayNot, .ref q_t_fixed, .ref q_t_state, .ref q_t_count, .ref q_t_best, .ref q_t_bests, .long t_allCount, .long t_allBest, .long t_allBests], aI cA q_t_row 14 t_row])  : ∀ (n : Nat) (x1 : Int32) (x2 : Int32), L_X9_rowMask_4 t_rowed t_row n x1 x2 = some r → Go X 3 kk nn 4 [oB q_t 9 [.int t_knots, .ref q_t_weight, .ref q_t_beside, .ref q_t_edge, .int t_rowed, .ref q_t_row, .int t_bags, .ref q_t_bag, .ref q_t_up, .ref q_t_least, .int t_q, .ref q_t_factor, .ref q_t_pairFactor, .ref q_t_forbidden, .ref q_t_mayNot, .ref q_t_fixed, .ref q_t_state, .ref q_t_count, .ref q_t_best, .ref q_t_bests, .long t_allCount, .long t_allBest, .long t_allBests], aI cA q_t_row 14 t_row] [(0, .ref q_t), (1, .int x1), (2, .int x2)] [] := by
  intro n
  induction n with
  | zero => intro x1 x2 hf; exact no_some hf
  | succ n ih =>
    intro x1 x2 hf
    rw [L_X9_rowMask_4] at hf
    refine g_iload_n C 4 2 dX9_rowMask_4 rfl rfl ?_
    refine g_aload_n C 5 0 dX9_rowMask_5 rfl rfl ?_
    refine g_get C 6 0 4 dX9_rowMask_6 inX9 rfl rfl (by decide) kw_347 rfl ?_
    refine g_icmp_ge C 9 29 dX9_rowMask_9 (by decide) hf (fun hf => ?_) (fun hf => ?_)
    · refine g_iload_n C 29 1 dX9_rowMask_29 rfl rfl ?_
      cases hf
      exact g_iret C 30 dX9_rowMask_30 F hB
    · refine g_iload_n C 12 1 dX9_rowMask_12 rfl rfl ?_
      refine g_iconst C 13 (1 : Int32) dX9_rowMask_13 (by decide) ?_
      refine g_aload_n C 14 0 dX9_rowMask_14 rfl rfl ?_
      refine g_get C 15 0 5 dX9_rowMask_15 inX9 rfl rfl (by decide) kw_358 rfl ?_
      refine g_iload_n C 18 2 dX9_rowMask_18 rfl rfl ?_
      refine g_iald C 19 1 dX9_rowMask_19 rfl hf (fun v3 hf => ?_)
      refine g_ishl C 20 dX9_rowMask_20 ?_
      refine g_ior C 21 dX9_rowMask_21 ?_
      refine g_istore_n C 22 (fun z => [(1, .int z), (0, .ref q_t), (2, .int x2)]) dX9_rowMask_22 rfl (by decide) (fun _ => rfl) hf (fun x1_4 hf => ?_)
      refine g_iinc C 23 2 (v := x2 + (1 : Int32)) (fun z => [(2, .int z), (1, .int x1_4), (0, .ref q_t)]) dX9_rowMask_23 rfl rfl (by decide) (fun _ => rfl) hf (fun x2_5 hf => ?_)
      refine g_goto C 26 4 dX9_rowMask_26 (by decide) ?_
      refine g_lv [2, 1, 0] rfl ?_
      exact ih x1_4 x2_5 hf
def f_X9_rowMask (t_rowed : Int32) (t_row : Nat → Int32) : Option (Int32) :=
  bnd (0 : Int32) fun x1_1 =>
  bnd (0 : Int32) fun x2_2 =>
  L_X9_rowMask_4 t_rowed t_row NN x1_1 x2_2

set_option maxRecDepth 100000 in
set_option maxHeartbeats 1000000 in
theorem c_X9_rowMask (l : Launch) (cA : Nat → ClassId) (q_t : Nat) (t_knots : Int32) (q_t_weight : Nat) (q_t_beside : Nat) (q_t_edge : Nat) (t_rowed : Int32) (t_bags : Int32) (q_t_bag : Nat) (q_t_up : Nat) (q_t_least : Nat) (t_q : Int32) (q_t_factor : Nat) (q_t_pairFactor : Nat) (q_t_forbidden : Nat) (q_t_mayNot : Nat) (q_t_fixed : Nat) (q_t_state : Nat) (q_t_count : Nat) (q_t_best : Nat) (q_t_bests : Nat) (t_allCount : Int64) (t_allBest : Int64) (t_allBests : Int64) (q_t_row : Nat) (t_row : Nat → Int32)   (r : Int32) (hf : f_X9_rowMask t_rowed t_row = some r) : MT l cA yX9_rowMask cX9_rowMask 3 (some .int) ({ frames := 0, cells := 0, slots := 0, locals := 0 } : Room) [.ref q_t] [oB q_t 9 [.int t_knots, .ref q_t_weight, .ref q_t_beside, .ref q_t_edge, .int t_rowed, .ref q_t_row, .int t_bags, .ref q_t_bag, .ref q_t_up, .ref q_t_least, .int t_q, .ref q_t_factor, .ref q_t_pairFactor, .ref q_t_forbidden, .ref q_t_mayNot, .ref q_t_fixed, .ref q_t_state, .ref q_t_count, .ref q_t_best, .ref q_t_bests, .long t_allCount, .long t_allBest, .long t_allBests], aI cA q_t_row 14 t_row] (sB (some (.int r)) [oB q_t 9 [.int t_knots, .ref q_t_weight, .ref q_t_beside, .ref q_t_edge, .int t_rowed, .ref q_t_row, .int t_bags, .ref q_t_bag, .ref q_t_up, .ref q_t_least, .int t_q, .ref q_t_factor, .ref q_t_pairFactor, .ref q_t_forbidden, .ref q_t_mayNot, .ref q_t_fixed, .ref q_t_state, .ref q_t_count, .ref q_t_best, .ref q_t_bests, .long t_allCount, .long t_allBest, .long t_allBests], aI cA q_t_row 14 t_row]) := by
  refine MT.of (by decide) (Nat.le_of_ble_eq_true rfl) ?_
  intro X hXl C F hnm hrc hrs
  subst hXl
  have hk : 0 ≤ (x_R X).cells ∧ 0 ≤ (x_R X).slots := ⟨Nat.zero_le _, Nat.zero_le _⟩
  have hB : (sB (some (.int r)) [oB q_t 9 [.int t_knots, .ref q_t_weight, .ref q_t_beside, .ref q_t_edge, .int t_rowed, .ref q_t_row, .int t_bags, .ref q_t_bag, .ref q_t_up, .ref q_t_least, .int t_q, .ref q_t_factor, .ref q_t_pairFactor, .ref q_t_forbidden, .ref q_t_mayNot, .ref q_t_fixed, .ref q_t_state, .ref q_t_count, .ref q_t_best, .ref q_t_bests, .long t_allCount, .long t_allBest, .long t_allBests], aI cA q_t_row 14 t_row]) (some (.int r)) [oB q_t 9 [.int t_knots, .ref q_t_weight, .ref q_t_beside, .ref q_t_edge, .int t_rowed, .ref q_t_row, .int t_bags, .ref q_t_bag, .ref q_t_up, .ref q_t_least, .int t_q, .ref q_t_factor, .ref q_t_pairFactor, .ref q_t_forbidden, .ref q_t_mayNot, .ref q_t_fixed, .ref q_t_state, .ref q_t_count, .ref q_t_best, .ref q_t_bests, .long t_allCount, .long t_allBest, .long t_allBests], aI cA q_t_row 14 t_row] := ⟨rfl, rfl⟩
  unfold f_X9_rowMask at hf
  have C : Cx X cX9_rowMask RX9 (some .int) cA 0 0 3 := C
  show Go X 3 0 0 0 [oB q_t 9 [.int t_knots, .ref q_t_weight, .ref q_t_beside, .ref q_t_edge, .int t_rowed, .ref q_t_row, .int t_bags, .ref q_t_bag, .ref q_t_up, .ref q_t_least, .int t_q, .ref q_t_factor, .ref q_t_pairFactor, .ref q_t_forbidden, .ref q_t_mayNot, .ref q_t_fixed, .ref q_t_state, .ref q_t_count, .ref q_t_best, .ref q_t_bests, .long t_allCount, .long t_allBest, .long t_allBests], aI cA q_t_row 14 t_row] [(0, .ref q_t)] []
  refine g_iconst C 0 (0 : Int32) dX9_rowMask_0 (by decide) ?_
  refine g_istore_n C 1 (fun z => [(1, .int z), (0, .ref q_t)]) dX9_rowMask_1 rfl (by decide) (fun _ => rfl) hf (fun x1_1 hf => ?_)
  refine g_iconst C 2 (0 : Int32) dX9_rowMask_2 (by decide) ?_
  refine g_istore_n C 3 (fun z => [(2, .int z), (1, .int x1_1), (0, .ref q_t)]) dX9_rowMask_3 rfl (by decide) (fun _ => rfl) hf (fun x2_2 hf => ?_)
  refine g_lv [2, 1, 0] rfl ?_
  exact w_X9_rowMask_4 cA q_t t_knots q_t_weight q_t_beside q_t_edge t_bags q_t_bag q_t_up q_t_least t_q q_t_factor q_t_pairFactor q_t_forbidden q_t_mayNot q_t_fixed q_t_state q_t_count q_t_best q_t_bests t_allCount t_allBest t_allBests q_t_row t_rowed t_row C hk F r hB NN x1_1 x2_2 hf

def f_X9_put (a1 : Int32) (t_knots : Int32) (t_rowed : Int32) (t_row : Nat → Int32) : Option (Int32 × Int32 × (Nat → Int32)) :=
  cal (f_X9_isKnot a1 t_knots) fun u1 =>
  if u1 = 0 then
    some ((-1 : Int32), t_rowed, t_row)
  else
    cal (f_X9_rowMask t_rowed t_row) fun u2 =>
    if ((u2 >>> (a1 &&& 31)) &&& (1 : Int32)) = (1 : Int32) then
      some ((-2 : Int32), t_rowed, t_row)
    else
      stI t_row 14 t_rowed a1 fun t_row_3 =>
      bnd (t_rowed + (1 : Int32)) fun t_rowed_4 =>
      some (t_rowed_4, t_rowed_4, t_row_3)

set_option maxRecDepth 100000 in
set_option maxHeartbeats 1000000 in
theorem c_X9_put (l : Launch) (cA : Nat → ClassId) (q_t : Nat) (t_knots : Int32) (q_t_weight : Nat) (q_t_beside : Nat) (q_t_edge : Nat) (t_rowed : Int32) (t_bags : Int32) (q_t_bag : Nat) (q_t_up : Nat) (q_t_least : Nat) (t_q : Int32) (q_t_factor : Nat) (q_t_pairFactor : Nat) (q_t_forbidden : Nat) (q_t_mayNot : Nat) (q_t_fixed : Nat) (q_t_state : Nat) (q_t_count : Nat) (q_t_best : Nat) (q_t_bests : Nat) (t_allCount : Int64) (t_allBest : Int64) (t_allBests : Int64) (q_t_row : Nat) (t_row : Nat → Int32)  (a1 : Int32) (r : Int32 × Int32 × (Nat → Int32)) (hf : f_X9_put a1 t_knots t_rowed t_row = some r) : MT l cA yX9_put cX9_put 2 (some .int) ({ frames := 1, cells := 0, slots := 0, locals := 22 } : Room) [.ref q_t, .int a1] [oB q_t 9 [.int t_knots, .ref q_t_weight, .ref q_t_beside, .ref q_t_edge, .int t_rowed, .ref q_t_row, .int t_bags, .ref q_t_bag, .ref q_t_up, .ref q_t_least, .int t_q, .ref q_t_factor, .ref q_t_pairFactor, .ref q_t_forbidden, .ref q_t_mayNot, .ref q_t_fixed, .ref q_t_state, .ref q_t_count, .ref q_t_best, .ref q_t_bests, .long t_allCount, .long t_allBest, .long t_allBests], aI cA q_t_row 14 t_row] (sB (some (.int r.1)) [oB q_t 9 [.int t_knots, .ref q_t_weight, .ref q_t_beside, .ref q_t_edge, .int r.2.1, .ref q_t_row, .int t_bags, .ref q_t_bag, .ref q_t_up, .ref q_t_least, .int t_q, .ref q_t_factor, .ref q_t_pairFactor, .ref q_t_forbidden, .ref q_t_mayNot, .ref q_t_fixed, .ref q_t_state, .ref q_t_count, .ref q_t_best, .ref q_t_bests, .long t_allCount, .long t_allBest, .long t_allBests], aI cA q_t_row 14 r.2.2]) := by
  refine MT.of (by decide) (Nat.le_of_ble_eq_true rfl) ?_
  intro X hXl C F hnm hrc hrs
  subst hXl
  have hk : 0 ≤ (x_R X).cells ∧ 0 ≤ (x_R X).slots := ⟨Nat.zero_le _, Nat.zero_le _⟩
  have hB : (sB (some (.int r.1)) [oB q_t 9 [.int t_knots, .ref q_t_weight, .ref q_t_beside, .ref q_t_edge, .int r.2.1, .ref q_t_row, .int t_bags, .ref q_t_bag, .ref q_t_up, .ref q_t_least, .int t_q, .ref q_t_factor, .ref q_t_pairFactor, .ref q_t_forbidden, .ref q_t_mayNot, .ref q_t_fixed, .ref q_t_state, .ref q_t_count, .ref q_t_best, .ref q_t_bests, .long t_allCount, .long t_allBest, .long t_allBests], aI cA q_t_row 14 r.2.2]) (some (.int r.1)) [oB q_t 9 [.int t_knots, .ref q_t_weight, .ref q_t_beside, .ref q_t_edge, .int r.2.1, .ref q_t_row, .int t_bags, .ref q_t_bag, .ref q_t_up, .ref q_t_least, .int t_q, .ref q_t_factor, .ref q_t_pairFactor, .ref q_t_forbidden, .ref q_t_mayNot, .ref q_t_fixed, .ref q_t_state, .ref q_t_count, .ref q_t_best, .ref q_t_bests, .long t_allCount, .long t_allBest, .long t_allBests], aI cA q_t_row 14 r.2.2] := ⟨rfl, rfl⟩
  unfold f_X9_put at hf
  have C : Cx X cX9_put RX9 (some .int) cA 1 22 2 := C
  show Go X 2 0 0 0 [oB q_t 9 [.int t_knots, .ref q_t_weight, .ref q_t_beside, .ref q_t_edge, .int t_rowed, .ref q_t_row, .int t_bags, .ref q_t_bag, .ref q_t_up, .ref q_t_least, .int t_q, .ref q_t_factor, .ref q_t_pairFactor, .ref q_t_forbidden, .ref q_t_mayNot, .ref q_t_fixed, .ref q_t_state, .ref q_t_count, .ref q_t_best, .ref q_t_bests, .long t_allCount, .long t_allBest, .long t_allBests], aI cA q_t_row 14 t_row] [(0, .ref q_t), (1, .int a1)] []
  refine g_aload_n C 0 0 dX9_put_0 rfl rfl ?_
  refine g_iload_n C 1 1 dX9_put_1 rfl rfl ?_
  obtain ⟨u1, hu1, hf⟩ := cal_some hf
  refine g_callV1 C 2 [0] 0 (rest := []) dX9_put_2 (c_X9_isKnot (x_l X) cA q_t t_knots q_t_weight q_t_beside q_t_edge t_rowed q_t_row t_bags q_t_bag q_t_up q_t_least t_q q_t_factor q_t_pairFactor q_t_forbidden q_t_mayNot q_t_fixed q_t_state q_t_count q_t_best q_t_bests t_allCount t_allBest t_allBests a1 u1 hu1) kw_349 kw_350 kw_351 kw_343 kw_352 ok_X9_isKnot ⟨Nat.le_of_ble_eq_true rfl, Nat.le_of_ble_eq_true rfl⟩ hk ⟨rfl, rfl⟩ rfl rfl rfl rfl rfl (Nat.le_of_ble_eq_true rfl) rfl (ws' := [oB q_t 9 [.int t_knots, .ref q_t_weight, .ref q_t_beside, .ref q_t_edge, .int t_rowed, .ref q_t_row, .int t_bags, .ref q_t_bag, .ref q_t_up, .ref q_t_least, .int t_q, .ref q_t_factor, .ref q_t_pairFactor, .ref q_t_forbidden, .ref q_t_mayNot, .ref q_t_fixed, .ref q_t_state, .ref q_t_count, .ref q_t_best, .ref q_t_bests, .long t_allCount, .long t_allBest, .long t_allBests], aI cA q_t_row 14 t_row]) (st' := [.int u1]) (N0 := 2) rfl [some 0, none] (by decide) rfl rfl ?_
  refine g_if_ne C 5 10 dX9_put_5 (by decide) hf (fun hf => ?_) (fun hf => ?_)
  · refine g_aload_n C 10 0 dX9_put_10 rfl rfl ?_
    obtain ⟨u2, hu2, hf⟩ := cal_some hf
    refine g_callV1 C 11 [0, 1] 0 (rest := []) dX9_put_11 (c_X9_rowMask (x_l X) cA q_t t_knots q_t_weight q_t_beside q_t_edge t_rowed t_bags q_t_bag q_t_up q_t_least t_q q_t_factor q_t_pairFactor q_t_forbidden q_t_mayNot q_t_fixed q_t_state q_t_count q_t_best q_t_bests t_allCount t_allBest t_allBests q_t_row t_row u2 hu2) kw_359 kw_360 kw_361 kw_343 kw_362 ok_X9_rowMask ⟨Nat.le_of_ble_eq_true rfl, Nat.le_of_ble_eq_true rfl⟩ hk ⟨rfl, rfl⟩ rfl rfl rfl rfl rfl (Nat.le_of_ble_eq_true rfl) rfl (ws' := [oB q_t 9 [.int t_knots, .ref q_t_weight, .ref q_t_beside, .ref q_t_edge, .int t_rowed, .ref q_t_row, .int t_bags, .ref q_t_bag, .ref q_t_up, .ref q_t_least, .int t_q, .ref q_t_factor, .ref q_t_pairFactor, .ref q_t_forbidden, .ref q_t_mayNot, .ref q_t_fixed, .ref q_t_state, .ref q_t_count, .ref q_t_best, .ref q_t_bests, .long t_allCount, .long t_allBest, .long t_allBests], aI cA q_t_row 14 t_row]) (st' := [.int u2]) (N0 := 2) rfl [some 0, some 1] (by decide) rfl rfl ?_
    refine g_iload_n C 14 1 dX9_put_14 rfl rfl ?_
    refine g_ishr C 15 dX9_put_15 ?_
    refine g_iconst C 16 (1 : Int32) dX9_put_16 (by decide) ?_
    refine g_iand C 17 dX9_put_17 ?_
    refine g_iconst C 18 (1 : Int32) dX9_put_18 (by decide) ?_
    refine g_icmp_ne C 19 25 dX9_put_19 (by decide) hf (fun hf => ?_) (fun hf => ?_)
    · refine g_aload_n C 25 0 dX9_put_25 rfl rfl ?_
      refine g_get C 26 0 5 dX9_put_26 inX9 rfl rfl (by decide) kw_358 rfl ?_
      refine g_aload_n C 29 0 dX9_put_29 rfl rfl ?_
      refine g_get C 30 0 4 dX9_put_30 inX9 rfl rfl (by decide) kw_347 rfl ?_
      refine g_iload_n C 33 1 dX9_put_33 rfl rfl ?_
      refine g_iast C 34 1 (fun z => [oB q_t 9 [.int t_knots, .ref q_t_weight, .ref q_t_beside, .ref q_t_edge, .int t_rowed, .ref q_t_row, .int t_bags, .ref q_t_bag, .ref q_t_up, .ref q_t_least, .int t_q, .ref q_t_factor, .ref q_t_pairFactor, .ref q_t_forbidden, .ref q_t_mayNot, .ref q_t_fixed, .ref q_t_state, .ref q_t_count, .ref q_t_best, .ref q_t_bests, .long t_allCount, .long t_allBest, .long t_allBests], aI cA q_t_row 14 z]) dX9_put_34 rfl (fun _ => rfl) hf (fun t_row_3 hf => ?_)
      refine g_aload_n C 35 0 dX9_put_35 rfl rfl ?_
      refine g_dup C 36 dX9_put_36 rfl ?_
      refine g_get C 37 0 4 dX9_put_37 inX9 rfl rfl (by decide) kw_347 rfl ?_
      refine g_iconst C 40 (1 : Int32) dX9_put_40 (by decide) ?_
      refine g_iadd C 41 dX9_put_41 ?_
      refine g_puti C 42 0 4 tyX9 (fun z => [oB q_t 9 [.int t_knots, .ref q_t_weight, .ref q_t_beside, .ref q_t_edge, .int z, .ref q_t_row, .int t_bags, .ref q_t_bag, .ref q_t_up, .ref q_t_least, .int t_q, .ref q_t_factor, .ref q_t_pairFactor, .ref q_t_forbidden, .ref q_t_mayNot, .ref q_t_fixed, .ref q_t_state, .ref q_t_count, .ref q_t_best, .ref q_t_bests, .long t_allCount, .long t_allBest, .long t_allBests], aI cA q_t_row 14 t_row_3]) dX9_put_42 inX9 tyX9_ok nmX9 rfl rfl (by decide) kw_347 rfl rfl (Nat.le_of_ble_eq_true rfl) (fun _ => rfl) hf (fun t_rowed_4 hf => ?_)
      refine g_aload_n C 45 0 dX9_put_45 rfl rfl ?_
      refine g_get C 46 0 4 dX9_put_46 inX9 rfl rfl (by decide) kw_347 rfl ?_
      cases hf
      exact g_iret C 49 dX9_put_49 F hB
    · refine g_bipush C 22 (-2 : Int32) dX9_put_22 (by decide) ?_
      cases hf
      exact g_iret C 24 dX9_put_24 F hB
  · refine g_iconst C 8 (-1 : Int32) dX9_put_8 (by decide) ?_
    cases hf
    exact g_iret C 9 dX9_put_9 F hB

def f_X9_wipe (t_rowed : Int32) : Option (Int32 × Int32) :=
  bnd t_rowed fun x1_1 =>
  bnd (0 : Int32) fun t_rowed_2 =>
  some (x1_1, t_rowed_2)

set_option maxRecDepth 100000 in
set_option maxHeartbeats 1000000 in
theorem c_X9_wipe (l : Launch) (cA : Nat → ClassId) (q_t : Nat) (t_knots : Int32) (q_t_weight : Nat) (q_t_beside : Nat) (q_t_edge : Nat) (t_rowed : Int32) (q_t_row : Nat) (t_bags : Int32) (q_t_bag : Nat) (q_t_up : Nat) (q_t_least : Nat) (t_q : Int32) (q_t_factor : Nat) (q_t_pairFactor : Nat) (q_t_forbidden : Nat) (q_t_mayNot : Nat) (q_t_fixed : Nat) (q_t_state : Nat) (q_t_count : Nat) (q_t_best : Nat) (q_t_bests : Nat) (t_allCount : Int64) (t_allBest : Int64) (t_allBests : Int64)   (r : Int32 × Int32) (hf : f_X9_wipe t_rowed = some r) : MT l cA yX9_wipe cX9_wipe 2 (some .int) ({ frames := 0, cells := 0, slots := 0, locals := 0 } : Room) [.ref q_t] [oB q_t 9 [.int t_knots, .ref q_t_weight, .ref q_t_beside, .ref q_t_edge, .int t_rowed, .ref q_t_row, .int t_bags, .ref q_t_bag, .ref q_t_up, .ref q_t_least, .int t_q, .ref q_t_factor, .ref q_t_pairFactor, .ref q_t_forbidden, .ref q_t_mayNot, .ref q_t_fixed, .ref q_t_state, .ref q_t_count, .ref q_t_best, .ref q_t_bests, .long t_allCount, .long t_allBest, .long t_allBests]] (sB (some (.int r.1)) [oB q_t 9 [.int t_knots, .ref q_t_weight, .ref q_t_beside, .ref q_t_edge, .int r.2, .ref q_t_row, .int t_bags, .ref q_t_bag, .ref q_t_up, .ref q_t_least, .int t_q, .ref q_t_factor, .ref q_t_pairFactor, .ref q_t_forbidden, .ref q_t_mayNot, .ref q_t_fixed, .ref q_t_state, .ref q_t_count, .ref q_t_best, .ref q_t_bests, .long t_allCount, .long t_allBest, .long t_allBests]]) := by
  refine MT.of (by decide) (Nat.le_of_ble_eq_true rfl) ?_
  intro X hXl C F hnm hrc hrs
  subst hXl
  have hk : 0 ≤ (x_R X).cells ∧ 0 ≤ (x_R X).slots := ⟨Nat.zero_le _, Nat.zero_le _⟩
  have hB : (sB (some (.int r.1)) [oB q_t 9 [.int t_knots, .ref q_t_weight, .ref q_t_beside, .ref q_t_edge, .int r.2, .ref q_t_row, .int t_bags, .ref q_t_bag, .ref q_t_up, .ref q_t_least, .int t_q, .ref q_t_factor, .ref q_t_pairFactor, .ref q_t_forbidden, .ref q_t_mayNot, .ref q_t_fixed, .ref q_t_state, .ref q_t_count, .ref q_t_best, .ref q_t_bests, .long t_allCount, .long t_allBest, .long t_allBests]]) (some (.int r.1)) [oB q_t 9 [.int t_knots, .ref q_t_weight, .ref q_t_beside, .ref q_t_edge, .int r.2, .ref q_t_row, .int t_bags, .ref q_t_bag, .ref q_t_up, .ref q_t_least, .int t_q, .ref q_t_factor, .ref q_t_pairFactor, .ref q_t_forbidden, .ref q_t_mayNot, .ref q_t_fixed, .ref q_t_state, .ref q_t_count, .ref q_t_best, .ref q_t_bests, .long t_allCount, .long t_allBest, .long t_allBests]] := ⟨rfl, rfl⟩
  unfold f_X9_wipe at hf
  have C : Cx X cX9_wipe RX9 (some .int) cA 0 0 2 := C
  show Go X 2 0 0 0 [oB q_t 9 [.int t_knots, .ref q_t_weight, .ref q_t_beside, .ref q_t_edge, .int t_rowed, .ref q_t_row, .int t_bags, .ref q_t_bag, .ref q_t_up, .ref q_t_least, .int t_q, .ref q_t_factor, .ref q_t_pairFactor, .ref q_t_forbidden, .ref q_t_mayNot, .ref q_t_fixed, .ref q_t_state, .ref q_t_count, .ref q_t_best, .ref q_t_bests, .long t_allCount, .long t_allBest, .long t_allBests]] [(0, .ref q_t)] []
  refine g_aload_n C 0 0 dX9_wipe_0 rfl rfl ?_
  refine g_get C 1 0 4 dX9_wipe_1 inX9 rfl rfl (by decide) kw_347 rfl ?_
  refine g_istore_n C 4 (fun z => [(1, .int z), (0, .ref q_t)]) dX9_wipe_4 rfl (by decide) (fun _ => rfl) hf (fun x1_1 hf => ?_)
  refine g_aload_n C 5 1 dX9_wipe_5 rfl rfl ?_
  refine g_iconst C 6 (0 : Int32) dX9_wipe_6 (by decide) ?_
  refine g_puti C 7 0 4 tyX9 (fun z => [oB q_t 9 [.int t_knots, .ref q_t_weight, .ref q_t_beside, .ref q_t_edge, .int z, .ref q_t_row, .int t_bags, .ref q_t_bag, .ref q_t_up, .ref q_t_least, .int t_q, .ref q_t_factor, .ref q_t_pairFactor, .ref q_t_forbidden, .ref q_t_mayNot, .ref q_t_fixed, .ref q_t_state, .ref q_t_count, .ref q_t_best, .ref q_t_bests, .long t_allCount, .long t_allBest, .long t_allBests]]) dX9_wipe_7 inX9 tyX9_ok nmX9 rfl rfl (by decide) kw_347 rfl rfl (Nat.le_of_ble_eq_true rfl) (fun _ => rfl) hf (fun t_rowed_2 hf => ?_)
  refine g_iload_n C 10 0 dX9_wipe_10 rfl rfl ?_
  cases hf
  exact g_iret C 11 dX9_wipe_11 F hB

def f_X9_row (a1 : Int32) (t_rowed : Int32) (t_row : Nat → Int32) : Option (Int32) :=
  if a1 < 0 then
    some ((-1 : Int32))
  else
    if a1 < t_rowed then
      ldA t_row 14 a1 fun v1 =>
      some (v1)
    else
      some ((-1 : Int32))

set_option maxRecDepth 100000 in
set_option maxHeartbeats 1000000 in
theorem c_X9_row (l : Launch) (cA : Nat → ClassId) (q_t : Nat) (t_knots : Int32) (q_t_weight : Nat) (q_t_beside : Nat) (q_t_edge : Nat) (t_rowed : Int32) (t_bags : Int32) (q_t_bag : Nat) (q_t_up : Nat) (q_t_least : Nat) (t_q : Int32) (q_t_factor : Nat) (q_t_pairFactor : Nat) (q_t_forbidden : Nat) (q_t_mayNot : Nat) (q_t_fixed : Nat) (q_t_state : Nat) (q_t_count : Nat) (q_t_best : Nat) (q_t_bests : Nat) (t_allCount : Int64) (t_allBest : Int64) (t_allBests : Int64) (q_t_row : Nat) (t_row : Nat → Int32)  (a1 : Int32) (r : Int32) (hf : f_X9_row a1 t_rowed t_row = some r) : MT l cA yX9_row cX9_row 2 (some .int) ({ frames := 0, cells := 0, slots := 0, locals := 0 } : Room) [.ref q_t, .int a1] [oB q_t 9 [.int t_knots, .ref q_t_weight, .ref q_t_beside, .ref q_t_edge, .int t_rowed, .ref q_t_row, .int t_bags, .ref q_t_bag, .ref q_t_up, .ref q_t_least, .int t_q, .ref q_t_factor, .ref q_t_pairFactor, .ref q_t_forbidden, .ref q_t_mayNot, .ref q_t_fixed, .ref q_t_state, .ref q_t_count, .ref q_t_best, .ref q_t_bests, .long t_allCount, .long t_allBest, .long t_allBests], aI cA q_t_row 14 t_row] (sB (some (.int r)) [oB q_t 9 [.int t_knots, .ref q_t_weight, .ref q_t_beside, .ref q_t_edge, .int t_rowed, .ref q_t_row, .int t_bags, .ref q_t_bag, .ref q_t_up, .ref q_t_least, .int t_q, .ref q_t_factor, .ref q_t_pairFactor, .ref q_t_forbidden, .ref q_t_mayNot, .ref q_t_fixed, .ref q_t_state, .ref q_t_count, .ref q_t_best, .ref q_t_bests, .long t_allCount, .long t_allBest, .long t_allBests], aI cA q_t_row 14 t_row]) := by
  refine MT.of (by decide) (Nat.le_of_ble_eq_true rfl) ?_
  intro X hXl C F hnm hrc hrs
  subst hXl
  have hk : 0 ≤ (x_R X).cells ∧ 0 ≤ (x_R X).slots := ⟨Nat.zero_le _, Nat.zero_le _⟩
  have hB : (sB (some (.int r)) [oB q_t 9 [.int t_knots, .ref q_t_weight, .ref q_t_beside, .ref q_t_edge, .int t_rowed, .ref q_t_row, .int t_bags, .ref q_t_bag, .ref q_t_up, .ref q_t_least, .int t_q, .ref q_t_factor, .ref q_t_pairFactor, .ref q_t_forbidden, .ref q_t_mayNot, .ref q_t_fixed, .ref q_t_state, .ref q_t_count, .ref q_t_best, .ref q_t_bests, .long t_allCount, .long t_allBest, .long t_allBests], aI cA q_t_row 14 t_row]) (some (.int r)) [oB q_t 9 [.int t_knots, .ref q_t_weight, .ref q_t_beside, .ref q_t_edge, .int t_rowed, .ref q_t_row, .int t_bags, .ref q_t_bag, .ref q_t_up, .ref q_t_least, .int t_q, .ref q_t_factor, .ref q_t_pairFactor, .ref q_t_forbidden, .ref q_t_mayNot, .ref q_t_fixed, .ref q_t_state, .ref q_t_count, .ref q_t_best, .ref q_t_bests, .long t_allCount, .long t_allBest, .long t_allBests], aI cA q_t_row 14 t_row] := ⟨rfl, rfl⟩
  unfold f_X9_row at hf
  have C : Cx X cX9_row RX9 (some .int) cA 0 0 2 := C
  show Go X 2 0 0 0 [oB q_t 9 [.int t_knots, .ref q_t_weight, .ref q_t_beside, .ref q_t_edge, .int t_rowed, .ref q_t_row, .int t_bags, .ref q_t_bag, .ref q_t_up, .ref q_t_least, .int t_q, .ref q_t_factor, .ref q_t_pairFactor, .ref q_t_forbidden, .ref q_t_mayNot, .ref q_t_fixed, .ref q_t_state, .ref q_t_count, .ref q_t_best, .ref q_t_bests, .long t_allCount, .long t_allBest, .long t_allBests], aI cA q_t_row 14 t_row] [(0, .ref q_t), (1, .int a1)] []
  refine g_iload_n C 0 1 dX9_row_0 rfl rfl ?_
  refine g_if_lt C 1 12 dX9_row_1 (by decide) hf (fun hf => ?_) (fun hf => ?_)
  · refine g_iconst C 12 (-1 : Int32) dX9_row_12 (by decide) ?_
    refine g_goto C 13 22 dX9_row_13 (by decide) ?_
    cases hf
    exact g_iret C 22 dX9_row_22 F hB
  · refine g_iload_n C 4 1 dX9_row_4 rfl rfl ?_
    refine g_aload_n C 5 0 dX9_row_5 rfl rfl ?_
    refine g_get C 6 0 4 dX9_row_6 inX9 rfl rfl (by decide) kw_347 rfl ?_
    refine g_icmp_lt C 9 16 dX9_row_9 (by decide) hf (fun hf => ?_) (fun hf => ?_)
    · refine g_aload_n C 16 0 dX9_row_16 rfl rfl ?_
      refine g_get C 17 0 5 dX9_row_17 inX9 rfl rfl (by decide) kw_358 rfl ?_
      refine g_iload_n C 20 1 dX9_row_20 rfl rfl ?_
      refine g_iald C 21 1 dX9_row_21 rfl hf (fun v1 hf => ?_)
      cases hf
      exact g_iret C 22 dX9_row_22 F hB
    · refine g_iconst C 12 (-1 : Int32) dX9_row_12 (by decide) ?_
      refine g_goto C 13 22 dX9_row_13 (by decide) ?_
      cases hf
      exact g_iret C 22 dX9_row_22 F hB

def L_X9_around_37 (a1 : Int32) (a2 : Int32) (t_knots : Int32) (t_beside : Nat → Int32) (k_12 : Int32 → Int32 → Option (Int32)) : Nat → Int32 → Int32 → Int32 → Int32 → Option (Int32)
  | 0, _, _, _, _ => none
  | n + 1, x3, x4, x5, x6 =>
    if t_knots ≤ x6 then
      k_12 x3 x4
    else
      if ((x5 &&& a1) &&& ((1 : Int32) <<< (x6 &&& 31))) = 0 then
        bnd (x6 + (1 : Int32)) fun x6_7 =>
        L_X9_around_37 a1 a2 t_knots t_beside k_12 n x3 x4 x5 x6_7
      else
        ldA t_beside 14 x6 fun v8 =>
        bnd (x4 ||| v8) fun x4_9 =>
        bnd (x6 + (1 : Int32)) fun x6_10 =>
        L_X9_around_37 a1 a2 t_knots t_beside k_12 n x3 x4_9 x5 x6_10

set_option maxRecDepth 100000 in
set_option maxHeartbeats 1000000 in
theorem w_X9_around_37 (cA : Nat → ClassId) (q_t : Nat) (q_t_weight : Nat) (q_t_edge : Nat) (t_rowed : Int32) (q_t_row : Nat) (t_bags : Int32) (q_t_bag : Nat) (q_t_up : Nat) (q_t_least : Nat) (t_q : Int32) (q_t_factor : Nat) (q_t_pairFactor : Nat) (q_t_forbidden : Nat) (q_t_mayNot : Nat) (q_t_fixed : Nat) (q_t_state : Nat) (q_t_count : Nat) (q_t_best : Nat) (q_t_bests : Nat) (t_allCount : Int64) (t_allBest : Int64) (t_allBests : Int64) (q_t_beside : Nat) (a1 : Int32) (a2 : Int32) (t_knots : Int32) (t_beside : Nat → Int32) {X : XT}  (C : Cx X cX9_around RX9 (some .int) cA 0 0 7) {kk nn : Nat} {BB : Option Value → va_W → Prop} (hk : kk ≤ (x_R X).cells ∧ nn ≤ (x_R X).slots) (F : Fx X BB kk nn) (r : Int32) (hB : BB (some (.int r)) [oB q_t 9 [.int t_knots, .ref q_t_weight, .ref q_t_beside, .ref q_t_edge, .int t_rowed, .ref q_t_row, .int t_bags, .ref q_t_bag, .ref q_t_up, .ref q_t_least, .int t_q, .ref q_t_factor, .ref q_t_pairFactor, .ref q_t_forbidden, .ref q_t_mayNot, .ref q_t_fixed, .ref q_t_state, .ref q_t_count, .ref q_t_best, .ref q_t_bests, .long t_allCount, .long t_allBest, .long t_allBests], aI cA q_t_beside 14 t_beside]) (k_12 : Int32 → Int32 → Option (Int32)) (h_12 : ∀ (x3 : Int32) (x4 : Int32), k_12 x3 x4 = some r → Go X 7 kk nn 12 [oB q_t 9 [.int t_knots, .ref q_t_weight, .ref q_t_beside, .ref q_t_edge, .int t_rowed, .ref q_t_row, .int t_bags, .ref q_t_bag, .ref q_t_up, .ref q_t_least, .int t_q, .ref q_t_factor, .ref q_t_pairFactor, .ref q_t_forbidden, .ref q_t_mayNot, .ref q_t_fixed, .ref q_t_state, .ref q_t_count, .ref q_t_best, .ref q_t_bests, .long t_allCount, .long t_allBest, .long t_allBests], aI cA q_t_beside 14 t_beside] [(0, .ref q_t), (1, .int a1), (2, .int a2), (3, .int x3), (4, .int x4)] []) : ∀ (n : Nat) (x3 : Int32) (x4 : Int32) (x5 : Int32) (x6 : Int32), L_X9_around_37 a1 a2 t_knots t_beside k_12 n x3 x4 x5 x6 = some r → Go X 7 kk nn 37 [oB q_t 9 [.int t_knots, .ref q_t_weight, .ref q_t_beside, .ref q_t_edge, .int t_rowed, .ref q_t_row, .int t_bags, .ref q_t_bag, .ref q_t_up, .ref q_t_least, .int t_q, .ref q_t_factor, .ref q_t_pairFactor, .ref q_t_forbidden, .ref q_t_mayNot, .ref q_t_fixed, .ref q_t_state, .ref q_t_count, .ref q_t_best, .ref q_t_bests, .long t_allCount, .long t_allBest, .long t_allBests], aI cA q_t_beside 14 t_beside] [(0, .ref q_t), (1, .int a1), (2, .int a2), (3, .int x3), (4, .int x4), (5, .int x5), (6, .int x6)] [] := by
  intro n
  induction n with
  | zero => intro x3 x4 x5 x6 hf; exact no_some hf
  | succ n ih =>
    intro x3 x4 x5 x6 hf
    rw [L_X9_around_37] at hf
    refine g_iload C 37 6 dX9_around_37 rfl ?_
    refine g_aload_n C 39 0 dX9_around_39 rfl rfl ?_
    refine g_get C 40 0 0 dX9_around_40 inX9 rfl rfl (by decide) kw_339 rfl ?_
    refine g_icmp_ge C 43 76 dX9_around_43 (by decide) hf (fun hf => ?_) (fun hf => ?_)
    · refine g_goto C 76 12 dX9_around_76 (by decide) ?_
      refine g_lv [0, 1, 2, 3, 4] rfl ?_
      exact h_12 x3 x4 hf
    · refine g_iload C 46 5 dX9_around_46 rfl ?_
      refine g_iload_n C 48 1 dX9_around_48 rfl rfl ?_
      refine g_iand C 49 dX9_around_49 ?_
      refine g_iconst C 50 (1 : Int32) dX9_around_50 (by decide) ?_
      refine g_iload C 51 6 dX9_around_51 rfl ?_
      refine g_ishl C 53 dX9_around_53 ?_
      refine g_iand C 54 dX9_around_54 ?_
      refine g_if_eq C 55 70 dX9_around_55 (by decide) hf (fun hf => ?_) (fun hf => ?_)
      · refine g_iinc C 70 6 (v := x6 + (1 : Int32)) (fun z => [(6, .int z), (0, .ref q_t), (1, .int a1), (2, .int a2), (3, .int x3), (4, .int x4), (5, .int x5)]) dX9_around_70 rfl rfl (by decide) (fun _ => rfl) hf (fun x6_7 hf => ?_)
        refine g_goto C 73 37 dX9_around_73 (by decide) ?_
        refine g_lv [1, 2, 3, 4, 5, 6, 0] rfl ?_
        exact ih x3 x4 x5 x6_7 hf
      · refine g_iload C 58 4 dX9_around_58 rfl ?_
        refine g_aload_n C 60 0 dX9_around_60 rfl rfl ?_
        refine g_get C 61 0 2 dX9_around_61 inX9 rfl rfl (by decide) kw_346 rfl ?_
        refine g_iload C 64 6 dX9_around_64 rfl ?_
        refine g_iald C 66 1 dX9_around_66 rfl hf (fun v8 hf => ?_)
        refine g_ior C 67 dX9_around_67 ?_
        refine g_istore C 68 (fun z => [(4, .int z), (0, .ref q_t), (1, .int a1), (2, .int a2), (3, .int x3), (5, .int x5), (6, .int x6)]) dX9_around_68 (by decide) (fun _ => rfl) hf (fun x4_9 hf => ?_)
        refine g_iinc C 70 6 (v := x6 + (1 : Int32)) (fun z => [(6, .int z), (4, .int x4_9), (0, .ref q_t), (1, .int a1), (2, .int a2), (3, .int x3), (5, .int x5)]) dX9_around_70 rfl rfl (by decide) (fun _ => rfl) hf (fun x6_10 hf => ?_)
        refine g_goto C 73 37 dX9_around_73 (by decide) ?_
        refine g_lv [2, 3, 4, 5, 1, 6, 0] rfl ?_
        exact ih x3 x4_9 x5 x6_10 hf
def L_X9_around_12 (a1 : Int32) (a2 : Int32) (t_knots : Int32) (t_beside : Nat → Int32)  : Nat → Int32 → Int32 → Option (Int32)
  | 0, _, _ => none
  | n + 1, x3, x4 =>
    if (x4 &&& (x3 ^^^ (-1 : Int32))) = 0 then
      some (((x3 &&& (a1 ^^^ (-1 : Int32))) &&& (((1 : Int32) <<< (a2 &&& 31)) ^^^ (-1 : Int32))))
    else
      bnd (x4 &&& (x3 ^^^ (-1 : Int32))) fun x5_4 =>
      bnd (x3 ||| x5_4) fun x3_5 =>
      bnd (0 : Int32) fun x6_6 =>
      L_X9_around_37 a1 a2 t_knots t_beside (fun y0 y1 => L_X9_around_12 a1 a2 t_knots t_beside n y0 y1) NN x3_5 x4 x5_4 x6_6

set_option maxRecDepth 100000 in
set_option maxHeartbeats 1000000 in
theorem w_X9_around_12 (cA : Nat → ClassId) (q_t : Nat) (q_t_weight : Nat) (q_t_edge : Nat) (t_rowed : Int32) (q_t_row : Nat) (t_bags : Int32) (q_t_bag : Nat) (q_t_up : Nat) (q_t_least : Nat) (t_q : Int32) (q_t_factor : Nat) (q_t_pairFactor : Nat) (q_t_forbidden : Nat) (q_t_mayNot : Nat) (q_t_fixed : Nat) (q_t_state : Nat) (q_t_count : Nat) (q_t_best : Nat) (q_t_bests : Nat) (t_allCount : Int64) (t_allBest : Int64) (t_allBests : Int64) (q_t_beside : Nat) (a1 : Int32) (a2 : Int32) (t_knots : Int32) (t_beside : Nat → Int32) {X : XT}  (C : Cx X cX9_around RX9 (some .int) cA 0 0 7) {kk nn : Nat} {BB : Option Value → va_W → Prop} (hk : kk ≤ (x_R X).cells ∧ nn ≤ (x_R X).slots) (F : Fx X BB kk nn) (r : Int32) (hB : BB (some (.int r)) [oB q_t 9 [.int t_knots, .ref q_t_weight, .ref q_t_beside, .ref q_t_edge, .int t_rowed, .ref q_t_row, .int t_bags, .ref q_t_bag, .ref q_t_up, .ref q_t_least, .int t_q, .ref q_t_factor, .ref q_t_pairFactor, .ref q_t_forbidden, .ref q_t_mayNot, .ref q_t_fixed, .ref q_t_state, .ref q_t_count, .ref q_t_best, .ref q_t_bests, .long t_allCount, .long t_allBest, .long t_allBests], aI cA q_t_beside 14 t_beside])  : ∀ (n : Nat) (x3 : Int32) (x4 : Int32), L_X9_around_12 a1 a2 t_knots t_beside n x3 x4 = some r → Go X 7 kk nn 12 [oB q_t 9 [.int t_knots, .ref q_t_weight, .ref q_t_beside, .ref q_t_edge, .int t_rowed, .ref q_t_row, .int t_bags, .ref q_t_bag, .ref q_t_up, .ref q_t_least, .int t_q, .ref q_t_factor, .ref q_t_pairFactor, .ref q_t_forbidden, .ref q_t_mayNot, .ref q_t_fixed, .ref q_t_state, .ref q_t_count, .ref q_t_best, .ref q_t_bests, .long t_allCount, .long t_allBest, .long t_allBests], aI cA q_t_beside 14 t_beside] [(0, .ref q_t), (1, .int a1), (2, .int a2), (3, .int x3), (4, .int x4)] [] := by
  intro n
  induction n with
  | zero => intro x3 x4 hf; exact no_some hf
  | succ n ih =>
    intro x3 x4 hf
    rw [L_X9_around_12] at hf
    refine g_iload C 12 4 dX9_around_12 rfl ?_
    refine g_iload_n C 14 3 dX9_around_14 rfl rfl ?_
    refine g_iconst C 15 (-1 : Int32) dX9_around_15 (by decide) ?_
    refine g_ixor C 16 dX9_around_16 ?_
    refine g_iand C 17 dX9_around_17 ?_
    refine g_if_eq C 18 79 dX9_around_18 (by decide) hf (fun hf => ?_) (fun hf => ?_)
    · refine g_iload_n C 79 3 dX9_around_79 rfl rfl ?_
      refine g_iload_n C 80 1 dX9_around_80 rfl rfl ?_
      refine g_iconst C 81 (-1 : Int32) dX9_around_81 (by decide) ?_
      refine g_ixor C 82 dX9_around_82 ?_
      refine g_iand C 83 dX9_around_83 ?_
      refine g_iconst C 84 (1 : Int32) dX9_around_84 (by decide) ?_
      refine g_iload_n C 85 2 dX9_around_85 rfl rfl ?_
      refine g_ishl C 86 dX9_around_86 ?_
      refine g_iconst C 87 (-1 : Int32) dX9_around_87 (by decide) ?_
      refine g_ixor C 88 dX9_around_88 ?_
      refine g_iand C 89 dX9_around_89 ?_
      cases hf
      exact g_iret C 90 dX9_around_90 F hB
    · refine g_iload C 21 4 dX9_around_21 rfl ?_
      refine g_iload_n C 23 3 dX9_around_23 rfl rfl ?_
      refine g_iconst C 24 (-1 : Int32) dX9_around_24 (by decide) ?_
      refine g_ixor C 25 dX9_around_25 ?_
      refine g_iand C 26 dX9_around_26 ?_
      refine g_istore C 27 (fun z => [(5, .int z), (0, .ref q_t), (1, .int a1), (2, .int a2), (3, .int x3), (4, .int x4)]) dX9_around_27 (by decide) (fun _ => rfl) hf (fun x5_4 hf => ?_)
      refine g_iload_n C 29 4 dX9_around_29 rfl rfl ?_
      refine g_iload C 30 0 dX9_around_30 rfl ?_
      refine g_ior C 32 dX9_around_32 ?_
      refine g_istore_n C 33 (fun z => [(3, .int z), (5, .int x5_4), (0, .ref q_t), (1, .int a1), (2, .int a2), (4, .int x4)]) dX9_around_33 rfl (by decide) (fun _ => rfl) hf (fun x3_5 hf => ?_)
      refine g_iconst C 34 (0 : Int32) dX9_around_34 (by decide) ?_
      refine g_istore C 35 (fun z => [(6, .int z), (3, .int x3_5), (5, .int x5_4), (0, .ref q_t), (1, .int a1), (2, .int a2), (4, .int x4)]) dX9_around_35 (by decide) (fun _ => rfl) hf (fun x6_6 hf => ?_)
      refine g_lv [3, 4, 5, 1, 6, 2, 0] rfl ?_
      exact w_X9_around_37 cA q_t q_t_weight q_t_edge t_rowed q_t_row t_bags q_t_bag q_t_up q_t_least t_q q_t_factor q_t_pairFactor q_t_forbidden q_t_mayNot q_t_fixed q_t_state q_t_count q_t_best q_t_bests t_allCount t_allBest t_allBests q_t_beside a1 a2 t_knots t_beside C hk F r hB (fun y0 y1 => L_X9_around_12 a1 a2 t_knots t_beside n y0 y1) (fun y0 y1 hf => ih y0 y1 hf) NN x3_5 x4 x5_4 x6_6 hf
def f_X9_around (a1 : Int32) (a2 : Int32) (t_knots : Int32) (t_beside : Nat → Int32) : Option (Int32) :=
  bnd ((1 : Int32) <<< (a2 &&& 31)) fun x3_1 =>
  ldA t_beside 14 a2 fun v2 =>
  bnd v2 fun x4_3 =>
  L_X9_around_12 a1 a2 t_knots t_beside NN x3_1 x4_3

set_option maxRecDepth 100000 in
set_option maxHeartbeats 1000000 in
theorem c_X9_around (l : Launch) (cA : Nat → ClassId) (q_t : Nat) (t_knots : Int32) (q_t_weight : Nat) (q_t_edge : Nat) (t_rowed : Int32) (q_t_row : Nat) (t_bags : Int32) (q_t_bag : Nat) (q_t_up : Nat) (q_t_least : Nat) (t_q : Int32) (q_t_factor : Nat) (q_t_pairFactor : Nat) (q_t_forbidden : Nat) (q_t_mayNot : Nat) (q_t_fixed : Nat) (q_t_state : Nat) (q_t_count : Nat) (q_t_best : Nat) (q_t_bests : Nat) (t_allCount : Int64) (t_allBest : Int64) (t_allBests : Int64) (q_t_beside : Nat) (t_beside : Nat → Int32)  (a1 : Int32) (a2 : Int32) (r : Int32) (hf : f_X9_around a1 a2 t_knots t_beside = some r) : MT l cA yX9_around cX9_around 7 (some .int) ({ frames := 0, cells := 0, slots := 0, locals := 0 } : Room) [.ref q_t, .int a1, .int a2] [oB q_t 9 [.int t_knots, .ref q_t_weight, .ref q_t_beside, .ref q_t_edge, .int t_rowed, .ref q_t_row, .int t_bags, .ref q_t_bag, .ref q_t_up, .ref q_t_least, .int t_q, .ref q_t_factor, .ref q_t_pairFactor, .ref q_t_forbidden, .ref q_t_mayNot, .ref q_t_fixed, .ref q_t_state, .ref q_t_count, .ref q_t_best, .ref q_t_bests, .long t_allCount, .long t_allBest, .long t_allBests], aI cA q_t_beside 14 t_beside] (sB (some (.int r)) [oB q_t 9 [.int t_knots, .ref q_t_weight, .ref q_t_beside, .ref q_t_edge, .int t_rowed, .ref q_t_row, .int t_bags, .ref q_t_bag, .ref q_t_up, .ref q_t_least, .int t_q, .ref q_t_factor, .ref q_t_pairFactor, .ref q_t_forbidden, .ref q_t_mayNot, .ref q_t_fixed, .ref q_t_state, .ref q_t_count, .ref q_t_best, .ref q_t_bests, .long t_allCount, .long t_allBest, .long t_allBests], aI cA q_t_beside 14 t_beside]) := by
  refine MT.of (by decide) (Nat.le_of_ble_eq_true rfl) ?_
  intro X hXl C F hnm hrc hrs
  subst hXl
  have hk : 0 ≤ (x_R X).cells ∧ 0 ≤ (x_R X).slots := ⟨Nat.zero_le _, Nat.zero_le _⟩
  have hB : (sB (some (.int r)) [oB q_t 9 [.int t_knots, .ref q_t_weight, .ref q_t_beside, .ref q_t_edge, .int t_rowed, .ref q_t_row, .int t_bags, .ref q_t_bag, .ref q_t_up, .ref q_t_least, .int t_q, .ref q_t_factor, .ref q_t_pairFactor, .ref q_t_forbidden, .ref q_t_mayNot, .ref q_t_fixed, .ref q_t_state, .ref q_t_count, .ref q_t_best, .ref q_t_bests, .long t_allCount, .long t_allBest, .long t_allBests], aI cA q_t_beside 14 t_beside]) (some (.int r)) [oB q_t 9 [.int t_knots, .ref q_t_weight, .ref q_t_beside, .ref q_t_edge, .int t_rowed, .ref q_t_row, .int t_bags, .ref q_t_bag, .ref q_t_up, .ref q_t_least, .int t_q, .ref q_t_factor, .ref q_t_pairFactor, .ref q_t_forbidden, .ref q_t_mayNot, .ref q_t_fixed, .ref q_t_state, .ref q_t_count, .ref q_t_best, .ref q_t_bests, .long t_allCount, .long t_allBest, .long t_allBests], aI cA q_t_beside 14 t_beside] := ⟨rfl, rfl⟩
  unfold f_X9_around at hf
  have C : Cx X cX9_around RX9 (some .int) cA 0 0 7 := C
  show Go X 7 0 0 0 [oB q_t 9 [.int t_knots, .ref q_t_weight, .ref q_t_beside, .ref q_t_edge, .int t_rowed, .ref q_t_row, .int t_bags, .ref q_t_bag, .ref q_t_up, .ref q_t_least, .int t_q, .ref q_t_factor, .ref q_t_pairFactor, .ref q_t_forbidden, .ref q_t_mayNot, .ref q_t_fixed, .ref q_t_state, .ref q_t_count, .ref q_t_best, .ref q_t_bests, .long t_allCount, .long t_allBest, .long t_allBests], aI cA q_t_beside 14 t_beside] [(0, .ref q_t), (1, .int a1), (2, .int a2)] []
  refine g_iconst C 0 (1 : Int32) dX9_around_0 (by decide) ?_
  refine g_iload_n C 1 2 dX9_around_1 rfl rfl ?_
  refine g_ishl C 2 dX9_around_2 ?_
  refine g_istore_n C 3 (fun z => [(3, .int z), (0, .ref q_t), (1, .int a1), (2, .int a2)]) dX9_around_3 rfl (by decide) (fun _ => rfl) hf (fun x3_1 hf => ?_)
  refine g_aload_n C 4 1 dX9_around_4 rfl rfl ?_
  refine g_get C 5 0 2 dX9_around_5 inX9 rfl rfl (by decide) kw_346 rfl ?_
  refine g_iload_n C 8 3 dX9_around_8 rfl rfl ?_
  refine g_iald C 9 1 dX9_around_9 rfl hf (fun v2 hf => ?_)
  refine g_istore C 10 (fun z => [(4, .int z), (3, .int x3_1), (0, .ref q_t), (1, .int a1), (2, .int a2)]) dX9_around_10 (by decide) (fun _ => rfl) hf (fun x4_3 hf => ?_)
  refine g_lv [2, 3, 4, 1, 0] rfl ?_
  exact w_X9_around_12 cA q_t q_t_weight q_t_edge t_rowed q_t_row t_bags q_t_bag q_t_up q_t_least t_q q_t_factor q_t_pairFactor q_t_forbidden q_t_mayNot q_t_fixed q_t_state q_t_count q_t_best q_t_bests t_allCount t_allBest t_allBests q_t_beside a1 a2 t_knots t_beside C hk F r hB NN x3_1 x4_3 hf

def f_X9_isOrder (t_knots : Int32) (t_rowed : Int32) : Option (Int32) :=
  if t_rowed = t_knots then
    some ((1 : Int32))
  else
    some ((0 : Int32))

set_option maxRecDepth 100000 in
set_option maxHeartbeats 1000000 in
theorem c_X9_isOrder (l : Launch) (cA : Nat → ClassId) (q_t : Nat) (t_knots : Int32) (q_t_weight : Nat) (q_t_beside : Nat) (q_t_edge : Nat) (t_rowed : Int32) (q_t_row : Nat) (t_bags : Int32) (q_t_bag : Nat) (q_t_up : Nat) (q_t_least : Nat) (t_q : Int32) (q_t_factor : Nat) (q_t_pairFactor : Nat) (q_t_forbidden : Nat) (q_t_mayNot : Nat) (q_t_fixed : Nat) (q_t_state : Nat) (q_t_count : Nat) (q_t_best : Nat) (q_t_bests : Nat) (t_allCount : Int64) (t_allBest : Int64) (t_allBests : Int64)   (r : Int32) (hf : f_X9_isOrder t_knots t_rowed = some r) : MT l cA yX9_isOrder cX9_isOrder 1 (some .boolean) ({ frames := 0, cells := 0, slots := 0, locals := 0 } : Room) [.ref q_t] [oB q_t 9 [.int t_knots, .ref q_t_weight, .ref q_t_beside, .ref q_t_edge, .int t_rowed, .ref q_t_row, .int t_bags, .ref q_t_bag, .ref q_t_up, .ref q_t_least, .int t_q, .ref q_t_factor, .ref q_t_pairFactor, .ref q_t_forbidden, .ref q_t_mayNot, .ref q_t_fixed, .ref q_t_state, .ref q_t_count, .ref q_t_best, .ref q_t_bests, .long t_allCount, .long t_allBest, .long t_allBests]] (sB (some (.int r)) [oB q_t 9 [.int t_knots, .ref q_t_weight, .ref q_t_beside, .ref q_t_edge, .int t_rowed, .ref q_t_row, .int t_bags, .ref q_t_bag, .ref q_t_up, .ref q_t_least, .int t_q, .ref q_t_factor, .ref q_t_pairFactor, .ref q_t_forbidden, .ref q_t_mayNot, .ref q_t_fixed, .ref q_t_state, .ref q_t_count, .ref q_t_best, .ref q_t_bests, .long t_allCount, .long t_allBest, .long t_allBests]]) := by
  refine MT.of (by decide) (Nat.le_of_ble_eq_true rfl) ?_
  intro X hXl C F hnm hrc hrs
  subst hXl
  have hk : 0 ≤ (x_R X).cells ∧ 0 ≤ (x_R X).slots := ⟨Nat.zero_le _, Nat.zero_le _⟩
  have hB : (sB (some (.int r)) [oB q_t 9 [.int t_knots, .ref q_t_weight, .ref q_t_beside, .ref q_t_edge, .int t_rowed, .ref q_t_row, .int t_bags, .ref q_t_bag, .ref q_t_up, .ref q_t_least, .int t_q, .ref q_t_factor, .ref q_t_pairFactor, .ref q_t_forbidden, .ref q_t_mayNot, .ref q_t_fixed, .ref q_t_state, .ref q_t_count, .ref q_t_best, .ref q_t_bests, .long t_allCount, .long t_allBest, .long t_allBests]]) (some (.int r)) [oB q_t 9 [.int t_knots, .ref q_t_weight, .ref q_t_beside, .ref q_t_edge, .int t_rowed, .ref q_t_row, .int t_bags, .ref q_t_bag, .ref q_t_up, .ref q_t_least, .int t_q, .ref q_t_factor, .ref q_t_pairFactor, .ref q_t_forbidden, .ref q_t_mayNot, .ref q_t_fixed, .ref q_t_state, .ref q_t_count, .ref q_t_best, .ref q_t_bests, .long t_allCount, .long t_allBest, .long t_allBests]] := ⟨rfl, rfl⟩
  unfold f_X9_isOrder at hf
  have C : Cx X cX9_isOrder RX9 (some .boolean) cA 0 0 1 := C
  show Go X 1 0 0 0 [oB q_t 9 [.int t_knots, .ref q_t_weight, .ref q_t_beside, .ref q_t_edge, .int t_rowed, .ref q_t_row, .int t_bags, .ref q_t_bag, .ref q_t_up, .ref q_t_least, .int t_q, .ref q_t_factor, .ref q_t_pairFactor, .ref q_t_forbidden, .ref q_t_mayNot, .ref q_t_fixed, .ref q_t_state, .ref q_t_count, .ref q_t_best, .ref q_t_bests, .long t_allCount, .long t_allBest, .long t_allBests]] [(0, .ref q_t)] []
  refine g_aload_n C 0 0 dX9_isOrder_0 rfl rfl ?_
  refine g_get C 1 0 4 dX9_isOrder_1 inX9 rfl rfl (by decide) kw_347 rfl ?_
  refine g_aload_n C 4 0 dX9_isOrder_4 rfl rfl ?_
  refine g_get C 5 0 0 dX9_isOrder_5 inX9 rfl rfl (by decide) kw_339 rfl ?_
  refine g_icmp_ne C 8 15 dX9_isOrder_8 (by decide) hf (fun hf => ?_) (fun hf => ?_)
  · refine g_iconst C 15 (0 : Int32) dX9_isOrder_15 (by decide) ?_
    cases hf
    exact g_zret C 16 dX9_isOrder_16 (by decide) F hB
  · refine g_iconst C 11 (1 : Int32) dX9_isOrder_11 (by decide) ?_
    refine g_goto C 12 16 dX9_isOrder_12 (by decide) ?_
    cases hf
    exact g_zret C 16 dX9_isOrder_16 (by decide) F hB

def J_X9_rowWidth_43 (t_knots : Int32) (t_rowed : Int32) (t_beside : Nat → Int32) (t_row : Nat → Int32) (k_6 : Int32 → Int32 → Int32 → Option (Int32)) (x1 : Int32) (x3 : Int32) (s0 : Int32) : Option (Int32) :=
  bnd s0 fun x2_8 =>
  ldA t_row 14 x3 fun v9 =>
  bnd (x1 ||| ((1 : Int32) <<< (v9 &&& 31))) fun x1_10 =>
  bnd (x3 + (1 : Int32)) fun x3_11 =>
  k_6 x1_10 x2_8 x3_11

set_option maxRecDepth 100000 in
set_option maxHeartbeats 1000000 in
theorem w_X9_rowWidth_43 (cA : Nat → ClassId) (q_t : Nat) (q_t_weight : Nat) (q_t_edge : Nat) (t_bags : Int32) (q_t_bag : Nat) (q_t_up : Nat) (q_t_least : Nat) (t_q : Int32) (q_t_factor : Nat) (q_t_pairFactor : Nat) (q_t_forbidden : Nat) (q_t_mayNot : Nat) (q_t_fixed : Nat) (q_t_state : Nat) (q_t_count : Nat) (q_t_best : Nat) (q_t_bests : Nat) (t_allCount : Int64) (t_allBest : Int64) (t_allBests : Int64) (q_t_beside : Nat) (q_t_row : Nat) (t_knots : Int32) (t_rowed : Int32) (t_beside : Nat → Int32) (t_row : Nat → Int32) {X : XT}  (C : Cx X cX9_rowWidth RX9 (some .int) cA 1 26 5) {kk nn : Nat} {BB : Option Value → va_W → Prop} (hk : kk ≤ (x_R X).cells ∧ nn ≤ (x_R X).slots) (F : Fx X BB kk nn) (r : Int32) (hB : BB (some (.int r)) [oB q_t 9 [.int t_knots, .ref q_t_weight, .ref q_t_beside, .ref q_t_edge, .int t_rowed, .ref q_t_row, .int t_bags, .ref q_t_bag, .ref q_t_up, .ref q_t_least, .int t_q, .ref q_t_factor, .ref q_t_pairFactor, .ref q_t_forbidden, .ref q_t_mayNot, .ref q_t_fixed, .ref q_t_state, .ref q_t_count, .ref q_t_best, .ref q_t_bests, .long t_allCount, .long t_allBest, .long t_allBests], aI cA q_t_beside 14 t_beside, aI cA q_t_row 14 t_row]) (k_6 : Int32 → Int32 → Int32 → Option (Int32)) (h_6 : ∀ (x1 : Int32) (x2 : Int32) (x3 : Int32), k_6 x1 x2 x3 = some r → Go X 5 kk nn 6 [oB q_t 9 [.int t_knots, .ref q_t_weight, .ref q_t_beside, .ref q_t_edge, .int t_rowed, .ref q_t_row, .int t_bags, .ref q_t_bag, .ref q_t_up, .ref q_t_least, .int t_q, .ref q_t_factor, .ref q_t_pairFactor, .ref q_t_forbidden, .ref q_t_mayNot, .ref q_t_fixed, .ref q_t_state, .ref q_t_count, .ref q_t_best, .ref q_t_bests, .long t_allCount, .long t_allBest, .long t_allBests], aI cA q_t_beside 14 t_beside, aI cA q_t_row 14 t_row] [(0, .ref q_t), (1, .int x1), (2, .int x2), (3, .int x3)] []) : ∀ (x1 : Int32) (x3 : Int32) (s0 : Int32), J_X9_rowWidth_43 t_knots t_rowed t_beside t_row k_6 x1 x3 s0 = some r → Go X 5 kk nn 43 [oB q_t 9 [.int t_knots, .ref q_t_weight, .ref q_t_beside, .ref q_t_edge, .int t_rowed, .ref q_t_row, .int t_bags, .ref q_t_bag, .ref q_t_up, .ref q_t_least, .int t_q, .ref q_t_factor, .ref q_t_pairFactor, .ref q_t_forbidden, .ref q_t_mayNot, .ref q_t_fixed, .ref q_t_state, .ref q_t_count, .ref q_t_best, .ref q_t_bests, .long t_allCount, .long t_allBest, .long t_allBests], aI cA q_t_beside 14 t_beside, aI cA q_t_row 14 t_row] [(0, .ref q_t), (1, .int x1), (3, .int x3)] [.int s0] := by
  intro x1 x3 s0 hf
  unfold J_X9_rowWidth_43 at hf
  refine g_istore_n C 43 (fun z => [(2, .int z), (0, .ref q_t), (1, .int x1), (3, .int x3)]) dX9_rowWidth_43 rfl (by decide) (fun _ => rfl) hf (fun x2_8 hf => ?_)
  refine g_iload_n C 44 2 dX9_rowWidth_44 rfl rfl ?_
  refine g_iconst C 45 (1 : Int32) dX9_rowWidth_45 (by decide) ?_
  refine g_aload_n C 46 1 dX9_rowWidth_46 rfl rfl ?_
  refine g_get C 47 0 5 dX9_rowWidth_47 inX9 rfl rfl (by decide) kw_358 rfl ?_
  refine g_iload_n C 50 3 dX9_rowWidth_50 rfl rfl ?_
  refine g_iald C 51 2 dX9_rowWidth_51 rfl hf (fun v9 hf => ?_)
  refine g_ishl C 52 dX9_rowWidth_52 ?_
  refine g_ior C 53 dX9_rowWidth_53 ?_
  refine g_istore_n C 54 (fun z => [(1, .int z), (2, .int x2_8), (0, .ref q_t), (3, .int x3)]) dX9_rowWidth_54 rfl (by decide) (fun _ => rfl) hf (fun x1_10 hf => ?_)
  refine g_iinc C 55 3 (v := x3 + (1 : Int32)) (fun z => [(3, .int z), (1, .int x1_10), (2, .int x2_8), (0, .ref q_t)]) dX9_rowWidth_55 rfl rfl (by decide) (fun _ => rfl) hf (fun x3_11 hf => ?_)
  refine g_goto C 58 6 dX9_rowWidth_58 (by decide) ?_
  refine g_lv [3, 1, 2, 0] rfl ?_
  exact h_6 x1_10 x2_8 x3_11 hf
def L_X9_rowWidth_6 (t_knots : Int32) (t_rowed : Int32) (t_beside : Nat → Int32) (t_row : Nat → Int32)  : Nat → Int32 → Int32 → Int32 → Option (Int32)
  | 0, _, _, _ => none
  | n + 1, x1, x2, x3 =>
    if t_rowed ≤ x3 then
      some (x2)
    else
      ldA t_row 14 x3 fun v4 =>
      cal (f_X9_around x1 v4 t_knots t_beside) fun u5 =>
      cal (f_X9_bits u5) fun u6 =>
      bnd u6 fun x4_7 =>
      if x4_7 ≤ x2 then
        J_X9_rowWidth_43 t_knots t_rowed t_beside t_row (fun y0 y1 y2 => L_X9_rowWidth_6 t_knots t_rowed t_beside t_row n y0 y1 y2) x1 x3 x2
      else
        J_X9_rowWidth_43 t_knots t_rowed t_beside t_row (fun y0 y1 y2 => L_X9_rowWidth_6 t_knots t_rowed t_beside t_row n y0 y1 y2) x1 x3 x4_7

set_option maxRecDepth 100000 in
set_option maxHeartbeats 1000000 in
theorem w_X9_rowWidth_6 (cA : Nat → ClassId) (q_t : Nat) (q_t_weight : Nat) (q_t_edge : Nat) (t_bags : Int32) (q_t_bag : Nat) (q_t_up : Nat) (q_t_least : Nat) (t_q : Int32) (q_t_factor : Nat) (q_t_pairFactor : Nat) (q_t_forbidden : Nat) (q_t_mayNot : Nat) (q_t_fixed : Nat) (q_t_state : Nat) (q_t_count : Nat) (q_t_best : Nat) (q_t_bests : Nat) (t_allCount : Int64) (t_allBest : Int64) (t_allBests : Int64) (q_t_beside : Nat) (q_t_row : Nat) (t_knots : Int32) (t_rowed : Int32) (t_beside : Nat → Int32) (t_row : Nat → Int32) {X : XT}  (C : Cx X cX9_rowWidth RX9 (some .int) cA 1 26 5) {kk nn : Nat} {BB : Option Value → va_W → Prop} (hk : kk ≤ (x_R X).cells ∧ nn ≤ (x_R X).slots) (F : Fx X BB kk nn) (r : Int32) (hB : BB (some (.int r)) [oB q_t 9 [.int t_knots, .ref q_t_weight, .ref q_t_beside, .ref q_t_edge, .int t_rowed, .ref q_t_row, .int t_bags, .ref q_t_bag, .ref q_t_up, .ref q_t_least, .int t_q, .ref q_t_factor, .ref q_t_pairFactor, .ref q_t_forbidden, .ref q_t_mayNot, .ref q_t_fixed, .ref q_t_state, .ref q_t_count, .ref q_t_best, .ref q_t_bests, .long t_allCount, .long t_allBest, .long t_allBests], aI cA q_t_beside 14 t_beside, aI cA q_t_row 14 t_row])  : ∀ (n : Nat) (x1 : Int32) (x2 : Int32) (x3 : Int32), L_X9_rowWidth_6 t_knots t_rowed t_beside t_row n x1 x2 x3 = some r → Go X 5 kk nn 6 [oB q_t 9 [.int t_knots, .ref q_t_weight, .ref q_t_beside, .ref q_t_edge, .int t_rowed, .ref q_t_row, .int t_bags, .ref q_t_bag, .ref q_t_up, .ref q_t_least, .int t_q, .ref q_t_factor, .ref q_t_pairFactor, .ref q_t_forbidden, .ref q_t_mayNot, .ref q_t_fixed, .ref q_t_state, .ref q_t_count, .ref q_t_best, .ref q_t_bests, .long t_allCount, .long t_allBest, .long t_allBests], aI cA q_t_beside 14 t_beside, aI cA q_t_row 14 t_row] [(0, .ref q_t), (1, .int x1), (2, .int x2), (3, .int x3)] [] := by
  intro n
  induction n with
  | zero => intro x1 x2 x3 hf; exact no_some hf
  | succ n ih =>
    intro x1 x2 x3 hf
    rw [L_X9_rowWidth_6] at hf
    refine g_iload_n C 6 3 dX9_rowWidth_6 rfl rfl ?_
    refine g_aload_n C 7 0 dX9_rowWidth_7 rfl rfl ?_
    refine g_get C 8 0 4 dX9_rowWidth_8 inX9 rfl rfl (by decide) kw_347 rfl ?_
    refine g_icmp_ge C 11 61 dX9_rowWidth_11 (by decide) hf (fun hf => ?_) (fun hf => ?_)
    · refine g_iload_n C 61 2 dX9_rowWidth_61 rfl rfl ?_
      cases hf
      exact g_iret C 62 dX9_rowWidth_62 F hB
    · refine g_aload_n C 14 0 dX9_rowWidth_14 rfl rfl ?_
      refine g_aload_n C 15 0 dX9_rowWidth_15 rfl rfl ?_
      refine g_iload_n C 16 1 dX9_rowWidth_16 rfl rfl ?_
      refine g_aload_n C 17 0 dX9_rowWidth_17 rfl rfl ?_
      refine g_get C 18 0 5 dX9_rowWidth_18 inX9 rfl rfl (by decide) kw_358 rfl ?_
      refine g_iload_n C 21 3 dX9_rowWidth_21 rfl rfl ?_
      refine g_iald C 22 2 dX9_rowWidth_22 rfl hf (fun v4 hf => ?_)
      obtain ⟨u5, hu5, hf⟩ := cal_some hf
      refine g_callV1 C 23 [0, 1] 0 (rest := [.ref q_t]) dX9_rowWidth_23 (c_X9_around (x_l X) cA q_t t_knots q_t_weight q_t_edge t_rowed q_t_row t_bags q_t_bag q_t_up q_t_least t_q q_t_factor q_t_pairFactor q_t_forbidden q_t_mayNot q_t_fixed q_t_state q_t_count q_t_best q_t_bests t_allCount t_allBest t_allBests q_t_beside t_beside x1 v4 u5 hu5) kw_363 kw_364 kw_365 kw_343 kw_366 ok_X9_around ⟨Nat.le_of_ble_eq_true rfl, Nat.le_of_ble_eq_true rfl⟩ hk ⟨rfl, rfl⟩ rfl rfl rfl rfl rfl (Nat.le_of_ble_eq_true rfl) rfl (ws' := [oB q_t 9 [.int t_knots, .ref q_t_weight, .ref q_t_beside, .ref q_t_edge, .int t_rowed, .ref q_t_row, .int t_bags, .ref q_t_bag, .ref q_t_up, .ref q_t_least, .int t_q, .ref q_t_factor, .ref q_t_pairFactor, .ref q_t_forbidden, .ref q_t_mayNot, .ref q_t_fixed, .ref q_t_state, .ref q_t_count, .ref q_t_best, .ref q_t_bests, .long t_allCount, .long t_allBest, .long t_allBests], aI cA q_t_beside 14 t_beside, aI cA q_t_row 14 t_row]) (st' := [.int u5, .ref q_t]) (N0 := 3) rfl [some 0, some 1, none] (by decide) rfl rfl ?_
      obtain ⟨u6, hu6, hf⟩ := cal_some hf
      refine g_callV1 C 26 [] 0 (rest := []) dX9_rowWidth_26 (c_X9_bits (x_l X) cA q_t u5 u6 hu6) kw_367 kw_368 kw_369 kw_343 kw_370 ok_X9_bits ⟨Nat.le_of_ble_eq_true rfl, Nat.le_of_ble_eq_true rfl⟩ hk ⟨rfl, rfl⟩ rfl rfl rfl rfl rfl (Nat.le_of_ble_eq_true rfl) rfl (ws' := [oB q_t 9 [.int t_knots, .ref q_t_weight, .ref q_t_beside, .ref q_t_edge, .int t_rowed, .ref q_t_row, .int t_bags, .ref q_t_bag, .ref q_t_up, .ref q_t_least, .int t_q, .ref q_t_factor, .ref q_t_pairFactor, .ref q_t_forbidden, .ref q_t_mayNot, .ref q_t_fixed, .ref q_t_state, .ref q_t_count, .ref q_t_best, .ref q_t_bests, .long t_allCount, .long t_allBest, .long t_allBests], aI cA q_t_beside 14 t_beside, aI cA q_t_row 14 t_row]) (st' := [.int u6]) (N0 := 3) rfl [none, none, none] (by decide) rfl rfl ?_
      refine g_istore C 29 (fun z => [(4, .int z), (0, .ref q_t), (1, .int x1), (2, .int x2), (3, .int x3)]) dX9_rowWidth_29 (by decide) (fun _ => rfl) hf (fun x4_7 hf => ?_)
      refine g_iload C 31 0 dX9_rowWidth_31 rfl ?_
      refine g_iload_n C 33 3 dX9_rowWidth_33 rfl rfl ?_
      refine g_icmp_le C 34 42 dX9_rowWidth_34 (by decide) hf (fun hf => ?_) (fun hf => ?_)
      · refine g_iload_n C 42 3 dX9_rowWidth_42 rfl rfl ?_
        refine g_lv [1, 2, 4] rfl ?_
        exact w_X9_rowWidth_43 cA q_t q_t_weight q_t_edge t_bags q_t_bag q_t_up q_t_least t_q q_t_factor q_t_pairFactor q_t_forbidden q_t_mayNot q_t_fixed q_t_state q_t_count q_t_best q_t_bests t_allCount t_allBest t_allBests q_t_beside q_t_row t_knots t_rowed t_beside t_row C hk F r hB (fun y0 y1 y2 => L_X9_rowWidth_6 t_knots t_rowed t_beside t_row n y0 y1 y2) (fun y0 y1 y2 hf => ih y0 y1 y2 hf) x1 x3 x2 hf
      · refine g_iload C 37 0 dX9_rowWidth_37 rfl ?_
        refine g_goto C 39 43 dX9_rowWidth_39 (by decide) ?_
        refine g_lv [1, 2, 4] rfl ?_
        exact w_X9_rowWidth_43 cA q_t q_t_weight q_t_edge t_bags q_t_bag q_t_up q_t_least t_q q_t_factor q_t_pairFactor q_t_forbidden q_t_mayNot q_t_fixed q_t_state q_t_count q_t_best q_t_bests t_allCount t_allBest t_allBests q_t_beside q_t_row t_knots t_rowed t_beside t_row C hk F r hB (fun y0 y1 y2 => L_X9_rowWidth_6 t_knots t_rowed t_beside t_row n y0 y1 y2) (fun y0 y1 y2 hf => ih y0 y1 y2 hf) x1 x3 x4_7 hf
def f_X9_rowWidth (t_knots : Int32) (t_rowed : Int32) (t_beside : Nat → Int32) (t_row : Nat → Int32) : Option (Int32) :=
  bnd (0 : Int32) fun x1_1 =>
  bnd (-1 : Int32) fun x2_2 =>
  bnd (0 : Int32) fun x3_3 =>
  L_X9_rowWidth_6 t_knots t_rowed t_beside t_row NN x1_1 x2_2 x3_3

set_option maxRecDepth 100000 in
set_option maxHeartbeats 1000000 in
theorem c_X9_rowWidth (l : Launch) (cA : Nat → ClassId) (q_t : Nat) (t_knots : Int32) (q_t_weight : Nat) (q_t_edge : Nat) (t_rowed : Int32) (t_bags : Int32) (q_t_bag : Nat) (q_t_up : Nat) (q_t_least : Nat) (t_q : Int32) (q_t_factor : Nat) (q_t_pairFactor : Nat) (q_t_forbidden : Nat) (q_t_mayNot : Nat) (q_t_fixed : Nat) (q_t_state : Nat) (q_t_count : Nat) (q_t_best : Nat) (q_t_bests : Nat) (t_allCount : Int64) (t_allBest : Int64) (t_allBests : Int64) (q_t_beside : Nat) (t_beside : Nat → Int32) (q_t_row : Nat) (t_row : Nat → Int32)   (r : Int32) (hf : f_X9_rowWidth t_knots t_rowed t_beside t_row = some r) : MT l cA yX9_rowWidth cX9_rowWidth 5 (some .int) ({ frames := 1, cells := 0, slots := 0, locals := 26 } : Room) [.ref q_t] [oB q_t 9 [.int t_knots, .ref q_t_weight, .ref q_t_beside, .ref q_t_edge, .int t_rowed, .ref q_t_row, .int t_bags, .ref q_t_bag, .ref q_t_up, .ref q_t_least, .int t_q, .ref q_t_factor, .ref q_t_pairFactor, .ref q_t_forbidden, .ref q_t_mayNot, .ref q_t_fixed, .ref q_t_state, .ref q_t_count, .ref q_t_best, .ref q_t_bests, .long t_allCount, .long t_allBest, .long t_allBests], aI cA q_t_beside 14 t_beside, aI cA q_t_row 14 t_row] (sB (some (.int r)) [oB q_t 9 [.int t_knots, .ref q_t_weight, .ref q_t_beside, .ref q_t_edge, .int t_rowed, .ref q_t_row, .int t_bags, .ref q_t_bag, .ref q_t_up, .ref q_t_least, .int t_q, .ref q_t_factor, .ref q_t_pairFactor, .ref q_t_forbidden, .ref q_t_mayNot, .ref q_t_fixed, .ref q_t_state, .ref q_t_count, .ref q_t_best, .ref q_t_bests, .long t_allCount, .long t_allBest, .long t_allBests], aI cA q_t_beside 14 t_beside, aI cA q_t_row 14 t_row]) := by
  refine MT.of (by decide) (Nat.le_of_ble_eq_true rfl) ?_
  intro X hXl C F hnm hrc hrs
  subst hXl
  have hk : 0 ≤ (x_R X).cells ∧ 0 ≤ (x_R X).slots := ⟨Nat.zero_le _, Nat.zero_le _⟩
  have hB : (sB (some (.int r)) [oB q_t 9 [.int t_knots, .ref q_t_weight, .ref q_t_beside, .ref q_t_edge, .int t_rowed, .ref q_t_row, .int t_bags, .ref q_t_bag, .ref q_t_up, .ref q_t_least, .int t_q, .ref q_t_factor, .ref q_t_pairFactor, .ref q_t_forbidden, .ref q_t_mayNot, .ref q_t_fixed, .ref q_t_state, .ref q_t_count, .ref q_t_best, .ref q_t_bests, .long t_allCount, .long t_allBest, .long t_allBests], aI cA q_t_beside 14 t_beside, aI cA q_t_row 14 t_row]) (some (.int r)) [oB q_t 9 [.int t_knots, .ref q_t_weight, .ref q_t_beside, .ref q_t_edge, .int t_rowed, .ref q_t_row, .int t_bags, .ref q_t_bag, .ref q_t_up, .ref q_t_least, .int t_q, .ref q_t_factor, .ref q_t_pairFactor, .ref q_t_forbidden, .ref q_t_mayNot, .ref q_t_fixed, .ref q_t_state, .ref q_t_count, .ref q_t_best, .ref q_t_bests, .long t_allCount, .long t_allBest, .long t_allBests], aI cA q_t_beside 14 t_beside, aI cA q_t_row 14 t_row] := ⟨rfl, rfl⟩
  unfold f_X9_rowWidth at hf
  have C : Cx X cX9_rowWidth RX9 (some .int) cA 1 26 5 := C
  show Go X 5 0 0 0 [oB q_t 9 [.int t_knots, .ref q_t_weight, .ref q_t_beside, .ref q_t_edge, .int t_rowed, .ref q_t_row, .int t_bags, .ref q_t_bag, .ref q_t_up, .ref q_t_least, .int t_q, .ref q_t_factor, .ref q_t_pairFactor, .ref q_t_forbidden, .ref q_t_mayNot, .ref q_t_fixed, .ref q_t_state, .ref q_t_count, .ref q_t_best, .ref q_t_bests, .long t_allCount, .long t_allBest, .long t_allBests], aI cA q_t_beside 14 t_beside, aI cA q_t_row 14 t_row] [(0, .ref q_t)] []
  refine g_iconst C 0 (0 : Int32) dX9_rowWidth_0 (by decide) ?_
  refine g_istore_n C 1 (fun z => [(1, .int z), (0, .ref q_t)]) dX9_rowWidth_1 rfl (by decide) (fun _ => rfl) hf (fun x1_1 hf => ?_)
  refine g_iconst C 2 (-1 : Int32) dX9_rowWidth_2 (by decide) ?_
  refine g_istore_n C 3 (fun z => [(2, .int z), (1, .int x1_1), (0, .ref q_t)]) dX9_rowWidth_3 rfl (by decide) (fun _ => rfl) hf (fun x2_2 hf => ?_)
  refine g_iconst C 4 (0 : Int32) dX9_rowWidth_4 (by decide) ?_
  refine g_istore_n C 5 (fun z => [(3, .int z), (2, .int x2_2), (1, .int x1_1), (0, .ref q_t)]) dX9_rowWidth_5 rfl (by decide) (fun _ => rfl) hf (fun x3_3 hf => ?_)
  refine g_lv [3, 2, 1, 0] rfl ?_
  exact w_X9_rowWidth_6 cA q_t q_t_weight q_t_edge t_bags q_t_bag q_t_up q_t_least t_q q_t_factor q_t_pairFactor q_t_forbidden q_t_mayNot q_t_fixed q_t_state q_t_count q_t_best q_t_bests t_allCount t_allBest t_allBests q_t_beside q_t_row t_knots t_rowed t_beside t_row C hk F r hB NN x1_1 x2_2 x3_3 hf

def L_X9_width_4 (t_bags : Int32) (t_bag : Nat → Int32)  : Nat → Int32 → Int32 → Option (Int32)
  | 0, _, _ => none
  | n + 1, x1, x2 =>
    if t_bags ≤ x2 then
      if t_bags = 0 then
        some ((-1 : Int32))
      else
        some (x1)
    else
      ldA t_bag 14 x2 fun v3 =>
      cal (f_X9_bits v3) fun u4 =>
      if (u4 - (1 : Int32)) ≤ x1 then
        bnd x1 fun x1_5 =>
        bnd (x2 + (1 : Int32)) fun x2_6 =>
        L_X9_width_4 t_bags t_bag n x1_5 x2_6
      else
        ldA t_bag 14 x2 fun v7 =>
        cal (f_X9_bits v7) fun u8 =>
        bnd (u8 - (1 : Int32)) fun x1_9 =>
        bnd (x2 + (1 : Int32)) fun x2_10 =>
        L_X9_width_4 t_bags t_bag n x1_9 x2_10

set_option maxRecDepth 100000 in
set_option maxHeartbeats 1000000 in
theorem w_X9_width_4 (cA : Nat → ClassId) (q_t : Nat) (t_knots : Int32) (q_t_weight : Nat) (q_t_beside : Nat) (q_t_edge : Nat) (t_rowed : Int32) (q_t_row : Nat) (q_t_up : Nat) (q_t_least : Nat) (t_q : Int32) (q_t_factor : Nat) (q_t_pairFactor : Nat) (q_t_forbidden : Nat) (q_t_mayNot : Nat) (q_t_fixed : Nat) (q_t_state : Nat) (q_t_count : Nat) (q_t_best : Nat) (q_t_bests : Nat) (t_allCount : Int64) (t_allBest : Int64) (t_allBests : Int64) (q_t_bag : Nat) (t_bags : Int32) (t_bag : Nat → Int32) {X : XT}  (C : Cx X cX9_width RX9 (some .int) cA 1 23 3) {kk nn : Nat} {BB : Option Value → va_W → Prop} (hk : kk ≤ (x_R X).cells ∧ nn ≤ (x_R X).slots) (F : Fx X BB kk nn) (r : Int32) (hB : BB (some (.int r)) [oB q_t 9 [.int t_knots, .ref q_t_weight, .ref q_t_beside, .ref q_t_edge, .int t_rowed, .ref q_t_row, .int t_bags, .ref q_t_bag, .ref q_t_up, .ref q_t_least, .int t_q, .ref q_t_factor, .ref q_t_pairFactor, .ref q_t_forbidden, .ref q_t_mayNot, .ref q_t_fixed, .ref q_t_state, .ref q_t_count, .ref q_t_best, .ref q_t_bests, .long t_allCount, .long t_allBest, .long t_allBests], aI cA q_t_bag 14 t_bag])  : ∀ (n : Nat) (x1 : Int32) (x2 : Int32), L_X9_width_4 t_bags t_bag n x1 x2 = some r → Go X 3 kk nn 4 [oB q_t 9 [.int t_knots, .ref q_t_weight, .ref q_t_beside, .ref q_t_edge, .int t_rowed, .ref q_t_row, .int t_bags, .ref q_t_bag, .ref q_t_up, .ref q_t_least, .int t_q, .ref q_t_factor, .ref q_t_pairFactor, .ref q_t_forbidden, .ref q_t_mayNot, .ref q_t_fixed, .ref q_t_state, .ref q_t_count, .ref q_t_best, .ref q_t_bests, .long t_allCount, .long t_allBest, .long t_allBests], aI cA q_t_bag 14 t_bag] [(0, .ref q_t), (1, .int x1), (2, .int x2)] [] := by
  intro n
  induction n with
  | zero => intro x1 x2 hf; exact no_some hf
  | succ n ih =>
    intro x1 x2 hf
    rw [L_X9_width_4] at hf
    refine g_iload_n C 4 2 dX9_width_4 rfl rfl ?_
    refine g_aload_n C 5 0 dX9_width_5 rfl rfl ?_
    refine g_get C 6 0 6 dX9_width_6 inX9 rfl rfl (by decide) kw_348 rfl ?_
    refine g_icmp_ge C 9 51 dX9_width_9 (by decide) hf (fun hf => ?_) (fun hf => ?_)
    · refine g_aload_n C 51 0 dX9_width_51 rfl rfl ?_
      refine g_get C 52 0 6 dX9_width_52 inX9 rfl rfl (by decide) kw_348 rfl ?_
      refine g_if_ne C 55 62 dX9_width_55 (by decide) hf (fun hf => ?_) (fun hf => ?_)
      · refine g_iload_n C 62 1 dX9_width_62 rfl rfl ?_
        cases hf
        exact g_iret C 63 dX9_width_63 F hB
      · refine g_iconst C 58 (-1 : Int32) dX9_width_58 (by decide) ?_
        refine g_goto C 59 63 dX9_width_59 (by decide) ?_
        cases hf
        exact g_iret C 63 dX9_width_63 F hB
    · refine g_aload_n C 12 0 dX9_width_12 rfl rfl ?_
      refine g_aload_n C 13 0 dX9_width_13 rfl rfl ?_
      refine g_get C 14 0 7 dX9_width_14 inX9 rfl rfl (by decide) kw_371 rfl ?_
      refine g_iload_n C 17 2 dX9_width_17 rfl rfl ?_
      refine g_iald C 18 1 dX9_width_18 rfl hf (fun v3 hf => ?_)
      obtain ⟨u4, hu4, hf⟩ := cal_some hf
      refine g_callV1 C 19 [] 0 (rest := []) dX9_width_19 (c_X9_bits (x_l X) cA q_t v3 u4 hu4) kw_367 kw_368 kw_369 kw_343 kw_370 ok_X9_bits ⟨Nat.le_of_ble_eq_true rfl, Nat.le_of_ble_eq_true rfl⟩ hk ⟨rfl, rfl⟩ rfl rfl rfl rfl rfl (Nat.le_of_ble_eq_true rfl) rfl (ws' := [oB q_t 9 [.int t_knots, .ref q_t_weight, .ref q_t_beside, .ref q_t_edge, .int t_rowed, .ref q_t_row, .int t_bags, .ref q_t_bag, .ref q_t_up, .ref q_t_least, .int t_q, .ref q_t_factor, .ref q_t_pairFactor, .ref q_t_forbidden, .ref q_t_mayNot, .ref q_t_fixed, .ref q_t_state, .ref q_t_count, .ref q_t_best, .ref q_t_bests, .long t_allCount, .long t_allBest, .long t_allBests], aI cA q_t_bag 14 t_bag]) (st' := [.int u4]) (N0 := 2) rfl [none, none] (by decide) rfl rfl ?_
      refine g_iconst C 22 (1 : Int32) dX9_width_22 (by decide) ?_
      refine g_isub C 23 dX9_width_23 ?_
      refine g_iload_n C 24 1 dX9_width_24 rfl rfl ?_
      refine g_icmp_le C 25 43 dX9_width_25 (by decide) hf (fun hf => ?_) (fun hf => ?_)
      · refine g_iload_n C 43 1 dX9_width_43 rfl rfl ?_
        refine g_istore_n C 44 (fun z => [(1, .int z), (0, .ref q_t), (2, .int x2)]) dX9_width_44 rfl (by decide) (fun _ => rfl) hf (fun x1_5 hf => ?_)
        refine g_iinc C 45 2 (v := x2 + (1 : Int32)) (fun z => [(2, .int z), (1, .int x1_5), (0, .ref q_t)]) dX9_width_45 rfl rfl (by decide) (fun _ => rfl) hf (fun x2_6 hf => ?_)
        refine g_goto C 48 4 dX9_width_48 (by decide) ?_
        refine g_lv [2, 1, 0] rfl ?_
        exact ih x1_5 x2_6 hf
      · refine g_aload_n C 28 0 dX9_width_28 rfl rfl ?_
        refine g_aload_n C 29 0 dX9_width_29 rfl rfl ?_
        refine g_get C 30 0 7 dX9_width_30 inX9 rfl rfl (by decide) kw_371 rfl ?_
        refine g_iload_n C 33 2 dX9_width_33 rfl rfl ?_
        refine g_iald C 34 1 dX9_width_34 rfl hf (fun v7 hf => ?_)
        obtain ⟨u8, hu8, hf⟩ := cal_some hf
        refine g_callV1 C 35 [] 0 (rest := []) dX9_width_35 (c_X9_bits (x_l X) cA q_t v7 u8 hu8) kw_367 kw_368 kw_369 kw_343 kw_370 ok_X9_bits ⟨Nat.le_of_ble_eq_true rfl, Nat.le_of_ble_eq_true rfl⟩ hk ⟨rfl, rfl⟩ rfl rfl rfl rfl rfl (Nat.le_of_ble_eq_true rfl) rfl (ws' := [oB q_t 9 [.int t_knots, .ref q_t_weight, .ref q_t_beside, .ref q_t_edge, .int t_rowed, .ref q_t_row, .int t_bags, .ref q_t_bag, .ref q_t_up, .ref q_t_least, .int t_q, .ref q_t_factor, .ref q_t_pairFactor, .ref q_t_forbidden, .ref q_t_mayNot, .ref q_t_fixed, .ref q_t_state, .ref q_t_count, .ref q_t_best, .ref q_t_bests, .long t_allCount, .long t_allBest, .long t_allBests], aI cA q_t_bag 14 t_bag]) (st' := [.int u8]) (N0 := 2) rfl [none, none] (by decide) rfl rfl ?_
        refine g_iconst C 38 (1 : Int32) dX9_width_38 (by decide) ?_
        refine g_isub C 39 dX9_width_39 ?_
        refine g_goto C 40 44 dX9_width_40 (by decide) ?_
        refine g_istore_n C 44 (fun z => [(1, .int z), (0, .ref q_t), (2, .int x2)]) dX9_width_44 rfl (by decide) (fun _ => rfl) hf (fun x1_9 hf => ?_)
        refine g_iinc C 45 2 (v := x2 + (1 : Int32)) (fun z => [(2, .int z), (1, .int x1_9), (0, .ref q_t)]) dX9_width_45 rfl rfl (by decide) (fun _ => rfl) hf (fun x2_10 hf => ?_)
        refine g_goto C 48 4 dX9_width_48 (by decide) ?_
        refine g_lv [2, 1, 0] rfl ?_
        exact ih x1_9 x2_10 hf
def f_X9_width (t_bags : Int32) (t_bag : Nat → Int32) : Option (Int32) :=
  bnd (-1 : Int32) fun x1_1 =>
  bnd (0 : Int32) fun x2_2 =>
  L_X9_width_4 t_bags t_bag NN x1_1 x2_2

set_option maxRecDepth 100000 in
set_option maxHeartbeats 1000000 in
theorem c_X9_width (l : Launch) (cA : Nat → ClassId) (q_t : Nat) (t_knots : Int32) (q_t_weight : Nat) (q_t_beside : Nat) (q_t_edge : Nat) (t_rowed : Int32) (q_t_row : Nat) (t_bags : Int32) (q_t_up : Nat) (q_t_least : Nat) (t_q : Int32) (q_t_factor : Nat) (q_t_pairFactor : Nat) (q_t_forbidden : Nat) (q_t_mayNot : Nat) (q_t_fixed : Nat) (q_t_state : Nat) (q_t_count : Nat) (q_t_best : Nat) (q_t_bests : Nat) (t_allCount : Int64) (t_allBest : Int64) (t_allBests : Int64) (q_t_bag : Nat) (t_bag : Nat → Int32)   (r : Int32) (hf : f_X9_width t_bags t_bag = some r) : MT l cA yX9_width cX9_width 3 (some .int) ({ frames := 1, cells := 0, slots := 0, locals := 23 } : Room) [.ref q_t] [oB q_t 9 [.int t_knots, .ref q_t_weight, .ref q_t_beside, .ref q_t_edge, .int t_rowed, .ref q_t_row, .int t_bags, .ref q_t_bag, .ref q_t_up, .ref q_t_least, .int t_q, .ref q_t_factor, .ref q_t_pairFactor, .ref q_t_forbidden, .ref q_t_mayNot, .ref q_t_fixed, .ref q_t_state, .ref q_t_count, .ref q_t_best, .ref q_t_bests, .long t_allCount, .long t_allBest, .long t_allBests], aI cA q_t_bag 14 t_bag] (sB (some (.int r)) [oB q_t 9 [.int t_knots, .ref q_t_weight, .ref q_t_beside, .ref q_t_edge, .int t_rowed, .ref q_t_row, .int t_bags, .ref q_t_bag, .ref q_t_up, .ref q_t_least, .int t_q, .ref q_t_factor, .ref q_t_pairFactor, .ref q_t_forbidden, .ref q_t_mayNot, .ref q_t_fixed, .ref q_t_state, .ref q_t_count, .ref q_t_best, .ref q_t_bests, .long t_allCount, .long t_allBest, .long t_allBests], aI cA q_t_bag 14 t_bag]) := by
  refine MT.of (by decide) (Nat.le_of_ble_eq_true rfl) ?_
  intro X hXl C F hnm hrc hrs
  subst hXl
  have hk : 0 ≤ (x_R X).cells ∧ 0 ≤ (x_R X).slots := ⟨Nat.zero_le _, Nat.zero_le _⟩
  have hB : (sB (some (.int r)) [oB q_t 9 [.int t_knots, .ref q_t_weight, .ref q_t_beside, .ref q_t_edge, .int t_rowed, .ref q_t_row, .int t_bags, .ref q_t_bag, .ref q_t_up, .ref q_t_least, .int t_q, .ref q_t_factor, .ref q_t_pairFactor, .ref q_t_forbidden, .ref q_t_mayNot, .ref q_t_fixed, .ref q_t_state, .ref q_t_count, .ref q_t_best, .ref q_t_bests, .long t_allCount, .long t_allBest, .long t_allBests], aI cA q_t_bag 14 t_bag]) (some (.int r)) [oB q_t 9 [.int t_knots, .ref q_t_weight, .ref q_t_beside, .ref q_t_edge, .int t_rowed, .ref q_t_row, .int t_bags, .ref q_t_bag, .ref q_t_up, .ref q_t_least, .int t_q, .ref q_t_factor, .ref q_t_pairFactor, .ref q_t_forbidden, .ref q_t_mayNot, .ref q_t_fixed, .ref q_t_state, .ref q_t_count, .ref q_t_best, .ref q_t_bests, .long t_allCount, .long t_allBest, .long t_allBests], aI cA q_t_bag 14 t_bag] := ⟨rfl, rfl⟩
  unfold f_X9_width at hf
  have C : Cx X cX9_width RX9 (some .int) cA 1 23 3 := C
  show Go X 3 0 0 0 [oB q_t 9 [.int t_knots, .ref q_t_weight, .ref q_t_beside, .ref q_t_edge, .int t_rowed, .ref q_t_row, .int t_bags, .ref q_t_bag, .ref q_t_up, .ref q_t_least, .int t_q, .ref q_t_factor, .ref q_t_pairFactor, .ref q_t_forbidden, .ref q_t_mayNot, .ref q_t_fixed, .ref q_t_state, .ref q_t_count, .ref q_t_best, .ref q_t_bests, .long t_allCount, .long t_allBest, .long t_allBests], aI cA q_t_bag 14 t_bag] [(0, .ref q_t)] []
  refine g_iconst C 0 (-1 : Int32) dX9_width_0 (by decide) ?_
  refine g_istore_n C 1 (fun z => [(1, .int z), (0, .ref q_t)]) dX9_width_1 rfl (by decide) (fun _ => rfl) hf (fun x1_1 hf => ?_)
  refine g_iconst C 2 (0 : Int32) dX9_width_2 (by decide) ?_
  refine g_istore_n C 3 (fun z => [(2, .int z), (1, .int x1_1), (0, .ref q_t)]) dX9_width_3 rfl (by decide) (fun _ => rfl) hf (fun x2_2 hf => ?_)
  refine g_lv [2, 1, 0] rfl ?_
  exact w_X9_width_4 cA q_t t_knots q_t_weight q_t_beside q_t_edge t_rowed q_t_row q_t_up q_t_least t_q q_t_factor q_t_pairFactor q_t_forbidden q_t_mayNot q_t_fixed q_t_state q_t_count q_t_best q_t_bests t_allCount t_allBest t_allBests q_t_bag t_bags t_bag C hk F r hB NN x1_1 x2_2 hf

def L_X9_make_88 (t_knots : Int32) (t_rowed : Int32) (t_beside : Nat → Int32) (t_row : Nat → Int32) (k_21 : Int32 → Int32 → Int32 → (Nat → Int32) → (Nat → Int32) → Option (Int32 × Int32 × (Nat → Int32) × (Nat → Int32))) : Nat → Int32 → Int32 → Int32 → Int32 → Int32 → (Nat → Int32) → (Nat → Int32) → Option (Int32 × Int32 × (Nat → Int32) × (Nat → Int32))
  | 0, _, _, _, _, _, _, _ => none
  | n + 1, x1, x2, x3, x4, t_bags, t_bag, t_up =>
    if x4 ≤ x2 then
      ldA t_row 14 x2 fun v13 =>
      bnd (x1 ||| ((1 : Int32) <<< (v13 &&& 31))) fun x1_14 =>
      bnd (x2 + (1 : Int32)) fun x2_15 =>
      k_21 x1_14 x2_15 t_bags t_bag t_up
    else
      ldA t_row 14 x4 fun v16 =>
      if ((x3 >>> (v16 &&& 31)) &&& (1 : Int32)) = (1 : Int32) then
        stI t_up 14 x2 x4 fun t_up_18 =>
        bnd (x4 + (-1 : Int32)) fun x4_19 =>
        L_X9_make_88 t_knots t_rowed t_beside t_row k_21 n x1 x2 x3 x4_19 t_bags t_bag t_up_18
      else
        bnd (x4 + (-1 : Int32)) fun x4_17 =>
        L_X9_make_88 t_knots t_rowed t_beside t_row k_21 n x1 x2 x3 x4_17 t_bags t_bag t_up

set_option maxRecDepth 100000 in
set_option maxHeartbeats 1000000 in
theorem w_X9_make_88 (cA : Nat → ClassId) (q_t : Nat) (q_t_weight : Nat) (q_t_edge : Nat) (q_t_least : Nat) (t_q : Int32) (q_t_factor : Nat) (q_t_pairFactor : Nat) (q_t_forbidden : Nat) (q_t_mayNot : Nat) (q_t_fixed : Nat) (q_t_state : Nat) (q_t_count : Nat) (q_t_best : Nat) (q_t_bests : Nat) (t_allCount : Int64) (t_allBest : Int64) (t_allBests : Int64) (q_t_beside : Nat) (q_t_row : Nat) (q_t_bag : Nat) (q_t_up : Nat) (t_knots : Int32) (t_rowed : Int32) (t_beside : Nat → Int32) (t_row : Nat → Int32) {X : XT}  (C : Cx X cX9_make RX9 (some .int) cA 2 45 5) {kk nn : Nat} {BB : Option Value → va_W → Prop} (hk : kk ≤ (x_R X).cells ∧ nn ≤ (x_R X).slots) (F : Fx X BB kk nn) (r : Int32 × Int32 × (Nat → Int32) × (Nat → Int32)) (hB : BB (some (.int r.1)) [oB q_t 9 [.int t_knots, .ref q_t_weight, .ref q_t_beside, .ref q_t_edge, .int t_rowed, .ref q_t_row, .int r.2.1, .ref q_t_bag, .ref q_t_up, .ref q_t_least, .int t_q, .ref q_t_factor, .ref q_t_pairFactor, .ref q_t_forbidden, .ref q_t_mayNot, .ref q_t_fixed, .ref q_t_state, .ref q_t_count, .ref q_t_best, .ref q_t_bests, .long t_allCount, .long t_allBest, .long t_allBests], aI cA q_t_beside 14 t_beside, aI cA q_t_row 14 t_row, aI cA q_t_bag 14 r.2.2.1, aI cA q_t_up 14 r.2.2.2]) (k_21 : Int32 → Int32 → Int32 → (Nat → Int32) → (Nat → Int32) → Option (Int32 × Int32 × (Nat → Int32) × (Nat → Int32))) (h_21 : ∀ (x1 : Int32) (x2 : Int32) (t_bags : Int32) (t_bag : Nat → Int32) (t_up : Nat → Int32), k_21 x1 x2 t_bags t_bag t_up = some r → Go X 5 kk nn 21 [oB q_t 9 [.int t_knots, .ref q_t_weight, .ref q_t_beside, .ref q_t_edge, .int t_rowed, .ref q_t_row, .int t_bags, .ref q_t_bag, .ref q_t_up, .ref q_t_least, .int t_q, .ref q_t_factor, .ref q_t_pairFactor, .ref q_t_forbidden, .ref q_t_mayNot, .ref q_t_fixed, .ref q_t_state, .ref q_t_count, .ref q_t_best, .ref q_t_bests, .long t_allCount, .long t_allBest, .long t_allBests], aI cA q_t_beside 14 t_beside, aI cA q_t_row 14 t_row, aI cA q_t_bag 14 t_bag, aI cA q_t_up 14 t_up] [(0, .ref q_t), (1, .int x1), (2, .int x2)] []) : ∀ (n : Nat) (x1 : Int32) (x2 : Int32) (x3 : Int32) (x4 : Int32) (t_bags : Int32) (t_bag : Nat → Int32) (t_up : Nat → Int32), L_X9_make_88 t_knots t_rowed t_beside t_row k_21 n x1 x2 x3 x4 t_bags t_bag t_up = some r → Go X 5 kk nn 88 [oB q_t 9 [.int t_knots, .ref q_t_weight, .ref q_t_beside, .ref q_t_edge, .int t_rowed, .ref q_t_row, .int t_bags, .ref q_t_bag, .ref q_t_up, .ref q_t_least, .int t_q, .ref q_t_factor, .ref q_t_pairFactor, .ref q_t_forbidden, .ref q_t_mayNot, .ref q_t_fixed, .ref q_t_state, .ref q_t_count, .ref q_t_best, .ref q_t_bests, .long t_allCount, .long t_allBest, .long t_allBests], aI cA q_t_beside 14 t_beside, aI cA q_t_row 14 t_row, aI cA q_t_bag 14 t_bag, aI cA q_t_up 14 t_up] [(0, .ref q_t), (1, .int x1), (2, .int x2), (3, .int x3), (4, .int x4)] [] := by
  intro n
  induction n with
  | zero => intro x1 x2 x3 x4 t_bags t_bag t_up hf; exact no_some hf
  | succ n ih =>
    intro x1 x2 x3 x4 t_bags t_bag t_up hf
    rw [L_X9_make_88] at hf
    refine g_iload C 88 4 dX9_make_88 rfl ?_
    refine g_iload_n C 90 2 dX9_make_90 rfl rfl ?_
    refine g_icmp_le C 91 123 dX9_make_91 (by decide) hf (fun hf => ?_) (fun hf => ?_)
    · refine g_iload_n C 123 1 dX9_make_123 rfl rfl ?_
      refine g_iconst C 124 (1 : Int32) dX9_make_124 (by decide) ?_
      refine g_aload_n C 125 0 dX9_make_125 rfl rfl ?_
      refine g_get C 126 0 5 dX9_make_126 inX9 rfl rfl (by decide) kw_358 rfl ?_
      refine g_iload_n C 129 2 dX9_make_129 rfl rfl ?_
      refine g_iald C 130 2 dX9_make_130 rfl hf (fun v13 hf => ?_)
      refine g_ishl C 131 dX9_make_131 ?_
      refine g_ior C 132 dX9_make_132 ?_
      refine g_istore_n C 133 (fun z => [(1, .int z), (0, .ref q_t), (2, .int x2), (3, .int x3), (4, .int x4)]) dX9_make_133 rfl (by decide) (fun _ => rfl) hf (fun x1_14 hf => ?_)
      refine g_iinc C 134 2 (v := x2 + (1 : Int32)) (fun z => [(2, .int z), (1, .int x1_14), (0, .ref q_t), (3, .int x3), (4, .int x4)]) dX9_make_134 rfl rfl (by decide) (fun _ => rfl) hf (fun x2_15 hf => ?_)
      refine g_goto C 137 21 dX9_make_137 (by decide) ?_
      refine g_lv [2, 1, 0] rfl ?_
      exact h_21 x1_14 x2_15 t_bags t_bag t_up hf
    · refine g_iload_n C 94 3 dX9_make_94 rfl rfl ?_
      refine g_aload_n C 95 0 dX9_make_95 rfl rfl ?_
      refine g_get C 96 0 5 dX9_make_96 inX9 rfl rfl (by decide) kw_358 rfl ?_
      refine g_iload C 99 4 dX9_make_99 rfl ?_
      refine g_iald C 101 2 dX9_make_101 rfl hf (fun v16 hf => ?_)
      refine g_ishr C 102 dX9_make_102 ?_
      refine g_iconst C 103 (1 : Int32) dX9_make_103 (by decide) ?_
      refine g_iand C 104 dX9_make_104 ?_
      refine g_iconst C 105 (1 : Int32) dX9_make_105 (by decide) ?_
      refine g_icmp_ne C 106 117 dX9_make_106 (by decide) hf (fun hf => ?_) (fun hf => ?_)
      · refine g_iinc C 117 4 (v := x4 + (-1 : Int32)) (fun z => [(4, .int z), (0, .ref q_t), (1, .int x1), (2, .int x2), (3, .int x3)]) dX9_make_117 rfl rfl (by decide) (fun _ => rfl) hf (fun x4_17 hf => ?_)
        refine g_goto C 120 88 dX9_make_120 (by decide) ?_
        refine g_lv [1, 2, 3, 4, 0] rfl ?_
        exact ih x1 x2 x3 x4_17 t_bags t_bag t_up hf
      · refine g_aload_n C 109 0 dX9_make_109 rfl rfl ?_
        refine g_get C 110 0 8 dX9_make_110 inX9 rfl rfl (by decide) kw_380 rfl ?_
        refine g_iload_n C 113 2 dX9_make_113 rfl rfl ?_
        refine g_iload C 114 4 dX9_make_114 rfl ?_
        refine g_iast C 116 4 (fun z => [oB q_t 9 [.int t_knots, .ref q_t_weight, .ref q_t_beside, .ref q_t_edge, .int t_rowed, .ref q_t_row, .int t_bags, .ref q_t_bag, .ref q_t_up, .ref q_t_least, .int t_q, .ref q_t_factor, .ref q_t_pairFactor, .ref q_t_forbidden, .ref q_t_mayNot, .ref q_t_fixed, .ref q_t_state, .ref q_t_count, .ref q_t_best, .ref q_t_bests, .long t_allCount, .long t_allBest, .long t_allBests], aI cA q_t_beside 14 t_beside, aI cA q_t_row 14 t_row, aI cA q_t_bag 14 t_bag, aI cA q_t_up 14 z]) dX9_make_116 rfl (fun _ => rfl) hf (fun t_up_18 hf => ?_)
        refine g_iinc C 117 4 (v := x4 + (-1 : Int32)) (fun z => [(4, .int z), (0, .ref q_t), (1, .int x1), (2, .int x2), (3, .int x3)]) dX9_make_117 rfl rfl (by decide) (fun _ => rfl) hf (fun x4_19 hf => ?_)
        refine g_goto C 120 88 dX9_make_120 (by decide) ?_
        refine g_lv [1, 2, 3, 4, 0] rfl ?_
        exact ih x1 x2 x3 x4_19 t_bags t_bag t_up_18 hf
def L_X9_make_21 (t_knots : Int32) (t_rowed : Int32) (t_beside : Nat → Int32) (t_row : Nat → Int32)  : Nat → Int32 → Int32 → Int32 → (Nat → Int32) → (Nat → Int32) → Option (Int32 × Int32 × (Nat → Int32) × (Nat → Int32))
  | 0, _, _, _, _, _ => none
  | n + 1, x1, x2, t_bags, t_bag, t_up =>
    if t_rowed ≤ x2 then
      bnd t_rowed fun t_bags_4 =>
      cal (f_X9_width t_bags_4 t_bag) fun u5 =>
      some (u5, t_bags_4, t_bag, t_up)
    else
      ldA t_row 14 x2 fun v6 =>
      cal (f_X9_around x1 v6 t_knots t_beside) fun u7 =>
      bnd u7 fun x3_8 =>
      ldA t_row 14 x2 fun v9 =>
      stI t_bag 14 x2 (x3_8 ||| ((1 : Int32) <<< (v9 &&& 31))) fun t_bag_10 =>
      if t_rowed ≤ (x2 + (1 : Int32)) then
        stI t_up 14 x2 (-1 : Int32) fun t_up_11 =>
        bnd (t_rowed - (1 : Int32)) fun x4_12 =>
        L_X9_make_88 t_knots t_rowed t_beside t_row (fun y0 y1 y2 y3 y4 => L_X9_make_21 t_knots t_rowed t_beside t_row n y0 y1 y2 y3 y4) NN x1 x2 x3_8 x4_12 t_bags t_bag_10 t_up_11
      else
        stI t_up 14 x2 (x2 + (1 : Int32)) fun t_up_20 =>
        bnd (t_rowed - (1 : Int32)) fun x4_21 =>
        L_X9_make_88 t_knots t_rowed t_beside t_row (fun y0 y1 y2 y3 y4 => L_X9_make_21 t_knots t_rowed t_beside t_row n y0 y1 y2 y3 y4) NN x1 x2 x3_8 x4_21 t_bags t_bag_10 t_up_20

set_option maxRecDepth 100000 in
set_option maxHeartbeats 1000000 in
theorem w_X9_make_21 (cA : Nat → ClassId) (q_t : Nat) (q_t_weight : Nat) (q_t_edge : Nat) (q_t_least : Nat) (t_q : Int32) (q_t_factor : Nat) (q_t_pairFactor : Nat) (q_t_forbidden : Nat) (q_t_mayNot : Nat) (q_t_fixed : Nat) (q_t_state : Nat) (q_t_count : Nat) (q_t_best : Nat) (q_t_bests : Nat) (t_allCount : Int64) (t_allBest : Int64) (t_allBests : Int64) (q_t_beside : Nat) (q_t_row : Nat) (q_t_bag : Nat) (q_t_up : Nat) (t_knots : Int32) (t_rowed : Int32) (t_beside : Nat → Int32) (t_row : Nat → Int32) {X : XT}  (C : Cx X cX9_make RX9 (some .int) cA 2 45 5) {kk nn : Nat} {BB : Option Value → va_W → Prop} (hk : kk ≤ (x_R X).cells ∧ nn ≤ (x_R X).slots) (F : Fx X BB kk nn) (r : Int32 × Int32 × (Nat → Int32) × (Nat → Int32)) (hB : BB (some (.int r.1)) [oB q_t 9 [.int t_knots, .ref q_t_weight, .ref q_t_beside, .ref q_t_edge, .int t_rowed, .ref q_t_row, .int r.2.1, .ref q_t_bag, .ref q_t_up, .ref q_t_least, .int t_q, .ref q_t_factor, .ref q_t_pairFactor, .ref q_t_forbidden, .ref q_t_mayNot, .ref q_t_fixed, .ref q_t_state, .ref q_t_count, .ref q_t_best, .ref q_t_bests, .long t_allCount, .long t_allBest, .long t_allBests], aI cA q_t_beside 14 t_beside, aI cA q_t_row 14 t_row, aI cA q_t_bag 14 r.2.2.1, aI cA q_t_up 14 r.2.2.2])  : ∀ (n : Nat) (x1 : Int32) (x2 : Int32) (t_bags : Int32) (t_bag : Nat → Int32) (t_up : Nat → Int32), L_X9_make_21 t_knots t_rowed t_beside t_row n x1 x2 t_bags t_bag t_up = some r → Go X 5 kk nn 21 [oB q_t 9 [.int t_knots, .ref q_t_weight, .ref q_t_beside, .ref q_t_edge, .int t_rowed, .ref q_t_row, .int t_bags, .ref q_t_bag, .ref q_t_up, .ref q_t_least, .int t_q, .ref q_t_factor, .ref q_t_pairFactor, .ref q_t_forbidden, .ref q_t_mayNot, .ref q_t_fixed, .ref q_t_state, .ref q_t_count, .ref q_t_best, .ref q_t_bests, .long t_allCount, .long t_allBest, .long t_allBests], aI cA q_t_beside 14 t_beside, aI cA q_t_row 14 t_row, aI cA q_t_bag 14 t_bag, aI cA q_t_up 14 t_up] [(0, .ref q_t), (1, .int x1), (2, .int x2)] [] := by
  intro n
  induction n with
  | zero => intro x1 x2 t_bags t_bag t_up hf; exact no_some hf
  | succ n ih =>
    intro x1 x2 t_bags t_bag t_up hf
    rw [L_X9_make_21] at hf
    refine g_iload_n C 21 2 dX9_make_21 rfl rfl ?_
    refine g_aload_n C 22 0 dX9_make_22 rfl rfl ?_
    refine g_get C 23 0 4 dX9_make_23 inX9 rfl rfl (by decide) kw_347 rfl ?_
    refine g_icmp_ge C 26 140 dX9_make_26 (by decide) hf (fun hf => ?_) (fun hf => ?_)
    · refine g_aload_n C 140 0 dX9_make_140 rfl rfl ?_
      refine g_aload_n C 141 0 dX9_make_141 rfl rfl ?_
      refine g_get C 142 0 4 dX9_make_142 inX9 rfl rfl (by decide) kw_347 rfl ?_
      refine g_puti C 145 0 6 tyX9 (fun z => [oB q_t 9 [.int t_knots, .ref q_t_weight, .ref q_t_beside, .ref q_t_edge, .int t_rowed, .ref q_t_row, .int z, .ref q_t_bag, .ref q_t_up, .ref q_t_least, .int t_q, .ref q_t_factor, .ref q_t_pairFactor, .ref q_t_forbidden, .ref q_t_mayNot, .ref q_t_fixed, .ref q_t_state, .ref q_t_count, .ref q_t_best, .ref q_t_bests, .long t_allCount, .long t_allBest, .long t_allBests], aI cA q_t_beside 14 t_beside, aI cA q_t_row 14 t_row, aI cA q_t_bag 14 t_bag, aI cA q_t_up 14 t_up]) dX9_make_145 inX9 tyX9_ok nmX9 rfl rfl (by decide) kw_348 rfl rfl (Nat.le_of_ble_eq_true rfl) (fun _ => rfl) hf (fun t_bags_4 hf => ?_)
      refine g_aload_n C 148 0 dX9_make_148 rfl rfl ?_
      obtain ⟨u5, hu5, hf⟩ := cal_some hf
      refine g_callV1 C 149 [0, 3] 0 (rest := []) dX9_make_149 (c_X9_width (x_l X) cA q_t t_knots q_t_weight q_t_beside q_t_edge t_rowed q_t_row t_bags_4 q_t_up q_t_least t_q q_t_factor q_t_pairFactor q_t_forbidden q_t_mayNot q_t_fixed q_t_state q_t_count q_t_best q_t_bests t_allCount t_allBest t_allBests q_t_bag t_bag u5 hu5) kw_376 kw_377 kw_378 kw_343 kw_379 ok_X9_width ⟨Nat.le_of_ble_eq_true rfl, Nat.le_of_ble_eq_true rfl⟩ hk ⟨rfl, rfl⟩ rfl rfl rfl rfl rfl (Nat.le_of_ble_eq_true rfl) rfl (ws' := [oB q_t 9 [.int t_knots, .ref q_t_weight, .ref q_t_beside, .ref q_t_edge, .int t_rowed, .ref q_t_row, .int t_bags_4, .ref q_t_bag, .ref q_t_up, .ref q_t_least, .int t_q, .ref q_t_factor, .ref q_t_pairFactor, .ref q_t_forbidden, .ref q_t_mayNot, .ref q_t_fixed, .ref q_t_state, .ref q_t_count, .ref q_t_best, .ref q_t_bests, .long t_allCount, .long t_allBest, .long t_allBests], aI cA q_t_beside 14 t_beside, aI cA q_t_row 14 t_row, aI cA q_t_bag 14 t_bag, aI cA q_t_up 14 t_up]) (st' := [.int u5]) (N0 := 5) rfl [some 0, none, none, some 1, none] (by decide) rfl rfl ?_
      cases hf
      exact g_iret C 152 dX9_make_152 F hB
    · refine g_aload_n C 29 0 dX9_make_29 rfl rfl ?_
      refine g_iload_n C 30 1 dX9_make_30 rfl rfl ?_
      refine g_aload_n C 31 0 dX9_make_31 rfl rfl ?_
      refine g_get C 32 0 5 dX9_make_32 inX9 rfl rfl (by decide) kw_358 rfl ?_
      refine g_iload_n C 35 2 dX9_make_35 rfl rfl ?_
      refine g_iald C 36 2 dX9_make_36 rfl hf (fun v6 hf => ?_)
      obtain ⟨u7, hu7, hf⟩ := cal_some hf
      refine g_callV1 C 37 [0, 1] 0 (rest := []) dX9_make_37 (c_X9_around (x_l X) cA q_t t_knots q_t_weight q_t_edge t_rowed q_t_row t_bags q_t_bag q_t_up q_t_least t_q q_t_factor q_t_pairFactor q_t_forbidden q_t_mayNot q_t_fixed q_t_state q_t_count q_t_best q_t_bests t_allCount t_allBest t_allBests q_t_beside t_beside x1 v6 u7 hu7) kw_363 kw_364 kw_365 kw_343 kw_366 ok_X9_around ⟨Nat.le_of_ble_eq_true rfl, Nat.le_of_ble_eq_true rfl⟩ hk ⟨rfl, rfl⟩ rfl rfl rfl rfl rfl (Nat.le_of_ble_eq_true rfl) rfl (ws' := [oB q_t 9 [.int t_knots, .ref q_t_weight, .ref q_t_beside, .ref q_t_edge, .int t_rowed, .ref q_t_row, .int t_bags, .ref q_t_bag, .ref q_t_up, .ref q_t_least, .int t_q, .ref q_t_factor, .ref q_t_pairFactor, .ref q_t_forbidden, .ref q_t_mayNot, .ref q_t_fixed, .ref q_t_state, .ref q_t_count, .ref q_t_best, .ref q_t_bests, .long t_allCount, .long t_allBest, .long t_allBests], aI cA q_t_beside 14 t_beside, aI cA q_t_row 14 t_row, aI cA q_t_bag 14 t_bag, aI cA q_t_up 14 t_up]) (st' := [.int u7]) (N0 := 5) rfl [some 0, some 1, none, none, none] (by decide) rfl rfl ?_
      refine g_istore_n C 40 (fun z => [(3, .int z), (0, .ref q_t), (1, .int x1), (2, .int x2)]) dX9_make_40 rfl (by decide) (fun _ => rfl) hf (fun x3_8 hf => ?_)
      refine g_aload_n C 41 1 dX9_make_41 rfl rfl ?_
      refine g_get C 42 0 7 dX9_make_42 inX9 rfl rfl (by decide) kw_371 rfl ?_
      refine g_iload_n C 45 3 dX9_make_45 rfl rfl ?_
      refine g_iload_n C 46 0 dX9_make_46 rfl rfl ?_
      refine g_iconst C 47 (1 : Int32) dX9_make_47 (by decide) ?_
      refine g_aload_n C 48 1 dX9_make_48 rfl rfl ?_
      refine g_get C 49 0 5 dX9_make_49 inX9 rfl rfl (by decide) kw_358 rfl ?_
      refine g_iload_n C 52 3 dX9_make_52 rfl rfl ?_
      refine g_iald C 53 2 dX9_make_53 rfl hf (fun v9 hf => ?_)
      refine g_ishl C 54 dX9_make_54 ?_
      refine g_ior C 55 dX9_make_55 ?_
      refine g_iast C 56 3 (fun z => [oB q_t 9 [.int t_knots, .ref q_t_weight, .ref q_t_beside, .ref q_t_edge, .int t_rowed, .ref q_t_row, .int t_bags, .ref q_t_bag, .ref q_t_up, .ref q_t_least, .int t_q, .ref q_t_factor, .ref q_t_pairFactor, .ref q_t_forbidden, .ref q_t_mayNot, .ref q_t_fixed, .ref q_t_state, .ref q_t_count, .ref q_t_best, .ref q_t_bests, .long t_allCount, .long t_allBest, .long t_allBests], aI cA q_t_beside 14 t_beside, aI cA q_t_row 14 t_row, aI cA q_t_bag 14 z, aI cA q_t_up 14 t_up]) dX9_make_56 rfl (fun _ => rfl) hf (fun t_bag_10 hf => ?_)
      refine g_aload_n C 57 1 dX9_make_57 rfl rfl ?_
      refine g_get C 58 0 8 dX9_make_58 inX9 rfl rfl (by decide) kw_380 rfl ?_
      refine g_iload_n C 61 3 dX9_make_61 rfl rfl ?_
      refine g_iload_n C 62 3 dX9_make_62 rfl rfl ?_
      refine g_iconst C 63 (1 : Int32) dX9_make_63 (by decide) ?_
      refine g_iadd C 64 dX9_make_64 ?_
      refine g_aload_n C 65 1 dX9_make_65 rfl rfl ?_
      refine g_get C 66 0 4 dX9_make_66 inX9 rfl rfl (by decide) kw_347 rfl ?_
      refine g_icmp_ge C 69 78 dX9_make_69 (by decide) hf (fun hf => ?_) (fun hf => ?_)
      · refine g_iconst C 78 (-1 : Int32) dX9_make_78 (by decide) ?_
        refine g_iast C 79 4 (fun z => [oB q_t 9 [.int t_knots, .ref q_t_weight, .ref q_t_beside, .ref q_t_edge, .int t_rowed, .ref q_t_row, .int t_bags, .ref q_t_bag, .ref q_t_up, .ref q_t_least, .int t_q, .ref q_t_factor, .ref q_t_pairFactor, .ref q_t_forbidden, .ref q_t_mayNot, .ref q_t_fixed, .ref q_t_state, .ref q_t_count, .ref q_t_best, .ref q_t_bests, .long t_allCount, .long t_allBest, .long t_allBests], aI cA q_t_beside 14 t_beside, aI cA q_t_row 14 t_row, aI cA q_t_bag 14 t_bag_10, aI cA q_t_up 14 z]) dX9_make_79 rfl (fun _ => rfl) hf (fun t_up_11 hf => ?_)
        refine g_aload_n C 80 1 dX9_make_80 rfl rfl ?_
        refine g_get C 81 0 4 dX9_make_81 inX9 rfl rfl (by decide) kw_347 rfl ?_
        refine g_iconst C 84 (1 : Int32) dX9_make_84 (by decide) ?_
        refine g_isub C 85 dX9_make_85 ?_
        refine g_istore C 86 (fun z => [(4, .int z), (3, .int x3_8), (0, .ref q_t), (1, .int x1), (2, .int x2)]) dX9_make_86 (by decide) (fun _ => rfl) hf (fun x4_12 hf => ?_)
        refine g_lv [2, 3, 4, 1, 0] rfl ?_
        exact w_X9_make_88 cA q_t q_t_weight q_t_edge q_t_least t_q q_t_factor q_t_pairFactor q_t_forbidden q_t_mayNot q_t_fixed q_t_state q_t_count q_t_best q_t_bests t_allCount t_allBest t_allBests q_t_beside q_t_row q_t_bag q_t_up t_knots t_rowed t_beside t_row C hk F r hB (fun y0 y1 y2 y3 y4 => L_X9_make_21 t_knots t_rowed t_beside t_row n y0 y1 y2 y3 y4) (fun y0 y1 y2 y3 y4 hf => ih y0 y1 y2 y3 y4 hf) NN x1 x2 x3_8 x4_12 t_bags t_bag_10 t_up_11 hf
      · refine g_iload_n C 72 3 dX9_make_72 rfl rfl ?_
        refine g_iconst C 73 (1 : Int32) dX9_make_73 (by decide) ?_
        refine g_iadd C 74 dX9_make_74 ?_
        refine g_goto C 75 79 dX9_make_75 (by decide) ?_
        refine g_iast C 79 4 (fun z => [oB q_t 9 [.int t_knots, .ref q_t_weight, .ref q_t_beside, .ref q_t_edge, .int t_rowed, .ref q_t_row, .int t_bags, .ref q_t_bag, .ref q_t_up, .ref q_t_least, .int t_q, .ref q_t_factor, .ref q_t_pairFactor, .ref q_t_forbidden, .ref q_t_mayNot, .ref q_t_fixed, .ref q_t_state, .ref q_t_count, .ref q_t_best, .ref q_t_bests, .long t_allCount, .long t_allBest, .long t_allBests], aI cA q_t_beside 14 t_beside, aI cA q_t_row 14 t_row, aI cA q_t_bag 14 t_bag_10, aI cA q_t_up 14 z]) dX9_make_79 rfl (fun _ => rfl) hf (fun t_up_20 hf => ?_)
        refine g_aload_n C 80 1 dX9_make_80 rfl rfl ?_
        refine g_get C 81 0 4 dX9_make_81 inX9 rfl rfl (by decide) kw_347 rfl ?_
        refine g_iconst C 84 (1 : Int32) dX9_make_84 (by decide) ?_
        refine g_isub C 85 dX9_make_85 ?_
        refine g_istore C 86 (fun z => [(4, .int z), (3, .int x3_8), (0, .ref q_t), (1, .int x1), (2, .int x2)]) dX9_make_86 (by decide) (fun _ => rfl) hf (fun x4_21 hf => ?_)
        refine g_lv [2, 3, 4, 1, 0] rfl ?_
        exact w_X9_make_88 cA q_t q_t_weight q_t_edge q_t_least t_q q_t_factor q_t_pairFactor q_t_forbidden q_t_mayNot q_t_fixed q_t_state q_t_count q_t_best q_t_bests t_allCount t_allBest t_allBests q_t_beside q_t_row q_t_bag q_t_up t_knots t_rowed t_beside t_row C hk F r hB (fun y0 y1 y2 y3 y4 => L_X9_make_21 t_knots t_rowed t_beside t_row n y0 y1 y2 y3 y4) (fun y0 y1 y2 y3 y4 hf => ih y0 y1 y2 y3 y4 hf) NN x1 x2 x3_8 x4_21 t_bags t_bag_10 t_up_20 hf
def f_X9_make (t_knots : Int32) (t_rowed : Int32) (t_bags : Int32) (t_beside : Nat → Int32) (t_row : Nat → Int32) (t_bag : Nat → Int32) (t_up : Nat → Int32) : Option (Int32 × Int32 × (Nat → Int32) × (Nat → Int32)) :=
  cal (f_X9_isOrder t_knots t_rowed) fun u1 =>
  if u1 = 0 then
    some ((-4 : Int32), t_bags, t_bag, t_up)
  else
    if t_knots = 0 then
      some ((-4 : Int32), t_bags, t_bag, t_up)
    else
      bnd (0 : Int32) fun x1_2 =>
      bnd (0 : Int32) fun x2_3 =>
      L_X9_make_21 t_knots t_rowed t_beside t_row NN x1_2 x2_3 t_bags t_bag t_up

set_option maxRecDepth 100000 in
set_option maxHeartbeats 1000000 in
theorem c_X9_make (l : Launch) (cA : Nat → ClassId) (q_t : Nat) (t_knots : Int32) (q_t_weight : Nat) (q_t_edge : Nat) (t_rowed : Int32) (t_bags : Int32) (q_t_least : Nat) (t_q : Int32) (q_t_factor : Nat) (q_t_pairFactor : Nat) (q_t_forbidden : Nat) (q_t_mayNot : Nat) (q_t_fixed : Nat) (q_t_state : Nat) (q_t_count : Nat) (q_t_best : Nat) (q_t_bests : Nat) (t_allCount : Int64) (t_allBest : Int64) (t_allBests : Int64) (q_t_beside : Nat) (t_beside : Nat → Int32) (q_t_row : Nat) (t_row : Nat → Int32) (q_t_bag : Nat) (t_bag : Nat → Int32) (q_t_up : Nat) (t_up : Nat → Int32)   (r : Int32 × Int32 × (Nat → Int32) × (Nat → Int32)) (hf : f_X9_make t_knots t_rowed t_bags t_beside t_row t_bag t_up = some r) : MT l cA yX9_make cX9_make 5 (some .int) ({ frames := 2, cells := 0, slots := 0, locals := 45 } : Room) [.ref q_t] [oB q_t 9 [.int t_knots, .ref q_t_weight, .ref q_t_beside, .ref q_t_edge, .int t_rowed, .ref q_t_row, .int t_bags, .ref q_t_bag, .ref q_t_up, .ref q_t_least, .int t_q, .ref q_t_factor, .ref q_t_pairFactor, .ref q_t_forbidden, .ref q_t_mayNot, .ref q_t_fixed, .ref q_t_state, .ref q_t_count, .ref q_t_best, .ref q_t_bests, .long t_allCount, .long t_allBest, .long t_allBests], aI cA q_t_beside 14 t_beside, aI cA q_t_row 14 t_row, aI cA q_t_bag 14 t_bag, aI cA q_t_up 14 t_up] (sB (some (.int r.1)) [oB q_t 9 [.int t_knots, .ref q_t_weight, .ref q_t_beside, .ref q_t_edge, .int t_rowed, .ref q_t_row, .int r.2.1, .ref q_t_bag, .ref q_t_up, .ref q_t_least, .int t_q, .ref q_t_factor, .ref q_t_pairFactor, .ref q_t_forbidden, .ref q_t_mayNot, .ref q_t_fixed, .ref q_t_state, .ref q_t_count, .ref q_t_best, .ref q_t_bests, .long t_allCount, .long t_allBest, .long t_allBests], aI cA q_t_beside 14 t_beside, aI cA q_t_row 14 t_row, aI cA q_t_bag 14 r.2.2.1, aI cA q_t_up 14 r.2.2.2]) := by
  refine MT.of (by decide) (Nat.le_of_ble_eq_true rfl) ?_
  intro X hXl C F hnm hrc hrs
  subst hXl
  have hk : 0 ≤ (x_R X).cells ∧ 0 ≤ (x_R X).slots := ⟨Nat.zero_le _, Nat.zero_le _⟩
  have hB : (sB (some (.int r.1)) [oB q_t 9 [.int t_knots, .ref q_t_weight, .ref q_t_beside, .ref q_t_edge, .int t_rowed, .ref q_t_row, .int r.2.1, .ref q_t_bag, .ref q_t_up, .ref q_t_least, .int t_q, .ref q_t_factor, .ref q_t_pairFactor, .ref q_t_forbidden, .ref q_t_mayNot, .ref q_t_fixed, .ref q_t_state, .ref q_t_count, .ref q_t_best, .ref q_t_bests, .long t_allCount, .long t_allBest, .long t_allBests], aI cA q_t_beside 14 t_beside, aI cA q_t_row 14 t_row, aI cA q_t_bag 14 r.2.2.1, aI cA q_t_up 14 r.2.2.2]) (some (.int r.1)) [oB q_t 9 [.int t_knots, .ref q_t_weight, .ref q_t_beside, .ref q_t_edge, .int t_rowed, .ref q_t_row, .int r.2.1, .ref q_t_bag, .ref q_t_up, .ref q_t_least, .int t_q, .ref q_t_factor, .ref q_t_pairFactor, .ref q_t_forbidden, .ref q_t_mayNot, .ref q_t_fixed, .ref q_t_state, .ref q_t_count, .ref q_t_best, .ref q_t_bests, .long t_allCount, .long t_allBest, .long t_allBests], aI cA q_t_beside 14 t_beside, aI cA q_t_row 14 t_row, aI cA q_t_bag 14 r.2.2.1, aI cA q_t_up 14 r.2.2.2] := ⟨rfl, rfl⟩
  unfold f_X9_make at hf
  have C : Cx X cX9_make RX9 (some .int) cA 2 45 5 := C
  show Go X 5 0 0 0 [oB q_t 9 [.int t_knots, .ref q_t_weight, .ref q_t_beside, .ref q_t_edge, .int t_rowed, .ref q_t_row, .int t_bags, .ref q_t_bag, .ref q_t_up, .ref q_t_least, .int t_q, .ref q_t_factor, .ref q_t_pairFactor, .ref q_t_forbidden, .ref q_t_mayNot, .ref q_t_fixed, .ref q_t_state, .ref q_t_count, .ref q_t_best, .ref q_t_bests, .long t_allCount, .long t_allBest, .long t_allBests], aI cA q_t_beside 14 t_beside, aI cA q_t_row 14 t_row, aI cA q_t_bag 14 t_bag, aI cA q_t_up 14 t_up] [(0, .ref q_t)] []
  refine g_aload_n C 0 0 dX9_make_0 rfl rfl ?_
  obtain ⟨u1, hu1, hf⟩ := cal_some hf
  refine g_callV1 C 1 [0] 0 (rest := []) dX9_make_1 (c_X9_isOrder (x_l X) cA q_t t_knots q_t_weight q_t_beside q_t_edge t_rowed q_t_row t_bags q_t_bag q_t_up q_t_least t_q q_t_factor q_t_pairFactor q_t_forbidden q_t_mayNot q_t_fixed q_t_state q_t_count q_t_best q_t_bests t_allCount t_allBest t_allBests u1 hu1) kw_372 kw_373 kw_374 kw_343 kw_375 ok_X9_isOrder ⟨Nat.le_of_ble_eq_true rfl, Nat.le_of_ble_eq_true rfl⟩ hk ⟨rfl, rfl⟩ rfl rfl rfl rfl rfl (Nat.le_of_ble_eq_true rfl) rfl (ws' := [oB q_t 9 [.int t_knots, .ref q_t_weight, .ref q_t_beside, .ref q_t_edge, .int t_rowed, .ref q_t_row, .int t_bags, .ref q_t_bag, .ref q_t_up, .ref q_t_least, .int t_q, .ref q_t_factor, .ref q_t_pairFactor, .ref q_t_forbidden, .ref q_t_mayNot, .ref q_t_fixed, .ref q_t_state, .ref q_t_count, .ref q_t_best, .ref q_t_bests, .long t_allCount, .long t_allBest, .long t_allBests], aI cA q_t_beside 14 t_beside, aI cA q_t_row 14 t_row, aI cA q_t_bag 14 t_bag, aI cA q_t_up 14 t_up]) (st' := [.int u1]) (N0 := 5) rfl [some 0, none, none, none, none] (by decide) rfl rfl ?_
  refine g_if_eq C 4 14 dX9_make_4 (by decide) hf (fun hf => ?_) (fun hf => ?_)
  · refine g_bipush C 14 (-4 : Int32) dX9_make_14 (by decide) ?_
    cases hf
    exact g_iret C 16 dX9_make_16 F hB
  · refine g_aload_n C 7 0 dX9_make_7 rfl rfl ?_
    refine g_get C 8 0 0 dX9_make_8 inX9 rfl rfl (by decide) kw_339 rfl ?_
    refine g_if_ne C 11 17 dX9_make_11 (by decide) hf (fun hf => ?_) (fun hf => ?_)
    · refine g_iconst C 17 (0 : Int32) dX9_make_17 (by decide) ?_
      refine g_istore_n C 18 (fun z => [(1, .int z), (0, .ref q_t)]) dX9_make_18 rfl (by decide) (fun _ => rfl) hf (fun x1_2 hf => ?_)
      refine g_iconst C 19 (0 : Int32) dX9_make_19 (by decide) ?_
      refine g_istore_n C 20 (fun z => [(2, .int z), (1, .int x1_2), (0, .ref q_t)]) dX9_make_20 rfl (by decide) (fun _ => rfl) hf (fun x2_3 hf => ?_)
      refine g_lv [2, 1, 0] rfl ?_
      exact w_X9_make_21 cA q_t q_t_weight q_t_edge q_t_least t_q q_t_factor q_t_pairFactor q_t_forbidden q_t_mayNot q_t_fixed q_t_state q_t_count q_t_best q_t_bests t_allCount t_allBest t_allBests q_t_beside q_t_row q_t_bag q_t_up t_knots t_rowed t_beside t_row C hk F r hB NN x1_2 x2_3 t_bags t_bag t_up hf
    · refine g_bipush C 14 (-4 : Int32) dX9_make_14 (by decide) ?_
      cases hf
      exact g_iret C 16 dX9_make_16 F hB

def L_X9_fills_51 (t_knots : Int32) (t_rowed : Int32) (t_beside : Nat → Int32) (t_row : Nat → Int32) (k_39 : Int32 → Int32 → Int32 → Int32 → Int32 → Option (Int32)) : Nat → Int32 → Int32 → Int32 → Int32 → Int32 → Int32 → Option (Int32)
  | 0, _, _, _, _, _, _ => none
  | n + 1, x1, x2, x3, x4, x5, x6 =>
    if x5 ≤ x6 then
      bnd (x5 + (1 : Int32)) fun x5_13 =>
      k_39 x1 x2 x3 x4 x5_13
    else
      if ((x4 >>> (x5 &&& 31)) &&& (1 : Int32)) = (1 : Int32) then
        if ((x4 >>> (x6 &&& 31)) &&& (1 : Int32)) = (1 : Int32) then
          cal (f_X9_around x2 x5 t_knots t_beside) fun u16 =>
          if ((u16 >>> (x6 &&& 31)) &&& (1 : Int32)) = 0 then
            bnd (x1 + (1 : Int32)) fun x1_18 =>
            bnd (x6 + (1 : Int32)) fun x6_19 =>
            L_X9_fills_51 t_knots t_rowed t_beside t_row k_39 n x1_18 x2 x3 x4 x5 x6_19
          else
            bnd (x6 + (1 : Int32)) fun x6_17 =>
            L_X9_fills_51 t_knots t_rowed t_beside t_row k_39 n x1 x2 x3 x4 x5 x6_17
        else
          bnd (x6 + (1 : Int32)) fun x6_15 =>
          L_X9_fills_51 t_knots t_rowed t_beside t_row k_39 n x1 x2 x3 x4 x5 x6_15
      else
        bnd (x6 + (1 : Int32)) fun x6_14 =>
        L_X9_fills_51 t_knots t_rowed t_beside t_row k_39 n x1 x2 x3 x4 x5 x6_14

set_option maxRecDepth 100000 in
set_option maxHeartbeats 1000000 in
theorem w_X9_fills_51 (cA : Nat → ClassId) (q_t : Nat) (q_t_weight : Nat) (q_t_edge : Nat) (t_bags : Int32) (q_t_bag : Nat) (q_t_up : Nat) (q_t_least : Nat) (t_q : Int32) (q_t_factor : Nat) (q_t_pairFactor : Nat) (q_t_forbidden : Nat) (q_t_mayNot : Nat) (q_t_fixed : Nat) (q_t_state : Nat) (q_t_count : Nat) (q_t_best : Nat) (q_t_bests : Nat) (t_allCount : Int64) (t_allBest : Int64) (t_allBests : Int64) (q_t_beside : Nat) (q_t_row : Nat) (t_knots : Int32) (t_rowed : Int32) (t_beside : Nat → Int32) (t_row : Nat → Int32) {X : XT}  (C : Cx X cX9_fills RX9 (some .int) cA 1 26 7) {kk nn : Nat} {BB : Option Value → va_W → Prop} (hk : kk ≤ (x_R X).cells ∧ nn ≤ (x_R X).slots) (F : Fx X BB kk nn) (r : Int32) (hB : BB (some (.int r)) [oB q_t 9 [.int t_knots, .ref q_t_weight, .ref q_t_beside, .ref q_t_edge, .int t_rowed, .ref q_t_row, .int t_bags, .ref q_t_bag, .ref q_t_up, .ref q_t_least, .int t_q, .ref q_t_factor, .ref q_t_pairFactor, .ref q_t_forbidden, .ref q_t_mayNot, .ref q_t_fixed, .ref q_t_state, .ref q_t_count, .ref q_t_best, .ref q_t_bests, .long t_allCount, .long t_allBest, .long t_allBests], aI cA q_t_beside 14 t_beside, aI cA q_t_row 14 t_row]) (k_39 : Int32 → Int32 → Int32 → Int32 → Int32 → Option (Int32)) (h_39 : ∀ (x1 : Int32) (x2 : Int32) (x3 : Int32) (x4 : Int32) (x5 : Int32), k_39 x1 x2 x3 x4 x5 = some r → Go X 7 kk nn 39 [oB q_t 9 [.int t_knots, .ref q_t_weight, .ref q_t_beside, .ref q_t_edge, .int t_rowed, .ref q_t_row, .int t_bags, .ref q_t_bag, .ref q_t_up, .ref q_t_least, .int t_q, .ref q_t_factor, .ref q_t_pairFactor, .ref q_t_forbidden, .ref q_t_mayNot, .ref q_t_fixed, .ref q_t_state, .ref q_t_count, .ref q_t_best, .ref q_t_bests, .long t_allCount, .long t_allBest, .long t_allBests], aI cA q_t_beside 14 t_beside, aI cA q_t_row 14 t_row] [(0, .ref q_t), (1, .int x1), (2, .int x2), (3, .int x3), (4, .int x4), (5, .int x5)] []) : ∀ (n : Nat) (x1 : Int32) (x2 : Int32) (x3 : Int32) (x4 : Int32) (x5 : Int32) (x6 : Int32), L_X9_fills_51 t_knots t_rowed t_beside t_row k_39 n x1 x2 x3 x4 x5 x6 = some r → Go X 7 kk nn 51 [oB q_t 9 [.int t_knots, .ref q_t_weight, .ref q_t_beside, .ref q_t_edge, .int t_rowed, .ref q_t_row, .int t_bags, .ref q_t_bag, .ref q_t_up, .ref q_t_least, .int t_q, .ref q_t_factor, .ref q_t_pairFactor, .ref q_t_forbidden, .ref q_t_mayNot, .ref q_t_fixed, .ref q_t_state, .ref q_t_count, .ref q_t_best, .ref q_t_bests, .long t_allCount, .long t_allBest, .long t_allBests], aI cA q_t_beside 14 t_beside, aI cA q_t_row 14 t_row] [(0, .ref q_t), (1, .int x1), (2, .int x2), (3, .int x3), (4, .int x4), (5, .int x5), (6, .int x6)] [] := by
  intro n
  induction n with
  | zero => intro x1 x2 x3 x4 x5 x6 hf; exact no_some hf
  | succ n ih =>
    intro x1 x2 x3 x4 x5 x6 hf
    rw [L_X9_fills_51] at hf
    refine g_iload C 51 6 dX9_fills_51 rfl ?_
    refine g_iload C 53 5 dX9_fills_53 rfl ?_
    refine g_icmp_ge C 55 104 dX9_fills_55 (by decide) hf (fun hf => ?_) (fun hf => ?_)
    · refine g_iinc C 104 5 (v := x5 + (1 : Int32)) (fun z => [(5, .int z), (0, .ref q_t), (1, .int x1), (2, .int x2), (3, .int x3), (4, .int x4), (6, .int x6)]) dX9_fills_104 rfl rfl (by decide) (fun _ => rfl) hf (fun x5_13 hf => ?_)
      refine g_goto C 107 39 dX9_fills_107 (by decide) ?_
      refine g_lv [1, 2, 3, 4, 5, 0] rfl ?_
      exact h_39 x1 x2 x3 x4 x5_13 hf
    · refine g_iload C 58 4 dX9_fills_58 rfl ?_
      refine g_iload C 60 5 dX9_fills_60 rfl ?_
      refine g_ishr C 62 dX9_fills_62 ?_
      refine g_iconst C 63 (1 : Int32) dX9_fills_63 (by decide) ?_
      refine g_iand C 64 dX9_fills_64 ?_
      refine g_iconst C 65 (1 : Int32) dX9_fills_65 (by decide) ?_
      refine g_icmp_ne C 66 98 dX9_fills_66 (by decide) hf (fun hf => ?_) (fun hf => ?_)
      · refine g_iinc C 98 6 (v := x6 + (1 : Int32)) (fun z => [(6, .int z), (0, .ref q_t), (1, .int x1), (2, .int x2), (3, .int x3), (4, .int x4), (5, .int x5)]) dX9_fills_98 rfl rfl (by decide) (fun _ => rfl) hf (fun x6_14 hf => ?_)
        refine g_goto C 101 51 dX9_fills_101 (by decide) ?_
        refine g_lv [1, 2, 3, 4, 5, 6, 0] rfl ?_
        exact ih x1 x2 x3 x4 x5 x6_14 hf
      · refine g_iload C 69 4 dX9_fills_69 rfl ?_
        refine g_iload C 71 6 dX9_fills_71 rfl ?_
        refine g_ishr C 73 dX9_fills_73 ?_
        refine g_iconst C 74 (1 : Int32) dX9_fills_74 (by decide) ?_
        refine g_iand C 75 dX9_fills_75 ?_
        refine g_iconst C 76 (1 : Int32) dX9_fills_76 (by decide) ?_
        refine g_icmp_ne C 77 98 dX9_fills_77 (by decide) hf (fun hf => ?_) (fun hf => ?_)
        · refine g_iinc C 98 6 (v := x6 + (1 : Int32)) (fun z => [(6, .int z), (0, .ref q_t), (1, .int x1), (2, .int x2), (3, .int x3), (4, .int x4), (5, .int x5)]) dX9_fills_98 rfl rfl (by decide) (fun _ => rfl) hf (fun x6_15 hf => ?_)
          refine g_goto C 101 51 dX9_fills_101 (by decide) ?_
          refine g_lv [1, 2, 3, 4, 5, 6, 0] rfl ?_
          exact ih x1 x2 x3 x4 x5 x6_15 hf
        · refine g_aload_n C 80 0 dX9_fills_80 rfl rfl ?_
          refine g_iload_n C 81 2 dX9_fills_81 rfl rfl ?_
          refine g_iload C 82 5 dX9_fills_82 rfl ?_
          obtain ⟨u16, hu16, hf⟩ := cal_some hf
          refine g_callV1 C 84 [0, 1] 0 (rest := []) dX9_fills_84 (c_X9_around (x_l X) cA q_t t_knots q_t_weight q_t_edge t_rowed q_t_row t_bags q_t_bag q_t_up q_t_least t_q q_t_factor q_t_pairFactor q_t_forbidden q_t_mayNot q_t_fixed q_t_state q_t_count q_t_best q_t_bests t_allCount t_allBest t_allBests q_t_beside t_beside x2 x5 u16 hu16) kw_363 kw_364 kw_365 kw_343 kw_366 ok_X9_around ⟨Nat.le_of_ble_eq_true rfl, Nat.le_of_ble_eq_true rfl⟩ hk ⟨rfl, rfl⟩ rfl rfl rfl rfl rfl (Nat.le_of_ble_eq_true rfl) rfl (ws' := [oB q_t 9 [.int t_knots, .ref q_t_weight, .ref q_t_beside, .ref q_t_edge, .int t_rowed, .ref q_t_row, .int t_bags, .ref q_t_bag, .ref q_t_up, .ref q_t_least, .int t_q, .ref q_t_factor, .ref q_t_pairFactor, .ref q_t_forbidden, .ref q_t_mayNot, .ref q_t_fixed, .ref q_t_state, .ref q_t_count, .ref q_t_best, .ref q_t_bests, .long t_allCount, .long t_allBest, .long t_allBests], aI cA q_t_beside 14 t_beside, aI cA q_t_row 14 t_row]) (st' := [.int u16]) (N0 := 3) rfl [some 0, some 1, none] (by decide) rfl rfl ?_
          refine g_iload C 87 6 dX9_fills_87 rfl ?_
          refine g_ishr C 89 dX9_fills_89 ?_
          refine g_iconst C 90 (1 : Int32) dX9_fills_90 (by decide) ?_
          refine g_iand C 91 dX9_fills_91 ?_
          refine g_if_ne C 92 98 dX9_fills_92 (by decide) hf (fun hf => ?_) (fun hf => ?_)
          · refine g_iinc C 98 6 (v := x6 + (1 : Int32)) (fun z => [(6, .int z), (0, .ref q_t), (1, .int x1), (2, .int x2), (3, .int x3), (4, .int x4), (5, .int x5)]) dX9_fills_98 rfl rfl (by decide) (fun _ => rfl) hf (fun x6_17 hf => ?_)
            refine g_goto C 101 51 dX9_fills_101 (by decide) ?_
            refine g_lv [1, 2, 3, 4, 5, 6, 0] rfl ?_
            exact ih x1 x2 x3 x4 x5 x6_17 hf
          · refine g_iinc C 95 1 (v := x1 + (1 : Int32)) (fun z => [(1, .int z), (0, .ref q_t), (2, .int x2), (3, .int x3), (4, .int x4), (5, .int x5), (6, .int x6)]) dX9_fills_95 rfl rfl (by decide) (fun _ => rfl) hf (fun x1_18 hf => ?_)
            refine g_iinc C 98 6 (v := x6 + (1 : Int32)) (fun z => [(6, .int z), (1, .int x1_18), (0, .ref q_t), (2, .int x2), (3, .int x3), (4, .int x4), (5, .int x5)]) dX9_fills_98 rfl rfl (by decide) (fun _ => rfl) hf (fun x6_19 hf => ?_)
            refine g_goto C 101 51 dX9_fills_101 (by decide) ?_
            refine g_lv [2, 1, 3, 4, 5, 6, 0] rfl ?_
            exact ih x1_18 x2 x3 x4 x5 x6_19 hf
def L_X9_fills_39 (t_knots : Int32) (t_rowed : Int32) (t_beside : Nat → Int32) (t_row : Nat → Int32) (k_15 : Int32 → Int32 → Int32 → Option (Int32)) : Nat → Int32 → Int32 → Int32 → Int32 → Int32 → Option (Int32)
  | 0, _, _, _, _, _ => none
  | n + 1, x1, x2, x3, x4, x5 =>
    if t_knots ≤ x5 then
      ldA t_row 14 x3 fun v9 =>
      bnd (x2 ||| ((1 : Int32) <<< (v9 &&& 31))) fun x2_10 =>
      bnd (x3 + (1 : Int32)) fun x3_11 =>
      k_15 x1 x2_10 x3_11
    else
      bnd (0 : Int32) fun x6_12 =>
      L_X9_fills_51 t_knots t_rowed t_beside t_row (fun y0 y1 y2 y3 y4 => L_X9_fills_39 t_knots t_rowed t_beside t_row k_15 n y0 y1 y2 y3 y4) NN x1 x2 x3 x4 x5 x6_12

set_option maxRecDepth 100000 in
set_option maxHeartbeats 1000000 in
theorem w_X9_fills_39 (cA : Nat → ClassId) (q_t : Nat) (q_t_weight : Nat) (q_t_edge : Nat) (t_bags : Int32) (q_t_bag : Nat) (q_t_up : Nat) (q_t_least : Nat) (t_q : Int32) (q_t_factor : Nat) (q_t_pairFactor : Nat) (q_t_forbidden : Nat) (q_t_mayNot : Nat) (q_t_fixed : Nat) (q_t_state : Nat) (q_t_count : Nat) (q_t_best : Nat) (q_t_bests : Nat) (t_allCount : Int64) (t_allBest : Int64) (t_allBests : Int64) (q_t_beside : Nat) (q_t_row : Nat) (t_knots : Int32) (t_rowed : Int32) (t_beside : Nat → Int32) (t_row : Nat → Int32) {X : XT}  (C : Cx X cX9_fills RX9 (some .int) cA 1 26 7) {kk nn : Nat} {BB : Option Value → va_W → Prop} (hk : kk ≤ (x_R X).cells ∧ nn ≤ (x_R X).slots) (F : Fx X BB kk nn) (r : Int32) (hB : BB (some (.int r)) [oB q_t 9 [.int t_knots, .ref q_t_weight, .ref q_t_beside, .ref q_t_edge, .int t_rowed, .ref q_t_row, .int t_bags, .ref q_t_bag, .ref q_t_up, .ref q_t_least, .int t_q, .ref q_t_factor, .ref q_t_pairFactor, .ref q_t_forbidden, .ref q_t_mayNot, .ref q_t_fixed, .ref q_t_state, .ref q_t_count, .ref q_t_best, .ref q_t_bests, .long t_allCount, .long t_allBest, .long t_allBests], aI cA q_t_beside 14 t_beside, aI cA q_t_row 14 t_row]) (k_15 : Int32 → Int32 → Int32 → Option (Int32)) (h_15 : ∀ (x1 : Int32) (x2 : Int32) (x3 : Int32), k_15 x1 x2 x3 = some r → Go X 7 kk nn 15 [oB q_t 9 [.int t_knots, .ref q_t_weight, .ref q_t_beside, .ref q_t_edge, .int t_rowed, .ref q_t_row, .int t_bags, .ref q_t_bag, .ref q_t_up, .ref q_t_least, .int t_q, .ref q_t_factor, .ref q_t_pairFactor, .ref q_t_forbidden, .ref q_t_mayNot, .ref q_t_fixed, .ref q_t_state, .ref q_t_count, .ref q_t_best, .ref q_t_bests, .long t_allCount, .long t_allBest, .long t_allBests], aI cA q_t_beside 14 t_beside, aI cA q_t_row 14 t_row] [(0, .ref q_t), (1, .int x1), (2, .int x2), (3, .int x3)] []) : ∀ (n : Nat) (x1 : Int32) (x2 : Int32) (x3 : Int32) (x4 : Int32) (x5 : Int32), L_X9_fills_39 t_knots t_rowed t_beside t_row k_15 n x1 x2 x3 x4 x5 = some r → Go X 7 kk nn 39 [oB q_t 9 [.int t_knots, .ref q_t_weight, .ref q_t_beside, .ref q_t_edge, .int t_rowed, .ref q_t_row, .int t_bags, .ref q_t_bag, .ref q_t_up, .ref q_t_least, .int t_q, .ref q_t_factor, .ref q_t_pairFactor, .ref q_t_forbidden, .ref q_t_mayNot, .ref q_t_fixed, .ref q_t_state, .ref q_t_count, .ref q_t_best, .ref q_t_bests, .long t_allCount, .long t_allBest, .long t_allBests], aI cA q_t_beside 14 t_beside, aI cA q_t_row 14 t_row] [(0, .ref q_t), (1, .int x1), (2, .int x2), (3, .int x3), (4, .int x4), (5, .int x5)] [] := by
  intro n
  induction n with
  | zero => intro x1 x2 x3 x4 x5 hf; exact no_some hf
  | succ n ih =>
    intro x1 x2 x3 x4 x5 hf
    rw [L_X9_fills_39] at hf
    refine g_iload C 39 5 dX9_fills_39 rfl ?_
    refine g_aload_n C 41 0 dX9_fills_41 rfl rfl ?_
    refine g_get C 42 0 0 dX9_fills_42 inX9 rfl rfl (by decide) kw_339 rfl ?_
    refine g_icmp_ge C 45 110 dX9_fills_45 (by decide) hf (fun hf => ?_) (fun hf => ?_)
    · refine g_iload_n C 110 2 dX9_fills_110 rfl rfl ?_
      refine g_iconst C 111 (1 : Int32) dX9_fills_111 (by decide) ?_
      refine g_aload_n C 112 0 dX9_fills_112 rfl rfl ?_
      refine g_get C 113 0 5 dX9_fills_113 inX9 rfl rfl (by decide) kw_358 rfl ?_
      refine g_iload_n C 116 3 dX9_fills_116 rfl rfl ?_
      refine g_iald C 117 2 dX9_fills_117 rfl hf (fun v9 hf => ?_)
      refine g_ishl C 118 dX9_fills_118 ?_
      refine g_ior C 119 dX9_fills_119 ?_
      refine g_istore_n C 120 (fun z => [(2, .int z), (0, .ref q_t), (1, .int x1), (3, .int x3), (4, .int x4), (5, .int x5)]) dX9_fills_120 rfl (by decide) (fun _ => rfl) hf (fun x2_10 hf => ?_)
      refine g_iinc C 121 3 (v := x3 + (1 : Int32)) (fun z => [(3, .int z), (2, .int x2_10), (0, .ref q_t), (1, .int x1), (4, .int x4), (5, .int x5)]) dX9_fills_121 rfl rfl (by decide) (fun _ => rfl) hf (fun x3_11 hf => ?_)
      refine g_goto C 124 15 dX9_fills_124 (by decide) ?_
      refine g_lv [2, 3, 1, 0] rfl ?_
      exact h_15 x1 x2_10 x3_11 hf
    · refine g_iconst C 48 (0 : Int32) dX9_fills_48 (by decide) ?_
      refine g_istore C 49 (fun z => [(6, .int z), (0, .ref q_t), (1, .int x1), (2, .int x2), (3, .int x3), (4, .int x4), (5, .int x5)]) dX9_fills_49 (by decide) (fun _ => rfl) hf (fun x6_12 hf => ?_)
      refine g_lv [1, 2, 3, 4, 5, 6, 0] rfl ?_
      exact w_X9_fills_51 cA q_t q_t_weight q_t_edge t_bags q_t_bag q_t_up q_t_least t_q q_t_factor q_t_pairFactor q_t_forbidden q_t_mayNot q_t_fixed q_t_state q_t_count q_t_best q_t_bests t_allCount t_allBest t_allBests q_t_beside q_t_row t_knots t_rowed t_beside t_row C hk F r hB (fun y0 y1 y2 y3 y4 => L_X9_fills_39 t_knots t_rowed t_beside t_row k_15 n y0 y1 y2 y3 y4) (fun y0 y1 y2 y3 y4 hf => ih y0 y1 y2 y3 y4 hf) NN x1 x2 x3 x4 x5 x6_12 hf
def L_X9_fills_15 (t_knots : Int32) (t_rowed : Int32) (t_beside : Nat → Int32) (t_row : Nat → Int32)  : Nat → Int32 → Int32 → Int32 → Option (Int32)
  | 0, _, _, _ => none
  | n + 1, x1, x2, x3 =>
    if t_rowed ≤ x3 then
      some (x1)
    else
      ldA t_row 14 x3 fun v5 =>
      cal (f_X9_around x2 v5 t_knots t_beside) fun u6 =>
      bnd u6 fun x4_7 =>
      bnd (0 : Int32) fun x5_8 =>
      L_X9_fills_39 t_knots t_rowed t_beside t_row (fun y0 y1 y2 => L_X9_fills_15 t_knots t_rowed t_beside t_row n y0 y1 y2) NN x1 x2 x3 x4_7 x5_8

set_option maxRecDepth 100000 in
set_option maxHeartbeats 1000000 in
theorem w_X9_fills_15 (cA : Nat → ClassId) (q_t : Nat) (q_t_weight : Nat) (q_t_edge : Nat) (t_bags : Int32) (q_t_bag : Nat) (q_t_up : Nat) (q_t_least : Nat) (t_q : Int32) (q_t_factor : Nat) (q_t_pairFactor : Nat) (q_t_forbidden : Nat) (q_t_mayNot : Nat) (q_t_fixed : Nat) (q_t_state : Nat) (q_t_count : Nat) (q_t_best : Nat) (q_t_bests : Nat) (t_allCount : Int64) (t_allBest : Int64) (t_allBests : Int64) (q_t_beside : Nat) (q_t_row : Nat) (t_knots : Int32) (t_rowed : Int32) (t_beside : Nat → Int32) (t_row : Nat → Int32) {X : XT}  (C : Cx X cX9_fills RX9 (some .int) cA 1 26 7) {kk nn : Nat} {BB : Option Value → va_W → Prop} (hk : kk ≤ (x_R X).cells ∧ nn ≤ (x_R X).slots) (F : Fx X BB kk nn) (r : Int32) (hB : BB (some (.int r)) [oB q_t 9 [.int t_knots, .ref q_t_weight, .ref q_t_beside, .ref q_t_edge, .int t_rowed, .ref q_t_row, .int t_bags, .ref q_t_bag, .ref q_t_up, .ref q_t_least, .int t_q, .ref q_t_factor, .ref q_t_pairFactor, .ref q_t_forbidden, .ref q_t_mayNot, .ref q_t_fixed, .ref q_t_state, .ref q_t_count, .ref q_t_best, .ref q_t_bests, .long t_allCount, .long t_allBest, .long t_allBests], aI cA q_t_beside 14 t_beside, aI cA q_t_row 14 t_row])  : ∀ (n : Nat) (x1 : Int32) (x2 : Int32) (x3 : Int32), L_X9_fills_15 t_knots t_rowed t_beside t_row n x1 x2 x3 = some r → Go X 7 kk nn 15 [oB q_t 9 [.int t_knots, .ref q_t_weight, .ref q_t_beside, .ref q_t_edge, .int t_rowed, .ref q_t_row, .int t_bags, .ref q_t_bag, .ref q_t_up, .ref q_t_least, .int t_q, .ref q_t_factor, .ref q_t_pairFactor, .ref q_t_forbidden, .ref q_t_mayNot, .ref q_t_fixed, .ref q_t_state, .ref q_t_count, .ref q_t_best, .ref q_t_bests, .long t_allCount, .long t_allBest, .long t_allBests], aI cA q_t_beside 14 t_beside, aI cA q_t_row 14 t_row] [(0, .ref q_t), (1, .int x1), (2, .int x2), (3, .int x3)] [] := by
  intro n
  induction n with
  | zero => intro x1 x2 x3 hf; exact no_some hf
  | succ n ih =>
    intro x1 x2 x3 hf
    rw [L_X9_fills_15] at hf
    refine g_iload_n C 15 3 dX9_fills_15 rfl rfl ?_
    refine g_aload_n C 16 0 dX9_fills_16 rfl rfl ?_
    refine g_get C 17 0 4 dX9_fills_17 inX9 rfl rfl (by decide) kw_347 rfl ?_
    refine g_icmp_ge C 20 127 dX9_fills_20 (by decide) hf (fun hf => ?_) (fun hf => ?_)
    · refine g_iload_n C 127 1 dX9_fills_127 rfl rfl ?_
      cases hf
      exact g_iret C 128 dX9_fills_128 F hB
    · refine g_aload_n C 23 0 dX9_fills_23 rfl rfl ?_
      refine g_iload_n C 24 2 dX9_fills_24 rfl rfl ?_
      refine g_aload_n C 25 0 dX9_fills_25 rfl rfl ?_
      refine g_get C 26 0 5 dX9_fills_26 inX9 rfl rfl (by decide) kw_358 rfl ?_
      refine g_iload_n C 29 3 dX9_fills_29 rfl rfl ?_
      refine g_iald C 30 2 dX9_fills_30 rfl hf (fun v5 hf => ?_)
      obtain ⟨u6, hu6, hf⟩ := cal_some hf
      refine g_callV1 C 31 [0, 1] 0 (rest := []) dX9_fills_31 (c_X9_around (x_l X) cA q_t t_knots q_t_weight q_t_edge t_rowed q_t_row t_bags q_t_bag q_t_up q_t_least t_q q_t_factor q_t_pairFactor q_t_forbidden q_t_mayNot q_t_fixed q_t_state q_t_count q_t_best q_t_bests t_allCount t_allBest t_allBests q_t_beside t_beside x2 v5 u6 hu6) kw_363 kw_364 kw_365 kw_343 kw_366 ok_X9_around ⟨Nat.le_of_ble_eq_true rfl, Nat.le_of_ble_eq_true rfl⟩ hk ⟨rfl, rfl⟩ rfl rfl rfl rfl rfl (Nat.le_of_ble_eq_true rfl) rfl (ws' := [oB q_t 9 [.int t_knots, .ref q_t_weight, .ref q_t_beside, .ref q_t_edge, .int t_rowed, .ref q_t_row, .int t_bags, .ref q_t_bag, .ref q_t_up, .ref q_t_least, .int t_q, .ref q_t_factor, .ref q_t_pairFactor, .ref q_t_forbidden, .ref q_t_mayNot, .ref q_t_fixed, .ref q_t_state, .ref q_t_count, .ref q_t_best, .ref q_t_bests, .long t_allCount, .long t_allBest, .long t_allBests], aI cA q_t_beside 14 t_beside, aI cA q_t_row 14 t_row]) (st' := [.int u6]) (N0 := 3) rfl [some 0, some 1, none] (by decide) rfl rfl ?_
      refine g_istore C 34 (fun z => [(4, .int z), (0, .ref q_t), (1, .int x1), (2, .int x2), (3, .int x3)]) dX9_fills_34 (by decide) (fun _ => rfl) hf (fun x4_7 hf => ?_)
      refine g_iconst C 36 (0 : Int32) dX9_fills_36 (by decide) ?_
      refine g_istore C 37 (fun z => [(5, .int z), (4, .int x4_7), (0, .ref q_t), (1, .int x1), (2, .int x2), (3, .int x3)]) dX9_fills_37 (by decide) (fun _ => rfl) hf (fun x5_8 hf => ?_)
      refine g_lv [2, 3, 4, 5, 1, 0] rfl ?_
      exact w_X9_fills_39 cA q_t q_t_weight q_t_edge t_bags q_t_bag q_t_up q_t_least t_q q_t_factor q_t_pairFactor q_t_forbidden q_t_mayNot q_t_fixed q_t_state q_t_count q_t_best q_t_bests t_allCount t_allBest t_allBests q_t_beside q_t_row t_knots t_rowed t_beside t_row C hk F r hB (fun y0 y1 y2 => L_X9_fills_15 t_knots t_rowed t_beside t_row n y0 y1 y2) (fun y0 y1 y2 hf => ih y0 y1 y2 hf) NN x1 x2 x3 x4_7 x5_8 hf
def f_X9_fills (t_knots : Int32) (t_rowed : Int32) (t_beside : Nat → Int32) (t_row : Nat → Int32) : Option (Int32) :=
  cal (f_X9_isOrder t_knots t_rowed) fun u1 =>
  if u1 = 0 then
    some ((-1 : Int32))
  else
    bnd (0 : Int32) fun x1_2 =>
    bnd (0 : Int32) fun x2_3 =>
    bnd (0 : Int32) fun x3_4 =>
    L_X9_fills_15 t_knots t_rowed t_beside t_row NN x1_2 x2_3 x3_4

set_option maxRecDepth 100000 in
set_option maxHeartbeats 1000000 in
theorem c_X9_fills (l : Launch) (cA : Nat → ClassId) (q_t : Nat) (t_knots : Int32) (q_t_weight : Nat) (q_t_edge : Nat) (t_rowed : Int32) (t_bags : Int32) (q_t_bag : Nat) (q_t_up : Nat) (q_t_least : Nat) (t_q : Int32) (q_t_factor : Nat) (q_t_pairFactor : Nat) (q_t_forbidden : Nat) (q_t_mayNot : Nat) (q_t_fixed : Nat) (q_t_state : Nat) (q_t_count : Nat) (q_t_best : Nat) (q_t_bests : Nat) (t_allCount : Int64) (t_allBest : Int64) (t_allBests : Int64) (q_t_beside : Nat) (t_beside : Nat → Int32) (q_t_row : Nat) (t_row : Nat → Int32)   (r : Int32) (hf : f_X9_fills t_knots t_rowed t_beside t_row = some r) : MT l cA yX9_fills cX9_fills 7 (some .int) ({ frames := 1, cells := 0, slots := 0, locals := 26 } : Room) [.ref q_t] [oB q_t 9 [.int t_knots, .ref q_t_weight, .ref q_t_beside, .ref q_t_edge, .int t_rowed, .ref q_t_row, .int t_bags, .ref q_t_bag, .ref q_t_up, .ref q_t_least, .int t_q, .ref q_t_factor, .ref q_t_pairFactor, .ref q_t_forbidden, .ref q_t_mayNot, .ref q_t_fixed, .ref q_t_state, .ref q_t_count, .ref q_t_best, .ref q_t_bests, .long t_allCount, .long t_allBest, .long t_allBests], aI cA q_t_beside 14 t_beside, aI cA q_t_row 14 t_row] (sB (some (.int r)) [oB q_t 9 [.int t_knots, .ref q_t_weight, .ref q_t_beside, .ref q_t_edge, .int t_rowed, .ref q_t_row, .int t_bags, .ref q_t_bag, .ref q_t_up, .ref q_t_least, .int t_q, .ref q_t_factor, .ref q_t_pairFactor, .ref q_t_forbidden, .ref q_t_mayNot, .ref q_t_fixed, .ref q_t_state, .ref q_t_count, .ref q_t_best, .ref q_t_bests, .long t_allCount, .long t_allBest, .long t_allBests], aI cA q_t_beside 14 t_beside, aI cA q_t_row 14 t_row]) := by
  refine MT.of (by decide) (Nat.le_of_ble_eq_true rfl) ?_
  intro X hXl C F hnm hrc hrs
  subst hXl
  have hk : 0 ≤ (x_R X).cells ∧ 0 ≤ (x_R X).slots := ⟨Nat.zero_le _, Nat.zero_le _⟩
  have hB : (sB (some (.int r)) [oB q_t 9 [.int t_knots, .ref q_t_weight, .ref q_t_beside, .ref q_t_edge, .int t_rowed, .ref q_t_row, .int t_bags, .ref q_t_bag, .ref q_t_up, .ref q_t_least, .int t_q, .ref q_t_factor, .ref q_t_pairFactor, .ref q_t_forbidden, .ref q_t_mayNot, .ref q_t_fixed, .ref q_t_state, .ref q_t_count, .ref q_t_best, .ref q_t_bests, .long t_allCount, .long t_allBest, .long t_allBests], aI cA q_t_beside 14 t_beside, aI cA q_t_row 14 t_row]) (some (.int r)) [oB q_t 9 [.int t_knots, .ref q_t_weight, .ref q_t_beside, .ref q_t_edge, .int t_rowed, .ref q_t_row, .int t_bags, .ref q_t_bag, .ref q_t_up, .ref q_t_least, .int t_q, .ref q_t_factor, .ref q_t_pairFactor, .ref q_t_forbidden, .ref q_t_mayNot, .ref q_t_fixed, .ref q_t_state, .ref q_t_count, .ref q_t_best, .ref q_t_bests, .long t_allCount, .long t_allBest, .long t_allBests], aI cA q_t_beside 14 t_beside, aI cA q_t_row 14 t_row] := ⟨rfl, rfl⟩
  unfold f_X9_fills at hf
  have C : Cx X cX9_fills RX9 (some .int) cA 1 26 7 := C
  show Go X 7 0 0 0 [oB q_t 9 [.int t_knots, .ref q_t_weight, .ref q_t_beside, .ref q_t_edge, .int t_rowed, .ref q_t_row, .int t_bags, .ref q_t_bag, .ref q_t_up, .ref q_t_least, .int t_q, .ref q_t_factor, .ref q_t_pairFactor, .ref q_t_forbidden, .ref q_t_mayNot, .ref q_t_fixed, .ref q_t_state, .ref q_t_count, .ref q_t_best, .ref q_t_bests, .long t_allCount, .long t_allBest, .long t_allBests], aI cA q_t_beside 14 t_beside, aI cA q_t_row 14 t_row] [(0, .ref q_t)] []
  refine g_aload_n C 0 0 dX9_fills_0 rfl rfl ?_
  obtain ⟨u1, hu1, hf⟩ := cal_some hf
  refine g_callV1 C 1 [0] 0 (rest := []) dX9_fills_1 (c_X9_isOrder (x_l X) cA q_t t_knots q_t_weight q_t_beside q_t_edge t_rowed q_t_row t_bags q_t_bag q_t_up q_t_least t_q q_t_factor q_t_pairFactor q_t_forbidden q_t_mayNot q_t_fixed q_t_state q_t_count q_t_best q_t_bests t_allCount t_allBest t_allBests u1 hu1) kw_372 kw_373 kw_374 kw_343 kw_375 ok_X9_isOrder ⟨Nat.le_of_ble_eq_true rfl, Nat.le_of_ble_eq_true rfl⟩ hk ⟨rfl, rfl⟩ rfl rfl rfl rfl rfl (Nat.le_of_ble_eq_true rfl) rfl (ws' := [oB q_t 9 [.int t_knots, .ref q_t_weight, .ref q_t_beside, .ref q_t_edge, .int t_rowed, .ref q_t_row, .int t_bags, .ref q_t_bag, .ref q_t_up, .ref q_t_least, .int t_q, .ref q_t_factor, .ref q_t_pairFactor, .ref q_t_forbidden, .ref q_t_mayNot, .ref q_t_fixed, .ref q_t_state, .ref q_t_count, .ref q_t_best, .ref q_t_bests, .long t_allCount, .long t_allBest, .long t_allBests], aI cA q_t_beside 14 t_beside, aI cA q_t_row 14 t_row]) (st' := [.int u1]) (N0 := 3) rfl [some 0, none, none] (by decide) rfl rfl ?_
  refine g_if_ne C 4 9 dX9_fills_4 (by decide) hf (fun hf => ?_) (fun hf => ?_)
  · refine g_iconst C 9 (0 : Int32) dX9_fills_9 (by decide) ?_
    refine g_istore_n C 10 (fun z => [(1, .int z), (0, .ref q_t)]) dX9_fills_10 rfl (by decide) (fun _ => rfl) hf (fun x1_2 hf => ?_)
    refine g_iconst C 11 (0 : Int32) dX9_fills_11 (by decide) ?_
    refine g_istore_n C 12 (fun z => [(2, .int z), (1, .int x1_2), (0, .ref q_t)]) dX9_fills_12 rfl (by decide) (fun _ => rfl) hf (fun x2_3 hf => ?_)
    refine g_iconst C 13 (0 : Int32) dX9_fills_13 (by decide) ?_
    refine g_istore_n C 14 (fun z => [(3, .int z), (2, .int x2_3), (1, .int x1_2), (0, .ref q_t)]) dX9_fills_14 rfl (by decide) (fun _ => rfl) hf (fun x3_4 hf => ?_)
    refine g_lv [3, 2, 1, 0] rfl ?_
    exact w_X9_fills_15 cA q_t q_t_weight q_t_edge t_bags q_t_bag q_t_up q_t_least t_q q_t_factor q_t_pairFactor q_t_forbidden q_t_mayNot q_t_fixed q_t_state q_t_count q_t_best q_t_bests t_allCount t_allBest t_allBests q_t_beside q_t_row t_knots t_rowed t_beside t_row C hk F r hB NN x1_2 x2_3 x3_4 hf
  · refine g_iconst C 7 (-1 : Int32) dX9_fills_7 (by decide) ?_
    cases hf
    exact g_iret C 8 dX9_fills_8 F hB
