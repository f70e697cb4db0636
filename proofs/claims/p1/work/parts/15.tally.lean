theorem dX7_openAll_0 : decode cX7_openAll 0 = .ok (.iconst 0, 1) := by decide +kernel
theorem dX7_openAll_1 : decode cX7_openAll 1 = .ok (.istore_n 1, 1) := by decide +kernel
theorem dX7_openAll_2 : decode cX7_openAll 2 = .ok (.iload_n 1, 1) := by decide +kernel
theorem dX7_openAll_3 : decode cX7_openAll 3 = .ok (.aload_n 0, 1) := by decide +kernel
theorem dX7_openAll_4 : decode cX7_openAll 4 = .ok (.getfield 33, 3) := by decide +kernel
theorem dX7_openAll_7 : decode cX7_openAll 7 = .ok (.getfield 45, 3) := by decide +kernel
theorem dX7_openAll_10 : decode cX7_openAll 10 = .ok (.if_icmp .ge 23, 3) := by decide +kernel
theorem dX7_openAll_13 : decode cX7_openAll 13 = .ok (.aload_n 0, 1) := by decide +kernel
theorem dX7_openAll_14 : decode cX7_openAll 14 = .ok (.getfield 9, 3) := by decide +kernel
theorem dX7_openAll_17 : decode cX7_openAll 17 = .ok (.iload_n 1, 1) := by decide +kernel
theorem dX7_openAll_18 : decode cX7_openAll 18 = .ok (.aload_n 0, 1) := by decide +kernel
theorem dX7_openAll_19 : decode cX7_openAll 19 = .ok (.getfield 37, 3) := by decide +kernel
theorem dX7_openAll_22 : decode cX7_openAll 22 = .ok (.iload_n 1, 1) := by decide +kernel
theorem dX7_openAll_23 : decode cX7_openAll 23 = .ok (.invokevirtual 51, 3) := by decide +kernel
theorem dX7_openAll_26 : decode cX7_openAll 26 = .ok (.iastore, 1) := by decide +kernel
theorem dX7_openAll_27 : decode cX7_openAll 27 = .ok (.iinc 1 1, 3) := by decide +kernel
theorem dX7_openAll_30 : decode cX7_openAll 30 = .ok (.goto (-28), 3) := by decide +kernel
theorem dX7_openAll_33 : decode cX7_openAll 33 = .ok (.return_, 1) := by decide +kernel
theorem dX7_sweep_0 : decode cX7_sweep 0 = .ok (.aload_n 0, 1) := by decide +kernel
theorem dX7_sweep_1 : decode cX7_sweep 1 = .ok (.iload_n 1, 1) := by decide +kernel
theorem dX7_sweep_2 : decode cX7_sweep 2 = .ok (.putfield 57, 3) := by decide +kernel
theorem dX7_sweep_5 : decode cX7_sweep 5 = .ok (.aload_n 0, 1) := by decide +kernel
theorem dX7_sweep_6 : decode cX7_sweep 6 = .ok (.aload_n 0, 1) := by decide +kernel
theorem dX7_sweep_7 : decode cX7_sweep 7 = .ok (.getfield 33, 3) := by decide +kernel
theorem dX7_sweep_10 : decode cX7_sweep 10 = .ok (.invokevirtual 60, 3) := by decide +kernel
theorem dX7_sweep_13 : decode cX7_sweep 13 = .ok (.putfield 64, 3) := by decide +kernel
theorem dX7_sweep_16 : decode cX7_sweep 16 = .ok (.aload_n 0, 1) := by decide +kernel
theorem dX7_sweep_17 : decode cX7_sweep 17 = .ok (.invokevirtual 67, 3) := by decide +kernel
theorem dX7_sweep_20 : decode cX7_sweep 20 = .ok (.return_, 1) := by decide +kernel
theorem dX7_sweepAgain_0 : decode cX7_sweepAgain 0 = .ok (.iconst 0, 1) := by decide +kernel
theorem dX7_sweepAgain_1 : decode cX7_sweepAgain 1 = .ok (.istore_n 1, 1) := by decide +kernel
theorem dX7_sweepAgain_2 : decode cX7_sweepAgain 2 = .ok (.iload_n 1, 1) := by decide +kernel
theorem dX7_sweepAgain_3 : decode cX7_sweepAgain 3 = .ok (.aload_n 0, 1) := by decide +kernel
theorem dX7_sweepAgain_4 : decode cX7_sweepAgain 4 = .ok (.getfield 33, 3) := by decide +kernel
theorem dX7_sweepAgain_7 : decode cX7_sweepAgain 7 = .ok (.getfield 45, 3) := by decide +kernel
theorem dX7_sweepAgain_10 : decode cX7_sweepAgain 10 = .ok (.if_icmp .ge 25, 3) := by decide +kernel
theorem dX7_sweepAgain_13 : decode cX7_sweepAgain 13 = .ok (.aload_n 0, 1) := by decide +kernel
theorem dX7_sweepAgain_14 : decode cX7_sweepAgain 14 = .ok (.getfield 64, 3) := by decide +kernel
theorem dX7_sweepAgain_17 : decode cX7_sweepAgain 17 = .ok (.iload_n 1, 1) := by decide +kernel
theorem dX7_sweepAgain_18 : decode cX7_sweepAgain 18 = .ok (.invokestatic 70, 3) := by decide +kernel
theorem dX7_sweepAgain_21 : decode cX7_sweepAgain 21 = .ok (.ifCond .eq 8, 3) := by decide +kernel
theorem dX7_sweepAgain_24 : decode cX7_sweepAgain 24 = .ok (.aload_n 0, 1) := by decide +kernel
theorem dX7_sweepAgain_25 : decode cX7_sweepAgain 25 = .ok (.iload_n 1, 1) := by decide +kernel
theorem dX7_sweepAgain_26 : decode cX7_sweepAgain 26 = .ok (.invokevirtual 74, 3) := by decide +kernel
theorem dX7_sweepAgain_29 : decode cX7_sweepAgain 29 = .ok (.iinc 1 1, 3) := by decide +kernel
theorem dX7_sweepAgain_32 : decode cX7_sweepAgain 32 = .ok (.goto (-30), 3) := by decide +kernel
theorem dX7_sweepAgain_35 : decode cX7_sweepAgain 35 = .ok (.aload_n 0, 1) := by decide +kernel
theorem dX7_sweepAgain_36 : decode cX7_sweepAgain 36 = .ok (.iconst 0, 1) := by decide +kernel
theorem dX7_sweepAgain_37 : decode cX7_sweepAgain 37 = .ok (.putfield 78, 3) := by decide +kernel
theorem dX7_sweepAgain_40 : decode cX7_sweepAgain 40 = .ok (.aload_n 0, 1) := by decide +kernel
theorem dX7_sweepAgain_41 : decode cX7_sweepAgain 41 = .ok (.iconst 1, 1) := by decide +kernel
theorem dX7_sweepAgain_42 : decode cX7_sweepAgain 42 = .ok (.putfield 81, 3) := by decide +kernel
theorem dX7_sweepAgain_45 : decode cX7_sweepAgain 45 = .ok (.iconst 0, 1) := by decide +kernel
theorem dX7_sweepAgain_46 : decode cX7_sweepAgain 46 = .ok (.istore_n 1, 1) := by decide +kernel
theorem dX7_sweepAgain_47 : decode cX7_sweepAgain 47 = .ok (.iconst 0, 1) := by decide +kernel
theorem dX7_sweepAgain_48 : decode cX7_sweepAgain 48 = .ok (.istore_n 2, 1) := by decide +kernel
theorem dX7_sweepAgain_49 : decode cX7_sweepAgain 49 = .ok (.iload_n 2, 1) := by decide +kernel
theorem dX7_sweepAgain_50 : decode cX7_sweepAgain 50 = .ok (.aload_n 0, 1) := by decide +kernel
theorem dX7_sweepAgain_51 : decode cX7_sweepAgain 51 = .ok (.getfield 41, 3) := by decide +kernel
theorem dX7_sweepAgain_54 : decode cX7_sweepAgain 54 = .ok (.getfield 84, 3) := by decide +kernel
theorem dX7_sweepAgain_57 : decode cX7_sweepAgain 57 = .ok (.if_icmp .ge 106, 3) := by decide +kernel
theorem dX7_sweepAgain_60 : decode cX7_sweepAgain 60 = .ok (.aload_n 0, 1) := by decide +kernel
theorem dX7_sweepAgain_61 : decode cX7_sweepAgain 61 = .ok (.getfield 41, 3) := by decide +kernel
theorem dX7_sweepAgain_64 : decode cX7_sweepAgain 64 = .ok (.getfield 87, 3) := by decide +kernel
theorem dX7_sweepAgain_67 : decode cX7_sweepAgain 67 = .ok (.iload_n 2, 1) := by decide +kernel
theorem dX7_sweepAgain_68 : decode cX7_sweepAgain 68 = .ok (.iaload, 1) := by decide +kernel
theorem dX7_sweepAgain_69 : decode cX7_sweepAgain 69 = .ok (.aload_n 0, 1) := by decide +kernel
theorem dX7_sweepAgain_70 : decode cX7_sweepAgain 70 = .ok (.getfield 64, 3) := by decide +kernel
theorem dX7_sweepAgain_73 : decode cX7_sweepAgain 73 = .ok (.iand, 1) := by decide +kernel
theorem dX7_sweepAgain_74 : decode cX7_sweepAgain 74 = .ok (.ifCond .ne 11, 3) := by decide +kernel
theorem dX7_sweepAgain_77 : decode cX7_sweepAgain 77 = .ok (.iload_n 1, 1) := by decide +kernel
theorem dX7_sweepAgain_78 : decode cX7_sweepAgain 78 = .ok (.iload_n 2, 1) := by decide +kernel
theorem dX7_sweepAgain_79 : decode cX7_sweepAgain 79 = .ok (.invokestatic 70, 3) := by decide +kernel
theorem dX7_sweepAgain_82 : decode cX7_sweepAgain 82 = .ok (.ifCond .eq 22, 3) := by decide +kernel
theorem dX7_sweepAgain_85 : decode cX7_sweepAgain 85 = .ok (.aload_n 0, 1) := by decide +kernel
theorem dX7_sweepAgain_86 : decode cX7_sweepAgain 86 = .ok (.iload_n 2, 1) := by decide +kernel
theorem dX7_sweepAgain_87 : decode cX7_sweepAgain 87 = .ok (.invokevirtual 90, 3) := by decide +kernel
theorem dX7_sweepAgain_90 : decode cX7_sweepAgain 90 = .ok (.iload_n 1, 1) := by decide +kernel
theorem dX7_sweepAgain_91 : decode cX7_sweepAgain 91 = .ok (.iconst 1, 1) := by decide +kernel
theorem dX7_sweepAgain_92 : decode cX7_sweepAgain 92 = .ok (.aload_n 0, 1) := by decide +kernel
theorem dX7_sweepAgain_93 : decode cX7_sweepAgain 93 = .ok (.getfield 41, 3) := by decide +kernel
theorem dX7_sweepAgain_96 : decode cX7_sweepAgain 96 = .ok (.getfield 93, 3) := by decide +kernel
theorem dX7_sweepAgain_99 : decode cX7_sweepAgain 99 = .ok (.iload_n 2, 1) := by decide +kernel
theorem dX7_sweepAgain_100 : decode cX7_sweepAgain 100 = .ok (.iaload, 1) := by decide +kernel
theorem dX7_sweepAgain_101 : decode cX7_sweepAgain 101 = .ok (.ishl, 1) := by decide +kernel
theorem dX7_sweepAgain_102 : decode cX7_sweepAgain 102 = .ok (.ior, 1) := by decide +kernel
theorem dX7_sweepAgain_103 : decode cX7_sweepAgain 103 = .ok (.istore_n 1, 1) := by decide +kernel
theorem dX7_sweepAgain_104 : decode cX7_sweepAgain 104 = .ok (.aload_n 0, 1) := by decide +kernel
theorem dX7_sweepAgain_105 : decode cX7_sweepAgain 105 = .ok (.getfield 41, 3) := by decide +kernel
theorem dX7_sweepAgain_108 : decode cX7_sweepAgain 108 = .ok (.getfield 96, 3) := by decide +kernel
theorem dX7_sweepAgain_111 : decode cX7_sweepAgain 111 = .ok (.iload_n 2, 1) := by decide +kernel
theorem dX7_sweepAgain_112 : decode cX7_sweepAgain 112 = .ok (.iaload, 1) := by decide +kernel
theorem dX7_sweepAgain_113 : decode cX7_sweepAgain 113 = .ok (.ifCond .le 6, 3) := by decide +kernel
theorem dX7_sweepAgain_116 : decode cX7_sweepAgain 116 = .ok (.goto 41, 3) := by decide +kernel
theorem dX7_sweepAgain_119 : decode cX7_sweepAgain 119 = .ok (.aload_n 0, 1) := by decide +kernel
theorem dX7_sweepAgain_120 : decode cX7_sweepAgain 120 = .ok (.dup, 1) := by decide +kernel
theorem dX7_sweepAgain_121 : decode cX7_sweepAgain 121 = .ok (.getfield 78, 3) := by decide +kernel
theorem dX7_sweepAgain_124 : decode cX7_sweepAgain 124 = .ok (.aload_n 0, 1) := by decide +kernel
theorem dX7_sweepAgain_125 : decode cX7_sweepAgain 125 = .ok (.getfield 27, 3) := by decide +kernel
theorem dX7_sweepAgain_128 : decode cX7_sweepAgain 128 = .ok (.iload_n 2, 1) := by decide +kernel
theorem dX7_sweepAgain_129 : decode cX7_sweepAgain 129 = .ok (.sipush 256, 3) := by decide +kernel
theorem dX7_sweepAgain_132 : decode cX7_sweepAgain 132 = .ok (.imul, 1) := by decide +kernel
theorem dX7_sweepAgain_133 : decode cX7_sweepAgain 133 = .ok (.iaload, 1) := by decide +kernel
theorem dX7_sweepAgain_134 : decode cX7_sweepAgain 134 = .ok (.iadd, 1) := by decide +kernel
theorem dX7_sweepAgain_135 : decode cX7_sweepAgain 135 = .ok (.putfield 78, 3) := by decide +kernel
theorem dX7_sweepAgain_138 : decode cX7_sweepAgain 138 = .ok (.aload_n 0, 1) := by decide +kernel
theorem dX7_sweepAgain_139 : decode cX7_sweepAgain 139 = .ok (.dup, 1) := by decide +kernel
theorem dX7_sweepAgain_140 : decode cX7_sweepAgain 140 = .ok (.getfield 81, 3) := by decide +kernel
theorem dX7_sweepAgain_143 : decode cX7_sweepAgain 143 = .ok (.aload_n 0, 1) := by decide +kernel
theorem dX7_sweepAgain_144 : decode cX7_sweepAgain 144 = .ok (.getfield 30, 3) := by decide +kernel
theorem dX7_sweepAgain_147 : decode cX7_sweepAgain 147 = .ok (.iload_n 2, 1) := by decide +kernel
theorem dX7_sweepAgain_148 : decode cX7_sweepAgain 148 = .ok (.sipush 256, 3) := by decide +kernel
theorem dX7_sweepAgain_151 : decode cX7_sweepAgain 151 = .ok (.imul, 1) := by decide +kernel
theorem dX7_sweepAgain_152 : decode cX7_sweepAgain 152 = .ok (.iaload, 1) := by decide +kernel
theorem dX7_sweepAgain_153 : decode cX7_sweepAgain 153 = .ok (.imul, 1) := by decide +kernel
theorem dX7_sweepAgain_154 : decode cX7_sweepAgain 154 = .ok (.putfield 81, 3) := by decide +kernel
theorem dX7_sweepAgain_157 : decode cX7_sweepAgain 157 = .ok (.iinc 2 1, 3) := by decide +kernel
theorem dX7_sweepAgain_160 : decode cX7_sweepAgain 160 = .ok (.goto (-111), 3) := by decide +kernel
theorem dX7_sweepAgain_163 : decode cX7_sweepAgain 163 = .ok (.aload_n 0, 1) := by decide +kernel
theorem dX7_sweepAgain_164 : decode cX7_sweepAgain 164 = .ok (.iconst 0, 1) := by decide +kernel
theorem dX7_sweepAgain_165 : decode cX7_sweepAgain 165 = .ok (.putfield 64, 3) := by decide +kernel
theorem dX7_sweepAgain_168 : decode cX7_sweepAgain 168 = .ok (.return_, 1) := by decide +kernel
theorem dX7_stateInWay_0 : decode cX7_stateInWay 0 = .ok (.aload_n 0, 1) := by decide +kernel
theorem dX7_stateInWay_1 : decode cX7_stateInWay 1 = .ok (.iload_n 1, 1) := by decide +kernel
theorem dX7_stateInWay_2 : decode cX7_stateInWay 2 = .ok (.invokevirtual 99, 3) := by decide +kernel
theorem dX7_stateInWay_5 : decode cX7_stateInWay 5 = .ok (.lload_n 2, 1) := by decide +kernel
theorem dX7_stateInWay_6 : decode cX7_stateInWay 6 = .ok (.lconst 0, 1) := by decide +kernel
theorem dX7_stateInWay_7 : decode cX7_stateInWay 7 = .ok (.lcmp, 1) := by decide +kernel
theorem dX7_stateInWay_8 : decode cX7_stateInWay 8 = .ok (.ifCond .lt 13, 3) := by decide +kernel
theorem dX7_stateInWay_11 : decode cX7_stateInWay 11 = .ok (.lload_n 2, 1) := by decide +kernel
theorem dX7_stateInWay_12 : decode cX7_stateInWay 12 = .ok (.aload_n 0, 1) := by decide +kernel
theorem dX7_stateInWay_13 : decode cX7_stateInWay 13 = .ok (.getfield 81, 3) := by decide +kernel
theorem dX7_stateInWay_16 : decode cX7_stateInWay 16 = .ok (.i2l, 1) := by decide +kernel
theorem dX7_stateInWay_17 : decode cX7_stateInWay 17 = .ok (.lcmp, 1) := by decide +kernel
theorem dX7_stateInWay_18 : decode cX7_stateInWay 18 = .ok (.ifCond .lt 5, 3) := by decide +kernel
theorem dX7_stateInWay_21 : decode cX7_stateInWay 21 = .ok (.iconst (-1), 1) := by decide +kernel
theorem dX7_stateInWay_22 : decode cX7_stateInWay 22 = .ok (.ireturn, 1) := by decide +kernel
theorem dX7_stateInWay_23 : decode cX7_stateInWay 23 = .ok (.aload_n 0, 1) := by decide +kernel
theorem dX7_stateInWay_24 : decode cX7_stateInWay 24 = .ok (.aload_n 0, 1) := by decide +kernel
theorem dX7_stateInWay_25 : decode cX7_stateInWay 25 = .ok (.getfield 78, 3) := by decide +kernel
theorem dX7_stateInWay_28 : decode cX7_stateInWay 28 = .ok (.putfield 102, 3) := by decide +kernel
theorem dX7_stateInWay_31 : decode cX7_stateInWay 31 = .ok (.aload_n 0, 1) := by decide +kernel
theorem dX7_stateInWay_32 : decode cX7_stateInWay 32 = .ok (.lload_n 2, 1) := by decide +kernel
theorem dX7_stateInWay_33 : decode cX7_stateInWay 33 = .ok (.putfield 105, 3) := by decide +kernel
theorem dX7_stateInWay_36 : decode cX7_stateInWay 36 = .ok (.iconst (-1), 1) := by decide +kernel
theorem dX7_stateInWay_37 : decode cX7_stateInWay 37 = .ok (.istore 5, 2) := by decide +kernel
theorem dX7_stateInWay_39 : decode cX7_stateInWay 39 = .ok (.iconst 0, 1) := by decide +kernel
theorem dX7_stateInWay_40 : decode cX7_stateInWay 40 = .ok (.istore 6, 2) := by decide +kernel
theorem dX7_stateInWay_42 : decode cX7_stateInWay 42 = .ok (.iload 6, 2) := by decide +kernel
theorem dX7_stateInWay_44 : decode cX7_stateInWay 44 = .ok (.iload 4, 2) := by decide +kernel
theorem dX7_stateInWay_46 : decode cX7_stateInWay 46 = .ok (.if_icmp .gt 17, 3) := by decide +kernel
theorem dX7_stateInWay_49 : decode cX7_stateInWay 49 = .ok (.aload_n 0, 1) := by decide +kernel
theorem dX7_stateInWay_50 : decode cX7_stateInWay 50 = .ok (.iload 6, 2) := by decide +kernel
theorem dX7_stateInWay_52 : decode cX7_stateInWay 52 = .ok (.invokevirtual 109, 3) := by decide +kernel
theorem dX7_stateInWay_55 : decode cX7_stateInWay 55 = .ok (.istore 5, 2) := by decide +kernel
theorem dX7_stateInWay_57 : decode cX7_stateInWay 57 = .ok (.iinc 6 1, 3) := by decide +kernel
theorem dX7_stateInWay_60 : decode cX7_stateInWay 60 = .ok (.goto (-18), 3) := by decide +kernel
theorem dX7_stateInWay_63 : decode cX7_stateInWay 63 = .ok (.iload 5, 2) := by decide +kernel
theorem dX7_stateInWay_65 : decode cX7_stateInWay 65 = .ok (.ireturn, 1) := by decide +kernel
theorem dX7_settle_0 : decode cX7_settle 0 = .ok (.aload_n 0, 1) := by decide +kernel
theorem dX7_settle_1 : decode cX7_settle 1 = .ok (.getfield 9, 3) := by decide +kernel
theorem dX7_settle_4 : decode cX7_settle 4 = .ok (.iload_n 1, 1) := by decide +kernel
theorem dX7_settle_5 : decode cX7_settle 5 = .ok (.iaload, 1) := by decide +kernel
theorem dX7_settle_6 : decode cX7_settle 6 = .ok (.istore_n 2, 1) := by decide +kernel
theorem dX7_settle_7 : decode cX7_settle 7 = .ok (.iconst 0, 1) := by decide +kernel
theorem dX7_settle_8 : decode cX7_settle 8 = .ok (.istore_n 3, 1) := by decide +kernel
theorem dX7_settle_9 : decode cX7_settle 9 = .ok (.iload_n 3, 1) := by decide +kernel
theorem dX7_settle_10 : decode cX7_settle 10 = .ok (.aload_n 0, 1) := by decide +kernel
theorem dX7_settle_11 : decode cX7_settle 11 = .ok (.getfield 37, 3) := by decide +kernel
theorem dX7_settle_14 : decode cX7_settle 14 = .ok (.getfield 112, 3) := by decide +kernel
theorem dX7_settle_17 : decode cX7_settle 17 = .ok (.if_icmp .ge 100, 3) := by decide +kernel
theorem dX7_settle_20 : decode cX7_settle 20 = .ok (.iload_n 2, 1) := by decide +kernel
theorem dX7_settle_21 : decode cX7_settle 21 = .ok (.iload_n 3, 1) := by decide +kernel
theorem dX7_settle_22 : decode cX7_settle 22 = .ok (.invokestatic 70, 3) := by decide +kernel
theorem dX7_settle_25 : decode cX7_settle 25 = .ok (.ifCond .ne 6, 3) := by decide +kernel
theorem dX7_settle_28 : decode cX7_settle 28 = .ok (.goto 83, 3) := by decide +kernel
theorem dX7_settle_31 : decode cX7_settle 31 = .ok (.aload_n 0, 1) := by decide +kernel
theorem dX7_settle_32 : decode cX7_settle 32 = .ok (.getfield 9, 3) := by decide +kernel
theorem dX7_settle_35 : decode cX7_settle 35 = .ok (.iload_n 1, 1) := by decide +kernel
theorem dX7_settle_36 : decode cX7_settle 36 = .ok (.iconst 1, 1) := by decide +kernel
theorem dX7_settle_37 : decode cX7_settle 37 = .ok (.iload_n 3, 1) := by decide +kernel
theorem dX7_settle_38 : decode cX7_settle 38 = .ok (.ishl, 1) := by decide +kernel
theorem dX7_settle_39 : decode cX7_settle 39 = .ok (.iastore, 1) := by decide +kernel
theorem dX7_settle_40 : decode cX7_settle 40 = .ok (.aload_n 0, 1) := by decide +kernel
theorem dX7_settle_41 : decode cX7_settle 41 = .ok (.dup, 1) := by decide +kernel
theorem dX7_settle_42 : decode cX7_settle 42 = .ok (.getfield 64, 3) := by decide +kernel
theorem dX7_settle_45 : decode cX7_settle 45 = .ok (.iconst 1, 1) := by decide +kernel
theorem dX7_settle_46 : decode cX7_settle 46 = .ok (.iload_n 1, 1) := by decide +kernel
theorem dX7_settle_47 : decode cX7_settle 47 = .ok (.ishl, 1) := by decide +kernel
theorem dX7_settle_48 : decode cX7_settle 48 = .ok (.ior, 1) := by decide +kernel
theorem dX7_settle_49 : decode cX7_settle 49 = .ok (.putfield 64, 3) := by decide +kernel
theorem dX7_settle_52 : decode cX7_settle 52 = .ok (.iload_n 2, 1) := by decide +kernel
theorem dX7_settle_53 : decode cX7_settle 53 = .ok (.iload_n 3, 1) := by decide +kernel
theorem dX7_settle_54 : decode cX7_settle 54 = .ok (.ishr, 1) := by decide +kernel
theorem dX7_settle_55 : decode cX7_settle 55 = .ok (.iconst 1, 1) := by decide +kernel
theorem dX7_settle_56 : decode cX7_settle 56 = .ok (.if_icmp .ne 5, 3) := by decide +kernel
theorem dX7_settle_59 : decode cX7_settle 59 = .ok (.iload_n 3, 1) := by decide +kernel
theorem dX7_settle_60 : decode cX7_settle 60 = .ok (.ireturn, 1) := by decide +kernel
theorem dX7_settle_61 : decode cX7_settle 61 = .ok (.aload_n 0, 1) := by decide +kernel
theorem dX7_settle_62 : decode cX7_settle 62 = .ok (.invokevirtual 67, 3) := by decide +kernel
theorem dX7_settle_65 : decode cX7_settle 65 = .ok (.aload_n 0, 1) := by decide +kernel
theorem dX7_settle_66 : decode cX7_settle 66 = .ok (.getfield 78, 3) := by decide +kernel
theorem dX7_settle_69 : decode cX7_settle 69 = .ok (.aload_n 0, 1) := by decide +kernel
theorem dX7_settle_70 : decode cX7_settle 70 = .ok (.getfield 102, 3) := by decide +kernel
theorem dX7_settle_73 : decode cX7_settle 73 = .ok (.if_icmp .ne 10, 3) := by decide +kernel
theorem dX7_settle_76 : decode cX7_settle 76 = .ok (.aload_n 0, 1) := by decide +kernel
theorem dX7_settle_77 : decode cX7_settle 77 = .ok (.getfield 81, 3) := by decide +kernel
theorem dX7_settle_80 : decode cX7_settle 80 = .ok (.goto 4, 3) := by decide +kernel
theorem dX7_settle_83 : decode cX7_settle 83 = .ok (.iconst 0, 1) := by decide +kernel
theorem dX7_settle_84 : decode cX7_settle 84 = .ok (.istore 4, 2) := by decide +kernel
theorem dX7_settle_86 : decode cX7_settle 86 = .ok (.aload_n 0, 1) := by decide +kernel
theorem dX7_settle_87 : decode cX7_settle 87 = .ok (.getfield 105, 3) := by decide +kernel
theorem dX7_settle_90 : decode cX7_settle 90 = .ok (.iload 4, 2) := by decide +kernel
theorem dX7_settle_92 : decode cX7_settle 92 = .ok (.i2l, 1) := by decide +kernel
theorem dX7_settle_93 : decode cX7_settle 93 = .ok (.lcmp, 1) := by decide +kernel
theorem dX7_settle_94 : decode cX7_settle 94 = .ok (.ifCond .ge 5, 3) := by decide +kernel
theorem dX7_settle_97 : decode cX7_settle 97 = .ok (.iload_n 3, 1) := by decide +kernel
theorem dX7_settle_98 : decode cX7_settle 98 = .ok (.ireturn, 1) := by decide +kernel
theorem dX7_settle_99 : decode cX7_settle 99 = .ok (.aload_n 0, 1) := by decide +kernel
theorem dX7_settle_100 : decode cX7_settle 100 = .ok (.dup, 1) := by decide +kernel
theorem dX7_settle_101 : decode cX7_settle 101 = .ok (.getfield 105, 3) := by decide +kernel
theorem dX7_settle_104 : decode cX7_settle 104 = .ok (.iload 4, 2) := by decide +kernel
theorem dX7_settle_106 : decode cX7_settle 106 = .ok (.i2l, 1) := by decide +kernel
theorem dX7_settle_107 : decode cX7_settle 107 = .ok (.lsub, 1) := by decide +kernel
theorem dX7_settle_108 : decode cX7_settle 108 = .ok (.putfield 105, 3) := by decide +kernel
theorem dX7_settle_111 : decode cX7_settle 111 = .ok (.iinc 3 1, 3) := by decide +kernel
theorem dX7_settle_114 : decode cX7_settle 114 = .ok (.goto (-105), 3) := by decide +kernel
theorem dX7_settle_117 : decode cX7_settle 117 = .ok (.iconst (-1), 1) := by decide +kernel
theorem dX7_settle_118 : decode cX7_settle 118 = .ok (.ireturn, 1) := by decide +kernel
theorem dX7_listOpenStates_0 : decode cX7_listOpenStates 0 = .ok (.iconst 0, 1) := by decide +kernel
theorem dX7_listOpenStates_1 : decode cX7_listOpenStates 1 = .ok (.istore_n 2, 1) := by decide +kernel
theorem dX7_listOpenStates_2 : decode cX7_listOpenStates 2 = .ok (.iconst 0, 1) := by decide +kernel
theorem dX7_listOpenStates_3 : decode cX7_listOpenStates 3 = .ok (.istore_n 3, 1) := by decide +kernel
theorem dX7_listOpenStates_4 : decode cX7_listOpenStates 4 = .ok (.iload_n 3, 1) := by decide +kernel
theorem dX7_listOpenStates_5 : decode cX7_listOpenStates 5 = .ok (.aload_n 0, 1) := by decide +kernel
theorem dX7_listOpenStates_6 : decode cX7_listOpenStates 6 = .ok (.getfield 37, 3) := by decide +kernel
theorem dX7_listOpenStates_9 : decode cX7_listOpenStates 9 = .ok (.getfield 112, 3) := by decide +kernel
theorem dX7_listOpenStates_12 : decode cX7_listOpenStates 12 = .ok (.if_icmp .ge 39, 3) := by decide +kernel
theorem dX7_listOpenStates_15 : decode cX7_listOpenStates 15 = .ok (.aload_n 0, 1) := by decide +kernel
theorem dX7_listOpenStates_16 : decode cX7_listOpenStates 16 = .ok (.getfield 9, 3) := by decide +kernel
theorem dX7_listOpenStates_19 : decode cX7_listOpenStates 19 = .ok (.iload_n 1, 1) := by decide +kernel
theorem dX7_listOpenStates_20 : decode cX7_listOpenStates 20 = .ok (.iaload, 1) := by decide +kernel
theorem dX7_listOpenStates_21 : decode cX7_listOpenStates 21 = .ok (.iload_n 3, 1) := by decide +kernel
theorem dX7_listOpenStates_22 : decode cX7_listOpenStates 22 = .ok (.invokestatic 70, 3) := by decide +kernel
theorem dX7_listOpenStates_25 : decode cX7_listOpenStates 25 = .ok (.ifCond .ne 6, 3) := by decide +kernel
theorem dX7_listOpenStates_28 : decode cX7_listOpenStates 28 = .ok (.goto 17, 3) := by decide +kernel
theorem dX7_listOpenStates_31 : decode cX7_listOpenStates 31 = .ok (.aload_n 0, 1) := by decide +kernel
theorem dX7_listOpenStates_32 : decode cX7_listOpenStates 32 = .ok (.getfield 15, 3) := by decide +kernel
theorem dX7_listOpenStates_35 : decode cX7_listOpenStates 35 = .ok (.iload_n 1, 1) := by decide +kernel
theorem dX7_listOpenStates_36 : decode cX7_listOpenStates 36 = .ok (.iconst 4, 1) := by decide +kernel
theorem dX7_listOpenStates_37 : decode cX7_listOpenStates 37 = .ok (.imul, 1) := by decide +kernel
theorem dX7_listOpenStates_38 : decode cX7_listOpenStates 38 = .ok (.iload_n 2, 1) := by decide +kernel
theorem dX7_listOpenStates_39 : decode cX7_listOpenStates 39 = .ok (.iadd, 1) := by decide +kernel
theorem dX7_listOpenStates_40 : decode cX7_listOpenStates 40 = .ok (.iload_n 3, 1) := by decide +kernel
theorem dX7_listOpenStates_41 : decode cX7_listOpenStates 41 = .ok (.iastore, 1) := by decide +kernel
theorem dX7_listOpenStates_42 : decode cX7_listOpenStates 42 = .ok (.iinc 2 1, 3) := by decide +kernel
theorem dX7_listOpenStates_45 : decode cX7_listOpenStates 45 = .ok (.iinc 3 1, 3) := by decide +kernel
theorem dX7_listOpenStates_48 : decode cX7_listOpenStates 48 = .ok (.goto (-44), 3) := by decide +kernel
theorem dX7_listOpenStates_51 : decode cX7_listOpenStates 51 = .ok (.aload_n 0, 1) := by decide +kernel
theorem dX7_listOpenStates_52 : decode cX7_listOpenStates 52 = .ok (.getfield 18, 3) := by decide +kernel
theorem dX7_listOpenStates_55 : decode cX7_listOpenStates 55 = .ok (.iload_n 1, 1) := by decide +kernel
theorem dX7_listOpenStates_56 : decode cX7_listOpenStates 56 = .ok (.iload_n 2, 1) := by decide +kernel
theorem dX7_listOpenStates_57 : decode cX7_listOpenStates 57 = .ok (.iastore, 1) := by decide +kernel
theorem dX7_listOpenStates_58 : decode cX7_listOpenStates 58 = .ok (.return_, 1) := by decide +kernel
theorem dX7_fillTable_0 : decode cX7_fillTable 0 = .ok (.iconst 1, 1) := by decide +kernel
theorem dX7_fillTable_1 : decode cX7_fillTable 1 = .ok (.istore_n 2, 1) := by decide +kernel
theorem dX7_fillTable_2 : decode cX7_fillTable 2 = .ok (.iload_n 1, 1) := by decide +kernel
theorem dX7_fillTable_3 : decode cX7_fillTable 3 = .ok (.iconst 4, 1) := by decide +kernel
theorem dX7_fillTable_4 : decode cX7_fillTable 4 = .ok (.imul, 1) := by decide +kernel
theorem dX7_fillTable_5 : decode cX7_fillTable 5 = .ok (.istore_n 3, 1) := by decide +kernel
theorem dX7_fillTable_6 : decode cX7_fillTable 6 = .ok (.iload_n 3, 1) := by decide +kernel
theorem dX7_fillTable_7 : decode cX7_fillTable 7 = .ok (.iload_n 1, 1) := by decide +kernel
theorem dX7_fillTable_8 : decode cX7_fillTable 8 = .ok (.iconst 4, 1) := by decide +kernel
theorem dX7_fillTable_9 : decode cX7_fillTable 9 = .ok (.imul, 1) := by decide +kernel
theorem dX7_fillTable_10 : decode cX7_fillTable 10 = .ok (.aload_n 0, 1) := by decide +kernel
theorem dX7_fillTable_11 : decode cX7_fillTable 11 = .ok (.getfield 41, 3) := by decide +kernel
theorem dX7_fillTable_14 : decode cX7_fillTable 14 = .ok (.getfield 96, 3) := by decide +kernel
theorem dX7_fillTable_17 : decode cX7_fillTable 17 = .ok (.iload_n 1, 1) := by decide +kernel
theorem dX7_fillTable_18 : decode cX7_fillTable 18 = .ok (.iaload, 1) := by decide +kernel
theorem dX7_fillTable_19 : decode cX7_fillTable 19 = .ok (.iadd, 1) := by decide +kernel
theorem dX7_fillTable_20 : decode cX7_fillTable 20 = .ok (.if_icmp .ge 45, 3) := by decide +kernel
theorem dX7_fillTable_23 : decode cX7_fillTable 23 = .ok (.aload_n 0, 1) := by decide +kernel
theorem dX7_fillTable_24 : decode cX7_fillTable 24 = .ok (.getfield 41, 3) := by decide +kernel
theorem dX7_fillTable_27 : decode cX7_fillTable 27 = .ok (.getfield 113, 3) := by decide +kernel
theorem dX7_fillTable_30 : decode cX7_fillTable 30 = .ok (.iload_n 3, 1) := by decide +kernel
theorem dX7_fillTable_31 : decode cX7_fillTable 31 = .ok (.iaload, 1) := by decide +kernel
theorem dX7_fillTable_32 : decode cX7_fillTable 32 = .ok (.istore 4, 2) := by decide +kernel
theorem dX7_fillTable_34 : decode cX7_fillTable 34 = .ok (.aload_n 0, 1) := by decide +kernel
theorem dX7_fillTable_35 : decode cX7_fillTable 35 = .ok (.getfield 24, 3) := by decide +kernel
theorem dX7_fillTable_38 : decode cX7_fillTable 38 = .ok (.iload_n 3, 1) := by decide +kernel
theorem dX7_fillTable_39 : decode cX7_fillTable 39 = .ok (.iload_n 2, 1) := by decide +kernel
theorem dX7_fillTable_40 : decode cX7_fillTable 40 = .ok (.iastore, 1) := by decide +kernel
theorem dX7_fillTable_41 : decode cX7_fillTable 41 = .ok (.iload_n 2, 1) := by decide +kernel
theorem dX7_fillTable_42 : decode cX7_fillTable 42 = .ok (.aload_n 0, 1) := by decide +kernel
theorem dX7_fillTable_43 : decode cX7_fillTable 43 = .ok (.getfield 18, 3) := by decide +kernel
theorem dX7_fillTable_46 : decode cX7_fillTable 46 = .ok (.iload 4, 2) := by decide +kernel
theorem dX7_fillTable_48 : decode cX7_fillTable 48 = .ok (.iaload, 1) := by decide +kernel
theorem dX7_fillTable_49 : decode cX7_fillTable 49 = .ok (.imul, 1) := by decide +kernel
theorem dX7_fillTable_50 : decode cX7_fillTable 50 = .ok (.istore_n 2, 1) := by decide +kernel
theorem dX7_fillTable_51 : decode cX7_fillTable 51 = .ok (.aload_n 0, 1) := by decide +kernel
theorem dX7_fillTable_52 : decode cX7_fillTable 52 = .ok (.getfield 21, 3) := by decide +kernel
theorem dX7_fillTable_55 : decode cX7_fillTable 55 = .ok (.iload 4, 2) := by decide +kernel
theorem dX7_fillTable_57 : decode cX7_fillTable 57 = .ok (.iconst 0, 1) := by decide +kernel
theorem dX7_fillTable_58 : decode cX7_fillTable 58 = .ok (.iastore, 1) := by decide +kernel
theorem dX7_fillTable_59 : decode cX7_fillTable 59 = .ok (.iinc 3 1, 3) := by decide +kernel
theorem dX7_fillTable_62 : decode cX7_fillTable 62 = .ok (.goto (-56), 3) := by decide +kernel
theorem dX7_fillTable_65 : decode cX7_fillTable 65 = .ok (.iconst 0, 1) := by decide +kernel
theorem dX7_fillTable_66 : decode cX7_fillTable 66 = .ok (.istore_n 3, 1) := by decide +kernel
theorem dX7_fillTable_67 : decode cX7_fillTable 67 = .ok (.iload_n 3, 1) := by decide +kernel
theorem dX7_fillTable_68 : decode cX7_fillTable 68 = .ok (.iload_n 2, 1) := by decide +kernel
theorem dX7_fillTable_69 : decode cX7_fillTable 69 = .ok (.if_icmp .ge 26, 3) := by decide +kernel
theorem dX7_fillTable_72 : decode cX7_fillTable 72 = .ok (.aload_n 0, 1) := by decide +kernel
theorem dX7_fillTable_73 : decode cX7_fillTable 73 = .ok (.iload_n 1, 1) := by decide +kernel
theorem dX7_fillTable_74 : decode cX7_fillTable 74 = .ok (.iload_n 1, 1) := by decide +kernel
theorem dX7_fillTable_75 : decode cX7_fillTable 75 = .ok (.sipush 256, 3) := by decide +kernel
theorem dX7_fillTable_78 : decode cX7_fillTable 78 = .ok (.imul, 1) := by decide +kernel
theorem dX7_fillTable_79 : decode cX7_fillTable 79 = .ok (.iload_n 3, 1) := by decide +kernel
theorem dX7_fillTable_80 : decode cX7_fillTable 80 = .ok (.iadd, 1) := by decide +kernel
theorem dX7_fillTable_81 : decode cX7_fillTable 81 = .ok (.invokevirtual 116, 3) := by decide +kernel
theorem dX7_fillTable_84 : decode cX7_fillTable 84 = .ok (.aload_n 0, 1) := by decide +kernel
theorem dX7_fillTable_85 : decode cX7_fillTable 85 = .ok (.iload_n 1, 1) := by decide +kernel
theorem dX7_fillTable_86 : decode cX7_fillTable 86 = .ok (.invokevirtual 120, 3) := by decide +kernel
theorem dX7_fillTable_89 : decode cX7_fillTable 89 = .ok (.iinc 3 1, 3) := by decide +kernel
theorem dX7_fillTable_92 : decode cX7_fillTable 92 = .ok (.goto (-25), 3) := by decide +kernel
theorem dX7_fillTable_95 : decode cX7_fillTable 95 = .ok (.return_, 1) := by decide +kernel
theorem dX7_pickNext_0 : decode cX7_pickNext 0 = .ok (.iload_n 1, 1) := by decide +kernel
theorem dX7_pickNext_1 : decode cX7_pickNext 1 = .ok (.iconst 4, 1) := by decide +kernel
theorem dX7_pickNext_2 : decode cX7_pickNext 2 = .ok (.imul, 1) := by decide +kernel
theorem dX7_pickNext_3 : decode cX7_pickNext 3 = .ok (.istore_n 2, 1) := by decide +kernel
theorem dX7_pickNext_4 : decode cX7_pickNext 4 = .ok (.iload_n 2, 1) := by decide +kernel
theorem dX7_pickNext_5 : decode cX7_pickNext 5 = .ok (.iload_n 1, 1) := by decide +kernel
theorem dX7_pickNext_6 : decode cX7_pickNext 6 = .ok (.iconst 4, 1) := by decide +kernel
theorem dX7_pickNext_7 : decode cX7_pickNext 7 = .ok (.imul, 1) := by decide +kernel
theorem dX7_pickNext_8 : decode cX7_pickNext 8 = .ok (.aload_n 0, 1) := by decide +kernel
theorem dX7_pickNext_9 : decode cX7_pickNext 9 = .ok (.getfield 41, 3) := by decide +kernel
theorem dX7_pickNext_12 : decode cX7_pickNext 12 = .ok (.getfield 96, 3) := by decide +kernel
theorem dX7_pickNext_15 : decode cX7_pickNext 15 = .ok (.iload_n 1, 1) := by decide +kernel
theorem dX7_pickNext_16 : decode cX7_pickNext 16 = .ok (.iaload, 1) := by decide +kernel
theorem dX7_pickNext_17 : decode cX7_pickNext 17 = .ok (.iadd, 1) := by decide +kernel
theorem dX7_pickNext_18 : decode cX7_pickNext 18 = .ok (.if_icmp .ge 52, 3) := by decide +kernel
theorem dX7_pickNext_21 : decode cX7_pickNext 21 = .ok (.aload_n 0, 1) := by decide +kernel
theorem dX7_pickNext_22 : decode cX7_pickNext 22 = .ok (.getfield 41, 3) := by decide +kernel
theorem dX7_pickNext_25 : decode cX7_pickNext 25 = .ok (.getfield 113, 3) := by decide +kernel
theorem dX7_pickNext_28 : decode cX7_pickNext 28 = .ok (.iload_n 2, 1) := by decide +kernel
theorem dX7_pickNext_29 : decode cX7_pickNext 29 = .ok (.iaload, 1) := by decide +kernel
theorem dX7_pickNext_30 : decode cX7_pickNext 30 = .ok (.istore_n 3, 1) := by decide +kernel
theorem dX7_pickNext_31 : decode cX7_pickNext 31 = .ok (.aload_n 0, 1) := by decide +kernel
theorem dX7_pickNext_32 : decode cX7_pickNext 32 = .ok (.getfield 21, 3) := by decide +kernel
theorem dX7_pickNext_35 : decode cX7_pickNext 35 = .ok (.iload_n 3, 1) := by decide +kernel
theorem dX7_pickNext_36 : decode cX7_pickNext 36 = .ok (.dup2, 1) := by decide +kernel
theorem dX7_pickNext_37 : decode cX7_pickNext 37 = .ok (.iaload, 1) := by decide +kernel
theorem dX7_pickNext_38 : decode cX7_pickNext 38 = .ok (.iconst 1, 1) := by decide +kernel
theorem dX7_pickNext_39 : decode cX7_pickNext 39 = .ok (.iadd, 1) := by decide +kernel
theorem dX7_pickNext_40 : decode cX7_pickNext 40 = .ok (.iastore, 1) := by decide +kernel
theorem dX7_pickNext_41 : decode cX7_pickNext 41 = .ok (.aload_n 0, 1) := by decide +kernel
theorem dX7_pickNext_42 : decode cX7_pickNext 42 = .ok (.getfield 21, 3) := by decide +kernel
theorem dX7_pickNext_45 : decode cX7_pickNext 45 = .ok (.iload_n 3, 1) := by decide +kernel
theorem dX7_pickNext_46 : decode cX7_pickNext 46 = .ok (.iaload, 1) := by decide +kernel
theorem dX7_pickNext_47 : decode cX7_pickNext 47 = .ok (.aload_n 0, 1) := by decide +kernel
theorem dX7_pickNext_48 : decode cX7_pickNext 48 = .ok (.getfield 18, 3) := by decide +kernel
theorem dX7_pickNext_51 : decode cX7_pickNext 51 = .ok (.iload_n 3, 1) := by decide +kernel
theorem dX7_pickNext_52 : decode cX7_pickNext 52 = .ok (.iaload, 1) := by decide +kernel
theorem dX7_pickNext_53 : decode cX7_pickNext 53 = .ok (.if_icmp .ge 4, 3) := by decide +kernel
theorem dX7_pickNext_56 : decode cX7_pickNext 56 = .ok (.return_, 1) := by decide +kernel
theorem dX7_pickNext_57 : decode cX7_pickNext 57 = .ok (.aload_n 0, 1) := by decide +kernel
theorem dX7_pickNext_58 : decode cX7_pickNext 58 = .ok (.getfield 21, 3) := by decide +kernel
theorem dX7_pickNext_61 : decode cX7_pickNext 61 = .ok (.iload_n 3, 1) := by decide +kernel
theorem dX7_pickNext_62 : decode cX7_pickNext 62 = .ok (.iconst 0, 1) := by decide +kernel
theorem dX7_pickNext_63 : decode cX7_pickNext 63 = .ok (.iastore, 1) := by decide +kernel
theorem dX7_pickNext_64 : decode cX7_pickNext 64 = .ok (.iinc 2 1, 3) := by decide +kernel
theorem dX7_pickNext_67 : decode cX7_pickNext 67 = .ok (.goto (-63), 3) := by decide +kernel
theorem dX7_pickNext_70 : decode cX7_pickNext 70 = .ok (.return_, 1) := by decide +kernel
theorem dX7_fillEntry_0 : decode cX7_fillEntry 0 = .ok (.aload_n 0, 1) := by decide +kernel
theorem dX7_fillEntry_1 : decode cX7_fillEntry 1 = .ok (.getfield 41, 3) := by decide +kernel
theorem dX7_fillEntry_4 : decode cX7_fillEntry 4 = .ok (.getfield 123, 3) := by decide +kernel
theorem dX7_fillEntry_7 : decode cX7_fillEntry 7 = .ok (.iload_n 1, 1) := by decide +kernel
theorem dX7_fillEntry_8 : decode cX7_fillEntry 8 = .ok (.iaload, 1) := by decide +kernel
theorem dX7_fillEntry_9 : decode cX7_fillEntry 9 = .ok (.istore_n 3, 1) := by decide +kernel
theorem dX7_fillEntry_10 : decode cX7_fillEntry 10 = .ok (.iconst 0, 1) := by decide +kernel
theorem dX7_fillEntry_11 : decode cX7_fillEntry 11 = .ok (.istore 4, 2) := by decide +kernel
theorem dX7_fillEntry_13 : decode cX7_fillEntry 13 = .ok (.iconst 0, 1) := by decide +kernel
theorem dX7_fillEntry_14 : decode cX7_fillEntry 14 = .ok (.istore 5, 2) := by decide +kernel
theorem dX7_fillEntry_16 : decode cX7_fillEntry 16 = .ok (.iconst 0, 1) := by decide +kernel
theorem dX7_fillEntry_17 : decode cX7_fillEntry 17 = .ok (.istore 6, 2) := by decide +kernel
theorem dX7_fillEntry_19 : decode cX7_fillEntry 19 = .ok (.iload 6, 2) := by decide +kernel
theorem dX7_fillEntry_21 : decode cX7_fillEntry 21 = .ok (.aload_n 0, 1) := by decide +kernel
theorem dX7_fillEntry_22 : decode cX7_fillEntry 22 = .ok (.getfield 18, 3) := by decide +kernel
theorem dX7_fillEntry_25 : decode cX7_fillEntry 25 = .ok (.iload_n 3, 1) := by decide +kernel
theorem dX7_fillEntry_26 : decode cX7_fillEntry 26 = .ok (.iaload, 1) := by decide +kernel
theorem dX7_fillEntry_27 : decode cX7_fillEntry 27 = .ok (.if_icmp .ge 88, 3) := by decide +kernel
theorem dX7_fillEntry_30 : decode cX7_fillEntry 30 = .ok (.aload_n 0, 1) := by decide +kernel
theorem dX7_fillEntry_31 : decode cX7_fillEntry 31 = .ok (.getfield 21, 3) := by decide +kernel
theorem dX7_fillEntry_34 : decode cX7_fillEntry 34 = .ok (.iload_n 3, 1) := by decide +kernel
theorem dX7_fillEntry_35 : decode cX7_fillEntry 35 = .ok (.iload 6, 2) := by decide +kernel
theorem dX7_fillEntry_37 : decode cX7_fillEntry 37 = .ok (.iastore, 1) := by decide +kernel
theorem dX7_fillEntry_38 : decode cX7_fillEntry 38 = .ok (.aload_n 0, 1) := by decide +kernel
theorem dX7_fillEntry_39 : decode cX7_fillEntry 39 = .ok (.iload_n 1, 1) := by decide +kernel
theorem dX7_fillEntry_40 : decode cX7_fillEntry 40 = .ok (.iload_n 3, 1) := by decide +kernel
theorem dX7_fillEntry_41 : decode cX7_fillEntry 41 = .ok (.invokevirtual 126, 3) := by decide +kernel
theorem dX7_fillEntry_44 : decode cX7_fillEntry 44 = .ok (.ifCond .eq 11, 3) := by decide +kernel
theorem dX7_fillEntry_47 : decode cX7_fillEntry 47 = .ok (.aload_n 0, 1) := by decide +kernel
theorem dX7_fillEntry_48 : decode cX7_fillEntry 48 = .ok (.iload_n 1, 1) := by decide +kernel
theorem dX7_fillEntry_49 : decode cX7_fillEntry 49 = .ok (.invokevirtual 129, 3) := by decide +kernel
theorem dX7_fillEntry_52 : decode cX7_fillEntry 52 = .ok (.goto 4, 3) := by decide +kernel
theorem dX7_fillEntry_55 : decode cX7_fillEntry 55 = .ok (.iconst 0, 1) := by decide +kernel
theorem dX7_fillEntry_56 : decode cX7_fillEntry 56 = .ok (.istore 7, 2) := by decide +kernel
theorem dX7_fillEntry_58 : decode cX7_fillEntry 58 = .ok (.iload 7, 2) := by decide +kernel
theorem dX7_fillEntry_60 : decode cX7_fillEntry 60 = .ok (.ifCond .ne 6, 3) := by decide +kernel
theorem dX7_fillEntry_63 : decode cX7_fillEntry 63 = .ok (.goto 46, 3) := by decide +kernel
theorem dX7_fillEntry_66 : decode cX7_fillEntry 66 = .ok (.iload 5, 2) := by decide +kernel
theorem dX7_fillEntry_68 : decode cX7_fillEntry 68 = .ok (.ifCond .eq 12, 3) := by decide +kernel
theorem dX7_fillEntry_71 : decode cX7_fillEntry 71 = .ok (.aload_n 0, 1) := by decide +kernel
theorem dX7_fillEntry_72 : decode cX7_fillEntry 72 = .ok (.getfield 132, 3) := by decide +kernel
theorem dX7_fillEntry_75 : decode cX7_fillEntry 75 = .ok (.iload 4, 2) := by decide +kernel
theorem dX7_fillEntry_77 : decode cX7_fillEntry 77 = .ok (.if_icmp .le 16, 3) := by decide +kernel
theorem dX7_fillEntry_80 : decode cX7_fillEntry 80 = .ok (.aload_n 0, 1) := by decide +kernel
theorem dX7_fillEntry_81 : decode cX7_fillEntry 81 = .ok (.getfield 132, 3) := by decide +kernel
theorem dX7_fillEntry_84 : decode cX7_fillEntry 84 = .ok (.istore 4, 2) := by decide +kernel
theorem dX7_fillEntry_86 : decode cX7_fillEntry 86 = .ok (.iload 7, 2) := by decide +kernel
theorem dX7_fillEntry_88 : decode cX7_fillEntry 88 = .ok (.istore 5, 2) := by decide +kernel
theorem dX7_fillEntry_90 : decode cX7_fillEntry 90 = .ok (.goto 19, 3) := by decide +kernel
theorem dX7_fillEntry_93 : decode cX7_fillEntry 93 = .ok (.aload_n 0, 1) := by decide +kernel
theorem dX7_fillEntry_94 : decode cX7_fillEntry 94 = .ok (.getfield 132, 3) := by decide +kernel
theorem dX7_fillEntry_97 : decode cX7_fillEntry 97 = .ok (.iload 4, 2) := by decide +kernel
theorem dX7_fillEntry_99 : decode cX7_fillEntry 99 = .ok (.if_icmp .ne 10, 3) := by decide +kernel
theorem dX7_fillEntry_102 : decode cX7_fillEntry 102 = .ok (.iload 5, 2) := by decide +kernel
theorem dX7_fillEntry_104 : decode cX7_fillEntry 104 = .ok (.iload 7, 2) := by decide +kernel
theorem dX7_fillEntry_106 : decode cX7_fillEntry 106 = .ok (.iadd, 1) := by decide +kernel
theorem dX7_fillEntry_107 : decode cX7_fillEntry 107 = .ok (.istore 5, 2) := by decide +kernel
theorem dX7_fillEntry_109 : decode cX7_fillEntry 109 = .ok (.iinc 6 1, 3) := by decide +kernel
theorem dX7_fillEntry_112 : decode cX7_fillEntry 112 = .ok (.goto (-93), 3) := by decide +kernel
theorem dX7_fillEntry_115 : decode cX7_fillEntry 115 = .ok (.aload_n 0, 1) := by decide +kernel
theorem dX7_fillEntry_116 : decode cX7_fillEntry 116 = .ok (.getfield 27, 3) := by decide +kernel
theorem dX7_fillEntry_119 : decode cX7_fillEntry 119 = .ok (.iload_n 2, 1) := by decide +kernel
theorem dX7_fillEntry_120 : decode cX7_fillEntry 120 = .ok (.iload 4, 2) := by decide +kernel
theorem dX7_fillEntry_122 : decode cX7_fillEntry 122 = .ok (.iastore, 1) := by decide +kernel
theorem dX7_fillEntry_123 : decode cX7_fillEntry 123 = .ok (.aload_n 0, 1) := by decide +kernel
theorem dX7_fillEntry_124 : decode cX7_fillEntry 124 = .ok (.getfield 30, 3) := by decide +kernel
theorem dX7_fillEntry_127 : decode cX7_fillEntry 127 = .ok (.iload_n 2, 1) := by decide +kernel
theorem dX7_fillEntry_128 : decode cX7_fillEntry 128 = .ok (.iload 5, 2) := by decide +kernel
theorem dX7_fillEntry_130 : decode cX7_fillEntry 130 = .ok (.iastore, 1) := by decide +kernel
theorem dX7_fillEntry_131 : decode cX7_fillEntry 131 = .ok (.return_, 1) := by decide +kernel
theorem dX7_addEdges_0 : decode cX7_addEdges 0 = .ok (.aload_n 0, 1) := by decide +kernel
theorem dX7_addEdges_1 : decode cX7_addEdges 1 = .ok (.iload_n 2, 1) := by decide +kernel
theorem dX7_addEdges_2 : decode cX7_addEdges 2 = .ok (.invokevirtual 135, 3) := by decide +kernel
theorem dX7_addEdges_5 : decode cX7_addEdges 5 = .ok (.istore_n 3, 1) := by decide +kernel
theorem dX7_addEdges_6 : decode cX7_addEdges 6 = .ok (.aload_n 0, 1) := by decide +kernel
theorem dX7_addEdges_7 : decode cX7_addEdges 7 = .ok (.getfield 33, 3) := by decide +kernel
theorem dX7_addEdges_10 : decode cX7_addEdges 10 = .ok (.getfield 138, 3) := by decide +kernel
theorem dX7_addEdges_13 : decode cX7_addEdges 13 = .ok (.iload_n 2, 1) := by decide +kernel
theorem dX7_addEdges_14 : decode cX7_addEdges 14 = .ok (.iaload, 1) := by decide +kernel
theorem dX7_addEdges_15 : decode cX7_addEdges 15 = .ok (.istore 4, 2) := by decide +kernel
theorem dX7_addEdges_17 : decode cX7_addEdges 17 = .ok (.aload_n 0, 1) := by decide +kernel
theorem dX7_addEdges_18 : decode cX7_addEdges 18 = .ok (.getfield 33, 3) := by decide +kernel
theorem dX7_addEdges_21 : decode cX7_addEdges 21 = .ok (.getfield 141, 3) := by decide +kernel
theorem dX7_addEdges_24 : decode cX7_addEdges 24 = .ok (.iload_n 2, 1) := by decide +kernel
theorem dX7_addEdges_25 : decode cX7_addEdges 25 = .ok (.iaload, 1) := by decide +kernel
theorem dX7_addEdges_26 : decode cX7_addEdges 26 = .ok (.aload_n 0, 1) := by decide +kernel
theorem dX7_addEdges_27 : decode cX7_addEdges 27 = .ok (.getfield 37, 3) := by decide +kernel
theorem dX7_addEdges_30 : decode cX7_addEdges 30 = .ok (.getfield 144, 3) := by decide +kernel
theorem dX7_addEdges_33 : decode cX7_addEdges 33 = .ok (.iload_n 3, 1) := by decide +kernel
theorem dX7_addEdges_34 : decode cX7_addEdges 34 = .ok (.iaload, 1) := by decide +kernel
theorem dX7_addEdges_35 : decode cX7_addEdges 35 = .ok (.imul, 1) := by decide +kernel
theorem dX7_addEdges_36 : decode cX7_addEdges 36 = .ok (.istore 5, 2) := by decide +kernel
theorem dX7_addEdges_38 : decode cX7_addEdges 38 = .ok (.iload_n 1, 1) := by decide +kernel
theorem dX7_addEdges_39 : decode cX7_addEdges 39 = .ok (.iconst 4, 1) := by decide +kernel
theorem dX7_addEdges_40 : decode cX7_addEdges 40 = .ok (.imul, 1) := by decide +kernel
theorem dX7_addEdges_41 : decode cX7_addEdges 41 = .ok (.istore 6, 2) := by decide +kernel
theorem dX7_addEdges_43 : decode cX7_addEdges 43 = .ok (.iload 6, 2) := by decide +kernel
theorem dX7_addEdges_45 : decode cX7_addEdges 45 = .ok (.iload_n 1, 1) := by decide +kernel
theorem dX7_addEdges_46 : decode cX7_addEdges 46 = .ok (.iconst 4, 1) := by decide +kernel
theorem dX7_addEdges_47 : decode cX7_addEdges 47 = .ok (.imul, 1) := by decide +kernel
theorem dX7_addEdges_48 : decode cX7_addEdges 48 = .ok (.aload_n 0, 1) := by decide +kernel
theorem dX7_addEdges_49 : decode cX7_addEdges 49 = .ok (.getfield 41, 3) := by decide +kernel
theorem dX7_addEdges_52 : decode cX7_addEdges 52 = .ok (.getfield 96, 3) := by decide +kernel
theorem dX7_addEdges_55 : decode cX7_addEdges 55 = .ok (.iload_n 1, 1) := by decide +kernel
theorem dX7_addEdges_56 : decode cX7_addEdges 56 = .ok (.iaload, 1) := by decide +kernel
theorem dX7_addEdges_57 : decode cX7_addEdges 57 = .ok (.iadd, 1) := by decide +kernel
theorem dX7_addEdges_58 : decode cX7_addEdges 58 = .ok (.if_icmp .ge 92, 3) := by decide +kernel
theorem dX7_addEdges_61 : decode cX7_addEdges 61 = .ok (.aload_n 0, 1) := by decide +kernel
theorem dX7_addEdges_62 : decode cX7_addEdges 62 = .ok (.getfield 41, 3) := by decide +kernel
theorem dX7_addEdges_65 : decode cX7_addEdges 65 = .ok (.getfield 113, 3) := by decide +kernel
theorem dX7_addEdges_68 : decode cX7_addEdges 68 = .ok (.iload 6, 2) := by decide +kernel
theorem dX7_addEdges_70 : decode cX7_addEdges 70 = .ok (.iaload, 1) := by decide +kernel
theorem dX7_addEdges_71 : decode cX7_addEdges 71 = .ok (.istore 7, 2) := by decide +kernel
theorem dX7_addEdges_73 : decode cX7_addEdges 73 = .ok (.iload 4, 2) := by decide +kernel
theorem dX7_addEdges_75 : decode cX7_addEdges 75 = .ok (.iload 7, 2) := by decide +kernel
theorem dX7_addEdges_77 : decode cX7_addEdges 77 = .ok (.invokestatic 70, 3) := by decide +kernel
theorem dX7_addEdges_80 : decode cX7_addEdges 80 = .ok (.ifCond .ne 6, 3) := by decide +kernel
theorem dX7_addEdges_83 : decode cX7_addEdges 83 = .ok (.goto 61, 3) := by decide +kernel
theorem dX7_addEdges_86 : decode cX7_addEdges 86 = .ok (.iload_n 3, 1) := by decide +kernel
theorem dX7_addEdges_87 : decode cX7_addEdges 87 = .ok (.iconst 4, 1) := by decide +kernel
theorem dX7_addEdges_88 : decode cX7_addEdges 88 = .ok (.imul, 1) := by decide +kernel
theorem dX7_addEdges_89 : decode cX7_addEdges 89 = .ok (.aload_n 0, 1) := by decide +kernel
theorem dX7_addEdges_90 : decode cX7_addEdges 90 = .ok (.iload 7, 2) := by decide +kernel
theorem dX7_addEdges_92 : decode cX7_addEdges 92 = .ok (.invokevirtual 135, 3) := by decide +kernel
theorem dX7_addEdges_95 : decode cX7_addEdges 95 = .ok (.iadd, 1) := by decide +kernel
theorem dX7_addEdges_96 : decode cX7_addEdges 96 = .ok (.istore 8, 2) := by decide +kernel
theorem dX7_addEdges_98 : decode cX7_addEdges 98 = .ok (.aload_n 0, 1) := by decide +kernel
theorem dX7_addEdges_99 : decode cX7_addEdges 99 = .ok (.getfield 37, 3) := by decide +kernel
theorem dX7_addEdges_102 : decode cX7_addEdges 102 = .ok (.getfield 147, 3) := by decide +kernel
theorem dX7_addEdges_105 : decode cX7_addEdges 105 = .ok (.iload 8, 2) := by decide +kernel
theorem dX7_addEdges_107 : decode cX7_addEdges 107 = .ok (.baload, 1) := by decide +kernel
theorem dX7_addEdges_108 : decode cX7_addEdges 108 = .ok (.ifCond .eq 5, 3) := by decide +kernel
theorem dX7_addEdges_111 : decode cX7_addEdges 111 = .ok (.iconst 0, 1) := by decide +kernel
theorem dX7_addEdges_112 : decode cX7_addEdges 112 = .ok (.ireturn, 1) := by decide +kernel
theorem dX7_addEdges_113 : decode cX7_addEdges 113 = .ok (.iload 5, 2) := by decide +kernel
theorem dX7_addEdges_115 : decode cX7_addEdges 115 = .ok (.aload_n 0, 1) := by decide +kernel
theorem dX7_addEdges_116 : decode cX7_addEdges 116 = .ok (.getfield 33, 3) := by decide +kernel
theorem dX7_addEdges_119 : decode cX7_addEdges 119 = .ok (.getfield 151, 3) := by decide +kernel
theorem dX7_addEdges_122 : decode cX7_addEdges 122 = .ok (.iload_n 2, 1) := by decide +kernel
theorem dX7_addEdges_123 : decode cX7_addEdges 123 = .ok (.bipush 14, 2) := by decide +kernel
theorem dX7_addEdges_125 : decode cX7_addEdges 125 = .ok (.imul, 1) := by decide +kernel
theorem dX7_addEdges_126 : decode cX7_addEdges 126 = .ok (.iload 7, 2) := by decide +kernel
theorem dX7_addEdges_128 : decode cX7_addEdges 128 = .ok (.iadd, 1) := by decide +kernel
theorem dX7_addEdges_129 : decode cX7_addEdges 129 = .ok (.iaload, 1) := by decide +kernel
theorem dX7_addEdges_130 : decode cX7_addEdges 130 = .ok (.aload_n 0, 1) := by decide +kernel
theorem dX7_addEdges_131 : decode cX7_addEdges 131 = .ok (.getfield 37, 3) := by decide +kernel
theorem dX7_addEdges_134 : decode cX7_addEdges 134 = .ok (.getfield 154, 3) := by decide +kernel
theorem dX7_addEdges_137 : decode cX7_addEdges 137 = .ok (.iload 8, 2) := by decide +kernel
theorem dX7_addEdges_139 : decode cX7_addEdges 139 = .ok (.iaload, 1) := by decide +kernel
theorem dX7_addEdges_140 : decode cX7_addEdges 140 = .ok (.imul, 1) := by decide +kernel
theorem dX7_addEdges_141 : decode cX7_addEdges 141 = .ok (.iadd, 1) := by decide +kernel
theorem dX7_addEdges_142 : decode cX7_addEdges 142 = .ok (.istore 5, 2) := by decide +kernel
theorem dX7_addEdges_144 : decode cX7_addEdges 144 = .ok (.iinc 6 1, 3) := by decide +kernel
theorem dX7_addEdges_147 : decode cX7_addEdges 147 = .ok (.goto (-104), 3) := by decide +kernel
theorem dX7_addEdges_150 : decode cX7_addEdges 150 = .ok (.aload_n 0, 1) := by decide +kernel
theorem dX7_addEdges_151 : decode cX7_addEdges 151 = .ok (.aload_n 0, 1) := by decide +kernel
theorem dX7_addEdges_152 : decode cX7_addEdges 152 = .ok (.getfield 57, 3) := by decide +kernel
theorem dX7_addEdges_155 : decode cX7_addEdges 155 = .ok (.iload 5, 2) := by decide +kernel
theorem dX7_addEdges_157 : decode cX7_addEdges 157 = .ok (.imul, 1) := by decide +kernel
theorem dX7_addEdges_158 : decode cX7_addEdges 158 = .ok (.putfield 132, 3) := by decide +kernel
theorem dX7_addEdges_161 : decode cX7_addEdges 161 = .ok (.iconst 1, 1) := by decide +kernel
theorem dX7_addEdges_162 : decode cX7_addEdges 162 = .ok (.ireturn, 1) := by decide +kernel
theorem dX7_pickedState_0 : decode cX7_pickedState 0 = .ok (.aload_n 0, 1) := by decide +kernel
theorem dX7_pickedState_1 : decode cX7_pickedState 1 = .ok (.getfield 15, 3) := by decide +kernel
theorem dX7_pickedState_4 : decode cX7_pickedState 4 = .ok (.iload_n 1, 1) := by decide +kernel
theorem dX7_pickedState_5 : decode cX7_pickedState 5 = .ok (.iconst 4, 1) := by decide +kernel
theorem dX7_pickedState_6 : decode cX7_pickedState 6 = .ok (.imul, 1) := by decide +kernel
theorem dX7_pickedState_7 : decode cX7_pickedState 7 = .ok (.aload_n 0, 1) := by decide +kernel
theorem dX7_pickedState_8 : decode cX7_pickedState 8 = .ok (.getfield 21, 3) := by decide +kernel
theorem dX7_pickedState_11 : decode cX7_pickedState 11 = .ok (.iload_n 1, 1) := by decide +kernel
theorem dX7_pickedState_12 : decode cX7_pickedState 12 = .ok (.iaload, 1) := by decide +kernel
theorem dX7_pickedState_13 : decode cX7_pickedState 13 = .ok (.iadd, 1) := by decide +kernel
theorem dX7_pickedState_14 : decode cX7_pickedState 14 = .ok (.iaload, 1) := by decide +kernel
theorem dX7_pickedState_15 : decode cX7_pickedState 15 = .ok (.ireturn, 1) := by decide +kernel
theorem dX7_addTables_0 : decode cX7_addTables 0 = .ok (.iconst 1, 1) := by decide +kernel
theorem dX7_addTables_1 : decode cX7_addTables 1 = .ok (.istore_n 2, 1) := by decide +kernel
theorem dX7_addTables_2 : decode cX7_addTables 2 = .ok (.iconst 0, 1) := by decide +kernel
theorem dX7_addTables_3 : decode cX7_addTables 3 = .ok (.istore_n 3, 1) := by decide +kernel
theorem dX7_addTables_4 : decode cX7_addTables 4 = .ok (.iload_n 3, 1) := by decide +kernel
theorem dX7_addTables_5 : decode cX7_addTables 5 = .ok (.aload_n 0, 1) := by decide +kernel
theorem dX7_addTables_6 : decode cX7_addTables 6 = .ok (.getfield 41, 3) := by decide +kernel
theorem dX7_addTables_9 : decode cX7_addTables 9 = .ok (.getfield 157, 3) := by decide +kernel
theorem dX7_addTables_12 : decode cX7_addTables 12 = .ok (.iload_n 1, 1) := by decide +kernel
theorem dX7_addTables_13 : decode cX7_addTables 13 = .ok (.iaload, 1) := by decide +kernel
theorem dX7_addTables_14 : decode cX7_addTables 14 = .ok (.if_icmp .ge 67, 3) := by decide +kernel
theorem dX7_addTables_17 : decode cX7_addTables 17 = .ok (.aload_n 0, 1) := by decide +kernel
theorem dX7_addTables_18 : decode cX7_addTables 18 = .ok (.aload_n 0, 1) := by decide +kernel
theorem dX7_addTables_19 : decode cX7_addTables 19 = .ok (.getfield 41, 3) := by decide +kernel
theorem dX7_addTables_22 : decode cX7_addTables 22 = .ok (.getfield 160, 3) := by decide +kernel
theorem dX7_addTables_25 : decode cX7_addTables 25 = .ok (.iload_n 1, 1) := by decide +kernel
theorem dX7_addTables_26 : decode cX7_addTables 26 = .ok (.bipush 14, 2) := by decide +kernel
theorem dX7_addTables_28 : decode cX7_addTables 28 = .ok (.imul, 1) := by decide +kernel
theorem dX7_addTables_29 : decode cX7_addTables 29 = .ok (.iload_n 3, 1) := by decide +kernel
theorem dX7_addTables_30 : decode cX7_addTables 30 = .ok (.iadd, 1) := by decide +kernel
theorem dX7_addTables_31 : decode cX7_addTables 31 = .ok (.iaload, 1) := by decide +kernel
theorem dX7_addTables_32 : decode cX7_addTables 32 = .ok (.invokevirtual 163, 3) := by decide +kernel
theorem dX7_addTables_35 : decode cX7_addTables 35 = .ok (.istore 4, 2) := by decide +kernel
theorem dX7_addTables_37 : decode cX7_addTables 37 = .ok (.aload_n 0, 1) := by decide +kernel
theorem dX7_addTables_38 : decode cX7_addTables 38 = .ok (.getfield 30, 3) := by decide +kernel
theorem dX7_addTables_41 : decode cX7_addTables 41 = .ok (.iload 4, 2) := by decide +kernel
theorem dX7_addTables_43 : decode cX7_addTables 43 = .ok (.iaload, 1) := by decide +kernel
theorem dX7_addTables_44 : decode cX7_addTables 44 = .ok (.ifCond .ne 5, 3) := by decide +kernel
theorem dX7_addTables_47 : decode cX7_addTables 47 = .ok (.iconst 0, 1) := by decide +kernel
theorem dX7_addTables_48 : decode cX7_addTables 48 = .ok (.ireturn, 1) := by decide +kernel
theorem dX7_addTables_49 : decode cX7_addTables 49 = .ok (.iload_n 2, 1) := by decide +kernel
theorem dX7_addTables_50 : decode cX7_addTables 50 = .ok (.aload_n 0, 1) := by decide +kernel
theorem dX7_addTables_51 : decode cX7_addTables 51 = .ok (.getfield 30, 3) := by decide +kernel
theorem dX7_addTables_54 : decode cX7_addTables 54 = .ok (.iload 4, 2) := by decide +kernel
theorem dX7_addTables_56 : decode cX7_addTables 56 = .ok (.iaload, 1) := by decide +kernel
theorem dX7_addTables_57 : decode cX7_addTables 57 = .ok (.imul, 1) := by decide +kernel
theorem dX7_addTables_58 : decode cX7_addTables 58 = .ok (.istore_n 2, 1) := by decide +kernel
theorem dX7_addTables_59 : decode cX7_addTables 59 = .ok (.aload_n 0, 1) := by decide +kernel
theorem dX7_addTables_60 : decode cX7_addTables 60 = .ok (.dup, 1) := by decide +kernel
theorem dX7_addTables_61 : decode cX7_addTables 61 = .ok (.getfield 132, 3) := by decide +kernel
theorem dX7_addTables_64 : decode cX7_addTables 64 = .ok (.aload_n 0, 1) := by decide +kernel
theorem dX7_addTables_65 : decode cX7_addTables 65 = .ok (.getfield 27, 3) := by decide +kernel
theorem dX7_addTables_68 : decode cX7_addTables 68 = .ok (.iload 4, 2) := by decide +kernel
theorem dX7_addTables_70 : decode cX7_addTables 70 = .ok (.iaload, 1) := by decide +kernel
theorem dX7_addTables_71 : decode cX7_addTables 71 = .ok (.iadd, 1) := by decide +kernel
theorem dX7_addTables_72 : decode cX7_addTables 72 = .ok (.putfield 132, 3) := by decide +kernel
theorem dX7_addTables_75 : decode cX7_addTables 75 = .ok (.iinc 3 1, 3) := by decide +kernel
theorem dX7_addTables_78 : decode cX7_addTables 78 = .ok (.goto (-74), 3) := by decide +kernel
theorem dX7_addTables_81 : decode cX7_addTables 81 = .ok (.iload_n 2, 1) := by decide +kernel
theorem dX7_addTables_82 : decode cX7_addTables 82 = .ok (.ireturn, 1) := by decide +kernel
theorem dX7_entryOf_0 : decode cX7_entryOf 0 = .ok (.iload_n 1, 1) := by decide +kernel
theorem dX7_entryOf_1 : decode cX7_entryOf 1 = .ok (.sipush 256, 3) := by decide +kernel
theorem dX7_entryOf_4 : decode cX7_entryOf 4 = .ok (.imul, 1) := by decide +kernel
theorem dX7_entryOf_5 : decode cX7_entryOf 5 = .ok (.istore_n 2, 1) := by decide +kernel
theorem dX7_entryOf_6 : decode cX7_entryOf 6 = .ok (.iload_n 1, 1) := by decide +kernel
theorem dX7_entryOf_7 : decode cX7_entryOf 7 = .ok (.iconst 4, 1) := by decide +kernel
theorem dX7_entryOf_8 : decode cX7_entryOf 8 = .ok (.imul, 1) := by decide +kernel
theorem dX7_entryOf_9 : decode cX7_entryOf 9 = .ok (.istore_n 3, 1) := by decide +kernel
theorem dX7_entryOf_10 : decode cX7_entryOf 10 = .ok (.iload_n 3, 1) := by decide +kernel
theorem dX7_entryOf_11 : decode cX7_entryOf 11 = .ok (.iload_n 1, 1) := by decide +kernel
theorem dX7_entryOf_12 : decode cX7_entryOf 12 = .ok (.iconst 4, 1) := by decide +kernel
theorem dX7_entryOf_13 : decode cX7_entryOf 13 = .ok (.imul, 1) := by decide +kernel
theorem dX7_entryOf_14 : decode cX7_entryOf 14 = .ok (.aload_n 0, 1) := by decide +kernel
theorem dX7_entryOf_15 : decode cX7_entryOf 15 = .ok (.getfield 41, 3) := by decide +kernel
theorem dX7_entryOf_18 : decode cX7_entryOf 18 = .ok (.getfield 96, 3) := by decide +kernel
theorem dX7_entryOf_21 : decode cX7_entryOf 21 = .ok (.iload_n 1, 1) := by decide +kernel
theorem dX7_entryOf_22 : decode cX7_entryOf 22 = .ok (.iaload, 1) := by decide +kernel
theorem dX7_entryOf_23 : decode cX7_entryOf 23 = .ok (.iadd, 1) := by decide +kernel
theorem dX7_entryOf_24 : decode cX7_entryOf 24 = .ok (.if_icmp .ge 33, 3) := by decide +kernel
theorem dX7_entryOf_27 : decode cX7_entryOf 27 = .ok (.iload_n 2, 1) := by decide +kernel
theorem dX7_entryOf_28 : decode cX7_entryOf 28 = .ok (.aload_n 0, 1) := by decide +kernel
theorem dX7_entryOf_29 : decode cX7_entryOf 29 = .ok (.getfield 21, 3) := by decide +kernel
theorem dX7_entryOf_32 : decode cX7_entryOf 32 = .ok (.aload_n 0, 1) := by decide +kernel
theorem dX7_entryOf_33 : decode cX7_entryOf 33 = .ok (.getfield 41, 3) := by decide +kernel
theorem dX7_entryOf_36 : decode cX7_entryOf 36 = .ok (.getfield 113, 3) := by decide +kernel
theorem dX7_entryOf_39 : decode cX7_entryOf 39 = .ok (.iload_n 3, 1) := by decide +kernel
theorem dX7_entryOf_40 : decode cX7_entryOf 40 = .ok (.iaload, 1) := by decide +kernel
theorem dX7_entryOf_41 : decode cX7_entryOf 41 = .ok (.iaload, 1) := by decide +kernel
theorem dX7_entryOf_42 : decode cX7_entryOf 42 = .ok (.aload_n 0, 1) := by decide +kernel
theorem dX7_entryOf_43 : decode cX7_entryOf 43 = .ok (.getfield 24, 3) := by decide +kernel
theorem dX7_entryOf_46 : decode cX7_entryOf 46 = .ok (.iload_n 3, 1) := by decide +kernel
theorem dX7_entryOf_47 : decode cX7_entryOf 47 = .ok (.iaload, 1) := by decide +kernel
theorem dX7_entryOf_48 : decode cX7_entryOf 48 = .ok (.imul, 1) := by decide +kernel
theorem dX7_entryOf_49 : decode cX7_entryOf 49 = .ok (.iadd, 1) := by decide +kernel
theorem dX7_entryOf_50 : decode cX7_entryOf 50 = .ok (.istore_n 2, 1) := by decide +kernel
theorem dX7_entryOf_51 : decode cX7_entryOf 51 = .ok (.iinc 3 1, 3) := by decide +kernel
theorem dX7_entryOf_54 : decode cX7_entryOf 54 = .ok (.goto (-44), 3) := by decide +kernel
theorem dX7_entryOf_57 : decode cX7_entryOf 57 = .ok (.iload_n 2, 1) := by decide +kernel
theorem dX7_entryOf_58 : decode cX7_entryOf 58 = .ok (.ireturn, 1) := by decide +kernel
def L_X7_openAll_2 (t_net_size : Int32) (t_law_size : Int32) (t_law_forbidden : Nat → Int32)  : Nat → Int32 → (Nat → Int32) → Option ((Nat → Int32))
  | 0, _, _ => none
  | n + 1, x1, t_open =>
    if t_net_size ≤ x1 then
      some (t_open)
    else
      cal (f_X3_openFor x1 t_law_size t_law_forbidden) fun u2 =>
      stI t_open 14 x1 u2 fun t_open_3 =>
      bnd (x1 + (1 : Int32)) fun x1_4 =>
      L_X7_openAll_2 t_net_size t_law_size t_law_forbidden n x1_4 t_open_3

set_option maxRecDepth 100000 in
set_option maxHeartbeats 1000000 in
theorem w_X7_openAll_2 (cA : Nat → ClassId) (q_t : Nat) (t_sum : Int32) (t_many : Int32) (q_t_plan : Nat) (q_t_openStates : Nat) (q_t_openCount : Nat) (q_t_picks : Nat) (q_t_strides : Nat) (q_t_sums : Nat) (q_t_counts : Nat) (t_sign : Int32) (t_changed : Int32) (t_pickedSum : Int32) (t_aim : Int32) (t_before : Int64) (q_t_open : Nat) (q_t_net : Nat) (q_t_net_loads : Nat) (q_t_net_near : Nat) (q_t_net_ties : Nat) (t_net_edges : Int32) (q_t_law : Nat) (q_t_law_factors : Nat) (q_t_law_pairFactors : Nat) (q_t_law_barred : Nat) (q_t_law_forbidden : Nat) (t_net_size : Int32) (t_law_size : Int32) (t_law_forbidden : Nat → Int32) {X : XT} (C : Cx X cX7_openAll RX7 none cA 1 21 2) (r : (Nat → Int32)) (F : Fx X (sB (none) [oB q_t 7 [.ref q_t_open, .int t_sum, .int t_many, .ref q_t_net, .ref q_t_law, .ref q_t_plan, .ref q_t_openStates, .ref q_t_openCount, .ref q_t_picks, .ref q_t_strides, .ref q_t_sums, .ref q_t_counts, .int t_sign, .int t_changed, .int t_pickedSum, .int t_aim, .long t_before], aI cA q_t_open 14 r, oB q_t_net 4 [.ref q_t_net_loads, .ref q_t_net_near, .ref q_t_net_ties, .int t_net_size, .int t_net_edges], oB q_t_law 3 [.int t_law_size, .ref q_t_law_factors, .ref q_t_law_pairFactors, .ref q_t_law_barred, .ref q_t_law_forbidden], aI cA q_t_law_forbidden 14 t_law_forbidden]) 0 0)  : ∀ (n : Nat) (x1 : Int32) (t_open : Nat → Int32), L_X7_openAll_2 t_net_size t_law_size t_law_forbidden n x1 t_open = some r → Go X 2 0 0 2 [oB q_t 7 [.ref q_t_open, .int t_sum, .int t_many, .ref q_t_net, .ref q_t_law, .ref q_t_plan, .ref q_t_openStates, .ref q_t_openCount, .ref q_t_picks, .ref q_t_strides, .ref q_t_sums, .ref q_t_counts, .int t_sign, .int t_changed, .int t_pickedSum, .int t_aim, .long t_before], aI cA q_t_open 14 t_open, oB q_t_net 4 [.ref q_t_net_loads, .ref q_t_net_near, .ref q_t_net_ties, .int t_net_size, .int t_net_edges], oB q_t_law 3 [.int t_law_size, .ref q_t_law_factors, .ref q_t_law_pairFactors, .ref q_t_law_barred, .ref q_t_law_forbidden], aI cA q_t_law_forbidden 14 t_law_forbidden] [(0, .ref q_t), (1, .int x1)] [] := by
  intro n
  induction n with
  | zero => intro x1 t_open hf; exact no_some hf
  | succ n ih =>
    intro x1 t_open hf
    rw [L_X7_openAll_2] at hf
    refine g_iload_n C 2 1 dX7_openAll_2 rfl rfl ?_
    refine g_aload_n C 3 0 dX7_openAll_3 rfl rfl ?_
    refine g_get C 4 0 3 dX7_openAll_4 inX7 rfl rfl (by decide) kw_142 rfl ?_
    refine g_get C 7 2 3 dX7_openAll_7 inX4 rfl rfl (by decide) kw_143 rfl ?_
    refine g_icmp_ge C 10 33 dX7_openAll_10 (by decide) hf (fun hf => ?_) (fun hf => ?_)
    · cases hf
      exact g_vret C 33 dX7_openAll_33 F ⟨rfl, rfl⟩
    · refine g_aload_n C 13 0 dX7_openAll_13 rfl rfl ?_
      refine g_get C 14 0 0 dX7_openAll_14 inX7 rfl rfl (by decide) kw_144 rfl ?_
      refine g_iload_n C 17 1 dX7_openAll_17 rfl rfl ?_
      refine g_aload_n C 18 0 dX7_openAll_18 rfl rfl ?_
      refine g_get C 19 0 4 dX7_openAll_19 inX7 rfl rfl (by decide) kw_145 rfl ?_
      refine g_iload_n C 22 1 dX7_openAll_22 rfl rfl ?_
      obtain ⟨u2, hu2, hf⟩ := cal_some hf
      refine g_callV1 C 23 [3, 4] 3 (rest := [.int x1, .ref q_t_open]) dX7_openAll_23 (c_X3_openFor (x_l X) cA q_t_law t_law_size q_t_law_factors q_t_law_pairFactors q_t_law_barred q_t_law_forbidden t_law_forbidden x1 u2 hu2) kw_146 kw_147 kw_148 kw_149 kw_150 ok_X3_openFor ⟨Nat.le_of_ble_eq_true rfl, Nat.le_of_ble_eq_true rfl⟩ ⟨Nat.zero_le _, Nat.zero_le _⟩ ⟨rfl, rfl⟩ rfl rfl rfl rfl rfl (Nat.le_of_ble_eq_true rfl) rfl (ws' := [oB q_t 7 [.ref q_t_open, .int t_sum, .int t_many, .ref q_t_net, .ref q_t_law, .ref q_t_plan, .ref q_t_openStates, .ref q_t_openCount, .ref q_t_picks, .ref q_t_strides, .ref q_t_sums, .ref q_t_counts, .int t_sign, .int t_changed, .int t_pickedSum, .int t_aim, .long t_before], aI cA q_t_open 14 t_open, oB q_t_net 4 [.ref q_t_net_loads, .ref q_t_net_near, .ref q_t_net_ties, .int t_net_size, .int t_net_edges], oB q_t_law 3 [.int t_law_size, .ref q_t_law_factors, .ref q_t_law_pairFactors, .ref q_t_law_barred, .ref q_t_law_forbidden], aI cA q_t_law_forbidden 14 t_law_forbidden]) (st' := [.int u2, .int x1, .ref q_t_open]) (N0 := 5) rfl [none, none, none, some 0, some 1] (by decide) rfl rfl ?_
      refine g_iast C 26 1 (fun z => [oB q_t 7 [.ref q_t_open, .int t_sum, .int t_many, .ref q_t_net, .ref q_t_law, .ref q_t_plan, .ref q_t_openStates, .ref q_t_openCount, .ref q_t_picks, .ref q_t_strides, .ref q_t_sums, .ref q_t_counts, .int t_sign, .int t_changed, .int t_pickedSum, .int t_aim, .long t_before], aI cA q_t_open 14 z, oB q_t_net 4 [.ref q_t_net_loads, .ref q_t_net_near, .ref q_t_net_ties, .int t_net_size, .int t_net_edges], oB q_t_law 3 [.int t_law_size, .ref q_t_law_factors, .ref q_t_law_pairFactors, .ref q_t_law_barred, .ref q_t_law_forbidden], aI cA q_t_law_forbidden 14 t_law_forbidden]) dX7_openAll_26 rfl (fun _ => rfl) hf (fun t_open_3 hf => ?_)
      refine g_iinc C 27 1 (v := x1 + (1 : Int32)) (fun z => [(1, .int z), (0, .ref q_t)]) dX7_openAll_27 rfl rfl (by decide) (fun _ => rfl) hf (fun x1_4 hf => ?_)
      refine g_goto C 30 2 dX7_openAll_30 (by decide) ?_
      refine g_lv [1, 0] rfl ?_
      exact ih x1_4 t_open_3 hf
def f_X7_openAll (t_open : Nat → Int32) (t_net_size : Int32) (t_law_size : Int32) (t_law_forbidden : Nat → Int32) : Option ((Nat → Int32)) :=
  bnd (0 : Int32) fun x1_1 =>
  L_X7_openAll_2 t_net_size t_law_size t_law_forbidden NN x1_1 t_open

set_option maxRecDepth 100000 in
set_option maxHeartbeats 1000000 in
theorem c_X7_openAll (l : Launch) (cA : Nat → ClassId) (q_t : Nat) (t_sum : Int32) (t_many : Int32) (q_t_plan : Nat) (q_t_openStates : Nat) (q_t_openCount : Nat) (q_t_picks : Nat) (q_t_strides : Nat) (q_t_sums : Nat) (q_t_counts : Nat) (t_sign : Int32) (t_changed : Int32) (t_pickedSum : Int32) (t_aim : Int32) (t_before : Int64) (q_t_open : Nat) (t_open : Nat → Int32) (q_t_net : Nat) (q_t_net_loads : Nat) (q_t_net_near : Nat) (q_t_net_ties : Nat) (t_net_size : Int32) (t_net_edges : Int32) (q_t_law : Nat) (t_law_size : Int32) (q_t_law_factors : Nat) (q_t_law_pairFactors : Nat) (q_t_law_barred : Nat) (q_t_law_forbidden : Nat) (t_law_forbidden : Nat → Int32)  (r : (Nat → Int32)) (hf : f_X7_openAll t_open t_net_size t_law_size t_law_forbidden = some r) : MT l cA yX7_openAll cX7_openAll 2 none ({ frames := 1, cells := 0, slots := 0, locals := 21 } : Room) [.ref q_t] [oB q_t 7 [.ref q_t_open, .int t_sum, .int t_many, .ref q_t_net, .ref q_t_law, .ref q_t_plan, .ref q_t_openStates, .ref q_t_openCount, .ref q_t_picks, .ref q_t_strides, .ref q_t_sums, .ref q_t_counts, .int t_sign, .int t_changed, .int t_pickedSum, .int t_aim, .long t_before], aI cA q_t_open 14 t_open, oB q_t_net 4 [.ref q_t_net_loads, .ref q_t_net_near, .ref q_t_net_ties, .int t_net_size, .int t_net_edges], oB q_t_law 3 [.int t_law_size, .ref q_t_law_factors, .ref q_t_law_pairFactors, .ref q_t_law_barred, .ref q_t_law_forbidden], aI cA q_t_law_forbidden 14 t_law_forbidden] (sB (none) [oB q_t 7 [.ref q_t_open, .int t_sum, .int t_many, .ref q_t_net, .ref q_t_law, .ref q_t_plan, .ref q_t_openStates, .ref q_t_openCount, .ref q_t_picks, .ref q_t_strides, .ref q_t_sums, .ref q_t_counts, .int t_sign, .int t_changed, .int t_pickedSum, .int t_aim, .long t_before], aI cA q_t_open 14 r, oB q_t_net 4 [.ref q_t_net_loads, .ref q_t_net_near, .ref q_t_net_ties, .int t_net_size, .int t_net_edges], oB q_t_law 3 [.int t_law_size, .ref q_t_law_factors, .ref q_t_law_pairFactors, .ref q_t_law_barred, .ref q_t_law_forbidden], aI cA q_t_law_forbidden 14 t_law_forbidden]) := by
  refine MT.of (by decide) (Nat.le_of_ble_eq_true rfl) ?_
  intro X hXl C F hnm hrc hrs
  subst hXl
  unfold f_X7_openAll at hf
  have C : Cx X cX7_openAll RX7 none cA 1 21 2 := C
  show Go X 2 0 0 0 [oB q_t 7 [.ref q_t_open, .int t_sum, .int t_many, .ref q_t_net, .ref q_t_law, .ref q_t_plan, .ref q_t_openStates, .ref q_t_openCount, .ref q_t_picks, .ref q_t_strides, .ref q_t_sums, .ref q_t_counts, .int t_sign, .int t_changed, .int t_pickedSum, .int t_aim, .long t_before], aI cA q_t_open 14 t_open, oB q_t_net 4 [.ref q_t_net_loads, .ref q_t_net_near, .ref q_t_net_ties, .int t_net_size, .int t_net_edges], oB q_t_law 3 [.int t_law_size, .ref q_t_law_factors, .ref q_t_law_pairFactors, .ref q_t_law_barred, .ref q_t_law_forbidden], aI cA q_t_law_forbidden 14 t_law_forbidden] [(0, .ref q_t)] []
  refine g_iconst C 0 (0 : Int32) dX7_openAll_0 (by decide) ?_
  refine g_istore_n C 1 (fun z => [(1, .int z), (0, .ref q_t)]) dX7_openAll_1 rfl (by decide) (fun _ => rfl) hf (fun x1_1 hf => ?_)
  refine g_lv [1, 0] rfl ?_
  exact w_X7_openAll_2 cA q_t t_sum t_many q_t_plan q_t_openStates q_t_openCount q_t_picks q_t_strides q_t_sums q_t_counts t_sign t_changed t_pickedSum t_aim t_before q_t_open q_t_net q_t_net_loads q_t_net_near q_t_net_ties t_net_edges q_t_law q_t_law_factors q_t_law_pairFactors q_t_law_barred q_t_law_forbidden t_net_size t_law_size t_law_forbidden C r F NN x1_1 t_open hf

def L_X7_listOpenStates_4 (a1 : Int32) (t_open : Nat → Int32) (t_law_size : Int32)  : Nat → Int32 → Int32 → (Nat → Int32) → (Nat → Int32) → Option ((Nat → Int32) × (Nat → Int32))
  | 0, _, _, _, _ => none
  | n + 1, x2, x3, t_openStates, t_openCount =>
    if t_law_size ≤ x3 then
      stI t_openCount 14 a1 x2 fun t_openCount_3 =>
      some (t_openStates, t_openCount_3)
    else
      ldA t_open 14 a1 fun v4 =>
      cal (f_X8_hasBit v4 x3) fun u5 =>
      if u5 = 0 then
        bnd (x3 + (1 : Int32)) fun x3_9 =>
        L_X7_listOpenStates_4 a1 t_open t_law_size n x2 x3_9 t_openStates t_openCount
      else
        stI t_openStates 56 ((a1 * (4 : Int32)) + x2) x3 fun t_openStates_6 =>
        bnd (x2 + (1 : Int32)) fun x2_7 =>
        bnd (x3 + (1 : Int32)) fun x3_8 =>
        L_X7_listOpenStates_4 a1 t_open t_law_size n x2_7 x3_8 t_openStates_6 t_openCount

set_option maxRecDepth 100000 in
set_option maxHeartbeats 1000000 in
theorem w_X7_listOpenStates_4 (cA : Nat → ClassId) (q_t : Nat) (t_sum : Int32) (t_many : Int32) (q_t_net : Nat) (q_t_plan : Nat) (q_t_picks : Nat) (q_t_strides : Nat) (q_t_sums : Nat) (q_t_counts : Nat) (t_sign : Int32) (t_changed : Int32) (t_pickedSum : Int32) (t_aim : Int32) (t_before : Int64) (q_t_open : Nat) (q_t_law : Nat) (q_t_law_factors : Nat) (q_t_law_pairFactors : Nat) (q_t_law_barred : Nat) (q_t_law_forbidden : Nat) (q_t_openStates : Nat) (q_t_openCount : Nat) (a1 : Int32) (t_open : Nat → Int32) (t_law_size : Int32) {X : XT} (C : Cx X cX7_listOpenStates RX7 none cA 1 21 4) (r : (Nat → Int32) × (Nat → Int32)) (F : Fx X (sB (none) [oB q_t 7 [.ref q_t_open, .int t_sum, .int t_many, .ref q_t_net, .ref q_t_law, .ref q_t_plan, .ref q_t_openStates, .ref q_t_openCount, .ref q_t_picks, .ref q_t_strides, .ref q_t_sums, .ref q_t_counts, .int t_sign, .int t_changed, .int t_pickedSum, .int t_aim, .long t_before], aI cA q_t_open 14 t_open, oB q_t_law 3 [.int t_law_size, .ref q_t_law_factors, .ref q_t_law_pairFactors, .ref q_t_law_barred, .ref q_t_law_forbidden], aI cA q_t_openStates 56 r.1, aI cA q_t_openCount 14 r.2]) 0 0)  : ∀ (n : Nat) (x2 : Int32) (x3 : Int32) (t_openStates : Nat → Int32) (t_openCount : Nat → Int32), L_X7_listOpenStates_4 a1 t_open t_law_size n x2 x3 t_openStates t_openCount = some r → Go X 4 0 0 4 [oB q_t 7 [.ref q_t_open, .int t_sum, .int t_many, .ref q_t_net, .ref q_t_law, .ref q_t_plan, .ref q_t_openStates, .ref q_t_openCount, .ref q_t_picks, .ref q_t_strides, .ref q_t_sums, .ref q_t_counts, .int t_sign, .int t_changed, .int t_pickedSum, .int t_aim, .long t_before], aI cA q_t_open 14 t_open, oB q_t_law 3 [.int t_law_size, .ref q_t_law_factors, .ref q_t_law_pairFactors, .ref q_t_law_barred, .ref q_t_law_forbidden], aI cA q_t_openStates 56 t_openStates, aI cA q_t_openCount 14 t_openCount] [(0, .ref q_t), (1, .int a1), (2, .int x2), (3, .int x3)] [] := by
  intro n
  induction n with
  | zero => intro x2 x3 t_openStates t_openCount hf; exact no_some hf
  | succ n ih =>
    intro x2 x3 t_openStates t_openCount hf
    rw [L_X7_listOpenStates_4] at hf
    refine g_iload_n C 4 3 dX7_listOpenStates_4 rfl rfl ?_
    refine g_aload_n C 5 0 dX7_listOpenStates_5 rfl rfl ?_
    refine g_get C 6 0 4 dX7_listOpenStates_6 inX7 rfl rfl (by decide) kw_145 rfl ?_
    refine g_get C 9 2 0 dX7_listOpenStates_9 inX3 rfl rfl (by decide) kw_151 rfl ?_
    refine g_icmp_ge C 12 51 dX7_listOpenStates_12 (by decide) hf (fun hf => ?_) (fun hf => ?_)
    · refine g_aload_n C 51 0 dX7_listOpenStates_51 rfl rfl ?_
      refine g_get C 52 0 7 dX7_listOpenStates_52 inX7 rfl rfl (by decide) kw_152 rfl ?_
      refine g_iload_n C 55 1 dX7_listOpenStates_55 rfl rfl ?_
      refine g_iload_n C 56 2 dX7_listOpenStates_56 rfl rfl ?_
      refine g_iast C 57 4 (fun z => [oB q_t 7 [.ref q_t_open, .int t_sum, .int t_many, .ref q_t_net, .ref q_t_law, .ref q_t_plan, .ref q_t_openStates, .ref q_t_openCount, .ref q_t_picks, .ref q_t_strides, .ref q_t_sums, .ref q_t_counts, .int t_sign, .int t_changed, .int t_pickedSum, .int t_aim, .long t_before], aI cA q_t_open 14 t_open, oB q_t_law 3 [.int t_law_size, .ref q_t_law_factors, .ref q_t_law_pairFactors, .ref q_t_law_barred, .ref q_t_law_forbidden], aI cA q_t_openStates 56 t_openStates, aI cA q_t_openCount 14 z]) dX7_listOpenStates_57 rfl (fun _ => rfl) hf (fun t_openCount_3 hf => ?_)
      cases hf
      exact g_vret C 58 dX7_listOpenStates_58 F ⟨rfl, rfl⟩
    · refine g_aload_n C 15 0 dX7_listOpenStates_15 rfl rfl ?_
      refine g_get C 16 0 0 dX7_listOpenStates_16 inX7 rfl rfl (by decide) kw_144 rfl ?_
      refine g_iload_n C 19 1 dX7_listOpenStates_19 rfl rfl ?_
      refine g_iald C 20 1 dX7_listOpenStates_20 rfl hf (fun v4 hf => ?_)
      refine g_iload_n C 21 3 dX7_listOpenStates_21 rfl rfl ?_
      obtain ⟨u5, hu5, hf⟩ := cal_some hf
      refine g_callSN C 22 [] (rest := []) dX7_listOpenStates_22 (c_X8_hasBit (x_l X) cA v4 x3 u5 hu5) (List.mem_of_getElem? (i := 14) rfl) kw_5 kw_6 kw_7 ok_X8_hasBit ⟨Nat.le_of_ble_eq_true rfl, Nat.le_of_ble_eq_true rfl⟩ ⟨Nat.zero_le _, Nat.zero_le _⟩ ⟨rfl, rfl⟩ rfl rfl rfl (Nat.le_of_ble_eq_true rfl) rfl (ws' := [oB q_t 7 [.ref q_t_open, .int t_sum, .int t_many, .ref q_t_net, .ref q_t_law, .ref q_t_plan, .ref q_t_openStates, .ref q_t_openCount, .ref q_t_picks, .ref q_t_strides, .ref q_t_sums, .ref q_t_counts, .int t_sign, .int t_changed, .int t_pickedSum, .int t_aim, .long t_before], aI cA q_t_open 14 t_open, oB q_t_law 3 [.int t_law_size, .ref q_t_law_factors, .ref q_t_law_pairFactors, .ref q_t_law_barred, .ref q_t_law_forbidden], aI cA q_t_openStates 56 t_openStates, aI cA q_t_openCount 14 t_openCount]) (st' := [.int u5]) (N0 := 5) rfl [none, none, none, none, none] (by decide) rfl rfl ?_
      refine g_if_ne C 25 31 dX7_listOpenStates_25 (by decide) hf (fun hf => ?_) (fun hf => ?_)
      · refine g_aload_n C 31 0 dX7_listOpenStates_31 rfl rfl ?_
        refine g_get C 32 0 6 dX7_listOpenStates_32 inX7 rfl rfl (by decide) kw_153 rfl ?_
        refine g_iload_n C 35 1 dX7_listOpenStates_35 rfl rfl ?_
        refine g_iconst C 36 (4 : Int32) dX7_listOpenStates_36 (by decide) ?_
        refine g_imul C 37 dX7_listOpenStates_37 ?_
        refine g_iload_n C 38 2 dX7_listOpenStates_38 rfl rfl ?_
        refine g_iadd C 39 dX7_listOpenStates_39 ?_
        refine g_iload_n C 40 3 dX7_listOpenStates_40 rfl rfl ?_
        refine g_iast C 41 3 (fun z => [oB q_t 7 [.ref q_t_open, .int t_sum, .int t_many, .ref q_t_net, .ref q_t_law, .ref q_t_plan, .ref q_t_openStates, .ref q_t_openCount, .ref q_t_picks, .ref q_t_strides, .ref q_t_sums, .ref q_t_counts, .int t_sign, .int t_changed, .int t_pickedSum, .int t_aim, .long t_before], aI cA q_t_open 14 t_open, oB q_t_law 3 [.int t_law_size, .ref q_t_law_factors, .ref q_t_law_pairFactors, .ref q_t_law_barred, .ref q_t_law_forbidden], aI cA q_t_openStates 56 z, aI cA q_t_openCount 14 t_openCount]) dX7_listOpenStates_41 rfl (fun _ => rfl) hf (fun t_openStates_6 hf => ?_)
        refine g_iinc C 42 2 (v := x2 + (1 : Int32)) (fun z => [(2, .int z), (0, .ref q_t), (1, .int a1), (3, .int x3)]) dX7_listOpenStates_42 rfl rfl (by decide) (fun _ => rfl) hf (fun x2_7 hf => ?_)
        refine g_iinc C 45 3 (v := x3 + (1 : Int32)) (fun z => [(3, .int z), (2, .int x2_7), (0, .ref q_t), (1, .int a1)]) dX7_listOpenStates_45 rfl rfl (by decide) (fun _ => rfl) hf (fun x3_8 hf => ?_)
        refine g_goto C 48 4 dX7_listOpenStates_48 (by decide) ?_
        refine g_lv [2, 3, 1, 0] rfl ?_
        exact ih x2_7 x3_8 t_openStates_6 t_openCount hf
      · refine g_goto C 28 45 dX7_listOpenStates_28 (by decide) ?_
        refine g_iinc C 45 3 (v := x3 + (1 : Int32)) (fun z => [(3, .int z), (0, .ref q_t), (1, .int a1), (2, .int x2)]) dX7_listOpenStates_45 rfl rfl (by decide) (fun _ => rfl) hf (fun x3_9 hf => ?_)
        refine g_goto C 48 4 dX7_listOpenStates_48 (by decide) ?_
        refine g_lv [1, 2, 3, 0] rfl ?_
        exact ih x2 x3_9 t_openStates t_openCount hf
def f_X7_listOpenStates (a1 : Int32) (t_open : Nat → Int32) (t_law_size : Int32) (t_openStates : Nat → Int32) (t_openCount : Nat → Int32) : Option ((Nat → Int32) × (Nat → Int32)) :=
  bnd (0 : Int32) fun x2_1 =>
  bnd (0 : Int32) fun x3_2 =>
  L_X7_listOpenStates_4 a1 t_open t_law_size NN x2_1 x3_2 t_openStates t_openCount

set_option maxRecDepth 100000 in
set_option maxHeartbeats 1000000 in
theorem c_X7_listOpenStates (l : Launch) (cA : Nat → ClassId) (q_t : Nat) (t_sum : Int32) (t_many : Int32) (q_t_net : Nat) (q_t_plan : Nat) (q_t_picks : Nat) (q_t_strides : Nat) (q_t_sums : Nat) (q_t_counts : Nat) (t_sign : Int32) (t_changed : Int32) (t_pickedSum : Int32) (t_aim : Int32) (t_before : Int64) (q_t_open : Nat) (t_open : Nat → Int32) (q_t_law : Nat) (t_law_size : Int32) (q_t_law_factors : Nat) (q_t_law_pairFactors : Nat) (q_t_law_barred : Nat) (q_t_law_forbidden : Nat) (q_t_openStates : Nat) (t_openStates : Nat → Int32) (q_t_openCount : Nat) (t_openCount : Nat → Int32) (a1 : Int32) (r : (Nat → Int32) × (Nat → Int32)) (hf : f_X7_listOpenStates a1 t_open t_law_size t_openStates t_openCount = some r) : MT l cA yX7_listOpenStates cX7_listOpenStates 4 none ({ frames := 1, cells := 0, slots := 0, locals := 21 } : Room) [.ref q_t, .int a1] [oB q_t 7 [.ref q_t_open, .int t_sum, .int t_many, .ref q_t_net, .ref q_t_law, .ref q_t_plan, .ref q_t_openStates, .ref q_t_openCount, .ref q_t_picks, .ref q_t_strides, .ref q_t_sums, .ref q_t_counts, .int t_sign, .int t_changed, .int t_pickedSum, .int t_aim, .long t_before], aI cA q_t_open 14 t_open, oB q_t_law 3 [.int t_law_size, .ref q_t_law_factors, .ref q_t_law_pairFactors, .ref q_t_law_barred, .ref q_t_law_forbidden], aI cA q_t_openStates 56 t_openStates, aI cA q_t_openCount 14 t_openCount] (sB (none) [oB q_t 7 [.ref q_t_open, .int t_sum, .int t_many, .ref q_t_net, .ref q_t_law, .ref q_t_plan, .ref q_t_openStates, .ref q_t_openCount, .ref q_t_picks, .ref q_t_strides, .ref q_t_sums, .ref q_t_counts, .int t_sign, .int t_changed, .int t_pickedSum, .int t_aim, .long t_before], aI cA q_t_open 14 t_open, oB q_t_law 3 [.int t_law_size, .ref q_t_law_factors, .ref q_t_law_pairFactors, .ref q_t_law_barred, .ref q_t_law_forbidden], aI cA q_t_openStates 56 r.1, aI cA q_t_openCount 14 r.2]) := by
  refine MT.of (by decide) (Nat.le_of_ble_eq_true rfl) ?_
  intro X hXl C F hnm hrc hrs
  subst hXl
  unfold f_X7_listOpenStates at hf
  have C : Cx X cX7_listOpenStates RX7 none cA 1 21 4 := C
  show Go X 4 0 0 0 [oB q_t 7 [.ref q_t_open, .int t_sum, .int t_many, .ref q_t_net, .ref q_t_law, .ref q_t_plan, .ref q_t_openStates, .ref q_t_openCount, .ref q_t_picks, .ref q_t_strides, .ref q_t_sums, .ref q_t_counts, .int t_sign, .int t_changed, .int t_pickedSum, .int t_aim, .long t_before], aI cA q_t_open 14 t_open, oB q_t_law 3 [.int t_law_size, .ref q_t_law_factors, .ref q_t_law_pairFactors, .ref q_t_law_barred, .ref q_t_law_forbidden], aI cA q_t_openStates 56 t_openStates, aI cA q_t_openCount 14 t_openCount] [(0, .ref q_t), (1, .int a1)] []
  refine g_iconst C 0 (0 : Int32) dX7_listOpenStates_0 (by decide) ?_
  refine g_istore_n C 1 (fun z => [(2, .int z), (0, .ref q_t), (1, .int a1)]) dX7_listOpenStates_1 rfl (by decide) (fun _ => rfl) hf (fun x2_1 hf => ?_)
  refine g_iconst C 2 (0 : Int32) dX7_listOpenStates_2 (by decide) ?_
  refine g_istore_n C 3 (fun z => [(3, .int z), (2, .int x2_1), (0, .ref q_t), (1, .int a1)]) dX7_listOpenStates_3 rfl (by decide) (fun _ => rfl) hf (fun x3_2 hf => ?_)
  refine g_lv [2, 3, 1, 0] rfl ?_
  exact w_X7_listOpenStates_4 cA q_t t_sum t_many q_t_net q_t_plan q_t_picks q_t_strides q_t_sums q_t_counts t_sign t_changed t_pickedSum t_aim t_before q_t_open q_t_law q_t_law_factors q_t_law_pairFactors q_t_law_barred q_t_law_forbidden q_t_openStates q_t_openCount a1 t_open t_law_size C r F NN x2_1 x3_2 t_openStates t_openCount hf

def f_X7_pickedState (a1 : Int32) (t_openStates : Nat → Int32) (t_picks : Nat → Int32) : Option (Int32) :=
  ldA t_picks 14 a1 fun v1 =>
  ldA t_openStates 56 ((a1 * (4 : Int32)) + v1) fun v2 =>
  some (v2)

set_option maxRecDepth 100000 in
set_option maxHeartbeats 1000000 in
theorem c_X7_pickedState (l : Launch) (cA : Nat → ClassId) (q_t : Nat) (q_t_open : Nat) (t_sum : Int32) (t_many : Int32) (q_t_net : Nat) (q_t_law : Nat) (q_t_plan : Nat) (q_t_openCount : Nat) (q_t_strides : Nat) (q_t_sums : Nat) (q_t_counts : Nat) (t_sign : Int32) (t_changed : Int32) (t_pickedSum : Int32) (t_aim : Int32) (t_before : Int64) (q_t_openStates : Nat) (t_openStates : Nat → Int32) (q_t_picks : Nat) (t_picks : Nat → Int32) (a1 : Int32) (r : Int32) (hf : f_X7_pickedState a1 t_openStates t_picks = some r) : MT l cA yX7_pickedState cX7_pickedState 2 (some .int) ({ frames := 0, cells := 0, slots := 0, locals := 0 } : Room) [.ref q_t, .int a1] [oB q_t 7 [.ref q_t_open, .int t_sum, .int t_many, .ref q_t_net, .ref q_t_law, .ref q_t_plan, .ref q_t_openStates, .ref q_t_openCount, .ref q_t_picks, .ref q_t_strides, .ref q_t_sums, .ref q_t_counts, .int t_sign, .int t_changed, .int t_pickedSum, .int t_aim, .long t_before], aI cA q_t_openStates 56 t_openStates, aI cA q_t_picks 14 t_picks] (sB (some (.int r)) [oB q_t 7 [.ref q_t_open, .int t_sum, .int t_many, .ref q_t_net, .ref q_t_law, .ref q_t_plan, .ref q_t_openStates, .ref q_t_openCount, .ref q_t_picks, .ref q_t_strides, .ref q_t_sums, .ref q_t_counts, .int t_sign, .int t_changed, .int t_pickedSum, .int t_aim, .long t_before], aI cA q_t_openStates 56 t_openStates, aI cA q_t_picks 14 t_picks]) := by
  refine MT.of (by decide) (Nat.le_of_ble_eq_true rfl) ?_
  intro X hXl C F hnm hrc hrs
  subst hXl
  unfold f_X7_pickedState at hf
  have C : Cx X cX7_pickedState RX7 (some .int) cA 0 0 2 := C
  show Go X 2 0 0 0 [oB q_t 7 [.ref q_t_open, .int t_sum, .int t_many, .ref q_t_net, .ref q_t_law, .ref q_t_plan, .ref q_t_openStates, .ref q_t_openCount, .ref q_t_picks, .ref q_t_strides, .ref q_t_sums, .ref q_t_counts, .int t_sign, .int t_changed, .int t_pickedSum, .int t_aim, .long t_before], aI cA q_t_openStates 56 t_openStates, aI cA q_t_picks 14 t_picks] [(0, .ref q_t), (1, .int a1)] []
  refine g_aload_n C 0 0 dX7_pickedState_0 rfl rfl ?_
  refine g_get C 1 0 6 dX7_pickedState_1 inX7 rfl rfl (by decide) kw_153 rfl ?_
  refine g_iload_n C 4 1 dX7_pickedState_4 rfl rfl ?_
  refine g_iconst C 5 (4 : Int32) dX7_pickedState_5 (by decide) ?_
  refine g_imul C 6 dX7_pickedState_6 ?_
  refine g_aload_n C 7 0 dX7_pickedState_7 rfl rfl ?_
  refine g_get C 8 0 8 dX7_pickedState_8 inX7 rfl rfl (by decide) kw_154 rfl ?_
  refine g_iload_n C 11 1 dX7_pickedState_11 rfl rfl ?_
  refine g_iald C 12 2 dX7_pickedState_12 rfl hf (fun v1 hf => ?_)
  refine g_iadd C 13 dX7_pickedState_13 ?_
  refine g_iald C 14 1 dX7_pickedState_14 rfl hf (fun v2 hf => ?_)
  cases hf
  exact g_iret C 15 dX7_pickedState_15 F ⟨rfl, rfl⟩

def L_X7_addEdges_43 (a1 : Int32) (a2 : Int32) (t_sign : Int32) (t_net_loads : Nat → Int32) (t_net_near : Nat → Int32) (t_net_ties : Nat → Int32) (t_law_factors : Nat → Int32) (t_law_pairFactors : Nat → Int32) (t_law_barred : Nat → Int32) (t_plan_others : Nat → Int32) (t_plan_otherCount : Nat → Int32) (t_openStates : Nat → Int32) (t_picks : Nat → Int32)  : Nat → Int32 → Int32 → Int32 → Int32 → Int32 → Option (Int32 × Int32)
  | 0, _, _, _, _, _ => none
  | n + 1, x3, x4, x5, x6, t_pickedSum =>
    ldA t_plan_otherCount 14 a1 fun v9 =>
    if ((a1 * (4 : Int32)) + v9) ≤ x6 then
      bnd (t_sign * x5) fun t_pickedSum_10 =>
      some ((1 : Int32), t_pickedSum_10)
    else
      ldA t_plan_others 56 x6 fun v11 =>
      bnd v11 fun x7_12 =>
      cal (f_X8_hasBit x4 x7_12) fun u13 =>
      if u13 = 0 then
        bnd (x6 + (1 : Int32)) fun x6_21 =>
        L_X7_addEdges_43 a1 a2 t_sign t_net_loads t_net_near t_net_ties t_law_factors t_law_pairFactors t_law_barred t_plan_others t_plan_otherCount t_openStates t_picks n x3 x4 x5 x6_21 t_pickedSum
      else
        cal (f_X7_pickedState x7_12 t_openStates t_picks) fun u14 =>
        bnd ((x3 * (4 : Int32)) + u14) fun x8_15 =>
        ldA t_law_barred 16 x8_15 fun v16 =>
        if v16 = 0 then
          ldA t_net_ties 196 ((a2 * (14 : Int32)) + x7_12) fun v17 =>
          ldA t_law_pairFactors 16 x8_15 fun v18 =>
          bnd (x5 + (v17 * v18)) fun x5_19 =>
          bnd (x6 + (1 : Int32)) fun x6_20 =>
          L_X7_addEdges_43 a1 a2 t_sign t_net_loads t_net_near t_net_ties t_law_factors t_law_pairFactors t_law_barred t_plan_others t_plan_otherCount t_openStates t_picks n x3 x4 x5_19 x6_20 t_pickedSum
        else
          some ((0 : Int32), t_pickedSum)

set_option maxRecDepth 100000 in
set_option maxHeartbeats 1000000 in
theorem w_X7_addEdges_43 (cA : Nat → ClassId) (q_t : Nat) (q_t_open : Nat) (t_sum : Int32) (t_many : Int32) (q_t_openCount : Nat) (q_t_strides : Nat) (q_t_sums : Nat) (q_t_counts : Nat) (t_changed : Int32) (t_aim : Int32) (t_before : Int64) (q_t_net : Nat) (t_net_size : Int32) (t_net_edges : Int32) (q_t_net_loads : Nat) (q_t_net_near : Nat) (q_t_net_ties : Nat) (q_t_law : Nat) (t_law_size : Int32) (q_t_law_forbidden : Nat) (q_t_law_factors : Nat) (q_t_law_pairFactors : Nat) (q_t_law_barred : Nat) (q_t_plan : Nat) (q_t_plan_knots : Nat) (q_t_plan_scopes : Nat) (q_t_plan_users : Nat) (q_t_plan_feeders : Nat) (q_t_plan_feederCount : Nat) (t_plan_size : Int32) (q_t_plan_places : Nat) (q_t_plan_bagMates : Nat) (q_t_plan_going : Nat) (q_t_plan_others : Nat) (q_t_plan_otherCount : Nat) (q_t_openStates : Nat) (q_t_picks : Nat) (a1 : Int32) (a2 : Int32) (t_sign : Int32) (t_net_loads : Nat → Int32) (t_net_near : Nat → Int32) (t_net_ties : Nat → Int32) (t_law_factors : Nat → Int32) (t_law_pairFactors : Nat → Int32) (t_law_barred : Nat → Int32) (t_plan_others : Nat → Int32) (t_plan_otherCount : Nat → Int32) (t_openStates : Nat → Int32) (t_picks : Nat → Int32) {X : XT} (C : Cx X cX7_addEdges RX7 (some .boolean) cA 1 21 9) (r : Int32 × Int32) (F : Fx X (sB (some (.int r.1)) [oB q_t 7 [.ref q_t_open, .int t_sum, .int t_many, .ref q_t_net, .ref q_t_law, .ref q_t_plan, .ref q_t_openStates, .ref q_t_openCount, .ref q_t_picks, .ref q_t_strides, .ref q_t_sums, .ref q_t_counts, .int t_sign, .int t_changed, .int r.2, .int t_aim, .long t_before], oB q_t_net 4 [.ref q_t_net_loads, .ref q_t_net_near, .ref q_t_net_ties, .int t_net_size, .int t_net_edges], aI cA q_t_net_loads 14 t_net_loads, aI cA q_t_net_near 14 t_net_near, aI cA q_t_net_ties 196 t_net_ties, oB q_t_law 3 [.int t_law_size, .ref q_t_law_factors, .ref q_t_law_pairFactors, .ref q_t_law_barred, .ref q_t_law_forbidden], aI cA q_t_law_factors 4 t_law_factors, aI cA q_t_law_pairFactors 16 t_law_pairFactors, aZ cA q_t_law_barred 16 t_law_barred, oB q_t_plan 5 [.ref q_t_plan_knots, .ref q_t_plan_others, .ref q_t_plan_otherCount, .ref q_t_plan_scopes, .ref q_t_plan_users, .ref q_t_plan_feeders, .ref q_t_plan_feederCount, .int t_plan_size, .ref q_t_plan_places, .ref q_t_plan_bagMates, .ref q_t_plan_going], aI cA q_t_plan_others 56 t_plan_others, aI cA q_t_plan_otherCount 14 t_plan_otherCount, aI cA q_t_openStates 56 t_openStates, aI cA q_t_picks 14 t_picks]) 0 0)  : ∀ (n : Nat) (x3 : Int32) (x4 : Int32) (x5 : Int32) (x6 : Int32) (t_pickedSum : Int32), L_X7_addEdges_43 a1 a2 t_sign t_net_loads t_net_near t_net_ties t_law_factors t_law_pairFactors t_law_barred t_plan_others t_plan_otherCount t_openStates t_picks n x3 x4 x5 x6 t_pickedSum = some r → Go X 9 0 0 43 [oB q_t 7 [.ref q_t_open, .int t_sum, .int t_many, .ref q_t_net, .ref q_t_law, .ref q_t_plan, .ref q_t_openStates, .ref q_t_openCount, .ref q_t_picks, .ref q_t_strides, .ref q_t_sums, .ref q_t_counts, .int t_sign, .int t_changed, .int t_pickedSum, .int t_aim, .long t_before], oB q_t_net 4 [.ref q_t_net_loads, .ref q_t_net_near, .ref q_t_net_ties, .int t_net_size, .int t_net_edges], aI cA q_t_net_loads 14 t_net_loads, aI cA q_t_net_near 14 t_net_near, aI cA q_t_net_ties 196 t_net_ties, oB q_t_law 3 [.int t_law_size, .ref q_t_law_factors, .ref q_t_law_pairFactors, .ref q_t_law_barred, .ref q_t_law_forbidden], aI cA q_t_law_factors 4 t_law_factors, aI cA q_t_law_pairFactors 16 t_law_pairFactors, aZ cA q_t_law_barred 16 t_law_barred, oB q_t_plan 5 [.ref q_t_plan_knots, .ref q_t_plan_others, .ref q_t_plan_otherCount, .ref q_t_plan_scopes, .ref q_t_plan_users, .ref q_t_plan_feeders, .ref q_t_plan_feederCount, .int t_plan_size, .ref q_t_plan_places, .ref q_t_plan_bagMates, .ref q_t_plan_going], aI cA q_t_plan_others 56 t_plan_others, aI cA q_t_plan_otherCount 14 t_plan_otherCount, aI cA q_t_openStates 56 t_openStates, aI cA q_t_picks 14 t_picks] [(0, .ref q_t), (1, .int a1), (2, .int a2), (3, .int x3), (4, .int x4), (5, .int x5), (6, .int x6)] [] := by
  intro n
  induction n with
  | zero => intro x3 x4 x5 x6 t_pickedSum hf; exact no_some hf
  | succ n ih =>
    intro x3 x4 x5 x6 t_pickedSum hf
    rw [L_X7_addEdges_43] at hf
    refine g_iload C 43 6 dX7_addEdges_43 rfl ?_
    refine g_iload_n C 45 1 dX7_addEdges_45 rfl rfl ?_
    refine g_iconst C 46 (4 : Int32) dX7_addEdges_46 (by decide) ?_
    refine g_imul C 47 dX7_addEdges_47 ?_
    refine g_aload_n C 48 0 dX7_addEdges_48 rfl rfl ?_
    refine g_get C 49 0 5 dX7_addEdges_49 inX7 rfl rfl (by decide) kw_163 rfl ?_
    refine g_get C 52 9 2 dX7_addEdges_52 inX5 rfl rfl (by decide) kw_164 rfl ?_
    refine g_iload_n C 55 1 dX7_addEdges_55 rfl rfl ?_
    refine g_iald C 56 11 dX7_addEdges_56 rfl hf (fun v9 hf => ?_)
    refine g_iadd C 57 dX7_addEdges_57 ?_
    refine g_icmp_ge C 58 150 dX7_addEdges_58 (by decide) hf (fun hf => ?_) (fun hf => ?_)
    · refine g_aload_n C 150 0 dX7_addEdges_150 rfl rfl ?_
      refine g_aload_n C 151 0 dX7_addEdges_151 rfl rfl ?_
      refine g_get C 152 0 12 dX7_addEdges_152 inX7 rfl rfl (by decide) kw_165 rfl ?_
      refine g_iload C 155 5 dX7_addEdges_155 rfl ?_
      refine g_imul C 157 dX7_addEdges_157 ?_
      refine g_puti C 158 0 14 tyX7 (fun z => [oB q_t 7 [.ref q_t_open, .int t_sum, .int t_many, .ref q_t_net, .ref q_t_law, .ref q_t_plan, .ref q_t_openStates, .ref q_t_openCount, .ref q_t_picks, .ref q_t_strides, .ref q_t_sums, .ref q_t_counts, .int t_sign, .int t_changed, .int z, .int t_aim, .long t_before], oB q_t_net 4 [.ref q_t_net_loads, .ref q_t_net_near, .ref q_t_net_ties, .int t_net_size, .int t_net_edges], aI cA q_t_net_loads 14 t_net_loads, aI cA q_t_net_near 14 t_net_near, aI cA q_t_net_ties 196 t_net_ties, oB q_t_law 3 [.int t_law_size, .ref q_t_law_factors, .ref q_t_law_pairFactors, .ref q_t_law_barred, .ref q_t_law_forbidden], aI cA q_t_law_factors 4 t_law_factors, aI cA q_t_law_pairFactors 16 t_law_pairFactors, aZ cA q_t_law_barred 16 t_law_barred, oB q_t_plan 5 [.ref q_t_plan_knots, .ref q_t_plan_others, .ref q_t_plan_otherCount, .ref q_t_plan_scopes, .ref q_t_plan_users, .ref q_t_plan_feeders, .ref q_t_plan_feederCount, .int t_plan_size, .ref q_t_plan_places, .ref q_t_plan_bagMates, .ref q_t_plan_going], aI cA q_t_plan_others 56 t_plan_others, aI cA q_t_plan_otherCount 14 t_plan_otherCount, aI cA q_t_openStates 56 t_openStates, aI cA q_t_picks 14 t_picks]) dX7_addEdges_158 inX7 tyX7_ok nmX7 rfl rfl (by decide) kw_166 rfl rfl (Nat.le_of_ble_eq_true rfl) (fun _ => rfl) hf (fun t_pickedSum_10 hf => ?_)
      refine g_iconst C 161 (1 : Int32) dX7_addEdges_161 (by decide) ?_
      cases hf
      exact g_zret C 162 dX7_addEdges_162 (by decide) F ⟨rfl, rfl⟩
    · refine g_aload_n C 61 0 dX7_addEdges_61 rfl rfl ?_
      refine g_get C 62 0 5 dX7_addEdges_62 inX7 rfl rfl (by decide) kw_163 rfl ?_
      refine g_get C 65 9 1 dX7_addEdges_65 inX5 rfl rfl (by decide) kw_167 rfl ?_
      refine g_iload C 68 6 dX7_addEdges_68 rfl ?_
      refine g_iald C 70 10 dX7_addEdges_70 rfl hf (fun v11 hf => ?_)
      refine g_istore C 71 (fun z => [(7, .int z), (0, .ref q_t), (1, .int a1), (2, .int a2), (3, .int x3), (4, .int x4), (5, .int x5), (6, .int x6)]) dX7_addEdges_71 (by decide) (fun _ => rfl) hf (fun x7_12 hf => ?_)
      refine g_iload C 73 5 dX7_addEdges_73 rfl ?_
      refine g_iload C 75 0 dX7_addEdges_75 rfl ?_
      obtain ⟨u13, hu13, hf⟩ := cal_some hf
      refine g_callSN C 77 [] (rest := []) dX7_addEdges_77 (c_X8_hasBit (x_l X) cA x4 x7_12 u13 hu13) (List.mem_of_getElem? (i := 14) rfl) kw_5 kw_6 kw_7 ok_X8_hasBit ⟨Nat.le_of_ble_eq_true rfl, Nat.le_of_ble_eq_true rfl⟩ ⟨Nat.zero_le _, Nat.zero_le _⟩ ⟨rfl, rfl⟩ rfl rfl rfl (Nat.le_of_ble_eq_true rfl) rfl (ws' := [oB q_t 7 [.ref q_t_open, .int t_sum, .int t_many, .ref q_t_net, .ref q_t_law, .ref q_t_plan, .ref q_t_openStates, .ref q_t_openCount, .ref q_t_picks, .ref q_t_strides, .ref q_t_sums, .ref q_t_counts, .int t_sign, .int t_changed, .int t_pickedSum, .int t_aim, .long t_before], oB q_t_net 4 [.ref q_t_net_loads, .ref q_t_net_near, .ref q_t_net_ties, .int t_net_size, .int t_net_edges], aI cA q_t_net_loads 14 t_net_loads, aI cA q_t_net_near 14 t_net_near, aI cA q_t_net_ties 196 t_net_ties, oB q_t_law 3 [.int t_law_size, .ref q_t_law_factors, .ref q_t_law_pairFactors, .ref q_t_law_barred, .ref q_t_law_forbidden], aI cA q_t_law_factors 4 t_law_factors, aI cA q_t_law_pairFactors 16 t_law_pairFactors, aZ cA q_t_law_barred 16 t_law_barred, oB q_t_plan 5 [.ref q_t_plan_knots, .ref q_t_plan_others, .ref q_t_plan_otherCount, .ref q_t_plan_scopes, .ref q_t_plan_users, .ref q_t_plan_feeders, .ref q_t_plan_feederCount, .int t_plan_size, .ref q_t_plan_places, .ref q_t_plan_bagMates, .ref q_t_plan_going], aI cA q_t_plan_others 56 t_plan_others, aI cA q_t_plan_otherCount 14 t_plan_otherCount, aI cA q_t_openStates 56 t_openStates, aI cA q_t_picks 14 t_picks]) (st' := [.int u13]) (N0 := 14) rfl [none, none, none, none, none, none, none, none, none, none, none, none, none, none] (by decide) rfl rfl ?_
      refine g_if_ne C 80 86 dX7_addEdges_80 (by decide) hf (fun hf => ?_) (fun hf => ?_)
      · refine g_iload_n C 86 4 dX7_addEdges_86 rfl rfl ?_
        refine g_iconst C 87 (4 : Int32) dX7_addEdges_87 (by decide) ?_
        refine g_imul C 88 dX7_addEdges_88 ?_
        refine g_aload_n C 89 1 dX7_addEdges_89 rfl rfl ?_
        refine g_iload C 90 0 dX7_addEdges_90 rfl ?_
        obtain ⟨u14, hu14, hf⟩ := cal_some hf
        refine g_callV1 C 92 [0, 12, 13] 0 (rest := [.int (x3 * (4 : Int32))]) dX7_addEdges_92 (c_X7_pickedState (x_l X) cA q_t q_t_open t_sum t_many q_t_net q_t_law q_t_plan q_t_openCount q_t_strides q_t_sums q_t_counts t_sign t_changed t_pickedSum t_aim t_before q_t_openStates t_openStates q_t_picks t_picks x7_12 u14 hu14) kw_155 kw_156 kw_157 kw_158 kw_159 ok_X7_pickedState ⟨Nat.le_of_ble_eq_true rfl, Nat.le_of_ble_eq_true rfl⟩ ⟨Nat.zero_le _, Nat.zero_le _⟩ ⟨rfl, rfl⟩ rfl rfl rfl rfl rfl (Nat.le_of_ble_eq_true rfl) rfl (ws' := [oB q_t 7 [.ref q_t_open, .int t_sum, .int t_many, .ref q_t_net, .ref q_t_law, .ref q_t_plan, .ref q_t_openStates, .ref q_t_openCount, .ref q_t_picks, .ref q_t_strides, .ref q_t_sums, .ref q_t_counts, .int t_sign, .int t_changed, .int t_pickedSum, .int t_aim, .long t_before], oB q_t_net 4 [.ref q_t_net_loads, .ref q_t_net_near, .ref q_t_net_ties, .int t_net_size, .int t_net_edges], aI cA q_t_net_loads 14 t_net_loads, aI cA q_t_net_near 14 t_net_near, aI cA q_t_net_ties 196 t_net_ties, oB q_t_law 3 [.int t_law_size, .ref q_t_law_factors, .ref q_t_law_pairFactors, .ref q_t_law_barred, .ref q_t_law_forbidden], aI cA q_t_law_factors 4 t_law_factors, aI cA q_t_law_pairFactors 16 t_law_pairFactors, aZ cA q_t_law_barred 16 t_law_barred, oB q_t_plan 5 [.ref q_t_plan_knots, .ref q_t_plan_others, .ref q_t_plan_otherCount, .ref q_t_plan_scopes, .ref q_t_plan_users, .ref q_t_plan_feeders, .ref q_t_plan_feederCount, .int t_plan_size, .ref q_t_plan_places, .ref q_t_plan_bagMates, .ref q_t_plan_going], aI cA q_t_plan_others 56 t_plan_others, aI cA q_t_plan_otherCount 14 t_plan_otherCount, aI cA q_t_openStates 56 t_openStates, aI cA q_t_picks 14 t_picks]) (st' := [.int u14, .int (x3 * (4 : Int32))]) (N0 := 14) rfl [some 0, none, none, none, none, none, none, none, none, none, none, none, some 1, some 2] (by decide) rfl rfl ?_
        refine g_iadd C 95 dX7_addEdges_95 ?_
        refine g_istore C 96 (fun z => [(8, .int z), (7, .int x7_12), (0, .ref q_t), (1, .int a1), (2, .int a2), (3, .int x3), (4, .int x4), (5, .int x5), (6, .int x6)]) dX7_addEdges_96 (by decide) (fun _ => rfl) hf (fun x8_15 hf => ?_)
        refine g_aload_n C 98 2 dX7_addEdges_98 rfl rfl ?_
        refine g_get C 99 0 4 dX7_addEdges_99 inX7 rfl rfl (by decide) kw_145 rfl ?_
        refine g_get C 102 5 3 dX7_addEdges_102 inX3 rfl rfl (by decide) kw_168 rfl ?_
        refine g_iload C 105 0 dX7_addEdges_105 rfl ?_
        refine g_zald C 107 8 dX7_addEdges_107 rfl hf (fun v16 hf => ?_)
        refine g_if_eq C 108 113 dX7_addEdges_108 (by decide) hf (fun hf => ?_) (fun hf => ?_)
        · refine g_iload C 113 7 dX7_addEdges_113 rfl ?_
          refine g_aload_n C 115 2 dX7_addEdges_115 rfl rfl ?_
          refine g_get C 116 0 3 dX7_addEdges_116 inX7 rfl rfl (by decide) kw_142 rfl ?_
          refine g_get C 119 1 2 dX7_addEdges_119 inX4 rfl rfl (by decide) kw_169 rfl ?_
          refine g_iload_n C 122 4 dX7_addEdges_122 rfl rfl ?_
          refine g_bipush C 123 (14 : Int32) dX7_addEdges_123 (by decide) ?_
          refine g_imul C 125 dX7_addEdges_125 ?_
          refine g_iload C 126 1 dX7_addEdges_126 rfl ?_
          refine g_iadd C 128 dX7_addEdges_128 ?_
          refine g_iald C 129 4 dX7_addEdges_129 rfl hf (fun v17 hf => ?_)
          refine g_aload_n C 130 2 dX7_addEdges_130 rfl rfl ?_
          refine g_get C 131 0 4 dX7_addEdges_131 inX7 rfl rfl (by decide) kw_145 rfl ?_
          refine g_get C 134 5 2 dX7_addEdges_134 inX3 rfl rfl (by decide) kw_170 rfl ?_
          refine g_iload C 137 0 dX7_addEdges_137 rfl ?_
          refine g_iald C 139 7 dX7_addEdges_139 rfl hf (fun v18 hf => ?_)
          refine g_imul C 140 dX7_addEdges_140 ?_
          refine g_iadd C 141 dX7_addEdges_141 ?_
          refine g_istore C 142 (fun z => [(5, .int z), (8, .int x8_15), (7, .int x7_12), (0, .ref q_t), (1, .int a1), (2, .int a2), (3, .int x3), (4, .int x4), (6, .int x6)]) dX7_addEdges_142 (by decide) (fun _ => rfl) hf (fun x5_19 hf => ?_)
          refine g_iinc C 144 8 (v := x6 + (1 : Int32)) (fun z => [(6, .int z), (5, .int x5_19), (8, .int x8_15), (7, .int x7_12), (0, .ref q_t), (1, .int a1), (2, .int a2), (3, .int x3), (4, .int x4)]) dX7_addEdges_144 rfl rfl (by decide) (fun _ => rfl) hf (fun x6_20 hf => ?_)
          refine g_goto C 147 43 dX7_addEdges_147 (by decide) ?_
          refine g_lv [4, 5, 6, 7, 8, 1, 0] rfl ?_
          exact ih x3 x4 x5_19 x6_20 t_pickedSum hf
        · refine g_iconst C 111 (0 : Int32) dX7_addEdges_111 (by decide) ?_
          cases hf
          exact g_zret C 112 dX7_addEdges_112 (by decide) F ⟨rfl, rfl⟩
      · refine g_goto C 83 144 dX7_addEdges_83 (by decide) ?_
        refine g_iinc C 144 7 (v := x6 + (1 : Int32)) (fun z => [(6, .int z), (7, .int x7_12), (0, .ref q_t), (1, .int a1), (2, .int a2), (3, .int x3), (4, .int x4), (5, .int x5)]) dX7_addEdges_144 rfl rfl (by decide) (fun _ => rfl) hf (fun x6_21 hf => ?_)
        refine g_goto C 147 43 dX7_addEdges_147 (by decide) ?_
        refine g_lv [2, 3, 4, 5, 6, 7, 0] rfl ?_
        exact ih x3 x4 x5 x6_21 t_pickedSum hf
def f_X7_addEdges (a1 : Int32) (a2 : Int32) (t_sign : Int32) (t_pickedSum : Int32) (t_net_loads : Nat → Int32) (t_net_near : Nat → Int32) (t_net_ties : Nat → Int32) (t_law_factors : Nat → Int32) (t_law_pairFactors : Nat → Int32) (t_law_barred : Nat → Int32) (t_plan_others : Nat → Int32) (t_plan_otherCount : Nat → Int32) (t_openStates : Nat → Int32) (t_picks : Nat → Int32) : Option (Int32 × Int32) :=
  cal (f_X7_pickedState a2 t_openStates t_picks) fun u1 =>
  bnd u1 fun x3_2 =>
  ldA t_net_near 14 a2 fun v3 =>
  bnd v3 fun x4_4 =>
  ldA t_net_loads 14 a2 fun v5 =>
  ldA t_law_factors 4 x3_2 fun v6 =>
  bnd (v5 * v6) fun x5_7 =>
  bnd (a1 * (4 : Int32)) fun x6_8 =>
  L_X7_addEdges_43 a1 a2 t_sign t_net_loads t_net_near t_net_ties t_law_factors t_law_pairFactors t_law_barred t_plan_others t_plan_otherCount t_openStates t_picks NN x3_2 x4_4 x5_7 x6_8 t_pickedSum

set_option maxRecDepth 100000 in
set_option maxHeartbeats 1000000 in
theorem c_X7_addEdges (l : Launch) (cA : Nat → ClassId) (q_t : Nat) (q_t_open : Nat) (t_sum : Int32) (t_many : Int32) (q_t_openCount : Nat) (q_t_strides : Nat) (q_t_sums : Nat) (q_t_counts : Nat) (t_sign : Int32) (t_changed : Int32) (t_pickedSum : Int32) (t_aim : Int32) (t_before : Int64) (q_t_net : Nat) (t_net_size : Int32) (t_net_edges : Int32) (q_t_net_loads : Nat) (t_net_loads : Nat → Int32) (q_t_net_near : Nat) (t_net_near : Nat → Int32) (q_t_net_ties : Nat) (t_net_ties : Nat → Int32) (q_t_law : Nat) (t_law_size : Int32) (q_t_law_forbidden : Nat) (q_t_law_factors : Nat) (t_law_factors : Nat → Int32) (q_t_law_pairFactors : Nat) (t_law_pairFactors : Nat → Int32) (q_t_law_barred : Nat) (t_law_barred : Nat → Int32) (q_t_plan : Nat) (q_t_plan_knots : Nat) (q_t_plan_scopes : Nat) (q_t_plan_users : Nat) (q_t_plan_feeders : Nat) (q_t_plan_feederCount : Nat) (t_plan_size : Int32) (q_t_plan_places : Nat) (q_t_plan_bagMates : Nat) (q_t_plan_going : Nat) (q_t_plan_others : Nat) (t_plan_others : Nat → Int32) (q_t_plan_otherCount : Nat) (t_plan_otherCount : Nat → Int32) (q_t_openStates : Nat) (t_openStates : Nat → Int32) (q_t_picks : Nat) (t_picks : Nat → Int32) (a1 : Int32) (a2 : Int32) (r : Int32 × Int32) (hf : f_X7_addEdges a1 a2 t_sign t_pickedSum t_net_loads t_net_near t_net_ties t_law_factors t_law_pairFactors t_law_barred t_plan_others t_plan_otherCount t_openStates t_picks = some r) : MT l cA yX7_addEdges cX7_addEdges 9 (some .boolean) ({ frames := 1, cells := 0, slots := 0, locals := 21 } : Room) [.ref q_t, .int a1, .int a2] [oB q_t 7 [.ref q_t_open, .int t_sum, .int t_many, .ref q_t_net, .ref q_t_law, .ref q_t_plan, .ref q_t_openStates, .ref q_t_openCount, .ref q_t_picks, .ref q_t_strides, .ref q_t_sums, .ref q_t_counts, .int t_sign, .int t_changed, .int t_pickedSum, .int t_aim, .long t_before], oB q_t_net 4 [.ref q_t_net_loads, .ref q_t_net_near, .ref q_t_net_ties, .int t_net_size, .int t_net_edges], aI cA q_t_net_loads 14 t_net_loads, aI cA q_t_net_near 14 t_net_near, aI cA q_t_net_ties 196 t_net_ties, oB q_t_law 3 [.int t_law_size, .ref q_t_law_factors, .ref q_t_law_pairFactors, .ref q_t_law_barred, .ref q_t_law_forbidden], aI cA q_t_law_factors 4 t_law_factors, aI cA q_t_law_pairFactors 16 t_law_pairFactors, aZ cA q_t_law_barred 16 t_law_barred, oB q_t_plan 5 [.ref q_t_plan_knots, .ref q_t_plan_others, .ref q_t_plan_otherCount, .ref q_t_plan_scopes, .ref q_t_plan_users, .ref q_t_plan_feeders, .ref q_t_plan_feederCount, .int t_plan_size, .ref q_t_plan_places, .ref q_t_plan_bagMates, .ref q_t_plan_going], aI cA q_t_plan_others 56 t_plan_others, aI cA q_t_plan_otherCount 14 t_plan_otherCount, aI cA q_t_openStates 56 t_openStates, aI cA q_t_picks 14 t_picks] (sB (some (.int r.1)) [oB q_t 7 [.ref q_t_open, .int t_sum, .int t_many, .ref q_t_net, .ref q_t_law, .ref q_t_plan, .ref q_t_openStates, .ref q_t_openCount, .ref q_t_picks, .ref q_t_strides, .ref q_t_sums, .ref q_t_counts, .int t_sign, .int t_changed, .int r.2, .int t_aim, .long t_before], oB q_t_net 4 [.ref q_t_net_loads, .ref q_t_net_near, .ref q_t_net_ties, .int t_net_size, .int t_net_edges], aI cA q_t_net_loads 14 t_net_loads, aI cA q_t_net_near 14 t_net_near, aI cA q_t_net_ties 196 t_net_ties, oB q_t_law 3 [.int t_law_size, .ref q_t_law_factors, .ref q_t_law_pairFactors, .ref q_t_law_barred, .ref q_t_law_forbidden], aI cA q_t_law_factors 4 t_law_factors, aI cA q_t_law_pairFactors 16 t_law_pairFactors, aZ cA q_t_law_barred 16 t_law_barred, oB q_t_plan 5 [.ref q_t_plan_knots, .ref q_t_plan_others, .ref q_t_plan_otherCount, .ref q_t_plan_scopes, .ref q_t_plan_users, .ref q_t_plan_feeders, .ref q_t_plan_feederCount, .int t_plan_size, .ref q_t_plan_places, .ref q_t_plan_bagMates, .ref q_t_plan_going], aI cA q_t_plan_others 56 t_plan_others, aI cA q_t_plan_otherCount 14 t_plan_otherCount, aI cA q_t_openStates 56 t_openStates, aI cA q_t_picks 14 t_picks]) := by
  refine MT.of (by decide) (Nat.le_of_ble_eq_true rfl) ?_
  intro X hXl C F hnm hrc hrs
  subst hXl
  unfold f_X7_addEdges at hf
  have C : Cx X cX7_addEdges RX7 (some .boolean) cA 1 21 9 := C
  show Go X 9 0 0 0 [oB q_t 7 [.ref q_t_open, .int t_sum, .int t_many, .ref q_t_net, .ref q_t_law, .ref q_t_plan, .ref q_t_openStates, .ref q_t_openCount, .ref q_t_picks, .ref q_t_strides, .ref q_t_sums, .ref q_t_counts, .int t_sign, .int t_changed, .int t_pickedSum, .int t_aim, .long t_before], oB q_t_net 4 [.ref q_t_net_loads, .ref q_t_net_near, .ref q_t_net_ties, .int t_net_size, .int t_net_edges], aI cA q_t_net_loads 14 t_net_loads, aI cA q_t_net_near 14 t_net_near, aI cA q_t_net_ties 196 t_net_ties, oB q_t_law 3 [.int t_law_size, .ref q_t_law_factors, .ref q_t_law_pairFactors, .ref q_t_law_barred, .ref q_t_law_forbidden], aI cA q_t_law_factors 4 t_law_factors, aI cA q_t_law_pairFactors 16 t_law_pairFactors, aZ cA q_t_law_barred 16 t_law_barred, oB q_t_plan 5 [.ref q_t_plan_knots, .ref q_t_plan_others, .ref q_t_plan_otherCount, .ref q_t_plan_scopes, .ref q_t_plan_users, .ref q_t_plan_feeders, .ref q_t_plan_feederCount, .int t_plan_size, .ref q_t_plan_places, .ref q_t_plan_bagMates, .ref q_t_plan_going], aI cA q_t_plan_others 56 t_plan_others, aI cA q_t_plan_otherCount 14 t_plan_otherCount, aI cA q_t_openStates 56 t_openStates, aI cA q_t_picks 14 t_picks] [(0, .ref q_t), (1, .int a1), (2, .int a2)] []
  refine g_aload_n C 0 0 dX7_addEdges_0 rfl rfl ?_
  refine g_iload_n C 1 2 dX7_addEdges_1 rfl rfl ?_
  obtain ⟨u1, hu1, hf⟩ := cal_some hf
  refine g_callV1 C 2 [0, 12, 13] 0 (rest := []) dX7_addEdges_2 (c_X7_pickedState (x_l X) cA q_t q_t_open t_sum t_many q_t_net q_t_law q_t_plan q_t_openCount q_t_strides q_t_sums q_t_counts t_sign t_changed t_pickedSum t_aim t_before q_t_openStates t_openStates q_t_picks t_picks a2 u1 hu1) kw_155 kw_156 kw_157 kw_158 kw_159 ok_X7_pickedState ⟨Nat.le_of_ble_eq_true rfl, Nat.le_of_ble_eq_true rfl⟩ ⟨Nat.zero_le _, Nat.zero_le _⟩ ⟨rfl, rfl⟩ rfl rfl rfl rfl rfl (Nat.le_of_ble_eq_true rfl) rfl (ws' := [oB q_t 7 [.ref q_t_open, .int t_sum, .int t_many, .ref q_t_net, .ref q_t_law, .ref q_t_plan, .ref q_t_openStates, .ref q_t_openCount, .ref q_t_picks, .ref q_t_strides, .ref q_t_sums, .ref q_t_counts, .int t_sign, .int t_changed, .int t_pickedSum, .int t_aim, .long t_before], oB q_t_net 4 [.ref q_t_net_loads, .ref q_t_net_near, .ref q_t_net_ties, .int t_net_size, .int t_net_edges], aI cA q_t_net_loads 14 t_net_loads, aI cA q_t_net_near 14 t_net_near, aI cA q_t_net_ties 196 t_net_ties, oB q_t_law 3 [.int t_law_size, .ref q_t_law_factors, .ref q_t_law_pairFactors, .ref q_t_law_barred, .ref q_t_law_forbidden], aI cA q_t_law_factors 4 t_law_factors, aI cA q_t_law_pairFactors 16 t_law_pairFactors, aZ cA q_t_law_barred 16 t_law_barred, oB q_t_plan 5 [.ref q_t_plan_knots, .ref q_t_plan_others, .ref q_t_plan_otherCount, .ref q_t_plan_scopes, .ref q_t_plan_users, .ref q_t_plan_feeders, .ref q_t_plan_feederCount, .int t_plan_size, .ref q_t_plan_places, .ref q_t_plan_bagMates, .ref q_t_plan_going], aI cA q_t_plan_others 56 t_plan_others, aI cA q_t_plan_otherCount 14 t_plan_otherCount, aI cA q_t_openStates 56 t_openStates, aI cA q_t_picks 14 t_picks]) (st' := [.int u1]) (N0 := 14) rfl [some 0, none, none, none, none, none, none, none, none, none, none, none, some 1, some 2] (by decide) rfl rfl ?_
  refine g_istore_n C 5 (fun z => [(3, .int z), (0, .ref q_t), (1, .int a1), (2, .int a2)]) dX7_addEdges_5 rfl (by decide) (fun _ => rfl) hf (fun x3_2 hf => ?_)
  refine g_aload_n C 6 1 dX7_addEdges_6 rfl rfl ?_
  refine g_get C 7 0 3 dX7_addEdges_7 inX7 rfl rfl (by decide) kw_142 rfl ?_
  refine g_get C 10 1 1 dX7_addEdges_10 inX4 rfl rfl (by decide) kw_160 rfl ?_
  refine g_iload_n C 13 3 dX7_addEdges_13 rfl rfl ?_
  refine g_iald C 14 3 dX7_addEdges_14 rfl hf (fun v3 hf => ?_)
  refine g_istore C 15 (fun z => [(4, .int z), (3, .int x3_2), (0, .ref q_t), (1, .int a1), (2, .int a2)]) dX7_addEdges_15 (by decide) (fun _ => rfl) hf (fun x4_4 hf => ?_)
  refine g_aload_n C 17 2 dX7_addEdges_17 rfl rfl ?_
  refine g_get C 18 0 3 dX7_addEdges_18 inX7 rfl rfl (by decide) kw_142 rfl ?_
  refine g_get C 21 1 0 dX7_addEdges_21 inX4 rfl rfl (by decide) kw_161 rfl ?_
  refine g_iload_n C 24 4 dX7_addEdges_24 rfl rfl ?_
  refine g_iald C 25 2 dX7_addEdges_25 rfl hf (fun v5 hf => ?_)
  refine g_aload_n C 26 2 dX7_addEdges_26 rfl rfl ?_
  refine g_get C 27 0 4 dX7_addEdges_27 inX7 rfl rfl (by decide) kw_145 rfl ?_
  refine g_get C 30 5 1 dX7_addEdges_30 inX3 rfl rfl (by decide) kw_162 rfl ?_
  refine g_iload_n C 33 1 dX7_addEdges_33 rfl rfl ?_
  refine g_iald C 34 6 dX7_addEdges_34 rfl hf (fun v6 hf => ?_)
  refine g_imul C 35 dX7_addEdges_35 ?_
  refine g_istore C 36 (fun z => [(5, .int z), (4, .int x4_4), (3, .int x3_2), (0, .ref q_t), (1, .int a1), (2, .int a2)]) dX7_addEdges_36 (by decide) (fun _ => rfl) hf (fun x5_7 hf => ?_)
  refine g_iload_n C 38 4 dX7_addEdges_38 rfl rfl ?_
  refine g_iconst C 39 (4 : Int32) dX7_addEdges_39 (by decide) ?_
  refine g_imul C 40 dX7_addEdges_40 ?_
  refine g_istore C 41 (fun z => [(6, .int z), (5, .int x5_7), (4, .int x4_4), (3, .int x3_2), (0, .ref q_t), (1, .int a1), (2, .int a2)]) dX7_addEdges_41 (by decide) (fun _ => rfl) hf (fun x6_8 hf => ?_)
  refine g_lv [4, 5, 6, 3, 2, 1, 0] rfl ?_
  exact w_X7_addEdges_43 cA q_t q_t_open t_sum t_many q_t_openCount q_t_strides q_t_sums q_t_counts t_changed t_aim t_before q_t_net t_net_size t_net_edges q_t_net_loads q_t_net_near q_t_net_ties q_t_law t_law_size q_t_law_forbidden q_t_law_factors q_t_law_pairFactors q_t_law_barred q_t_plan q_t_plan_knots q_t_plan_scopes q_t_plan_users q_t_plan_feeders q_t_plan_feederCount t_plan_size q_t_plan_places q_t_plan_bagMates q_t_plan_going q_t_plan_others q_t_plan_otherCount q_t_openStates q_t_picks a1 a2 t_sign t_net_loads t_net_near t_net_ties t_law_factors t_law_pairFactors t_law_barred t_plan_others t_plan_otherCount t_openStates t_picks C r F NN x3_2 x4_4 x5_7 x6_8 t_pickedSum hf

def L_X7_entryOf_10 (a1 : Int32) (t_plan_others : Nat → Int32) (t_plan_otherCount : Nat → Int32) (t_picks : Nat → Int32) (t_strides : Nat → Int32)  : Nat → Int32 → Int32 → Option (Int32)
  | 0, _, _ => none
  | n + 1, x2, x3 =>
    ldA t_plan_otherCount 14 a1 fun v3 =>
    if ((a1 * (4 : Int32)) + v3) ≤ x3 then
      some (x2)
    else
      ldA t_plan_others 56 x3 fun v4 =>
      ldA t_picks 14 v4 fun v5 =>
      ldA t_strides 56 x3 fun v6 =>
      bnd (x2 + (v5 * v6)) fun x2_7 =>
      bnd (x3 + (1 : Int32)) fun x3_8 =>
      L_X7_entryOf_10 a1 t_plan_others t_plan_otherCount t_picks t_strides n x2_7 x3_8

set_option maxRecDepth 100000 in
set_option maxHeartbeats 1000000 in
theorem w_X7_entryOf_10 (cA : Nat → ClassId) (q_t : Nat) (q_t_open : Nat) (t_sum : Int32) (t_many : Int32) (q_t_net : Nat) (q_t_law : Nat) (q_t_openStates : Nat) (q_t_openCount : Nat) (q_t_sums : Nat) (q_t_counts : Nat) (t_sign : Int32) (t_changed : Int32) (t_pickedSum : Int32) (t_aim : Int32) (t_before : Int64) (q_t_plan : Nat) (q_t_plan_knots : Nat) (q_t_plan_scopes : Nat) (q_t_plan_users : Nat) (q_t_plan_feeders : Nat) (q_t_plan_feederCount : Nat) (t_plan_size : Int32) (q_t_plan_places : Nat) (q_t_plan_bagMates : Nat) (q_t_plan_going : Nat) (q_t_plan_others : Nat) (q_t_plan_otherCount : Nat) (q_t_picks : Nat) (q_t_strides : Nat) (a1 : Int32) (t_plan_others : Nat → Int32) (t_plan_otherCount : Nat → Int32) (t_picks : Nat → Int32) (t_strides : Nat → Int32) {X : XT} (C : Cx X cX7_entryOf RX7 (some .int) cA 0 0 4) (r : Int32) (F : Fx X (sB (some (.int r)) [oB q_t 7 [.ref q_t_open, .int t_sum, .int t_many, .ref q_t_net, .ref q_t_law, .ref q_t_plan, .ref q_t_openStates, .ref q_t_openCount, .ref q_t_picks, .ref q_t_strides, .ref q_t_sums, .ref q_t_counts, .int t_sign, .int t_changed, .int t_pickedSum, .int t_aim, .long t_before], oB q_t_plan 5 [.ref q_t_plan_knots, .ref q_t_plan_others, .ref q_t_plan_otherCount, .ref q_t_plan_scopes, .ref q_t_plan_users, .ref q_t_plan_feeders, .ref q_t_plan_feederCount, .int t_plan_size, .ref q_t_plan_places, .ref q_t_plan_bagMates, .ref q_t_plan_going], aI cA q_t_plan_others 56 t_plan_others, aI cA q_t_plan_otherCount 14 t_plan_otherCount, aI cA q_t_picks 14 t_picks, aI cA q_t_strides 56 t_strides]) 0 0)  : ∀ (n : Nat) (x2 : Int32) (x3 : Int32), L_X7_entryOf_10 a1 t_plan_others t_plan_otherCount t_picks t_strides n x2 x3 = some r → Go X 4 0 0 10 [oB q_t 7 [.ref q_t_open, .int t_sum, .int t_many, .ref q_t_net, .ref q_t_law, .ref q_t_plan, .ref q_t_openStates, .ref q_t_openCount, .ref q_t_picks, .ref q_t_strides, .ref q_t_sums, .ref q_t_counts, .int t_sign, .int t_changed, .int t_pickedSum, .int t_aim, .long t_before], oB q_t_plan 5 [.ref q_t_plan_knots, .ref q_t_plan_others, .ref q_t_plan_otherCount, .ref q_t_plan_scopes, .ref q_t_plan_users, .ref q_t_plan_feeders, .ref q_t_plan_feederCount, .int t_plan_size, .ref q_t_plan_places, .ref q_t_plan_bagMates, .ref q_t_plan_going], aI cA q_t_plan_others 56 t_plan_others, aI cA q_t_plan_otherCount 14 t_plan_otherCount, aI cA q_t_picks 14 t_picks, aI cA q_t_strides 56 t_strides] [(0, .ref q_t), (1, .int a1), (2, .int x2), (3, .int x3)] [] := by
  intro n
  induction n with
  | zero => intro x2 x3 hf; exact no_some hf
  | succ n ih =>
    intro x2 x3 hf
    rw [L_X7_entryOf_10] at hf
    refine g_iload_n C 10 3 dX7_entryOf_10 rfl rfl ?_
    refine g_iload_n C 11 1 dX7_entryOf_11 rfl rfl ?_
    refine g_iconst C 12 (4 : Int32) dX7_entryOf_12 (by decide) ?_
    refine g_imul C 13 dX7_entryOf_13 ?_
    refine g_aload_n C 14 0 dX7_entryOf_14 rfl rfl ?_
    refine g_get C 15 0 5 dX7_entryOf_15 inX7 rfl rfl (by decide) kw_163 rfl ?_
    refine g_get C 18 1 2 dX7_entryOf_18 inX5 rfl rfl (by decide) kw_164 rfl ?_
    refine g_iload_n C 21 1 dX7_entryOf_21 rfl rfl ?_
    refine g_iald C 22 3 dX7_entryOf_22 rfl hf (fun v3 hf => ?_)
    refine g_iadd C 23 dX7_entryOf_23 ?_
    refine g_icmp_ge C 24 57 dX7_entryOf_24 (by decide) hf (fun hf => ?_) (fun hf => ?_)
    · refine g_iload_n C 57 2 dX7_entryOf_57 rfl rfl ?_
      cases hf
      exact g_iret C 58 dX7_entryOf_58 F ⟨rfl, rfl⟩
    · refine g_iload_n C 27 2 dX7_entryOf_27 rfl rfl ?_
      refine g_aload_n C 28 0 dX7_entryOf_28 rfl rfl ?_
      refine g_get C 29 0 8 dX7_entryOf_29 inX7 rfl rfl (by decide) kw_154 rfl ?_
      refine g_aload_n C 32 0 dX7_entryOf_32 rfl rfl ?_
      refine g_get C 33 0 5 dX7_entryOf_33 inX7 rfl rfl (by decide) kw_163 rfl ?_
      refine g_get C 36 1 1 dX7_entryOf_36 inX5 rfl rfl (by decide) kw_167 rfl ?_
      refine g_iload_n C 39 3 dX7_entryOf_39 rfl rfl ?_
      refine g_iald C 40 2 dX7_entryOf_40 rfl hf (fun v4 hf => ?_)
      refine g_iald C 41 4 dX7_entryOf_41 rfl hf (fun v5 hf => ?_)
      refine g_aload_n C 42 0 dX7_entryOf_42 rfl rfl ?_
      refine g_get C 43 0 9 dX7_entryOf_43 inX7 rfl rfl (by decide) kw_171 rfl ?_
      refine g_iload_n C 46 3 dX7_entryOf_46 rfl rfl ?_
      refine g_iald C 47 5 dX7_entryOf_47 rfl hf (fun v6 hf => ?_)
      refine g_imul C 48 dX7_entryOf_48 ?_
      refine g_iadd C 49 dX7_entryOf_49 ?_
      refine g_istore_n C 50 (fun z => [(2, .int z), (0, .ref q_t), (1, .int a1), (3, .int x3)]) dX7_entryOf_50 rfl (by decide) (fun _ => rfl) hf (fun x2_7 hf => ?_)
      refine g_iinc C 51 3 (v := x3 + (1 : Int32)) (fun z => [(3, .int z), (2, .int x2_7), (0, .ref q_t), (1, .int a1)]) dX7_entryOf_51 rfl rfl (by decide) (fun _ => rfl) hf (fun x3_8 hf => ?_)
      refine g_goto C 54 10 dX7_entryOf_54 (by decide) ?_
      refine g_lv [2, 3, 1, 0] rfl ?_
      exact ih x2_7 x3_8 hf
def f_X7_entryOf (a1 : Int32) (t_plan_others : Nat → Int32) (t_plan_otherCount : Nat → Int32) (t_picks : Nat → Int32) (t_strides : Nat → Int32) : Option (Int32) :=
  bnd (a1 * (256 : Int32)) fun x2_1 =>
  bnd (a1 * (4 : Int32)) fun x3_2 =>
  L_X7_entryOf_10 a1 t_plan_others t_plan_otherCount t_picks t_strides NN x2_1 x3_2

set_option maxRecDepth 100000 in
set_option maxHeartbeats 1000000 in
theorem c_X7_entryOf (l : Launch) (cA : Nat → ClassId) (q_t : Nat) (q_t_open : Nat) (t_sum : Int32) (t_many : Int32) (q_t_net : Nat) (q_t_law : Nat) (q_t_openStates : Nat) (q_t_openCount : Nat) (q_t_sums : Nat) (q_t_counts : Nat) (t_sign : Int32) (t_changed : Int32) (t_pickedSum : Int32) (t_aim : Int32) (t_before : Int64) (q_t_plan : Nat) (q_t_plan_knots : Nat) (q_t_plan_scopes : Nat) (q_t_plan_users : Nat) (q_t_plan_feeders : Nat) (q_t_plan_feederCount : Nat) (t_plan_size : Int32) (q_t_plan_places : Nat) (q_t_plan_bagMates : Nat) (q_t_plan_going : Nat) (q_t_plan_others : Nat) (t_plan_others : Nat → Int32) (q_t_plan_otherCount : Nat) (t_plan_otherCount : Nat → Int32) (q_t_picks : Nat) (t_picks : Nat → Int32) (q_t_strides : Nat) (t_strides : Nat → Int32) (a1 : Int32) (r : Int32) (hf : f_X7_entryOf a1 t_plan_others t_plan_otherCount t_picks t_strides = some r) : MT l cA yX7_entryOf cX7_entryOf 4 (some .int) ({ frames := 0, cells := 0, slots := 0, locals := 0 } : Room) [.ref q_t, .int a1] [oB q_t 7 [.ref q_t_open, .int t_sum, .int t_many, .ref q_t_net, .ref q_t_law, .ref q_t_plan, .ref q_t_openStates, .ref q_t_openCount, .ref q_t_picks, .ref q_t_strides, .ref q_t_sums, .ref q_t_counts, .int t_sign, .int t_changed, .int t_pickedSum, .int t_aim, .long t_before], oB q_t_plan 5 [.ref q_t_plan_knots, .ref q_t_plan_others, .ref q_t_plan_otherCount, .ref q_t_plan_scopes, .ref q_t_plan_users, .ref q_t_plan_feeders, .ref q_t_plan_feederCount, .int t_plan_size, .ref q_t_plan_places, .ref q_t_plan_bagMates, .ref q_t_plan_going], aI cA q_t_plan_others 56 t_plan_others, aI cA q_t_plan_otherCount 14 t_plan_otherCount, aI cA q_t_picks 14 t_picks, aI cA q_t_strides 56 t_strides] (sB (some (.int r)) [oB q_t 7 [.ref q_t_open, .int t_sum, .int t_many, .ref q_t_net, .ref q_t_law, .ref q_t_plan, .ref q_t_openStates, .ref q_t_openCount, .ref q_t_picks, .ref q_t_strides, .ref q_t_sums, .ref q_t_counts, .int t_sign, .int t_changed, .int t_pickedSum, .int t_aim, .long t_before], oB q_t_plan 5 [.ref q_t_plan_knots, .ref q_t_plan_others, .ref q_t_plan_otherCount, .ref q_t_plan_scopes, .ref q_t_plan_users, .ref q_t_plan_feeders, .ref q_t_plan_feederCount, .int t_plan_size, .ref q_t_plan_places, .ref q_t_plan_bagMates, .ref q_t_plan_going], aI cA q_t_plan_others 56 t_plan_others, aI cA q_t_plan_otherCount 14 t_plan_otherCount, aI cA q_t_picks 14 t_picks, aI cA q_t_strides 56 t_strides]) := by
  refine MT.of (by decide) (Nat.le_of_ble_eq_true rfl) ?_
  intro X hXl C F hnm hrc hrs
  subst hXl
  unfold f_X7_entryOf at hf
  have C : Cx X cX7_entryOf RX7 (some .int) cA 0 0 4 := C
  show Go X 4 0 0 0 [oB q_t 7 [.ref q_t_open, .int t_sum, .int t_many, .ref q_t_net, .ref q_t_law, .ref q_t_plan, .ref q_t_openStates, .ref q_t_openCount, .ref q_t_picks, .ref q_t_strides, .ref q_t_sums, .ref q_t_counts, .int t_sign, .int t_changed, .int t_pickedSum, .int t_aim, .long t_before], oB q_t_plan 5 [.ref q_t_plan_knots, .ref q_t_plan_others, .ref q_t_plan_otherCount, .ref q_t_plan_scopes, .ref q_t_plan_users, .ref q_t_plan_feeders, .ref q_t_plan_feederCount, .int t_plan_size, .ref q_t_plan_places, .ref q_t_plan_bagMates, .ref q_t_plan_going], aI cA q_t_plan_others 56 t_plan_others, aI cA q_t_plan_otherCount 14 t_plan_otherCount, aI cA q_t_picks 14 t_picks, aI cA q_t_strides 56 t_strides] [(0, .ref q_t), (1, .int a1)] []
  refine g_iload_n C 0 1 dX7_entryOf_0 rfl rfl ?_
  refine g_sipush C 1 (256 : Int32) dX7_entryOf_1 (by decide) ?_
  refine g_imul C 4 dX7_entryOf_4 ?_
  refine g_istore_n C 5 (fun z => [(2, .int z), (0, .ref q_t), (1, .int a1)]) dX7_entryOf_5 rfl (by decide) (fun _ => rfl) hf (fun x2_1 hf => ?_)
  refine g_iload_n C 6 2 dX7_entryOf_6 rfl rfl ?_
  refine g_iconst C 7 (4 : Int32) dX7_entryOf_7 (by decide) ?_
  refine g_imul C 8 dX7_entryOf_8 ?_
  refine g_istore_n C 9 (fun z => [(3, .int z), (2, .int x2_1), (0, .ref q_t), (1, .int a1)]) dX7_entryOf_9 rfl (by decide) (fun _ => rfl) hf (fun x3_2 hf => ?_)
  refine g_lv [2, 3, 1, 0] rfl ?_
  exact w_X7_entryOf_10 cA q_t q_t_open t_sum t_many q_t_net q_t_law q_t_openStates q_t_openCount q_t_sums q_t_counts t_sign t_changed t_pickedSum t_aim t_before q_t_plan q_t_plan_knots q_t_plan_scopes q_t_plan_users q_t_plan_feeders q_t_plan_feederCount t_plan_size q_t_plan_places q_t_plan_bagMates q_t_plan_going q_t_plan_others q_t_plan_otherCount q_t_picks q_t_strides a1 t_plan_others t_plan_otherCount t_picks t_strides C r F NN x2_1 x3_2 hf

def L_X7_addTables_4 (a1 : Int32) (t_plan_others : Nat → Int32) (t_plan_otherCount : Nat → Int32) (t_plan_feeders : Nat → Int32) (t_plan_feederCount : Nat → Int32) (t_picks : Nat → Int32) (t_strides : Nat → Int32) (t_sums : Nat → Int32) (t_counts : Nat → Int32)  : Nat → Int32 → Int32 → Int32 → Option (Int32 × Int32)
  | 0, _, _, _ => none
  | n + 1, x2, x3, t_pickedSum =>
    ldA t_plan_feederCount 14 a1 fun v3 =>
    if v3 ≤ x3 then
      some (x2, t_pickedSum)
    else
      ldA t_plan_feeders 196 ((a1 * (14 : Int32)) + x3) fun v4 =>
      cal (f_X7_entryOf v4 t_plan_others t_plan_otherCount t_picks t_strides) fun u5 =>
      bnd u5 fun x4_6 =>
      ldA t_counts 3584 x4_6 fun v7 =>
      if v7 = 0 then
        some ((0 : Int32), t_pickedSum)
      else
        ldA t_counts 3584 x4_6 fun v8 =>
        bnd (x2 * v8) fun x2_9 =>
        ldA t_sums 3584 x4_6 fun v10 =>
        bnd (t_pickedSum + v10) fun t_pickedSum_11 =>
        bnd (x3 + (1 : Int32)) fun x3_12 =>
        L_X7_addTables_4 a1 t_plan_others t_plan_otherCount t_plan_feeders t_plan_feederCount t_picks t_strides t_sums t_counts n x2_9 x3_12 t_pickedSum_11

set_option maxRecDepth 100000 in
set_option maxHeartbeats 1000000 in
theorem w_X7_addTables_4 (cA : Nat → ClassId) (q_t : Nat) (q_t_open : Nat) (t_sum : Int32) (t_many : Int32) (q_t_net : Nat) (q_t_law : Nat) (q_t_openStates : Nat) (q_t_openCount : Nat) (t_sign : Int32) (t_changed : Int32) (t_aim : Int32) (t_before : Int64) (q_t_plan : Nat) (q_t_plan_knots : Nat) (q_t_plan_scopes : Nat) (q_t_plan_users : Nat) (t_plan_size : Int32) (q_t_plan_places : Nat) (q_t_plan_bagMates : Nat) (q_t_plan_going : Nat) (q_t_plan_others : Nat) (q_t_plan_otherCount : Nat) (q_t_plan_feeders : Nat) (q_t_plan_feederCount : Nat) (q_t_picks : Nat) (q_t_strides : Nat) (q_t_sums : Nat) (q_t_counts : Nat) (a1 : Int32) (t_plan_others : Nat → Int32) (t_plan_otherCount : Nat → Int32) (t_plan_feeders : Nat → Int32) (t_plan_feederCount : Nat → Int32) (t_picks : Nat → Int32) (t_strides : Nat → Int32) (t_sums : Nat → Int32) (t_counts : Nat → Int32) {X : XT} (C : Cx X cX7_addTables RX7 (some .int) cA 1 23 5) (r : Int32 × Int32) (F : Fx X (sB (some (.int r.1)) [oB q_t 7 [.ref q_t_open, .int t_sum, .int t_many, .ref q_t_net, .ref q_t_law, .ref q_t_plan, .ref q_t_openStates, .ref q_t_openCount, .ref q_t_picks, .ref q_t_strides, .ref q_t_sums, .ref q_t_counts, .int t_sign, .int t_changed, .int r.2, .int t_aim, .long t_before], oB q_t_plan 5 [.ref q_t_plan_knots, .ref q_t_plan_others, .ref q_t_plan_otherCount, .ref q_t_plan_scopes, .ref q_t_plan_users, .ref q_t_plan_feeders, .ref q_t_plan_feederCount, .int t_plan_size, .ref q_t_plan_places, .ref q_t_plan_bagMates, .ref q_t_plan_going], aI cA q_t_plan_others 56 t_plan_others, aI cA q_t_plan_otherCount 14 t_plan_otherCount, aI cA q_t_plan_feeders 196 t_plan_feeders, aI cA q_t_plan_feederCount 14 t_plan_feederCount, aI cA q_t_picks 14 t_picks, aI cA q_t_strides 56 t_strides, aI cA q_t_sums 3584 t_sums, aI cA q_t_counts 3584 t_counts]) 0 0)  : ∀ (n : Nat) (x2 : Int32) (x3 : Int32) (t_pickedSum : Int32), L_X7_addTables_4 a1 t_plan_others t_plan_otherCount t_plan_feeders t_plan_feederCount t_picks t_strides t_sums t_counts n x2 x3 t_pickedSum = some r → Go X 5 0 0 4 [oB q_t 7 [.ref q_t_open, .int t_sum, .int t_many, .ref q_t_net, .ref q_t_law, .ref q_t_plan, .ref q_t_openStates, .ref q_t_openCount, .ref q_t_picks, .ref q_t_strides, .ref q_t_sums, .ref q_t_counts, .int t_sign, .int t_changed, .int t_pickedSum, .int t_aim, .long t_before], oB q_t_plan 5 [.ref q_t_plan_knots, .ref q_t_plan_others, .ref q_t_plan_otherCount, .ref q_t_plan_scopes, .ref q_t_plan_users, .ref q_t_plan_feeders, .ref q_t_plan_feederCount, .int t_plan_size, .ref q_t_plan_places, .ref q_t_plan_bagMates, .ref q_t_plan_going], aI cA q_t_plan_others 56 t_plan_others, aI cA q_t_plan_otherCount 14 t_plan_otherCount, aI cA q_t_plan_feeders 196 t_plan_feeders, aI cA q_t_plan_feederCount 14 t_plan_feederCount, aI cA q_t_picks 14 t_picks, aI cA q_t_strides 56 t_strides, aI cA q_t_sums 3584 t_sums, aI cA q_t_counts 3584 t_counts] [(0, .ref q_t), (1, .int a1), (2, .int x2), (3, .int x3)] [] := by
  intro n
  induction n with
  | zero => intro x2 x3 t_pickedSum hf; exact no_some hf
  | succ n ih =>
    intro x2 x3 t_pickedSum hf
    rw [L_X7_addTables_4] at hf
    refine g_iload_n C 4 3 dX7_addTables_4 rfl rfl ?_
    refine g_aload_n C 5 0 dX7_addTables_5 rfl rfl ?_
    refine g_get C 6 0 5 dX7_addTables_6 inX7 rfl rfl (by decide) kw_163 rfl ?_
    refine g_get C 9 1 6 dX7_addTables_9 inX5 rfl rfl (by decide) kw_172 rfl ?_
    refine g_iload_n C 12 1 dX7_addTables_12 rfl rfl ?_
    refine g_iald C 13 5 dX7_addTables_13 rfl hf (fun v3 hf => ?_)
    refine g_icmp_ge C 14 81 dX7_addTables_14 (by decide) hf (fun hf => ?_) (fun hf => ?_)
    · refine g_iload_n C 81 2 dX7_addTables_81 rfl rfl ?_
      cases hf
      exact g_iret C 82 dX7_addTables_82 F ⟨rfl, rfl⟩
    · refine g_aload_n C 17 0 dX7_addTables_17 rfl rfl ?_
      refine g_aload_n C 18 0 dX7_addTables_18 rfl rfl ?_
      refine g_get C 19 0 5 dX7_addTables_19 inX7 rfl rfl (by decide) kw_163 rfl ?_
      refine g_get C 22 1 5 dX7_addTables_22 inX5 rfl rfl (by decide) kw_173 rfl ?_
      refine g_iload_n C 25 1 dX7_addTables_25 rfl rfl ?_
      refine g_bipush C 26 (14 : Int32) dX7_addTables_26 (by decide) ?_
      refine g_imul C 28 dX7_addTables_28 ?_
      refine g_iload_n C 29 3 dX7_addTables_29 rfl rfl ?_
      refine g_iadd C 30 dX7_addTables_30 ?_
      refine g_iald C 31 4 dX7_addTables_31 rfl hf (fun v4 hf => ?_)
      obtain ⟨u5, hu5, hf⟩ := cal_some hf
      refine g_callV1 C 32 [0, 1, 2, 3, 6, 7] 0 (rest := []) dX7_addTables_32 (c_X7_entryOf (x_l X) cA q_t q_t_open t_sum t_many q_t_net q_t_law q_t_openStates q_t_openCount q_t_sums q_t_counts t_sign t_changed t_pickedSum t_aim t_before q_t_plan q_t_plan_knots q_t_plan_scopes q_t_plan_users q_t_plan_feeders q_t_plan_feederCount t_plan_size q_t_plan_places q_t_plan_bagMates q_t_plan_going q_t_plan_others t_plan_others q_t_plan_otherCount t_plan_otherCount q_t_picks t_picks q_t_strides t_strides v4 u5 hu5) kw_174 kw_175 kw_176 kw_158 kw_177 ok_X7_entryOf ⟨Nat.le_of_ble_eq_true rfl, Nat.le_of_ble_eq_true rfl⟩ ⟨Nat.zero_le _, Nat.zero_le _⟩ ⟨rfl, rfl⟩ rfl rfl rfl rfl rfl (Nat.le_of_ble_eq_true rfl) rfl (ws' := [oB q_t 7 [.ref q_t_open, .int t_sum, .int t_many, .ref q_t_net, .ref q_t_law, .ref q_t_plan, .ref q_t_openStates, .ref q_t_openCount, .ref q_t_picks, .ref q_t_strides, .ref q_t_sums, .ref q_t_counts, .int t_sign, .int t_changed, .int t_pickedSum, .int t_aim, .long t_before], oB q_t_plan 5 [.ref q_t_plan_knots, .ref q_t_plan_others, .ref q_t_plan_otherCount, .ref q_t_plan_scopes, .ref q_t_plan_users, .ref q_t_plan_feeders, .ref q_t_plan_feederCount, .int t_plan_size, .ref q_t_plan_places, .ref q_t_plan_bagMates, .ref q_t_plan_going], aI cA q_t_plan_others 56 t_plan_others, aI cA q_t_plan_otherCount 14 t_plan_otherCount, aI cA q_t_plan_feeders 196 t_plan_feeders, aI cA q_t_plan_feederCount 14 t_plan_feederCount, aI cA q_t_picks 14 t_picks, aI cA q_t_strides 56 t_strides, aI cA q_t_sums 3584 t_sums, aI cA q_t_counts 3584 t_counts]) (st' := [.int u5]) (N0 := 10) rfl [some 0, some 1, some 2, some 3, none, none, some 4, some 5, none, none] (by decide) rfl rfl ?_
      refine g_istore C 35 (fun z => [(4, .int z), (0, .ref q_t), (1, .int a1), (2, .int x2), (3, .int x3)]) dX7_addTables_35 (by decide) (fun _ => rfl) hf (fun x4_6 hf => ?_)
      refine g_aload_n C 37 1 dX7_addTables_37 rfl rfl ?_
      refine g_get C 38 0 11 dX7_addTables_38 inX7 rfl rfl (by decide) kw_178 rfl ?_
      refine g_iload C 41 0 dX7_addTables_41 rfl ?_
      refine g_iald C 43 9 dX7_addTables_43 rfl hf (fun v7 hf => ?_)
      refine g_if_ne C 44 49 dX7_addTables_44 (by decide) hf (fun hf => ?_) (fun hf => ?_)
      · refine g_iload_n C 49 3 dX7_addTables_49 rfl rfl ?_
        refine g_aload_n C 50 1 dX7_addTables_50 rfl rfl ?_
        refine g_get C 51 0 11 dX7_addTables_51 inX7 rfl rfl (by decide) kw_178 rfl ?_
        refine g_iload C 54 0 dX7_addTables_54 rfl ?_
        refine g_iald C 56 9 dX7_addTables_56 rfl hf (fun v8 hf => ?_)
        refine g_imul C 57 dX7_addTables_57 ?_
        refine g_istore_n C 58 (fun z => [(2, .int z), (4, .int x4_6), (0, .ref q_t), (1, .int a1), (3, .int x3)]) dX7_addTables_58 rfl (by decide) (fun _ => rfl) hf (fun x2_9 hf => ?_)
        refine g_aload_n C 59 2 dX7_addTables_59 rfl rfl ?_
        refine g_dup C 60 dX7_addTables_60 rfl ?_
        refine g_get C 61 0 14 dX7_addTables_61 inX7 rfl rfl (by decide) kw_166 rfl ?_
        refine g_aload_n C 64 2 dX7_addTables_64 rfl rfl ?_
        refine g_get C 65 0 10 dX7_addTables_65 inX7 rfl rfl (by decide) kw_179 rfl ?_
        refine g_iload C 68 1 dX7_addTables_68 rfl ?_
        refine g_iald C 70 8 dX7_addTables_70 rfl hf (fun v10 hf => ?_)
        refine g_iadd C 71 dX7_addTables_71 ?_
        refine g_puti C 72 0 14 tyX7 (fun z => [oB q_t 7 [.ref q_t_open, .int t_sum, .int t_many, .ref q_t_net, .ref q_t_law, .ref q_t_plan, .ref q_t_openStates, .ref q_t_openCount, .ref q_t_picks, .ref q_t_strides, .ref q_t_sums, .ref q_t_counts, .int t_sign, .int t_changed, .int z, .int t_aim, .long t_before], oB q_t_plan 5 [.ref q_t_plan_knots, .ref q_t_plan_others, .ref q_t_plan_otherCount, .ref q_t_plan_scopes, .ref q_t_plan_users, .ref q_t_plan_feeders, .ref q_t_plan_feederCount, .int t_plan_size, .ref q_t_plan_places, .ref q_t_plan_bagMates, .ref q_t_plan_going], aI cA q_t_plan_others 56 t_plan_others, aI cA q_t_plan_otherCount 14 t_plan_otherCount, aI cA q_t_plan_feeders 196 t_plan_feeders, aI cA q_t_plan_feederCount 14 t_plan_feederCount, aI cA q_t_picks 14 t_picks, aI cA q_t_strides 56 t_strides, aI cA q_t_sums 3584 t_sums, aI cA q_t_counts 3584 t_counts]) dX7_addTables_72 inX7 tyX7_ok nmX7 rfl rfl (by decide) kw_166 rfl rfl (Nat.le_of_ble_eq_true rfl) (fun _ => rfl) hf (fun t_pickedSum_11 hf => ?_)
        refine g_iinc C 75 4 (v := x3 + (1 : Int32)) (fun z => [(3, .int z), (2, .int x2_9), (4, .int x4_6), (0, .ref q_t), (1, .int a1)]) dX7_addTables_75 rfl rfl (by decide) (fun _ => rfl) hf (fun x3_12 hf => ?_)
        refine g_goto C 78 4 dX7_addTables_78 (by decide) ?_
        refine g_lv [3, 4, 1, 0] rfl ?_
        exact ih x2_9 x3_12 t_pickedSum_11 hf
      · refine g_iconst C 47 (0 : Int32) dX7_addTables_47 (by decide) ?_
        cases hf
        exact g_iret C 48 dX7_addTables_48 F ⟨rfl, rfl⟩
def f_X7_addTables (a1 : Int32) (t_pickedSum : Int32) (t_plan_others : Nat → Int32) (t_plan_otherCount : Nat → Int32) (t_plan_feeders : Nat → Int32) (t_plan_feederCount : Nat → Int32) (t_picks : Nat → Int32) (t_strides : Nat → Int32) (t_sums : Nat → Int32) (t_counts : Nat → Int32) : Option (Int32 × Int32) :=
  bnd (1 : Int32) fun x2_1 =>
  bnd (0 : Int32) fun x3_2 =>
  L_X7_addTables_4 a1 t_plan_others t_plan_otherCount t_plan_feeders t_plan_feederCount t_picks t_strides t_sums t_counts NN x2_1 x3_2 t_pickedSum

set_option maxRecDepth 100000 in
set_option maxHeartbeats 1000000 in
theorem c_X7_addTables (l : Launch) (cA : Nat → ClassId) (q_t : Nat) (q_t_open : Nat) (t_sum : Int32) (t_many : Int32) (q_t_net : Nat) (q_t_law : Nat) (q_t_openStates : Nat) (q_t_openCount : Nat) (t_sign : Int32) (t_changed : Int32) (t_pickedSum : Int32) (t_aim : Int32) (t_before : Int64) (q_t_plan : Nat) (q_t_plan_knots : Nat) (q_t_plan_scopes : Nat) (q_t_plan_users : Nat) (t_plan_size : Int32) (q_t_plan_places : Nat) (q_t_plan_bagMates : Nat) (q_t_plan_going : Nat) (q_t_plan_others : Nat) (t_plan_others : Nat → Int32) (q_t_plan_otherCount : Nat) (t_plan_otherCount : Nat → Int32) (q_t_plan_feeders : Nat) (t_plan_feeders : Nat → Int32) (q_t_plan_feederCount : Nat) (t_plan_feederCount : Nat → Int32) (q_t_picks : Nat) (t_picks : Nat → Int32) (q_t_strides : Nat) (t_strides : Nat → Int32) (q_t_sums : Nat) (t_sums : Nat → Int32) (q_t_counts : Nat) (t_counts : Nat → Int32) (a1 : Int32) (r : Int32 × Int32) (hf : f_X7_addTables a1 t_pickedSum t_plan_others t_plan_otherCount t_plan_feeders t_plan_feederCount t_picks t_strides t_sums t_counts = some r) : MT l cA yX7_addTables cX7_addTables 5 (some .int) ({ frames := 1, cells := 0, slots := 0, locals := 23 } : Room) [.ref q_t, .int a1] [oB q_t 7 [.ref q_t_open, .int t_sum, .int t_many, .ref q_t_net, .ref q_t_law, .ref q_t_plan, .ref q_t_openStates, .ref q_t_openCount, .ref q_t_picks, .ref q_t_strides, .ref q_t_sums, .ref q_t_counts, .int t_sign, .int t_changed, .int t_pickedSum, .int t_aim, .long t_before], oB q_t_plan 5 [.ref q_t_plan_knots, .ref q_t_plan_others, .ref q_t_plan_otherCount, .ref q_t_plan_scopes, .ref q_t_plan_users, .ref q_t_plan_feeders, .ref q_t_plan_feederCount, .int t_plan_size, .ref q_t_plan_places, .ref q_t_plan_bagMates, .ref q_t_plan_going], aI cA q_t_plan_others 56 t_plan_others, aI cA q_t_plan_otherCount 14 t_plan_otherCount, aI cA q_t_plan_feeders 196 t_plan_feeders, aI cA q_t_plan_feederCount 14 t_plan_feederCount, aI cA q_t_picks 14 t_picks, aI cA q_t_strides 56 t_strides, aI cA q_t_sums 3584 t_sums, aI cA q_t_counts 3584 t_counts] (sB (some (.int r.1)) [oB q_t 7 [.ref q_t_open, .int t_sum, .int t_many, .ref q_t_net, .ref q_t_law, .ref q_t_plan, .ref q_t_openStates, .ref q_t_openCount, .ref q_t_picks, .ref q_t_strides, .ref q_t_sums, .ref q_t_counts, .int t_sign, .int t_changed, .int r.2, .int t_aim, .long t_before], oB q_t_plan 5 [.ref q_t_plan_knots, .ref q_t_plan_others, .ref q_t_plan_otherCount, .ref q_t_plan_scopes, .ref q_t_plan_users, .ref q_t_plan_feeders, .ref q_t_plan_feederCount, .int t_plan_size, .ref q_t_plan_places, .ref q_t_plan_bagMates, .ref q_t_plan_going], aI cA q_t_plan_others 56 t_plan_others, aI cA q_t_plan_otherCount 14 t_plan_otherCount, aI cA q_t_plan_feeders 196 t_plan_feeders, aI cA q_t_plan_feederCount 14 t_plan_feederCount, aI cA q_t_picks 14 t_picks, aI cA q_t_strides 56 t_strides, aI cA q_t_sums 3584 t_sums, aI cA q_t_counts 3584 t_counts]) := by
  refine MT.of (by decide) (Nat.le_of_ble_eq_true rfl) ?_
  intro X hXl C F hnm hrc hrs
  subst hXl
  unfold f_X7_addTables at hf
  have C : Cx X cX7_addTables RX7 (some .int) cA 1 23 5 := C
  show Go X 5 0 0 0 [oB q_t 7 [.ref q_t_open, .int t_sum, .int t_many, .ref q_t_net, .ref q_t_law, .ref q_t_plan, .ref q_t_openStates, .ref q_t_openCount, .ref q_t_picks, .ref q_t_strides, .ref q_t_sums, .ref q_t_counts, .int t_sign, .int t_changed, .int t_pickedSum, .int t_aim, .long t_before], oB q_t_plan 5 [.ref q_t_plan_knots, .ref q_t_plan_others, .ref q_t_plan_otherCount, .ref q_t_plan_scopes, .ref q_t_plan_users, .ref q_t_plan_feeders, .ref q_t_plan_feederCount, .int t_plan_size, .ref q_t_plan_places, .ref q_t_plan_bagMates, .ref q_t_plan_going], aI cA q_t_plan_others 56 t_plan_others, aI cA q_t_plan_otherCount 14 t_plan_otherCount, aI cA q_t_plan_feeders 196 t_plan_feeders, aI cA q_t_plan_feederCount 14 t_plan_feederCount, aI cA q_t_picks 14 t_picks, aI cA q_t_strides 56 t_strides, aI cA q_t_sums 3584 t_sums, aI cA q_t_counts 3584 t_counts] [(0, .ref q_t), (1, .int a1)] []
  refine g_iconst C 0 (1 : Int32) dX7_addTables_0 (by decide) ?_
  refine g_istore_n C 1 (fun z => [(2, .int z), (0, .ref q_t), (1, .int a1)]) dX7_addTables_1 rfl (by decide) (fun _ => rfl) hf (fun x2_1 hf => ?_)
  refine g_iconst C 2 (0 : Int32) dX7_addTables_2 (by decide) ?_
  refine g_istore_n C 3 (fun z => [(3, .int z), (2, .int x2_1), (0, .ref q_t), (1, .int a1)]) dX7_addTables_3 rfl (by decide) (fun _ => rfl) hf (fun x3_2 hf => ?_)
  refine g_lv [2, 3, 1, 0] rfl ?_
  exact w_X7_addTables_4 cA q_t q_t_open t_sum t_many q_t_net q_t_law q_t_openStates q_t_openCount t_sign t_changed t_aim t_before q_t_plan q_t_plan_knots q_t_plan_scopes q_t_plan_users t_plan_size q_t_plan_places q_t_plan_bagMates q_t_plan_going q_t_plan_others q_t_plan_otherCount q_t_plan_feeders q_t_plan_feederCount q_t_picks q_t_strides q_t_sums q_t_counts a1 t_plan_others t_plan_otherCount t_plan_feeders t_plan_feederCount t_picks t_strides t_sums t_counts C r F NN x2_1 x3_2 t_pickedSum hf

def J_X7_fillEntry_56 (a1 : Int32) (a2 : Int32) (t_sign : Int32) (t_net_loads : Nat → Int32) (t_net_near : Nat → Int32) (t_net_ties : Nat → Int32) (t_law_factors : Nat → Int32) (t_law_pairFactors : Nat → Int32) (t_law_barred : Nat → Int32) (t_plan_knots : Nat → Int32) (t_plan_others : Nat → Int32) (t_plan_otherCount : Nat → Int32) (t_plan_feeders : Nat → Int32) (t_plan_feederCount : Nat → Int32) (t_openStates : Nat → Int32) (t_openCount : Nat → Int32) (t_strides : Nat → Int32) (k_19 : Int32 → Int32 → Int32 → Int32 → Int32 → (Nat → Int32) → (Nat → Int32) → (Nat → Int32) → Option (Int32 × (Nat → Int32) × (Nat → Int32) × (Nat → Int32))) (x3 : Int32) (x4 : Int32) (x5 : Int32) (x6 : Int32) (s0 : Int32) (t_pickedSum : Int32) (t_picks : Nat → Int32) (t_sums : Nat → Int32) (t_counts : Nat → Int32) : Option (Int32 × (Nat → Int32) × (Nat → Int32) × (Nat → Int32)) :=
  bnd s0 fun x7_11 =>
  if x7_11 = 0 then
    bnd (x6 + (1 : Int32)) fun x6_21 =>
    k_19 x3 x4 x5 x6_21 t_pickedSum t_picks t_sums t_counts
  else
    if x5 = 0 then
      bnd t_pickedSum fun x4_12 =>
      bnd x7_11 fun x5_13 =>
      bnd (x6 + (1 : Int32)) fun x6_14 =>
      k_19 x3 x4_12 x5_13 x6_14 t_pickedSum t_picks t_sums t_counts
    else
      if t_pickedSum ≤ x4 then
        if t_pickedSum = x4 then
          bnd (x5 + x7_11) fun x5_16 =>
          bnd (x6 + (1 : Int32)) fun x6_17 =>
          k_19 x3 x4 x5_16 x6_17 t_pickedSum t_picks t_sums t_counts
        else
          bnd (x6 + (1 : Int32)) fun x6_15 =>
          k_19 x3 x4 x5 x6_15 t_pickedSum t_picks t_sums t_counts
      else
        bnd t_pickedSum fun x4_18 =>
        bnd x7_11 fun x5_19 =>
        bnd (x6 + (1 : Int32)) fun x6_20 =>
        k_19 x3 x4_18 x5_19 x6_20 t_pickedSum t_picks t_sums t_counts

set_option maxRecDepth 100000 in
set_option maxHeartbeats 1000000 in
theorem w_X7_fillEntry_56 (cA : Nat → ClassId) (q_t : Nat) (q_t_open : Nat) (t_sum : Int32) (t_many : Int32) (t_changed : Int32) (t_aim : Int32) (t_before : Int64) (q_t_net : Nat) (t_net_size : Int32) (t_net_edges : Int32) (q_t_net_loads : Nat) (q_t_net_near : Nat) (q_t_net_ties : Nat) (q_t_law : Nat) (t_law_size : Int32) (q_t_law_forbidden : Nat) (q_t_law_factors : Nat) (q_t_law_pairFactors : Nat) (q_t_law_barred : Nat) (q_t_plan : Nat) (q_t_plan_scopes : Nat) (q_t_plan_users : Nat) (t_plan_size : Int32) (q_t_plan_places : Nat) (q_t_plan_bagMates : Nat) (q_t_plan_going : Nat) (q_t_plan_knots : Nat) (q_t_plan_others : Nat) (q_t_plan_otherCount : Nat) (q_t_plan_feeders : Nat) (q_t_plan_feederCount : Nat) (q_t_openStates : Nat) (q_t_openCount : Nat) (q_t_picks : Nat) (q_t_strides : Nat) (q_t_sums : Nat) (q_t_counts : Nat) (a1 : Int32) (a2 : Int32) (t_sign : Int32) (t_net_loads : Nat → Int32) (t_net_near : Nat → Int32) (t_net_ties : Nat → Int32) (t_law_factors : Nat → Int32) (t_law_pairFactors : Nat → Int32) (t_law_barred : Nat → Int32) (t_plan_knots : Nat → Int32) (t_plan_others : Nat → Int32) (t_plan_otherCount : Nat → Int32) (t_plan_feeders : Nat → Int32) (t_plan_feederCount : Nat → Int32) (t_openStates : Nat → Int32) (t_openCount : Nat → Int32) (t_strides : Nat → Int32) {X : XT} (C : Cx X cX7_fillEntry RX7 none cA 2 49 8) (r : Int32 × (Nat → Int32) × (Nat → Int32) × (Nat → Int32)) (F : Fx X (sB (none) [oB q_t 7 [.ref q_t_open, .int t_sum, .int t_many, .ref q_t_net, .ref q_t_law, .ref q_t_plan, .ref q_t_openStates, .ref q_t_openCount, .ref q_t_picks, .ref q_t_strides, .ref q_t_sums, .ref q_t_counts, .int t_sign, .int t_changed, .int r.1, .int t_aim, .long t_before], oB q_t_net 4 [.ref q_t_net_loads, .ref q_t_net_near, .ref q_t_net_ties, .int t_net_size, .int t_net_edges], aI cA q_t_net_loads 14 t_net_loads, aI cA q_t_net_near 14 t_net_near, aI cA q_t_net_ties 196 t_net_ties, oB q_t_law 3 [.int t_law_size, .ref q_t_law_factors, .ref q_t_law_pairFactors, .ref q_t_law_barred, .ref q_t_law_forbidden], aI cA q_t_law_factors 4 t_law_factors, aI cA q_t_law_pairFactors 16 t_law_pairFactors, aZ cA q_t_law_barred 16 t_law_barred, oB q_t_plan 5 [.ref q_t_plan_knots, .ref q_t_plan_others, .ref q_t_plan_otherCount, .ref q_t_plan_scopes, .ref q_t_plan_users, .ref q_t_plan_feeders, .ref q_t_plan_feederCount, .int t_plan_size, .ref q_t_plan_places, .ref q_t_plan_bagMates, .ref q_t_plan_going], aI cA q_t_plan_knots 14 t_plan_knots, aI cA q_t_plan_others 56 t_plan_others, aI cA q_t_plan_otherCount 14 t_plan_otherCount, aI cA q_t_plan_feeders 196 t_plan_feeders, aI cA q_t_plan_feederCount 14 t_plan_feederCount, aI cA q_t_openStates 56 t_openStates, aI cA q_t_openCount 14 t_openCount, aI cA q_t_picks 14 r.2.1, aI cA q_t_strides 56 t_strides, aI cA q_t_sums 3584 r.2.2.1, aI cA q_t_counts 3584 r.2.2.2]) 0 0) (k_19 : Int32 → Int32 → Int32 → Int32 → Int32 → (Nat → Int32) → (Nat → Int32) → (Nat → Int32) → Option (Int32 × (Nat → Int32) × (Nat → Int32) × (Nat → Int32))) (h_19 : ∀ (x3 : Int32) (x4 : Int32) (x5 : Int32) (x6 : Int32) (t_pickedSum : Int32) (t_picks : Nat → Int32) (t_sums : Nat → Int32) (t_counts : Nat → Int32), k_19 x3 x4 x5 x6 t_pickedSum t_picks t_sums t_counts = some r → Go X 8 0 0 19 [oB q_t 7 [.ref q_t_open, .int t_sum, .int t_many, .ref q_t_net, .ref q_t_law, .ref q_t_plan, .ref q_t_openStates, .ref q_t_openCount, .ref q_t_picks, .ref q_t_strides, .ref q_t_sums, .ref q_t_counts, .int t_sign, .int t_changed, .int t_pickedSum, .int t_aim, .long t_before], oB q_t_net 4 [.ref q_t_net_loads, .ref q_t_net_near, .ref q_t_net_ties, .int t_net_size, .int t_net_edges], aI cA q_t_net_loads 14 t_net_loads, aI cA q_t_net_near 14 t_net_near, aI cA q_t_net_ties 196 t_net_ties, oB q_t_law 3 [.int t_law_size, .ref q_t_law_factors, .ref q_t_law_pairFactors, .ref q_t_law_barred, .ref q_t_law_forbidden], aI cA q_t_law_factors 4 t_law_factors, aI cA q_t_law_pairFactors 16 t_law_pairFactors, aZ cA q_t_law_barred 16 t_law_barred, oB q_t_plan 5 [.ref q_t_plan_knots, .ref q_t_plan_others, .ref q_t_plan_otherCount, .ref q_t_plan_scopes, .ref q_t_plan_users, .ref q_t_plan_feeders, .ref q_t_plan_feederCount, .int t_plan_size, .ref q_t_plan_places, .ref q_t_plan_bagMates, .ref q_t_plan_going], aI cA q_t_plan_knots 14 t_plan_knots, aI cA q_t_plan_others 56 t_plan_others, aI cA q_t_plan_otherCount 14 t_plan_otherCount, aI cA q_t_plan_feeders 196 t_plan_feeders, aI cA q_t_plan_feederCount 14 t_plan_feederCount, aI cA q_t_openStates 56 t_openStates, aI cA q_t_openCount 14 t_openCount, aI cA q_t_picks 14 t_picks, aI cA q_t_strides 56 t_strides, aI cA q_t_sums 3584 t_sums, aI cA q_t_counts 3584 t_counts] [(0, .ref q_t), (1, .int a1), (2, .int a2), (3, .int x3), (4, .int x4), (5, .int x5), (6, .int x6)] []) : ∀ (x3 : Int32) (x4 : Int32) (x5 : Int32) (x6 : Int32) (s0 : Int32) (t_pickedSum : Int32) (t_picks : Nat → Int32) (t_sums : Nat → Int32) (t_counts : Nat → Int32), J_X7_fillEntry_56 a1 a2 t_sign t_net_loads t_net_near t_net_ties t_law_factors t_law_pairFactors t_law_barred t_plan_knots t_plan_others t_plan_otherCount t_plan_feeders t_plan_feederCount t_openStates t_openCount t_strides k_19 x3 x4 x5 x6 s0 t_pickedSum t_picks t_sums t_counts = some r → Go X 8 0 0 56 [oB q_t 7 [.ref q_t_open, .int t_sum, .int t_many, .ref q_t_net, .ref q_t_law, .ref q_t_plan, .ref q_t_openStates, .ref q_t_openCount, .ref q_t_picks, .ref q_t_strides, .ref q_t_sums, .ref q_t_counts, .int t_sign, .int t_changed, .int t_pickedSum, .int t_aim, .long t_before], oB q_t_net 4 [.ref q_t_net_loads, .ref q_t_net_near, .ref q_t_net_ties, .int t_net_size, .int t_net_edges], aI cA q_t_net_loads 14 t_net_loads, aI cA q_t_net_near 14 t_net_near, aI cA q_t_net_ties 196 t_net_ties, oB q_t_law 3 [.int t_law_size, .ref q_t_law_factors, .ref q_t_law_pairFactors, .ref q_t_law_barred, .ref q_t_law_forbidden], aI cA q_t_law_factors 4 t_law_factors, aI cA q_t_law_pairFactors 16 t_law_pairFactors, aZ cA q_t_law_barred 16 t_law_barred, oB q_t_plan 5 [.ref q_t_plan_knots, .ref q_t_plan_others, .ref q_t_plan_otherCount, .ref q_t_plan_scopes, .ref q_t_plan_users, .ref q_t_plan_feeders, .ref q_t_plan_feederCount, .int t_plan_size, .ref q_t_plan_places, .ref q_t_plan_bagMates, .ref q_t_plan_going], aI cA q_t_plan_knots 14 t_plan_knots, aI cA q_t_plan_others 56 t_plan_others, aI cA q_t_plan_otherCount 14 t_plan_otherCount, aI cA q_t_plan_feeders 196 t_plan_feeders, aI cA q_t_plan_feederCount 14 t_plan_feederCount, aI cA q_t_openStates 56 t_openStates, aI cA q_t_openCount 14 t_openCount, aI cA q_t_picks 14 t_picks, aI cA q_t_strides 56 t_strides, aI cA q_t_sums 3584 t_sums, aI cA q_t_counts 3584 t_counts] [(0, .ref q_t), (1, .int a1), (2, .int a2), (3, .int x3), (4, .int x4), (5, .int x5), (6, .int x6)] [.int s0] := by
  intro x3 x4 x5 x6 s0 t_pickedSum t_picks t_sums t_counts hf
  unfold J_X7_fillEntry_56 at hf
  refine g_istore C 56 (fun z => [(7, .int z), (0, .ref q_t), (1, .int a1), (2, .int a2), (3, .int x3), (4, .int x4), (5, .int x5), (6, .int x6)]) dX7_fillEntry_56 (by decide) (fun _ => rfl) hf (fun x7_11 hf => ?_)
  refine g_iload C 58 0 dX7_fillEntry_58 rfl ?_
  refine g_if_ne C 60 66 dX7_fillEntry_60 (by decide) hf (fun hf => ?_) (fun hf => ?_)
  · refine g_iload C 66 6 dX7_fillEntry_66 rfl ?_
    refine g_if_eq C 68 80 dX7_fillEntry_68 (by decide) hf (fun hf => ?_) (fun hf => ?_)
    · refine g_aload_n C 80 1 dX7_fillEntry_80 rfl rfl ?_
      refine g_get C 81 0 14 dX7_fillEntry_81 inX7 rfl rfl (by decide) kw_166 rfl ?_
      refine g_istore C 84 (fun z => [(4, .int z), (7, .int x7_11), (0, .ref q_t), (1, .int a1), (2, .int a2), (3, .int x3), (5, .int x5), (6, .int x6)]) dX7_fillEntry_84 (by decide) (fun _ => rfl) hf (fun x4_12 hf => ?_)
      refine g_iload C 86 1 dX7_fillEntry_86 rfl ?_
      refine g_istore C 88 (fun z => [(5, .int z), (4, .int x4_12), (7, .int x7_11), (0, .ref q_t), (1, .int a1), (2, .int a2), (3, .int x3), (6, .int x6)]) dX7_fillEntry_88 (by decide) (fun _ => rfl) hf (fun x5_13 hf => ?_)
      refine g_goto C 90 109 dX7_fillEntry_90 (by decide) ?_
      refine g_iinc C 109 7 (v := x6 + (1 : Int32)) (fun z => [(6, .int z), (5, .int x5_13), (4, .int x4_12), (7, .int x7_11), (0, .ref q_t), (1, .int a1), (2, .int a2), (3, .int x3)]) dX7_fillEntry_109 rfl rfl (by decide) (fun _ => rfl) hf (fun x6_14 hf => ?_)
      refine g_goto C 112 19 dX7_fillEntry_112 (by decide) ?_
      refine g_lv [4, 5, 6, 7, 2, 1, 0] rfl ?_
      exact h_19 x3 x4_12 x5_13 x6_14 t_pickedSum t_picks t_sums t_counts hf
    · refine g_aload_n C 71 1 dX7_fillEntry_71 rfl rfl ?_
      refine g_get C 72 0 14 dX7_fillEntry_72 inX7 rfl rfl (by decide) kw_166 rfl ?_
      refine g_iload C 75 5 dX7_fillEntry_75 rfl ?_
      refine g_icmp_le C 77 93 dX7_fillEntry_77 (by decide) hf (fun hf => ?_) (fun hf => ?_)
      · refine g_aload_n C 93 1 dX7_fillEntry_93 rfl rfl ?_
        refine g_get C 94 0 14 dX7_fillEntry_94 inX7 rfl rfl (by decide) kw_166 rfl ?_
        refine g_iload C 97 5 dX7_fillEntry_97 rfl ?_
        refine g_icmp_ne C 99 109 dX7_fillEntry_99 (by decide) hf (fun hf => ?_) (fun hf => ?_)
        · refine g_iinc C 109 7 (v := x6 + (1 : Int32)) (fun z => [(6, .int z), (7, .int x7_11), (0, .ref q_t), (1, .int a1), (2, .int a2), (3, .int x3), (4, .int x4), (5, .int x5)]) dX7_fillEntry_109 rfl rfl (by decide) (fun _ => rfl) hf (fun x6_15 hf => ?_)
          refine g_goto C 112 19 dX7_fillEntry_112 (by decide) ?_
          refine g_lv [2, 3, 4, 5, 6, 7, 0] rfl ?_
          exact h_19 x3 x4 x5 x6_15 t_pickedSum t_picks t_sums t_counts hf
        · refine g_iload C 102 6 dX7_fillEntry_102 rfl ?_
          refine g_iload C 104 0 dX7_fillEntry_104 rfl ?_
          refine g_iadd C 106 dX7_fillEntry_106 ?_
          refine g_istore C 107 (fun z => [(5, .int z), (7, .int x7_11), (0, .ref q_t), (1, .int a1), (2, .int a2), (3, .int x3), (4, .int x4), (6, .int x6)]) dX7_fillEntry_107 (by decide) (fun _ => rfl) hf (fun x5_16 hf => ?_)
          refine g_iinc C 109 7 (v := x6 + (1 : Int32)) (fun z => [(6, .int z), (5, .int x5_16), (7, .int x7_11), (0, .ref q_t), (1, .int a1), (2, .int a2), (3, .int x3), (4, .int x4)]) dX7_fillEntry_109 rfl rfl (by decide) (fun _ => rfl) hf (fun x6_17 hf => ?_)
          refine g_goto C 112 19 dX7_fillEntry_112 (by decide) ?_
          refine g_lv [3, 4, 5, 6, 7, 1, 0] rfl ?_
          exact h_19 x3 x4 x5_16 x6_17 t_pickedSum t_picks t_sums t_counts hf
      · refine g_aload_n C 80 1 dX7_fillEntry_80 rfl rfl ?_
        refine g_get C 81 0 14 dX7_fillEntry_81 inX7 rfl rfl (by decide) kw_166 rfl ?_
        refine g_istore C 84 (fun z => [(4, .int z), (7, .int x7_11), (0, .ref q_t), (1, .int a1), (2, .int a2), (3, .int x3), (5, .int x5), (6, .int x6)]) dX7_fillEntry_84 (by decide) (fun _ => rfl) hf (fun x4_18 hf => ?_)
        refine g_iload C 86 1 dX7_fillEntry_86 rfl ?_
        refine g_istore C 88 (fun z => [(5, .int z), (4, .int x4_18), (7, .int x7_11), (0, .ref q_t), (1, .int a1), (2, .int a2), (3, .int x3), (6, .int x6)]) dX7_fillEntry_88 (by decide) (fun _ => rfl) hf (fun x5_19 hf => ?_)
        refine g_goto C 90 109 dX7_fillEntry_90 (by decide) ?_
        refine g_iinc C 109 7 (v := x6 + (1 : Int32)) (fun z => [(6, .int z), (5, .int x5_19), (4, .int x4_18), (7, .int x7_11), (0, .ref q_t), (1, .int a1), (2, .int a2), (3, .int x3)]) dX7_fillEntry_109 rfl rfl (by decide) (fun _ => rfl) hf (fun x6_20 hf => ?_)
        refine g_goto C 112 19 dX7_fillEntry_112 (by decide) ?_
        refine g_lv [4, 5, 6, 7, 2, 1, 0] rfl ?_
        exact h_19 x3 x4_18 x5_19 x6_20 t_pickedSum t_picks t_sums t_counts hf
  · refine g_goto C 63 109 dX7_fillEntry_63 (by decide) ?_
    refine g_iinc C 109 7 (v := x6 + (1 : Int32)) (fun z => [(6, .int z), (7, .int x7_11), (0, .ref q_t), (1, .int a1), (2, .int a2), (3, .int x3), (4, .int x4), (5, .int x5)]) dX7_fillEntry_109 rfl rfl (by decide) (fun _ => rfl) hf (fun x6_21 hf => ?_)
    refine g_goto C 112 19 dX7_fillEntry_112 (by decide) ?_
    refine g_lv [2, 3, 4, 5, 6, 7, 0] rfl ?_
    exact h_19 x3 x4 x5 x6_21 t_pickedSum t_picks t_sums t_counts hf
def L_X7_fillEntry_19 (a1 : Int32) (a2 : Int32) (t_sign : Int32) (t_net_loads : Nat → Int32) (t_net_near : Nat → Int32) (t_net_ties : Nat → Int32) (t_law_factors : Nat → Int32) (t_law_pairFactors : Nat → Int32) (t_law_barred : Nat → Int32) (t_plan_knots : Nat → Int32) (t_plan_others : Nat → Int32) (t_plan_otherCount : Nat → Int32) (t_plan_feeders : Nat → Int32) (t_plan_feederCount : Nat → Int32) (t_openStates : Nat → Int32) (t_openCount : Nat → Int32) (t_strides : Nat → Int32)  : Nat → Int32 → Int32 → Int32 → Int32 → Int32 → (Nat → Int32) → (Nat → Int32) → (Nat → Int32) → Option (Int32 × (Nat → Int32) × (Nat → Int32) × (Nat → Int32))
  | 0, _, _, _, _, _, _, _, _ => none
  | n + 1, x3, x4, x5, x6, t_pickedSum, t_picks, t_sums, t_counts =>
    ldA t_openCount 14 x3 fun v6 =>
    if v6 ≤ x6 then
      stI t_sums 3584 a2 x4 fun t_sums_7 =>
      stI t_counts 3584 a2 x5 fun t_counts_8 =>
      some (t_pickedSum, t_picks, t_sums_7, t_counts_8)
    else
      stI t_picks 14 x3 x6 fun t_picks_9 =>
      cal (f_X7_addEdges a1 x3 t_sign t_pickedSum t_net_loads t_net_near t_net_ties t_law_factors t_law_pairFactors t_law_barred t_plan_others t_plan_otherCount t_openStates t_picks_9) fun u10 =>
      if u10.1 = 0 then
        J_X7_fillEntry_56 a1 a2 t_sign t_net_loads t_net_near t_net_ties t_law_factors t_law_pairFactors t_law_barred t_plan_knots t_plan_others t_plan_otherCount t_plan_feeders t_plan_feederCount t_openStates t_openCount t_strides (fun y0 y1 y2 y3 y4 y5 y6 y7 => L_X7_fillEntry_19 a1 a2 t_sign t_net_loads t_net_near t_net_ties t_law_factors t_law_pairFactors t_law_barred t_plan_knots t_plan_others t_plan_otherCount t_plan_feeders t_plan_feederCount t_openStates t_openCount t_strides n y0 y1 y2 y3 y4 y5 y6 y7) x3 x4 x5 x6 (0 : Int32) u10.2 t_picks_9 t_sums t_counts
      else
        cal (f_X7_addTables a1 u10.2 t_plan_others t_plan_otherCount t_plan_feeders t_plan_feederCount t_picks_9 t_strides t_sums t_counts) fun u22 =>
        J_X7_fillEntry_56 a1 a2 t_sign t_net_loads t_net_near t_net_ties t_law_factors t_law_pairFactors t_law_barred t_plan_knots t_plan_others t_plan_otherCount t_plan_feeders t_plan_feederCount t_openStates t_openCount t_strides (fun y0 y1 y2 y3 y4 y5 y6 y7 => L_X7_fillEntry_19 a1 a2 t_sign t_net_loads t_net_near t_net_ties t_law_factors t_law_pairFactors t_law_barred t_plan_knots t_plan_others t_plan_otherCount t_plan_feeders t_plan_feederCount t_openStates t_openCount t_strides n y0 y1 y2 y3 y4 y5 y6 y7) x3 x4 x5 x6 u22.1 u22.2 t_picks_9 t_sums t_counts

set_option maxRecDepth 100000 in
set_option maxHeartbeats 1000000 in
theorem w_X7_fillEntry_19 (cA : Nat → ClassId) (q_t : Nat) (q_t_open : Nat) (t_sum : Int32) (t_many : Int32) (t_changed : Int32) (t_aim : Int32) (t_before : Int64) (q_t_net : Nat) (t_net_size : Int32) (t_net_edges : Int32) (q_t_net_loads : Nat) (q_t_net_near : Nat) (q_t_net_ties : Nat) (q_t_law : Nat) (t_law_size : Int32) (q_t_law_forbidden : Nat) (q_t_law_factors : Nat) (q_t_law_pairFactors : Nat) (q_t_law_barred : Nat) (q_t_plan : Nat) (q_t_plan_scopes : Nat) (q_t_plan_users : Nat) (t_plan_size : Int32) (q_t_plan_places : Nat) (q_t_plan_bagMates : Nat) (q_t_plan_going : Nat) (q_t_plan_knots : Nat) (q_t_plan_others : Nat) (q_t_plan_otherCount : Nat) (q_t_plan_feeders : Nat) (q_t_plan_feederCount : Nat) (q_t_openStates : Nat) (q_t_openCount : Nat) (q_t_picks : Nat) (q_t_strides : Nat) (q_t_sums : Nat) (q_t_counts : Nat) (a1 : Int32) (a2 : Int32) (t_sign : Int32) (t_net_loads : Nat → Int32) (t_net_near : Nat → Int32) (t_net_ties : Nat → Int32) (t_law_factors : Nat → Int32) (t_law_pairFactors : Nat → Int32) (t_law_barred : Nat → Int32) (t_plan_knots : Nat → Int32) (t_plan_others : Nat → Int32) (t_plan_otherCount : Nat → Int32) (t_plan_feeders : Nat → Int32) (t_plan_feederCount : Nat → Int32) (t_openStates : Nat → Int32) (t_openCount : Nat → Int32) (t_strides : Nat → Int32) {X : XT} (C : Cx X cX7_fillEntry RX7 none cA 2 49 8) (r : Int32 × (Nat → Int32) × (Nat → Int32) × (Nat → Int32)) (F : Fx X (sB (none) [oB q_t 7 [.ref q_t_open, .int t_sum, .int t_many, .ref q_t_net, .ref q_t_law, .ref q_t_plan, .ref q_t_openStates, .ref q_t_openCount, .ref q_t_picks, .ref q_t_strides, .ref q_t_sums, .ref q_t_counts, .int t_sign, .int t_changed, .int r.1, .int t_aim, .long t_before], oB q_t_net 4 [.ref q_t_net_loads, .ref q_t_net_near, .ref q_t_net_ties, .int t_net_size, .int t_net_edges], aI cA q_t_net_loads 14 t_net_loads, aI cA q_t_net_near 14 t_net_near, aI cA q_t_net_ties 196 t_net_ties, oB q_t_law 3 [.int t_law_size, .ref q_t_law_factors, .ref q_t_law_pairFactors, .ref q_t_law_barred, .ref q_t_law_forbidden], aI cA q_t_law_factors 4 t_law_factors, aI cA q_t_law_pairFactors 16 t_law_pairFactors, aZ cA q_t_law_barred 16 t_law_barred, oB q_t_plan 5 [.ref q_t_plan_knots, .ref q_t_plan_others, .ref q_t_plan_otherCount, .ref q_t_plan_scopes, .ref q_t_plan_users, .ref q_t_plan_feeders, .ref q_t_plan_feederCount, .int t_plan_size, .ref q_t_plan_places, .ref q_t_plan_bagMates, .ref q_t_plan_going], aI cA q_t_plan_knots 14 t_plan_knots, aI cA q_t_plan_others 56 t_plan_others, aI cA q_t_plan_otherCount 14 t_plan_otherCount, aI cA q_t_plan_feeders 196 t_plan_feeders, aI cA q_t_plan_feederCount 14 t_plan_feederCount, aI cA q_t_openStates 56 t_openStates, aI cA q_t_openCount 14 t_openCount, aI cA q_t_picks 14 r.2.1, aI cA q_t_strides 56 t_strides, aI cA q_t_sums 3584 r.2.2.1, aI cA q_t_counts 3584 r.2.2.2]) 0 0)  : ∀ (n : Nat) (x3 : Int32) (x4 : Int32) (x5 : Int32) (x6 : Int32) (t_pickedSum : Int32) (t_picks : Nat → Int32) (t_sums : Nat → Int32) (t_counts : Nat → Int32), L_X7_fillEntry_19 a1 a2 t_sign t_net_loads t_net_near t_net_ties t_law_factors t_law_pairFactors t_law_barred t_plan_knots t_plan_others t_plan_otherCount t_plan_feeders t_plan_feederCount t_openStates t_openCount t_strides n x3 x4 x5 x6 t_pickedSum t_picks t_sums t_counts = some r → Go X 8 0 0 19 [oB q_t 7 [.ref q_t_open, .int t_sum, .int t_many, .ref q_t_net, .ref q_t_law, .ref q_t_plan, .ref q_t_openStates, .ref q_t_openCount, .ref q_t_picks, .ref q_t_strides, .ref q_t_sums, .ref q_t_counts, .int t_sign, .int t_changed, .int t_pickedSum, .int t_aim, .long t_before], oB q_t_net 4 [.ref q_t_net_loads, .ref q_t_net_near, .ref q_t_net_ties, .int t_net_size, .int t_net_edges], aI cA q_t_net_loads 14 t_net_loads, aI cA q_t_net_near 14 t_net_near, aI cA q_t_net_ties 196 t_net_ties, oB q_t_law 3 [.int t_law_size, .ref q_t_law_factors, .ref q_t_law_pairFactors, .ref q_t_law_barred, .ref q_t_law_forbidden], aI cA q_t_law_factors 4 t_law_factors, aI cA q_t_law_pairFactors 16 t_law_pairFactors, aZ cA q_t_law_barred 16 t_law_barred, oB q_t_plan 5 [.ref q_t_plan_knots, .ref q_t_plan_others, .ref q_t_plan_otherCount, .ref q_t_plan_scopes, .ref q_t_plan_users, .ref q_t_plan_feeders, .ref q_t_plan_feederCount, .int t_plan_size, .ref q_t_plan_places, .ref q_t_plan_bagMates, .ref q_t_plan_going], aI cA q_t_plan_knots 14 t_plan_knots, aI cA q_t_plan_others 56 t_plan_others, aI cA q_t_plan_otherCount 14 t_plan_otherCount, aI cA q_t_plan_feeders 196 t_plan_feeders, aI cA q_t_plan_feederCount 14 t_plan_feederCount, aI cA q_t_openStates 56 t_openStates, aI cA q_t_openCount 14 t_openCount, aI cA q_t_picks 14 t_picks, aI cA q_t_strides 56 t_strides, aI cA q_t_sums 3584 t_sums, aI cA q_t_counts 3584 t_counts] [(0, .ref q_t), (1, .int a1), (2, .int a2), (3, .int x3), (4, .int x4), (5, .int x5), (6, .int x6)] [] := by
  intro n
  induction n with
  | zero => intro x3 x4 x5 x6 t_pickedSum t_picks t_sums t_counts hf; exact no_some hf
  | succ n ih =>
    intro x3 x4 x5 x6 t_pickedSum t_picks t_sums t_counts hf
    rw [L_X7_fillEntry_19] at hf
    refine g_iload C 19 6 dX7_fillEntry_19 rfl ?_
    refine g_aload_n C 21 0 dX7_fillEntry_21 rfl rfl ?_
    refine g_get C 22 0 7 dX7_fillEntry_22 inX7 rfl rfl (by decide) kw_152 rfl ?_
    refine g_iload_n C 25 3 dX7_fillEntry_25 rfl rfl ?_
    refine g_iald C 26 16 dX7_fillEntry_26 rfl hf (fun v6 hf => ?_)
    refine g_icmp_ge C 27 115 dX7_fillEntry_27 (by decide) hf (fun hf => ?_) (fun hf => ?_)
    · refine g_aload_n C 115 0 dX7_fillEntry_115 rfl rfl ?_
      refine g_get C 116 0 10 dX7_fillEntry_116 inX7 rfl rfl (by decide) kw_179 rfl ?_
      refine g_iload_n C 119 2 dX7_fillEntry_119 rfl rfl ?_
      refine g_iload C 120 4 dX7_fillEntry_120 rfl ?_
      refine g_iast C 122 19 (fun z => [oB q_t 7 [.ref q_t_open, .int t_sum, .int t_many, .ref q_t_net, .ref q_t_law, .ref q_t_plan, .ref q_t_openStates, .ref q_t_openCount, .ref q_t_picks, .ref q_t_strides, .ref q_t_sums, .ref q_t_counts, .int t_sign, .int t_changed, .int t_pickedSum, .int t_aim, .long t_before], oB q_t_net 4 [.ref q_t_net_loads, .ref q_t_net_near, .ref q_t_net_ties, .int t_net_size, .int t_net_edges], aI cA q_t_net_loads 14 t_net_loads, aI cA q_t_net_near 14 t_net_near, aI cA q_t_net_ties 196 t_net_ties, oB q_t_law 3 [.int t_law_size, .ref q_t_law_factors, .ref q_t_law_pairFactors, .ref q_t_law_barred, .ref q_t_law_forbidden], aI cA q_t_law_factors 4 t_law_factors, aI cA q_t_law_pairFactors 16 t_law_pairFactors, aZ cA q_t_law_barred 16 t_law_barred, oB q_t_plan 5 [.ref q_t_plan_knots, .ref q_t_plan_others, .ref q_t_plan_otherCount, .ref q_t_plan_scopes, .ref q_t_plan_users, .ref q_t_plan_feeders, .ref q_t_plan_feederCount, .int t_plan_size, .ref q_t_plan_places, .ref q_t_plan_bagMates, .ref q_t_plan_going], aI cA q_t_plan_knots 14 t_plan_knots, aI cA q_t_plan_others 56 t_plan_others, aI cA q_t_plan_otherCount 14 t_plan_otherCount, aI cA q_t_plan_feeders 196 t_plan_feeders, aI cA q_t_plan_feederCount 14 t_plan_feederCount, aI cA q_t_openStates 56 t_openStates, aI cA q_t_openCount 14 t_openCount, aI cA q_t_picks 14 t_picks, aI cA q_t_strides 56 t_strides, aI cA q_t_sums 3584 z, aI cA q_t_counts 3584 t_counts]) dX7_fillEntry_122 rfl (fun _ => rfl) hf (fun t_sums_7 hf => ?_)
      refine g_aload_n C 123 0 dX7_fillEntry_123 rfl rfl ?_
      refine g_get C 124 0 11 dX7_fillEntry_124 inX7 rfl rfl (by decide) kw_178 rfl ?_
      refine g_iload_n C 127 2 dX7_fillEntry_127 rfl rfl ?_
      refine g_iload C 128 5 dX7_fillEntry_128 rfl ?_
      refine g_iast C 130 20 (fun z => [oB q_t 7 [.ref q_t_open, .int t_sum, .int t_many, .ref q_t_net, .ref q_t_law, .ref q_t_plan, .ref q_t_openStates, .ref q_t_openCount, .ref q_t_picks, .ref q_t_strides, .ref q_t_sums, .ref q_t_counts, .int t_sign, .int t_changed, .int t_pickedSum, .int t_aim, .long t_before], oB q_t_net 4 [.ref q_t_net_loads, .ref q_t_net_near, .ref q_t_net_ties, .int t_net_size, .int t_net_edges], aI cA q_t_net_loads 14 t_net_loads, aI cA q_t_net_near 14 t_net_near, aI cA q_t_net_ties 196 t_net_ties, oB q_t_law 3 [.int t_law_size, .ref q_t_law_factors, .ref q_t_law_pairFactors, .ref q_t_law_barred, .ref q_t_law_forbidden], aI cA q_t_law_factors 4 t_law_factors, aI cA q_t_law_pairFactors 16 t_law_pairFactors, aZ cA q_t_law_barred 16 t_law_barred, oB q_t_plan 5 [.ref q_t_plan_knots, .ref q_t_plan_others, .ref q_t_plan_otherCount, .ref q_t_plan_scopes, .ref q_t_plan_users, .ref q_t_plan_feeders, .ref q_t_plan_feederCount, .int t_plan_size, .ref q_t_plan_places, .ref q_t_plan_bagMates, .ref q_t_plan_going], aI cA q_t_plan_knots 14 t_plan_knots, aI cA q_t_plan_others 56 t_plan_others, aI cA q_t_plan_otherCount 14 t_plan_otherCount, aI cA q_t_plan_feeders 196 t_plan_feeders, aI cA q_t_plan_feederCount 14 t_plan_feederCount, aI cA q_t_openStates 56 t_openStates, aI cA q_t_openCount 14 t_openCount, aI cA q_t_picks 14 t_picks, aI cA q_t_strides 56 t_strides, aI cA q_t_sums 3584 t_sums_7, aI cA q_t_counts 3584 z]) dX7_fillEntry_130 rfl (fun _ => rfl) hf (fun t_counts_8 hf => ?_)
      cases hf
      exact g_vret C 131 dX7_fillEntry_131 F ⟨rfl, rfl⟩
    · refine g_aload_n C 30 0 dX7_fillEntry_30 rfl rfl ?_
      refine g_get C 31 0 8 dX7_fillEntry_31 inX7 rfl rfl (by decide) kw_154 rfl ?_
      refine g_iload_n C 34 3 dX7_fillEntry_34 rfl rfl ?_
      refine g_iload C 35 6 dX7_fillEntry_35 rfl ?_
      refine g_iast C 37 17 (fun z => [oB q_t 7 [.ref q_t_open, .int t_sum, .int t_many, .ref q_t_net, .ref q_t_law, .ref q_t_plan, .ref q_t_openStates, .ref q_t_openCount, .ref q_t_picks, .ref q_t_strides, .ref q_t_sums, .ref q_t_counts, .int t_sign, .int t_changed, .int t_pickedSum, .int t_aim, .long t_before], oB q_t_net 4 [.ref q_t_net_loads, .ref q_t_net_near, .ref q_t_net_ties, .int t_net_size, .int t_net_edges], aI cA q_t_net_loads 14 t_net_loads, aI cA q_t_net_near 14 t_net_near, aI cA q_t_net_ties 196 t_net_ties, oB q_t_law 3 [.int t_law_size, .ref q_t_law_factors, .ref q_t_law_pairFactors, .ref q_t_law_barred, .ref q_t_law_forbidden], aI cA q_t_law_factors 4 t_law_factors, aI cA q_t_law_pairFactors 16 t_law_pairFactors, aZ cA q_t_law_barred 16 t_law_barred, oB q_t_plan 5 [.ref q_t_plan_knots, .ref q_t_plan_others, .ref q_t_plan_otherCount, .ref q_t_plan_scopes, .ref q_t_plan_users, .ref q_t_plan_feeders, .ref q_t_plan_feederCount, .int t_plan_size, .ref q_t_plan_places, .ref q_t_plan_bagMates, .ref q_t_plan_going], aI cA q_t_plan_knots 14 t_plan_knots, aI cA q_t_plan_others 56 t_plan_others, aI cA q_t_plan_otherCount 14 t_plan_otherCount, aI cA q_t_plan_feeders 196 t_plan_feeders, aI cA q_t_plan_feederCount 14 t_plan_feederCount, aI cA q_t_openStates 56 t_openStates, aI cA q_t_openCount 14 t_openCount, aI cA q_t_picks 14 z, aI cA q_t_strides 56 t_strides, aI cA q_t_sums 3584 t_sums, aI cA q_t_counts 3584 t_counts]) dX7_fillEntry_37 rfl (fun _ => rfl) hf (fun t_picks_9 hf => ?_)
      refine g_aload_n C 38 0 dX7_fillEntry_38 rfl rfl ?_
      refine g_iload_n C 39 1 dX7_fillEntry_39 rfl rfl ?_
      refine g_iload_n C 40 3 dX7_fillEntry_40 rfl rfl ?_
      obtain ⟨u10, hu10, hf⟩ := cal_some hf
      refine g_callV1 C 41 [0, 1, 2, 3, 4, 5, 6, 7, 8, 9, 11, 12, 15, 17] 0 (rest := []) dX7_fillEntry_41 (c_X7_addEdges (x_l X) cA q_t q_t_open t_sum t_many q_t_openCount q_t_strides q_t_sums q_t_counts t_sign t_changed t_pickedSum t_aim t_before q_t_net t_net_size t_net_edges q_t_net_loads t_net_loads q_t_net_near t_net_near q_t_net_ties t_net_ties q_t_law t_law_size q_t_law_forbidden q_t_law_factors t_law_factors q_t_law_pairFactors t_law_pairFactors q_t_law_barred t_law_barred q_t_plan q_t_plan_knots q_t_plan_scopes q_t_plan_users q_t_plan_feeders q_t_plan_feederCount t_plan_size q_t_plan_places q_t_plan_bagMates q_t_plan_going q_t_plan_others t_plan_others q_t_plan_otherCount t_plan_otherCount q_t_openStates t_openStates q_t_picks t_picks_9 a1 x3 u10 hu10) kw_181 kw_182 kw_183 kw_158 kw_184 ok_X7_addEdges ⟨Nat.le_of_ble_eq_true rfl, Nat.le_of_ble_eq_true rfl⟩ ⟨Nat.zero_le _, Nat.zero_le _⟩ ⟨rfl, rfl⟩ rfl rfl rfl rfl rfl (Nat.le_of_ble_eq_true rfl) rfl (ws' := [oB q_t 7 [.ref q_t_open, .int t_sum, .int t_many, .ref q_t_net, .ref q_t_law, .ref q_t_plan, .ref q_t_openStates, .ref q_t_openCount, .ref q_t_picks, .ref q_t_strides, .ref q_t_sums, .ref q_t_counts, .int t_sign, .int t_changed, .int u10.2, .int t_aim, .long t_before], oB q_t_net 4 [.ref q_t_net_loads, .ref q_t_net_near, .ref q_t_net_ties, .int t_net_size, .int t_net_edges], aI cA q_t_net_loads 14 t_net_loads, aI cA q_t_net_near 14 t_net_near, aI cA q_t_net_ties 196 t_net_ties, oB q_t_law 3 [.int t_law_size, .ref q_t_law_factors, .ref q_t_law_pairFactors, .ref q_t_law_barred, .ref q_t_law_forbidden], aI cA q_t_law_factors 4 t_law_factors, aI cA q_t_law_pairFactors 16 t_law_pairFactors, aZ cA q_t_law_barred 16 t_law_barred, oB q_t_plan 5 [.ref q_t_plan_knots, .ref q_t_plan_others, .ref q_t_plan_otherCount, .ref q_t_plan_scopes, .ref q_t_plan_users, .ref q_t_plan_feeders, .ref q_t_plan_feederCount, .int t_plan_size, .ref q_t_plan_places, .ref q_t_plan_bagMates, .ref q_t_plan_going], aI cA q_t_plan_knots 14 t_plan_knots, aI cA q_t_plan_others 56 t_plan_others, aI cA q_t_plan_otherCount 14 t_plan_otherCount, aI cA q_t_plan_feeders 196 t_plan_feeders, aI cA q_t_plan_feederCount 14 t_plan_feederCount, aI cA q_t_openStates 56 t_openStates, aI cA q_t_openCount 14 t_openCount, aI cA q_t_picks 14 t_picks_9, aI cA q_t_strides 56 t_strides, aI cA q_t_sums 3584 t_sums, aI cA q_t_counts 3584 t_counts]) (st' := [.int u10.1]) (N0 := 21) rfl [some 0, some 1, some 2, some 3, some 4, some 5, some 6, some 7, some 8, some 9, none, some 10, some 11, none, none, some 12, none, some 13, none, none, none] (by decide) rfl rfl ?_
      refine g_if_eq C 44 55 dX7_fillEntry_44 (by decide) hf (fun hf => ?_) (fun hf => ?_)
      · refine g_iconst C 55 (0 : Int32) dX7_fillEntry_55 (by decide) ?_
        exact w_X7_fillEntry_56 cA q_t q_t_open t_sum t_many t_changed t_aim t_before q_t_net t_net_size t_net_edges q_t_net_loads q_t_net_near q_t_net_ties q_t_law t_law_size q_t_law_forbidden q_t_law_factors q_t_law_pairFactors q_t_law_barred q_t_plan q_t_plan_scopes q_t_plan_users t_plan_size q_t_plan_places q_t_plan_bagMates q_t_plan_going q_t_plan_knots q_t_plan_others q_t_plan_otherCount q_t_plan_feeders q_t_plan_feederCount q_t_openStates q_t_openCount q_t_picks q_t_strides q_t_sums q_t_counts a1 a2 t_sign t_net_loads t_net_near t_net_ties t_law_factors t_law_pairFactors t_law_barred t_plan_knots t_plan_others t_plan_otherCount t_plan_feeders t_plan_feederCount t_openStates t_openCount t_strides C r F (fun y0 y1 y2 y3 y4 y5 y6 y7 => L_X7_fillEntry_19 a1 a2 t_sign t_net_loads t_net_near t_net_ties t_law_factors t_law_pairFactors t_law_barred t_plan_knots t_plan_others t_plan_otherCount t_plan_feeders t_plan_feederCount t_openStates t_openCount t_strides n y0 y1 y2 y3 y4 y5 y6 y7) (fun y0 y1 y2 y3 y4 y5 y6 y7 hf => ih y0 y1 y2 y3 y4 y5 y6 y7 hf) x3 x4 x5 x6 (0 : Int32) u10.2 t_picks_9 t_sums t_counts hf
      · refine g_aload_n C 47 0 dX7_fillEntry_47 rfl rfl ?_
        refine g_iload_n C 48 1 dX7_fillEntry_48 rfl rfl ?_
        obtain ⟨u22, hu22, hf⟩ := cal_some hf
        refine g_callV1 C 49 [0, 9, 11, 12, 13, 14, 17, 18, 19, 20] 0 (rest := []) dX7_fillEntry_49 (c_X7_addTables (x_l X) cA q_t q_t_open t_sum t_many q_t_net q_t_law q_t_openStates q_t_openCount t_sign t_changed u10.2 t_aim t_before q_t_plan q_t_plan_knots q_t_plan_scopes q_t_plan_users t_plan_size q_t_plan_places q_t_plan_bagMates q_t_plan_going q_t_plan_others t_plan_others q_t_plan_otherCount t_plan_otherCount q_t_plan_feeders t_plan_feeders q_t_plan_feederCount t_plan_feederCount q_t_picks t_picks_9 q_t_strides t_strides q_t_sums t_sums q_t_counts t_counts a1 u22 hu22) kw_185 kw_186 kw_187 kw_158 kw_188 ok_X7_addTables ⟨Nat.le_of_ble_eq_true rfl, Nat.le_of_ble_eq_true rfl⟩ ⟨Nat.zero_le _, Nat.zero_le _⟩ ⟨rfl, rfl⟩ rfl rfl rfl rfl rfl (Nat.le_of_ble_eq_true rfl) rfl (ws' := [oB q_t 7 [.ref q_t_open, .int t_sum, .int t_many, .ref q_t_net, .ref q_t_law, .ref q_t_plan, .ref q_t_openStates, .ref q_t_openCount, .ref q_t_picks, .ref q_t_strides, .ref q_t_sums, .ref q_t_counts, .int t_sign, .int t_changed, .int u22.2, .int t_aim, .long t_before], oB q_t_net 4 [.ref q_t_net_loads, .ref q_t_net_near, .ref q_t_net_ties, .int t_net_size, .int t_net_edges], aI cA q_t_net_loads 14 t_net_loads, aI cA q_t_net_near 14 t_net_near, aI cA q_t_net_ties 196 t_net_ties, oB q_t_law 3 [.int t_law_size, .ref q_t_law_factors, .ref q_t_law_pairFactors, .ref q_t_law_barred, .ref q_t_law_forbidden], aI cA q_t_law_factors 4 t_law_factors, aI cA q_t_law_pairFactors 16 t_law_pairFactors, aZ cA q_t_law_barred 16 t_law_barred, oB q_t_plan 5 [.ref q_t_plan_knots, .ref q_t_plan_others, .ref q_t_plan_otherCount, .ref q_t_plan_scopes, .ref q_t_plan_users, .ref q_t_plan_feeders, .ref q_t_plan_feederCount, .int t_plan_size, .ref q_t_plan_places, .ref q_t_plan_bagMates, .ref q_t_plan_going], aI cA q_t_plan_knots 14 t_plan_knots, aI cA q_t_plan_others 56 t_plan_others, aI cA q_t_plan_otherCount 14 t_plan_otherCount, aI cA q_t_plan_feeders 196 t_plan_feeders, aI cA q_t_plan_feederCount 14 t_plan_feederCount, aI cA q_t_openStates 56 t_openStates, aI cA q_t_openCount 14 t_openCount, aI cA q_t_picks 14 t_picks_9, aI cA q_t_strides 56 t_strides, aI cA q_t_sums 3584 t_sums, aI cA q_t_counts 3584 t_counts]) (st' := [.int u22.1]) (N0 := 21) rfl [some 0, none, none, none, none, none, none, none, none, some 1, none, some 2, some 3, some 4, some 5, none, none, some 6, some 7, some 8, some 9] (by decide) rfl rfl ?_
        refine g_goto C 52 56 dX7_fillEntry_52 (by decide) ?_
        exact w_X7_fillEntry_56 cA q_t q_t_open t_sum t_many t_changed t_aim t_before q_t_net t_net_size t_net_edges q_t_net_loads q_t_net_near q_t_net_ties q_t_law t_law_size q_t_law_forbidden q_t_law_factors q_t_law_pairFactors q_t_law_barred q_t_plan q_t_plan_scopes q_t_plan_users t_plan_size q_t_plan_places q_t_plan_bagMates q_t_plan_going q_t_plan_knots q_t_plan_others q_t_plan_otherCount q_t_plan_feeders q_t_plan_feederCount q_t_openStates q_t_openCount q_t_picks q_t_strides q_t_sums q_t_counts a1 a2 t_sign t_net_loads t_net_near t_net_ties t_law_factors t_law_pairFactors t_law_barred t_plan_knots t_plan_others t_plan_otherCount t_plan_feeders t_plan_feederCount t_openStates t_openCount t_strides C r F (fun y0 y1 y2 y3 y4 y5 y6 y7 => L_X7_fillEntry_19 a1 a2 t_sign t_net_loads t_net_near t_net_ties t_law_factors t_law_pairFactors t_law_barred t_plan_knots t_plan_others t_plan_otherCount t_plan_feeders t_plan_feederCount t_openStates t_openCount t_strides n y0 y1 y2 y3 y4 y5 y6 y7) (fun y0 y1 y2 y3 y4 y5 y6 y7 hf => ih y0 y1 y2 y3 y4 y5 y6 y7 hf) x3 x4 x5 x6 u22.1 u22.2 t_picks_9 t_sums t_counts hf
def f_X7_fillEntry (a1 : Int32) (a2 : Int32) (t_sign : Int32) (t_pickedSum : Int32) (t_net_loads : Nat → Int32) (t_net_near : Nat → Int32) (t_net_ties : Nat → Int32) (t_law_factors : Nat → Int32) (t_law_pairFactors : Nat → Int32) (t_law_barred : Nat → Int32) (t_plan_knots : Nat → Int32) (t_plan_others : Nat → Int32) (t_plan_otherCount : Nat → Int32) (t_plan_feeders : Nat → Int32) (t_plan_feederCount : Nat → Int32) (t_openStates : Nat → Int32) (t_openCount : Nat → Int32) (t_picks : Nat → Int32) (t_strides : Nat → Int32) (t_sums : Nat → Int32) (t_counts : Nat → Int32) : Option (Int32 × (Nat → Int32) × (Nat → Int32) × (Nat → Int32)) :=
  ldA t_plan_knots 14 a1 fun v1 =>
  bnd v1 fun x3_2 =>
  bnd (0 : Int32) fun x4_3 =>
  bnd (0 : Int32) fun x5_4 =>
  bnd (0 : Int32) fun x6_5 =>
  L_X7_fillEntry_19 a1 a2 t_sign t_net_loads t_net_near t_net_ties t_law_factors t_law_pairFactors t_law_barred t_plan_knots t_plan_others t_plan_otherCount t_plan_feeders t_plan_feederCount t_openStates t_openCount t_strides NN x3_2 x4_3 x5_4 x6_5 t_pickedSum t_picks t_sums t_counts

set_option maxRecDepth 100000 in
set_option maxHeartbeats 1000000 in
theorem c_X7_fillEntry (l : Launch) (cA : Nat → ClassId) (q_t : Nat) (q_t_open : Nat) (t_sum : Int32) (t_many : Int32) (t_sign : Int32) (t_changed : Int32) (t_pickedSum : Int32) (t_aim : Int32) (t_before : Int64) (q_t_net : Nat) (t_net_size : Int32) (t_net_edges : Int32) (q_t_net_loads : Nat) (t_net_loads : Nat → Int32) (q_t_net_near : Nat) (t_net_near : Nat → Int32) (q_t_net_ties : Nat) (t_net_ties : Nat → Int32) (q_t_law : Nat) (t_law_size : Int32) (q_t_law_forbidden : Nat) (q_t_law_factors : Nat) (t_law_factors : Nat → Int32) (q_t_law_pairFactors : Nat) (t_law_pairFactors : Nat → Int32) (q_t_law_barred : Nat) (t_law_barred : Nat → Int32) (q_t_plan : Nat) (q_t_plan_scopes : Nat) (q_t_plan_users : Nat) (t_plan_size : Int32) (q_t_plan_places : Nat) (q_t_plan_bagMates : Nat) (q_t_plan_going : Nat) (q_t_plan_knots : Nat) (t_plan_knots : Nat → Int32) (q_t_plan_others : Nat) (t_plan_others : Nat → Int32) (q_t_plan_otherCount : Nat) (t_plan_otherCount : Nat → Int32) (q_t_plan_feeders : Nat) (t_plan_feeders : Nat → Int32) (q_t_plan_feederCount : Nat) (t_plan_feederCount : Nat → Int32) (q_t_openStates : Nat) (t_openStates : Nat → Int32) (q_t_openCount : Nat) (t_openCount : Nat → Int32) (q_t_picks : Nat) (t_picks : Nat → Int32) (q_t_strides : Nat) (t_strides : Nat → Int32) (q_t_sums : Nat) (t_sums : Nat → Int32) (q_t_counts : Nat) (t_counts : Nat → Int32) (a1 : Int32) (a2 : Int32) (r : Int32 × (Nat → Int32) × (Nat → Int32) × (Nat → Int32)) (hf : f_X7_fillEntry a1 a2 t_sign t_pickedSum t_net_loads t_net_near t_net_ties t_law_factors t_law_pairFactors t_law_barred t_plan_knots t_plan_others t_plan_otherCount t_plan_feeders t_plan_feederCount t_openStates t_openCount t_picks t_strides t_sums t_counts = some r) : MT l cA yX7_fillEntry cX7_fillEntry 8 none ({ frames := 2, cells := 0, slots := 0, locals := 49 } : Room) [.ref q_t, .int a1, .int a2] [oB q_t 7 [.ref q_t_open, .int t_sum, .int t_many, .ref q_t_net, .ref q_t_law, .ref q_t_plan, .ref q_t_openStates, .ref q_t_openCount, .ref q_t_picks, .ref q_t_strides, .ref q_t_sums, .ref q_t_counts, .int t_sign, .int t_changed, .int t_pickedSum, .int t_aim, .long t_before], oB q_t_net 4 [.ref q_t_net_loads, .ref q_t_net_near, .ref q_t_net_ties, .int t_net_size, .int t_net_edges], aI cA q_t_net_loads 14 t_net_loads, aI cA q_t_net_near 14 t_net_near, aI cA q_t_net_ties 196 t_net_ties, oB q_t_law 3 [.int t_law_size, .ref q_t_law_factors, .ref q_t_law_pairFactors, .ref q_t_law_barred, .ref q_t_law_forbidden], aI cA q_t_law_factors 4 t_law_factors, aI cA q_t_law_pairFactors 16 t_law_pairFactors, aZ cA q_t_law_barred 16 t_law_barred, oB q_t_plan 5 [.ref q_t_plan_knots, .ref q_t_plan_others, .ref q_t_plan_otherCount, .ref q_t_plan_scopes, .ref q_t_plan_users, .ref q_t_plan_feeders, .ref q_t_plan_feederCount, .int t_plan_size, .ref q_t_plan_places, .ref q_t_plan_bagMates, .ref q_t_plan_going], aI cA q_t_plan_knots 14 t_plan_knots, aI cA q_t_plan_others 56 t_plan_others, aI cA q_t_plan_otherCount 14 t_plan_otherCount, aI cA q_t_plan_feeders 196 t_plan_feeders, aI cA q_t_plan_feederCount 14 t_plan_feederCount, aI cA q_t_openStates 56 t_openStates, aI cA q_t_openCount 14 t_openCount, aI cA q_t_picks 14 t_picks, aI cA q_t_strides 56 t_strides, aI cA q_t_sums 3584 t_sums, aI cA q_t_counts 3584 t_counts] (sB (none) [oB q_t 7 [.ref q_t_open, .int t_sum, .int t_many, .ref q_t_net, .ref q_t_law, .ref q_t_plan, .ref q_t_openStates, .ref q_t_openCount, .ref q_t_picks, .ref q_t_strides, .ref q_t_sums, .ref q_t_counts, .int t_sign, .int t_changed, .int r.1, .int t_aim, .long t_before], oB q_t_net 4 [.ref q_t_net_loads, .ref q_t_net_near, .ref q_t_net_ties, .int t_net_size, .int t_net_edges], aI cA q_t_net_loads 14 t_net_loads, aI cA q_t_net_near 14 t_net_near, aI cA q_t_net_ties 196 t_net_ties, oB q_t_law 3 [.int t_law_size, .ref q_t_law_factors, .ref q_t_law_pairFactors, .ref q_t_law_barred, .ref q_t_law_forbidden], aI cA q_t_law_factors 4 t_law_factors, aI cA q_t_law_pairFactors 16 t_law_pairFactors, aZ cA q_t_law_barred 16 t_law_barred, oB q_t_plan 5 [.ref q_t_plan_knots, .ref q_t_plan_others, .ref q_t_plan_otherCount, .ref q_t_plan_scopes, .ref q_t_plan_users, .ref q_t_plan_feeders, .ref q_t_plan_feederCount, .int t_plan_size, .ref q_t_plan_places, .ref q_t_plan_bagMates, .ref q_t_plan_going], aI cA q_t_plan_knots 14 t_plan_knots, aI cA q_t_plan_others 56 t_plan_others, aI cA q_t_plan_otherCount 14 t_plan_otherCount, aI cA q_t_plan_feeders 196 t_plan_feeders, aI cA q_t_plan_feederCount 14 t_plan_feederCount, aI cA q_t_openStates 56 t_openStates, aI cA q_t_openCount 14 t_openCount, aI cA q_t_picks 14 r.2.1, aI cA q_t_strides 56 t_strides, aI cA q_t_sums 3584 r.2.2.1, aI cA q_t_counts 3584 r.2.2.2]) := by
  refine MT.of (by decide) (Nat.le_of_ble_eq_true rfl) ?_
  intro X hXl C F hnm hrc hrs
  subst hXl
  unfold f_X7_fillEntry at hf
  have C : Cx X cX7_fillEntry RX7 none cA 2 49 8 := C
  show Go X 8 0 0 0 [oB q_t 7 [.ref q_t_open, .int t_sum, .int t_many, .ref q_t_net, .ref q_t_law, .ref q_t_plan, .ref q_t_openStates, .ref q_t_openCount, .ref q_t_picks, .ref q_t_strides, .ref q_t_sums, .ref q_t_counts, .int t_sign, .int t_changed, .int t_pickedSum, .int t_aim, .long t_before], oB q_t_net 4 [.ref q_t_net_loads, .ref q_t_net_near, .ref q_t_net_ties, .int t_net_size, .int t_net_edges], aI cA q_t_net_loads 14 t_net_loads, aI cA q_t_net_near 14 t_net_near, aI cA q_t_net_ties 196 t_net_ties, oB q_t_law 3 [.int t_law_size, .ref q_t_law_factors, .ref q_t_law_pairFactors, .ref q_t_law_barred, .ref q_t_law_forbidden], aI cA q_t_law_factors 4 t_law_factors, aI cA q_t_law_pairFactors 16 t_law_pairFactors, aZ cA q_t_law_barred 16 t_law_barred, oB q_t_plan 5 [.ref q_t_plan_knots, .ref q_t_plan_others, .ref q_t_plan_otherCount, .ref q_t_plan_scopes, .ref q_t_plan_users, .ref q_t_plan_feeders, .ref q_t_plan_feederCount, .int t_plan_size, .ref q_t_plan_places, .ref q_t_plan_bagMates, .ref q_t_plan_going], aI cA q_t_plan_knots 14 t_plan_knots, aI cA q_t_plan_others 56 t_plan_others, aI cA q_t_plan_otherCount 14 t_plan_otherCount, aI cA q_t_plan_feeders 196 t_plan_feeders, aI cA q_t_plan_feederCount 14 t_plan_feederCount, aI cA q_t_openStates 56 t_openStates, aI cA q_t_openCount 14 t_openCount, aI cA q_t_picks 14 t_picks, aI cA q_t_strides 56 t_strides, aI cA q_t_sums 3584 t_sums, aI cA q_t_counts 3584 t_counts] [(0, .ref q_t), (1, .int a1), (2, .int a2)] []
  refine g_aload_n C 0 0 dX7_fillEntry_0 rfl rfl ?_
  refine g_get C 1 0 5 dX7_fillEntry_1 inX7 rfl rfl (by decide) kw_163 rfl ?_
  refine g_get C 4 9 0 dX7_fillEntry_4 inX5 rfl rfl (by decide) kw_180 rfl ?_
  refine g_iload_n C 7 1 dX7_fillEntry_7 rfl rfl ?_
  refine g_iald C 8 10 dX7_fillEntry_8 rfl hf (fun v1 hf => ?_)
  refine g_istore_n C 9 (fun z => [(3, .int z), (0, .ref q_t), (1, .int a1), (2, .int a2)]) dX7_fillEntry_9 rfl (by decide) (fun _ => rfl) hf (fun x3_2 hf => ?_)
  refine g_iconst C 10 (0 : Int32) dX7_fillEntry_10 (by decide) ?_
  refine g_istore C 11 (fun z => [(4, .int z), (3, .int x3_2), (0, .ref q_t), (1, .int a1), (2, .int a2)]) dX7_fillEntry_11 (by decide) (fun _ => rfl) hf (fun x4_3 hf => ?_)
  refine g_iconst C 13 (0 : Int32) dX7_fillEntry_13 (by decide) ?_
  refine g_istore C 14 (fun z => [(5, .int z), (4, .int x4_3), (3, .int x3_2), (0, .ref q_t), (1, .int a1), (2, .int a2)]) dX7_fillEntry_14 (by decide) (fun _ => rfl) hf (fun x5_4 hf => ?_)
  refine g_iconst C 16 (0 : Int32) dX7_fillEntry_16 (by decide) ?_
  refine g_istore C 17 (fun z => [(6, .int z), (5, .int x5_4), (4, .int x4_3), (3, .int x3_2), (0, .ref q_t), (1, .int a1), (2, .int a2)]) dX7_fillEntry_17 (by decide) (fun _ => rfl) hf (fun x6_5 hf => ?_)
  refine g_lv [4, 5, 6, 3, 2, 1, 0] rfl ?_
  exact w_X7_fillEntry_19 cA q_t q_t_open t_sum t_many t_changed t_aim t_before q_t_net t_net_size t_net_edges q_t_net_loads q_t_net_near q_t_net_ties q_t_law t_law_size q_t_law_forbidden q_t_law_factors q_t_law_pairFactors q_t_law_barred q_t_plan q_t_plan_scopes q_t_plan_users t_plan_size q_t_plan_places q_t_plan_bagMates q_t_plan_going q_t_plan_knots q_t_plan_others q_t_plan_otherCount q_t_plan_feeders q_t_plan_feederCount q_t_openStates q_t_openCount q_t_picks q_t_strides q_t_sums q_t_counts a1 a2 t_sign t_net_loads t_net_near t_net_ties t_law_factors t_law_pairFactors t_law_barred t_plan_knots t_plan_others t_plan_otherCount t_plan_feeders t_plan_feederCount t_openStates t_openCount t_strides C r F NN x3_2 x4_3 x5_4 x6_5 t_pickedSum t_picks t_sums t_counts hf

def L_X7_pickNext_4 (a1 : Int32) (t_plan_others : Nat → Int32) (t_plan_otherCount : Nat → Int32) (t_openCount : Nat → Int32)  : Nat → Int32 → (Nat → Int32) → Option ((Nat → Int32))
  | 0, _, _ => none
  | n + 1, x2, t_picks =>
    ldA t_plan_otherCount 14 a1 fun v2 =>
    if ((a1 * (4 : Int32)) + v2) ≤ x2 then
      some (t_picks)
    else
      ldA t_plan_others 56 x2 fun v3 =>
      bnd v3 fun x3_4 =>
      ldA t_picks 14 x3_4 fun v5 =>
      stI t_picks 14 x3_4 (v5 + (1 : Int32)) fun t_picks_6 =>
      ldA t_picks_6 14 x3_4 fun v7 =>
      ldA t_openCount 14 x3_4 fun v8 =>
      if v8 ≤ v7 then
        stI t_picks_6 14 x3_4 (0 : Int32) fun t_picks_9 =>
        bnd (x2 + (1 : Int32)) fun x2_10 =>
        L_X7_pickNext_4 a1 t_plan_others t_plan_otherCount t_openCount n x2_10 t_picks_9
      else
        some (t_picks_6)

set_option maxRecDepth 100000 in
set_option maxHeartbeats 1000000 in
theorem w_X7_pickNext_4 (cA : Nat → ClassId) (q_t : Nat) (q_t_open : Nat) (t_sum : Int32) (t_many : Int32) (q_t_net : Nat) (q_t_law : Nat) (q_t_openStates : Nat) (q_t_strides : Nat) (q_t_sums : Nat) (q_t_counts : Nat) (t_sign : Int32) (t_changed : Int32) (t_pickedSum : Int32) (t_aim : Int32) (t_before : Int64) (q_t_plan : Nat) (q_t_plan_knots : Nat) (q_t_plan_scopes : Nat) (q_t_plan_users : Nat) (q_t_plan_feeders : Nat) (q_t_plan_feederCount : Nat) (t_plan_size : Int32) (q_t_plan_places : Nat) (q_t_plan_bagMates : Nat) (q_t_plan_going : Nat) (q_t_plan_others : Nat) (q_t_plan_otherCount : Nat) (q_t_openCount : Nat) (q_t_picks : Nat) (a1 : Int32) (t_plan_others : Nat → Int32) (t_plan_otherCount : Nat → Int32) (t_openCount : Nat → Int32) {X : XT} (C : Cx X cX7_pickNext RX7 none cA 0 0 4) (r : (Nat → Int32)) (F : Fx X (sB (none) [oB q_t 7 [.ref q_t_open, .int t_sum, .int t_many, .ref q_t_net, .ref q_t_law, .ref q_t_plan, .ref q_t_openStates, .ref q_t_openCount, .ref q_t_picks, .ref q_t_strides, .ref q_t_sums, .ref q_t_counts, .int t_sign, .int t_changed, .int t_pickedSum, .int t_aim, .long t_before], oB q_t_plan 5 [.ref q_t_plan_knots, .ref q_t_plan_others, .ref q_t_plan_otherCount, .ref q_t_plan_scopes, .ref q_t_plan_users, .ref q_t_plan_feeders, .ref q_t_plan_feederCount, .int t_plan_size, .ref q_t_plan_places, .ref q_t_plan_bagMates, .ref q_t_plan_going], aI cA q_t_plan_others 56 t_plan_others, aI cA q_t_plan_otherCount 14 t_plan_otherCount, aI cA q_t_openCount 14 t_openCount, aI cA q_t_picks 14 r]) 0 0)  : ∀ (n : Nat) (x2 : Int32) (t_picks : Nat → Int32), L_X7_pickNext_4 a1 t_plan_others t_plan_otherCount t_openCount n x2 t_picks = some r → Go X 4 0 0 4 [oB q_t 7 [.ref q_t_open, .int t_sum, .int t_many, .ref q_t_net, .ref q_t_law, .ref q_t_plan, .ref q_t_openStates, .ref q_t_openCount, .ref q_t_picks, .ref q_t_strides, .ref q_t_sums, .ref q_t_counts, .int t_sign, .int t_changed, .int t_pickedSum, .int t_aim, .long t_before], oB q_t_plan 5 [.ref q_t_plan_knots, .ref q_t_plan_others, .ref q_t_plan_otherCount, .ref q_t_plan_scopes, .ref q_t_plan_users, .ref q_t_plan_feeders, .ref q_t_plan_feederCount, .int t_plan_size, .ref q_t_plan_places, .ref q_t_plan_bagMates, .ref q_t_plan_going], aI cA q_t_plan_others 56 t_plan_others, aI cA q_t_plan_otherCount 14 t_plan_otherCount, aI cA q_t_openCount 14 t_openCount, aI cA q_t_picks 14 t_picks] [(0, .ref q_t), (1, .int a1), (2, .int x2)] [] := by
  intro n
  induction n with
  | zero => intro x2 t_picks hf; exact no_some hf
  | succ n ih =>
    intro x2 t_picks hf
    rw [L_X7_pickNext_4] at hf
    refine g_iload_n C 4 2 dX7_pickNext_4 rfl rfl ?_
    refine g_iload_n C 5 1 dX7_pickNext_5 rfl rfl ?_
    refine g_iconst C 6 (4 : Int32) dX7_pickNext_6 (by decide) ?_
    refine g_imul C 7 dX7_pickNext_7 ?_
    refine g_aload_n C 8 0 dX7_pickNext_8 rfl rfl ?_
    refine g_get C 9 0 5 dX7_pickNext_9 inX7 rfl rfl (by decide) kw_163 rfl ?_
    refine g_get C 12 1 2 dX7_pickNext_12 inX5 rfl rfl (by decide) kw_164 rfl ?_
    refine g_iload_n C 15 1 dX7_pickNext_15 rfl rfl ?_
    refine g_iald C 16 3 dX7_pickNext_16 rfl hf (fun v2 hf => ?_)
    refine g_iadd C 17 dX7_pickNext_17 ?_
    refine g_icmp_ge C 18 70 dX7_pickNext_18 (by decide) hf (fun hf => ?_) (fun hf => ?_)
    · cases hf
      exact g_vret C 70 dX7_pickNext_70 F ⟨rfl, rfl⟩
    · refine g_aload_n C 21 0 dX7_pickNext_21 rfl rfl ?_
      refine g_get C 22 0 5 dX7_pickNext_22 inX7 rfl rfl (by decide) kw_163 rfl ?_
      refine g_get C 25 1 1 dX7_pickNext_25 inX5 rfl rfl (by decide) kw_167 rfl ?_
      refine g_iload_n C 28 2 dX7_pickNext_28 rfl rfl ?_
      refine g_iald C 29 2 dX7_pickNext_29 rfl hf (fun v3 hf => ?_)
      refine g_istore_n C 30 (fun z => [(3, .int z), (0, .ref q_t), (1, .int a1), (2, .int x2)]) dX7_pickNext_30 rfl (by decide) (fun _ => rfl) hf (fun x3_4 hf => ?_)
      refine g_aload_n C 31 1 dX7_pickNext_31 rfl rfl ?_
      refine g_get C 32 0 8 dX7_pickNext_32 inX7 rfl rfl (by decide) kw_154 rfl ?_
      refine g_iload_n C 35 0 dX7_pickNext_35 rfl rfl ?_
      refine g_dup2 C 36 dX7_pickNext_36 rfl rfl ?_
      refine g_iald C 37 5 dX7_pickNext_37 rfl hf (fun v5 hf => ?_)
      refine g_iconst C 38 (1 : Int32) dX7_pickNext_38 (by decide) ?_
      refine g_iadd C 39 dX7_pickNext_39 ?_
      refine g_iast C 40 5 (fun z => [oB q_t 7 [.ref q_t_open, .int t_sum, .int t_many, .ref q_t_net, .ref q_t_law, .ref q_t_plan, .ref q_t_openStates, .ref q_t_openCount, .ref q_t_picks, .ref q_t_strides, .ref q_t_sums, .ref q_t_counts, .int t_sign, .int t_changed, .int t_pickedSum, .int t_aim, .long t_before], oB q_t_plan 5 [.ref q_t_plan_knots, .ref q_t_plan_others, .ref q_t_plan_otherCount, .ref q_t_plan_scopes, .ref q_t_plan_users, .ref q_t_plan_feeders, .ref q_t_plan_feederCount, .int t_plan_size, .ref q_t_plan_places, .ref q_t_plan_bagMates, .ref q_t_plan_going], aI cA q_t_plan_others 56 t_plan_others, aI cA q_t_plan_otherCount 14 t_plan_otherCount, aI cA q_t_openCount 14 t_openCount, aI cA q_t_picks 14 z]) dX7_pickNext_40 rfl (fun _ => rfl) hf (fun t_picks_6 hf => ?_)
      refine g_aload_n C 41 1 dX7_pickNext_41 rfl rfl ?_
      refine g_get C 42 0 8 dX7_pickNext_42 inX7 rfl rfl (by decide) kw_154 rfl ?_
      refine g_iload_n C 45 0 dX7_pickNext_45 rfl rfl ?_
      refine g_iald C 46 5 dX7_pickNext_46 rfl hf (fun v7 hf => ?_)
      refine g_aload_n C 47 1 dX7_pickNext_47 rfl rfl ?_
      refine g_get C 48 0 7 dX7_pickNext_48 inX7 rfl rfl (by decide) kw_152 rfl ?_
      refine g_iload_n C 51 0 dX7_pickNext_51 rfl rfl ?_
      refine g_iald C 52 4 dX7_pickNext_52 rfl hf (fun v8 hf => ?_)
      refine g_icmp_ge C 53 57 dX7_pickNext_53 (by decide) hf (fun hf => ?_) (fun hf => ?_)
      · refine g_aload_n C 57 1 dX7_pickNext_57 rfl rfl ?_
        refine g_get C 58 0 8 dX7_pickNext_58 inX7 rfl rfl (by decide) kw_154 rfl ?_
        refine g_iload_n C 61 0 dX7_pickNext_61 rfl rfl ?_
        refine g_iconst C 62 (0 : Int32) dX7_pickNext_62 (by decide) ?_
        refine g_iast C 63 5 (fun z => [oB q_t 7 [.ref q_t_open, .int t_sum, .int t_many, .ref q_t_net, .ref q_t_law, .ref q_t_plan, .ref q_t_openStates, .ref q_t_openCount, .ref q_t_picks, .ref q_t_strides, .ref q_t_sums, .ref q_t_counts, .int t_sign, .int t_changed, .int t_pickedSum, .int t_aim, .long t_before], oB q_t_plan 5 [.ref q_t_plan_knots, .ref q_t_plan_others, .ref q_t_plan_otherCount, .ref q_t_plan_scopes, .ref q_t_plan_users, .ref q_t_plan_feeders, .ref q_t_plan_feederCount, .int t_plan_size, .ref q_t_plan_places, .ref q_t_plan_bagMates, .ref q_t_plan_going], aI cA q_t_plan_others 56 t_plan_others, aI cA q_t_plan_otherCount 14 t_plan_otherCount, aI cA q_t_openCount 14 t_openCount, aI cA q_t_picks 14 z]) dX7_pickNext_63 rfl (fun _ => rfl) hf (fun t_picks_9 hf => ?_)
        refine g_iinc C 64 3 (v := x2 + (1 : Int32)) (fun z => [(2, .int z), (3, .int x3_4), (0, .ref q_t), (1, .int a1)]) dX7_pickNext_64 rfl rfl (by decide) (fun _ => rfl) hf (fun x2_10 hf => ?_)
        refine g_goto C 67 4 dX7_pickNext_67 (by decide) ?_
        refine g_lv [2, 3, 0] rfl ?_
        exact ih x2_10 t_picks_9 hf
      · cases hf
        exact g_vret C 56 dX7_pickNext_56 F ⟨rfl, rfl⟩
def f_X7_pickNext (a1 : Int32) (t_plan_others : Nat → Int32) (t_plan_otherCount : Nat → Int32) (t_openCount : Nat → Int32) (t_picks : Nat → Int32) : Option ((Nat → Int32)) :=
  bnd (a1 * (4 : Int32)) fun x2_1 =>
  L_X7_pickNext_4 a1 t_plan_others t_plan_otherCount t_openCount NN x2_1 t_picks

set_option maxRecDepth 100000 in
set_option maxHeartbeats 1000000 in
theorem c_X7_pickNext (l : Launch) (cA : Nat → ClassId) (q_t : Nat) (q_t_open : Nat) (t_sum : Int32) (t_many : Int32) (q_t_net : Nat) (q_t_law : Nat) (q_t_openStates : Nat) (q_t_strides : Nat) (q_t_sums : Nat) (q_t_counts : Nat) (t_sign : Int32) (t_changed : Int32) (t_pickedSum : Int32) (t_aim : Int32) (t_before : Int64) (q_t_plan : Nat) (q_t_plan_knots : Nat) (q_t_plan_scopes : Nat) (q_t_plan_users : Nat) (q_t_plan_feeders : Nat) (q_t_plan_feederCount : Nat) (t_plan_size : Int32) (q_t_plan_places : Nat) (q_t_plan_bagMates : Nat) (q_t_plan_going : Nat) (q_t_plan_others : Nat) (t_plan_others : Nat → Int32) (q_t_plan_otherCount : Nat) (t_plan_otherCount : Nat → Int32) (q_t_openCount : Nat) (t_openCount : Nat → Int32) (q_t_picks : Nat) (t_picks : Nat → Int32) (a1 : Int32) (r : (Nat → Int32)) (hf : f_X7_pickNext a1 t_plan_others t_plan_otherCount t_openCount t_picks = some r) : MT l cA yX7_pickNext cX7_pickNext 4 none ({ frames := 0, cells := 0, slots := 0, locals := 0 } : Room) [.ref q_t, .int a1] [oB q_t 7 [.ref q_t_open, .int t_sum, .int t_many, .ref q_t_net, .ref q_t_law, .ref q_t_plan, .ref q_t_openStates, .ref q_t_openCount, .ref q_t_picks, .ref q_t_strides, .ref q_t_sums, .ref q_t_counts, .int t_sign, .int t_changed, .int t_pickedSum, .int t_aim, .long t_before], oB q_t_plan 5 [.ref q_t_plan_knots, .ref q_t_plan_others, .ref q_t_plan_otherCount, .ref q_t_plan_scopes, .ref q_t_plan_users, .ref q_t_plan_feeders, .ref q_t_plan_feederCount, .int t_plan_size, .ref q_t_plan_places, .ref q_t_plan_bagMates, .ref q_t_plan_going], aI cA q_t_plan_others 56 t_plan_others, aI cA q_t_plan_otherCount 14 t_plan_otherCount, aI cA q_t_openCount 14 t_openCount, aI cA q_t_picks 14 t_picks] (sB (none) [oB q_t 7 [.ref q_t_open, .int t_sum, .int t_many, .ref q_t_net, .ref q_t_law, .ref q_t_plan, .ref q_t_openStates, .ref q_t_openCount, .ref q_t_picks, .ref q_t_strides, .ref q_t_sums, .ref q_t_counts, .int t_sign, .int t_changed, .int t_pickedSum, .int t_aim, .long t_before], oB q_t_plan 5 [.ref q_t_plan_knots, .ref q_t_plan_others, .ref q_t_plan_otherCount, .ref q_t_plan_scopes, .ref q_t_plan_users, .ref q_t_plan_feeders, .ref q_t_plan_feederCount, .int t_plan_size, .ref q_t_plan_places, .ref q_t_plan_bagMates, .ref q_t_plan_going], aI cA q_t_plan_others 56 t_plan_others, aI cA q_t_plan_otherCount 14 t_plan_otherCount, aI cA q_t_openCount 14 t_openCount, aI cA q_t_picks 14 r]) := by
  refine MT.of (by decide) (Nat.le_of_ble_eq_true rfl) ?_
  intro X hXl C F hnm hrc hrs
  subst hXl
  unfold f_X7_pickNext at hf
  have C : Cx X cX7_pickNext RX7 none cA 0 0 4 := C
  show Go X 4 0 0 0 [oB q_t 7 [.ref q_t_open, .int t_sum, .int t_many, .ref q_t_net, .ref q_t_law, .ref q_t_plan, .ref q_t_openStates, .ref q_t_openCount, .ref q_t_picks, .ref q_t_strides, .ref q_t_sums, .ref q_t_counts, .int t_sign, .int t_changed, .int t_pickedSum, .int t_aim, .long t_before], oB q_t_plan 5 [.ref q_t_plan_knots, .ref q_t_plan_others, .ref q_t_plan_otherCount, .ref q_t_plan_scopes, .ref q_t_plan_users, .ref q_t_plan_feeders, .ref q_t_plan_feederCount, .int t_plan_size, .ref q_t_plan_places, .ref q_t_plan_bagMates, .ref q_t_plan_going], aI cA q_t_plan_others 56 t_plan_others, aI cA q_t_plan_otherCount 14 t_plan_otherCount, aI cA q_t_openCount 14 t_openCount, aI cA q_t_picks 14 t_picks] [(0, .ref q_t), (1, .int a1)] []
  refine g_iload_n C 0 1 dX7_pickNext_0 rfl rfl ?_
  refine g_iconst C 1 (4 : Int32) dX7_pickNext_1 (by decide) ?_
  refine g_imul C 2 dX7_pickNext_2 ?_
  refine g_istore_n C 3 (fun z => [(2, .int z), (0, .ref q_t), (1, .int a1)]) dX7_pickNext_3 rfl (by decide) (fun _ => rfl) hf (fun x2_1 hf => ?_)
  refine g_lv [1, 2, 0] rfl ?_
  exact w_X7_pickNext_4 cA q_t q_t_open t_sum t_many q_t_net q_t_law q_t_openStates q_t_strides q_t_sums q_t_counts t_sign t_changed t_pickedSum t_aim t_before q_t_plan q_t_plan_knots q_t_plan_scopes q_t_plan_users q_t_plan_feeders q_t_plan_feederCount t_plan_size q_t_plan_places q_t_plan_bagMates q_t_plan_going q_t_plan_others q_t_plan_otherCount q_t_openCount q_t_picks a1 t_plan_others t_plan_otherCount t_openCount C r F NN x2_1 t_picks hf

def L_X7_fillTable_67 (a1 : Int32) (t_sign : Int32) (t_net_loads : Nat → Int32) (t_net_near : Nat → Int32) (t_net_ties : Nat → Int32) (t_law_factors : Nat → Int32) (t_law_pairFactors : Nat → Int32) (t_law_barred : Nat → Int32) (t_plan_knots : Nat → Int32) (t_plan_others : Nat → Int32) (t_plan_otherCount : Nat → Int32) (t_plan_feeders : Nat → Int32) (t_plan_feederCount : Nat → Int32) (t_openStates : Nat → Int32) (t_openCount : Nat → Int32)  : Nat → Int32 → Int32 → Int32 → (Nat → Int32) → (Nat → Int32) → (Nat → Int32) → (Nat → Int32) → Option (Int32 × (Nat → Int32) × (Nat → Int32) × (Nat → Int32) × (Nat → Int32))
  | 0, _, _, _, _, _, _, _ => none
  | n + 1, x2, x3, t_pickedSum, t_picks, t_strides, t_sums, t_counts =>
    if x2 ≤ x3 then
      some (t_pickedSum, t_picks, t_strides, t_sums, t_counts)
    else
      cal (f_X7_fillEntry a1 ((a1 * (256 : Int32)) + x3) t_sign t_pickedSum t_net_loads t_net_near t_net_ties t_law_factors t_law_pairFactors t_law_barred t_plan_knots t_plan_others t_plan_otherCount t_plan_feeders t_plan_feederCount t_openStates t_openCount t_picks t_strides t_sums t_counts) fun u5 =>
      cal (f_X7_pickNext a1 t_plan_others t_plan_otherCount t_openCount u5.2.1) fun u6 =>
      bnd (x3 + (1 : Int32)) fun x3_7 =>
      L_X7_fillTable_67 a1 t_sign t_net_loads t_net_near t_net_ties t_law_factors t_law_pairFactors t_law_barred t_plan_knots t_plan_others t_plan_otherCount t_plan_feeders t_plan_feederCount t_openStates t_openCount n x2 x3_7 u5.1 u6 t_strides u5.2.2.1 u5.2.2.2

set_option maxRecDepth 100000 in
set_option maxHeartbeats 1000000 in
theorem w_X7_fillTable_67 (cA : Nat → ClassId) (q_t : Nat) (q_t_open : Nat) (t_sum : Int32) (t_many : Int32) (t_changed : Int32) (t_aim : Int32) (t_before : Int64) (q_t_net : Nat) (t_net_size : Int32) (t_net_edges : Int32) (q_t_net_loads : Nat) (q_t_net_near : Nat) (q_t_net_ties : Nat) (q_t_law : Nat) (t_law_size : Int32) (q_t_law_forbidden : Nat) (q_t_law_factors : Nat) (q_t_law_pairFactors : Nat) (q_t_law_barred : Nat) (q_t_plan : Nat) (q_t_plan_scopes : Nat) (q_t_plan_users : Nat) (t_plan_size : Int32) (q_t_plan_places : Nat) (q_t_plan_bagMates : Nat) (q_t_plan_going : Nat) (q_t_plan_knots : Nat) (q_t_plan_others : Nat) (q_t_plan_otherCount : Nat) (q_t_plan_feeders : Nat) (q_t_plan_feederCount : Nat) (q_t_openStates : Nat) (q_t_openCount : Nat) (q_t_picks : Nat) (q_t_strides : Nat) (q_t_sums : Nat) (q_t_counts : Nat) (a1 : Int32) (t_sign : Int32) (t_net_loads : Nat → Int32) (t_net_near : Nat → Int32) (t_net_ties : Nat → Int32) (t_law_factors : Nat → Int32) (t_law_pairFactors : Nat → Int32) (t_law_barred : Nat → Int32) (t_plan_knots : Nat → Int32) (t_plan_others : Nat → Int32) (t_plan_otherCount : Nat → Int32) (t_plan_feeders : Nat → Int32) (t_plan_feederCount : Nat → Int32) (t_openStates : Nat → Int32) (t_openCount : Nat → Int32) {X : XT} (C : Cx X cX7_fillTable RX7 none cA 3 76 5) (r : Int32 × (Nat → Int32) × (Nat → Int32) × (Nat → Int32) × (Nat → Int32)) (F : Fx X (sB (none) [oB q_t 7 [.ref q_t_open, .int t_sum, .int t_many, .ref q_t_net, .ref q_t_law, .ref q_t_plan, .ref q_t_openStates, .ref q_t_openCount, .ref q_t_picks, .ref q_t_strides, .ref q_t_sums, .ref q_t_counts, .int t_sign, .int t_changed, .int r.1, .int t_aim, .long t_before], oB q_t_net 4 [.ref q_t_net_loads, .ref q_t_net_near, .ref q_t_net_ties, .int t_net_size, .int t_net_edges], aI cA q_t_net_loads 14 t_net_loads, aI cA q_t_net_near 14 t_net_near, aI cA q_t_net_ties 196 t_net_ties, oB q_t_law 3 [.int t_law_size, .ref q_t_law_factors, .ref q_t_law_pairFactors, .ref q_t_law_barred, .ref q_t_law_forbidden], aI cA q_t_law_factors 4 t_law_factors, aI cA q_t_law_pairFactors 16 t_law_pairFactors, aZ cA q_t_law_barred 16 t_law_barred, oB q_t_plan 5 [.ref q_t_plan_knots, .ref q_t_plan_others, .ref q_t_plan_otherCount, .ref q_t_plan_scopes, .ref q_t_plan_users, .ref q_t_plan_feeders, .ref q_t_plan_feederCount, .int t_plan_size, .ref q_t_plan_places, .ref q_t_plan_bagMates, .ref q_t_plan_going], aI cA q_t_plan_knots 14 t_plan_knots, aI cA q_t_plan_others 56 t_plan_others, aI cA q_t_plan_otherCount 14 t_plan_otherCount, aI cA q_t_plan_feeders 196 t_plan_feeders, aI cA q_t_plan_feederCount 14 t_plan_feederCount, aI cA q_t_openStates 56 t_openStates, aI cA q_t_openCount 14 t_openCount, aI cA q_t_picks 14 r.2.1, aI cA q_t_strides 56 r.2.2.1, aI cA q_t_sums 3584 r.2.2.2.1, aI cA q_t_counts 3584 r.2.2.2.2]) 0 0)  : ∀ (n : Nat) (x2 : Int32) (x3 : Int32) (t_pickedSum : Int32) (t_picks : Nat → Int32) (t_strides : Nat → Int32) (t_sums : Nat → Int32) (t_counts : Nat → Int32), L_X7_fillTable_67 a1 t_sign t_net_loads t_net_near t_net_ties t_law_factors t_law_pairFactors t_law_barred t_plan_knots t_plan_others t_plan_otherCount t_plan_feeders t_plan_feederCount t_openStates t_openCount n x2 x3 t_pickedSum t_picks t_strides t_sums t_counts = some r → Go X 5 0 0 67 [oB q_t 7 [.ref q_t_open, .int t_sum, .int t_many, .ref q_t_net, .ref q_t_law, .ref q_t_plan, .ref q_t_openStates, .ref q_t_openCount, .ref q_t_picks, .ref q_t_strides, .ref q_t_sums, .ref q_t_counts, .int t_sign, .int t_changed, .int t_pickedSum, .int t_aim, .long t_before], oB q_t_net 4 [.ref q_t_net_loads, .ref q_t_net_near, .ref q_t_net_ties, .int t_net_size, .int t_net_edges], aI cA q_t_net_loads 14 t_net_loads, aI cA q_t_net_near 14 t_net_near, aI cA q_t_net_ties 196 t_net_ties, oB q_t_law 3 [.int t_law_size, .ref q_t_law_factors, .ref q_t_law_pairFactors, .ref q_t_law_barred, .ref q_t_law_forbidden], aI cA q_t_law_factors 4 t_law_factors, aI cA q_t_law_pairFactors 16 t_law_pairFactors, aZ cA q_t_law_barred 16 t_law_barred, oB q_t_plan 5 [.ref q_t_plan_knots, .ref q_t_plan_others, .ref q_t_plan_otherCount, .ref q_t_plan_scopes, .ref q_t_plan_users, .ref q_t_plan_feeders, .ref q_t_plan_feederCount, .int t_plan_size, .ref q_t_plan_places, .ref q_t_plan_bagMates, .ref q_t_plan_going], aI cA q_t_plan_knots 14 t_plan_knots, aI cA q_t_plan_others 56 t_plan_others, aI cA q_t_plan_otherCount 14 t_plan_otherCount, aI cA q_t_plan_feeders 196 t_plan_feeders, aI cA q_t_plan_feederCount 14 t_plan_feederCount, aI cA q_t_openStates 56 t_openStates, aI cA q_t_openCount 14 t_openCount, aI cA q_t_picks 14 t_picks, aI cA q_t_strides 56 t_strides, aI cA q_t_sums 3584 t_sums, aI cA q_t_counts 3584 t_counts] [(0, .ref q_t), (1, .int a1), (2, .int x2), (3, .int x3)] [] := by
  intro n
  induction n with
  | zero => intro x2 x3 t_pickedSum t_picks t_strides t_sums t_counts hf; exact no_some hf
  | succ n ih =>
    intro x2 x3 t_pickedSum t_picks t_strides t_sums t_counts hf
    rw [L_X7_fillTable_67] at hf
    refine g_iload_n C 67 3 dX7_fillTable_67 rfl rfl ?_
    refine g_iload_n C 68 2 dX7_fillTable_68 rfl rfl ?_
    refine g_icmp_ge C 69 95 dX7_fillTable_69 (by decide) hf (fun hf => ?_) (fun hf => ?_)
    · cases hf
      exact g_vret C 95 dX7_fillTable_95 F ⟨rfl, rfl⟩
    · refine g_aload_n C 72 0 dX7_fillTable_72 rfl rfl ?_
      refine g_iload_n C 73 1 dX7_fillTable_73 rfl rfl ?_
      refine g_iload_n C 74 1 dX7_fillTable_74 rfl rfl ?_
      refine g_sipush C 75 (256 : Int32) dX7_fillTable_75 (by decide) ?_
      refine g_imul C 78 dX7_fillTable_78 ?_
      refine g_iload_n C 79 3 dX7_fillTable_79 rfl rfl ?_
      refine g_iadd C 80 dX7_fillTable_80 ?_
      obtain ⟨u5, hu5, hf⟩ := cal_some hf
      refine g_callV1 C 81 [0, 1, 2, 3, 4, 5, 6, 7, 8, 9, 10, 11, 12, 13, 14, 15, 16, 17, 18, 19, 20] 0 (rest := []) dX7_fillTable_81 (c_X7_fillEntry (x_l X) cA q_t q_t_open t_sum t_many t_sign t_changed t_pickedSum t_aim t_before q_t_net t_net_size t_net_edges q_t_net_loads t_net_loads q_t_net_near t_net_near q_t_net_ties t_net_ties q_t_law t_law_size q_t_law_forbidden q_t_law_factors t_law_factors q_t_law_pairFactors t_law_pairFactors q_t_law_barred t_law_barred q_t_plan q_t_plan_scopes q_t_plan_users t_plan_size q_t_plan_places q_t_plan_bagMates q_t_plan_going q_t_plan_knots t_plan_knots q_t_plan_others t_plan_others q_t_plan_otherCount t_plan_otherCount q_t_plan_feeders t_plan_feeders q_t_plan_feederCount t_plan_feederCount q_t_openStates t_openStates q_t_openCount t_openCount q_t_picks t_picks q_t_strides t_strides q_t_sums t_sums q_t_counts t_counts a1 ((a1 * (256 : Int32)) + x3) u5 hu5) kw_189 kw_190 kw_191 kw_158 kw_192 ok_X7_fillEntry ⟨Nat.le_of_ble_eq_true rfl, Nat.le_of_ble_eq_true rfl⟩ ⟨Nat.zero_le _, Nat.zero_le _⟩ ⟨rfl, rfl⟩ rfl rfl rfl rfl rfl (Nat.le_of_ble_eq_true rfl) rfl (ws' := [oB q_t 7 [.ref q_t_open, .int t_sum, .int t_many, .ref q_t_net, .ref q_t_law, .ref q_t_plan, .ref q_t_openStates, .ref q_t_openCount, .ref q_t_picks, .ref q_t_strides, .ref q_t_sums, .ref q_t_counts, .int t_sign, .int t_changed, .int u5.1, .int t_aim, .long t_before], oB q_t_net 4 [.ref q_t_net_loads, .ref q_t_net_near, .ref q_t_net_ties, .int t_net_size, .int t_net_edges], aI cA q_t_net_loads 14 t_net_loads, aI cA q_t_net_near 14 t_net_near, aI cA q_t_net_ties 196 t_net_ties, oB q_t_law 3 [.int t_law_size, .ref q_t_law_factors, .ref q_t_law_pairFactors, .ref q_t_law_barred, .ref q_t_law_forbidden], aI cA q_t_law_factors 4 t_law_factors, aI cA q_t_law_pairFactors 16 t_law_pairFactors, aZ cA q_t_law_barred 16 t_law_barred, oB q_t_plan 5 [.ref q_t_plan_knots, .ref q_t_plan_others, .ref q_t_plan_otherCount, .ref q_t_plan_scopes, .ref q_t_plan_users, .ref q_t_plan_feeders, .ref q_t_plan_feederCount, .int t_plan_size, .ref q_t_plan_places, .ref q_t_plan_bagMates, .ref q_t_plan_going], aI cA q_t_plan_knots 14 t_plan_knots, aI cA q_t_plan_others 56 t_plan_others, aI cA q_t_plan_otherCount 14 t_plan_otherCount, aI cA q_t_plan_feeders 196 t_plan_feeders, aI cA q_t_plan_feederCount 14 t_plan_feederCount, aI cA q_t_openStates 56 t_openStates, aI cA q_t_openCount 14 t_openCount, aI cA q_t_picks 14 u5.2.1, aI cA q_t_strides 56 t_strides, aI cA q_t_sums 3584 u5.2.2.1, aI cA q_t_counts 3584 u5.2.2.2]) (st' := []) (N0 := 21) rfl [some 0, some 1, some 2, some 3, some 4, some 5, some 6, some 7, some 8, some 9, some 10, some 11, some 12, some 13, some 14, some 15, some 16, some 17, some 18, some 19, some 20] (by decide) rfl rfl ?_
      refine g_aload_n C 84 0 dX7_fillTable_84 rfl rfl ?_
      refine g_iload_n C 85 1 dX7_fillTable_85 rfl rfl ?_
      obtain ⟨u6, hu6, hf⟩ := cal_some hf
      refine g_callV1 C 86 [0, 9, 11, 12, 16, 17] 0 (rest := []) dX7_fillTable_86 (c_X7_pickNext (x_l X) cA q_t q_t_open t_sum t_many q_t_net q_t_law q_t_openStates q_t_strides q_t_sums q_t_counts t_sign t_changed u5.1 t_aim t_before q_t_plan q_t_plan_knots q_t_plan_scopes q_t_plan_users q_t_plan_feeders q_t_plan_feederCount t_plan_size q_t_plan_places q_t_plan_bagMates q_t_plan_going q_t_plan_others t_plan_others q_t_plan_otherCount t_plan_otherCount q_t_openCount t_openCount q_t_picks u5.2.1 a1 u6 hu6) kw_193 kw_194 kw_195 kw_158 kw_196 ok_X7_pickNext ⟨Nat.le_of_ble_eq_true rfl, Nat.le_of_ble_eq_true rfl⟩ ⟨Nat.zero_le _, Nat.zero_le _⟩ ⟨rfl, rfl⟩ rfl rfl rfl rfl rfl (Nat.le_of_ble_eq_true rfl) rfl (ws' := [oB q_t 7 [.ref q_t_open, .int t_sum, .int t_many, .ref q_t_net, .ref q_t_law, .ref q_t_plan, .ref q_t_openStates, .ref q_t_openCount, .ref q_t_picks, .ref q_t_strides, .ref q_t_sums, .ref q_t_counts, .int t_sign, .int t_changed, .int u5.1, .int t_aim, .long t_before], oB q_t_net 4 [.ref q_t_net_loads, .ref q_t_net_near, .ref q_t_net_ties, .int t_net_size, .int t_net_edges], aI cA q_t_net_loads 14 t_net_loads, aI cA q_t_net_near 14 t_net_near, aI cA q_t_net_ties 196 t_net_ties, oB q_t_law 3 [.int t_law_size, .ref q_t_law_factors, .ref q_t_law_pairFactors, .ref q_t_law_barred, .ref q_t_law_forbidden], aI cA q_t_law_factors 4 t_law_factors, aI cA q_t_law_pairFactors 16 t_law_pairFactors, aZ cA q_t_law_barred 16 t_law_barred, oB q_t_plan 5 [.ref q_t_plan_knots, .ref q_t_plan_others, .ref q_t_plan_otherCount, .ref q_t_plan_scopes, .ref q_t_plan_users, .ref q_t_plan_feeders, .ref q_t_plan_feederCount, .int t_plan_size, .ref q_t_plan_places, .ref q_t_plan_bagMates, .ref q_t_plan_going], aI cA q_t_plan_knots 14 t_plan_knots, aI cA q_t_plan_others 56 t_plan_others, aI cA q_t_plan_otherCount 14 t_plan_otherCount, aI cA q_t_plan_feeders 196 t_plan_feeders, aI cA q_t_plan_feederCount 14 t_plan_feederCount, aI cA q_t_openStates 56 t_openStates, aI cA q_t_openCount 14 t_openCount, aI cA q_t_picks 14 u6, aI cA q_t_strides 56 t_strides, aI cA q_t_sums 3584 u5.2.2.1, aI cA q_t_counts 3584 u5.2.2.2]) (st' := []) (N0 := 21) rfl [some 0, none, none, none, none, none, none, none, none, some 1, none, some 2, some 3, none, none, none, some 4, some 5, none, none, none] (by decide) rfl rfl ?_
      refine g_iinc C 89 3 (v := x3 + (1 : Int32)) (fun z => [(3, .int z), (0, .ref q_t), (1, .int a1), (2, .int x2)]) dX7_fillTable_89 rfl rfl (by decide) (fun _ => rfl) hf (fun x3_7 hf => ?_)
      refine g_goto C 92 67 dX7_fillTable_92 (by decide) ?_
      refine g_lv [1, 2, 3, 0] rfl ?_
      exact ih x2 x3_7 u5.1 u6 t_strides u5.2.2.1 u5.2.2.2 hf
def L_X7_fillTable_6 (a1 : Int32) (t_sign : Int32) (t_net_loads : Nat → Int32) (t_net_near : Nat → Int32) (t_net_ties : Nat → Int32) (t_law_factors : Nat → Int32) (t_law_pairFactors : Nat → Int32) (t_law_barred : Nat → Int32) (t_plan_knots : Nat → Int32) (t_plan_others : Nat → Int32) (t_plan_otherCount : Nat → Int32) (t_plan_feeders : Nat → Int32) (t_plan_feederCount : Nat → Int32) (t_openStates : Nat → Int32) (t_openCount : Nat → Int32)  : Nat → Int32 → Int32 → Int32 → (Nat → Int32) → (Nat → Int32) → (Nat → Int32) → (Nat → Int32) → Option (Int32 × (Nat → Int32) × (Nat → Int32) × (Nat → Int32) × (Nat → Int32))
  | 0, _, _, _, _, _, _, _ => none
  | n + 1, x2, x3, t_pickedSum, t_picks, t_strides, t_sums, t_counts =>
    ldA t_plan_otherCount 14 a1 fun v3 =>
    if ((a1 * (4 : Int32)) + v3) ≤ x3 then
      bnd (0 : Int32) fun x3_4 =>
      L_X7_fillTable_67 a1 t_sign t_net_loads t_net_near t_net_ties t_law_factors t_law_pairFactors t_law_barred t_plan_knots t_plan_others t_plan_otherCount t_plan_feeders t_plan_feederCount t_openStates t_openCount NN x2 x3_4 t_pickedSum t_picks t_strides t_sums t_counts
    else
      ldA t_plan_others 56 x3 fun v8 =>
      bnd v8 fun x4_9 =>
      stI t_strides 56 x3 x2 fun t_strides_10 =>
      ldA t_openCount 14 x4_9 fun v11 =>
      bnd (x2 * v11) fun x2_12 =>
      stI t_picks 14 x4_9 (0 : Int32) fun t_picks_13 =>
      bnd (x3 + (1 : Int32)) fun x3_14 =>
      L_X7_fillTable_6 a1 t_sign t_net_loads t_net_near t_net_ties t_law_factors t_law_pairFactors t_law_barred t_plan_knots t_plan_others t_plan_otherCount t_plan_feeders t_plan_feederCount t_openStates t_openCount n x2_12 x3_14 t_pickedSum t_picks_13 t_strides_10 t_sums t_counts

set_option maxRecDepth 100000 in
set_option maxHeartbeats 1000000 in
theorem w_X7_fillTable_6 (cA : Nat → ClassId) (q_t : Nat) (q_t_open : Nat) (t_sum : Int32) (t_many : Int32) (t_changed : Int32) (t_aim : Int32) (t_before : Int64) (q_t_net : Nat) (t_net_size : Int32) (t_net_edges : Int32) (q_t_net_loads : Nat) (q_t_net_near : Nat) (q_t_net_ties : Nat) (q_t_law : Nat) (t_law_size : Int32) (q_t_law_forbidden : Nat) (q_t_law_factors : Nat) (q_t_law_pairFactors : Nat) (q_t_law_barred : Nat) (q_t_plan : Nat) (q_t_plan_scopes : Nat) (q_t_plan_users : Nat) (t_plan_size : Int32) (q_t_plan_places : Nat) (q_t_plan_bagMates : Nat) (q_t_plan_going : Nat) (q_t_plan_knots : Nat) (q_t_plan_others : Nat) (q_t_plan_otherCount : Nat) (q_t_plan_feeders : Nat) (q_t_plan_feederCount : Nat) (q_t_openStates : Nat) (q_t_openCount : Nat) (q_t_picks : Nat) (q_t_strides : Nat) (q_t_sums : Nat) (q_t_counts : Nat) (a1 : Int32) (t_sign : Int32) (t_net_loads : Nat → Int32) (t_net_near : Nat → Int32) (t_net_ties : Nat → Int32) (t_law_factors : Nat → Int32) (t_law_pairFactors : Nat → Int32) (t_law_barred : Nat → Int32) (t_plan_knots : Nat → Int32) (t_plan_others : Nat → Int32) (t_plan_otherCount : Nat → Int32) (t_plan_feeders : Nat → Int32) (t_plan_feederCount : Nat → Int32) (t_openStates : Nat → Int32) (t_openCount : Nat → Int32) {X : XT} (C : Cx X cX7_fillTable RX7 none cA 3 76 5) (r : Int32 × (Nat → Int32) × (Nat → Int32) × (Nat → Int32) × (Nat → Int32)) (F : Fx X (sB (none) [oB q_t 7 [.ref q_t_open, .int t_sum, .int t_many, .ref q_t_net, .ref q_t_law, .ref q_t_plan, .ref q_t_openStates, .ref q_t_openCount, .ref q_t_picks, .ref q_t_strides, .ref q_t_sums, .ref q_t_counts, .int t_sign, .int t_changed, .int r.1, .int t_aim, .long t_before], oB q_t_net 4 [.ref q_t_net_loads, .ref q_t_net_near, .ref q_t_net_ties, .int t_net_size, .int t_net_edges], aI cA q_t_net_loads 14 t_net_loads, aI cA q_t_net_near 14 t_net_near, aI cA q_t_net_ties 196 t_net_ties, oB q_t_law 3 [.int t_law_size, .ref q_t_law_factors, .ref q_t_law_pairFactors, .ref q_t_law_barred, .ref q_t_law_forbidden], aI cA q_t_law_factors 4 t_law_factors, aI cA q_t_law_pairFactors 16 t_law_pairFactors, aZ cA q_t_law_barred 16 t_law_barred, oB q_t_plan 5 [.ref q_t_plan_knots, .ref q_t_plan_others, .ref q_t_plan_otherCount, .ref q_t_plan_scopes, .ref q_t_plan_users, .ref q_t_plan_feeders, .ref q_t_plan_feederCount, .int t_plan_size, .ref q_t_plan_places, .ref q_t_plan_bagMates, .ref q_t_plan_going], aI cA q_t_plan_knots 14 t_plan_knots, aI cA q_t_plan_others 56 t_plan_others, aI cA q_t_plan_otherCount 14 t_plan_otherCount, aI cA q_t_plan_feeders 196 t_plan_feeders, aI cA q_t_plan_feederCount 14 t_plan_feederCount, aI cA q_t_openStates 56 t_openStates, aI cA q_t_openCount 14 t_openCount, aI cA q_t_picks 14 r.2.1, aI cA q_t_strides 56 r.2.2.1, aI cA q_t_sums 3584 r.2.2.2.1, aI cA q_t_counts 3584 r.2.2.2.2]) 0 0)  : ∀ (n : Nat) (x2 : Int32) (x3 : Int32) (t_pickedSum : Int32) (t_picks : Nat → Int32) (t_strides : Nat → Int32) (t_sums : Nat → Int32) (t_counts : Nat → Int32), L_X7_fillTable_6 a1 t_sign t_net_loads t_net_near t_net_ties t_law_factors t_law_pairFactors t_law_barred t_plan_knots t_plan_others t_plan_otherCount t_plan_feeders t_plan_feederCount t_openStates t_openCount n x2 x3 t_pickedSum t_picks t_strides t_sums t_counts = some r → Go X 5 0 0 6 [oB q_t 7 [.ref q_t_open, .int t_sum, .int t_many, .ref q_t_net, .ref q_t_law, .ref q_t_plan, .ref q_t_openStates, .ref q_t_openCount, .ref q_t_picks, .ref q_t_strides, .ref q_t_sums, .ref q_t_counts, .int t_sign, .int t_changed, .int t_pickedSum, .int t_aim, .long t_before], oB q_t_net 4 [.ref q_t_net_loads, .ref q_t_net_near, .ref q_t_net_ties, .int t_net_size, .int t_net_edges], aI cA q_t_net_loads 14 t_net_loads, aI cA q_t_net_near 14 t_net_near, aI cA q_t_net_ties 196 t_net_ties, oB q_t_law 3 [.int t_law_size, .ref q_t_law_factors, .ref q_t_law_pairFactors, .ref q_t_law_barred, .ref q_t_law_forbidden], aI cA q_t_law_factors 4 t_law_factors, aI cA q_t_law_pairFactors 16 t_law_pairFactors, aZ cA q_t_law_barred 16 t_law_barred, oB q_t_plan 5 [.ref q_t_plan_knots, .ref q_t_plan_others, .ref q_t_plan_otherCount, .ref q_t_plan_scopes, .ref q_t_plan_users, .ref q_t_plan_feeders, .ref q_t_plan_feederCount, .int t_plan_size, .ref q_t_plan_places, .ref q_t_plan_bagMates, .ref q_t_plan_going], aI cA q_t_plan_knots 14 t_plan_knots, aI cA q_t_plan_others 56 t_plan_others, aI cA q_t_plan_otherCount 14 t_plan_otherCount, aI cA q_t_plan_feeders 196 t_plan_feeders, aI cA q_t_plan_feederCount 14 t_plan_feederCount, aI cA q_t_openStates 56 t_openStates, aI cA q_t_openCount 14 t_openCount, aI cA q_t_picks 14 t_picks, aI cA q_t_strides 56 t_strides, aI cA q_t_sums 3584 t_sums, aI cA q_t_counts 3584 t_counts] [(0, .ref q_t), (1, .int a1), (2, .int x2), (3, .int x3)] [] := by
  intro n
  induction n with
  | zero => intro x2 x3 t_pickedSum t_picks t_strides t_sums t_counts hf; exact no_some hf
  | succ n ih =>
    intro x2 x3 t_pickedSum t_picks t_strides t_sums t_counts hf
    rw [L_X7_fillTable_6] at hf
    refine g_iload_n C 6 3 dX7_fillTable_6 rfl rfl ?_
    refine g_iload_n C 7 1 dX7_fillTable_7 rfl rfl ?_
    refine g_iconst C 8 (4 : Int32) dX7_fillTable_8 (by decide) ?_
    refine g_imul C 9 dX7_fillTable_9 ?_
    refine g_aload_n C 10 0 dX7_fillTable_10 rfl rfl ?_
    refine g_get C 11 0 5 dX7_fillTable_11 inX7 rfl rfl (by decide) kw_163 rfl ?_
    refine g_get C 14 9 2 dX7_fillTable_14 inX5 rfl rfl (by decide) kw_164 rfl ?_
    refine g_iload_n C 17 1 dX7_fillTable_17 rfl rfl ?_
    refine g_iald C 18 12 dX7_fillTable_18 rfl hf (fun v3 hf => ?_)
    refine g_iadd C 19 dX7_fillTable_19 ?_
    refine g_icmp_ge C 20 65 dX7_fillTable_20 (by decide) hf (fun hf => ?_) (fun hf => ?_)
    · refine g_iconst C 65 (0 : Int32) dX7_fillTable_65 (by decide) ?_
      refine g_istore_n C 66 (fun z => [(3, .int z), (0, .ref q_t), (1, .int a1), (2, .int x2)]) dX7_fillTable_66 rfl (by decide) (fun _ => rfl) hf (fun x3_4 hf => ?_)
      refine g_lv [1, 2, 3, 0] rfl ?_
      exact w_X7_fillTable_67 cA q_t q_t_open t_sum t_many t_changed t_aim t_before q_t_net t_net_size t_net_edges q_t_net_loads q_t_net_near q_t_net_ties q_t_law t_law_size q_t_law_forbidden q_t_law_factors q_t_law_pairFactors q_t_law_barred q_t_plan q_t_plan_scopes q_t_plan_users t_plan_size q_t_plan_places q_t_plan_bagMates q_t_plan_going q_t_plan_knots q_t_plan_others q_t_plan_otherCount q_t_plan_feeders q_t_plan_feederCount q_t_openStates q_t_openCount q_t_picks q_t_strides q_t_sums q_t_counts a1 t_sign t_net_loads t_net_near t_net_ties t_law_factors t_law_pairFactors t_law_barred t_plan_knots t_plan_others t_plan_otherCount t_plan_feeders t_plan_feederCount t_openStates t_openCount C r F NN x2 x3_4 t_pickedSum t_picks t_strides t_sums t_counts hf
    · refine g_aload_n C 23 0 dX7_fillTable_23 rfl rfl ?_
      refine g_get C 24 0 5 dX7_fillTable_24 inX7 rfl rfl (by decide) kw_163 rfl ?_
      refine g_get C 27 9 1 dX7_fillTable_27 inX5 rfl rfl (by decide) kw_167 rfl ?_
      refine g_iload_n C 30 3 dX7_fillTable_30 rfl rfl ?_
      refine g_iald C 31 11 dX7_fillTable_31 rfl hf (fun v8 hf => ?_)
      refine g_istore C 32 (fun z => [(4, .int z), (0, .ref q_t), (1, .int a1), (2, .int x2), (3, .int x3)]) dX7_fillTable_32 (by decide) (fun _ => rfl) hf (fun x4_9 hf => ?_)
      refine g_aload_n C 34 1 dX7_fillTable_34 rfl rfl ?_
      refine g_get C 35 0 9 dX7_fillTable_35 inX7 rfl rfl (by decide) kw_171 rfl ?_
      refine g_iload_n C 38 4 dX7_fillTable_38 rfl rfl ?_
      refine g_iload_n C 39 3 dX7_fillTable_39 rfl rfl ?_
      refine g_iast C 40 18 (fun z => [oB q_t 7 [.ref q_t_open, .int t_sum, .int t_many, .ref q_t_net, .ref q_t_law, .ref q_t_plan, .ref q_t_openStates, .ref q_t_openCount, .ref q_t_picks, .ref q_t_strides, .ref q_t_sums, .ref q_t_counts, .int t_sign, .int t_changed, .int t_pickedSum, .int t_aim, .long t_before], oB q_t_net 4 [.ref q_t_net_loads, .ref q_t_net_near, .ref q_t_net_ties, .int t_net_size, .int t_net_edges], aI cA q_t_net_loads 14 t_net_loads, aI cA q_t_net_near 14 t_net_near, aI cA q_t_net_ties 196 t_net_ties, oB q_t_law 3 [.int t_law_size, .ref q_t_law_factors, .ref q_t_law_pairFactors, .ref q_t_law_barred, .ref q_t_law_forbidden], aI cA q_t_law_factors 4 t_law_factors, aI cA q_t_law_pairFactors 16 t_law_pairFactors, aZ cA q_t_law_barred 16 t_law_barred, oB q_t_plan 5 [.ref q_t_plan_knots, .ref q_t_plan_others, .ref q_t_plan_otherCount, .ref q_t_plan_scopes, .ref q_t_plan_users, .ref q_t_plan_feeders, .ref q_t_plan_feederCount, .int t_plan_size, .ref q_t_plan_places, .ref q_t_plan_bagMates, .ref q_t_plan_going], aI cA q_t_plan_knots 14 t_plan_knots, aI cA q_t_plan_others 56 t_plan_others, aI cA q_t_plan_otherCount 14 t_plan_otherCount, aI cA q_t_plan_feeders 196 t_plan_feeders, aI cA q_t_plan_feederCount 14 t_plan_feederCount, aI cA q_t_openStates 56 t_openStates, aI cA q_t_openCount 14 t_openCount, aI cA q_t_picks 14 t_picks, aI cA q_t_strides 56 z, aI cA q_t_sums 3584 t_sums, aI cA q_t_counts 3584 t_counts]) dX7_fillTable_40 rfl (fun _ => rfl) hf (fun t_strides_10 hf => ?_)
      refine g_iload_n C 41 3 dX7_fillTable_41 rfl rfl ?_
      refine g_aload_n C 42 1 dX7_fillTable_42 rfl rfl ?_
      refine g_get C 43 0 7 dX7_fillTable_43 inX7 rfl rfl (by decide) kw_152 rfl ?_
      refine g_iload C 46 0 dX7_fillTable_46 rfl ?_
      refine g_iald C 48 16 dX7_fillTable_48 rfl hf (fun v11 hf => ?_)
      refine g_imul C 49 dX7_fillTable_49 ?_
      refine g_istore_n C 50 (fun z => [(2, .int z), (4, .int x4_9), (0, .ref q_t), (1, .int a1), (3, .int x3)]) dX7_fillTable_50 rfl (by decide) (fun _ => rfl) hf (fun x2_12 hf => ?_)
      refine g_aload_n C 51 2 dX7_fillTable_51 rfl rfl ?_
      refine g_get C 52 0 8 dX7_fillTable_52 inX7 rfl rfl (by decide) kw_154 rfl ?_
      refine g_iload C 55 1 dX7_fillTable_55 rfl ?_
      refine g_iconst C 57 (0 : Int32) dX7_fillTable_57 (by decide) ?_
      refine g_iast C 58 17 (fun z => [oB q_t 7 [.ref q_t_open, .int t_sum, .int t_many, .ref q_t_net, .ref q_t_law, .ref q_t_plan, .ref q_t_openStates, .ref q_t_openCount, .ref q_t_picks, .ref q_t_strides, .ref q_t_sums, .ref q_t_counts, .int t_sign, .int t_changed, .int t_pickedSum, .int t_aim, .long t_before], oB q_t_net 4 [.ref q_t_net_loads, .ref q_t_net_near, .ref q_t_net_ties, .int t_net_size, .int t_net_edges], aI cA q_t_net_loads 14 t_net_loads, aI cA q_t_net_near 14 t_net_near, aI cA q_t_net_ties 196 t_net_ties, oB q_t_law 3 [.int t_law_size, .ref q_t_law_factors, .ref q_t_law_pairFactors, .ref q_t_law_barred, .ref q_t_law_forbidden], aI cA q_t_law_factors 4 t_law_factors, aI cA q_t_law_pairFactors 16 t_law_pairFactors, aZ cA q_t_law_barred 16 t_law_barred, oB q_t_plan 5 [.ref q_t_plan_knots, .ref q_t_plan_others, .ref q_t_plan_otherCount, .ref q_t_plan_scopes, .ref q_t_plan_users, .ref q_t_plan_feeders, .ref q_t_plan_feederCount, .int t_plan_size, .ref q_t_plan_places, .ref q_t_plan_bagMates, .ref q_t_plan_going], aI cA q_t_plan_knots 14 t_plan_knots, aI cA q_t_plan_others 56 t_plan_others, aI cA q_t_plan_otherCount 14 t_plan_otherCount, aI cA q_t_plan_feeders 196 t_plan_feeders, aI cA q_t_plan_feederCount 14 t_plan_feederCount, aI cA q_t_openStates 56 t_openStates, aI cA q_t_openCount 14 t_openCount, aI cA q_t_picks 14 z, aI cA q_t_strides 56 t_strides_10, aI cA q_t_sums 3584 t_sums, aI cA q_t_counts 3584 t_counts]) dX7_fillTable_58 rfl (fun _ => rfl) hf (fun t_picks_13 hf => ?_)
      refine g_iinc C 59 4 (v := x3 + (1 : Int32)) (fun z => [(3, .int z), (2, .int x2_12), (4, .int x4_9), (0, .ref q_t), (1, .int a1)]) dX7_fillTable_59 rfl rfl (by decide) (fun _ => rfl) hf (fun x3_14 hf => ?_)
      refine g_goto C 62 6 dX7_fillTable_62 (by decide) ?_
      refine g_lv [3, 4, 1, 0] rfl ?_
      exact ih x2_12 x3_14 t_pickedSum t_picks_13 t_strides_10 t_sums t_counts hf
def f_X7_fillTable (a1 : Int32) (t_sign : Int32) (t_pickedSum : Int32) (t_net_loads : Nat → Int32) (t_net_near : Nat → Int32) (t_net_ties : Nat → Int32) (t_law_factors : Nat → Int32) (t_law_pairFactors : Nat → Int32) (t_law_barred : Nat → Int32) (t_plan_knots : Nat → Int32) (t_plan_others : Nat → Int32) (t_plan_otherCount : Nat → Int32) (t_plan_feeders : Nat → Int32) (t_plan_feederCount : Nat → Int32) (t_openStates : Nat → Int32) (t_openCount : Nat → Int32) (t_picks : Nat → Int32) (t_strides : Nat → Int32) (t_sums : Nat → Int32) (t_counts : Nat → Int32) : Option (Int32 × (Nat → Int32) × (Nat → Int32) × (Nat → Int32) × (Nat → Int32)) :=
  bnd (1 : Int32) fun x2_1 =>
  bnd (a1 * (4 : Int32)) fun x3_2 =>
  L_X7_fillTable_6 a1 t_sign t_net_loads t_net_near t_net_ties t_law_factors t_law_pairFactors t_law_barred t_plan_knots t_plan_others t_plan_otherCount t_plan_feeders t_plan_feederCount t_openStates t_openCount NN x2_1 x3_2 t_pickedSum t_picks t_strides t_sums t_counts

set_option maxRecDepth 100000 in
set_option maxHeartbeats 1000000 in
theorem c_X7_fillTable (l : Launch) (cA : Nat → ClassId) (q_t : Nat) (q_t_open : Nat) (t_sum : Int32) (t_many : Int32) (t_sign : Int32) (t_changed : Int32) (t_pickedSum : Int32) (t_aim : Int32) (t_before : Int64) (q_t_net : Nat) (t_net_size : Int32) (t_net_edges : Int32) (q_t_net_loads : Nat) (t_net_loads : Nat → Int32) (q_t_net_near : Nat) (t_net_near : Nat → Int32) (q_t_net_ties : Nat) (t_net_ties : Nat → Int32) (q_t_law : Nat) (t_law_size : Int32) (q_t_law_forbidden : Nat) (q_t_law_factors : Nat) (t_law_factors : Nat → Int32) (q_t_law_pairFactors : Nat) (t_law_pairFactors : Nat → Int32) (q_t_law_barred : Nat) (t_law_barred : Nat → Int32) (q_t_plan : Nat) (q_t_plan_scopes : Nat) (q_t_plan_users : Nat) (t_plan_size : Int32) (q_t_plan_places : Nat) (q_t_plan_bagMates : Nat) (q_t_plan_going : Nat) (q_t_plan_knots : Nat) (t_plan_knots : Nat → Int32) (q_t_plan_others : Nat) (t_plan_others : Nat → Int32) (q_t_plan_otherCount : Nat) (t_plan_otherCount : Nat → Int32) (q_t_plan_feeders : Nat) (t_plan_feeders : Nat → Int32) (q_t_plan_feederCount : Nat) (t_plan_feederCount : Nat → Int32) (q_t_openStates : Nat) (t_openStates : Nat → Int32) (q_t_openCount : Nat) (t_openCount : Nat → Int32) (q_t_picks : Nat) (t_picks : Nat → Int32) (q_t_strides : Nat) (t_strides : Nat → Int32) (q_t_sums : Nat) (t_sums : Nat → Int32) (q_t_counts : Nat) (t_counts : Nat → Int32) (a1 : Int32) (r : Int32 × (Nat → Int32) × (Nat → Int32) × (Nat → Int32) × (Nat → Int32)) (hf : f_X7_fillTable a1 t_sign t_pickedSum t_net_loads t_net_near t_net_ties t_law_factors t_law_pairFactors t_law_barred t_plan_knots t_plan_others t_plan_otherCount t_plan_feeders t_plan_feederCount t_openStates t_openCount t_picks t_strides t_sums t_counts = some r) : MT l cA yX7_fillTable cX7_fillTable 5 none ({ frames := 3, cells := 0, slots := 0, locals := 76 } : Room) [.ref q_t, .int a1] [oB q_t 7 [.ref q_t_open, .int t_sum, .int t_many, .ref q_t_net, .ref q_t_law, .ref q_t_plan, .ref q_t_openStates, .ref q_t_openCount, .ref q_t_picks, .ref q_t_strides, .ref q_t_sums, .ref q_t_counts, .int t_sign, .int t_changed, .int t_pickedSum, .int t_aim, .long t_before], oB q_t_net 4 [.ref q_t_net_loads, .ref q_t_net_near, .ref q_t_net_ties, .int t_net_size, .int t_net_edges], aI cA q_t_net_loads 14 t_net_loads, aI cA q_t_net_near 14 t_net_near, aI cA q_t_net_ties 196 t_net_ties, oB q_t_law 3 [.int t_law_size, .ref q_t_law_factors, .ref q_t_law_pairFactors, .ref q_t_law_barred, .ref q_t_law_forbidden], aI cA q_t_law_factors 4 t_law_factors, aI cA q_t_law_pairFactors 16 t_law_pairFactors, aZ cA q_t_law_barred 16 t_law_barred, oB q_t_plan 5 [.ref q_t_plan_knots, .ref q_t_plan_others, .ref q_t_plan_otherCount, .ref q_t_plan_scopes, .ref q_t_plan_users, .ref q_t_plan_feeders, .ref q_t_plan_feederCount, .int t_plan_size, .ref q_t_plan_places, .ref q_t_plan_bagMates, .ref q_t_plan_going], aI cA q_t_plan_knots 14 t_plan_knots, aI cA q_t_plan_others 56 t_plan_others, aI cA q_t_plan_otherCount 14 t_plan_otherCount, aI cA q_t_plan_feeders 196 t_plan_feeders, aI cA q_t_plan_feederCount 14 t_plan_feederCount, aI cA q_t_openStates 56 t_openStates, aI cA q_t_openCount 14 t_openCount, aI cA q_t_picks 14 t_picks, aI cA q_t_strides 56 t_strides, aI cA q_t_sums 3584 t_sums, aI cA q_t_counts 3584 t_counts] (sB (none) [oB q_t 7 [.ref q_t_open, .int t_sum, .int t_many, .ref q_t_net, .ref q_t_law, .ref q_t_plan, .ref q_t_openStates, .ref q_t_openCount, .ref q_t_picks, .ref q_t_strides, .ref q_t_sums, .ref q_t_counts, .int t_sign, .int t_changed, .int r.1, .int t_aim, .long t_before], oB q_t_net 4 [.ref q_t_net_loads, .ref q_t_net_near, .ref q_t_net_ties, .int t_net_size, .int t_net_edges], aI cA q_t_net_loads 14 t_net_loads, aI cA q_t_net_near 14 t_net_near, aI cA q_t_net_ties 196 t_net_ties, oB q_t_law 3 [.int t_law_size, .ref q_t_law_factors, .ref q_t_law_pairFactors, .ref q_t_law_barred, .ref q_t_law_forbidden], aI cA q_t_law_factors 4 t_law_factors, aI cA q_t_law_pairFactors 16 t_law_pairFactors, aZ cA q_t_law_barred 16 t_law_barred, oB q_t_plan 5 [.ref q_t_plan_knots, .ref q_t_plan_others, .ref q_t_plan_otherCount, .ref q_t_plan_scopes, .ref q_t_plan_users, .ref q_t_plan_feeders, .ref q_t_plan_feederCount, .int t_plan_size, .ref q_t_plan_places, .ref q_t_plan_bagMates, .ref q_t_plan_going], aI cA q_t_plan_knots 14 t_plan_knots, aI cA q_t_plan_others 56 t_plan_others, aI cA q_t_plan_otherCount 14 t_plan_otherCount, aI cA q_t_plan_feeders 196 t_plan_feeders, aI cA q_t_plan_feederCount 14 t_plan_feederCount, aI cA q_t_openStates 56 t_openStates, aI cA q_t_openCount 14 t_openCount, aI cA q_t_picks 14 r.2.1, aI cA q_t_strides 56 r.2.2.1, aI cA q_t_sums 3584 r.2.2.2.1, aI cA q_t_counts 3584 r.2.2.2.2]) := by
  refine MT.of (by decide) (Nat.le_of_ble_eq_true rfl) ?_
  intro X hXl C F hnm hrc hrs
  subst hXl
  unfold f_X7_fillTable at hf
  have C : Cx X cX7_fillTable RX7 none cA 3 76 5 := C
  show Go X 5 0 0 0 [oB q_t 7 [.ref q_t_open, .int t_sum, .int t_many, .ref q_t_net, .ref q_t_law, .ref q_t_plan, .ref q_t_openStates, .ref q_t_openCount, .ref q_t_picks, .ref q_t_strides, .ref q_t_sums, .ref q_t_counts, .int t_sign, .int t_changed, .int t_pickedSum, .int t_aim, .long t_before], oB q_t_net 4 [.ref q_t_net_loads, .ref q_t_net_near, .ref q_t_net_ties, .int t_net_size, .int t_net_edges], aI cA q_t_net_loads 14 t_net_loads, aI cA q_t_net_near 14 t_net_near, aI cA q_t_net_ties 196 t_net_ties, oB q_t_law 3 [.int t_law_size, .ref q_t_law_factors, .ref q_t_law_pairFactors, .ref q_t_law_barred, .ref q_t_law_forbidden], aI cA q_t_law_factors 4 t_law_factors, aI cA q_t_law_pairFactors 16 t_law_pairFactors, aZ cA q_t_law_barred 16 t_law_barred, oB q_t_plan 5 [.ref q_t_plan_knots, .ref q_t_plan_others, .ref q_t_plan_otherCount, .ref q_t_plan_scopes, .ref q_t_plan_users, .ref q_t_plan_feeders, .ref q_t_plan_feederCount, .int t_plan_size, .ref q_t_plan_places, .ref q_t_plan_bagMates, .ref q_t_plan_going], aI cA q_t_plan_knots 14 t_plan_knots, aI cA q_t_plan_others 56 t_plan_others, aI cA q_t_plan_otherCount 14 t_plan_otherCount, aI cA q_t_plan_feeders 196 t_plan_feeders, aI cA q_t_plan_feederCount 14 t_plan_feederCount, aI cA q_t_openStates 56 t_openStates, aI cA q_t_openCount 14 t_openCount, aI cA q_t_picks 14 t_picks, aI cA q_t_strides 56 t_strides, aI cA q_t_sums 3584 t_sums, aI cA q_t_counts 3584 t_counts] [(0, .ref q_t), (1, .int a1)] []
  refine g_iconst C 0 (1 : Int32) dX7_fillTable_0 (by decide) ?_
  refine g_istore_n C 1 (fun z => [(2, .int z), (0, .ref q_t), (1, .int a1)]) dX7_fillTable_1 rfl (by decide) (fun _ => rfl) hf (fun x2_1 hf => ?_)
  refine g_iload_n C 2 2 dX7_fillTable_2 rfl rfl ?_
  refine g_iconst C 3 (4 : Int32) dX7_fillTable_3 (by decide) ?_
  refine g_imul C 4 dX7_fillTable_4 ?_
  refine g_istore_n C 5 (fun z => [(3, .int z), (2, .int x2_1), (0, .ref q_t), (1, .int a1)]) dX7_fillTable_5 rfl (by decide) (fun _ => rfl) hf (fun x3_2 hf => ?_)
  refine g_lv [2, 3, 1, 0] rfl ?_
  exact w_X7_fillTable_6 cA q_t q_t_open t_sum t_many t_changed t_aim t_before q_t_net t_net_size t_net_edges q_t_net_loads q_t_net_near q_t_net_ties q_t_law t_law_size q_t_law_forbidden q_t_law_factors q_t_law_pairFactors q_t_law_barred q_t_plan q_t_plan_scopes q_t_plan_users t_plan_size q_t_plan_places q_t_plan_bagMates q_t_plan_going q_t_plan_knots q_t_plan_others q_t_plan_otherCount q_t_plan_feeders q_t_plan_feederCount q_t_openStates q_t_openCount q_t_picks q_t_strides q_t_sums q_t_counts a1 t_sign t_net_loads t_net_near t_net_ties t_law_factors t_law_pairFactors t_law_barred t_plan_knots t_plan_others t_plan_otherCount t_plan_feeders t_plan_feederCount t_openStates t_openCount C r F NN x2_1 x3_2 t_pickedSum t_picks t_strides t_sums t_counts hf

def J_X7_sweepAgain_85 (t_sign : Int32) (t_open : Nat → Int32) (t_net_size : Int32) (t_net_loads : Nat → Int32) (t_net_near : Nat → Int32) (t_net_ties : Nat → Int32) (t_law_size : Int32) (t_law_factors : Nat → Int32) (t_law_pairFactors : Nat → Int32) (t_law_barred : Nat → Int32) (t_plan_size : Int32) (t_plan_knots : Nat → Int32) (t_plan_others : Nat → Int32) (t_plan_otherCount : Nat → Int32) (t_plan_scopes : Nat → Int32) (t_plan_users : Nat → Int32) (t_plan_feeders : Nat → Int32) (t_plan_feederCount : Nat → Int32) (k_104 : Int32 → Int32 → Int32 → Int32 → Int32 → Int32 → (Nat → Int32) → (Nat → Int32) → (Nat → Int32) → (Nat → Int32) → (Nat → Int32) → (Nat → Int32) → Option (Int32 × Int32 × Int32 × Int32 × (Nat → Int32) × (Nat → Int32) × (Nat → Int32) × (Nat → Int32) × (Nat → Int32) × (Nat → Int32))) (x1 : Int32) (x2 : Int32) (t_sum : Int32) (t_many : Int32) (t_changed : Int32) (t_pickedSum : Int32) (t_openStates : Nat → Int32) (t_openCount : Nat → Int32) (t_picks : Nat → Int32) (t_strides : Nat → Int32) (t_sums : Nat → Int32) (t_counts : Nat → Int32) : Option (Int32 × Int32 × Int32 × Int32 × (Nat → Int32) × (Nat → Int32) × (Nat → Int32) × (Nat → Int32) × (Nat → Int32) × (Nat → Int32)) :=
  cal (f_X7_fillTable x2 t_sign t_pickedSum t_net_loads t_net_near t_net_ties t_law_factors t_law_pairFactors t_law_barred t_plan_knots t_plan_others t_plan_otherCount t_plan_feeders t_plan_feederCount t_openStates t_openCount t_picks t_strides t_sums t_counts) fun u8 =>
  ldA t_plan_users 14 x2 fun v9 =>
  bnd (x1 ||| ((1 : Int32) <<< (v9 &&& 31))) fun x1_10 =>
  k_104 x1_10 x2 t_sum t_many t_changed u8.1 t_openStates t_openCount u8.2.1 u8.2.2.1 u8.2.2.2.1 u8.2.2.2.2

set_option maxRecDepth 100000 in
set_option maxHeartbeats 1000000 in
theorem w_X7_sweepAgain_85 (cA : Nat → ClassId) (q_t : Nat) (t_aim : Int32) (t_before : Int64) (q_t_open : Nat) (q_t_net : Nat) (t_net_edges : Int32) (q_t_net_loads : Nat) (q_t_net_near : Nat) (q_t_net_ties : Nat) (q_t_law : Nat) (q_t_law_forbidden : Nat) (q_t_law_factors : Nat) (q_t_law_pairFactors : Nat) (q_t_law_barred : Nat) (q_t_plan : Nat) (q_t_plan_places : Nat) (q_t_plan_bagMates : Nat) (q_t_plan_going : Nat) (q_t_plan_knots : Nat) (q_t_plan_others : Nat) (q_t_plan_otherCount : Nat) (q_t_plan_scopes : Nat) (q_t_plan_users : Nat) (q_t_plan_feeders : Nat) (q_t_plan_feederCount : Nat) (q_t_openStates : Nat) (q_t_openCount : Nat) (q_t_picks : Nat) (q_t_strides : Nat) (q_t_sums : Nat) (q_t_counts : Nat) (t_sign : Int32) (t_open : Nat → Int32) (t_net_size : Int32) (t_net_loads : Nat → Int32) (t_net_near : Nat → Int32) (t_net_ties : Nat → Int32) (t_law_size : Int32) (t_law_factors : Nat → Int32) (t_law_pairFactors : Nat → Int32) (t_law_barred : Nat → Int32) (t_plan_size : Int32) (t_plan_knots : Nat → Int32) (t_plan_others : Nat → Int32) (t_plan_otherCount : Nat → Int32) (t_plan_scopes : Nat → Int32) (t_plan_users : Nat → Int32) (t_plan_feeders : Nat → Int32) (t_plan_feederCount : Nat → Int32) {X : XT} (C : Cx X cX7_sweepAgain RX7 none cA 4 100 3) (r : Int32 × Int32 × Int32 × Int32 × (Nat → Int32) × (Nat → Int32) × (Nat → Int32) × (Nat → Int32) × (Nat → Int32) × (Nat → Int32)) (F : Fx X (sB (none) [oB q_t 7 [.ref q_t_open, .int r.1, .int r.2.1, .ref q_t_net, .ref q_t_law, .ref q_t_plan, .ref q_t_openStates, .ref q_t_openCount, .ref q_t_picks, .ref q_t_strides, .ref q_t_sums, .ref q_t_counts, .int t_sign, .int r.2.2.1, .int r.2.2.2.1, .int t_aim, .long t_before], aI cA q_t_open 14 t_open, oB q_t_net 4 [.ref q_t_net_loads, .ref q_t_net_near, .ref q_t_net_ties, .int t_net_size, .int t_net_edges], aI cA q_t_net_loads 14 t_net_loads, aI cA q_t_net_near 14 t_net_near, aI cA q_t_net_ties 196 t_net_ties, oB q_t_law 3 [.int t_law_size, .ref q_t_law_factors, .ref q_t_law_pairFactors, .ref q_t_law_barred, .ref q_t_law_forbidden], aI cA q_t_law_factors 4 t_law_factors, aI cA q_t_law_pairFactors 16 t_law_pairFactors, aZ cA q_t_law_barred 16 t_law_barred, oB q_t_plan 5 [.ref q_t_plan_knots, .ref q_t_plan_others, .ref q_t_plan_otherCount, .ref q_t_plan_scopes, .ref q_t_plan_users, .ref q_t_plan_feeders, .ref q_t_plan_feederCount, .int t_plan_size, .ref q_t_plan_places, .ref q_t_plan_bagMates, .ref q_t_plan_going], aI cA q_t_plan_knots 14 t_plan_knots, aI cA q_t_plan_others 56 t_plan_others, aI cA q_t_plan_otherCount 14 t_plan_otherCount, aI cA q_t_plan_scopes 14 t_plan_scopes, aI cA q_t_plan_users 14 t_plan_users, aI cA q_t_plan_feeders 196 t_plan_feeders, aI cA q_t_plan_feederCount 14 t_plan_feederCount, aI cA q_t_openStates 56 r.2.2.2.2.1, aI cA q_t_openCount 14 r.2.2.2.2.2.1, aI cA q_t_picks 14 r.2.2.2.2.2.2.1, aI cA q_t_strides 56 r.2.2.2.2.2.2.2.1, aI cA q_t_sums 3584 r.2.2.2.2.2.2.2.2.1, aI cA q_t_counts 3584 r.2.2.2.2.2.2.2.2.2]) 0 0) (k_104 : Int32 → Int32 → Int32 → Int32 → Int32 → Int32 → (Nat → Int32) → (Nat → Int32) → (Nat → Int32) → (Nat → Int32) → (Nat → Int32) → (Nat → Int32) → Option (Int32 × Int32 × Int32 × Int32 × (Nat → Int32) × (Nat → Int32) × (Nat → Int32) × (Nat → Int32) × (Nat → Int32) × (Nat → Int32))) (h_104 : ∀ (x1 : Int32) (x2 : Int32) (t_sum : Int32) (t_many : Int32) (t_changed : Int32) (t_pickedSum : Int32) (t_openStates : Nat → Int32) (t_openCount : Nat → Int32) (t_picks : Nat → Int32) (t_strides : Nat → Int32) (t_sums : Nat → Int32) (t_counts : Nat → Int32), k_104 x1 x2 t_sum t_many t_changed t_pickedSum t_openStates t_openCount t_picks t_strides t_sums t_counts = some r → Go X 3 0 0 104 [oB q_t 7 [.ref q_t_open, .int t_sum, .int t_many, .ref q_t_net, .ref q_t_law, .ref q_t_plan, .ref q_t_openStates, .ref q_t_openCount, .ref q_t_picks, .ref q_t_strides, .ref q_t_sums, .ref q_t_counts, .int t_sign, .int t_changed, .int t_pickedSum, .int t_aim, .long t_before], aI cA q_t_open 14 t_open, oB q_t_net 4 [.ref q_t_net_loads, .ref q_t_net_near, .ref q_t_net_ties, .int t_net_size, .int t_net_edges], aI cA q_t_net_loads 14 t_net_loads, aI cA q_t_net_near 14 t_net_near, aI cA q_t_net_ties 196 t_net_ties, oB q_t_law 3 [.int t_law_size, .ref q_t_law_factors, .ref q_t_law_pairFactors, .ref q_t_law_barred, .ref q_t_law_forbidden], aI cA q_t_law_factors 4 t_law_factors, aI cA q_t_law_pairFactors 16 t_law_pairFactors, aZ cA q_t_law_barred 16 t_law_barred, oB q_t_plan 5 [.ref q_t_plan_knots, .ref q_t_plan_others, .ref q_t_plan_otherCount, .ref q_t_plan_scopes, .ref q_t_plan_users, .ref q_t_plan_feeders, .ref q_t_plan_feederCount, .int t_plan_size, .ref q_t_plan_places, .ref q_t_plan_bagMates, .ref q_t_plan_going], aI cA q_t_plan_knots 14 t_plan_knots, aI cA q_t_plan_others 56 t_plan_others, aI cA q_t_plan_otherCount 14 t_plan_otherCount, aI cA q_t_plan_scopes 14 t_plan_scopes, aI cA q_t_plan_users 14 t_plan_users, aI cA q_t_plan_feeders 196 t_plan_feeders, aI cA q_t_plan_feederCount 14 t_plan_feederCount, aI cA q_t_openStates 56 t_openStates, aI cA q_t_openCount 14 t_openCount, aI cA q_t_picks 14 t_picks, aI cA q_t_strides 56 t_strides, aI cA q_t_sums 3584 t_sums, aI cA q_t_counts 3584 t_counts] [(0, .ref q_t), (1, .int x1), (2, .int x2)] []) : ∀ (x1 : Int32) (x2 : Int32) (t_sum : Int32) (t_many : Int32) (t_changed : Int32) (t_pickedSum : Int32) (t_openStates : Nat → Int32) (t_openCount : Nat → Int32) (t_picks : Nat → Int32) (t_strides : Nat → Int32) (t_sums : Nat → Int32) (t_counts : Nat → Int32), J_X7_sweepAgain_85 t_sign t_open t_net_size t_net_loads t_net_near t_net_ties t_law_size t_law_factors t_law_pairFactors t_law_barred t_plan_size t_plan_knots t_plan_others t_plan_otherCount t_plan_scopes t_plan_users t_plan_feeders t_plan_feederCount k_104 x1 x2 t_sum t_many t_changed t_pickedSum t_openStates t_openCount t_picks t_strides t_sums t_counts = some r → Go X 3 0 0 85 [oB q_t 7 [.ref q_t_open, .int t_sum, .int t_many, .ref q_t_net, .ref q_t_law, .ref q_t_plan, .ref q_t_openStates, .ref q_t_openCount, .ref q_t_picks, .ref q_t_strides, .ref q_t_sums, .ref q_t_counts, .int t_sign, .int t_changed, .int t_pickedSum, .int t_aim, .long t_before], aI cA q_t_open 14 t_open, oB q_t_net 4 [.ref q_t_net_loads, .ref q_t_net_near, .ref q_t_net_ties, .int t_net_size, .int t_net_edges], aI cA q_t_net_loads 14 t_net_loads, aI cA q_t_net_near 14 t_net_near, aI cA q_t_net_ties 196 t_net_ties, oB q_t_law 3 [.int t_law_size, .ref q_t_law_factors, .ref q_t_law_pairFactors, .ref q_t_law_barred, .ref q_t_law_forbidden], aI cA q_t_law_factors 4 t_law_factors, aI cA q_t_law_pairFactors 16 t_law_pairFactors, aZ cA q_t_law_barred 16 t_law_barred, oB q_t_plan 5 [.ref q_t_plan_knots, .ref q_t_plan_others, .ref q_t_plan_otherCount, .ref q_t_plan_scopes, .ref q_t_plan_users, .ref q_t_plan_feeders, .ref q_t_plan_feederCount, .int t_plan_size, .ref q_t_plan_places, .ref q_t_plan_bagMates, .ref q_t_plan_going], aI cA q_t_plan_knots 14 t_plan_knots, aI cA q_t_plan_others 56 t_plan_others, aI cA q_t_plan_otherCount 14 t_plan_otherCount, aI cA q_t_plan_scopes 14 t_plan_scopes, aI cA q_t_plan_users 14 t_plan_users, aI cA q_t_plan_feeders 196 t_plan_feeders, aI cA q_t_plan_feederCount 14 t_plan_feederCount, aI cA q_t_openStates 56 t_openStates, aI cA q_t_openCount 14 t_openCount, aI cA q_t_picks 14 t_picks, aI cA q_t_strides 56 t_strides, aI cA q_t_sums 3584 t_sums, aI cA q_t_counts 3584 t_counts] [(0, .ref q_t), (1, .int x1), (2, .int x2)] [] := by
  intro x1 x2 t_sum t_many t_changed t_pickedSum t_openStates t_openCount t_picks t_strides t_sums t_counts hf
  unfold J_X7_sweepAgain_85 at hf
  refine g_aload_n C 85 0 dX7_sweepAgain_85 rfl rfl ?_
  refine g_iload_n C 86 2 dX7_sweepAgain_86 rfl rfl ?_
  obtain ⟨u8, hu8, hf⟩ := cal_some hf
  refine g_callV1 C 87 [0, 2, 3, 4, 5, 6, 7, 8, 9, 10, 11, 12, 13, 16, 17, 18, 19, 20, 21, 22, 23] 0 (rest := []) dX7_sweepAgain_87 (c_X7_fillTable (x_l X) cA q_t q_t_open t_sum t_many t_sign t_changed t_pickedSum t_aim t_before q_t_net t_net_size t_net_edges q_t_net_loads t_net_loads q_t_net_near t_net_near q_t_net_ties t_net_ties q_t_law t_law_size q_t_law_forbidden q_t_law_factors t_law_factors q_t_law_pairFactors t_law_pairFactors q_t_law_barred t_law_barred q_t_plan q_t_plan_scopes q_t_plan_users t_plan_size q_t_plan_places q_t_plan_bagMates q_t_plan_going q_t_plan_knots t_plan_knots q_t_plan_others t_plan_others q_t_plan_otherCount t_plan_otherCount q_t_plan_feeders t_plan_feeders q_t_plan_feederCount t_plan_feederCount q_t_openStates t_openStates q_t_openCount t_openCount q_t_picks t_picks q_t_strides t_strides q_t_sums t_sums q_t_counts t_counts x2 u8 hu8) kw_202 kw_203 kw_204 kw_158 kw_205 ok_X7_fillTable ⟨Nat.le_of_ble_eq_true rfl, Nat.le_of_ble_eq_true rfl⟩ ⟨Nat.zero_le _, Nat.zero_le _⟩ ⟨rfl, rfl⟩ rfl rfl rfl rfl rfl (Nat.le_of_ble_eq_true rfl) rfl (ws' := [oB q_t 7 [.ref q_t_open, .int t_sum, .int t_many, .ref q_t_net, .ref q_t_law, .ref q_t_plan, .ref q_t_openStates, .ref q_t_openCount, .ref q_t_picks, .ref q_t_strides, .ref q_t_sums, .ref q_t_counts, .int t_sign, .int t_changed, .int u8.1, .int t_aim, .long t_before], aI cA q_t_open 14 t_open, oB q_t_net 4 [.ref q_t_net_loads, .ref q_t_net_near, .ref q_t_net_ties, .int t_net_size, .int t_net_edges], aI cA q_t_net_loads 14 t_net_loads, aI cA q_t_net_near 14 t_net_near, aI cA q_t_net_ties 196 t_net_ties, oB q_t_law 3 [.int t_law_size, .ref q_t_law_factors, .ref q_t_law_pairFactors, .ref q_t_law_barred, .ref q_t_law_forbidden], aI cA q_t_law_factors 4 t_law_factors, aI cA q_t_law_pairFactors 16 t_law_pairFactors, aZ cA q_t_law_barred 16 t_law_barred, oB q_t_plan 5 [.ref q_t_plan_knots, .ref q_t_plan_others, .ref q_t_plan_otherCount, .ref q_t_plan_scopes, .ref q_t_plan_users, .ref q_t_plan_feeders, .ref q_t_plan_feederCount, .int t_plan_size, .ref q_t_plan_places, .ref q_t_plan_bagMates, .ref q_t_plan_going], aI cA q_t_plan_knots 14 t_plan_knots, aI cA q_t_plan_others 56 t_plan_others, aI cA q_t_plan_otherCount 14 t_plan_otherCount, aI cA q_t_plan_scopes 14 t_plan_scopes, aI cA q_t_plan_users 14 t_plan_users, aI cA q_t_plan_feeders 196 t_plan_feeders, aI cA q_t_plan_feederCount 14 t_plan_feederCount, aI cA q_t_openStates 56 t_openStates, aI cA q_t_openCount 14 t_openCount, aI cA q_t_picks 14 u8.2.1, aI cA q_t_strides 56 u8.2.2.1, aI cA q_t_sums 3584 u8.2.2.2.1, aI cA q_t_counts 3584 u8.2.2.2.2]) (st' := []) (N0 := 24) rfl [some 0, none, some 1, some 2, some 3, some 4, some 5, some 6, some 7, some 8, some 9, some 10, some 11, some 12, none, none, some 13, some 14, some 15, some 16, some 17, some 18, some 19, some 20] (by decide) rfl rfl ?_
  refine g_iload_n C 90 1 dX7_sweepAgain_90 rfl rfl ?_
  refine g_iconst C 91 (1 : Int32) dX7_sweepAgain_91 (by decide) ?_
  refine g_aload_n C 92 0 dX7_sweepAgain_92 rfl rfl ?_
  refine g_get C 93 0 5 dX7_sweepAgain_93 inX7 rfl rfl (by decide) kw_163 rfl ?_
  refine g_get C 96 10 4 dX7_sweepAgain_96 inX5 rfl rfl (by decide) kw_206 rfl ?_
  refine g_iload_n C 99 2 dX7_sweepAgain_99 rfl rfl ?_
  refine g_iald C 100 15 dX7_sweepAgain_100 rfl hf (fun v9 hf => ?_)
  refine g_ishl C 101 dX7_sweepAgain_101 ?_
  refine g_ior C 102 dX7_sweepAgain_102 ?_
  refine g_istore_n C 103 (fun z => [(1, .int z), (0, .ref q_t), (2, .int x2)]) dX7_sweepAgain_103 rfl (by decide) (fun _ => rfl) hf (fun x1_10 hf => ?_)
  refine g_lv [1, 0, 2] rfl ?_
  exact h_104 x1_10 x2 t_sum t_many t_changed u8.1 t_openStates t_openCount u8.2.1 u8.2.2.1 u8.2.2.2.1 u8.2.2.2.2 hf
def J_X7_sweepAgain_104 (t_sign : Int32) (t_open : Nat → Int32) (t_net_size : Int32) (t_net_loads : Nat → Int32) (t_net_near : Nat → Int32) (t_net_ties : Nat → Int32) (t_law_size : Int32) (t_law_factors : Nat → Int32) (t_law_pairFactors : Nat → Int32) (t_law_barred : Nat → Int32) (t_plan_size : Int32) (t_plan_knots : Nat → Int32) (t_plan_others : Nat → Int32) (t_plan_otherCount : Nat → Int32) (t_plan_scopes : Nat → Int32) (t_plan_users : Nat → Int32) (t_plan_feeders : Nat → Int32) (t_plan_feederCount : Nat → Int32) (k_49 : Int32 → Int32 → Int32 → Int32 → Int32 → Int32 → (Nat → Int32) → (Nat → Int32) → (Nat → Int32) → (Nat → Int32) → (Nat → Int32) → (Nat → Int32) → Option (Int32 × Int32 × Int32 × Int32 × (Nat → Int32) × (Nat → Int32) × (Nat → Int32) × (Nat → Int32) × (Nat → Int32) × (Nat → Int32))) (x1 : Int32) (x2 : Int32) (t_sum : Int32) (t_many : Int32) (t_changed : Int32) (t_pickedSum : Int32) (t_openStates : Nat → Int32) (t_openCount : Nat → Int32) (t_picks : Nat → Int32) (t_strides : Nat → Int32) (t_sums : Nat → Int32) (t_counts : Nat → Int32) : Option (Int32 × Int32 × Int32 × Int32 × (Nat → Int32) × (Nat → Int32) × (Nat → Int32) × (Nat → Int32) × (Nat → Int32) × (Nat → Int32)) :=
  ldA t_plan_otherCount 14 x2 fun v11 =>
  if v11 ≤ 0 then
    ldA t_sums 3584 (x2 * (256 : Int32)) fun v12 =>
    bnd (t_sum + v12) fun t_sum_13 =>
    ldA t_counts 3584 (x2 * (256 : Int32)) fun v14 =>
    bnd (t_many * v14) fun t_many_15 =>
    bnd (x2 + (1 : Int32)) fun x2_16 =>
    k_49 x1 x2_16 t_sum_13 t_many_15 t_changed t_pickedSum t_openStates t_openCount t_picks t_strides t_sums t_counts
  else
    bnd (x2 + (1 : Int32)) fun x2_17 =>
    k_49 x1 x2_17 t_sum t_many t_changed t_pickedSum t_openStates t_openCount t_picks t_strides t_sums t_counts

set_option maxRecDepth 100000 in
set_option maxHeartbeats 1000000 in
theorem w_X7_sweepAgain_104 (cA : Nat → ClassId) (q_t : Nat) (t_aim : Int32) (t_before : Int64) (q_t_open : Nat) (q_t_net : Nat) (t_net_edges : Int32) (q_t_net_loads : Nat) (q_t_net_near : Nat) (q_t_net_ties : Nat) (q_t_law : Nat) (q_t_law_forbidden : Nat) (q_t_law_factors : Nat) (q_t_law_pairFactors : Nat) (q_t_law_barred : Nat) (q_t_plan : Nat) (q_t_plan_places : Nat) (q_t_plan_bagMates : Nat) (q_t_plan_going : Nat) (q_t_plan_knots : Nat) (q_t_plan_others : Nat) (q_t_plan_otherCount : Nat) (q_t_plan_scopes : Nat) (q_t_plan_users : Nat) (q_t_plan_feeders : Nat) (q_t_plan_feederCount : Nat) (q_t_openStates : Nat) (q_t_openCount : Nat) (q_t_picks : Nat) (q_t_strides : Nat) (q_t_sums : Nat) (q_t_counts : Nat) (t_sign : Int32) (t_open : Nat → Int32) (t_net_size : Int32) (t_net_loads : Nat → Int32) (t_net_near : Nat → Int32) (t_net_ties : Nat → Int32) (t_law_size : Int32) (t_law_factors : Nat → Int32) (t_law_pairFactors : Nat → Int32) (t_law_barred : Nat → Int32) (t_plan_size : Int32) (t_plan_knots : Nat → Int32) (t_plan_others : Nat → Int32) (t_plan_otherCount : Nat → Int32) (t_plan_scopes : Nat → Int32) (t_plan_users : Nat → Int32) (t_plan_feeders : Nat → Int32) (t_plan_feederCount : Nat → Int32) {X : XT} (C : Cx X cX7_sweepAgain RX7 none cA 4 100 3) (r : Int32 × Int32 × Int32 × Int32 × (Nat → Int32) × (Nat → Int32) × (Nat → Int32) × (Nat → Int32) × (Nat → Int32) × (Nat → Int32)) (F : Fx X (sB (none) [oB q_t 7 [.ref q_t_open, .int r.1, .int r.2.1, .ref q_t_net, .ref q_t_law, .ref q_t_plan, .ref q_t_openStates, .ref q_t_openCount, .ref q_t_picks, .ref q_t_strides, .ref q_t_sums, .ref q_t_counts, .int t_sign, .int r.2.2.1, .int r.2.2.2.1, .int t_aim, .long t_before], aI cA q_t_open 14 t_open, oB q_t_net 4 [.ref q_t_net_loads, .ref q_t_net_near, .ref q_t_net_ties, .int t_net_size, .int t_net_edges], aI cA q_t_net_loads 14 t_net_loads, aI cA q_t_net_near 14 t_net_near, aI cA q_t_net_ties 196 t_net_ties, oB q_t_law 3 [.int t_law_size, .ref q_t_law_factors, .ref q_t_law_pairFactors, .ref q_t_law_barred, .ref q_t_law_forbidden], aI cA q_t_law_factors 4 t_law_factors, aI cA q_t_law_pairFactors 16 t_law_pairFactors, aZ cA q_t_law_barred 16 t_law_barred, oB q_t_plan 5 [.ref q_t_plan_knots, .ref q_t_plan_others, .ref q_t_plan_otherCount, .ref q_t_plan_scopes, .ref q_t_plan_users, .ref q_t_plan_feeders, .ref q_t_plan_feederCount, .int t_plan_size, .ref q_t_plan_places, .ref q_t_plan_bagMates, .ref q_t_plan_going], aI cA q_t_plan_knots 14 t_plan_knots, aI cA q_t_plan_others 56 t_plan_others, aI cA q_t_plan_otherCount 14 t_plan_otherCount, aI cA q_t_plan_scopes 14 t_plan_scopes, aI cA q_t_plan_users 14 t_plan_users, aI cA q_t_plan_feeders 196 t_plan_feeders, aI cA q_t_plan_feederCount 14 t_plan_feederCount, aI cA q_t_openStates 56 r.2.2.2.2.1, aI cA q_t_openCount 14 r.2.2.2.2.2.1, aI cA q_t_picks 14 r.2.2.2.2.2.2.1, aI cA q_t_strides 56 r.2.2.2.2.2.2.2.1, aI cA q_t_sums 3584 r.2.2.2.2.2.2.2.2.1, aI cA q_t_counts 3584 r.2.2.2.2.2.2.2.2.2]) 0 0) (k_49 : Int32 → Int32 → Int32 → Int32 → Int32 → Int32 → (Nat → Int32) → (Nat → Int32) → (Nat → Int32) → (Nat → Int32) → (Nat → Int32) → (Nat → Int32) → Option (Int32 × Int32 × Int32 × Int32 × (Nat → Int32) × (Nat → Int32) × (Nat → Int32) × (Nat → Int32) × (Nat → Int32) × (Nat → Int32))) (h_49 : ∀ (x1 : Int32) (x2 : Int32) (t_sum : Int32) (t_many : Int32) (t_changed : Int32) (t_pickedSum : Int32) (t_openStates : Nat → Int32) (t_openCount : Nat → Int32) (t_picks : Nat → Int32) (t_strides : Nat → Int32) (t_sums : Nat → Int32) (t_counts : Nat → Int32), k_49 x1 x2 t_sum t_many t_changed t_pickedSum t_openStates t_openCount t_picks t_strides t_sums t_counts = some r → Go X 3 0 0 49 [oB q_t 7 [.ref q_t_open, .int t_sum, .int t_many, .ref q_t_net, .ref q_t_law, .ref q_t_plan, .ref q_t_openStates, .ref q_t_openCount, .ref q_t_picks, .ref q_t_strides, .ref q_t_sums, .ref q_t_counts, .int t_sign, .int t_changed, .int t_pickedSum, .int t_aim, .long t_before], aI cA q_t_open 14 t_open, oB q_t_net 4 [.ref q_t_net_loads, .ref q_t_net_near, .ref q_t_net_ties, .int t_net_size, .int t_net_edges], aI cA q_t_net_loads 14 t_net_loads, aI cA q_t_net_near 14 t_net_near, aI cA q_t_net_ties 196 t_net_ties, oB q_t_law 3 [.int t_law_size, .ref q_t_law_factors, .ref q_t_law_pairFactors, .ref q_t_law_barred, .ref q_t_law_forbidden], aI cA q_t_law_factors 4 t_law_factors, aI cA q_t_law_pairFactors 16 t_law_pairFactors, aZ cA q_t_law_barred 16 t_law_barred, oB q_t_plan 5 [.ref q_t_plan_knots, .ref q_t_plan_others, .ref q_t_plan_otherCount, .ref q_t_plan_scopes, .ref q_t_plan_users, .ref q_t_plan_feeders, .ref q_t_plan_feederCount, .int t_plan_size, .ref q_t_plan_places, .ref q_t_plan_bagMates, .ref q_t_plan_going], aI cA q_t_plan_knots 14 t_plan_knots, aI cA q_t_plan_others 56 t_plan_others, aI cA q_t_plan_otherCount 14 t_plan_otherCount, aI cA q_t_plan_scopes 14 t_plan_scopes, aI cA q_t_plan_users 14 t_plan_users, aI cA q_t_plan_feeders 196 t_plan_feeders, aI cA q_t_plan_feederCount 14 t_plan_feederCount, aI cA q_t_openStates 56 t_openStates, aI cA q_t_openCount 14 t_openCount, aI cA q_t_picks 14 t_picks, aI cA q_t_strides 56 t_strides, aI cA q_t_sums 3584 t_sums, aI cA q_t_counts 3584 t_counts] [(0, .ref q_t), (1, .int x1), (2, .int x2)] []) : ∀ (x1 : Int32) (x2 : Int32) (t_sum : Int32) (t_many : Int32) (t_changed : Int32) (t_pickedSum : Int32) (t_openStates : Nat → Int32) (t_openCount : Nat → Int32) (t_picks : Nat → Int32) (t_strides : Nat → Int32) (t_sums : Nat → Int32) (t_counts : Nat → Int32), J_X7_sweepAgain_104 t_sign t_open t_net_size t_net_loads t_net_near t_net_ties t_law_size t_law_factors t_law_pairFactors t_law_barred t_plan_size t_plan_knots t_plan_others t_plan_otherCount t_plan_scopes t_plan_users t_plan_feeders t_plan_feederCount k_49 x1 x2 t_sum t_many t_changed t_pickedSum t_openStates t_openCount t_picks t_strides t_sums t_counts = some r → Go X 3 0 0 104 [oB q_t 7 [.ref q_t_open, .int t_sum, .int t_many, .ref q_t_net, .ref q_t_law, .ref q_t_plan, .ref q_t_openStates, .ref q_t_openCount, .ref q_t_picks, .ref q_t_strides, .ref q_t_sums, .ref q_t_counts, .int t_sign, .int t_changed, .int t_pickedSum, .int t_aim, .long t_before], aI cA q_t_open 14 t_open, oB q_t_net 4 [.ref q_t_net_loads, .ref q_t_net_near, .ref q_t_net_ties, .int t_net_size, .int t_net_edges], aI cA q_t_net_loads 14 t_net_loads, aI cA q_t_net_near 14 t_net_near, aI cA q_t_net_ties 196 t_net_ties, oB q_t_law 3 [.int t_law_size, .ref q_t_law_factors, .ref q_t_law_pairFactors, .ref q_t_law_barred, .ref q_t_law_forbidden], aI cA q_t_law_factors 4 t_law_factors, aI cA q_t_law_pairFactors 16 t_law_pairFactors, aZ cA q_t_law_barred 16 t_law_barred, oB q_t_plan 5 [.ref q_t_plan_knots, .ref q_t_plan_others, .ref q_t_plan_otherCount, .ref q_t_plan_scopes, .ref q_t_plan_users, .ref q_t_plan_feeders, .ref q_t_plan_feederCount, .int t_plan_size, .ref q_t_plan_places, .ref q_t_plan_bagMates, .ref q_t_plan_going], aI cA q_t_plan_knots 14 t_plan_knots, aI cA q_t_plan_others 56 t_plan_others, aI cA q_t_plan_otherCount 14 t_plan_otherCount, aI cA q_t_plan_scopes 14 t_plan_scopes, aI cA q_t_plan_users 14 t_plan_users, aI cA q_t_plan_feeders 196 t_plan_feeders, aI cA q_t_plan_feederCount 14 t_plan_feederCount, aI cA q_t_openStates 56 t_openStates, aI cA q_t_openCount 14 t_openCount, aI cA q_t_picks 14 t_picks, aI cA q_t_strides 56 t_strides, aI cA q_t_sums 3584 t_sums, aI cA q_t_counts 3584 t_counts] [(0, .ref q_t), (1, .int x1), (2, .int x2)] [] := by
  intro x1 x2 t_sum t_many t_changed t_pickedSum t_openStates t_openCount t_picks t_strides t_sums t_counts hf
  unfold J_X7_sweepAgain_104 at hf
  refine g_aload_n C 104 0 dX7_sweepAgain_104 rfl rfl ?_
  refine g_get C 105 0 5 dX7_sweepAgain_105 inX7 rfl rfl (by decide) kw_163 rfl ?_
  refine g_get C 108 10 2 dX7_sweepAgain_108 inX5 rfl rfl (by decide) kw_164 rfl ?_
  refine g_iload_n C 111 2 dX7_sweepAgain_111 rfl rfl ?_
  refine g_iald C 112 13 dX7_sweepAgain_112 rfl hf (fun v11 hf => ?_)
  refine g_if_le C 113 119 dX7_sweepAgain_113 (by decide) hf (fun hf => ?_) (fun hf => ?_)
  · refine g_aload_n C 119 0 dX7_sweepAgain_119 rfl rfl ?_
    refine g_dup C 120 dX7_sweepAgain_120 rfl ?_
    refine g_get C 121 0 1 dX7_sweepAgain_121 inX7 rfl rfl (by decide) kw_197 rfl ?_
    refine g_aload_n C 124 0 dX7_sweepAgain_124 rfl rfl ?_
    refine g_get C 125 0 10 dX7_sweepAgain_125 inX7 rfl rfl (by decide) kw_179 rfl ?_
    refine g_iload_n C 128 2 dX7_sweepAgain_128 rfl rfl ?_
    refine g_sipush C 129 (256 : Int32) dX7_sweepAgain_129 (by decide) ?_
    refine g_imul C 132 dX7_sweepAgain_132 ?_
    refine g_iald C 133 22 dX7_sweepAgain_133 rfl hf (fun v12 hf => ?_)
    refine g_iadd C 134 dX7_sweepAgain_134 ?_
    refine g_puti C 135 0 1 tyX7 (fun z => [oB q_t 7 [.ref q_t_open, .int z, .int t_many, .ref q_t_net, .ref q_t_law, .ref q_t_plan, .ref q_t_openStates, .ref q_t_openCount, .ref q_t_picks, .ref q_t_strides, .ref q_t_sums, .ref q_t_counts, .int t_sign, .int t_changed, .int t_pickedSum, .int t_aim, .long t_before], aI cA q_t_open 14 t_open, oB q_t_net 4 [.ref q_t_net_loads, .ref q_t_net_near, .ref q_t_net_ties, .int t_net_size, .int t_net_edges], aI cA q_t_net_loads 14 t_net_loads, aI cA q_t_net_near 14 t_net_near, aI cA q_t_net_ties 196 t_net_ties, oB q_t_law 3 [.int t_law_size, .ref q_t_law_factors, .ref q_t_law_pairFactors, .ref q_t_law_barred, .ref q_t_law_forbidden], aI cA q_t_law_factors 4 t_law_factors, aI cA q_t_law_pairFactors 16 t_law_pairFactors, aZ cA q_t_law_barred 16 t_law_barred, oB q_t_plan 5 [.ref q_t_plan_knots, .ref q_t_plan_others, .ref q_t_plan_otherCount, .ref q_t_plan_scopes, .ref q_t_plan_users, .ref q_t_plan_feeders, .ref q_t_plan_feederCount, .int t_plan_size, .ref q_t_plan_places, .ref q_t_plan_bagMates, .ref q_t_plan_going], aI cA q_t_plan_knots 14 t_plan_knots, aI cA q_t_plan_others 56 t_plan_others, aI cA q_t_plan_otherCount 14 t_plan_otherCount, aI cA q_t_plan_scopes 14 t_plan_scopes, aI cA q_t_plan_users 14 t_plan_users, aI cA q_t_plan_feeders 196 t_plan_feeders, aI cA q_t_plan_feederCount 14 t_plan_feederCount, aI cA q_t_openStates 56 t_openStates, aI cA q_t_openCount 14 t_openCount, aI cA q_t_picks 14 t_picks, aI cA q_t_strides 56 t_strides, aI cA q_t_sums 3584 t_sums, aI cA q_t_counts 3584 t_counts]) dX7_sweepAgain_135 inX7 tyX7_ok nmX7 rfl rfl (by decide) kw_197 rfl rfl (Nat.le_of_ble_eq_true rfl) (fun _ => rfl) hf (fun t_sum_13 hf => ?_)
    refine g_aload_n C 138 0 dX7_sweepAgain_138 rfl rfl ?_
    refine g_dup C 139 dX7_sweepAgain_139 rfl ?_
    refine g_get C 140 0 2 dX7_sweepAgain_140 inX7 rfl rfl (by decide) kw_198 rfl ?_
    refine g_aload_n C 143 0 dX7_sweepAgain_143 rfl rfl ?_
    refine g_get C 144 0 11 dX7_sweepAgain_144 inX7 rfl rfl (by decide) kw_178 rfl ?_
    refine g_iload_n C 147 2 dX7_sweepAgain_147 rfl rfl ?_
    refine g_sipush C 148 (256 : Int32) dX7_sweepAgain_148 (by decide) ?_
    refine g_imul C 151 dX7_sweepAgain_151 ?_
    refine g_iald C 152 23 dX7_sweepAgain_152 rfl hf (fun v14 hf => ?_)
    refine g_imul C 153 dX7_sweepAgain_153 ?_
    refine g_puti C 154 0 2 tyX7 (fun z => [oB q_t 7 [.ref q_t_open, .int t_sum_13, .int z, .ref q_t_net, .ref q_t_law, .ref q_t_plan, .ref q_t_openStates, .ref q_t_openCount, .ref q_t_picks, .ref q_t_strides, .ref q_t_sums, .ref q_t_counts, .int t_sign, .int t_changed, .int t_pickedSum, .int t_aim, .long t_before], aI cA q_t_open 14 t_open, oB q_t_net 4 [.ref q_t_net_loads, .ref q_t_net_near, .ref q_t_net_ties, .int t_net_size, .int t_net_edges], aI cA q_t_net_loads 14 t_net_loads, aI cA q_t_net_near 14 t_net_near, aI cA q_t_net_ties 196 t_net_ties, oB q_t_law 3 [.int t_law_size, .ref q_t_law_factors, .ref q_t_law_pairFactors, .ref q_t_law_barred, .ref q_t_law_forbidden], aI cA q_t_law_factors 4 t_law_factors, aI cA q_t_law_pairFactors 16 t_law_pairFactors, aZ cA q_t_law_barred 16 t_law_barred, oB q_t_plan 5 [.ref q_t_plan_knots, .ref q_t_plan_others, .ref q_t_plan_otherCount, .ref q_t_plan_scopes, .ref q_t_plan_users, .ref q_t_plan_feeders, .ref q_t_plan_feederCount, .int t_plan_size, .ref q_t_plan_places, .ref q_t_plan_bagMates, .ref q_t_plan_going], aI cA q_t_plan_knots 14 t_plan_knots, aI cA q_t_plan_others 56 t_plan_others, aI cA q_t_plan_otherCount 14 t_plan_otherCount, aI cA q_t_plan_scopes 14 t_plan_scopes, aI cA q_t_plan_users 14 t_plan_users, aI cA q_t_plan_feeders 196 t_plan_feeders, aI cA q_t_plan_feederCount 14 t_plan_feederCount, aI cA q_t_openStates 56 t_openStates, aI cA q_t_openCount 14 t_openCount, aI cA q_t_picks 14 t_picks, aI cA q_t_strides 56 t_strides, aI cA q_t_sums 3584 t_sums, aI cA q_t_counts 3584 t_counts]) dX7_sweepAgain_154 inX7 tyX7_ok nmX7 rfl rfl (by decide) kw_198 rfl rfl (Nat.le_of_ble_eq_true rfl) (fun _ => rfl) hf (fun t_many_15 hf => ?_)
    refine g_iinc C 157 2 (v := x2 + (1 : Int32)) (fun z => [(2, .int z), (0, .ref q_t), (1, .int x1)]) dX7_sweepAgain_157 rfl rfl (by decide) (fun _ => rfl) hf (fun x2_16 hf => ?_)
    refine g_goto C 160 49 dX7_sweepAgain_160 (by decide) ?_
    refine g_lv [1, 2, 0] rfl ?_
    exact h_49 x1 x2_16 t_sum_13 t_many_15 t_changed t_pickedSum t_openStates t_openCount t_picks t_strides t_sums t_counts hf
  · refine g_goto C 116 157 dX7_sweepAgain_116 (by decide) ?_
    refine g_iinc C 157 2 (v := x2 + (1 : Int32)) (fun z => [(2, .int z), (0, .ref q_t), (1, .int x1)]) dX7_sweepAgain_157 rfl rfl (by decide) (fun _ => rfl) hf (fun x2_17 hf => ?_)
    refine g_goto C 160 49 dX7_sweepAgain_160 (by decide) ?_
    refine g_lv [1, 2, 0] rfl ?_
    exact h_49 x1 x2_17 t_sum t_many t_changed t_pickedSum t_openStates t_openCount t_picks t_strides t_sums t_counts hf
def L_X7_sweepAgain_49 (t_sign : Int32) (t_open : Nat → Int32) (t_net_size : Int32) (t_net_loads : Nat → Int32) (t_net_near : Nat → Int32) (t_net_ties : Nat → Int32) (t_law_size : Int32) (t_law_factors : Nat → Int32) (t_law_pairFactors : Nat → Int32) (t_law_barred : Nat → Int32) (t_plan_size : Int32) (t_plan_knots : Nat → Int32) (t_plan_others : Nat → Int32) (t_plan_otherCount : Nat → Int32) (t_plan_scopes : Nat → Int32) (t_plan_users : Nat → Int32) (t_plan_feeders : Nat → Int32) (t_plan_feederCount : Nat → Int32)  : Nat → Int32 → Int32 → Int32 → Int32 → Int32 → Int32 → (Nat → Int32) → (Nat → Int32) → (Nat → Int32) → (Nat → Int32) → (Nat → Int32) → (Nat → Int32) → Option (Int32 × Int32 × Int32 × Int32 × (Nat → Int32) × (Nat → Int32) × (Nat → Int32) × (Nat → Int32) × (Nat → Int32) × (Nat → Int32))
  | 0, _, _, _, _, _, _, _, _, _, _, _, _ => none
  | n + 1, x1, x2, t_sum, t_many, t_changed, t_pickedSum, t_openStates, t_openCount, t_picks, t_strides, t_sums, t_counts =>
    if t_plan_size ≤ x2 then
      bnd (0 : Int32) fun t_changed_6 =>
      some (t_sum, t_many, t_changed_6, t_pickedSum, t_openStates, t_openCount, t_picks, t_strides, t_sums, t_counts)
    else
      ldA t_plan_scopes 14 x2 fun v7 =>
      if (v7 &&& t_changed) = 0 then
        cal (f_X8_hasBit x1 x2) fun u18 =>
        if u18 = 0 then
          J_X7_sweepAgain_104 t_sign t_open t_net_size t_net_loads t_net_near t_net_ties t_law_size t_law_factors t_law_pairFactors t_law_barred t_plan_size t_plan_knots t_plan_others t_plan_otherCount t_plan_scopes t_plan_users t_plan_feeders t_plan_feederCount (fun y0 y1 y2 y3 y4 y5 y6 y7 y8 y9 y10 y11 => L_X7_sweepAgain_49 t_sign t_open t_net_size t_net_loads t_net_near t_net_ties t_law_size t_law_factors t_law_pairFactors t_law_barred t_plan_size t_plan_knots t_plan_others t_plan_otherCount t_plan_scopes t_plan_users t_plan_feeders t_plan_feederCount n y0 y1 y2 y3 y4 y5 y6 y7 y8 y9 y10 y11) x1 x2 t_sum t_many t_changed t_pickedSum t_openStates t_openCount t_picks t_strides t_sums t_counts
        else
          J_X7_sweepAgain_85 t_sign t_open t_net_size t_net_loads t_net_near t_net_ties t_law_size t_law_factors t_law_pairFactors t_law_barred t_plan_size t_plan_knots t_plan_others t_plan_otherCount t_plan_scopes t_plan_users t_plan_feeders t_plan_feederCount (fun y0 y1 y2 y3 y4 y5 y6 y7 y8 y9 y10 y11 => J_X7_sweepAgain_104 t_sign t_open t_net_size t_net_loads t_net_near t_net_ties t_law_size t_law_factors t_law_pairFactors t_law_barred t_plan_size t_plan_knots t_plan_others t_plan_otherCount t_plan_scopes t_plan_users t_plan_feeders t_plan_feederCount (fun y0 y1 y2 y3 y4 y5 y6 y7 y8 y9 y10 y11 => L_X7_sweepAgain_49 t_sign t_open t_net_size t_net_loads t_net_near t_net_ties t_law_size t_law_factors t_law_pairFactors t_law_barred t_plan_size t_plan_knots t_plan_others t_plan_otherCount t_plan_scopes t_plan_users t_plan_feeders t_plan_feederCount n y0 y1 y2 y3 y4 y5 y6 y7 y8 y9 y10 y11) y0 y1 y2 y3 y4 y5 y6 y7 y8 y9 y10 y11) x1 x2 t_sum t_many t_changed t_pickedSum t_openStates t_openCount t_picks t_strides t_sums t_counts
      else
        J_X7_sweepAgain_85 t_sign t_open t_net_size t_net_loads t_net_near t_net_ties t_law_size t_law_factors t_law_pairFactors t_law_barred t_plan_size t_plan_knots t_plan_others t_plan_otherCount t_plan_scopes t_plan_users t_plan_feeders t_plan_feederCount (fun y0 y1 y2 y3 y4 y5 y6 y7 y8 y9 y10 y11 => J_X7_sweepAgain_104 t_sign t_open t_net_size t_net_loads t_net_near t_net_ties t_law_size t_law_factors t_law_pairFactors t_law_barred t_plan_size t_plan_knots t_plan_others t_plan_otherCount t_plan_scopes t_plan_users t_plan_feeders t_plan_feederCount (fun y0 y1 y2 y3 y4 y5 y6 y7 y8 y9 y10 y11 => L_X7_sweepAgain_49 t_sign t_open t_net_size t_net_loads t_net_near t_net_ties t_law_size t_law_factors t_law_pairFactors t_law_barred t_plan_size t_plan_knots t_plan_others t_plan_otherCount t_plan_scopes t_plan_users t_plan_feeders t_plan_feederCount n y0 y1 y2 y3 y4 y5 y6 y7 y8 y9 y10 y11) y0 y1 y2 y3 y4 y5 y6 y7 y8 y9 y10 y11) x1 x2 t_sum t_many t_changed t_pickedSum t_openStates t_openCount t_picks t_strides t_sums t_counts

set_option maxRecDepth 100000 in
set_option maxHeartbeats 1000000 in
theorem w_X7_sweepAgain_49 (cA : Nat → ClassId) (q_t : Nat) (t_aim : Int32) (t_before : Int64) (q_t_open : Nat) (q_t_net : Nat) (t_net_edges : Int32) (q_t_net_loads : Nat) (q_t_net_near : Nat) (q_t_net_ties : Nat) (q_t_law : Nat) (q_t_law_forbidden : Nat) (q_t_law_factors : Nat) (q_t_law_pairFactors : Nat) (q_t_law_barred : Nat) (q_t_plan : Nat) (q_t_plan_places : Nat) (q_t_plan_bagMates : Nat) (q_t_plan_going : Nat) (q_t_plan_knots : Nat) (q_t_plan_others : Nat) (q_t_plan_otherCount : Nat) (q_t_plan_scopes : Nat) (q_t_plan_users : Nat) (q_t_plan_feeders : Nat) (q_t_plan_feederCount : Nat) (q_t_openStates : Nat) (q_t_openCount : Nat) (q_t_picks : Nat) (q_t_strides : Nat) (q_t_sums : Nat) (q_t_counts : Nat) (t_sign : Int32) (t_open : Nat → Int32) (t_net_size : Int32) (t_net_loads : Nat → Int32) (t_net_near : Nat → Int32) (t_net_ties : Nat → Int32) (t_law_size : Int32) (t_law_factors : Nat → Int32) (t_law_pairFactors : Nat → Int32) (t_law_barred : Nat → Int32) (t_plan_size : Int32) (t_plan_knots : Nat → Int32) (t_plan_others : Nat → Int32) (t_plan_otherCount : Nat → Int32) (t_plan_scopes : Nat → Int32) (t_plan_users : Nat → Int32) (t_plan_feeders : Nat → Int32) (t_plan_feederCount : Nat → Int32) {X : XT} (C : Cx X cX7_sweepAgain RX7 none cA 4 100 3) (r : Int32 × Int32 × Int32 × Int32 × (Nat → Int32) × (Nat → Int32) × (Nat → Int32) × (Nat → Int32) × (Nat → Int32) × (Nat → Int32)) (F : Fx X (sB (none) [oB q_t 7 [.ref q_t_open, .int r.1, .int r.2.1, .ref q_t_net, .ref q_t_law, .ref q_t_plan, .ref q_t_openStates, .ref q_t_openCount, .ref q_t_picks, .ref q_t_strides, .ref q_t_sums, .ref q_t_counts, .int t_sign, .int r.2.2.1, .int r.2.2.2.1, .int t_aim, .long t_before], aI cA q_t_open 14 t_open, oB q_t_net 4 [.ref q_t_net_loads, .ref q_t_net_near, .ref q_t_net_ties, .int t_net_size, .int t_net_edges], aI cA q_t_net_loads 14 t_net_loads, aI cA q_t_net_near 14 t_net_near, aI cA q_t_net_ties 196 t_net_ties, oB q_t_law 3 [.int t_law_size, .ref q_t_law_factors, .ref q_t_law_pairFactors, .ref q_t_law_barred, .ref q_t_law_forbidden], aI cA q_t_law_factors 4 t_law_factors, aI cA q_t_law_pairFactors 16 t_law_pairFactors, aZ cA q_t_law_barred 16 t_law_barred, oB q_t_plan 5 [.ref q_t_plan_knots, .ref q_t_plan_others, .ref q_t_plan_otherCount, .ref q_t_plan_scopes, .ref q_t_plan_users, .ref q_t_plan_feeders, .ref q_t_plan_feederCount, .int t_plan_size, .ref q_t_plan_places, .ref q_t_plan_bagMates, .ref q_t_plan_going], aI cA q_t_plan_knots 14 t_plan_knots, aI cA q_t_plan_others 56 t_plan_others, aI cA q_t_plan_otherCount 14 t_plan_otherCount, aI cA q_t_plan_scopes 14 t_plan_scopes, aI cA q_t_plan_users 14 t_plan_users, aI cA q_t_plan_feeders 196 t_plan_feeders, aI cA q_t_plan_feederCount 14 t_plan_feederCount, aI cA q_t_openStates 56 r.2.2.2.2.1, aI cA q_t_openCount 14 r.2.2.2.2.2.1, aI cA q_t_picks 14 r.2.2.2.2.2.2.1, aI cA q_t_strides 56 r.2.2.2.2.2.2.2.1, aI cA q_t_sums 3584 r.2.2.2.2.2.2.2.2.1, aI cA q_t_counts 3584 r.2.2.2.2.2.2.2.2.2]) 0 0)  : ∀ (n : Nat) (x1 : Int32) (x2 : Int32) (t_sum : Int32) (t_many : Int32) (t_changed : Int32) (t_pickedSum : Int32) (t_openStates : Nat → Int32) (t_openCount : Nat → Int32) (t_picks : Nat → Int32) (t_strides : Nat → Int32) (t_sums : Nat → Int32) (t_counts : Nat → Int32), L_X7_sweepAgain_49 t_sign t_open t_net_size t_net_loads t_net_near t_net_ties t_law_size t_law_factors t_law_pairFactors t_law_barred t_plan_size t_plan_knots t_plan_others t_plan_otherCount t_plan_scopes t_plan_users t_plan_feeders t_plan_feederCount n x1 x2 t_sum t_many t_changed t_pickedSum t_openStates t_openCount t_picks t_strides t_sums t_counts = some r → Go X 3 0 0 49 [oB q_t 7 [.ref q_t_open, .int t_sum, .int t_many, .ref q_t_net, .ref q_t_law, .ref q_t_plan, .ref q_t_openStates, .ref q_t_openCount, .ref q_t_picks, .ref q_t_strides, .ref q_t_sums, .ref q_t_counts, .int t_sign, .int t_changed, .int t_pickedSum, .int t_aim, .long t_before], aI cA q_t_open 14 t_open, oB q_t_net 4 [.ref q_t_net_loads, .ref q_t_net_near, .ref q_t_net_ties, .int t_net_size, .int t_net_edges], aI cA q_t_net_loads 14 t_net_loads, aI cA q_t_net_near 14 t_net_near, aI cA q_t_net_ties 196 t_net_ties, oB q_t_law 3 [.int t_law_size, .ref q_t_law_factors, .ref q_t_law_pairFactors, .ref q_t_law_barred, .ref q_t_law_forbidden], aI cA q_t_law_factors 4 t_law_factors, aI cA q_t_law_pairFactors 16 t_law_pairFactors, aZ cA q_t_law_barred 16 t_law_barred, oB q_t_plan 5 [.ref q_t_plan_knots, .ref q_t_plan_others, .ref q_t_plan_otherCount, .ref q_t_plan_scopes, .ref q_t_plan_users, .ref q_t_plan_feeders, .ref q_t_plan_feederCount, .int t_plan_size, .ref q_t_plan_places, .ref q_t_plan_bagMates, .ref q_t_plan_going], aI cA q_t_plan_knots 14 t_plan_knots, aI cA q_t_plan_others 56 t_plan_others, aI cA q_t_plan_otherCount 14 t_plan_otherCount, aI cA q_t_plan_scopes 14 t_plan_scopes, aI cA q_t_plan_users 14 t_plan_users, aI cA q_t_plan_feeders 196 t_plan_feeders, aI cA q_t_plan_feederCount 14 t_plan_feederCount, aI cA q_t_openStates 56 t_openStates, aI cA q_t_openCount 14 t_openCount, aI cA q_t_picks 14 t_picks, aI cA q_t_strides 56 t_strides, aI cA q_t_sums 3584 t_sums, aI cA q_t_counts 3584 t_counts] [(0, .ref q_t), (1, .int x1), (2, .int x2)] [] := by
  intro n
  induction n with
  | zero => intro x1 x2 t_sum t_many t_changed t_pickedSum t_openStates t_openCount t_picks t_strides t_sums t_counts hf; exact no_some hf
  | succ n ih =>
    intro x1 x2 t_sum t_many t_changed t_pickedSum t_openStates t_openCount t_picks t_strides t_sums t_counts hf
    rw [L_X7_sweepAgain_49] at hf
    refine g_iload_n C 49 2 dX7_sweepAgain_49 rfl rfl ?_
    refine g_aload_n C 50 0 dX7_sweepAgain_50 rfl rfl ?_
    refine g_get C 51 0 5 dX7_sweepAgain_51 inX7 rfl rfl (by decide) kw_163 rfl ?_
    refine g_get C 54 10 7 dX7_sweepAgain_54 inX5 rfl rfl (by decide) kw_199 rfl ?_
    refine g_icmp_ge C 57 163 dX7_sweepAgain_57 (by decide) hf (fun hf => ?_) (fun hf => ?_)
    · refine g_aload_n C 163 0 dX7_sweepAgain_163 rfl rfl ?_
      refine g_iconst C 164 (0 : Int32) dX7_sweepAgain_164 (by decide) ?_
      refine g_puti C 165 0 13 tyX7 (fun z => [oB q_t 7 [.ref q_t_open, .int t_sum, .int t_many, .ref q_t_net, .ref q_t_law, .ref q_t_plan, .ref q_t_openStates, .ref q_t_openCount, .ref q_t_picks, .ref q_t_strides, .ref q_t_sums, .ref q_t_counts, .int t_sign, .int z, .int t_pickedSum, .int t_aim, .long t_before], aI cA q_t_open 14 t_open, oB q_t_net 4 [.ref q_t_net_loads, .ref q_t_net_near, .ref q_t_net_ties, .int t_net_size, .int t_net_edges], aI cA q_t_net_loads 14 t_net_loads, aI cA q_t_net_near 14 t_net_near, aI cA q_t_net_ties 196 t_net_ties, oB q_t_law 3 [.int t_law_size, .ref q_t_law_factors, .ref q_t_law_pairFactors, .ref q_t_law_barred, .ref q_t_law_forbidden], aI cA q_t_law_factors 4 t_law_factors, aI cA q_t_law_pairFactors 16 t_law_pairFactors, aZ cA q_t_law_barred 16 t_law_barred, oB q_t_plan 5 [.ref q_t_plan_knots, .ref q_t_plan_others, .ref q_t_plan_otherCount, .ref q_t_plan_scopes, .ref q_t_plan_users, .ref q_t_plan_feeders, .ref q_t_plan_feederCount, .int t_plan_size, .ref q_t_plan_places, .ref q_t_plan_bagMates, .ref q_t_plan_going], aI cA q_t_plan_knots 14 t_plan_knots, aI cA q_t_plan_others 56 t_plan_others, aI cA q_t_plan_otherCount 14 t_plan_otherCount, aI cA q_t_plan_scopes 14 t_plan_scopes, aI cA q_t_plan_users 14 t_plan_users, aI cA q_t_plan_feeders 196 t_plan_feeders, aI cA q_t_plan_feederCount 14 t_plan_feederCount, aI cA q_t_openStates 56 t_openStates, aI cA q_t_openCount 14 t_openCount, aI cA q_t_picks 14 t_picks, aI cA q_t_strides 56 t_strides, aI cA q_t_sums 3584 t_sums, aI cA q_t_counts 3584 t_counts]) dX7_sweepAgain_165 inX7 tyX7_ok nmX7 rfl rfl (by decide) kw_200 rfl rfl (Nat.le_of_ble_eq_true rfl) (fun _ => rfl) hf (fun t_changed_6 hf => ?_)
      cases hf
      exact g_vret C 168 dX7_sweepAgain_168 F ⟨rfl, rfl⟩
    · refine g_aload_n C 60 0 dX7_sweepAgain_60 rfl rfl ?_
      refine g_get C 61 0 5 dX7_sweepAgain_61 inX7 rfl rfl (by decide) kw_163 rfl ?_
      refine g_get C 64 10 3 dX7_sweepAgain_64 inX5 rfl rfl (by decide) kw_201 rfl ?_
      refine g_iload_n C 67 2 dX7_sweepAgain_67 rfl rfl ?_
      refine g_iald C 68 14 dX7_sweepAgain_68 rfl hf (fun v7 hf => ?_)
      refine g_aload_n C 69 0 dX7_sweepAgain_69 rfl rfl ?_
      refine g_get C 70 0 13 dX7_sweepAgain_70 inX7 rfl rfl (by decide) kw_200 rfl ?_
      refine g_iand C 73 dX7_sweepAgain_73 ?_
      refine g_if_ne C 74 85 dX7_sweepAgain_74 (by decide) hf (fun hf => ?_) (fun hf => ?_)
      · exact w_X7_sweepAgain_85 cA q_t t_aim t_before q_t_open q_t_net t_net_edges q_t_net_loads q_t_net_near q_t_net_ties q_t_law q_t_law_forbidden q_t_law_factors q_t_law_pairFactors q_t_law_barred q_t_plan q_t_plan_places q_t_plan_bagMates q_t_plan_going q_t_plan_knots q_t_plan_others q_t_plan_otherCount q_t_plan_scopes q_t_plan_users q_t_plan_feeders q_t_plan_feederCount q_t_openStates q_t_openCount q_t_picks q_t_strides q_t_sums q_t_counts t_sign t_open t_net_size t_net_loads t_net_near t_net_ties t_law_size t_law_factors t_law_pairFactors t_law_barred t_plan_size t_plan_knots t_plan_others t_plan_otherCount t_plan_scopes t_plan_users t_plan_feeders t_plan_feederCount C r F (fun y0 y1 y2 y3 y4 y5 y6 y7 y8 y9 y10 y11 => J_X7_sweepAgain_104 t_sign t_open t_net_size t_net_loads t_net_near t_net_ties t_law_size t_law_factors t_law_pairFactors t_law_barred t_plan_size t_plan_knots t_plan_others t_plan_otherCount t_plan_scopes t_plan_users t_plan_feeders t_plan_feederCount (fun y0 y1 y2 y3 y4 y5 y6 y7 y8 y9 y10 y11 => L_X7_sweepAgain_49 t_sign t_open t_net_size t_net_loads t_net_near t_net_ties t_law_size t_law_factors t_law_pairFactors t_law_barred t_plan_size t_plan_knots t_plan_others t_plan_otherCount t_plan_scopes t_plan_users t_plan_feeders t_plan_feederCount n y0 y1 y2 y3 y4 y5 y6 y7 y8 y9 y10 y11) y0 y1 y2 y3 y4 y5 y6 y7 y8 y9 y10 y11) (fun y0 y1 y2 y3 y4 y5 y6 y7 y8 y9 y10 y11 hf => w_X7_sweepAgain_104 cA q_t t_aim t_before q_t_open q_t_net t_net_edges q_t_net_loads q_t_net_near q_t_net_ties q_t_law q_t_law_forbidden q_t_law_factors q_t_law_pairFactors q_t_law_barred q_t_plan q_t_plan_places q_t_plan_bagMates q_t_plan_going q_t_plan_knots q_t_plan_others q_t_plan_otherCount q_t_plan_scopes q_t_plan_users q_t_plan_feeders q_t_plan_feederCount q_t_openStates q_t_openCount q_t_picks q_t_strides q_t_sums q_t_counts t_sign t_open t_net_size t_net_loads t_net_near t_net_ties t_law_size t_law_factors t_law_pairFactors t_law_barred t_plan_size t_plan_knots t_plan_others t_plan_otherCount t_plan_scopes t_plan_users t_plan_feeders t_plan_feederCount C r F (fun y0 y1 y2 y3 y4 y5 y6 y7 y8 y9 y10 y11 => L_X7_sweepAgain_49 t_sign t_open t_net_size t_net_loads t_net_near t_net_ties t_law_size t_law_factors t_law_pairFactors t_law_barred t_plan_size t_plan_knots t_plan_others t_plan_otherCount t_plan_scopes t_plan_users t_plan_feeders t_plan_feederCount n y0 y1 y2 y3 y4 y5 y6 y7 y8 y9 y10 y11) (fun y0 y1 y2 y3 y4 y5 y6 y7 y8 y9 y10 y11 hf => ih y0 y1 y2 y3 y4 y5 y6 y7 y8 y9 y10 y11 hf) y0 y1 y2 y3 y4 y5 y6 y7 y8 y9 y10 y11 hf) x1 x2 t_sum t_many t_changed t_pickedSum t_openStates t_openCount t_picks t_strides t_sums t_counts hf
      · refine g_iload_n C 77 1 dX7_sweepAgain_77 rfl rfl ?_
        refine g_iload_n C 78 2 dX7_sweepAgain_78 rfl rfl ?_
        obtain ⟨u18, hu18, hf⟩ := cal_some hf
        refine g_callSN C 79 [] (rest := []) dX7_sweepAgain_79 (c_X8_hasBit (x_l X) cA x1 x2 u18 hu18) (List.mem_of_getElem? (i := 14) rfl) kw_5 kw_6 kw_7 ok_X8_hasBit ⟨Nat.le_of_ble_eq_true rfl, Nat.le_of_ble_eq_true rfl⟩ ⟨Nat.zero_le _, Nat.zero_le _⟩ ⟨rfl, rfl⟩ rfl rfl rfl (Nat.le_of_ble_eq_true rfl) rfl (ws' := [oB q_t 7 [.ref q_t_open, .int t_sum, .int t_many, .ref q_t_net, .ref q_t_law, .ref q_t_plan, .ref q_t_openStates, .ref q_t_openCount, .ref q_t_picks, .ref q_t_strides, .ref q_t_sums, .ref q_t_counts, .int t_sign, .int t_changed, .int t_pickedSum, .int t_aim, .long t_before], aI cA q_t_open 14 t_open, oB q_t_net 4 [.ref q_t_net_loads, .ref q_t_net_near, .ref q_t_net_ties, .int t_net_size, .int t_net_edges], aI cA q_t_net_loads 14 t_net_loads, aI cA q_t_net_near 14 t_net_near, aI cA q_t_net_ties 196 t_net_ties, oB q_t_law 3 [.int t_law_size, .ref q_t_law_factors, .ref q_t_law_pairFactors, .ref q_t_law_barred, .ref q_t_law_forbidden], aI cA q_t_law_factors 4 t_law_factors, aI cA q_t_law_pairFactors 16 t_law_pairFactors, aZ cA q_t_law_barred 16 t_law_barred, oB q_t_plan 5 [.ref q_t_plan_knots, .ref q_t_plan_others, .ref q_t_plan_otherCount, .ref q_t_plan_scopes, .ref q_t_plan_users, .ref q_t_plan_feeders, .ref q_t_plan_feederCount, .int t_plan_size, .ref q_t_plan_places, .ref q_t_plan_bagMates, .ref q_t_plan_going], aI cA q_t_plan_knots 14 t_plan_knots, aI cA q_t_plan_others 56 t_plan_others, aI cA q_t_plan_otherCount 14 t_plan_otherCount, aI cA q_t_plan_scopes 14 t_plan_scopes, aI cA q_t_plan_users 14 t_plan_users, aI cA q_t_plan_feeders 196 t_plan_feeders, aI cA q_t_plan_feederCount 14 t_plan_feederCount, aI cA q_t_openStates 56 t_openStates, aI cA q_t_openCount 14 t_openCount, aI cA q_t_picks 14 t_picks, aI cA q_t_strides 56 t_strides, aI cA q_t_sums 3584 t_sums, aI cA q_t_counts 3584 t_counts]) (st' := [.int u18]) (N0 := 24) rfl [none, none, none, none, none, none, none, none, none, none, none, none, none, none, none, none, none, none, none, none, none, none, none, none] (by decide) rfl rfl ?_
        refine g_if_eq C 82 104 dX7_sweepAgain_82 (by decide) hf (fun hf => ?_) (fun hf => ?_)
        · exact w_X7_sweepAgain_104 cA q_t t_aim t_before q_t_open q_t_net t_net_edges q_t_net_loads q_t_net_near q_t_net_ties q_t_law q_t_law_forbidden q_t_law_factors q_t_law_pairFactors q_t_law_barred q_t_plan q_t_plan_places q_t_plan_bagMates q_t_plan_going q_t_plan_knots q_t_plan_others q_t_plan_otherCount q_t_plan_scopes q_t_plan_users q_t_plan_feeders q_t_plan_feederCount q_t_openStates q_t_openCount q_t_picks q_t_strides q_t_sums q_t_counts t_sign t_open t_net_size t_net_loads t_net_near t_net_ties t_law_size t_law_factors t_law_pairFactors t_law_barred t_plan_size t_plan_knots t_plan_others t_plan_otherCount t_plan_scopes t_plan_users t_plan_feeders t_plan_feederCount C r F (fun y0 y1 y2 y3 y4 y5 y6 y7 y8 y9 y10 y11 => L_X7_sweepAgain_49 t_sign t_open t_net_size t_net_loads t_net_near t_net_ties t_law_size t_law_factors t_law_pairFactors t_law_barred t_plan_size t_plan_knots t_plan_others t_plan_otherCount t_plan_scopes t_plan_users t_plan_feeders t_plan_feederCount n y0 y1 y2 y3 y4 y5 y6 y7 y8 y9 y10 y11) (fun y0 y1 y2 y3 y4 y5 y6 y7 y8 y9 y10 y11 hf => ih y0 y1 y2 y3 y4 y5 y6 y7 y8 y9 y10 y11 hf) x1 x2 t_sum t_many t_changed t_pickedSum t_openStates t_openCount t_picks t_strides t_sums t_counts hf
        · exact w_X7_sweepAgain_85 cA q_t t_aim t_before q_t_open q_t_net t_net_edges q_t_net_loads q_t_net_near q_t_net_ties q_t_law q_t_law_forbidden q_t_law_factors q_t_law_pairFactors q_t_law_barred q_t_plan q_t_plan_places q_t_plan_bagMates q_t_plan_going q_t_plan_knots q_t_plan_others q_t_plan_otherCount q_t_plan_scopes q_t_plan_users q_t_plan_feeders q_t_plan_feederCount q_t_openStates q_t_openCount q_t_picks q_t_strides q_t_sums q_t_counts t_sign t_open t_net_size t_net_loads t_net_near t_net_ties t_law_size t_law_factors t_law_pairFactors t_law_barred t_plan_size t_plan_knots t_plan_others t_plan_otherCount t_plan_scopes t_plan_users t_plan_feeders t_plan_feederCount C r F (fun y0 y1 y2 y3 y4 y5 y6 y7 y8 y9 y10 y11 => J_X7_sweepAgain_104 t_sign t_open t_net_size t_net_loads t_net_near t_net_ties t_law_size t_law_factors t_law_pairFactors t_law_barred t_plan_size t_plan_knots t_plan_others t_plan_otherCount t_plan_scopes t_plan_users t_plan_feeders t_plan_feederCount (fun y0 y1 y2 y3 y4 y5 y6 y7 y8 y9 y10 y11 => L_X7_sweepAgain_49 t_sign t_open t_net_size t_net_loads t_net_near t_net_ties t_law_size t_law_factors t_law_pairFactors t_law_barred t_plan_size t_plan_knots t_plan_others t_plan_otherCount t_plan_scopes t_plan_users t_plan_feeders t_plan_feederCount n y0 y1 y2 y3 y4 y5 y6 y7 y8 y9 y10 y11) y0 y1 y2 y3 y4 y5 y6 y7 y8 y9 y10 y11) (fun y0 y1 y2 y3 y4 y5 y6 y7 y8 y9 y10 y11 hf => w_X7_sweepAgain_104 cA q_t t_aim t_before q_t_open q_t_net t_net_edges q_t_net_loads q_t_net_near q_t_net_ties q_t_law q_t_law_forbidden q_t_law_factors q_t_law_pairFactors q_t_law_barred q_t_plan q_t_plan_places q_t_plan_bagMates q_t_plan_going q_t_plan_knots q_t_plan_others q_t_plan_otherCount q_t_plan_scopes q_t_plan_users q_t_plan_feeders q_t_plan_feederCount q_t_openStates q_t_openCount q_t_picks q_t_strides q_t_sums q_t_counts t_sign t_open t_net_size t_net_loads t_net_near t_net_ties t_law_size t_law_factors t_law_pairFactors t_law_barred t_plan_size t_plan_knots t_plan_others t_plan_otherCount t_plan_scopes t_plan_users t_plan_feeders t_plan_feederCount C r F (fun y0 y1 y2 y3 y4 y5 y6 y7 y8 y9 y10 y11 => L_X7_sweepAgain_49 t_sign t_open t_net_size t_net_loads t_net_near t_net_ties t_law_size t_law_factors t_law_pairFactors t_law_barred t_plan_size t_plan_knots t_plan_others t_plan_otherCount t_plan_scopes t_plan_users t_plan_feeders t_plan_feederCount n y0 y1 y2 y3 y4 y5 y6 y7 y8 y9 y10 y11) (fun y0 y1 y2 y3 y4 y5 y6 y7 y8 y9 y10 y11 hf => ih y0 y1 y2 y3 y4 y5 y6 y7 y8 y9 y10 y11 hf) y0 y1 y2 y3 y4 y5 y6 y7 y8 y9 y10 y11 hf) x1 x2 t_sum t_many t_changed t_pickedSum t_openStates t_openCount t_picks t_strides t_sums t_counts hf
def L_X7_sweepAgain_2 (t_sign : Int32) (t_open : Nat → Int32) (t_net_size : Int32) (t_net_loads : Nat → Int32) (t_net_near : Nat → Int32) (t_net_ties : Nat → Int32) (t_law_size : Int32) (t_law_factors : Nat → Int32) (t_law_pairFactors : Nat → Int32) (t_law_barred : Nat → Int32) (t_plan_size : Int32) (t_plan_knots : Nat → Int32) (t_plan_others : Nat → Int32) (t_plan_otherCount : Nat → Int32) (t_plan_scopes : Nat → Int32) (t_plan_users : Nat → Int32) (t_plan_feeders : Nat → Int32) (t_plan_feederCount : Nat → Int32)  : Nat → Int32 → Int32 → Int32 → Int32 → Int32 → (Nat → Int32) → (Nat → Int32) → (Nat → Int32) → (Nat → Int32) → (Nat → Int32) → (Nat → Int32) → Option (Int32 × Int32 × Int32 × Int32 × (Nat → Int32) × (Nat → Int32) × (Nat → Int32) × (Nat → Int32) × (Nat → Int32) × (Nat → Int32))
  | 0, _, _, _, _, _, _, _, _, _, _, _ => none
  | n + 1, x1, t_sum, t_many, t_changed, t_pickedSum, t_openStates, t_openCount, t_picks, t_strides, t_sums, t_counts =>
    if t_net_size ≤ x1 then
      bnd (0 : Int32) fun t_sum_2 =>
      bnd (1 : Int32) fun t_many_3 =>
      bnd (0 : Int32) fun x1_4 =>
      bnd (0 : Int32) fun x2_5 =>
      L_X7_sweepAgain_49 t_sign t_open t_net_size t_net_loads t_net_near t_net_ties t_law_size t_law_factors t_law_pairFactors t_law_barred t_plan_size t_plan_knots t_plan_others t_plan_otherCount t_plan_scopes t_plan_users t_plan_feeders t_plan_feederCount NN x1_4 x2_5 t_sum_2 t_many_3 t_changed t_pickedSum t_openStates t_openCount t_picks t_strides t_sums t_counts
    else
      cal (f_X8_hasBit t_changed x1) fun u19 =>
      if u19 = 0 then
        bnd (x1 + (1 : Int32)) fun x1_20 =>
        L_X7_sweepAgain_2 t_sign t_open t_net_size t_net_loads t_net_near t_net_ties t_law_size t_law_factors t_law_pairFactors t_law_barred t_plan_size t_plan_knots t_plan_others t_plan_otherCount t_plan_scopes t_plan_users t_plan_feeders t_plan_feederCount n x1_20 t_sum t_many t_changed t_pickedSum t_openStates t_openCount t_picks t_strides t_sums t_counts
      else
        cal (f_X7_listOpenStates x1 t_open t_law_size t_openStates t_openCount) fun u21 =>
        bnd (x1 + (1 : Int32)) fun x1_22 =>
        L_X7_sweepAgain_2 t_sign t_open t_net_size t_net_loads t_net_near t_net_ties t_law_size t_law_factors t_law_pairFactors t_law_barred t_plan_size t_plan_knots t_plan_others t_plan_otherCount t_plan_scopes t_plan_users t_plan_feeders t_plan_feederCount n x1_22 t_sum t_many t_changed t_pickedSum u21.1 u21.2 t_picks t_strides t_sums t_counts

set_option maxRecDepth 100000 in
set_option maxHeartbeats 1000000 in
theorem w_X7_sweepAgain_2 (cA : Nat → ClassId) (q_t : Nat) (t_aim : Int32) (t_before : Int64) (q_t_open : Nat) (q_t_net : Nat) (t_net_edges : Int32) (q_t_net_loads : Nat) (q_t_net_near : Nat) (q_t_net_ties : Nat) (q_t_law : Nat) (q_t_law_forbidden : Nat) (q_t_law_factors : Nat) (q_t_law_pairFactors : Nat) (q_t_law_barred : Nat) (q_t_plan : Nat) (q_t_plan_places : Nat) (q_t_plan_bagMates : Nat) (q_t_plan_going : Nat) (q_t_plan_knots : Nat) (q_t_plan_others : Nat) (q_t_plan_otherCount : Nat) (q_t_plan_scopes : Nat) (q_t_plan_users : Nat) (q_t_plan_feeders : Nat) (q_t_plan_feederCount : Nat) (q_t_openStates : Nat) (q_t_openCount : Nat) (q_t_picks : Nat) (q_t_strides : Nat) (q_t_sums : Nat) (q_t_counts : Nat) (t_sign : Int32) (t_open : Nat → Int32) (t_net_size : Int32) (t_net_loads : Nat → Int32) (t_net_near : Nat → Int32) (t_net_ties : Nat → Int32) (t_law_size : Int32) (t_law_factors : Nat → Int32) (t_law_pairFactors : Nat → Int32) (t_law_barred : Nat → Int32) (t_plan_size : Int32) (t_plan_knots : Nat → Int32) (t_plan_others : Nat → Int32) (t_plan_otherCount : Nat → Int32) (t_plan_scopes : Nat → Int32) (t_plan_users : Nat → Int32) (t_plan_feeders : Nat → Int32) (t_plan_feederCount : Nat → Int32) {X : XT} (C : Cx X cX7_sweepAgain RX7 none cA 4 100 3) (r : Int32 × Int32 × Int32 × Int32 × (Nat → Int32) × (Nat → Int32) × (Nat → Int32) × (Nat → Int32) × (Nat → Int32) × (Nat → Int32)) (F : Fx X (sB (none) [oB q_t 7 [.ref q_t_open, .int r.1, .int r.2.1, .ref q_t_net, .ref q_t_law, .ref q_t_plan, .ref q_t_openStates, .ref q_t_openCount, .ref q_t_picks, .ref q_t_strides, .ref q_t_sums, .ref q_t_counts, .int t_sign, .int r.2.2.1, .int r.2.2.2.1, .int t_aim, .long t_before], aI cA q_t_open 14 t_open, oB q_t_net 4 [.ref q_t_net_loads, .ref q_t_net_near, .ref q_t_net_ties, .int t_net_size, .int t_net_edges], aI cA q_t_net_loads 14 t_net_loads, aI cA q_t_net_near 14 t_net_near, aI cA q_t_net_ties 196 t_net_ties, oB q_t_law 3 [.int t_law_size, .ref q_t_law_factors, .ref q_t_law_pairFactors, .ref q_t_law_barred, .ref q_t_law_forbidden], aI cA q_t_law_factors 4 t_law_factors, aI cA q_t_law_pairFactors 16 t_law_pairFactors, aZ cA q_t_law_barred 16 t_law_barred, oB q_t_plan 5 [.ref q_t_plan_knots, .ref q_t_plan_others, .ref q_t_plan_otherCount, .ref q_t_plan_scopes, .ref q_t_plan_users, .ref q_t_plan_feeders, .ref q_t_plan_feederCount, .int t_plan_size, .ref q_t_plan_places, .ref q_t_plan_bagMates, .ref q_t_plan_going], aI cA q_t_plan_knots 14 t_plan_knots, aI cA q_t_plan_others 56 t_plan_others, aI cA q_t_plan_otherCount 14 t_plan_otherCount, aI cA q_t_plan_scopes 14 t_plan_scopes, aI cA q_t_plan_users 14 t_plan_users, aI cA q_t_plan_feeders 196 t_plan_feeders, aI cA q_t_plan_feederCount 14 t_plan_feederCount, aI cA q_t_openStates 56 r.2.2.2.2.1, aI cA q_t_openCount 14 r.2.2.2.2.2.1, aI cA q_t_picks 14 r.2.2.2.2.2.2.1, aI cA q_t_strides 56 r.2.2.2.2.2.2.2.1, aI cA q_t_sums 3584 r.2.2.2.2.2.2.2.2.1, aI cA q_t_counts 3584 r.2.2.2.2.2.2.2.2.2]) 0 0)  : ∀ (n : Nat) (x1 : Int32) (t_sum : Int32) (t_many : Int32) (t_changed : Int32) (t_pickedSum : Int32) (t_openStates : Nat → Int32) (t_openCount : Nat → Int32) (t_picks : Nat → Int32) (t_strides : Nat → Int32) (t_sums : Nat → Int32) (t_counts : Nat → Int32), L_X7_sweepAgain_2 t_sign t_open t_net_size t_net_loads t_net_near t_net_ties t_law_size t_law_factors t_law_pairFactors t_law_barred t_plan_size t_plan_knots t_plan_others t_plan_otherCount t_plan_scopes t_plan_users t_plan_feeders t_plan_feederCount n x1 t_sum t_many t_changed t_pickedSum t_openStates t_openCount t_picks t_strides t_sums t_counts = some r → Go X 3 0 0 2 [oB q_t 7 [.ref q_t_open, .int t_sum, .int t_many, .ref q_t_net, .ref q_t_law, .ref q_t_plan, .ref q_t_openStates, .ref q_t_openCount, .ref q_t_picks, .ref q_t_strides, .ref q_t_sums, .ref q_t_counts, .int t_sign, .int t_changed, .int t_pickedSum, .int t_aim, .long t_before], aI cA q_t_open 14 t_open, oB q_t_net 4 [.ref q_t_net_loads, .ref q_t_net_near, .ref q_t_net_ties, .int t_net_size, .int t_net_edges], aI cA q_t_net_loads 14 t_net_loads, aI cA q_t_net_near 14 t_net_near, aI cA q_t_net_ties 196 t_net_ties, oB q_t_law 3 [.int t_law_size, .ref q_t_law_factors, .ref q_t_law_pairFactors, .ref q_t_law_barred, .ref q_t_law_forbidden], aI cA q_t_law_factors 4 t_law_factors, aI cA q_t_law_pairFactors 16 t_law_pairFactors, aZ cA q_t_law_barred 16 t_law_barred, oB q_t_plan 5 [.ref q_t_plan_knots, .ref q_t_plan_others, .ref q_t_plan_otherCount, .ref q_t_plan_scopes, .ref q_t_plan_users, .ref q_t_plan_feeders, .ref q_t_plan_feederCount, .int t_plan_size, .ref q_t_plan_places, .ref q_t_plan_bagMates, .ref q_t_plan_going], aI cA q_t_plan_knots 14 t_plan_knots, aI cA q_t_plan_others 56 t_plan_others, aI cA q_t_plan_otherCount 14 t_plan_otherCount, aI cA q_t_plan_scopes 14 t_plan_scopes, aI cA q_t_plan_users 14 t_plan_users, aI cA q_t_plan_feeders 196 t_plan_feeders, aI cA q_t_plan_feederCount 14 t_plan_feederCount, aI cA q_t_openStates 56 t_openStates, aI cA q_t_openCount 14 t_openCount, aI cA q_t_picks 14 t_picks, aI cA q_t_strides 56 t_strides, aI cA q_t_sums 3584 t_sums, aI cA q_t_counts 3584 t_counts] [(0, .ref q_t), (1, .int x1)] [] := by
  intro n
  induction n with
  | zero => intro x1 t_sum t_many t_changed t_pickedSum t_openStates t_openCount t_picks t_strides t_sums t_counts hf; exact no_some hf
  | succ n ih =>
    intro x1 t_sum t_many t_changed t_pickedSum t_openStates t_openCount t_picks t_strides t_sums t_counts hf
    rw [L_X7_sweepAgain_2] at hf
    refine g_iload_n C 2 1 dX7_sweepAgain_2 rfl rfl ?_
    refine g_aload_n C 3 0 dX7_sweepAgain_3 rfl rfl ?_
    refine g_get C 4 0 3 dX7_sweepAgain_4 inX7 rfl rfl (by decide) kw_142 rfl ?_
    refine g_get C 7 2 3 dX7_sweepAgain_7 inX4 rfl rfl (by decide) kw_143 rfl ?_
    refine g_icmp_ge C 10 35 dX7_sweepAgain_10 (by decide) hf (fun hf => ?_) (fun hf => ?_)
    · refine g_aload_n C 35 0 dX7_sweepAgain_35 rfl rfl ?_
      refine g_iconst C 36 (0 : Int32) dX7_sweepAgain_36 (by decide) ?_
      refine g_puti C 37 0 1 tyX7 (fun z => [oB q_t 7 [.ref q_t_open, .int z, .int t_many, .ref q_t_net, .ref q_t_law, .ref q_t_plan, .ref q_t_openStates, .ref q_t_openCount, .ref q_t_picks, .ref q_t_strides, .ref q_t_sums, .ref q_t_counts, .int t_sign, .int t_changed, .int t_pickedSum, .int t_aim, .long t_before], aI cA q_t_open 14 t_open, oB q_t_net 4 [.ref q_t_net_loads, .ref q_t_net_near, .ref q_t_net_ties, .int t_net_size, .int t_net_edges], aI cA q_t_net_loads 14 t_net_loads, aI cA q_t_net_near 14 t_net_near, aI cA q_t_net_ties 196 t_net_ties, oB q_t_law 3 [.int t_law_size, .ref q_t_law_factors, .ref q_t_law_pairFactors, .ref q_t_law_barred, .ref q_t_law_forbidden], aI cA q_t_law_factors 4 t_law_factors, aI cA q_t_law_pairFactors 16 t_law_pairFactors, aZ cA q_t_law_barred 16 t_law_barred, oB q_t_plan 5 [.ref q_t_plan_knots, .ref q_t_plan_others, .ref q_t_plan_otherCount, .ref q_t_plan_scopes, .ref q_t_plan_users, .ref q_t_plan_feeders, .ref q_t_plan_feederCount, .int t_plan_size, .ref q_t_plan_places, .ref q_t_plan_bagMates, .ref q_t_plan_going], aI cA q_t_plan_knots 14 t_plan_knots, aI cA q_t_plan_others 56 t_plan_others, aI cA q_t_plan_otherCount 14 t_plan_otherCount, aI cA q_t_plan_scopes 14 t_plan_scopes, aI cA q_t_plan_users 14 t_plan_users, aI cA q_t_plan_feeders 196 t_plan_feeders, aI cA q_t_plan_feederCount 14 t_plan_feederCount, aI cA q_t_openStates 56 t_openStates, aI cA q_t_openCount 14 t_openCount, aI cA q_t_picks 14 t_picks, aI cA q_t_strides 56 t_strides, aI cA q_t_sums 3584 t_sums, aI cA q_t_counts 3584 t_counts]) dX7_sweepAgain_37 inX7 tyX7_ok nmX7 rfl rfl (by decide) kw_197 rfl rfl (Nat.le_of_ble_eq_true rfl) (fun _ => rfl) hf (fun t_sum_2 hf => ?_)
      refine g_aload_n C 40 0 dX7_sweepAgain_40 rfl rfl ?_
      refine g_iconst C 41 (1 : Int32) dX7_sweepAgain_41 (by decide) ?_
      refine g_puti C 42 0 2 tyX7 (fun z => [oB q_t 7 [.ref q_t_open, .int t_sum_2, .int z, .ref q_t_net, .ref q_t_law, .ref q_t_plan, .ref q_t_openStates, .ref q_t_openCount, .ref q_t_picks, .ref q_t_strides, .ref q_t_sums, .ref q_t_counts, .int t_sign, .int t_changed, .int t_pickedSum, .int t_aim, .long t_before], aI cA q_t_open 14 t_open, oB q_t_net 4 [.ref q_t_net_loads, .ref q_t_net_near, .ref q_t_net_ties, .int t_net_size, .int t_net_edges], aI cA q_t_net_loads 14 t_net_loads, aI cA q_t_net_near 14 t_net_near, aI cA q_t_net_ties 196 t_net_ties, oB q_t_law 3 [.int t_law_size, .ref q_t_law_factors, .ref q_t_law_pairFactors, .ref q_t_law_barred, .ref q_t_law_forbidden], aI cA q_t_law_factors 4 t_law_factors, aI cA q_t_law_pairFactors 16 t_law_pairFactors, aZ cA q_t_law_barred 16 t_law_barred, oB q_t_plan 5 [.ref q_t_plan_knots, .ref q_t_plan_others, .ref q_t_plan_otherCount, .ref q_t_plan_scopes, .ref q_t_plan_users, .ref q_t_plan_feeders, .ref q_t_plan_feederCount, .int t_plan_size, .ref q_t_plan_places, .ref q_t_plan_bagMates, .ref q_t_plan_going], aI cA q_t_plan_knots 14 t_plan_knots, aI cA q_t_plan_others 56 t_plan_others, aI cA q_t_plan_otherCount 14 t_plan_otherCount, aI cA q_t_plan_scopes 14 t_plan_scopes, aI cA q_t_plan_users 14 t_plan_users, aI cA q_t_plan_feeders 196 t_plan_feeders, aI cA q_t_plan_feederCount 14 t_plan_feederCount, aI cA q_t_openStates 56 t_openStates, aI cA q_t_openCount 14 t_openCount, aI cA q_t_picks 14 t_picks, aI cA q_t_strides 56 t_strides, aI cA q_t_sums 3584 t_sums, aI cA q_t_counts 3584 t_counts]) dX7_sweepAgain_42 inX7 tyX7_ok nmX7 rfl rfl (by decide) kw_198 rfl rfl (Nat.le_of_ble_eq_true rfl) (fun _ => rfl) hf (fun t_many_3 hf => ?_)
      refine g_iconst C 45 (0 : Int32) dX7_sweepAgain_45 (by decide) ?_
      refine g_istore_n C 46 (fun z => [(1, .int z), (0, .ref q_t)]) dX7_sweepAgain_46 rfl (by decide) (fun _ => rfl) hf (fun x1_4 hf => ?_)
      refine g_iconst C 47 (0 : Int32) dX7_sweepAgain_47 (by decide) ?_
      refine g_istore_n C 48 (fun z => [(2, .int z), (1, .int x1_4), (0, .ref q_t)]) dX7_sweepAgain_48 rfl (by decide) (fun _ => rfl) hf (fun x2_5 hf => ?_)
      refine g_lv [2, 1, 0] rfl ?_
      exact w_X7_sweepAgain_49 cA q_t t_aim t_before q_t_open q_t_net t_net_edges q_t_net_loads q_t_net_near q_t_net_ties q_t_law q_t_law_forbidden q_t_law_factors q_t_law_pairFactors q_t_law_barred q_t_plan q_t_plan_places q_t_plan_bagMates q_t_plan_going q_t_plan_knots q_t_plan_others q_t_plan_otherCount q_t_plan_scopes q_t_plan_users q_t_plan_feeders q_t_plan_feederCount q_t_openStates q_t_openCount q_t_picks q_t_strides q_t_sums q_t_counts t_sign t_open t_net_size t_net_loads t_net_near t_net_ties t_law_size t_law_factors t_law_pairFactors t_law_barred t_plan_size t_plan_knots t_plan_others t_plan_otherCount t_plan_scopes t_plan_users t_plan_feeders t_plan_feederCount C r F NN x1_4 x2_5 t_sum_2 t_many_3 t_changed t_pickedSum t_openStates t_openCount t_picks t_strides t_sums t_counts hf
    · refine g_aload_n C 13 0 dX7_sweepAgain_13 rfl rfl ?_
      refine g_get C 14 0 13 dX7_sweepAgain_14 inX7 rfl rfl (by decide) kw_200 rfl ?_
      refine g_iload_n C 17 1 dX7_sweepAgain_17 rfl rfl ?_
      obtain ⟨u19, hu19, hf⟩ := cal_some hf
      refine g_callSN C 18 [] (rest := []) dX7_sweepAgain_18 (c_X8_hasBit (x_l X) cA t_changed x1 u19 hu19) (List.mem_of_getElem? (i := 14) rfl) kw_5 kw_6 kw_7 ok_X8_hasBit ⟨Nat.le_of_ble_eq_true rfl, Nat.le_of_ble_eq_true rfl⟩ ⟨Nat.zero_le _, Nat.zero_le _⟩ ⟨rfl, rfl⟩ rfl rfl rfl (Nat.le_of_ble_eq_true rfl) rfl (ws' := [oB q_t 7 [.ref q_t_open, .int t_sum, .int t_many, .ref q_t_net, .ref q_t_law, .ref q_t_plan, .ref q_t_openStates, .ref q_t_openCount, .ref q_t_picks, .ref q_t_strides, .ref q_t_sums, .ref q_t_counts, .int t_sign, .int t_changed, .int t_pickedSum, .int t_aim, .long t_before], aI cA q_t_open 14 t_open, oB q_t_net 4 [.ref q_t_net_loads, .ref q_t_net_near, .ref q_t_net_ties, .int t_net_size, .int t_net_edges], aI cA q_t_net_loads 14 t_net_loads, aI cA q_t_net_near 14 t_net_near, aI cA q_t_net_ties 196 t_net_ties, oB q_t_law 3 [.int t_law_size, .ref q_t_law_factors, .ref q_t_law_pairFactors, .ref q_t_law_barred, .ref q_t_law_forbidden], aI cA q_t_law_factors 4 t_law_factors, aI cA q_t_law_pairFactors 16 t_law_pairFactors, aZ cA q_t_law_barred 16 t_law_barred, oB q_t_plan 5 [.ref q_t_plan_knots, .ref q_t_plan_others, .ref q_t_plan_otherCount, .ref q_t_plan_scopes, .ref q_t_plan_users, .ref q_t_plan_feeders, .ref q_t_plan_feederCount, .int t_plan_size, .ref q_t_plan_places, .ref q_t_plan_bagMates, .ref q_t_plan_going], aI cA q_t_plan_knots 14 t_plan_knots, aI cA q_t_plan_others 56 t_plan_others, aI cA q_t_plan_otherCount 14 t_plan_otherCount, aI cA q_t_plan_scopes 14 t_plan_scopes, aI cA q_t_plan_users 14 t_plan_users, aI cA q_t_plan_feeders 196 t_plan_feeders, aI cA q_t_plan_feederCount 14 t_plan_feederCount, aI cA q_t_openStates 56 t_openStates, aI cA q_t_openCount 14 t_openCount, aI cA q_t_picks 14 t_picks, aI cA q_t_strides 56 t_strides, aI cA q_t_sums 3584 t_sums, aI cA q_t_counts 3584 t_counts]) (st' := [.int u19]) (N0 := 24) rfl [none, none, none, none, none, none, none, none, none, none, none, none, none, none, none, none, none, none, none, none, none, none, none, none] (by decide) rfl rfl ?_
      refine g_if_eq C 21 29 dX7_sweepAgain_21 (by decide) hf (fun hf => ?_) (fun hf => ?_)
      · refine g_iinc C 29 1 (v := x1 + (1 : Int32)) (fun z => [(1, .int z), (0, .ref q_t)]) dX7_sweepAgain_29 rfl rfl (by decide) (fun _ => rfl) hf (fun x1_20 hf => ?_)
        refine g_goto C 32 2 dX7_sweepAgain_32 (by decide) ?_
        refine g_lv [1, 0] rfl ?_
        exact ih x1_20 t_sum t_many t_changed t_pickedSum t_openStates t_openCount t_picks t_strides t_sums t_counts hf
      · refine g_aload_n C 24 0 dX7_sweepAgain_24 rfl rfl ?_
        refine g_iload_n C 25 1 dX7_sweepAgain_25 rfl rfl ?_
        obtain ⟨u21, hu21, hf⟩ := cal_some hf
        refine g_callV1 C 26 [0, 1, 6, 18, 19] 0 (rest := []) dX7_sweepAgain_26 (c_X7_listOpenStates (x_l X) cA q_t t_sum t_many q_t_net q_t_plan q_t_picks q_t_strides q_t_sums q_t_counts t_sign t_changed t_pickedSum t_aim t_before q_t_open t_open q_t_law t_law_size q_t_law_factors q_t_law_pairFactors q_t_law_barred q_t_law_forbidden q_t_openStates t_openStates q_t_openCount t_openCount x1 u21 hu21) kw_207 kw_208 kw_209 kw_158 kw_210 ok_X7_listOpenStates ⟨Nat.le_of_ble_eq_true rfl, Nat.le_of_ble_eq_true rfl⟩ ⟨Nat.zero_le _, Nat.zero_le _⟩ ⟨rfl, rfl⟩ rfl rfl rfl rfl rfl (Nat.le_of_ble_eq_true rfl) rfl (ws' := [oB q_t 7 [.ref q_t_open, .int t_sum, .int t_many, .ref q_t_net, .ref q_t_law, .ref q_t_plan, .ref q_t_openStates, .ref q_t_openCount, .ref q_t_picks, .ref q_t_strides, .ref q_t_sums, .ref q_t_counts, .int t_sign, .int t_changed, .int t_pickedSum, .int t_aim, .long t_before], aI cA q_t_open 14 t_open, oB q_t_net 4 [.ref q_t_net_loads, .ref q_t_net_near, .ref q_t_net_ties, .int t_net_size, .int t_net_edges], aI cA q_t_net_loads 14 t_net_loads, aI cA q_t_net_near 14 t_net_near, aI cA q_t_net_ties 196 t_net_ties, oB q_t_law 3 [.int t_law_size, .ref q_t_law_factors, .ref q_t_law_pairFactors, .ref q_t_law_barred, .ref q_t_law_forbidden], aI cA q_t_law_factors 4 t_law_factors, aI cA q_t_law_pairFactors 16 t_law_pairFactors, aZ cA q_t_law_barred 16 t_law_barred, oB q_t_plan 5 [.ref q_t_plan_knots, .ref q_t_plan_others, .ref q_t_plan_otherCount, .ref q_t_plan_scopes, .ref q_t_plan_users, .ref q_t_plan_feeders, .ref q_t_plan_feederCount, .int t_plan_size, .ref q_t_plan_places, .ref q_t_plan_bagMates, .ref q_t_plan_going], aI cA q_t_plan_knots 14 t_plan_knots, aI cA q_t_plan_others 56 t_plan_others, aI cA q_t_plan_otherCount 14 t_plan_otherCount, aI cA q_t_plan_scopes 14 t_plan_scopes, aI cA q_t_plan_users 14 t_plan_users, aI cA q_t_plan_feeders 196 t_plan_feeders, aI cA q_t_plan_feederCount 14 t_plan_feederCount, aI cA q_t_openStates 56 u21.1, aI cA q_t_openCount 14 u21.2, aI cA q_t_picks 14 t_picks, aI cA q_t_strides 56 t_strides, aI cA q_t_sums 3584 t_sums, aI cA q_t_counts 3584 t_counts]) (st' := []) (N0 := 24) rfl [some 0, some 1, none, none, none, none, some 2, none, none, none, none, none, none, none, none, none, none, none, some 3, some 4, none, none, none, none] (by decide) rfl rfl ?_
        refine g_iinc C 29 1 (v := x1 + (1 : Int32)) (fun z => [(1, .int z), (0, .ref q_t)]) dX7_sweepAgain_29 rfl rfl (by decide) (fun _ => rfl) hf (fun x1_22 hf => ?_)
        refine g_goto C 32 2 dX7_sweepAgain_32 (by decide) ?_
        refine g_lv [1, 0] rfl ?_
        exact ih x1_22 t_sum t_many t_changed t_pickedSum u21.1 u21.2 t_picks t_strides t_sums t_counts hf
def f_X7_sweepAgain (t_sum : Int32) (t_many : Int32) (t_sign : Int32) (t_changed : Int32) (t_pickedSum : Int32) (t_open : Nat → Int32) (t_net_size : Int32) (t_net_loads : Nat → Int32) (t_net_near : Nat → Int32) (t_net_ties : Nat → Int32) (t_law_size : Int32) (t_law_factors : Nat → Int32) (t_law_pairFactors : Nat → Int32) (t_law_barred : Nat → Int32) (t_plan_size : Int32) (t_plan_knots : Nat → Int32) (t_plan_others : Nat → Int32) (t_plan_otherCount : Nat → Int32) (t_plan_scopes : Nat → Int32) (t_plan_users : Nat → Int32) (t_plan_feeders : Nat → Int32) (t_plan_feederCount : Nat → Int32) (t_openStates : Nat → Int32) (t_openCount : Nat → Int32) (t_picks : Nat → Int32) (t_strides : Nat → Int32) (t_sums : Nat → Int32) (t_counts : Nat → Int32) : Option (Int32 × Int32 × Int32 × Int32 × (Nat → Int32) × (Nat → Int32) × (Nat → Int32) × (Nat → Int32) × (Nat → Int32) × (Nat → Int32)) :=
  bnd (0 : Int32) fun x1_1 =>
  L_X7_sweepAgain_2 t_sign t_open t_net_size t_net_loads t_net_near t_net_ties t_law_size t_law_factors t_law_pairFactors t_law_barred t_plan_size t_plan_knots t_plan_others t_plan_otherCount t_plan_scopes t_plan_users t_plan_feeders t_plan_feederCount NN x1_1 t_sum t_many t_changed t_pickedSum t_openStates t_openCount t_picks t_strides t_sums t_counts

set_option maxRecDepth 100000 in
set_option maxHeartbeats 1000000 in
theorem c_X7_sweepAgain (l : Launch) (cA : Nat → ClassId) (q_t : Nat) (t_sum : Int32) (t_many : Int32) (t_sign : Int32) (t_changed : Int32) (t_pickedSum : Int32) (t_aim : Int32) (t_before : Int64) (q_t_open : Nat) (t_open : Nat → Int32) (q_t_net : Nat) (t_net_size : Int32) (t_net_edges : Int32) (q_t_net_loads : Nat) (t_net_loads : Nat → Int32) (q_t_net_near : Nat) (t_net_near : Nat → Int32) (q_t_net_ties : Nat) (t_net_ties : Nat → Int32) (q_t_law : Nat) (t_law_size : Int32) (q_t_law_forbidden : Nat) (q_t_law_factors : Nat) (t_law_factors : Nat → Int32) (q_t_law_pairFactors : Nat) (t_law_pairFactors : Nat → Int32) (q_t_law_barred : Nat) (t_law_barred : Nat → Int32) (q_t_plan : Nat) (t_plan_size : Int32) (q_t_plan_places : Nat) (q_t_plan_bagMates : Nat) (q_t_plan_going : Nat) (q_t_plan_knots : Nat) (t_plan_knots : Nat → Int32) (q_t_plan_others : Nat) (t_plan_others : Nat → Int32) (q_t_plan_otherCount : Nat) (t_plan_otherCount : Nat → Int32) (q_t_plan_scopes : Nat) (t_plan_scopes : Nat → Int32) (q_t_plan_users : Nat) (t_plan_users : Nat → Int32) (q_t_plan_feeders : Nat) (t_plan_feeders : Nat → Int32) (q_t_plan_feederCount : Nat) (t_plan_feederCount : Nat → Int32) (q_t_openStates : Nat) (t_openStates : Nat → Int32) (q_t_openCount : Nat) (t_openCount : Nat → Int32) (q_t_picks : Nat) (t_picks : Nat → Int32) (q_t_strides : Nat) (t_strides : Nat → Int32) (q_t_sums : Nat) (t_sums : Nat → Int32) (q_t_counts : Nat) (t_counts : Nat → Int32)  (r : Int32 × Int32 × Int32 × Int32 × (Nat → Int32) × (Nat → Int32) × (Nat → Int32) × (Nat → Int32) × (Nat → Int32) × (Nat → Int32)) (hf : f_X7_sweepAgain t_sum t_many t_sign t_changed t_pickedSum t_open t_net_size t_net_loads t_net_near t_net_ties t_law_size t_law_factors t_law_pairFactors t_law_barred t_plan_size t_plan_knots t_plan_others t_plan_otherCount t_plan_scopes t_plan_users t_plan_feeders t_plan_feederCount t_openStates t_openCount t_picks t_strides t_sums t_counts = some r) : MT l cA yX7_sweepAgain cX7_sweepAgain 3 none ({ frames := 4, cells := 0, slots := 0, locals := 100 } : Room) [.ref q_t] [oB q_t 7 [.ref q_t_open, .int t_sum, .int t_many, .ref q_t_net, .ref q_t_law, .ref q_t_plan, .ref q_t_openStates, .ref q_t_openCount, .ref q_t_picks, .ref q_t_strides, .ref q_t_sums, .ref q_t_counts, .int t_sign, .int t_changed, .int t_pickedSum, .int t_aim, .long t_before], aI cA q_t_open 14 t_open, oB q_t_net 4 [.ref q_t_net_loads, .ref q_t_net_near, .ref q_t_net_ties, .int t_net_size, .int t_net_edges], aI cA q_t_net_loads 14 t_net_loads, aI cA q_t_net_near 14 t_net_near, aI cA q_t_net_ties 196 t_net_ties, oB q_t_law 3 [.int t_law_size, .ref q_t_law_factors, .ref q_t_law_pairFactors, .ref q_t_law_barred, .ref q_t_law_forbidden], aI cA q_t_law_factors 4 t_law_factors, aI cA q_t_law_pairFactors 16 t_law_pairFactors, aZ cA q_t_law_barred 16 t_law_barred, oB q_t_plan 5 [.ref q_t_plan_knots, .ref q_t_plan_others, .ref q_t_plan_otherCount, .ref q_t_plan_scopes, .ref q_t_plan_users, .ref q_t_plan_feeders, .ref q_t_plan_feederCount, .int t_plan_size, .ref q_t_plan_places, .ref q_t_plan_bagMates, .ref q_t_plan_going], aI cA q_t_plan_knots 14 t_plan_knots, aI cA q_t_plan_others 56 t_plan_others, aI cA q_t_plan_otherCount 14 t_plan_otherCount, aI cA q_t_plan_scopes 14 t_plan_scopes, aI cA q_t_plan_users 14 t_plan_users, aI cA q_t_plan_feeders 196 t_plan_feeders, aI cA q_t_plan_feederCount 14 t_plan_feederCount, aI cA q_t_openStates 56 t_openStates, aI cA q_t_openCount 14 t_openCount, aI cA q_t_picks 14 t_picks, aI cA q_t_strides 56 t_strides, aI cA q_t_sums 3584 t_sums, aI cA q_t_counts 3584 t_counts] (sB (none) [oB q_t 7 [.ref q_t_open, .int r.1, .int r.2.1, .ref q_t_net, .ref q_t_law, .ref q_t_plan, .ref q_t_openStates, .ref q_t_openCount, .ref q_t_picks, .ref q_t_strides, .ref q_t_sums, .ref q_t_counts, .int t_sign, .int r.2.2.1, .int r.2.2.2.1, .int t_aim, .long t_before], aI cA q_t_open 14 t_open, oB q_t_net 4 [.ref q_t_net_loads, .ref q_t_net_near, .ref q_t_net_ties, .int t_net_size, .int t_net_edges], aI cA q_t_net_loads 14 t_net_loads, aI cA q_t_net_near 14 t_net_near, aI cA q_t_net_ties 196 t_net_ties, oB q_t_law 3 [.int t_law_size, .ref q_t_law_factors, .ref q_t_law_pairFactors, .ref q_t_law_barred, .ref q_t_law_forbidden], aI cA q_t_law_factors 4 t_law_factors, aI cA q_t_law_pairFactors 16 t_law_pairFactors, aZ cA q_t_law_barred 16 t_law_barred, oB q_t_plan 5 [.ref q_t_plan_knots, .ref q_t_plan_others, .ref q_t_plan_otherCount, .ref q_t_plan_scopes, .ref q_t_plan_users, .ref q_t_plan_feeders, .ref q_t_plan_feederCount, .int t_plan_size, .ref q_t_plan_places, .ref q_t_plan_bagMates, .ref q_t_plan_going], aI cA q_t_plan_knots 14 t_plan_knots, aI cA q_t_plan_others 56 t_plan_others, aI cA q_t_plan_otherCount 14 t_plan_otherCount, aI cA q_t_plan_scopes 14 t_plan_scopes, aI cA q_t_plan_users 14 t_plan_users, aI cA q_t_plan_feeders 196 t_plan_feeders, aI cA q_t_plan_feederCount 14 t_plan_feederCount, aI cA q_t_openStates 56 r.2.2.2.2.1, aI cA q_t_openCount 14 r.2.2.2.2.2.1, aI cA q_t_picks 14 r.2.2.2.2.2.2.1, aI cA q_t_strides 56 r.2.2.2.2.2.2.2.1, aI cA q_t_sums 3584 r.2.2.2.2.2.2.2.2.1, aI cA q_t_counts 3584 r.2.2.2.2.2.2.2.2.2]) := by
  refine MT.of (by decide) (Nat.le_of_ble_eq_true rfl) ?_
  intro X hXl C F hnm hrc hrs
  subst hXl
  unfold f_X7_sweepAgain at hf
  have C : Cx X cX7_sweepAgain RX7 none cA 4 100 3 := C
  show Go X 3 0 0 0 [oB q_t 7 [.ref q_t_open, .int t_sum, .int t_many, .ref q_t_net, .ref q_t_law, .ref q_t_plan, .ref q_t_openStates, .ref q_t_openCount, .ref q_t_picks, .ref q_t_strides, .ref q_t_sums, .ref q_t_counts, .int t_sign, .int t_changed, .int t_pickedSum, .int t_aim, .long t_before], aI cA q_t_open 14 t_open, oB q_t_net 4 [.ref q_t_net_loads, .ref q_t_net_near, .ref q_t_net_ties, .int t_net_size, .int t_net_edges], aI cA q_t_net_loads 14 t_net_loads, aI cA q_t_net_near 14 t_net_near, aI cA q_t_net_ties 196 t_net_ties, oB q_t_law 3 [.int t_law_size, .ref q_t_law_factors, .ref q_t_law_pairFactors, .ref q_t_law_barred, .ref q_t_law_forbidden], aI cA q_t_law_factors 4 t_law_factors, aI cA q_t_law_pairFactors 16 t_law_pairFactors, aZ cA q_t_law_barred 16 t_law_barred, oB q_t_plan 5 [.ref q_t_plan_knots, .ref q_t_plan_others, .ref q_t_plan_otherCount, .ref q_t_plan_scopes, .ref q_t_plan_users, .ref q_t_plan_feeders, .ref q_t_plan_feederCount, .int t_plan_size, .ref q_t_plan_places, .ref q_t_plan_bagMates, .ref q_t_plan_going], aI cA q_t_plan_knots 14 t_plan_knots, aI cA q_t_plan_others 56 t_plan_others, aI cA q_t_plan_otherCount 14 t_plan_otherCount, aI cA q_t_plan_scopes 14 t_plan_scopes, aI cA q_t_plan_users 14 t_plan_users, aI cA q_t_plan_feeders 196 t_plan_feeders, aI cA q_t_plan_feederCount 14 t_plan_feederCount, aI cA q_t_openStates 56 t_openStates, aI cA q_t_openCount 14 t_openCount, aI cA q_t_picks 14 t_picks, aI cA q_t_strides 56 t_strides, aI cA q_t_sums 3584 t_sums, aI cA q_t_counts 3584 t_counts] [(0, .ref q_t)] []
  refine g_iconst C 0 (0 : Int32) dX7_sweepAgain_0 (by decide) ?_
  refine g_istore_n C 1 (fun z => [(1, .int z), (0, .ref q_t)]) dX7_sweepAgain_1 rfl (by decide) (fun _ => rfl) hf (fun x1_1 hf => ?_)
  refine g_lv [1, 0] rfl ?_
  exact w_X7_sweepAgain_2 cA q_t t_aim t_before q_t_open q_t_net t_net_edges q_t_net_loads q_t_net_near q_t_net_ties q_t_law q_t_law_forbidden q_t_law_factors q_t_law_pairFactors q_t_law_barred q_t_plan q_t_plan_places q_t_plan_bagMates q_t_plan_going q_t_plan_knots q_t_plan_others q_t_plan_otherCount q_t_plan_scopes q_t_plan_users q_t_plan_feeders q_t_plan_feederCount q_t_openStates q_t_openCount q_t_picks q_t_strides q_t_sums q_t_counts t_sign t_open t_net_size t_net_loads t_net_near t_net_ties t_law_size t_law_factors t_law_pairFactors t_law_barred t_plan_size t_plan_knots t_plan_others t_plan_otherCount t_plan_scopes t_plan_users t_plan_feeders t_plan_feederCount C r F NN x1_1 t_sum t_many t_changed t_pickedSum t_openStates t_openCount t_picks t_strides t_sums t_counts hf

def f_X7_sweep (a1 : Int32) (t_sum : Int32) (t_many : Int32) (t_sign : Int32) (t_changed : Int32) (t_pickedSum : Int32) (t_open : Nat → Int32) (t_net_size : Int32) (t_net_loads : Nat → Int32) (t_net_near : Nat → Int32) (t_net_ties : Nat → Int32) (t_law_size : Int32) (t_law_factors : Nat → Int32) (t_law_pairFactors : Nat → Int32) (t_law_barred : Nat → Int32) (t_plan_size : Int32) (t_plan_knots : Nat → Int32) (t_plan_others : Nat → Int32) (t_plan_otherCount : Nat → Int32) (t_plan_scopes : Nat → Int32) (t_plan_users : Nat → Int32) (t_plan_feeders : Nat → Int32) (t_plan_feederCount : Nat → Int32) (t_openStates : Nat → Int32) (t_openCount : Nat → Int32) (t_picks : Nat → Int32) (t_strides : Nat → Int32) (t_sums : Nat → Int32) (t_counts : Nat → Int32) : Option (Int32 × Int32 × Int32 × Int32 × Int32 × (Nat → Int32) × (Nat → Int32) × (Nat → Int32) × (Nat → Int32) × (Nat → Int32) × (Nat → Int32)) :=
  bnd a1 fun t_sign_1 =>
  cal (f_X4_everyKnot t_net_size) fun u2 =>
  bnd u2 fun t_changed_3 =>
  cal (f_X7_sweepAgain t_sum t_many t_sign_1 t_changed_3 t_pickedSum t_open t_net_size t_net_loads t_net_near t_net_ties t_law_size t_law_factors t_law_pairFactors t_law_barred t_plan_size t_plan_knots t_plan_others t_plan_otherCount t_plan_scopes t_plan_users t_plan_feeders t_plan_feederCount t_openStates t_openCount t_picks t_strides t_sums t_counts) fun u4 =>
  some (u4.1, u4.2.1, t_sign_1, u4.2.2.1, u4.2.2.2.1, u4.2.2.2.2.1, u4.2.2.2.2.2.1, u4.2.2.2.2.2.2.1, u4.2.2.2.2.2.2.2.1, u4.2.2.2.2.2.2.2.2.1, u4.2.2.2.2.2.2.2.2.2)

set_option maxRecDepth 100000 in
set_option maxHeartbeats 1000000 in
theorem c_X7_sweep (l : Launch) (cA : Nat → ClassId) (q_t : Nat) (t_sum : Int32) (t_many : Int32) (t_sign : Int32) (t_changed : Int32) (t_pickedSum : Int32) (t_aim : Int32) (t_before : Int64) (q_t_open : Nat) (t_open : Nat → Int32) (q_t_net : Nat) (t_net_size : Int32) (t_net_edges : Int32) (q_t_net_loads : Nat) (t_net_loads : Nat → Int32) (q_t_net_near : Nat) (t_net_near : Nat → Int32) (q_t_net_ties : Nat) (t_net_ties : Nat → Int32) (q_t_law : Nat) (t_law_size : Int32) (q_t_law_forbidden : Nat) (q_t_law_factors : Nat) (t_law_factors : Nat → Int32) (q_t_law_pairFactors : Nat) (t_law_pairFactors : Nat → Int32) (q_t_law_barred : Nat) (t_law_barred : Nat → Int32) (q_t_plan : Nat) (t_plan_size : Int32) (q_t_plan_places : Nat) (q_t_plan_bagMates : Nat) (q_t_plan_going : Nat) (q_t_plan_knots : Nat) (t_plan_knots : Nat → Int32) (q_t_plan_others : Nat) (t_plan_others : Nat → Int32) (q_t_plan_otherCount : Nat) (t_plan_otherCount : Nat → Int32) (q_t_plan_scopes : Nat) (t_plan_scopes : Nat → Int32) (q_t_plan_users : Nat) (t_plan_users : Nat → Int32) (q_t_plan_feeders : Nat) (t_plan_feeders : Nat → Int32) (q_t_plan_feederCount : Nat) (t_plan_feederCount : Nat → Int32) (q_t_openStates : Nat) (t_openStates : Nat → Int32) (q_t_openCount : Nat) (t_openCount : Nat → Int32) (q_t_picks : Nat) (t_picks : Nat → Int32) (q_t_strides : Nat) (t_strides : Nat → Int32) (q_t_sums : Nat) (t_sums : Nat → Int32) (q_t_counts : Nat) (t_counts : Nat → Int32) (a1 : Int32) (r : Int32 × Int32 × Int32 × Int32 × Int32 × (Nat → Int32) × (Nat → Int32) × (Nat → Int32) × (Nat → Int32) × (Nat → Int32) × (Nat → Int32)) (hf : f_X7_sweep a1 t_sum t_many t_sign t_changed t_pickedSum t_open t_net_size t_net_loads t_net_near t_net_ties t_law_size t_law_factors t_law_pairFactors t_law_barred t_plan_size t_plan_knots t_plan_others t_plan_otherCount t_plan_scopes t_plan_users t_plan_feeders t_plan_feederCount t_openStates t_openCount t_picks t_strides t_sums t_counts = some r) : MT l cA yX7_sweep cX7_sweep 2 none ({ frames := 5, cells := 0, slots := 0, locals := 122 } : Room) [.ref q_t, .int a1] [oB q_t 7 [.ref q_t_open, .int t_sum, .int t_many, .ref q_t_net, .ref q_t_law, .ref q_t_plan, .ref q_t_openStates, .ref q_t_openCount, .ref q_t_picks, .ref q_t_strides, .ref q_t_sums, .ref q_t_counts, .int t_sign, .int t_changed, .int t_pickedSum, .int t_aim, .long t_before], aI cA q_t_open 14 t_open, oB q_t_net 4 [.ref q_t_net_loads, .ref q_t_net_near, .ref q_t_net_ties, .int t_net_size, .int t_net_edges], aI cA q_t_net_loads 14 t_net_loads, aI cA q_t_net_near 14 t_net_near, aI cA q_t_net_ties 196 t_net_ties, oB q_t_law 3 [.int t_law_size, .ref q_t_law_factors, .ref q_t_law_pairFactors, .ref q_t_law_barred, .ref q_t_law_forbidden], aI cA q_t_law_factors 4 t_law_factors, aI cA q_t_law_pairFactors 16 t_law_pairFactors, aZ cA q_t_law_barred 16 t_law_barred, oB q_t_plan 5 [.ref q_t_plan_knots, .ref q_t_plan_others, .ref q_t_plan_otherCount, .ref q_t_plan_scopes, .ref q_t_plan_users, .ref q_t_plan_feeders, .ref q_t_plan_feederCount, .int t_plan_size, .ref q_t_plan_places, .ref q_t_plan_bagMates, .ref q_t_plan_going], aI cA q_t_plan_knots 14 t_plan_knots, aI cA q_t_plan_others 56 t_plan_others, aI cA q_t_plan_otherCount 14 t_plan_otherCount, aI cA q_t_plan_scopes 14 t_plan_scopes, aI cA q_t_plan_users 14 t_plan_users, aI cA q_t_plan_feeders 196 t_plan_feeders, aI cA q_t_plan_feederCount 14 t_plan_feederCount, aI cA q_t_openStates 56 t_openStates, aI cA q_t_openCount 14 t_openCount, aI cA q_t_picks 14 t_picks, aI cA q_t_strides 56 t_strides, aI cA q_t_sums 3584 t_sums, aI cA q_t_counts 3584 t_counts] (sB (none) [oB q_t 7 [.ref q_t_open, .int r.1, .int r.2.1, .ref q_t_net, .ref q_t_law, .ref q_t_plan, .ref q_t_openStates, .ref q_t_openCount, .ref q_t_picks, .ref q_t_strides, .ref q_t_sums, .ref q_t_counts, .int r.2.2.1, .int r.2.2.2.1, .int r.2.2.2.2.1, .int t_aim, .long t_before], aI cA q_t_open 14 t_open, oB q_t_net 4 [.ref q_t_net_loads, .ref q_t_net_near, .ref q_t_net_ties, .int t_net_size, .int t_net_edges], aI cA q_t_net_loads 14 t_net_loads, aI cA q_t_net_near 14 t_net_near, aI cA q_t_net_ties 196 t_net_ties, oB q_t_law 3 [.int t_law_size, .ref q_t_law_factors, .ref q_t_law_pairFactors, .ref q_t_law_barred, .ref q_t_law_forbidden], aI cA q_t_law_factors 4 t_law_factors, aI cA q_t_law_pairFactors 16 t_law_pairFactors, aZ cA q_t_law_barred 16 t_law_barred, oB q_t_plan 5 [.ref q_t_plan_knots, .ref q_t_plan_others, .ref q_t_plan_otherCount, .ref q_t_plan_scopes, .ref q_t_plan_users, .ref q_t_plan_feeders, .ref q_t_plan_feederCount, .int t_plan_size, .ref q_t_plan_places, .ref q_t_plan_bagMates, .ref q_t_plan_going], aI cA q_t_plan_knots 14 t_plan_knots, aI cA q_t_plan_others 56 t_plan_others, aI cA q_t_plan_otherCount 14 t_plan_otherCount, aI cA q_t_plan_scopes 14 t_plan_scopes, aI cA q_t_plan_users 14 t_plan_users, aI cA q_t_plan_feeders 196 t_plan_feeders, aI cA q_t_plan_feederCount 14 t_plan_feederCount, aI cA q_t_openStates 56 r.2.2.2.2.2.1, aI cA q_t_openCount 14 r.2.2.2.2.2.2.1, aI cA q_t_picks 14 r.2.2.2.2.2.2.2.1, aI cA q_t_strides 56 r.2.2.2.2.2.2.2.2.1, aI cA q_t_sums 3584 r.2.2.2.2.2.2.2.2.2.1, aI cA q_t_counts 3584 r.2.2.2.2.2.2.2.2.2.2]) := by
  refine MT.of (by decide) (Nat.le_of_ble_eq_true rfl) ?_
  intro X hXl C F hnm hrc hrs
  subst hXl
  unfold f_X7_sweep at hf
  have C : Cx X cX7_sweep RX7 none cA 5 122 2 := C
  show Go X 2 0 0 0 [oB q_t 7 [.ref q_t_open, .int t_sum, .int t_many, .ref q_t_net, .ref q_t_law, .ref q_t_plan, .ref q_t_openStates, .ref q_t_openCount, .ref q_t_picks, .ref q_t_strides, .ref q_t_sums, .ref q_t_counts, .int t_sign, .int t_changed, .int t_pickedSum, .int t_aim, .long t_before], aI cA q_t_open 14 t_open, oB q_t_net 4 [.ref q_t_net_loads, .ref q_t_net_near, .ref q_t_net_ties, .int t_net_size, .int t_net_edges], aI cA q_t_net_loads 14 t_net_loads, aI cA q_t_net_near 14 t_net_near, aI cA q_t_net_ties 196 t_net_ties, oB q_t_law 3 [.int t_law_size, .ref q_t_law_factors, .ref q_t_law_pairFactors, .ref q_t_law_barred, .ref q_t_law_forbidden], aI cA q_t_law_factors 4 t_law_factors, aI cA q_t_law_pairFactors 16 t_law_pairFactors, aZ cA q_t_law_barred 16 t_law_barred, oB q_t_plan 5 [.ref q_t_plan_knots, .ref q_t_plan_others, .ref q_t_plan_otherCount, .ref q_t_plan_scopes, .ref q_t_plan_users, .ref q_t_plan_feeders, .ref q_t_plan_feederCount, .int t_plan_size, .ref q_t_plan_places, .ref q_t_plan_bagMates, .ref q_t_plan_going], aI cA q_t_plan_knots 14 t_plan_knots, aI cA q_t_plan_others 56 t_plan_others, aI cA q_t_plan_otherCount 14 t_plan_otherCount, aI cA q_t_plan_scopes 14 t_plan_scopes, aI cA q_t_plan_users 14 t_plan_users, aI cA q_t_plan_feeders 196 t_plan_feeders, aI cA q_t_plan_feederCount 14 t_plan_feederCount, aI cA q_t_openStates 56 t_openStates, aI cA q_t_openCount 14 t_openCount, aI cA q_t_picks 14 t_picks, aI cA q_t_strides 56 t_strides, aI cA q_t_sums 3584 t_sums, aI cA q_t_counts 3584 t_counts] [(0, .ref q_t), (1, .int a1)] []
  refine g_aload_n C 0 0 dX7_sweep_0 rfl rfl ?_
  refine g_iload_n C 1 1 dX7_sweep_1 rfl rfl ?_
  refine g_puti C 2 0 12 tyX7 (fun z => [oB q_t 7 [.ref q_t_open, .int t_sum, .int t_many, .ref q_t_net, .ref q_t_law, .ref q_t_plan, .ref q_t_openStates, .ref q_t_openCount, .ref q_t_picks, .ref q_t_strides, .ref q_t_sums, .ref q_t_counts, .int z, .int t_changed, .int t_pickedSum, .int t_aim, .long t_before], aI cA q_t_open 14 t_open, oB q_t_net 4 [.ref q_t_net_loads, .ref q_t_net_near, .ref q_t_net_ties, .int t_net_size, .int t_net_edges], aI cA q_t_net_loads 14 t_net_loads, aI cA q_t_net_near 14 t_net_near, aI cA q_t_net_ties 196 t_net_ties, oB q_t_law 3 [.int t_law_size, .ref q_t_law_factors, .ref q_t_law_pairFactors, .ref q_t_law_barred, .ref q_t_law_forbidden], aI cA q_t_law_factors 4 t_law_factors, aI cA q_t_law_pairFactors 16 t_law_pairFactors, aZ cA q_t_law_barred 16 t_law_barred, oB q_t_plan 5 [.ref q_t_plan_knots, .ref q_t_plan_others, .ref q_t_plan_otherCount, .ref q_t_plan_scopes, .ref q_t_plan_users, .ref q_t_plan_feeders, .ref q_t_plan_feederCount, .int t_plan_size, .ref q_t_plan_places, .ref q_t_plan_bagMates, .ref q_t_plan_going], aI cA q_t_plan_knots 14 t_plan_knots, aI cA q_t_plan_others 56 t_plan_others, aI cA q_t_plan_otherCount 14 t_plan_otherCount, aI cA q_t_plan_scopes 14 t_plan_scopes, aI cA q_t_plan_users 14 t_plan_users, aI cA q_t_plan_feeders 196 t_plan_feeders, aI cA q_t_plan_feederCount 14 t_plan_feederCount, aI cA q_t_openStates 56 t_openStates, aI cA q_t_openCount 14 t_openCount, aI cA q_t_picks 14 t_picks, aI cA q_t_strides 56 t_strides, aI cA q_t_sums 3584 t_sums, aI cA q_t_counts 3584 t_counts]) dX7_sweep_2 inX7 tyX7_ok nmX7 rfl rfl (by decide) kw_165 rfl rfl (Nat.le_of_ble_eq_true rfl) (fun _ => rfl) hf (fun t_sign_1 hf => ?_)
  refine g_aload_n C 5 0 dX7_sweep_5 rfl rfl ?_
  refine g_aload_n C 6 0 dX7_sweep_6 rfl rfl ?_
  refine g_get C 7 0 3 dX7_sweep_7 inX7 rfl rfl (by decide) kw_142 rfl ?_
  obtain ⟨u2, hu2, hf⟩ := cal_some hf
  refine g_callV1 C 10 [2] 2 (rest := [.ref q_t]) dX7_sweep_10 (c_X4_everyKnot (x_l X) cA q_t_net q_t_net_loads q_t_net_near q_t_net_ties t_net_size t_net_edges u2 hu2) kw_211 kw_83 kw_84 kw_49 kw_85 ok_X4_everyKnot ⟨Nat.le_of_ble_eq_true rfl, Nat.le_of_ble_eq_true rfl⟩ ⟨Nat.zero_le _, Nat.zero_le _⟩ ⟨rfl, rfl⟩ rfl rfl rfl rfl rfl (Nat.le_of_ble_eq_true rfl) rfl (ws' := [oB q_t 7 [.ref q_t_open, .int t_sum, .int t_many, .ref q_t_net, .ref q_t_law, .ref q_t_plan, .ref q_t_openStates, .ref q_t_openCount, .ref q_t_picks, .ref q_t_strides, .ref q_t_sums, .ref q_t_counts, .int t_sign_1, .int t_changed, .int t_pickedSum, .int t_aim, .long t_before], aI cA q_t_open 14 t_open, oB q_t_net 4 [.ref q_t_net_loads, .ref q_t_net_near, .ref q_t_net_ties, .int t_net_size, .int t_net_edges], aI cA q_t_net_loads 14 t_net_loads, aI cA q_t_net_near 14 t_net_near, aI cA q_t_net_ties 196 t_net_ties, oB q_t_law 3 [.int t_law_size, .ref q_t_law_factors, .ref q_t_law_pairFactors, .ref q_t_law_barred, .ref q_t_law_forbidden], aI cA q_t_law_factors 4 t_law_factors, aI cA q_t_law_pairFactors 16 t_law_pairFactors, aZ cA q_t_law_barred 16 t_law_barred, oB q_t_plan 5 [.ref q_t_plan_knots, .ref q_t_plan_others, .ref q_t_plan_otherCount, .ref q_t_plan_scopes, .ref q_t_plan_users, .ref q_t_plan_feeders, .ref q_t_plan_feederCount, .int t_plan_size, .ref q_t_plan_places, .ref q_t_plan_bagMates, .ref q_t_plan_going], aI cA q_t_plan_knots 14 t_plan_knots, aI cA q_t_plan_others 56 t_plan_others, aI cA q_t_plan_otherCount 14 t_plan_otherCount, aI cA q_t_plan_scopes 14 t_plan_scopes, aI cA q_t_plan_users 14 t_plan_users, aI cA q_t_plan_feeders 196 t_plan_feeders, aI cA q_t_plan_feederCount 14 t_plan_feederCount, aI cA q_t_openStates 56 t_openStates, aI cA q_t_openCount 14 t_openCount, aI cA q_t_picks 14 t_picks, aI cA q_t_strides 56 t_strides, aI cA q_t_sums 3584 t_sums, aI cA q_t_counts 3584 t_counts]) (st' := [.int u2, .ref q_t]) (N0 := 24) rfl [none, none, some 0, none, none, none, none, none, none, none, none, none, none, none, none, none, none, none, none, none, none, none, none, none] (by decide) rfl rfl ?_
  refine g_puti C 13 0 13 tyX7 (fun z => [oB q_t 7 [.ref q_t_open, .int t_sum, .int t_many, .ref q_t_net, .ref q_t_law, .ref q_t_plan, .ref q_t_openStates, .ref q_t_openCount, .ref q_t_picks, .ref q_t_strides, .ref q_t_sums, .ref q_t_counts, .int t_sign_1, .int z, .int t_pickedSum, .int t_aim, .long t_before], aI cA q_t_open 14 t_open, oB q_t_net 4 [.ref q_t_net_loads, .ref q_t_net_near, .ref q_t_net_ties, .int t_net_size, .int t_net_edges], aI cA q_t_net_loads 14 t_net_loads, aI cA q_t_net_near 14 t_net_near, aI cA q_t_net_ties 196 t_net_ties, oB q_t_law 3 [.int t_law_size, .ref q_t_law_factors, .ref q_t_law_pairFactors, .ref q_t_law_barred, .ref q_t_law_forbidden], aI cA q_t_law_factors 4 t_law_factors, aI cA q_t_law_pairFactors 16 t_law_pairFactors, aZ cA q_t_law_barred 16 t_law_barred, oB q_t_plan 5 [.ref q_t_plan_knots, .ref q_t_plan_others, .ref q_t_plan_otherCount, .ref q_t_plan_scopes, .ref q_t_plan_users, .ref q_t_plan_feeders, .ref q_t_plan_feederCount, .int t_plan_size, .ref q_t_plan_places, .ref q_t_plan_bagMates, .ref q_t_plan_going], aI cA q_t_plan_knots 14 t_plan_knots, aI cA q_t_plan_others 56 t_plan_others, aI cA q_t_plan_otherCount 14 t_plan_otherCount, aI cA q_t_plan_scopes 14 t_plan_scopes, aI cA q_t_plan_users 14 t_plan_users, aI cA q_t_plan_feeders 196 t_plan_feeders, aI cA q_t_plan_feederCount 14 t_plan_feederCount, aI cA q_t_openStates 56 t_openStates, aI cA q_t_openCount 14 t_openCount, aI cA q_t_picks 14 t_picks, aI cA q_t_strides 56 t_strides, aI cA q_t_sums 3584 t_sums, aI cA q_t_counts 3584 t_counts]) dX7_sweep_13 inX7 tyX7_ok nmX7 rfl rfl (by decide) kw_200 rfl rfl (Nat.le_of_ble_eq_true rfl) (fun _ => rfl) hf (fun t_changed_3 hf => ?_)
  refine g_aload_n C 16 0 dX7_sweep_16 rfl rfl ?_
  obtain ⟨u4, hu4, hf⟩ := cal_some hf
  refine g_callV1 C 17 [0, 1, 2, 3, 4, 5, 6, 7, 8, 9, 10, 11, 12, 13, 14, 15, 16, 17, 18, 19, 20, 21, 22, 23] 0 (rest := []) dX7_sweep_17 (c_X7_sweepAgain (x_l X) cA q_t t_sum t_many t_sign_1 t_changed_3 t_pickedSum t_aim t_before q_t_open t_open q_t_net t_net_size t_net_edges q_t_net_loads t_net_loads q_t_net_near t_net_near q_t_net_ties t_net_ties q_t_law t_law_size q_t_law_forbidden q_t_law_factors t_law_factors q_t_law_pairFactors t_law_pairFactors q_t_law_barred t_law_barred q_t_plan t_plan_size q_t_plan_places q_t_plan_bagMates q_t_plan_going q_t_plan_knots t_plan_knots q_t_plan_others t_plan_others q_t_plan_otherCount t_plan_otherCount q_t_plan_scopes t_plan_scopes q_t_plan_users t_plan_users q_t_plan_feeders t_plan_feeders q_t_plan_feederCount t_plan_feederCount q_t_openStates t_openStates q_t_openCount t_openCount q_t_picks t_picks q_t_strides t_strides q_t_sums t_sums q_t_counts t_counts u4 hu4) kw_212 kw_213 kw_214 kw_158 kw_215 ok_X7_sweepAgain ⟨Nat.le_of_ble_eq_true rfl, Nat.le_of_ble_eq_true rfl⟩ ⟨Nat.zero_le _, Nat.zero_le _⟩ ⟨rfl, rfl⟩ rfl rfl rfl rfl rfl (Nat.le_of_ble_eq_true rfl) rfl (ws' := [oB q_t 7 [.ref q_t_open, .int u4.1, .int u4.2.1, .ref q_t_net, .ref q_t_law, .ref q_t_plan, .ref q_t_openStates, .ref q_t_openCount, .ref q_t_picks, .ref q_t_strides, .ref q_t_sums, .ref q_t_counts, .int t_sign_1, .int u4.2.2.1, .int u4.2.2.2.1, .int t_aim, .long t_before], aI cA q_t_open 14 t_open, oB q_t_net 4 [.ref q_t_net_loads, .ref q_t_net_near, .ref q_t_net_ties, .int t_net_size, .int t_net_edges], aI cA q_t_net_loads 14 t_net_loads, aI cA q_t_net_near 14 t_net_near, aI cA q_t_net_ties 196 t_net_ties, oB q_t_law 3 [.int t_law_size, .ref q_t_law_factors, .ref q_t_law_pairFactors, .ref q_t_law_barred, .ref q_t_law_forbidden], aI cA q_t_law_factors 4 t_law_factors, aI cA q_t_law_pairFactors 16 t_law_pairFactors, aZ cA q_t_law_barred 16 t_law_barred, oB q_t_plan 5 [.ref q_t_plan_knots, .ref q_t_plan_others, .ref q_t_plan_otherCount, .ref q_t_plan_scopes, .ref q_t_plan_users, .ref q_t_plan_feeders, .ref q_t_plan_feederCount, .int t_plan_size, .ref q_t_plan_places, .ref q_t_plan_bagMates, .ref q_t_plan_going], aI cA q_t_plan_knots 14 t_plan_knots, aI cA q_t_plan_others 56 t_plan_others, aI cA q_t_plan_otherCount 14 t_plan_otherCount, aI cA q_t_plan_scopes 14 t_plan_scopes, aI cA q_t_plan_users 14 t_plan_users, aI cA q_t_plan_feeders 196 t_plan_feeders, aI cA q_t_plan_feederCount 14 t_plan_feederCount, aI cA q_t_openStates 56 u4.2.2.2.2.1, aI cA q_t_openCount 14 u4.2.2.2.2.2.1, aI cA q_t_picks 14 u4.2.2.2.2.2.2.1, aI cA q_t_strides 56 u4.2.2.2.2.2.2.2.1, aI cA q_t_sums 3584 u4.2.2.2.2.2.2.2.2.1, aI cA q_t_counts 3584 u4.2.2.2.2.2.2.2.2.2]) (st' := []) (N0 := 24) rfl [some 0, some 1, some 2, some 3, some 4, some 5, some 6, some 7, some 8, some 9, some 10, some 11, some 12, some 13, some 14, some 15, some 16, some 17, some 18, some 19, some 20, some 21, some 22, some 23] (by decide) rfl rfl ?_
  cases hf
  exact g_vret C 20 dX7_sweep_20 F ⟨rfl, rfl⟩

def J_X7_settle_84 (a1 : Int32) (t_sign : Int32) (t_aim : Int32) (t_net_size : Int32) (t_net_loads : Nat → Int32) (t_net_near : Nat → Int32) (t_net_ties : Nat → Int32) (t_law_size : Int32) (t_law_factors : Nat → Int32) (t_law_pairFactors : Nat → Int32) (t_law_barred : Nat → Int32) (t_plan_size : Int32) (t_plan_knots : Nat → Int32) (t_plan_others : Nat → Int32) (t_plan_otherCount : Nat → Int32) (t_plan_scopes : Nat → Int32) (t_plan_users : Nat → Int32) (t_plan_feeders : Nat → Int32) (t_plan_feederCount : Nat → Int32) (k_9 : Int32 → Int32 → Int32 → Int32 → Int32 → Int32 → Int64 → (Nat → Int32) → (Nat → Int32) → (Nat → Int32) → (Nat → Int32) → (Nat → Int32) → (Nat → Int32) → (Nat → Int32) → Option (Int32 × Int32 × Int32 × Int32 × Int32 × Int64 × (Nat → Int32) × (Nat → Int32) × (Nat → Int32) × (Nat → Int32) × (Nat → Int32) × (Nat → Int32) × (Nat → Int32))) (x2 : Int32) (x3 : Int32) (s0 : Int32) (t_sum : Int32) (t_many : Int32) (t_changed : Int32) (t_pickedSum : Int32) (t_before : Int64) (t_open : Nat → Int32) (t_openStates : Nat → Int32) (t_openCount : Nat → Int32) (t_picks : Nat → Int32) (t_strides : Nat → Int32) (t_sums : Nat → Int32) (t_counts : Nat → Int32) : Option (Int32 × Int32 × Int32 × Int32 × Int32 × Int64 × (Nat → Int32) × (Nat → Int32) × (Nat → Int32) × (Nat → Int32) × (Nat → Int32) × (Nat → Int32) × (Nat → Int32)) :=
  bnd s0 fun x4_8 =>
  if 0 ≤ (lg_cmp t_before ((x4_8).toInt64)) then
    bnd (t_before - ((x4_8).toInt64)) fun t_before_9 =>
    bnd (x3 + (1 : Int32)) fun x3_10 =>
    k_9 x2 x3_10 t_sum t_many t_changed t_pickedSum t_before_9 t_open t_openStates t_openCount t_picks t_strides t_sums t_counts
  else
    some (x3, t_sum, t_many, t_changed, t_pickedSum, t_before, t_open, t_openStates, t_openCount, t_picks, t_strides, t_sums, t_counts)

set_option maxRecDepth 100000 in
set_option maxHeartbeats 1000000 in
theorem w_X7_settle_84 (cA : Nat → ClassId) (q_t : Nat) (q_t_open : Nat) (q_t_net : Nat) (t_net_edges : Int32) (q_t_net_loads : Nat) (q_t_net_near : Nat) (q_t_net_ties : Nat) (q_t_law : Nat) (q_t_law_forbidden : Nat) (q_t_law_factors : Nat) (q_t_law_pairFactors : Nat) (q_t_law_barred : Nat) (q_t_plan : Nat) (q_t_plan_places : Nat) (q_t_plan_bagMates : Nat) (q_t_plan_going : Nat) (q_t_plan_knots : Nat) (q_t_plan_others : Nat) (q_t_plan_otherCount : Nat) (q_t_plan_scopes : Nat) (q_t_plan_users : Nat) (q_t_plan_feeders : Nat) (q_t_plan_feederCount : Nat) (q_t_openStates : Nat) (q_t_openCount : Nat) (q_t_picks : Nat) (q_t_strides : Nat) (q_t_sums : Nat) (q_t_counts : Nat) (a1 : Int32) (t_sign : Int32) (t_aim : Int32) (t_net_size : Int32) (t_net_loads : Nat → Int32) (t_net_near : Nat → Int32) (t_net_ties : Nat → Int32) (t_law_size : Int32) (t_law_factors : Nat → Int32) (t_law_pairFactors : Nat → Int32) (t_law_barred : Nat → Int32) (t_plan_size : Int32) (t_plan_knots : Nat → Int32) (t_plan_others : Nat → Int32) (t_plan_otherCount : Nat → Int32) (t_plan_scopes : Nat → Int32) (t_plan_users : Nat → Int32) (t_plan_feeders : Nat → Int32) (t_plan_feederCount : Nat → Int32) {X : XT} (C : Cx X cX7_settle RX7 (some .int) cA 5 122 5) (r : Int32 × Int32 × Int32 × Int32 × Int32 × Int64 × (Nat → Int32) × (Nat → Int32) × (Nat → Int32) × (Nat → Int32) × (Nat → Int32) × (Nat → Int32) × (Nat → Int32)) (F : Fx X (sB (some (.int r.1)) [oB q_t 7 [.ref q_t_open, .int r.2.1, .int r.2.2.1, .ref q_t_net, .ref q_t_law, .ref q_t_plan, .ref q_t_openStates, .ref q_t_openCount, .ref q_t_picks, .ref q_t_strides, .ref q_t_sums, .ref q_t_counts, .int t_sign, .int r.2.2.2.1, .int r.2.2.2.2.1, .int t_aim, .long r.2.2.2.2.2.1], aI cA q_t_open 14 r.2.2.2.2.2.2.1, oB q_t_net 4 [.ref q_t_net_loads, .ref q_t_net_near, .ref q_t_net_ties, .int t_net_size, .int t_net_edges], aI cA q_t_net_loads 14 t_net_loads, aI cA q_t_net_near 14 t_net_near, aI cA q_t_net_ties 196 t_net_ties, oB q_t_law 3 [.int t_law_size, .ref q_t_law_factors, .ref q_t_law_pairFactors, .ref q_t_law_barred, .ref q_t_law_forbidden], aI cA q_t_law_factors 4 t_law_factors, aI cA q_t_law_pairFactors 16 t_law_pairFactors, aZ cA q_t_law_barred 16 t_law_barred, oB q_t_plan 5 [.ref q_t_plan_knots, .ref q_t_plan_others, .ref q_t_plan_otherCount, .ref q_t_plan_scopes, .ref q_t_plan_users, .ref q_t_plan_feeders, .ref q_t_plan_feederCount, .int t_plan_size, .ref q_t_plan_places, .ref q_t_plan_bagMates, .ref q_t_plan_going], aI cA q_t_plan_knots 14 t_plan_knots, aI cA q_t_plan_others 56 t_plan_others, aI cA q_t_plan_otherCount 14 t_plan_otherCount, aI cA q_t_plan_scopes 14 t_plan_scopes, aI cA q_t_plan_users 14 t_plan_users, aI cA q_t_plan_feeders 196 t_plan_feeders, aI cA q_t_plan_feederCount 14 t_plan_feederCount, aI cA q_t_openStates 56 r.2.2.2.2.2.2.2.1, aI cA q_t_openCount 14 r.2.2.2.2.2.2.2.2.1, aI cA q_t_picks 14 r.2.2.2.2.2.2.2.2.2.1, aI cA q_t_strides 56 r.2.2.2.2.2.2.2.2.2.2.1, aI cA q_t_sums 3584 r.2.2.2.2.2.2.2.2.2.2.2.1, aI cA q_t_counts 3584 r.2.2.2.2.2.2.2.2.2.2.2.2]) 0 0) (k_9 : Int32 → Int32 → Int32 → Int32 → Int32 → Int32 → Int64 → (Nat → Int32) → (Nat → Int32) → (Nat → Int32) → (Nat → Int32) → (Nat → Int32) → (Nat → Int32) → (Nat → Int32) → Option (Int32 × Int32 × Int32 × Int32 × Int32 × Int64 × (Nat → Int32) × (Nat → Int32) × (Nat → Int32) × (Nat → Int32) × (Nat → Int32) × (Nat → Int32) × (Nat → Int32))) (h_9 : ∀ (x2 : Int32) (x3 : Int32) (t_sum : Int32) (t_many : Int32) (t_changed : Int32) (t_pickedSum : Int32) (t_before : Int64) (t_open : Nat → Int32) (t_openStates : Nat → Int32) (t_openCount : Nat → Int32) (t_picks : Nat → Int32) (t_strides : Nat → Int32) (t_sums : Nat → Int32) (t_counts : Nat → Int32), k_9 x2 x3 t_sum t_many t_changed t_pickedSum t_before t_open t_openStates t_openCount t_picks t_strides t_sums t_counts = some r → Go X 5 0 0 9 [oB q_t 7 [.ref q_t_open, .int t_sum, .int t_many, .ref q_t_net, .ref q_t_law, .ref q_t_plan, .ref q_t_openStates, .ref q_t_openCount, .ref q_t_picks, .ref q_t_strides, .ref q_t_sums, .ref q_t_counts, .int t_sign, .int t_changed, .int t_pickedSum, .int t_aim, .long t_before], aI cA q_t_open 14 t_open, oB q_t_net 4 [.ref q_t_net_loads, .ref q_t_net_near, .ref q_t_net_ties, .int t_net_size, .int t_net_edges], aI cA q_t_net_loads 14 t_net_loads, aI cA q_t_net_near 14 t_net_near, aI cA q_t_net_ties 196 t_net_ties, oB q_t_law 3 [.int t_law_size, .ref q_t_law_factors, .ref q_t_law_pairFactors, .ref q_t_law_barred, .ref q_t_law_forbidden], aI cA q_t_law_factors 4 t_law_factors, aI cA q_t_law_pairFactors 16 t_law_pairFactors, aZ cA q_t_law_barred 16 t_law_barred, oB q_t_plan 5 [.ref q_t_plan_knots, .ref q_t_plan_others, .ref q_t_plan_otherCount, .ref q_t_plan_scopes, .ref q_t_plan_users, .ref q_t_plan_feeders, .ref q_t_plan_feederCount, .int t_plan_size, .ref q_t_plan_places, .ref q_t_plan_bagMates, .ref q_t_plan_going], aI cA q_t_plan_knots 14 t_plan_knots, aI cA q_t_plan_others 56 t_plan_others, aI cA q_t_plan_otherCount 14 t_plan_otherCount, aI cA q_t_plan_scopes 14 t_plan_scopes, aI cA q_t_plan_users 14 t_plan_users, aI cA q_t_plan_feeders 196 t_plan_feeders, aI cA q_t_plan_feederCount 14 t_plan_feederCount, aI cA q_t_openStates 56 t_openStates, aI cA q_t_openCount 14 t_openCount, aI cA q_t_picks 14 t_picks, aI cA q_t_strides 56 t_strides, aI cA q_t_sums 3584 t_sums, aI cA q_t_counts 3584 t_counts] [(0, .ref q_t), (1, .int a1), (2, .int x2), (3, .int x3)] []) : ∀ (x2 : Int32) (x3 : Int32) (s0 : Int32) (t_sum : Int32) (t_many : Int32) (t_changed : Int32) (t_pickedSum : Int32) (t_before : Int64) (t_open : Nat → Int32) (t_openStates : Nat → Int32) (t_openCount : Nat → Int32) (t_picks : Nat → Int32) (t_strides : Nat → Int32) (t_sums : Nat → Int32) (t_counts : Nat → Int32), J_X7_settle_84 a1 t_sign t_aim t_net_size t_net_loads t_net_near t_net_ties t_law_size t_law_factors t_law_pairFactors t_law_barred t_plan_size t_plan_knots t_plan_others t_plan_otherCount t_plan_scopes t_plan_users t_plan_feeders t_plan_feederCount k_9 x2 x3 s0 t_sum t_many t_changed t_pickedSum t_before t_open t_openStates t_openCount t_picks t_strides t_sums t_counts = some r → Go X 5 0 0 84 [oB q_t 7 [.ref q_t_open, .int t_sum, .int t_many, .ref q_t_net, .ref q_t_law, .ref q_t_plan, .ref q_t_openStates, .ref q_t_openCount, .ref q_t_picks, .ref q_t_strides, .ref q_t_sums, .ref q_t_counts, .int t_sign, .int t_changed, .int t_pickedSum, .int t_aim, .long t_before], aI cA q_t_open 14 t_open, oB q_t_net 4 [.ref q_t_net_loads, .ref q_t_net_near, .ref q_t_net_ties, .int t_net_size, .int t_net_edges], aI cA q_t_net_loads 14 t_net_loads, aI cA q_t_net_near 14 t_net_near, aI cA q_t_net_ties 196 t_net_ties, oB q_t_law 3 [.int t_law_size, .ref q_t_law_factors, .ref q_t_law_pairFactors, .ref q_t_law_barred, .ref q_t_law_forbidden], aI cA q_t_law_factors 4 t_law_factors, aI cA q_t_law_pairFactors 16 t_law_pairFactors, aZ cA q_t_law_barred 16 t_law_barred, oB q_t_plan 5 [.ref q_t_plan_knots, .ref q_t_plan_others, .ref q_t_plan_otherCount, .ref q_t_plan_scopes, .ref q_t_plan_users, .ref q_t_plan_feeders, .ref q_t_plan_feederCount, .int t_plan_size, .ref q_t_plan_places, .ref q_t_plan_bagMates, .ref q_t_plan_going], aI cA q_t_plan_knots 14 t_plan_knots, aI cA q_t_plan_others 56 t_plan_others, aI cA q_t_plan_otherCount 14 t_plan_otherCount, aI cA q_t_plan_scopes 14 t_plan_scopes, aI cA q_t_plan_users 14 t_plan_users, aI cA q_t_plan_feeders 196 t_plan_feeders, aI cA q_t_plan_feederCount 14 t_plan_feederCount, aI cA q_t_openStates 56 t_openStates, aI cA q_t_openCount 14 t_openCount, aI cA q_t_picks 14 t_picks, aI cA q_t_strides 56 t_strides, aI cA q_t_sums 3584 t_sums, aI cA q_t_counts 3584 t_counts] [(0, .ref q_t), (1, .int a1), (2, .int x2), (3, .int x3)] [.int s0] := by
  intro x2 x3 s0 t_sum t_many t_changed t_pickedSum t_before t_open t_openStates t_openCount t_picks t_strides t_sums t_counts hf
  unfold J_X7_settle_84 at hf
  refine g_istore C 84 (fun z => [(4, .int z), (0, .ref q_t), (1, .int a1), (2, .int x2), (3, .int x3)]) dX7_settle_84 (by decide) (fun _ => rfl) hf (fun x4_8 hf => ?_)
  refine g_aload_n C 86 1 dX7_settle_86 rfl rfl ?_
  refine g_get C 87 0 16 dX7_settle_87 inX7 rfl rfl (by decide) kw_217 rfl ?_
  refine g_iload C 90 0 dX7_settle_90 rfl ?_
  refine g_i2l C 92 dX7_settle_92 ?_
  refine g_lcmp C 93 dX7_settle_93 ?_
  refine g_if_ge C 94 99 dX7_settle_94 (by decide) hf (fun hf => ?_) (fun hf => ?_)
  · refine g_aload_n C 99 1 dX7_settle_99 rfl rfl ?_
    refine g_dup C 100 dX7_settle_100 rfl ?_
    refine g_get C 101 0 16 dX7_settle_101 inX7 rfl rfl (by decide) kw_217 rfl ?_
    refine g_iload C 104 0 dX7_settle_104 rfl ?_
    refine g_i2l C 106 dX7_settle_106 ?_
    refine g_lsub C 107 dX7_settle_107 ?_
    refine g_putl C 108 0 16 tyX7 (fun z => [oB q_t 7 [.ref q_t_open, .int t_sum, .int t_many, .ref q_t_net, .ref q_t_law, .ref q_t_plan, .ref q_t_openStates, .ref q_t_openCount, .ref q_t_picks, .ref q_t_strides, .ref q_t_sums, .ref q_t_counts, .int t_sign, .int t_changed, .int t_pickedSum, .int t_aim, .long z], aI cA q_t_open 14 t_open, oB q_t_net 4 [.ref q_t_net_loads, .ref q_t_net_near, .ref q_t_net_ties, .int t_net_size, .int t_net_edges], aI cA q_t_net_loads 14 t_net_loads, aI cA q_t_net_near 14 t_net_near, aI cA q_t_net_ties 196 t_net_ties, oB q_t_law 3 [.int t_law_size, .ref q_t_law_factors, .ref q_t_law_pairFactors, .ref q_t_law_barred, .ref q_t_law_forbidden], aI cA q_t_law_factors 4 t_law_factors, aI cA q_t_law_pairFactors 16 t_law_pairFactors, aZ cA q_t_law_barred 16 t_law_barred, oB q_t_plan 5 [.ref q_t_plan_knots, .ref q_t_plan_others, .ref q_t_plan_otherCount, .ref q_t_plan_scopes, .ref q_t_plan_users, .ref q_t_plan_feeders, .ref q_t_plan_feederCount, .int t_plan_size, .ref q_t_plan_places, .ref q_t_plan_bagMates, .ref q_t_plan_going], aI cA q_t_plan_knots 14 t_plan_knots, aI cA q_t_plan_others 56 t_plan_others, aI cA q_t_plan_otherCount 14 t_plan_otherCount, aI cA q_t_plan_scopes 14 t_plan_scopes, aI cA q_t_plan_users 14 t_plan_users, aI cA q_t_plan_feeders 196 t_plan_feeders, aI cA q_t_plan_feederCount 14 t_plan_feederCount, aI cA q_t_openStates 56 t_openStates, aI cA q_t_openCount 14 t_openCount, aI cA q_t_picks 14 t_picks, aI cA q_t_strides 56 t_strides, aI cA q_t_sums 3584 t_sums, aI cA q_t_counts 3584 t_counts]) dX7_settle_108 inX7 tyX7_ok nmX7 rfl rfl (by decide) kw_217 rfl rfl (Nat.le_of_ble_eq_true rfl) (fun _ => rfl) hf (fun t_before_9 hf => ?_)
    refine g_iinc C 111 4 (v := x3 + (1 : Int32)) (fun z => [(3, .int z), (4, .int x4_8), (0, .ref q_t), (1, .int a1), (2, .int x2)]) dX7_settle_111 rfl rfl (by decide) (fun _ => rfl) hf (fun x3_10 hf => ?_)
    refine g_goto C 114 9 dX7_settle_114 (by decide) ?_
    refine g_lv [2, 3, 4, 0] rfl ?_
    exact h_9 x2 x3_10 t_sum t_many t_changed t_pickedSum t_before_9 t_open t_openStates t_openCount t_picks t_strides t_sums t_counts hf
  · refine g_iload_n C 97 4 dX7_settle_97 rfl rfl ?_
    cases hf
    exact g_iret C 98 dX7_settle_98 F ⟨rfl, rfl⟩
def L_X7_settle_9 (a1 : Int32) (t_sign : Int32) (t_aim : Int32) (t_net_size : Int32) (t_net_loads : Nat → Int32) (t_net_near : Nat → Int32) (t_net_ties : Nat → Int32) (t_law_size : Int32) (t_law_factors : Nat → Int32) (t_law_pairFactors : Nat → Int32) (t_law_barred : Nat → Int32) (t_plan_size : Int32) (t_plan_knots : Nat → Int32) (t_plan_others : Nat → Int32) (t_plan_otherCount : Nat → Int32) (t_plan_scopes : Nat → Int32) (t_plan_users : Nat → Int32) (t_plan_feeders : Nat → Int32) (t_plan_feederCount : Nat → Int32)  : Nat → Int32 → Int32 → Int32 → Int32 → Int32 → Int32 → Int64 → (Nat → Int32) → (Nat → Int32) → (Nat → Int32) → (Nat → Int32) → (Nat → Int32) → (Nat → Int32) → (Nat → Int32) → Option (Int32 × Int32 × Int32 × Int32 × Int32 × Int64 × (Nat → Int32) × (Nat → Int32) × (Nat → Int32) × (Nat → Int32) × (Nat → Int32) × (Nat → Int32) × (Nat → Int32))
  | 0, _, _, _, _, _, _, _, _, _, _, _, _, _, _ => none
  | n + 1, x2, x3, t_sum, t_many, t_changed, t_pickedSum, t_before, t_open, t_openStates, t_openCount, t_picks, t_strides, t_sums, t_counts =>
    if t_law_size ≤ x3 then
      some ((-1 : Int32), t_sum, t_many, t_changed, t_pickedSum, t_before, t_open, t_openStates, t_openCount, t_picks, t_strides, t_sums, t_counts)
    else
      cal (f_X8_hasBit x2 x3) fun u4 =>
      if u4 = 0 then
        bnd (x3 + (1 : Int32)) fun x3_11 =>
        L_X7_settle_9 a1 t_sign t_aim t_net_size t_net_loads t_net_near t_net_ties t_law_size t_law_factors t_law_pairFactors t_law_barred t_plan_size t_plan_knots t_plan_others t_plan_otherCount t_plan_scopes t_plan_users t_plan_feeders t_plan_feederCount n x2 x3_11 t_sum t_many t_changed t_pickedSum t_before t_open t_openStates t_openCount t_picks t_strides t_sums t_counts
      else
        stI t_open 14 a1 ((1 : Int32) <<< (x3 &&& 31)) fun t_open_5 =>
        bnd (t_changed ||| ((1 : Int32) <<< (a1 &&& 31))) fun t_changed_6 =>
        if (x2 >>> (x3 &&& 31)) = (1 : Int32) then
          some (x3, t_sum, t_many, t_changed_6, t_pickedSum, t_before, t_open_5, t_openStates, t_openCount, t_picks, t_strides, t_sums, t_counts)
        else
          cal (f_X7_sweepAgain t_sum t_many t_sign t_changed_6 t_pickedSum t_open_5 t_net_size t_net_loads t_net_near t_net_ties t_law_size t_law_factors t_law_pairFactors t_law_barred t_plan_size t_plan_knots t_plan_others t_plan_otherCount t_plan_scopes t_plan_users t_plan_feeders t_plan_feederCount t_openStates t_openCount t_picks t_strides t_sums t_counts) fun u7 =>
          if u7.1 = t_aim then
            J_X7_settle_84 a1 t_sign t_aim t_net_size t_net_loads t_net_near t_net_ties t_law_size t_law_factors t_law_pairFactors t_law_barred t_plan_size t_plan_knots t_plan_others t_plan_otherCount t_plan_scopes t_plan_users t_plan_feeders t_plan_feederCount (fun y0 y1 y2 y3 y4 y5 y6 y7 y8 y9 y10 y11 y12 y13 => L_X7_settle_9 a1 t_sign t_aim t_net_size t_net_loads t_net_near t_net_ties t_law_size t_law_factors t_law_pairFactors t_law_barred t_plan_size t_plan_knots t_plan_others t_plan_otherCount t_plan_scopes t_plan_users t_plan_feeders t_plan_feederCount n y0 y1 y2 y3 y4 y5 y6 y7 y8 y9 y10 y11 y12 y13) x2 x3 u7.2.1 u7.1 u7.2.1 u7.2.2.1 u7.2.2.2.1 t_before t_open_5 u7.2.2.2.2.1 u7.2.2.2.2.2.1 u7.2.2.2.2.2.2.1 u7.2.2.2.2.2.2.2.1 u7.2.2.2.2.2.2.2.2.1 u7.2.2.2.2.2.2.2.2.2
          else
            J_X7_settle_84 a1 t_sign t_aim t_net_size t_net_loads t_net_near t_net_ties t_law_size t_law_factors t_law_pairFactors t_law_barred t_plan_size t_plan_knots t_plan_others t_plan_otherCount t_plan_scopes t_plan_users t_plan_feeders t_plan_feederCount (fun y0 y1 y2 y3 y4 y5 y6 y7 y8 y9 y10 y11 y12 y13 => L_X7_settle_9 a1 t_sign t_aim t_net_size t_net_loads t_net_near t_net_ties t_law_size t_law_factors t_law_pairFactors t_law_barred t_plan_size t_plan_knots t_plan_others t_plan_otherCount t_plan_scopes t_plan_users t_plan_feeders t_plan_feederCount n y0 y1 y2 y3 y4 y5 y6 y7 y8 y9 y10 y11 y12 y13) x2 x3 (0 : Int32) u7.1 u7.2.1 u7.2.2.1 u7.2.2.2.1 t_before t_open_5 u7.2.2.2.2.1 u7.2.2.2.2.2.1 u7.2.2.2.2.2.2.1 u7.2.2.2.2.2.2.2.1 u7.2.2.2.2.2.2.2.2.1 u7.2.2.2.2.2.2.2.2.2

set_option maxRecDepth 100000 in
set_option maxHeartbeats 1000000 in
theorem w_X7_settle_9 (cA : Nat → ClassId) (q_t : Nat) (q_t_open : Nat) (q_t_net : Nat) (t_net_edges : Int32) (q_t_net_loads : Nat) (q_t_net_near : Nat) (q_t_net_ties : Nat) (q_t_law : Nat) (q_t_law_forbidden : Nat) (q_t_law_factors : Nat) (q_t_law_pairFactors : Nat) (q_t_law_barred : Nat) (q_t_plan : Nat) (q_t_plan_places : Nat) (q_t_plan_bagMates : Nat) (q_t_plan_going : Nat) (q_t_plan_knots : Nat) (q_t_plan_others : Nat) (q_t_plan_otherCount : Nat) (q_t_plan_scopes : Nat) (q_t_plan_users : Nat) (q_t_plan_feeders : Nat) (q_t_plan_feederCount : Nat) (q_t_openStates : Nat) (q_t_openCount : Nat) (q_t_picks : Nat) (q_t_strides : Nat) (q_t_sums : Nat) (q_t_counts : Nat) (a1 : Int32) (t_sign : Int32) (t_aim : Int32) (t_net_size : Int32) (t_net_loads : Nat → Int32) (t_net_near : Nat → Int32) (t_net_ties : Nat → Int32) (t_law_size : Int32) (t_law_factors : Nat → Int32) (t_law_pairFactors : Nat → Int32) (t_law_barred : Nat → Int32) (t_plan_size : Int32) (t_plan_knots : Nat → Int32) (t_plan_others : Nat → Int32) (t_plan_otherCount : Nat → Int32) (t_plan_scopes : Nat → Int32) (t_plan_users : Nat → Int32) (t_plan_feeders : Nat → Int32) (t_plan_feederCount : Nat → Int32) {X : XT} (C : Cx X cX7_settle RX7 (some .int) cA 5 122 5) (r : Int32 × Int32 × Int32 × Int32 × Int32 × Int64 × (Nat → Int32) × (Nat → Int32) × (Nat → Int32) × (Nat → Int32) × (Nat → Int32) × (Nat → Int32) × (Nat → Int32)) (F : Fx X (sB (some (.int r.1)) [oB q_t 7 [.ref q_t_open, .int r.2.1, .int r.2.2.1, .ref q_t_net, .ref q_t_law, .ref q_t_plan, .ref q_t_openStates, .ref q_t_openCount, .ref q_t_picks, .ref q_t_strides, .ref q_t_sums, .ref q_t_counts, .int t_sign, .int r.2.2.2.1, .int r.2.2.2.2.1, .int t_aim, .long r.2.2.2.2.2.1], aI cA q_t_open 14 r.2.2.2.2.2.2.1, oB q_t_net 4 [.ref q_t_net_loads, .ref q_t_net_near, .ref q_t_net_ties, .int t_net_size, .int t_net_edges], aI cA q_t_net_loads 14 t_net_loads, aI cA q_t_net_near 14 t_net_near, aI cA q_t_net_ties 196 t_net_ties, oB q_t_law 3 [.int t_law_size, .ref q_t_law_factors, .ref q_t_law_pairFactors, .ref q_t_law_barred, .ref q_t_law_forbidden], aI cA q_t_law_factors 4 t_law_factors, aI cA q_t_law_pairFactors 16 t_law_pairFactors, aZ cA q_t_law_barred 16 t_law_barred, oB q_t_plan 5 [.ref q_t_plan_knots, .ref q_t_plan_others, .ref q_t_plan_otherCount, .ref q_t_plan_scopes, .ref q_t_plan_users, .ref q_t_plan_feeders, .ref q_t_plan_feederCount, .int t_plan_size, .ref q_t_plan_places, .ref q_t_plan_bagMates, .ref q_t_plan_going], aI cA q_t_plan_knots 14 t_plan_knots, aI cA q_t_plan_others 56 t_plan_others, aI cA q_t_plan_otherCount 14 t_plan_otherCount, aI cA q_t_plan_scopes 14 t_plan_scopes, aI cA q_t_plan_users 14 t_plan_users, aI cA q_t_plan_feeders 196 t_plan_feeders, aI cA q_t_plan_feederCount 14 t_plan_feederCount, aI cA q_t_openStates 56 r.2.2.2.2.2.2.2.1, aI cA q_t_openCount 14 r.2.2.2.2.2.2.2.2.1, aI cA q_t_picks 14 r.2.2.2.2.2.2.2.2.2.1, aI cA q_t_strides 56 r.2.2.2.2.2.2.2.2.2.2.1, aI cA q_t_sums 3584 r.2.2.2.2.2.2.2.2.2.2.2.1, aI cA q_t_counts 3584 r.2.2.2.2.2.2.2.2.2.2.2.2]) 0 0)  : ∀ (n : Nat) (x2 : Int32) (x3 : Int32) (t_sum : Int32) (t_many : Int32) (t_changed : Int32) (t_pickedSum : Int32) (t_before : Int64) (t_open : Nat → Int32) (t_openStates : Nat → Int32) (t_openCount : Nat → Int32) (t_picks : Nat → Int32) (t_strides : Nat → Int32) (t_sums : Nat → Int32) (t_counts : Nat → Int32), L_X7_settle_9 a1 t_sign t_aim t_net_size t_net_loads t_net_near t_net_ties t_law_size t_law_factors t_law_pairFactors t_law_barred t_plan_size t_plan_knots t_plan_others t_plan_otherCount t_plan_scopes t_plan_users t_plan_feeders t_plan_feederCount n x2 x3 t_sum t_many t_changed t_pickedSum t_before t_open t_openStates t_openCount t_picks t_strides t_sums t_counts = some r → Go X 5 0 0 9 [oB q_t 7 [.ref q_t_open, .int t_sum, .int t_many, .ref q_t_net, .ref q_t_law, .ref q_t_plan, .ref q_t_openStates, .ref q_t_openCount, .ref q_t_picks, .ref q_t_strides, .ref q_t_sums, .ref q_t_counts, .int t_sign, .int t_changed, .int t_pickedSum, .int t_aim, .long t_before], aI cA q_t_open 14 t_open, oB q_t_net 4 [.ref q_t_net_loads, .ref q_t_net_near, .ref q_t_net_ties, .int t_net_size, .int t_net_edges], aI cA q_t_net_loads 14 t_net_loads, aI cA q_t_net_near 14 t_net_near, aI cA q_t_net_ties 196 t_net_ties, oB q_t_law 3 [.int t_law_size, .ref q_t_law_factors, .ref q_t_law_pairFactors, .ref q_t_law_barred, .ref q_t_law_forbidden], aI cA q_t_law_factors 4 t_law_factors, aI cA q_t_law_pairFactors 16 t_law_pairFactors, aZ cA q_t_law_barred 16 t_law_barred, oB q_t_plan 5 [.ref q_t_plan_knots, .ref q_t_plan_others, .ref q_t_plan_otherCount, .ref q_t_plan_scopes, .ref q_t_plan_users, .ref q_t_plan_feeders, .ref q_t_plan_feederCount, .int t_plan_size, .ref q_t_plan_places, .ref q_t_plan_bagMates, .ref q_t_plan_going], aI cA q_t_plan_knots 14 t_plan_knots, aI cA q_t_plan_others 56 t_plan_others, aI cA q_t_plan_otherCount 14 t_plan_otherCount, aI cA q_t_plan_scopes 14 t_plan_scopes, aI cA q_t_plan_users 14 t_plan_users, aI cA q_t_plan_feeders 196 t_plan_feeders, aI cA q_t_plan_feederCount 14 t_plan_feederCount, aI cA q_t_openStates 56 t_openStates, aI cA q_t_openCount 14 t_openCount, aI cA q_t_picks 14 t_picks, aI cA q_t_strides 56 t_strides, aI cA q_t_sums 3584 t_sums, aI cA q_t_counts 3584 t_counts] [(0, .ref q_t), (1, .int a1), (2, .int x2), (3, .int x3)] [] := by
  intro n
  induction n with
  | zero => intro x2 x3 t_sum t_many t_changed t_pickedSum t_before t_open t_openStates t_openCount t_picks t_strides t_sums t_counts hf; exact no_some hf
  | succ n ih =>
    intro x2 x3 t_sum t_many t_changed t_pickedSum t_before t_open t_openStates t_openCount t_picks t_strides t_sums t_counts hf
    rw [L_X7_settle_9] at hf
    refine g_iload_n C 9 3 dX7_settle_9 rfl rfl ?_
    refine g_aload_n C 10 0 dX7_settle_10 rfl rfl ?_
    refine g_get C 11 0 4 dX7_settle_11 inX7 rfl rfl (by decide) kw_145 rfl ?_
    refine g_get C 14 6 0 dX7_settle_14 inX3 rfl rfl (by decide) kw_151 rfl ?_
    refine g_icmp_ge C 17 117 dX7_settle_17 (by decide) hf (fun hf => ?_) (fun hf => ?_)
    · refine g_iconst C 117 (-1 : Int32) dX7_settle_117 (by decide) ?_
      cases hf
      exact g_iret C 118 dX7_settle_118 F ⟨rfl, rfl⟩
    · refine g_iload_n C 20 2 dX7_settle_20 rfl rfl ?_
      refine g_iload_n C 21 3 dX7_settle_21 rfl rfl ?_
      obtain ⟨u4, hu4, hf⟩ := cal_some hf
      refine g_callSN C 22 [] (rest := []) dX7_settle_22 (c_X8_hasBit (x_l X) cA x2 x3 u4 hu4) (List.mem_of_getElem? (i := 14) rfl) kw_5 kw_6 kw_7 ok_X8_hasBit ⟨Nat.le_of_ble_eq_true rfl, Nat.le_of_ble_eq_true rfl⟩ ⟨Nat.zero_le _, Nat.zero_le _⟩ ⟨rfl, rfl⟩ rfl rfl rfl (Nat.le_of_ble_eq_true rfl) rfl (ws' := [oB q_t 7 [.ref q_t_open, .int t_sum, .int t_many, .ref q_t_net, .ref q_t_law, .ref q_t_plan, .ref q_t_openStates, .ref q_t_openCount, .ref q_t_picks, .ref q_t_strides, .ref q_t_sums, .ref q_t_counts, .int t_sign, .int t_changed, .int t_pickedSum, .int t_aim, .long t_before], aI cA q_t_open 14 t_open, oB q_t_net 4 [.ref q_t_net_loads, .ref q_t_net_near, .ref q_t_net_ties, .int t_net_size, .int t_net_edges], aI cA q_t_net_loads 14 t_net_loads, aI cA q_t_net_near 14 t_net_near, aI cA q_t_net_ties 196 t_net_ties, oB q_t_law 3 [.int t_law_size, .ref q_t_law_factors, .ref q_t_law_pairFactors, .ref q_t_law_barred, .ref q_t_law_forbidden], aI cA q_t_law_factors 4 t_law_factors, aI cA q_t_law_pairFactors 16 t_law_pairFactors, aZ cA q_t_law_barred 16 t_law_barred, oB q_t_plan 5 [.ref q_t_plan_knots, .ref q_t_plan_others, .ref q_t_plan_otherCount, .ref q_t_plan_scopes, .ref q_t_plan_users, .ref q_t_plan_feeders, .ref q_t_plan_feederCount, .int t_plan_size, .ref q_t_plan_places, .ref q_t_plan_bagMates, .ref q_t_plan_going], aI cA q_t_plan_knots 14 t_plan_knots, aI cA q_t_plan_others 56 t_plan_others, aI cA q_t_plan_otherCount 14 t_plan_otherCount, aI cA q_t_plan_scopes 14 t_plan_scopes, aI cA q_t_plan_users 14 t_plan_users, aI cA q_t_plan_feeders 196 t_plan_feeders, aI cA q_t_plan_feederCount 14 t_plan_feederCount, aI cA q_t_openStates 56 t_openStates, aI cA q_t_openCount 14 t_openCount, aI cA q_t_picks 14 t_picks, aI cA q_t_strides 56 t_strides, aI cA q_t_sums 3584 t_sums, aI cA q_t_counts 3584 t_counts]) (st' := [.int u4]) (N0 := 24) rfl [none, none, none, none, none, none, none, none, none, none, none, none, none, none, none, none, none, none, none, none, none, none, none, none] (by decide) rfl rfl ?_
      refine g_if_ne C 25 31 dX7_settle_25 (by decide) hf (fun hf => ?_) (fun hf => ?_)
      · refine g_aload_n C 31 0 dX7_settle_31 rfl rfl ?_
        refine g_get C 32 0 0 dX7_settle_32 inX7 rfl rfl (by decide) kw_144 rfl ?_
        refine g_iload_n C 35 1 dX7_settle_35 rfl rfl ?_
        refine g_iconst C 36 (1 : Int32) dX7_settle_36 (by decide) ?_
        refine g_iload_n C 37 3 dX7_settle_37 rfl rfl ?_
        refine g_ishl C 38 dX7_settle_38 ?_
        refine g_iast C 39 1 (fun z => [oB q_t 7 [.ref q_t_open, .int t_sum, .int t_many, .ref q_t_net, .ref q_t_law, .ref q_t_plan, .ref q_t_openStates, .ref q_t_openCount, .ref q_t_picks, .ref q_t_strides, .ref q_t_sums, .ref q_t_counts, .int t_sign, .int t_changed, .int t_pickedSum, .int t_aim, .long t_before], aI cA q_t_open 14 z, oB q_t_net 4 [.ref q_t_net_loads, .ref q_t_net_near, .ref q_t_net_ties, .int t_net_size, .int t_net_edges], aI cA q_t_net_loads 14 t_net_loads, aI cA q_t_net_near 14 t_net_near, aI cA q_t_net_ties 196 t_net_ties, oB q_t_law 3 [.int t_law_size, .ref q_t_law_factors, .ref q_t_law_pairFactors, .ref q_t_law_barred, .ref q_t_law_forbidden], aI cA q_t_law_factors 4 t_law_factors, aI cA q_t_law_pairFactors 16 t_law_pairFactors, aZ cA q_t_law_barred 16 t_law_barred, oB q_t_plan 5 [.ref q_t_plan_knots, .ref q_t_plan_others, .ref q_t_plan_otherCount, .ref q_t_plan_scopes, .ref q_t_plan_users, .ref q_t_plan_feeders, .ref q_t_plan_feederCount, .int t_plan_size, .ref q_t_plan_places, .ref q_t_plan_bagMates, .ref q_t_plan_going], aI cA q_t_plan_knots 14 t_plan_knots, aI cA q_t_plan_others 56 t_plan_others, aI cA q_t_plan_otherCount 14 t_plan_otherCount, aI cA q_t_plan_scopes 14 t_plan_scopes, aI cA q_t_plan_users 14 t_plan_users, aI cA q_t_plan_feeders 196 t_plan_feeders, aI cA q_t_plan_feederCount 14 t_plan_feederCount, aI cA q_t_openStates 56 t_openStates, aI cA q_t_openCount 14 t_openCount, aI cA q_t_picks 14 t_picks, aI cA q_t_strides 56 t_strides, aI cA q_t_sums 3584 t_sums, aI cA q_t_counts 3584 t_counts]) dX7_settle_39 rfl (fun _ => rfl) hf (fun t_open_5 hf => ?_)
        refine g_aload_n C 40 0 dX7_settle_40 rfl rfl ?_
        refine g_dup C 41 dX7_settle_41 rfl ?_
        refine g_get C 42 0 13 dX7_settle_42 inX7 rfl rfl (by decide) kw_200 rfl ?_
        refine g_iconst C 45 (1 : Int32) dX7_settle_45 (by decide) ?_
        refine g_iload_n C 46 1 dX7_settle_46 rfl rfl ?_
        refine g_ishl C 47 dX7_settle_47 ?_
        refine g_ior C 48 dX7_settle_48 ?_
        refine g_puti C 49 0 13 tyX7 (fun z => [oB q_t 7 [.ref q_t_open, .int t_sum, .int t_many, .ref q_t_net, .ref q_t_law, .ref q_t_plan, .ref q_t_openStates, .ref q_t_openCount, .ref q_t_picks, .ref q_t_strides, .ref q_t_sums, .ref q_t_counts, .int t_sign, .int z, .int t_pickedSum, .int t_aim, .long t_before], aI cA q_t_open 14 t_open_5, oB q_t_net 4 [.ref q_t_net_loads, .ref q_t_net_near, .ref q_t_net_ties, .int t_net_size, .int t_net_edges], aI cA q_t_net_loads 14 t_net_loads, aI cA q_t_net_near 14 t_net_near, aI cA q_t_net_ties 196 t_net_ties, oB q_t_law 3 [.int t_law_size, .ref q_t_law_factors, .ref q_t_law_pairFactors, .ref q_t_law_barred, .ref q_t_law_forbidden], aI cA q_t_law_factors 4 t_law_factors, aI cA q_t_law_pairFactors 16 t_law_pairFactors, aZ cA q_t_law_barred 16 t_law_barred, oB q_t_plan 5 [.ref q_t_plan_knots, .ref q_t_plan_others, .ref q_t_plan_otherCount, .ref q_t_plan_scopes, .ref q_t_plan_users, .ref q_t_plan_feeders, .ref q_t_plan_feederCount, .int t_plan_size, .ref q_t_plan_places, .ref q_t_plan_bagMates, .ref q_t_plan_going], aI cA q_t_plan_knots 14 t_plan_knots, aI cA q_t_plan_others 56 t_plan_others, aI cA q_t_plan_otherCount 14 t_plan_otherCount, aI cA q_t_plan_scopes 14 t_plan_scopes, aI cA q_t_plan_users 14 t_plan_users, aI cA q_t_plan_feeders 196 t_plan_feeders, aI cA q_t_plan_feederCount 14 t_plan_feederCount, aI cA q_t_openStates 56 t_openStates, aI cA q_t_openCount 14 t_openCount, aI cA q_t_picks 14 t_picks, aI cA q_t_strides 56 t_strides, aI cA q_t_sums 3584 t_sums, aI cA q_t_counts 3584 t_counts]) dX7_settle_49 inX7 tyX7_ok nmX7 rfl rfl (by decide) kw_200 rfl rfl (Nat.le_of_ble_eq_true rfl) (fun _ => rfl) hf (fun t_changed_6 hf => ?_)
        refine g_iload_n C 52 2 dX7_settle_52 rfl rfl ?_
        refine g_iload_n C 53 3 dX7_settle_53 rfl rfl ?_
        refine g_ishr C 54 dX7_settle_54 ?_
        refine g_iconst C 55 (1 : Int32) dX7_settle_55 (by decide) ?_
        refine g_icmp_ne C 56 61 dX7_settle_56 (by decide) hf (fun hf => ?_) (fun hf => ?_)
        · refine g_aload_n C 61 0 dX7_settle_61 rfl rfl ?_
          obtain ⟨u7, hu7, hf⟩ := cal_some hf
          refine g_callV1 C 62 [0, 1, 2, 3, 4, 5, 6, 7, 8, 9, 10, 11, 12, 13, 14, 15, 16, 17, 18, 19, 20, 21, 22, 23] 0 (rest := []) dX7_settle_62 (c_X7_sweepAgain (x_l X) cA q_t t_sum t_many t_sign t_changed_6 t_pickedSum t_aim t_before q_t_open t_open_5 q_t_net t_net_size t_net_edges q_t_net_loads t_net_loads q_t_net_near t_net_near q_t_net_ties t_net_ties q_t_law t_law_size q_t_law_forbidden q_t_law_factors t_law_factors q_t_law_pairFactors t_law_pairFactors q_t_law_barred t_law_barred q_t_plan t_plan_size q_t_plan_places q_t_plan_bagMates q_t_plan_going q_t_plan_knots t_plan_knots q_t_plan_others t_plan_others q_t_plan_otherCount t_plan_otherCount q_t_plan_scopes t_plan_scopes q_t_plan_users t_plan_users q_t_plan_feeders t_plan_feeders q_t_plan_feederCount t_plan_feederCount q_t_openStates t_openStates q_t_openCount t_openCount q_t_picks t_picks q_t_strides t_strides q_t_sums t_sums q_t_counts t_counts u7 hu7) kw_212 kw_213 kw_214 kw_158 kw_215 ok_X7_sweepAgain ⟨Nat.le_of_ble_eq_true rfl, Nat.le_of_ble_eq_true rfl⟩ ⟨Nat.zero_le _, Nat.zero_le _⟩ ⟨rfl, rfl⟩ rfl rfl rfl rfl rfl (Nat.le_of_ble_eq_true rfl) rfl (ws' := [oB q_t 7 [.ref q_t_open, .int u7.1, .int u7.2.1, .ref q_t_net, .ref q_t_law, .ref q_t_plan, .ref q_t_openStates, .ref q_t_openCount, .ref q_t_picks, .ref q_t_strides, .ref q_t_sums, .ref q_t_counts, .int t_sign, .int u7.2.2.1, .int u7.2.2.2.1, .int t_aim, .long t_before], aI cA q_t_open 14 t_open_5, oB q_t_net 4 [.ref q_t_net_loads, .ref q_t_net_near, .ref q_t_net_ties, .int t_net_size, .int t_net_edges], aI cA q_t_net_loads 14 t_net_loads, aI cA q_t_net_near 14 t_net_near, aI cA q_t_net_ties 196 t_net_ties, oB q_t_law 3 [.int t_law_size, .ref q_t_law_factors, .ref q_t_law_pairFactors, .ref q_t_law_barred, .ref q_t_law_forbidden], aI cA q_t_law_factors 4 t_law_factors, aI cA q_t_law_pairFactors 16 t_law_pairFactors, aZ cA q_t_law_barred 16 t_law_barred, oB q_t_plan 5 [.ref q_t_plan_knots, .ref q_t_plan_others, .ref q_t_plan_otherCount, .ref q_t_plan_scopes, .ref q_t_plan_users, .ref q_t_plan_feeders, .ref q_t_plan_feederCount, .int t_plan_size, .ref q_t_plan_places, .ref q_t_plan_bagMates, .ref q_t_plan_going], aI cA q_t_plan_knots 14 t_plan_knots, aI cA q_t_plan_others 56 t_plan_others, aI cA q_t_plan_otherCount 14 t_plan_otherCount, aI cA q_t_plan_scopes 14 t_plan_scopes, aI cA q_t_plan_users 14 t_plan_users, aI cA q_t_plan_feeders 196 t_plan_feeders, aI cA q_t_plan_feederCount 14 t_plan_feederCount, aI cA q_t_openStates 56 u7.2.2.2.2.1, aI cA q_t_openCount 14 u7.2.2.2.2.2.1, aI cA q_t_picks 14 u7.2.2.2.2.2.2.1, aI cA q_t_strides 56 u7.2.2.2.2.2.2.2.1, aI cA q_t_sums 3584 u7.2.2.2.2.2.2.2.2.1, aI cA q_t_counts 3584 u7.2.2.2.2.2.2.2.2.2]) (st' := []) (N0 := 24) rfl [some 0, some 1, some 2, some 3, some 4, some 5, some 6, some 7, some 8, some 9, some 10, some 11, some 12, some 13, some 14, some 15, some 16, some 17, some 18, some 19, some 20, some 21, some 22, some 23] (by decide) rfl rfl ?_
          refine g_aload_n C 65 0 dX7_settle_65 rfl rfl ?_
          refine g_get C 66 0 1 dX7_settle_66 inX7 rfl rfl (by decide) kw_197 rfl ?_
          refine g_aload_n C 69 0 dX7_settle_69 rfl rfl ?_
          refine g_get C 70 0 15 dX7_settle_70 inX7 rfl rfl (by decide) kw_216 rfl ?_
          refine g_icmp_ne C 73 83 dX7_settle_73 (by decide) hf (fun hf => ?_) (fun hf => ?_)
          · refine g_iconst C 83 (0 : Int32) dX7_settle_83 (by decide) ?_
            exact w_X7_settle_84 cA q_t q_t_open q_t_net t_net_edges q_t_net_loads q_t_net_near q_t_net_ties q_t_law q_t_law_forbidden q_t_law_factors q_t_law_pairFactors q_t_law_barred q_t_plan q_t_plan_places q_t_plan_bagMates q_t_plan_going q_t_plan_knots q_t_plan_others q_t_plan_otherCount q_t_plan_scopes q_t_plan_users q_t_plan_feeders q_t_plan_feederCount q_t_openStates q_t_openCount q_t_picks q_t_strides q_t_sums q_t_counts a1 t_sign t_aim t_net_size t_net_loads t_net_near t_net_ties t_law_size t_law_factors t_law_pairFactors t_law_barred t_plan_size t_plan_knots t_plan_others t_plan_otherCount t_plan_scopes t_plan_users t_plan_feeders t_plan_feederCount C r F (fun y0 y1 y2 y3 y4 y5 y6 y7 y8 y9 y10 y11 y12 y13 => L_X7_settle_9 a1 t_sign t_aim t_net_size t_net_loads t_net_near t_net_ties t_law_size t_law_factors t_law_pairFactors t_law_barred t_plan_size t_plan_knots t_plan_others t_plan_otherCount t_plan_scopes t_plan_users t_plan_feeders t_plan_feederCount n y0 y1 y2 y3 y4 y5 y6 y7 y8 y9 y10 y11 y12 y13) (fun y0 y1 y2 y3 y4 y5 y6 y7 y8 y9 y10 y11 y12 y13 hf => ih y0 y1 y2 y3 y4 y5 y6 y7 y8 y9 y10 y11 y12 y13 hf) x2 x3 (0 : Int32) u7.1 u7.2.1 u7.2.2.1 u7.2.2.2.1 t_before t_open_5 u7.2.2.2.2.1 u7.2.2.2.2.2.1 u7.2.2.2.2.2.2.1 u7.2.2.2.2.2.2.2.1 u7.2.2.2.2.2.2.2.2.1 u7.2.2.2.2.2.2.2.2.2 hf
          · refine g_aload_n C 76 0 dX7_settle_76 rfl rfl ?_
            refine g_get C 77 0 2 dX7_settle_77 inX7 rfl rfl (by decide) kw_198 rfl ?_
            refine g_goto C 80 84 dX7_settle_80 (by decide) ?_
            exact w_X7_settle_84 cA q_t q_t_open q_t_net t_net_edges q_t_net_loads q_t_net_near q_t_net_ties q_t_law q_t_law_forbidden q_t_law_factors q_t_law_pairFactors q_t_law_barred q_t_plan q_t_plan_places q_t_plan_bagMates q_t_plan_going q_t_plan_knots q_t_plan_others q_t_plan_otherCount q_t_plan_scopes q_t_plan_users q_t_plan_feeders q_t_plan_feederCount q_t_openStates q_t_openCount q_t_picks q_t_strides q_t_sums q_t_counts a1 t_sign t_aim t_net_size t_net_loads t_net_near t_net_ties t_law_size t_law_factors t_law_pairFactors t_law_barred t_plan_size t_plan_knots t_plan_others t_plan_otherCount t_plan_scopes t_plan_users t_plan_feeders t_plan_feederCount C r F (fun y0 y1 y2 y3 y4 y5 y6 y7 y8 y9 y10 y11 y12 y13 => L_X7_settle_9 a1 t_sign t_aim t_net_size t_net_loads t_net_near t_net_ties t_law_size t_law_factors t_law_pairFactors t_law_barred t_plan_size t_plan_knots t_plan_others t_plan_otherCount t_plan_scopes t_plan_users t_plan_feeders t_plan_feederCount n y0 y1 y2 y3 y4 y5 y6 y7 y8 y9 y10 y11 y12 y13) (fun y0 y1 y2 y3 y4 y5 y6 y7 y8 y9 y10 y11 y12 y13 hf => ih y0 y1 y2 y3 y4 y5 y6 y7 y8 y9 y10 y11 y12 y13 hf) x2 x3 u7.2.1 u7.1 u7.2.1 u7.2.2.1 u7.2.2.2.1 t_before t_open_5 u7.2.2.2.2.1 u7.2.2.2.2.2.1 u7.2.2.2.2.2.2.1 u7.2.2.2.2.2.2.2.1 u7.2.2.2.2.2.2.2.2.1 u7.2.2.2.2.2.2.2.2.2 hf
        · refine g_iload_n C 59 3 dX7_settle_59 rfl rfl ?_
          cases hf
          exact g_iret C 60 dX7_settle_60 F ⟨rfl, rfl⟩
      · refine g_goto C 28 111 dX7_settle_28 (by decide) ?_
        refine g_iinc C 111 3 (v := x3 + (1 : Int32)) (fun z => [(3, .int z), (0, .ref q_t), (1, .int a1), (2, .int x2)]) dX7_settle_111 rfl rfl (by decide) (fun _ => rfl) hf (fun x3_11 hf => ?_)
        refine g_goto C 114 9 dX7_settle_114 (by decide) ?_
        refine g_lv [1, 2, 3, 0] rfl ?_
        exact ih x2 x3_11 t_sum t_many t_changed t_pickedSum t_before t_open t_openStates t_openCount t_picks t_strides t_sums t_counts hf
def f_X7_settle (a1 : Int32) (t_sum : Int32) (t_many : Int32) (t_sign : Int32) (t_changed : Int32) (t_pickedSum : Int32) (t_aim : Int32) (t_before : Int64) (t_open : Nat → Int32) (t_net_size : Int32) (t_net_loads : Nat → Int32) (t_net_near : Nat → Int32) (t_net_ties : Nat → Int32) (t_law_size : Int32) (t_law_factors : Nat → Int32) (t_law_pairFactors : Nat → Int32) (t_law_barred : Nat → Int32) (t_plan_size : Int32) (t_plan_knots : Nat → Int32) (t_plan_others : Nat → Int32) (t_plan_otherCount : Nat → Int32) (t_plan_scopes : Nat → Int32) (t_plan_users : Nat → Int32) (t_plan_feeders : Nat → Int32) (t_plan_feederCount : Nat → Int32) (t_openStates : Nat → Int32) (t_openCount : Nat → Int32) (t_picks : Nat → Int32) (t_strides : Nat → Int32) (t_sums : Nat → Int32) (t_counts : Nat → Int32) : Option (Int32 × Int32 × Int32 × Int32 × Int32 × Int64 × (Nat → Int32) × (Nat → Int32) × (Nat → Int32) × (Nat → Int32) × (Nat → Int32) × (Nat → Int32) × (Nat → Int32)) :=
  ldA t_open 14 a1 fun v1 =>
  bnd v1 fun x2_2 =>
  bnd (0 : Int32) fun x3_3 =>
  L_X7_settle_9 a1 t_sign t_aim t_net_size t_net_loads t_net_near t_net_ties t_law_size t_law_factors t_law_pairFactors t_law_barred t_plan_size t_plan_knots t_plan_others t_plan_otherCount t_plan_scopes t_plan_users t_plan_feeders t_plan_feederCount NN x2_2 x3_3 t_sum t_many t_changed t_pickedSum t_before t_open t_openStates t_openCount t_picks t_strides t_sums t_counts

set_option maxRecDepth 100000 in
set_option maxHeartbeats 1000000 in
theorem c_X7_settle (l : Launch) (cA : Nat → ClassId) (q_t : Nat) (t_sum : Int32) (t_many : Int32) (t_sign : Int32) (t_changed : Int32) (t_pickedSum : Int32) (t_aim : Int32) (t_before : Int64) (q_t_open : Nat) (t_open : Nat → Int32) (q_t_net : Nat) (t_net_size : Int32) (t_net_edges : Int32) (q_t_net_loads : Nat) (t_net_loads : Nat → Int32) (q_t_net_near : Nat) (t_net_near : Nat → Int32) (q_t_net_ties : Nat) (t_net_ties : Nat → Int32) (q_t_law : Nat) (t_law_size : Int32) (q_t_law_forbidden : Nat) (q_t_law_factors : Nat) (t_law_factors : Nat → Int32) (q_t_law_pairFactors : Nat) (t_law_pairFactors : Nat → Int32) (q_t_law_barred : Nat) (t_law_barred : Nat → Int32) (q_t_plan : Nat) (t_plan_size : Int32) (q_t_plan_places : Nat) (q_t_plan_bagMates : Nat) (q_t_plan_going : Nat) (q_t_plan_knots : Nat) (t_plan_knots : Nat → Int32) (q_t_plan_others : Nat) (t_plan_others : Nat → Int32) (q_t_plan_otherCount : Nat) (t_plan_otherCount : Nat → Int32) (q_t_plan_scopes : Nat) (t_plan_scopes : Nat → Int32) (q_t_plan_users : Nat) (t_plan_users : Nat → Int32) (q_t_plan_feeders : Nat) (t_plan_feeders : Nat → Int32) (q_t_plan_feederCount : Nat) (t_plan_feederCount : Nat → Int32) (q_t_openStates : Nat) (t_openStates : Nat → Int32) (q_t_openCount : Nat) (t_openCount : Nat → Int32) (q_t_picks : Nat) (t_picks : Nat → Int32) (q_t_strides : Nat) (t_strides : Nat → Int32) (q_t_sums : Nat) (t_sums : Nat → Int32) (q_t_counts : Nat) (t_counts : Nat → Int32) (a1 : Int32) (r : Int32 × Int32 × Int32 × Int32 × Int32 × Int64 × (Nat → Int32) × (Nat → Int32) × (Nat → Int32) × (Nat → Int32) × (Nat → Int32) × (Nat → Int32) × (Nat → Int32)) (hf : f_X7_settle a1 t_sum t_many t_sign t_changed t_pickedSum t_aim t_before t_open t_net_size t_net_loads t_net_near t_net_ties t_law_size t_law_factors t_law_pairFactors t_law_barred t_plan_size t_plan_knots t_plan_others t_plan_otherCount t_plan_scopes t_plan_users t_plan_feeders t_plan_feederCount t_openStates t_openCount t_picks t_strides t_sums t_counts = some r) : MT l cA yX7_settle cX7_settle 5 (some .int) ({ frames := 5, cells := 0, slots := 0, locals := 122 } : Room) [.ref q_t, .int a1] [oB q_t 7 [.ref q_t_open, .int t_sum, .int t_many, .ref q_t_net, .ref q_t_law, .ref q_t_plan, .ref q_t_openStates, .ref q_t_openCount, .ref q_t_picks, .ref q_t_strides, .ref q_t_sums, .ref q_t_counts, .int t_sign, .int t_changed, .int t_pickedSum, .int t_aim, .long t_before], aI cA q_t_open 14 t_open, oB q_t_net 4 [.ref q_t_net_loads, .ref q_t_net_near, .ref q_t_net_ties, .int t_net_size, .int t_net_edges], aI cA q_t_net_loads 14 t_net_loads, aI cA q_t_net_near 14 t_net_near, aI cA q_t_net_ties 196 t_net_ties, oB q_t_law 3 [.int t_law_size, .ref q_t_law_factors, .ref q_t_law_pairFactors, .ref q_t_law_barred, .ref q_t_law_forbidden], aI cA q_t_law_factors 4 t_law_factors, aI cA q_t_law_pairFactors 16 t_law_pairFactors, aZ cA q_t_law_barred 16 t_law_barred, oB q_t_plan 5 [.ref q_t_plan_knots, .ref q_t_plan_others, .ref q_t_plan_otherCount, .ref q_t_plan_scopes, .ref q_t_plan_users, .ref q_t_plan_feeders, .ref q_t_plan_feederCount, .int t_plan_size, .ref q_t_plan_places, .ref q_t_plan_bagMates, .ref q_t_plan_going], aI cA q_t_plan_knots 14 t_plan_knots, aI cA q_t_plan_others 56 t_plan_others, aI cA q_t_plan_otherCount 14 t_plan_otherCount, aI cA q_t_plan_scopes 14 t_plan_scopes, aI cA q_t_plan_users 14 t_plan_users, aI cA q_t_plan_feeders 196 t_plan_feeders, aI cA q_t_plan_feederCount 14 t_plan_feederCount, aI cA q_t_openStates 56 t_openStates, aI cA q_t_openCount 14 t_openCount, aI cA q_t_picks 14 t_picks, aI cA q_t_strides 56 t_strides, aI cA q_t_sums 3584 t_sums, aI cA q_t_counts 3584 t_counts] (sB (some (.int r.1)) [oB q_t 7 [.ref q_t_open, .int r.2.1, .int r.2.2.1, .ref q_t_net, .ref q_t_law, .ref q_t_plan, .ref q_t_openStates, .ref q_t_openCount, .ref q_t_picks, .ref q_t_strides, .ref q_t_sums, .ref q_t_counts, .int t_sign, .int r.2.2.2.1, .int r.2.2.2.2.1, .int t_aim, .long r.2.2.2.2.2.1], aI cA q_t_open 14 r.2.2.2.2.2.2.1, oB q_t_net 4 [.ref q_t_net_loads, .ref q_t_net_near, .ref q_t_net_ties, .int t_net_size, .int t_net_edges], aI cA q_t_net_loads 14 t_net_loads, aI cA q_t_net_near 14 t_net_near, aI cA q_t_net_ties 196 t_net_ties, oB q_t_law 3 [.int t_law_size, .ref q_t_law_factors, .ref q_t_law_pairFactors, .ref q_t_law_barred, .ref q_t_law_forbidden], aI cA q_t_law_factors 4 t_law_factors, aI cA q_t_law_pairFactors 16 t_law_pairFactors, aZ cA q_t_law_barred 16 t_law_barred, oB q_t_plan 5 [.ref q_t_plan_knots, .ref q_t_plan_others, .ref q_t_plan_otherCount, .ref q_t_plan_scopes, .ref q_t_plan_users, .ref q_t_plan_feeders, .ref q_t_plan_feederCount, .int t_plan_size, .ref q_t_plan_places, .ref q_t_plan_bagMates, .ref q_t_plan_going], aI cA q_t_plan_knots 14 t_plan_knots, aI cA q_t_plan_others 56 t_plan_others, aI cA q_t_plan_otherCount 14 t_plan_otherCount, aI cA q_t_plan_scopes 14 t_plan_scopes, aI cA q_t_plan_users 14 t_plan_users, aI cA q_t_plan_feeders 196 t_plan_feeders, aI cA q_t_plan_feederCount 14 t_plan_feederCount, aI cA q_t_openStates 56 r.2.2.2.2.2.2.2.1, aI cA q_t_openCount 14 r.2.2.2.2.2.2.2.2.1, aI cA q_t_picks 14 r.2.2.2.2.2.2.2.2.2.1, aI cA q_t_strides 56 r.2.2.2.2.2.2.2.2.2.2.1, aI cA q_t_sums 3584 r.2.2.2.2.2.2.2.2.2.2.2.1, aI cA q_t_counts 3584 r.2.2.2.2.2.2.2.2.2.2.2.2]) := by
  refine MT.of (by decide) (Nat.le_of_ble_eq_true rfl) ?_
  intro X hXl C F hnm hrc hrs
  subst hXl
  unfold f_X7_settle at hf
  have C : Cx X cX7_settle RX7 (some .int) cA 5 122 5 := C
  show Go X 5 0 0 0 [oB q_t 7 [.ref q_t_open, .int t_sum, .int t_many, .ref q_t_net, .ref q_t_law, .ref q_t_plan, .ref q_t_openStates, .ref q_t_openCount, .ref q_t_picks, .ref q_t_strides, .ref q_t_sums, .ref q_t_counts, .int t_sign, .int t_changed, .int t_pickedSum, .int t_aim, .long t_before], aI cA q_t_open 14 t_open, oB q_t_net 4 [.ref q_t_net_loads, .ref q_t_net_near, .ref q_t_net_ties, .int t_net_size, .int t_net_edges], aI cA q_t_net_loads 14 t_net_loads, aI cA q_t_net_near 14 t_net_near, aI cA q_t_net_ties 196 t_net_ties, oB q_t_law 3 [.int t_law_size, .ref q_t_law_factors, .ref q_t_law_pairFactors, .ref q_t_law_barred, .ref q_t_law_forbidden], aI cA q_t_law_factors 4 t_law_factors, aI cA q_t_law_pairFactors 16 t_law_pairFactors, aZ cA q_t_law_barred 16 t_law_barred, oB q_t_plan 5 [.ref q_t_plan_knots, .ref q_t_plan_others, .ref q_t_plan_otherCount, .ref q_t_plan_scopes, .ref q_t_plan_users, .ref q_t_plan_feeders, .ref q_t_plan_feederCount, .int t_plan_size, .ref q_t_plan_places, .ref q_t_plan_bagMates, .ref q_t_plan_going], aI cA q_t_plan_knots 14 t_plan_knots, aI cA q_t_plan_others 56 t_plan_others, aI cA q_t_plan_otherCount 14 t_plan_otherCount, aI cA q_t_plan_scopes 14 t_plan_scopes, aI cA q_t_plan_users 14 t_plan_users, aI cA q_t_plan_feeders 196 t_plan_feeders, aI cA q_t_plan_feederCount 14 t_plan_feederCount, aI cA q_t_openStates 56 t_openStates, aI cA q_t_openCount 14 t_openCount, aI cA q_t_picks 14 t_picks, aI cA q_t_strides 56 t_strides, aI cA q_t_sums 3584 t_sums, aI cA q_t_counts 3584 t_counts] [(0, .ref q_t), (1, .int a1)] []
  refine g_aload_n C 0 0 dX7_settle_0 rfl rfl ?_
  refine g_get C 1 0 0 dX7_settle_1 inX7 rfl rfl (by decide) kw_144 rfl ?_
  refine g_iload_n C 4 1 dX7_settle_4 rfl rfl ?_
  refine g_iald C 5 1 dX7_settle_5 rfl hf (fun v1 hf => ?_)
  refine g_istore_n C 6 (fun z => [(2, .int z), (0, .ref q_t), (1, .int a1)]) dX7_settle_6 rfl (by decide) (fun _ => rfl) hf (fun x2_2 hf => ?_)
  refine g_iconst C 7 (0 : Int32) dX7_settle_7 (by decide) ?_
  refine g_istore_n C 8 (fun z => [(3, .int z), (2, .int x2_2), (0, .ref q_t), (1, .int a1)]) dX7_settle_8 rfl (by decide) (fun _ => rfl) hf (fun x3_3 hf => ?_)
  refine g_lv [2, 3, 1, 0] rfl ?_
  exact w_X7_settle_9 cA q_t q_t_open q_t_net t_net_edges q_t_net_loads q_t_net_near q_t_net_ties q_t_law q_t_law_forbidden q_t_law_factors q_t_law_pairFactors q_t_law_barred q_t_plan q_t_plan_places q_t_plan_bagMates q_t_plan_going q_t_plan_knots q_t_plan_others q_t_plan_otherCount q_t_plan_scopes q_t_plan_users q_t_plan_feeders q_t_plan_feederCount q_t_openStates q_t_openCount q_t_picks q_t_strides q_t_sums q_t_counts a1 t_sign t_aim t_net_size t_net_loads t_net_near t_net_ties t_law_size t_law_factors t_law_pairFactors t_law_barred t_plan_size t_plan_knots t_plan_others t_plan_otherCount t_plan_scopes t_plan_users t_plan_feeders t_plan_feederCount C r F NN x2_2 x3_3 t_sum t_many t_changed t_pickedSum t_before t_open t_openStates t_openCount t_picks t_strides t_sums t_counts hf

def L_X7_stateInWay_42 (a1 : Int32) (a2 : Int64) (a4 : Int32) (t_net_size : Int32) (t_net_loads : Nat → Int32) (t_net_near : Nat → Int32) (t_net_ties : Nat → Int32) (t_law_size : Int32) (t_law_factors : Nat → Int32) (t_law_pairFactors : Nat → Int32) (t_law_barred : Nat → Int32) (t_plan_size : Int32) (t_plan_knots : Nat → Int32) (t_plan_others : Nat → Int32) (t_plan_otherCount : Nat → Int32) (t_plan_scopes : Nat → Int32) (t_plan_users : Nat → Int32) (t_plan_feeders : Nat → Int32) (t_plan_feederCount : Nat → Int32)  : Nat → Int32 → Int32 → Int32 → Int32 → Int32 → Int32 → Int32 → Int32 → Int64 → (Nat → Int32) → (Nat → Int32) → (Nat → Int32) → (Nat → Int32) → (Nat → Int32) → (Nat → Int32) → (Nat → Int32) → Option (Int32 × Int32 × Int32 × Int32 × Int32 × Int32 × Int32 × Int64 × (Nat → Int32) × (Nat → Int32) × (Nat → Int32) × (Nat → Int32) × (Nat → Int32) × (Nat → Int32) × (Nat → Int32))
  | 0, _, _, _, _, _, _, _, _, _, _, _, _, _, _, _, _ => none
  | n + 1, x5, x6, t_sum, t_many, t_sign, t_changed, t_pickedSum, t_aim, t_before, t_open, t_openStates, t_openCount, t_picks, t_strides, t_sums, t_counts =>
    if a4 < x6 then
      some (x5, t_sum, t_many, t_sign, t_changed, t_pickedSum, t_aim, t_before, t_open, t_openStates, t_openCount, t_picks, t_strides, t_sums, t_counts)
    else
      cal (f_X7_settle x6 t_sum t_many t_sign t_changed t_pickedSum t_aim t_before t_open t_net_size t_net_loads t_net_near t_net_ties t_law_size t_law_factors t_law_pairFactors t_law_barred t_plan_size t_plan_knots t_plan_others t_plan_otherCount t_plan_scopes t_plan_users t_plan_feeders t_plan_feederCount t_openStates t_openCount t_picks t_strides t_sums t_counts) fun u6 =>
      bnd u6.1 fun x5_7 =>
      bnd (x6 + (1 : Int32)) fun x6_8 =>
      L_X7_stateInWay_42 a1 a2 a4 t_net_size t_net_loads t_net_near t_net_ties t_law_size t_law_factors t_law_pairFactors t_law_barred t_plan_size t_plan_knots t_plan_others t_plan_otherCount t_plan_scopes t_plan_users t_plan_feeders t_plan_feederCount n x5_7 x6_8 u6.2.1 u6.2.2.1 t_sign u6.2.2.2.1 u6.2.2.2.2.1 t_aim u6.2.2.2.2.2.1 u6.2.2.2.2.2.2.1 u6.2.2.2.2.2.2.2.1 u6.2.2.2.2.2.2.2.2.1 u6.2.2.2.2.2.2.2.2.2.1 u6.2.2.2.2.2.2.2.2.2.2.1 u6.2.2.2.2.2.2.2.2.2.2.2.1 u6.2.2.2.2.2.2.2.2.2.2.2.2

set_option maxRecDepth 100000 in
set_option maxHeartbeats 1000000 in
theorem w_X7_stateInWay_42 (cA : Nat → ClassId) (q_t : Nat) (q_t_open : Nat) (q_t_net : Nat) (t_net_edges : Int32) (q_t_net_loads : Nat) (q_t_net_near : Nat) (q_t_net_ties : Nat) (q_t_law : Nat) (q_t_law_forbidden : Nat) (q_t_law_factors : Nat) (q_t_law_pairFactors : Nat) (q_t_law_barred : Nat) (q_t_plan : Nat) (q_t_plan_places : Nat) (q_t_plan_bagMates : Nat) (q_t_plan_going : Nat) (q_t_plan_knots : Nat) (q_t_plan_others : Nat) (q_t_plan_otherCount : Nat) (q_t_plan_scopes : Nat) (q_t_plan_users : Nat) (q_t_plan_feeders : Nat) (q_t_plan_feederCount : Nat) (q_t_openStates : Nat) (q_t_openCount : Nat) (q_t_picks : Nat) (q_t_strides : Nat) (q_t_sums : Nat) (q_t_counts : Nat) (a1 : Int32) (a2 : Int64) (a4 : Int32) (t_net_size : Int32) (t_net_loads : Nat → Int32) (t_net_near : Nat → Int32) (t_net_ties : Nat → Int32) (t_law_size : Int32) (t_law_factors : Nat → Int32) (t_law_pairFactors : Nat → Int32) (t_law_barred : Nat → Int32) (t_plan_size : Int32) (t_plan_knots : Nat → Int32) (t_plan_others : Nat → Int32) (t_plan_otherCount : Nat → Int32) (t_plan_scopes : Nat → Int32) (t_plan_users : Nat → Int32) (t_plan_feeders : Nat → Int32) (t_plan_feederCount : Nat → Int32) {X : XT} (C : Cx X cX7_stateInWay RX7 (some .int) cA 6 146 7) (r : Int32 × Int32 × Int32 × Int32 × Int32 × Int32 × Int32 × Int64 × (Nat → Int32) × (Nat → Int32) × (Nat → Int32) × (Nat → Int32) × (Nat → Int32) × (Nat → Int32) × (Nat → Int32)) (F : Fx X (sB (some (.int r.1)) [oB q_t 7 [.ref q_t_open, .int r.2.1, .int r.2.2.1, .ref q_t_net, .ref q_t_law, .ref q_t_plan, .ref q_t_openStates, .ref q_t_openCount, .ref q_t_picks, .ref q_t_strides, .ref q_t_sums, .ref q_t_counts, .int r.2.2.2.1, .int r.2.2.2.2.1, .int r.2.2.2.2.2.1, .int r.2.2.2.2.2.2.1, .long r.2.2.2.2.2.2.2.1], aI cA q_t_open 14 r.2.2.2.2.2.2.2.2.1, oB q_t_net 4 [.ref q_t_net_loads, .ref q_t_net_near, .ref q_t_net_ties, .int t_net_size, .int t_net_edges], aI cA q_t_net_loads 14 t_net_loads, aI cA q_t_net_near 14 t_net_near, aI cA q_t_net_ties 196 t_net_ties, oB q_t_law 3 [.int t_law_size, .ref q_t_law_factors, .ref q_t_law_pairFactors, .ref q_t_law_barred, .ref q_t_law_forbidden], aI cA q_t_law_factors 4 t_law_factors, aI cA q_t_law_pairFactors 16 t_law_pairFactors, aZ cA q_t_law_barred 16 t_law_barred, oB q_t_plan 5 [.ref q_t_plan_knots, .ref q_t_plan_others, .ref q_t_plan_otherCount, .ref q_t_plan_scopes, .ref q_t_plan_users, .ref q_t_plan_feeders, .ref q_t_plan_feederCount, .int t_plan_size, .ref q_t_plan_places, .ref q_t_plan_bagMates, .ref q_t_plan_going], aI cA q_t_plan_knots 14 t_plan_knots, aI cA q_t_plan_others 56 t_plan_others, aI cA q_t_plan_otherCount 14 t_plan_otherCount, aI cA q_t_plan_scopes 14 t_plan_scopes, aI cA q_t_plan_users 14 t_plan_users, aI cA q_t_plan_feeders 196 t_plan_feeders, aI cA q_t_plan_feederCount 14 t_plan_feederCount, aI cA q_t_openStates 56 r.2.2.2.2.2.2.2.2.2.1, aI cA q_t_openCount 14 r.2.2.2.2.2.2.2.2.2.2.1, aI cA q_t_picks 14 r.2.2.2.2.2.2.2.2.2.2.2.1, aI cA q_t_strides 56 r.2.2.2.2.2.2.2.2.2.2.2.2.1, aI cA q_t_sums 3584 r.2.2.2.2.2.2.2.2.2.2.2.2.2.1, aI cA q_t_counts 3584 r.2.2.2.2.2.2.2.2.2.2.2.2.2.2]) 0 0)  : ∀ (n : Nat) (x5 : Int32) (x6 : Int32) (t_sum : Int32) (t_many : Int32) (t_sign : Int32) (t_changed : Int32) (t_pickedSum : Int32) (t_aim : Int32) (t_before : Int64) (t_open : Nat → Int32) (t_openStates : Nat → Int32) (t_openCount : Nat → Int32) (t_picks : Nat → Int32) (t_strides : Nat → Int32) (t_sums : Nat → Int32) (t_counts : Nat → Int32), L_X7_stateInWay_42 a1 a2 a4 t_net_size t_net_loads t_net_near t_net_ties t_law_size t_law_factors t_law_pairFactors t_law_barred t_plan_size t_plan_knots t_plan_others t_plan_otherCount t_plan_scopes t_plan_users t_plan_feeders t_plan_feederCount n x5 x6 t_sum t_many t_sign t_changed t_pickedSum t_aim t_before t_open t_openStates t_openCount t_picks t_strides t_sums t_counts = some r → Go X 7 0 0 42 [oB q_t 7 [.ref q_t_open, .int t_sum, .int t_many, .ref q_t_net, .ref q_t_law, .ref q_t_plan, .ref q_t_openStates, .ref q_t_openCount, .ref q_t_picks, .ref q_t_strides, .ref q_t_sums, .ref q_t_counts, .int t_sign, .int t_changed, .int t_pickedSum, .int t_aim, .long t_before], aI cA q_t_open 14 t_open, oB q_t_net 4 [.ref q_t_net_loads, .ref q_t_net_near, .ref q_t_net_ties, .int t_net_size, .int t_net_edges], aI cA q_t_net_loads 14 t_net_loads, aI cA q_t_net_near 14 t_net_near, aI cA q_t_net_ties 196 t_net_ties, oB q_t_law 3 [.int t_law_size, .ref q_t_law_factors, .ref q_t_law_pairFactors, .ref q_t_law_barred, .ref q_t_law_forbidden], aI cA q_t_law_factors 4 t_law_factors, aI cA q_t_law_pairFactors 16 t_law_pairFactors, aZ cA q_t_law_barred 16 t_law_barred, oB q_t_plan 5 [.ref q_t_plan_knots, .ref q_t_plan_others, .ref q_t_plan_otherCount, .ref q_t_plan_scopes, .ref q_t_plan_users, .ref q_t_plan_feeders, .ref q_t_plan_feederCount, .int t_plan_size, .ref q_t_plan_places, .ref q_t_plan_bagMates, .ref q_t_plan_going], aI cA q_t_plan_knots 14 t_plan_knots, aI cA q_t_plan_others 56 t_plan_others, aI cA q_t_plan_otherCount 14 t_plan_otherCount, aI cA q_t_plan_scopes 14 t_plan_scopes, aI cA q_t_plan_users 14 t_plan_users, aI cA q_t_plan_feeders 196 t_plan_feeders, aI cA q_t_plan_feederCount 14 t_plan_feederCount, aI cA q_t_openStates 56 t_openStates, aI cA q_t_openCount 14 t_openCount, aI cA q_t_picks 14 t_picks, aI cA q_t_strides 56 t_strides, aI cA q_t_sums 3584 t_sums, aI cA q_t_counts 3584 t_counts] [(0, .ref q_t), (4, .int a4), (5, .int x5), (6, .int x6)] [] := by
  intro n
  induction n with
  | zero => intro x5 x6 t_sum t_many t_sign t_changed t_pickedSum t_aim t_before t_open t_openStates t_openCount t_picks t_strides t_sums t_counts hf; exact no_some hf
  | succ n ih =>
    intro x5 x6 t_sum t_many t_sign t_changed t_pickedSum t_aim t_before t_open t_openStates t_openCount t_picks t_strides t_sums t_counts hf
    rw [L_X7_stateInWay_42] at hf
    refine g_iload C 42 3 dX7_stateInWay_42 rfl ?_
    refine g_iload C 44 1 dX7_stateInWay_44 rfl ?_
    refine g_icmp_gt C 46 63 dX7_stateInWay_46 (by decide) hf (fun hf => ?_) (fun hf => ?_)
    · refine g_iload C 63 2 dX7_stateInWay_63 rfl ?_
      cases hf
      exact g_iret C 65 dX7_stateInWay_65 F ⟨rfl, rfl⟩
    · refine g_aload_n C 49 0 dX7_stateInWay_49 rfl rfl ?_
      refine g_iload C 50 3 dX7_stateInWay_50 rfl ?_
      obtain ⟨u6, hu6, hf⟩ := cal_some hf
      refine g_callV1 C 52 [0, 1, 2, 3, 4, 5, 6, 7, 8, 9, 10, 11, 12, 13, 14, 15, 16, 17, 18, 19, 20, 21, 22, 23] 0 (rest := []) dX7_stateInWay_52 (c_X7_settle (x_l X) cA q_t t_sum t_many t_sign t_changed t_pickedSum t_aim t_before q_t_open t_open q_t_net t_net_size t_net_edges q_t_net_loads t_net_loads q_t_net_near t_net_near q_t_net_ties t_net_ties q_t_law t_law_size q_t_law_forbidden q_t_law_factors t_law_factors q_t_law_pairFactors t_law_pairFactors q_t_law_barred t_law_barred q_t_plan t_plan_size q_t_plan_places q_t_plan_bagMates q_t_plan_going q_t_plan_knots t_plan_knots q_t_plan_others t_plan_others q_t_plan_otherCount t_plan_otherCount q_t_plan_scopes t_plan_scopes q_t_plan_users t_plan_users q_t_plan_feeders t_plan_feeders q_t_plan_feederCount t_plan_feederCount q_t_openStates t_openStates q_t_openCount t_openCount q_t_picks t_picks q_t_strides t_strides q_t_sums t_sums q_t_counts t_counts x6 u6 hu6) kw_222 kw_223 kw_224 kw_158 kw_225 ok_X7_settle ⟨Nat.le_of_ble_eq_true rfl, Nat.le_of_ble_eq_true rfl⟩ ⟨Nat.zero_le _, Nat.zero_le _⟩ ⟨rfl, rfl⟩ rfl rfl rfl rfl rfl (Nat.le_of_ble_eq_true rfl) rfl (ws' := [oB q_t 7 [.ref q_t_open, .int u6.2.1, .int u6.2.2.1, .ref q_t_net, .ref q_t_law, .ref q_t_plan, .ref q_t_openStates, .ref q_t_openCount, .ref q_t_picks, .ref q_t_strides, .ref q_t_sums, .ref q_t_counts, .int t_sign, .int u6.2.2.2.1, .int u6.2.2.2.2.1, .int t_aim, .long u6.2.2.2.2.2.1], aI cA q_t_open 14 u6.2.2.2.2.2.2.1, oB q_t_net 4 [.ref q_t_net_loads, .ref q_t_net_near, .ref q_t_net_ties, .int t_net_size, .int t_net_edges], aI cA q_t_net_loads 14 t_net_loads, aI cA q_t_net_near 14 t_net_near, aI cA q_t_net_ties 196 t_net_ties, oB q_t_law 3 [.int t_law_size, .ref q_t_law_factors, .ref q_t_law_pairFactors, .ref q_t_law_barred, .ref q_t_law_forbidden], aI cA q_t_law_factors 4 t_law_factors, aI cA q_t_law_pairFactors 16 t_law_pairFactors, aZ cA q_t_law_barred 16 t_law_barred, oB q_t_plan 5 [.ref q_t_plan_knots, .ref q_t_plan_others, .ref q_t_plan_otherCount, .ref q_t_plan_scopes, .ref q_t_plan_users, .ref q_t_plan_feeders, .ref q_t_plan_feederCount, .int t_plan_size, .ref q_t_plan_places, .ref q_t_plan_bagMates, .ref q_t_plan_going], aI cA q_t_plan_knots 14 t_plan_knots, aI cA q_t_plan_others 56 t_plan_others, aI cA q_t_plan_otherCount 14 t_plan_otherCount, aI cA q_t_plan_scopes 14 t_plan_scopes, aI cA q_t_plan_users 14 t_plan_users, aI cA q_t_plan_feeders 196 t_plan_feeders, aI cA q_t_plan_feederCount 14 t_plan_feederCount, aI cA q_t_openStates 56 u6.2.2.2.2.2.2.2.1, aI cA q_t_openCount 14 u6.2.2.2.2.2.2.2.2.1, aI cA q_t_picks 14 u6.2.2.2.2.2.2.2.2.2.1, aI cA q_t_strides 56 u6.2.2.2.2.2.2.2.2.2.2.1, aI cA q_t_sums 3584 u6.2.2.2.2.2.2.2.2.2.2.2.1, aI cA q_t_counts 3584 u6.2.2.2.2.2.2.2.2.2.2.2.2]) (st' := [.int u6.1]) (N0 := 24) rfl [some 0, some 1, some 2, some 3, some 4, some 5, some 6, some 7, some 8, some 9, some 10, some 11, some 12, some 13, some 14, some 15, some 16, some 17, some 18, some 19, some 20, some 21, some 22, some 23] (by decide) rfl rfl ?_
      refine g_istore C 55 (fun z => [(5, .int z), (0, .ref q_t), (4, .int a4), (6, .int x6)]) dX7_stateInWay_55 (by decide) (fun _ => rfl) hf (fun x5_7 hf => ?_)
      refine g_iinc C 57 3 (v := x6 + (1 : Int32)) (fun z => [(6, .int z), (5, .int x5_7), (0, .ref q_t), (4, .int a4)]) dX7_stateInWay_57 rfl rfl (by decide) (fun _ => rfl) hf (fun x6_8 hf => ?_)
      refine g_goto C 60 42 dX7_stateInWay_60 (by decide) ?_
      refine g_lv [2, 3, 1, 0] rfl ?_
      exact ih x5_7 x6_8 u6.2.1 u6.2.2.1 t_sign u6.2.2.2.1 u6.2.2.2.2.1 t_aim u6.2.2.2.2.2.1 u6.2.2.2.2.2.2.1 u6.2.2.2.2.2.2.2.1 u6.2.2.2.2.2.2.2.2.1 u6.2.2.2.2.2.2.2.2.2.1 u6.2.2.2.2.2.2.2.2.2.2.1 u6.2.2.2.2.2.2.2.2.2.2.2.1 u6.2.2.2.2.2.2.2.2.2.2.2.2 hf
def f_X7_stateInWay (a1 : Int32) (a2 : Int64) (a4 : Int32) (t_sum : Int32) (t_many : Int32) (t_sign : Int32) (t_changed : Int32) (t_pickedSum : Int32) (t_aim : Int32) (t_before : Int64) (t_open : Nat → Int32) (t_net_size : Int32) (t_net_loads : Nat → Int32) (t_net_near : Nat → Int32) (t_net_ties : Nat → Int32) (t_law_size : Int32) (t_law_factors : Nat → Int32) (t_law_pairFactors : Nat → Int32) (t_law_barred : Nat → Int32) (t_plan_size : Int32) (t_plan_knots : Nat → Int32) (t_plan_others : Nat → Int32) (t_plan_otherCount : Nat → Int32) (t_plan_scopes : Nat → Int32) (t_plan_users : Nat → Int32) (t_plan_feeders : Nat → Int32) (t_plan_feederCount : Nat → Int32) (t_openStates : Nat → Int32) (t_openCount : Nat → Int32) (t_picks : Nat → Int32) (t_strides : Nat → Int32) (t_sums : Nat → Int32) (t_counts : Nat → Int32) : Option (Int32 × Int32 × Int32 × Int32 × Int32 × Int32 × Int32 × Int64 × (Nat → Int32) × (Nat → Int32) × (Nat → Int32) × (Nat → Int32) × (Nat → Int32) × (Nat → Int32) × (Nat → Int32)) :=
  cal (f_X7_sweep a1 t_sum t_many t_sign t_changed t_pickedSum t_open t_net_size t_net_loads t_net_near t_net_ties t_law_size t_law_factors t_law_pairFactors t_law_barred t_plan_size t_plan_knots t_plan_others t_plan_otherCount t_plan_scopes t_plan_users t_plan_feeders t_plan_feederCount t_openStates t_openCount t_picks t_strides t_sums t_counts) fun u1 =>
  if (lg_cmp a2 (0 : Int64)) < 0 then
    some ((-1 : Int32), u1.1, u1.2.1, u1.2.2.1, u1.2.2.2.1, u1.2.2.2.2.1, t_aim, t_before, t_open, u1.2.2.2.2.2.1, u1.2.2.2.2.2.2.1, u1.2.2.2.2.2.2.2.1, u1.2.2.2.2.2.2.2.2.1, u1.2.2.2.2.2.2.2.2.2.1, u1.2.2.2.2.2.2.2.2.2.2)
  else
    if (lg_cmp a2 ((u1.2.1).toInt64)) < 0 then
      bnd u1.1 fun t_aim_2 =>
      bnd a2 fun t_before_3 =>
      bnd (-1 : Int32) fun x5_4 =>
      bnd (0 : Int32) fun x6_5 =>
      L_X7_stateInWay_42 a1 a2 a4 t_net_size t_net_loads t_net_near t_net_ties t_law_size t_law_factors t_law_pairFactors t_law_barred t_plan_size t_plan_knots t_plan_others t_plan_otherCount t_plan_scopes t_plan_users t_plan_feeders t_plan_feederCount NN x5_4 x6_5 u1.1 u1.2.1 u1.2.2.1 u1.2.2.2.1 u1.2.2.2.2.1 t_aim_2 t_before_3 t_open u1.2.2.2.2.2.1 u1.2.2.2.2.2.2.1 u1.2.2.2.2.2.2.2.1 u1.2.2.2.2.2.2.2.2.1 u1.2.2.2.2.2.2.2.2.2.1 u1.2.2.2.2.2.2.2.2.2.2
    else
      some ((-1 : Int32), u1.1, u1.2.1, u1.2.2.1, u1.2.2.2.1, u1.2.2.2.2.1, t_aim, t_before, t_open, u1.2.2.2.2.2.1, u1.2.2.2.2.2.2.1, u1.2.2.2.2.2.2.2.1, u1.2.2.2.2.2.2.2.2.1, u1.2.2.2.2.2.2.2.2.2.1, u1.2.2.2.2.2.2.2.2.2.2)

set_option maxRecDepth 100000 in
set_option maxHeartbeats 1000000 in
theorem c_X7_stateInWay (l : Launch) (cA : Nat → ClassId) (q_t : Nat) (t_sum : Int32) (t_many : Int32) (t_sign : Int32) (t_changed : Int32) (t_pickedSum : Int32) (t_aim : Int32) (t_before : Int64) (q_t_open : Nat) (t_open : Nat → Int32) (q_t_net : Nat) (t_net_size : Int32) (t_net_edges : Int32) (q_t_net_loads : Nat) (t_net_loads : Nat → Int32) (q_t_net_near : Nat) (t_net_near : Nat → Int32) (q_t_net_ties : Nat) (t_net_ties : Nat → Int32) (q_t_law : Nat) (t_law_size : Int32) (q_t_law_forbidden : Nat) (q_t_law_factors : Nat) (t_law_factors : Nat → Int32) (q_t_law_pairFactors : Nat) (t_law_pairFactors : Nat → Int32) (q_t_law_barred : Nat) (t_law_barred : Nat → Int32) (q_t_plan : Nat) (t_plan_size : Int32) (q_t_plan_places : Nat) (q_t_plan_bagMates : Nat) (q_t_plan_going : Nat) (q_t_plan_knots : Nat) (t_plan_knots : Nat → Int32) (q_t_plan_others : Nat) (t_plan_others : Nat → Int32) (q_t_plan_otherCount : Nat) (t_plan_otherCount : Nat → Int32) (q_t_plan_scopes : Nat) (t_plan_scopes : Nat → Int32) (q_t_plan_users : Nat) (t_plan_users : Nat → Int32) (q_t_plan_feeders : Nat) (t_plan_feeders : Nat → Int32) (q_t_plan_feederCount : Nat) (t_plan_feederCount : Nat → Int32) (q_t_openStates : Nat) (t_openStates : Nat → Int32) (q_t_openCount : Nat) (t_openCount : Nat → Int32) (q_t_picks : Nat) (t_picks : Nat → Int32) (q_t_strides : Nat) (t_strides : Nat → Int32) (q_t_sums : Nat) (t_sums : Nat → Int32) (q_t_counts : Nat) (t_counts : Nat → Int32) (a1 : Int32) (a2 : Int64) (a4 : Int32) (r : Int32 × Int32 × Int32 × Int32 × Int32 × Int32 × Int32 × Int64 × (Nat → Int32) × (Nat → Int32) × (Nat → Int32) × (Nat → Int32) × (Nat → Int32) × (Nat → Int32) × (Nat → Int32)) (hf : f_X7_stateInWay a1 a2 a4 t_sum t_many t_sign t_changed t_pickedSum t_aim t_before t_open t_net_size t_net_loads t_net_near t_net_ties t_law_size t_law_factors t_law_pairFactors t_law_barred t_plan_size t_plan_knots t_plan_others t_plan_otherCount t_plan_scopes t_plan_users t_plan_feeders t_plan_feederCount t_openStates t_openCount t_picks t_strides t_sums t_counts = some r) : MT l cA yX7_stateInWay cX7_stateInWay 7 (some .int) ({ frames := 6, cells := 0, slots := 0, locals := 146 } : Room) [.ref q_t, .int a1, .long a2, .int a4] [oB q_t 7 [.ref q_t_open, .int t_sum, .int t_many, .ref q_t_net, .ref q_t_law, .ref q_t_plan, .ref q_t_openStates, .ref q_t_openCount, .ref q_t_picks, .ref q_t_strides, .ref q_t_sums, .ref q_t_counts, .int t_sign, .int t_changed, .int t_pickedSum, .int t_aim, .long t_before], aI cA q_t_open 14 t_open, oB q_t_net 4 [.ref q_t_net_loads, .ref q_t_net_near, .ref q_t_net_ties, .int t_net_size, .int t_net_edges], aI cA q_t_net_loads 14 t_net_loads, aI cA q_t_net_near 14 t_net_near, aI cA q_t_net_ties 196 t_net_ties, oB q_t_law 3 [.int t_law_size, .ref q_t_law_factors, .ref q_t_law_pairFactors, .ref q_t_law_barred, .ref q_t_law_forbidden], aI cA q_t_law_factors 4 t_law_factors, aI cA q_t_law_pairFactors 16 t_law_pairFactors, aZ cA q_t_law_barred 16 t_law_barred, oB q_t_plan 5 [.ref q_t_plan_knots, .ref q_t_plan_others, .ref q_t_plan_otherCount, .ref q_t_plan_scopes, .ref q_t_plan_users, .ref q_t_plan_feeders, .ref q_t_plan_feederCount, .int t_plan_size, .ref q_t_plan_places, .ref q_t_plan_bagMates, .ref q_t_plan_going], aI cA q_t_plan_knots 14 t_plan_knots, aI cA q_t_plan_others 56 t_plan_others, aI cA q_t_plan_otherCount 14 t_plan_otherCount, aI cA q_t_plan_scopes 14 t_plan_scopes, aI cA q_t_plan_users 14 t_plan_users, aI cA q_t_plan_feeders 196 t_plan_feeders, aI cA q_t_plan_feederCount 14 t_plan_feederCount, aI cA q_t_openStates 56 t_openStates, aI cA q_t_openCount 14 t_openCount, aI cA q_t_picks 14 t_picks, aI cA q_t_strides 56 t_strides, aI cA q_t_sums 3584 t_sums, aI cA q_t_counts 3584 t_counts] (sB (some (.int r.1)) [oB q_t 7 [.ref q_t_open, .int r.2.1, .int r.2.2.1, .ref q_t_net, .ref q_t_law, .ref q_t_plan, .ref q_t_openStates, .ref q_t_openCount, .ref q_t_picks, .ref q_t_strides, .ref q_t_sums, .ref q_t_counts, .int r.2.2.2.1, .int r.2.2.2.2.1, .int r.2.2.2.2.2.1, .int r.2.2.2.2.2.2.1, .long r.2.2.2.2.2.2.2.1], aI cA q_t_open 14 r.2.2.2.2.2.2.2.2.1, oB q_t_net 4 [.ref q_t_net_loads, .ref q_t_net_near, .ref q_t_net_ties, .int t_net_size, .int t_net_edges], aI cA q_t_net_loads 14 t_net_loads, aI cA q_t_net_near 14 t_net_near, aI cA q_t_net_ties 196 t_net_ties, oB q_t_law 3 [.int t_law_size, .ref q_t_law_factors, .ref q_t_law_pairFactors, .ref q_t_law_barred, .ref q_t_law_forbidden], aI cA q_t_law_factors 4 t_law_factors, aI cA q_t_law_pairFactors 16 t_law_pairFactors, aZ cA q_t_law_barred 16 t_law_barred, oB q_t_plan 5 [.ref q_t_plan_knots, .ref q_t_plan_others, .ref q_t_plan_otherCount, .ref q_t_plan_scopes, .ref q_t_plan_users, .ref q_t_plan_feeders, .ref q_t_plan_feederCount, .int t_plan_size, .ref q_t_plan_places, .ref q_t_plan_bagMates, .ref q_t_plan_going], aI cA q_t_plan_knots 14 t_plan_knots, aI cA q_t_plan_others 56 t_plan_others, aI cA q_t_plan_otherCount 14 t_plan_otherCount, aI cA q_t_plan_scopes 14 t_plan_scopes, aI cA q_t_plan_users 14 t_plan_users, aI cA q_t_plan_feeders 196 t_plan_feeders, aI cA q_t_plan_feederCount 14 t_plan_feederCount, aI cA q_t_openStates 56 r.2.2.2.2.2.2.2.2.2.1, aI cA q_t_openCount 14 r.2.2.2.2.2.2.2.2.2.2.1, aI cA q_t_picks 14 r.2.2.2.2.2.2.2.2.2.2.2.1, aI cA q_t_strides 56 r.2.2.2.2.2.2.2.2.2.2.2.2.1, aI cA q_t_sums 3584 r.2.2.2.2.2.2.2.2.2.2.2.2.2.1, aI cA q_t_counts 3584 r.2.2.2.2.2.2.2.2.2.2.2.2.2.2]) := by
  refine MT.of (by decide) (Nat.le_of_ble_eq_true rfl) ?_
  intro X hXl C F hnm hrc hrs
  subst hXl
  unfold f_X7_stateInWay at hf
  have C : Cx X cX7_stateInWay RX7 (some .int) cA 6 146 7 := C
  show Go X 7 0 0 0 [oB q_t 7 [.ref q_t_open, .int t_sum, .int t_many, .ref q_t_net, .ref q_t_law, .ref q_t_plan, .ref q_t_openStates, .ref q_t_openCount, .ref q_t_picks, .ref q_t_strides, .ref q_t_sums, .ref q_t_counts, .int t_sign, .int t_changed, .int t_pickedSum, .int t_aim, .long t_before], aI cA q_t_open 14 t_open, oB q_t_net 4 [.ref q_t_net_loads, .ref q_t_net_near, .ref q_t_net_ties, .int t_net_size, .int t_net_edges], aI cA q_t_net_loads 14 t_net_loads, aI cA q_t_net_near 14 t_net_near, aI cA q_t_net_ties 196 t_net_ties, oB q_t_law 3 [.int t_law_size, .ref q_t_law_factors, .ref q_t_law_pairFactors, .ref q_t_law_barred, .ref q_t_law_forbidden], aI cA q_t_law_factors 4 t_law_factors, aI cA q_t_law_pairFactors 16 t_law_pairFactors, aZ cA q_t_law_barred 16 t_law_barred, oB q_t_plan 5 [.ref q_t_plan_knots, .ref q_t_plan_others, .ref q_t_plan_otherCount, .ref q_t_plan_scopes, .ref q_t_plan_users, .ref q_t_plan_feeders, .ref q_t_plan_feederCount, .int t_plan_size, .ref q_t_plan_places, .ref q_t_plan_bagMates, .ref q_t_plan_going], aI cA q_t_plan_knots 14 t_plan_knots, aI cA q_t_plan_others 56 t_plan_others, aI cA q_t_plan_otherCount 14 t_plan_otherCount, aI cA q_t_plan_scopes 14 t_plan_scopes, aI cA q_t_plan_users 14 t_plan_users, aI cA q_t_plan_feeders 196 t_plan_feeders, aI cA q_t_plan_feederCount 14 t_plan_feederCount, aI cA q_t_openStates 56 t_openStates, aI cA q_t_openCount 14 t_openCount, aI cA q_t_picks 14 t_picks, aI cA q_t_strides 56 t_strides, aI cA q_t_sums 3584 t_sums, aI cA q_t_counts 3584 t_counts] [(0, .ref q_t), (1, .int a1), (2, .long a2), (4, .int a4)] []
  refine g_aload_n C 0 0 dX7_stateInWay_0 rfl rfl ?_
  refine g_iload_n C 1 1 dX7_stateInWay_1 rfl rfl ?_
  obtain ⟨u1, hu1, hf⟩ := cal_some hf
  refine g_callV1 C 2 [0, 1, 2, 3, 4, 5, 6, 7, 8, 9, 10, 11, 12, 13, 14, 15, 16, 17, 18, 19, 20, 21, 22, 23] 0 (rest := []) dX7_stateInWay_2 (c_X7_sweep (x_l X) cA q_t t_sum t_many t_sign t_changed t_pickedSum t_aim t_before q_t_open t_open q_t_net t_net_size t_net_edges q_t_net_loads t_net_loads q_t_net_near t_net_near q_t_net_ties t_net_ties q_t_law t_law_size q_t_law_forbidden q_t_law_factors t_law_factors q_t_law_pairFactors t_law_pairFactors q_t_law_barred t_law_barred q_t_plan t_plan_size q_t_plan_places q_t_plan_bagMates q_t_plan_going q_t_plan_knots t_plan_knots q_t_plan_others t_plan_others q_t_plan_otherCount t_plan_otherCount q_t_plan_scopes t_plan_scopes q_t_plan_users t_plan_users q_t_plan_feeders t_plan_feeders q_t_plan_feederCount t_plan_feederCount q_t_openStates t_openStates q_t_openCount t_openCount q_t_picks t_picks q_t_strides t_strides q_t_sums t_sums q_t_counts t_counts a1 u1 hu1) kw_218 kw_219 kw_220 kw_158 kw_221 ok_X7_sweep ⟨Nat.le_of_ble_eq_true rfl, Nat.le_of_ble_eq_true rfl⟩ ⟨Nat.zero_le _, Nat.zero_le _⟩ ⟨rfl, rfl⟩ rfl rfl rfl rfl rfl (Nat.le_of_ble_eq_true rfl) rfl (ws' := [oB q_t 7 [.ref q_t_open, .int u1.1, .int u1.2.1, .ref q_t_net, .ref q_t_law, .ref q_t_plan, .ref q_t_openStates, .ref q_t_openCount, .ref q_t_picks, .ref q_t_strides, .ref q_t_sums, .ref q_t_counts, .int u1.2.2.1, .int u1.2.2.2.1, .int u1.2.2.2.2.1, .int t_aim, .long t_before], aI cA q_t_open 14 t_open, oB q_t_net 4 [.ref q_t_net_loads, .ref q_t_net_near, .ref q_t_net_ties, .int t_net_size, .int t_net_edges], aI cA q_t_net_loads 14 t_net_loads, aI cA q_t_net_near 14 t_net_near, aI cA q_t_net_ties 196 t_net_ties, oB q_t_law 3 [.int t_law_size, .ref q_t_law_factors, .ref q_t_law_pairFactors, .ref q_t_law_barred, .ref q_t_law_forbidden], aI cA q_t_law_factors 4 t_law_factors, aI cA q_t_law_pairFactors 16 t_law_pairFactors, aZ cA q_t_law_barred 16 t_law_barred, oB q_t_plan 5 [.ref q_t_plan_knots, .ref q_t_plan_others, .ref q_t_plan_otherCount, .ref q_t_plan_scopes, .ref q_t_plan_users, .ref q_t_plan_feeders, .ref q_t_plan_feederCount, .int t_plan_size, .ref q_t_plan_places, .ref q_t_plan_bagMates, .ref q_t_plan_going], aI cA q_t_plan_knots 14 t_plan_knots, aI cA q_t_plan_others 56 t_plan_others, aI cA q_t_plan_otherCount 14 t_plan_otherCount, aI cA q_t_plan_scopes 14 t_plan_scopes, aI cA q_t_plan_users 14 t_plan_users, aI cA q_t_plan_feeders 196 t_plan_feeders, aI cA q_t_plan_feederCount 14 t_plan_feederCount, aI cA q_t_openStates 56 u1.2.2.2.2.2.1, aI cA q_t_openCount 14 u1.2.2.2.2.2.2.1, aI cA q_t_picks 14 u1.2.2.2.2.2.2.2.1, aI cA q_t_strides 56 u1.2.2.2.2.2.2.2.2.1, aI cA q_t_sums 3584 u1.2.2.2.2.2.2.2.2.2.1, aI cA q_t_counts 3584 u1.2.2.2.2.2.2.2.2.2.2]) (st' := []) (N0 := 24) rfl [some 0, some 1, some 2, some 3, some 4, some 5, some 6, some 7, some 8, some 9, some 10, some 11, some 12, some 13, some 14, some 15, some 16, some 17, some 18, some 19, some 20, some 21, some 22, some 23] (by decide) rfl rfl ?_
  refine g_lload_n C 5 2 dX7_stateInWay_5 rfl rfl ?_
  refine g_lconst C 6 (0 : Int64) dX7_stateInWay_6 (by decide) ?_
  refine g_lcmp C 7 dX7_stateInWay_7 ?_
  refine g_if_lt C 8 21 dX7_stateInWay_8 (by decide) hf (fun hf => ?_) (fun hf => ?_)
  · refine g_iconst C 21 (-1 : Int32) dX7_stateInWay_21 (by decide) ?_
    cases hf
    exact g_iret C 22 dX7_stateInWay_22 F ⟨rfl, rfl⟩
  · refine g_lload_n C 11 2 dX7_stateInWay_11 rfl rfl ?_
    refine g_aload_n C 12 0 dX7_stateInWay_12 rfl rfl ?_
    refine g_get C 13 0 2 dX7_stateInWay_13 inX7 rfl rfl (by decide) kw_198 rfl ?_
    refine g_i2l C 16 dX7_stateInWay_16 ?_
    refine g_lcmp C 17 dX7_stateInWay_17 ?_
    refine g_if_lt C 18 23 dX7_stateInWay_18 (by decide) hf (fun hf => ?_) (fun hf => ?_)
    · refine g_aload_n C 23 0 dX7_stateInWay_23 rfl rfl ?_
      refine g_aload_n C 24 0 dX7_stateInWay_24 rfl rfl ?_
      refine g_get C 25 0 1 dX7_stateInWay_25 inX7 rfl rfl (by decide) kw_197 rfl ?_
      refine g_puti C 28 0 15 tyX7 (fun z => [oB q_t 7 [.ref q_t_open, .int u1.1, .int u1.2.1, .ref q_t_net, .ref q_t_law, .ref q_t_plan, .ref q_t_openStates, .ref q_t_openCount, .ref q_t_picks, .ref q_t_strides, .ref q_t_sums, .ref q_t_counts, .int u1.2.2.1, .int u1.2.2.2.1, .int u1.2.2.2.2.1, .int z, .long t_before], aI cA q_t_open 14 t_open, oB q_t_net 4 [.ref q_t_net_loads, .ref q_t_net_near, .ref q_t_net_ties, .int t_net_size, .int t_net_edges], aI cA q_t_net_loads 14 t_net_loads, aI cA q_t_net_near 14 t_net_near, aI cA q_t_net_ties 196 t_net_ties, oB q_t_law 3 [.int t_law_size, .ref q_t_law_factors, .ref q_t_law_pairFactors, .ref q_t_law_barred, .ref q_t_law_forbidden], aI cA q_t_law_factors 4 t_law_factors, aI cA q_t_law_pairFactors 16 t_law_pairFactors, aZ cA q_t_law_barred 16 t_law_barred, oB q_t_plan 5 [.ref q_t_plan_knots, .ref q_t_plan_others, .ref q_t_plan_otherCount, .ref q_t_plan_scopes, .ref q_t_plan_users, .ref q_t_plan_feeders, .ref q_t_plan_feederCount, .int t_plan_size, .ref q_t_plan_places, .ref q_t_plan_bagMates, .ref q_t_plan_going], aI cA q_t_plan_knots 14 t_plan_knots, aI cA q_t_plan_others 56 t_plan_others, aI cA q_t_plan_otherCount 14 t_plan_otherCount, aI cA q_t_plan_scopes 14 t_plan_scopes, aI cA q_t_plan_users 14 t_plan_users, aI cA q_t_plan_feeders 196 t_plan_feeders, aI cA q_t_plan_feederCount 14 t_plan_feederCount, aI cA q_t_openStates 56 u1.2.2.2.2.2.1, aI cA q_t_openCount 14 u1.2.2.2.2.2.2.1, aI cA q_t_picks 14 u1.2.2.2.2.2.2.2.1, aI cA q_t_strides 56 u1.2.2.2.2.2.2.2.2.1, aI cA q_t_sums 3584 u1.2.2.2.2.2.2.2.2.2.1, aI cA q_t_counts 3584 u1.2.2.2.2.2.2.2.2.2.2]) dX7_stateInWay_28 inX7 tyX7_ok nmX7 rfl rfl (by decide) kw_216 rfl rfl (Nat.le_of_ble_eq_true rfl) (fun _ => rfl) hf (fun t_aim_2 hf => ?_)
      refine g_aload_n C 31 0 dX7_stateInWay_31 rfl rfl ?_
      refine g_lload_n C 32 2 dX7_stateInWay_32 rfl rfl ?_
      refine g_putl C 33 0 16 tyX7 (fun z => [oB q_t 7 [.ref q_t_open, .int u1.1, .int u1.2.1, .ref q_t_net, .ref q_t_law, .ref q_t_plan, .ref q_t_openStates, .ref q_t_openCount, .ref q_t_picks, .ref q_t_strides, .ref q_t_sums, .ref q_t_counts, .int u1.2.2.1, .int u1.2.2.2.1, .int u1.2.2.2.2.1, .int t_aim_2, .long z], aI cA q_t_open 14 t_open, oB q_t_net 4 [.ref q_t_net_loads, .ref q_t_net_near, .ref q_t_net_ties, .int t_net_size, .int t_net_edges], aI cA q_t_net_loads 14 t_net_loads, aI cA q_t_net_near 14 t_net_near, aI cA q_t_net_ties 196 t_net_ties, oB q_t_law 3 [.int t_law_size, .ref q_t_law_factors, .ref q_t_law_pairFactors, .ref q_t_law_barred, .ref q_t_law_forbidden], aI cA q_t_law_factors 4 t_law_factors, aI cA q_t_law_pairFactors 16 t_law_pairFactors, aZ cA q_t_law_barred 16 t_law_barred, oB q_t_plan 5 [.ref q_t_plan_knots, .ref q_t_plan_others, .ref q_t_plan_otherCount, .ref q_t_plan_scopes, .ref q_t_plan_users, .ref q_t_plan_feeders, .ref q_t_plan_feederCount, .int t_plan_size, .ref q_t_plan_places, .ref q_t_plan_bagMates, .ref q_t_plan_going], aI cA q_t_plan_knots 14 t_plan_knots, aI cA q_t_plan_others 56 t_plan_others, aI cA q_t_plan_otherCount 14 t_plan_otherCount, aI cA q_t_plan_scopes 14 t_plan_scopes, aI cA q_t_plan_users 14 t_plan_users, aI cA q_t_plan_feeders 196 t_plan_feeders, aI cA q_t_plan_feederCount 14 t_plan_feederCount, aI cA q_t_openStates 56 u1.2.2.2.2.2.1, aI cA q_t_openCount 14 u1.2.2.2.2.2.2.1, aI cA q_t_picks 14 u1.2.2.2.2.2.2.2.1, aI cA q_t_strides 56 u1.2.2.2.2.2.2.2.2.1, aI cA q_t_sums 3584 u1.2.2.2.2.2.2.2.2.2.1, aI cA q_t_counts 3584 u1.2.2.2.2.2.2.2.2.2.2]) dX7_stateInWay_33 inX7 tyX7_ok nmX7 rfl rfl (by decide) kw_217 rfl rfl (Nat.le_of_ble_eq_true rfl) (fun _ => rfl) hf (fun t_before_3 hf => ?_)
      refine g_iconst C 36 (-1 : Int32) dX7_stateInWay_36 (by decide) ?_
      refine g_istore C 37 (fun z => [(5, .int z), (0, .ref q_t), (1, .int a1), (2, .long a2), (4, .int a4)]) dX7_stateInWay_37 (by decide) (fun _ => rfl) hf (fun x5_4 hf => ?_)
      refine g_iconst C 39 (0 : Int32) dX7_stateInWay_39 (by decide) ?_
      refine g_istore C 40 (fun z => [(6, .int z), (5, .int x5_4), (0, .ref q_t), (1, .int a1), (2, .long a2), (4, .int a4)]) dX7_stateInWay_40 (by decide) (fun _ => rfl) hf (fun x6_5 hf => ?_)
      refine g_lv [2, 5, 1, 0] rfl ?_
      exact w_X7_stateInWay_42 cA q_t q_t_open q_t_net t_net_edges q_t_net_loads q_t_net_near q_t_net_ties q_t_law q_t_law_forbidden q_t_law_factors q_t_law_pairFactors q_t_law_barred q_t_plan q_t_plan_places q_t_plan_bagMates q_t_plan_going q_t_plan_knots q_t_plan_others q_t_plan_otherCount q_t_plan_scopes q_t_plan_users q_t_plan_feeders q_t_plan_feederCount q_t_openStates q_t_openCount q_t_picks q_t_strides q_t_sums q_t_counts a1 a2 a4 t_net_size t_net_loads t_net_near t_net_ties t_law_size t_law_factors t_law_pairFactors t_law_barred t_plan_size t_plan_knots t_plan_others t_plan_otherCount t_plan_scopes t_plan_users t_plan_feeders t_plan_feederCount C r F NN x5_4 x6_5 u1.1 u1.2.1 u1.2.2.1 u1.2.2.2.1 u1.2.2.2.2.1 t_aim_2 t_before_3 t_open u1.2.2.2.2.2.1 u1.2.2.2.2.2.2.1 u1.2.2.2.2.2.2.2.1 u1.2.2.2.2.2.2.2.2.1 u1.2.2.2.2.2.2.2.2.2.1 u1.2.2.2.2.2.2.2.2.2.2 hf
    · refine g_iconst C 21 (-1 : Int32) dX7_stateInWay_21 (by decide) ?_
      cases hf
      exact g_iret C 22 dX7_stateInWay_22 F ⟨rfl, rfl⟩
