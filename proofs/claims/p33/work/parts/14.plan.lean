theorem dX5_lay_0 : decode cX5_lay 0 = .ok (.aload_n 0, 1) := by decide +kernel
theorem dX5_lay_1 : decode cX5_lay 1 = .ok (.aload_n 1, 1) := by decide +kernel
theorem dX5_lay_2 : decode cX5_lay 2 = .ok (.getfield 46, 3) := by decide +kernel
theorem dX5_lay_5 : decode cX5_lay 5 = .ok (.putfield 52, 3) := by decide +kernel
theorem dX5_lay_8 : decode cX5_lay 8 = .ok (.iconst 0, 1) := by decide +kernel
theorem dX5_lay_9 : decode cX5_lay 9 = .ok (.istore_n 3, 1) := by decide +kernel
theorem dX5_lay_10 : decode cX5_lay 10 = .ok (.iload_n 3, 1) := by decide +kernel
theorem dX5_lay_11 : decode cX5_lay 11 = .ok (.aload_n 0, 1) := by decide +kernel
theorem dX5_lay_12 : decode cX5_lay 12 = .ok (.getfield 52, 3) := by decide +kernel
theorem dX5_lay_15 : decode cX5_lay 15 = .ok (.if_icmp .ge 20, 3) := by decide +kernel
theorem dX5_lay_18 : decode cX5_lay 18 = .ok (.aload_n 0, 1) := by decide +kernel
theorem dX5_lay_19 : decode cX5_lay 19 = .ok (.getfield 36, 3) := by decide +kernel
theorem dX5_lay_22 : decode cX5_lay 22 = .ok (.iload_n 3, 1) := by decide +kernel
theorem dX5_lay_23 : decode cX5_lay 23 = .ok (.aload_n 2, 1) := by decide +kernel
theorem dX5_lay_24 : decode cX5_lay 24 = .ok (.iload_n 3, 1) := by decide +kernel
theorem dX5_lay_25 : decode cX5_lay 25 = .ok (.invokevirtual 53, 3) := by decide +kernel
theorem dX5_lay_28 : decode cX5_lay 28 = .ok (.iastore, 1) := by decide +kernel
theorem dX5_lay_29 : decode cX5_lay 29 = .ok (.iinc 3 1, 3) := by decide +kernel
theorem dX5_lay_32 : decode cX5_lay 32 = .ok (.goto (-22), 3) := by decide +kernel
theorem dX5_lay_35 : decode cX5_lay 35 = .ok (.iconst 0, 1) := by decide +kernel
theorem dX5_lay_36 : decode cX5_lay 36 = .ok (.istore_n 3, 1) := by decide +kernel
theorem dX5_lay_37 : decode cX5_lay 37 = .ok (.aload_n 0, 1) := by decide +kernel
theorem dX5_lay_38 : decode cX5_lay 38 = .ok (.getfield 52, 3) := by decide +kernel
theorem dX5_lay_41 : decode cX5_lay 41 = .ok (.iconst 1, 1) := by decide +kernel
theorem dX5_lay_42 : decode cX5_lay 42 = .ok (.isub, 1) := by decide +kernel
theorem dX5_lay_43 : decode cX5_lay 43 = .ok (.istore 4, 2) := by decide +kernel
theorem dX5_lay_45 : decode cX5_lay 45 = .ok (.iload 4, 2) := by decide +kernel
theorem dX5_lay_47 : decode cX5_lay 47 = .ok (.ifCond .lt 49, 3) := by decide +kernel
theorem dX5_lay_50 : decode cX5_lay 50 = .ok (.aload_n 0, 1) := by decide +kernel
theorem dX5_lay_51 : decode cX5_lay 51 = .ok (.iload_n 3, 1) := by decide +kernel
theorem dX5_lay_52 : decode cX5_lay 52 = .ok (.invokevirtual 59, 3) := by decide +kernel
theorem dX5_lay_55 : decode cX5_lay 55 = .ok (.istore 5, 2) := by decide +kernel
theorem dX5_lay_57 : decode cX5_lay 57 = .ok (.iload_n 3, 1) := by decide +kernel
theorem dX5_lay_58 : decode cX5_lay 58 = .ok (.iconst 1, 1) := by decide +kernel
theorem dX5_lay_59 : decode cX5_lay 59 = .ok (.iload 5, 2) := by decide +kernel
theorem dX5_lay_61 : decode cX5_lay 61 = .ok (.ishl, 1) := by decide +kernel
theorem dX5_lay_62 : decode cX5_lay 62 = .ok (.ior, 1) := by decide +kernel
theorem dX5_lay_63 : decode cX5_lay 63 = .ok (.istore_n 3, 1) := by decide +kernel
theorem dX5_lay_64 : decode cX5_lay 64 = .ok (.aload_n 0, 1) := by decide +kernel
theorem dX5_lay_65 : decode cX5_lay 65 = .ok (.getfield 9, 3) := by decide +kernel
theorem dX5_lay_68 : decode cX5_lay 68 = .ok (.iload 4, 2) := by decide +kernel
theorem dX5_lay_70 : decode cX5_lay 70 = .ok (.iload 5, 2) := by decide +kernel
theorem dX5_lay_72 : decode cX5_lay 72 = .ok (.iastore, 1) := by decide +kernel
theorem dX5_lay_73 : decode cX5_lay 73 = .ok (.aload_n 0, 1) := by decide +kernel
theorem dX5_lay_74 : decode cX5_lay 74 = .ok (.getfield 33, 3) := by decide +kernel
theorem dX5_lay_77 : decode cX5_lay 77 = .ok (.iload 5, 2) := by decide +kernel
theorem dX5_lay_79 : decode cX5_lay 79 = .ok (.iload 4, 2) := by decide +kernel
theorem dX5_lay_81 : decode cX5_lay 81 = .ok (.iastore, 1) := by decide +kernel
theorem dX5_lay_82 : decode cX5_lay 82 = .ok (.aload_n 0, 1) := by decide +kernel
theorem dX5_lay_83 : decode cX5_lay 83 = .ok (.getfield 30, 3) := by decide +kernel
theorem dX5_lay_86 : decode cX5_lay 86 = .ok (.iload 4, 2) := by decide +kernel
theorem dX5_lay_88 : decode cX5_lay 88 = .ok (.iconst 0, 1) := by decide +kernel
theorem dX5_lay_89 : decode cX5_lay 89 = .ok (.iastore, 1) := by decide +kernel
theorem dX5_lay_90 : decode cX5_lay 90 = .ok (.iinc 4 (-1), 3) := by decide +kernel
theorem dX5_lay_93 : decode cX5_lay 93 = .ok (.goto (-48), 3) := by decide +kernel
theorem dX5_lay_96 : decode cX5_lay 96 = .ok (.aload_n 0, 1) := by decide +kernel
theorem dX5_lay_97 : decode cX5_lay 97 = .ok (.getfield 42, 3) := by decide +kernel
theorem dX5_lay_100 : decode cX5_lay 100 = .ok (.aload_n 1, 1) := by decide +kernel
theorem dX5_lay_101 : decode cX5_lay 101 = .ok (.invokevirtual 62, 3) := by decide +kernel
theorem dX5_lay_104 : decode cX5_lay 104 = .ok (.iconst 0, 1) := by decide +kernel
theorem dX5_lay_105 : decode cX5_lay 105 = .ok (.istore 4, 2) := by decide +kernel
theorem dX5_lay_107 : decode cX5_lay 107 = .ok (.iload 4, 2) := by decide +kernel
theorem dX5_lay_109 : decode cX5_lay 109 = .ok (.aload_n 0, 1) := by decide +kernel
theorem dX5_lay_110 : decode cX5_lay 110 = .ok (.getfield 52, 3) := by decide +kernel
theorem dX5_lay_113 : decode cX5_lay 113 = .ok (.if_icmp .ge 15, 3) := by decide +kernel
theorem dX5_lay_116 : decode cX5_lay 116 = .ok (.aload_n 0, 1) := by decide +kernel
theorem dX5_lay_117 : decode cX5_lay 117 = .ok (.iload 4, 2) := by decide +kernel
theorem dX5_lay_119 : decode cX5_lay 119 = .ok (.invokevirtual 66, 3) := by decide +kernel
theorem dX5_lay_122 : decode cX5_lay 122 = .ok (.iinc 4 1, 3) := by decide +kernel
theorem dX5_lay_125 : decode cX5_lay 125 = .ok (.goto (-18), 3) := by decide +kernel
theorem dX5_lay_128 : decode cX5_lay 128 = .ok (.return_, 1) := by decide +kernel
theorem dX5_mostJoined_0 : decode cX5_mostJoined 0 = .ok (.iconst 0, 1) := by decide +kernel
theorem dX5_mostJoined_1 : decode cX5_mostJoined 1 = .ok (.istore_n 2, 1) := by decide +kernel
theorem dX5_mostJoined_2 : decode cX5_mostJoined 2 = .ok (.iconst (-1), 1) := by decide +kernel
theorem dX5_mostJoined_3 : decode cX5_mostJoined 3 = .ok (.istore_n 3, 1) := by decide +kernel
theorem dX5_mostJoined_4 : decode cX5_mostJoined 4 = .ok (.iconst 0, 1) := by decide +kernel
theorem dX5_mostJoined_5 : decode cX5_mostJoined 5 = .ok (.istore 4, 2) := by decide +kernel
theorem dX5_mostJoined_7 : decode cX5_mostJoined 7 = .ok (.iload 4, 2) := by decide +kernel
theorem dX5_mostJoined_9 : decode cX5_mostJoined 9 = .ok (.aload_n 0, 1) := by decide +kernel
theorem dX5_mostJoined_10 : decode cX5_mostJoined 10 = .ok (.getfield 52, 3) := by decide +kernel
theorem dX5_mostJoined_13 : decode cX5_mostJoined 13 = .ok (.if_icmp .ge 47, 3) := by decide +kernel
theorem dX5_mostJoined_16 : decode cX5_mostJoined 16 = .ok (.iload_n 1, 1) := by decide +kernel
theorem dX5_mostJoined_17 : decode cX5_mostJoined 17 = .ok (.iload 4, 2) := by decide +kernel
theorem dX5_mostJoined_19 : decode cX5_mostJoined 19 = .ok (.invokestatic 70, 3) := by decide +kernel
theorem dX5_mostJoined_22 : decode cX5_mostJoined 22 = .ok (.ifCond .eq 6, 3) := by decide +kernel
theorem dX5_mostJoined_25 : decode cX5_mostJoined 25 = .ok (.goto 29, 3) := by decide +kernel
theorem dX5_mostJoined_28 : decode cX5_mostJoined 28 = .ok (.aload_n 0, 1) := by decide +kernel
theorem dX5_mostJoined_29 : decode cX5_mostJoined 29 = .ok (.getfield 36, 3) := by decide +kernel
theorem dX5_mostJoined_32 : decode cX5_mostJoined 32 = .ok (.iload 4, 2) := by decide +kernel
theorem dX5_mostJoined_34 : decode cX5_mostJoined 34 = .ok (.iaload, 1) := by decide +kernel
theorem dX5_mostJoined_35 : decode cX5_mostJoined 35 = .ok (.iload_n 1, 1) := by decide +kernel
theorem dX5_mostJoined_36 : decode cX5_mostJoined 36 = .ok (.iand, 1) := by decide +kernel
theorem dX5_mostJoined_37 : decode cX5_mostJoined 37 = .ok (.invokestatic 74, 3) := by decide +kernel
theorem dX5_mostJoined_40 : decode cX5_mostJoined 40 = .ok (.istore 5, 2) := by decide +kernel
theorem dX5_mostJoined_42 : decode cX5_mostJoined 42 = .ok (.iload 5, 2) := by decide +kernel
theorem dX5_mostJoined_44 : decode cX5_mostJoined 44 = .ok (.iload_n 3, 1) := by decide +kernel
theorem dX5_mostJoined_45 : decode cX5_mostJoined 45 = .ok (.if_icmp .le 9, 3) := by decide +kernel
theorem dX5_mostJoined_48 : decode cX5_mostJoined 48 = .ok (.iload 4, 2) := by decide +kernel
theorem dX5_mostJoined_50 : decode cX5_mostJoined 50 = .ok (.istore_n 2, 1) := by decide +kernel
theorem dX5_mostJoined_51 : decode cX5_mostJoined 51 = .ok (.iload 5, 2) := by decide +kernel
theorem dX5_mostJoined_53 : decode cX5_mostJoined 53 = .ok (.istore_n 3, 1) := by decide +kernel
theorem dX5_mostJoined_54 : decode cX5_mostJoined 54 = .ok (.iinc 4 1, 3) := by decide +kernel
theorem dX5_mostJoined_57 : decode cX5_mostJoined 57 = .ok (.goto (-50), 3) := by decide +kernel
theorem dX5_mostJoined_60 : decode cX5_mostJoined 60 = .ok (.iload_n 2, 1) := by decide +kernel
theorem dX5_mostJoined_61 : decode cX5_mostJoined 61 = .ok (.ireturn, 1) := by decide +kernel
theorem dX5_takeStep_0 : decode cX5_takeStep 0 = .ok (.aload_n 0, 1) := by decide +kernel
theorem dX5_takeStep_1 : decode cX5_takeStep 1 = .ok (.getfield 9, 3) := by decide +kernel
theorem dX5_takeStep_4 : decode cX5_takeStep 4 = .ok (.iload_n 1, 1) := by decide +kernel
theorem dX5_takeStep_5 : decode cX5_takeStep 5 = .ok (.iaload, 1) := by decide +kernel
theorem dX5_takeStep_6 : decode cX5_takeStep 6 = .ok (.istore_n 2, 1) := by decide +kernel
theorem dX5_takeStep_7 : decode cX5_takeStep 7 = .ok (.aload_n 0, 1) := by decide +kernel
theorem dX5_takeStep_8 : decode cX5_takeStep 8 = .ok (.getfield 42, 3) := by decide +kernel
theorem dX5_takeStep_11 : decode cX5_takeStep 11 = .ok (.getfield 79, 3) := by decide +kernel
theorem dX5_takeStep_14 : decode cX5_takeStep 14 = .ok (.iload_n 2, 1) := by decide +kernel
theorem dX5_takeStep_15 : decode cX5_takeStep 15 = .ok (.iaload, 1) := by decide +kernel
theorem dX5_takeStep_16 : decode cX5_takeStep 16 = .ok (.istore_n 3, 1) := by decide +kernel
theorem dX5_takeStep_17 : decode cX5_takeStep 17 = .ok (.iconst 0, 1) := by decide +kernel
theorem dX5_takeStep_18 : decode cX5_takeStep 18 = .ok (.istore 4, 2) := by decide +kernel
theorem dX5_takeStep_20 : decode cX5_takeStep 20 = .ok (.bipush 14, 2) := by decide +kernel
theorem dX5_takeStep_22 : decode cX5_takeStep 22 = .ok (.istore 5, 2) := by decide +kernel
theorem dX5_takeStep_24 : decode cX5_takeStep 24 = .ok (.iconst 0, 1) := by decide +kernel
theorem dX5_takeStep_25 : decode cX5_takeStep 25 = .ok (.istore 6, 2) := by decide +kernel
theorem dX5_takeStep_27 : decode cX5_takeStep 27 = .ok (.iload 6, 2) := by decide +kernel
theorem dX5_takeStep_29 : decode cX5_takeStep 29 = .ok (.aload_n 0, 1) := by decide +kernel
theorem dX5_takeStep_30 : decode cX5_takeStep 30 = .ok (.getfield 52, 3) := by decide +kernel
theorem dX5_takeStep_33 : decode cX5_takeStep 33 = .ok (.if_icmp .ge 57, 3) := by decide +kernel
theorem dX5_takeStep_36 : decode cX5_takeStep 36 = .ok (.iload_n 3, 1) := by decide +kernel
theorem dX5_takeStep_37 : decode cX5_takeStep 37 = .ok (.iload 6, 2) := by decide +kernel
theorem dX5_takeStep_39 : decode cX5_takeStep 39 = .ok (.invokestatic 70, 3) := by decide +kernel
theorem dX5_takeStep_42 : decode cX5_takeStep 42 = .ok (.ifCond .eq 42, 3) := by decide +kernel
theorem dX5_takeStep_45 : decode cX5_takeStep 45 = .ok (.iload 4, 2) := by decide +kernel
theorem dX5_takeStep_47 : decode cX5_takeStep 47 = .ok (.iconst 4, 1) := by decide +kernel
theorem dX5_takeStep_48 : decode cX5_takeStep 48 = .ok (.if_icmp .lt 6, 3) := by decide +kernel
theorem dX5_takeStep_51 : decode cX5_takeStep 51 = .ok (.goto 33, 3) := by decide +kernel
theorem dX5_takeStep_54 : decode cX5_takeStep 54 = .ok (.aload_n 0, 1) := by decide +kernel
theorem dX5_takeStep_55 : decode cX5_takeStep 55 = .ok (.getfield 15, 3) := by decide +kernel
theorem dX5_takeStep_58 : decode cX5_takeStep 58 = .ok (.iload_n 1, 1) := by decide +kernel
theorem dX5_takeStep_59 : decode cX5_takeStep 59 = .ok (.iconst 4, 1) := by decide +kernel
theorem dX5_takeStep_60 : decode cX5_takeStep 60 = .ok (.imul, 1) := by decide +kernel
theorem dX5_takeStep_61 : decode cX5_takeStep 61 = .ok (.iload 4, 2) := by decide +kernel
theorem dX5_takeStep_63 : decode cX5_takeStep 63 = .ok (.iadd, 1) := by decide +kernel
theorem dX5_takeStep_64 : decode cX5_takeStep 64 = .ok (.iload 6, 2) := by decide +kernel
theorem dX5_takeStep_66 : decode cX5_takeStep 66 = .ok (.iastore, 1) := by decide +kernel
theorem dX5_takeStep_67 : decode cX5_takeStep 67 = .ok (.iinc 4 1, 3) := by decide +kernel
theorem dX5_takeStep_70 : decode cX5_takeStep 70 = .ok (.iload 5, 2) := by decide +kernel
theorem dX5_takeStep_72 : decode cX5_takeStep 72 = .ok (.aload_n 0, 1) := by decide +kernel
theorem dX5_takeStep_73 : decode cX5_takeStep 73 = .ok (.getfield 33, 3) := by decide +kernel
theorem dX5_takeStep_76 : decode cX5_takeStep 76 = .ok (.iload 6, 2) := by decide +kernel
theorem dX5_takeStep_78 : decode cX5_takeStep 78 = .ok (.iaload, 1) := by decide +kernel
theorem dX5_takeStep_79 : decode cX5_takeStep 79 = .ok (.invokestatic 82, 3) := by decide +kernel
theorem dX5_takeStep_82 : decode cX5_takeStep 82 = .ok (.istore 5, 2) := by decide +kernel
theorem dX5_takeStep_84 : decode cX5_takeStep 84 = .ok (.iinc 6 1, 3) := by decide +kernel
theorem dX5_takeStep_87 : decode cX5_takeStep 87 = .ok (.goto (-60), 3) := by decide +kernel
theorem dX5_takeStep_90 : decode cX5_takeStep 90 = .ok (.aload_n 0, 1) := by decide +kernel
theorem dX5_takeStep_91 : decode cX5_takeStep 91 = .ok (.getfield 18, 3) := by decide +kernel
theorem dX5_takeStep_94 : decode cX5_takeStep 94 = .ok (.iload_n 1, 1) := by decide +kernel
theorem dX5_takeStep_95 : decode cX5_takeStep 95 = .ok (.iload 4, 2) := by decide +kernel
theorem dX5_takeStep_97 : decode cX5_takeStep 97 = .ok (.iastore, 1) := by decide +kernel
theorem dX5_takeStep_98 : decode cX5_takeStep 98 = .ok (.aload_n 0, 1) := by decide +kernel
theorem dX5_takeStep_99 : decode cX5_takeStep 99 = .ok (.getfield 21, 3) := by decide +kernel
theorem dX5_takeStep_102 : decode cX5_takeStep 102 = .ok (.iload_n 1, 1) := by decide +kernel
theorem dX5_takeStep_103 : decode cX5_takeStep 103 = .ok (.iload_n 3, 1) := by decide +kernel
theorem dX5_takeStep_104 : decode cX5_takeStep 104 = .ok (.iconst 1, 1) := by decide +kernel
theorem dX5_takeStep_105 : decode cX5_takeStep 105 = .ok (.iload_n 2, 1) := by decide +kernel
theorem dX5_takeStep_106 : decode cX5_takeStep 106 = .ok (.ishl, 1) := by decide +kernel
theorem dX5_takeStep_107 : decode cX5_takeStep 107 = .ok (.ior, 1) := by decide +kernel
theorem dX5_takeStep_108 : decode cX5_takeStep 108 = .ok (.iastore, 1) := by decide +kernel
theorem dX5_takeStep_109 : decode cX5_takeStep 109 = .ok (.aload_n 0, 1) := by decide +kernel
theorem dX5_takeStep_110 : decode cX5_takeStep 110 = .ok (.getfield 24, 3) := by decide +kernel
theorem dX5_takeStep_113 : decode cX5_takeStep 113 = .ok (.iload_n 1, 1) := by decide +kernel
theorem dX5_takeStep_114 : decode cX5_takeStep 114 = .ok (.iload 5, 2) := by decide +kernel
theorem dX5_takeStep_116 : decode cX5_takeStep 116 = .ok (.iastore, 1) := by decide +kernel
theorem dX5_takeStep_117 : decode cX5_takeStep 117 = .ok (.iload 5, 2) := by decide +kernel
theorem dX5_takeStep_119 : decode cX5_takeStep 119 = .ok (.bipush 14, 2) := by decide +kernel
theorem dX5_takeStep_121 : decode cX5_takeStep 121 = .ok (.if_icmp .ge 33, 3) := by decide +kernel
theorem dX5_takeStep_124 : decode cX5_takeStep 124 = .ok (.aload_n 0, 1) := by decide +kernel
theorem dX5_takeStep_125 : decode cX5_takeStep 125 = .ok (.getfield 27, 3) := by decide +kernel
theorem dX5_takeStep_128 : decode cX5_takeStep 128 = .ok (.iload 5, 2) := by decide +kernel
theorem dX5_takeStep_130 : decode cX5_takeStep 130 = .ok (.bipush 14, 2) := by decide +kernel
theorem dX5_takeStep_132 : decode cX5_takeStep 132 = .ok (.imul, 1) := by decide +kernel
theorem dX5_takeStep_133 : decode cX5_takeStep 133 = .ok (.aload_n 0, 1) := by decide +kernel
theorem dX5_takeStep_134 : decode cX5_takeStep 134 = .ok (.getfield 30, 3) := by decide +kernel
theorem dX5_takeStep_137 : decode cX5_takeStep 137 = .ok (.iload 5, 2) := by decide +kernel
theorem dX5_takeStep_139 : decode cX5_takeStep 139 = .ok (.iaload, 1) := by decide +kernel
theorem dX5_takeStep_140 : decode cX5_takeStep 140 = .ok (.iadd, 1) := by decide +kernel
theorem dX5_takeStep_141 : decode cX5_takeStep 141 = .ok (.iload_n 1, 1) := by decide +kernel
theorem dX5_takeStep_142 : decode cX5_takeStep 142 = .ok (.iastore, 1) := by decide +kernel
theorem dX5_takeStep_143 : decode cX5_takeStep 143 = .ok (.aload_n 0, 1) := by decide +kernel
theorem dX5_takeStep_144 : decode cX5_takeStep 144 = .ok (.getfield 30, 3) := by decide +kernel
theorem dX5_takeStep_147 : decode cX5_takeStep 147 = .ok (.iload 5, 2) := by decide +kernel
theorem dX5_takeStep_149 : decode cX5_takeStep 149 = .ok (.dup2, 1) := by decide +kernel
theorem dX5_takeStep_150 : decode cX5_takeStep 150 = .ok (.iaload, 1) := by decide +kernel
theorem dX5_takeStep_151 : decode cX5_takeStep 151 = .ok (.iconst 1, 1) := by decide +kernel
theorem dX5_takeStep_152 : decode cX5_takeStep 152 = .ok (.iadd, 1) := by decide +kernel
theorem dX5_takeStep_153 : decode cX5_takeStep 153 = .ok (.iastore, 1) := by decide +kernel
theorem dX5_takeStep_154 : decode cX5_takeStep 154 = .ok (.aload_n 0, 1) := by decide +kernel
theorem dX5_takeStep_155 : decode cX5_takeStep 155 = .ok (.getfield 42, 3) := by decide +kernel
theorem dX5_takeStep_158 : decode cX5_takeStep 158 = .ok (.iload_n 2, 1) := by decide +kernel
theorem dX5_takeStep_159 : decode cX5_takeStep 159 = .ok (.invokevirtual 88, 3) := by decide +kernel
theorem dX5_takeStep_162 : decode cX5_takeStep 162 = .ok (.return_, 1) := by decide +kernel
def L_X5_mostJoined_7 (a1 : Int32) (t_size : Int32) (t_bagMates : Nat → Int32)  : Nat → Int32 → Int32 → Int32 → Option (Int32)
  | 0, _, _, _ => none
  | n + 1, x2, x3, x4 =>
    if t_size ≤ x4 then
      some (x2)
    else
      cal (f_X8_hasBit a1 x4) fun u4 =>
      if u4 = 0 then
        ldA t_bagMates 14 x4 fun v5 =>
        cal (f_J6_bitCount_0f7a4 (v5 &&& a1)) fun u6 =>
        bnd u6 fun x5_7 =>
        if x5_7 ≤ x3 then
          bnd (x4 + (1 : Int32)) fun x4_8 =>
          L_X5_mostJoined_7 a1 t_size t_bagMates n x2 x3 x4_8
        else
          bnd x4 fun x2_9 =>
          bnd x5_7 fun x3_10 =>
          bnd (x4 + (1 : Int32)) fun x4_11 =>
          L_X5_mostJoined_7 a1 t_size t_bagMates n x2_9 x3_10 x4_11
      else
        bnd (x4 + (1 : Int32)) fun x4_12 =>
        L_X5_mostJoined_7 a1 t_size t_bagMates n x2 x3 x4_12

set_option maxRecDepth 100000 in
set_option maxHeartbeats 1000000 in
theorem w_X5_mostJoined_7 (cA : Nat → ClassId) (q_t : Nat) (q_t_knots : Nat) (q_t_others : Nat) (q_t_otherCount : Nat) (q_t_scopes : Nat) (q_t_users : Nat) (q_t_feeders : Nat) (q_t_feederCount : Nat) (q_t_places : Nat) (q_t_going : Nat) (q_t_bagMates : Nat) (a1 : Int32) (t_size : Int32) (t_bagMates : Nat → Int32) {X : XT}  (C : Cx X cX5_mostJoined RX5 (some .int) cA 1 21 6) {kk nn : Nat} {BB : Option Value → va_W → Prop} (hk : kk ≤ (x_R X).cells ∧ nn ≤ (x_R X).slots) (F : Fx X BB kk nn) (r : Int32) (hB : BB (some (.int r)) [oB q_t 5 [.ref q_t_knots, .ref q_t_others, .ref q_t_otherCount, .ref q_t_scopes, .ref q_t_users, .ref q_t_feeders, .ref q_t_feederCount, .int t_size, .ref q_t_places, .ref q_t_bagMates, .ref q_t_going], aI cA q_t_bagMates 14 t_bagMates])  : ∀ (n : Nat) (x2 : Int32) (x3 : Int32) (x4 : Int32), L_X5_mostJoined_7 a1 t_size t_bagMates n x2 x3 x4 = some r → Go X 6 kk nn 7 [oB q_t 5 [.ref q_t_knots, .ref q_t_others, .ref q_t_otherCount, .ref q_t_scopes, .ref q_t_users, .ref q_t_feeders, .ref q_t_feederCount, .int t_size, .ref q_t_places, .ref q_t_bagMates, .ref q_t_going], aI cA q_t_bagMates 14 t_bagMates] [(0, .ref q_t), (1, .int a1), (2, .int x2), (3, .int x3), (4, .int x4)] [] := by
  intro n
  induction n with
  | zero => intro x2 x3 x4 hf; exact no_some hf
  | succ n ih =>
    intro x2 x3 x4 hf
    rw [L_X5_mostJoined_7] at hf
    refine g_iload C 7 4 dX5_mostJoined_7 rfl ?_
    refine g_aload_n C 9 0 dX5_mostJoined_9 rfl rfl ?_
    refine g_get C 10 0 7 dX5_mostJoined_10 inX5 rfl rfl (by decide) kw_106 rfl ?_
    refine g_icmp_ge C 13 60 dX5_mostJoined_13 (by decide) hf (fun hf => ?_) (fun hf => ?_)
    · refine g_iload_n C 60 2 dX5_mostJoined_60 rfl rfl ?_
      cases hf
      exact g_iret C 61 dX5_mostJoined_61 F hB
    · refine g_iload_n C 16 1 dX5_mostJoined_16 rfl rfl ?_
      refine g_iload C 17 4 dX5_mostJoined_17 rfl ?_
      obtain ⟨u4, hu4, hf⟩ := cal_some hf
      refine g_callSN C 19 [] (rest := []) dX5_mostJoined_19 (c_X8_hasBit (x_l X) cA a1 x4 u4 hu4) (List.mem_of_getElem? (i := 13) rfl) kw_5 kw_6 kw_7 ok_X8_hasBit ⟨Nat.le_of_ble_eq_true rfl, Nat.le_of_ble_eq_true rfl⟩ hk ⟨rfl, rfl⟩ rfl rfl rfl (Nat.le_of_ble_eq_true rfl) rfl (ws' := [oB q_t 5 [.ref q_t_knots, .ref q_t_others, .ref q_t_otherCount, .ref q_t_scopes, .ref q_t_users, .ref q_t_feeders, .ref q_t_feederCount, .int t_size, .ref q_t_places, .ref q_t_bagMates, .ref q_t_going], aI cA q_t_bagMates 14 t_bagMates]) (st' := [.int u4]) (N0 := 2) rfl [none, none] (by decide) rfl rfl ?_
      refine g_if_eq C 22 28 dX5_mostJoined_22 (by decide) hf (fun hf => ?_) (fun hf => ?_)
      · refine g_aload_n C 28 0 dX5_mostJoined_28 rfl rfl ?_
        refine g_get C 29 0 9 dX5_mostJoined_29 inX5 rfl rfl (by decide) kw_107 rfl ?_
        refine g_iload C 32 4 dX5_mostJoined_32 rfl ?_
        refine g_iald C 34 1 dX5_mostJoined_34 rfl hf (fun v5 hf => ?_)
        refine g_iload_n C 35 1 dX5_mostJoined_35 rfl rfl ?_
        refine g_iand C 36 dX5_mostJoined_36 ?_
        obtain ⟨u6, hu6, hf⟩ := cal_some hf
        refine g_callS C 37 [] (rest := []) dX5_mostJoined_37 (c_J6_bitCount_0f7a4 (x_l X) cA (v5 &&& a1) u6 hu6) kw_108 kw_20 kw_21 kw_22 ok_J6_bitCount_0f7a4 ⟨Nat.le_of_ble_eq_true rfl, Nat.le_of_ble_eq_true rfl⟩ hk ⟨rfl, rfl⟩ rfl rfl rfl (Nat.le_of_ble_eq_true rfl) rfl (ws' := [oB q_t 5 [.ref q_t_knots, .ref q_t_others, .ref q_t_otherCount, .ref q_t_scopes, .ref q_t_users, .ref q_t_feeders, .ref q_t_feederCount, .int t_size, .ref q_t_places, .ref q_t_bagMates, .ref q_t_going], aI cA q_t_bagMates 14 t_bagMates]) (st' := [.int u6]) (N0 := 2) rfl [none, none] (by decide) rfl rfl ?_
        refine g_istore C 40 (fun z => [(5, .int z), (0, .ref q_t), (1, .int a1), (2, .int x2), (3, .int x3), (4, .int x4)]) dX5_mostJoined_40 (by decide) (fun _ => rfl) hf (fun x5_7 hf => ?_)
        refine g_iload C 42 0 dX5_mostJoined_42 rfl ?_
        refine g_iload_n C 44 4 dX5_mostJoined_44 rfl rfl ?_
        refine g_icmp_le C 45 54 dX5_mostJoined_45 (by decide) hf (fun hf => ?_) (fun hf => ?_)
        · refine g_iinc C 54 5 (v := x4 + (1 : Int32)) (fun z => [(4, .int z), (5, .int x5_7), (0, .ref q_t), (1, .int a1), (2, .int x2), (3, .int x3)]) dX5_mostJoined_54 rfl rfl (by decide) (fun _ => rfl) hf (fun x4_8 hf => ?_)
          refine g_goto C 57 7 dX5_mostJoined_57 (by decide) ?_
          refine g_lv [2, 3, 4, 5, 0] rfl ?_
          exact ih x2 x3 x4_8 hf
        · refine g_iload C 48 5 dX5_mostJoined_48 rfl ?_
          refine g_istore_n C 50 (fun z => [(2, .int z), (5, .int x5_7), (0, .ref q_t), (1, .int a1), (3, .int x3), (4, .int x4)]) dX5_mostJoined_50 rfl (by decide) (fun _ => rfl) hf (fun x2_9 hf => ?_)
          refine g_iload C 51 1 dX5_mostJoined_51 rfl ?_
          refine g_istore_n C 53 (fun z => [(3, .int z), (2, .int x2_9), (5, .int x5_7), (0, .ref q_t), (1, .int a1), (4, .int x4)]) dX5_mostJoined_53 rfl (by decide) (fun _ => rfl) hf (fun x3_10 hf => ?_)
          refine g_iinc C 54 5 (v := x4 + (1 : Int32)) (fun z => [(4, .int z), (3, .int x3_10), (2, .int x2_9), (5, .int x5_7), (0, .ref q_t), (1, .int a1)]) dX5_mostJoined_54 rfl rfl (by decide) (fun _ => rfl) hf (fun x4_11 hf => ?_)
          refine g_goto C 57 7 dX5_mostJoined_57 (by decide) ?_
          refine g_lv [4, 5, 2, 1, 0] rfl ?_
          exact ih x2_9 x3_10 x4_11 hf
      · refine g_goto C 25 54 dX5_mostJoined_25 (by decide) ?_
        refine g_iinc C 54 4 (v := x4 + (1 : Int32)) (fun z => [(4, .int z), (0, .ref q_t), (1, .int a1), (2, .int x2), (3, .int x3)]) dX5_mostJoined_54 rfl rfl (by decide) (fun _ => rfl) hf (fun x4_12 hf => ?_)
        refine g_goto C 57 7 dX5_mostJoined_57 (by decide) ?_
        refine g_lv [1, 2, 3, 4, 0] rfl ?_
        exact ih x2 x3 x4_12 hf
def f_X5_mostJoined (a1 : Int32) (t_size : Int32) (t_bagMates : Nat → Int32) : Option (Int32) :=
  bnd (0 : Int32) fun x2_1 =>
  bnd (-1 : Int32) fun x3_2 =>
  bnd (0 : Int32) fun x4_3 =>
  L_X5_mostJoined_7 a1 t_size t_bagMates NN x2_1 x3_2 x4_3

set_option maxRecDepth 100000 in
set_option maxHeartbeats 1000000 in
theorem c_X5_mostJoined (l : Launch) (cA : Nat → ClassId) (q_t : Nat) (q_t_knots : Nat) (q_t_others : Nat) (q_t_otherCount : Nat) (q_t_scopes : Nat) (q_t_users : Nat) (q_t_feeders : Nat) (q_t_feederCount : Nat) (t_size : Int32) (q_t_places : Nat) (q_t_going : Nat) (q_t_bagMates : Nat) (t_bagMates : Nat → Int32)  (a1 : Int32) (r : Int32) (hf : f_X5_mostJoined a1 t_size t_bagMates = some r) : MT l cA yX5_mostJoined cX5_mostJoined 6 (some .int) ({ frames := 1, cells := 0, slots := 0, locals := 21 } : Room) [.ref q_t, .int a1] [oB q_t 5 [.ref q_t_knots, .ref q_t_others, .ref q_t_otherCount, .ref q_t_scopes, .ref q_t_users, .ref q_t_feeders, .ref q_t_feederCount, .int t_size, .ref q_t_places, .ref q_t_bagMates, .ref q_t_going], aI cA q_t_bagMates 14 t_bagMates] (sB (some (.int r)) [oB q_t 5 [.ref q_t_knots, .ref q_t_others, .ref q_t_otherCount, .ref q_t_scopes, .ref q_t_users, .ref q_t_feeders, .ref q_t_feederCount, .int t_size, .ref q_t_places, .ref q_t_bagMates, .ref q_t_going], aI cA q_t_bagMates 14 t_bagMates]) := by
  refine MT.of (by decide) (Nat.le_of_ble_eq_true rfl) ?_
  intro X hXl C F hnm hrc hrs
  subst hXl
  have hk : 0 ≤ (x_R X).cells ∧ 0 ≤ (x_R X).slots := ⟨Nat.zero_le _, Nat.zero_le _⟩
  have hB : (sB (some (.int r)) [oB q_t 5 [.ref q_t_knots, .ref q_t_others, .ref q_t_otherCount, .ref q_t_scopes, .ref q_t_users, .ref q_t_feeders, .ref q_t_feederCount, .int t_size, .ref q_t_places, .ref q_t_bagMates, .ref q_t_going], aI cA q_t_bagMates 14 t_bagMates]) (some (.int r)) [oB q_t 5 [.ref q_t_knots, .ref q_t_others, .ref q_t_otherCount, .ref q_t_scopes, .ref q_t_users, .ref q_t_feeders, .ref q_t_feederCount, .int t_size, .ref q_t_places, .ref q_t_bagMates, .ref q_t_going], aI cA q_t_bagMates 14 t_bagMates] := ⟨rfl, rfl⟩
  unfold f_X5_mostJoined at hf
  have C : Cx X cX5_mostJoined RX5 (some .int) cA 1 21 6 := C
  show Go X 6 0 0 0 [oB q_t 5 [.ref q_t_knots, .ref q_t_others, .ref q_t_otherCount, .ref q_t_scopes, .ref q_t_users, .ref q_t_feeders, .ref q_t_feederCount, .int t_size, .ref q_t_places, .ref q_t_bagMates, .ref q_t_going], aI cA q_t_bagMates 14 t_bagMates] [(0, .ref q_t), (1, .int a1)] []
  refine g_iconst C 0 (0 : Int32) dX5_mostJoined_0 (by decide) ?_
  refine g_istore_n C 1 (fun z => [(2, .int z), (0, .ref q_t), (1, .int a1)]) dX5_mostJoined_1 rfl (by decide) (fun _ => rfl) hf (fun x2_1 hf => ?_)
  refine g_iconst C 2 (-1 : Int32) dX5_mostJoined_2 (by decide) ?_
  refine g_istore_n C 3 (fun z => [(3, .int z), (2, .int x2_1), (0, .ref q_t), (1, .int a1)]) dX5_mostJoined_3 rfl (by decide) (fun _ => rfl) hf (fun x3_2 hf => ?_)
  refine g_iconst C 4 (0 : Int32) dX5_mostJoined_4 (by decide) ?_
  refine g_istore C 5 (fun z => [(4, .int z), (3, .int x3_2), (2, .int x2_1), (0, .ref q_t), (1, .int a1)]) dX5_mostJoined_5 (by decide) (fun _ => rfl) hf (fun x4_3 hf => ?_)
  refine g_lv [3, 4, 2, 1, 0] rfl ?_
  exact w_X5_mostJoined_7 cA q_t q_t_knots q_t_others q_t_otherCount q_t_scopes q_t_users q_t_feeders q_t_feederCount q_t_places q_t_going q_t_bagMates a1 t_size t_bagMates C hk F r hB NN x2_1 x3_2 x4_3 hf

def L_X5_takeStep_27 (a1 : Int32) (t_size : Int32) (t_knots : Nat → Int32) (t_places : Nat → Int32)  : Nat → Int32 → Int32 → Int32 → Int32 → Int32 → (Nat → Int32) → (Nat → Int32) → (Nat → Int32) → (Nat → Int32) → (Nat → Int32) → (Nat → Int32) → Int32 → Int32 → (Nat → Int32) → Option ((Nat → Int32) × (Nat → Int32) × (Nat → Int32) × (Nat → Int32) × (Nat → Int32) × (Nat → Int32) × Int32 × Int32 × (Nat → Int32))
  | 0, _, _, _, _, _, _, _, _, _, _, _, _, _, _ => none
  | n + 1, x2, x3, x4, x5, x6, t_others, t_otherCount, t_scopes, t_users, t_feeders, t_feederCount, t_going_left, t_going_newEnds, t_going_near =>
    if t_size ≤ x6 then
      stI t_otherCount 14 a1 x4 fun t_otherCount_8 =>
      stI t_scopes 14 a1 (x3 ||| ((1 : Int32) <<< (x2 &&& 31))) fun t_scopes_9 =>
      stI t_users 14 a1 x5 fun t_users_10 =>
      if (14 : Int32) ≤ x5 then
        cal (f_X1_letGo x2 t_going_left t_going_newEnds t_going_near) fun u11 =>
        some (t_others, t_otherCount_8, t_scopes_9, t_users_10, t_feeders, t_feederCount, u11.1, u11.2.1, u11.2.2)
      else
        ldA t_feederCount 14 x5 fun v12 =>
        stI t_feeders 196 ((x5 * (14 : Int32)) + v12) a1 fun t_feeders_13 =>
        ldA t_feederCount 14 x5 fun v14 =>
        stI t_feederCount 14 x5 (v14 + (1 : Int32)) fun t_feederCount_15 =>
        cal (f_X1_letGo x2 t_going_left t_going_newEnds t_going_near) fun u16 =>
        some (t_others, t_otherCount_8, t_scopes_9, t_users_10, t_feeders_13, t_feederCount_15, u16.1, u16.2.1, u16.2.2)
    else
      cal (f_X8_hasBit x3 x6) fun u17 =>
      if u17 = 0 then
        bnd (x6 + (1 : Int32)) fun x6_18 =>
        L_X5_takeStep_27 a1 t_size t_knots t_places n x2 x3 x4 x5 x6_18 t_others t_otherCount t_scopes t_users t_feeders t_feederCount t_going_left t_going_newEnds t_going_near
      else
        if x4 < (4 : Int32) then
          stI t_others 56 ((a1 * (4 : Int32)) + x4) x6 fun t_others_19 =>
          bnd (x4 + (1 : Int32)) fun x4_20 =>
          ldA t_places 14 x6 fun v21 =>
          bnd (if v21 < x5 then v21 else x5) fun x5_22 =>
          bnd (x6 + (1 : Int32)) fun x6_23 =>
          L_X5_takeStep_27 a1 t_size t_knots t_places n x2 x3 x4_20 x5_22 x6_23 t_others_19 t_otherCount t_scopes t_users t_feeders t_feederCount t_going_left t_going_newEnds t_going_near
        else
          bnd (x6 + (1 : Int32)) fun x6_24 =>
          L_X5_takeStep_27 a1 t_size t_knots t_places n x2 x3 x4 x5 x6_24 t_others t_otherCount t_scopes t_users t_feeders t_feederCount t_going_left t_going_newEnds t_going_near

set_option maxRecDepth 100000 in
set_option maxHeartbeats 1000000 in
theorem w_X5_takeStep_27 (cA : Nat → ClassId) (q_t : Nat) (q_t_bagMates : Nat) (q_t_knots : Nat) (q_t_others : Nat) (q_t_otherCount : Nat) (q_t_scopes : Nat) (q_t_users : Nat) (q_t_feeders : Nat) (q_t_feederCount : Nat) (q_t_places : Nat) (q_t_going : Nat) (q_t_going_near : Nat) (a1 : Int32) (t_size : Int32) (t_knots : Nat → Int32) (t_places : Nat → Int32) {X : XT}  (C : Cx X cX5_takeStep RX5 none cA 3 68 7) {kk nn : Nat} {BB : Option Value → va_W → Prop} (hk : kk ≤ (x_R X).cells ∧ nn ≤ (x_R X).slots) (F : Fx X BB kk nn) (r : (Nat → Int32) × (Nat → Int32) × (Nat → Int32) × (Nat → Int32) × (Nat → Int32) × (Nat → Int32) × Int32 × Int32 × (Nat → Int32)) (hB : BB (none) [oB q_t 5 [.ref q_t_knots, .ref q_t_others, .ref q_t_otherCount, .ref q_t_scopes, .ref q_t_users, .ref q_t_feeders, .ref q_t_feederCount, .int t_size, .ref q_t_places, .ref q_t_bagMates, .ref q_t_going], aI cA q_t_knots 14 t_knots, aI cA q_t_others 56 r.1, aI cA q_t_otherCount 14 r.2.1, aI cA q_t_scopes 14 r.2.2.1, aI cA q_t_users 14 r.2.2.2.1, aI cA q_t_feeders 196 r.2.2.2.2.1, aI cA q_t_feederCount 14 r.2.2.2.2.2.1, aI cA q_t_places 14 t_places, oB q_t_going 1 [.ref q_t_going_near, .int r.2.2.2.2.2.2.1, .int r.2.2.2.2.2.2.2.1], aI cA q_t_going_near 14 r.2.2.2.2.2.2.2.2])  : ∀ (n : Nat) (x2 : Int32) (x3 : Int32) (x4 : Int32) (x5 : Int32) (x6 : Int32) (t_others : Nat → Int32) (t_otherCount : Nat → Int32) (t_scopes : Nat → Int32) (t_users : Nat → Int32) (t_feeders : Nat → Int32) (t_feederCount : Nat → Int32) (t_going_left : Int32) (t_going_newEnds : Int32) (t_going_near : Nat → Int32), L_X5_takeStep_27 a1 t_size t_knots t_places n x2 x3 x4 x5 x6 t_others t_otherCount t_scopes t_users t_feeders t_feederCount t_going_left t_going_newEnds t_going_near = some r → Go X 7 kk nn 27 [oB q_t 5 [.ref q_t_knots, .ref q_t_others, .ref q_t_otherCount, .ref q_t_scopes, .ref q_t_users, .ref q_t_feeders, .ref q_t_feederCount, .int t_size, .ref q_t_places, .ref q_t_bagMates, .ref q_t_going], aI cA q_t_knots 14 t_knots, aI cA q_t_others 56 t_others, aI cA q_t_otherCount 14 t_otherCount, aI cA q_t_scopes 14 t_scopes, aI cA q_t_users 14 t_users, aI cA q_t_feeders 196 t_feeders, aI cA q_t_feederCount 14 t_feederCount, aI cA q_t_places 14 t_places, oB q_t_going 1 [.ref q_t_going_near, .int t_going_left, .int t_going_newEnds], aI cA q_t_going_near 14 t_going_near] [(0, .ref q_t), (1, .int a1), (2, .int x2), (3, .int x3), (4, .int x4), (5, .int x5), (6, .int x6)] [] := by
  intro n
  induction n with
  | zero => intro x2 x3 x4 x5 x6 t_others t_otherCount t_scopes t_users t_feeders t_feederCount t_going_left t_going_newEnds t_going_near hf; exact no_some hf
  | succ n ih =>
    intro x2 x3 x4 x5 x6 t_others t_otherCount t_scopes t_users t_feeders t_feederCount t_going_left t_going_newEnds t_going_near hf
    rw [L_X5_takeStep_27] at hf
    refine g_iload C 27 6 dX5_takeStep_27 rfl ?_
    refine g_aload_n C 29 0 dX5_takeStep_29 rfl rfl ?_
    refine g_get C 30 0 7 dX5_takeStep_30 inX5 rfl rfl (by decide) kw_106 rfl ?_
    refine g_icmp_ge C 33 90 dX5_takeStep_33 (by decide) hf (fun hf => ?_) (fun hf => ?_)
    · refine g_aload_n C 90 0 dX5_takeStep_90 rfl rfl ?_
      refine g_get C 91 0 2 dX5_takeStep_91 inX5 rfl rfl (by decide) kw_112 rfl ?_
      refine g_iload_n C 94 1 dX5_takeStep_94 rfl rfl ?_
      refine g_iload C 95 4 dX5_takeStep_95 rfl ?_
      refine g_iast C 97 3 (fun z => [oB q_t 5 [.ref q_t_knots, .ref q_t_others, .ref q_t_otherCount, .ref q_t_scopes, .ref q_t_users, .ref q_t_feeders, .ref q_t_feederCount, .int t_size, .ref q_t_places, .ref q_t_bagMates, .ref q_t_going], aI cA q_t_knots 14 t_knots, aI cA q_t_others 56 t_others, aI cA q_t_otherCount 14 z, aI cA q_t_scopes 14 t_scopes, aI cA q_t_users 14 t_users, aI cA q_t_feeders 196 t_feeders, aI cA q_t_feederCount 14 t_feederCount, aI cA q_t_places 14 t_places, oB q_t_going 1 [.ref q_t_going_near, .int t_going_left, .int t_going_newEnds], aI cA q_t_going_near 14 t_going_near]) dX5_takeStep_97 rfl (fun _ => rfl) hf (fun t_otherCount_8 hf => ?_)
      refine g_aload_n C 98 0 dX5_takeStep_98 rfl rfl ?_
      refine g_get C 99 0 3 dX5_takeStep_99 inX5 rfl rfl (by decide) kw_113 rfl ?_
      refine g_iload_n C 102 1 dX5_takeStep_102 rfl rfl ?_
      refine g_iload_n C 103 3 dX5_takeStep_103 rfl rfl ?_
      refine g_iconst C 104 (1 : Int32) dX5_takeStep_104 (by decide) ?_
      refine g_iload_n C 105 2 dX5_takeStep_105 rfl rfl ?_
      refine g_ishl C 106 dX5_takeStep_106 ?_
      refine g_ior C 107 dX5_takeStep_107 ?_
      refine g_iast C 108 4 (fun z => [oB q_t 5 [.ref q_t_knots, .ref q_t_others, .ref q_t_otherCount, .ref q_t_scopes, .ref q_t_users, .ref q_t_feeders, .ref q_t_feederCount, .int t_size, .ref q_t_places, .ref q_t_bagMates, .ref q_t_going], aI cA q_t_knots 14 t_knots, aI cA q_t_others 56 t_others, aI cA q_t_otherCount 14 t_otherCount_8, aI cA q_t_scopes 14 z, aI cA q_t_users 14 t_users, aI cA q_t_feeders 196 t_feeders, aI cA q_t_feederCount 14 t_feederCount, aI cA q_t_places 14 t_places, oB q_t_going 1 [.ref q_t_going_near, .int t_going_left, .int t_going_newEnds], aI cA q_t_going_near 14 t_going_near]) dX5_takeStep_108 rfl (fun _ => rfl) hf (fun t_scopes_9 hf => ?_)
      refine g_aload_n C 109 0 dX5_takeStep_109 rfl rfl ?_
      refine g_get C 110 0 4 dX5_takeStep_110 inX5 rfl rfl (by decide) kw_114 rfl ?_
      refine g_iload_n C 113 1 dX5_takeStep_113 rfl rfl ?_
      refine g_iload C 114 5 dX5_takeStep_114 rfl ?_
      refine g_iast C 116 5 (fun z => [oB q_t 5 [.ref q_t_knots, .ref q_t_others, .ref q_t_otherCount, .ref q_t_scopes, .ref q_t_users, .ref q_t_feeders, .ref q_t_feederCount, .int t_size, .ref q_t_places, .ref q_t_bagMates, .ref q_t_going], aI cA q_t_knots 14 t_knots, aI cA q_t_others 56 t_others, aI cA q_t_otherCount 14 t_otherCount_8, aI cA q_t_scopes 14 t_scopes_9, aI cA q_t_users 14 z, aI cA q_t_feeders 196 t_feeders, aI cA q_t_feederCount 14 t_feederCount, aI cA q_t_places 14 t_places, oB q_t_going 1 [.ref q_t_going_near, .int t_going_left, .int t_going_newEnds], aI cA q_t_going_near 14 t_going_near]) dX5_takeStep_116 rfl (fun _ => rfl) hf (fun t_users_10 hf => ?_)
      refine g_iload C 117 5 dX5_takeStep_117 rfl ?_
      refine g_bipush C 119 (14 : Int32) dX5_takeStep_119 (by decide) ?_
      refine g_icmp_ge C 121 154 dX5_takeStep_121 (by decide) hf (fun hf => ?_) (fun hf => ?_)
      · refine g_aload_n C 154 0 dX5_takeStep_154 rfl rfl ?_
        refine g_get C 155 0 10 dX5_takeStep_155 inX5 rfl rfl (by decide) kw_110 rfl ?_
        refine g_iload_n C 158 2 dX5_takeStep_158 rfl rfl ?_
        obtain ⟨u11, hu11, hf⟩ := cal_some hf
        refine g_callV1 C 159 [9, 10] 9 (rest := []) dX5_takeStep_159 (c_X1_letGo (x_l X) cA q_t_going t_going_left t_going_newEnds q_t_going_near t_going_near x2 u11 hu11) kw_115 kw_32 kw_33 kw_16 kw_34 ok_X1_letGo ⟨Nat.le_of_ble_eq_true rfl, Nat.le_of_ble_eq_true rfl⟩ hk ⟨rfl, rfl⟩ rfl rfl rfl rfl rfl (Nat.le_of_ble_eq_true rfl) rfl (ws' := [oB q_t 5 [.ref q_t_knots, .ref q_t_others, .ref q_t_otherCount, .ref q_t_scopes, .ref q_t_users, .ref q_t_feeders, .ref q_t_feederCount, .int t_size, .ref q_t_places, .ref q_t_bagMates, .ref q_t_going], aI cA q_t_knots 14 t_knots, aI cA q_t_others 56 t_others, aI cA q_t_otherCount 14 t_otherCount_8, aI cA q_t_scopes 14 t_scopes_9, aI cA q_t_users 14 t_users_10, aI cA q_t_feeders 196 t_feeders, aI cA q_t_feederCount 14 t_feederCount, aI cA q_t_places 14 t_places, oB q_t_going 1 [.ref q_t_going_near, .int u11.1, .int u11.2.1], aI cA q_t_going_near 14 u11.2.2]) (st' := []) (N0 := 11) rfl [none, none, none, none, none, none, none, none, none, some 0, some 1] (by decide) rfl rfl ?_
        cases hf
        exact g_vret C 162 dX5_takeStep_162 F hB
      · refine g_aload_n C 124 0 dX5_takeStep_124 rfl rfl ?_
        refine g_get C 125 0 5 dX5_takeStep_125 inX5 rfl rfl (by decide) kw_116 rfl ?_
        refine g_iload C 128 5 dX5_takeStep_128 rfl ?_
        refine g_bipush C 130 (14 : Int32) dX5_takeStep_130 (by decide) ?_
        refine g_imul C 132 dX5_takeStep_132 ?_
        refine g_aload_n C 133 0 dX5_takeStep_133 rfl rfl ?_
        refine g_get C 134 0 6 dX5_takeStep_134 inX5 rfl rfl (by decide) kw_117 rfl ?_
        refine g_iload C 137 5 dX5_takeStep_137 rfl ?_
        refine g_iald C 139 7 dX5_takeStep_139 rfl hf (fun v12 hf => ?_)
        refine g_iadd C 140 dX5_takeStep_140 ?_
        refine g_iload_n C 141 1 dX5_takeStep_141 rfl rfl ?_
        refine g_iast C 142 6 (fun z => [oB q_t 5 [.ref q_t_knots, .ref q_t_others, .ref q_t_otherCount, .ref q_t_scopes, .ref q_t_users, .ref q_t_feeders, .ref q_t_feederCount, .int t_size, .ref q_t_places, .ref q_t_bagMates, .ref q_t_going], aI cA q_t_knots 14 t_knots, aI cA q_t_others 56 t_others, aI cA q_t_otherCount 14 t_otherCount_8, aI cA q_t_scopes 14 t_scopes_9, aI cA q_t_users 14 t_users_10, aI cA q_t_feeders 196 z, aI cA q_t_feederCount 14 t_feederCount, aI cA q_t_places 14 t_places, oB q_t_going 1 [.ref q_t_going_near, .int t_going_left, .int t_going_newEnds], aI cA q_t_going_near 14 t_going_near]) dX5_takeStep_142 rfl (fun _ => rfl) hf (fun t_feeders_13 hf => ?_)
        refine g_aload_n C 143 0 dX5_takeStep_143 rfl rfl ?_
        refine g_get C 144 0 6 dX5_takeStep_144 inX5 rfl rfl (by decide) kw_117 rfl ?_
        refine g_iload C 147 5 dX5_takeStep_147 rfl ?_
        refine g_dup2 C 149 dX5_takeStep_149 rfl rfl ?_
        refine g_iald C 150 7 dX5_takeStep_150 rfl hf (fun v14 hf => ?_)
        refine g_iconst C 151 (1 : Int32) dX5_takeStep_151 (by decide) ?_
        refine g_iadd C 152 dX5_takeStep_152 ?_
        refine g_iast C 153 7 (fun z => [oB q_t 5 [.ref q_t_knots, .ref q_t_others, .ref q_t_otherCount, .ref q_t_scopes, .ref q_t_users, .ref q_t_feeders, .ref q_t_feederCount, .int t_size, .ref q_t_places, .ref q_t_bagMates, .ref q_t_going], aI cA q_t_knots 14 t_knots, aI cA q_t_others 56 t_others, aI cA q_t_otherCount 14 t_otherCount_8, aI cA q_t_scopes 14 t_scopes_9, aI cA q_t_users 14 t_users_10, aI cA q_t_feeders 196 t_feeders_13, aI cA q_t_feederCount 14 z, aI cA q_t_places 14 t_places, oB q_t_going 1 [.ref q_t_going_near, .int t_going_left, .int t_going_newEnds], aI cA q_t_going_near 14 t_going_near]) dX5_takeStep_153 rfl (fun _ => rfl) hf (fun t_feederCount_15 hf => ?_)
        refine g_aload_n C 154 0 dX5_takeStep_154 rfl rfl ?_
        refine g_get C 155 0 10 dX5_takeStep_155 inX5 rfl rfl (by decide) kw_110 rfl ?_
        refine g_iload_n C 158 2 dX5_takeStep_158 rfl rfl ?_
        obtain ⟨u16, hu16, hf⟩ := cal_some hf
        refine g_callV1 C 159 [9, 10] 9 (rest := []) dX5_takeStep_159 (c_X1_letGo (x_l X) cA q_t_going t_going_left t_going_newEnds q_t_going_near t_going_near x2 u16 hu16) kw_115 kw_32 kw_33 kw_16 kw_34 ok_X1_letGo ⟨Nat.le_of_ble_eq_true rfl, Nat.le_of_ble_eq_true rfl⟩ hk ⟨rfl, rfl⟩ rfl rfl rfl rfl rfl (Nat.le_of_ble_eq_true rfl) rfl (ws' := [oB q_t 5 [.ref q_t_knots, .ref q_t_others, .ref q_t_otherCount, .ref q_t_scopes, .ref q_t_users, .ref q_t_feeders, .ref q_t_feederCount, .int t_size, .ref q_t_places, .ref q_t_bagMates, .ref q_t_going], aI cA q_t_knots 14 t_knots, aI cA q_t_others 56 t_others, aI cA q_t_otherCount 14 t_otherCount_8, aI cA q_t_scopes 14 t_scopes_9, aI cA q_t_users 14 t_users_10, aI cA q_t_feeders 196 t_feeders_13, aI cA q_t_feederCount 14 t_feederCount_15, aI cA q_t_places 14 t_places, oB q_t_going 1 [.ref q_t_going_near, .int u16.1, .int u16.2.1], aI cA q_t_going_near 14 u16.2.2]) (st' := []) (N0 := 11) rfl [none, none, none, none, none, none, none, none, none, some 0, some 1] (by decide) rfl rfl ?_
        cases hf
        exact g_vret C 162 dX5_takeStep_162 F hB
    · refine g_iload_n C 36 3 dX5_takeStep_36 rfl rfl ?_
      refine g_iload C 37 6 dX5_takeStep_37 rfl ?_
      obtain ⟨u17, hu17, hf⟩ := cal_some hf
      refine g_callSN C 39 [] (rest := []) dX5_takeStep_39 (c_X8_hasBit (x_l X) cA x3 x6 u17 hu17) (List.mem_of_getElem? (i := 13) rfl) kw_5 kw_6 kw_7 ok_X8_hasBit ⟨Nat.le_of_ble_eq_true rfl, Nat.le_of_ble_eq_true rfl⟩ hk ⟨rfl, rfl⟩ rfl rfl rfl (Nat.le_of_ble_eq_true rfl) rfl (ws' := [oB q_t 5 [.ref q_t_knots, .ref q_t_others, .ref q_t_otherCount, .ref q_t_scopes, .ref q_t_users, .ref q_t_feeders, .ref q_t_feederCount, .int t_size, .ref q_t_places, .ref q_t_bagMates, .ref q_t_going], aI cA q_t_knots 14 t_knots, aI cA q_t_others 56 t_others, aI cA q_t_otherCount 14 t_otherCount, aI cA q_t_scopes 14 t_scopes, aI cA q_t_users 14 t_users, aI cA q_t_feeders 196 t_feeders, aI cA q_t_feederCount 14 t_feederCount, aI cA q_t_places 14 t_places, oB q_t_going 1 [.ref q_t_going_near, .int t_going_left, .int t_going_newEnds], aI cA q_t_going_near 14 t_going_near]) (st' := [.int u17]) (N0 := 11) rfl [none, none, none, none, none, none, none, none, none, none, none] (by decide) rfl rfl ?_
      refine g_if_eq C 42 84 dX5_takeStep_42 (by decide) hf (fun hf => ?_) (fun hf => ?_)
      · refine g_iinc C 84 6 (v := x6 + (1 : Int32)) (fun z => [(6, .int z), (0, .ref q_t), (1, .int a1), (2, .int x2), (3, .int x3), (4, .int x4), (5, .int x5)]) dX5_takeStep_84 rfl rfl (by decide) (fun _ => rfl) hf (fun x6_18 hf => ?_)
        refine g_goto C 87 27 dX5_takeStep_87 (by decide) ?_
        refine g_lv [1, 2, 3, 4, 5, 6, 0] rfl ?_
        exact ih x2 x3 x4 x5 x6_18 t_others t_otherCount t_scopes t_users t_feeders t_feederCount t_going_left t_going_newEnds t_going_near hf
      · refine g_iload C 45 4 dX5_takeStep_45 rfl ?_
        refine g_iconst C 47 (4 : Int32) dX5_takeStep_47 (by decide) ?_
        refine g_icmp_lt C 48 54 dX5_takeStep_48 (by decide) hf (fun hf => ?_) (fun hf => ?_)
        · refine g_aload_n C 54 0 dX5_takeStep_54 rfl rfl ?_
          refine g_get C 55 0 1 dX5_takeStep_55 inX5 rfl rfl (by decide) kw_118 rfl ?_
          refine g_iload_n C 58 1 dX5_takeStep_58 rfl rfl ?_
          refine g_iconst C 59 (4 : Int32) dX5_takeStep_59 (by decide) ?_
          refine g_imul C 60 dX5_takeStep_60 ?_
          refine g_iload C 61 4 dX5_takeStep_61 rfl ?_
          refine g_iadd C 63 dX5_takeStep_63 ?_
          refine g_iload C 64 6 dX5_takeStep_64 rfl ?_
          refine g_iast C 66 2 (fun z => [oB q_t 5 [.ref q_t_knots, .ref q_t_others, .ref q_t_otherCount, .ref q_t_scopes, .ref q_t_users, .ref q_t_feeders, .ref q_t_feederCount, .int t_size, .ref q_t_places, .ref q_t_bagMates, .ref q_t_going], aI cA q_t_knots 14 t_knots, aI cA q_t_others 56 z, aI cA q_t_otherCount 14 t_otherCount, aI cA q_t_scopes 14 t_scopes, aI cA q_t_users 14 t_users, aI cA q_t_feeders 196 t_feeders, aI cA q_t_feederCount 14 t_feederCount, aI cA q_t_places 14 t_places, oB q_t_going 1 [.ref q_t_going_near, .int t_going_left, .int t_going_newEnds], aI cA q_t_going_near 14 t_going_near]) dX5_takeStep_66 rfl (fun _ => rfl) hf (fun t_others_19 hf => ?_)
          refine g_iinc C 67 4 (v := x4 + (1 : Int32)) (fun z => [(4, .int z), (0, .ref q_t), (1, .int a1), (2, .int x2), (3, .int x3), (5, .int x5), (6, .int x6)]) dX5_takeStep_67 rfl rfl (by decide) (fun _ => rfl) hf (fun x4_20 hf => ?_)
          refine g_iload C 70 5 dX5_takeStep_70 rfl ?_
          refine g_aload_n C 72 1 dX5_takeStep_72 rfl rfl ?_
          refine g_get C 73 0 8 dX5_takeStep_73 inX5 rfl rfl (by decide) kw_119 rfl ?_
          refine g_iload C 76 6 dX5_takeStep_76 rfl ?_
          refine g_iald C 78 8 dX5_takeStep_78 rfl hf (fun v21 hf => ?_)
          refine g_min C 79 dX5_takeStep_79 kw_120 kw_121 kw_38 kw_122 (by decide) (Nat.le_of_ble_eq_true rfl) hk.1 hk.2 ?_
          refine g_istore C 82 (fun z => [(5, .int z), (4, .int x4_20), (0, .ref q_t), (1, .int a1), (2, .int x2), (3, .int x3), (6, .int x6)]) dX5_takeStep_82 (by decide) (fun _ => rfl) hf (fun x5_22 hf => ?_)
          refine g_iinc C 84 6 (v := x6 + (1 : Int32)) (fun z => [(6, .int z), (5, .int x5_22), (4, .int x4_20), (0, .ref q_t), (1, .int a1), (2, .int x2), (3, .int x3)]) dX5_takeStep_84 rfl rfl (by decide) (fun _ => rfl) hf (fun x6_23 hf => ?_)
          refine g_goto C 87 27 dX5_takeStep_87 (by decide) ?_
          refine g_lv [3, 4, 5, 6, 2, 1, 0] rfl ?_
          exact ih x2 x3 x4_20 x5_22 x6_23 t_others_19 t_otherCount t_scopes t_users t_feeders t_feederCount t_going_left t_going_newEnds t_going_near hf
        · refine g_goto C 51 84 dX5_takeStep_51 (by decide) ?_
          refine g_iinc C 84 6 (v := x6 + (1 : Int32)) (fun z => [(6, .int z), (0, .ref q_t), (1, .int a1), (2, .int x2), (3, .int x3), (4, .int x4), (5, .int x5)]) dX5_takeStep_84 rfl rfl (by decide) (fun _ => rfl) hf (fun x6_24 hf => ?_)
          refine g_goto C 87 27 dX5_takeStep_87 (by decide) ?_
          refine g_lv [1, 2, 3, 4, 5, 6, 0] rfl ?_
          exact ih x2 x3 x4 x5 x6_24 t_others t_otherCount t_scopes t_users t_feeders t_feederCount t_going_left t_going_newEnds t_going_near hf
def f_X5_takeStep (a1 : Int32) (t_size : Int32) (t_knots : Nat → Int32) (t_others : Nat → Int32) (t_otherCount : Nat → Int32) (t_scopes : Nat → Int32) (t_users : Nat → Int32) (t_feeders : Nat → Int32) (t_feederCount : Nat → Int32) (t_places : Nat → Int32) (t_going_left : Int32) (t_going_newEnds : Int32) (t_going_near : Nat → Int32) : Option ((Nat → Int32) × (Nat → Int32) × (Nat → Int32) × (Nat → Int32) × (Nat → Int32) × (Nat → Int32) × Int32 × Int32 × (Nat → Int32)) :=
  ldA t_knots 14 a1 fun v1 =>
  bnd v1 fun x2_2 =>
  ldA t_going_near 14 x2_2 fun v3 =>
  bnd v3 fun x3_4 =>
  bnd (0 : Int32) fun x4_5 =>
  bnd (14 : Int32) fun x5_6 =>
  bnd (0 : Int32) fun x6_7 =>
  L_X5_takeStep_27 a1 t_size t_knots t_places NN x2_2 x3_4 x4_5 x5_6 x6_7 t_others t_otherCount t_scopes t_users t_feeders t_feederCount t_going_left t_going_newEnds t_going_near

set_option maxRecDepth 100000 in
set_option maxHeartbeats 1000000 in
theorem c_X5_takeStep (l : Launch) (cA : Nat → ClassId) (q_t : Nat) (t_size : Int32) (q_t_bagMates : Nat) (q_t_knots : Nat) (t_knots : Nat → Int32) (q_t_others : Nat) (t_others : Nat → Int32) (q_t_otherCount : Nat) (t_otherCount : Nat → Int32) (q_t_scopes : Nat) (t_scopes : Nat → Int32) (q_t_users : Nat) (t_users : Nat → Int32) (q_t_feeders : Nat) (t_feeders : Nat → Int32) (q_t_feederCount : Nat) (t_feederCount : Nat → Int32) (q_t_places : Nat) (t_places : Nat → Int32) (q_t_going : Nat) (t_going_left : Int32) (t_going_newEnds : Int32) (q_t_going_near : Nat) (t_going_near : Nat → Int32)  (a1 : Int32) (r : (Nat → Int32) × (Nat → Int32) × (Nat → Int32) × (Nat → Int32) × (Nat → Int32) × (Nat → Int32) × Int32 × Int32 × (Nat → Int32)) (hf : f_X5_takeStep a1 t_size t_knots t_others t_otherCount t_scopes t_users t_feeders t_feederCount t_places t_going_left t_going_newEnds t_going_near = some r) : MT l cA yX5_takeStep cX5_takeStep 7 none ({ frames := 3, cells := 0, slots := 0, locals := 68 } : Room) [.ref q_t, .int a1] [oB q_t 5 [.ref q_t_knots, .ref q_t_others, .ref q_t_otherCount, .ref q_t_scopes, .ref q_t_users, .ref q_t_feeders, .ref q_t_feederCount, .int t_size, .ref q_t_places, .ref q_t_bagMates, .ref q_t_going], aI cA q_t_knots 14 t_knots, aI cA q_t_others 56 t_others, aI cA q_t_otherCount 14 t_otherCount, aI cA q_t_scopes 14 t_scopes, aI cA q_t_users 14 t_users, aI cA q_t_feeders 196 t_feeders, aI cA q_t_feederCount 14 t_feederCount, aI cA q_t_places 14 t_places, oB q_t_going 1 [.ref q_t_going_near, .int t_going_left, .int t_going_newEnds], aI cA q_t_going_near 14 t_going_near] (sB (none) [oB q_t 5 [.ref q_t_knots, .ref q_t_others, .ref q_t_otherCount, .ref q_t_scopes, .ref q_t_users, .ref q_t_feeders, .ref q_t_feederCount, .int t_size, .ref q_t_places, .ref q_t_bagMates, .ref q_t_going], aI cA q_t_knots 14 t_knots, aI cA q_t_others 56 r.1, aI cA q_t_otherCount 14 r.2.1, aI cA q_t_scopes 14 r.2.2.1, aI cA q_t_users 14 r.2.2.2.1, aI cA q_t_feeders 196 r.2.2.2.2.1, aI cA q_t_feederCount 14 r.2.2.2.2.2.1, aI cA q_t_places 14 t_places, oB q_t_going 1 [.ref q_t_going_near, .int r.2.2.2.2.2.2.1, .int r.2.2.2.2.2.2.2.1], aI cA q_t_going_near 14 r.2.2.2.2.2.2.2.2]) := by
  refine MT.of (by decide) (Nat.le_of_ble_eq_true rfl) ?_
  intro X hXl C F hnm hrc hrs
  subst hXl
  have hk : 0 ≤ (x_R X).cells ∧ 0 ≤ (x_R X).slots := ⟨Nat.zero_le _, Nat.zero_le _⟩
  have hB : (sB (none) [oB q_t 5 [.ref q_t_knots, .ref q_t_others, .ref q_t_otherCount, .ref q_t_scopes, .ref q_t_users, .ref q_t_feeders, .ref q_t_feederCount, .int t_size, .ref q_t_places, .ref q_t_bagMates, .ref q_t_going], aI cA q_t_knots 14 t_knots, aI cA q_t_others 56 r.1, aI cA q_t_otherCount 14 r.2.1, aI cA q_t_scopes 14 r.2.2.1, aI cA q_t_users 14 r.2.2.2.1, aI cA q_t_feeders 196 r.2.2.2.2.1, aI cA q_t_feederCount 14 r.2.2.2.2.2.1, aI cA q_t_places 14 t_places, oB q_t_going 1 [.ref q_t_going_near, .int r.2.2.2.2.2.2.1, .int r.2.2.2.2.2.2.2.1], aI cA q_t_going_near 14 r.2.2.2.2.2.2.2.2]) (none) [oB q_t 5 [.ref q_t_knots, .ref q_t_others, .ref q_t_otherCount, .ref q_t_scopes, .ref q_t_users, .ref q_t_feeders, .ref q_t_feederCount, .int t_size, .ref q_t_places, .ref q_t_bagMates, .ref q_t_going], aI cA q_t_knots 14 t_knots, aI cA q_t_others 56 r.1, aI cA q_t_otherCount 14 r.2.1, aI cA q_t_scopes 14 r.2.2.1, aI cA q_t_users 14 r.2.2.2.1, aI cA q_t_feeders 196 r.2.2.2.2.1, aI cA q_t_feederCount 14 r.2.2.2.2.2.1, aI cA q_t_places 14 t_places, oB q_t_going 1 [.ref q_t_going_near, .int r.2.2.2.2.2.2.1, .int r.2.2.2.2.2.2.2.1], aI cA q_t_going_near 14 r.2.2.2.2.2.2.2.2] := ⟨rfl, rfl⟩
  unfold f_X5_takeStep at hf
  have C : Cx X cX5_takeStep RX5 none cA 3 68 7 := C
  show Go X 7 0 0 0 [oB q_t 5 [.ref q_t_knots, .ref q_t_others, .ref q_t_otherCount, .ref q_t_scopes, .ref q_t_users, .ref q_t_feeders, .ref q_t_feederCount, .int t_size, .ref q_t_places, .ref q_t_bagMates, .ref q_t_going], aI cA q_t_knots 14 t_knots, aI cA q_t_others 56 t_others, aI cA q_t_otherCount 14 t_otherCount, aI cA q_t_scopes 14 t_scopes, aI cA q_t_users 14 t_users, aI cA q_t_feeders 196 t_feeders, aI cA q_t_feederCount 14 t_feederCount, aI cA q_t_places 14 t_places, oB q_t_going 1 [.ref q_t_going_near, .int t_going_left, .int t_going_newEnds], aI cA q_t_going_near 14 t_going_near] [(0, .ref q_t), (1, .int a1)] []
  refine g_aload_n C 0 0 dX5_takeStep_0 rfl rfl ?_
  refine g_get C 1 0 0 dX5_takeStep_1 inX5 rfl rfl (by decide) kw_109 rfl ?_
  refine g_iload_n C 4 1 dX5_takeStep_4 rfl rfl ?_
  refine g_iald C 5 1 dX5_takeStep_5 rfl hf (fun v1 hf => ?_)
  refine g_istore_n C 6 (fun z => [(2, .int z), (0, .ref q_t), (1, .int a1)]) dX5_takeStep_6 rfl (by decide) (fun _ => rfl) hf (fun x2_2 hf => ?_)
  refine g_aload_n C 7 1 dX5_takeStep_7 rfl rfl ?_
  refine g_get C 8 0 10 dX5_takeStep_8 inX5 rfl rfl (by decide) kw_110 rfl ?_
  refine g_get C 11 9 0 dX5_takeStep_11 inX1 rfl rfl (by decide) kw_111 rfl ?_
  refine g_iload_n C 14 0 dX5_takeStep_14 rfl rfl ?_
  refine g_iald C 15 10 dX5_takeStep_15 rfl hf (fun v3 hf => ?_)
  refine g_istore_n C 16 (fun z => [(3, .int z), (2, .int x2_2), (0, .ref q_t), (1, .int a1)]) dX5_takeStep_16 rfl (by decide) (fun _ => rfl) hf (fun x3_4 hf => ?_)
  refine g_iconst C 17 (0 : Int32) dX5_takeStep_17 (by decide) ?_
  refine g_istore C 18 (fun z => [(4, .int z), (3, .int x3_4), (2, .int x2_2), (0, .ref q_t), (1, .int a1)]) dX5_takeStep_18 (by decide) (fun _ => rfl) hf (fun x4_5 hf => ?_)
  refine g_bipush C 20 (14 : Int32) dX5_takeStep_20 (by decide) ?_
  refine g_istore C 22 (fun z => [(5, .int z), (4, .int x4_5), (3, .int x3_4), (2, .int x2_2), (0, .ref q_t), (1, .int a1)]) dX5_takeStep_22 (by decide) (fun _ => rfl) hf (fun x5_6 hf => ?_)
  refine g_iconst C 24 (0 : Int32) dX5_takeStep_24 (by decide) ?_
  refine g_istore C 25 (fun z => [(6, .int z), (5, .int x5_6), (4, .int x4_5), (3, .int x3_4), (2, .int x2_2), (0, .ref q_t), (1, .int a1)]) dX5_takeStep_25 (by decide) (fun _ => rfl) hf (fun x6_7 hf => ?_)
  refine g_lv [5, 6, 4, 3, 2, 1, 0] rfl ?_
  exact w_X5_takeStep_27 cA q_t q_t_bagMates q_t_knots q_t_others q_t_otherCount q_t_scopes q_t_users q_t_feeders q_t_feederCount q_t_places q_t_going q_t_going_near a1 t_size t_knots t_places C hk F r hB NN x2_2 x3_4 x4_5 x5_6 x6_7 t_others t_otherCount t_scopes t_users t_feeders t_feederCount t_going_left t_going_newEnds t_going_near hf

def L_X5_lay_107 (u_size : Int32) (u_near : Nat → Int32) (v_size : Int32) (v_masks : Nat → Int32)  : Nat → Int32 → Int32 → (Nat → Int32) → (Nat → Int32) → (Nat → Int32) → (Nat → Int32) → (Nat → Int32) → (Nat → Int32) → (Nat → Int32) → (Nat → Int32) → (Nat → Int32) → Int32 → Int32 → (Nat → Int32) → Option (Int32 × (Nat → Int32) × (Nat → Int32) × (Nat → Int32) × (Nat → Int32) × (Nat → Int32) × (Nat → Int32) × (Nat → Int32) × (Nat → Int32) × (Nat → Int32) × Int32 × Int32 × (Nat → Int32))
  | 0, _, _, _, _, _, _, _, _, _, _, _, _, _, _ => none
  | n + 1, x4, t_size, t_knots, t_others, t_otherCount, t_scopes, t_users, t_feeders, t_feederCount, t_places, t_bagMates, t_going_left, t_going_newEnds, t_going_near =>
    if t_size ≤ x4 then
      some (t_size, t_knots, t_others, t_otherCount, t_scopes, t_users, t_feeders, t_feederCount, t_places, t_bagMates, t_going_left, t_going_newEnds, t_going_near)
    else
      cal (f_X5_takeStep x4 t_size t_knots t_others t_otherCount t_scopes t_users t_feeders t_feederCount t_places t_going_left t_going_newEnds t_going_near) fun u7 =>
      bnd (x4 + (1 : Int32)) fun x4_8 =>
      L_X5_lay_107 u_size u_near v_size v_masks n x4_8 t_size t_knots u7.1 u7.2.1 u7.2.2.1 u7.2.2.2.1 u7.2.2.2.2.1 u7.2.2.2.2.2.1 t_places t_bagMates u7.2.2.2.2.2.2.1 u7.2.2.2.2.2.2.2.1 u7.2.2.2.2.2.2.2.2

set_option maxRecDepth 100000 in
set_option maxHeartbeats 1000000 in
theorem w_X5_lay_107 (cA : Nat → ClassId) (q_t : Nat) (q_t_knots : Nat) (q_t_others : Nat) (q_t_otherCount : Nat) (q_t_scopes : Nat) (q_t_users : Nat) (q_t_feeders : Nat) (q_t_feederCount : Nat) (q_t_places : Nat) (q_t_bagMates : Nat) (q_t_going : Nat) (q_t_going_near : Nat) (q_u : Nat) (q_u_loads : Nat) (q_u_ties : Nat) (u_edges : Int32) (q_u_near : Nat) (q_v : Nat) (q_v_ups : Nat) (q_v_masks : Nat) (u_size : Int32) (u_near : Nat → Int32) (v_size : Int32) (v_masks : Nat → Int32) {X : XT}  (C : Cx X cX5_lay RX5 none cA 4 94 6) {kk nn : Nat} {BB : Option Value → va_W → Prop} (hk : kk ≤ (x_R X).cells ∧ nn ≤ (x_R X).slots) (F : Fx X BB kk nn) (r : Int32 × (Nat → Int32) × (Nat → Int32) × (Nat → Int32) × (Nat → Int32) × (Nat → Int32) × (Nat → Int32) × (Nat → Int32) × (Nat → Int32) × (Nat → Int32) × Int32 × Int32 × (Nat → Int32)) (hB : BB (none) [oB q_t 5 [.ref q_t_knots, .ref q_t_others, .ref q_t_otherCount, .ref q_t_scopes, .ref q_t_users, .ref q_t_feeders, .ref q_t_feederCount, .int r.1, .ref q_t_places, .ref q_t_bagMates, .ref q_t_going], aI cA q_t_knots 14 r.2.1, aI cA q_t_others 56 r.2.2.1, aI cA q_t_otherCount 14 r.2.2.2.1, aI cA q_t_scopes 14 r.2.2.2.2.1, aI cA q_t_users 14 r.2.2.2.2.2.1, aI cA q_t_feeders 196 r.2.2.2.2.2.2.1, aI cA q_t_feederCount 14 r.2.2.2.2.2.2.2.1, aI cA q_t_places 14 r.2.2.2.2.2.2.2.2.1, aI cA q_t_bagMates 14 r.2.2.2.2.2.2.2.2.2.1, oB q_t_going 1 [.ref q_t_going_near, .int r.2.2.2.2.2.2.2.2.2.2.1, .int r.2.2.2.2.2.2.2.2.2.2.2.1], aI cA q_t_going_near 14 r.2.2.2.2.2.2.2.2.2.2.2.2, oB q_u 4 [.ref q_u_loads, .ref q_u_near, .ref q_u_ties, .int u_size, .int u_edges], aI cA q_u_near 14 u_near, oB q_v 0 [.ref q_v_masks, .ref q_v_ups, .int v_size], aI cA q_v_masks 14 v_masks])  : ∀ (n : Nat) (x4 : Int32) (t_size : Int32) (t_knots : Nat → Int32) (t_others : Nat → Int32) (t_otherCount : Nat → Int32) (t_scopes : Nat → Int32) (t_users : Nat → Int32) (t_feeders : Nat → Int32) (t_feederCount : Nat → Int32) (t_places : Nat → Int32) (t_bagMates : Nat → Int32) (t_going_left : Int32) (t_going_newEnds : Int32) (t_going_near : Nat → Int32), L_X5_lay_107 u_size u_near v_size v_masks n x4 t_size t_knots t_others t_otherCount t_scopes t_users t_feeders t_feederCount t_places t_bagMates t_going_left t_going_newEnds t_going_near = some r → Go X 6 kk nn 107 [oB q_t 5 [.ref q_t_knots, .ref q_t_others, .ref q_t_otherCount, .ref q_t_scopes, .ref q_t_users, .ref q_t_feeders, .ref q_t_feederCount, .int t_size, .ref q_t_places, .ref q_t_bagMates, .ref q_t_going], aI cA q_t_knots 14 t_knots, aI cA q_t_others 56 t_others, aI cA q_t_otherCount 14 t_otherCount, aI cA q_t_scopes 14 t_scopes, aI cA q_t_users 14 t_users, aI cA q_t_feeders 196 t_feeders, aI cA q_t_feederCount 14 t_feederCount, aI cA q_t_places 14 t_places, aI cA q_t_bagMates 14 t_bagMates, oB q_t_going 1 [.ref q_t_going_near, .int t_going_left, .int t_going_newEnds], aI cA q_t_going_near 14 t_going_near, oB q_u 4 [.ref q_u_loads, .ref q_u_near, .ref q_u_ties, .int u_size, .int u_edges], aI cA q_u_near 14 u_near, oB q_v 0 [.ref q_v_masks, .ref q_v_ups, .int v_size], aI cA q_v_masks 14 v_masks] [(0, .ref q_t), (4, .int x4)] [] := by
  intro n
  induction n with
  | zero => intro x4 t_size t_knots t_others t_otherCount t_scopes t_users t_feeders t_feederCount t_places t_bagMates t_going_left t_going_newEnds t_going_near hf; exact no_some hf
  | succ n ih =>
    intro x4 t_size t_knots t_others t_otherCount t_scopes t_users t_feeders t_feederCount t_places t_bagMates t_going_left t_going_newEnds t_going_near hf
    rw [L_X5_lay_107] at hf
    refine g_iload C 107 1 dX5_lay_107 rfl ?_
    refine g_aload_n C 109 0 dX5_lay_109 rfl rfl ?_
    refine g_get C 110 0 7 dX5_lay_110 inX5 rfl rfl (by decide) kw_106 rfl ?_
    refine g_icmp_ge C 113 128 dX5_lay_113 (by decide) hf (fun hf => ?_) (fun hf => ?_)
    · cases hf
      exact g_vret C 128 dX5_lay_128 F hB
    · refine g_aload_n C 116 0 dX5_lay_116 rfl rfl ?_
      refine g_iload C 117 1 dX5_lay_117 rfl ?_
      obtain ⟨u7, hu7, hf⟩ := cal_some hf
      refine g_callV1 C 119 [0, 1, 2, 3, 4, 5, 6, 7, 8, 10, 11] 0 (rest := []) dX5_lay_119 (c_X5_takeStep (x_l X) cA q_t t_size q_t_bagMates q_t_knots t_knots q_t_others t_others q_t_otherCount t_otherCount q_t_scopes t_scopes q_t_users t_users q_t_feeders t_feeders q_t_feederCount t_feederCount q_t_places t_places q_t_going t_going_left t_going_newEnds q_t_going_near t_going_near x4 u7 hu7) kw_128 kw_129 kw_130 kw_131 kw_132 ok_X5_takeStep ⟨Nat.le_of_ble_eq_true rfl, Nat.le_of_ble_eq_true rfl⟩ hk ⟨rfl, rfl⟩ rfl rfl rfl rfl rfl (Nat.le_of_ble_eq_true rfl) rfl (ws' := [oB q_t 5 [.ref q_t_knots, .ref q_t_others, .ref q_t_otherCount, .ref q_t_scopes, .ref q_t_users, .ref q_t_feeders, .ref q_t_feederCount, .int t_size, .ref q_t_places, .ref q_t_bagMates, .ref q_t_going], aI cA q_t_knots 14 t_knots, aI cA q_t_others 56 u7.1, aI cA q_t_otherCount 14 u7.2.1, aI cA q_t_scopes 14 u7.2.2.1, aI cA q_t_users 14 u7.2.2.2.1, aI cA q_t_feeders 196 u7.2.2.2.2.1, aI cA q_t_feederCount 14 u7.2.2.2.2.2.1, aI cA q_t_places 14 t_places, aI cA q_t_bagMates 14 t_bagMates, oB q_t_going 1 [.ref q_t_going_near, .int u7.2.2.2.2.2.2.1, .int u7.2.2.2.2.2.2.2.1], aI cA q_t_going_near 14 u7.2.2.2.2.2.2.2.2, oB q_u 4 [.ref q_u_loads, .ref q_u_near, .ref q_u_ties, .int u_size, .int u_edges], aI cA q_u_near 14 u_near, oB q_v 0 [.ref q_v_masks, .ref q_v_ups, .int v_size], aI cA q_v_masks 14 v_masks]) (st' := []) (N0 := 16) rfl [some 0, some 1, some 2, some 3, some 4, some 5, some 6, some 7, some 8, none, some 9, some 10, none, none, none, none] (by decide) rfl rfl ?_
      refine g_iinc C 122 1 (v := x4 + (1 : Int32)) (fun z => [(4, .int z), (0, .ref q_t)]) dX5_lay_122 rfl rfl (by decide) (fun _ => rfl) hf (fun x4_8 hf => ?_)
      refine g_goto C 125 107 dX5_lay_125 (by decide) ?_
      refine g_lv [1, 0] rfl ?_
      exact ih x4_8 t_size t_knots u7.1 u7.2.1 u7.2.2.1 u7.2.2.2.1 u7.2.2.2.2.1 u7.2.2.2.2.2.1 t_places t_bagMates u7.2.2.2.2.2.2.1 u7.2.2.2.2.2.2.2.1 u7.2.2.2.2.2.2.2.2 hf
def L_X5_lay_45 (u_size : Int32) (u_near : Nat → Int32) (v_size : Int32) (v_masks : Nat → Int32)  : Nat → Int32 → Int32 → Int32 → (Nat → Int32) → (Nat → Int32) → (Nat → Int32) → (Nat → Int32) → (Nat → Int32) → (Nat → Int32) → (Nat → Int32) → (Nat → Int32) → (Nat → Int32) → Int32 → Int32 → (Nat → Int32) → Option (Int32 × (Nat → Int32) × (Nat → Int32) × (Nat → Int32) × (Nat → Int32) × (Nat → Int32) × (Nat → Int32) × (Nat → Int32) × (Nat → Int32) × (Nat → Int32) × Int32 × Int32 × (Nat → Int32))
  | 0, _, _, _, _, _, _, _, _, _, _, _, _, _, _, _ => none
  | n + 1, x3, x4, t_size, t_knots, t_others, t_otherCount, t_scopes, t_users, t_feeders, t_feederCount, t_places, t_bagMates, t_going_left, t_going_newEnds, t_going_near =>
    if x4 < 0 then
      cal (f_X1_start t_going_left t_going_newEnds t_going_near u_size u_near) fun u5 =>
      bnd (0 : Int32) fun x4_6 =>
      L_X5_lay_107 u_size u_near v_size v_masks NN x4_6 t_size t_knots t_others t_otherCount t_scopes t_users t_feeders t_feederCount t_places t_bagMates u5.1 u5.2.1 u5.2.2
    else
      cal (f_X5_mostJoined x3 t_size t_bagMates) fun u9 =>
      bnd u9 fun x5_10 =>
      bnd (x3 ||| ((1 : Int32) <<< (x5_10 &&& 31))) fun x3_11 =>
      stI t_knots 14 x4 x5_10 fun t_knots_12 =>
      stI t_places 14 x5_10 x4 fun t_places_13 =>
      stI t_feederCount 14 x4 (0 : Int32) fun t_feederCount_14 =>
      bnd (x4 + (-1 : Int32)) fun x4_15 =>
      L_X5_lay_45 u_size u_near v_size v_masks n x3_11 x4_15 t_size t_knots_12 t_others t_otherCount t_scopes t_users t_feeders t_feederCount_14 t_places_13 t_bagMates t_going_left t_going_newEnds t_going_near

set_option maxRecDepth 100000 in
set_option maxHeartbeats 1000000 in
theorem w_X5_lay_45 (cA : Nat → ClassId) (q_t : Nat) (q_t_knots : Nat) (q_t_others : Nat) (q_t_otherCount : Nat) (q_t_scopes : Nat) (q_t_users : Nat) (q_t_feeders : Nat) (q_t_feederCount : Nat) (q_t_places : Nat) (q_t_bagMates : Nat) (q_t_going : Nat) (q_t_going_near : Nat) (q_u : Nat) (q_u_loads : Nat) (q_u_ties : Nat) (u_edges : Int32) (q_u_near : Nat) (q_v : Nat) (q_v_ups : Nat) (q_v_masks : Nat) (u_size : Int32) (u_near : Nat → Int32) (v_size : Int32) (v_masks : Nat → Int32) {X : XT}  (C : Cx X cX5_lay RX5 none cA 4 94 6) {kk nn : Nat} {BB : Option Value → va_W → Prop} (hk : kk ≤ (x_R X).cells ∧ nn ≤ (x_R X).slots) (F : Fx X BB kk nn) (r : Int32 × (Nat → Int32) × (Nat → Int32) × (Nat → Int32) × (Nat → Int32) × (Nat → Int32) × (Nat → Int32) × (Nat → Int32) × (Nat → Int32) × (Nat → Int32) × Int32 × Int32 × (Nat → Int32)) (hB : BB (none) [oB q_t 5 [.ref q_t_knots, .ref q_t_others, .ref q_t_otherCount, .ref q_t_scopes, .ref q_t_users, .ref q_t_feeders, .ref q_t_feederCount, .int r.1, .ref q_t_places, .ref q_t_bagMates, .ref q_t_going], aI cA q_t_knots 14 r.2.1, aI cA q_t_others 56 r.2.2.1, aI cA q_t_otherCount 14 r.2.2.2.1, aI cA q_t_scopes 14 r.2.2.2.2.1, aI cA q_t_users 14 r.2.2.2.2.2.1, aI cA q_t_feeders 196 r.2.2.2.2.2.2.1, aI cA q_t_feederCount 14 r.2.2.2.2.2.2.2.1, aI cA q_t_places 14 r.2.2.2.2.2.2.2.2.1, aI cA q_t_bagMates 14 r.2.2.2.2.2.2.2.2.2.1, oB q_t_going 1 [.ref q_t_going_near, .int r.2.2.2.2.2.2.2.2.2.2.1, .int r.2.2.2.2.2.2.2.2.2.2.2.1], aI cA q_t_going_near 14 r.2.2.2.2.2.2.2.2.2.2.2.2, oB q_u 4 [.ref q_u_loads, .ref q_u_near, .ref q_u_ties, .int u_size, .int u_edges], aI cA q_u_near 14 u_near, oB q_v 0 [.ref q_v_masks, .ref q_v_ups, .int v_size], aI cA q_v_masks 14 v_masks])  : ∀ (n : Nat) (x3 : Int32) (x4 : Int32) (t_size : Int32) (t_knots : Nat → Int32) (t_others : Nat → Int32) (t_otherCount : Nat → Int32) (t_scopes : Nat → Int32) (t_users : Nat → Int32) (t_feeders : Nat → Int32) (t_feederCount : Nat → Int32) (t_places : Nat → Int32) (t_bagMates : Nat → Int32) (t_going_left : Int32) (t_going_newEnds : Int32) (t_going_near : Nat → Int32), L_X5_lay_45 u_size u_near v_size v_masks n x3 x4 t_size t_knots t_others t_otherCount t_scopes t_users t_feeders t_feederCount t_places t_bagMates t_going_left t_going_newEnds t_going_near = some r → Go X 6 kk nn 45 [oB q_t 5 [.ref q_t_knots, .ref q_t_others, .ref q_t_otherCount, .ref q_t_scopes, .ref q_t_users, .ref q_t_feeders, .ref q_t_feederCount, .int t_size, .ref q_t_places, .ref q_t_bagMates, .ref q_t_going], aI cA q_t_knots 14 t_knots, aI cA q_t_others 56 t_others, aI cA q_t_otherCount 14 t_otherCount, aI cA q_t_scopes 14 t_scopes, aI cA q_t_users 14 t_users, aI cA q_t_feeders 196 t_feeders, aI cA q_t_feederCount 14 t_feederCount, aI cA q_t_places 14 t_places, aI cA q_t_bagMates 14 t_bagMates, oB q_t_going 1 [.ref q_t_going_near, .int t_going_left, .int t_going_newEnds], aI cA q_t_going_near 14 t_going_near, oB q_u 4 [.ref q_u_loads, .ref q_u_near, .ref q_u_ties, .int u_size, .int u_edges], aI cA q_u_near 14 u_near, oB q_v 0 [.ref q_v_masks, .ref q_v_ups, .int v_size], aI cA q_v_masks 14 v_masks] [(0, .ref q_t), (1, .ref q_u), (3, .int x3), (4, .int x4)] [] := by
  intro n
  induction n with
  | zero => intro x3 x4 t_size t_knots t_others t_otherCount t_scopes t_users t_feeders t_feederCount t_places t_bagMates t_going_left t_going_newEnds t_going_near hf; exact no_some hf
  | succ n ih =>
    intro x3 x4 t_size t_knots t_others t_otherCount t_scopes t_users t_feeders t_feederCount t_places t_bagMates t_going_left t_going_newEnds t_going_near hf
    rw [L_X5_lay_45] at hf
    refine g_iload C 45 3 dX5_lay_45 rfl ?_
    refine g_if_lt C 47 96 dX5_lay_47 (by decide) hf (fun hf => ?_) (fun hf => ?_)
    · refine g_aload_n C 96 0 dX5_lay_96 rfl rfl ?_
      refine g_get C 97 0 10 dX5_lay_97 inX5 rfl rfl (by decide) kw_110 rfl ?_
      refine g_aload_n C 100 1 dX5_lay_100 rfl rfl ?_
      obtain ⟨u5, hu5, hf⟩ := cal_some hf
      refine g_callV1 C 101 [10, 11, 12, 13] 10 (rest := []) dX5_lay_101 (c_X1_start (x_l X) cA q_t_going t_going_left t_going_newEnds q_t_going_near t_going_near q_u q_u_loads q_u_ties u_size u_edges q_u_near u_near u5 hu5) kw_124 kw_125 kw_126 kw_16 kw_127 ok_X1_start ⟨Nat.le_of_ble_eq_true rfl, Nat.le_of_ble_eq_true rfl⟩ hk ⟨rfl, rfl⟩ rfl rfl rfl rfl rfl (Nat.le_of_ble_eq_true rfl) rfl (ws' := [oB q_t 5 [.ref q_t_knots, .ref q_t_others, .ref q_t_otherCount, .ref q_t_scopes, .ref q_t_users, .ref q_t_feeders, .ref q_t_feederCount, .int t_size, .ref q_t_places, .ref q_t_bagMates, .ref q_t_going], aI cA q_t_knots 14 t_knots, aI cA q_t_others 56 t_others, aI cA q_t_otherCount 14 t_otherCount, aI cA q_t_scopes 14 t_scopes, aI cA q_t_users 14 t_users, aI cA q_t_feeders 196 t_feeders, aI cA q_t_feederCount 14 t_feederCount, aI cA q_t_places 14 t_places, aI cA q_t_bagMates 14 t_bagMates, oB q_t_going 1 [.ref q_t_going_near, .int u5.1, .int u5.2.1], aI cA q_t_going_near 14 u5.2.2, oB q_u 4 [.ref q_u_loads, .ref q_u_near, .ref q_u_ties, .int u_size, .int u_edges], aI cA q_u_near 14 u_near, oB q_v 0 [.ref q_v_masks, .ref q_v_ups, .int v_size], aI cA q_v_masks 14 v_masks]) (st' := []) (N0 := 16) rfl [none, none, none, none, none, none, none, none, none, none, some 0, some 1, some 2, some 3, none, none] (by decide) rfl rfl ?_
      refine g_iconst C 104 (0 : Int32) dX5_lay_104 (by decide) ?_
      refine g_istore C 105 (fun z => [(4, .int z), (0, .ref q_t), (1, .ref q_u), (3, .int x3)]) dX5_lay_105 (by decide) (fun _ => rfl) hf (fun x4_6 hf => ?_)
      refine g_lv [1, 0] rfl ?_
      exact w_X5_lay_107 cA q_t q_t_knots q_t_others q_t_otherCount q_t_scopes q_t_users q_t_feeders q_t_feederCount q_t_places q_t_bagMates q_t_going q_t_going_near q_u q_u_loads q_u_ties u_edges q_u_near q_v q_v_ups q_v_masks u_size u_near v_size v_masks C hk F r hB NN x4_6 t_size t_knots t_others t_otherCount t_scopes t_users t_feeders t_feederCount t_places t_bagMates u5.1 u5.2.1 u5.2.2 hf
    · refine g_aload_n C 50 0 dX5_lay_50 rfl rfl ?_
      refine g_iload_n C 51 2 dX5_lay_51 rfl rfl ?_
      obtain ⟨u9, hu9, hf⟩ := cal_some hf
      refine g_callV1 C 52 [0, 9] 0 (rest := []) dX5_lay_52 (c_X5_mostJoined (x_l X) cA q_t q_t_knots q_t_others q_t_otherCount q_t_scopes q_t_users q_t_feeders q_t_feederCount t_size q_t_places q_t_going q_t_bagMates t_bagMates x3 u9 hu9) kw_133 kw_134 kw_135 kw_131 kw_136 ok_X5_mostJoined ⟨Nat.le_of_ble_eq_true rfl, Nat.le_of_ble_eq_true rfl⟩ hk ⟨rfl, rfl⟩ rfl rfl rfl rfl rfl (Nat.le_of_ble_eq_true rfl) rfl (ws' := [oB q_t 5 [.ref q_t_knots, .ref q_t_others, .ref q_t_otherCount, .ref q_t_scopes, .ref q_t_users, .ref q_t_feeders, .ref q_t_feederCount, .int t_size, .ref q_t_places, .ref q_t_bagMates, .ref q_t_going], aI cA q_t_knots 14 t_knots, aI cA q_t_others 56 t_others, aI cA q_t_otherCount 14 t_otherCount, aI cA q_t_scopes 14 t_scopes, aI cA q_t_users 14 t_users, aI cA q_t_feeders 196 t_feeders, aI cA q_t_feederCount 14 t_feederCount, aI cA q_t_places 14 t_places, aI cA q_t_bagMates 14 t_bagMates, oB q_t_going 1 [.ref q_t_going_near, .int t_going_left, .int t_going_newEnds], aI cA q_t_going_near 14 t_going_near, oB q_u 4 [.ref q_u_loads, .ref q_u_near, .ref q_u_ties, .int u_size, .int u_edges], aI cA q_u_near 14 u_near, oB q_v 0 [.ref q_v_masks, .ref q_v_ups, .int v_size], aI cA q_v_masks 14 v_masks]) (st' := [.int u9]) (N0 := 16) rfl [some 0, none, none, none, none, none, none, none, none, some 1, none, none, none, none, none, none] (by decide) rfl rfl ?_
      refine g_istore C 55 (fun z => [(5, .int z), (0, .ref q_t), (1, .ref q_u), (3, .int x3), (4, .int x4)]) dX5_lay_55 (by decide) (fun _ => rfl) hf (fun x5_10 hf => ?_)
      refine g_iload_n C 57 3 dX5_lay_57 rfl rfl ?_
      refine g_iconst C 58 (1 : Int32) dX5_lay_58 (by decide) ?_
      refine g_iload C 59 0 dX5_lay_59 rfl ?_
      refine g_ishl C 61 dX5_lay_61 ?_
      refine g_ior C 62 dX5_lay_62 ?_
      refine g_istore_n C 63 (fun z => [(3, .int z), (5, .int x5_10), (0, .ref q_t), (1, .ref q_u), (4, .int x4)]) dX5_lay_63 rfl (by decide) (fun _ => rfl) hf (fun x3_11 hf => ?_)
      refine g_aload_n C 64 2 dX5_lay_64 rfl rfl ?_
      refine g_get C 65 0 0 dX5_lay_65 inX5 rfl rfl (by decide) kw_109 rfl ?_
      refine g_iload C 68 4 dX5_lay_68 rfl ?_
      refine g_iload C 70 1 dX5_lay_70 rfl ?_
      refine g_iast C 72 1 (fun z => [oB q_t 5 [.ref q_t_knots, .ref q_t_others, .ref q_t_otherCount, .ref q_t_scopes, .ref q_t_users, .ref q_t_feeders, .ref q_t_feederCount, .int t_size, .ref q_t_places, .ref q_t_bagMates, .ref q_t_going], aI cA q_t_knots 14 z, aI cA q_t_others 56 t_others, aI cA q_t_otherCount 14 t_otherCount, aI cA q_t_scopes 14 t_scopes, aI cA q_t_users 14 t_users, aI cA q_t_feeders 196 t_feeders, aI cA q_t_feederCount 14 t_feederCount, aI cA q_t_places 14 t_places, aI cA q_t_bagMates 14 t_bagMates, oB q_t_going 1 [.ref q_t_going_near, .int t_going_left, .int t_going_newEnds], aI cA q_t_going_near 14 t_going_near, oB q_u 4 [.ref q_u_loads, .ref q_u_near, .ref q_u_ties, .int u_size, .int u_edges], aI cA q_u_near 14 u_near, oB q_v 0 [.ref q_v_masks, .ref q_v_ups, .int v_size], aI cA q_v_masks 14 v_masks]) dX5_lay_72 rfl (fun _ => rfl) hf (fun t_knots_12 hf => ?_)
      refine g_aload_n C 73 2 dX5_lay_73 rfl rfl ?_
      refine g_get C 74 0 8 dX5_lay_74 inX5 rfl rfl (by decide) kw_119 rfl ?_
      refine g_iload C 77 1 dX5_lay_77 rfl ?_
      refine g_iload C 79 4 dX5_lay_79 rfl ?_
      refine g_iast C 81 8 (fun z => [oB q_t 5 [.ref q_t_knots, .ref q_t_others, .ref q_t_otherCount, .ref q_t_scopes, .ref q_t_users, .ref q_t_feeders, .ref q_t_feederCount, .int t_size, .ref q_t_places, .ref q_t_bagMates, .ref q_t_going], aI cA q_t_knots 14 t_knots_12, aI cA q_t_others 56 t_others, aI cA q_t_otherCount 14 t_otherCount, aI cA q_t_scopes 14 t_scopes, aI cA q_t_users 14 t_users, aI cA q_t_feeders 196 t_feeders, aI cA q_t_feederCount 14 t_feederCount, aI cA q_t_places 14 z, aI cA q_t_bagMates 14 t_bagMates, oB q_t_going 1 [.ref q_t_going_near, .int t_going_left, .int t_going_newEnds], aI cA q_t_going_near 14 t_going_near, oB q_u 4 [.ref q_u_loads, .ref q_u_near, .ref q_u_ties, .int u_size, .int u_edges], aI cA q_u_near 14 u_near, oB q_v 0 [.ref q_v_masks, .ref q_v_ups, .int v_size], aI cA q_v_masks 14 v_masks]) dX5_lay_81 rfl (fun _ => rfl) hf (fun t_places_13 hf => ?_)
      refine g_aload_n C 82 2 dX5_lay_82 rfl rfl ?_
      refine g_get C 83 0 6 dX5_lay_83 inX5 rfl rfl (by decide) kw_117 rfl ?_
      refine g_iload C 86 4 dX5_lay_86 rfl ?_
      refine g_iconst C 88 (0 : Int32) dX5_lay_88 (by decide) ?_
      refine g_iast C 89 7 (fun z => [oB q_t 5 [.ref q_t_knots, .ref q_t_others, .ref q_t_otherCount, .ref q_t_scopes, .ref q_t_users, .ref q_t_feeders, .ref q_t_feederCount, .int t_size, .ref q_t_places, .ref q_t_bagMates, .ref q_t_going], aI cA q_t_knots 14 t_knots_12, aI cA q_t_others 56 t_others, aI cA q_t_otherCount 14 t_otherCount, aI cA q_t_scopes 14 t_scopes, aI cA q_t_users 14 t_users, aI cA q_t_feeders 196 t_feeders, aI cA q_t_feederCount 14 z, aI cA q_t_places 14 t_places_13, aI cA q_t_bagMates 14 t_bagMates, oB q_t_going 1 [.ref q_t_going_near, .int t_going_left, .int t_going_newEnds], aI cA q_t_going_near 14 t_going_near, oB q_u 4 [.ref q_u_loads, .ref q_u_near, .ref q_u_ties, .int u_size, .int u_edges], aI cA q_u_near 14 u_near, oB q_v 0 [.ref q_v_masks, .ref q_v_ups, .int v_size], aI cA q_v_masks 14 v_masks]) dX5_lay_89 rfl (fun _ => rfl) hf (fun t_feederCount_14 hf => ?_)
      refine g_iinc C 90 4 (v := x4 + (-1 : Int32)) (fun z => [(4, .int z), (3, .int x3_11), (5, .int x5_10), (0, .ref q_t), (1, .ref q_u)]) dX5_lay_90 rfl rfl (by decide) (fun _ => rfl) hf (fun x4_15 hf => ?_)
      refine g_goto C 93 45 dX5_lay_93 (by decide) ?_
      refine g_lv [3, 4, 1, 0] rfl ?_
      exact ih x3_11 x4_15 t_size t_knots_12 t_others t_otherCount t_scopes t_users t_feeders t_feederCount_14 t_places_13 t_bagMates t_going_left t_going_newEnds t_going_near hf
def L_X5_lay_10 (u_size : Int32) (u_near : Nat → Int32) (v_size : Int32) (v_masks : Nat → Int32)  : Nat → Int32 → Int32 → (Nat → Int32) → (Nat → Int32) → (Nat → Int32) → (Nat → Int32) → (Nat → Int32) → (Nat → Int32) → (Nat → Int32) → (Nat → Int32) → (Nat → Int32) → Int32 → Int32 → (Nat → Int32) → Option (Int32 × (Nat → Int32) × (Nat → Int32) × (Nat → Int32) × (Nat → Int32) × (Nat → Int32) × (Nat → Int32) × (Nat → Int32) × (Nat → Int32) × (Nat → Int32) × Int32 × Int32 × (Nat → Int32))
  | 0, _, _, _, _, _, _, _, _, _, _, _, _, _, _ => none
  | n + 1, x3, t_size, t_knots, t_others, t_otherCount, t_scopes, t_users, t_feeders, t_feederCount, t_places, t_bagMates, t_going_left, t_going_newEnds, t_going_near =>
    if t_size ≤ x3 then
      bnd (0 : Int32) fun x3_3 =>
      bnd (t_size - (1 : Int32)) fun x4_4 =>
      L_X5_lay_45 u_size u_near v_size v_masks NN x3_3 x4_4 t_size t_knots t_others t_otherCount t_scopes t_users t_feeders t_feederCount t_places t_bagMates t_going_left t_going_newEnds t_going_near
    else
      cal (f_X0_matesOf x3 v_size v_masks) fun u16 =>
      stI t_bagMates 14 x3 u16 fun t_bagMates_17 =>
      bnd (x3 + (1 : Int32)) fun x3_18 =>
      L_X5_lay_10 u_size u_near v_size v_masks n x3_18 t_size t_knots t_others t_otherCount t_scopes t_users t_feeders t_feederCount t_places t_bagMates_17 t_going_left t_going_newEnds t_going_near

set_option maxRecDepth 100000 in
set_option maxHeartbeats 1000000 in
theorem w_X5_lay_10 (cA : Nat → ClassId) (q_t : Nat) (q_t_knots : Nat) (q_t_others : Nat) (q_t_otherCount : Nat) (q_t_scopes : Nat) (q_t_users : Nat) (q_t_feeders : Nat) (q_t_feederCount : Nat) (q_t_places : Nat) (q_t_bagMates : Nat) (q_t_going : Nat) (q_t_going_near : Nat) (q_u : Nat) (q_u_loads : Nat) (q_u_ties : Nat) (u_edges : Int32) (q_u_near : Nat) (q_v : Nat) (q_v_ups : Nat) (q_v_masks : Nat) (u_size : Int32) (u_near : Nat → Int32) (v_size : Int32) (v_masks : Nat → Int32) {X : XT}  (C : Cx X cX5_lay RX5 none cA 4 94 6) {kk nn : Nat} {BB : Option Value → va_W → Prop} (hk : kk ≤ (x_R X).cells ∧ nn ≤ (x_R X).slots) (F : Fx X BB kk nn) (r : Int32 × (Nat → Int32) × (Nat → Int32) × (Nat → Int32) × (Nat → Int32) × (Nat → Int32) × (Nat → Int32) × (Nat → Int32) × (Nat → Int32) × (Nat → Int32) × Int32 × Int32 × (Nat → Int32)) (hB : BB (none) [oB q_t 5 [.ref q_t_knots, .ref q_t_others, .ref q_t_otherCount, .ref q_t_scopes, .ref q_t_users, .ref q_t_feeders, .ref q_t_feederCount, .int r.1, .ref q_t_places, .ref q_t_bagMates, .ref q_t_going], aI cA q_t_knots 14 r.2.1, aI cA q_t_others 56 r.2.2.1, aI cA q_t_otherCount 14 r.2.2.2.1, aI cA q_t_scopes 14 r.2.2.2.2.1, aI cA q_t_users 14 r.2.2.2.2.2.1, aI cA q_t_feeders 196 r.2.2.2.2.2.2.1, aI cA q_t_feederCount 14 r.2.2.2.2.2.2.2.1, aI cA q_t_places 14 r.2.2.2.2.2.2.2.2.1, aI cA q_t_bagMates 14 r.2.2.2.2.2.2.2.2.2.1, oB q_t_going 1 [.ref q_t_going_near, .int r.2.2.2.2.2.2.2.2.2.2.1, .int r.2.2.2.2.2.2.2.2.2.2.2.1], aI cA q_t_going_near 14 r.2.2.2.2.2.2.2.2.2.2.2.2, oB q_u 4 [.ref q_u_loads, .ref q_u_near, .ref q_u_ties, .int u_size, .int u_edges], aI cA q_u_near 14 u_near, oB q_v 0 [.ref q_v_masks, .ref q_v_ups, .int v_size], aI cA q_v_masks 14 v_masks])  : ∀ (n : Nat) (x3 : Int32) (t_size : Int32) (t_knots : Nat → Int32) (t_others : Nat → Int32) (t_otherCount : Nat → Int32) (t_scopes : Nat → Int32) (t_users : Nat → Int32) (t_feeders : Nat → Int32) (t_feederCount : Nat → Int32) (t_places : Nat → Int32) (t_bagMates : Nat → Int32) (t_going_left : Int32) (t_going_newEnds : Int32) (t_going_near : Nat → Int32), L_X5_lay_10 u_size u_near v_size v_masks n x3 t_size t_knots t_others t_otherCount t_scopes t_users t_feeders t_feederCount t_places t_bagMates t_going_left t_going_newEnds t_going_near = some r → Go X 6 kk nn 10 [oB q_t 5 [.ref q_t_knots, .ref q_t_others, .ref q_t_otherCount, .ref q_t_scopes, .ref q_t_users, .ref q_t_feeders, .ref q_t_feederCount, .int t_size, .ref q_t_places, .ref q_t_bagMates, .ref q_t_going], aI cA q_t_knots 14 t_knots, aI cA q_t_others 56 t_others, aI cA q_t_otherCount 14 t_otherCount, aI cA q_t_scopes 14 t_scopes, aI cA q_t_users 14 t_users, aI cA q_t_feeders 196 t_feeders, aI cA q_t_feederCount 14 t_feederCount, aI cA q_t_places 14 t_places, aI cA q_t_bagMates 14 t_bagMates, oB q_t_going 1 [.ref q_t_going_near, .int t_going_left, .int t_going_newEnds], aI cA q_t_going_near 14 t_going_near, oB q_u 4 [.ref q_u_loads, .ref q_u_near, .ref q_u_ties, .int u_size, .int u_edges], aI cA q_u_near 14 u_near, oB q_v 0 [.ref q_v_masks, .ref q_v_ups, .int v_size], aI cA q_v_masks 14 v_masks] [(0, .ref q_t), (1, .ref q_u), (2, .ref q_v), (3, .int x3)] [] := by
  intro n
  induction n with
  | zero => intro x3 t_size t_knots t_others t_otherCount t_scopes t_users t_feeders t_feederCount t_places t_bagMates t_going_left t_going_newEnds t_going_near hf; exact no_some hf
  | succ n ih =>
    intro x3 t_size t_knots t_others t_otherCount t_scopes t_users t_feeders t_feederCount t_places t_bagMates t_going_left t_going_newEnds t_going_near hf
    rw [L_X5_lay_10] at hf
    refine g_iload_n C 10 3 dX5_lay_10 rfl rfl ?_
    refine g_aload_n C 11 0 dX5_lay_11 rfl rfl ?_
    refine g_get C 12 0 7 dX5_lay_12 inX5 rfl rfl (by decide) kw_106 rfl ?_
    refine g_icmp_ge C 15 35 dX5_lay_15 (by decide) hf (fun hf => ?_) (fun hf => ?_)
    · refine g_iconst C 35 (0 : Int32) dX5_lay_35 (by decide) ?_
      refine g_istore_n C 36 (fun z => [(3, .int z), (0, .ref q_t), (1, .ref q_u), (2, .ref q_v)]) dX5_lay_36 rfl (by decide) (fun _ => rfl) hf (fun x3_3 hf => ?_)
      refine g_aload_n C 37 1 dX5_lay_37 rfl rfl ?_
      refine g_get C 38 0 7 dX5_lay_38 inX5 rfl rfl (by decide) kw_106 rfl ?_
      refine g_iconst C 41 (1 : Int32) dX5_lay_41 (by decide) ?_
      refine g_isub C 42 dX5_lay_42 ?_
      refine g_istore C 43 (fun z => [(4, .int z), (3, .int x3_3), (0, .ref q_t), (1, .ref q_u), (2, .ref q_v)]) dX5_lay_43 (by decide) (fun _ => rfl) hf (fun x4_4 hf => ?_)
      refine g_lv [2, 3, 1, 0] rfl ?_
      exact w_X5_lay_45 cA q_t q_t_knots q_t_others q_t_otherCount q_t_scopes q_t_users q_t_feeders q_t_feederCount q_t_places q_t_bagMates q_t_going q_t_going_near q_u q_u_loads q_u_ties u_edges q_u_near q_v q_v_ups q_v_masks u_size u_near v_size v_masks C hk F r hB NN x3_3 x4_4 t_size t_knots t_others t_otherCount t_scopes t_users t_feeders t_feederCount t_places t_bagMates t_going_left t_going_newEnds t_going_near hf
    · refine g_aload_n C 18 0 dX5_lay_18 rfl rfl ?_
      refine g_get C 19 0 9 dX5_lay_19 inX5 rfl rfl (by decide) kw_107 rfl ?_
      refine g_iload_n C 22 3 dX5_lay_22 rfl rfl ?_
      refine g_aload_n C 23 2 dX5_lay_23 rfl rfl ?_
      refine g_iload_n C 24 3 dX5_lay_24 rfl rfl ?_
      obtain ⟨u16, hu16, hf⟩ := cal_some hf
      refine g_callV1 C 25 [14, 15] 14 (rest := [.int x3, .ref q_t_bagMates]) dX5_lay_25 (c_X0_matesOf (x_l X) cA q_v q_v_ups v_size q_v_masks v_masks x3 u16 hu16) kw_137 kw_138 kw_139 kw_43 kw_140 ok_X0_matesOf ⟨Nat.le_of_ble_eq_true rfl, Nat.le_of_ble_eq_true rfl⟩ hk ⟨rfl, rfl⟩ rfl rfl rfl rfl rfl (Nat.le_of_ble_eq_true rfl) rfl (ws' := [oB q_t 5 [.ref q_t_knots, .ref q_t_others, .ref q_t_otherCount, .ref q_t_scopes, .ref q_t_users, .ref q_t_feeders, .ref q_t_feederCount, .int t_size, .ref q_t_places, .ref q_t_bagMates, .ref q_t_going], aI cA q_t_knots 14 t_knots, aI cA q_t_others 56 t_others, aI cA q_t_otherCount 14 t_otherCount, aI cA q_t_scopes 14 t_scopes, aI cA q_t_users 14 t_users, aI cA q_t_feeders 196 t_feeders, aI cA q_t_feederCount 14 t_feederCount, aI cA q_t_places 14 t_places, aI cA q_t_bagMates 14 t_bagMates, oB q_t_going 1 [.ref q_t_going_near, .int t_going_left, .int t_going_newEnds], aI cA q_t_going_near 14 t_going_near, oB q_u 4 [.ref q_u_loads, .ref q_u_near, .ref q_u_ties, .int u_size, .int u_edges], aI cA q_u_near 14 u_near, oB q_v 0 [.ref q_v_masks, .ref q_v_ups, .int v_size], aI cA q_v_masks 14 v_masks]) (st' := [.int u16, .int x3, .ref q_t_bagMates]) (N0 := 16) rfl [none, none, none, none, none, none, none, none, none, none, none, none, none, none, some 0, some 1] (by decide) rfl rfl ?_
      refine g_iast C 28 9 (fun z => [oB q_t 5 [.ref q_t_knots, .ref q_t_others, .ref q_t_otherCount, .ref q_t_scopes, .ref q_t_users, .ref q_t_feeders, .ref q_t_feederCount, .int t_size, .ref q_t_places, .ref q_t_bagMates, .ref q_t_going], aI cA q_t_knots 14 t_knots, aI cA q_t_others 56 t_others, aI cA q_t_otherCount 14 t_otherCount, aI cA q_t_scopes 14 t_scopes, aI cA q_t_users 14 t_users, aI cA q_t_feeders 196 t_feeders, aI cA q_t_feederCount 14 t_feederCount, aI cA q_t_places 14 t_places, aI cA q_t_bagMates 14 z, oB q_t_going 1 [.ref q_t_going_near, .int t_going_left, .int t_going_newEnds], aI cA q_t_going_near 14 t_going_near, oB q_u 4 [.ref q_u_loads, .ref q_u_near, .ref q_u_ties, .int u_size, .int u_edges], aI cA q_u_near 14 u_near, oB q_v 0 [.ref q_v_masks, .ref q_v_ups, .int v_size], aI cA q_v_masks 14 v_masks]) dX5_lay_28 rfl (fun _ => rfl) hf (fun t_bagMates_17 hf => ?_)
      refine g_iinc C 29 3 (v := x3 + (1 : Int32)) (fun z => [(3, .int z), (0, .ref q_t), (1, .ref q_u), (2, .ref q_v)]) dX5_lay_29 rfl rfl (by decide) (fun _ => rfl) hf (fun x3_18 hf => ?_)
      refine g_goto C 32 10 dX5_lay_32 (by decide) ?_
      refine g_lv [1, 2, 3, 0] rfl ?_
      exact ih x3_18 t_size t_knots t_others t_otherCount t_scopes t_users t_feeders t_feederCount t_places t_bagMates_17 t_going_left t_going_newEnds t_going_near hf
def f_X5_lay (t_size : Int32) (t_knots : Nat → Int32) (t_others : Nat → Int32) (t_otherCount : Nat → Int32) (t_scopes : Nat → Int32) (t_users : Nat → Int32) (t_feeders : Nat → Int32) (t_feederCount : Nat → Int32) (t_places : Nat → Int32) (t_bagMates : Nat → Int32) (t_going_left : Int32) (t_going_newEnds : Int32) (t_going_near : Nat → Int32) (u_size : Int32) (u_near : Nat → Int32) (v_size : Int32) (v_masks : Nat → Int32) : Option (Int32 × (Nat → Int32) × (Nat → Int32) × (Nat → Int32) × (Nat → Int32) × (Nat → Int32) × (Nat → Int32) × (Nat → Int32) × (Nat → Int32) × (Nat → Int32) × Int32 × Int32 × (Nat → Int32)) :=
  bnd u_size fun t_size_1 =>
  bnd (0 : Int32) fun x3_2 =>
  L_X5_lay_10 u_size u_near v_size v_masks NN x3_2 t_size_1 t_knots t_others t_otherCount t_scopes t_users t_feeders t_feederCount t_places t_bagMates t_going_left t_going_newEnds t_going_near

set_option maxRecDepth 100000 in
set_option maxHeartbeats 1000000 in
theorem c_X5_lay (l : Launch) (cA : Nat → ClassId) (q_t : Nat) (t_size : Int32) (q_t_knots : Nat) (t_knots : Nat → Int32) (q_t_others : Nat) (t_others : Nat → Int32) (q_t_otherCount : Nat) (t_otherCount : Nat → Int32) (q_t_scopes : Nat) (t_scopes : Nat → Int32) (q_t_users : Nat) (t_users : Nat → Int32) (q_t_feeders : Nat) (t_feeders : Nat → Int32) (q_t_feederCount : Nat) (t_feederCount : Nat → Int32) (q_t_places : Nat) (t_places : Nat → Int32) (q_t_bagMates : Nat) (t_bagMates : Nat → Int32) (q_t_going : Nat) (t_going_left : Int32) (t_going_newEnds : Int32) (q_t_going_near : Nat) (t_going_near : Nat → Int32) (q_u : Nat) (q_u_loads : Nat) (q_u_ties : Nat) (u_size : Int32) (u_edges : Int32) (q_u_near : Nat) (u_near : Nat → Int32) (q_v : Nat) (q_v_ups : Nat) (v_size : Int32) (q_v_masks : Nat) (v_masks : Nat → Int32)   (r : Int32 × (Nat → Int32) × (Nat → Int32) × (Nat → Int32) × (Nat → Int32) × (Nat → Int32) × (Nat → Int32) × (Nat → Int32) × (Nat → Int32) × (Nat → Int32) × Int32 × Int32 × (Nat → Int32)) (hf : f_X5_lay t_size t_knots t_others t_otherCount t_scopes t_users t_feeders t_feederCount t_places t_bagMates t_going_left t_going_newEnds t_going_near u_size u_near v_size v_masks = some r) : MT l cA yX5_lay cX5_lay 6 none ({ frames := 4, cells := 0, slots := 0, locals := 94 } : Room) [.ref q_t, .ref q_u, .ref q_v] [oB q_t 5 [.ref q_t_knots, .ref q_t_others, .ref q_t_otherCount, .ref q_t_scopes, .ref q_t_users, .ref q_t_feeders, .ref q_t_feederCount, .int t_size, .ref q_t_places, .ref q_t_bagMates, .ref q_t_going], aI cA q_t_knots 14 t_knots, aI cA q_t_others 56 t_others, aI cA q_t_otherCount 14 t_otherCount, aI cA q_t_scopes 14 t_scopes, aI cA q_t_users 14 t_users, aI cA q_t_feeders 196 t_feeders, aI cA q_t_feederCount 14 t_feederCount, aI cA q_t_places 14 t_places, aI cA q_t_bagMates 14 t_bagMates, oB q_t_going 1 [.ref q_t_going_near, .int t_going_left, .int t_going_newEnds], aI cA q_t_going_near 14 t_going_near, oB q_u 4 [.ref q_u_loads, .ref q_u_near, .ref q_u_ties, .int u_size, .int u_edges], aI cA q_u_near 14 u_near, oB q_v 0 [.ref q_v_masks, .ref q_v_ups, .int v_size], aI cA q_v_masks 14 v_masks] (sB (none) [oB q_t 5 [.ref q_t_knots, .ref q_t_others, .ref q_t_otherCount, .ref q_t_scopes, .ref q_t_users, .ref q_t_feeders, .ref q_t_feederCount, .int r.1, .ref q_t_places, .ref q_t_bagMates, .ref q_t_going], aI cA q_t_knots 14 r.2.1, aI cA q_t_others 56 r.2.2.1, aI cA q_t_otherCount 14 r.2.2.2.1, aI cA q_t_scopes 14 r.2.2.2.2.1, aI cA q_t_users 14 r.2.2.2.2.2.1, aI cA q_t_feeders 196 r.2.2.2.2.2.2.1, aI cA q_t_feederCount 14 r.2.2.2.2.2.2.2.1, aI cA q_t_places 14 r.2.2.2.2.2.2.2.2.1, aI cA q_t_bagMates 14 r.2.2.2.2.2.2.2.2.2.1, oB q_t_going 1 [.ref q_t_going_near, .int r.2.2.2.2.2.2.2.2.2.2.1, .int r.2.2.2.2.2.2.2.2.2.2.2.1], aI cA q_t_going_near 14 r.2.2.2.2.2.2.2.2.2.2.2.2, oB q_u 4 [.ref q_u_loads, .ref q_u_near, .ref q_u_ties, .int u_size, .int u_edges], aI cA q_u_near 14 u_near, oB q_v 0 [.ref q_v_masks, .ref q_v_ups, .int v_size], aI cA q_v_masks 14 v_masks]) := by
  refine MT.of (by decide) (Nat.le_of_ble_eq_true rfl) ?_
  intro X hXl C F hnm hrc hrs
  subst hXl
  have hk : 0 ≤ (x_R X).cells ∧ 0 ≤ (x_R X).slots := ⟨Nat.zero_le _, Nat.zero_le _⟩
  have hB : (sB (none) [oB q_t 5 [.ref q_t_knots, .ref q_t_others, .ref q_t_otherCount, .ref q_t_scopes, .ref q_t_users, .ref q_t_feeders, .ref q_t_feederCount, .int r.1, .ref q_t_places, .ref q_t_bagMates, .ref q_t_going], aI cA q_t_knots 14 r.2.1, aI cA q_t_others 56 r.2.2.1, aI cA q_t_otherCount 14 r.2.2.2.1, aI cA q_t_scopes 14 r.2.2.2.2.1, aI cA q_t_users 14 r.2.2.2.2.2.1, aI cA q_t_feeders 196 r.2.2.2.2.2.2.1, aI cA q_t_feederCount 14 r.2.2.2.2.2.2.2.1, aI cA q_t_places 14 r.2.2.2.2.2.2.2.2.1, aI cA q_t_bagMates 14 r.2.2.2.2.2.2.2.2.2.1, oB q_t_going 1 [.ref q_t_going_near, .int r.2.2.2.2.2.2.2.2.2.2.1, .int r.2.2.2.2.2.2.2.2.2.2.2.1], aI cA q_t_going_near 14 r.2.2.2.2.2.2.2.2.2.2.2.2, oB q_u 4 [.ref q_u_loads, .ref q_u_near, .ref q_u_ties, .int u_size, .int u_edges], aI cA q_u_near 14 u_near, oB q_v 0 [.ref q_v_masks, .ref q_v_ups, .int v_size], aI cA q_v_masks 14 v_masks]) (none) [oB q_t 5 [.ref q_t_knots, .ref q_t_others, .ref q_t_otherCount, .ref q_t_scopes, .ref q_t_users, .ref q_t_feeders, .ref q_t_feederCount, .int r.1, .ref q_t_places, .ref q_t_bagMates, .ref q_t_going], aI cA q_t_knots 14 r.2.1, aI cA q_t_others 56 r.2.2.1, aI cA q_t_otherCount 14 r.2.2.2.1, aI cA q_t_scopes 14 r.2.2.2.2.1, aI cA q_t_users 14 r.2.2.2.2.2.1, aI cA q_t_feeders 196 r.2.2.2.2.2.2.1, aI cA q_t_feederCount 14 r.2.2.2.2.2.2.2.1, aI cA q_t_places 14 r.2.2.2.2.2.2.2.2.1, aI cA q_t_bagMates 14 r.2.2.2.2.2.2.2.2.2.1, oB q_t_going 1 [.ref q_t_going_near, .int r.2.2.2.2.2.2.2.2.2.2.1, .int r.2.2.2.2.2.2.2.2.2.2.2.1], aI cA q_t_going_near 14 r.2.2.2.2.2.2.2.2.2.2.2.2, oB q_u 4 [.ref q_u_loads, .ref q_u_near, .ref q_u_ties, .int u_size, .int u_edges], aI cA q_u_near 14 u_near, oB q_v 0 [.ref q_v_masks, .ref q_v_ups, .int v_size], aI cA q_v_masks 14 v_masks] := ⟨rfl, rfl⟩
  unfold f_X5_lay at hf
  have C : Cx X cX5_lay RX5 none cA 4 94 6 := C
  show Go X 6 0 0 0 [oB q_t 5 [.ref q_t_knots, .ref q_t_others, .ref q_t_otherCount, .ref q_t_scopes, .ref q_t_users, .ref q_t_feeders, .ref q_t_feederCount, .int t_size, .ref q_t_places, .ref q_t_bagMates, .ref q_t_going], aI cA q_t_knots 14 t_knots, aI cA q_t_others 56 t_others, aI cA q_t_otherCount 14 t_otherCount, aI cA q_t_scopes 14 t_scopes, aI cA q_t_users 14 t_users, aI cA q_t_feeders 196 t_feeders, aI cA q_t_feederCount 14 t_feederCount, aI cA q_t_places 14 t_places, aI cA q_t_bagMates 14 t_bagMates, oB q_t_going 1 [.ref q_t_going_near, .int t_going_left, .int t_going_newEnds], aI cA q_t_going_near 14 t_going_near, oB q_u 4 [.ref q_u_loads, .ref q_u_near, .ref q_u_ties, .int u_size, .int u_edges], aI cA q_u_near 14 u_near, oB q_v 0 [.ref q_v_masks, .ref q_v_ups, .int v_size], aI cA q_v_masks 14 v_masks] [(0, .ref q_t), (1, .ref q_u), (2, .ref q_v)] []
  refine g_aload_n C 0 0 dX5_lay_0 rfl rfl ?_
  refine g_aload_n C 1 1 dX5_lay_1 rfl rfl ?_
  refine g_get C 2 12 3 dX5_lay_2 inX4 rfl rfl (by decide) kw_123 rfl ?_
  refine g_puti C 5 0 7 tyX5 (fun z => [oB q_t 5 [.ref q_t_knots, .ref q_t_others, .ref q_t_otherCount, .ref q_t_scopes, .ref q_t_users, .ref q_t_feeders, .ref q_t_feederCount, .int z, .ref q_t_places, .ref q_t_bagMates, .ref q_t_going], aI cA q_t_knots 14 t_knots, aI cA q_t_others 56 t_others, aI cA q_t_otherCount 14 t_otherCount, aI cA q_t_scopes 14 t_scopes, aI cA q_t_users 14 t_users, aI cA q_t_feeders 196 t_feeders, aI cA q_t_feederCount 14 t_feederCount, aI cA q_t_places 14 t_places, aI cA q_t_bagMates 14 t_bagMates, oB q_t_going 1 [.ref q_t_going_near, .int t_going_left, .int t_going_newEnds], aI cA q_t_going_near 14 t_going_near, oB q_u 4 [.ref q_u_loads, .ref q_u_near, .ref q_u_ties, .int u_size, .int u_edges], aI cA q_u_near 14 u_near, oB q_v 0 [.ref q_v_masks, .ref q_v_ups, .int v_size], aI cA q_v_masks 14 v_masks]) dX5_lay_5 inX5 tyX5_ok nmX5 rfl rfl (by decide) kw_106 rfl rfl (Nat.le_of_ble_eq_true rfl) (fun _ => rfl) hf (fun t_size_1 hf => ?_)
  refine g_iconst C 8 (0 : Int32) dX5_lay_8 (by decide) ?_
  refine g_istore_n C 9 (fun z => [(3, .int z), (0, .ref q_t), (1, .ref q_u), (2, .ref q_v)]) dX5_lay_9 rfl (by decide) (fun _ => rfl) hf (fun x3_2 hf => ?_)
  refine g_lv [1, 2, 3, 0] rfl ?_
  exact w_X5_lay_10 cA q_t q_t_knots q_t_others q_t_otherCount q_t_scopes q_t_users q_t_feeders q_t_feederCount q_t_places q_t_bagMates q_t_going q_t_going_near q_u q_u_loads q_u_ties u_edges q_u_near q_v q_v_ups q_v_masks u_size u_near v_size v_masks C hk F r hB NN x3_2 t_size_1 t_knots t_others t_otherCount t_scopes t_users t_feeders t_feederCount t_places t_bagMates t_going_left t_going_newEnds t_going_near hf
