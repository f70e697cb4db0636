theorem dX9_isAsked_0 : decode cX9_isAsked 0 = .ok (.aload_n 0, 1) := by decide +kernel
theorem dX9_isAsked_1 : decode cX9_isAsked 1 = .ok (.getfield 29, 3) := by decide +kernel
theorem dX9_isAsked_4 : decode cX9_isAsked 4 = .ok (.ifCond .le 22, 3) := by decide +kernel
theorem dX9_isAsked_7 : decode cX9_isAsked 7 = .ok (.aload_n 0, 1) := by decide +kernel
theorem dX9_isAsked_8 : decode cX9_isAsked 8 = .ok (.invokevirtual 122, 3) := by decide +kernel
theorem dX9_isAsked_11 : decode cX9_isAsked 11 = .ok (.ifCond .ne 15, 3) := by decide +kernel
theorem dX9_isAsked_14 : decode cX9_isAsked 14 = .ok (.aload_n 0, 1) := by decide +kernel
theorem dX9_isAsked_15 : decode cX9_isAsked 15 = .ok (.invokevirtual 110, 3) := by decide +kernel
theorem dX9_isAsked_18 : decode cX9_isAsked 18 = .ok (.iconst 4, 1) := by decide +kernel
theorem dX9_isAsked_19 : decode cX9_isAsked 19 = .ok (.if_icmp .gt 7, 3) := by decide +kernel
theorem dX9_isAsked_22 : decode cX9_isAsked 22 = .ok (.iconst 1, 1) := by decide +kernel
theorem dX9_isAsked_23 : decode cX9_isAsked 23 = .ok (.goto 4, 3) := by decide +kernel
theorem dX9_isAsked_26 : decode cX9_isAsked 26 = .ok (.iconst 0, 1) := by decide +kernel
theorem dX9_isAsked_27 : decode cX9_isAsked 27 = .ok (.ireturn, 1) := by decide +kernel
theorem dX9_free_0 : decode cX9_free 0 = .ok (.iconst 0, 1) := by decide +kernel
theorem dX9_free_1 : decode cX9_free 1 = .ok (.istore_n 1, 1) := by decide +kernel
theorem dX9_free_2 : decode cX9_free 2 = .ok (.iload_n 1, 1) := by decide +kernel
theorem dX9_free_3 : decode cX9_free 3 = .ok (.bipush 14, 2) := by decide +kernel
theorem dX9_free_5 : decode cX9_free 5 = .ok (.if_icmp .ge 16, 3) := by decide +kernel
theorem dX9_free_8 : decode cX9_free 8 = .ok (.aload_n 0, 1) := by decide +kernel
theorem dX9_free_9 : decode cX9_free 9 = .ok (.getfield 57, 3) := by decide +kernel
theorem dX9_free_12 : decode cX9_free 12 = .ok (.iload_n 1, 1) := by decide +kernel
theorem dX9_free_13 : decode cX9_free 13 = .ok (.iconst (-1), 1) := by decide +kernel
theorem dX9_free_14 : decode cX9_free 14 = .ok (.iastore, 1) := by decide +kernel
theorem dX9_free_15 : decode cX9_free 15 = .ok (.iinc 1 1, 3) := by decide +kernel
theorem dX9_free_18 : decode cX9_free 18 = .ok (.goto (-16), 3) := by decide +kernel
theorem dX9_free_21 : decode cX9_free 21 = .ok (.return_, 1) := by decide +kernel
theorem dX9_mayBe_0 : decode cX9_mayBe 0 = .ok (.iload_n 2, 1) := by decide +kernel
theorem dX9_mayBe_1 : decode cX9_mayBe 1 = .ok (.aload_n 0, 1) := by decide +kernel
theorem dX9_mayBe_2 : decode cX9_mayBe 2 = .ok (.getfield 41, 3) := by decide +kernel
theorem dX9_mayBe_5 : decode cX9_mayBe 5 = .ok (.if_icmp .ge 39, 3) := by decide +kernel
theorem dX9_mayBe_8 : decode cX9_mayBe 8 = .ok (.aload_n 0, 1) := by decide +kernel
theorem dX9_mayBe_9 : decode cX9_mayBe 9 = .ok (.getfield 50, 3) := by decide +kernel
theorem dX9_mayBe_12 : decode cX9_mayBe 12 = .ok (.iload_n 1, 1) := by decide +kernel
theorem dX9_mayBe_13 : decode cX9_mayBe 13 = .ok (.iaload, 1) := by decide +kernel
theorem dX9_mayBe_14 : decode cX9_mayBe 14 = .ok (.iload_n 2, 1) := by decide +kernel
theorem dX9_mayBe_15 : decode cX9_mayBe 15 = .ok (.ishr, 1) := by decide +kernel
theorem dX9_mayBe_16 : decode cX9_mayBe 16 = .ok (.iconst 1, 1) := by decide +kernel
theorem dX9_mayBe_17 : decode cX9_mayBe 17 = .ok (.iand, 1) := by decide +kernel
theorem dX9_mayBe_18 : decode cX9_mayBe 18 = .ok (.ifCond .ne 26, 3) := by decide +kernel
theorem dX9_mayBe_21 : decode cX9_mayBe 21 = .ok (.aload_n 0, 1) := by decide +kernel
theorem dX9_mayBe_22 : decode cX9_mayBe 22 = .ok (.getfield 57, 3) := by decide +kernel
theorem dX9_mayBe_25 : decode cX9_mayBe 25 = .ok (.iload_n 1, 1) := by decide +kernel
theorem dX9_mayBe_26 : decode cX9_mayBe 26 = .ok (.iaload, 1) := by decide +kernel
theorem dX9_mayBe_27 : decode cX9_mayBe 27 = .ok (.ifCond .lt 13, 3) := by decide +kernel
theorem dX9_mayBe_30 : decode cX9_mayBe 30 = .ok (.aload_n 0, 1) := by decide +kernel
theorem dX9_mayBe_31 : decode cX9_mayBe 31 = .ok (.getfield 57, 3) := by decide +kernel
theorem dX9_mayBe_34 : decode cX9_mayBe 34 = .ok (.iload_n 1, 1) := by decide +kernel
theorem dX9_mayBe_35 : decode cX9_mayBe 35 = .ok (.iaload, 1) := by decide +kernel
theorem dX9_mayBe_36 : decode cX9_mayBe 36 = .ok (.iload_n 2, 1) := by decide +kernel
theorem dX9_mayBe_37 : decode cX9_mayBe 37 = .ok (.if_icmp .ne 7, 3) := by decide +kernel
theorem dX9_mayBe_40 : decode cX9_mayBe 40 = .ok (.iconst 1, 1) := by decide +kernel
theorem dX9_mayBe_41 : decode cX9_mayBe 41 = .ok (.goto 4, 3) := by decide +kernel
theorem dX9_mayBe_44 : decode cX9_mayBe 44 = .ok (.iconst 0, 1) := by decide +kernel
theorem dX9_mayBe_45 : decode cX9_mayBe 45 = .ok (.ireturn, 1) := by decide +kernel
theorem dX9_code_0 : decode cX9_code 0 = .ok (.iconst 0, 1) := by decide +kernel
theorem dX9_code_1 : decode cX9_code 1 = .ok (.istore_n 2, 1) := by decide +kernel
theorem dX9_code_2 : decode cX9_code 2 = .ok (.iconst 0, 1) := by decide +kernel
theorem dX9_code_3 : decode cX9_code 3 = .ok (.istore_n 3, 1) := by decide +kernel
theorem dX9_code_4 : decode cX9_code 4 = .ok (.iload_n 3, 1) := by decide +kernel
theorem dX9_code_5 : decode cX9_code 5 = .ok (.aload_n 0, 1) := by decide +kernel
theorem dX9_code_6 : decode cX9_code 6 = .ok (.getfield 7, 3) := by decide +kernel
theorem dX9_code_9 : decode cX9_code 9 = .ok (.if_icmp .ge 29, 3) := by decide +kernel
theorem dX9_code_12 : decode cX9_code 12 = .ok (.iload_n 1, 1) := by decide +kernel
theorem dX9_code_13 : decode cX9_code 13 = .ok (.iload_n 3, 1) := by decide +kernel
theorem dX9_code_14 : decode cX9_code 14 = .ok (.ishr, 1) := by decide +kernel
theorem dX9_code_15 : decode cX9_code 15 = .ok (.iconst 1, 1) := by decide +kernel
theorem dX9_code_16 : decode cX9_code 16 = .ok (.iand, 1) := by decide +kernel
theorem dX9_code_17 : decode cX9_code 17 = .ok (.iconst 1, 1) := by decide +kernel
theorem dX9_code_18 : decode cX9_code 18 = .ok (.if_icmp .ne 14, 3) := by decide +kernel
theorem dX9_code_21 : decode cX9_code 21 = .ok (.iconst 4, 1) := by decide +kernel
theorem dX9_code_22 : decode cX9_code 22 = .ok (.iload_n 2, 1) := by decide +kernel
theorem dX9_code_23 : decode cX9_code 23 = .ok (.imul, 1) := by decide +kernel
theorem dX9_code_24 : decode cX9_code 24 = .ok (.aload_n 0, 1) := by decide +kernel
theorem dX9_code_25 : decode cX9_code 25 = .ok (.getfield 60, 3) := by decide +kernel
theorem dX9_code_28 : decode cX9_code 28 = .ok (.iload_n 3, 1) := by decide +kernel
theorem dX9_code_29 : decode cX9_code 29 = .ok (.iaload, 1) := by decide +kernel
theorem dX9_code_30 : decode cX9_code 30 = .ok (.iadd, 1) := by decide +kernel
theorem dX9_code_31 : decode cX9_code 31 = .ok (.istore_n 2, 1) := by decide +kernel
theorem dX9_code_32 : decode cX9_code 32 = .ok (.iinc 3 1, 3) := by decide +kernel
theorem dX9_code_35 : decode cX9_code 35 = .ok (.goto (-31), 3) := by decide +kernel
theorem dX9_code_38 : decode cX9_code 38 = .ok (.iload_n 2, 1) := by decide +kernel
theorem dX9_code_39 : decode cX9_code 39 = .ok (.ireturn, 1) := by decide +kernel
theorem dX9_take_0 : decode cX9_take 0 = .ok (.iload_n 2, 1) := by decide +kernel
theorem dX9_take_1 : decode cX9_take 1 = .ok (.istore_n 3, 1) := by decide +kernel
theorem dX9_take_2 : decode cX9_take 2 = .ok (.iconst 1, 1) := by decide +kernel
theorem dX9_take_3 : decode cX9_take 3 = .ok (.istore 4, 2) := by decide +kernel
theorem dX9_take_5 : decode cX9_take 5 = .ok (.aload_n 0, 1) := by decide +kernel
theorem dX9_take_6 : decode cX9_take 6 = .ok (.getfield 7, 3) := by decide +kernel
theorem dX9_take_9 : decode cX9_take 9 = .ok (.iconst 1, 1) := by decide +kernel
theorem dX9_take_10 : decode cX9_take 10 = .ok (.isub, 1) := by decide +kernel
theorem dX9_take_11 : decode cX9_take 11 = .ok (.istore 5, 2) := by decide +kernel
theorem dX9_take_13 : decode cX9_take 13 = .ok (.iload 5, 2) := by decide +kernel
theorem dX9_take_15 : decode cX9_take 15 = .ok (.ifCond .lt 68, 3) := by decide +kernel
theorem dX9_take_18 : decode cX9_take 18 = .ok (.aload_n 0, 1) := by decide +kernel
theorem dX9_take_19 : decode cX9_take 19 = .ok (.getfield 32, 3) := by decide +kernel
theorem dX9_take_22 : decode cX9_take 22 = .ok (.iload_n 1, 1) := by decide +kernel
theorem dX9_take_23 : decode cX9_take 23 = .ok (.iaload, 1) := by decide +kernel
theorem dX9_take_24 : decode cX9_take 24 = .ok (.iload 5, 2) := by decide +kernel
theorem dX9_take_26 : decode cX9_take 26 = .ok (.ishr, 1) := by decide +kernel
theorem dX9_take_27 : decode cX9_take 27 = .ok (.iconst 1, 1) := by decide +kernel
theorem dX9_take_28 : decode cX9_take 28 = .ok (.iand, 1) := by decide +kernel
theorem dX9_take_29 : decode cX9_take 29 = .ok (.ifCond .ne 6, 3) := by decide +kernel
theorem dX9_take_32 : decode cX9_take 32 = .ok (.goto 45, 3) := by decide +kernel
theorem dX9_take_35 : decode cX9_take 35 = .ok (.aload_n 0, 1) := by decide +kernel
theorem dX9_take_36 : decode cX9_take 36 = .ok (.getfield 60, 3) := by decide +kernel
theorem dX9_take_39 : decode cX9_take 39 = .ok (.iload 5, 2) := by decide +kernel
theorem dX9_take_41 : decode cX9_take 41 = .ok (.iload_n 3, 1) := by decide +kernel
theorem dX9_take_42 : decode cX9_take 42 = .ok (.iconst 4, 1) := by decide +kernel
theorem dX9_take_43 : decode cX9_take 43 = .ok (.irem, 1) := by decide +kernel
theorem dX9_take_44 : decode cX9_take 44 = .ok (.iastore, 1) := by decide +kernel
theorem dX9_take_45 : decode cX9_take 45 = .ok (.iload_n 3, 1) := by decide +kernel
theorem dX9_take_46 : decode cX9_take 46 = .ok (.iconst 4, 1) := by decide +kernel
theorem dX9_take_47 : decode cX9_take 47 = .ok (.idiv, 1) := by decide +kernel
theorem dX9_take_48 : decode cX9_take 48 = .ok (.istore_n 3, 1) := by decide +kernel
theorem dX9_take_49 : decode cX9_take 49 = .ok (.iload 4, 2) := by decide +kernel
theorem dX9_take_51 : decode cX9_take 51 = .ok (.ifCond .eq 23, 3) := by decide +kernel
theorem dX9_take_54 : decode cX9_take 54 = .ok (.aload_n 0, 1) := by decide +kernel
theorem dX9_take_55 : decode cX9_take 55 = .ok (.iload 5, 2) := by decide +kernel
theorem dX9_take_57 : decode cX9_take 57 = .ok (.aload_n 0, 1) := by decide +kernel
theorem dX9_take_58 : decode cX9_take 58 = .ok (.getfield 60, 3) := by decide +kernel
theorem dX9_take_61 : decode cX9_take 61 = .ok (.iload 5, 2) := by decide +kernel
theorem dX9_take_63 : decode cX9_take 63 = .ok (.iaload, 1) := by decide +kernel
theorem dX9_take_64 : decode cX9_take 64 = .ok (.invokevirtual 131, 3) := by decide +kernel
theorem dX9_take_67 : decode cX9_take 67 = .ok (.ifCond .eq 7, 3) := by decide +kernel
theorem dX9_take_70 : decode cX9_take 70 = .ok (.iconst 1, 1) := by decide +kernel
theorem dX9_take_71 : decode cX9_take 71 = .ok (.goto 4, 3) := by decide +kernel
theorem dX9_take_74 : decode cX9_take 74 = .ok (.iconst 0, 1) := by decide +kernel
theorem dX9_take_75 : decode cX9_take 75 = .ok (.istore 4, 2) := by decide +kernel
theorem dX9_take_77 : decode cX9_take 77 = .ok (.iinc 5 (-1), 3) := by decide +kernel
theorem dX9_take_80 : decode cX9_take 80 = .ok (.goto (-67), 3) := by decide +kernel
theorem dX9_take_83 : decode cX9_take 83 = .ok (.iconst 0, 1) := by decide +kernel
theorem dX9_take_84 : decode cX9_take 84 = .ok (.istore 5, 2) := by decide +kernel
theorem dX9_take_86 : decode cX9_take 86 = .ok (.iload 5, 2) := by decide +kernel
theorem dX9_take_88 : decode cX9_take 88 = .ok (.aload_n 0, 1) := by decide +kernel
theorem dX9_take_89 : decode cX9_take 89 = .ok (.getfield 7, 3) := by decide +kernel
theorem dX9_take_92 : decode cX9_take 92 = .ok (.if_icmp .ge 108, 3) := by decide +kernel
theorem dX9_take_95 : decode cX9_take 95 = .ok (.iload 4, 2) := by decide +kernel
theorem dX9_take_97 : decode cX9_take 97 = .ok (.ifCond .eq 103, 3) := by decide +kernel
theorem dX9_take_100 : decode cX9_take 100 = .ok (.iconst 0, 1) := by decide +kernel
theorem dX9_take_101 : decode cX9_take 101 = .ok (.istore 6, 2) := by decide +kernel
theorem dX9_take_103 : decode cX9_take 103 = .ok (.iload 6, 2) := by decide +kernel
theorem dX9_take_105 : decode cX9_take 105 = .ok (.iload 5, 2) := by decide +kernel
theorem dX9_take_107 : decode cX9_take 107 = .ok (.if_icmp .ge 87, 3) := by decide +kernel
theorem dX9_take_110 : decode cX9_take 110 = .ok (.iload 4, 2) := by decide +kernel
theorem dX9_take_112 : decode cX9_take 112 = .ok (.ifCond .eq 82, 3) := by decide +kernel
theorem dX9_take_115 : decode cX9_take 115 = .ok (.aload_n 0, 1) := by decide +kernel
theorem dX9_take_116 : decode cX9_take 116 = .ok (.getfield 32, 3) := by decide +kernel
theorem dX9_take_119 : decode cX9_take 119 = .ok (.iload_n 1, 1) := by decide +kernel
theorem dX9_take_120 : decode cX9_take 120 = .ok (.iaload, 1) := by decide +kernel
theorem dX9_take_121 : decode cX9_take 121 = .ok (.iload 5, 2) := by decide +kernel
theorem dX9_take_123 : decode cX9_take 123 = .ok (.ishr, 1) := by decide +kernel
theorem dX9_take_124 : decode cX9_take 124 = .ok (.iconst 1, 1) := by decide +kernel
theorem dX9_take_125 : decode cX9_take 125 = .ok (.iand, 1) := by decide +kernel
theorem dX9_take_126 : decode cX9_take 126 = .ok (.iconst 1, 1) := by decide +kernel
theorem dX9_take_127 : decode cX9_take 127 = .ok (.if_icmp .ne 61, 3) := by decide +kernel
theorem dX9_take_130 : decode cX9_take 130 = .ok (.aload_n 0, 1) := by decide +kernel
theorem dX9_take_131 : decode cX9_take 131 = .ok (.getfield 32, 3) := by decide +kernel
theorem dX9_take_134 : decode cX9_take 134 = .ok (.iload_n 1, 1) := by decide +kernel
theorem dX9_take_135 : decode cX9_take 135 = .ok (.iaload, 1) := by decide +kernel
theorem dX9_take_136 : decode cX9_take 136 = .ok (.iload 6, 2) := by decide +kernel
theorem dX9_take_138 : decode cX9_take 138 = .ok (.ishr, 1) := by decide +kernel
theorem dX9_take_139 : decode cX9_take 139 = .ok (.iconst 1, 1) := by decide +kernel
theorem dX9_take_140 : decode cX9_take 140 = .ok (.iand, 1) := by decide +kernel
theorem dX9_take_141 : decode cX9_take 141 = .ok (.iconst 1, 1) := by decide +kernel
theorem dX9_take_142 : decode cX9_take 142 = .ok (.if_icmp .ne 46, 3) := by decide +kernel
theorem dX9_take_145 : decode cX9_take 145 = .ok (.aload_n 0, 1) := by decide +kernel
theorem dX9_take_146 : decode cX9_take 146 = .ok (.iload 5, 2) := by decide +kernel
theorem dX9_take_148 : decode cX9_take 148 = .ok (.iload 6, 2) := by decide +kernel
theorem dX9_take_150 : decode cX9_take 150 = .ok (.invokevirtual 90, 3) := by decide +kernel
theorem dX9_take_153 : decode cX9_take 153 = .ok (.ifCond .eq 35, 3) := by decide +kernel
theorem dX9_take_156 : decode cX9_take 156 = .ok (.aload_n 0, 1) := by decide +kernel
theorem dX9_take_157 : decode cX9_take 157 = .ok (.getfield 53, 3) := by decide +kernel
theorem dX9_take_160 : decode cX9_take 160 = .ok (.iconst 4, 1) := by decide +kernel
theorem dX9_take_161 : decode cX9_take 161 = .ok (.aload_n 0, 1) := by decide +kernel
theorem dX9_take_162 : decode cX9_take 162 = .ok (.getfield 60, 3) := by decide +kernel
theorem dX9_take_165 : decode cX9_take 165 = .ok (.iload 5, 2) := by decide +kernel
theorem dX9_take_167 : decode cX9_take 167 = .ok (.iaload, 1) := by decide +kernel
theorem dX9_take_168 : decode cX9_take 168 = .ok (.imul, 1) := by decide +kernel
theorem dX9_take_169 : decode cX9_take 169 = .ok (.aload_n 0, 1) := by decide +kernel
theorem dX9_take_170 : decode cX9_take 170 = .ok (.getfield 60, 3) := by decide +kernel
theorem dX9_take_173 : decode cX9_take 173 = .ok (.iload 6, 2) := by decide +kernel
theorem dX9_take_175 : decode cX9_take 175 = .ok (.iaload, 1) := by decide +kernel
theorem dX9_take_176 : decode cX9_take 176 = .ok (.iadd, 1) := by decide +kernel
theorem dX9_take_177 : decode cX9_take 177 = .ok (.baload, 1) := by decide +kernel
theorem dX9_take_178 : decode cX9_take 178 = .ok (.ifCond .ne 7, 3) := by decide +kernel
theorem dX9_take_181 : decode cX9_take 181 = .ok (.iconst 1, 1) := by decide +kernel
theorem dX9_take_182 : decode cX9_take 182 = .ok (.goto 4, 3) := by decide +kernel
theorem dX9_take_185 : decode cX9_take 185 = .ok (.iconst 0, 1) := by decide +kernel
theorem dX9_take_186 : decode cX9_take 186 = .ok (.istore 4, 2) := by decide +kernel
theorem dX9_take_188 : decode cX9_take 188 = .ok (.iinc 6 1, 3) := by decide +kernel
theorem dX9_take_191 : decode cX9_take 191 = .ok (.goto (-88), 3) := by decide +kernel
theorem dX9_take_194 : decode cX9_take 194 = .ok (.iinc 5 1, 3) := by decide +kernel
theorem dX9_take_197 : decode cX9_take 197 = .ok (.goto (-111), 3) := by decide +kernel
theorem dX9_take_200 : decode cX9_take 200 = .ok (.iload 4, 2) := by decide +kernel
theorem dX9_take_202 : decode cX9_take 202 = .ok (.ireturn, 1) := by decide +kernel
theorem dX9_isFirst_0 : decode cX9_isFirst 0 = .ok (.iconst 0, 1) := by decide +kernel
theorem dX9_isFirst_1 : decode cX9_isFirst 1 = .ok (.istore_n 3, 1) := by decide +kernel
theorem dX9_isFirst_2 : decode cX9_isFirst 2 = .ok (.iload_n 3, 1) := by decide +kernel
theorem dX9_isFirst_3 : decode cX9_isFirst 3 = .ok (.iload_n 1, 1) := by decide +kernel
theorem dX9_isFirst_4 : decode cX9_isFirst 4 = .ok (.if_icmp .ge 23, 3) := by decide +kernel
theorem dX9_isFirst_7 : decode cX9_isFirst 7 = .ok (.aload_n 0, 1) := by decide +kernel
theorem dX9_isFirst_8 : decode cX9_isFirst 8 = .ok (.getfield 32, 3) := by decide +kernel
theorem dX9_isFirst_11 : decode cX9_isFirst 11 = .ok (.iload_n 3, 1) := by decide +kernel
theorem dX9_isFirst_12 : decode cX9_isFirst 12 = .ok (.iaload, 1) := by decide +kernel
theorem dX9_isFirst_13 : decode cX9_isFirst 13 = .ok (.iload_n 2, 1) := by decide +kernel
theorem dX9_isFirst_14 : decode cX9_isFirst 14 = .ok (.iand, 1) := by decide +kernel
theorem dX9_isFirst_15 : decode cX9_isFirst 15 = .ok (.iload_n 2, 1) := by decide +kernel
theorem dX9_isFirst_16 : decode cX9_isFirst 16 = .ok (.if_icmp .ne 5, 3) := by decide +kernel
theorem dX9_isFirst_19 : decode cX9_isFirst 19 = .ok (.iconst 0, 1) := by decide +kernel
theorem dX9_isFirst_20 : decode cX9_isFirst 20 = .ok (.ireturn, 1) := by decide +kernel
theorem dX9_isFirst_21 : decode cX9_isFirst 21 = .ok (.iinc 3 1, 3) := by decide +kernel
theorem dX9_isFirst_24 : decode cX9_isFirst 24 = .ok (.goto (-22), 3) := by decide +kernel
theorem dX9_isFirst_27 : decode cX9_isFirst 27 = .ok (.aload_n 0, 1) := by decide +kernel
theorem dX9_isFirst_28 : decode cX9_isFirst 28 = .ok (.getfield 32, 3) := by decide +kernel
theorem dX9_isFirst_31 : decode cX9_isFirst 31 = .ok (.iload_n 1, 1) := by decide +kernel
theorem dX9_isFirst_32 : decode cX9_isFirst 32 = .ok (.iaload, 1) := by decide +kernel
theorem dX9_isFirst_33 : decode cX9_isFirst 33 = .ok (.iload_n 2, 1) := by decide +kernel
theorem dX9_isFirst_34 : decode cX9_isFirst 34 = .ok (.iand, 1) := by decide +kernel
theorem dX9_isFirst_35 : decode cX9_isFirst 35 = .ok (.iload_n 2, 1) := by decide +kernel
theorem dX9_isFirst_36 : decode cX9_isFirst 36 = .ok (.if_icmp .ne 7, 3) := by decide +kernel
theorem dX9_isFirst_39 : decode cX9_isFirst 39 = .ok (.iconst 1, 1) := by decide +kernel
theorem dX9_isFirst_40 : decode cX9_isFirst 40 = .ok (.goto 4, 3) := by decide +kernel
theorem dX9_isFirst_43 : decode cX9_isFirst 43 = .ok (.iconst 0, 1) := by decide +kernel
theorem dX9_isFirst_44 : decode cX9_isFirst 44 = .ok (.ireturn, 1) := by decide +kernel
theorem dX9_own_0 : decode cX9_own 0 = .ok (.lconst 0, 1) := by decide +kernel
theorem dX9_own_1 : decode cX9_own 1 = .ok (.lstore_n 2, 1) := by decide +kernel
theorem dX9_own_2 : decode cX9_own 2 = .ok (.iconst 0, 1) := by decide +kernel
theorem dX9_own_3 : decode cX9_own 3 = .ok (.istore 4, 2) := by decide +kernel
theorem dX9_own_5 : decode cX9_own 5 = .ok (.iload 4, 2) := by decide +kernel
theorem dX9_own_7 : decode cX9_own 7 = .ok (.aload_n 0, 1) := by decide +kernel
theorem dX9_own_8 : decode cX9_own 8 = .ok (.getfield 7, 3) := by decide +kernel
theorem dX9_own_11 : decode cX9_own 11 = .ok (.if_icmp .ge 131, 3) := by decide +kernel
theorem dX9_own_14 : decode cX9_own 14 = .ok (.aload_n 0, 1) := by decide +kernel
theorem dX9_own_15 : decode cX9_own 15 = .ok (.iload_n 1, 1) := by decide +kernel
theorem dX9_own_16 : decode cX9_own 16 = .ok (.iconst 1, 1) := by decide +kernel
theorem dX9_own_17 : decode cX9_own 17 = .ok (.iload 4, 2) := by decide +kernel
theorem dX9_own_19 : decode cX9_own 19 = .ok (.ishl, 1) := by decide +kernel
theorem dX9_own_20 : decode cX9_own 20 = .ok (.invokevirtual 134, 3) := by decide +kernel
theorem dX9_own_23 : decode cX9_own 23 = .ok (.ifCond .eq 28, 3) := by decide +kernel
theorem dX9_own_26 : decode cX9_own 26 = .ok (.lload_n 2, 1) := by decide +kernel
theorem dX9_own_27 : decode cX9_own 27 = .ok (.aload_n 0, 1) := by decide +kernel
theorem dX9_own_28 : decode cX9_own 28 = .ok (.getfield 13, 3) := by decide +kernel
theorem dX9_own_31 : decode cX9_own 31 = .ok (.iload 4, 2) := by decide +kernel
theorem dX9_own_33 : decode cX9_own 33 = .ok (.iaload, 1) := by decide +kernel
theorem dX9_own_34 : decode cX9_own 34 = .ok (.i2l, 1) := by decide +kernel
theorem dX9_own_35 : decode cX9_own 35 = .ok (.aload_n 0, 1) := by decide +kernel
theorem dX9_own_36 : decode cX9_own 36 = .ok (.getfield 44, 3) := by decide +kernel
theorem dX9_own_39 : decode cX9_own 39 = .ok (.aload_n 0, 1) := by decide +kernel
theorem dX9_own_40 : decode cX9_own 40 = .ok (.getfield 60, 3) := by decide +kernel
theorem dX9_own_43 : decode cX9_own 43 = .ok (.iload 4, 2) := by decide +kernel
theorem dX9_own_45 : decode cX9_own 45 = .ok (.iaload, 1) := by decide +kernel
theorem dX9_own_46 : decode cX9_own 46 = .ok (.iaload, 1) := by decide +kernel
theorem dX9_own_47 : decode cX9_own 47 = .ok (.i2l, 1) := by decide +kernel
theorem dX9_own_48 : decode cX9_own 48 = .ok (.lmul, 1) := by decide +kernel
theorem dX9_own_49 : decode cX9_own 49 = .ok (.ladd, 1) := by decide +kernel
theorem dX9_own_50 : decode cX9_own 50 = .ok (.lstore_n 2, 1) := by decide +kernel
theorem dX9_own_51 : decode cX9_own 51 = .ok (.iconst 0, 1) := by decide +kernel
theorem dX9_own_52 : decode cX9_own 52 = .ok (.istore 5, 2) := by decide +kernel
theorem dX9_own_54 : decode cX9_own 54 = .ok (.iload 5, 2) := by decide +kernel
theorem dX9_own_56 : decode cX9_own 56 = .ok (.iload 4, 2) := by decide +kernel
theorem dX9_own_58 : decode cX9_own 58 = .ok (.if_icmp .ge 78, 3) := by decide +kernel
theorem dX9_own_61 : decode cX9_own 61 = .ok (.aload_n 0, 1) := by decide +kernel
theorem dX9_own_62 : decode cX9_own 62 = .ok (.iload 4, 2) := by decide +kernel
theorem dX9_own_64 : decode cX9_own 64 = .ok (.iload 5, 2) := by decide +kernel
theorem dX9_own_66 : decode cX9_own 66 = .ok (.invokevirtual 90, 3) := by decide +kernel
theorem dX9_own_69 : decode cX9_own 69 = .ok (.ifCond .eq 61, 3) := by decide +kernel
theorem dX9_own_72 : decode cX9_own 72 = .ok (.aload_n 0, 1) := by decide +kernel
theorem dX9_own_73 : decode cX9_own 73 = .ok (.iload_n 1, 1) := by decide +kernel
theorem dX9_own_74 : decode cX9_own 74 = .ok (.iconst 1, 1) := by decide +kernel
theorem dX9_own_75 : decode cX9_own 75 = .ok (.iload 4, 2) := by decide +kernel
theorem dX9_own_77 : decode cX9_own 77 = .ok (.ishl, 1) := by decide +kernel
theorem dX9_own_78 : decode cX9_own 78 = .ok (.iconst 1, 1) := by decide +kernel
theorem dX9_own_79 : decode cX9_own 79 = .ok (.iload 5, 2) := by decide +kernel
theorem dX9_own_81 : decode cX9_own 81 = .ok (.ishl, 1) := by decide +kernel
theorem dX9_own_82 : decode cX9_own 82 = .ok (.ior, 1) := by decide +kernel
theorem dX9_own_83 : decode cX9_own 83 = .ok (.invokevirtual 134, 3) := by decide +kernel
theorem dX9_own_86 : decode cX9_own 86 = .ok (.ifCond .eq 44, 3) := by decide +kernel
theorem dX9_own_89 : decode cX9_own 89 = .ok (.lload_n 2, 1) := by decide +kernel
theorem dX9_own_90 : decode cX9_own 90 = .ok (.aload_n 0, 1) := by decide +kernel
theorem dX9_own_91 : decode cX9_own 91 = .ok (.getfield 20, 3) := by decide +kernel
theorem dX9_own_94 : decode cX9_own 94 = .ok (.bipush 14, 2) := by decide +kernel
theorem dX9_own_96 : decode cX9_own 96 = .ok (.iload 4, 2) := by decide +kernel
theorem dX9_own_98 : decode cX9_own 98 = .ok (.imul, 1) := by decide +kernel
theorem dX9_own_99 : decode cX9_own 99 = .ok (.iload 5, 2) := by decide +kernel
theorem dX9_own_101 : decode cX9_own 101 = .ok (.iadd, 1) := by decide +kernel
theorem dX9_own_102 : decode cX9_own 102 = .ok (.iaload, 1) := by decide +kernel
theorem dX9_own_103 : decode cX9_own 103 = .ok (.i2l, 1) := by decide +kernel
theorem dX9_own_104 : decode cX9_own 104 = .ok (.aload_n 0, 1) := by decide +kernel
theorem dX9_own_105 : decode cX9_own 105 = .ok (.getfield 47, 3) := by decide +kernel
theorem dX9_own_108 : decode cX9_own 108 = .ok (.iconst 4, 1) := by decide +kernel
theorem dX9_own_109 : decode cX9_own 109 = .ok (.aload_n 0, 1) := by decide +kernel
theorem dX9_own_110 : decode cX9_own 110 = .ok (.getfield 60, 3) := by decide +kernel
theorem dX9_own_113 : decode cX9_own 113 = .ok (.iload 4, 2) := by decide +kernel
theorem dX9_own_115 : decode cX9_own 115 = .ok (.iaload, 1) := by decide +kernel
theorem dX9_own_116 : decode cX9_own 116 = .ok (.imul, 1) := by decide +kernel
theorem dX9_own_117 : decode cX9_own 117 = .ok (.aload_n 0, 1) := by decide +kernel
theorem dX9_own_118 : decode cX9_own 118 = .ok (.getfield 60, 3) := by decide +kernel
theorem dX9_own_121 : decode cX9_own 121 = .ok (.iload 5, 2) := by decide +kernel
theorem dX9_own_123 : decode cX9_own 123 = .ok (.iaload, 1) := by decide +kernel
theorem dX9_own_124 : decode cX9_own 124 = .ok (.iadd, 1) := by decide +kernel
theorem dX9_own_125 : decode cX9_own 125 = .ok (.iaload, 1) := by decide +kernel
theorem dX9_own_126 : decode cX9_own 126 = .ok (.i2l, 1) := by decide +kernel
theorem dX9_own_127 : decode cX9_own 127 = .ok (.lmul, 1) := by decide +kernel
theorem dX9_own_128 : decode cX9_own 128 = .ok (.ladd, 1) := by decide +kernel
theorem dX9_own_129 : decode cX9_own 129 = .ok (.lstore_n 2, 1) := by decide +kernel
theorem dX9_own_130 : decode cX9_own 130 = .ok (.iinc 5 1, 3) := by decide +kernel
theorem dX9_own_133 : decode cX9_own 133 = .ok (.goto (-79), 3) := by decide +kernel
theorem dX9_own_136 : decode cX9_own 136 = .ok (.iinc 4 1, 3) := by decide +kernel
theorem dX9_own_139 : decode cX9_own 139 = .ok (.goto (-134), 3) := by decide +kernel
theorem dX9_own_142 : decode cX9_own 142 = .ok (.lload_n 2, 1) := by decide +kernel
theorem dX9_own_143 : decode cX9_own 143 = .ok (.lreturn, 1) := by decide +kernel
theorem dX9_ask_0 : decode cX9_ask 0 = .ok (.iconst 0, 1) := by decide +kernel
theorem dX9_ask_1 : decode cX9_ask 1 = .ok (.istore_n 2, 1) := by decide +kernel
theorem dX9_ask_2 : decode cX9_ask 2 = .ok (.iload_n 2, 1) := by decide +kernel
theorem dX9_ask_3 : decode cX9_ask 3 = .ok (.sipush 14336, 3) := by decide +kernel
theorem dX9_ask_6 : decode cX9_ask 6 = .ok (.if_icmp .ge 16, 3) := by decide +kernel
theorem dX9_ask_9 : decode cX9_ask 9 = .ok (.aload_n 0, 1) := by decide +kernel
theorem dX9_ask_10 : decode cX9_ask 10 = .ok (.getfield 63, 3) := by decide +kernel
theorem dX9_ask_13 : decode cX9_ask 13 = .ok (.iload_n 2, 1) := by decide +kernel
theorem dX9_ask_14 : decode cX9_ask 14 = .ok (.lconst 0, 1) := by decide +kernel
theorem dX9_ask_15 : decode cX9_ask 15 = .ok (.lastore, 1) := by decide +kernel
theorem dX9_ask_16 : decode cX9_ask 16 = .ok (.iinc 2 1, 3) := by decide +kernel
theorem dX9_ask_19 : decode cX9_ask 19 = .ok (.goto (-17), 3) := by decide +kernel
theorem dX9_ask_22 : decode cX9_ask 22 = .ok (.iconst 0, 1) := by decide +kernel
theorem dX9_ask_23 : decode cX9_ask 23 = .ok (.istore_n 2, 1) := by decide +kernel
theorem dX9_ask_24 : decode cX9_ask 24 = .ok (.iload_n 2, 1) := by decide +kernel
theorem dX9_ask_25 : decode cX9_ask 25 = .ok (.aload_n 0, 1) := by decide +kernel
theorem dX9_ask_26 : decode cX9_ask 26 = .ok (.getfield 29, 3) := by decide +kernel
theorem dX9_ask_29 : decode cX9_ask 29 = .ok (.if_icmp .ge 220, 3) := by decide +kernel
theorem dX9_ask_32 : decode cX9_ask 32 = .ok (.aload_n 0, 1) := by decide +kernel
theorem dX9_ask_33 : decode cX9_ask 33 = .ok (.getfield 35, 3) := by decide +kernel
theorem dX9_ask_36 : decode cX9_ask 36 = .ok (.iload_n 2, 1) := by decide +kernel
theorem dX9_ask_37 : decode cX9_ask 37 = .ok (.iaload, 1) := by decide +kernel
theorem dX9_ask_38 : decode cX9_ask 38 = .ok (.ifCond .ge 7, 3) := by decide +kernel
theorem dX9_ask_41 : decode cX9_ask 41 = .ok (.iconst 0, 1) := by decide +kernel
theorem dX9_ask_42 : decode cX9_ask 42 = .ok (.goto 21, 3) := by decide +kernel
theorem dX9_ask_45 : decode cX9_ask 45 = .ok (.aload_n 0, 1) := by decide +kernel
theorem dX9_ask_46 : decode cX9_ask 46 = .ok (.getfield 32, 3) := by decide +kernel
theorem dX9_ask_49 : decode cX9_ask 49 = .ok (.iload_n 2, 1) := by decide +kernel
theorem dX9_ask_50 : decode cX9_ask 50 = .ok (.iaload, 1) := by decide +kernel
theorem dX9_ask_51 : decode cX9_ask 51 = .ok (.aload_n 0, 1) := by decide +kernel
theorem dX9_ask_52 : decode cX9_ask 52 = .ok (.getfield 32, 3) := by decide +kernel
theorem dX9_ask_55 : decode cX9_ask 55 = .ok (.aload_n 0, 1) := by decide +kernel
theorem dX9_ask_56 : decode cX9_ask 56 = .ok (.getfield 35, 3) := by decide +kernel
theorem dX9_ask_59 : decode cX9_ask 59 = .ok (.iload_n 2, 1) := by decide +kernel
theorem dX9_ask_60 : decode cX9_ask 60 = .ok (.iaload, 1) := by decide +kernel
theorem dX9_ask_61 : decode cX9_ask 61 = .ok (.iaload, 1) := by decide +kernel
theorem dX9_ask_62 : decode cX9_ask 62 = .ok (.iand, 1) := by decide +kernel
theorem dX9_ask_63 : decode cX9_ask 63 = .ok (.istore_n 3, 1) := by decide +kernel
theorem dX9_ask_64 : decode cX9_ask 64 = .ok (.iconst 1, 1) := by decide +kernel
theorem dX9_ask_65 : decode cX9_ask 65 = .ok (.iconst 2, 1) := by decide +kernel
theorem dX9_ask_66 : decode cX9_ask 66 = .ok (.aload_n 0, 1) := by decide +kernel
theorem dX9_ask_67 : decode cX9_ask 67 = .ok (.aload_n 0, 1) := by decide +kernel
theorem dX9_ask_68 : decode cX9_ask 68 = .ok (.getfield 32, 3) := by decide +kernel
theorem dX9_ask_71 : decode cX9_ask 71 = .ok (.iload_n 2, 1) := by decide +kernel
theorem dX9_ask_72 : decode cX9_ask 72 = .ok (.iaload, 1) := by decide +kernel
theorem dX9_ask_73 : decode cX9_ask 73 = .ok (.invokevirtual 102, 3) := by decide +kernel
theorem dX9_ask_76 : decode cX9_ask 76 = .ok (.imul, 1) := by decide +kernel
theorem dX9_ask_77 : decode cX9_ask 77 = .ok (.ishl, 1) := by decide +kernel
theorem dX9_ask_78 : decode cX9_ask 78 = .ok (.istore 4, 2) := by decide +kernel
theorem dX9_ask_80 : decode cX9_ask 80 = .ok (.iconst 0, 1) := by decide +kernel
theorem dX9_ask_81 : decode cX9_ask 81 = .ok (.istore 5, 2) := by decide +kernel
theorem dX9_ask_83 : decode cX9_ask 83 = .ok (.iload 5, 2) := by decide +kernel
theorem dX9_ask_85 : decode cX9_ask 85 = .ok (.iload 4, 2) := by decide +kernel
theorem dX9_ask_87 : decode cX9_ask 87 = .ok (.if_icmp .ge 156, 3) := by decide +kernel
theorem dX9_ask_90 : decode cX9_ask 90 = .ok (.aload_n 0, 1) := by decide +kernel
theorem dX9_ask_91 : decode cX9_ask 91 = .ok (.iload_n 2, 1) := by decide +kernel
theorem dX9_ask_92 : decode cX9_ask 92 = .ok (.iload 5, 2) := by decide +kernel
theorem dX9_ask_94 : decode cX9_ask 94 = .ok (.invokevirtual 137, 3) := by decide +kernel
theorem dX9_ask_97 : decode cX9_ask 97 = .ok (.ifCond .ne 6, 3) := by decide +kernel
theorem dX9_ask_100 : decode cX9_ask 100 = .ok (.goto 137, 3) := by decide +kernel
theorem dX9_ask_103 : decode cX9_ask 103 = .ok (.lconst 1, 1) := by decide +kernel
theorem dX9_ask_104 : decode cX9_ask 104 = .ok (.lstore 6, 2) := by decide +kernel
theorem dX9_ask_106 : decode cX9_ask 106 = .ok (.aload_n 0, 1) := by decide +kernel
theorem dX9_ask_107 : decode cX9_ask 107 = .ok (.iload_n 2, 1) := by decide +kernel
theorem dX9_ask_108 : decode cX9_ask 108 = .ok (.invokevirtual 140, 3) := by decide +kernel
theorem dX9_ask_111 : decode cX9_ask 111 = .ok (.lstore 8, 2) := by decide +kernel
theorem dX9_ask_113 : decode cX9_ask 113 = .ok (.lconst 1, 1) := by decide +kernel
theorem dX9_ask_114 : decode cX9_ask 114 = .ok (.lstore 10, 2) := by decide +kernel
theorem dX9_ask_116 : decode cX9_ask 116 = .ok (.iconst 0, 1) := by decide +kernel
theorem dX9_ask_117 : decode cX9_ask 117 = .ok (.istore 12, 2) := by decide +kernel
theorem dX9_ask_119 : decode cX9_ask 119 = .ok (.iload 12, 2) := by decide +kernel
theorem dX9_ask_121 : decode cX9_ask 121 = .ok (.iload_n 2, 1) := by decide +kernel
theorem dX9_ask_122 : decode cX9_ask 122 = .ok (.if_icmp .ge 86, 3) := by decide +kernel
theorem dX9_ask_125 : decode cX9_ask 125 = .ok (.aload_n 0, 1) := by decide +kernel
theorem dX9_ask_126 : decode cX9_ask 126 = .ok (.getfield 35, 3) := by decide +kernel
theorem dX9_ask_129 : decode cX9_ask 129 = .ok (.iload 12, 2) := by decide +kernel
theorem dX9_ask_131 : decode cX9_ask 131 = .ok (.iaload, 1) := by decide +kernel
theorem dX9_ask_132 : decode cX9_ask 132 = .ok (.iload_n 2, 1) := by decide +kernel
theorem dX9_ask_133 : decode cX9_ask 133 = .ok (.if_icmp .eq 6, 3) := by decide +kernel
theorem dX9_ask_136 : decode cX9_ask 136 = .ok (.goto 66, 3) := by decide +kernel
theorem dX9_ask_139 : decode cX9_ask 139 = .ok (.sipush 1024, 3) := by decide +kernel
theorem dX9_ask_142 : decode cX9_ask 142 = .ok (.iload 12, 2) := by decide +kernel
theorem dX9_ask_144 : decode cX9_ask 144 = .ok (.imul, 1) := by decide +kernel
theorem dX9_ask_145 : decode cX9_ask 145 = .ok (.aload_n 0, 1) := by decide +kernel
theorem dX9_ask_146 : decode cX9_ask 146 = .ok (.aload_n 0, 1) := by decide +kernel
theorem dX9_ask_147 : decode cX9_ask 147 = .ok (.getfield 32, 3) := by decide +kernel
theorem dX9_ask_150 : decode cX9_ask 150 = .ok (.iload 12, 2) := by decide +kernel
theorem dX9_ask_152 : decode cX9_ask 152 = .ok (.iaload, 1) := by decide +kernel
theorem dX9_ask_153 : decode cX9_ask 153 = .ok (.aload_n 0, 1) := by decide +kernel
theorem dX9_ask_154 : decode cX9_ask 154 = .ok (.getfield 32, 3) := by decide +kernel
theorem dX9_ask_157 : decode cX9_ask 157 = .ok (.iload_n 2, 1) := by decide +kernel
theorem dX9_ask_158 : decode cX9_ask 158 = .ok (.iaload, 1) := by decide +kernel
theorem dX9_ask_159 : decode cX9_ask 159 = .ok (.iand, 1) := by decide +kernel
theorem dX9_ask_160 : decode cX9_ask 160 = .ok (.invokevirtual 144, 3) := by decide +kernel
theorem dX9_ask_163 : decode cX9_ask 163 = .ok (.iadd, 1) := by decide +kernel
theorem dX9_ask_164 : decode cX9_ask 164 = .ok (.istore 13, 2) := by decide +kernel
theorem dX9_ask_166 : decode cX9_ask 166 = .ok (.lload 6, 2) := by decide +kernel
theorem dX9_ask_168 : decode cX9_ask 168 = .ok (.aload_n 0, 1) := by decide +kernel
theorem dX9_ask_169 : decode cX9_ask 169 = .ok (.getfield 63, 3) := by decide +kernel
theorem dX9_ask_172 : decode cX9_ask 172 = .ok (.iload 13, 2) := by decide +kernel
theorem dX9_ask_174 : decode cX9_ask 174 = .ok (.laload, 1) := by decide +kernel
theorem dX9_ask_175 : decode cX9_ask 175 = .ok (.lmul, 1) := by decide +kernel
theorem dX9_ask_176 : decode cX9_ask 176 = .ok (.lstore 6, 2) := by decide +kernel
theorem dX9_ask_178 : decode cX9_ask 178 = .ok (.lload 8, 2) := by decide +kernel
theorem dX9_ask_180 : decode cX9_ask 180 = .ok (.aload_n 0, 1) := by decide +kernel
theorem dX9_ask_181 : decode cX9_ask 181 = .ok (.getfield 67, 3) := by decide +kernel
theorem dX9_ask_184 : decode cX9_ask 184 = .ok (.iload 13, 2) := by decide +kernel
theorem dX9_ask_186 : decode cX9_ask 186 = .ok (.laload, 1) := by decide +kernel
theorem dX9_ask_187 : decode cX9_ask 187 = .ok (.ladd, 1) := by decide +kernel
theorem dX9_ask_188 : decode cX9_ask 188 = .ok (.lstore 8, 2) := by decide +kernel
theorem dX9_ask_190 : decode cX9_ask 190 = .ok (.lload 10, 2) := by decide +kernel
theorem dX9_ask_192 : decode cX9_ask 192 = .ok (.aload_n 0, 1) := by decide +kernel
theorem dX9_ask_193 : decode cX9_ask 193 = .ok (.getfield 70, 3) := by decide +kernel
theorem dX9_ask_196 : decode cX9_ask 196 = .ok (.iload 13, 2) := by decide +kernel
theorem dX9_ask_198 : decode cX9_ask 198 = .ok (.laload, 1) := by decide +kernel
theorem dX9_ask_199 : decode cX9_ask 199 = .ok (.lmul, 1) := by decide +kernel
theorem dX9_ask_200 : decode cX9_ask 200 = .ok (.lstore 10, 2) := by decide +kernel
theorem dX9_ask_202 : decode cX9_ask 202 = .ok (.iinc 12 1, 3) := by decide +kernel
theorem dX9_ask_205 : decode cX9_ask 205 = .ok (.goto (-86), 3) := by decide +kernel
theorem dX9_ask_208 : decode cX9_ask 208 = .ok (.lload 6, 2) := by decide +kernel
theorem dX9_ask_210 : decode cX9_ask 210 = .ok (.lconst 0, 1) := by decide +kernel
theorem dX9_ask_211 : decode cX9_ask 211 = .ok (.lcmp, 1) := by decide +kernel
theorem dX9_ask_212 : decode cX9_ask 212 = .ok (.ifCond .le 25, 3) := by decide +kernel
theorem dX9_ask_215 : decode cX9_ask 215 = .ok (.aload_n 0, 1) := by decide +kernel
theorem dX9_ask_216 : decode cX9_ask 216 = .ok (.sipush 1024, 3) := by decide +kernel
theorem dX9_ask_219 : decode cX9_ask 219 = .ok (.iload_n 2, 1) := by decide +kernel
theorem dX9_ask_220 : decode cX9_ask 220 = .ok (.imul, 1) := by decide +kernel
theorem dX9_ask_221 : decode cX9_ask 221 = .ok (.aload_n 0, 1) := by decide +kernel
theorem dX9_ask_222 : decode cX9_ask 222 = .ok (.iload_n 3, 1) := by decide +kernel
theorem dX9_ask_223 : decode cX9_ask 223 = .ok (.invokevirtual 144, 3) := by decide +kernel
theorem dX9_ask_226 : decode cX9_ask 226 = .ok (.iadd, 1) := by decide +kernel
theorem dX9_ask_227 : decode cX9_ask 227 = .ok (.lload 6, 2) := by decide +kernel
theorem dX9_ask_229 : decode cX9_ask 229 = .ok (.lload 8, 2) := by decide +kernel
theorem dX9_ask_231 : decode cX9_ask 231 = .ok (.lload 10, 2) := by decide +kernel
theorem dX9_ask_233 : decode cX9_ask 233 = .ok (.iload_n 1, 1) := by decide +kernel
theorem dX9_ask_234 : decode cX9_ask 234 = .ok (.invokevirtual 147, 3) := by decide +kernel
theorem dX9_ask_237 : decode cX9_ask 237 = .ok (.iinc 5 1, 3) := by decide +kernel
theorem dX9_ask_240 : decode cX9_ask 240 = .ok (.goto (-157), 3) := by decide +kernel
theorem dX9_ask_243 : decode cX9_ask 243 = .ok (.iinc 2 1, 3) := by decide +kernel
theorem dX9_ask_246 : decode cX9_ask 246 = .ok (.goto (-222), 3) := by decide +kernel
theorem dX9_ask_249 : decode cX9_ask 249 = .ok (.sipush 1024, 3) := by decide +kernel
theorem dX9_ask_252 : decode cX9_ask 252 = .ok (.aload_n 0, 1) := by decide +kernel
theorem dX9_ask_253 : decode cX9_ask 253 = .ok (.getfield 29, 3) := by decide +kernel
theorem dX9_ask_256 : decode cX9_ask 256 = .ok (.iconst 1, 1) := by decide +kernel
theorem dX9_ask_257 : decode cX9_ask 257 = .ok (.isub, 1) := by decide +kernel
theorem dX9_ask_258 : decode cX9_ask 258 = .ok (.imul, 1) := by decide +kernel
theorem dX9_ask_259 : decode cX9_ask 259 = .ok (.istore_n 2, 1) := by decide +kernel
theorem dX9_ask_260 : decode cX9_ask 260 = .ok (.aload_n 0, 1) := by decide +kernel
theorem dX9_ask_261 : decode cX9_ask 261 = .ok (.aload_n 0, 1) := by decide +kernel
theorem dX9_ask_262 : decode cX9_ask 262 = .ok (.getfield 63, 3) := by decide +kernel
theorem dX9_ask_265 : decode cX9_ask 265 = .ok (.iload_n 2, 1) := by decide +kernel
theorem dX9_ask_266 : decode cX9_ask 266 = .ok (.laload, 1) := by decide +kernel
theorem dX9_ask_267 : decode cX9_ask 267 = .ok (.putfield 73, 3) := by decide +kernel
theorem dX9_ask_270 : decode cX9_ask 270 = .ok (.aload_n 0, 1) := by decide +kernel
theorem dX9_ask_271 : decode cX9_ask 271 = .ok (.aload_n 0, 1) := by decide +kernel
theorem dX9_ask_272 : decode cX9_ask 272 = .ok (.getfield 67, 3) := by decide +kernel
theorem dX9_ask_275 : decode cX9_ask 275 = .ok (.iload_n 2, 1) := by decide +kernel
theorem dX9_ask_276 : decode cX9_ask 276 = .ok (.laload, 1) := by decide +kernel
theorem dX9_ask_277 : decode cX9_ask 277 = .ok (.putfield 77, 3) := by decide +kernel
theorem dX9_ask_280 : decode cX9_ask 280 = .ok (.aload_n 0, 1) := by decide +kernel
theorem dX9_ask_281 : decode cX9_ask 281 = .ok (.aload_n 0, 1) := by decide +kernel
theorem dX9_ask_282 : decode cX9_ask 282 = .ok (.getfield 70, 3) := by decide +kernel
theorem dX9_ask_285 : decode cX9_ask 285 = .ok (.iload_n 2, 1) := by decide +kernel
theorem dX9_ask_286 : decode cX9_ask 286 = .ok (.laload, 1) := by decide +kernel
theorem dX9_ask_287 : decode cX9_ask 287 = .ok (.putfield 80, 3) := by decide +kernel
theorem dX9_ask_290 : decode cX9_ask 290 = .ok (.return_, 1) := by decide +kernel
theorem dX9_put__0 : decode cX9_put_ 0 = .ok (.aload_n 0, 1) := by decide +kernel
theorem dX9_put__1 : decode cX9_put_ 1 = .ok (.getfield 63, 3) := by decide +kernel
theorem dX9_put__4 : decode cX9_put_ 4 = .ok (.iload_n 1, 1) := by decide +kernel
theorem dX9_put__5 : decode cX9_put_ 5 = .ok (.laload, 1) := by decide +kernel
theorem dX9_put__6 : decode cX9_put_ 6 = .ok (.lconst 0, 1) := by decide +kernel
theorem dX9_put__7 : decode cX9_put_ 7 = .ok (.lcmp, 1) := by decide +kernel
theorem dX9_put__8 : decode cX9_put_ 8 = .ok (.ifCond .eq 35, 3) := by decide +kernel
theorem dX9_put__11 : decode cX9_put_ 11 = .ok (.iload 8, 2) := by decide +kernel
theorem dX9_put__13 : decode cX9_put_ 13 = .ok (.ifCond .eq 18, 3) := by decide +kernel
theorem dX9_put__16 : decode cX9_put_ 16 = .ok (.lload 4, 2) := by decide +kernel
theorem dX9_put__18 : decode cX9_put_ 18 = .ok (.aload_n 0, 1) := by decide +kernel
theorem dX9_put__19 : decode cX9_put_ 19 = .ok (.getfield 67, 3) := by decide +kernel
theorem dX9_put__22 : decode cX9_put_ 22 = .ok (.iload_n 1, 1) := by decide +kernel
theorem dX9_put__23 : decode cX9_put_ 23 = .ok (.laload, 1) := by decide +kernel
theorem dX9_put__24 : decode cX9_put_ 24 = .ok (.lcmp, 1) := by decide +kernel
theorem dX9_put__25 : decode cX9_put_ 25 = .ok (.ifCond .le 22, 3) := by decide +kernel
theorem dX9_put__28 : decode cX9_put_ 28 = .ok (.goto 15, 3) := by decide +kernel
theorem dX9_put__31 : decode cX9_put_ 31 = .ok (.lload 4, 2) := by decide +kernel
theorem dX9_put__33 : decode cX9_put_ 33 = .ok (.aload_n 0, 1) := by decide +kernel
theorem dX9_put__34 : decode cX9_put_ 34 = .ok (.getfield 67, 3) := by decide +kernel
theorem dX9_put__37 : decode cX9_put_ 37 = .ok (.iload_n 1, 1) := by decide +kernel
theorem dX9_put__38 : decode cX9_put_ 38 = .ok (.laload, 1) := by decide +kernel
theorem dX9_put__39 : decode cX9_put_ 39 = .ok (.lcmp, 1) := by decide +kernel
theorem dX9_put__40 : decode cX9_put_ 40 = .ok (.ifCond .ge 7, 3) := by decide +kernel
theorem dX9_put__43 : decode cX9_put_ 43 = .ok (.iconst 1, 1) := by decide +kernel
theorem dX9_put__44 : decode cX9_put_ 44 = .ok (.goto 4, 3) := by decide +kernel
theorem dX9_put__47 : decode cX9_put_ 47 = .ok (.iconst 0, 1) := by decide +kernel
theorem dX9_put__48 : decode cX9_put_ 48 = .ok (.istore 9, 2) := by decide +kernel
theorem dX9_put__50 : decode cX9_put_ 50 = .ok (.iload 9, 2) := by decide +kernel
theorem dX9_put__52 : decode cX9_put_ 52 = .ok (.ifCond .eq 22, 3) := by decide +kernel
theorem dX9_put__55 : decode cX9_put_ 55 = .ok (.aload_n 0, 1) := by decide +kernel
theorem dX9_put__56 : decode cX9_put_ 56 = .ok (.getfield 67, 3) := by decide +kernel
theorem dX9_put__59 : decode cX9_put_ 59 = .ok (.iload_n 1, 1) := by decide +kernel
theorem dX9_put__60 : decode cX9_put_ 60 = .ok (.lload 4, 2) := by decide +kernel
theorem dX9_put__62 : decode cX9_put_ 62 = .ok (.lastore, 1) := by decide +kernel
theorem dX9_put__63 : decode cX9_put_ 63 = .ok (.aload_n 0, 1) := by decide +kernel
theorem dX9_put__64 : decode cX9_put_ 64 = .ok (.getfield 70, 3) := by decide +kernel
theorem dX9_put__67 : decode cX9_put_ 67 = .ok (.iload_n 1, 1) := by decide +kernel
theorem dX9_put__68 : decode cX9_put_ 68 = .ok (.lload 6, 2) := by decide +kernel
theorem dX9_put__70 : decode cX9_put_ 70 = .ok (.lastore, 1) := by decide +kernel
theorem dX9_put__71 : decode cX9_put_ 71 = .ok (.goto 26, 3) := by decide +kernel
theorem dX9_put__74 : decode cX9_put_ 74 = .ok (.lload 4, 2) := by decide +kernel
theorem dX9_put__76 : decode cX9_put_ 76 = .ok (.aload_n 0, 1) := by decide +kernel
theorem dX9_put__77 : decode cX9_put_ 77 = .ok (.getfield 67, 3) := by decide +kernel
theorem dX9_put__80 : decode cX9_put_ 80 = .ok (.iload_n 1, 1) := by decide +kernel
theorem dX9_put__81 : decode cX9_put_ 81 = .ok (.laload, 1) := by decide +kernel
theorem dX9_put__82 : decode cX9_put_ 82 = .ok (.lcmp, 1) := by decide +kernel
theorem dX9_put__83 : decode cX9_put_ 83 = .ok (.ifCond .ne 14, 3) := by decide +kernel
theorem dX9_put__86 : decode cX9_put_ 86 = .ok (.aload_n 0, 1) := by decide +kernel
theorem dX9_put__87 : decode cX9_put_ 87 = .ok (.getfield 70, 3) := by decide +kernel
theorem dX9_put__90 : decode cX9_put_ 90 = .ok (.iload_n 1, 1) := by decide +kernel
theorem dX9_put__91 : decode cX9_put_ 91 = .ok (.dup2, 1) := by decide +kernel
theorem dX9_put__92 : decode cX9_put_ 92 = .ok (.laload, 1) := by decide +kernel
theorem dX9_put__93 : decode cX9_put_ 93 = .ok (.lload 6, 2) := by decide +kernel
theorem dX9_put__95 : decode cX9_put_ 95 = .ok (.ladd, 1) := by decide +kernel
theorem dX9_put__96 : decode cX9_put_ 96 = .ok (.lastore, 1) := by decide +kernel
theorem dX9_put__97 : decode cX9_put_ 97 = .ok (.aload_n 0, 1) := by decide +kernel
theorem dX9_put__98 : decode cX9_put_ 98 = .ok (.getfield 63, 3) := by decide +kernel
theorem dX9_put__101 : decode cX9_put_ 101 = .ok (.iload_n 1, 1) := by decide +kernel
theorem dX9_put__102 : decode cX9_put_ 102 = .ok (.dup2, 1) := by decide +kernel
theorem dX9_put__103 : decode cX9_put_ 103 = .ok (.laload, 1) := by decide +kernel
theorem dX9_put__104 : decode cX9_put_ 104 = .ok (.lload_n 2, 1) := by decide +kernel
theorem dX9_put__105 : decode cX9_put_ 105 = .ok (.ladd, 1) := by decide +kernel
theorem dX9_put__106 : decode cX9_put_ 106 = .ok (.lastore, 1) := by decide +kernel
theorem dX9_put__107 : decode cX9_put_ 107 = .ok (.return_, 1) := by decide +kernel
theorem dX9_ways_0 : decode cX9_ways 0 = .ok (.aload_n 0, 1) := by decide +kernel
theorem dX9_ways_1 : decode cX9_ways 1 = .ok (.invokevirtual 151, 3) := by decide +kernel
theorem dX9_ways_4 : decode cX9_ways 4 = .ok (.ifCond .ne 7, 3) := by decide +kernel
theorem dX9_ways_7 : decode cX9_ways 7 = .ok (.ldc2_w 154, 3) := by decide +kernel
theorem dX9_ways_10 : decode cX9_ways 10 = .ok (.lreturn, 1) := by decide +kernel
theorem dX9_ways_11 : decode cX9_ways 11 = .ok (.aload_n 0, 1) := by decide +kernel
theorem dX9_ways_12 : decode cX9_ways 12 = .ok (.invokevirtual 156, 3) := by decide +kernel
theorem dX9_ways_15 : decode cX9_ways 15 = .ok (.aload_n 0, 1) := by decide +kernel
theorem dX9_ways_16 : decode cX9_ways 16 = .ok (.iconst 1, 1) := by decide +kernel
theorem dX9_ways_17 : decode cX9_ways 17 = .ok (.invokevirtual 159, 3) := by decide +kernel
theorem dX9_ways_20 : decode cX9_ways 20 = .ok (.aload_n 0, 1) := by decide +kernel
theorem dX9_ways_21 : decode cX9_ways 21 = .ok (.getfield 73, 3) := by decide +kernel
theorem dX9_ways_24 : decode cX9_ways 24 = .ok (.lreturn, 1) := by decide +kernel
theorem dX9_best_0 : decode cX9_best 0 = .ok (.aload_n 0, 1) := by decide +kernel
theorem dX9_best_1 : decode cX9_best 1 = .ok (.invokevirtual 151, 3) := by decide +kernel
theorem dX9_best_4 : decode cX9_best 4 = .ok (.ifCond .ne 7, 3) := by decide +kernel
theorem dX9_best_7 : decode cX9_best 7 = .ok (.ldc2_w 154, 3) := by decide +kernel
theorem dX9_best_10 : decode cX9_best 10 = .ok (.lreturn, 1) := by decide +kernel
theorem dX9_best_11 : decode cX9_best 11 = .ok (.aload_n 0, 1) := by decide +kernel
theorem dX9_best_12 : decode cX9_best 12 = .ok (.invokevirtual 156, 3) := by decide +kernel
theorem dX9_best_15 : decode cX9_best 15 = .ok (.aload_n 0, 1) := by decide +kernel
theorem dX9_best_16 : decode cX9_best 16 = .ok (.iload_n 1, 1) := by decide +kernel
theorem dX9_best_17 : decode cX9_best 17 = .ok (.invokevirtual 159, 3) := by decide +kernel
theorem dX9_best_20 : decode cX9_best 20 = .ok (.aload_n 0, 1) := by decide +kernel
theorem dX9_best_21 : decode cX9_best 21 = .ok (.getfield 73, 3) := by decide +kernel
theorem dX9_best_24 : decode cX9_best 24 = .ok (.lconst 0, 1) := by decide +kernel
theorem dX9_best_25 : decode cX9_best 25 = .ok (.lcmp, 1) := by decide +kernel
theorem dX9_best_26 : decode cX9_best 26 = .ok (.ifCond .ne 9, 3) := by decide +kernel
theorem dX9_best_29 : decode cX9_best 29 = .ok (.ldc2_w 154, 3) := by decide +kernel
theorem dX9_best_32 : decode cX9_best 32 = .ok (.goto 7, 3) := by decide +kernel
theorem dX9_best_35 : decode cX9_best 35 = .ok (.aload_n 0, 1) := by decide +kernel
theorem dX9_best_36 : decode cX9_best 36 = .ok (.getfield 77, 3) := by decide +kernel
theorem dX9_best_39 : decode cX9_best 39 = .ok (.lreturn, 1) := by decide +kernel
theorem dX9_bests_0 : decode cX9_bests 0 = .ok (.aload_n 0, 1) := by decide +kernel
theorem dX9_bests_1 : decode cX9_bests 1 = .ok (.invokevirtual 151, 3) := by decide +kernel
theorem dX9_bests_4 : decode cX9_bests 4 = .ok (.ifCond .ne 7, 3) := by decide +kernel
theorem dX9_bests_7 : decode cX9_bests 7 = .ok (.ldc2_w 154, 3) := by decide +kernel
theorem dX9_bests_10 : decode cX9_bests 10 = .ok (.lreturn, 1) := by decide +kernel
theorem dX9_bests_11 : decode cX9_bests 11 = .ok (.aload_n 0, 1) := by decide +kernel
theorem dX9_bests_12 : decode cX9_bests 12 = .ok (.invokevirtual 156, 3) := by decide +kernel
theorem dX9_bests_15 : decode cX9_bests 15 = .ok (.aload_n 0, 1) := by decide +kernel
theorem dX9_bests_16 : decode cX9_bests 16 = .ok (.iload_n 1, 1) := by decide +kernel
theorem dX9_bests_17 : decode cX9_bests 17 = .ok (.invokevirtual 159, 3) := by decide +kernel
theorem dX9_bests_20 : decode cX9_bests 20 = .ok (.aload_n 0, 1) := by decide +kernel
theorem dX9_bests_21 : decode cX9_bests 21 = .ok (.getfield 73, 3) := by decide +kernel
theorem dX9_bests_24 : decode cX9_bests 24 = .ok (.lconst 0, 1) := by decide +kernel
theorem dX9_bests_25 : decode cX9_bests 25 = .ok (.lcmp, 1) := by decide +kernel
theorem dX9_bests_26 : decode cX9_bests 26 = .ok (.ifCond .ne 9, 3) := by decide +kernel
theorem dX9_bests_29 : decode cX9_bests 29 = .ok (.ldc2_w 154, 3) := by decide +kernel
theorem dX9_bests_32 : decode cX9_bests 32 = .ok (.goto 7, 3) := by decide +kernel
theorem dX9_bests_35 : decode cX9_bests 35 = .ok (.aload_n 0, 1) := by decide +kernel
theorem dX9_bests_36 : decode cX9_bests 36 = .ok (.getfield 80, 3) := by decide +kernel
theorem dX9_bests_39 : decode cX9_bests 39 = .ok (.lreturn, 1) := by decide +kernel
theorem dX9_choice_0 : decode cX9_choice 0 = .ok (.aload_n 0, 1) := by decide +kernel
theorem dX9_choice_1 : decode cX9_choice 1 = .ok (.iload_n 2, 1) := by decide +kernel
theorem dX9_choice_2 : decode cX9_choice 2 = .ok (.invokevirtual 87, 3) := by decide +kernel
theorem dX9_choice_5 : decode cX9_choice 5 = .ok (.ifCond .ne 5, 3) := by decide +kernel
theorem dX9_choice_8 : decode cX9_choice 8 = .ok (.iconst (-1), 1) := by decide +kernel
theorem dX9_choice_9 : decode cX9_choice 9 = .ok (.ireturn, 1) := by decide +kernel
theorem dX9_choice_10 : decode cX9_choice 10 = .ok (.aload_n 0, 1) := by decide +kernel
theorem dX9_choice_11 : decode cX9_choice 11 = .ok (.invokevirtual 151, 3) := by decide +kernel
theorem dX9_choice_14 : decode cX9_choice 14 = .ok (.ifCond .ne 6, 3) := by decide +kernel
theorem dX9_choice_17 : decode cX9_choice 17 = .ok (.bipush (-4), 2) := by decide +kernel
theorem dX9_choice_19 : decode cX9_choice 19 = .ok (.ireturn, 1) := by decide +kernel
theorem dX9_choice_20 : decode cX9_choice 20 = .ok (.aload_n 0, 1) := by decide +kernel
theorem dX9_choice_21 : decode cX9_choice 21 = .ok (.invokevirtual 156, 3) := by decide +kernel
theorem dX9_choice_24 : decode cX9_choice 24 = .ok (.aload_n 0, 1) := by decide +kernel
theorem dX9_choice_25 : decode cX9_choice 25 = .ok (.iload_n 1, 1) := by decide +kernel
theorem dX9_choice_26 : decode cX9_choice 26 = .ok (.invokevirtual 159, 3) := by decide +kernel
theorem dX9_choice_29 : decode cX9_choice 29 = .ok (.aload_n 0, 1) := by decide +kernel
theorem dX9_choice_30 : decode cX9_choice 30 = .ok (.getfield 73, 3) := by decide +kernel
theorem dX9_choice_33 : decode cX9_choice 33 = .ok (.lconst 0, 1) := by decide +kernel
theorem dX9_choice_34 : decode cX9_choice 34 = .ok (.lcmp, 1) := by decide +kernel
theorem dX9_choice_35 : decode cX9_choice 35 = .ok (.ifCond .ne 5, 3) := by decide +kernel
theorem dX9_choice_38 : decode cX9_choice 38 = .ok (.iconst (-1), 1) := by decide +kernel
theorem dX9_choice_39 : decode cX9_choice 39 = .ok (.ireturn, 1) := by decide +kernel
theorem dX9_choice_40 : decode cX9_choice 40 = .ok (.aload_n 0, 1) := by decide +kernel
theorem dX9_choice_41 : decode cX9_choice 41 = .ok (.getfield 77, 3) := by decide +kernel
theorem dX9_choice_44 : decode cX9_choice 44 = .ok (.lstore_n 3, 1) := by decide +kernel
theorem dX9_choice_45 : decode cX9_choice 45 = .ok (.iconst 0, 1) := by decide +kernel
theorem dX9_choice_46 : decode cX9_choice 46 = .ok (.istore 5, 2) := by decide +kernel
theorem dX9_choice_48 : decode cX9_choice 48 = .ok (.iload 5, 2) := by decide +kernel
theorem dX9_choice_50 : decode cX9_choice 50 = .ok (.iload_n 2, 1) := by decide +kernel
theorem dX9_choice_51 : decode cX9_choice 51 = .ok (.if_icmp .gt 74, 3) := by decide +kernel
theorem dX9_choice_54 : decode cX9_choice 54 = .ok (.iconst 0, 1) := by decide +kernel
theorem dX9_choice_55 : decode cX9_choice 55 = .ok (.istore 6, 2) := by decide +kernel
theorem dX9_choice_57 : decode cX9_choice 57 = .ok (.iconst 0, 1) := by decide +kernel
theorem dX9_choice_58 : decode cX9_choice 58 = .ok (.istore 7, 2) := by decide +kernel
theorem dX9_choice_60 : decode cX9_choice 60 = .ok (.iload 7, 2) := by decide +kernel
theorem dX9_choice_62 : decode cX9_choice 62 = .ok (.aload_n 0, 1) := by decide +kernel
theorem dX9_choice_63 : decode cX9_choice 63 = .ok (.getfield 41, 3) := by decide +kernel
theorem dX9_choice_66 : decode cX9_choice 66 = .ok (.if_icmp .ge 53, 3) := by decide +kernel
theorem dX9_choice_69 : decode cX9_choice 69 = .ok (.iload 6, 2) := by decide +kernel
theorem dX9_choice_71 : decode cX9_choice 71 = .ok (.ifCond .ne 48, 3) := by decide +kernel
theorem dX9_choice_74 : decode cX9_choice 74 = .ok (.aload_n 0, 1) := by decide +kernel
theorem dX9_choice_75 : decode cX9_choice 75 = .ok (.getfield 57, 3) := by decide +kernel
theorem dX9_choice_78 : decode cX9_choice 78 = .ok (.iload 5, 2) := by decide +kernel
theorem dX9_choice_80 : decode cX9_choice 80 = .ok (.iload 7, 2) := by decide +kernel
theorem dX9_choice_82 : decode cX9_choice 82 = .ok (.iastore, 1) := by decide +kernel
theorem dX9_choice_83 : decode cX9_choice 83 = .ok (.aload_n 0, 1) := by decide +kernel
theorem dX9_choice_84 : decode cX9_choice 84 = .ok (.iload_n 1, 1) := by decide +kernel
theorem dX9_choice_85 : decode cX9_choice 85 = .ok (.invokevirtual 159, 3) := by decide +kernel
theorem dX9_choice_88 : decode cX9_choice 88 = .ok (.aload_n 0, 1) := by decide +kernel
theorem dX9_choice_89 : decode cX9_choice 89 = .ok (.getfield 73, 3) := by decide +kernel
theorem dX9_choice_92 : decode cX9_choice 92 = .ok (.lconst 0, 1) := by decide +kernel
theorem dX9_choice_93 : decode cX9_choice 93 = .ok (.lcmp, 1) := by decide +kernel
theorem dX9_choice_94 : decode cX9_choice 94 = .ok (.ifCond .le 16, 3) := by decide +kernel
theorem dX9_choice_97 : decode cX9_choice 97 = .ok (.aload_n 0, 1) := by decide +kernel
theorem dX9_choice_98 : decode cX9_choice 98 = .ok (.getfield 77, 3) := by decide +kernel
theorem dX9_choice_101 : decode cX9_choice 101 = .ok (.lload_n 3, 1) := by decide +kernel
theorem dX9_choice_102 : decode cX9_choice 102 = .ok (.lcmp, 1) := by decide +kernel
theorem dX9_choice_103 : decode cX9_choice 103 = .ok (.ifCond .ne 7, 3) := by decide +kernel
theorem dX9_choice_106 : decode cX9_choice 106 = .ok (.iconst 1, 1) := by decide +kernel
theorem dX9_choice_107 : decode cX9_choice 107 = .ok (.goto 4, 3) := by decide +kernel
theorem dX9_choice_110 : decode cX9_choice 110 = .ok (.iconst 0, 1) := by decide +kernel
theorem dX9_choice_111 : decode cX9_choice 111 = .ok (.istore 6, 2) := by decide +kernel
theorem dX9_choice_113 : decode cX9_choice 113 = .ok (.iinc 7 1, 3) := by decide +kernel
theorem dX9_choice_116 : decode cX9_choice 116 = .ok (.goto (-56), 3) := by decide +kernel
theorem dX9_choice_119 : decode cX9_choice 119 = .ok (.iinc 5 1, 3) := by decide +kernel
theorem dX9_choice_122 : decode cX9_choice 122 = .ok (.goto (-74), 3) := by decide +kernel
theorem dX9_choice_125 : decode cX9_choice 125 = .ok (.aload_n 0, 1) := by decide +kernel
theorem dX9_choice_126 : decode cX9_choice 126 = .ok (.getfield 57, 3) := by decide +kernel
theorem dX9_choice_129 : decode cX9_choice 129 = .ok (.iload_n 2, 1) := by decide +kernel
theorem dX9_choice_130 : decode cX9_choice 130 = .ok (.iaload, 1) := by decide +kernel
theorem dX9_choice_131 : decode cX9_choice 131 = .ok (.ireturn, 1) := by decide +kernel
theorem dX9_drawn_0 : decode cX9_drawn 0 = .ok (.aload_n 0, 1) := by decide +kernel
theorem dX9_drawn_1 : decode cX9_drawn 1 = .ok (.iload_n 3, 1) := by decide +kernel
theorem dX9_drawn_2 : decode cX9_drawn 2 = .ok (.invokevirtual 87, 3) := by decide +kernel
theorem dX9_drawn_5 : decode cX9_drawn 5 = .ok (.ifCond .ne 5, 3) := by decide +kernel
theorem dX9_drawn_8 : decode cX9_drawn 8 = .ok (.iconst (-1), 1) := by decide +kernel
theorem dX9_drawn_9 : decode cX9_drawn 9 = .ok (.ireturn, 1) := by decide +kernel
theorem dX9_drawn_10 : decode cX9_drawn 10 = .ok (.aload_n 0, 1) := by decide +kernel
theorem dX9_drawn_11 : decode cX9_drawn 11 = .ok (.invokevirtual 151, 3) := by decide +kernel
theorem dX9_drawn_14 : decode cX9_drawn 14 = .ok (.ifCond .ne 6, 3) := by decide +kernel
theorem dX9_drawn_17 : decode cX9_drawn 17 = .ok (.bipush (-4), 2) := by decide +kernel
theorem dX9_drawn_19 : decode cX9_drawn 19 = .ok (.ireturn, 1) := by decide +kernel
theorem dX9_drawn_20 : decode cX9_drawn 20 = .ok (.aload_n 0, 1) := by decide +kernel
theorem dX9_drawn_21 : decode cX9_drawn 21 = .ok (.invokevirtual 156, 3) := by decide +kernel
theorem dX9_drawn_24 : decode cX9_drawn 24 = .ok (.aload_n 0, 1) := by decide +kernel
theorem dX9_drawn_25 : decode cX9_drawn 25 = .ok (.iconst 1, 1) := by decide +kernel
theorem dX9_drawn_26 : decode cX9_drawn 26 = .ok (.invokevirtual 159, 3) := by decide +kernel
theorem dX9_drawn_29 : decode cX9_drawn 29 = .ok (.lload_n 1, 1) := by decide +kernel
theorem dX9_drawn_30 : decode cX9_drawn 30 = .ok (.lconst 0, 1) := by decide +kernel
theorem dX9_drawn_31 : decode cX9_drawn 31 = .ok (.lcmp, 1) := by decide +kernel
theorem dX9_drawn_32 : decode cX9_drawn 32 = .ok (.ifCond .lt 12, 3) := by decide +kernel
theorem dX9_drawn_35 : decode cX9_drawn 35 = .ok (.lload_n 1, 1) := by decide +kernel
theorem dX9_drawn_36 : decode cX9_drawn 36 = .ok (.aload_n 0, 1) := by decide +kernel
theorem dX9_drawn_37 : decode cX9_drawn 37 = .ok (.getfield 73, 3) := by decide +kernel
theorem dX9_drawn_40 : decode cX9_drawn 40 = .ok (.lcmp, 1) := by decide +kernel
theorem dX9_drawn_41 : decode cX9_drawn 41 = .ok (.ifCond .lt 5, 3) := by decide +kernel
theorem dX9_drawn_44 : decode cX9_drawn 44 = .ok (.iconst (-1), 1) := by decide +kernel
theorem dX9_drawn_45 : decode cX9_drawn 45 = .ok (.ireturn, 1) := by decide +kernel
theorem dX9_drawn_46 : decode cX9_drawn 46 = .ok (.lload_n 1, 1) := by decide +kernel
theorem dX9_drawn_47 : decode cX9_drawn 47 = .ok (.lstore 4, 2) := by decide +kernel
theorem dX9_drawn_49 : decode cX9_drawn 49 = .ok (.iconst 0, 1) := by decide +kernel
theorem dX9_drawn_50 : decode cX9_drawn 50 = .ok (.istore 6, 2) := by decide +kernel
theorem dX9_drawn_52 : decode cX9_drawn 52 = .ok (.iload 6, 2) := by decide +kernel
theorem dX9_drawn_54 : decode cX9_drawn 54 = .ok (.iload_n 3, 1) := by decide +kernel
theorem dX9_drawn_55 : decode cX9_drawn 55 = .ok (.if_icmp .gt 84, 3) := by decide +kernel
theorem dX9_drawn_58 : decode cX9_drawn 58 = .ok (.iconst 0, 1) := by decide +kernel
theorem dX9_drawn_59 : decode cX9_drawn 59 = .ok (.istore 7, 2) := by decide +kernel
theorem dX9_drawn_61 : decode cX9_drawn 61 = .ok (.iconst 0, 1) := by decide +kernel
theorem dX9_drawn_62 : decode cX9_drawn 62 = .ok (.istore 8, 2) := by decide +kernel
theorem dX9_drawn_64 : decode cX9_drawn 64 = .ok (.iload 8, 2) := by decide +kernel
theorem dX9_drawn_66 : decode cX9_drawn 66 = .ok (.aload_n 0, 1) := by decide +kernel
theorem dX9_drawn_67 : decode cX9_drawn 67 = .ok (.getfield 41, 3) := by decide +kernel
theorem dX9_drawn_70 : decode cX9_drawn 70 = .ok (.if_icmp .ge 63, 3) := by decide +kernel
theorem dX9_drawn_73 : decode cX9_drawn 73 = .ok (.iload 7, 2) := by decide +kernel
theorem dX9_drawn_75 : decode cX9_drawn 75 = .ok (.ifCond .ne 58, 3) := by decide +kernel
theorem dX9_drawn_78 : decode cX9_drawn 78 = .ok (.aload_n 0, 1) := by decide +kernel
theorem dX9_drawn_79 : decode cX9_drawn 79 = .ok (.getfield 57, 3) := by decide +kernel
theorem dX9_drawn_82 : decode cX9_drawn 82 = .ok (.iload 6, 2) := by decide +kernel
theorem dX9_drawn_84 : decode cX9_drawn 84 = .ok (.iload 8, 2) := by decide +kernel
theorem dX9_drawn_86 : decode cX9_drawn 86 = .ok (.iastore, 1) := by decide +kernel
theorem dX9_drawn_87 : decode cX9_drawn 87 = .ok (.aload_n 0, 1) := by decide +kernel
theorem dX9_drawn_88 : decode cX9_drawn 88 = .ok (.iconst 1, 1) := by decide +kernel
theorem dX9_drawn_89 : decode cX9_drawn 89 = .ok (.invokevirtual 159, 3) := by decide +kernel
theorem dX9_drawn_92 : decode cX9_drawn 92 = .ok (.lload 4, 2) := by decide +kernel
theorem dX9_drawn_94 : decode cX9_drawn 94 = .ok (.aload_n 0, 1) := by decide +kernel
theorem dX9_drawn_95 : decode cX9_drawn 95 = .ok (.getfield 73, 3) := by decide +kernel
theorem dX9_drawn_98 : decode cX9_drawn 98 = .ok (.lcmp, 1) := by decide +kernel
theorem dX9_drawn_99 : decode cX9_drawn 99 = .ok (.ifCond .ge 7, 3) := by decide +kernel
theorem dX9_drawn_102 : decode cX9_drawn 102 = .ok (.iconst 1, 1) := by decide +kernel
theorem dX9_drawn_103 : decode cX9_drawn 103 = .ok (.goto 4, 3) := by decide +kernel
theorem dX9_drawn_106 : decode cX9_drawn 106 = .ok (.iconst 0, 1) := by decide +kernel
theorem dX9_drawn_107 : decode cX9_drawn 107 = .ok (.istore 7, 2) := by decide +kernel
theorem dX9_drawn_109 : decode cX9_drawn 109 = .ok (.lload 4, 2) := by decide +kernel
theorem dX9_drawn_111 : decode cX9_drawn 111 = .ok (.iload 7, 2) := by decide +kernel
theorem dX9_drawn_113 : decode cX9_drawn 113 = .ok (.ifCond .eq 7, 3) := by decide +kernel
theorem dX9_drawn_116 : decode cX9_drawn 116 = .ok (.lconst 0, 1) := by decide +kernel
theorem dX9_drawn_117 : decode cX9_drawn 117 = .ok (.goto 7, 3) := by decide +kernel
theorem dX9_drawn_120 : decode cX9_drawn 120 = .ok (.aload_n 0, 1) := by decide +kernel
theorem dX9_drawn_121 : decode cX9_drawn 121 = .ok (.getfield 73, 3) := by decide +kernel
theorem dX9_drawn_124 : decode cX9_drawn 124 = .ok (.lsub, 1) := by decide +kernel
theorem dX9_drawn_125 : decode cX9_drawn 125 = .ok (.lstore 4, 2) := by decide +kernel
theorem dX9_drawn_127 : decode cX9_drawn 127 = .ok (.iinc 8 1, 3) := by decide +kernel
theorem dX9_drawn_130 : decode cX9_drawn 130 = .ok (.goto (-66), 3) := by decide +kernel
theorem dX9_drawn_133 : decode cX9_drawn 133 = .ok (.iinc 6 1, 3) := by decide +kernel
theorem dX9_drawn_136 : decode cX9_drawn 136 = .ok (.goto (-84), 3) := by decide +kernel
theorem dX9_drawn_139 : decode cX9_drawn 139 = .ok (.aload_n 0, 1) := by decide +kernel
theorem dX9_drawn_140 : decode cX9_drawn 140 = .ok (.getfield 57, 3) := by decide +kernel
theorem dX9_drawn_143 : decode cX9_drawn 143 = .ok (.iload_n 3, 1) := by decide +kernel
theorem dX9_drawn_144 : decode cX9_drawn 144 = .ok (.iaload, 1) := by decide +kernel
theorem dX9_drawn_145 : decode cX9_drawn 145 = .ok (.ireturn, 1) := by decide +kernel
theorem dX9_share_0 : decode cX9_share 0 = .ok (.aload_n 0, 1) := by decide +kernel
theorem dX9_share_1 : decode cX9_share 1 = .ok (.invokevirtual 151, 3) := by decide +kernel
theorem dX9_share_4 : decode cX9_share 4 = .ok (.ifCond .eq 19, 3) := by decide +kernel
theorem dX9_share_7 : decode cX9_share 7 = .ok (.aload_n 0, 1) := by decide +kernel
theorem dX9_share_8 : decode cX9_share 8 = .ok (.iload_n 1, 1) := by decide +kernel
theorem dX9_share_9 : decode cX9_share 9 = .ok (.invokevirtual 87, 3) := by decide +kernel
theorem dX9_share_12 : decode cX9_share 12 = .ok (.ifCond .eq 11, 3) := by decide +kernel
theorem dX9_share_15 : decode cX9_share 15 = .ok (.aload_n 0, 1) := by decide +kernel
theorem dX9_share_16 : decode cX9_share 16 = .ok (.iload_n 2, 1) := by decide +kernel
theorem dX9_share_17 : decode cX9_share 17 = .ok (.invokevirtual 125, 3) := by decide +kernel
theorem dX9_share_20 : decode cX9_share 20 = .ok (.ifCond .ne 7, 3) := by decide +kernel
theorem dX9_share_23 : decode cX9_share 23 = .ok (.ldc2_w 154, 3) := by decide +kernel
theorem dX9_share_26 : decode cX9_share 26 = .ok (.lreturn, 1) := by decide +kernel
theorem dX9_share_27 : decode cX9_share 27 = .ok (.aload_n 0, 1) := by decide +kernel
theorem dX9_share_28 : decode cX9_share 28 = .ok (.invokevirtual 156, 3) := by decide +kernel
theorem dX9_share_31 : decode cX9_share 31 = .ok (.aload_n 0, 1) := by decide +kernel
theorem dX9_share_32 : decode cX9_share 32 = .ok (.getfield 57, 3) := by decide +kernel
theorem dX9_share_35 : decode cX9_share 35 = .ok (.iload_n 1, 1) := by decide +kernel
theorem dX9_share_36 : decode cX9_share 36 = .ok (.iload_n 2, 1) := by decide +kernel
theorem dX9_share_37 : decode cX9_share 37 = .ok (.iastore, 1) := by decide +kernel
theorem dX9_share_38 : decode cX9_share 38 = .ok (.aload_n 0, 1) := by decide +kernel
theorem dX9_share_39 : decode cX9_share 39 = .ok (.iconst 1, 1) := by decide +kernel
theorem dX9_share_40 : decode cX9_share 40 = .ok (.invokevirtual 159, 3) := by decide +kernel
theorem dX9_share_43 : decode cX9_share 43 = .ok (.aload_n 0, 1) := by decide +kernel
theorem dX9_share_44 : decode cX9_share 44 = .ok (.getfield 73, 3) := by decide +kernel
theorem dX9_share_47 : decode cX9_share 47 = .ok (.lreturn, 1) := by decide +kernel
def f_X9_isAsked (t_knots : Int32) (t_bags : Int32) (t_beside : Nat → Int32) (t_bag : Nat → Int32) (t_up : Nat → Int32) : Option (Int32) :=
  if t_bags ≤ 0 then
    some ((0 : Int32))
  else
    cal (f_X9_sound t_knots t_bags t_beside t_bag t_up) fun u1 =>
    if u1 = 0 then
      cal (f_X9_width t_bags t_bag) fun u2 =>
      if (4 : Int32) < u2 then
        some ((0 : Int32))
      else
        some ((1 : Int32))
    else
      some ((0 : Int32))

set_option maxRecDepth 100000 in
set_option maxHeartbeats 1000000 in
theorem c_X9_isAsked (l : Launch) (cA : Nat → ClassId) (q_t : Nat) (t_knots : Int32) (q_t_weight : Nat) (q_t_edge : Nat) (t_rowed : Int32) (q_t_row : Nat) (t_bags : Int32) (q_t_least : Nat) (t_q : Int32) (q_t_factor : Nat) (q_t_pairFactor : Nat) (q_t_forbidden : Nat) (q_t_mayNot : Nat) (q_t_fixed : Nat) (q_t_state : Nat) (q_t_count : Nat) (q_t_best : Nat) (q_t_bests : Nat) (t_allCount : Int64) (t_allBest : Int64) (t_allBests : Int64) (q_t_beside : Nat) (t_beside : Nat → Int32) (q_t_bag : Nat) (t_bag : Nat → Int32) (q_t_up : Nat) (t_up : Nat → Int32)   (r : Int32) (hf : f_X9_isAsked t_knots t_bags t_beside t_bag t_up = some r) : MT l cA yX9_isAsked cX9_isAsked 1 (some .boolean) ({ frames := 3, cells := 0, slots := 0, locals := 66 } : Room) [.ref q_t] [oB q_t 9 [.int t_knots, .ref q_t_weight, .ref q_t_beside, .ref q_t_edge, .int t_rowed, .ref q_t_row, .int t_bags, .ref q_t_bag, .ref q_t_up, .ref q_t_least, .int t_q, .ref q_t_factor, .ref q_t_pairFactor, .ref q_t_forbidden, .ref q_t_mayNot, .ref q_t_fixed, .ref q_t_state, .ref q_t_count, .ref q_t_best, .ref q_t_bests, .long t_allCount, .long t_allBest, .long t_allBests], aI cA q_t_beside 14 t_beside, aI cA q_t_bag 14 t_bag, aI cA q_t_up 14 t_up] (sB (some (.int r)) [oB q_t 9 [.int t_knots, .ref q_t_weight, .ref q_t_beside, .ref q_t_edge, .int t_rowed, .ref q_t_row, .int t_bags, .ref q_t_bag, .ref q_t_up, .ref q_t_least, .int t_q, .ref q_t_factor, .ref q_t_pairFactor, .ref q_t_forbidden, .ref q_t_mayNot, .ref q_t_fixed, .ref q_t_state, .ref q_t_count, .ref q_t_best, .ref q_t_bests, .long t_allCount, .long t_allBest, .long t_allBests], aI cA q_t_beside 14 t_beside, aI cA q_t_bag 14 t_bag, aI cA q_t_up 14 t_up]) := by
  refine MT.of (by decide) (Nat.le_of_ble_eq_true rfl) ?_
  intro X hXl C F hnm hrc hrs
  subst hXl
  have hk : 0 ≤ (x_R X).cells ∧ 0 ≤ (x_R X).slots := ⟨Nat.zero_le _, Nat.zero_le _⟩
  have hB : (sB (some (.int r)) [oB q_t 9 [.int t_knots, .ref q_t_weight, .ref q_t_beside, .ref q_t_edge, .int t_rowed, .ref q_t_row, .int t_bags, .ref q_t_bag, .ref q_t_up, .ref q_t_least, .int t_q, .ref q_t_factor, .ref q_t_pairFactor, .ref q_t_forbidden, .ref q_t_mayNot, .ref q_t_fixed, .ref q_t_state, .ref q_t_count, .ref q_t_best, .ref q_t_bests, .long t_allCount, .long t_allBest, .long t_allBests], aI cA q_t_beside 14 t_beside, aI cA q_t_bag 14 t_bag, aI cA q_t_up 14 t_up]) (some (.int r)) [oB q_t 9 [.int t_knots, .ref q_t_weight, .ref q_t_beside, .ref q_t_edge, .int t_rowed, .ref q_t_row, .int t_bags, .ref q_t_bag, .ref q_t_up, .ref q_t_least, .int t_q, .ref q_t_factor, .ref q_t_pairFactor, .ref q_t_forbidden, .ref q_t_mayNot, .ref q_t_fixed, .ref q_t_state, .ref q_t_count, .ref q_t_best, .ref q_t_bests, .long t_allCount, .long t_allBest, .long t_allBests], aI cA q_t_beside 14 t_beside, aI cA q_t_bag 14 t_bag, aI cA q_t_up 14 t_up] := ⟨rfl, rfl⟩
  unfold f_X9_isAsked at hf
  have C : Cx X cX9_isAsked RX9 (some .boolean) cA 3 66 1 := C
  show Go X 1 0 0 0 [oB q_t 9 [.int t_knots, .ref q_t_weight, .ref q_t_beside, .ref q_t_edge, .int t_rowed, .ref q_t_row, .int t_bags, .ref q_t_bag, .ref q_t_up, .ref q_t_least, .int t_q, .ref q_t_factor, .ref q_t_pairFactor, .ref q_t_forbidden, .ref q_t_mayNot, .ref q_t_fixed, .ref q_t_state, .ref q_t_count, .ref q_t_best, .ref q_t_bests, .long t_allCount, .long t_allBest, .long t_allBests], aI cA q_t_beside 14 t_beside, aI cA q_t_bag 14 t_bag, aI cA q_t_up 14 t_up] [(0, .ref q_t)] []
  refine g_aload_n C 0 0 dX9_isAsked_0 rfl rfl ?_
  refine g_get C 1 0 6 dX9_isAsked_1 inX9 rfl rfl (by decide) kw_348 rfl ?_
  refine g_if_le C 4 26 dX9_isAsked_4 (by decide) hf (fun hf => ?_) (fun hf => ?_)
  · refine g_iconst C 26 (0 : Int32) dX9_isAsked_26 (by decide) ?_
    cases hf
    exact g_zret C 27 dX9_isAsked_27 (by decide) F hB
  · refine g_aload_n C 7 0 dX9_isAsked_7 rfl rfl ?_
    obtain ⟨u1, hu1, hf⟩ := cal_some hf
    refine g_callV1 C 8 [0, 1, 2, 3] 0 (rest := []) dX9_isAsked_8 (c_X9_sound (x_l X) cA q_t t_knots q_t_weight q_t_edge t_rowed q_t_row t_bags q_t_least t_q q_t_factor q_t_pairFactor q_t_forbidden q_t_mayNot q_t_fixed q_t_state q_t_count q_t_best q_t_bests t_allCount t_allBest t_allBests q_t_beside t_beside q_t_bag t_bag q_t_up t_up u1 hu1) kw_394 kw_395 kw_396 kw_343 kw_397 ok_X9_sound ⟨Nat.le_of_ble_eq_true rfl, Nat.le_of_ble_eq_true rfl⟩ hk ⟨rfl, rfl⟩ rfl rfl rfl rfl rfl (Nat.le_of_ble_eq_true rfl) rfl (ws' := [oB q_t 9 [.int t_knots, .ref q_t_weight, .ref q_t_beside, .ref q_t_edge, .int t_rowed, .ref q_t_row, .int t_bags, .ref q_t_bag, .ref q_t_up, .ref q_t_least, .int t_q, .ref q_t_factor, .ref q_t_pairFactor, .ref q_t_forbidden, .ref q_t_mayNot, .ref q_t_fixed, .ref q_t_state, .ref q_t_count, .ref q_t_best, .ref q_t_bests, .long t_allCount, .long t_allBest, .long t_allBests], aI cA q_t_beside 14 t_beside, aI cA q_t_bag 14 t_bag, aI cA q_t_up 14 t_up]) (st' := [.int u1]) (N0 := 4) rfl [some 0, some 1, some 2, some 3] (by decide) rfl rfl ?_
    refine g_if_ne C 11 26 dX9_isAsked_11 (by decide) hf (fun hf => ?_) (fun hf => ?_)
    · refine g_iconst C 26 (0 : Int32) dX9_isAsked_26 (by decide) ?_
      cases hf
      exact g_zret C 27 dX9_isAsked_27 (by decide) F hB
    · refine g_aload_n C 14 0 dX9_isAsked_14 rfl rfl ?_
      obtain ⟨u2, hu2, hf⟩ := cal_some hf
      refine g_callV1 C 15 [0, 2] 0 (rest := []) dX9_isAsked_15 (c_X9_width (x_l X) cA q_t t_knots q_t_weight q_t_beside q_t_edge t_rowed q_t_row t_bags q_t_up q_t_least t_q q_t_factor q_t_pairFactor q_t_forbidden q_t_mayNot q_t_fixed q_t_state q_t_count q_t_best q_t_bests t_allCount t_allBest t_allBests q_t_bag t_bag u2 hu2) kw_376 kw_377 kw_378 kw_343 kw_379 ok_X9_width ⟨Nat.le_of_ble_eq_true rfl, Nat.le_of_ble_eq_true rfl⟩ hk ⟨rfl, rfl⟩ rfl rfl rfl rfl rfl (Nat.le_of_ble_eq_true rfl) rfl (ws' := [oB q_t 9 [.int t_knots, .ref q_t_weight, .ref q_t_beside, .ref q_t_edge, .int t_rowed, .ref q_t_row, .int t_bags, .ref q_t_bag, .ref q_t_up, .ref q_t_least, .int t_q, .ref q_t_factor, .ref q_t_pairFactor, .ref q_t_forbidden, .ref q_t_mayNot, .ref q_t_fixed, .ref q_t_state, .ref q_t_count, .ref q_t_best, .ref q_t_bests, .long t_allCount, .long t_allBest, .long t_allBests], aI cA q_t_beside 14 t_beside, aI cA q_t_bag 14 t_bag, aI cA q_t_up 14 t_up]) (st' := [.int u2]) (N0 := 4) rfl [some 0, none, some 1, none] (by decide) rfl rfl ?_
      refine g_iconst C 18 (4 : Int32) dX9_isAsked_18 (by decide) ?_
      refine g_icmp_gt C 19 26 dX9_isAsked_19 (by decide) hf (fun hf => ?_) (fun hf => ?_)
      · refine g_iconst C 26 (0 : Int32) dX9_isAsked_26 (by decide) ?_
        cases hf
        exact g_zret C 27 dX9_isAsked_27 (by decide) F hB
      · refine g_iconst C 22 (1 : Int32) dX9_isAsked_22 (by decide) ?_
        refine g_goto C 23 27 dX9_isAsked_23 (by decide) ?_
        cases hf
        exact g_zret C 27 dX9_isAsked_27 (by decide) F hB

def L_X9_free_2   : Nat → Int32 → (Nat → Int32) → Option ((Nat → Int32))
  | 0, _, _ => none
  | n + 1, x1, t_fixed =>
    if (14 : Int32) ≤ x1 then
      some (t_fixed)
    else
      stI t_fixed 14 x1 (-1 : Int32) fun t_fixed_2 =>
      bnd (x1 + (1 : Int32)) fun x1_3 =>
      L_X9_free_2 n x1_3 t_fixed_2

set_option maxRecDepth 100000 in
set_option maxHeartbeats 1000000 in
theorem w_X9_free_2 (cA : Nat → ClassId) (q_t : Nat) (t_knots : Int32) (q_t_weight : Nat) (q_t_beside : Nat) (q_t_edge : Nat) (t_rowed : Int32) (q_t_row : Nat) (t_bags : Int32) (q_t_bag : Nat) (q_t_up : Nat) (q_t_least : Nat) (t_q : Int32) (q_t_factor : Nat) (q_t_pairFactor : Nat) (q_t_forbidden : Nat) (q_t_mayNot : Nat) (q_t_state : Nat) (q_t_count : Nat) (q_t_best : Nat) (q_t_bests : Nat) (t_allCount : Int64) (t_allBest : Int64) (t_allBests : Int64) (q_t_fixed : Nat)  {X : XT}  (C : Cx X cX9_free RX9 none cA 0 0 2) {kk nn : Nat} {BB : Option Value → va_W → Prop} (hk : kk ≤ (x_R X).cells ∧ nn ≤ (x_R X).slots) (F : Fx X BB kk nn) (r : (Nat → Int32)) (hB : BB (none) [oB q_t 9 [.int t_knots, .ref q_t_weight, .ref q_t_beside, .ref q_t_edge, .int t_rowed, .ref q_t_row, .int t_bags, .ref q_t_bag, .ref q_t_up, .ref q_t_least, .int t_q, .ref q_t_factor, .ref q_t_pairFactor, .ref q_t_forbidden, .ref q_t_mayNot, .ref q_t_fixed, .ref q_t_state, .ref q_t_count, .ref q_t_best, .ref q_t_bests, .long t_allCount, .long t_allBest, .long t_allBests], aI cA q_t_fixed 14 r])  : ∀ (n : Nat) (x1 : Int32) (t_fixed : Nat → Int32), L_X9_free_2 n x1 t_fixed = some r → Go X 2 kk nn 2 [oB q_t 9 [.int t_knots, .ref q_t_weight, .ref q_t_beside, .ref q_t_edge, .int t_rowed, .ref q_t_row, .int t_bags, .ref q_t_bag, .ref q_t_up, .ref q_t_least, .int t_q, .ref q_t_factor, .ref q_t_pairFactor, .ref q_t_forbidden, .ref q_t_mayNot, .ref q_t_fixed, .ref q_t_state, .ref q_t_count, .ref q_t_best, .ref q_t_bests, .long t_allCount, .long t_allBest, .long t_allBests], aI cA q_t_fixed 14 t_fixed] [(0, .ref q_t), (1, .int x1)] [] := by
  intro n
  induction n with
  | zero => intro x1 t_fixed hf; exact no_some hf
  | succ n ih =>
    intro x1 t_fixed hf
    rw [L_X9_free_2] at hf
    refine g_iload_n C 2 1 dX9_free_2 rfl rfl ?_
    refine g_bipush C 3 (14 : Int32) dX9_free_3 (by decide) ?_
    refine g_icmp_ge C 5 21 dX9_free_5 (by decide) hf (fun hf => ?_) (fun hf => ?_)
    · cases hf
      exact g_vret C 21 dX9_free_21 F hB
    · refine g_aload_n C 8 0 dX9_free_8 rfl rfl ?_
      refine g_get C 9 0 15 dX9_free_9 inX9 rfl rfl (by decide) kw_411 rfl ?_
      refine g_iload_n C 12 1 dX9_free_12 rfl rfl ?_
      refine g_iconst C 13 (-1 : Int32) dX9_free_13 (by decide) ?_
      refine g_iast C 14 1 (fun z => [oB q_t 9 [.int t_knots, .ref q_t_weight, .ref q_t_beside, .ref q_t_edge, .int t_rowed, .ref q_t_row, .int t_bags, .ref q_t_bag, .ref q_t_up, .ref q_t_least, .int t_q, .ref q_t_factor, .ref q_t_pairFactor, .ref q_t_forbidden, .ref q_t_mayNot, .ref q_t_fixed, .ref q_t_state, .ref q_t_count, .ref q_t_best, .ref q_t_bests, .long t_allCount, .long t_allBest, .long t_allBests], aI cA q_t_fixed 14 z]) dX9_free_14 rfl (fun _ => rfl) hf (fun t_fixed_2 hf => ?_)
      refine g_iinc C 15 1 (v := x1 + (1 : Int32)) (fun z => [(1, .int z), (0, .ref q_t)]) dX9_free_15 rfl rfl (by decide) (fun _ => rfl) hf (fun x1_3 hf => ?_)
      refine g_goto C 18 2 dX9_free_18 (by decide) ?_
      refine g_lv [1, 0] rfl ?_
      exact ih x1_3 t_fixed_2 hf
def f_X9_free (t_fixed : Nat → Int32) : Option ((Nat → Int32)) :=
  bnd (0 : Int32) fun x1_1 =>
  L_X9_free_2 NN x1_1 t_fixed

set_option maxRecDepth 100000 in
set_option maxHeartbeats 1000000 in
theorem c_X9_free (l : Launch) (cA : Nat → ClassId) (q_t : Nat) (t_knots : Int32) (q_t_weight : Nat) (q_t_beside : Nat) (q_t_edge : Nat) (t_rowed : Int32) (q_t_row : Nat) (t_bags : Int32) (q_t_bag : Nat) (q_t_up : Nat) (q_t_least : Nat) (t_q : Int32) (q_t_factor : Nat) (q_t_pairFactor : Nat) (q_t_forbidden : Nat) (q_t_mayNot : Nat) (q_t_state : Nat) (q_t_count : Nat) (q_t_best : Nat) (q_t_bests : Nat) (t_allCount : Int64) (t_allBest : Int64) (t_allBests : Int64) (q_t_fixed : Nat) (t_fixed : Nat → Int32)   (r : (Nat → Int32)) (hf : f_X9_free t_fixed = some r) : MT l cA yX9_free cX9_free 2 none ({ frames := 0, cells := 0, slots := 0, locals := 0 } : Room) [.ref q_t] [oB q_t 9 [.int t_knots, .ref q_t_weight, .ref q_t_beside, .ref q_t_edge, .int t_rowed, .ref q_t_row, .int t_bags, .ref q_t_bag, .ref q_t_up, .ref q_t_least, .int t_q, .ref q_t_factor, .ref q_t_pairFactor, .ref q_t_forbidden, .ref q_t_mayNot, .ref q_t_fixed, .ref q_t_state, .ref q_t_count, .ref q_t_best, .ref q_t_bests, .long t_allCount, .long t_allBest, .long t_allBests], aI cA q_t_fixed 14 t_fixed] (sB (none) [oB q_t 9 [.int t_knots, .ref q_t_weight, .ref q_t_beside, .ref q_t_edge, .int t_rowed, .ref q_t_row, .int t_bags, .ref q_t_bag, .ref q_t_up, .ref q_t_least, .int t_q, .ref q_t_factor, .ref q_t_pairFactor, .ref q_t_forbidden, .ref q_t_mayNot, .ref q_t_fixed, .ref q_t_state, .ref q_t_count, .ref q_t_best, .ref q_t_bests, .long t_allCount, .long t_allBest, .long t_allBests], aI cA q_t_fixed 14 r]) := by
  refine MT.of (by decide) (Nat.le_of_ble_eq_true rfl) ?_
  intro X hXl C F hnm hrc hrs
  subst hXl
  have hk : 0 ≤ (x_R X).cells ∧ 0 ≤ (x_R X).slots := ⟨Nat.zero_le _, Nat.zero_le _⟩
  have hB : (sB (none) [oB q_t 9 [.int t_knots, .ref q_t_weight, .ref q_t_beside, .ref q_t_edge, .int t_rowed, .ref q_t_row, .int t_bags, .ref q_t_bag, .ref q_t_up, .ref q_t_least, .int t_q, .ref q_t_factor, .ref q_t_pairFactor, .ref q_t_forbidden, .ref q_t_mayNot, .ref q_t_fixed, .ref q_t_state, .ref q_t_count, .ref q_t_best, .ref q_t_bests, .long t_allCount, .long t_allBest, .long t_allBests], aI cA q_t_fixed 14 r]) (none) [oB q_t 9 [.int t_knots, .ref q_t_weight, .ref q_t_beside, .ref q_t_edge, .int t_rowed, .ref q_t_row, .int t_bags, .ref q_t_bag, .ref q_t_up, .ref q_t_least, .int t_q, .ref q_t_factor, .ref q_t_pairFactor, .ref q_t_forbidden, .ref q_t_mayNot, .ref q_t_fixed, .ref q_t_state, .ref q_t_count, .ref q_t_best, .ref q_t_bests, .long t_allCount, .long t_allBest, .long t_allBests], aI cA q_t_fixed 14 r] := ⟨rfl, rfl⟩
  unfold f_X9_free at hf
  have C : Cx X cX9_free RX9 none cA 0 0 2 := C
  show Go X 2 0 0 0 [oB q_t 9 [.int t_knots, .ref q_t_weight, .ref q_t_beside, .ref q_t_edge, .int t_rowed, .ref q_t_row, .int t_bags, .ref q_t_bag, .ref q_t_up, .ref q_t_least, .int t_q, .ref q_t_factor, .ref q_t_pairFactor, .ref q_t_forbidden, .ref q_t_mayNot, .ref q_t_fixed, .ref q_t_state, .ref q_t_count, .ref q_t_best, .ref q_t_bests, .long t_allCount, .long t_allBest, .long t_allBests], aI cA q_t_fixed 14 t_fixed] [(0, .ref q_t)] []
  refine g_iconst C 0 (0 : Int32) dX9_free_0 (by decide) ?_
  refine g_istore_n C 1 (fun z => [(1, .int z), (0, .ref q_t)]) dX9_free_1 rfl (by decide) (fun _ => rfl) hf (fun x1_1 hf => ?_)
  refine g_lv [1, 0] rfl ?_
  exact w_X9_free_2 cA q_t t_knots q_t_weight q_t_beside q_t_edge t_rowed q_t_row t_bags q_t_bag q_t_up q_t_least t_q q_t_factor q_t_pairFactor q_t_forbidden q_t_mayNot q_t_state q_t_count q_t_best q_t_bests t_allCount t_allBest t_allBests q_t_fixed C hk F r hB NN x1_1 t_fixed hf

def f_X9_mayBe (a1 : Int32) (a2 : Int32) (t_q : Int32) (t_forbidden : Nat → Int32) (t_fixed : Nat → Int32) : Option (Int32) :=
  if t_q ≤ a2 then
    some ((0 : Int32))
  else
    ldA t_forbidden 14 a1 fun v1 =>
    if ((v1 >>> (a2 &&& 31)) &&& (1 : Int32)) = 0 then
      ldA t_fixed 14 a1 fun v2 =>
      if v2 < 0 then
        some ((1 : Int32))
      else
        ldA t_fixed 14 a1 fun v3 =>
        if v3 = a2 then
          some ((1 : Int32))
        else
          some ((0 : Int32))
    else
      some ((0 : Int32))

set_option maxRecDepth 100000 in
set_option maxHeartbeats 1000000 in
theorem c_X9_mayBe (l : Launch) (cA : Nat → ClassId) (q_t : Nat) (t_knots : Int32) (q_t_weight : Nat) (q_t_beside : Nat) (q_t_edge : Nat) (t_rowed : Int32) (q_t_row : Nat) (t_bags : Int32) (q_t_bag : Nat) (q_t_up : Nat) (q_t_least : Nat) (t_q : Int32) (q_t_factor : Nat) (q_t_pairFactor : Nat) (q_t_mayNot : Nat) (q_t_state : Nat) (q_t_count : Nat) (q_t_best : Nat) (q_t_bests : Nat) (t_allCount : Int64) (t_allBest : Int64) (t_allBests : Int64) (q_t_forbidden : Nat) (t_forbidden : Nat → Int32) (q_t_fixed : Nat) (t_fixed : Nat → Int32)  (a1 : Int32) (a2 : Int32) (r : Int32) (hf : f_X9_mayBe a1 a2 t_q t_forbidden t_fixed = some r) : MT l cA yX9_mayBe cX9_mayBe 3 (some .boolean) ({ frames := 0, cells := 0, slots := 0, locals := 0 } : Room) [.ref q_t, .int a1, .int a2] [oB q_t 9 [.int t_knots, .ref q_t_weight, .ref q_t_beside, .ref q_t_edge, .int t_rowed, .ref q_t_row, .int t_bags, .ref q_t_bag, .ref q_t_up, .ref q_t_least, .int t_q, .ref q_t_factor, .ref q_t_pairFactor, .ref q_t_forbidden, .ref q_t_mayNot, .ref q_t_fixed, .ref q_t_state, .ref q_t_count, .ref q_t_best, .ref q_t_bests, .long t_allCount, .long t_allBest, .long t_allBests], aI cA q_t_forbidden 14 t_forbidden, aI cA q_t_fixed 14 t_fixed] (sB (some (.int r)) [oB q_t 9 [.int t_knots, .ref q_t_weight, .ref q_t_beside, .ref q_t_edge, .int t_rowed, .ref q_t_row, .int t_bags, .ref q_t_bag, .ref q_t_up, .ref q_t_least, .int t_q, .ref q_t_factor, .ref q_t_pairFactor, .ref q_t_forbidden, .ref q_t_mayNot, .ref q_t_fixed, .ref q_t_state, .ref q_t_count, .ref q_t_best, .ref q_t_bests, .long t_allCount, .long t_allBest, .long t_allBests], aI cA q_t_forbidden 14 t_forbidden, aI cA q_t_fixed 14 t_fixed]) := by
  refine MT.of (by decide) (Nat.le_of_ble_eq_true rfl) ?_
  intro X hXl C F hnm hrc hrs
  subst hXl
  have hk : 0 ≤ (x_R X).cells ∧ 0 ≤ (x_R X).slots := ⟨Nat.zero_le _, Nat.zero_le _⟩
  have hB : (sB (some (.int r)) [oB q_t 9 [.int t_knots, .ref q_t_weight, .ref q_t_beside, .ref q_t_edge, .int t_rowed, .ref q_t_row, .int t_bags, .ref q_t_bag, .ref q_t_up, .ref q_t_least, .int t_q, .ref q_t_factor, .ref q_t_pairFactor, .ref q_t_forbidden, .ref q_t_mayNot, .ref q_t_fixed, .ref q_t_state, .ref q_t_count, .ref q_t_best, .ref q_t_bests, .long t_allCount, .long t_allBest, .long t_allBests], aI cA q_t_forbidden 14 t_forbidden, aI cA q_t_fixed 14 t_fixed]) (some (.int r)) [oB q_t 9 [.int t_knots, .ref q_t_weight, .ref q_t_beside, .ref q_t_edge, .int t_rowed, .ref q_t_row, .int t_bags, .ref q_t_bag, .ref q_t_up, .ref q_t_least, .int t_q, .ref q_t_factor, .ref q_t_pairFactor, .ref q_t_forbidden, .ref q_t_mayNot, .ref q_t_fixed, .ref q_t_state, .ref q_t_count, .ref q_t_best, .ref q_t_bests, .long t_allCount, .long t_allBest, .long t_allBests], aI cA q_t_forbidden 14 t_forbidden, aI cA q_t_fixed 14 t_fixed] := ⟨rfl, rfl⟩
  unfold f_X9_mayBe at hf
  have C : Cx X cX9_mayBe RX9 (some .boolean) cA 0 0 3 := C
  show Go X 3 0 0 0 [oB q_t 9 [.int t_knots, .ref q_t_weight, .ref q_t_beside, .ref q_t_edge, .int t_rowed, .ref q_t_row, .int t_bags, .ref q_t_bag, .ref q_t_up, .ref q_t_least, .int t_q, .ref q_t_factor, .ref q_t_pairFactor, .ref q_t_forbidden, .ref q_t_mayNot, .ref q_t_fixed, .ref q_t_state, .ref q_t_count, .ref q_t_best, .ref q_t_bests, .long t_allCount, .long t_allBest, .long t_allBests], aI cA q_t_forbidden 14 t_forbidden, aI cA q_t_fixed 14 t_fixed] [(0, .ref q_t), (1, .int a1), (2, .int a2)] []
  refine g_iload_n C 0 2 dX9_mayBe_0 rfl rfl ?_
  refine g_aload_n C 1 0 dX9_mayBe_1 rfl rfl ?_
  refine g_get C 2 0 10 dX9_mayBe_2 inX9 rfl rfl (by decide) kw_398 rfl ?_
  refine g_icmp_ge C 5 44 dX9_mayBe_5 (by decide) hf (fun hf => ?_) (fun hf => ?_)
  · refine g_iconst C 44 (0 : Int32) dX9_mayBe_44 (by decide) ?_
    cases hf
    exact g_zret C 45 dX9_mayBe_45 (by decide) F hB
  · refine g_aload_n C 8 0 dX9_mayBe_8 rfl rfl ?_
    refine g_get C 9 0 13 dX9_mayBe_9 inX9 rfl rfl (by decide) kw_399 rfl ?_
    refine g_iload_n C 12 1 dX9_mayBe_12 rfl rfl ?_
    refine g_iald C 13 1 dX9_mayBe_13 rfl hf (fun v1 hf => ?_)
    refine g_iload_n C 14 2 dX9_mayBe_14 rfl rfl ?_
    refine g_ishr C 15 dX9_mayBe_15 ?_
    refine g_iconst C 16 (1 : Int32) dX9_mayBe_16 (by decide) ?_
    refine g_iand C 17 dX9_mayBe_17 ?_
    refine g_if_ne C 18 44 dX9_mayBe_18 (by decide) hf (fun hf => ?_) (fun hf => ?_)
    · refine g_iconst C 44 (0 : Int32) dX9_mayBe_44 (by decide) ?_
      cases hf
      exact g_zret C 45 dX9_mayBe_45 (by decide) F hB
    · refine g_aload_n C 21 0 dX9_mayBe_21 rfl rfl ?_
      refine g_get C 22 0 15 dX9_mayBe_22 inX9 rfl rfl (by decide) kw_411 rfl ?_
      refine g_iload_n C 25 1 dX9_mayBe_25 rfl rfl ?_
      refine g_iald C 26 2 dX9_mayBe_26 rfl hf (fun v2 hf => ?_)
      refine g_if_lt C 27 40 dX9_mayBe_27 (by decide) hf (fun hf => ?_) (fun hf => ?_)
      · refine g_iconst C 40 (1 : Int32) dX9_mayBe_40 (by decide) ?_
        refine g_goto C 41 45 dX9_mayBe_41 (by decide) ?_
        cases hf
        exact g_zret C 45 dX9_mayBe_45 (by decide) F hB
      · refine g_aload_n C 30 0 dX9_mayBe_30 rfl rfl ?_
        refine g_get C 31 0 15 dX9_mayBe_31 inX9 rfl rfl (by decide) kw_411 rfl ?_
        refine g_iload_n C 34 1 dX9_mayBe_34 rfl rfl ?_
        refine g_iald C 35 2 dX9_mayBe_35 rfl hf (fun v3 hf => ?_)
        refine g_iload_n C 36 2 dX9_mayBe_36 rfl rfl ?_
        refine g_icmp_ne C 37 44 dX9_mayBe_37 (by decide) hf (fun hf => ?_) (fun hf => ?_)
        · refine g_iconst C 44 (0 : Int32) dX9_mayBe_44 (by decide) ?_
          cases hf
          exact g_zret C 45 dX9_mayBe_45 (by decide) F hB
        · refine g_iconst C 40 (1 : Int32) dX9_mayBe_40 (by decide) ?_
          refine g_goto C 41 45 dX9_mayBe_41 (by decide) ?_
          cases hf
          exact g_zret C 45 dX9_mayBe_45 (by decide) F hB

def L_X9_code_4 (a1 : Int32) (t_knots : Int32) (t_state : Nat → Int32)  : Nat → Int32 → Int32 → Option (Int32)
  | 0, _, _ => none
  | n + 1, x2, x3 =>
    if t_knots ≤ x3 then
      some (x2)
    else
      if ((a1 >>> (x3 &&& 31)) &&& (1 : Int32)) = (1 : Int32) then
        ldA t_state 14 x3 fun v4 =>
        bnd (((4 : Int32) * x2) + v4) fun x2_5 =>
        bnd (x3 + (1 : Int32)) fun x3_6 =>
        L_X9_code_4 a1 t_knots t_state n x2_5 x3_6
      else
        bnd (x3 + (1 : Int32)) fun x3_3 =>
        L_X9_code_4 a1 t_knots t_state n x2 x3_3

set_option maxRecDepth 100000 in
set_option maxHeartbeats 1000000 in
theorem w_X9_code_4 (cA : Nat → ClassId) (q_t : Nat) (q_t_weight : Nat) (q_t_beside : Nat) (q_t_edge : Nat) (t_rowed : Int32) (q_t_row : Nat) (t_bags : Int32) (q_t_bag : Nat) (q_t_up : Nat) (q_t_least : Nat) (t_q : Int32) (q_t_factor : Nat) (q_t_pairFactor : Nat) (q_t_forbidden : Nat) (q_t_mayNot : Nat) (q_t_fixed : Nat) (q_t_count : Nat) (q_t_best : Nat) (q_t_bests : Nat) (t_allCount : Int64) (t_allBest : Int64) (t_allBests : Int64) (q_t_state : Nat) (a1 : Int32) (t_knots : Int32) (t_state : Nat → Int32) {X : XT}  (C : Cx X cX9_code RX9 (some .int) cA 0 0 4) {kk nn : Nat} {BB : Option Value → va_W → Prop} (hk : kk ≤ (x_R X).cells ∧ nn ≤ (x_R X).slots) (F : Fx X BB kk nn) (r : Int32) (hB : BB (some (.int r)) [oB q_t 9 [.int t_knots, .ref q_t_weight, .ref q_t_beside, .ref q_t_edge, .int t_rowed, .ref q_t_row, .int t_bags, .ref q_t_bag, .ref q_t_up, .ref q_t_least, .int t_q, .ref q_t_factor, .ref q_t_pairFactor, .ref q_t_forbidden, .ref q_t_mayNot, .ref q_t_fixed, .ref q_t_state, .ref q_t_count, .ref q_t_best, .ref q_t_bests, .long t_allCount, .long t_allBest, .long t_allBests], aI cA q_t_state 14 t_state])  : ∀ (n : Nat) (x2 : Int32) (x3 : Int32), L_X9_code_4 a1 t_knots t_state n x2 x3 = some r → Go X 4 kk nn 4 [oB q_t 9 [.int t_knots, .ref q_t_weight, .ref q_t_beside, .ref q_t_edge, .int t_rowed, .ref q_t_row, .int t_bags, .ref q_t_bag, .ref q_t_up, .ref q_t_least, .int t_q, .ref q_t_factor, .ref q_t_pairFactor, .ref q_t_forbidden, .ref q_t_mayNot, .ref q_t_fixed, .ref q_t_state, .ref q_t_count, .ref q_t_best, .ref q_t_bests, .long t_allCount, .long t_allBest, .long t_allBests], aI cA q_t_state 14 t_state] [(0, .ref q_t), (1, .int a1), (2, .int x2), (3, .int x3)] [] := by
  intro n
  induction n with
  | zero => intro x2 x3 hf; exact no_some hf
  | succ n ih =>
    intro x2 x3 hf
    rw [L_X9_code_4] at hf
    refine g_iload_n C 4 3 dX9_code_4 rfl rfl ?_
    refine g_aload_n C 5 0 dX9_code_5 rfl rfl ?_
    refine g_get C 6 0 0 dX9_code_6 inX9 rfl rfl (by decide) kw_339 rfl ?_
    refine g_icmp_ge C 9 38 dX9_code_9 (by decide) hf (fun hf => ?_) (fun hf => ?_)
    · refine g_iload_n C 38 2 dX9_code_38 rfl rfl ?_
      cases hf
      exact g_iret C 39 dX9_code_39 F hB
    · refine g_iload_n C 12 1 dX9_code_12 rfl rfl ?_
      refine g_iload_n C 13 3 dX9_code_13 rfl rfl ?_
      refine g_ishr C 14 dX9_code_14 ?_
      refine g_iconst C 15 (1 : Int32) dX9_code_15 (by decide) ?_
      refine g_iand C 16 dX9_code_16 ?_
      refine g_iconst C 17 (1 : Int32) dX9_code_17 (by decide) ?_
      refine g_icmp_ne C 18 32 dX9_code_18 (by decide) hf (fun hf => ?_) (fun hf => ?_)
      · refine g_iinc C 32 3 (v := x3 + (1 : Int32)) (fun z => [(3, .int z), (0, .ref q_t), (1, .int a1), (2, .int x2)]) dX9_code_32 rfl rfl (by decide) (fun _ => rfl) hf (fun x3_3 hf => ?_)
        refine g_goto C 35 4 dX9_code_35 (by decide) ?_
        refine g_lv [1, 2, 3, 0] rfl ?_
        exact ih x2 x3_3 hf
      · refine g_iconst C 21 (4 : Int32) dX9_code_21 (by decide) ?_
        refine g_iload_n C 22 2 dX9_code_22 rfl rfl ?_
        refine g_imul C 23 dX9_code_23 ?_
        refine g_aload_n C 24 0 dX9_code_24 rfl rfl ?_
        refine g_get C 25 0 16 dX9_code_25 inX9 rfl rfl (by decide) kw_412 rfl ?_
        refine g_iload_n C 28 3 dX9_code_28 rfl rfl ?_
        refine g_iald C 29 1 dX9_code_29 rfl hf (fun v4 hf => ?_)
        refine g_iadd C 30 dX9_code_30 ?_
        refine g_istore_n C 31 (fun z => [(2, .int z), (0, .ref q_t), (1, .int a1), (3, .int x3)]) dX9_code_31 rfl (by decide) (fun _ => rfl) hf (fun x2_5 hf => ?_)
        refine g_iinc C 32 3 (v := x3 + (1 : Int32)) (fun z => [(3, .int z), (2, .int x2_5), (0, .ref q_t), (1, .int a1)]) dX9_code_32 rfl rfl (by decide) (fun _ => rfl) hf (fun x3_6 hf => ?_)
        refine g_goto C 35 4 dX9_code_35 (by decide) ?_
        refine g_lv [2, 3, 1, 0] rfl ?_
        exact ih x2_5 x3_6 hf
def f_X9_code (a1 : Int32) (t_knots : Int32) (t_state : Nat → Int32) : Option (Int32) :=
  bnd (0 : Int32) fun x2_1 =>
  bnd (0 : Int32) fun x3_2 =>
  L_X9_code_4 a1 t_knots t_state NN x2_1 x3_2

set_option maxRecDepth 100000 in
set_option maxHeartbeats 1000000 in
theorem c_X9_code (l : Launch) (cA : Nat → ClassId) (q_t : Nat) (t_knots : Int32) (q_t_weight : Nat) (q_t_beside : Nat) (q_t_edge : Nat) (t_rowed : Int32) (q_t_row : Nat) (t_bags : Int32) (q_t_bag : Nat) (q_t_up : Nat) (q_t_least : Nat) (t_q : Int32) (q_t_factor : Nat) (q_t_pairFactor : Nat) (q_t_forbidden : Nat) (q_t_mayNot : Nat) (q_t_fixed : Nat) (q_t_count : Nat) (q_t_best : Nat) (q_t_bests : Nat) (t_allCount : Int64) (t_allBest : Int64) (t_allBests : Int64) (q_t_state : Nat) (t_state : Nat → Int32)  (a1 : Int32) (r : Int32) (hf : f_X9_code a1 t_knots t_state = some r) : MT l cA yX9_code cX9_code 4 (some .int) ({ frames := 0, cells := 0, slots := 0, locals := 0 } : Room) [.ref q_t, .int a1] [oB q_t 9 [.int t_knots, .ref q_t_weight, .ref q_t_beside, .ref q_t_edge, .int t_rowed, .ref q_t_row, .int t_bags, .ref q_t_bag, .ref q_t_up, .ref q_t_least, .int t_q, .ref q_t_factor, .ref q_t_pairFactor, .ref q_t_forbidden, .ref q_t_mayNot, .ref q_t_fixed, .ref q_t_state, .ref q_t_count, .ref q_t_best, .ref q_t_bests, .long t_allCount, .long t_allBest, .long t_allBests], aI cA q_t_state 14 t_state] (sB (some (.int r)) [oB q_t 9 [.int t_knots, .ref q_t_weight, .ref q_t_beside, .ref q_t_edge, .int t_rowed, .ref q_t_row, .int t_bags, .ref q_t_bag, .ref q_t_up, .ref q_t_least, .int t_q, .ref q_t_factor, .ref q_t_pairFactor, .ref q_t_forbidden, .ref q_t_mayNot, .ref q_t_fixed, .ref q_t_state, .ref q_t_count, .ref q_t_best, .ref q_t_bests, .long t_allCount, .long t_allBest, .long t_allBests], aI cA q_t_state 14 t_state]) := by
  refine MT.of (by decide) (Nat.le_of_ble_eq_true rfl) ?_
  intro X hXl C F hnm hrc hrs
  subst hXl
  have hk : 0 ≤ (x_R X).cells ∧ 0 ≤ (x_R X).slots := ⟨Nat.zero_le _, Nat.zero_le _⟩
  have hB : (sB (some (.int r)) [oB q_t 9 [.int t_knots, .ref q_t_weight, .ref q_t_beside, .ref q_t_edge, .int t_rowed, .ref q_t_row, .int t_bags, .ref q_t_bag, .ref q_t_up, .ref q_t_least, .int t_q, .ref q_t_factor, .ref q_t_pairFactor, .ref q_t_forbidden, .ref q_t_mayNot, .ref q_t_fixed, .ref q_t_state, .ref q_t_count, .ref q_t_best, .ref q_t_bests, .long t_allCount, .long t_allBest, .long t_allBests], aI cA q_t_state 14 t_state]) (some (.int r)) [oB q_t 9 [.int t_knots, .ref q_t_weight, .ref q_t_beside, .ref q_t_edge, .int t_rowed, .ref q_t_row, .int t_bags, .ref q_t_bag, .ref q_t_up, .ref q_t_least, .int t_q, .ref q_t_factor, .ref q_t_pairFactor, .ref q_t_forbidden, .ref q_t_mayNot, .ref q_t_fixed, .ref q_t_state, .ref q_t_count, .ref q_t_best, .ref q_t_bests, .long t_allCount, .long t_allBest, .long t_allBests], aI cA q_t_state 14 t_state] := ⟨rfl, rfl⟩
  unfold f_X9_code at hf
  have C : Cx X cX9_code RX9 (some .int) cA 0 0 4 := C
  show Go X 4 0 0 0 [oB q_t 9 [.int t_knots, .ref q_t_weight, .ref q_t_beside, .ref q_t_edge, .int t_rowed, .ref q_t_row, .int t_bags, .ref q_t_bag, .ref q_t_up, .ref q_t_least, .int t_q, .ref q_t_factor, .ref q_t_pairFactor, .ref q_t_forbidden, .ref q_t_mayNot, .ref q_t_fixed, .ref q_t_state, .ref q_t_count, .ref q_t_best, .ref q_t_bests, .long t_allCount, .long t_allBest, .long t_allBests], aI cA q_t_state 14 t_state] [(0, .ref q_t), (1, .int a1)] []
  refine g_iconst C 0 (0 : Int32) dX9_code_0 (by decide) ?_
  refine g_istore_n C 1 (fun z => [(2, .int z), (0, .ref q_t), (1, .int a1)]) dX9_code_1 rfl (by decide) (fun _ => rfl) hf (fun x2_1 hf => ?_)
  refine g_iconst C 2 (0 : Int32) dX9_code_2 (by decide) ?_
  refine g_istore_n C 3 (fun z => [(3, .int z), (2, .int x2_1), (0, .ref q_t), (1, .int a1)]) dX9_code_3 rfl (by decide) (fun _ => rfl) hf (fun x3_2 hf => ?_)
  refine g_lv [2, 3, 1, 0] rfl ?_
  exact w_X9_code_4 cA q_t q_t_weight q_t_beside q_t_edge t_rowed q_t_row t_bags q_t_bag q_t_up q_t_least t_q q_t_factor q_t_pairFactor q_t_forbidden q_t_mayNot q_t_fixed q_t_count q_t_best q_t_bests t_allCount t_allBest t_allBests q_t_state a1 t_knots t_state C hk F r hB NN x2_1 x3_2 hf

def L_X9_take_103 (a1 : Int32) (a2 : Int32) (t_knots : Int32) (t_q : Int32) (t_beside : Nat → Int32) (t_bag : Nat → Int32) (t_forbidden : Nat → Int32) (t_mayNot : Nat → Int32) (t_fixed : Nat → Int32) (k_86 : Int32 → Int32 → (Nat → Int32) → Option (Int32 × (Nat → Int32))) : Nat → Int32 → Int32 → Int32 → (Nat → Int32) → Option (Int32 × (Nat → Int32))
  | 0, _, _, _, _ => none
  | n + 1, x4, x5, x6, t_state =>
    if x5 ≤ x6 then
      bnd (x5 + (1 : Int32)) fun x5_6 =>
      k_86 x4 x5_6 t_state
    else
      if x4 = 0 then
        bnd (x5 + (1 : Int32)) fun x5_7 =>
        k_86 x4 x5_7 t_state
      else
        ldA t_bag 14 a1 fun v8 =>
        if ((v8 >>> (x5 &&& 31)) &&& (1 : Int32)) = (1 : Int32) then
          ldA t_bag 14 a1 fun v10 =>
          if ((v10 >>> (x6 &&& 31)) &&& (1 : Int32)) = (1 : Int32) then
            cal (f_X9_isEdge x5 x6 t_knots t_beside) fun u12 =>
            if u12 = 0 then
              bnd (x6 + (1 : Int32)) fun x6_13 =>
              L_X9_take_103 a1 a2 t_knots t_q t_beside t_bag t_forbidden t_mayNot t_fixed k_86 n x4 x5 x6_13 t_state
            else
              ldA t_state 14 x5 fun v14 =>
              ldA t_state 14 x6 fun v15 =>
              ldA t_mayNot 16 (((4 : Int32) * v14) + v15) fun v16 =>
              if v16 = 0 then
                bnd (1 : Int32) fun x4_19 =>
                bnd (x6 + (1 : Int32)) fun x6_20 =>
                L_X9_take_103 a1 a2 t_knots t_q t_beside t_bag t_forbidden t_mayNot t_fixed k_86 n x4_19 x5 x6_20 t_state
              else
                bnd (0 : Int32) fun x4_17 =>
                bnd (x6 + (1 : Int32)) fun x6_18 =>
                L_X9_take_103 a1 a2 t_knots t_q t_beside t_bag t_forbidden t_mayNot t_fixed k_86 n x4_17 x5 x6_18 t_state
          else
            bnd (x6 + (1 : Int32)) fun x6_11 =>
            L_X9_take_103 a1 a2 t_knots t_q t_beside t_bag t_forbidden t_mayNot t_fixed k_86 n x4 x5 x6_11 t_state
        else
          bnd (x6 + (1 : Int32)) fun x6_9 =>
          L_X9_take_103 a1 a2 t_knots t_q t_beside t_bag t_forbidden t_mayNot t_fixed k_86 n x4 x5 x6_9 t_state

set_option maxRecDepth 100000 in
set_option maxHeartbeats 1000000 in
theorem w_X9_take_103 (cA : Nat → ClassId) (q_t : Nat) (q_t_weight : Nat) (q_t_edge : Nat) (t_rowed : Int32) (q_t_row : Nat) (t_bags : Int32) (q_t_up : Nat) (q_t_least : Nat) (q_t_factor : Nat) (q_t_pairFactor : Nat) (q_t_count : Nat) (q_t_best : Nat) (q_t_bests : Nat) (t_allCount : Int64) (t_allBest : Int64) (t_allBests : Int64) (q_t_beside : Nat) (q_t_bag : Nat) (q_t_forbidden : Nat) (q_t_mayNot : Nat) (q_t_fixed : Nat) (q_t_state : Nat) (a1 : Int32) (a2 : Int32) (t_knots : Int32) (t_q : Int32) (t_beside : Nat → Int32) (t_bag : Nat → Int32) (t_forbidden : Nat → Int32) (t_mayNot : Nat → Int32) (t_fixed : Nat → Int32) {X : XT}  (C : Cx X cX9_take RX9 (some .boolean) cA 2 43 7) {kk nn : Nat} {BB : Option Value → va_W → Prop} (hk : kk ≤ (x_R X).cells ∧ nn ≤ (x_R X).slots) (F : Fx X BB kk nn) (r : Int32 × (Nat → Int32)) (hB : BB (some (.int r.1)) [oB q_t 9 [.int t_knots, .ref q_t_weight, .ref q_t_beside, .ref q_t_edge, .int t_rowed, .ref q_t_row, .int t_bags, .ref q_t_bag, .ref q_t_up, .ref q_t_least, .int t_q, .ref q_t_factor, .ref q_t_pairFactor, .ref q_t_forbidden, .ref q_t_mayNot, .ref q_t_fixed, .ref q_t_state, .ref q_t_count, .ref q_t_best, .ref q_t_bests, .long t_allCount, .long t_allBest, .long t_allBests], aI cA q_t_beside 14 t_beside, aI cA q_t_bag 14 t_bag, aI cA q_t_forbidden 14 t_forbidden, aZ cA q_t_mayNot 16 t_mayNot, aI cA q_t_fixed 14 t_fixed, aI cA q_t_state 14 r.2]) (k_86 : Int32 → Int32 → (Nat → Int32) → Option (Int32 × (Nat → Int32))) (h_86 : ∀ (x4 : Int32) (x5 : Int32) (t_state : Nat → Int32), k_86 x4 x5 t_state = some r → Go X 7 kk nn 86 [oB q_t 9 [.int t_knots, .ref q_t_weight, .ref q_t_beside, .ref q_t_edge, .int t_rowed, .ref q_t_row, .int t_bags, .ref q_t_bag, .ref q_t_up, .ref q_t_least, .int t_q, .ref q_t_factor, .ref q_t_pairFactor, .ref q_t_forbidden, .ref q_t_mayNot, .ref q_t_fixed, .ref q_t_state, .ref q_t_count, .ref q_t_best, .ref q_t_bests, .long t_allCount, .long t_allBest, .long t_allBests], aI cA q_t_beside 14 t_beside, aI cA q_t_bag 14 t_bag, aI cA q_t_forbidden 14 t_forbidden, aZ cA q_t_mayNot 16 t_mayNot, aI cA q_t_fixed 14 t_fixed, aI cA q_t_state 14 t_state] [(0, .ref q_t), (1, .int a1), (4, .int x4), (5, .int x5)] []) : ∀ (n : Nat) (x4 : Int32) (x5 : Int32) (x6 : Int32) (t_state : Nat → Int32), L_X9_take_103 a1 a2 t_knots t_q t_beside t_bag t_forbidden t_mayNot t_fixed k_86 n x4 x5 x6 t_state = some r → Go X 7 kk nn 103 [oB q_t 9 [.int t_knots, .ref q_t_weight, .ref q_t_beside, .ref q_t_edge, .int t_rowed, .ref q_t_row, .int t_bags, .ref q_t_bag, .ref q_t_up, .ref q_t_least, .int t_q, .ref q_t_factor, .ref q_t_pairFactor, .ref q_t_forbidden, .ref q_t_mayNot, .ref q_t_fixed, .ref q_t_state, .ref q_t_count, .ref q_t_best, .ref q_t_bests, .long t_allCount, .long t_allBest, .long t_allBests], aI cA q_t_beside 14 t_beside, aI cA q_t_bag 14 t_bag, aI cA q_t_forbidden 14 t_forbidden, aZ cA q_t_mayNot 16 t_mayNot, aI cA q_t_fixed 14 t_fixed, aI cA q_t_state 14 t_state] [(0, .ref q_t), (1, .int a1), (4, .int x4), (5, .int x5), (6, .int x6)] [] := by
  intro n
  induction n with
  | zero => intro x4 x5 x6 t_state hf; exact no_some hf
  | succ n ih =>
    intro x4 x5 x6 t_state hf
    rw [L_X9_take_103] at hf
    refine g_iload C 103 4 dX9_take_103 rfl ?_
    refine g_iload C 105 3 dX9_take_105 rfl ?_
    refine g_icmp_ge C 107 194 dX9_take_107 (by decide) hf (fun hf => ?_) (fun hf => ?_)
    · refine g_iinc C 194 3 (v := x5 + (1 : Int32)) (fun z => [(5, .int z), (0, .ref q_t), (1, .int a1), (4, .int x4), (6, .int x6)]) dX9_take_194 rfl rfl (by decide) (fun _ => rfl) hf (fun x5_6 hf => ?_)
      refine g_goto C 197 86 dX9_take_197 (by decide) ?_
      refine g_lv [1, 2, 3, 0] rfl ?_
      exact h_86 x4 x5_6 t_state hf
    · refine g_iload C 110 2 dX9_take_110 rfl ?_
      refine g_if_eq C 112 194 dX9_take_112 (by decide) hf (fun hf => ?_) (fun hf => ?_)
      · refine g_iinc C 194 3 (v := x5 + (1 : Int32)) (fun z => [(5, .int z), (0, .ref q_t), (1, .int a1), (4, .int x4), (6, .int x6)]) dX9_take_194 rfl rfl (by decide) (fun _ => rfl) hf (fun x5_7 hf => ?_)
        refine g_goto C 197 86 dX9_take_197 (by decide) ?_
        refine g_lv [1, 2, 3, 0] rfl ?_
        exact h_86 x4 x5_7 t_state hf
      · refine g_aload_n C 115 0 dX9_take_115 rfl rfl ?_
        refine g_get C 116 0 7 dX9_take_116 inX9 rfl rfl (by decide) kw_371 rfl ?_
        refine g_iload_n C 119 1 dX9_take_119 rfl rfl ?_
        refine g_iald C 120 2 dX9_take_120 rfl hf (fun v8 hf => ?_)
        refine g_iload C 121 3 dX9_take_121 rfl ?_
        refine g_ishr C 123 dX9_take_123 ?_
        refine g_iconst C 124 (1 : Int32) dX9_take_124 (by decide) ?_
        refine g_iand C 125 dX9_take_125 ?_
        refine g_iconst C 126 (1 : Int32) dX9_take_126 (by decide) ?_
        refine g_icmp_ne C 127 188 dX9_take_127 (by decide) hf (fun hf => ?_) (fun hf => ?_)
        · refine g_iinc C 188 4 (v := x6 + (1 : Int32)) (fun z => [(6, .int z), (0, .ref q_t), (1, .int a1), (4, .int x4), (5, .int x5)]) dX9_take_188 rfl rfl (by decide) (fun _ => rfl) hf (fun x6_9 hf => ?_)
          refine g_goto C 191 103 dX9_take_191 (by decide) ?_
          refine g_lv [1, 2, 3, 4, 0] rfl ?_
          exact ih x4 x5 x6_9 t_state hf
        · refine g_aload_n C 130 0 dX9_take_130 rfl rfl ?_
          refine g_get C 131 0 7 dX9_take_131 inX9 rfl rfl (by decide) kw_371 rfl ?_
          refine g_iload_n C 134 1 dX9_take_134 rfl rfl ?_
          refine g_iald C 135 2 dX9_take_135 rfl hf (fun v10 hf => ?_)
          refine g_iload C 136 4 dX9_take_136 rfl ?_
          refine g_ishr C 138 dX9_take_138 ?_
          refine g_iconst C 139 (1 : Int32) dX9_take_139 (by decide) ?_
          refine g_iand C 140 dX9_take_140 ?_
          refine g_iconst C 141 (1 : Int32) dX9_take_141 (by decide) ?_
          refine g_icmp_ne C 142 188 dX9_take_142 (by decide) hf (fun hf => ?_) (fun hf => ?_)
          · refine g_iinc C 188 4 (v := x6 + (1 : Int32)) (fun z => [(6, .int z), (0, .ref q_t), (1, .int a1), (4, .int x4), (5, .int x5)]) dX9_take_188 rfl rfl (by decide) (fun _ => rfl) hf (fun x6_11 hf => ?_)
            refine g_goto C 191 103 dX9_take_191 (by decide) ?_
            refine g_lv [1, 2, 3, 4, 0] rfl ?_
            exact ih x4 x5 x6_11 t_state hf
          · refine g_aload_n C 145 0 dX9_take_145 rfl rfl ?_
            refine g_iload C 146 3 dX9_take_146 rfl ?_
            refine g_iload C 148 4 dX9_take_148 rfl ?_
            obtain ⟨u12, hu12, hf⟩ := cal_some hf
            refine g_callV1 C 150 [0, 1] 0 (rest := []) dX9_take_150 (c_X9_isEdge (x_l X) cA q_t t_knots q_t_weight q_t_edge t_rowed q_t_row t_bags q_t_bag q_t_up q_t_least t_q q_t_factor q_t_pairFactor q_t_forbidden q_t_mayNot q_t_fixed q_t_state q_t_count q_t_best q_t_bests t_allCount t_allBest t_allBests q_t_beside t_beside x5 x6 u12 hu12) kw_354 kw_355 kw_356 kw_343 kw_357 ok_X9_isEdge ⟨Nat.le_of_ble_eq_true rfl, Nat.le_of_ble_eq_true rfl⟩ hk ⟨rfl, rfl⟩ rfl rfl rfl rfl rfl (Nat.le_of_ble_eq_true rfl) rfl (ws' := [oB q_t 9 [.int t_knots, .ref q_t_weight, .ref q_t_beside, .ref q_t_edge, .int t_rowed, .ref q_t_row, .int t_bags, .ref q_t_bag, .ref q_t_up, .ref q_t_least, .int t_q, .ref q_t_factor, .ref q_t_pairFactor, .ref q_t_forbidden, .ref q_t_mayNot, .ref q_t_fixed, .ref q_t_state, .ref q_t_count, .ref q_t_best, .ref q_t_bests, .long t_allCount, .long t_allBest, .long t_allBests], aI cA q_t_beside 14 t_beside, aI cA q_t_bag 14 t_bag, aI cA q_t_forbidden 14 t_forbidden, aZ cA q_t_mayNot 16 t_mayNot, aI cA q_t_fixed 14 t_fixed, aI cA q_t_state 14 t_state]) (st' := [.int u12]) (N0 := 7) rfl [some 0, some 1, none, none, none, none, none] (by decide) rfl rfl ?_
            refine g_if_eq C 153 188 dX9_take_153 (by decide) hf (fun hf => ?_) (fun hf => ?_)
            · refine g_iinc C 188 4 (v := x6 + (1 : Int32)) (fun z => [(6, .int z), (0, .ref q_t), (1, .int a1), (4, .int x4), (5, .int x5)]) dX9_take_188 rfl rfl (by decide) (fun _ => rfl) hf (fun x6_13 hf => ?_)
              refine g_goto C 191 103 dX9_take_191 (by decide) ?_
              refine g_lv [1, 2, 3, 4, 0] rfl ?_
              exact ih x4 x5 x6_13 t_state hf
            · refine g_aload_n C 156 0 dX9_take_156 rfl rfl ?_
              refine g_get C 157 0 14 dX9_take_157 inX9 rfl rfl (by decide) kw_401 rfl ?_
              refine g_iconst C 160 (4 : Int32) dX9_take_160 (by decide) ?_
              refine g_aload_n C 161 0 dX9_take_161 rfl rfl ?_
              refine g_get C 162 0 16 dX9_take_162 inX9 rfl rfl (by decide) kw_412 rfl ?_
              refine g_iload C 165 3 dX9_take_165 rfl ?_
              refine g_iald C 167 6 dX9_take_167 rfl hf (fun v14 hf => ?_)
              refine g_imul C 168 dX9_take_168 ?_
              refine g_aload_n C 169 0 dX9_take_169 rfl rfl ?_
              refine g_get C 170 0 16 dX9_take_170 inX9 rfl rfl (by decide) kw_412 rfl ?_
              refine g_iload C 173 4 dX9_take_173 rfl ?_
              refine g_iald C 175 6 dX9_take_175 rfl hf (fun v15 hf => ?_)
              refine g_iadd C 176 dX9_take_176 ?_
              refine g_zald C 177 4 dX9_take_177 rfl hf (fun v16 hf => ?_)
              refine g_if_ne C 178 185 dX9_take_178 (by decide) hf (fun hf => ?_) (fun hf => ?_)
              · refine g_iconst C 185 (0 : Int32) dX9_take_185 (by decide) ?_
                refine g_istore C 186 (fun z => [(4, .int z), (0, .ref q_t), (1, .int a1), (5, .int x5), (6, .int x6)]) dX9_take_186 (by decide) (fun _ => rfl) hf (fun x4_17 hf => ?_)
                refine g_iinc C 188 4 (v := x6 + (1 : Int32)) (fun z => [(6, .int z), (4, .int x4_17), (0, .ref q_t), (1, .int a1), (5, .int x5)]) dX9_take_188 rfl rfl (by decide) (fun _ => rfl) hf (fun x6_18 hf => ?_)
                refine g_goto C 191 103 dX9_take_191 (by decide) ?_
                refine g_lv [2, 3, 1, 4, 0] rfl ?_
                exact ih x4_17 x5 x6_18 t_state hf
              · refine g_iconst C 181 (1 : Int32) dX9_take_181 (by decide) ?_
                refine g_goto C 182 186 dX9_take_182 (by decide) ?_
                refine g_istore C 186 (fun z => [(4, .int z), (0, .ref q_t), (1, .int a1), (5, .int x5), (6, .int x6)]) dX9_take_186 (by decide) (fun _ => rfl) hf (fun x4_19 hf => ?_)
                refine g_iinc C 188 4 (v := x6 + (1 : Int32)) (fun z => [(6, .int z), (4, .int x4_19), (0, .ref q_t), (1, .int a1), (5, .int x5)]) dX9_take_188 rfl rfl (by decide) (fun _ => rfl) hf (fun x6_20 hf => ?_)
                refine g_goto C 191 103 dX9_take_191 (by decide) ?_
                refine g_lv [2, 3, 1, 4, 0] rfl ?_
                exact ih x4_19 x5 x6_20 t_state hf
def L_X9_take_86 (a1 : Int32) (a2 : Int32) (t_knots : Int32) (t_q : Int32) (t_beside : Nat → Int32) (t_bag : Nat → Int32) (t_forbidden : Nat → Int32) (t_mayNot : Nat → Int32) (t_fixed : Nat → Int32)  : Nat → Int32 → Int32 → (Nat → Int32) → Option (Int32 × (Nat → Int32))
  | 0, _, _, _ => none
  | n + 1, x4, x5, t_state =>
    if t_knots ≤ x5 then
      chk (x4 = 0 ∨ x4 = 1) (some (x4, t_state))
    else
      if x4 = 0 then
        chk (x4 = 0 ∨ x4 = 1) (some (x4, t_state))
      else
        bnd (0 : Int32) fun x6_5 =>
        L_X9_take_103 a1 a2 t_knots t_q t_beside t_bag t_forbidden t_mayNot t_fixed (fun y0 y1 y2 => L_X9_take_86 a1 a2 t_knots t_q t_beside t_bag t_forbidden t_mayNot t_fixed n y0 y1 y2) NN x4 x5 x6_5 t_state

set_option maxRecDepth 100000 in
set_option maxHeartbeats 1000000 in
theorem w_X9_take_86 (cA : Nat → ClassId) (q_t : Nat) (q_t_weight : Nat) (q_t_edge : Nat) (t_rowed : Int32) (q_t_row : Nat) (t_bags : Int32) (q_t_up : Nat) (q_t_least : Nat) (q_t_factor : Nat) (q_t_pairFactor : Nat) (q_t_count : Nat) (q_t_best : Nat) (q_t_bests : Nat) (t_allCount : Int64) (t_allBest : Int64) (t_allBests : Int64) (q_t_beside : Nat) (q_t_bag : Nat) (q_t_forbidden : Nat) (q_t_mayNot : Nat) (q_t_fixed : Nat) (q_t_state : Nat) (a1 : Int32) (a2 : Int32) (t_knots : Int32) (t_q : Int32) (t_beside : Nat → Int32) (t_bag : Nat → Int32) (t_forbidden : Nat → Int32) (t_mayNot : Nat → Int32) (t_fixed : Nat → Int32) {X : XT}  (C : Cx X cX9_take RX9 (some .boolean) cA 2 43 7) {kk nn : Nat} {BB : Option Value → va_W → Prop} (hk : kk ≤ (x_R X).cells ∧ nn ≤ (x_R X).slots) (F : Fx X BB kk nn) (r : Int32 × (Nat → Int32)) (hB : BB (some (.int r.1)) [oB q_t 9 [.int t_knots, .ref q_t_weight, .ref q_t_beside, .ref q_t_edge, .int t_rowed, .ref q_t_row, .int t_bags, .ref q_t_bag, .ref q_t_up, .ref q_t_least, .int t_q, .ref q_t_factor, .ref q_t_pairFactor, .ref q_t_forbidden, .ref q_t_mayNot, .ref q_t_fixed, .ref q_t_state, .ref q_t_count, .ref q_t_best, .ref q_t_bests, .long t_allCount, .long t_allBest, .long t_allBests], aI cA q_t_beside 14 t_beside, aI cA q_t_bag 14 t_bag, aI cA q_t_forbidden 14 t_forbidden, aZ cA q_t_mayNot 16 t_mayNot, aI cA q_t_fixed 14 t_fixed, aI cA q_t_state 14 r.2])  : ∀ (n : Nat) (x4 : Int32) (x5 : Int32) (t_state : Nat → Int32), L_X9_take_86 a1 a2 t_knots t_q t_beside t_bag t_forbidden t_mayNot t_fixed n x4 x5 t_state = some r → Go X 7 kk nn 86 [oB q_t 9 [.int t_knots, .ref q_t_weight, .ref q_t_beside, .ref q_t_edge, .int t_rowed, .ref q_t_row, .int t_bags, .ref q_t_bag, .ref q_t_up, .ref q_t_least, .int t_q, .ref q_t_factor, .ref q_t_pairFactor, .ref q_t_forbidden, .ref q_t_mayNot, .ref q_t_fixed, .ref q_t_state, .ref q_t_count, .ref q_t_best, .ref q_t_bests, .long t_allCount, .long t_allBest, .long t_allBests], aI cA q_t_beside 14 t_beside, aI cA q_t_bag 14 t_bag, aI cA q_t_forbidden 14 t_forbidden, aZ cA q_t_mayNot 16 t_mayNot, aI cA q_t_fixed 14 t_fixed, aI cA q_t_state 14 t_state] [(0, .ref q_t), (1, .int a1), (4, .int x4), (5, .int x5)] [] := by
  intro n
  induction n with
  | zero => intro x4 x5 t_state hf; exact no_some hf
  | succ n ih =>
    intro x4 x5 t_state hf
    rw [L_X9_take_86] at hf
    refine g_iload C 86 3 dX9_take_86 rfl ?_
    refine g_aload_n C 88 0 dX9_take_88 rfl rfl ?_
    refine g_get C 89 0 0 dX9_take_89 inX9 rfl rfl (by decide) kw_339 rfl ?_
    refine g_icmp_ge C 92 200 dX9_take_92 (by decide) hf (fun hf => ?_) (fun hf => ?_)
    · refine g_iload C 200 2 dX9_take_200 rfl ?_
      obtain ⟨hv, hf⟩ := chk_some hf
      cases hf
      exact g_zret C 202 dX9_take_202 hv F hB
    · refine g_iload C 95 2 dX9_take_95 rfl ?_
      refine g_if_eq C 97 200 dX9_take_97 (by decide) hf (fun hf => ?_) (fun hf => ?_)
      · refine g_iload C 200 2 dX9_take_200 rfl ?_
        obtain ⟨hv, hf⟩ := chk_some hf
        cases hf
        exact g_zret C 202 dX9_take_202 hv F hB
      · refine g_iconst C 100 (0 : Int32) dX9_take_100 (by decide) ?_
        refine g_istore C 101 (fun z => [(6, .int z), (0, .ref q_t), (1, .int a1), (4, .int x4), (5, .int x5)]) dX9_take_101 (by decide) (fun _ => rfl) hf (fun x6_5 hf => ?_)
        refine g_lv [1, 2, 3, 4, 0] rfl ?_
        exact w_X9_take_103 cA q_t q_t_weight q_t_edge t_rowed q_t_row t_bags q_t_up q_t_least q_t_factor q_t_pairFactor q_t_count q_t_best q_t_bests t_allCount t_allBest t_allBests q_t_beside q_t_bag q_t_forbidden q_t_mayNot q_t_fixed q_t_state a1 a2 t_knots t_q t_beside t_bag t_forbidden t_mayNot t_fixed C hk F r hB (fun y0 y1 y2 => L_X9_take_86 a1 a2 t_knots t_q t_beside t_bag t_forbidden t_mayNot t_fixed n y0 y1 y2) (fun y0 y1 y2 hf => ih y0 y1 y2 hf) NN x4 x5 x6_5 t_state hf
def L_X9_take_13 (a1 : Int32) (a2 : Int32) (t_knots : Int32) (t_q : Int32) (t_beside : Nat → Int32) (t_bag : Nat → Int32) (t_forbidden : Nat → Int32) (t_mayNot : Nat → Int32) (t_fixed : Nat → Int32)  : Nat → Int32 → Int32 → Int32 → (Nat → Int32) → Option (Int32 × (Nat → Int32))
  | 0, _, _, _, _ => none
  | n + 1, x3, x4, x5, t_state =>
    if x5 < 0 then
      bnd (0 : Int32) fun x5_4 =>
      L_X9_take_86 a1 a2 t_knots t_q t_beside t_bag t_forbidden t_mayNot t_fixed NN x4 x5_4 t_state
    else
      ldA t_bag 14 a1 fun v21 =>
      if ((v21 >>> (x5 &&& 31)) &&& (1 : Int32)) = 0 then
        bnd (x5 + (-1 : Int32)) fun x5_32 =>
        L_X9_take_13 a1 a2 t_knots t_q t_beside t_bag t_forbidden t_mayNot t_fixed n x3 x4 x5_32 t_state
      else
        stI t_state 14 x5 (x3 - x3 / (4 : Int32) * (4 : Int32)) fun t_state_22 =>
        bnd (x3 / (4 : Int32)) fun x3_23 =>
        if x4 = 0 then
          bnd (0 : Int32) fun x4_24 =>
          bnd (x5 + (-1 : Int32)) fun x5_25 =>
          L_X9_take_13 a1 a2 t_knots t_q t_beside t_bag t_forbidden t_mayNot t_fixed n x3_23 x4_24 x5_25 t_state_22
        else
          ldA t_state_22 14 x5 fun v26 =>
          cal (f_X9_mayBe x5 v26 t_q t_forbidden t_fixed) fun u27 =>
          if u27 = 0 then
            bnd (0 : Int32) fun x4_28 =>
            bnd (x5 + (-1 : Int32)) fun x5_29 =>
            L_X9_take_13 a1 a2 t_knots t_q t_beside t_bag t_forbidden t_mayNot t_fixed n x3_23 x4_28 x5_29 t_state_22
          else
            bnd (1 : Int32) fun x4_30 =>
            bnd (x5 + (-1 : Int32)) fun x5_31 =>
            L_X9_take_13 a1 a2 t_knots t_q t_beside t_bag t_forbidden t_mayNot t_fixed n x3_23 x4_30 x5_31 t_state_22

set_option maxRecDepth 100000 in
set_option maxHeartbeats 1000000 in
theorem w_X9_take_13 (cA : Nat → ClassId) (q_t : Nat) (q_t_weight : Nat) (q_t_edge : Nat) (t_rowed : Int32) (q_t_row : Nat) (t_bags : Int32) (q_t_up : Nat) (q_t_least : Nat) (q_t_factor : Nat) (q_t_pairFactor : Nat) (q_t_count : Nat) (q_t_best : Nat) (q_t_bests : Nat) (t_allCount : Int64) (t_allBest : Int64) (t_allBests : Int64) (q_t_beside : Nat) (q_t_bag : Nat) (q_t_forbidden : Nat) (q_t_mayNot : Nat) (q_t_fixed : Nat) (q_t_state : Nat) (a1 : Int32) (a2 : Int32) (t_knots : Int32) (t_q : Int32) (t_beside : Nat → Int32) (t_bag : Nat → Int32) (t_forbidden : Nat → Int32) (t_mayNot : Nat → Int32) (t_fixed : Nat → Int32) {X : XT}  (C : Cx X cX9_take RX9 (some .boolean) cA 2 43 7) {kk nn : Nat} {BB : Option Value → va_W → Prop} (hk : kk ≤ (x_R X).cells ∧ nn ≤ (x_R X).slots) (F : Fx X BB kk nn) (r : Int32 × (Nat → Int32)) (hB : BB (some (.int r.1)) [oB q_t 9 [.int t_knots, .ref q_t_weight, .ref q_t_beside, .ref q_t_edge, .int t_rowed, .ref q_t_row, .int t_bags, .ref q_t_bag, .ref q_t_up, .ref q_t_least, .int t_q, .ref q_t_factor, .ref q_t_pairFactor, .ref q_t_forbidden, .ref q_t_mayNot, .ref q_t_fixed, .ref q_t_state, .ref q_t_count, .ref q_t_best, .ref q_t_bests, .long t_allCount, .long t_allBest, .long t_allBests], aI cA q_t_beside 14 t_beside, aI cA q_t_bag 14 t_bag, aI cA q_t_forbidden 14 t_forbidden, aZ cA q_t_mayNot 16 t_mayNot, aI cA q_t_fixed 14 t_fixed, aI cA q_t_state 14 r.2])  : ∀ (n : Nat) (x3 : Int32) (x4 : Int32) (x5 : Int32) (t_state : Nat → Int32), L_X9_take_13 a1 a2 t_knots t_q t_beside t_bag t_forbidden t_mayNot t_fixed n x3 x4 x5 t_state = some r → Go X 7 kk nn 13 [oB q_t 9 [.int t_knots, .ref q_t_weight, .ref q_t_beside, .ref q_t_edge, .int t_rowed, .ref q_t_row, .int t_bags, .ref q_t_bag, .ref q_t_up, .ref q_t_least, .int t_q, .ref q_t_factor, .ref q_t_pairFactor, .ref q_t_forbidden, .ref q_t_mayNot, .ref q_t_fixed, .ref q_t_state, .ref q_t_count, .ref q_t_best, .ref q_t_bests, .long t_allCount, .long t_allBest, .long t_allBests], aI cA q_t_beside 14 t_beside, aI cA q_t_bag 14 t_bag, aI cA q_t_forbidden 14 t_forbidden, aZ cA q_t_mayNot 16 t_mayNot, aI cA q_t_fixed 14 t_fixed, aI cA q_t_state 14 t_state] [(0, .ref q_t), (1, .int a1), (3, .int x3), (4, .int x4), (5, .int x5)] [] := by
  intro n
  induction n with
  | zero => intro x3 x4 x5 t_state hf; exact no_some hf
  | succ n ih =>
    intro x3 x4 x5 t_state hf
    rw [L_X9_take_13] at hf
    refine g_iload C 13 4 dX9_take_13 rfl ?_
    refine g_if_lt C 15 83 dX9_take_15 (by decide) hf (fun hf => ?_) (fun hf => ?_)
    · refine g_iconst C 83 (0 : Int32) dX9_take_83 (by decide) ?_
      refine g_istore C 84 (fun z => [(5, .int z), (0, .ref q_t), (1, .int a1), (3, .int x3), (4, .int x4)]) dX9_take_84 (by decide) (fun _ => rfl) hf (fun x5_4 hf => ?_)
      refine g_lv [1, 2, 4, 0] rfl ?_
      exact w_X9_take_86 cA q_t q_t_weight q_t_edge t_rowed q_t_row t_bags q_t_up q_t_least q_t_factor q_t_pairFactor q_t_count q_t_best q_t_bests t_allCount t_allBest t_allBests q_t_beside q_t_bag q_t_forbidden q_t_mayNot q_t_fixed q_t_state a1 a2 t_knots t_q t_beside t_bag t_forbidden t_mayNot t_fixed C hk F r hB NN x4 x5_4 t_state hf
    · refine g_aload_n C 18 0 dX9_take_18 rfl rfl ?_
      refine g_get C 19 0 7 dX9_take_19 inX9 rfl rfl (by decide) kw_371 rfl ?_
      refine g_iload_n C 22 1 dX9_take_22 rfl rfl ?_
      refine g_iald C 23 2 dX9_take_23 rfl hf (fun v21 hf => ?_)
      refine g_iload C 24 4 dX9_take_24 rfl ?_
      refine g_ishr C 26 dX9_take_26 ?_
      refine g_iconst C 27 (1 : Int32) dX9_take_27 (by decide) ?_
      refine g_iand C 28 dX9_take_28 ?_
      refine g_if_ne C 29 35 dX9_take_29 (by decide) hf (fun hf => ?_) (fun hf => ?_)
      · refine g_aload_n C 35 0 dX9_take_35 rfl rfl ?_
        refine g_get C 36 0 16 dX9_take_36 inX9 rfl rfl (by decide) kw_412 rfl ?_
        refine g_iload C 39 4 dX9_take_39 rfl ?_
        refine g_iload_n C 41 2 dX9_take_41 rfl rfl ?_
        refine g_iconst C 42 (4 : Int32) dX9_take_42 (by decide) ?_
        refine g_irem C 43 dX9_take_43 (by decide) ?_
        refine g_iast C 44 6 (fun z => [oB q_t 9 [.int t_knots, .ref q_t_weight, .ref q_t_beside, .ref q_t_edge, .int t_rowed, .ref q_t_row, .int t_bags, .ref q_t_bag, .ref q_t_up, .ref q_t_least, .int t_q, .ref q_t_factor, .ref q_t_pairFactor, .ref q_t_forbidden, .ref q_t_mayNot, .ref q_t_fixed, .ref q_t_state, .ref q_t_count, .ref q_t_best, .ref q_t_bests, .long t_allCount, .long t_allBest, .long t_allBests], aI cA q_t_beside 14 t_beside, aI cA q_t_bag 14 t_bag, aI cA q_t_forbidden 14 t_forbidden, aZ cA q_t_mayNot 16 t_mayNot, aI cA q_t_fixed 14 t_fixed, aI cA q_t_state 14 z]) dX9_take_44 rfl (fun _ => rfl) hf (fun t_state_22 hf => ?_)
        refine g_iload_n C 45 2 dX9_take_45 rfl rfl ?_
        refine g_iconst C 46 (4 : Int32) dX9_take_46 (by decide) ?_
        refine g_idiv C 47 dX9_take_47 (by decide) ?_
        refine g_istore_n C 48 (fun z => [(3, .int z), (0, .ref q_t), (1, .int a1), (4, .int x4), (5, .int x5)]) dX9_take_48 rfl (by decide) (fun _ => rfl) hf (fun x3_23 hf => ?_)
        refine g_iload C 49 3 dX9_take_49 rfl ?_
        refine g_if_eq C 51 74 dX9_take_51 (by decide) hf (fun hf => ?_) (fun hf => ?_)
        · refine g_iconst C 74 (0 : Int32) dX9_take_74 (by decide) ?_
          refine g_istore C 75 (fun z => [(4, .int z), (3, .int x3_23), (0, .ref q_t), (1, .int a1), (5, .int x5)]) dX9_take_75 (by decide) (fun _ => rfl) hf (fun x4_24 hf => ?_)
          refine g_iinc C 77 4 (v := x5 + (-1 : Int32)) (fun z => [(5, .int z), (4, .int x4_24), (3, .int x3_23), (0, .ref q_t), (1, .int a1)]) dX9_take_77 rfl rfl (by decide) (fun _ => rfl) hf (fun x5_25 hf => ?_)
          refine g_goto C 80 13 dX9_take_80 (by decide) ?_
          refine g_lv [3, 4, 2, 1, 0] rfl ?_
          exact ih x3_23 x4_24 x5_25 t_state_22 hf
        · refine g_aload_n C 54 1 dX9_take_54 rfl rfl ?_
          refine g_iload C 55 4 dX9_take_55 rfl ?_
          refine g_aload_n C 57 1 dX9_take_57 rfl rfl ?_
          refine g_get C 58 0 16 dX9_take_58 inX9 rfl rfl (by decide) kw_412 rfl ?_
          refine g_iload C 61 4 dX9_take_61 rfl ?_
          refine g_iald C 63 6 dX9_take_63 rfl hf (fun v26 hf => ?_)
          obtain ⟨u27, hu27, hf⟩ := cal_some hf
          refine g_callV1 C 64 [0, 3, 5] 0 (rest := []) dX9_take_64 (c_X9_mayBe (x_l X) cA q_t t_knots q_t_weight q_t_beside q_t_edge t_rowed q_t_row t_bags q_t_bag q_t_up q_t_least t_q q_t_factor q_t_pairFactor q_t_mayNot q_t_state q_t_count q_t_best q_t_bests t_allCount t_allBest t_allBests q_t_forbidden t_forbidden q_t_fixed t_fixed x5 v26 u27 hu27) kw_413 kw_414 kw_415 kw_343 kw_416 ok_X9_mayBe ⟨Nat.le_of_ble_eq_true rfl, Nat.le_of_ble_eq_true rfl⟩ hk ⟨rfl, rfl⟩ rfl rfl rfl rfl rfl (Nat.le_of_ble_eq_true rfl) rfl (ws' := [oB q_t 9 [.int t_knots, .ref q_t_weight, .ref q_t_beside, .ref q_t_edge, .int t_rowed, .ref q_t_row, .int t_bags, .ref q_t_bag, .ref q_t_up, .ref q_t_least, .int t_q, .ref q_t_factor, .ref q_t_pairFactor, .ref q_t_forbidden, .ref q_t_mayNot, .ref q_t_fixed, .ref q_t_state, .ref q_t_count, .ref q_t_best, .ref q_t_bests, .long t_allCount, .long t_allBest, .long t_allBests], aI cA q_t_beside 14 t_beside, aI cA q_t_bag 14 t_bag, aI cA q_t_forbidden 14 t_forbidden, aZ cA q_t_mayNot 16 t_mayNot, aI cA q_t_fixed 14 t_fixed, aI cA q_t_state 14 t_state_22]) (st' := [.int u27]) (N0 := 7) rfl [some 0, none, none, some 1, none, some 2, none] (by decide) rfl rfl ?_
          refine g_if_eq C 67 74 dX9_take_67 (by decide) hf (fun hf => ?_) (fun hf => ?_)
          · refine g_iconst C 74 (0 : Int32) dX9_take_74 (by decide) ?_
            refine g_istore C 75 (fun z => [(4, .int z), (3, .int x3_23), (0, .ref q_t), (1, .int a1), (5, .int x5)]) dX9_take_75 (by decide) (fun _ => rfl) hf (fun x4_28 hf => ?_)
            refine g_iinc C 77 4 (v := x5 + (-1 : Int32)) (fun z => [(5, .int z), (4, .int x4_28), (3, .int x3_23), (0, .ref q_t), (1, .int a1)]) dX9_take_77 rfl rfl (by decide) (fun _ => rfl) hf (fun x5_29 hf => ?_)
            refine g_goto C 80 13 dX9_take_80 (by decide) ?_
            refine g_lv [3, 4, 2, 1, 0] rfl ?_
            exact ih x3_23 x4_28 x5_29 t_state_22 hf
          · refine g_iconst C 70 (1 : Int32) dX9_take_70 (by decide) ?_
            refine g_goto C 71 75 dX9_take_71 (by decide) ?_
            refine g_istore C 75 (fun z => [(4, .int z), (3, .int x3_23), (0, .ref q_t), (1, .int a1), (5, .int x5)]) dX9_take_75 (by decide) (fun _ => rfl) hf (fun x4_30 hf => ?_)
            refine g_iinc C 77 4 (v := x5 + (-1 : Int32)) (fun z => [(5, .int z), (4, .int x4_30), (3, .int x3_23), (0, .ref q_t), (1, .int a1)]) dX9_take_77 rfl rfl (by decide) (fun _ => rfl) hf (fun x5_31 hf => ?_)
            refine g_goto C 80 13 dX9_take_80 (by decide) ?_
            refine g_lv [3, 4, 2, 1, 0] rfl ?_
            exact ih x3_23 x4_30 x5_31 t_state_22 hf
      · refine g_goto C 32 77 dX9_take_32 (by decide) ?_
        refine g_iinc C 77 4 (v := x5 + (-1 : Int32)) (fun z => [(5, .int z), (0, .ref q_t), (1, .int a1), (3, .int x3), (4, .int x4)]) dX9_take_77 rfl rfl (by decide) (fun _ => rfl) hf (fun x5_32 hf => ?_)
        refine g_goto C 80 13 dX9_take_80 (by decide) ?_
        refine g_lv [1, 2, 3, 4, 0] rfl ?_
        exact ih x3 x4 x5_32 t_state hf
def f_X9_take (a1 : Int32) (a2 : Int32) (t_knots : Int32) (t_q : Int32) (t_beside : Nat → Int32) (t_bag : Nat → Int32) (t_forbidden : Nat → Int32) (t_mayNot : Nat → Int32) (t_fixed : Nat → Int32) (t_state : Nat → Int32) : Option (Int32 × (Nat → Int32)) :=
  bnd a2 fun x3_1 =>
  bnd (1 : Int32) fun x4_2 =>
  bnd (t_knots - (1 : Int32)) fun x5_3 =>
  L_X9_take_13 a1 a2 t_knots t_q t_beside t_bag t_forbidden t_mayNot t_fixed NN x3_1 x4_2 x5_3 t_state

set_option maxRecDepth 100000 in
set_option maxHeartbeats 1000000 in
theorem c_X9_take (l : Launch) (cA : Nat → ClassId) (q_t : Nat) (t_knots : Int32) (q_t_weight : Nat) (q_t_edge : Nat) (t_rowed : Int32) (q_t_row : Nat) (t_bags : Int32) (q_t_up : Nat) (q_t_least : Nat) (t_q : Int32) (q_t_factor : Nat) (q_t_pairFactor : Nat) (q_t_count : Nat) (q_t_best : Nat) (q_t_bests : Nat) (t_allCount : Int64) (t_allBest : Int64) (t_allBests : Int64) (q_t_beside : Nat) (t_beside : Nat → Int32) (q_t_bag : Nat) (t_bag : Nat → Int32) (q_t_forbidden : Nat) (t_forbidden : Nat → Int32) (q_t_mayNot : Nat) (t_mayNot : Nat → Int32) (q_t_fixed : Nat) (t_fixed : Nat → Int32) (q_t_state : Nat) (t_state : Nat → Int32)  (a1 : Int32) (a2 : Int32) (r : Int32 × (Nat → Int32)) (hf : f_X9_take a1 a2 t_knots t_q t_beside t_bag t_forbidden t_mayNot t_fixed t_state = some r) : MT l cA yX9_take cX9_take 7 (some .boolean) ({ frames := 2, cells := 0, slots := 0, locals := 43 } : Room) [.ref q_t, .int a1, .int a2] [oB q_t 9 [.int t_knots, .ref q_t_weight, .ref q_t_beside, .ref q_t_edge, .int t_rowed, .ref q_t_row, .int t_bags, .ref q_t_bag, .ref q_t_up, .ref q_t_least, .int t_q, .ref q_t_factor, .ref q_t_pairFactor, .ref q_t_forbidden, .ref q_t_mayNot, .ref q_t_fixed, .ref q_t_state, .ref q_t_count, .ref q_t_best, .ref q_t_bests, .long t_allCount, .long t_allBest, .long t_allBests], aI cA q_t_beside 14 t_beside, aI cA q_t_bag 14 t_bag, aI cA q_t_forbidden 14 t_forbidden, aZ cA q_t_mayNot 16 t_mayNot, aI cA q_t_fixed 14 t_fixed, aI cA q_t_state 14 t_state] (sB (some (.int r.1)) [oB q_t 9 [.int t_knots, .ref q_t_weight, .ref q_t_beside, .ref q_t_edge, .int t_rowed, .ref q_t_row, .int t_bags, .ref q_t_bag, .ref q_t_up, .ref q_t_least, .int t_q, .ref q_t_factor, .ref q_t_pairFactor, .ref q_t_forbidden, .ref q_t_mayNot, .ref q_t_fixed, .ref q_t_state, .ref q_t_count, .ref q_t_best, .ref q_t_bests, .long t_allCount, .long t_allBest, .long t_allBests], aI cA q_t_beside 14 t_beside, aI cA q_t_bag 14 t_bag, aI cA q_t_forbidden 14 t_forbidden, aZ cA q_t_mayNot 16 t_mayNot, aI cA q_t_fixed 14 t_fixed, aI cA q_t_state 14 r.2]) := by
  refine MT.of (by decide) (Nat.le_of_ble_eq_true rfl) ?_
  intro X hXl C F hnm hrc hrs
  subst hXl
  have hk : 0 ≤ (x_R X).cells ∧ 0 ≤ (x_R X).slots := ⟨Nat.zero_le _, Nat.zero_le _⟩
  have hB : (sB (some (.int r.1)) [oB q_t 9 [.int t_knots, .ref q_t_weight, .ref q_t_beside, .ref q_t_edge, .int t_rowed, .ref q_t_row, .int t_bags, .ref q_t_bag, .ref q_t_up, .ref q_t_least, .int t_q, .ref q_t_factor, .ref q_t_pairFactor, .ref q_t_forbidden, .ref q_t_mayNot, .ref q_t_fixed, .ref q_t_state, .ref q_t_count, .ref q_t_best, .ref q_t_bests, .long t_allCount, .long t_allBest, .long t_allBests], aI cA q_t_beside 14 t_beside, aI cA q_t_bag 14 t_bag, aI cA q_t_forbidden 14 t_forbidden, aZ cA q_t_mayNot 16 t_mayNot, aI cA q_t_fixed 14 t_fixed, aI cA q_t_state 14 r.2]) (some (.int r.1)) [oB q_t 9 [.int t_knots, .ref q_t_weight, .ref q_t_beside, .ref q_t_edge, .int t_rowed, .ref q_t_row, .int t_bags, .ref q_t_bag, .ref q_t_up, .ref q_t_least, .int t_q, .ref q_t_factor, .ref q_t_pairFactor, .ref q_t_forbidden, .ref q_t_mayNot, .ref q_t_fixed, .ref q_t_state, .ref q_t_count, .ref q_t_best, .ref q_t_bests, .long t_allCount, .long t_allBest, .long t_allBests], aI cA q_t_beside 14 t_beside, aI cA q_t_bag 14 t_bag, aI cA q_t_forbidden 14 t_forbidden, aZ cA q_t_mayNot 16 t_mayNot, aI cA q_t_fixed 14 t_fixed, aI cA q_t_state 14 r.2] := ⟨rfl, rfl⟩
  unfold f_X9_take at hf
  have C : Cx X cX9_take RX9 (some .boolean) cA 2 43 7 := C
  show Go X 7 0 0 0 [oB q_t 9 [.int t_knots, .ref q_t_weight, .ref q_t_beside, .ref q_t_edge, .int t_rowed, .ref q_t_row, .int t_bags, .ref q_t_bag, .ref q_t_up, .ref q_t_least, .int t_q, .ref q_t_factor, .ref q_t_pairFactor, .ref q_t_forbidden, .ref q_t_mayNot, .ref q_t_fixed, .ref q_t_state, .ref q_t_count, .ref q_t_best, .ref q_t_bests, .long t_allCount, .long t_allBest, .long t_allBests], aI cA q_t_beside 14 t_beside, aI cA q_t_bag 14 t_bag, aI cA q_t_forbidden 14 t_forbidden, aZ cA q_t_mayNot 16 t_mayNot, aI cA q_t_fixed 14 t_fixed, aI cA q_t_state 14 t_state] [(0, .ref q_t), (1, .int a1), (2, .int a2)] []
  refine g_iload_n C 0 2 dX9_take_0 rfl rfl ?_
  refine g_istore_n C 1 (fun z => [(3, .int z), (0, .ref q_t), (1, .int a1), (2, .int a2)]) dX9_take_1 rfl (by decide) (fun _ => rfl) hf (fun x3_1 hf => ?_)
  refine g_iconst C 2 (1 : Int32) dX9_take_2 (by decide) ?_
  refine g_istore C 3 (fun z => [(4, .int z), (3, .int x3_1), (0, .ref q_t), (1, .int a1), (2, .int a2)]) dX9_take_3 (by decide) (fun _ => rfl) hf (fun x4_2 hf => ?_)
  refine g_aload_n C 5 2 dX9_take_5 rfl rfl ?_
  refine g_get C 6 0 0 dX9_take_6 inX9 rfl rfl (by decide) kw_339 rfl ?_
  refine g_iconst C 9 (1 : Int32) dX9_take_9 (by decide) ?_
  refine g_isub C 10 dX9_take_10 ?_
  refine g_istore C 11 (fun z => [(5, .int z), (4, .int x4_2), (3, .int x3_1), (0, .ref q_t), (1, .int a1), (2, .int a2)]) dX9_take_11 (by decide) (fun _ => rfl) hf (fun x5_3 hf => ?_)
  refine g_lv [3, 4, 2, 1, 0] rfl ?_
  exact w_X9_take_13 cA q_t q_t_weight q_t_edge t_rowed q_t_row t_bags q_t_up q_t_least q_t_factor q_t_pairFactor q_t_count q_t_best q_t_bests t_allCount t_allBest t_allBests q_t_beside q_t_bag q_t_forbidden q_t_mayNot q_t_fixed q_t_state a1 a2 t_knots t_q t_beside t_bag t_forbidden t_mayNot t_fixed C hk F r hB NN x3_1 x4_2 x5_3 t_state hf

def L_X9_isFirst_2 (a1 : Int32) (a2 : Int32) (t_bag : Nat → Int32)  : Nat → Int32 → Option (Int32)
  | 0, _ => none
  | n + 1, x3 =>
    if a1 ≤ x3 then
      ldA t_bag 14 a1 fun v2 =>
      if (v2 &&& a2) = a2 then
        some ((1 : Int32))
      else
        some ((0 : Int32))
    else
      ldA t_bag 14 x3 fun v3 =>
      if (v3 &&& a2) = a2 then
        some ((0 : Int32))
      else
        bnd (x3 + (1 : Int32)) fun x3_4 =>
        L_X9_isFirst_2 a1 a2 t_bag n x3_4

set_option maxRecDepth 100000 in
set_option maxHeartbeats 1000000 in
theorem w_X9_isFirst_2 (cA : Nat → ClassId) (q_t : Nat) (t_knots : Int32) (q_t_weight : Nat) (q_t_beside : Nat) (q_t_edge : Nat) (t_rowed : Int32) (q_t_row : Nat) (t_bags : Int32) (q_t_up : Nat) (q_t_least : Nat) (t_q : Int32) (q_t_factor : Nat) (q_t_pairFactor : Nat) (q_t_forbidden : Nat) (q_t_mayNot : Nat) (q_t_fixed : Nat) (q_t_state : Nat) (q_t_count : Nat) (q_t_best : Nat) (q_t_bests : Nat) (t_allCount : Int64) (t_allBest : Int64) (t_allBests : Int64) (q_t_bag : Nat) (a1 : Int32) (a2 : Int32) (t_bag : Nat → Int32) {X : XT}  (C : Cx X cX9_isFirst RX9 (some .boolean) cA 0 0 4) {kk nn : Nat} {BB : Option Value → va_W → Prop} (hk : kk ≤ (x_R X).cells ∧ nn ≤ (x_R X).slots) (F : Fx X BB kk nn) (r : Int32) (hB : BB (some (.int r)) [oB q_t 9 [.int t_knots, .ref q_t_weight, .ref q_t_beside, .ref q_t_edge, .int t_rowed, .ref q_t_row, .int t_bags, .ref q_t_bag, .ref q_t_up, .ref q_t_least, .int t_q, .ref q_t_factor, .ref q_t_pairFactor, .ref q_t_forbidden, .ref q_t_mayNot, .ref q_t_fixed, .ref q_t_state, .ref q_t_count, .ref q_t_best, .ref q_t_bests, .long t_allCount, .long t_allBest, .long t_allBests], aI cA q_t_bag 14 t_bag])  : ∀ (n : Nat) (x3 : Int32), L_X9_isFirst_2 a1 a2 t_bag n x3 = some r → Go X 4 kk nn 2 [oB q_t 9 [.int t_knots, .ref q_t_weight, .ref q_t_beside, .ref q_t_edge, .int t_rowed, .ref q_t_row, .int t_bags, .ref q_t_bag, .ref q_t_up, .ref q_t_least, .int t_q, .ref q_t_factor, .ref q_t_pairFactor, .ref q_t_forbidden, .ref q_t_mayNot, .ref q_t_fixed, .ref q_t_state, .ref q_t_count, .ref q_t_best, .ref q_t_bests, .long t_allCount, .long t_allBest, .long t_allBests], aI cA q_t_bag 14 t_bag] [(0, .ref q_t), (1, .int a1), (2, .int a2), (3, .int x3)] [] := by
  intro n
  induction n with
  | zero => intro x3 hf; exact no_some hf
  | succ n ih =>
    intro x3 hf
    rw [L_X9_isFirst_2] at hf
    refine g_iload_n C 2 3 dX9_isFirst_2 rfl rfl ?_
    refine g_iload_n C 3 1 dX9_isFirst_3 rfl rfl ?_
    refine g_icmp_ge C 4 27 dX9_isFirst_4 (by decide) hf (fun hf => ?_) (fun hf => ?_)
    · refine g_aload_n C 27 0 dX9_isFirst_27 rfl rfl ?_
      refine g_get C 28 0 7 dX9_isFirst_28 inX9 rfl rfl (by decide) kw_371 rfl ?_
      refine g_iload_n C 31 1 dX9_isFirst_31 rfl rfl ?_
      refine g_iald C 32 1 dX9_isFirst_32 rfl hf (fun v2 hf => ?_)
      refine g_iload_n C 33 2 dX9_isFirst_33 rfl rfl ?_
      refine g_iand C 34 dX9_isFirst_34 ?_
      refine g_iload_n C 35 2 dX9_isFirst_35 rfl rfl ?_
      refine g_icmp_ne C 36 43 dX9_isFirst_36 (by decide) hf (fun hf => ?_) (fun hf => ?_)
      · refine g_iconst C 43 (0 : Int32) dX9_isFirst_43 (by decide) ?_
        cases hf
        exact g_zret C 44 dX9_isFirst_44 (by decide) F hB
      · refine g_iconst C 39 (1 : Int32) dX9_isFirst_39 (by decide) ?_
        refine g_goto C 40 44 dX9_isFirst_40 (by decide) ?_
        cases hf
        exact g_zret C 44 dX9_isFirst_44 (by decide) F hB
    · refine g_aload_n C 7 0 dX9_isFirst_7 rfl rfl ?_
      refine g_get C 8 0 7 dX9_isFirst_8 inX9 rfl rfl (by decide) kw_371 rfl ?_
      refine g_iload_n C 11 3 dX9_isFirst_11 rfl rfl ?_
      refine g_iald C 12 1 dX9_isFirst_12 rfl hf (fun v3 hf => ?_)
      refine g_iload_n C 13 2 dX9_isFirst_13 rfl rfl ?_
      refine g_iand C 14 dX9_isFirst_14 ?_
      refine g_iload_n C 15 2 dX9_isFirst_15 rfl rfl ?_
      refine g_icmp_ne C 16 21 dX9_isFirst_16 (by decide) hf (fun hf => ?_) (fun hf => ?_)
      · refine g_iinc C 21 3 (v := x3 + (1 : Int32)) (fun z => [(3, .int z), (0, .ref q_t), (1, .int a1), (2, .int a2)]) dX9_isFirst_21 rfl rfl (by decide) (fun _ => rfl) hf (fun x3_4 hf => ?_)
        refine g_goto C 24 2 dX9_isFirst_24 (by decide) ?_
        refine g_lv [1, 2, 3, 0] rfl ?_
        exact ih x3_4 hf
      · refine g_iconst C 19 (0 : Int32) dX9_isFirst_19 (by decide) ?_
        cases hf
        exact g_zret C 20 dX9_isFirst_20 (by decide) F hB
def f_X9_isFirst (a1 : Int32) (a2 : Int32) (t_bag : Nat → Int32) : Option (Int32) :=
  bnd (0 : Int32) fun x3_1 =>
  L_X9_isFirst_2 a1 a2 t_bag NN x3_1

set_option maxRecDepth 100000 in
set_option maxHeartbeats 1000000 in
theorem c_X9_isFirst (l : Launch) (cA : Nat → ClassId) (q_t : Nat) (t_knots : Int32) (q_t_weight : Nat) (q_t_beside : Nat) (q_t_edge : Nat) (t_rowed : Int32) (q_t_row : Nat) (t_bags : Int32) (q_t_up : Nat) (q_t_least : Nat) (t_q : Int32) (q_t_factor : Nat) (q_t_pairFactor : Nat) (q_t_forbidden : Nat) (q_t_mayNot : Nat) (q_t_fixed : Nat) (q_t_state : Nat) (q_t_count : Nat) (q_t_best : Nat) (q_t_bests : Nat) (t_allCount : Int64) (t_allBest : Int64) (t_allBests : Int64) (q_t_bag : Nat) (t_bag : Nat → Int32)  (a1 : Int32) (a2 : Int32) (r : Int32) (hf : f_X9_isFirst a1 a2 t_bag = some r) : MT l cA yX9_isFirst cX9_isFirst 4 (some .boolean) ({ frames := 0, cells := 0, slots := 0, locals := 0 } : Room) [.ref q_t, .int a1, .int a2] [oB q_t 9 [.int t_knots, .ref q_t_weight, .ref q_t_beside, .ref q_t_edge, .int t_rowed, .ref q_t_row, .int t_bags, .ref q_t_bag, .ref q_t_up, .ref q_t_least, .int t_q, .ref q_t_factor, .ref q_t_pairFactor, .ref q_t_forbidden, .ref q_t_mayNot, .ref q_t_fixed, .ref q_t_state, .ref q_t_count, .ref q_t_best, .ref q_t_bests, .long t_allCount, .long t_allBest, .long t_allBests], aI cA q_t_bag 14 t_bag] (sB (some (.int r)) [oB q_t 9 [.int t_knots, .ref q_t_weight, .ref q_t_beside, .ref q_t_edge, .int t_rowed, .ref q_t_row, .int t_bags, .ref q_t_bag, .ref q_t_up, .ref q_t_least, .int t_q, .ref q_t_factor, .ref q_t_pairFactor, .ref q_t_forbidden, .ref q_t_mayNot, .ref q_t_fixed, .ref q_t_state, .ref q_t_count, .ref q_t_best, .ref q_t_bests, .long t_allCount, .long t_allBest, .long t_allBests], aI cA q_t_bag 14 t_bag]) := by
  refine MT.of (by decide) (Nat.le_of_ble_eq_true rfl) ?_
  intro X hXl C F hnm hrc hrs
  subst hXl
  have hk : 0 ≤ (x_R X).cells ∧ 0 ≤ (x_R X).slots := ⟨Nat.zero_le _, Nat.zero_le _⟩
  have hB : (sB (some (.int r)) [oB q_t 9 [.int t_knots, .ref q_t_weight, .ref q_t_beside, .ref q_t_edge, .int t_rowed, .ref q_t_row, .int t_bags, .ref q_t_bag, .ref q_t_up, .ref q_t_least, .int t_q, .ref q_t_factor, .ref q_t_pairFactor, .ref q_t_forbidden, .ref q_t_mayNot, .ref q_t_fixed, .ref q_t_state, .ref q_t_count, .ref q_t_best, .ref q_t_bests, .long t_allCount, .long t_allBest, .long t_allBests], aI cA q_t_bag 14 t_bag]) (some (.int r)) [oB q_t 9 [.int t_knots, .ref q_t_weight, .ref q_t_beside, .ref q_t_edge, .int t_rowed, .ref q_t_row, .int t_bags, .ref q_t_bag, .ref q_t_up, .ref q_t_least, .int t_q, .ref q_t_factor, .ref q_t_pairFactor, .ref q_t_forbidden, .ref q_t_mayNot, .ref q_t_fixed, .ref q_t_state, .ref q_t_count, .ref q_t_best, .ref q_t_bests, .long t_allCount, .long t_allBest, .long t_allBests], aI cA q_t_bag 14 t_bag] := ⟨rfl, rfl⟩
  unfold f_X9_isFirst at hf
  have C : Cx X cX9_isFirst RX9 (some .boolean) cA 0 0 4 := C
  show Go X 4 0 0 0 [oB q_t 9 [.int t_knots, .ref q_t_weight, .ref q_t_beside, .ref q_t_edge, .int t_rowed, .ref q_t_row, .int t_bags, .ref q_t_bag, .ref q_t_up, .ref q_t_least, .int t_q, .ref q_t_factor, .ref q_t_pairFactor, .ref q_t_forbidden, .ref q_t_mayNot, .ref q_t_fixed, .ref q_t_state, .ref q_t_count, .ref q_t_best, .ref q_t_bests, .long t_allCount, .long t_allBest, .long t_allBests], aI cA q_t_bag 14 t_bag] [(0, .ref q_t), (1, .int a1), (2, .int a2)] []
  refine g_iconst C 0 (0 : Int32) dX9_isFirst_0 (by decide) ?_
  refine g_istore_n C 1 (fun z => [(3, .int z), (0, .ref q_t), (1, .int a1), (2, .int a2)]) dX9_isFirst_1 rfl (by decide) (fun _ => rfl) hf (fun x3_1 hf => ?_)
  refine g_lv [1, 2, 3, 0] rfl ?_
  exact w_X9_isFirst_2 cA q_t t_knots q_t_weight q_t_beside q_t_edge t_rowed q_t_row t_bags q_t_up q_t_least t_q q_t_factor q_t_pairFactor q_t_forbidden q_t_mayNot q_t_fixed q_t_state q_t_count q_t_best q_t_bests t_allCount t_allBest t_allBests q_t_bag a1 a2 t_bag C hk F r hB NN x3_1 hf

def L_X9_own_54 (a1 : Int32) (t_knots : Int32) (t_weight : Nat → Int32) (t_beside : Nat → Int32) (t_edge : Nat → Int32) (t_bag : Nat → Int32) (t_factor : Nat → Int32) (t_pairFactor : Nat → Int32) (t_state : Nat → Int32) (k_5 : Int64 → Int32 → Option (Int64)) : Nat → Int64 → Int32 → Int32 → Option (Int64)
  | 0, _, _, _ => none
  | n + 1, x2, x4, x5 =>
    if x4 ≤ x5 then
      bnd (x4 + (1 : Int32)) fun x4_5 =>
      k_5 x2 x4_5
    else
      cal (f_X9_isEdge x4 x5 t_knots t_beside) fun u6 =>
      if u6 = 0 then
        bnd (x5 + (1 : Int32)) fun x5_7 =>
        L_X9_own_54 a1 t_knots t_weight t_beside t_edge t_bag t_factor t_pairFactor t_state k_5 n x2 x4 x5_7
      else
        cal (f_X9_isFirst a1 (((1 : Int32) <<< (x4 &&& 31)) ||| ((1 : Int32) <<< (x5 &&& 31))) t_bag) fun u8 =>
        if u8 = 0 then
          bnd (x5 + (1 : Int32)) fun x5_9 =>
          L_X9_own_54 a1 t_knots t_weight t_beside t_edge t_bag t_factor t_pairFactor t_state k_5 n x2 x4 x5_9
        else
          ldA t_edge 196 (((14 : Int32) * x4) + x5) fun v10 =>
          ldA t_state 14 x4 fun v11 =>
          ldA t_state 14 x5 fun v12 =>
          ldA t_pairFactor 16 (((4 : Int32) * v11) + v12) fun v13 =>
          bnd (x2 + (((v10).toInt64) * ((v13).toInt64))) fun x2_14 =>
          bnd (x5 + (1 : Int32)) fun x5_15 =>
          L_X9_own_54 a1 t_knots t_weight t_beside t_edge t_bag t_factor t_pairFactor t_state k_5 n x2_14 x4 x5_15

set_option maxRecDepth 100000 in
set_option maxHeartbeats 1000000 in
theorem w_X9_own_54 (cA : Nat → ClassId) (q_t : Nat) (t_rowed : Int32) (q_t_row : Nat) (t_bags : Int32) (q_t_up : Nat) (q_t_least : Nat) (t_q : Int32) (q_t_forbidden : Nat) (q_t_mayNot : Nat) (q_t_fixed : Nat) (q_t_count : Nat) (q_t_best : Nat) (q_t_bests : Nat) (t_allCount : Int64) (t_allBest : Int64) (t_allBests : Int64) (q_t_weight : Nat) (q_t_beside : Nat) (q_t_edge : Nat) (q_t_bag : Nat) (q_t_factor : Nat) (q_t_pairFactor : Nat) (q_t_state : Nat) (a1 : Int32) (t_knots : Int32) (t_weight : Nat → Int32) (t_beside : Nat → Int32) (t_edge : Nat → Int32) (t_bag : Nat → Int32) (t_factor : Nat → Int32) (t_pairFactor : Nat → Int32) (t_state : Nat → Int32) {X : XT}  (C : Cx X cX9_own RX9 (some .long) cA 2 43 6) {kk nn : Nat} {BB : Option Value → va_W → Prop} (hk : kk ≤ (x_R X).cells ∧ nn ≤ (x_R X).slots) (F : Fx X BB kk nn) (r : Int64) (hB : BB (some (.long r)) [oB q_t 9 [.int t_knots, .ref q_t_weight, .ref q_t_beside, .ref q_t_edge, .int t_rowed, .ref q_t_row, .int t_bags, .ref q_t_bag, .ref q_t_up, .ref q_t_least, .int t_q, .ref q_t_factor, .ref q_t_pairFactor, .ref q_t_forbidden, .ref q_t_mayNot, .ref q_t_fixed, .ref q_t_state, .ref q_t_count, .ref q_t_best, .ref q_t_bests, .long t_allCount, .long t_allBest, .long t_allBests], aI cA q_t_weight 14 t_weight, aI cA q_t_beside 14 t_beside, aI cA q_t_edge 196 t_edge, aI cA q_t_bag 14 t_bag, aI cA q_t_factor 4 t_factor, aI cA q_t_pairFactor 16 t_pairFactor, aI cA q_t_state 14 t_state]) (k_5 : Int64 → Int32 → Option (Int64)) (h_5 : ∀ (x2 : Int64) (x4 : Int32), k_5 x2 x4 = some r → Go X 6 kk nn 5 [oB q_t 9 [.int t_knots, .ref q_t_weight, .ref q_t_beside, .ref q_t_edge, .int t_rowed, .ref q_t_row, .int t_bags, .ref q_t_bag, .ref q_t_up, .ref q_t_least, .int t_q, .ref q_t_factor, .ref q_t_pairFactor, .ref q_t_forbidden, .ref q_t_mayNot, .ref q_t_fixed, .ref q_t_state, .ref q_t_count, .ref q_t_best, .ref q_t_bests, .long t_allCount, .long t_allBest, .long t_allBests], aI cA q_t_weight 14 t_weight, aI cA q_t_beside 14 t_beside, aI cA q_t_edge 196 t_edge, aI cA q_t_bag 14 t_bag, aI cA q_t_factor 4 t_factor, aI cA q_t_pairFactor 16 t_pairFactor, aI cA q_t_state 14 t_state] [(0, .ref q_t), (1, .int a1), (2, .long x2), (4, .int x4)] []) : ∀ (n : Nat) (x2 : Int64) (x4 : Int32) (x5 : Int32), L_X9_own_54 a1 t_knots t_weight t_beside t_edge t_bag t_factor t_pairFactor t_state k_5 n x2 x4 x5 = some r → Go X 6 kk nn 54 [oB q_t 9 [.int t_knots, .ref q_t_weight, .ref q_t_beside, .ref q_t_edge, .int t_rowed, .ref q_t_row, .int t_bags, .ref q_t_bag, .ref q_t_up, .ref q_t_least, .int t_q, .ref q_t_factor, .ref q_t_pairFactor, .ref q_t_forbidden, .ref q_t_mayNot, .ref q_t_fixed, .ref q_t_state, .ref q_t_count, .ref q_t_best, .ref q_t_bests, .long t_allCount, .long t_allBest, .long t_allBests], aI cA q_t_weight 14 t_weight, aI cA q_t_beside 14 t_beside, aI cA q_t_edge 196 t_edge, aI cA q_t_bag 14 t_bag, aI cA q_t_factor 4 t_factor, aI cA q_t_pairFactor 16 t_pairFactor, aI cA q_t_state 14 t_state] [(0, .ref q_t), (1, .int a1), (2, .long x2), (4, .int x4), (5, .int x5)] [] := by
  intro n
  induction n with
  | zero => intro x2 x4 x5 hf; exact no_some hf
  | succ n ih =>
    intro x2 x4 x5 hf
    rw [L_X9_own_54] at hf
    refine g_iload C 54 4 dX9_own_54 rfl ?_
    refine g_iload C 56 3 dX9_own_56 rfl ?_
    refine g_icmp_ge C 58 136 dX9_own_58 (by decide) hf (fun hf => ?_) (fun hf => ?_)
    · refine g_iinc C 136 3 (v := x4 + (1 : Int32)) (fun z => [(4, .int z), (0, .ref q_t), (1, .int a1), (2, .long x2), (5, .int x5)]) dX9_own_136 rfl rfl (by decide) (fun _ => rfl) hf (fun x4_5 hf => ?_)
      refine g_goto C 139 5 dX9_own_139 (by decide) ?_
      refine g_lv [1, 2, 3, 0] rfl ?_
      exact h_5 x2 x4_5 hf
    · refine g_aload_n C 61 0 dX9_own_61 rfl rfl ?_
      refine g_iload C 62 3 dX9_own_62 rfl ?_
      refine g_iload C 64 4 dX9_own_64 rfl ?_
      obtain ⟨u6, hu6, hf⟩ := cal_some hf
      refine g_callV1 C 66 [0, 2] 0 (rest := []) dX9_own_66 (c_X9_isEdge (x_l X) cA q_t t_knots q_t_weight q_t_edge t_rowed q_t_row t_bags q_t_bag q_t_up q_t_least t_q q_t_factor q_t_pairFactor q_t_forbidden q_t_mayNot q_t_fixed q_t_state q_t_count q_t_best q_t_bests t_allCount t_allBest t_allBests q_t_beside t_beside x4 x5 u6 hu6) kw_354 kw_355 kw_356 kw_343 kw_357 ok_X9_isEdge ⟨Nat.le_of_ble_eq_true rfl, Nat.le_of_ble_eq_true rfl⟩ hk ⟨rfl, rfl⟩ rfl rfl rfl rfl rfl (Nat.le_of_ble_eq_true rfl) rfl (ws' := [oB q_t 9 [.int t_knots, .ref q_t_weight, .ref q_t_beside, .ref q_t_edge, .int t_rowed, .ref q_t_row, .int t_bags, .ref q_t_bag, .ref q_t_up, .ref q_t_least, .int t_q, .ref q_t_factor, .ref q_t_pairFactor, .ref q_t_forbidden, .ref q_t_mayNot, .ref q_t_fixed, .ref q_t_state, .ref q_t_count, .ref q_t_best, .ref q_t_bests, .long t_allCount, .long t_allBest, .long t_allBests], aI cA q_t_weight 14 t_weight, aI cA q_t_beside 14 t_beside, aI cA q_t_edge 196 t_edge, aI cA q_t_bag 14 t_bag, aI cA q_t_factor 4 t_factor, aI cA q_t_pairFactor 16 t_pairFactor, aI cA q_t_state 14 t_state]) (st' := [.int u6]) (N0 := 8) rfl [some 0, none, some 1, none, none, none, none, none] (by decide) rfl rfl ?_
      refine g_if_eq C 69 130 dX9_own_69 (by decide) hf (fun hf => ?_) (fun hf => ?_)
      · refine g_iinc C 130 4 (v := x5 + (1 : Int32)) (fun z => [(5, .int z), (0, .ref q_t), (1, .int a1), (2, .long x2), (4, .int x4)]) dX9_own_130 rfl rfl (by decide) (fun _ => rfl) hf (fun x5_7 hf => ?_)
        refine g_goto C 133 54 dX9_own_133 (by decide) ?_
        refine g_lv [1, 2, 3, 4, 0] rfl ?_
        exact ih x2 x4 x5_7 hf
      · refine g_aload_n C 72 0 dX9_own_72 rfl rfl ?_
        refine g_iload_n C 73 1 dX9_own_73 rfl rfl ?_
        refine g_iconst C 74 (1 : Int32) dX9_own_74 (by decide) ?_
        refine g_iload C 75 3 dX9_own_75 rfl ?_
        refine g_ishl C 77 dX9_own_77 ?_
        refine g_iconst C 78 (1 : Int32) dX9_own_78 (by decide) ?_
        refine g_iload C 79 4 dX9_own_79 rfl ?_
        refine g_ishl C 81 dX9_own_81 ?_
        refine g_ior C 82 dX9_own_82 ?_
        obtain ⟨u8, hu8, hf⟩ := cal_some hf
        refine g_callV1 C 83 [0, 4] 0 (rest := []) dX9_own_83 (c_X9_isFirst (x_l X) cA q_t t_knots q_t_weight q_t_beside q_t_edge t_rowed q_t_row t_bags q_t_up q_t_least t_q q_t_factor q_t_pairFactor q_t_forbidden q_t_mayNot q_t_fixed q_t_state q_t_count q_t_best q_t_bests t_allCount t_allBest t_allBests q_t_bag t_bag a1 (((1 : Int32) <<< (x4 &&& 31)) ||| ((1 : Int32) <<< (x5 &&& 31))) u8 hu8) kw_417 kw_418 kw_419 kw_343 kw_420 ok_X9_isFirst ⟨Nat.le_of_ble_eq_true rfl, Nat.le_of_ble_eq_true rfl⟩ hk ⟨rfl, rfl⟩ rfl rfl rfl rfl rfl (Nat.le_of_ble_eq_true rfl) rfl (ws' := [oB q_t 9 [.int t_knots, .ref q_t_weight, .ref q_t_beside, .ref q_t_edge, .int t_rowed, .ref q_t_row, .int t_bags, .ref q_t_bag, .ref q_t_up, .ref q_t_least, .int t_q, .ref q_t_factor, .ref q_t_pairFactor, .ref q_t_forbidden, .ref q_t_mayNot, .ref q_t_fixed, .ref q_t_state, .ref q_t_count, .ref q_t_best, .ref q_t_bests, .long t_allCount, .long t_allBest, .long t_allBests], aI cA q_t_weight 14 t_weight, aI cA q_t_beside 14 t_beside, aI cA q_t_edge 196 t_edge, aI cA q_t_bag 14 t_bag, aI cA q_t_factor 4 t_factor, aI cA q_t_pairFactor 16 t_pairFactor, aI cA q_t_state 14 t_state]) (st' := [.int u8]) (N0 := 8) rfl [some 0, none, none, none, some 1, none, none, none] (by decide) rfl rfl ?_
        refine g_if_eq C 86 130 dX9_own_86 (by decide) hf (fun hf => ?_) (fun hf => ?_)
        · refine g_iinc C 130 4 (v := x5 + (1 : Int32)) (fun z => [(5, .int z), (0, .ref q_t), (1, .int a1), (2, .long x2), (4, .int x4)]) dX9_own_130 rfl rfl (by decide) (fun _ => rfl) hf (fun x5_9 hf => ?_)
          refine g_goto C 133 54 dX9_own_133 (by decide) ?_
          refine g_lv [1, 2, 3, 4, 0] rfl ?_
          exact ih x2 x4 x5_9 hf
        · refine g_lload_n C 89 2 dX9_own_89 rfl rfl ?_
          refine g_aload_n C 90 0 dX9_own_90 rfl rfl ?_
          refine g_get C 91 0 3 dX9_own_91 inX9 rfl rfl (by decide) kw_353 rfl ?_
          refine g_bipush C 94 (14 : Int32) dX9_own_94 (by decide) ?_
          refine g_iload C 96 3 dX9_own_96 rfl ?_
          refine g_imul C 98 dX9_own_98 ?_
          refine g_iload C 99 4 dX9_own_99 rfl ?_
          refine g_iadd C 101 dX9_own_101 ?_
          refine g_iald C 102 3 dX9_own_102 rfl hf (fun v10 hf => ?_)
          refine g_i2l C 103 dX9_own_103 ?_
          refine g_aload_n C 104 0 dX9_own_104 rfl rfl ?_
          refine g_get C 105 0 12 dX9_own_105 inX9 rfl rfl (by decide) kw_400 rfl ?_
          refine g_iconst C 108 (4 : Int32) dX9_own_108 (by decide) ?_
          refine g_aload_n C 109 0 dX9_own_109 rfl rfl ?_
          refine g_get C 110 0 16 dX9_own_110 inX9 rfl rfl (by decide) kw_412 rfl ?_
          refine g_iload C 113 3 dX9_own_113 rfl ?_
          refine g_iald C 115 7 dX9_own_115 rfl hf (fun v11 hf => ?_)
          refine g_imul C 116 dX9_own_116 ?_
          refine g_aload_n C 117 0 dX9_own_117 rfl rfl ?_
          refine g_get C 118 0 16 dX9_own_118 inX9 rfl rfl (by decide) kw_412 rfl ?_
          refine g_iload C 121 4 dX9_own_121 rfl ?_
          refine g_iald C 123 7 dX9_own_123 rfl hf (fun v12 hf => ?_)
          refine g_iadd C 124 dX9_own_124 ?_
          refine g_iald C 125 6 dX9_own_125 rfl hf (fun v13 hf => ?_)
          refine g_i2l C 126 dX9_own_126 ?_
          refine g_lmul C 127 dX9_own_127 ?_
          refine g_ladd C 128 dX9_own_128 ?_
          refine g_lstore_n C 129 (fun z => [(2, .long z), (0, .ref q_t), (1, .int a1), (4, .int x4), (5, .int x5)]) dX9_own_129 rfl (by decide) (fun _ => rfl) hf (fun x2_14 hf => ?_)
          refine g_iinc C 130 4 (v := x5 + (1 : Int32)) (fun z => [(5, .int z), (2, .long x2_14), (0, .ref q_t), (1, .int a1), (4, .int x4)]) dX9_own_130 rfl rfl (by decide) (fun _ => rfl) hf (fun x5_15 hf => ?_)
          refine g_goto C 133 54 dX9_own_133 (by decide) ?_
          refine g_lv [2, 3, 1, 4, 0] rfl ?_
          exact ih x2_14 x4 x5_15 hf
def L_X9_own_5 (a1 : Int32) (t_knots : Int32) (t_weight : Nat → Int32) (t_beside : Nat → Int32) (t_edge : Nat → Int32) (t_bag : Nat → Int32) (t_factor : Nat → Int32) (t_pairFactor : Nat → Int32) (t_state : Nat → Int32)  : Nat → Int64 → Int32 → Option (Int64)
  | 0, _, _ => none
  | n + 1, x2, x4 =>
    if t_knots ≤ x4 then
      some (x2)
    else
      cal (f_X9_isFirst a1 ((1 : Int32) <<< (x4 &&& 31)) t_bag) fun u3 =>
      if u3 = 0 then
        bnd (0 : Int32) fun x5_4 =>
        L_X9_own_54 a1 t_knots t_weight t_beside t_edge t_bag t_factor t_pairFactor t_state (fun y0 y1 => L_X9_own_5 a1 t_knots t_weight t_beside t_edge t_bag t_factor t_pairFactor t_state n y0 y1) NN x2 x4 x5_4
      else
        ldA t_weight 14 x4 fun v16 =>
        ldA t_state 14 x4 fun v17 =>
        ldA t_factor 4 v17 fun v18 =>
        bnd (x2 + (((v16).toInt64) * ((v18).toInt64))) fun x2_19 =>
        bnd (0 : Int32) fun x5_20 =>
        L_X9_own_54 a1 t_knots t_weight t_beside t_edge t_bag t_factor t_pairFactor t_state (fun y0 y1 => L_X9_own_5 a1 t_knots t_weight t_beside t_edge t_bag t_factor t_pairFactor t_state n y0 y1) NN x2_19 x4 x5_20

set_option maxRecDepth 100000 in
set_option maxHeartbeats 1000000 in
theorem w_X9_own_5 (cA : Nat → ClassId) (q_t : Nat) (t_rowed : Int32) (q_t_row : Nat) (t_bags : Int32) (q_t_up : Nat) (q_t_least : Nat) (t_q : Int32) (q_t_forbidden : Nat) (q_t_mayNot : Nat) (q_t_fixed : Nat) (q_t_count : Nat) (q_t_best : Nat) (q_t_bests : Nat) (t_allCount : Int64) (t_allBest : Int64) (t_allBests : Int64) (q_t_weight : Nat) (q_t_beside : Nat) (q_t_edge : Nat) (q_t_bag : Nat) (q_t_factor : Nat) (q_t_pairFactor : Nat) (q_t_state : Nat) (a1 : Int32) (t_knots : Int32) (t_weight : Nat → Int32) (t_beside : Nat → Int32) (t_edge : Nat → Int32) (t_bag : Nat → Int32) (t_factor : Nat → Int32) (t_pairFactor : Nat → Int32) (t_state : Nat → Int32) {X : XT}  (C : Cx X cX9_own RX9 (some .long) cA 2 43 6) {kk nn : Nat} {BB : Option Value → va_W → Prop} (hk : kk ≤ (x_R X).cells ∧ nn ≤ (x_R X).slots) (F : Fx X BB kk nn) (r : Int64) (hB : BB (some (.long r)) [oB q_t 9 [.int t_knots, .ref q_t_weight, .ref q_t_beside, .ref q_t_edge, .int t_rowed, .ref q_t_row, .int t_bags, .ref q_t_bag, .ref q_t_up, .ref q_t_least, .int t_q, .ref q_t_factor, .ref q_t_pairFactor, .ref q_t_forbidden, .ref q_t_mayNot, .ref q_t_fixed, .ref q_t_state, .ref q_t_count, .ref q_t_best, .ref q_t_bests, .long t_allCount, .long t_allBest, .long t_allBests], aI cA q_t_weight 14 t_weight, aI cA q_t_beside 14 t_beside, aI cA q_t_edge 196 t_edge, aI cA q_t_bag 14 t_bag, aI cA q_t_factor 4 t_factor, aI cA q_t_pairFactor 16 t_pairFactor, aI cA q_t_state 14 t_state])  : ∀ (n : Nat) (x2 : Int64) (x4 : Int32), L_X9_own_5 a1 t_knots t_weight t_beside t_edge t_bag t_factor t_pairFactor t_state n x2 x4 = some r → Go X 6 kk nn 5 [oB q_t 9 [.int t_knots, .ref q_t_weight, .ref q_t_beside, .ref q_t_edge, .int t_rowed, .ref q_t_row, .int t_bags, .ref q_t_bag, .ref q_t_up, .ref q_t_least, .int t_q, .ref q_t_factor, .ref q_t_pairFactor, .ref q_t_forbidden, .ref q_t_mayNot, .ref q_t_fixed, .ref q_t_state, .ref q_t_count, .ref q_t_best, .ref q_t_bests, .long t_allCount, .long t_allBest, .long t_allBests], aI cA q_t_weight 14 t_weight, aI cA q_t_beside 14 t_beside, aI cA q_t_edge 196 t_edge, aI cA q_t_bag 14 t_bag, aI cA q_t_factor 4 t_factor, aI cA q_t_pairFactor 16 t_pairFactor, aI cA q_t_state 14 t_state] [(0, .ref q_t), (1, .int a1), (2, .long x2), (4, .int x4)] [] := by
  intro n
  induction n with
  | zero => intro x2 x4 hf; exact no_some hf
  | succ n ih =>
    intro x2 x4 hf
    rw [L_X9_own_5] at hf
    refine g_iload C 5 3 dX9_own_5 rfl ?_
    refine g_aload_n C 7 0 dX9_own_7 rfl rfl ?_
    refine g_get C 8 0 0 dX9_own_8 inX9 rfl rfl (by decide) kw_339 rfl ?_
    refine g_icmp_ge C 11 142 dX9_own_11 (by decide) hf (fun hf => ?_) (fun hf => ?_)
    · refine g_lload_n C 142 2 dX9_own_142 rfl rfl ?_
      cases hf
      exact g_lret C 143 dX9_own_143 F hB
    · refine g_aload_n C 14 0 dX9_own_14 rfl rfl ?_
      refine g_iload_n C 15 1 dX9_own_15 rfl rfl ?_
      refine g_iconst C 16 (1 : Int32) dX9_own_16 (by decide) ?_
      refine g_iload C 17 3 dX9_own_17 rfl ?_
      refine g_ishl C 19 dX9_own_19 ?_
      obtain ⟨u3, hu3, hf⟩ := cal_some hf
      refine g_callV1 C 20 [0, 4] 0 (rest := []) dX9_own_20 (c_X9_isFirst (x_l X) cA q_t t_knots q_t_weight q_t_beside q_t_edge t_rowed q_t_row t_bags q_t_up q_t_least t_q q_t_factor q_t_pairFactor q_t_forbidden q_t_mayNot q_t_fixed q_t_state q_t_count q_t_best q_t_bests t_allCount t_allBest t_allBests q_t_bag t_bag a1 ((1 : Int32) <<< (x4 &&& 31)) u3 hu3) kw_417 kw_418 kw_419 kw_343 kw_420 ok_X9_isFirst ⟨Nat.le_of_ble_eq_true rfl, Nat.le_of_ble_eq_true rfl⟩ hk ⟨rfl, rfl⟩ rfl rfl rfl rfl rfl (Nat.le_of_ble_eq_true rfl) rfl (ws' := [oB q_t 9 [.int t_knots, .ref q_t_weight, .ref q_t_beside, .ref q_t_edge, .int t_rowed, .ref q_t_row, .int t_bags, .ref q_t_bag, .ref q_t_up, .ref q_t_least, .int t_q, .ref q_t_factor, .ref q_t_pairFactor, .ref q_t_forbidden, .ref q_t_mayNot, .ref q_t_fixed, .ref q_t_state, .ref q_t_count, .ref q_t_best, .ref q_t_bests, .long t_allCount, .long t_allBest, .long t_allBests], aI cA q_t_weight 14 t_weight, aI cA q_t_beside 14 t_beside, aI cA q_t_edge 196 t_edge, aI cA q_t_bag 14 t_bag, aI cA q_t_factor 4 t_factor, aI cA q_t_pairFactor 16 t_pairFactor, aI cA q_t_state 14 t_state]) (st' := [.int u3]) (N0 := 8) rfl [some 0, none, none, none, some 1, none, none, none] (by decide) rfl rfl ?_
      refine g_if_eq C 23 51 dX9_own_23 (by decide) hf (fun hf => ?_) (fun hf => ?_)
      · refine g_iconst C 51 (0 : Int32) dX9_own_51 (by decide) ?_
        refine g_istore C 52 (fun z => [(5, .int z), (0, .ref q_t), (1, .int a1), (2, .long x2), (4, .int x4)]) dX9_own_52 (by decide) (fun _ => rfl) hf (fun x5_4 hf => ?_)
        refine g_lv [1, 2, 3, 4, 0] rfl ?_
        exact w_X9_own_54 cA q_t t_rowed q_t_row t_bags q_t_up q_t_least t_q q_t_forbidden q_t_mayNot q_t_fixed q_t_count q_t_best q_t_bests t_allCount t_allBest t_allBests q_t_weight q_t_beside q_t_edge q_t_bag q_t_factor q_t_pairFactor q_t_state a1 t_knots t_weight t_beside t_edge t_bag t_factor t_pairFactor t_state C hk F r hB (fun y0 y1 => L_X9_own_5 a1 t_knots t_weight t_beside t_edge t_bag t_factor t_pairFactor t_state n y0 y1) (fun y0 y1 hf => ih y0 y1 hf) NN x2 x4 x5_4 hf
      · refine g_lload_n C 26 2 dX9_own_26 rfl rfl ?_
        refine g_aload_n C 27 0 dX9_own_27 rfl rfl ?_
        refine g_get C 28 0 1 dX9_own_28 inX9 rfl rfl (by decide) kw_345 rfl ?_
        refine g_iload C 31 3 dX9_own_31 rfl ?_
        refine g_iald C 33 1 dX9_own_33 rfl hf (fun v16 hf => ?_)
        refine g_i2l C 34 dX9_own_34 ?_
        refine g_aload_n C 35 0 dX9_own_35 rfl rfl ?_
        refine g_get C 36 0 11 dX9_own_36 inX9 rfl rfl (by decide) kw_402 rfl ?_
        refine g_aload_n C 39 0 dX9_own_39 rfl rfl ?_
        refine g_get C 40 0 16 dX9_own_40 inX9 rfl rfl (by decide) kw_412 rfl ?_
        refine g_iload C 43 3 dX9_own_43 rfl ?_
        refine g_iald C 45 7 dX9_own_45 rfl hf (fun v17 hf => ?_)
        refine g_iald C 46 5 dX9_own_46 rfl hf (fun v18 hf => ?_)
        refine g_i2l C 47 dX9_own_47 ?_
        refine g_lmul C 48 dX9_own_48 ?_
        refine g_ladd C 49 dX9_own_49 ?_
        refine g_lstore_n C 50 (fun z => [(2, .long z), (0, .ref q_t), (1, .int a1), (4, .int x4)]) dX9_own_50 rfl (by decide) (fun _ => rfl) hf (fun x2_19 hf => ?_)
        refine g_iconst C 51 (0 : Int32) dX9_own_51 (by decide) ?_
        refine g_istore C 52 (fun z => [(5, .int z), (2, .long x2_19), (0, .ref q_t), (1, .int a1), (4, .int x4)]) dX9_own_52 (by decide) (fun _ => rfl) hf (fun x5_20 hf => ?_)
        refine g_lv [2, 3, 1, 4, 0] rfl ?_
        exact w_X9_own_54 cA q_t t_rowed q_t_row t_bags q_t_up q_t_least t_q q_t_forbidden q_t_mayNot q_t_fixed q_t_count q_t_best q_t_bests t_allCount t_allBest t_allBests q_t_weight q_t_beside q_t_edge q_t_bag q_t_factor q_t_pairFactor q_t_state a1 t_knots t_weight t_beside t_edge t_bag t_factor t_pairFactor t_state C hk F r hB (fun y0 y1 => L_X9_own_5 a1 t_knots t_weight t_beside t_edge t_bag t_factor t_pairFactor t_state n y0 y1) (fun y0 y1 hf => ih y0 y1 hf) NN x2_19 x4 x5_20 hf
def f_X9_own (a1 : Int32) (t_knots : Int32) (t_weight : Nat → Int32) (t_beside : Nat → Int32) (t_edge : Nat → Int32) (t_bag : Nat → Int32) (t_factor : Nat → Int32) (t_pairFactor : Nat → Int32) (t_state : Nat → Int32) : Option (Int64) :=
  bnd (0 : Int64) fun x2_1 =>
  bnd (0 : Int32) fun x4_2 =>
  L_X9_own_5 a1 t_knots t_weight t_beside t_edge t_bag t_factor t_pairFactor t_state NN x2_1 x4_2

set_option maxRecDepth 100000 in
set_option maxHeartbeats 1000000 in
theorem c_X9_own (l : Launch) (cA : Nat → ClassId) (q_t : Nat) (t_knots : Int32) (t_rowed : Int32) (q_t_row : Nat) (t_bags : Int32) (q_t_up : Nat) (q_t_least : Nat) (t_q : Int32) (q_t_forbidden : Nat) (q_t_mayNot : Nat) (q_t_fixed : Nat) (q_t_count : Nat) (q_t_best : Nat) (q_t_bests : Nat) (t_allCount : Int64) (t_allBest : Int64) (t_allBests : Int64) (q_t_weight : Nat) (t_weight : Nat → Int32) (q_t_beside : Nat) (t_beside : Nat → Int32) (q_t_edge : Nat) (t_edge : Nat → Int32) (q_t_bag : Nat) (t_bag : Nat → Int32) (q_t_factor : Nat) (t_factor : Nat → Int32) (q_t_pairFactor : Nat) (t_pairFactor : Nat → Int32) (q_t_state : Nat) (t_state : Nat → Int32)  (a1 : Int32) (r : Int64) (hf : f_X9_own a1 t_knots t_weight t_beside t_edge t_bag t_factor t_pairFactor t_state = some r) : MT l cA yX9_own cX9_own 6 (some .long) ({ frames := 2, cells := 0, slots := 0, locals := 43 } : Room) [.ref q_t, .int a1] [oB q_t 9 [.int t_knots, .ref q_t_weight, .ref q_t_beside, .ref q_t_edge, .int t_rowed, .ref q_t_row, .int t_bags, .ref q_t_bag, .ref q_t_up, .ref q_t_least, .int t_q, .ref q_t_factor, .ref q_t_pairFactor, .ref q_t_forbidden, .ref q_t_mayNot, .ref q_t_fixed, .ref q_t_state, .ref q_t_count, .ref q_t_best, .ref q_t_bests, .long t_allCount, .long t_allBest, .long t_allBests], aI cA q_t_weight 14 t_weight, aI cA q_t_beside 14 t_beside, aI cA q_t_edge 196 t_edge, aI cA q_t_bag 14 t_bag, aI cA q_t_factor 4 t_factor, aI cA q_t_pairFactor 16 t_pairFactor, aI cA q_t_state 14 t_state] (sB (some (.long r)) [oB q_t 9 [.int t_knots, .ref q_t_weight, .ref q_t_beside, .ref q_t_edge, .int t_rowed, .ref q_t_row, .int t_bags, .ref q_t_bag, .ref q_t_up, .ref q_t_least, .int t_q, .ref q_t_factor, .ref q_t_pairFactor, .ref q_t_forbidden, .ref q_t_mayNot, .ref q_t_fixed, .ref q_t_state, .ref q_t_count, .ref q_t_best, .ref q_t_bests, .long t_allCount, .long t_allBest, .long t_allBests], aI cA q_t_weight 14 t_weight, aI cA q_t_beside 14 t_beside, aI cA q_t_edge 196 t_edge, aI cA q_t_bag 14 t_bag, aI cA q_t_factor 4 t_factor, aI cA q_t_pairFactor 16 t_pairFactor, aI cA q_t_state 14 t_state]) := by
  refine MT.of (by decide) (Nat.le_of_ble_eq_true rfl) ?_
  intro X hXl C F hnm hrc hrs
  subst hXl
  have hk : 0 ≤ (x_R X).cells ∧ 0 ≤ (x_R X).slots := ⟨Nat.zero_le _, Nat.zero_le _⟩
  have hB : (sB (some (.long r)) [oB q_t 9 [.int t_knots, .ref q_t_weight, .ref q_t_beside, .ref q_t_edge, .int t_rowed, .ref q_t_row, .int t_bags, .ref q_t_bag, .ref q_t_up, .ref q_t_least, .int t_q, .ref q_t_factor, .ref q_t_pairFactor, .ref q_t_forbidden, .ref q_t_mayNot, .ref q_t_fixed, .ref q_t_state, .ref q_t_count, .ref q_t_best, .ref q_t_bests, .long t_allCount, .long t_allBest, .long t_allBests], aI cA q_t_weight 14 t_weight, aI cA q_t_beside 14 t_beside, aI cA q_t_edge 196 t_edge, aI cA q_t_bag 14 t_bag, aI cA q_t_factor 4 t_factor, aI cA q_t_pairFactor 16 t_pairFactor, aI cA q_t_state 14 t_state]) (some (.long r)) [oB q_t 9 [.int t_knots, .ref q_t_weight, .ref q_t_beside, .ref q_t_edge, .int t_rowed, .ref q_t_row, .int t_bags, .ref q_t_bag, .ref q_t_up, .ref q_t_least, .int t_q, .ref q_t_factor, .ref q_t_pairFactor, .ref q_t_forbidden, .ref q_t_mayNot, .ref q_t_fixed, .ref q_t_state, .ref q_t_count, .ref q_t_best, .ref q_t_bests, .long t_allCount, .long t_allBest, .long t_allBests], aI cA q_t_weight 14 t_weight, aI cA q_t_beside 14 t_beside, aI cA q_t_edge 196 t_edge, aI cA q_t_bag 14 t_bag, aI cA q_t_factor 4 t_factor, aI cA q_t_pairFactor 16 t_pairFactor, aI cA q_t_state 14 t_state] := ⟨rfl, rfl⟩
  unfold f_X9_own at hf
  have C : Cx X cX9_own RX9 (some .long) cA 2 43 6 := C
  show Go X 6 0 0 0 [oB q_t 9 [.int t_knots, .ref q_t_weight, .ref q_t_beside, .ref q_t_edge, .int t_rowed, .ref q_t_row, .int t_bags, .ref q_t_bag, .ref q_t_up, .ref q_t_least, .int t_q, .ref q_t_factor, .ref q_t_pairFactor, .ref q_t_forbidden, .ref q_t_mayNot, .ref q_t_fixed, .ref q_t_state, .ref q_t_count, .ref q_t_best, .ref q_t_bests, .long t_allCount, .long t_allBest, .long t_allBests], aI cA q_t_weight 14 t_weight, aI cA q_t_beside 14 t_beside, aI cA q_t_edge 196 t_edge, aI cA q_t_bag 14 t_bag, aI cA q_t_factor 4 t_factor, aI cA q_t_pairFactor 16 t_pairFactor, aI cA q_t_state 14 t_state] [(0, .ref q_t), (1, .int a1)] []
  refine g_lconst C 0 (0 : Int64) dX9_own_0 (by decide) ?_
  refine g_lstore_n C 1 (fun z => [(2, .long z), (0, .ref q_t), (1, .int a1)]) dX9_own_1 rfl (by decide) (fun _ => rfl) hf (fun x2_1 hf => ?_)
  refine g_iconst C 2 (0 : Int32) dX9_own_2 (by decide) ?_
  refine g_istore C 3 (fun z => [(4, .int z), (2, .long x2_1), (0, .ref q_t), (1, .int a1)]) dX9_own_3 (by decide) (fun _ => rfl) hf (fun x4_2 hf => ?_)
  refine g_lv [2, 3, 1, 0] rfl ?_
  exact w_X9_own_5 cA q_t t_rowed q_t_row t_bags q_t_up q_t_least t_q q_t_forbidden q_t_mayNot q_t_fixed q_t_count q_t_best q_t_bests t_allCount t_allBest t_allBests q_t_weight q_t_beside q_t_edge q_t_bag q_t_factor q_t_pairFactor q_t_state a1 t_knots t_weight t_beside t_edge t_bag t_factor t_pairFactor t_state C hk F r hB NN x2_1 x4_2 hf

def J_X9_put__97 (a1 : Int32) (a2 : Int64) (a4 : Int64) (a6 : Int64) (a8 : Int32)  (t_count : Nat → Int64) (t_best : Nat → Int64) (t_bests : Nat → Int64) : Option ((Nat → Int64) × (Nat → Int64) × (Nat → Int64)) :=
  ldA t_count 14336 a1 fun v4 =>
  stJ t_count 14336 a1 (v4 + a2) fun t_count_5 =>
  some (t_count_5, t_best, t_bests)

set_option maxRecDepth 100000 in
set_option maxHeartbeats 1000000 in
theorem w_X9_put__97 (cA : Nat → ClassId) (q_t : Nat) (t_knots : Int32) (q_t_weight : Nat) (q_t_beside : Nat) (q_t_edge : Nat) (t_rowed : Int32) (q_t_row : Nat) (t_bags : Int32) (q_t_bag : Nat) (q_t_up : Nat) (q_t_least : Nat) (t_q : Int32) (q_t_factor : Nat) (q_t_pairFactor : Nat) (q_t_forbidden : Nat) (q_t_mayNot : Nat) (q_t_fixed : Nat) (q_t_state : Nat) (t_allCount : Int64) (t_allBest : Int64) (t_allBests : Int64) (q_t_count : Nat) (q_t_best : Nat) (q_t_bests : Nat) (a1 : Int32) (a2 : Int64) (a4 : Int64) (a6 : Int64) (a8 : Int32) {X : XT}  (C : Cx X cX9_put_ RX9 none cA 0 0 10) {kk nn : Nat} {BB : Option Value → va_W → Prop} (hk : kk ≤ (x_R X).cells ∧ nn ≤ (x_R X).slots) (F : Fx X BB kk nn) (r : (Nat → Int64) × (Nat → Int64) × (Nat → Int64)) (hB : BB (none) [oB q_t 9 [.int t_knots, .ref q_t_weight, .ref q_t_beside, .ref q_t_edge, .int t_rowed, .ref q_t_row, .int t_bags, .ref q_t_bag, .ref q_t_up, .ref q_t_least, .int t_q, .ref q_t_factor, .ref q_t_pairFactor, .ref q_t_forbidden, .ref q_t_mayNot, .ref q_t_fixed, .ref q_t_state, .ref q_t_count, .ref q_t_best, .ref q_t_bests, .long t_allCount, .long t_allBest, .long t_allBests], aJ cA q_t_count 14336 r.1, aJ cA q_t_best 14336 r.2.1, aJ cA q_t_bests 14336 r.2.2])  : ∀ (t_count : Nat → Int64) (t_best : Nat → Int64) (t_bests : Nat → Int64), J_X9_put__97 a1 a2 a4 a6 a8 t_count t_best t_bests = some r → Go X 10 kk nn 97 [oB q_t 9 [.int t_knots, .ref q_t_weight, .ref q_t_beside, .ref q_t_edge, .int t_rowed, .ref q_t_row, .int t_bags, .ref q_t_bag, .ref q_t_up, .ref q_t_least, .int t_q, .ref q_t_factor, .ref q_t_pairFactor, .ref q_t_forbidden, .ref q_t_mayNot, .ref q_t_fixed, .ref q_t_state, .ref q_t_count, .ref q_t_best, .ref q_t_bests, .long t_allCount, .long t_allBest, .long t_allBests], aJ cA q_t_count 14336 t_count, aJ cA q_t_best 14336 t_best, aJ cA q_t_bests 14336 t_bests] [(0, .ref q_t), (1, .int a1), (2, .long a2)] [] := by
  intro t_count t_best t_bests hf
  unfold J_X9_put__97 at hf
  refine g_aload_n C 97 0 dX9_put__97 rfl rfl ?_
  refine g_get C 98 0 17 dX9_put__98 inX9 rfl rfl (by decide) kw_421 rfl ?_
  refine g_iload_n C 101 1 dX9_put__101 rfl rfl ?_
  refine g_dup2 C 102 dX9_put__102 rfl rfl ?_
  refine g_lald C 103 1 dX9_put__103 rfl hf (fun v4 hf => ?_)
  refine g_lload_n C 104 2 dX9_put__104 rfl rfl ?_
  refine g_ladd C 105 dX9_put__105 ?_
  refine g_last C 106 1 (fun z => [oB q_t 9 [.int t_knots, .ref q_t_weight, .ref q_t_beside, .ref q_t_edge, .int t_rowed, .ref q_t_row, .int t_bags, .ref q_t_bag, .ref q_t_up, .ref q_t_least, .int t_q, .ref q_t_factor, .ref q_t_pairFactor, .ref q_t_forbidden, .ref q_t_mayNot, .ref q_t_fixed, .ref q_t_state, .ref q_t_count, .ref q_t_best, .ref q_t_bests, .long t_allCount, .long t_allBest, .long t_allBests], aJ cA q_t_count 14336 z, aJ cA q_t_best 14336 t_best, aJ cA q_t_bests 14336 t_bests]) dX9_put__106 rfl (fun _ => rfl) hf (fun t_count_5 hf => ?_)
  cases hf
  exact g_vret C 107 dX9_put__107 F hB
def J_X9_put__48 (a1 : Int32) (a2 : Int64) (a4 : Int64) (a6 : Int64) (a8 : Int32)  (s0 : Int32) (t_count : Nat → Int64) (t_best : Nat → Int64) (t_bests : Nat → Int64) : Option ((Nat → Int64) × (Nat → Int64) × (Nat → Int64)) :=
  bnd s0 fun x9_2 =>
  if x9_2 = 0 then
    ldA t_best 14336 a1 fun v3 =>
    if (lg_cmp a4 v3) = 0 then
      ldA t_bests 14336 a1 fun v6 =>
      stJ t_bests 14336 a1 (v6 + a6) fun t_bests_7 =>
      J_X9_put__97 a1 a2 a4 a6 a8 t_count t_best t_bests_7
    else
      J_X9_put__97 a1 a2 a4 a6 a8 t_count t_best t_bests
  else
    stJ t_best 14336 a1 a4 fun t_best_8 =>
    stJ t_bests 14336 a1 a6 fun t_bests_9 =>
    J_X9_put__97 a1 a2 a4 a6 a8 t_count t_best_8 t_bests_9

set_option maxRecDepth 100000 in
set_option maxHeartbeats 1000000 in
theorem w_X9_put__48 (cA : Nat → ClassId) (q_t : Nat) (t_knots : Int32) (q_t_weight : Nat) (q_t_beside : Nat) (q_t_edge : Nat) (t_rowed : Int32) (q_t_row : Nat) (t_bags : Int32) (q_t_bag : Nat) (q_t_up : Nat) (q_t_least : Nat) (t_q : Int32) (q_t_factor : Nat) (q_t_pairFactor : Nat) (q_t_forbidden : Nat) (q_t_mayNot : Nat) (q_t_fixed : Nat) (q_t_state : Nat) (t_allCount : Int64) (t_allBest : Int64) (t_allBests : Int64) (q_t_count : Nat) (q_t_best : Nat) (q_t_bests : Nat) (a1 : Int32) (a2 : Int64) (a4 : Int64) (a6 : Int64) (a8 : Int32) {X : XT}  (C : Cx X cX9_put_ RX9 none cA 0 0 10) {kk nn : Nat} {BB : Option Value → va_W → Prop} (hk : kk ≤ (x_R X).cells ∧ nn ≤ (x_R X).slots) (F : Fx X BB kk nn) (r : (Nat → Int64) × (Nat → Int64) × (Nat → Int64)) (hB : BB (none) [oB q_t 9 [.int t_knots, .ref q_t_weight, .ref q_t_beside, .ref q_t_edge, .int t_rowed, .ref q_t_row, .int t_bags, .ref q_t_bag, .ref q_t_up, .ref q_t_least, .int t_q, .ref q_t_factor, .ref q_t_pairFactor, .ref q_t_forbidden, .ref q_t_mayNot, .ref q_t_fixed, .ref q_t_state, .ref q_t_count, .ref q_t_best, .ref q_t_bests, .long t_allCount, .long t_allBest, .long t_allBests], aJ cA q_t_count 14336 r.1, aJ cA q_t_best 14336 r.2.1, aJ cA q_t_bests 14336 r.2.2])  : ∀ (s0 : Int32) (t_count : Nat → Int64) (t_best : Nat → Int64) (t_bests : Nat → Int64), J_X9_put__48 a1 a2 a4 a6 a8 s0 t_count t_best t_bests = some r → Go X 10 kk nn 48 [oB q_t 9 [.int t_knots, .ref q_t_weight, .ref q_t_beside, .ref q_t_edge, .int t_rowed, .ref q_t_row, .int t_bags, .ref q_t_bag, .ref q_t_up, .ref q_t_least, .int t_q, .ref q_t_factor, .ref q_t_pairFactor, .ref q_t_forbidden, .ref q_t_mayNot, .ref q_t_fixed, .ref q_t_state, .ref q_t_count, .ref q_t_best, .ref q_t_bests, .long t_allCount, .long t_allBest, .long t_allBests], aJ cA q_t_count 14336 t_count, aJ cA q_t_best 14336 t_best, aJ cA q_t_bests 14336 t_bests] [(0, .ref q_t), (1, .int a1), (2, .long a2), (4, .long a4), (6, .long a6)] [.int s0] := by
  intro s0 t_count t_best t_bests hf
  unfold J_X9_put__48 at hf
  refine g_istore C 48 (fun z => [(9, .int z), (0, .ref q_t), (1, .int a1), (2, .long a2), (4, .long a4), (6, .long a6)]) dX9_put__48 (by decide) (fun _ => rfl) hf (fun x9_2 hf => ?_)
  refine g_iload C 50 0 dX9_put__50 rfl ?_
  refine g_if_eq C 52 74 dX9_put__52 (by decide) hf (fun hf => ?_) (fun hf => ?_)
  · refine g_lload C 74 4 dX9_put__74 rfl ?_
    refine g_aload_n C 76 1 dX9_put__76 rfl rfl ?_
    refine g_get C 77 0 18 dX9_put__77 inX9 rfl rfl (by decide) kw_422 rfl ?_
    refine g_iload_n C 80 2 dX9_put__80 rfl rfl ?_
    refine g_lald C 81 2 dX9_put__81 rfl hf (fun v3 hf => ?_)
    refine g_lcmp C 82 dX9_put__82 ?_
    refine g_if_ne C 83 97 dX9_put__83 (by decide) hf (fun hf => ?_) (fun hf => ?_)
    · refine g_lv [1, 2, 3] rfl ?_
      exact w_X9_put__97 cA q_t t_knots q_t_weight q_t_beside q_t_edge t_rowed q_t_row t_bags q_t_bag q_t_up q_t_least t_q q_t_factor q_t_pairFactor q_t_forbidden q_t_mayNot q_t_fixed q_t_state t_allCount t_allBest t_allBests q_t_count q_t_best q_t_bests a1 a2 a4 a6 a8 C hk F r hB t_count t_best t_bests hf
    · refine g_aload_n C 86 1 dX9_put__86 rfl rfl ?_
      refine g_get C 87 0 19 dX9_put__87 inX9 rfl rfl (by decide) kw_423 rfl ?_
      refine g_iload_n C 90 2 dX9_put__90 rfl rfl ?_
      refine g_dup2 C 91 dX9_put__91 rfl rfl ?_
      refine g_lald C 92 3 dX9_put__92 rfl hf (fun v6 hf => ?_)
      refine g_lload C 93 5 dX9_put__93 rfl ?_
      refine g_ladd C 95 dX9_put__95 ?_
      refine g_last C 96 3 (fun z => [oB q_t 9 [.int t_knots, .ref q_t_weight, .ref q_t_beside, .ref q_t_edge, .int t_rowed, .ref q_t_row, .int t_bags, .ref q_t_bag, .ref q_t_up, .ref q_t_least, .int t_q, .ref q_t_factor, .ref q_t_pairFactor, .ref q_t_forbidden, .ref q_t_mayNot, .ref q_t_fixed, .ref q_t_state, .ref q_t_count, .ref q_t_best, .ref q_t_bests, .long t_allCount, .long t_allBest, .long t_allBests], aJ cA q_t_count 14336 t_count, aJ cA q_t_best 14336 t_best, aJ cA q_t_bests 14336 z]) dX9_put__96 rfl (fun _ => rfl) hf (fun t_bests_7 hf => ?_)
      refine g_lv [1, 2, 3] rfl ?_
      exact w_X9_put__97 cA q_t t_knots q_t_weight q_t_beside q_t_edge t_rowed q_t_row t_bags q_t_bag q_t_up q_t_least t_q q_t_factor q_t_pairFactor q_t_forbidden q_t_mayNot q_t_fixed q_t_state t_allCount t_allBest t_allBests q_t_count q_t_best q_t_bests a1 a2 a4 a6 a8 C hk F r hB t_count t_best t_bests_7 hf
  · refine g_aload_n C 55 1 dX9_put__55 rfl rfl ?_
    refine g_get C 56 0 18 dX9_put__56 inX9 rfl rfl (by decide) kw_422 rfl ?_
    refine g_iload_n C 59 2 dX9_put__59 rfl rfl ?_
    refine g_lload C 60 4 dX9_put__60 rfl ?_
    refine g_last C 62 2 (fun z => [oB q_t 9 [.int t_knots, .ref q_t_weight, .ref q_t_beside, .ref q_t_edge, .int t_rowed, .ref q_t_row, .int t_bags, .ref q_t_bag, .ref q_t_up, .ref q_t_least, .int t_q, .ref q_t_factor, .ref q_t_pairFactor, .ref q_t_forbidden, .ref q_t_mayNot, .ref q_t_fixed, .ref q_t_state, .ref q_t_count, .ref q_t_best, .ref q_t_bests, .long t_allCount, .long t_allBest, .long t_allBests], aJ cA q_t_count 14336 t_count, aJ cA q_t_best 14336 z, aJ cA q_t_bests 14336 t_bests]) dX9_put__62 rfl (fun _ => rfl) hf (fun t_best_8 hf => ?_)
    refine g_aload_n C 63 1 dX9_put__63 rfl rfl ?_
    refine g_get C 64 0 19 dX9_put__64 inX9 rfl rfl (by decide) kw_423 rfl ?_
    refine g_iload_n C 67 2 dX9_put__67 rfl rfl ?_
    refine g_lload C 68 5 dX9_put__68 rfl ?_
    refine g_last C 70 3 (fun z => [oB q_t 9 [.int t_knots, .ref q_t_weight, .ref q_t_beside, .ref q_t_edge, .int t_rowed, .ref q_t_row, .int t_bags, .ref q_t_bag, .ref q_t_up, .ref q_t_least, .int t_q, .ref q_t_factor, .ref q_t_pairFactor, .ref q_t_forbidden, .ref q_t_mayNot, .ref q_t_fixed, .ref q_t_state, .ref q_t_count, .ref q_t_best, .ref q_t_bests, .long t_allCount, .long t_allBest, .long t_allBests], aJ cA q_t_count 14336 t_count, aJ cA q_t_best 14336 t_best_8, aJ cA q_t_bests 14336 z]) dX9_put__70 rfl (fun _ => rfl) hf (fun t_bests_9 hf => ?_)
    refine g_goto C 71 97 dX9_put__71 (by decide) ?_
    refine g_lv [1, 2, 3] rfl ?_
    exact w_X9_put__97 cA q_t t_knots q_t_weight q_t_beside q_t_edge t_rowed q_t_row t_bags q_t_bag q_t_up q_t_least t_q q_t_factor q_t_pairFactor q_t_forbidden q_t_mayNot q_t_fixed q_t_state t_allCount t_allBest t_allBests q_t_count q_t_best q_t_bests a1 a2 a4 a6 a8 C hk F r hB t_count t_best_8 t_bests_9 hf
def f_X9_put_ (a1 : Int32) (a2 : Int64) (a4 : Int64) (a6 : Int64) (a8 : Int32) (t_count : Nat → Int64) (t_best : Nat → Int64) (t_bests : Nat → Int64) : Option ((Nat → Int64) × (Nat → Int64) × (Nat → Int64)) :=
  ldA t_count 14336 a1 fun v1 =>
  if (lg_cmp v1 (0 : Int64)) = 0 then
    J_X9_put__48 a1 a2 a4 a6 a8 (1 : Int32) t_count t_best t_bests
  else
    if a8 = 0 then
      ldA t_best 14336 a1 fun v10 =>
      if 0 ≤ (lg_cmp a4 v10) then
        J_X9_put__48 a1 a2 a4 a6 a8 (0 : Int32) t_count t_best t_bests
      else
        J_X9_put__48 a1 a2 a4 a6 a8 (1 : Int32) t_count t_best t_bests
    else
      ldA t_best 14336 a1 fun v11 =>
      if (lg_cmp a4 v11) ≤ 0 then
        J_X9_put__48 a1 a2 a4 a6 a8 (0 : Int32) t_count t_best t_bests
      else
        J_X9_put__48 a1 a2 a4 a6 a8 (1 : Int32) t_count t_best t_bests

set_option maxRecDepth 100000 in
set_option maxHeartbeats 1000000 in
theorem c_X9_put_ (l : Launch) (cA : Nat → ClassId) (q_t : Nat) (t_knots : Int32) (q_t_weight : Nat) (q_t_beside : Nat) (q_t_edge : Nat) (t_rowed : Int32) (q_t_row : Nat) (t_bags : Int32) (q_t_bag : Nat) (q_t_up : Nat) (q_t_least : Nat) (t_q : Int32) (q_t_factor : Nat) (q_t_pairFactor : Nat) (q_t_forbidden : Nat) (q_t_mayNot : Nat) (q_t_fixed : Nat) (q_t_state : Nat) (t_allCount : Int64) (t_allBest : Int64) (t_allBests : Int64) (q_t_count : Nat) (t_count : Nat → Int64) (q_t_best : Nat) (t_best : Nat → Int64) (q_t_bests : Nat) (t_bests : Nat → Int64)  (a1 : Int32) (a2 : Int64) (a4 : Int64) (a6 : Int64) (a8 : Int32) (r : (Nat → Int64) × (Nat → Int64) × (Nat → Int64)) (hf : f_X9_put_ a1 a2 a4 a6 a8 t_count t_best t_bests = some r) : MT l cA yX9_put_ cX9_put_ 10 none ({ frames := 0, cells := 0, slots := 0, locals := 0 } : Room) [.ref q_t, .int a1, .long a2, .long a4, .long a6, .int a8] [oB q_t 9 [.int t_knots, .ref q_t_weight, .ref q_t_beside, .ref q_t_edge, .int t_rowed, .ref q_t_row, .int t_bags, .ref q_t_bag, .ref q_t_up, .ref q_t_least, .int t_q, .ref q_t_factor, .ref q_t_pairFactor, .ref q_t_forbidden, .ref q_t_mayNot, .ref q_t_fixed, .ref q_t_state, .ref q_t_count, .ref q_t_best, .ref q_t_bests, .long t_allCount, .long t_allBest, .long t_allBests], aJ cA q_t_count 14336 t_count, aJ cA q_t_best 14336 t_best, aJ cA q_t_bests 14336 t_bests] (sB (none) [oB q_t 9 [.int t_knots, .ref q_t_weight, .ref q_t_beside, .ref q_t_edge, .int t_rowed, .ref q_t_row, .int t_bags, .ref q_t_bag, .ref q_t_up, .ref q_t_least, .int t_q, .ref q_t_factor, .ref q_t_pairFactor, .ref q_t_forbidden, .ref q_t_mayNot, .ref q_t_fixed, .ref q_t_state, .ref q_t_count, .ref q_t_best, .ref q_t_bests, .long t_allCount, .long t_allBest, .long t_allBests], aJ cA q_t_count 14336 r.1, aJ cA q_t_best 14336 r.2.1, aJ cA q_t_bests 14336 r.2.2]) := by
  refine MT.of (by decide) (Nat.le_of_ble_eq_true rfl) ?_
  intro X hXl C F hnm hrc hrs
  subst hXl
  have hk : 0 ≤ (x_R X).cells ∧ 0 ≤ (x_R X).slots := ⟨Nat.zero_le _, Nat.zero_le _⟩
  have hB : (sB (none) [oB q_t 9 [.int t_knots, .ref q_t_weight, .ref q_t_beside, .ref q_t_edge, .int t_rowed, .ref q_t_row, .int t_bags, .ref q_t_bag, .ref q_t_up, .ref q_t_least, .int t_q, .ref q_t_factor, .ref q_t_pairFactor, .ref q_t_forbidden, .ref q_t_mayNot, .ref q_t_fixed, .ref q_t_state, .ref q_t_count, .ref q_t_best, .ref q_t_bests, .long t_allCount, .long t_allBest, .long t_allBests], aJ cA q_t_count 14336 r.1, aJ cA q_t_best 14336 r.2.1, aJ cA q_t_bests 14336 r.2.2]) (none) [oB q_t 9 [.int t_knots, .ref q_t_weight, .ref q_t_beside, .ref q_t_edge, .int t_rowed, .ref q_t_row, .int t_bags, .ref q_t_bag, .ref q_t_up, .ref q_t_least, .int t_q, .ref q_t_factor, .ref q_t_pairFactor, .ref q_t_forbidden, .ref q_t_mayNot, .ref q_t_fixed, .ref q_t_state, .ref q_t_count, .ref q_t_best, .ref q_t_bests, .long t_allCount, .long t_allBest, .long t_allBests], aJ cA q_t_count 14336 r.1, aJ cA q_t_best 14336 r.2.1, aJ cA q_t_bests 14336 r.2.2] := ⟨rfl, rfl⟩
  unfold f_X9_put_ at hf
  have C : Cx X cX9_put_ RX9 none cA 0 0 10 := C
  show Go X 10 0 0 0 [oB q_t 9 [.int t_knots, .ref q_t_weight, .ref q_t_beside, .ref q_t_edge, .int t_rowed, .ref q_t_row, .int t_bags, .ref q_t_bag, .ref q_t_up, .ref q_t_least, .int t_q, .ref q_t_factor, .ref q_t_pairFactor, .ref q_t_forbidden, .ref q_t_mayNot, .ref q_t_fixed, .ref q_t_state, .ref q_t_count, .ref q_t_best, .ref q_t_bests, .long t_allCount, .long t_allBest, .long t_allBests], aJ cA q_t_count 14336 t_count, aJ cA q_t_best 14336 t_best, aJ cA q_t_bests 14336 t_bests] [(0, .ref q_t), (1, .int a1), (2, .long a2), (4, .long a4), (6, .long a6), (8, .int a8)] []
  refine g_aload_n C 0 0 dX9_put__0 rfl rfl ?_
  refine g_get C 1 0 17 dX9_put__1 inX9 rfl rfl (by decide) kw_421 rfl ?_
  refine g_iload_n C 4 1 dX9_put__4 rfl rfl ?_
  refine g_lald C 5 1 dX9_put__5 rfl hf (fun v1 hf => ?_)
  refine g_lconst C 6 (0 : Int64) dX9_put__6 (by decide) ?_
  refine g_lcmp C 7 dX9_put__7 ?_
  refine g_if_eq C 8 43 dX9_put__8 (by decide) hf (fun hf => ?_) (fun hf => ?_)
  · refine g_iconst C 43 (1 : Int32) dX9_put__43 (by decide) ?_
    refine g_goto C 44 48 dX9_put__44 (by decide) ?_
    refine g_lv [0, 1, 2, 3, 4] rfl ?_
    exact w_X9_put__48 cA q_t t_knots q_t_weight q_t_beside q_t_edge t_rowed q_t_row t_bags q_t_bag q_t_up q_t_least t_q q_t_factor q_t_pairFactor q_t_forbidden q_t_mayNot q_t_fixed q_t_state t_allCount t_allBest t_allBests q_t_count q_t_best q_t_bests a1 a2 a4 a6 a8 C hk F r hB (1 : Int32) t_count t_best t_bests hf
  · refine g_iload C 11 5 dX9_put__11 rfl ?_
    refine g_if_eq C 13 31 dX9_put__13 (by decide) hf (fun hf => ?_) (fun hf => ?_)
    · refine g_lload C 31 3 dX9_put__31 rfl ?_
      refine g_aload_n C 33 0 dX9_put__33 rfl rfl ?_
      refine g_get C 34 0 18 dX9_put__34 inX9 rfl rfl (by decide) kw_422 rfl ?_
      refine g_iload_n C 37 1 dX9_put__37 rfl rfl ?_
      refine g_lald C 38 2 dX9_put__38 rfl hf (fun v10 hf => ?_)
      refine g_lcmp C 39 dX9_put__39 ?_
      refine g_if_ge C 40 47 dX9_put__40 (by decide) hf (fun hf => ?_) (fun hf => ?_)
      · refine g_iconst C 47 (0 : Int32) dX9_put__47 (by decide) ?_
        refine g_lv [0, 1, 2, 3, 4] rfl ?_
        exact w_X9_put__48 cA q_t t_knots q_t_weight q_t_beside q_t_edge t_rowed q_t_row t_bags q_t_bag q_t_up q_t_least t_q q_t_factor q_t_pairFactor q_t_forbidden q_t_mayNot q_t_fixed q_t_state t_allCount t_allBest t_allBests q_t_count q_t_best q_t_bests a1 a2 a4 a6 a8 C hk F r hB (0 : Int32) t_count t_best t_bests hf
      · refine g_iconst C 43 (1 : Int32) dX9_put__43 (by decide) ?_
        refine g_goto C 44 48 dX9_put__44 (by decide) ?_
        refine g_lv [0, 1, 2, 3, 4] rfl ?_
        exact w_X9_put__48 cA q_t t_knots q_t_weight q_t_beside q_t_edge t_rowed q_t_row t_bags q_t_bag q_t_up q_t_least t_q q_t_factor q_t_pairFactor q_t_forbidden q_t_mayNot q_t_fixed q_t_state t_allCount t_allBest t_allBests q_t_count q_t_best q_t_bests a1 a2 a4 a6 a8 C hk F r hB (1 : Int32) t_count t_best t_bests hf
    · refine g_lload C 16 3 dX9_put__16 rfl ?_
      refine g_aload_n C 18 0 dX9_put__18 rfl rfl ?_
      refine g_get C 19 0 18 dX9_put__19 inX9 rfl rfl (by decide) kw_422 rfl ?_
      refine g_iload_n C 22 1 dX9_put__22 rfl rfl ?_
      refine g_lald C 23 2 dX9_put__23 rfl hf (fun v11 hf => ?_)
      refine g_lcmp C 24 dX9_put__24 ?_
      refine g_if_le C 25 47 dX9_put__25 (by decide) hf (fun hf => ?_) (fun hf => ?_)
      · refine g_iconst C 47 (0 : Int32) dX9_put__47 (by decide) ?_
        refine g_lv [0, 1, 2, 3, 4] rfl ?_
        exact w_X9_put__48 cA q_t t_knots q_t_weight q_t_beside q_t_edge t_rowed q_t_row t_bags q_t_bag q_t_up q_t_least t_q q_t_factor q_t_pairFactor q_t_forbidden q_t_mayNot q_t_fixed q_t_state t_allCount t_allBest t_allBests q_t_count q_t_best q_t_bests a1 a2 a4 a6 a8 C hk F r hB (0 : Int32) t_count t_best t_bests hf
      · refine g_goto C 28 43 dX9_put__28 (by decide) ?_
        refine g_iconst C 43 (1 : Int32) dX9_put__43 (by decide) ?_
        refine g_goto C 44 48 dX9_put__44 (by decide) ?_
        refine g_lv [0, 1, 2, 3, 4] rfl ?_
        exact w_X9_put__48 cA q_t t_knots q_t_weight q_t_beside q_t_edge t_rowed q_t_row t_bags q_t_bag q_t_up q_t_least t_q q_t_factor q_t_pairFactor q_t_forbidden q_t_mayNot q_t_fixed q_t_state t_allCount t_allBest t_allBests q_t_count q_t_best q_t_bests a1 a2 a4 a6 a8 C hk F r hB (1 : Int32) t_count t_best t_bests hf

def L_X9_ask_119 (a1 : Int32) (t_knots : Int32) (t_bags : Int32) (t_q : Int32) (t_weight : Nat → Int32) (t_beside : Nat → Int32) (t_edge : Nat → Int32) (t_bag : Nat → Int32) (t_up : Nat → Int32) (t_factor : Nat → Int32) (t_pairFactor : Nat → Int32) (t_forbidden : Nat → Int32) (t_mayNot : Nat → Int32) (t_fixed : Nat → Int32) (k_83 : Int32 → Int32 → Int32 → Int32 → Int64 → Int64 → Int64 → (Nat → Int32) → (Nat → Int64) → (Nat → Int64) → (Nat → Int64) → Option (Int64 × Int64 × Int64 × (Nat → Int32) × (Nat → Int64) × (Nat → Int64) × (Nat → Int64))) : Nat → Int32 → Int32 → Int32 → Int32 → Int64 → Int64 → Int64 → Int32 → Int64 → Int64 → Int64 → (Nat → Int32) → (Nat → Int64) → (Nat → Int64) → (Nat → Int64) → Option (Int64 × Int64 × Int64 × (Nat → Int32) × (Nat → Int64) × (Nat → Int64) × (Nat → Int64))
  | 0, _, _, _, _, _, _, _, _, _, _, _, _, _, _, _ => none
  | n + 1, x2, x3, x4, x5, x6, x8, x10, x12, t_allCount, t_allBest, t_allBests, t_state, t_count, t_best, t_bests =>
    if x2 ≤ x12 then
      if (lg_cmp x6 (0 : Int64)) ≤ 0 then
        bnd (x5 + (1 : Int32)) fun x5_26 =>
        k_83 x2 x3 x4 x5_26 t_allCount t_allBest t_allBests t_state t_count t_best t_bests
      else
        cal (f_X9_code x3 t_knots t_state) fun u27 =>
        cal (f_X9_put_ (((1024 : Int32) * x2) + u27) x6 x8 x10 a1 t_count t_best t_bests) fun u28 =>
        bnd (x5 + (1 : Int32)) fun x5_29 =>
        k_83 x2 x3 x4 x5_29 t_allCount t_allBest t_allBests t_state u28.1 u28.2.1 u28.2.2
    else
      ldA t_up 14 x12 fun v30 =>
      if v30 = x2 then
        ldA t_bag 14 x12 fun v31 =>
        ldA t_bag 14 x2 fun v32 =>
        cal (f_X9_code (v31 &&& v32) t_knots t_state) fun u33 =>
        bnd (((1024 : Int32) * x12) + u33) fun x13_34 =>
        ldA t_count 14336 x13_34 fun v35 =>
        bnd (x6 * v35) fun x6_36 =>
        ldA t_best 14336 x13_34 fun v37 =>
        bnd (x8 + v37) fun x8_38 =>
        ldA t_bests 14336 x13_34 fun v39 =>
        bnd (x10 * v39) fun x10_40 =>
        bnd (x12 + (1 : Int32)) fun x12_41 =>
        L_X9_ask_119 a1 t_knots t_bags t_q t_weight t_beside t_edge t_bag t_up t_factor t_pairFactor t_forbidden t_mayNot t_fixed k_83 n x2 x3 x4 x5 x6_36 x8_38 x10_40 x12_41 t_allCount t_allBest t_allBests t_state t_count t_best t_bests
      else
        bnd (x12 + (1 : Int32)) fun x12_42 =>
        L_X9_ask_119 a1 t_knots t_bags t_q t_weight t_beside t_edge t_bag t_up t_factor t_pairFactor t_forbidden t_mayNot t_fixed k_83 n x2 x3 x4 x5 x6 x8 x10 x12_42 t_allCount t_allBest t_allBests t_state t_count t_best t_bests

set_option maxRecDepth 100000 in
set_option maxHeartbeats 1000000 in
theorem w_X9_ask_119 (cA : Nat → ClassId) (q_t : Nat) (t_rowed : Int32) (q_t_row : Nat) (q_t_least : Nat) (q_t_weight : Nat) (q_t_beside : Nat) (q_t_edge : Nat) (q_t_bag : Nat) (q_t_up : Nat) (q_t_factor : Nat) (q_t_pairFactor : Nat) (q_t_forbidden : Nat) (q_t_mayNot : Nat) (q_t_fixed : Nat) (q_t_state : Nat) (q_t_count : Nat) (q_t_best : Nat) (q_t_bests : Nat) (a1 : Int32) (t_knots : Int32) (t_bags : Int32) (t_q : Int32) (t_weight : Nat → Int32) (t_beside : Nat → Int32) (t_edge : Nat → Int32) (t_bag : Nat → Int32) (t_up : Nat → Int32) (t_factor : Nat → Int32) (t_pairFactor : Nat → Int32) (t_forbidden : Nat → Int32) (t_mayNot : Nat → Int32) (t_fixed : Nat → Int32) {X : XT}  (C : Cx X cX9_ask RX9 none cA 3 69 14) {kk nn : Nat} {BB : Option Value → va_W → Prop} (hk : kk ≤ (x_R X).cells ∧ nn ≤ (x_R X).slots) (F : Fx X BB kk nn) (r : Int64 × Int64 × Int64 × (Nat → Int32) × (Nat → Int64) × (Nat → Int64) × (Nat → Int64)) (hB : BB (none) [oB q_t 9 [.int t_knots, .ref q_t_weight, .ref q_t_beside, .ref q_t_edge, .int t_rowed, .ref q_t_row, .int t_bags, .ref q_t_bag, .ref q_t_up, .ref q_t_least, .int t_q, .ref q_t_factor, .ref q_t_pairFactor, .ref q_t_forbidden, .ref q_t_mayNot, .ref q_t_fixed, .ref q_t_state, .ref q_t_count, .ref q_t_best, .ref q_t_bests, .long r.1, .long r.2.1, .long r.2.2.1], aI cA q_t_weight 14 t_weight, aI cA q_t_beside 14 t_beside, aI cA q_t_edge 196 t_edge, aI cA q_t_bag 14 t_bag, aI cA q_t_up 14 t_up, aI cA q_t_factor 4 t_factor, aI cA q_t_pairFactor 16 t_pairFactor, aI cA q_t_forbidden 14 t_forbidden, aZ cA q_t_mayNot 16 t_mayNot, aI cA q_t_fixed 14 t_fixed, aI cA q_t_state 14 r.2.2.2.1, aJ cA q_t_count 14336 r.2.2.2.2.1, aJ cA q_t_best 14336 r.2.2.2.2.2.1, aJ cA q_t_bests 14336 r.2.2.2.2.2.2]) (k_83 : Int32 → Int32 → Int32 → Int32 → Int64 → Int64 → Int64 → (Nat → Int32) → (Nat → Int64) → (Nat → Int64) → (Nat → Int64) → Option (Int64 × Int64 × Int64 × (Nat → Int32) × (Nat → Int64) × (Nat → Int64) × (Nat → Int64))) (h_83 : ∀ (x2 : Int32) (x3 : Int32) (x4 : Int32) (x5 : Int32) (t_allCount : Int64) (t_allBest : Int64) (t_allBests : Int64) (t_state : Nat → Int32) (t_count : Nat → Int64) (t_best : Nat → Int64) (t_bests : Nat → Int64), k_83 x2 x3 x4 x5 t_allCount t_allBest t_allBests t_state t_count t_best t_bests = some r → Go X 14 kk nn 83 [oB q_t 9 [.int t_knots, .ref q_t_weight, .ref q_t_beside, .ref q_t_edge, .int t_rowed, .ref q_t_row, .int t_bags, .ref q_t_bag, .ref q_t_up, .ref q_t_least, .int t_q, .ref q_t_factor, .ref q_t_pairFactor, .ref q_t_forbidden, .ref q_t_mayNot, .ref q_t_fixed, .ref q_t_state, .ref q_t_count, .ref q_t_best, .ref q_t_bests, .long t_allCount, .long t_allBest, .long t_allBests], aI cA q_t_weight 14 t_weight, aI cA q_t_beside 14 t_beside, aI cA q_t_edge 196 t_edge, aI cA q_t_bag 14 t_bag, aI cA q_t_up 14 t_up, aI cA q_t_factor 4 t_factor, aI cA q_t_pairFactor 16 t_pairFactor, aI cA q_t_forbidden 14 t_forbidden, aZ cA q_t_mayNot 16 t_mayNot, aI cA q_t_fixed 14 t_fixed, aI cA q_t_state 14 t_state, aJ cA q_t_count 14336 t_count, aJ cA q_t_best 14336 t_best, aJ cA q_t_bests 14336 t_bests] [(0, .ref q_t), (1, .int a1), (2, .int x2), (3, .int x3), (4, .int x4), (5, .int x5)] []) : ∀ (n : Nat) (x2 : Int32) (x3 : Int32) (x4 : Int32) (x5 : Int32) (x6 : Int64) (x8 : Int64) (x10 : Int64) (x12 : Int32) (t_allCount : Int64) (t_allBest : Int64) (t_allBests : Int64) (t_state : Nat → Int32) (t_count : Nat → Int64) (t_best : Nat → Int64) (t_bests : Nat → Int64), L_X9_ask_119 a1 t_knots t_bags t_q t_weight t_beside t_edge t_bag t_up t_factor t_pairFactor t_forbidden t_mayNot t_fixed k_83 n x2 x3 x4 x5 x6 x8 x10 x12 t_allCount t_allBest t_allBests t_state t_count t_best t_bests = some r → Go X 14 kk nn 119 [oB q_t 9 [.int t_knots, .ref q_t_weight, .ref q_t_beside, .ref q_t_edge, .int t_rowed, .ref q_t_row, .int t_bags, .ref q_t_bag, .ref q_t_up, .ref q_t_least, .int t_q, .ref q_t_factor, .ref q_t_pairFactor, .ref q_t_forbidden, .ref q_t_mayNot, .ref q_t_fixed, .ref q_t_state, .ref q_t_count, .ref q_t_best, .ref q_t_bests, .long t_allCount, .long t_allBest, .long t_allBests], aI cA q_t_weight 14 t_weight, aI cA q_t_beside 14 t_beside, aI cA q_t_edge 196 t_edge, aI cA q_t_bag 14 t_bag, aI cA q_t_up 14 t_up, aI cA q_t_factor 4 t_factor, aI cA q_t_pairFactor 16 t_pairFactor, aI cA q_t_forbidden 14 t_forbidden, aZ cA q_t_mayNot 16 t_mayNot, aI cA q_t_fixed 14 t_fixed, aI cA q_t_state 14 t_state, aJ cA q_t_count 14336 t_count, aJ cA q_t_best 14336 t_best, aJ cA q_t_bests 14336 t_bests] [(0, .ref q_t), (1, .int a1), (2, .int x2), (3, .int x3), (4, .int x4), (5, .int x5), (6, .long x6), (8, .long x8), (10, .long x10), (12, .int x12)] [] := by
  intro n
  induction n with
  | zero => intro x2 x3 x4 x5 x6 x8 x10 x12 t_allCount t_allBest t_allBests t_state t_count t_best t_bests hf; exact no_some hf
  | succ n ih =>
    intro x2 x3 x4 x5 x6 x8 x10 x12 t_allCount t_allBest t_allBests t_state t_count t_best t_bests hf
    rw [L_X9_ask_119] at hf
    refine g_iload C 119 9 dX9_ask_119 rfl ?_
    refine g_iload_n C 121 2 dX9_ask_121 rfl rfl ?_
    refine g_icmp_ge C 122 208 dX9_ask_122 (by decide) hf (fun hf => ?_) (fun hf => ?_)
    · refine g_lload C 208 6 dX9_ask_208 rfl ?_
      refine g_lconst C 210 (0 : Int64) dX9_ask_210 (by decide) ?_
      refine g_lcmp C 211 dX9_ask_211 ?_
      refine g_if_le C 212 237 dX9_ask_212 (by decide) hf (fun hf => ?_) (fun hf => ?_)
      · refine g_iinc C 237 5 (v := x5 + (1 : Int32)) (fun z => [(5, .int z), (0, .ref q_t), (1, .int a1), (2, .int x2), (3, .int x3), (4, .int x4), (6, .long x6), (8, .long x8), (10, .long x10), (12, .int x12)]) dX9_ask_237 rfl rfl (by decide) (fun _ => rfl) hf (fun x5_26 hf => ?_)
        refine g_goto C 240 83 dX9_ask_240 (by decide) ?_
        refine g_lv [1, 2, 3, 4, 5, 0] rfl ?_
        exact h_83 x2 x3 x4 x5_26 t_allCount t_allBest t_allBests t_state t_count t_best t_bests hf
      · refine g_aload_n C 215 0 dX9_ask_215 rfl rfl ?_
        refine g_sipush C 216 (1024 : Int32) dX9_ask_216 (by decide) ?_
        refine g_iload_n C 219 2 dX9_ask_219 rfl rfl ?_
        refine g_imul C 220 dX9_ask_220 ?_
        refine g_aload_n C 221 0 dX9_ask_221 rfl rfl ?_
        refine g_iload_n C 222 3 dX9_ask_222 rfl rfl ?_
        obtain ⟨u27, hu27, hf⟩ := cal_some hf
        refine g_callV1 C 223 [0, 11] 0 (rest := [.int ((1024 : Int32) * x2), .ref q_t]) dX9_ask_223 (c_X9_code (x_l X) cA q_t t_knots q_t_weight q_t_beside q_t_edge t_rowed q_t_row t_bags q_t_bag q_t_up q_t_least t_q q_t_factor q_t_pairFactor q_t_forbidden q_t_mayNot q_t_fixed q_t_count q_t_best q_t_bests t_allCount t_allBest t_allBests q_t_state t_state x3 u27 hu27) kw_435 kw_436 kw_437 kw_343 kw_438 ok_X9_code ⟨Nat.le_of_ble_eq_true rfl, Nat.le_of_ble_eq_true rfl⟩ hk ⟨rfl, rfl⟩ rfl rfl rfl rfl rfl (Nat.le_of_ble_eq_true rfl) rfl (ws' := [oB q_t 9 [.int t_knots, .ref q_t_weight, .ref q_t_beside, .ref q_t_edge, .int t_rowed, .ref q_t_row, .int t_bags, .ref q_t_bag, .ref q_t_up, .ref q_t_least, .int t_q, .ref q_t_factor, .ref q_t_pairFactor, .ref q_t_forbidden, .ref q_t_mayNot, .ref q_t_fixed, .ref q_t_state, .ref q_t_count, .ref q_t_best, .ref q_t_bests, .long t_allCount, .long t_allBest, .long t_allBests], aI cA q_t_weight 14 t_weight, aI cA q_t_beside 14 t_beside, aI cA q_t_edge 196 t_edge, aI cA q_t_bag 14 t_bag, aI cA q_t_up 14 t_up, aI cA q_t_factor 4 t_factor, aI cA q_t_pairFactor 16 t_pairFactor, aI cA q_t_forbidden 14 t_forbidden, aZ cA q_t_mayNot 16 t_mayNot, aI cA q_t_fixed 14 t_fixed, aI cA q_t_state 14 t_state, aJ cA q_t_count 14336 t_count, aJ cA q_t_best 14336 t_best, aJ cA q_t_bests 14336 t_bests]) (st' := [.int u27, .int ((1024 : Int32) * x2), .ref q_t]) (N0 := 15) rfl [some 0, none, none, none, none, none, none, none, none, none, none, some 1, none, none, none] (by decide) rfl rfl ?_
        refine g_iadd C 226 dX9_ask_226 ?_
        refine g_lload C 227 6 dX9_ask_227 rfl ?_
        refine g_lload C 229 7 dX9_ask_229 rfl ?_
        refine g_lload C 231 8 dX9_ask_231 rfl ?_
        refine g_iload_n C 233 1 dX9_ask_233 rfl rfl ?_
        obtain ⟨u28, hu28, hf⟩ := cal_some hf
        refine g_callV1 C 234 [0, 12, 13, 14] 0 (rest := []) dX9_ask_234 (c_X9_put_ (x_l X) cA q_t t_knots q_t_weight q_t_beside q_t_edge t_rowed q_t_row t_bags q_t_bag q_t_up q_t_least t_q q_t_factor q_t_pairFactor q_t_forbidden q_t_mayNot q_t_fixed q_t_state t_allCount t_allBest t_allBests q_t_count t_count q_t_best t_best q_t_bests t_bests (((1024 : Int32) * x2) + u27) x6 x8 x10 a1 u28 hu28) kw_439 kw_440 kw_441 kw_343 kw_442 ok_X9_put_ ⟨Nat.le_of_ble_eq_true rfl, Nat.le_of_ble_eq_true rfl⟩ hk ⟨rfl, rfl⟩ rfl rfl rfl rfl rfl (Nat.le_of_ble_eq_true rfl) rfl (ws' := [oB q_t 9 [.int t_knots, .ref q_t_weight, .ref q_t_beside, .ref q_t_edge, .int t_rowed, .ref q_t_row, .int t_bags, .ref q_t_bag, .ref q_t_up, .ref q_t_least, .int t_q, .ref q_t_factor, .ref q_t_pairFactor, .ref q_t_forbidden, .ref q_t_mayNot, .ref q_t_fixed, .ref q_t_state, .ref q_t_count, .ref q_t_best, .ref q_t_bests, .long t_allCount, .long t_allBest, .long t_allBests], aI cA q_t_weight 14 t_weight, aI cA q_t_beside 14 t_beside, aI cA q_t_edge 196 t_edge, aI cA q_t_bag 14 t_bag, aI cA q_t_up 14 t_up, aI cA q_t_factor 4 t_factor, aI cA q_t_pairFactor 16 t_pairFactor, aI cA q_t_forbidden 14 t_forbidden, aZ cA q_t_mayNot 16 t_mayNot, aI cA q_t_fixed 14 t_fixed, aI cA q_t_state 14 t_state, aJ cA q_t_count 14336 u28.1, aJ cA q_t_best 14336 u28.2.1, aJ cA q_t_bests 14336 u28.2.2]) (st' := []) (N0 := 15) rfl [some 0, none, none, none, none, none, none, none, none, none, none, none, some 1, some 2, some 3] (by decide) rfl rfl ?_
        refine g_iinc C 237 5 (v := x5 + (1 : Int32)) (fun z => [(5, .int z), (0, .ref q_t), (1, .int a1), (2, .int x2), (3, .int x3), (4, .int x4), (6, .long x6), (8, .long x8), (10, .long x10), (12, .int x12)]) dX9_ask_237 rfl rfl (by decide) (fun _ => rfl) hf (fun x5_29 hf => ?_)
        refine g_goto C 240 83 dX9_ask_240 (by decide) ?_
        refine g_lv [1, 2, 3, 4, 5, 0] rfl ?_
        exact h_83 x2 x3 x4 x5_29 t_allCount t_allBest t_allBests t_state u28.1 u28.2.1 u28.2.2 hf
    · refine g_aload_n C 125 0 dX9_ask_125 rfl rfl ?_
      refine g_get C 126 0 8 dX9_ask_126 inX9 rfl rfl (by decide) kw_380 rfl ?_
      refine g_iload C 129 9 dX9_ask_129 rfl ?_
      refine g_iald C 131 5 dX9_ask_131 rfl hf (fun v30 hf => ?_)
      refine g_iload_n C 132 2 dX9_ask_132 rfl rfl ?_
      refine g_icmp_eq C 133 139 dX9_ask_133 (by decide) hf (fun hf => ?_) (fun hf => ?_)
      · refine g_sipush C 139 (1024 : Int32) dX9_ask_139 (by decide) ?_
        refine g_iload C 142 9 dX9_ask_142 rfl ?_
        refine g_imul C 144 dX9_ask_144 ?_
        refine g_aload_n C 145 0 dX9_ask_145 rfl rfl ?_
        refine g_aload_n C 146 0 dX9_ask_146 rfl rfl ?_
        refine g_get C 147 0 7 dX9_ask_147 inX9 rfl rfl (by decide) kw_371 rfl ?_
        refine g_iload C 150 9 dX9_ask_150 rfl ?_
        refine g_iald C 152 4 dX9_ask_152 rfl hf (fun v31 hf => ?_)
        refine g_aload_n C 153 0 dX9_ask_153 rfl rfl ?_
        refine g_get C 154 0 7 dX9_ask_154 inX9 rfl rfl (by decide) kw_371 rfl ?_
        refine g_iload_n C 157 2 dX9_ask_157 rfl rfl ?_
        refine g_iald C 158 4 dX9_ask_158 rfl hf (fun v32 hf => ?_)
        refine g_iand C 159 dX9_ask_159 ?_
        obtain ⟨u33, hu33, hf⟩ := cal_some hf
        refine g_callV1 C 160 [0, 11] 0 (rest := [.int ((1024 : Int32) * x12)]) dX9_ask_160 (c_X9_code (x_l X) cA q_t t_knots q_t_weight q_t_beside q_t_edge t_rowed q_t_row t_bags q_t_bag q_t_up q_t_least t_q q_t_factor q_t_pairFactor q_t_forbidden q_t_mayNot q_t_fixed q_t_count q_t_best q_t_bests t_allCount t_allBest t_allBests q_t_state t_state (v31 &&& v32) u33 hu33) kw_435 kw_436 kw_437 kw_343 kw_438 ok_X9_code ⟨Nat.le_of_ble_eq_true rfl, Nat.le_of_ble_eq_true rfl⟩ hk ⟨rfl, rfl⟩ rfl rfl rfl rfl rfl (Nat.le_of_ble_eq_true rfl) rfl (ws' := [oB q_t 9 [.int t_knots, .ref q_t_weight, .ref q_t_beside, .ref q_t_edge, .int t_rowed, .ref q_t_row, .int t_bags, .ref q_t_bag, .ref q_t_up, .ref q_t_least, .int t_q, .ref q_t_factor, .ref q_t_pairFactor, .ref q_t_forbidden, .ref q_t_mayNot, .ref q_t_fixed, .ref q_t_state, .ref q_t_count, .ref q_t_best, .ref q_t_bests, .long t_allCount, .long t_allBest, .long t_allBests], aI cA q_t_weight 14 t_weight, aI cA q_t_beside 14 t_beside, aI cA q_t_edge 196 t_edge, aI cA q_t_bag 14 t_bag, aI cA q_t_up 14 t_up, aI cA q_t_factor 4 t_factor, aI cA q_t_pairFactor 16 t_pairFactor, aI cA q_t_forbidden 14 t_forbidden, aZ cA q_t_mayNot 16 t_mayNot, aI cA q_t_fixed 14 t_fixed, aI cA q_t_state 14 t_state, aJ cA q_t_count 14336 t_count, aJ cA q_t_best 14336 t_best, aJ cA q_t_bests 14336 t_bests]) (st' := [.int u33, .int ((1024 : Int32) * x12)]) (N0 := 15) rfl [some 0, none, none, none, none, none, none, none, none, none, none, some 1, none, none, none] (by decide) rfl rfl ?_
        refine g_iadd C 163 dX9_ask_163 ?_
        refine g_istore C 164 (fun z => [(13, .int z), (0, .ref q_t), (1, .int a1), (2, .int x2), (3, .int x3), (4, .int x4), (5, .int x5), (6, .long x6), (8, .long x8), (10, .long x10), (12, .int x12)]) dX9_ask_164 (by decide) (fun _ => rfl) hf (fun x13_34 hf => ?_)
        refine g_lload C 166 7 dX9_ask_166 rfl ?_
        refine g_aload_n C 168 1 dX9_ask_168 rfl rfl ?_
        refine g_get C 169 0 17 dX9_ask_169 inX9 rfl rfl (by decide) kw_421 rfl ?_
        refine g_iload C 172 0 dX9_ask_172 rfl ?_
        refine g_lald C 174 12 dX9_ask_174 rfl hf (fun v35 hf => ?_)
        refine g_lmul C 175 dX9_ask_175 ?_
        refine g_lstore C 176 (fun z => [(6, .long z), (13, .int x13_34), (0, .ref q_t), (1, .int a1), (2, .int x2), (3, .int x3), (4, .int x4), (5, .int x5), (8, .long x8), (10, .long x10), (12, .int x12)]) dX9_ask_176 (by decide) (fun _ => rfl) hf (fun x6_36 hf => ?_)
        refine g_lload C 178 8 dX9_ask_178 rfl ?_
        refine g_aload_n C 180 2 dX9_ask_180 rfl rfl ?_
        refine g_get C 181 0 18 dX9_ask_181 inX9 rfl rfl (by decide) kw_422 rfl ?_
        refine g_iload C 184 1 dX9_ask_184 rfl ?_
        refine g_lald C 186 13 dX9_ask_186 rfl hf (fun v37 hf => ?_)
        refine g_ladd C 187 dX9_ask_187 ?_
        refine g_lstore C 188 (fun z => [(8, .long z), (6, .long x6_36), (13, .int x13_34), (0, .ref q_t), (1, .int a1), (2, .int x2), (3, .int x3), (4, .int x4), (5, .int x5), (10, .long x10), (12, .int x12)]) dX9_ask_188 (by decide) (fun _ => rfl) hf (fun x8_38 hf => ?_)
        refine g_lload C 190 9 dX9_ask_190 rfl ?_
        refine g_aload_n C 192 3 dX9_ask_192 rfl rfl ?_
        refine g_get C 193 0 19 dX9_ask_193 inX9 rfl rfl (by decide) kw_423 rfl ?_
        refine g_iload C 196 2 dX9_ask_196 rfl ?_
        refine g_lald C 198 14 dX9_ask_198 rfl hf (fun v39 hf => ?_)
        refine g_lmul C 199 dX9_ask_199 ?_
        refine g_lstore C 200 (fun z => [(10, .long z), (8, .long x8_38), (6, .long x6_36), (13, .int x13_34), (0, .ref q_t), (1, .int a1), (2, .int x2), (3, .int x3), (4, .int x4), (5, .int x5), (12, .int x12)]) dX9_ask_200 (by decide) (fun _ => rfl) hf (fun x10_40 hf => ?_)
        refine g_iinc C 202 10 (v := x12 + (1 : Int32)) (fun z => [(12, .int z), (10, .long x10_40), (8, .long x8_38), (6, .long x6_36), (13, .int x13_34), (0, .ref q_t), (1, .int a1), (2, .int x2), (3, .int x3), (4, .int x4), (5, .int x5)]) dX9_ask_202 rfl rfl (by decide) (fun _ => rfl) hf (fun x12_41 hf => ?_)
        refine g_goto C 205 119 dX9_ask_205 (by decide) ?_
        refine g_lv [5, 6, 7, 8, 9, 10, 3, 2, 1, 0] rfl ?_
        exact ih x2 x3 x4 x5 x6_36 x8_38 x10_40 x12_41 t_allCount t_allBest t_allBests t_state t_count t_best t_bests hf
      · refine g_goto C 136 202 dX9_ask_136 (by decide) ?_
        refine g_iinc C 202 9 (v := x12 + (1 : Int32)) (fun z => [(12, .int z), (0, .ref q_t), (1, .int a1), (2, .int x2), (3, .int x3), (4, .int x4), (5, .int x5), (6, .long x6), (8, .long x8), (10, .long x10)]) dX9_ask_202 rfl rfl (by decide) (fun _ => rfl) hf (fun x12_42 hf => ?_)
        refine g_goto C 205 119 dX9_ask_205 (by decide) ?_
        refine g_lv [1, 2, 3, 4, 5, 6, 7, 8, 9, 0] rfl ?_
        exact ih x2 x3 x4 x5 x6 x8 x10 x12_42 t_allCount t_allBest t_allBests t_state t_count t_best t_bests hf
def L_X9_ask_83 (a1 : Int32) (t_knots : Int32) (t_bags : Int32) (t_q : Int32) (t_weight : Nat → Int32) (t_beside : Nat → Int32) (t_edge : Nat → Int32) (t_bag : Nat → Int32) (t_up : Nat → Int32) (t_factor : Nat → Int32) (t_pairFactor : Nat → Int32) (t_forbidden : Nat → Int32) (t_mayNot : Nat → Int32) (t_fixed : Nat → Int32) (k_24 : Int32 → Int64 → Int64 → Int64 → (Nat → Int32) → (Nat → Int64) → (Nat → Int64) → (Nat → Int64) → Option (Int64 × Int64 × Int64 × (Nat → Int32) × (Nat → Int64) × (Nat → Int64) × (Nat → Int64))) : Nat → Int32 → Int32 → Int32 → Int32 → Int64 → Int64 → Int64 → (Nat → Int32) → (Nat → Int64) → (Nat → Int64) → (Nat → Int64) → Option (Int64 × Int64 × Int64 × (Nat → Int32) × (Nat → Int64) × (Nat → Int64) × (Nat → Int64))
  | 0, _, _, _, _, _, _, _, _, _, _, _ => none
  | n + 1, x2, x3, x4, x5, t_allCount, t_allBest, t_allBests, t_state, t_count, t_best, t_bests =>
    if x4 ≤ x5 then
      bnd (x2 + (1 : Int32)) fun x2_19 =>
      k_24 x2_19 t_allCount t_allBest t_allBests t_state t_count t_best t_bests
    else
      cal (f_X9_take x2 x5 t_knots t_q t_beside t_bag t_forbidden t_mayNot t_fixed t_state) fun u20 =>
      if u20.1 = 0 then
        bnd (x5 + (1 : Int32)) fun x5_43 =>
        L_X9_ask_83 a1 t_knots t_bags t_q t_weight t_beside t_edge t_bag t_up t_factor t_pairFactor t_forbidden t_mayNot t_fixed k_24 n x2 x3 x4 x5_43 t_allCount t_allBest t_allBests u20.2 t_count t_best t_bests
      else
        bnd (1 : Int64) fun x6_21 =>
        cal (f_X9_own x2 t_knots t_weight t_beside t_edge t_bag t_factor t_pairFactor u20.2) fun u22 =>
        bnd u22 fun x8_23 =>
        bnd (1 : Int64) fun x10_24 =>
        bnd (0 : Int32) fun x12_25 =>
        L_X9_ask_119 a1 t_knots t_bags t_q t_weight t_beside t_edge t_bag t_up t_factor t_pairFactor t_forbidden t_mayNot t_fixed (fun y0 y1 y2 y3 y4 y5 y6 y7 y8 y9 y10 => L_X9_ask_83 a1 t_knots t_bags t_q t_weight t_beside t_edge t_bag t_up t_factor t_pairFactor t_forbidden t_mayNot t_fixed k_24 n y0 y1 y2 y3 y4 y5 y6 y7 y8 y9 y10) NN x2 x3 x4 x5 x6_21 x8_23 x10_24 x12_25 t_allCount t_allBest t_allBests u20.2 t_count t_best t_bests

set_option maxRecDepth 100000 in
set_option maxHeartbeats 1000000 in
theorem w_X9_ask_83 (cA : Nat → ClassId) (q_t : Nat) (t_rowed : Int32) (q_t_row : Nat) (q_t_least : Nat) (q_t_weight : Nat) (q_t_beside : Nat) (q_t_edge : Nat) (q_t_bag : Nat) (q_t_up : Nat) (q_t_factor : Nat) (q_t_pairFactor : Nat) (q_t_forbidden : Nat) (q_t_mayNot : Nat) (q_t_fixed : Nat) (q_t_state : Nat) (q_t_count : Nat) (q_t_best : Nat) (q_t_bests : Nat) (a1 : Int32) (t_knots : Int32) (t_bags : Int32) (t_q : Int32) (t_weight : Nat → Int32) (t_beside : Nat → Int32) (t_edge : Nat → Int32) (t_bag : Nat → Int32) (t_up : Nat → Int32) (t_factor : Nat → Int32) (t_pairFactor : Nat → Int32) (t_forbidden : Nat → Int32) (t_mayNot : Nat → Int32) (t_fixed : Nat → Int32) {X : XT}  (C : Cx X cX9_ask RX9 none cA 3 69 14) {kk nn : Nat} {BB : Option Value → va_W → Prop} (hk : kk ≤ (x_R X).cells ∧ nn ≤ (x_R X).slots) (F : Fx X BB kk nn) (r : Int64 × Int64 × Int64 × (Nat → Int32) × (Nat → Int64) × (Nat → Int64) × (Nat → Int64)) (hB : BB (none) [oB q_t 9 [.int t_knots, .ref q_t_weight, .ref q_t_beside, .ref q_t_edge, .int t_rowed, .ref q_t_row, .int t_bags, .ref q_t_bag, .ref q_t_up, .ref q_t_least, .int t_q, .ref q_t_factor, .ref q_t_pairFactor, .ref q_t_forbidden, .ref q_t_mayNot, .ref q_t_fixed, .ref q_t_state, .ref q_t_count, .ref q_t_best, .ref q_t_bests, .long r.1, .long r.2.1, .long r.2.2.1], aI cA q_t_weight 14 t_weight, aI cA q_t_beside 14 t_beside, aI cA q_t_edge 196 t_edge, aI cA q_t_bag 14 t_bag, aI cA q_t_up 14 t_up, aI cA q_t_factor 4 t_factor, aI cA q_t_pairFactor 16 t_pairFactor, aI cA q_t_forbidden 14 t_forbidden, aZ cA q_t_mayNot 16 t_mayNot, aI cA q_t_fixed 14 t_fixed, aI cA q_t_state 14 r.2.2.2.1, aJ cA q_t_count 14336 r.2.2.2.2.1, aJ cA q_t_best 14336 r.2.2.2.2.2.1, aJ cA q_t_bests 14336 r.2.2.2.2.2.2]) (k_24 : Int32 → Int64 → Int64 → Int64 → (Nat → Int32) → (Nat → Int64) → (Nat → Int64) → (Nat → Int64) → Option (Int64 × Int64 × Int64 × (Nat → Int32) × (Nat → Int64) × (Nat → Int64) × (Nat → Int64))) (h_24 : ∀ (x2 : Int32) (t_allCount : Int64) (t_allBest : Int64) (t_allBests : Int64) (t_state : Nat → Int32) (t_count : Nat → Int64) (t_best : Nat → Int64) (t_bests : Nat → Int64), k_24 x2 t_allCount t_allBest t_allBests t_state t_count t_best t_bests = some r → Go X 14 kk nn 24 [oB q_t 9 [.int t_knots, .ref q_t_weight, .ref q_t_beside, .ref q_t_edge, .int t_rowed, .ref q_t_row, .int t_bags, .ref q_t_bag, .ref q_t_up, .ref q_t_least, .int t_q, .ref q_t_factor, .ref q_t_pairFactor, .ref q_t_forbidden, .ref q_t_mayNot, .ref q_t_fixed, .ref q_t_state, .ref q_t_count, .ref q_t_best, .ref q_t_bests, .long t_allCount, .long t_allBest, .long t_allBests], aI cA q_t_weight 14 t_weight, aI cA q_t_beside 14 t_beside, aI cA q_t_edge 196 t_edge, aI cA q_t_bag 14 t_bag, aI cA q_t_up 14 t_up, aI cA q_t_factor 4 t_factor, aI cA q_t_pairFactor 16 t_pairFactor, aI cA q_t_forbidden 14 t_forbidden, aZ cA q_t_mayNot 16 t_mayNot, aI cA q_t_fixed 14 t_fixed, aI cA q_t_state 14 t_state, aJ cA q_t_count 14336 t_count, aJ cA q_t_best 14336 t_best, aJ cA q_t_bests 14336 t_bests] [(0, .ref q_t), (1, .int a1), (2, .int x2)] []) : ∀ (n : Nat) (x2 : Int32) (x3 : Int32) (x4 : Int32) (x5 : Int32) (t_allCount : Int64) (t_allBest : Int64) (t_allBests : Int64) (t_state : Nat → Int32) (t_count : Nat → Int64) (t_best : Nat → Int64) (t_bests : Nat → Int64), L_X9_ask_83 a1 t_knots t_bags t_q t_weight t_beside t_edge t_bag t_up t_factor t_pairFactor t_forbidden t_mayNot t_fixed k_24 n x2 x3 x4 x5 t_allCount t_allBest t_allBests t_state t_count t_best t_bests = some r → Go X 14 kk nn 83 [oB q_t 9 [.int t_knots, .ref q_t_weight, .ref q_t_beside, .ref q_t_edge, .int t_rowed, .ref q_t_row, .int t_bags, .ref q_t_bag, .ref q_t_up, .ref q_t_least, .int t_q, .ref q_t_factor, .ref q_t_pairFactor, .ref q_t_forbidden, .ref q_t_mayNot, .ref q_t_fixed, .ref q_t_state, .ref q_t_count, .ref q_t_best, .ref q_t_bests, .long t_allCount, .long t_allBest, .long t_allBests], aI cA q_t_weight 14 t_weight, aI cA q_t_beside 14 t_beside, aI cA q_t_edge 196 t_edge, aI cA q_t_bag 14 t_bag, aI cA q_t_up 14 t_up, aI cA q_t_factor 4 t_factor, aI cA q_t_pairFactor 16 t_pairFactor, aI cA q_t_forbidden 14 t_forbidden, aZ cA q_t_mayNot 16 t_mayNot, aI cA q_t_fixed 14 t_fixed, aI cA q_t_state 14 t_state, aJ cA q_t_count 14336 t_count, aJ cA q_t_best 14336 t_best, aJ cA q_t_bests 14336 t_bests] [(0, .ref q_t), (1, .int a1), (2, .int x2), (3, .int x3), (4, .int x4), (5, .int x5)] [] := by
  intro n
  induction n with
  | zero => intro x2 x3 x4 x5 t_allCount t_allBest t_allBests t_state t_count t_best t_bests hf; exact no_some hf
  | succ n ih =>
    intro x2 x3 x4 x5 t_allCount t_allBest t_allBests t_state t_count t_best t_bests hf
    rw [L_X9_ask_83] at hf
    refine g_iload C 83 5 dX9_ask_83 rfl ?_
    refine g_iload C 85 4 dX9_ask_85 rfl ?_
    refine g_icmp_ge C 87 243 dX9_ask_87 (by decide) hf (fun hf => ?_) (fun hf => ?_)
    · refine g_iinc C 243 2 (v := x2 + (1 : Int32)) (fun z => [(2, .int z), (0, .ref q_t), (1, .int a1), (3, .int x3), (4, .int x4), (5, .int x5)]) dX9_ask_243 rfl rfl (by decide) (fun _ => rfl) hf (fun x2_19 hf => ?_)
      refine g_goto C 246 24 dX9_ask_246 (by decide) ?_
      refine g_lv [1, 2, 0] rfl ?_
      exact h_24 x2_19 t_allCount t_allBest t_allBests t_state t_count t_best t_bests hf
    · refine g_aload_n C 90 0 dX9_ask_90 rfl rfl ?_
      refine g_iload_n C 91 2 dX9_ask_91 rfl rfl ?_
      refine g_iload C 92 5 dX9_ask_92 rfl ?_
      obtain ⟨u20, hu20, hf⟩ := cal_some hf
      refine g_callV1 C 94 [0, 2, 4, 8, 9, 10, 11] 0 (rest := []) dX9_ask_94 (c_X9_take (x_l X) cA q_t t_knots q_t_weight q_t_edge t_rowed q_t_row t_bags q_t_up q_t_least t_q q_t_factor q_t_pairFactor q_t_count q_t_best q_t_bests t_allCount t_allBest t_allBests q_t_beside t_beside q_t_bag t_bag q_t_forbidden t_forbidden q_t_mayNot t_mayNot q_t_fixed t_fixed q_t_state t_state x2 x5 u20 hu20) kw_427 kw_428 kw_429 kw_343 kw_430 ok_X9_take ⟨Nat.le_of_ble_eq_true rfl, Nat.le_of_ble_eq_true rfl⟩ hk ⟨rfl, rfl⟩ rfl rfl rfl rfl rfl (Nat.le_of_ble_eq_true rfl) rfl (ws' := [oB q_t 9 [.int t_knots, .ref q_t_weight, .ref q_t_beside, .ref q_t_edge, .int t_rowed, .ref q_t_row, .int t_bags, .ref q_t_bag, .ref q_t_up, .ref q_t_least, .int t_q, .ref q_t_factor, .ref q_t_pairFactor, .ref q_t_forbidden, .ref q_t_mayNot, .ref q_t_fixed, .ref q_t_state, .ref q_t_count, .ref q_t_best, .ref q_t_bests, .long t_allCount, .long t_allBest, .long t_allBests], aI cA q_t_weight 14 t_weight, aI cA q_t_beside 14 t_beside, aI cA q_t_edge 196 t_edge, aI cA q_t_bag 14 t_bag, aI cA q_t_up 14 t_up, aI cA q_t_factor 4 t_factor, aI cA q_t_pairFactor 16 t_pairFactor, aI cA q_t_forbidden 14 t_forbidden, aZ cA q_t_mayNot 16 t_mayNot, aI cA q_t_fixed 14 t_fixed, aI cA q_t_state 14 u20.2, aJ cA q_t_count 14336 t_count, aJ cA q_t_best 14336 t_best, aJ cA q_t_bests 14336 t_bests]) (st' := [.int u20.1]) (N0 := 15) rfl [some 0, none, some 1, none, some 2, none, none, none, some 3, some 4, some 5, some 6, none, none, none] (by decide) rfl rfl ?_
      refine g_if_ne C 97 103 dX9_ask_97 (by decide) hf (fun hf => ?_) (fun hf => ?_)
      · refine g_lconst C 103 (1 : Int64) dX9_ask_103 (by decide) ?_
        refine g_lstore C 104 (fun z => [(6, .long z), (0, .ref q_t), (1, .int a1), (2, .int x2), (3, .int x3), (4, .int x4), (5, .int x5)]) dX9_ask_104 (by decide) (fun _ => rfl) hf (fun x6_21 hf => ?_)
        refine g_aload_n C 106 1 dX9_ask_106 rfl rfl ?_
        refine g_iload_n C 107 3 dX9_ask_107 rfl rfl ?_
        obtain ⟨u22, hu22, hf⟩ := cal_some hf
        refine g_callV1 C 108 [0, 1, 2, 3, 4, 6, 7, 11] 0 (rest := []) dX9_ask_108 (c_X9_own (x_l X) cA q_t t_knots t_rowed q_t_row t_bags q_t_up q_t_least t_q q_t_forbidden q_t_mayNot q_t_fixed q_t_count q_t_best q_t_bests t_allCount t_allBest t_allBests q_t_weight t_weight q_t_beside t_beside q_t_edge t_edge q_t_bag t_bag q_t_factor t_factor q_t_pairFactor t_pairFactor q_t_state u20.2 x2 u22 hu22) kw_431 kw_432 kw_433 kw_343 kw_434 ok_X9_own ⟨Nat.le_of_ble_eq_true rfl, Nat.le_of_ble_eq_true rfl⟩ hk ⟨rfl, rfl⟩ rfl rfl rfl rfl rfl (Nat.le_of_ble_eq_true rfl) rfl (ws' := [oB q_t 9 [.int t_knots, .ref q_t_weight, .ref q_t_beside, .ref q_t_edge, .int t_rowed, .ref q_t_row, .int t_bags, .ref q_t_bag, .ref q_t_up, .ref q_t_least, .int t_q, .ref q_t_factor, .ref q_t_pairFactor, .ref q_t_forbidden, .ref q_t_mayNot, .ref q_t_fixed, .ref q_t_state, .ref q_t_count, .ref q_t_best, .ref q_t_bests, .long t_allCount, .long t_allBest, .long t_allBests], aI cA q_t_weight 14 t_weight, aI cA q_t_beside 14 t_beside, aI cA q_t_edge 196 t_edge, aI cA q_t_bag 14 t_bag, aI cA q_t_up 14 t_up, aI cA q_t_factor 4 t_factor, aI cA q_t_pairFactor 16 t_pairFactor, aI cA q_t_forbidden 14 t_forbidden, aZ cA q_t_mayNot 16 t_mayNot, aI cA q_t_fixed 14 t_fixed, aI cA q_t_state 14 u20.2, aJ cA q_t_count 14336 t_count, aJ cA q_t_best 14336 t_best, aJ cA q_t_bests 14336 t_bests]) (st' := [.long u22]) (N0 := 15) rfl [some 0, some 1, some 2, some 3, some 4, none, some 5, some 6, none, none, none, some 7, none, none, none] (by decide) rfl rfl ?_
        refine g_lstore C 111 (fun z => [(8, .long z), (6, .long x6_21), (0, .ref q_t), (1, .int a1), (2, .int x2), (3, .int x3), (4, .int x4), (5, .int x5)]) dX9_ask_111 (by decide) (fun _ => rfl) hf (fun x8_23 hf => ?_)
        refine g_lconst C 113 (1 : Int64) dX9_ask_113 (by decide) ?_
        refine g_lstore C 114 (fun z => [(10, .long z), (8, .long x8_23), (6, .long x6_21), (0, .ref q_t), (1, .int a1), (2, .int x2), (3, .int x3), (4, .int x4), (5, .int x5)]) dX9_ask_114 (by decide) (fun _ => rfl) hf (fun x10_24 hf => ?_)
        refine g_iconst C 116 (0 : Int32) dX9_ask_116 (by decide) ?_
        refine g_istore C 117 (fun z => [(12, .int z), (10, .long x10_24), (8, .long x8_23), (6, .long x6_21), (0, .ref q_t), (1, .int a1), (2, .int x2), (3, .int x3), (4, .int x4), (5, .int x5)]) dX9_ask_117 (by decide) (fun _ => rfl) hf (fun x12_25 hf => ?_)
        refine g_lv [4, 5, 6, 7, 8, 9, 3, 2, 1, 0] rfl ?_
        exact w_X9_ask_119 cA q_t t_rowed q_t_row q_t_least q_t_weight q_t_beside q_t_edge q_t_bag q_t_up q_t_factor q_t_pairFactor q_t_forbidden q_t_mayNot q_t_fixed q_t_state q_t_count q_t_best q_t_bests a1 t_knots t_bags t_q t_weight t_beside t_edge t_bag t_up t_factor t_pairFactor t_forbidden t_mayNot t_fixed C hk F r hB (fun y0 y1 y2 y3 y4 y5 y6 y7 y8 y9 y10 => L_X9_ask_83 a1 t_knots t_bags t_q t_weight t_beside t_edge t_bag t_up t_factor t_pairFactor t_forbidden t_mayNot t_fixed k_24 n y0 y1 y2 y3 y4 y5 y6 y7 y8 y9 y10) (fun y0 y1 y2 y3 y4 y5 y6 y7 y8 y9 y10 hf => ih y0 y1 y2 y3 y4 y5 y6 y7 y8 y9 y10 hf) NN x2 x3 x4 x5 x6_21 x8_23 x10_24 x12_25 t_allCount t_allBest t_allBests u20.2 t_count t_best t_bests hf
      · refine g_goto C 100 237 dX9_ask_100 (by decide) ?_
        refine g_iinc C 237 5 (v := x5 + (1 : Int32)) (fun z => [(5, .int z), (0, .ref q_t), (1, .int a1), (2, .int x2), (3, .int x3), (4, .int x4)]) dX9_ask_237 rfl rfl (by decide) (fun _ => rfl) hf (fun x5_43 hf => ?_)
        refine g_goto C 240 83 dX9_ask_240 (by decide) ?_
        refine g_lv [1, 2, 3, 4, 5, 0] rfl ?_
        exact ih x2 x3 x4 x5_43 t_allCount t_allBest t_allBests u20.2 t_count t_best t_bests hf
def J_X9_ask_63 (a1 : Int32) (t_knots : Int32) (t_bags : Int32) (t_q : Int32) (t_weight : Nat → Int32) (t_beside : Nat → Int32) (t_edge : Nat → Int32) (t_bag : Nat → Int32) (t_up : Nat → Int32) (t_factor : Nat → Int32) (t_pairFactor : Nat → Int32) (t_forbidden : Nat → Int32) (t_mayNot : Nat → Int32) (t_fixed : Nat → Int32) (k_24 : Int32 → Int64 → Int64 → Int64 → (Nat → Int32) → (Nat → Int64) → (Nat → Int64) → (Nat → Int64) → Option (Int64 × Int64 × Int64 × (Nat → Int32) × (Nat → Int64) × (Nat → Int64) × (Nat → Int64))) (x2 : Int32) (s0 : Int32) (t_allCount : Int64) (t_allBest : Int64) (t_allBests : Int64) (t_state : Nat → Int32) (t_count : Nat → Int64) (t_best : Nat → Int64) (t_bests : Nat → Int64) : Option (Int64 × Int64 × Int64 × (Nat → Int32) × (Nat → Int64) × (Nat → Int64) × (Nat → Int64)) :=
  bnd s0 fun x3_14 =>
  ldA t_bag 14 x2 fun v15 =>
  cal (f_X9_bits v15) fun u16 =>
  bnd ((1 : Int32) <<< (((2 : Int32) * u16) &&& 31)) fun x4_17 =>
  bnd (0 : Int32) fun x5_18 =>
  L_X9_ask_83 a1 t_knots t_bags t_q t_weight t_beside t_edge t_bag t_up t_factor t_pairFactor t_forbidden t_mayNot t_fixed k_24 NN x2 x3_14 x4_17 x5_18 t_allCount t_allBest t_allBests t_state t_count t_best t_bests

set_option maxRecDepth 100000 in
set_option maxHeartbeats 1000000 in
theorem w_X9_ask_63 (cA : Nat → ClassId) (q_t : Nat) (t_rowed : Int32) (q_t_row : Nat) (q_t_least : Nat) (q_t_weight : Nat) (q_t_beside : Nat) (q_t_edge : Nat) (q_t_bag : Nat) (q_t_up : Nat) (q_t_factor : Nat) (q_t_pairFactor : Nat) (q_t_forbidden : Nat) (q_t_mayNot : Nat) (q_t_fixed : Nat) (q_t_state : Nat) (q_t_count : Nat) (q_t_best : Nat) (q_t_bests : Nat) (a1 : Int32) (t_knots : Int32) (t_bags : Int32) (t_q : Int32) (t_weight : Nat → Int32) (t_beside : Nat → Int32) (t_edge : Nat → Int32) (t_bag : Nat → Int32) (t_up : Nat → Int32) (t_factor : Nat → Int32) (t_pairFactor : Nat → Int32) (t_forbidden : Nat → Int32) (t_mayNot : Nat → Int32) (t_fixed : Nat → Int32) {X : XT}  (C : Cx X cX9_ask RX9 none cA 3 69 14) {kk nn : Nat} {BB : Option Value → va_W → Prop} (hk : kk ≤ (x_R X).cells ∧ nn ≤ (x_R X).slots) (F : Fx X BB kk nn) (r : Int64 × Int64 × Int64 × (Nat → Int32) × (Nat → Int64) × (Nat → Int64) × (Nat → Int64)) (hB : BB (none) [oB q_t 9 [.int t_knots, .ref q_t_weight, .ref q_t_beside, .ref q_t_edge, .int t_rowed, .ref q_t_row, .int t_bags, .ref q_t_bag, .ref q_t_up, .ref q_t_least, .int t_q, .ref q_t_factor, .ref q_t_pairFactor, .ref q_t_forbidden, .ref q_t_mayNot, .ref q_t_fixed, .ref q_t_state, .ref q_t_count, .ref q_t_best, .ref q_t_bests, .long r.1, .long r.2.1, .long r.2.2.1], aI cA q_t_weight 14 t_weight, aI cA q_t_beside 14 t_beside, aI cA q_t_edge 196 t_edge, aI cA q_t_bag 14 t_bag, aI cA q_t_up 14 t_up, aI cA q_t_factor 4 t_factor, aI cA q_t_pairFactor 16 t_pairFactor, aI cA q_t_forbidden 14 t_forbidden, aZ cA q_t_mayNot 16 t_mayNot, aI cA q_t_fixed 14 t_fixed, aI cA q_t_state 14 r.2.2.2.1, aJ cA q_t_count 14336 r.2.2.2.2.1, aJ cA q_t_best 14336 r.2.2.2.2.2.1, aJ cA q_t_bests 14336 r.2.2.2.2.2.2]) (k_24 : Int32 → Int64 → Int64 → Int64 → (Nat → Int32) → (Nat → Int64) → (Nat → Int64) → (Nat → Int64) → Option (Int64 × Int64 × Int64 × (Nat → Int32) × (Nat → Int64) × (Nat → Int64) × (Nat → Int64))) (h_24 : ∀ (x2 : Int32) (t_allCount : Int64) (t_allBest : Int64) (t_allBests : Int64) (t_state : Nat → Int32) (t_count : Nat → Int64) (t_best : Nat → Int64) (t_bests : Nat → Int64), k_24 x2 t_allCount t_allBest t_allBests t_state t_count t_best t_bests = some r → Go X 14 kk nn 24 [oB q_t 9 [.int t_knots, .ref q_t_weight, .ref q_t_beside, .ref q_t_edge, .int t_rowed, .ref q_t_row, .int t_bags, .ref q_t_bag, .ref q_t_up, .ref q_t_least, .int t_q, .ref q_t_factor, .ref q_t_pairFactor, .ref q_t_forbidden, .ref q_t_mayNot, .ref q_t_fixed, .ref q_t_state, .ref q_t_count, .ref q_t_best, .ref q_t_bests, .long t_allCount, .long t_allBest, .long t_allBests], aI cA q_t_weight 14 t_weight, aI cA q_t_beside 14 t_beside, aI cA q_t_edge 196 t_edge, aI cA q_t_bag 14 t_bag, aI cA q_t_up 14 t_up, aI cA q_t_factor 4 t_factor, aI cA q_t_pairFactor 16 t_pairFactor, aI cA q_t_forbidden 14 t_forbidden, aZ cA q_t_mayNot 16 t_mayNot, aI cA q_t_fixed 14 t_fixed, aI cA q_t_state 14 t_state, aJ cA q_t_count 14336 t_count, aJ cA q_t_best 14336 t_best, aJ cA q_t_bests 14336 t_bests] [(0, .ref q_t), (1, .int a1), (2, .int x2)] []) : ∀ (x2 : Int32) (s0 : Int32) (t_allCount : Int64) (t_allBest : Int64) (t_allBests : Int64) (t_state : Nat → Int32) (t_count : Nat → Int64) (t_best : Nat → Int64) (t_bests : Nat → Int64), J_X9_ask_63 a1 t_knots t_bags t_q t_weight t_beside t_edge t_bag t_up t_factor t_pairFactor t_forbidden t_mayNot t_fixed k_24 x2 s0 t_allCount t_allBest t_allBests t_state t_count t_best t_bests = some r → Go X 14 kk nn 63 [oB q_t 9 [.int t_knots, .ref q_t_weight, .ref q_t_beside, .ref q_t_edge, .int t_rowed, .ref q_t_row, .int t_bags, .ref q_t_bag, .ref q_t_up, .ref q_t_least, .int t_q, .ref q_t_factor, .ref q_t_pairFactor, .ref q_t_forbidden, .ref q_t_mayNot, .ref q_t_fixed, .ref q_t_state, .ref q_t_count, .ref q_t_best, .ref q_t_bests, .long t_allCount, .long t_allBest, .long t_allBests], aI cA q_t_weight 14 t_weight, aI cA q_t_beside 14 t_beside, aI cA q_t_edge 196 t_edge, aI cA q_t_bag 14 t_bag, aI cA q_t_up 14 t_up, aI cA q_t_factor 4 t_factor, aI cA q_t_pairFactor 16 t_pairFactor, aI cA q_t_forbidden 14 t_forbidden, aZ cA q_t_mayNot 16 t_mayNot, aI cA q_t_fixed 14 t_fixed, aI cA q_t_state 14 t_state, aJ cA q_t_count 14336 t_count, aJ cA q_t_best 14336 t_best, aJ cA q_t_bests 14336 t_bests] [(0, .ref q_t), (1, .int a1), (2, .int x2)] [.int s0] := by
  intro x2 s0 t_allCount t_allBest t_allBests t_state t_count t_best t_bests hf
  unfold J_X9_ask_63 at hf
  refine g_istore_n C 63 (fun z => [(3, .int z), (0, .ref q_t), (1, .int a1), (2, .int x2)]) dX9_ask_63 rfl (by decide) (fun _ => rfl) hf (fun x3_14 hf => ?_)
  refine g_iconst C 64 (1 : Int32) dX9_ask_64 (by decide) ?_
  refine g_iconst C 65 (2 : Int32) dX9_ask_65 (by decide) ?_
  refine g_aload_n C 66 1 dX9_ask_66 rfl rfl ?_
  refine g_aload_n C 67 1 dX9_ask_67 rfl rfl ?_
  refine g_get C 68 0 7 dX9_ask_68 inX9 rfl rfl (by decide) kw_371 rfl ?_
  refine g_iload_n C 71 3 dX9_ask_71 rfl rfl ?_
  refine g_iald C 72 4 dX9_ask_72 rfl hf (fun v15 hf => ?_)
  obtain ⟨u16, hu16, hf⟩ := cal_some hf
  refine g_callV1 C 73 [] 0 (rest := [.int (2 : Int32), .int (1 : Int32)]) dX9_ask_73 (c_X9_bits (x_l X) cA q_t v15 u16 hu16) kw_367 kw_368 kw_369 kw_343 kw_370 ok_X9_bits ⟨Nat.le_of_ble_eq_true rfl, Nat.le_of_ble_eq_true rfl⟩ hk ⟨rfl, rfl⟩ rfl rfl rfl rfl rfl (Nat.le_of_ble_eq_true rfl) rfl (ws' := [oB q_t 9 [.int t_knots, .ref q_t_weight, .ref q_t_beside, .ref q_t_edge, .int t_rowed, .ref q_t_row, .int t_bags, .ref q_t_bag, .ref q_t_up, .ref q_t_least, .int t_q, .ref q_t_factor, .ref q_t_pairFactor, .ref q_t_forbidden, .ref q_t_mayNot, .ref q_t_fixed, .ref q_t_state, .ref q_t_count, .ref q_t_best, .ref q_t_bests, .long t_allCount, .long t_allBest, .long t_allBests], aI cA q_t_weight 14 t_weight, aI cA q_t_beside 14 t_beside, aI cA q_t_edge 196 t_edge, aI cA q_t_bag 14 t_bag, aI cA q_t_up 14 t_up, aI cA q_t_factor 4 t_factor, aI cA q_t_pairFactor 16 t_pairFactor, aI cA q_t_forbidden 14 t_forbidden, aZ cA q_t_mayNot 16 t_mayNot, aI cA q_t_fixed 14 t_fixed, aI cA q_t_state 14 t_state, aJ cA q_t_count 14336 t_count, aJ cA q_t_best 14336 t_best, aJ cA q_t_bests 14336 t_bests]) (st' := [.int u16, .int (2 : Int32), .int (1 : Int32)]) (N0 := 15) rfl [none, none, none, none, none, none, none, none, none, none, none, none, none, none, none] (by decide) rfl rfl ?_
  refine g_imul C 76 dX9_ask_76 ?_
  refine g_ishl C 77 dX9_ask_77 ?_
  refine g_istore C 78 (fun z => [(4, .int z), (3, .int x3_14), (0, .ref q_t), (1, .int a1), (2, .int x2)]) dX9_ask_78 (by decide) (fun _ => rfl) hf (fun x4_17 hf => ?_)
  refine g_iconst C 80 (0 : Int32) dX9_ask_80 (by decide) ?_
  refine g_istore C 81 (fun z => [(5, .int z), (4, .int x4_17), (3, .int x3_14), (0, .ref q_t), (1, .int a1), (2, .int x2)]) dX9_ask_81 (by decide) (fun _ => rfl) hf (fun x5_18 hf => ?_)
  refine g_lv [3, 4, 5, 2, 1, 0] rfl ?_
  exact w_X9_ask_83 cA q_t t_rowed q_t_row q_t_least q_t_weight q_t_beside q_t_edge q_t_bag q_t_up q_t_factor q_t_pairFactor q_t_forbidden q_t_mayNot q_t_fixed q_t_state q_t_count q_t_best q_t_bests a1 t_knots t_bags t_q t_weight t_beside t_edge t_bag t_up t_factor t_pairFactor t_forbidden t_mayNot t_fixed C hk F r hB k_24 h_24 NN x2 x3_14 x4_17 x5_18 t_allCount t_allBest t_allBests t_state t_count t_best t_bests hf
def L_X9_ask_24 (a1 : Int32) (t_knots : Int32) (t_bags : Int32) (t_q : Int32) (t_weight : Nat → Int32) (t_beside : Nat → Int32) (t_edge : Nat → Int32) (t_bag : Nat → Int32) (t_up : Nat → Int32) (t_factor : Nat → Int32) (t_pairFactor : Nat → Int32) (t_forbidden : Nat → Int32) (t_mayNot : Nat → Int32) (t_fixed : Nat → Int32)  : Nat → Int32 → Int64 → Int64 → Int64 → (Nat → Int32) → (Nat → Int64) → (Nat → Int64) → (Nat → Int64) → Option (Int64 × Int64 × Int64 × (Nat → Int32) × (Nat → Int64) × (Nat → Int64) × (Nat → Int64))
  | 0, _, _, _, _, _, _, _, _ => none
  | n + 1, x2, t_allCount, t_allBest, t_allBests, t_state, t_count, t_best, t_bests =>
    if t_bags ≤ x2 then
      bnd ((1024 : Int32) * (t_bags - (1 : Int32))) fun x2_3 =>
      ldA t_count 14336 x2_3 fun v4 =>
      bnd v4 fun t_allCount_5 =>
      ldA t_best 14336 x2_3 fun v6 =>
      bnd v6 fun t_allBest_7 =>
      ldA t_bests 14336 x2_3 fun v8 =>
      bnd v8 fun t_allBests_9 =>
      some (t_allCount_5, t_allBest_7, t_allBests_9, t_state, t_count, t_best, t_bests)
    else
      ldA t_up 14 x2 fun v10 =>
      if 0 ≤ v10 then
        ldA t_bag 14 x2 fun v11 =>
        ldA t_up 14 x2 fun v12 =>
        ldA t_bag 14 v12 fun v13 =>
        J_X9_ask_63 a1 t_knots t_bags t_q t_weight t_beside t_edge t_bag t_up t_factor t_pairFactor t_forbidden t_mayNot t_fixed (fun y0 y1 y2 y3 y4 y5 y6 y7 => L_X9_ask_24 a1 t_knots t_bags t_q t_weight t_beside t_edge t_bag t_up t_factor t_pairFactor t_forbidden t_mayNot t_fixed n y0 y1 y2 y3 y4 y5 y6 y7) x2 (v11 &&& v13) t_allCount t_allBest t_allBests t_state t_count t_best t_bests
      else
        J_X9_ask_63 a1 t_knots t_bags t_q t_weight t_beside t_edge t_bag t_up t_factor t_pairFactor t_forbidden t_mayNot t_fixed (fun y0 y1 y2 y3 y4 y5 y6 y7 => L_X9_ask_24 a1 t_knots t_bags t_q t_weight t_beside t_edge t_bag t_up t_factor t_pairFactor t_forbidden t_mayNot t_fixed n y0 y1 y2 y3 y4 y5 y6 y7) x2 (0 : Int32) t_allCount t_allBest t_allBests t_state t_count t_best t_bests

set_option maxRecDepth 100000 in
set_option maxHeartbeats 1000000 in
theorem w_X9_ask_24 (cA : Nat → ClassId) (q_t : Nat) (t_rowed : Int32) (q_t_row : Nat) (q_t_least : Nat) (q_t_weight : Nat) (q_t_beside : Nat) (q_t_edge : Nat) (q_t_bag : Nat) (q_t_up : Nat) (q_t_factor : Nat) (q_t_pairFactor : Nat) (q_t_forbidden : Nat) (q_t_mayNot : Nat) (q_t_fixed : Nat) (q_t_state : Nat) (q_t_count : Nat) (q_t_best : Nat) (q_t_bests : Nat) (a1 : Int32) (t_knots : Int32) (t_bags : Int32) (t_q : Int32) (t_weight : Nat → Int32) (t_beside : Nat → Int32) (t_edge : Nat → Int32) (t_bag : Nat → Int32) (t_up : Nat → Int32) (t_factor : Nat → Int32) (t_pairFactor : Nat → Int32) (t_forbidden : Nat → Int32) (t_mayNot : Nat → Int32) (t_fixed : Nat → Int32) {X : XT}  (C : Cx X cX9_ask RX9 none cA 3 69 14) {kk nn : Nat} {BB : Option Value → va_W → Prop} (hk : kk ≤ (x_R X).cells ∧ nn ≤ (x_R X).slots) (F : Fx X BB kk nn) (r : Int64 × Int64 × Int64 × (Nat → Int32) × (Nat → Int64) × (Nat → Int64) × (Nat → Int64)) (hB : BB (none) [oB q_t 9 [.int t_knots, .ref q_t_weight, .ref q_t_beside, .ref q_t_edge, .int t_rowed, .ref q_t_row, .int t_bags, .ref q_t_bag, .ref q_t_up, .ref q_t_least, .int t_q, .ref q_t_factor, .ref q_t_pairFactor, .ref q_t_forbidden, .ref q_t_mayNot, .ref q_t_fixed, .ref q_t_state, .ref q_t_count, .ref q_t_best, .ref q_t_bests, .long r.1, .long r.2.1, .long r.2.2.1], aI cA q_t_weight 14 t_weight, aI cA q_t_beside 14 t_beside, aI cA q_t_edge 196 t_edge, aI cA q_t_bag 14 t_bag, aI cA q_t_up 14 t_up, aI cA q_t_factor 4 t_factor, aI cA q_t_pairFactor 16 t_pairFactor, aI cA q_t_forbidden 14 t_forbidden, aZ cA q_t_mayNot 16 t_mayNot, aI cA q_t_fixed 14 t_fixed, aI cA q_t_state 14 r.2.2.2.1, aJ cA q_t_count 14336 r.2.2.2.2.1, aJ cA q_t_best 14336 r.2.2.2.2.2.1, aJ cA q_t_bests 14336 r.2.2.2.2.2.2])  : ∀ (n : Nat) (x2 : Int32) (t_allCount : Int64) (t_allBest : Int64) (t_allBests : Int64) (t_state : Nat → Int32) (t_count : Nat → Int64) (t_best : Nat → Int64) (t_bests : Nat → Int64), L_X9_ask_24 a1 t_knots t_bags t_q t_weight t_beside t_edge t_bag t_up t_factor t_pairFactor t_forbidden t_mayNot t_fixed n x2 t_allCount t_allBest t_allBests t_state t_count t_best t_bests = some r → Go X 14 kk nn 24 [oB q_t 9 [.int t_knots, .ref q_t_weight, .ref q_t_beside, .ref q_t_edge, .int t_rowed, .ref q_t_row, .int t_bags, .ref q_t_bag, .ref q_t_up, .ref q_t_least, .int t_q, .ref q_t_factor, .ref q_t_pairFactor, .ref q_t_forbidden, .ref q_t_mayNot, .ref q_t_fixed, .ref q_t_state, .ref q_t_count, .ref q_t_best, .ref q_t_bests, .long t_allCount, .long t_allBest, .long t_allBests], aI cA q_t_weight 14 t_weight, aI cA q_t_beside 14 t_beside, aI cA q_t_edge 196 t_edge, aI cA q_t_bag 14 t_bag, aI cA q_t_up 14 t_up, aI cA q_t_factor 4 t_factor, aI cA q_t_pairFactor 16 t_pairFactor, aI cA q_t_forbidden 14 t_forbidden, aZ cA q_t_mayNot 16 t_mayNot, aI cA q_t_fixed 14 t_fixed, aI cA q_t_state 14 t_state, aJ cA q_t_count 14336 t_count, aJ cA q_t_best 14336 t_best, aJ cA q_t_bests 14336 t_bests] [(0, .ref q_t), (1, .int a1), (2, .int x2)] [] := by
  intro n
  induction n with
  | zero => intro x2 t_allCount t_allBest t_allBests t_state t_count t_best t_bests hf; exact no_some hf
  | succ n ih =>
    intro x2 t_allCount t_allBest t_allBests t_state t_count t_best t_bests hf
    rw [L_X9_ask_24] at hf
    refine g_iload_n C 24 2 dX9_ask_24 rfl rfl ?_
    refine g_aload_n C 25 0 dX9_ask_25 rfl rfl ?_
    refine g_get C 26 0 6 dX9_ask_26 inX9 rfl rfl (by decide) kw_348 rfl ?_
    refine g_icmp_ge C 29 249 dX9_ask_29 (by decide) hf (fun hf => ?_) (fun hf => ?_)
    · refine g_sipush C 249 (1024 : Int32) dX9_ask_249 (by decide) ?_
      refine g_aload_n C 252 0 dX9_ask_252 rfl rfl ?_
      refine g_get C 253 0 6 dX9_ask_253 inX9 rfl rfl (by decide) kw_348 rfl ?_
      refine g_iconst C 256 (1 : Int32) dX9_ask_256 (by decide) ?_
      refine g_isub C 257 dX9_ask_257 ?_
      refine g_imul C 258 dX9_ask_258 ?_
      refine g_istore_n C 259 (fun z => [(2, .int z), (0, .ref q_t), (1, .int a1)]) dX9_ask_259 rfl (by decide) (fun _ => rfl) hf (fun x2_3 hf => ?_)
      refine g_aload_n C 260 1 dX9_ask_260 rfl rfl ?_
      refine g_aload_n C 261 1 dX9_ask_261 rfl rfl ?_
      refine g_get C 262 0 17 dX9_ask_262 inX9 rfl rfl (by decide) kw_421 rfl ?_
      refine g_iload_n C 265 0 dX9_ask_265 rfl rfl ?_
      refine g_lald C 266 12 dX9_ask_266 rfl hf (fun v4 hf => ?_)
      refine g_putl C 267 0 20 tyX9 (fun z => [oB q_t 9 [.int t_knots, .ref q_t_weight, .ref q_t_beside, .ref q_t_edge, .int t_rowed, .ref q_t_row, .int t_bags, .ref q_t_bag, .ref q_t_up, .ref q_t_least, .int t_q, .ref q_t_factor, .ref q_t_pairFactor, .ref q_t_forbidden, .ref q_t_mayNot, .ref q_t_fixed, .ref q_t_state, .ref q_t_count, .ref q_t_best, .ref q_t_bests, .long z, .long t_allBest, .long t_allBests], aI cA q_t_weight 14 t_weight, aI cA q_t_beside 14 t_beside, aI cA q_t_edge 196 t_edge, aI cA q_t_bag 14 t_bag, aI cA q_t_up 14 t_up, aI cA q_t_factor 4 t_factor, aI cA q_t_pairFactor 16 t_pairFactor, aI cA q_t_forbidden 14 t_forbidden, aZ cA q_t_mayNot 16 t_mayNot, aI cA q_t_fixed 14 t_fixed, aI cA q_t_state 14 t_state, aJ cA q_t_count 14336 t_count, aJ cA q_t_best 14336 t_best, aJ cA q_t_bests 14336 t_bests]) dX9_ask_267 inX9 tyX9_ok nmX9 rfl rfl (by decide) kw_424 rfl rfl (Nat.le_of_ble_eq_true rfl) (fun _ => rfl) hf (fun t_allCount_5 hf => ?_)
      refine g_aload_n C 270 1 dX9_ask_270 rfl rfl ?_
      refine g_aload_n C 271 1 dX9_ask_271 rfl rfl ?_
      refine g_get C 272 0 18 dX9_ask_272 inX9 rfl rfl (by decide) kw_422 rfl ?_
      refine g_iload_n C 275 0 dX9_ask_275 rfl rfl ?_
      refine g_lald C 276 13 dX9_ask_276 rfl hf (fun v6 hf => ?_)
      refine g_putl C 277 0 21 tyX9 (fun z => [oB q_t 9 [.int t_knots, .ref q_t_weight, .ref q_t_beside, .ref q_t_edge, .int t_rowed, .ref q_t_row, .int t_bags, .ref q_t_bag, .ref q_t_up, .ref q_t_least, .int t_q, .ref q_t_factor, .ref q_t_pairFactor, .ref q_t_forbidden, .ref q_t_mayNot, .ref q_t_fixed, .ref q_t_state, .ref q_t_count, .ref q_t_best, .ref q_t_bests, .long t_allCount_5, .long z, .long t_allBests], aI cA q_t_weight 14 t_weight, aI cA q_t_beside 14 t_beside, aI cA q_t_edge 196 t_edge, aI cA q_t_bag 14 t_bag, aI cA q_t_up 14 t_up, aI cA q_t_factor 4 t_factor, aI cA q_t_pairFactor 16 t_pairFactor, aI cA q_t_forbidden 14 t_forbidden, aZ cA q_t_mayNot 16 t_mayNot, aI cA q_t_fixed 14 t_fixed, aI cA q_t_state 14 t_state, aJ cA q_t_count 14336 t_count, aJ cA q_t_best 14336 t_best, aJ cA q_t_bests 14336 t_bests]) dX9_ask_277 inX9 tyX9_ok nmX9 rfl rfl (by decide) kw_425 rfl rfl (Nat.le_of_ble_eq_true rfl) (fun _ => rfl) hf (fun t_allBest_7 hf => ?_)
      refine g_aload_n C 280 1 dX9_ask_280 rfl rfl ?_
      refine g_aload_n C 281 1 dX9_ask_281 rfl rfl ?_
      refine g_get C 282 0 19 dX9_ask_282 inX9 rfl rfl (by decide) kw_423 rfl ?_
      refine g_iload_n C 285 0 dX9_ask_285 rfl rfl ?_
      refine g_lald C 286 14 dX9_ask_286 rfl hf (fun v8 hf => ?_)
      refine g_putl C 287 0 22 tyX9 (fun z => [oB q_t 9 [.int t_knots, .ref q_t_weight, .ref q_t_beside, .ref q_t_edge, .int t_rowed, .ref q_t_row, .int t_bags, .ref q_t_bag, .ref q_t_up, .ref q_t_least, .int t_q, .ref q_t_factor, .ref q_t_pairFactor, .ref q_t_forbidden, .ref q_t_mayNot, .ref q_t_fixed, .ref q_t_state, .ref q_t_count, .ref q_t_best, .ref q_t_bests, .long t_allCount_5, .long t_allBest_7, .long z], aI cA q_t_weight 14 t_weight, aI cA q_t_beside 14 t_beside, aI cA q_t_edge 196 t_edge, aI cA q_t_bag 14 t_bag, aI cA q_t_up 14 t_up, aI cA q_t_factor 4 t_factor, aI cA q_t_pairFactor 16 t_pairFactor, aI cA q_t_forbidden 14 t_forbidden, aZ cA q_t_mayNot 16 t_mayNot, aI cA q_t_fixed 14 t_fixed, aI cA q_t_state 14 t_state, aJ cA q_t_count 14336 t_count, aJ cA q_t_best 14336 t_best, aJ cA q_t_bests 14336 t_bests]) dX9_ask_287 inX9 tyX9_ok nmX9 rfl rfl (by decide) kw_426 rfl rfl (Nat.le_of_ble_eq_true rfl) (fun _ => rfl) hf (fun t_allBests_9 hf => ?_)
      cases hf
      exact g_vret C 290 dX9_ask_290 F hB
    · refine g_aload_n C 32 0 dX9_ask_32 rfl rfl ?_
      refine g_get C 33 0 8 dX9_ask_33 inX9 rfl rfl (by decide) kw_380 rfl ?_
      refine g_iload_n C 36 2 dX9_ask_36 rfl rfl ?_
      refine g_iald C 37 5 dX9_ask_37 rfl hf (fun v10 hf => ?_)
      refine g_if_ge C 38 45 dX9_ask_38 (by decide) hf (fun hf => ?_) (fun hf => ?_)
      · refine g_aload_n C 45 0 dX9_ask_45 rfl rfl ?_
        refine g_get C 46 0 7 dX9_ask_46 inX9 rfl rfl (by decide) kw_371 rfl ?_
        refine g_iload_n C 49 2 dX9_ask_49 rfl rfl ?_
        refine g_iald C 50 4 dX9_ask_50 rfl hf (fun v11 hf => ?_)
        refine g_aload_n C 51 0 dX9_ask_51 rfl rfl ?_
        refine g_get C 52 0 7 dX9_ask_52 inX9 rfl rfl (by decide) kw_371 rfl ?_
        refine g_aload_n C 55 0 dX9_ask_55 rfl rfl ?_
        refine g_get C 56 0 8 dX9_ask_56 inX9 rfl rfl (by decide) kw_380 rfl ?_
        refine g_iload_n C 59 2 dX9_ask_59 rfl rfl ?_
        refine g_iald C 60 5 dX9_ask_60 rfl hf (fun v12 hf => ?_)
        refine g_iald C 61 4 dX9_ask_61 rfl hf (fun v13 hf => ?_)
        refine g_iand C 62 dX9_ask_62 ?_
        exact w_X9_ask_63 cA q_t t_rowed q_t_row q_t_least q_t_weight q_t_beside q_t_edge q_t_bag q_t_up q_t_factor q_t_pairFactor q_t_forbidden q_t_mayNot q_t_fixed q_t_state q_t_count q_t_best q_t_bests a1 t_knots t_bags t_q t_weight t_beside t_edge t_bag t_up t_factor t_pairFactor t_forbidden t_mayNot t_fixed C hk F r hB (fun y0 y1 y2 y3 y4 y5 y6 y7 => L_X9_ask_24 a1 t_knots t_bags t_q t_weight t_beside t_edge t_bag t_up t_factor t_pairFactor t_forbidden t_mayNot t_fixed n y0 y1 y2 y3 y4 y5 y6 y7) (fun y0 y1 y2 y3 y4 y5 y6 y7 hf => ih y0 y1 y2 y3 y4 y5 y6 y7 hf) x2 (v11 &&& v13) t_allCount t_allBest t_allBests t_state t_count t_best t_bests hf
      · refine g_iconst C 41 (0 : Int32) dX9_ask_41 (by decide) ?_
        refine g_goto C 42 63 dX9_ask_42 (by decide) ?_
        exact w_X9_ask_63 cA q_t t_rowed q_t_row q_t_least q_t_weight q_t_beside q_t_edge q_t_bag q_t_up q_t_factor q_t_pairFactor q_t_forbidden q_t_mayNot q_t_fixed q_t_state q_t_count q_t_best q_t_bests a1 t_knots t_bags t_q t_weight t_beside t_edge t_bag t_up t_factor t_pairFactor t_forbidden t_mayNot t_fixed C hk F r hB (fun y0 y1 y2 y3 y4 y5 y6 y7 => L_X9_ask_24 a1 t_knots t_bags t_q t_weight t_beside t_edge t_bag t_up t_factor t_pairFactor t_forbidden t_mayNot t_fixed n y0 y1 y2 y3 y4 y5 y6 y7) (fun y0 y1 y2 y3 y4 y5 y6 y7 hf => ih y0 y1 y2 y3 y4 y5 y6 y7 hf) x2 (0 : Int32) t_allCount t_allBest t_allBests t_state t_count t_best t_bests hf
def L_X9_ask_2 (a1 : Int32) (t_knots : Int32) (t_bags : Int32) (t_q : Int32) (t_weight : Nat → Int32) (t_beside : Nat → Int32) (t_edge : Nat → Int32) (t_bag : Nat → Int32) (t_up : Nat → Int32) (t_factor : Nat → Int32) (t_pairFactor : Nat → Int32) (t_forbidden : Nat → Int32) (t_mayNot : Nat → Int32) (t_fixed : Nat → Int32)  : Nat → Int32 → Int64 → Int64 → Int64 → (Nat → Int32) → (Nat → Int64) → (Nat → Int64) → (Nat → Int64) → Option (Int64 × Int64 × Int64 × (Nat → Int32) × (Nat → Int64) × (Nat → Int64) × (Nat → Int64))
  | 0, _, _, _, _, _, _, _, _ => none
  | n + 1, x2, t_allCount, t_allBest, t_allBests, t_state, t_count, t_best, t_bests =>
    if (14336 : Int32) ≤ x2 then
      bnd (0 : Int32) fun x2_2 =>
      L_X9_ask_24 a1 t_knots t_bags t_q t_weight t_beside t_edge t_bag t_up t_factor t_pairFactor t_forbidden t_mayNot t_fixed NN x2_2 t_allCount t_allBest t_allBests t_state t_count t_best t_bests
    else
      stJ t_count 14336 x2 (0 : Int64) fun t_count_44 =>
      bnd (x2 + (1 : Int32)) fun x2_45 =>
      L_X9_ask_2 a1 t_knots t_bags t_q t_weight t_beside t_edge t_bag t_up t_factor t_pairFactor t_forbidden t_mayNot t_fixed n x2_45 t_allCount t_allBest t_allBests t_state t_count_44 t_best t_bests

set_option maxRecDepth 100000 in
set_option maxHeartbeats 1000000 in
theorem w_X9_ask_2 (cA : Nat → ClassId) (q_t : Nat) (t_rowed : Int32) (q_t_row : Nat) (q_t_least : Nat) (q_t_weight : Nat) (q_t_beside : Nat) (q_t_edge : Nat) (q_t_bag : Nat) (q_t_up : Nat) (q_t_factor : Nat) (q_t_pairFactor : Nat) (q_t_forbidden : Nat) (q_t_mayNot : Nat) (q_t_fixed : Nat) (q_t_state : Nat) (q_t_count : Nat) (q_t_best : Nat) (q_t_bests : Nat) (a1 : Int32) (t_knots : Int32) (t_bags : Int32) (t_q : Int32) (t_weight : Nat → Int32) (t_beside : Nat → Int32) (t_edge : Nat → Int32) (t_bag : Nat → Int32) (t_up : Nat → Int32) (t_factor : Nat → Int32) (t_pairFactor : Nat → Int32) (t_forbidden : Nat → Int32) (t_mayNot : Nat → Int32) (t_fixed : Nat → Int32) {X : XT}  (C : Cx X cX9_ask RX9 none cA 3 69 14) {kk nn : Nat} {BB : Option Value → va_W → Prop} (hk : kk ≤ (x_R X).cells ∧ nn ≤ (x_R X).slots) (F : Fx X BB kk nn) (r : Int64 × Int64 × Int64 × (Nat → Int32) × (Nat → Int64) × (Nat → Int64) × (Nat → Int64)) (hB : BB (none) [oB q_t 9 [.int t_knots, .ref q_t_weight, .ref q_t_beside, .ref q_t_edge, .int t_rowed, .ref q_t_row, .int t_bags, .ref q_t_bag, .ref q_t_up, .ref q_t_least, .int t_q, .ref q_t_factor, .ref q_t_pairFactor, .ref q_t_forbidden, .ref q_t_mayNot, .ref q_t_fixed, .ref q_t_state, .ref q_t_count, .ref q_t_best, .ref q_t_bests, .long r.1, .long r.2.1, .long r.2.2.1], aI cA q_t_weight 14 t_weight, aI cA q_t_beside 14 t_beside, aI cA q_t_edge 196 t_edge, aI cA q_t_bag 14 t_bag, aI cA q_t_up 14 t_up, aI cA q_t_factor 4 t_factor, aI cA q_t_pairFactor 16 t_pairFactor, aI cA q_t_forbidden 14 t_forbidden, aZ cA q_t_mayNot 16 t_mayNot, aI cA q_t_fixed 14 t_fixed, aI cA q_t_state 14 r.2.2.2.1, aJ cA q_t_count 14336 r.2.2.2.2.1, aJ cA q_t_best 14336 r.2.2.2.2.2.1, aJ cA q_t_bests 14336 r.2.2.2.2.2.2])  : ∀ (n : Nat) (x2 : Int32) (t_allCount : Int64) (t_allBest : Int64) (t_allBests : Int64) (t_state : Nat → Int32) (t_count : Nat → Int64) (t_best : Nat → Int64) (t_bests : Nat → Int64), L_X9_ask_2 a1 t_knots t_bags t_q t_weight t_beside t_edge t_bag t_up t_factor t_pairFactor t_forbidden t_mayNot t_fixed n x2 t_allCount t_allBest t_allBests t_state t_count t_best t_bests = some r → Go X 14 kk nn 2 [oB q_t 9 [.int t_knots, .ref q_t_weight, .ref q_t_beside, .ref q_t_edge, .int t_rowed, .ref q_t_row, .int t_bags, .ref q_t_bag, .ref q_t_up, .ref q_t_least, .int t_q, .ref q_t_factor, .ref q_t_pairFactor, .ref q_t_forbidden, .ref q_t_mayNot, .ref q_t_fixed, .ref q_t_state, .ref q_t_count, .ref q_t_best, .ref q_t_bests, .long t_allCount, .long t_allBest, .long t_allBests], aI cA q_t_weight 14 t_weight, aI cA q_t_beside 14 t_beside, aI cA q_t_edge 196 t_edge, aI cA q_t_bag 14 t_bag, aI cA q_t_up 14 t_up, aI cA q_t_factor 4 t_factor, aI cA q_t_pairFactor 16 t_pairFactor, aI cA q_t_forbidden 14 t_forbidden, aZ cA q_t_mayNot 16 t_mayNot, aI cA q_t_fixed 14 t_fixed, aI cA q_t_state 14 t_state, aJ cA q_t_count 14336 t_count, aJ cA q_t_best 14336 t_best, aJ cA q_t_bests 14336 t_bests] [(0, .ref q_t), (1, .int a1), (2, .int x2)] [] := by
  intro n
  induction n with
  | zero => intro x2 t_allCount t_allBest t_allBests t_state t_count t_best t_bests hf; exact no_some hf
  | succ n ih =>
    intro x2 t_allCount t_allBest t_allBests t_state t_count t_best t_bests hf
    rw [L_X9_ask_2] at hf
    refine g_iload_n C 2 2 dX9_ask_2 rfl rfl ?_
    refine g_sipush C 3 (14336 : Int32) dX9_ask_3 (by decide) ?_
    refine g_icmp_ge C 6 22 dX9_ask_6 (by decide) hf (fun hf => ?_) (fun hf => ?_)
    · refine g_iconst C 22 (0 : Int32) dX9_ask_22 (by decide) ?_
      refine g_istore_n C 23 (fun z => [(2, .int z), (0, .ref q_t), (1, .int a1)]) dX9_ask_23 rfl (by decide) (fun _ => rfl) hf (fun x2_2 hf => ?_)
      refine g_lv [1, 2, 0] rfl ?_
      exact w_X9_ask_24 cA q_t t_rowed q_t_row q_t_least q_t_weight q_t_beside q_t_edge q_t_bag q_t_up q_t_factor q_t_pairFactor q_t_forbidden q_t_mayNot q_t_fixed q_t_state q_t_count q_t_best q_t_bests a1 t_knots t_bags t_q t_weight t_beside t_edge t_bag t_up t_factor t_pairFactor t_forbidden t_mayNot t_fixed C hk F r hB NN x2_2 t_allCount t_allBest t_allBests t_state t_count t_best t_bests hf
    · refine g_aload_n C 9 0 dX9_ask_9 rfl rfl ?_
      refine g_get C 10 0 17 dX9_ask_10 inX9 rfl rfl (by decide) kw_421 rfl ?_
      refine g_iload_n C 13 2 dX9_ask_13 rfl rfl ?_
      refine g_lconst C 14 (0 : Int64) dX9_ask_14 (by decide) ?_
      refine g_last C 15 12 (fun z => [oB q_t 9 [.int t_knots, .ref q_t_weight, .ref q_t_beside, .ref q_t_edge, .int t_rowed, .ref q_t_row, .int t_bags, .ref q_t_bag, .ref q_t_up, .ref q_t_least, .int t_q, .ref q_t_factor, .ref q_t_pairFactor, .ref q_t_forbidden, .ref q_t_mayNot, .ref q_t_fixed, .ref q_t_state, .ref q_t_count, .ref q_t_best, .ref q_t_bests, .long t_allCount, .long t_allBest, .long t_allBests], aI cA q_t_weight 14 t_weight, aI cA q_t_beside 14 t_beside, aI cA q_t_edge 196 t_edge, aI cA q_t_bag 14 t_bag, aI cA q_t_up 14 t_up, aI cA q_t_factor 4 t_factor, aI cA q_t_pairFactor 16 t_pairFactor, aI cA q_t_forbidden 14 t_forbidden, aZ cA q_t_mayNot 16 t_mayNot, aI cA q_t_fixed 14 t_fixed, aI cA q_t_state 14 t_state, aJ cA q_t_count 14336 z, aJ cA q_t_best 14336 t_best, aJ cA q_t_bests 14336 t_bests]) dX9_ask_15 rfl (fun _ => rfl) hf (fun t_count_44 hf => ?_)
      refine g_iinc C 16 2 (v := x2 + (1 : Int32)) (fun z => [(2, .int z), (0, .ref q_t), (1, .int a1)]) dX9_ask_16 rfl rfl (by decide) (fun _ => rfl) hf (fun x2_45 hf => ?_)
      refine g_goto C 19 2 dX9_ask_19 (by decide) ?_
      refine g_lv [1, 2, 0] rfl ?_
      exact ih x2_45 t_allCount t_allBest t_allBests t_state t_count_44 t_best t_bests hf
def f_X9_ask (a1 : Int32) (t_knots : Int32) (t_bags : Int32) (t_q : Int32) (t_allCount : Int64) (t_allBest : Int64) (t_allBests : Int64) (t_weight : Nat → Int32) (t_beside : Nat → Int32) (t_edge : Nat → Int32) (t_bag : Nat → Int32) (t_up : Nat → Int32) (t_factor : Nat → Int32) (t_pairFactor : Nat → Int32) (t_forbidden : Nat → Int32) (t_mayNot : Nat → Int32) (t_fixed : Nat → Int32) (t_state : Nat → Int32) (t_count : Nat → Int64) (t_best : Nat → Int64) (t_bests : Nat → Int64) : Option (Int64 × Int64 × Int64 × (Nat → Int32) × (Nat → Int64) × (Nat → Int64) × (Nat → Int64)) :=
  bnd (0 : Int32) fun x2_1 =>
  L_X9_ask_2 a1 t_knots t_bags t_q t_weight t_beside t_edge t_bag t_up t_factor t_pairFactor t_forbidden t_mayNot t_fixed NN x2_1 t_allCount t_allBest t_allBests t_state t_count t_best t_bests

set_option maxRecDepth 100000 in
set_option maxHeartbeats 1000000 in
theorem c_X9_ask (l : Launch) (cA : Nat → ClassId) (q_t : Nat) (t_knots : Int32) (t_rowed : Int32) (q_t_row : Nat) (t_bags : Int32) (q_t_least : Nat) (t_q : Int32) (t_allCount : Int64) (t_allBest : Int64) (t_allBests : Int64) (q_t_weight : Nat) (t_weight : Nat → Int32) (q_t_beside : Nat) (t_beside : Nat → Int32) (q_t_edge : Nat) (t_edge : Nat → Int32) (q_t_bag : Nat) (t_bag : Nat → Int32) (q_t_up : Nat) (t_up : Nat → Int32) (q_t_factor : Nat) (t_factor : Nat → Int32) (q_t_pairFactor : Nat) (t_pairFactor : Nat → Int32) (q_t_forbidden : Nat) (t_forbidden : Nat → Int32) (q_t_mayNot : Nat) (t_mayNot : Nat → Int32) (q_t_fixed : Nat) (t_fixed : Nat → Int32) (q_t_state : Nat) (t_state : Nat → Int32) (q_t_count : Nat) (t_count : Nat → Int64) (q_t_best : Nat) (t_best : Nat → Int64) (q_t_bests : Nat) (t_bests : Nat → Int64)  (a1 : Int32) (r : Int64 × Int64 × Int64 × (Nat → Int32) × (Nat → Int64) × (Nat → Int64) × (Nat → Int64)) (hf : f_X9_ask a1 t_knots t_bags t_q t_allCount t_allBest t_allBests t_weight t_beside t_edge t_bag t_up t_factor t_pairFactor t_forbidden t_mayNot t_fixed t_state t_count t_best t_bests = some r) : MT l cA yX9_ask cX9_ask 14 none ({ frames := 3, cells := 0, slots := 0, locals := 69 } : Room) [.ref q_t, .int a1] [oB q_t 9 [.int t_knots, .ref q_t_weight, .ref q_t_beside, .ref q_t_edge, .int t_rowed, .ref q_t_row, .int t_bags, .ref q_t_bag, .ref q_t_up, .ref q_t_least, .int t_q, .ref q_t_factor, .ref q_t_pairFactor, .ref q_t_forbidden, .ref q_t_mayNot, .ref q_t_fixed, .ref q_t_state, .ref q_t_count, .ref q_t_best, .ref q_t_bests, .long t_allCount, .long t_allBest, .long t_allBests], aI cA q_t_weight 14 t_weight, aI cA q_t_beside 14 t_beside, aI cA q_t_edge 196 t_edge, aI cA q_t_bag 14 t_bag, aI cA q_t_up 14 t_up, aI cA q_t_factor 4 t_factor, aI cA q_t_pairFactor 16 t_pairFactor, aI cA q_t_forbidden 14 t_forbidden, aZ cA q_t_mayNot 16 t_mayNot, aI cA q_t_fixed 14 t_fixed, aI cA q_t_state 14 t_state, aJ cA q_t_count 14336 t_count, aJ cA q_t_best 14336 t_best, aJ cA q_t_bests 14336 t_bests] (sB (none) [oB q_t 9 [.int t_knots, .ref q_t_weight, .ref q_t_beside, .ref q_t_edge, .int t_rowed, .ref q_t_row, .int t_bags, .ref q_t_bag, .ref q_t_up, .ref q_t_least, .int t_q, .ref q_t_factor, .ref q_t_pairFactor, .ref q_t_forbidden, .ref q_t_mayNot, .ref q_t_fixed, .ref q_t_state, .ref q_t_count, .ref q_t_best, .ref q_t_bests, .long r.1, .long r.2.1, .long r.2.2.1], aI cA q_t_weight 14 t_weight, aI cA q_t_beside 14 t_beside, aI cA q_t_edge 196 t_edge, aI cA q_t_bag 14 t_bag, aI cA q_t_up 14 t_up, aI cA q_t_factor 4 t_factor, aI cA q_t_pairFactor 16 t_pairFactor, aI cA q_t_forbidden 14 t_forbidden, aZ cA q_t_mayNot 16 t_mayNot, aI cA q_t_fixed 14 t_fixed, aI cA q_t_state 14 r.2.2.2.1, aJ cA q_t_count 14336 r.2.2.2.2.1, aJ cA q_t_best 14336 r.2.2.2.2.2.1, aJ cA q_t_bests 14336 r.2.2.2.2.2.2]) := by
  refine MT.of (by decide) (Nat.le_of_ble_eq_true rfl) ?_
  intro X hXl C F hnm hrc hrs
  subst hXl
  have hk : 0 ≤ (x_R X).cells ∧ 0 ≤ (x_R X).slots := ⟨Nat.zero_le _, Nat.zero_le _⟩
  have hB : (sB (none) [oB q_t 9 [.int t_knots, .ref q_t_weight, .ref q_t_beside, .ref q_t_edge, .int t_rowed, .ref q_t_row, .int t_bags, .ref q_t_bag, .ref q_t_up, .ref q_t_least, .int t_q, .ref q_t_factor, .ref q_t_pairFactor, .ref q_t_forbidden, .ref q_t_mayNot, .ref q_t_fixed, .ref q_t_state, .ref q_t_count, .ref q_t_best, .ref q_t_bests, .long r.1, .long r.2.1, .long r.2.2.1], aI cA q_t_weight 14 t_weight, aI cA q_t_beside 14 t_beside, aI cA q_t_edge 196 t_edge, aI cA q_t_bag 14 t_bag, aI cA q_t_up 14 t_up, aI cA q_t_factor 4 t_factor, aI cA q_t_pairFactor 16 t_pairFactor, aI cA q_t_forbidden 14 t_forbidden, aZ cA q_t_mayNot 16 t_mayNot, aI cA q_t_fixed 14 t_fixed, aI cA q_t_state 14 r.2.2.2.1, aJ cA q_t_count 14336 r.2.2.2.2.1, aJ cA q_t_best 14336 r.2.2.2.2.2.1, aJ cA q_t_bests 14336 r.2.2.2.2.2.2]) (none) [oB q_t 9 [.int t_knots, .ref q_t_weight, .ref q_t_beside, .ref q_t_edge, .int t_rowed, .ref q_t_row, .int t_bags, .ref q_t_bag, .ref q_t_up, .ref q_t_least, .int t_q, .ref q_t_factor, .ref q_t_pairFactor, .ref q_t_forbidden, .ref q_t_mayNot, .ref q_t_fixed, .ref q_t_state, .ref q_t_count, .ref q_t_best, .ref q_t_bests, .long r.1, .long r.2.1, .long r.2.2.1], aI cA q_t_weight 14 t_weight, aI cA q_t_beside 14 t_beside, aI cA q_t_edge 196 t_edge, aI cA q_t_bag 14 t_bag, aI cA q_t_up 14 t_up, aI cA q_t_factor 4 t_factor, aI cA q_t_pairFactor 16 t_pairFactor, aI cA q_t_forbidden 14 t_forbidden, aZ cA q_t_mayNot 16 t_mayNot, aI cA q_t_fixed 14 t_fixed, aI cA q_t_state 14 r.2.2.2.1, aJ cA q_t_count 14336 r.2.2.2.2.1, aJ cA q_t_best 14336 r.2.2.2.2.2.1, aJ cA q_t_bests 14336 r.2.2.2.2.2.2] := ⟨rfl, rfl⟩
  unfold f_X9_ask at hf
  have C : Cx X cX9_ask RX9 none cA 3 69 14 := C
  show Go X 14 0 0 0 [oB q_t 9 [.int t_knots, .ref q_t_weight, .ref q_t_beside, .ref q_t_edge, .int t_rowed, .ref q_t_row, .int t_bags, .ref q_t_bag, .ref q_t_up, .ref q_t_least, .int t_q, .ref q_t_factor, .ref q_t_pairFactor, .ref q_t_forbidden, .ref q_t_mayNot, .ref q_t_fixed, .ref q_t_state, .ref q_t_count, .ref q_t_best, .ref q_t_bests, .long t_allCount, .long t_allBest, .long t_allBests], aI cA q_t_weight 14 t_weight, aI cA q_t_beside 14 t_beside, aI cA q_t_edge 196 t_edge, aI cA q_t_bag 14 t_bag, aI cA q_t_up 14 t_up, aI cA q_t_factor 4 t_factor, aI cA q_t_pairFactor 16 t_pairFactor, aI cA q_t_forbidden 14 t_forbidden, aZ cA q_t_mayNot 16 t_mayNot, aI cA q_t_fixed 14 t_fixed, aI cA q_t_state 14 t_state, aJ cA q_t_count 14336 t_count, aJ cA q_t_best 14336 t_best, aJ cA q_t_bests 14336 t_bests] [(0, .ref q_t), (1, .int a1)] []
  refine g_iconst C 0 (0 : Int32) dX9_ask_0 (by decide) ?_
  refine g_istore_n C 1 (fun z => [(2, .int z), (0, .ref q_t), (1, .int a1)]) dX9_ask_1 rfl (by decide) (fun _ => rfl) hf (fun x2_1 hf => ?_)
  refine g_lv [1, 2, 0] rfl ?_
  exact w_X9_ask_2 cA q_t t_rowed q_t_row q_t_least q_t_weight q_t_beside q_t_edge q_t_bag q_t_up q_t_factor q_t_pairFactor q_t_forbidden q_t_mayNot q_t_fixed q_t_state q_t_count q_t_best q_t_bests a1 t_knots t_bags t_q t_weight t_beside t_edge t_bag t_up t_factor t_pairFactor t_forbidden t_mayNot t_fixed C hk F r hB NN x2_1 t_allCount t_allBest t_allBests t_state t_count t_best t_bests hf

def f_X9_ways (t_knots : Int32) (t_bags : Int32) (t_q : Int32) (t_allCount : Int64) (t_allBest : Int64) (t_allBests : Int64) (t_weight : Nat → Int32) (t_beside : Nat → Int32) (t_edge : Nat → Int32) (t_bag : Nat → Int32) (t_up : Nat → Int32) (t_factor : Nat → Int32) (t_pairFactor : Nat → Int32) (t_forbidden : Nat → Int32) (t_mayNot : Nat → Int32) (t_fixed : Nat → Int32) (t_state : Nat → Int32) (t_count : Nat → Int64) (t_best : Nat → Int64) (t_bests : Nat → Int64) : Option (Int64 × Int64 × Int64 × Int64 × (Nat → Int32) × (Nat → Int32) × (Nat → Int64) × (Nat → Int64) × (Nat → Int64)) :=
  cal (f_X9_isAsked t_knots t_bags t_beside t_bag t_up) fun u1 =>
  if u1 = 0 then
    some ((-9223372036854775808 : Int64), t_allCount, t_allBest, t_allBests, t_fixed, t_state, t_count, t_best, t_bests)
  else
    cal (f_X9_free t_fixed) fun u2 =>
    cal (f_X9_ask (1 : Int32) t_knots t_bags t_q t_allCount t_allBest t_allBests t_weight t_beside t_edge t_bag t_up t_factor t_pairFactor t_forbidden t_mayNot u2 t_state t_count t_best t_bests) fun u3 =>
    some (u3.1, u3.1, u3.2.1, u3.2.2.1, u2, u3.2.2.2.1, u3.2.2.2.2.1, u3.2.2.2.2.2.1, u3.2.2.2.2.2.2)

set_option maxRecDepth 100000 in
set_option maxHeartbeats 1000000 in
theorem c_X9_ways (l : Launch) (cA : Nat → ClassId) (q_t : Nat) (t_knots : Int32) (t_rowed : Int32) (q_t_row : Nat) (t_bags : Int32) (q_t_least : Nat) (t_q : Int32) (t_allCount : Int64) (t_allBest : Int64) (t_allBests : Int64) (q_t_weight : Nat) (t_weight : Nat → Int32) (q_t_beside : Nat) (t_beside : Nat → Int32) (q_t_edge : Nat) (t_edge : Nat → Int32) (q_t_bag : Nat) (t_bag : Nat → Int32) (q_t_up : Nat) (t_up : Nat → Int32) (q_t_factor : Nat) (t_factor : Nat → Int32) (q_t_pairFactor : Nat) (t_pairFactor : Nat → Int32) (q_t_forbidden : Nat) (t_forbidden : Nat → Int32) (q_t_mayNot : Nat) (t_mayNot : Nat → Int32) (q_t_fixed : Nat) (t_fixed : Nat → Int32) (q_t_state : Nat) (t_state : Nat → Int32) (q_t_count : Nat) (t_count : Nat → Int64) (q_t_best : Nat) (t_best : Nat → Int64) (q_t_bests : Nat) (t_bests : Nat → Int64)   (r : Int64 × Int64 × Int64 × Int64 × (Nat → Int32) × (Nat → Int32) × (Nat → Int64) × (Nat → Int64) × (Nat → Int64)) (hf : f_X9_ways t_knots t_bags t_q t_allCount t_allBest t_allBests t_weight t_beside t_edge t_bag t_up t_factor t_pairFactor t_forbidden t_mayNot t_fixed t_state t_count t_best t_bests = some r) : MT l cA yX9_ways cX9_ways 1 (some .long) ({ frames := 4, cells := 0, slots := 0, locals := 102 } : Room) [.ref q_t] [oB q_t 9 [.int t_knots, .ref q_t_weight, .ref q_t_beside, .ref q_t_edge, .int t_rowed, .ref q_t_row, .int t_bags, .ref q_t_bag, .ref q_t_up, .ref q_t_least, .int t_q, .ref q_t_factor, .ref q_t_pairFactor, .ref q_t_forbidden, .ref q_t_mayNot, .ref q_t_fixed, .ref q_t_state, .ref q_t_count, .ref q_t_best, .ref q_t_bests, .long t_allCount, .long t_allBest, .long t_allBests], aI cA q_t_weight 14 t_weight, aI cA q_t_beside 14 t_beside, aI cA q_t_edge 196 t_edge, aI cA q_t_bag 14 t_bag, aI cA q_t_up 14 t_up, aI cA q_t_factor 4 t_factor, aI cA q_t_pairFactor 16 t_pairFactor, aI cA q_t_forbidden 14 t_forbidden, aZ cA q_t_mayNot 16 t_mayNot, aI cA q_t_fixed 14 t_fixed, aI cA q_t_state 14 t_state, aJ cA q_t_count 14336 t_count, aJ cA q_t_best 14336 t_best, aJ cA q_t_bests 14336 t_bests] (sB (some (.long r.1)) [oB q_t 9 [.int t_knots, .ref q_t_weight, .ref q_t_beside, .ref q_t_edge, .int t_rowed, .ref q_t_row, .int t_bags, .ref q_t_bag, .ref q_t_up, .ref q_t_least, .int t_q, .ref q_t_factor, .ref q_t_pairFactor, .ref q_t_forbidden, .ref q_t_mayNot, .ref q_t_fixed, .ref q_t_state, .ref q_t_count, .ref q_t_best, .ref q_t_bests, .long r.2.1, .long r.2.2.1, .long r.2.2.2.1], aI cA q_t_weight 14 t_weight, aI cA q_t_beside 14 t_beside, aI cA q_t_edge 196 t_edge, aI cA q_t_bag 14 t_bag, aI cA q_t_up 14 t_up, aI cA q_t_factor 4 t_factor, aI cA q_t_pairFactor 16 t_pairFactor, aI cA q_t_forbidden 14 t_forbidden, aZ cA q_t_mayNot 16 t_mayNot, aI cA q_t_fixed 14 r.2.2.2.2.1, aI cA q_t_state 14 r.2.2.2.2.2.1, aJ cA q_t_count 14336 r.2.2.2.2.2.2.1, aJ cA q_t_best 14336 r.2.2.2.2.2.2.2.1, aJ cA q_t_bests 14336 r.2.2.2.2.2.2.2.2]) := by
  refine MT.of (by decide) (Nat.le_of_ble_eq_true rfl) ?_
  intro X hXl C F hnm hrc hrs
  subst hXl
  have hk : 0 ≤ (x_R X).cells ∧ 0 ≤ (x_R X).slots := ⟨Nat.zero_le _, Nat.zero_le _⟩
  have hB : (sB (some (.long r.1)) [oB q_t 9 [.int t_knots, .ref q_t_weight, .ref q_t_beside, .ref q_t_edge, .int t_rowed, .ref q_t_row, .int t_bags, .ref q_t_bag, .ref q_t_up, .ref q_t_least, .int t_q, .ref q_t_factor, .ref q_t_pairFactor, .ref q_t_forbidden, .ref q_t_mayNot, .ref q_t_fixed, .ref q_t_state, .ref q_t_count, .ref q_t_best, .ref q_t_bests, .long r.2.1, .long r.2.2.1, .long r.2.2.2.1], aI cA q_t_weight 14 t_weight, aI cA q_t_beside 14 t_beside, aI cA q_t_edge 196 t_edge, aI cA q_t_bag 14 t_bag, aI cA q_t_up 14 t_up, aI cA q_t_factor 4 t_factor, aI cA q_t_pairFactor 16 t_pairFactor, aI cA q_t_forbidden 14 t_forbidden, aZ cA q_t_mayNot 16 t_mayNot, aI cA q_t_fixed 14 r.2.2.2.2.1, aI cA q_t_state 14 r.2.2.2.2.2.1, aJ cA q_t_count 14336 r.2.2.2.2.2.2.1, aJ cA q_t_best 14336 r.2.2.2.2.2.2.2.1, aJ cA q_t_bests 14336 r.2.2.2.2.2.2.2.2]) (some (.long r.1)) [oB q_t 9 [.int t_knots, .ref q_t_weight, .ref q_t_beside, .ref q_t_edge, .int t_rowed, .ref q_t_row, .int t_bags, .ref q_t_bag, .ref q_t_up, .ref q_t_least, .int t_q, .ref q_t_factor, .ref q_t_pairFactor, .ref q_t_forbidden, .ref q_t_mayNot, .ref q_t_fixed, .ref q_t_state, .ref q_t_count, .ref q_t_best, .ref q_t_bests, .long r.2.1, .long r.2.2.1, .long r.2.2.2.1], aI cA q_t_weight 14 t_weight, aI cA q_t_beside 14 t_beside, aI cA q_t_edge 196 t_edge, aI cA q_t_bag 14 t_bag, aI cA q_t_up 14 t_up, aI cA q_t_factor 4 t_factor, aI cA q_t_pairFactor 16 t_pairFactor, aI cA q_t_forbidden 14 t_forbidden, aZ cA q_t_mayNot 16 t_mayNot, aI cA q_t_fixed 14 r.2.2.2.2.1, aI cA q_t_state 14 r.2.2.2.2.2.1, aJ cA q_t_count 14336 r.2.2.2.2.2.2.1, aJ cA q_t_best 14336 r.2.2.2.2.2.2.2.1, aJ cA q_t_bests 14336 r.2.2.2.2.2.2.2.2] := ⟨rfl, rfl⟩
  unfold f_X9_ways at hf
  have C : Cx X cX9_ways RX9 (some .long) cA 4 102 1 := C
  show Go X 1 0 0 0 [oB q_t 9 [.int t_knots, .ref q_t_weight, .ref q_t_beside, .ref q_t_edge, .int t_rowed, .ref q_t_row, .int t_bags, .ref q_t_bag, .ref q_t_up, .ref q_t_least, .int t_q, .ref q_t_factor, .ref q_t_pairFactor, .ref q_t_forbidden, .ref q_t_mayNot, .ref q_t_fixed, .ref q_t_state, .ref q_t_count, .ref q_t_best, .ref q_t_bests, .long t_allCount, .long t_allBest, .long t_allBests], aI cA q_t_weight 14 t_weight, aI cA q_t_beside 14 t_beside, aI cA q_t_edge 196 t_edge, aI cA q_t_bag 14 t_bag, aI cA q_t_up 14 t_up, aI cA q_t_factor 4 t_factor, aI cA q_t_pairFactor 16 t_pairFactor, aI cA q_t_forbidden 14 t_forbidden, aZ cA q_t_mayNot 16 t_mayNot, aI cA q_t_fixed 14 t_fixed, aI cA q_t_state 14 t_state, aJ cA q_t_count 14336 t_count, aJ cA q_t_best 14336 t_best, aJ cA q_t_bests 14336 t_bests] [(0, .ref q_t)] []
  refine g_aload_n C 0 0 dX9_ways_0 rfl rfl ?_
  obtain ⟨u1, hu1, hf⟩ := cal_some hf
  refine g_callV1 C 1 [0, 2, 4, 5] 0 (rest := []) dX9_ways_1 (c_X9_isAsked (x_l X) cA q_t t_knots q_t_weight q_t_edge t_rowed q_t_row t_bags q_t_least t_q q_t_factor q_t_pairFactor q_t_forbidden q_t_mayNot q_t_fixed q_t_state q_t_count q_t_best q_t_bests t_allCount t_allBest t_allBests q_t_beside t_beside q_t_bag t_bag q_t_up t_up u1 hu1) kw_443 kw_444 kw_445 kw_343 kw_446 ok_X9_isAsked ⟨Nat.le_of_ble_eq_true rfl, Nat.le_of_ble_eq_true rfl⟩ hk ⟨rfl, rfl⟩ rfl rfl rfl rfl rfl (Nat.le_of_ble_eq_true rfl) rfl (ws' := [oB q_t 9 [.int t_knots, .ref q_t_weight, .ref q_t_beside, .ref q_t_edge, .int t_rowed, .ref q_t_row, .int t_bags, .ref q_t_bag, .ref q_t_up, .ref q_t_least, .int t_q, .ref q_t_factor, .ref q_t_pairFactor, .ref q_t_forbidden, .ref q_t_mayNot, .ref q_t_fixed, .ref q_t_state, .ref q_t_count, .ref q_t_best, .ref q_t_bests, .long t_allCount, .long t_allBest, .long t_allBests], aI cA q_t_weight 14 t_weight, aI cA q_t_beside 14 t_beside, aI cA q_t_edge 196 t_edge, aI cA q_t_bag 14 t_bag, aI cA q_t_up 14 t_up, aI cA q_t_factor 4 t_factor, aI cA q_t_pairFactor 16 t_pairFactor, aI cA q_t_forbidden 14 t_forbidden, aZ cA q_t_mayNot 16 t_mayNot, aI cA q_t_fixed 14 t_fixed, aI cA q_t_state 14 t_state, aJ cA q_t_count 14336 t_count, aJ cA q_t_best 14336 t_best, aJ cA q_t_bests 14336 t_bests]) (st' := [.int u1]) (N0 := 15) rfl [some 0, none, some 1, none, some 2, some 3, none, none, none, none, none, none, none, none, none] (by decide) rfl rfl ?_
  refine g_if_ne C 4 11 dX9_ways_4 (by decide) hf (fun hf => ?_) (fun hf => ?_)
  · refine g_aload_n C 11 0 dX9_ways_11 rfl rfl ?_
    obtain ⟨u2, hu2, hf⟩ := cal_some hf
    refine g_callV1 C 12 [0, 10] 0 (rest := []) dX9_ways_12 (c_X9_free (x_l X) cA q_t t_knots q_t_weight q_t_beside q_t_edge t_rowed q_t_row t_bags q_t_bag q_t_up q_t_least t_q q_t_factor q_t_pairFactor q_t_forbidden q_t_mayNot q_t_state q_t_count q_t_best q_t_bests t_allCount t_allBest t_allBests q_t_fixed t_fixed u2 hu2) kw_447 kw_448 kw_449 kw_343 kw_450 ok_X9_free ⟨Nat.le_of_ble_eq_true rfl, Nat.le_of_ble_eq_true rfl⟩ hk ⟨rfl, rfl⟩ rfl rfl rfl rfl rfl (Nat.le_of_ble_eq_true rfl) rfl (ws' := [oB q_t 9 [.int t_knots, .ref q_t_weight, .ref q_t_beside, .ref q_t_edge, .int t_rowed, .ref q_t_row, .int t_bags, .ref q_t_bag, .ref q_t_up, .ref q_t_least, .int t_q, .ref q_t_factor, .ref q_t_pairFactor, .ref q_t_forbidden, .ref q_t_mayNot, .ref q_t_fixed, .ref q_t_state, .ref q_t_count, .ref q_t_best, .ref q_t_bests, .long t_allCount, .long t_allBest, .long t_allBests], aI cA q_t_weight 14 t_weight, aI cA q_t_beside 14 t_beside, aI cA q_t_edge 196 t_edge, aI cA q_t_bag 14 t_bag, aI cA q_t_up 14 t_up, aI cA q_t_factor 4 t_factor, aI cA q_t_pairFactor 16 t_pairFactor, aI cA q_t_forbidden 14 t_forbidden, aZ cA q_t_mayNot 16 t_mayNot, aI cA q_t_fixed 14 u2, aI cA q_t_state 14 t_state, aJ cA q_t_count 14336 t_count, aJ cA q_t_best 14336 t_best, aJ cA q_t_bests 14336 t_bests]) (st' := []) (N0 := 15) rfl [some 0, none, none, none, none, none, none, none, none, none, some 1, none, none, none, none] (by decide) rfl rfl ?_
    refine g_aload_n C 15 0 dX9_ways_15 rfl rfl ?_
    refine g_iconst C 16 (1 : Int32) dX9_ways_16 (by decide) ?_
    obtain ⟨u3, hu3, hf⟩ := cal_some hf
    refine g_callV1 C 17 [0, 1, 2, 3, 4, 5, 6, 7, 8, 9, 10, 11, 12, 13, 14] 0 (rest := []) dX9_ways_17 (c_X9_ask (x_l X) cA q_t t_knots t_rowed q_t_row t_bags q_t_least t_q t_allCount t_allBest t_allBests q_t_weight t_weight q_t_beside t_beside q_t_edge t_edge q_t_bag t_bag q_t_up t_up q_t_factor t_factor q_t_pairFactor t_pairFactor q_t_forbidden t_forbidden q_t_mayNot t_mayNot q_t_fixed u2 q_t_state t_state q_t_count t_count q_t_best t_best q_t_bests t_bests (1 : Int32) u3 hu3) kw_451 kw_452 kw_453 kw_343 kw_454 ok_X9_ask ⟨Nat.le_of_ble_eq_true rfl, Nat.le_of_ble_eq_true rfl⟩ hk ⟨rfl, rfl⟩ rfl rfl rfl rfl rfl (Nat.le_of_ble_eq_true rfl) rfl (ws' := [oB q_t 9 [.int t_knots, .ref q_t_weight, .ref q_t_beside, .ref q_t_edge, .int t_rowed, .ref q_t_row, .int t_bags, .ref q_t_bag, .ref q_t_up, .ref q_t_least, .int t_q, .ref q_t_factor, .ref q_t_pairFactor, .ref q_t_forbidden, .ref q_t_mayNot, .ref q_t_fixed, .ref q_t_state, .ref q_t_count, .ref q_t_best, .ref q_t_bests, .long u3.1, .long u3.2.1, .long u3.2.2.1], aI cA q_t_weight 14 t_weight, aI cA q_t_beside 14 t_beside, aI cA q_t_edge 196 t_edge, aI cA q_t_bag 14 t_bag, aI cA q_t_up 14 t_up, aI cA q_t_factor 4 t_factor, aI cA q_t_pairFactor 16 t_pairFactor, aI cA q_t_forbidden 14 t_forbidden, aZ cA q_t_mayNot 16 t_mayNot, aI cA q_t_fixed 14 u2, aI cA q_t_state 14 u3.2.2.2.1, aJ cA q_t_count 14336 u3.2.2.2.2.1, aJ cA q_t_best 14336 u3.2.2.2.2.2.1, aJ cA q_t_bests 14336 u3.2.2.2.2.2.2]) (st' := []) (N0 := 15) rfl [some 0, some 1, some 2, some 3, some 4, some 5, some 6, some 7, some 8, some 9, some 10, some 11, some 12, some 13, some 14] (by decide) rfl rfl ?_
    refine g_aload_n C 20 0 dX9_ways_20 rfl rfl ?_
    refine g_get C 21 0 20 dX9_ways_21 inX9 rfl rfl (by decide) kw_424 rfl ?_
    cases hf
    exact g_lret C 24 dX9_ways_24 F hB
  · refine g_ldc2 C 7 dX9_ways_7 kw_455 ?_
    cases hf
    exact g_lret C 10 dX9_ways_10 F hB

def f_X9_best (a1 : Int32) (t_knots : Int32) (t_bags : Int32) (t_q : Int32) (t_allCount : Int64) (t_allBest : Int64) (t_allBests : Int64) (t_weight : Nat → Int32) (t_beside : Nat → Int32) (t_edge : Nat → Int32) (t_bag : Nat → Int32) (t_up : Nat → Int32) (t_factor : Nat → Int32) (t_pairFactor : Nat → Int32) (t_forbidden : Nat → Int32) (t_mayNot : Nat → Int32) (t_fixed : Nat → Int32) (t_state : Nat → Int32) (t_count : Nat → Int64) (t_best : Nat → Int64) (t_bests : Nat → Int64) : Option (Int64 × Int64 × Int64 × Int64 × (Nat → Int32) × (Nat → Int32) × (Nat → Int64) × (Nat → Int64) × (Nat → Int64)) :=
  cal (f_X9_isAsked t_knots t_bags t_beside t_bag t_up) fun u1 =>
  if u1 = 0 then
    some ((-9223372036854775808 : Int64), t_allCount, t_allBest, t_allBests, t_fixed, t_state, t_count, t_best, t_bests)
  else
    cal (f_X9_free t_fixed) fun u2 =>
    cal (f_X9_ask a1 t_knots t_bags t_q t_allCount t_allBest t_allBests t_weight t_beside t_edge t_bag t_up t_factor t_pairFactor t_forbidden t_mayNot u2 t_state t_count t_best t_bests) fun u3 =>
    if (lg_cmp u3.1 (0 : Int64)) = 0 then
      some ((-9223372036854775808 : Int64), u3.1, u3.2.1, u3.2.2.1, u2, u3.2.2.2.1, u3.2.2.2.2.1, u3.2.2.2.2.2.1, u3.2.2.2.2.2.2)
    else
      some (u3.2.1, u3.1, u3.2.1, u3.2.2.1, u2, u3.2.2.2.1, u3.2.2.2.2.1, u3.2.2.2.2.2.1, u3.2.2.2.2.2.2)

set_option maxRecDepth 100000 in
set_option maxHeartbeats 1000000 in
theorem c_X9_best (l : Launch) (cA : Nat → ClassId) (q_t : Nat) (t_knots : Int32) (t_rowed : Int32) (q_t_row : Nat) (t_bags : Int32) (q_t_least : Nat) (t_q : Int32) (t_allCount : Int64) (t_allBest : Int64) (t_allBests : Int64) (q_t_weight : Nat) (t_weight : Nat → Int32) (q_t_beside : Nat) (t_beside : Nat → Int32) (q_t_edge : Nat) (t_edge : Nat → Int32) (q_t_bag : Nat) (t_bag : Nat → Int32) (q_t_up : Nat) (t_up : Nat → Int32) (q_t_factor : Nat) (t_factor : Nat → Int32) (q_t_pairFactor : Nat) (t_pairFactor : Nat → Int32) (q_t_forbidden : Nat) (t_forbidden : Nat → Int32) (q_t_mayNot : Nat) (t_mayNot : Nat → Int32) (q_t_fixed : Nat) (t_fixed : Nat → Int32) (q_t_state : Nat) (t_state : Nat → Int32) (q_t_count : Nat) (t_count : Nat → Int64) (q_t_best : Nat) (t_best : Nat → Int64) (q_t_bests : Nat) (t_bests : Nat → Int64)  (a1 : Int32) (r : Int64 × Int64 × Int64 × Int64 × (Nat → Int32) × (Nat → Int32) × (Nat → Int64) × (Nat → Int64) × (Nat → Int64)) (hf : f_X9_best a1 t_knots t_bags t_q t_allCount t_allBest t_allBests t_weight t_beside t_edge t_bag t_up t_factor t_pairFactor t_forbidden t_mayNot t_fixed t_state t_count t_best t_bests = some r) : MT l cA yX9_best cX9_best 2 (some .long) ({ frames := 4, cells := 0, slots := 0, locals := 102 } : Room) [.ref q_t, .int a1] [oB q_t 9 [.int t_knots, .ref q_t_weight, .ref q_t_beside, .ref q_t_edge, .int t_rowed, .ref q_t_row, .int t_bags, .ref q_t_bag, .ref q_t_up, .ref q_t_least, .int t_q, .ref q_t_factor, .ref q_t_pairFactor, .ref q_t_forbidden, .ref q_t_mayNot, .ref q_t_fixed, .ref q_t_state, .ref q_t_count, .ref q_t_best, .ref q_t_bests, .long t_allCount, .long t_allBest, .long t_allBests], aI cA q_t_weight 14 t_weight, aI cA q_t_beside 14 t_beside, aI cA q_t_edge 196 t_edge, aI cA q_t_bag 14 t_bag, aI cA q_t_up 14 t_up, aI cA q_t_factor 4 t_factor, aI cA q_t_pairFactor 16 t_pairFactor, aI cA q_t_forbidden 14 t_forbidden, aZ cA q_t_mayNot 16 t_mayNot, aI cA q_t_fixed 14 t_fixed, aI cA q_t_state 14 t_state, aJ cA q_t_count 14336 t_count, aJ cA q_t_best 14336 t_best, aJ cA q_t_bests 14336 t_bests] (sB (some (.long r.1)) [oB q_t 9 [.int t_knots, .ref q_t_weight, .ref q_t_beside, .ref q_t_edge, .int t_rowed, .ref q_t_row, .int t_bags, .ref q_t_bag, .ref q_t_up, .ref q_t_least, .int t_q, .ref q_t_factor, .ref q_t_pairFactor, .ref q_t_forbidden, .ref q_t_mayNot, .ref q_t_fixed, .ref q_t_state, .ref q_t_count, .ref q_t_best, .ref q_t_bests, .long r.2.1, .long r.2.2.1, .long r.2.2.2.1], aI cA q_t_weight 14 t_weight, aI cA q_t_beside 14 t_beside, aI cA q_t_edge 196 t_edge, aI cA q_t_bag 14 t_bag, aI cA q_t_up 14 t_up, aI cA q_t_factor 4 t_factor, aI cA q_t_pairFactor 16 t_pairFactor, aI cA q_t_forbidden 14 t_forbidden, aZ cA q_t_mayNot 16 t_mayNot, aI cA q_t_fixed 14 r.2.2.2.2.1, aI cA q_t_state 14 r.2.2.2.2.2.1, aJ cA q_t_count 14336 r.2.2.2.2.2.2.1, aJ cA q_t_best 14336 r.2.2.2.2.2.2.2.1, aJ cA q_t_bests 14336 r.2.2.2.2.2.2.2.2]) := by
  refine MT.of (by decide) (Nat.le_of_ble_eq_true rfl) ?_
  intro X hXl C F hnm hrc hrs
  subst hXl
  have hk : 0 ≤ (x_R X).cells ∧ 0 ≤ (x_R X).slots := ⟨Nat.zero_le _, Nat.zero_le _⟩
  have hB : (sB (some (.long r.1)) [oB q_t 9 [.int t_knots, .ref q_t_weight, .ref q_t_beside, .ref q_t_edge, .int t_rowed, .ref q_t_row, .int t_bags, .ref q_t_bag, .ref q_t_up, .ref q_t_least, .int t_q, .ref q_t_factor, .ref q_t_pairFactor, .ref q_t_forbidden, .ref q_t_mayNot, .ref q_t_fixed, .ref q_t_state, .ref q_t_count, .ref q_t_best, .ref q_t_bests, .long r.2.1, .long r.2.2.1, .long r.2.2.2.1], aI cA q_t_weight 14 t_weight, aI cA q_t_beside 14 t_beside, aI cA q_t_edge 196 t_edge, aI cA q_t_bag 14 t_bag, aI cA q_t_up 14 t_up, aI cA q_t_factor 4 t_factor, aI cA q_t_pairFactor 16 t_pairFactor, aI cA q_t_forbidden 14 t_forbidden, aZ cA q_t_mayNot 16 t_mayNot, aI cA q_t_fixed 14 r.2.2.2.2.1, aI cA q_t_state 14 r.2.2.2.2.2.1, aJ cA q_t_count 14336 r.2.2.2.2.2.2.1, aJ cA q_t_best 14336 r.2.2.2.2.2.2.2.1, aJ cA q_t_bests 14336 r.2.2.2.2.2.2.2.2]) (some (.long r.1)) [oB q_t 9 [.int t_knots, .ref q_t_weight, .ref q_t_beside, .ref q_t_edge, .int t_rowed, .ref q_t_row, .int t_bags, .ref q_t_bag, .ref q_t_up, .ref q_t_least, .int t_q, .ref q_t_factor, .ref q_t_pairFactor, .ref q_t_forbidden, .ref q_t_mayNot, .ref q_t_fixed, .ref q_t_state, .ref q_t_count, .ref q_t_best, .ref q_t_bests, .long r.2.1, .long r.2.2.1, .long r.2.2.2.1], aI cA q_t_weight 14 t_weight, aI cA q_t_beside 14 t_beside, aI cA q_t_edge 196 t_edge, aI cA q_t_bag 14 t_bag, aI cA q_t_up 14 t_up, aI cA q_t_factor 4 t_factor, aI cA q_t_pairFactor 16 t_pairFactor, aI cA q_t_forbidden 14 t_forbidden, aZ cA q_t_mayNot 16 t_mayNot, aI cA q_t_fixed 14 r.2.2.2.2.1, aI cA q_t_state 14 r.2.2.2.2.2.1, aJ cA q_t_count 14336 r.2.2.2.2.2.2.1, aJ cA q_t_best 14336 r.2.2.2.2.2.2.2.1, aJ cA q_t_bests 14336 r.2.2.2.2.2.2.2.2] := ⟨rfl, rfl⟩
  unfold f_X9_best at hf
  have C : Cx X cX9_best RX9 (some .long) cA 4 102 2 := C
  show Go X 2 0 0 0 [oB q_t 9 [.int t_knots, .ref q_t_weight, .ref q_t_beside, .ref q_t_edge, .int t_rowed, .ref q_t_row, .int t_bags, .ref q_t_bag, .ref q_t_up, .ref q_t_least, .int t_q, .ref q_t_factor, .ref q_t_pairFactor, .ref q_t_forbidden, .ref q_t_mayNot, .ref q_t_fixed, .ref q_t_state, .ref q_t_count, .ref q_t_best, .ref q_t_bests, .long t_allCount, .long t_allBest, .long t_allBests], aI cA q_t_weight 14 t_weight, aI cA q_t_beside 14 t_beside, aI cA q_t_edge 196 t_edge, aI cA q_t_bag 14 t_bag, aI cA q_t_up 14 t_up, aI cA q_t_factor 4 t_factor, aI cA q_t_pairFactor 16 t_pairFactor, aI cA q_t_forbidden 14 t_forbidden, aZ cA q_t_mayNot 16 t_mayNot, aI cA q_t_fixed 14 t_fixed, aI cA q_t_state 14 t_state, aJ cA q_t_count 14336 t_count, aJ cA q_t_best 14336 t_best, aJ cA q_t_bests 14336 t_bests] [(0, .ref q_t), (1, .int a1)] []
  refine g_aload_n C 0 0 dX9_best_0 rfl rfl ?_
  obtain ⟨u1, hu1, hf⟩ := cal_some hf
  refine g_callV1 C 1 [0, 2, 4, 5] 0 (rest := []) dX9_best_1 (c_X9_isAsked (x_l X) cA q_t t_knots q_t_weight q_t_edge t_rowed q_t_row t_bags q_t_least t_q q_t_factor q_t_pairFactor q_t_forbidden q_t_mayNot q_t_fixed q_t_state q_t_count q_t_best q_t_bests t_allCount t_allBest t_allBests q_t_beside t_beside q_t_bag t_bag q_t_up t_up u1 hu1) kw_443 kw_444 kw_445 kw_343 kw_446 ok_X9_isAsked ⟨Nat.le_of_ble_eq_true rfl, Nat.le_of_ble_eq_true rfl⟩ hk ⟨rfl, rfl⟩ rfl rfl rfl rfl rfl (Nat.le_of_ble_eq_true rfl) rfl (ws' := [oB q_t 9 [.int t_knots, .ref q_t_weight, .ref q_t_beside, .ref q_t_edge, .int t_rowed, .ref q_t_row, .int t_bags, .ref q_t_bag, .ref q_t_up, .ref q_t_least, .int t_q, .ref q_t_factor, .ref q_t_pairFactor, .ref q_t_forbidden, .ref q_t_mayNot, .ref q_t_fixed, .ref q_t_state, .ref q_t_count, .ref q_t_best, .ref q_t_bests, .long t_allCount, .long t_allBest, .long t_allBests], aI cA q_t_weight 14 t_weight, aI cA q_t_beside 14 t_beside, aI cA q_t_edge 196 t_edge, aI cA q_t_bag 14 t_bag, aI cA q_t_up 14 t_up, aI cA q_t_factor 4 t_factor, aI cA q_t_pairFactor 16 t_pairFactor, aI cA q_t_forbidden 14 t_forbidden, aZ cA q_t_mayNot 16 t_mayNot, aI cA q_t_fixed 14 t_fixed, aI cA q_t_state 14 t_state, aJ cA q_t_count 14336 t_count, aJ cA q_t_best 14336 t_best, aJ cA q_t_bests 14336 t_bests]) (st' := [.int u1]) (N0 := 15) rfl [some 0, none, some 1, none, some 2, some 3, none, none, none, none, none, none, none, none, none] (by decide) rfl rfl ?_
  refine g_if_ne C 4 11 dX9_best_4 (by decide) hf (fun hf => ?_) (fun hf => ?_)
  · refine g_aload_n C 11 0 dX9_best_11 rfl rfl ?_
    obtain ⟨u2, hu2, hf⟩ := cal_some hf
    refine g_callV1 C 12 [0, 10] 0 (rest := []) dX9_best_12 (c_X9_free (x_l X) cA q_t t_knots q_t_weight q_t_beside q_t_edge t_rowed q_t_row t_bags q_t_bag q_t_up q_t_least t_q q_t_factor q_t_pairFactor q_t_forbidden q_t_mayNot q_t_state q_t_count q_t_best q_t_bests t_allCount t_allBest t_allBests q_t_fixed t_fixed u2 hu2) kw_447 kw_448 kw_449 kw_343 kw_450 ok_X9_free ⟨Nat.le_of_ble_eq_true rfl, Nat.le_of_ble_eq_true rfl⟩ hk ⟨rfl, rfl⟩ rfl rfl rfl rfl rfl (Nat.le_of_ble_eq_true rfl) rfl (ws' := [oB q_t 9 [.int t_knots, .ref q_t_weight, .ref q_t_beside, .ref q_t_edge, .int t_rowed, .ref q_t_row, .int t_bags, .ref q_t_bag, .ref q_t_up, .ref q_t_least, .int t_q, .ref q_t_factor, .ref q_t_pairFactor, .ref q_t_forbidden, .ref q_t_mayNot, .ref q_t_fixed, .ref q_t_state, .ref q_t_count, .ref q_t_best, .ref q_t_bests, .long t_allCount, .long t_allBest, .long t_allBests], aI cA q_t_weight 14 t_weight, aI cA q_t_beside 14 t_beside, aI cA q_t_edge 196 t_edge, aI cA q_t_bag 14 t_bag, aI cA q_t_up 14 t_up, aI cA q_t_factor 4 t_factor, aI cA q_t_pairFactor 16 t_pairFactor, aI cA q_t_forbidden 14 t_forbidden, aZ cA q_t_mayNot 16 t_mayNot, aI cA q_t_fixed 14 u2, aI cA q_t_state 14 t_state, aJ cA q_t_count 14336 t_count, aJ cA q_t_best 14336 t_best, aJ cA q_t_bests 14336 t_bests]) (st' := []) (N0 := 15) rfl [some 0, none, none, none, none, none, none, none, none, none, some 1, none, none, none, none] (by decide) rfl rfl ?_
    refine g_aload_n C 15 0 dX9_best_15 rfl rfl ?_
    refine g_iload_n C 16 1 dX9_best_16 rfl rfl ?_
    obtain ⟨u3, hu3, hf⟩ := cal_some hf
    refine g_callV1 C 17 [0, 1, 2, 3, 4, 5, 6, 7, 8, 9, 10, 11, 12, 13, 14] 0 (rest := []) dX9_best_17 (c_X9_ask (x_l X) cA q_t t_knots t_rowed q_t_row t_bags q_t_least t_q t_allCount t_allBest t_allBests q_t_weight t_weight q_t_beside t_beside q_t_edge t_edge q_t_bag t_bag q_t_up t_up q_t_factor t_factor q_t_pairFactor t_pairFactor q_t_forbidden t_forbidden q_t_mayNot t_mayNot q_t_fixed u2 q_t_state t_state q_t_count t_count q_t_best t_best q_t_bests t_bests a1 u3 hu3) kw_451 kw_452 kw_453 kw_343 kw_454 ok_X9_ask ⟨Nat.le_of_ble_eq_true rfl, Nat.le_of_ble_eq_true rfl⟩ hk ⟨rfl, rfl⟩ rfl rfl rfl rfl rfl (Nat.le_of_ble_eq_true rfl) rfl (ws' := [oB q_t 9 [.int t_knots, .ref q_t_weight, .ref q_t_beside, .ref q_t_edge, .int t_rowed, .ref q_t_row, .int t_bags, .ref q_t_bag, .ref q_t_up, .ref q_t_least, .int t_q, .ref q_t_factor, .ref q_t_pairFactor, .ref q_t_forbidden, .ref q_t_mayNot, .ref q_t_fixed, .ref q_t_state, .ref q_t_count, .ref q_t_best, .ref q_t_bests, .long u3.1, .long u3.2.1, .long u3.2.2.1], aI cA q_t_weight 14 t_weight, aI cA q_t_beside 14 t_beside, aI cA q_t_edge 196 t_edge, aI cA q_t_bag 14 t_bag, aI cA q_t_up 14 t_up, aI cA q_t_factor 4 t_factor, aI cA q_t_pairFactor 16 t_pairFactor, aI cA q_t_forbidden 14 t_forbidden, aZ cA q_t_mayNot 16 t_mayNot, aI cA q_t_fixed 14 u2, aI cA q_t_state 14 u3.2.2.2.1, aJ cA q_t_count 14336 u3.2.2.2.2.1, aJ cA q_t_best 14336 u3.2.2.2.2.2.1, aJ cA q_t_bests 14336 u3.2.2.2.2.2.2]) (st' := []) (N0 := 15) rfl [some 0, some 1, some 2, some 3, some 4, some 5, some 6, some 7, some 8, some 9, some 10, some 11, some 12, some 13, some 14] (by decide) rfl rfl ?_
    refine g_aload_n C 20 0 dX9_best_20 rfl rfl ?_
    refine g_get C 21 0 20 dX9_best_21 inX9 rfl rfl (by decide) kw_424 rfl ?_
    refine g_lconst C 24 (0 : Int64) dX9_best_24 (by decide) ?_
    refine g_lcmp C 25 dX9_best_25 ?_
    refine g_if_ne C 26 35 dX9_best_26 (by decide) hf (fun hf => ?_) (fun hf => ?_)
    · refine g_aload_n C 35 0 dX9_best_35 rfl rfl ?_
      refine g_get C 36 0 21 dX9_best_36 inX9 rfl rfl (by decide) kw_425 rfl ?_
      cases hf
      exact g_lret C 39 dX9_best_39 F hB
    · refine g_ldc2 C 29 dX9_best_29 kw_455 ?_
      refine g_goto C 32 39 dX9_best_32 (by decide) ?_
      cases hf
      exact g_lret C 39 dX9_best_39 F hB
  · refine g_ldc2 C 7 dX9_best_7 kw_455 ?_
    cases hf
    exact g_lret C 10 dX9_best_10 F hB

def f_X9_bests (a1 : Int32) (t_knots : Int32) (t_bags : Int32) (t_q : Int32) (t_allCount : Int64) (t_allBest : Int64) (t_allBests : Int64) (t_weight : Nat → Int32) (t_beside : Nat → Int32) (t_edge : Nat → Int32) (t_bag : Nat → Int32) (t_up : Nat → Int32) (t_factor : Nat → Int32) (t_pairFactor : Nat → Int32) (t_forbidden : Nat → Int32) (t_mayNot : Nat → Int32) (t_fixed : Nat → Int32) (t_state : Nat → Int32) (t_count : Nat → Int64) (t_best : Nat → Int64) (t_bests : Nat → Int64) : Option (Int64 × Int64 × Int64 × Int64 × (Nat → Int32) × (Nat → Int32) × (Nat → Int64) × (Nat → Int64) × (Nat → Int64)) :=
  cal (f_X9_isAsked t_knots t_bags t_beside t_bag t_up) fun u1 =>
  if u1 = 0 then
    some ((-9223372036854775808 : Int64), t_allCount, t_allBest, t_allBests, t_fixed, t_state, t_count, t_best, t_bests)
  else
    cal (f_X9_free t_fixed) fun u2 =>
    cal (f_X9_ask a1 t_knots t_bags t_q t_allCount t_allBest t_allBests t_weight t_beside t_edge t_bag t_up t_factor t_pairFactor t_forbidden t_mayNot u2 t_state t_count t_best t_bests) fun u3 =>
    if (lg_cmp u3.1 (0 : Int64)) = 0 then
      some ((-9223372036854775808 : Int64), u3.1, u3.2.1, u3.2.2.1, u2, u3.2.2.2.1, u3.2.2.2.2.1, u3.2.2.2.2.2.1, u3.2.2.2.2.2.2)
    else
      some (u3.2.2.1, u3.1, u3.2.1, u3.2.2.1, u2, u3.2.2.2.1, u3.2.2.2.2.1, u3.2.2.2.2.2.1, u3.2.2.2.2.2.2)

set_option maxRecDepth 100000 in
set_option maxHeartbeats 1000000 in
theorem c_X9_bests (l : Launch) (cA : Nat → ClassId) (q_t : Nat) (t_knots : Int32) (t_rowed : Int32) (q_t_row : Nat) (t_bags : Int32) (q_t_least : Nat) (t_q : Int32) (t_allCount : Int64) (t_allBest : Int64) (t_allBests : Int64) (q_t_weight : Nat) (t_weight : Nat → Int32) (q_t_beside : Nat) (t_beside : Nat → Int32) (q_t_edge : Nat) (t_edge : Nat → Int32) (q_t_bag : Nat) (t_bag : Nat → Int32) (q_t_up : Nat) (t_up : Nat → Int32) (q_t_factor : Nat) (t_factor : Nat → Int32) (q_t_pairFactor : Nat) (t_pairFactor : Nat → Int32) (q_t_forbidden : Nat) (t_forbidden : Nat → Int32) (q_t_mayNot : Nat) (t_mayNot : Nat → Int32) (q_t_fixed : Nat) (t_fixed : Nat → Int32) (q_t_state : Nat) (t_state : Nat → Int32) (q_t_count : Nat) (t_count : Nat → Int64) (q_t_best : Nat) (t_best : Nat → Int64) (q_t_bests : Nat) (t_bests : Nat → Int64)  (a1 : Int32) (r : Int64 × Int64 × Int64 × Int64 × (Nat → Int32) × (Nat → Int32) × (Nat → Int64) × (Nat → Int64) × (Nat → Int64)) (hf : f_X9_bests a1 t_knots t_bags t_q t_allCount t_allBest t_allBests t_weight t_beside t_edge t_bag t_up t_factor t_pairFactor t_forbidden t_mayNot t_fixed t_state t_count t_best t_bests = some r) : MT l cA yX9_bests cX9_bests 2 (some .long) ({ frames := 4, cells := 0, slots := 0, locals := 102 } : Room) [.ref q_t, .int a1] [oB q_t 9 [.int t_knots, .ref q_t_weight, .ref q_t_beside, .ref q_t_edge, .int t_rowed, .ref q_t_row, .int t_bags, .ref q_t_bag, .ref q_t_up, .ref q_t_least, .int t_q, .ref q_t_factor, .ref q_t_pairFactor, .ref q_t_forbidden, .ref q_t_mayNot, .ref q_t_fixed, .ref q_t_state, .ref q_t_count, .ref q_t_best, .ref q_t_bests, .long t_allCount, .long t_allBest, .long t_allBests], aI cA q_t_weight 14 t_weight, aI cA q_t_beside 14 t_beside, aI cA q_t_edge 196 t_edge, aI cA q_t_bag 14 t_bag, aI cA q_t_up 14 t_up, aI cA q_t_factor 4 t_factor, aI cA q_t_pairFactor 16 t_pairFactor, aI cA q_t_forbidden 14 t_forbidden, aZ cA q_t_mayNot 16 t_mayNot, aI cA q_t_fixed 14 t_fixed, aI cA q_t_state 14 t_state, aJ cA q_t_count 14336 t_count, aJ cA q_t_best 14336 t_best, aJ cA q_t_bests 14336 t_bests] (sB (some (.long r.1)) [oB q_t 9 [.int t_knots, .ref q_t_weight, .ref q_t_beside, .ref q_t_edge, .int t_rowed, .ref q_t_row, .int t_bags, .ref q_t_bag, .ref q_t_up, .ref q_t_least, .int t_q, .ref q_t_factor, .ref q_t_pairFactor, .ref q_t_forbidden, .ref q_t_mayNot, .ref q_t_fixed, .ref q_t_state, .ref q_t_count, .ref q_t_best, .ref q_t_bests, .long r.2.1, .long r.2.2.1, .long r.2.2.2.1], aI cA q_t_weight 14 t_weight, aI cA q_t_beside 14 t_beside, aI cA q_t_edge 196 t_edge, aI cA q_t_bag 14 t_bag, aI cA q_t_up 14 t_up, aI cA q_t_factor 4 t_factor, aI cA q_t_pairFactor 16 t_pairFactor, aI cA q_t_forbidden 14 t_forbidden, aZ cA q_t_mayNot 16 t_mayNot, aI cA q_t_fixed 14 r.2.2.2.2.1, aI cA q_t_state 14 r.2.2.2.2.2.1, aJ cA q_t_count 14336 r.2.2.2.2.2.2.1, aJ cA q_t_best 14336 r.2.2.2.2.2.2.2.1, aJ cA q_t_bests 14336 r.2.2.2.2.2.2.2.2]) := by
  refine MT.of (by decide) (Nat.le_of_ble_eq_true rfl) ?_
  intro X hXl C F hnm hrc hrs
  subst hXl
  have hk : 0 ≤ (x_R X).cells ∧ 0 ≤ (x_R X).slots := ⟨Nat.zero_le _, Nat.zero_le _⟩
  have hB : (sB (some (.long r.1)) [oB q_t 9 [.int t_knots, .ref q_t_weight, .ref q_t_beside, .ref q_t_edge, .int t_rowed, .ref q_t_row, .int t_bags, .ref q_t_bag, .ref q_t_up, .ref q_t_least, .int t_q, .ref q_t_factor, .ref q_t_pairFactor, .ref q_t_forbidden, .ref q_t_mayNot, .ref q_t_fixed, .ref q_t_state, .ref q_t_count, .ref q_t_best, .ref q_t_bests, .long r.2.1, .long r.2.2.1, .long r.2.2.2.1], aI cA q_t_weight 14 t_weight, aI cA q_t_beside 14 t_beside, aI cA q_t_edge 196 t_edge, aI cA q_t_bag 14 t_bag, aI cA q_t_up 14 t_up, aI cA q_t_factor 4 t_factor, aI cA q_t_pairFactor 16 t_pairFactor, aI cA q_t_forbidden 14 t_forbidden, aZ cA q_t_mayNot 16 t_mayNot, aI cA q_t_fixed 14 r.2.2.2.2.1, aI cA q_t_state 14 r.2.2.2.2.2.1, aJ cA q_t_count 14336 r.2.2.2.2.2.2.1, aJ cA q_t_best 14336 r.2.2.2.2.2.2.2.1, aJ cA q_t_bests 14336 r.2.2.2.2.2.2.2.2]) (some (.long r.1)) [oB q_t 9 [.int t_knots, .ref q_t_weight, .ref q_t_beside, .ref q_t_edge, .int t_rowed, .ref q_t_row, .int t_bags, .ref q_t_bag, .ref q_t_up, .ref q_t_least, .int t_q, .ref q_t_factor, .ref q_t_pairFactor, .ref q_t_forbidden, .ref q_t_mayNot, .ref q_t_fixed, .ref q_t_state, .ref q_t_count, .ref q_t_best, .ref q_t_bests, .long r.2.1, .long r.2.2.1, .long r.2.2.2.1], aI cA q_t_weight 14 t_weight, aI cA q_t_beside 14 t_beside, aI cA q_t_edge 196 t_edge, aI cA q_t_bag 14 t_bag, aI cA q_t_up 14 t_up, aI cA q_t_factor 4 t_factor, aI cA q_t_pairFactor 16 t_pairFactor, aI cA q_t_forbidden 14 t_forbidden, aZ cA q_t_mayNot 16 t_mayNot, aI cA q_t_fixed 14 r.2.2.2.2.1, aI cA q_t_state 14 r.2.2.2.2.2.1, aJ cA q_t_count 14336 r.2.2.2.2.2.2.1, aJ cA q_t_best 14336 r.2.2.2.2.2.2.2.1, aJ cA q_t_bests 14336 r.2.2.2.2.2.2.2.2] := ⟨rfl, rfl⟩
  unfold f_X9_bests at hf
  have C : Cx X cX9_bests RX9 (some .long) cA 4 102 2 := C
  show Go X 2 0 0 0 [oB q_t 9 [.int t_knots, .ref q_t_weight, .ref q_t_beside, .ref q_t_edge, .int t_rowed, .ref q_t_row, .int t_bags, .ref q_t_bag, .ref q_t_up, .ref q_t_least, .int t_q, .ref q_t_factor, .ref q_t_pairFactor, .ref q_t_forbidden, .ref q_t_mayNot, .ref q_t_fixed, .ref q_t_state, .ref q_t_count, .ref q_t_best, .ref q_t_bests, .long t_allCount, .long t_allBest, .long t_allBests], aI cA q_t_weight 14 t_weight, aI cA q_t_beside 14 t_beside, aI cA q_t_edge 196 t_edge, aI cA q_t_bag 14 t_bag, aI cA q_t_up 14 t_up, aI cA q_t_factor 4 t_factor, aI cA q_t_pairFactor 16 t_pairFactor, aI cA q_t_forbidden 14 t_forbidden, aZ cA q_t_mayNot 16 t_mayNot, aI cA q_t_fixed 14 t_fixed, aI cA q_t_state 14 t_state, aJ cA q_t_count 14336 t_count, aJ cA q_t_best 14336 t_best, aJ cA q_t_bests 14336 t_bests] [(0, .ref q_t), (1, .int a1)] []
  refine g_aload_n C 0 0 dX9_bests_0 rfl rfl ?_
  obtain ⟨u1, hu1, hf⟩ := cal_some hf
  refine g_callV1 C 1 [0, 2, 4, 5] 0 (rest := []) dX9_bests_1 (c_X9_isAsked (x_l X) cA q_t t_knots q_t_weight q_t_edge t_rowed q_t_row t_bags q_t_least t_q q_t_factor q_t_pairFactor q_t_forbidden q_t_mayNot q_t_fixed q_t_state q_t_count q_t_best q_t_bests t_allCount t_allBest t_allBests q_t_beside t_beside q_t_bag t_bag q_t_up t_up u1 hu1) kw_443 kw_444 kw_445 kw_343 kw_446 ok_X9_isAsked ⟨Nat.le_of_ble_eq_true rfl, Nat.le_of_ble_eq_true rfl⟩ hk ⟨rfl, rfl⟩ rfl rfl rfl rfl rfl (Nat.le_of_ble_eq_true rfl) rfl (ws' := [oB q_t 9 [.int t_knots, .ref q_t_weight, .ref q_t_beside, .ref q_t_edge, .int t_rowed, .ref q_t_row, .int t_bags, .ref q_t_bag, .ref q_t_up, .ref q_t_least, .int t_q, .ref q_t_factor, .ref q_t_pairFactor, .ref q_t_forbidden, .ref q_t_mayNot, .ref q_t_fixed, .ref q_t_state, .ref q_t_count, .ref q_t_best, .ref q_t_bests, .long t_allCount, .long t_allBest, .long t_allBests], aI cA q_t_weight 14 t_weight, aI cA q_t_beside 14 t_beside, aI cA q_t_edge 196 t_edge, aI cA q_t_bag 14 t_bag, aI cA q_t_up 14 t_up, aI cA q_t_factor 4 t_factor, aI cA q_t_pairFactor 16 t_pairFactor, aI cA q_t_forbidden 14 t_forbidden, aZ cA q_t_mayNot 16 t_mayNot, aI cA q_t_fixed 14 t_fixed, aI cA q_t_state 14 t_state, aJ cA q_t_count 14336 t_count, aJ cA q_t_best 14336 t_best, aJ cA q_t_bests 14336 t_bests]) (st' := [.int u1]) (N0 := 15) rfl [some 0, none, some 1, none, some 2, some 3, none, none, none, none, none, none, none, none, none] (by decide) rfl rfl ?_
  refine g_if_ne C 4 11 dX9_bests_4 (by decide) hf (fun hf => ?_) (fun hf => ?_)
  · refine g_aload_n C 11 0 dX9_bests_11 rfl rfl ?_
    obtain ⟨u2, hu2, hf⟩ := cal_some hf
    refine g_callV1 C 12 [0, 10] 0 (rest := []) dX9_bests_12 (c_X9_free (x_l X) cA q_t t_knots q_t_weight q_t_beside q_t_edge t_rowed q_t_row t_bags q_t_bag q_t_up q_t_least t_q q_t_factor q_t_pairFactor q_t_forbidden q_t_mayNot q_t_state q_t_count q_t_best q_t_bests t_allCount t_allBest t_allBests q_t_fixed t_fixed u2 hu2) kw_447 kw_448 kw_449 kw_343 kw_450 ok_X9_free ⟨Nat.le_of_ble_eq_true rfl, Nat.le_of_ble_eq_true rfl⟩ hk ⟨rfl, rfl⟩ rfl rfl rfl rfl rfl (Nat.le_of_ble_eq_true rfl) rfl (ws' := [oB q_t 9 [.int t_knots, .ref q_t_weight, .ref q_t_beside, .ref q_t_edge, .int t_rowed, .ref q_t_row, .int t_bags, .ref q_t_bag, .ref q_t_up, .ref q_t_least, .int t_q, .ref q_t_factor, .ref q_t_pairFactor, .ref q_t_forbidden, .ref q_t_mayNot, .ref q_t_fixed, .ref q_t_state, .ref q_t_count, .ref q_t_best, .ref q_t_bests, .long t_allCount, .long t_allBest, .long t_allBests], aI cA q_t_weight 14 t_weight, aI cA q_t_beside 14 t_beside, aI cA q_t_edge 196 t_edge, aI cA q_t_bag 14 t_bag, aI cA q_t_up 14 t_up, aI cA q_t_factor 4 t_factor, aI cA q_t_pairFactor 16 t_pairFactor, aI cA q_t_forbidden 14 t_forbidden, aZ cA q_t_mayNot 16 t_mayNot, aI cA q_t_fixed 14 u2, aI cA q_t_state 14 t_state, aJ cA q_t_count 14336 t_count, aJ cA q_t_best 14336 t_best, aJ cA q_t_bests 14336 t_bests]) (st' := []) (N0 := 15) rfl [some 0, none, none, none, none, none, none, none, none, none, some 1, none, none, none, none] (by decide) rfl rfl ?_
    refine g_aload_n C 15 0 dX9_bests_15 rfl rfl ?_
    refine g_iload_n C 16 1 dX9_bests_16 rfl rfl ?_
    obtain ⟨u3, hu3, hf⟩ := cal_some hf
    refine g_callV1 C 17 [0, 1, 2, 3, 4, 5, 6, 7, 8, 9, 10, 11, 12, 13, 14] 0 (rest := []) dX9_bests_17 (c_X9_ask (x_l X) cA q_t t_knots t_rowed q_t_row t_bags q_t_least t_q t_allCount t_allBest t_allBests q_t_weight t_weight q_t_beside t_beside q_t_edge t_edge q_t_bag t_bag q_t_up t_up q_t_factor t_factor q_t_pairFactor t_pairFactor q_t_forbidden t_forbidden q_t_mayNot t_mayNot q_t_fixed u2 q_t_state t_state q_t_count t_count q_t_best t_best q_t_bests t_bests a1 u3 hu3) kw_451 kw_452 kw_453 kw_343 kw_454 ok_X9_ask ⟨Nat.le_of_ble_eq_true rfl, Nat.le_of_ble_eq_true rfl⟩ hk ⟨rfl, rfl⟩ rfl rfl rfl rfl rfl (Nat.le_of_ble_eq_true rfl) rfl (ws' := [oB q_t 9 [.int t_knots, .ref q_t_weight, .ref q_t_beside, .ref q_t_edge, .int t_rowed, .ref q_t_row, .int t_bags, .ref q_t_bag, .ref q_t_up, .ref q_t_least, .int t_q, .ref q_t_factor, .ref q_t_pairFactor, .ref q_t_forbidden, .ref q_t_mayNot, .ref q_t_fixed, .ref q_t_state, .ref q_t_count, .ref q_t_best, .ref q_t_bests, .long u3.1, .long u3.2.1, .long u3.2.2.1], aI cA q_t_weight 14 t_weight, aI cA q_t_beside 14 t_beside, aI cA q_t_edge 196 t_edge, aI cA q_t_bag 14 t_bag, aI cA q_t_up 14 t_up, aI cA q_t_factor 4 t_factor, aI cA q_t_pairFactor 16 t_pairFactor, aI cA q_t_forbidden 14 t_forbidden, aZ cA q_t_mayNot 16 t_mayNot, aI cA q_t_fixed 14 u2, aI cA q_t_state 14 u3.2.2.2.1, aJ cA q_t_count 14336 u3.2.2.2.2.1, aJ cA q_t_best 14336 u3.2.2.2.2.2.1, aJ cA q_t_bests 14336 u3.2.2.2.2.2.2]) (st' := []) (N0 := 15) rfl [some 0, some 1, some 2, some 3, some 4, some 5, some 6, some 7, some 8, some 9, some 10, some 11, some 12, some 13, some 14] (by decide) rfl rfl ?_
    refine g_aload_n C 20 0 dX9_bests_20 rfl rfl ?_
    refine g_get C 21 0 20 dX9_bests_21 inX9 rfl rfl (by decide) kw_424 rfl ?_
    refine g_lconst C 24 (0 : Int64) dX9_bests_24 (by decide) ?_
    refine g_lcmp C 25 dX9_bests_25 ?_
    refine g_if_ne C 26 35 dX9_bests_26 (by decide) hf (fun hf => ?_) (fun hf => ?_)
    · refine g_aload_n C 35 0 dX9_bests_35 rfl rfl ?_
      refine g_get C 36 0 22 dX9_bests_36 inX9 rfl rfl (by decide) kw_426 rfl ?_
      cases hf
      exact g_lret C 39 dX9_bests_39 F hB
    · refine g_ldc2 C 29 dX9_bests_29 kw_455 ?_
      refine g_goto C 32 39 dX9_bests_32 (by decide) ?_
      cases hf
      exact g_lret C 39 dX9_bests_39 F hB
  · refine g_ldc2 C 7 dX9_bests_7 kw_455 ?_
    cases hf
    exact g_lret C 10 dX9_bests_10 F hB

def L_X9_choice_60 (a1 : Int32) (a2 : Int32) (t_knots : Int32) (t_bags : Int32) (t_q : Int32) (t_weight : Nat → Int32) (t_beside : Nat → Int32) (t_edge : Nat → Int32) (t_bag : Nat → Int32) (t_up : Nat → Int32) (t_factor : Nat → Int32) (t_pairFactor : Nat → Int32) (t_forbidden : Nat → Int32) (t_mayNot : Nat → Int32) (k_48 : Int64 → Int32 → Int64 → Int64 → Int64 → (Nat → Int32) → (Nat → Int32) → (Nat → Int64) → (Nat → Int64) → (Nat → Int64) → Option (Int32 × Int64 × Int64 × Int64 × (Nat → Int32) × (Nat → Int32) × (Nat → Int64) × (Nat → Int64) × (Nat → Int64))) : Nat → Int64 → Int32 → Int32 → Int32 → Int64 → Int64 → Int64 → (Nat → Int32) → (Nat → Int32) → (Nat → Int64) → (Nat → Int64) → (Nat → Int64) → Option (Int32 × Int64 × Int64 × Int64 × (Nat → Int32) × (Nat → Int32) × (Nat → Int64) × (Nat → Int64) × (Nat → Int64))
  | 0, _, _, _, _, _, _, _, _, _, _, _, _ => none
  | n + 1, x3, x5, x6, x7, t_allCount, t_allBest, t_allBests, t_fixed, t_state, t_count, t_best, t_bests =>
    if t_q ≤ x7 then
      bnd (x5 + (1 : Int32)) fun x5_10 =>
      k_48 x3 x5_10 t_allCount t_allBest t_allBests t_fixed t_state t_count t_best t_bests
    else
      if x6 = 0 then
        stI t_fixed 14 x5 x7 fun t_fixed_12 =>
        cal (f_X9_ask a1 t_knots t_bags t_q t_allCount t_allBest t_allBests t_weight t_beside t_edge t_bag t_up t_factor t_pairFactor t_forbidden t_mayNot t_fixed_12 t_state t_count t_best t_bests) fun u13 =>
        if (lg_cmp u13.1 (0 : Int64)) ≤ 0 then
          bnd (0 : Int32) fun x6_14 =>
          bnd (x7 + (1 : Int32)) fun x7_15 =>
          L_X9_choice_60 a1 a2 t_knots t_bags t_q t_weight t_beside t_edge t_bag t_up t_factor t_pairFactor t_forbidden t_mayNot k_48 n x3 x5 x6_14 x7_15 u13.1 u13.2.1 u13.2.2.1 t_fixed_12 u13.2.2.2.1 u13.2.2.2.2.1 u13.2.2.2.2.2.1 u13.2.2.2.2.2.2
        else
          if (lg_cmp u13.2.1 x3) = 0 then
            bnd (1 : Int32) fun x6_18 =>
            bnd (x7 + (1 : Int32)) fun x7_19 =>
            L_X9_choice_60 a1 a2 t_knots t_bags t_q t_weight t_beside t_edge t_bag t_up t_factor t_pairFactor t_forbidden t_mayNot k_48 n x3 x5 x6_18 x7_19 u13.1 u13.2.1 u13.2.2.1 t_fixed_12 u13.2.2.2.1 u13.2.2.2.2.1 u13.2.2.2.2.2.1 u13.2.2.2.2.2.2
          else
            bnd (0 : Int32) fun x6_16 =>
            bnd (x7 + (1 : Int32)) fun x7_17 =>
            L_X9_choice_60 a1 a2 t_knots t_bags t_q t_weight t_beside t_edge t_bag t_up t_factor t_pairFactor t_forbidden t_mayNot k_48 n x3 x5 x6_16 x7_17 u13.1 u13.2.1 u13.2.2.1 t_fixed_12 u13.2.2.2.1 u13.2.2.2.2.1 u13.2.2.2.2.2.1 u13.2.2.2.2.2.2
      else
        bnd (x5 + (1 : Int32)) fun x5_11 =>
        k_48 x3 x5_11 t_allCount t_allBest t_allBests t_fixed t_state t_count t_best t_bests

set_option maxRecDepth 100000 in
set_option maxHeartbeats 1000000 in
theorem w_X9_choice_60 (cA : Nat → ClassId) (q_t : Nat) (t_rowed : Int32) (q_t_row : Nat) (q_t_least : Nat) (q_t_weight : Nat) (q_t_beside : Nat) (q_t_edge : Nat) (q_t_bag : Nat) (q_t_up : Nat) (q_t_factor : Nat) (q_t_pairFactor : Nat) (q_t_forbidden : Nat) (q_t_mayNot : Nat) (q_t_fixed : Nat) (q_t_state : Nat) (q_t_count : Nat) (q_t_best : Nat) (q_t_bests : Nat) (a1 : Int32) (a2 : Int32) (t_knots : Int32) (t_bags : Int32) (t_q : Int32) (t_weight : Nat → Int32) (t_beside : Nat → Int32) (t_edge : Nat → Int32) (t_bag : Nat → Int32) (t_up : Nat → Int32) (t_factor : Nat → Int32) (t_pairFactor : Nat → Int32) (t_forbidden : Nat → Int32) (t_mayNot : Nat → Int32) {X : XT}  (C : Cx X cX9_choice RX9 (some .int) cA 4 102 8) {kk nn : Nat} {BB : Option Value → va_W → Prop} (hk : kk ≤ (x_R X).cells ∧ nn ≤ (x_R X).slots) (F : Fx X BB kk nn) (r : Int32 × Int64 × Int64 × Int64 × (Nat → Int32) × (Nat → Int32) × (Nat → Int64) × (Nat → Int64) × (Nat → Int64)) (hB : BB (some (.int r.1)) [oB q_t 9 [.int t_knots, .ref q_t_weight, .ref q_t_beside, .ref q_t_edge, .int t_rowed, .ref q_t_row, .int t_bags, .ref q_t_bag, .ref q_t_up, .ref q_t_least, .int t_q, .ref q_t_factor, .ref q_t_pairFactor, .ref q_t_forbidden, .ref q_t_mayNot, .ref q_t_fixed, .ref q_t_state, .ref q_t_count, .ref q_t_best, .ref q_t_bests, .long r.2.1, .long r.2.2.1, .long r.2.2.2.1], aI cA q_t_weight 14 t_weight, aI cA q_t_beside 14 t_beside, aI cA q_t_edge 196 t_edge, aI cA q_t_bag 14 t_bag, aI cA q_t_up 14 t_up, aI cA q_t_factor 4 t_factor, aI cA q_t_pairFactor 16 t_pairFactor, aI cA q_t_forbidden 14 t_forbidden, aZ cA q_t_mayNot 16 t_mayNot, aI cA q_t_fixed 14 r.2.2.2.2.1, aI cA q_t_state 14 r.2.2.2.2.2.1, aJ cA q_t_count 14336 r.2.2.2.2.2.2.1, aJ cA q_t_best 14336 r.2.2.2.2.2.2.2.1, aJ cA q_t_bests 14336 r.2.2.2.2.2.2.2.2]) (k_48 : Int64 → Int32 → Int64 → Int64 → Int64 → (Nat → Int32) → (Nat → Int32) → (Nat → Int64) → (Nat → Int64) → (Nat → Int64) → Option (Int32 × Int64 × Int64 × Int64 × (Nat → Int32) × (Nat → Int32) × (Nat → Int64) × (Nat → Int64) × (Nat → Int64))) (h_48 : ∀ (x3 : Int64) (x5 : Int32) (t_allCount : Int64) (t_allBest : Int64) (t_allBests : Int64) (t_fixed : Nat → Int32) (t_state : Nat → Int32) (t_count : Nat → Int64) (t_best : Nat → Int64) (t_bests : Nat → Int64), k_48 x3 x5 t_allCount t_allBest t_allBests t_fixed t_state t_count t_best t_bests = some r → Go X 8 kk nn 48 [oB q_t 9 [.int t_knots, .ref q_t_weight, .ref q_t_beside, .ref q_t_edge, .int t_rowed, .ref q_t_row, .int t_bags, .ref q_t_bag, .ref q_t_up, .ref q_t_least, .int t_q, .ref q_t_factor, .ref q_t_pairFactor, .ref q_t_forbidden, .ref q_t_mayNot, .ref q_t_fixed, .ref q_t_state, .ref q_t_count, .ref q_t_best, .ref q_t_bests, .long t_allCount, .long t_allBest, .long t_allBests], aI cA q_t_weight 14 t_weight, aI cA q_t_beside 14 t_beside, aI cA q_t_edge 196 t_edge, aI cA q_t_bag 14 t_bag, aI cA q_t_up 14 t_up, aI cA q_t_factor 4 t_factor, aI cA q_t_pairFactor 16 t_pairFactor, aI cA q_t_forbidden 14 t_forbidden, aZ cA q_t_mayNot 16 t_mayNot, aI cA q_t_fixed 14 t_fixed, aI cA q_t_state 14 t_state, aJ cA q_t_count 14336 t_count, aJ cA q_t_best 14336 t_best, aJ cA q_t_bests 14336 t_bests] [(0, .ref q_t), (1, .int a1), (2, .int a2), (3, .long x3), (5, .int x5)] []) : ∀ (n : Nat) (x3 : Int64) (x5 : Int32) (x6 : Int32) (x7 : Int32) (t_allCount : Int64) (t_allBest : Int64) (t_allBests : Int64) (t_fixed : Nat → Int32) (t_state : Nat → Int32) (t_count : Nat → Int64) (t_best : Nat → Int64) (t_bests : Nat → Int64), L_X9_choice_60 a1 a2 t_knots t_bags t_q t_weight t_beside t_edge t_bag t_up t_factor t_pairFactor t_forbidden t_mayNot k_48 n x3 x5 x6 x7 t_allCount t_allBest t_allBests t_fixed t_state t_count t_best t_bests = some r → Go X 8 kk nn 60 [oB q_t 9 [.int t_knots, .ref q_t_weight, .ref q_t_beside, .ref q_t_edge, .int t_rowed, .ref q_t_row, .int t_bags, .ref q_t_bag, .ref q_t_up, .ref q_t_least, .int t_q, .ref q_t_factor, .ref q_t_pairFactor, .ref q_t_forbidden, .ref q_t_mayNot, .ref q_t_fixed, .ref q_t_state, .ref q_t_count, .ref q_t_best, .ref q_t_bests, .long t_allCount, .long t_allBest, .long t_allBests], aI cA q_t_weight 14 t_weight, aI cA q_t_beside 14 t_beside, aI cA q_t_edge 196 t_edge, aI cA q_t_bag 14 t_bag, aI cA q_t_up 14 t_up, aI cA q_t_factor 4 t_factor, aI cA q_t_pairFactor 16 t_pairFactor, aI cA q_t_forbidden 14 t_forbidden, aZ cA q_t_mayNot 16 t_mayNot, aI cA q_t_fixed 14 t_fixed, aI cA q_t_state 14 t_state, aJ cA q_t_count 14336 t_count, aJ cA q_t_best 14336 t_best, aJ cA q_t_bests 14336 t_bests] [(0, .ref q_t), (1, .int a1), (2, .int a2), (3, .long x3), (5, .int x5), (6, .int x6), (7, .int x7)] [] := by
  intro n
  induction n with
  | zero => intro x3 x5 x6 x7 t_allCount t_allBest t_allBests t_fixed t_state t_count t_best t_bests hf; exact no_some hf
  | succ n ih =>
    intro x3 x5 x6 x7 t_allCount t_allBest t_allBests t_fixed t_state t_count t_best t_bests hf
    rw [L_X9_choice_60] at hf
    refine g_iload C 60 6 dX9_choice_60 rfl ?_
    refine g_aload_n C 62 0 dX9_choice_62 rfl rfl ?_
    refine g_get C 63 0 10 dX9_choice_63 inX9 rfl rfl (by decide) kw_398 rfl ?_
    refine g_icmp_ge C 66 119 dX9_choice_66 (by decide) hf (fun hf => ?_) (fun hf => ?_)
    · refine g_iinc C 119 4 (v := x5 + (1 : Int32)) (fun z => [(5, .int z), (0, .ref q_t), (1, .int a1), (2, .int a2), (3, .long x3), (6, .int x6), (7, .int x7)]) dX9_choice_119 rfl rfl (by decide) (fun _ => rfl) hf (fun x5_10 hf => ?_)
      refine g_goto C 122 48 dX9_choice_122 (by decide) ?_
      refine g_lv [1, 2, 3, 4, 0] rfl ?_
      exact h_48 x3 x5_10 t_allCount t_allBest t_allBests t_fixed t_state t_count t_best t_bests hf
    · refine g_iload C 69 5 dX9_choice_69 rfl ?_
      refine g_if_ne C 71 119 dX9_choice_71 (by decide) hf (fun hf => ?_) (fun hf => ?_)
      · refine g_iinc C 119 4 (v := x5 + (1 : Int32)) (fun z => [(5, .int z), (0, .ref q_t), (1, .int a1), (2, .int a2), (3, .long x3), (6, .int x6), (7, .int x7)]) dX9_choice_119 rfl rfl (by decide) (fun _ => rfl) hf (fun x5_11 hf => ?_)
        refine g_goto C 122 48 dX9_choice_122 (by decide) ?_
        refine g_lv [1, 2, 3, 4, 0] rfl ?_
        exact h_48 x3 x5_11 t_allCount t_allBest t_allBests t_fixed t_state t_count t_best t_bests hf
      · refine g_aload_n C 74 0 dX9_choice_74 rfl rfl ?_
        refine g_get C 75 0 15 dX9_choice_75 inX9 rfl rfl (by decide) kw_411 rfl ?_
        refine g_iload C 78 4 dX9_choice_78 rfl ?_
        refine g_iload C 80 6 dX9_choice_80 rfl ?_
        refine g_iast C 82 10 (fun z => [oB q_t 9 [.int t_knots, .ref q_t_weight, .ref q_t_beside, .ref q_t_edge, .int t_rowed, .ref q_t_row, .int t_bags, .ref q_t_bag, .ref q_t_up, .ref q_t_least, .int t_q, .ref q_t_factor, .ref q_t_pairFactor, .ref q_t_forbidden, .ref q_t_mayNot, .ref q_t_fixed, .ref q_t_state, .ref q_t_count, .ref q_t_best, .ref q_t_bests, .long t_allCount, .long t_allBest, .long t_allBests], aI cA q_t_weight 14 t_weight, aI cA q_t_beside 14 t_beside, aI cA q_t_edge 196 t_edge, aI cA q_t_bag 14 t_bag, aI cA q_t_up 14 t_up, aI cA q_t_factor 4 t_factor, aI cA q_t_pairFactor 16 t_pairFactor, aI cA q_t_forbidden 14 t_forbidden, aZ cA q_t_mayNot 16 t_mayNot, aI cA q_t_fixed 14 z, aI cA q_t_state 14 t_state, aJ cA q_t_count 14336 t_count, aJ cA q_t_best 14336 t_best, aJ cA q_t_bests 14336 t_bests]) dX9_choice_82 rfl (fun _ => rfl) hf (fun t_fixed_12 hf => ?_)
        refine g_aload_n C 83 0 dX9_choice_83 rfl rfl ?_
        refine g_iload_n C 84 1 dX9_choice_84 rfl rfl ?_
        obtain ⟨u13, hu13, hf⟩ := cal_some hf
        refine g_callV1 C 85 [0, 1, 2, 3, 4, 5, 6, 7, 8, 9, 10, 11, 12, 13, 14] 0 (rest := []) dX9_choice_85 (c_X9_ask (x_l X) cA q_t t_knots t_rowed q_t_row t_bags q_t_least t_q t_allCount t_allBest t_allBests q_t_weight t_weight q_t_beside t_beside q_t_edge t_edge q_t_bag t_bag q_t_up t_up q_t_factor t_factor q_t_pairFactor t_pairFactor q_t_forbidden t_forbidden q_t_mayNot t_mayNot q_t_fixed t_fixed_12 q_t_state t_state q_t_count t_count q_t_best t_best q_t_bests t_bests a1 u13 hu13) kw_451 kw_452 kw_453 kw_343 kw_454 ok_X9_ask ⟨Nat.le_of_ble_eq_true rfl, Nat.le_of_ble_eq_true rfl⟩ hk ⟨rfl, rfl⟩ rfl rfl rfl rfl rfl (Nat.le_of_ble_eq_true rfl) rfl (ws' := [oB q_t 9 [.int t_knots, .ref q_t_weight, .ref q_t_beside, .ref q_t_edge, .int t_rowed, .ref q_t_row, .int t_bags, .ref q_t_bag, .ref q_t_up, .ref q_t_least, .int t_q, .ref q_t_factor, .ref q_t_pairFactor, .ref q_t_forbidden, .ref q_t_mayNot, .ref q_t_fixed, .ref q_t_state, .ref q_t_count, .ref q_t_best, .ref q_t_bests, .long u13.1, .long u13.2.1, .long u13.2.2.1], aI cA q_t_weight 14 t_weight, aI cA q_t_beside 14 t_beside, aI cA q_t_edge 196 t_edge, aI cA q_t_bag 14 t_bag, aI cA q_t_up 14 t_up, aI cA q_t_factor 4 t_factor, aI cA q_t_pairFactor 16 t_pairFactor, aI cA q_t_forbidden 14 t_forbidden, aZ cA q_t_mayNot 16 t_mayNot, aI cA q_t_fixed 14 t_fixed_12, aI cA q_t_state 14 u13.2.2.2.1, aJ cA q_t_count 14336 u13.2.2.2.2.1, aJ cA q_t_best 14336 u13.2.2.2.2.2.1, aJ cA q_t_bests 14336 u13.2.2.2.2.2.2]) (st' := []) (N0 := 15) rfl [some 0, some 1, some 2, some 3, some 4, some 5, some 6, some 7, some 8, some 9, some 10, some 11, some 12, some 13, some 14] (by decide) rfl rfl ?_
        refine g_aload_n C 88 0 dX9_choice_88 rfl rfl ?_
        refine g_get C 89 0 20 dX9_choice_89 inX9 rfl rfl (by decide) kw_424 rfl ?_
        refine g_lconst C 92 (0 : Int64) dX9_choice_92 (by decide) ?_
        refine g_lcmp C 93 dX9_choice_93 ?_
        refine g_if_le C 94 110 dX9_choice_94 (by decide) hf (fun hf => ?_) (fun hf => ?_)
        · refine g_iconst C 110 (0 : Int32) dX9_choice_110 (by decide) ?_
          refine g_istore C 111 (fun z => [(6, .int z), (0, .ref q_t), (1, .int a1), (2, .int a2), (3, .long x3), (5, .int x5), (7, .int x7)]) dX9_choice_111 (by decide) (fun _ => rfl) hf (fun x6_14 hf => ?_)
          refine g_iinc C 113 6 (v := x7 + (1 : Int32)) (fun z => [(7, .int z), (6, .int x6_14), (0, .ref q_t), (1, .int a1), (2, .int a2), (3, .long x3), (5, .int x5)]) dX9_choice_113 rfl rfl (by decide) (fun _ => rfl) hf (fun x7_15 hf => ?_)
          refine g_goto C 116 60 dX9_choice_116 (by decide) ?_
          refine g_lv [2, 3, 4, 5, 6, 1, 0] rfl ?_
          exact ih x3 x5 x6_14 x7_15 u13.1 u13.2.1 u13.2.2.1 t_fixed_12 u13.2.2.2.1 u13.2.2.2.2.1 u13.2.2.2.2.2.1 u13.2.2.2.2.2.2 hf
        · refine g_aload_n C 97 0 dX9_choice_97 rfl rfl ?_
          refine g_get C 98 0 21 dX9_choice_98 inX9 rfl rfl (by decide) kw_425 rfl ?_
          refine g_lload_n C 101 3 dX9_choice_101 rfl rfl ?_
          refine g_lcmp C 102 dX9_choice_102 ?_
          refine g_if_ne C 103 110 dX9_choice_103 (by decide) hf (fun hf => ?_) (fun hf => ?_)
          · refine g_iconst C 110 (0 : Int32) dX9_choice_110 (by decide) ?_
            refine g_istore C 111 (fun z => [(6, .int z), (0, .ref q_t), (1, .int a1), (2, .int a2), (3, .long x3), (5, .int x5), (7, .int x7)]) dX9_choice_111 (by decide) (fun _ => rfl) hf (fun x6_16 hf => ?_)
            refine g_iinc C 113 6 (v := x7 + (1 : Int32)) (fun z => [(7, .int z), (6, .int x6_16), (0, .ref q_t), (1, .int a1), (2, .int a2), (3, .long x3), (5, .int x5)]) dX9_choice_113 rfl rfl (by decide) (fun _ => rfl) hf (fun x7_17 hf => ?_)
            refine g_goto C 116 60 dX9_choice_116 (by decide) ?_
            refine g_lv [2, 3, 4, 5, 6, 1, 0] rfl ?_
            exact ih x3 x5 x6_16 x7_17 u13.1 u13.2.1 u13.2.2.1 t_fixed_12 u13.2.2.2.1 u13.2.2.2.2.1 u13.2.2.2.2.2.1 u13.2.2.2.2.2.2 hf
          · refine g_iconst C 106 (1 : Int32) dX9_choice_106 (by decide) ?_
            refine g_goto C 107 111 dX9_choice_107 (by decide) ?_
            refine g_istore C 111 (fun z => [(6, .int z), (0, .ref q_t), (1, .int a1), (2, .int a2), (3, .long x3), (5, .int x5), (7, .int x7)]) dX9_choice_111 (by decide) (fun _ => rfl) hf (fun x6_18 hf => ?_)
            refine g_iinc C 113 6 (v := x7 + (1 : Int32)) (fun z => [(7, .int z), (6, .int x6_18), (0, .ref q_t), (1, .int a1), (2, .int a2), (3, .long x3), (5, .int x5)]) dX9_choice_113 rfl rfl (by decide) (fun _ => rfl) hf (fun x7_19 hf => ?_)
            refine g_goto C 116 60 dX9_choice_116 (by decide) ?_
            refine g_lv [2, 3, 4, 5, 6, 1, 0] rfl ?_
            exact ih x3 x5 x6_18 x7_19 u13.1 u13.2.1 u13.2.2.1 t_fixed_12 u13.2.2.2.1 u13.2.2.2.2.1 u13.2.2.2.2.2.1 u13.2.2.2.2.2.2 hf
def L_X9_choice_48 (a1 : Int32) (a2 : Int32) (t_knots : Int32) (t_bags : Int32) (t_q : Int32) (t_weight : Nat → Int32) (t_beside : Nat → Int32) (t_edge : Nat → Int32) (t_bag : Nat → Int32) (t_up : Nat → Int32) (t_factor : Nat → Int32) (t_pairFactor : Nat → Int32) (t_forbidden : Nat → Int32) (t_mayNot : Nat → Int32)  : Nat → Int64 → Int32 → Int64 → Int64 → Int64 → (Nat → Int32) → (Nat → Int32) → (Nat → Int64) → (Nat → Int64) → (Nat → Int64) → Option (Int32 × Int64 × Int64 × Int64 × (Nat → Int32) × (Nat → Int32) × (Nat → Int64) × (Nat → Int64) × (Nat → Int64))
  | 0, _, _, _, _, _, _, _, _, _, _ => none
  | n + 1, x3, x5, t_allCount, t_allBest, t_allBests, t_fixed, t_state, t_count, t_best, t_bests =>
    if a2 < x5 then
      ldA t_fixed 14 a2 fun v7 =>
      some (v7, t_allCount, t_allBest, t_allBests, t_fixed, t_state, t_count, t_best, t_bests)
    else
      bnd (0 : Int32) fun x6_8 =>
      bnd (0 : Int32) fun x7_9 =>
      L_X9_choice_60 a1 a2 t_knots t_bags t_q t_weight t_beside t_edge t_bag t_up t_factor t_pairFactor t_forbidden t_mayNot (fun y0 y1 y2 y3 y4 y5 y6 y7 y8 y9 => L_X9_choice_48 a1 a2 t_knots t_bags t_q t_weight t_beside t_edge t_bag t_up t_factor t_pairFactor t_forbidden t_mayNot n y0 y1 y2 y3 y4 y5 y6 y7 y8 y9) NN x3 x5 x6_8 x7_9 t_allCount t_allBest t_allBests t_fixed t_state t_count t_best t_bests

set_option maxRecDepth 100000 in
set_option maxHeartbeats 1000000 in
theorem w_X9_choice_48 (cA : Nat → ClassId) (q_t : Nat) (t_rowed : Int32) (q_t_row : Nat) (q_t_least : Nat) (q_t_weight : Nat) (q_t_beside : Nat) (q_t_edge : Nat) (q_t_bag : Nat) (q_t_up : Nat) (q_t_factor : Nat) (q_t_pairFactor : Nat) (q_t_forbidden : Nat) (q_t_mayNot : Nat) (q_t_fixed : Nat) (q_t_state : Nat) (q_t_count : Nat) (q_t_best : Nat) (q_t_bests : Nat) (a1 : Int32) (a2 : Int32) (t_knots : Int32) (t_bags : Int32) (t_q : Int32) (t_weight : Nat → Int32) (t_beside : Nat → Int32) (t_edge : Nat → Int32) (t_bag : Nat → Int32) (t_up : Nat → Int32) (t_factor : Nat → Int32) (t_pairFactor : Nat → Int32) (t_forbidden : Nat → Int32) (t_mayNot : Nat → Int32) {X : XT}  (C : Cx X cX9_choice RX9 (some .int) cA 4 102 8) {kk nn : Nat} {BB : Option Value → va_W → Prop} (hk : kk ≤ (x_R X).cells ∧ nn ≤ (x_R X).slots) (F : Fx X BB kk nn) (r : Int32 × Int64 × Int64 × Int64 × (Nat → Int32) × (Nat → Int32) × (Nat → Int64) × (Nat → Int64) × (Nat → Int64)) (hB : BB (some (.int r.1)) [oB q_t 9 [.int t_knots, .ref q_t_weight, .ref q_t_beside, .ref q_t_edge, .int t_rowed, .ref q_t_row, .int t_bags, .ref q_t_bag, .ref q_t_up, .ref q_t_least, .int t_q, .ref q_t_factor, .ref q_t_pairFactor, .ref q_t_forbidden, .ref q_t_mayNot, .ref q_t_fixed, .ref q_t_state, .ref q_t_count, .ref q_t_best, .ref q_t_bests, .long r.2.1, .long r.2.2.1, .long r.2.2.2.1], aI cA q_t_weight 14 t_weight, aI cA q_t_beside 14 t_beside, aI cA q_t_edge 196 t_edge, aI cA q_t_bag 14 t_bag, aI cA q_t_up 14 t_up, aI cA q_t_factor 4 t_factor, aI cA q_t_pairFactor 16 t_pairFactor, aI cA q_t_forbidden 14 t_forbidden, aZ cA q_t_mayNot 16 t_mayNot, aI cA q_t_fixed 14 r.2.2.2.2.1, aI cA q_t_state 14 r.2.2.2.2.2.1, aJ cA q_t_count 14336 r.2.2.2.2.2.2.1, aJ cA q_t_best 14336 r.2.2.2.2.2.2.2.1, aJ cA q_t_bests 14336 r.2.2.2.2.2.2.2.2])  : ∀ (n : Nat) (x3 : Int64) (x5 : Int32) (t_allCount : Int64) (t_allBest : Int64) (t_allBests : Int64) (t_fixed : Nat → Int32) (t_state : Nat → Int32) (t_count : Nat → Int64) (t_best : Nat → Int64) (t_bests : Nat → Int64), L_X9_choice_48 a1 a2 t_knots t_bags t_q t_weight t_beside t_edge t_bag t_up t_factor t_pairFactor t_forbidden t_mayNot n x3 x5 t_allCount t_allBest t_allBests t_fixed t_state t_count t_best t_bests = some r → Go X 8 kk nn 48 [oB q_t 9 [.int t_knots, .ref q_t_weight, .ref q_t_beside, .ref q_t_edge, .int t_rowed, .ref q_t_row, .int t_bags, .ref q_t_bag, .ref q_t_up, .ref q_t_least, .int t_q, .ref q_t_factor, .ref q_t_pairFactor, .ref q_t_forbidden, .ref q_t_mayNot, .ref q_t_fixed, .ref q_t_state, .ref q_t_count, .ref q_t_best, .ref q_t_bests, .long t_allCount, .long t_allBest, .long t_allBests], aI cA q_t_weight 14 t_weight, aI cA q_t_beside 14 t_beside, aI cA q_t_edge 196 t_edge, aI cA q_t_bag 14 t_bag, aI cA q_t_up 14 t_up, aI cA q_t_factor 4 t_factor, aI cA q_t_pairFactor 16 t_pairFactor, aI cA q_t_forbidden 14 t_forbidden, aZ cA q_t_mayNot 16 t_mayNot, aI cA q_t_fixed 14 t_fixed, aI cA q_t_state 14 t_state, aJ cA q_t_count 14336 t_count, aJ cA q_t_best 14336 t_best, aJ cA q_t_bests 14336 t_bests] [(0, .ref q_t), (1, .int a1), (2, .int a2), (3, .long x3), (5, .int x5)] [] := by
  intro n
  induction n with
  | zero => intro x3 x5 t_allCount t_allBest t_allBests t_fixed t_state t_count t_best t_bests hf; exact no_some hf
  | succ n ih =>
    intro x3 x5 t_allCount t_allBest t_allBests t_fixed t_state t_count t_best t_bests hf
    rw [L_X9_choice_48] at hf
    refine g_iload C 48 4 dX9_choice_48 rfl ?_
    refine g_iload_n C 50 2 dX9_choice_50 rfl rfl ?_
    refine g_icmp_gt C 51 125 dX9_choice_51 (by decide) hf (fun hf => ?_) (fun hf => ?_)
    · refine g_aload_n C 125 0 dX9_choice_125 rfl rfl ?_
      refine g_get C 126 0 15 dX9_choice_126 inX9 rfl rfl (by decide) kw_411 rfl ?_
      refine g_iload_n C 129 2 dX9_choice_129 rfl rfl ?_
      refine g_iald C 130 10 dX9_choice_130 rfl hf (fun v7 hf => ?_)
      cases hf
      exact g_iret C 131 dX9_choice_131 F hB
    · refine g_iconst C 54 (0 : Int32) dX9_choice_54 (by decide) ?_
      refine g_istore C 55 (fun z => [(6, .int z), (0, .ref q_t), (1, .int a1), (2, .int a2), (3, .long x3), (5, .int x5)]) dX9_choice_55 (by decide) (fun _ => rfl) hf (fun x6_8 hf => ?_)
      refine g_iconst C 57 (0 : Int32) dX9_choice_57 (by decide) ?_
      refine g_istore C 58 (fun z => [(7, .int z), (6, .int x6_8), (0, .ref q_t), (1, .int a1), (2, .int a2), (3, .long x3), (5, .int x5)]) dX9_choice_58 (by decide) (fun _ => rfl) hf (fun x7_9 hf => ?_)
      refine g_lv [2, 3, 4, 5, 6, 1, 0] rfl ?_
      exact w_X9_choice_60 cA q_t t_rowed q_t_row q_t_least q_t_weight q_t_beside q_t_edge q_t_bag q_t_up q_t_factor q_t_pairFactor q_t_forbidden q_t_mayNot q_t_fixed q_t_state q_t_count q_t_best q_t_bests a1 a2 t_knots t_bags t_q t_weight t_beside t_edge t_bag t_up t_factor t_pairFactor t_forbidden t_mayNot C hk F r hB (fun y0 y1 y2 y3 y4 y5 y6 y7 y8 y9 => L_X9_choice_48 a1 a2 t_knots t_bags t_q t_weight t_beside t_edge t_bag t_up t_factor t_pairFactor t_forbidden t_mayNot n y0 y1 y2 y3 y4 y5 y6 y7 y8 y9) (fun y0 y1 y2 y3 y4 y5 y6 y7 y8 y9 hf => ih y0 y1 y2 y3 y4 y5 y6 y7 y8 y9 hf) NN x3 x5 x6_8 x7_9 t_allCount t_allBest t_allBests t_fixed t_state t_count t_best t_bests hf
def f_X9_choice (a1 : Int32) (a2 : Int32) (t_knots : Int32) (t_bags : Int32) (t_q : Int32) (t_allCount : Int64) (t_allBest : Int64) (t_allBests : Int64) (t_weight : Nat → Int32) (t_beside : Nat → Int32) (t_edge : Nat → Int32) (t_bag : Nat → Int32) (t_up : Nat → Int32) (t_factor : Nat → Int32) (t_pairFactor : Nat → Int32) (t_forbidden : Nat → Int32) (t_mayNot : Nat → Int32) (t_fixed : Nat → Int32) (t_state : Nat → Int32) (t_count : Nat → Int64) (t_best : Nat → Int64) (t_bests : Nat → Int64) : Option (Int32 × Int64 × Int64 × Int64 × (Nat → Int32) × (Nat → Int32) × (Nat → Int64) × (Nat → Int64) × (Nat → Int64)) :=
  cal (f_X9_isKnot a2 t_knots) fun u1 =>
  if u1 = 0 then
    some ((-1 : Int32), t_allCount, t_allBest, t_allBests, t_fixed, t_state, t_count, t_best, t_bests)
  else
    cal (f_X9_isAsked t_knots t_bags t_beside t_bag t_up) fun u2 =>
    if u2 = 0 then
      some ((-4 : Int32), t_allCount, t_allBest, t_allBests, t_fixed, t_state, t_count, t_best, t_bests)
    else
      cal (f_X9_free t_fixed) fun u3 =>
      cal (f_X9_ask a1 t_knots t_bags t_q t_allCount t_allBest t_allBests t_weight t_beside t_edge t_bag t_up t_factor t_pairFactor t_forbidden t_mayNot u3 t_state t_count t_best t_bests) fun u4 =>
      if (lg_cmp u4.1 (0 : Int64)) = 0 then
        some ((-1 : Int32), u4.1, u4.2.1, u4.2.2.1, u3, u4.2.2.2.1, u4.2.2.2.2.1, u4.2.2.2.2.2.1, u4.2.2.2.2.2.2)
      else
        bnd u4.2.1 fun x3_5 =>
        bnd (0 : Int32) fun x5_6 =>
        L_X9_choice_48 a1 a2 t_knots t_bags t_q t_weight t_beside t_edge t_bag t_up t_factor t_pairFactor t_forbidden t_mayNot NN x3_5 x5_6 u4.1 u4.2.1 u4.2.2.1 u3 u4.2.2.2.1 u4.2.2.2.2.1 u4.2.2.2.2.2.1 u4.2.2.2.2.2.2

set_option maxRecDepth 100000 in
set_option maxHeartbeats 1000000 in
theorem c_X9_choice (l : Launch) (cA : Nat → ClassId) (q_t : Nat) (t_knots : Int32) (t_rowed : Int32) (q_t_row : Nat) (t_bags : Int32) (q_t_least : Nat) (t_q : Int32) (t_allCount : Int64) (t_allBest : Int64) (t_allBests : Int64) (q_t_weight : Nat) (t_weight : Nat → Int32) (q_t_beside : Nat) (t_beside : Nat → Int32) (q_t_edge : Nat) (t_edge : Nat → Int32) (q_t_bag : Nat) (t_bag : Nat → Int32) (q_t_up : Nat) (t_up : Nat → Int32) (q_t_factor : Nat) (t_factor : Nat → Int32) (q_t_pairFactor : Nat) (t_pairFactor : Nat → Int32) (q_t_forbidden : Nat) (t_forbidden : Nat → Int32) (q_t_mayNot : Nat) (t_mayNot : Nat → Int32) (q_t_fixed : Nat) (t_fixed : Nat → Int32) (q_t_state : Nat) (t_state : Nat → Int32) (q_t_count : Nat) (t_count : Nat → Int64) (q_t_best : Nat) (t_best : Nat → Int64) (q_t_bests : Nat) (t_bests : Nat → Int64)  (a1 : Int32) (a2 : Int32) (r : Int32 × Int64 × Int64 × Int64 × (Nat → Int32) × (Nat → Int32) × (Nat → Int64) × (Nat → Int64) × (Nat → Int64)) (hf : f_X9_choice a1 a2 t_knots t_bags t_q t_allCount t_allBest t_allBests t_weight t_beside t_edge t_bag t_up t_factor t_pairFactor t_forbidden t_mayNot t_fixed t_state t_count t_best t_bests = some r) : MT l cA yX9_choice cX9_choice 8 (some .int) ({ frames := 4, cells := 0, slots := 0, locals := 102 } : Room) [.ref q_t, .int a1, .int a2] [oB q_t 9 [.int t_knots, .ref q_t_weight, .ref q_t_beside, .ref q_t_edge, .int t_rowed, .ref q_t_row, .int t_bags, .ref q_t_bag, .ref q_t_up, .ref q_t_least, .int t_q, .ref q_t_factor, .ref q_t_pairFactor, .ref q_t_forbidden, .ref q_t_mayNot, .ref q_t_fixed, .ref q_t_state, .ref q_t_count, .ref q_t_best, .ref q_t_bests, .long t_allCount, .long t_allBest, .long t_allBests], aI cA q_t_weight 14 t_weight, aI cA q_t_beside 14 t_beside, aI cA q_t_edge 196 t_edge, aI cA q_t_bag 14 t_bag, aI cA q_t_up 14 t_up, aI cA q_t_factor 4 t_factor, aI cA q_t_pairFactor 16 t_pairFactor, aI cA q_t_forbidden 14 t_forbidden, aZ cA q_t_mayNot 16 t_mayNot, aI cA q_t_fixed 14 t_fixed, aI cA q_t_state 14 t_state, aJ cA q_t_count 14336 t_count, aJ cA q_t_best 14336 t_best, aJ cA q_t_bests 14336 t_bests] (sB (some (.int r.1)) [oB q_t 9 [.int t_knots, .ref q_t_weight, .ref q_t_beside, .ref q_t_edge, .int t_rowed, .ref q_t_row, .int t_bags, .ref q_t_bag, .ref q_t_up, .ref q_t_least, .int t_q, .ref q_t_factor, .ref q_t_pairFactor, .ref q_t_forbidden, .ref q_t_mayNot, .ref q_t_fixed, .ref q_t_state, .ref q_t_count, .ref q_t_best, .ref q_t_bests, .long r.2.1, .long r.2.2.1, .long r.2.2.2.1], aI cA q_t_weight 14 t_weight, aI cA q_t_beside 14 t_beside, aI cA q_t_edge 196 t_edge, aI cA q_t_bag 14 t_bag, aI cA q_t_up 14 t_up, aI cA q_t_factor 4 t_factor, aI cA q_t_pairFactor 16 t_pairFactor, aI cA q_t_forbidden 14 t_forbidden, aZ cA q_t_mayNot 16 t_mayNot, aI cA q_t_fixed 14 r.2.2.2.2.1, aI cA q_t_state 14 r.2.2.2.2.2.1, aJ cA q_t_count 14336 r.2.2.2.2.2.2.1, aJ cA q_t_best 14336 r.2.2.2.2.2.2.2.1, aJ cA q_t_bests 14336 r.2.2.2.2.2.2.2.2]) := by
  refine MT.of (by decide) (Nat.le_of_ble_eq_true rfl) ?_
  intro X hXl C F hnm hrc hrs
  subst hXl
  have hk : 0 ≤ (x_R X).cells ∧ 0 ≤ (x_R X).slots := ⟨Nat.zero_le _, Nat.zero_le _⟩
  have hB : (sB (some (.int r.1)) [oB q_t 9 [.int t_knots, .ref q_t_weight, .ref q_t_beside, .ref q_t_edge, .int t_rowed, .ref q_t_row, .int t_bags, .ref q_t_bag, .ref q_t_up, .ref q_t_least, .int t_q, .ref q_t_factor, .ref q_t_pairFactor, .ref q_t_forbidden, .ref q_t_mayNot, .ref q_t_fixed, .ref q_t_state, .ref q_t_count, .ref q_t_best, .ref q_t_bests, .long r.2.1, .long r.2.2.1, .long r.2.2.2.1], aI cA q_t_weight 14 t_weight, aI cA q_t_beside 14 t_beside, aI cA q_t_edge 196 t_edge, aI cA q_t_bag 14 t_bag, aI cA q_t_up 14 t_up, aI cA q_t_factor 4 t_factor, aI cA q_t_pairFactor 16 t_pairFactor, aI cA q_t_forbidden 14 t_forbidden, aZ cA q_t_mayNot 16 t_mayNot, aI cA q_t_fixed 14 r.2.2.2.2.1, aI cA q_t_state 14 r.2.2.2.2.2.1, aJ cA q_t_count 14336 r.2.2.2.2.2.2.1, aJ cA q_t_best 14336 r.2.2.2.2.2.2.2.1, aJ cA q_t_bests 14336 r.2.2.2.2.2.2.2.2]) (some (.int r.1)) [oB q_t 9 [.int t_knots, .ref q_t_weight, .ref q_t_beside, .ref q_t_edge, .int t_rowed, .ref q_t_row, .int t_bags, .ref q_t_bag, .ref q_t_up, .ref q_t_least, .int t_q, .ref q_t_factor, .ref q_t_pairFactor, .ref q_t_forbidden, .ref q_t_mayNot, .ref q_t_fixed, .ref q_t_state, .ref q_t_count, .ref q_t_best, .ref q_t_bests, .long r.2.1, .long r.2.2.1, .long r.2.2.2.1], aI cA q_t_weight 14 t_weight, aI cA q_t_beside 14 t_beside, aI cA q_t_edge 196 t_edge, aI cA q_t_bag 14 t_bag, aI cA q_t_up 14 t_up, aI cA q_t_factor 4 t_factor, aI cA q_t_pairFactor 16 t_pairFactor, aI cA q_t_forbidden 14 t_forbidden, aZ cA q_t_mayNot 16 t_mayNot, aI cA q_t_fixed 14 r.2.2.2.2.1, aI cA q_t_state 14 r.2.2.2.2.2.1, aJ cA q_t_count 14336 r.2.2.2.2.2.2.1, aJ cA q_t_best 14336 r.2.2.2.2.2.2.2.1, aJ cA q_t_bests 14336 r.2.2.2.2.2.2.2.2] := ⟨rfl, rfl⟩
  unfold f_X9_choice at hf
  have C : Cx X cX9_choice RX9 (some .int) cA 4 102 8 := C
  show Go X 8 0 0 0 [oB q_t 9 [.int t_knots, .ref q_t_weight, .ref q_t_beside, .ref q_t_edge, .int t_rowed, .ref q_t_row, .int t_bags, .ref q_t_bag, .ref q_t_up, .ref q_t_least, .int t_q, .ref q_t_factor, .ref q_t_pairFactor, .ref q_t_forbidden, .ref q_t_mayNot, .ref q_t_fixed, .ref q_t_state, .ref q_t_count, .ref q_t_best, .ref q_t_bests, .long t_allCount, .long t_allBest, .long t_allBests], aI cA q_t_weight 14 t_weight, aI cA q_t_beside 14 t_beside, aI cA q_t_edge 196 t_edge, aI cA q_t_bag 14 t_bag, aI cA q_t_up 14 t_up, aI cA q_t_factor 4 t_factor, aI cA q_t_pairFactor 16 t_pairFactor, aI cA q_t_forbidden 14 t_forbidden, aZ cA q_t_mayNot 16 t_mayNot, aI cA q_t_fixed 14 t_fixed, aI cA q_t_state 14 t_state, aJ cA q_t_count 14336 t_count, aJ cA q_t_best 14336 t_best, aJ cA q_t_bests 14336 t_bests] [(0, .ref q_t), (1, .int a1), (2, .int a2)] []
  refine g_aload_n C 0 0 dX9_choice_0 rfl rfl ?_
  refine g_iload_n C 1 2 dX9_choice_1 rfl rfl ?_
  obtain ⟨u1, hu1, hf⟩ := cal_some hf
  refine g_callV1 C 2 [0] 0 (rest := []) dX9_choice_2 (c_X9_isKnot (x_l X) cA q_t t_knots q_t_weight q_t_beside q_t_edge t_rowed q_t_row t_bags q_t_bag q_t_up q_t_least t_q q_t_factor q_t_pairFactor q_t_forbidden q_t_mayNot q_t_fixed q_t_state q_t_count q_t_best q_t_bests t_allCount t_allBest t_allBests a2 u1 hu1) kw_349 kw_350 kw_351 kw_343 kw_352 ok_X9_isKnot ⟨Nat.le_of_ble_eq_true rfl, Nat.le_of_ble_eq_true rfl⟩ hk ⟨rfl, rfl⟩ rfl rfl rfl rfl rfl (Nat.le_of_ble_eq_true rfl) rfl (ws' := [oB q_t 9 [.int t_knots, .ref q_t_weight, .ref q_t_beside, .ref q_t_edge, .int t_rowed, .ref q_t_row, .int t_bags, .ref q_t_bag, .ref q_t_up, .ref q_t_least, .int t_q, .ref q_t_factor, .ref q_t_pairFactor, .ref q_t_forbidden, .ref q_t_mayNot, .ref q_t_fixed, .ref q_t_state, .ref q_t_count, .ref q_t_best, .ref q_t_bests, .long t_allCount, .long t_allBest, .long t_allBests], aI cA q_t_weight 14 t_weight, aI cA q_t_beside 14 t_beside, aI cA q_t_edge 196 t_edge, aI cA q_t_bag 14 t_bag, aI cA q_t_up 14 t_up, aI cA q_t_factor 4 t_factor, aI cA q_t_pairFactor 16 t_pairFactor, aI cA q_t_forbidden 14 t_forbidden, aZ cA q_t_mayNot 16 t_mayNot, aI cA q_t_fixed 14 t_fixed, aI cA q_t_state 14 t_state, aJ cA q_t_count 14336 t_count, aJ cA q_t_best 14336 t_best, aJ cA q_t_bests 14336 t_bests]) (st' := [.int u1]) (N0 := 15) rfl [some 0, none, none, none, none, none, none, none, none, none, none, none, none, none, none] (by decide) rfl rfl ?_
  refine g_if_ne C 5 10 dX9_choice_5 (by decide) hf (fun hf => ?_) (fun hf => ?_)
  · refine g_aload_n C 10 0 dX9_choice_10 rfl rfl ?_
    obtain ⟨u2, hu2, hf⟩ := cal_some hf
    refine g_callV1 C 11 [0, 2, 4, 5] 0 (rest := []) dX9_choice_11 (c_X9_isAsked (x_l X) cA q_t t_knots q_t_weight q_t_edge t_rowed q_t_row t_bags q_t_least t_q q_t_factor q_t_pairFactor q_t_forbidden q_t_mayNot q_t_fixed q_t_state q_t_count q_t_best q_t_bests t_allCount t_allBest t_allBests q_t_beside t_beside q_t_bag t_bag q_t_up t_up u2 hu2) kw_443 kw_444 kw_445 kw_343 kw_446 ok_X9_isAsked ⟨Nat.le_of_ble_eq_true rfl, Nat.le_of_ble_eq_true rfl⟩ hk ⟨rfl, rfl⟩ rfl rfl rfl rfl rfl (Nat.le_of_ble_eq_true rfl) rfl (ws' := [oB q_t 9 [.int t_knots, .ref q_t_weight, .ref q_t_beside, .ref q_t_edge, .int t_rowed, .ref q_t_row, .int t_bags, .ref q_t_bag, .ref q_t_up, .ref q_t_least, .int t_q, .ref q_t_factor, .ref q_t_pairFactor, .ref q_t_forbidden, .ref q_t_mayNot, .ref q_t_fixed, .ref q_t_state, .ref q_t_count, .ref q_t_best, .ref q_t_bests, .long t_allCount, .long t_allBest, .long t_allBests], aI cA q_t_weight 14 t_weight, aI cA q_t_beside 14 t_beside, aI cA q_t_edge 196 t_edge, aI cA q_t_bag 14 t_bag, aI cA q_t_up 14 t_up, aI cA q_t_factor 4 t_factor, aI cA q_t_pairFactor 16 t_pairFactor, aI cA q_t_forbidden 14 t_forbidden, aZ cA q_t_mayNot 16 t_mayNot, aI cA q_t_fixed 14 t_fixed, aI cA q_t_state 14 t_state, aJ cA q_t_count 14336 t_count, aJ cA q_t_best 14336 t_best, aJ cA q_t_bests 14336 t_bests]) (st' := [.int u2]) (N0 := 15) rfl [some 0, none, some 1, none, some 2, some 3, none, none, none, none, none, none, none, none, none] (by decide) rfl rfl ?_
    refine g_if_ne C 14 20 dX9_choice_14 (by decide) hf (fun hf => ?_) (fun hf => ?_)
    · refine g_aload_n C 20 0 dX9_choice_20 rfl rfl ?_
      obtain ⟨u3, hu3, hf⟩ := cal_some hf
      refine g_callV1 C 21 [0, 10] 0 (rest := []) dX9_choice_21 (c_X9_free (x_l X) cA q_t t_knots q_t_weight q_t_beside q_t_edge t_rowed q_t_row t_bags q_t_bag q_t_up q_t_least t_q q_t_factor q_t_pairFactor q_t_forbidden q_t_mayNot q_t_state q_t_count q_t_best q_t_bests t_allCount t_allBest t_allBests q_t_fixed t_fixed u3 hu3) kw_447 kw_448 kw_449 kw_343 kw_450 ok_X9_free ⟨Nat.le_of_ble_eq_true rfl, Nat.le_of_ble_eq_true rfl⟩ hk ⟨rfl, rfl⟩ rfl rfl rfl rfl rfl (Nat.le_of_ble_eq_true rfl) rfl (ws' := [oB q_t 9 [.int t_knots, .ref q_t_weight, .ref q_t_beside, .ref q_t_edge, .int t_rowed, .ref q_t_row, .int t_bags, .ref q_t_bag, .ref q_t_up, .ref q_t_least, .int t_q, .ref q_t_factor, .ref q_t_pairFactor, .ref q_t_forbidden, .ref q_t_mayNot, .ref q_t_fixed, .ref q_t_state, .ref q_t_count, .ref q_t_best, .ref q_t_bests, .long t_allCount, .long t_allBest, .long t_allBests], aI cA q_t_weight 14 t_weight, aI cA q_t_beside 14 t_beside, aI cA q_t_edge 196 t_edge, aI cA q_t_bag 14 t_bag, aI cA q_t_up 14 t_up, aI cA q_t_factor 4 t_factor, aI cA q_t_pairFactor 16 t_pairFactor, aI cA q_t_forbidden 14 t_forbidden, aZ cA q_t_mayNot 16 t_mayNot, aI cA q_t_fixed 14 u3, aI cA q_t_state 14 t_state, aJ cA q_t_count 14336 t_count, aJ cA q_t_best 14336 t_best, aJ cA q_t_bests 14336 t_bests]) (st' := []) (N0 := 15) rfl [some 0, none, none, none, none, none, none, none, none, none, some 1, none, none, none, none] (by decide) rfl rfl ?_
      refine g_aload_n C 24 0 dX9_choice_24 rfl rfl ?_
      refine g_iload_n C 25 1 dX9_choice_25 rfl rfl ?_
      obtain ⟨u4, hu4, hf⟩ := cal_some hf
      refine g_callV1 C 26 [0, 1, 2, 3, 4, 5, 6, 7, 8, 9, 10, 11, 12, 13, 14] 0 (rest := []) dX9_choice_26 (c_X9_ask (x_l X) cA q_t t_knots t_rowed q_t_row t_bags q_t_least t_q t_allCount t_allBest t_allBests q_t_weight t_weight q_t_beside t_beside q_t_edge t_edge q_t_bag t_bag q_t_up t_up q_t_factor t_factor q_t_pairFactor t_pairFactor q_t_forbidden t_forbidden q_t_mayNot t_mayNot q_t_fixed u3 q_t_state t_state q_t_count t_count q_t_best t_best q_t_bests t_bests a1 u4 hu4) kw_451 kw_452 kw_453 kw_343 kw_454 ok_X9_ask ⟨Nat.le_of_ble_eq_true rfl, Nat.le_of_ble_eq_true rfl⟩ hk ⟨rfl, rfl⟩ rfl rfl rfl rfl rfl (Nat.le_of_ble_eq_true rfl) rfl (ws' := [oB q_t 9 [.int t_knots, .ref q_t_weight, .ref q_t_beside, .ref q_t_edge, .int t_rowed, .ref q_t_row, .int t_bags, .ref q_t_bag, .ref q_t_up, .ref q_t_least, .int t_q, .ref q_t_factor, .ref q_t_pairFactor, .ref q_t_forbidden, .ref q_t_mayNot, .ref q_t_fixed, .ref q_t_state, .ref q_t_count, .ref q_t_best, .ref q_t_bests, .long u4.1, .long u4.2.1, .long u4.2.2.1], aI cA q_t_weight 14 t_weight, aI cA q_t_beside 14 t_beside, aI cA q_t_edge 196 t_edge, aI cA q_t_bag 14 t_bag, aI cA q_t_up 14 t_up, aI cA q_t_factor 4 t_factor, aI cA q_t_pairFactor 16 t_pairFactor, aI cA q_t_forbidden 14 t_forbidden, aZ cA q_t_mayNot 16 t_mayNot, aI cA q_t_fixed 14 u3, aI cA q_t_state 14 u4.2.2.2.1, aJ cA q_t_count 14336 u4.2.2.2.2.1, aJ cA q_t_best 14336 u4.2.2.2.2.2.1, aJ cA q_t_bests 14336 u4.2.2.2.2.2.2]) (st' := []) (N0 := 15) rfl [some 0, some 1, some 2, some 3, some 4, some 5, some 6, some 7, some 8, some 9, some 10, some 11, some 12, some 13, some 14] (by decide) rfl rfl ?_
      refine g_aload_n C 29 0 dX9_choice_29 rfl rfl ?_
      refine g_get C 30 0 20 dX9_choice_30 inX9 rfl rfl (by decide) kw_424 rfl ?_
      refine g_lconst C 33 (0 : Int64) dX9_choice_33 (by decide) ?_
      refine g_lcmp C 34 dX9_choice_34 ?_
      refine g_if_ne C 35 40 dX9_choice_35 (by decide) hf (fun hf => ?_) (fun hf => ?_)
      · refine g_aload_n C 40 0 dX9_choice_40 rfl rfl ?_
        refine g_get C 41 0 21 dX9_choice_41 inX9 rfl rfl (by decide) kw_425 rfl ?_
        refine g_lstore_n C 44 (fun z => [(3, .long z), (0, .ref q_t), (1, .int a1), (2, .int a2)]) dX9_choice_44 rfl (by decide) (fun _ => rfl) hf (fun x3_5 hf => ?_)
        refine g_iconst C 45 (0 : Int32) dX9_choice_45 (by decide) ?_
        refine g_istore C 46 (fun z => [(5, .int z), (3, .long x3_5), (0, .ref q_t), (1, .int a1), (2, .int a2)]) dX9_choice_46 (by decide) (fun _ => rfl) hf (fun x5_6 hf => ?_)
        refine g_lv [2, 3, 4, 1, 0] rfl ?_
        exact w_X9_choice_48 cA q_t t_rowed q_t_row q_t_least q_t_weight q_t_beside q_t_edge q_t_bag q_t_up q_t_factor q_t_pairFactor q_t_forbidden q_t_mayNot q_t_fixed q_t_state q_t_count q_t_best q_t_bests a1 a2 t_knots t_bags t_q t_weight t_beside t_edge t_bag t_up t_factor t_pairFactor t_forbidden t_mayNot C hk F r hB NN x3_5 x5_6 u4.1 u4.2.1 u4.2.2.1 u3 u4.2.2.2.1 u4.2.2.2.2.1 u4.2.2.2.2.2.1 u4.2.2.2.2.2.2 hf
      · refine g_iconst C 38 (-1 : Int32) dX9_choice_38 (by decide) ?_
        cases hf
        exact g_iret C 39 dX9_choice_39 F hB
    · refine g_bipush C 17 (-4 : Int32) dX9_choice_17 (by decide) ?_
      cases hf
      exact g_iret C 19 dX9_choice_19 F hB
  · refine g_iconst C 8 (-1 : Int32) dX9_choice_8 (by decide) ?_
    cases hf
    exact g_iret C 9 dX9_choice_9 F hB

def J_X9_drawn_107 (a1 : Int64) (a3 : Int32) (t_knots : Int32) (t_bags : Int32) (t_q : Int32) (t_weight : Nat → Int32) (t_beside : Nat → Int32) (t_edge : Nat → Int32) (t_bag : Nat → Int32) (t_up : Nat → Int32) (t_factor : Nat → Int32) (t_pairFactor : Nat → Int32) (t_forbidden : Nat → Int32) (t_mayNot : Nat → Int32) (k_64 : Int64 → Int32 → Int32 → Int32 → Int64 → Int64 → Int64 → (Nat → Int32) → (Nat → Int32) → (Nat → Int64) → (Nat → Int64) → (Nat → Int64) → Option (Int32 × Int64 × Int64 × Int64 × (Nat → Int32) × (Nat → Int32) × (Nat → Int64) × (Nat → Int64) × (Nat → Int64))) (x4 : Int64) (x6 : Int32) (x8 : Int32) (s0 : Int32) (t_allCount : Int64) (t_allBest : Int64) (t_allBests : Int64) (t_fixed : Nat → Int32) (t_state : Nat → Int32) (t_count : Nat → Int64) (t_best : Nat → Int64) (t_bests : Nat → Int64) : Option (Int32 × Int64 × Int64 × Int64 × (Nat → Int32) × (Nat → Int32) × (Nat → Int64) × (Nat → Int64) × (Nat → Int64)) :=
  bnd s0 fun x7_14 =>
  if x7_14 = 0 then
    bnd (x4 - t_allCount) fun x4_15 =>
    bnd (x8 + (1 : Int32)) fun x8_16 =>
    k_64 x4_15 x6 x7_14 x8_16 t_allCount t_allBest t_allBests t_fixed t_state t_count t_best t_bests
  else
    bnd (x4 - (0 : Int64)) fun x4_17 =>
    bnd (x8 + (1 : Int32)) fun x8_18 =>
    k_64 x4_17 x6 x7_14 x8_18 t_allCount t_allBest t_allBests t_fixed t_state t_count t_best t_bests

set_option maxRecDepth 100000 in
set_option maxHeartbeats 1000000 in
theorem w_X9_drawn_107 (cA : Nat → ClassId) (q_t : Nat) (t_rowed : Int32) (q_t_row : Nat) (q_t_least : Nat) (q_t_weight : Nat) (q_t_beside : Nat) (q_t_edge : Nat) (q_t_bag : Nat) (q_t_up : Nat) (q_t_factor : Nat) (q_t_pairFactor : Nat) (q_t_forbidden : Nat) (q_t_mayNot : Nat) (q_t_fixed : Nat) (q_t_state : Nat) (q_t_count : Nat) (q_t_best : Nat) (q_t_bests : Nat) (a1 : Int64) (a3 : Int32) (t_knots : Int32) (t_bags : Int32) (t_q : Int32) (t_weight : Nat → Int32) (t_beside : Nat → Int32) (t_edge : Nat → Int32) (t_bag : Nat → Int32) (t_up : Nat → Int32) (t_factor : Nat → Int32) (t_pairFactor : Nat → Int32) (t_forbidden : Nat → Int32) (t_mayNot : Nat → Int32) {X : XT}  (C : Cx X cX9_drawn RX9 (some .int) cA 4 102 9) {kk nn : Nat} {BB : Option Value → va_W → Prop} (hk : kk ≤ (x_R X).cells ∧ nn ≤ (x_R X).slots) (F : Fx X BB kk nn) (r : Int32 × Int64 × Int64 × Int64 × (Nat → Int32) × (Nat → Int32) × (Nat → Int64) × (Nat → Int64) × (Nat → Int64)) (hB : BB (some (.int r.1)) [oB q_t 9 [.int t_knots, .ref q_t_weight, .ref q_t_beside, .ref q_t_edge, .int t_rowed, .ref q_t_row, .int t_bags, .ref q_t_bag, .ref q_t_up, .ref q_t_least, .int t_q, .ref q_t_factor, .ref q_t_pairFactor, .ref q_t_forbidden, .ref q_t_mayNot, .ref q_t_fixed, .ref q_t_state, .ref q_t_count, .ref q_t_best, .ref q_t_bests, .long r.2.1, .long r.2.2.1, .long r.2.2.2.1], aI cA q_t_weight 14 t_weight, aI cA q_t_beside 14 t_beside, aI cA q_t_edge 196 t_edge, aI cA q_t_bag 14 t_bag, aI cA q_t_up 14 t_up, aI cA q_t_factor 4 t_factor, aI cA q_t_pairFactor 16 t_pairFactor, aI cA q_t_forbidden 14 t_forbidden, aZ cA q_t_mayNot 16 t_mayNot, aI cA q_t_fixed 14 r.2.2.2.2.1, aI cA q_t_state 14 r.2.2.2.2.2.1, aJ cA q_t_count 14336 r.2.2.2.2.2.2.1, aJ cA q_t_best 14336 r.2.2.2.2.2.2.2.1, aJ cA q_t_bests 14336 r.2.2.2.2.2.2.2.2]) (k_64 : Int64 → Int32 → Int32 → Int32 → Int64 → Int64 → Int64 → (Nat → Int32) → (Nat → Int32) → (Nat → Int64) → (Nat → Int64) → (Nat → Int64) → Option (Int32 × Int64 × Int64 × Int64 × (Nat → Int32) × (Nat → Int32) × (Nat → Int64) × (Nat → Int64) × (Nat → Int64))) (h_64 : ∀ (x4 : Int64) (x6 : Int32) (x7 : Int32) (x8 : Int32) (t_allCount : Int64) (t_allBest : Int64) (t_allBests : Int64) (t_fixed : Nat → Int32) (t_state : Nat → Int32) (t_count : Nat → Int64) (t_best : Nat → Int64) (t_bests : Nat → Int64), k_64 x4 x6 x7 x8 t_allCount t_allBest t_allBests t_fixed t_state t_count t_best t_bests = some r → Go X 9 kk nn 64 [oB q_t 9 [.int t_knots, .ref q_t_weight, .ref q_t_beside, .ref q_t_edge, .int t_rowed, .ref q_t_row, .int t_bags, .ref q_t_bag, .ref q_t_up, .ref q_t_least, .int t_q, .ref q_t_factor, .ref q_t_pairFactor, .ref q_t_forbidden, .ref q_t_mayNot, .ref q_t_fixed, .ref q_t_state, .ref q_t_count, .ref q_t_best, .ref q_t_bests, .long t_allCount, .long t_allBest, .long t_allBests], aI cA q_t_weight 14 t_weight, aI cA q_t_beside 14 t_beside, aI cA q_t_edge 196 t_edge, aI cA q_t_bag 14 t_bag, aI cA q_t_up 14 t_up, aI cA q_t_factor 4 t_factor, aI cA q_t_pairFactor 16 t_pairFactor, aI cA q_t_forbidden 14 t_forbidden, aZ cA q_t_mayNot 16 t_mayNot, aI cA q_t_fixed 14 t_fixed, aI cA q_t_state 14 t_state, aJ cA q_t_count 14336 t_count, aJ cA q_t_best 14336 t_best, aJ cA q_t_bests 14336 t_bests] [(0, .ref q_t), (3, .int a3), (4, .long x4), (6, .int x6), (7, .int x7), (8, .int x8)] []) : ∀ (x4 : Int64) (x6 : Int32) (x8 : Int32) (s0 : Int32) (t_allCount : Int64) (t_allBest : Int64) (t_allBests : Int64) (t_fixed : Nat → Int32) (t_state : Nat → Int32) (t_count : Nat → Int64) (t_best : Nat → Int64) (t_bests : Nat → Int64), J_X9_drawn_107 a1 a3 t_knots t_bags t_q t_weight t_beside t_edge t_bag t_up t_factor t_pairFactor t_forbidden t_mayNot k_64 x4 x6 x8 s0 t_allCount t_allBest t_allBests t_fixed t_state t_count t_best t_bests = some r → Go X 9 kk nn 107 [oB q_t 9 [.int t_knots, .ref q_t_weight, .ref q_t_beside, .ref q_t_edge, .int t_rowed, .ref q_t_row, .int t_bags, .ref q_t_bag, .ref q_t_up, .ref q_t_least, .int t_q, .ref q_t_factor, .ref q_t_pairFactor, .ref q_t_forbidden, .ref q_t_mayNot, .ref q_t_fixed, .ref q_t_state, .ref q_t_count, .ref q_t_best, .ref q_t_bests, .long t_allCount, .long t_allBest, .long t_allBests], aI cA q_t_weight 14 t_weight, aI cA q_t_beside 14 t_beside, aI cA q_t_edge 196 t_edge, aI cA q_t_bag 14 t_bag, aI cA q_t_up 14 t_up, aI cA q_t_factor 4 t_factor, aI cA q_t_pairFactor 16 t_pairFactor, aI cA q_t_forbidden 14 t_forbidden, aZ cA q_t_mayNot 16 t_mayNot, aI cA q_t_fixed 14 t_fixed, aI cA q_t_state 14 t_state, aJ cA q_t_count 14336 t_count, aJ cA q_t_best 14336 t_best, aJ cA q_t_bests 14336 t_bests] [(0, .ref q_t), (3, .int a3), (4, .long x4), (6, .int x6), (8, .int x8)] [.int s0] := by
  intro x4 x6 x8 s0 t_allCount t_allBest t_allBests t_fixed t_state t_count t_best t_bests hf
  unfold J_X9_drawn_107 at hf
  refine g_istore C 107 (fun z => [(7, .int z), (0, .ref q_t), (3, .int a3), (4, .long x4), (6, .int x6), (8, .int x8)]) dX9_drawn_107 (by decide) (fun _ => rfl) hf (fun x7_14 hf => ?_)
  refine g_lload C 109 3 dX9_drawn_109 rfl ?_
  refine g_iload C 111 0 dX9_drawn_111 rfl ?_
  refine g_if_eq C 113 120 dX9_drawn_113 (by decide) hf (fun hf => ?_) (fun hf => ?_)
  · refine g_aload_n C 120 1 dX9_drawn_120 rfl rfl ?_
    refine g_get C 121 0 20 dX9_drawn_121 inX9 rfl rfl (by decide) kw_424 rfl ?_
    refine g_lsub C 124 dX9_drawn_124 ?_
    refine g_lstore C 125 (fun z => [(4, .long z), (7, .int x7_14), (0, .ref q_t), (3, .int a3), (6, .int x6), (8, .int x8)]) dX9_drawn_125 (by decide) (fun _ => rfl) hf (fun x4_15 hf => ?_)
    refine g_iinc C 127 5 (v := x8 + (1 : Int32)) (fun z => [(8, .int z), (4, .long x4_15), (7, .int x7_14), (0, .ref q_t), (3, .int a3), (6, .int x6)]) dX9_drawn_127 rfl rfl (by decide) (fun _ => rfl) hf (fun x8_16 hf => ?_)
    refine g_goto C 130 64 dX9_drawn_130 (by decide) ?_
    refine g_lv [3, 4, 1, 5, 2, 0] rfl ?_
    exact h_64 x4_15 x6 x7_14 x8_16 t_allCount t_allBest t_allBests t_fixed t_state t_count t_best t_bests hf
  · refine g_lconst C 116 (0 : Int64) dX9_drawn_116 (by decide) ?_
    refine g_goto C 117 124 dX9_drawn_117 (by decide) ?_
    refine g_lsub C 124 dX9_drawn_124 ?_
    refine g_lstore C 125 (fun z => [(4, .long z), (7, .int x7_14), (0, .ref q_t), (3, .int a3), (6, .int x6), (8, .int x8)]) dX9_drawn_125 (by decide) (fun _ => rfl) hf (fun x4_17 hf => ?_)
    refine g_iinc C 127 5 (v := x8 + (1 : Int32)) (fun z => [(8, .int z), (4, .long x4_17), (7, .int x7_14), (0, .ref q_t), (3, .int a3), (6, .int x6)]) dX9_drawn_127 rfl rfl (by decide) (fun _ => rfl) hf (fun x8_18 hf => ?_)
    refine g_goto C 130 64 dX9_drawn_130 (by decide) ?_
    refine g_lv [3, 4, 1, 5, 2, 0] rfl ?_
    exact h_64 x4_17 x6 x7_14 x8_18 t_allCount t_allBest t_allBests t_fixed t_state t_count t_best t_bests hf
def L_X9_drawn_64 (a1 : Int64) (a3 : Int32) (t_knots : Int32) (t_bags : Int32) (t_q : Int32) (t_weight : Nat → Int32) (t_beside : Nat → Int32) (t_edge : Nat → Int32) (t_bag : Nat → Int32) (t_up : Nat → Int32) (t_factor : Nat → Int32) (t_pairFactor : Nat → Int32) (t_forbidden : Nat → Int32) (t_mayNot : Nat → Int32) (k_52 : Int64 → Int32 → Int64 → Int64 → Int64 → (Nat → Int32) → (Nat → Int32) → (Nat → Int64) → (Nat → Int64) → (Nat → Int64) → Option (Int32 × Int64 × Int64 × Int64 × (Nat → Int32) × (Nat → Int32) × (Nat → Int64) × (Nat → Int64) × (Nat → Int64))) : Nat → Int64 → Int32 → Int32 → Int32 → Int64 → Int64 → Int64 → (Nat → Int32) → (Nat → Int32) → (Nat → Int64) → (Nat → Int64) → (Nat → Int64) → Option (Int32 × Int64 × Int64 × Int64 × (Nat → Int32) × (Nat → Int32) × (Nat → Int64) × (Nat → Int64) × (Nat → Int64))
  | 0, _, _, _, _, _, _, _, _, _, _, _, _ => none
  | n + 1, x4, x6, x7, x8, t_allCount, t_allBest, t_allBests, t_fixed, t_state, t_count, t_best, t_bests =>
    if t_q ≤ x8 then
      bnd (x6 + (1 : Int32)) fun x6_10 =>
      k_52 x4 x6_10 t_allCount t_allBest t_allBests t_fixed t_state t_count t_best t_bests
    else
      if x7 = 0 then
        stI t_fixed 14 x6 x8 fun t_fixed_12 =>
        cal (f_X9_ask (1 : Int32) t_knots t_bags t_q t_allCount t_allBest t_allBests t_weight t_beside t_edge t_bag t_up t_factor t_pairFactor t_forbidden t_mayNot t_fixed_12 t_state t_count t_best t_bests) fun u13 =>
        if 0 ≤ (lg_cmp x4 u13.1) then
          J_X9_drawn_107 a1 a3 t_knots t_bags t_q t_weight t_beside t_edge t_bag t_up t_factor t_pairFactor t_forbidden t_mayNot (fun y0 y1 y2 y3 y4 y5 y6 y7 y8 y9 y10 y11 => L_X9_drawn_64 a1 a3 t_knots t_bags t_q t_weight t_beside t_edge t_bag t_up t_factor t_pairFactor t_forbidden t_mayNot k_52 n y0 y1 y2 y3 y4 y5 y6 y7 y8 y9 y10 y11) x4 x6 x8 (0 : Int32) u13.1 u13.2.1 u13.2.2.1 t_fixed_12 u13.2.2.2.1 u13.2.2.2.2.1 u13.2.2.2.2.2.1 u13.2.2.2.2.2.2
        else
          J_X9_drawn_107 a1 a3 t_knots t_bags t_q t_weight t_beside t_edge t_bag t_up t_factor t_pairFactor t_forbidden t_mayNot (fun y0 y1 y2 y3 y4 y5 y6 y7 y8 y9 y10 y11 => L_X9_drawn_64 a1 a3 t_knots t_bags t_q t_weight t_beside t_edge t_bag t_up t_factor t_pairFactor t_forbidden t_mayNot k_52 n y0 y1 y2 y3 y4 y5 y6 y7 y8 y9 y10 y11) x4 x6 x8 (1 : Int32) u13.1 u13.2.1 u13.2.2.1 t_fixed_12 u13.2.2.2.1 u13.2.2.2.2.1 u13.2.2.2.2.2.1 u13.2.2.2.2.2.2
      else
        bnd (x6 + (1 : Int32)) fun x6_11 =>
        k_52 x4 x6_11 t_allCount t_allBest t_allBests t_fixed t_state t_count t_best t_bests

set_option maxRecDepth 100000 in
set_option maxHeartbeats 1000000 in
theorem w_X9_drawn_64 (cA : Nat → ClassId) (q_t : Nat) (t_rowed : Int32) (q_t_row : Nat) (q_t_least : Nat) (q_t_weight : Nat) (q_t_beside : Nat) (q_t_edge : Nat) (q_t_bag : Nat) (q_t_up : Nat) (q_t_factor : Nat) (q_t_pairFactor : Nat) (q_t_forbidden : Nat) (q_t_mayNot : Nat) (q_t_fixed : Nat) (q_t_state : Nat) (q_t_count : Nat) (q_t_best : Nat) (q_t_bests : Nat) (a1 : Int64) (a3 : Int32) (t_knots : Int32) (t_bags : Int32) (t_q : Int32) (t_weight : Nat → Int32) (t_beside : Nat → Int32) (t_edge : Nat → Int32) (t_bag : Nat → Int32) (t_up : Nat → Int32) (t_factor : Nat → Int32) (t_pairFactor : Nat → Int32) (t_forbidden : Nat → Int32) (t_mayNot : Nat → Int32) {X : XT}  (C : Cx X cX9_drawn RX9 (some .int) cA 4 102 9) {kk nn : Nat} {BB : Option Value → va_W → Prop} (hk : kk ≤ (x_R X).cells ∧ nn ≤ (x_R X).slots) (F : Fx X BB kk nn) (r : Int32 × Int64 × Int64 × Int64 × (Nat → Int32) × (Nat → Int32) × (Nat → Int64) × (Nat → Int64) × (Nat → Int64)) (hB : BB (some (.int r.1)) [oB q_t 9 [.int t_knots, .ref q_t_weight, .ref q_t_beside, .ref q_t_edge, .int t_rowed, .ref q_t_row, .int t_bags, .ref q_t_bag, .ref q_t_up, .ref q_t_least, .int t_q, .ref q_t_factor, .ref q_t_pairFactor, .ref q_t_forbidden, .ref q_t_mayNot, .ref q_t_fixed, .ref q_t_state, .ref q_t_count, .ref q_t_best, .ref q_t_bests, .long r.2.1, .long r.2.2.1, .long r.2.2.2.1], aI cA q_t_weight 14 t_weight, aI cA q_t_beside 14 t_beside, aI cA q_t_edge 196 t_edge, aI cA q_t_bag 14 t_bag, aI cA q_t_up 14 t_up, aI cA q_t_factor 4 t_factor, aI cA q_t_pairFactor 16 t_pairFactor, aI cA q_t_forbidden 14 t_forbidden, aZ cA q_t_mayNot 16 t_mayNot, aI cA q_t_fixed 14 r.2.2.2.2.1, aI cA q_t_state 14 r.2.2.2.2.2.1, aJ cA q_t_count 14336 r.2.2.2.2.2.2.1, aJ cA q_t_best 14336 r.2.2.2.2.2.2.2.1, aJ cA q_t_bests 14336 r.2.2.2.2.2.2.2.2]) (k_52 : Int64 → Int32 → Int64 → Int64 → Int64 → (Nat → Int32) → (Nat → Int32) → (Nat → Int64) → (Nat → Int64) → (Nat → Int64) → Option (Int32 × Int64 × Int64 × Int64 × (Nat → Int32) × (Nat → Int32) × (Nat → Int64) × (Nat → Int64) × (Nat → Int64))) (h_52 : ∀ (x4 : Int64) (x6 : Int32) (t_allCount : Int64) (t_allBest : Int64) (t_allBests : Int64) (t_fixed : Nat → Int32) (t_state : Nat → Int32) (t_count : Nat → Int64) (t_best : Nat → Int64) (t_bests : Nat → Int64), k_52 x4 x6 t_allCount t_allBest t_allBests t_fixed t_state t_count t_best t_bests = some r → Go X 9 kk nn 52 [oB q_t 9 [.int t_knots, .ref q_t_weight, .ref q_t_beside, .ref q_t_edge, .int t_rowed, .ref q_t_row, .int t_bags, .ref q_t_bag, .ref q_t_up, .ref q_t_least, .int t_q, .ref q_t_factor, .ref q_t_pairFactor, .ref q_t_forbidden, .ref q_t_mayNot, .ref q_t_fixed, .ref q_t_state, .ref q_t_count, .ref q_t_best, .ref q_t_bests, .long t_allCount, .long t_allBest, .long t_allBests], aI cA q_t_weight 14 t_weight, aI cA q_t_beside 14 t_beside, aI cA q_t_edge 196 t_edge, aI cA q_t_bag 14 t_bag, aI cA q_t_up 14 t_up, aI cA q_t_factor 4 t_factor, aI cA q_t_pairFactor 16 t_pairFactor, aI cA q_t_forbidden 14 t_forbidden, aZ cA q_t_mayNot 16 t_mayNot, aI cA q_t_fixed 14 t_fixed, aI cA q_t_state 14 t_state, aJ cA q_t_count 14336 t_count, aJ cA q_t_best 14336 t_best, aJ cA q_t_bests 14336 t_bests] [(0, .ref q_t), (3, .int a3), (4, .long x4), (6, .int x6)] []) : ∀ (n : Nat) (x4 : Int64) (x6 : Int32) (x7 : Int32) (x8 : Int32) (t_allCount : Int64) (t_allBest : Int64) (t_allBests : Int64) (t_fixed : Nat → Int32) (t_state : Nat → Int32) (t_count : Nat → Int64) (t_best : Nat → Int64) (t_bests : Nat → Int64), L_X9_drawn_64 a1 a3 t_knots t_bags t_q t_weight t_beside t_edge t_bag t_up t_factor t_pairFactor t_forbidden t_mayNot k_52 n x4 x6 x7 x8 t_allCount t_allBest t_allBests t_fixed t_state t_count t_best t_bests = some r → Go X 9 kk nn 64 [oB q_t 9 [.int t_knots, .ref q_t_weight, .ref q_t_beside, .ref q_t_edge, .int t_rowed, .ref q_t_row, .int t_bags, .ref q_t_bag, .ref q_t_up, .ref q_t_least, .int t_q, .ref q_t_factor, .ref q_t_pairFactor, .ref q_t_forbidden, .ref q_t_mayNot, .ref q_t_fixed, .ref q_t_state, .ref q_t_count, .ref q_t_best, .ref q_t_bests, .long t_allCount, .long t_allBest, .long t_allBests], aI cA q_t_weight 14 t_weight, aI cA q_t_beside 14 t_beside, aI cA q_t_edge 196 t_edge, aI cA q_t_bag 14 t_bag, aI cA q_t_up 14 t_up, aI cA q_t_factor 4 t_factor, aI cA q_t_pairFactor 16 t_pairFactor, aI cA q_t_forbidden 14 t_forbidden, aZ cA q_t_mayNot 16 t_mayNot, aI cA q_t_fixed 14 t_fixed, aI cA q_t_state 14 t_state, aJ cA q_t_count 14336 t_count, aJ cA q_t_best 14336 t_best, aJ cA q_t_bests 14336 t_bests] [(0, .ref q_t), (3, .int a3), (4, .long x4), (6, .int x6), (7, .int x7), (8, .int x8)] [] := by
  intro n
  induction n with
  | zero => intro x4 x6 x7 x8 t_allCount t_allBest t_allBests t_fixed t_state t_count t_best t_bests hf; exact no_some hf
  | succ n ih =>
    intro x4 x6 x7 x8 t_allCount t_allBest t_allBests t_fixed t_state t_count t_best t_bests hf
    rw [L_X9_drawn_64] at hf
    refine g_iload C 64 5 dX9_drawn_64 rfl ?_
    refine g_aload_n C 66 0 dX9_drawn_66 rfl rfl ?_
    refine g_get C 67 0 10 dX9_drawn_67 inX9 rfl rfl (by decide) kw_398 rfl ?_
    refine g_icmp_ge C 70 133 dX9_drawn_70 (by decide) hf (fun hf => ?_) (fun hf => ?_)
    · refine g_iinc C 133 3 (v := x6 + (1 : Int32)) (fun z => [(6, .int z), (0, .ref q_t), (3, .int a3), (4, .long x4), (7, .int x7), (8, .int x8)]) dX9_drawn_133 rfl rfl (by decide) (fun _ => rfl) hf (fun x6_10 hf => ?_)
      refine g_goto C 136 52 dX9_drawn_136 (by decide) ?_
      refine g_lv [1, 2, 3, 0] rfl ?_
      exact h_52 x4 x6_10 t_allCount t_allBest t_allBests t_fixed t_state t_count t_best t_bests hf
    · refine g_iload C 73 4 dX9_drawn_73 rfl ?_
      refine g_if_ne C 75 133 dX9_drawn_75 (by decide) hf (fun hf => ?_) (fun hf => ?_)
      · refine g_iinc C 133 3 (v := x6 + (1 : Int32)) (fun z => [(6, .int z), (0, .ref q_t), (3, .int a3), (4, .long x4), (7, .int x7), (8, .int x8)]) dX9_drawn_133 rfl rfl (by decide) (fun _ => rfl) hf (fun x6_11 hf => ?_)
        refine g_goto C 136 52 dX9_drawn_136 (by decide) ?_
        refine g_lv [1, 2, 3, 0] rfl ?_
        exact h_52 x4 x6_11 t_allCount t_allBest t_allBests t_fixed t_state t_count t_best t_bests hf
      · refine g_aload_n C 78 0 dX9_drawn_78 rfl rfl ?_
        refine g_get C 79 0 15 dX9_drawn_79 inX9 rfl rfl (by decide) kw_411 rfl ?_
        refine g_iload C 82 3 dX9_drawn_82 rfl ?_
        refine g_iload C 84 5 dX9_drawn_84 rfl ?_
        refine g_iast C 86 10 (fun z => [oB q_t 9 [.int t_knots, .ref q_t_weight, .ref q_t_beside, .ref q_t_edge, .int t_rowed, .ref q_t_row, .int t_bags, .ref q_t_bag, .ref q_t_up, .ref q_t_least, .int t_q, .ref q_t_factor, .ref q_t_pairFactor, .ref q_t_forbidden, .ref q_t_mayNot, .ref q_t_fixed, .ref q_t_state, .ref q_t_count, .ref q_t_best, .ref q_t_bests, .long t_allCount, .long t_allBest, .long t_allBests], aI cA q_t_weight 14 t_weight, aI cA q_t_beside 14 t_beside, aI cA q_t_edge 196 t_edge, aI cA q_t_bag 14 t_bag, aI cA q_t_up 14 t_up, aI cA q_t_factor 4 t_factor, aI cA q_t_pairFactor 16 t_pairFactor, aI cA q_t_forbidden 14 t_forbidden, aZ cA q_t_mayNot 16 t_mayNot, aI cA q_t_fixed 14 z, aI cA q_t_state 14 t_state, aJ cA q_t_count 14336 t_count, aJ cA q_t_best 14336 t_best, aJ cA q_t_bests 14336 t_bests]) dX9_drawn_86 rfl (fun _ => rfl) hf (fun t_fixed_12 hf => ?_)
        refine g_aload_n C 87 0 dX9_drawn_87 rfl rfl ?_
        refine g_iconst C 88 (1 : Int32) dX9_drawn_88 (by decide) ?_
        obtain ⟨u13, hu13, hf⟩ := cal_some hf
        refine g_callV1 C 89 [0, 1, 2, 3, 4, 5, 6, 7, 8, 9, 10, 11, 12, 13, 14] 0 (rest := []) dX9_drawn_89 (c_X9_ask (x_l X) cA q_t t_knots t_rowed q_t_row t_bags q_t_least t_q t_allCount t_allBest t_allBests q_t_weight t_weight q_t_beside t_beside q_t_edge t_edge q_t_bag t_bag q_t_up t_up q_t_factor t_factor q_t_pairFactor t_pairFactor q_t_forbidden t_forbidden q_t_mayNot t_mayNot q_t_fixed t_fixed_12 q_t_state t_state q_t_count t_count q_t_best t_best q_t_bests t_bests (1 : Int32) u13 hu13) kw_451 kw_452 kw_453 kw_343 kw_454 ok_X9_ask ⟨Nat.le_of_ble_eq_true rfl, Nat.le_of_ble_eq_true rfl⟩ hk ⟨rfl, rfl⟩ rfl rfl rfl rfl rfl (Nat.le_of_ble_eq_true rfl) rfl (ws' := [oB q_t 9 [.int t_knots, .ref q_t_weight, .ref q_t_beside, .ref q_t_edge, .int t_rowed, .ref q_t_row, .int t_bags, .ref q_t_bag, .ref q_t_up, .ref q_t_least, .int t_q, .ref q_t_factor, .ref q_t_pairFactor, .ref q_t_forbidden, .ref q_t_mayNot, .ref q_t_fixed, .ref q_t_state, .ref q_t_count, .ref q_t_best, .ref q_t_bests, .long u13.1, .long u13.2.1, .long u13.2.2.1], aI cA q_t_weight 14 t_weight, aI cA q_t_beside 14 t_beside, aI cA q_t_edge 196 t_edge, aI cA q_t_bag 14 t_bag, aI cA q_t_up 14 t_up, aI cA q_t_factor 4 t_factor, aI cA q_t_pairFactor 16 t_pairFactor, aI cA q_t_forbidden 14 t_forbidden, aZ cA q_t_mayNot 16 t_mayNot, aI cA q_t_fixed 14 t_fixed_12, aI cA q_t_state 14 u13.2.2.2.1, aJ cA q_t_count 14336 u13.2.2.2.2.1, aJ cA q_t_best 14336 u13.2.2.2.2.2.1, aJ cA q_t_bests 14336 u13.2.2.2.2.2.2]) (st' := []) (N0 := 15) rfl [some 0, some 1, some 2, some 3, some 4, some 5, some 6, some 7, some 8, some 9, some 10, some 11, some 12, some 13, some 14] (by decide) rfl rfl ?_
        refine g_lload C 92 2 dX9_drawn_92 rfl ?_
        refine g_aload_n C 94 0 dX9_drawn_94 rfl rfl ?_
        refine g_get C 95 0 20 dX9_drawn_95 inX9 rfl rfl (by decide) kw_424 rfl ?_
        refine g_lcmp C 98 dX9_drawn_98 ?_
        refine g_if_ge C 99 106 dX9_drawn_99 (by decide) hf (fun hf => ?_) (fun hf => ?_)
        · refine g_iconst C 106 (0 : Int32) dX9_drawn_106 (by decide) ?_
          refine g_lv [0, 1, 2, 3, 5] rfl ?_
          exact w_X9_drawn_107 cA q_t t_rowed q_t_row q_t_least q_t_weight q_t_beside q_t_edge q_t_bag q_t_up q_t_factor q_t_pairFactor q_t_forbidden q_t_mayNot q_t_fixed q_t_state q_t_count q_t_best q_t_bests a1 a3 t_knots t_bags t_q t_weight t_beside t_edge t_bag t_up t_factor t_pairFactor t_forbidden t_mayNot C hk F r hB (fun y0 y1 y2 y3 y4 y5 y6 y7 y8 y9 y10 y11 => L_X9_drawn_64 a1 a3 t_knots t_bags t_q t_weight t_beside t_edge t_bag t_up t_factor t_pairFactor t_forbidden t_mayNot k_52 n y0 y1 y2 y3 y4 y5 y6 y7 y8 y9 y10 y11) (fun y0 y1 y2 y3 y4 y5 y6 y7 y8 y9 y10 y11 hf => ih y0 y1 y2 y3 y4 y5 y6 y7 y8 y9 y10 y11 hf) x4 x6 x8 (0 : Int32) u13.1 u13.2.1 u13.2.2.1 t_fixed_12 u13.2.2.2.1 u13.2.2.2.2.1 u13.2.2.2.2.2.1 u13.2.2.2.2.2.2 hf
        · refine g_iconst C 102 (1 : Int32) dX9_drawn_102 (by decide) ?_
          refine g_goto C 103 107 dX9_drawn_103 (by decide) ?_
          refine g_lv [0, 1, 2, 3, 5] rfl ?_
          exact w_X9_drawn_107 cA q_t t_rowed q_t_row q_t_least q_t_weight q_t_beside q_t_edge q_t_bag q_t_up q_t_factor q_t_pairFactor q_t_forbidden q_t_mayNot q_t_fixed q_t_state q_t_count q_t_best q_t_bests a1 a3 t_knots t_bags t_q t_weight t_beside t_edge t_bag t_up t_factor t_pairFactor t_forbidden t_mayNot C hk F r hB (fun y0 y1 y2 y3 y4 y5 y6 y7 y8 y9 y10 y11 => L_X9_drawn_64 a1 a3 t_knots t_bags t_q t_weight t_beside t_edge t_bag t_up t_factor t_pairFactor t_forbidden t_mayNot k_52 n y0 y1 y2 y3 y4 y5 y6 y7 y8 y9 y10 y11) (fun y0 y1 y2 y3 y4 y5 y6 y7 y8 y9 y10 y11 hf => ih y0 y1 y2 y3 y4 y5 y6 y7 y8 y9 y10 y11 hf) x4 x6 x8 (1 : Int32) u13.1 u13.2.1 u13.2.2.1 t_fixed_12 u13.2.2.2.1 u13.2.2.2.2.1 u13.2.2.2.2.2.1 u13.2.2.2.2.2.2 hf
def L_X9_drawn_52 (a1 : Int64) (a3 : Int32) (t_knots : Int32) (t_bags : Int32) (t_q : Int32) (t_weight : Nat → Int32) (t_beside : Nat → Int32) (t_edge : Nat → Int32) (t_bag : Nat → Int32) (t_up : Nat → Int32) (t_factor : Nat → Int32) (t_pairFactor : Nat → Int32) (t_forbidden : Nat → Int32) (t_mayNot : Nat → Int32)  : Nat → Int64 → Int32 → Int64 → Int64 → Int64 → (Nat → Int32) → (Nat → Int32) → (Nat → Int64) → (Nat → Int64) → (Nat → Int64) → Option (Int32 × Int64 × Int64 × Int64 × (Nat → Int32) × (Nat → Int32) × (Nat → Int64) × (Nat → Int64) × (Nat → Int64))
  | 0, _, _, _, _, _, _, _, _, _, _ => none
  | n + 1, x4, x6, t_allCount, t_allBest, t_allBests, t_fixed, t_state, t_count, t_best, t_bests =>
    if a3 < x6 then
      ldA t_fixed 14 a3 fun v7 =>
      some (v7, t_allCount, t_allBest, t_allBests, t_fixed, t_state, t_count, t_best, t_bests)
    else
      bnd (0 : Int32) fun x7_8 =>
      bnd (0 : Int32) fun x8_9 =>
      L_X9_drawn_64 a1 a3 t_knots t_bags t_q t_weight t_beside t_edge t_bag t_up t_factor t_pairFactor t_forbidden t_mayNot (fun y0 y1 y2 y3 y4 y5 y6 y7 y8 y9 => L_X9_drawn_52 a1 a3 t_knots t_bags t_q t_weight t_beside t_edge t_bag t_up t_factor t_pairFactor t_forbidden t_mayNot n y0 y1 y2 y3 y4 y5 y6 y7 y8 y9) NN x4 x6 x7_8 x8_9 t_allCount t_allBest t_allBests t_fixed t_state t_count t_best t_bests

set_option maxRecDepth 100000 in
set_option maxHeartbeats 1000000 in
theorem w_X9_drawn_52 (cA : Nat → ClassId) (q_t : Nat) (t_rowed : Int32) (q_t_row : Nat) (q_t_least : Nat) (q_t_weight : Nat) (q_t_beside : Nat) (q_t_edge : Nat) (q_t_bag : Nat) (q_t_up : Nat) (q_t_factor : Nat) (q_t_pairFactor : Nat) (q_t_forbidden : Nat) (q_t_mayNot : Nat) (q_t_fixed : Nat) (q_t_state : Nat) (q_t_count : Nat) (q_t_best : Nat) (q_t_bests : Nat) (a1 : Int64) (a3 : Int32) (t_knots : Int32) (t_bags : Int32) (t_q : Int32) (t_weight : Nat → Int32) (t_beside : Nat → Int32) (t_edge : Nat → Int32) (t_bag : Nat → Int32) (t_up : Nat → Int32) (t_factor : Nat → Int32) (t_pairFactor : Nat → Int32) (t_forbidden : Nat → Int32) (t_mayNot : Nat → Int32) {X : XT}  (C : Cx X cX9_drawn RX9 (some .int) cA 4 102 9) {kk nn : Nat} {BB : Option Value → va_W → Prop} (hk : kk ≤ (x_R X).cells ∧ nn ≤ (x_R X).slots) (F : Fx X BB kk nn) (r : Int32 × Int64 × Int64 × Int64 × (Nat → Int32) × (Nat → Int32) × (Nat → Int64) × (Nat → Int64) × (Nat → Int64)) (hB : BB (some (.int r.1)) [oB q_t 9 [.int t_knots, .ref q_t_weight, .ref q_t_beside, .ref q_t_edge, .int t_rowed, .ref q_t_row, .int t_bags, .ref q_t_bag, .ref q_t_up, .ref q_t_least, .int t_q, .ref q_t_factor, .ref q_t_pairFactor, .ref q_t_forbidden, .ref q_t_mayNot, .ref q_t_fixed, .ref q_t_state, .ref q_t_count, .ref q_t_best, .ref q_t_bests, .long r.2.1, .long r.2.2.1, .long r.2.2.2.1], aI cA q_t_weight 14 t_weight, aI cA q_t_beside 14 t_beside, aI cA q_t_edge 196 t_edge, aI cA q_t_bag 14 t_bag, aI cA q_t_up 14 t_up, aI cA q_t_factor 4 t_factor, aI cA q_t_pairFactor 16 t_pairFactor, aI cA q_t_forbidden 14 t_forbidden, aZ cA q_t_mayNot 16 t_mayNot, aI cA q_t_fixed 14 r.2.2.2.2.1, aI cA q_t_state 14 r.2.2.2.2.2.1, aJ cA q_t_count 14336 r.2.2.2.2.2.2.1, aJ cA q_t_best 14336 r.2.2.2.2.2.2.2.1, aJ cA q_t_bests 14336 r.2.2.2.2.2.2.2.2])  : ∀ (n : Nat) (x4 : Int64) (x6 : Int32) (t_allCount : Int64) (t_allBest : Int64) (t_allBests : Int64) (t_fixed : Nat → Int32) (t_state : Nat → Int32) (t_count : Nat → Int64) (t_best : Nat → Int64) (t_bests : Nat → Int64), L_X9_drawn_52 a1 a3 t_knots t_bags t_q t_weight t_beside t_edge t_bag t_up t_factor t_pairFactor t_forbidden t_mayNot n x4 x6 t_allCount t_allBest t_allBests t_fixed t_state t_count t_best t_bests = some r → Go X 9 kk nn 52 [oB q_t 9 [.int t_knots, .ref q_t_weight, .ref q_t_beside, .ref q_t_edge, .int t_rowed, .ref q_t_row, .int t_bags, .ref q_t_bag, .ref q_t_up, .ref q_t_least, .int t_q, .ref q_t_factor, .ref q_t_pairFactor, .ref q_t_forbidden, .ref q_t_mayNot, .ref q_t_fixed, .ref q_t_state, .ref q_t_count, .ref q_t_best, .ref q_t_bests, .long t_allCount, .long t_allBest, .long t_allBests], aI cA q_t_weight 14 t_weight, aI cA q_t_beside 14 t_beside, aI cA q_t_edge 196 t_edge, aI cA q_t_bag 14 t_bag, aI cA q_t_up 14 t_up, aI cA q_t_factor 4 t_factor, aI cA q_t_pairFactor 16 t_pairFactor, aI cA q_t_forbidden 14 t_forbidden, aZ cA q_t_mayNot 16 t_mayNot, aI cA q_t_fixed 14 t_fixed, aI cA q_t_state 14 t_state, aJ cA q_t_count 14336 t_count, aJ cA q_t_best 14336 t_best, aJ cA q_t_bests 14336 t_bests] [(0, .ref q_t), (3, .int a3), (4, .long x4), (6, .int x6)] [] := by
  intro n
  induction n with
  | zero => intro x4 x6 t_allCount t_allBest t_allBests t_fixed t_state t_count t_best t_bests hf; exact no_some hf
  | succ n ih =>
    intro x4 x6 t_allCount t_allBest t_allBests t_fixed t_state t_count t_best t_bests hf
    rw [L_X9_drawn_52] at hf
    refine g_iload C 52 3 dX9_drawn_52 rfl ?_
    refine g_iload_n C 54 1 dX9_drawn_54 rfl rfl ?_
    refine g_icmp_gt C 55 139 dX9_drawn_55 (by decide) hf (fun hf => ?_) (fun hf => ?_)
    · refine g_aload_n C 139 0 dX9_drawn_139 rfl rfl ?_
      refine g_get C 140 0 15 dX9_drawn_140 inX9 rfl rfl (by decide) kw_411 rfl ?_
      refine g_iload_n C 143 1 dX9_drawn_143 rfl rfl ?_
      refine g_iald C 144 10 dX9_drawn_144 rfl hf (fun v7 hf => ?_)
      cases hf
      exact g_iret C 145 dX9_drawn_145 F hB
    · refine g_iconst C 58 (0 : Int32) dX9_drawn_58 (by decide) ?_
      refine g_istore C 59 (fun z => [(7, .int z), (0, .ref q_t), (3, .int a3), (4, .long x4), (6, .int x6)]) dX9_drawn_59 (by decide) (fun _ => rfl) hf (fun x7_8 hf => ?_)
      refine g_iconst C 61 (0 : Int32) dX9_drawn_61 (by decide) ?_
      refine g_istore C 62 (fun z => [(8, .int z), (7, .int x7_8), (0, .ref q_t), (3, .int a3), (4, .long x4), (6, .int x6)]) dX9_drawn_62 (by decide) (fun _ => rfl) hf (fun x8_9 hf => ?_)
      refine g_lv [2, 3, 4, 5, 1, 0] rfl ?_
      exact w_X9_drawn_64 cA q_t t_rowed q_t_row q_t_least q_t_weight q_t_beside q_t_edge q_t_bag q_t_up q_t_factor q_t_pairFactor q_t_forbidden q_t_mayNot q_t_fixed q_t_state q_t_count q_t_best q_t_bests a1 a3 t_knots t_bags t_q t_weight t_beside t_edge t_bag t_up t_factor t_pairFactor t_forbidden t_mayNot C hk F r hB (fun y0 y1 y2 y3 y4 y5 y6 y7 y8 y9 => L_X9_drawn_52 a1 a3 t_knots t_bags t_q t_weight t_beside t_edge t_bag t_up t_factor t_pairFactor t_forbidden t_mayNot n y0 y1 y2 y3 y4 y5 y6 y7 y8 y9) (fun y0 y1 y2 y3 y4 y5 y6 y7 y8 y9 hf => ih y0 y1 y2 y3 y4 y5 y6 y7 y8 y9 hf) NN x4 x6 x7_8 x8_9 t_allCount t_allBest t_allBests t_fixed t_state t_count t_best t_bests hf
def f_X9_drawn (a1 : Int64) (a3 : Int32) (t_knots : Int32) (t_bags : Int32) (t_q : Int32) (t_allCount : Int64) (t_allBest : Int64) (t_allBests : Int64) (t_weight : Nat → Int32) (t_beside : Nat → Int32) (t_edge : Nat → Int32) (t_bag : Nat → Int32) (t_up : Nat → Int32) (t_factor : Nat → Int32) (t_pairFactor : Nat → Int32) (t_forbidden : Nat → Int32) (t_mayNot : Nat → Int32) (t_fixed : Nat → Int32) (t_state : Nat → Int32) (t_count : Nat → Int64) (t_best : Nat → Int64) (t_bests : Nat → Int64) : Option (Int32 × Int64 × Int64 × Int64 × (Nat → Int32) × (Nat → Int32) × (Nat → Int64) × (Nat → Int64) × (Nat → Int64)) :=
  cal (f_X9_isKnot a3 t_knots) fun u1 =>
  if u1 = 0 then
    some ((-1 : Int32), t_allCount, t_allBest, t_allBests, t_fixed, t_state, t_count, t_best, t_bests)
  else
    cal (f_X9_isAsked t_knots t_bags t_beside t_bag t_up) fun u2 =>
    if u2 = 0 then
      some ((-4 : Int32), t_allCount, t_allBest, t_allBests, t_fixed, t_state, t_count, t_best, t_bests)
    else
      cal (f_X9_free t_fixed) fun u3 =>
      cal (f_X9_ask (1 : Int32) t_knots t_bags t_q t_allCount t_allBest t_allBests t_weight t_beside t_edge t_bag t_up t_factor t_pairFactor t_forbidden t_mayNot u3 t_state t_count t_best t_bests) fun u4 =>
      if (lg_cmp a1 (0 : Int64)) < 0 then
        some ((-1 : Int32), u4.1, u4.2.1, u4.2.2.1, u3, u4.2.2.2.1, u4.2.2.2.2.1, u4.2.2.2.2.2.1, u4.2.2.2.2.2.2)
      else
        if (lg_cmp a1 u4.1) < 0 then
          bnd a1 fun x4_5 =>
          bnd (0 : Int32) fun x6_6 =>
          L_X9_drawn_52 a1 a3 t_knots t_bags t_q t_weight t_beside t_edge t_bag t_up t_factor t_pairFactor t_forbidden t_mayNot NN x4_5 x6_6 u4.1 u4.2.1 u4.2.2.1 u3 u4.2.2.2.1 u4.2.2.2.2.1 u4.2.2.2.2.2.1 u4.2.2.2.2.2.2
        else
          some ((-1 : Int32), u4.1, u4.2.1, u4.2.2.1, u3, u4.2.2.2.1, u4.2.2.2.2.1, u4.2.2.2.2.2.1, u4.2.2.2.2.2.2)

set_option maxRecDepth 100000 in
set_option maxHeartbeats 1000000 in
theorem c_X9_drawn (l : Launch) (cA : Nat → ClassId) (q_t : Nat) (t_knots : Int32) (t_rowed : Int32) (q_t_row : Nat) (t_bags : Int32) (q_t_least : Nat) (t_q : Int32) (t_allCount : Int64) (t_allBest : Int64) (t_allBests : Int64) (q_t_weight : Nat) (t_weight : Nat → Int32) (q_t_beside : Nat) (t_beside : Nat → Int32) (q_t_edge : Nat) (t_edge : Nat → Int32) (q_t_bag : Nat) (t_bag : Nat → Int32) (q_t_up : Nat) (t_up : Nat → Int32) (q_t_factor : Nat) (t_factor : Nat → Int32) (q_t_pairFactor : Nat) (t_pairFactor : Nat → Int32) (q_t_forbidden : Nat) (t_forbidden : Nat → Int32) (q_t_mayNot : Nat) (t_mayNot : Nat → Int32) (q_t_fixed : Nat) (t_fixed : Nat → Int32) (q_t_state : Nat) (t_state : Nat → Int32) (q_t_count : Nat) (t_count : Nat → Int64) (q_t_best : Nat) (t_best : Nat → Int64) (q_t_bests : Nat) (t_bests : Nat → Int64)  (a1 : Int64) (a3 : Int32) (r : Int32 × Int64 × Int64 × Int64 × (Nat → Int32) × (Nat → Int32) × (Nat → Int64) × (Nat → Int64) × (Nat → Int64)) (hf : f_X9_drawn a1 a3 t_knots t_bags t_q t_allCount t_allBest t_allBests t_weight t_beside t_edge t_bag t_up t_factor t_pairFactor t_forbidden t_mayNot t_fixed t_state t_count t_best t_bests = some r) : MT l cA yX9_drawn cX9_drawn 9 (some .int) ({ frames := 4, cells := 0, slots := 0, locals := 102 } : Room) [.ref q_t, .long a1, .int a3] [oB q_t 9 [.int t_knots, .ref q_t_weight, .ref q_t_beside, .ref q_t_edge, .int t_rowed, .ref q_t_row, .int t_bags, .ref q_t_bag, .ref q_t_up, .ref q_t_least, .int t_q, .ref q_t_factor, .ref q_t_pairFactor, .ref q_t_forbidden, .ref q_t_mayNot, .ref q_t_fixed, .ref q_t_state, .ref q_t_count, .ref q_t_best, .ref q_t_bests, .long t_allCount, .long t_allBest, .long t_allBests], aI cA q_t_weight 14 t_weight, aI cA q_t_beside 14 t_beside, aI cA q_t_edge 196 t_edge, aI cA q_t_bag 14 t_bag, aI cA q_t_up 14 t_up, aI cA q_t_factor 4 t_factor, aI cA q_t_pairFactor 16 t_pairFactor, aI cA q_t_forbidden 14 t_forbidden, aZ cA q_t_mayNot 16 t_mayNot, aI cA q_t_fixed 14 t_fixed, aI cA q_t_state 14 t_state, aJ cA q_t_count 14336 t_count, aJ cA q_t_best 14336 t_best, aJ cA q_t_bests 14336 t_bests] (sB (some (.int r.1)) [oB q_t 9 [.int t_knots, .ref q_t_weight, .ref q_t_beside, .ref q_t_edge, .int t_rowed, .ref q_t_row, .int t_bags, .ref q_t_bag, .ref q_t_up, .ref q_t_least, .int t_q, .ref q_t_factor, .ref q_t_pairFactor, .ref q_t_forbidden, .ref q_t_mayNot, .ref q_t_fixed, .ref q_t_state, .ref q_t_count, .ref q_t_best, .ref q_t_bests, .long r.2.1, .long r.2.2.1, .long r.2.2.2.1], aI cA q_t_weight 14 t_weight, aI cA q_t_beside 14 t_beside, aI cA q_t_edge 196 t_edge, aI cA q_t_bag 14 t_bag, aI cA q_t_up 14 t_up, aI cA q_t_factor 4 t_factor, aI cA q_t_pairFactor 16 t_pairFactor, aI cA q_t_forbidden 14 t_forbidden, aZ cA q_t_mayNot 16 t_mayNot, aI cA q_t_fixed 14 r.2.2.2.2.1, aI cA q_t_state 14 r.2.2.2.2.2.1, aJ cA q_t_count 14336 r.2.2.2.2.2.2.1, aJ cA q_t_best 14336 r.2.2.2.2.2.2.2.1, aJ cA q_t_bests 14336 r.2.2.2.2.2.2.2.2]) := by
  refine MT.of (by decide) (Nat.le_of_ble_eq_true rfl) ?_
  intro X hXl C F hnm hrc hrs
  subst hXl
  have hk : 0 ≤ (x_R X).cells ∧ 0 ≤ (x_R X).slots := ⟨Nat.zero_le _, Nat.zero_le _⟩
  have hB : (sB (some (.int r.1)) [oB q_t 9 [.int t_knots, .ref q_t_weight, .ref q_t_beside, .ref q_t_edge, .int t_rowed, .ref q_t_row, .int t_bags, .ref q_t_bag, .ref q_t_up, .ref q_t_least, .int t_q, .ref q_t_factor, .ref q_t_pairFactor, .ref q_t_forbidden, .ref q_t_mayNot, .ref q_t_fixed, .ref q_t_state, .ref q_t_count, .ref q_t_best, .ref q_t_bests, .long r.2.1, .long r.2.2.1, .long r.2.2.2.1], aI cA q_t_weight 14 t_weight, aI cA q_t_beside 14 t_beside, aI cA q_t_edge 196 t_edge, aI cA q_t_bag 14 t_bag, aI cA q_t_up 14 t_up, aI cA q_t_factor 4 t_factor, aI cA q_t_pairFactor 16 t_pairFactor, aI cA q_t_forbidden 14 t_forbidden, aZ cA q_t_mayNot 16 t_mayNot, aI cA q_t_fixed 14 r.2.2.2.2.1, aI cA q_t_state 14 r.2.2.2.2.2.1, aJ cA q_t_count 14336 r.2.2.2.2.2.2.1, aJ cA q_t_best 14336 r.2.2.2.2.2.2.2.1, aJ cA q_t_bests 14336 r.2.2.2.2.2.2.2.2]) (some (.int r.1)) [oB q_t 9 [.int t_knots, .ref q_t_weight, .ref q_t_beside, .ref q_t_edge, .int t_rowed, .ref q_t_row, .int t_bags, .ref q_t_bag, .ref q_t_up, .ref q_t_least, .int t_q, .ref q_t_factor, .ref q_t_pairFactor, .ref q_t_forbidden, .ref q_t_mayNot, .ref q_t_fixed, .ref q_t_state, .ref q_t_count, .ref q_t_best, .ref q_t_bests, .long r.2.1, .long r.2.2.1, .long r.2.2.2.1], aI cA q_t_weight 14 t_weight, aI cA q_t_beside 14 t_beside, aI cA q_t_edge 196 t_edge, aI cA q_t_bag 14 t_bag, aI cA q_t_up 14 t_up, aI cA q_t_factor 4 t_factor, aI cA q_t_pairFactor 16 t_pairFactor, aI cA q_t_forbidden 14 t_forbidden, aZ cA q_t_mayNot 16 t_mayNot, aI cA q_t_fixed 14 r.2.2.2.2.1, aI cA q_t_state 14 r.2.2.2.2.2.1, aJ cA q_t_count 14336 r.2.2.2.2.2.2.1, aJ cA q_t_best 14336 r.2.2.2.2.2.2.2.1, aJ cA q_t_bests 14336 r.2.2.2.2.2.2.2.2] := ⟨rfl, rfl⟩
  unfold f_X9_drawn at hf
  have C : Cx X cX9_drawn RX9 (some .int) cA 4 102 9 := C
  show Go X 9 0 0 0 [oB q_t 9 [.int t_knots, .ref q_t_weight, .ref q_t_beside, .ref q_t_edge, .int t_rowed, .ref q_t_row, .int t_bags, .ref q_t_bag, .ref q_t_up, .ref q_t_least, .int t_q, .ref q_t_factor, .ref q_t_pairFactor, .ref q_t_forbidden, .ref q_t_mayNot, .ref q_t_fixed, .ref q_t_state, .ref q_t_count, .ref q_t_best, .ref q_t_bests, .long t_allCount, .long t_allBest, .long t_allBests], aI cA q_t_weight 14 t_weight, aI cA q_t_beside 14 t_beside, aI cA q_t_edge 196 t_edge, aI cA q_t_bag 14 t_bag, aI cA q_t_up 14 t_up, aI cA q_t_factor 4 t_factor, aI cA q_t_pairFactor 16 t_pairFactor, aI cA q_t_forbidden 14 t_forbidden, aZ cA q_t_mayNot 16 t_mayNot, aI cA q_t_fixed 14 t_fixed, aI cA q_t_state 14 t_state, aJ cA q_t_count 14336 t_count, aJ cA q_t_best 14336 t_best, aJ cA q_t_bests 14336 t_bests] [(0, .ref q_t), (1, .long a1), (3, .int a3)] []
  refine g_aload_n C 0 0 dX9_drawn_0 rfl rfl ?_
  refine g_iload_n C 1 2 dX9_drawn_1 rfl rfl ?_
  obtain ⟨u1, hu1, hf⟩ := cal_some hf
  refine g_callV1 C 2 [0] 0 (rest := []) dX9_drawn_2 (c_X9_isKnot (x_l X) cA q_t t_knots q_t_weight q_t_beside q_t_edge t_rowed q_t_row t_bags q_t_bag q_t_up q_t_least t_q q_t_factor q_t_pairFactor q_t_forbidden q_t_mayNot q_t_fixed q_t_state q_t_count q_t_best q_t_bests t_allCount t_allBest t_allBests a3 u1 hu1) kw_349 kw_350 kw_351 kw_343 kw_352 ok_X9_isKnot ⟨Nat.le_of_ble_eq_true rfl, Nat.le_of_ble_eq_true rfl⟩ hk ⟨rfl, rfl⟩ rfl rfl rfl rfl rfl (Nat.le_of_ble_eq_true rfl) rfl (ws' := [oB q_t 9 [.int t_knots, .ref q_t_weight, .ref q_t_beside, .ref q_t_edge, .int t_rowed, .ref q_t_row, .int t_bags, .ref q_t_bag, .ref q_t_up, .ref q_t_least, .int t_q, .ref q_t_factor, .ref q_t_pairFactor, .ref q_t_forbidden, .ref q_t_mayNot, .ref q_t_fixed, .ref q_t_state, .ref q_t_count, .ref q_t_best, .ref q_t_bests, .long t_allCount, .long t_allBest, .long t_allBests], aI cA q_t_weight 14 t_weight, aI cA q_t_beside 14 t_beside, aI cA q_t_edge 196 t_edge, aI cA q_t_bag 14 t_bag, aI cA q_t_up 14 t_up, aI cA q_t_factor 4 t_factor, aI cA q_t_pairFactor 16 t_pairFactor, aI cA q_t_forbidden 14 t_forbidden, aZ cA q_t_mayNot 16 t_mayNot, aI cA q_t_fixed 14 t_fixed, aI cA q_t_state 14 t_state, aJ cA q_t_count 14336 t_count, aJ cA q_t_best 14336 t_best, aJ cA q_t_bests 14336 t_bests]) (st' := [.int u1]) (N0 := 15) rfl [some 0, none, none, none, none, none, none, none, none, none, none, none, none, none, none] (by decide) rfl rfl ?_
  refine g_if_ne C 5 10 dX9_drawn_5 (by decide) hf (fun hf => ?_) (fun hf => ?_)
  · refine g_aload_n C 10 0 dX9_drawn_10 rfl rfl ?_
    obtain ⟨u2, hu2, hf⟩ := cal_some hf
    refine g_callV1 C 11 [0, 2, 4, 5] 0 (rest := []) dX9_drawn_11 (c_X9_isAsked (x_l X) cA q_t t_knots q_t_weight q_t_edge t_rowed q_t_row t_bags q_t_least t_q q_t_factor q_t_pairFactor q_t_forbidden q_t_mayNot q_t_fixed q_t_state q_t_count q_t_best q_t_bests t_allCount t_allBest t_allBests q_t_beside t_beside q_t_bag t_bag q_t_up t_up u2 hu2) kw_443 kw_444 kw_445 kw_343 kw_446 ok_X9_isAsked ⟨Nat.le_of_ble_eq_true rfl, Nat.le_of_ble_eq_true rfl⟩ hk ⟨rfl, rfl⟩ rfl rfl rfl rfl rfl (Nat.le_of_ble_eq_true rfl) rfl (ws' := [oB q_t 9 [.int t_knots, .ref q_t_weight, .ref q_t_beside, .ref q_t_edge, .int t_rowed, .ref q_t_row, .int t_bags, .ref q_t_bag, .ref q_t_up, .ref q_t_least, .int t_q, .ref q_t_factor, .ref q_t_pairFactor, .ref q_t_forbidden, .ref q_t_mayNot, .ref q_t_fixed, .ref q_t_state, .ref q_t_count, .ref q_t_best, .ref q_t_bests, .long t_allCount, .long t_allBest, .long t_allBests], aI cA q_t_weight 14 t_weight, aI cA q_t_beside 14 t_beside, aI cA q_t_edge 196 t_edge, aI cA q_t_bag 14 t_bag, aI cA q_t_up 14 t_up, aI cA q_t_factor 4 t_factor, aI cA q_t_pairFactor 16 t_pairFactor, aI cA q_t_forbidden 14 t_forbidden, aZ cA q_t_mayNot 16 t_mayNot, aI cA q_t_fixed 14 t_fixed, aI cA q_t_state 14 t_state, aJ cA q_t_count 14336 t_count, aJ cA q_t_best 14336 t_best, aJ cA q_t_bests 14336 t_bests]) (st' := [.int u2]) (N0 := 15) rfl [some 0, none, some 1, none, some 2, some 3, none, none, none, none, none, none, none, none, none] (by decide) rfl rfl ?_
    refine g_if_ne C 14 20 dX9_drawn_14 (by decide) hf (fun hf => ?_) (fun hf => ?_)
    · refine g_aload_n C 20 0 dX9_drawn_20 rfl rfl ?_
      obtain ⟨u3, hu3, hf⟩ := cal_some hf
      refine g_callV1 C 21 [0, 10] 0 (rest := []) dX9_drawn_21 (c_X9_free (x_l X) cA q_t t_knots q_t_weight q_t_beside q_t_edge t_rowed q_t_row t_bags q_t_bag q_t_up q_t_least t_q q_t_factor q_t_pairFactor q_t_forbidden q_t_mayNot q_t_state q_t_count q_t_best q_t_bests t_allCount t_allBest t_allBests q_t_fixed t_fixed u3 hu3) kw_447 kw_448 kw_449 kw_343 kw_450 ok_X9_free ⟨Nat.le_of_ble_eq_true rfl, Nat.le_of_ble_eq_true rfl⟩ hk ⟨rfl, rfl⟩ rfl rfl rfl rfl rfl (Nat.le_of_ble_eq_true rfl) rfl (ws' := [oB q_t 9 [.int t_knots, .ref q_t_weight, .ref q_t_beside, .ref q_t_edge, .int t_rowed, .ref q_t_row, .int t_bags, .ref q_t_bag, .ref q_t_up, .ref q_t_least, .int t_q, .ref q_t_factor, .ref q_t_pairFactor, .ref q_t_forbidden, .ref q_t_mayNot, .ref q_t_fixed, .ref q_t_state, .ref q_t_count, .ref q_t_best, .ref q_t_bests, .long t_allCount, .long t_allBest, .long t_allBests], aI cA q_t_weight 14 t_weight, aI cA q_t_beside 14 t_beside, aI cA q_t_edge 196 t_edge, aI cA q_t_bag 14 t_bag, aI cA q_t_up 14 t_up, aI cA q_t_factor 4 t_factor, aI cA q_t_pairFactor 16 t_pairFactor, aI cA q_t_forbidden 14 t_forbidden, aZ cA q_t_mayNot 16 t_mayNot, aI cA q_t_fixed 14 u3, aI cA q_t_state 14 t_state, aJ cA q_t_count 14336 t_count, aJ cA q_t_best 14336 t_best, aJ cA q_t_bests 14336 t_bests]) (st' := []) (N0 := 15) rfl [some 0, none, none, none, none, none, none, none, none, none, some 1, none, none, none, none] (by decide) rfl rfl ?_
      refine g_aload_n C 24 0 dX9_drawn_24 rfl rfl ?_
      refine g_iconst C 25 (1 : Int32) dX9_drawn_25 (by decide) ?_
      obtain ⟨u4, hu4, hf⟩ := cal_some hf
      refine g_callV1 C 26 [0, 1, 2, 3, 4, 5, 6, 7, 8, 9, 10, 11, 12, 13, 14] 0 (rest := []) dX9_drawn_26 (c_X9_ask (x_l X) cA q_t t_knots t_rowed q_t_row t_bags q_t_least t_q t_allCount t_allBest t_allBests q_t_weight t_weight q_t_beside t_beside q_t_edge t_edge q_t_bag t_bag q_t_up t_up q_t_factor t_factor q_t_pairFactor t_pairFactor q_t_forbidden t_forbidden q_t_mayNot t_mayNot q_t_fixed u3 q_t_state t_state q_t_count t_count q_t_best t_best q_t_bests t_bests (1 : Int32) u4 hu4) kw_451 kw_452 kw_453 kw_343 kw_454 ok_X9_ask ⟨Nat.le_of_ble_eq_true rfl, Nat.le_of_ble_eq_true rfl⟩ hk ⟨rfl, rfl⟩ rfl rfl rfl rfl rfl (Nat.le_of_ble_eq_true rfl) rfl (ws' := [oB q_t 9 [.int t_knots, .ref q_t_weight, .ref q_t_beside, .ref q_t_edge, .int t_rowed, .ref q_t_row, .int t_bags, .ref q_t_bag, .ref q_t_up, .ref q_t_least, .int t_q, .ref q_t_factor, .ref q_t_pairFactor, .ref q_t_forbidden, .ref q_t_mayNot, .ref q_t_fixed, .ref q_t_state, .ref q_t_count, .ref q_t_best, .ref q_t_bests, .long u4.1, .long u4.2.1, .long u4.2.2.1], aI cA q_t_weight 14 t_weight, aI cA q_t_beside 14 t_beside, aI cA q_t_edge 196 t_edge, aI cA q_t_bag 14 t_bag, aI cA q_t_up 14 t_up, aI cA q_t_factor 4 t_factor, aI cA q_t_pairFactor 16 t_pairFactor, aI cA q_t_forbidden 14 t_forbidden, aZ cA q_t_mayNot 16 t_mayNot, aI cA q_t_fixed 14 u3, aI cA q_t_state 14 u4.2.2.2.1, aJ cA q_t_count 14336 u4.2.2.2.2.1, aJ cA q_t_best 14336 u4.2.2.2.2.2.1, aJ cA q_t_bests 14336 u4.2.2.2.2.2.2]) (st' := []) (N0 := 15) rfl [some 0, some 1, some 2, some 3, some 4, some 5, some 6, some 7, some 8, some 9, some 10, some 11, some 12, some 13, some 14] (by decide) rfl rfl ?_
      refine g_lload_n C 29 1 dX9_drawn_29 rfl rfl ?_
      refine g_lconst C 30 (0 : Int64) dX9_drawn_30 (by decide) ?_
      refine g_lcmp C 31 dX9_drawn_31 ?_
      refine g_if_lt C 32 44 dX9_drawn_32 (by decide) hf (fun hf => ?_) (fun hf => ?_)
      · refine g_iconst C 44 (-1 : Int32) dX9_drawn_44 (by decide) ?_
        cases hf
        exact g_iret C 45 dX9_drawn_45 F hB
      · refine g_lload_n C 35 1 dX9_drawn_35 rfl rfl ?_
        refine g_aload_n C 36 0 dX9_drawn_36 rfl rfl ?_
        refine g_get C 37 0 20 dX9_drawn_37 inX9 rfl rfl (by decide) kw_424 rfl ?_
        refine g_lcmp C 40 dX9_drawn_40 ?_
        refine g_if_lt C 41 46 dX9_drawn_41 (by decide) hf (fun hf => ?_) (fun hf => ?_)
        · refine g_lload_n C 46 1 dX9_drawn_46 rfl rfl ?_
          refine g_lstore C 47 (fun z => [(4, .long z), (0, .ref q_t), (1, .long a1), (3, .int a3)]) dX9_drawn_47 (by decide) (fun _ => rfl) hf (fun x4_5 hf => ?_)
          refine g_iconst C 49 (0 : Int32) dX9_drawn_49 (by decide) ?_
          refine g_istore C 50 (fun z => [(6, .int z), (4, .long x4_5), (0, .ref q_t), (1, .long a1), (3, .int a3)]) dX9_drawn_50 (by decide) (fun _ => rfl) hf (fun x6_6 hf => ?_)
          refine g_lv [2, 4, 1, 0] rfl ?_
          exact w_X9_drawn_52 cA q_t t_rowed q_t_row q_t_least q_t_weight q_t_beside q_t_edge q_t_bag q_t_up q_t_factor q_t_pairFactor q_t_forbidden q_t_mayNot q_t_fixed q_t_state q_t_count q_t_best q_t_bests a1 a3 t_knots t_bags t_q t_weight t_beside t_edge t_bag t_up t_factor t_pairFactor t_forbidden t_mayNot C hk F r hB NN x4_5 x6_6 u4.1 u4.2.1 u4.2.2.1 u3 u4.2.2.2.1 u4.2.2.2.2.1 u4.2.2.2.2.2.1 u4.2.2.2.2.2.2 hf
        · refine g_iconst C 44 (-1 : Int32) dX9_drawn_44 (by decide) ?_
          cases hf
          exact g_iret C 45 dX9_drawn_45 F hB
    · refine g_bipush C 17 (-4 : Int32) dX9_drawn_17 (by decide) ?_
      cases hf
      exact g_iret C 19 dX9_drawn_19 F hB
  · refine g_iconst C 8 (-1 : Int32) dX9_drawn_8 (by decide) ?_
    cases hf
    exact g_iret C 9 dX9_drawn_9 F hB

def f_X9_share (a1 : Int32) (a2 : Int32) (t_knots : Int32) (t_bags : Int32) (t_q : Int32) (t_allCount : Int64) (t_allBest : Int64) (t_allBests : Int64) (t_weight : Nat → Int32) (t_beside : Nat → Int32) (t_edge : Nat → Int32) (t_bag : Nat → Int32) (t_up : Nat → Int32) (t_factor : Nat → Int32) (t_pairFactor : Nat → Int32) (t_forbidden : Nat → Int32) (t_mayNot : Nat → Int32) (t_fixed : Nat → Int32) (t_state : Nat → Int32) (t_count : Nat → Int64) (t_best : Nat → Int64) (t_bests : Nat → Int64) : Option (Int64 × Int64 × Int64 × Int64 × (Nat → Int32) × (Nat → Int32) × (Nat → Int64) × (Nat → Int64) × (Nat → Int64)) :=
  cal (f_X9_isAsked t_knots t_bags t_beside t_bag t_up) fun u1 =>
  if u1 = 0 then
    some ((-9223372036854775808 : Int64), t_allCount, t_allBest, t_allBests, t_fixed, t_state, t_count, t_best, t_bests)
  else
    cal (f_X9_isKnot a1 t_knots) fun u2 =>
    if u2 = 0 then
      some ((-9223372036854775808 : Int64), t_allCount, t_allBest, t_allBests, t_fixed, t_state, t_count, t_best, t_bests)
    else
      cal (f_X9_isState a2 t_q) fun u3 =>
      if u3 = 0 then
        some ((-9223372036854775808 : Int64), t_allCount, t_allBest, t_allBests, t_fixed, t_state, t_count, t_best, t_bests)
      else
        cal (f_X9_free t_fixed) fun u4 =>
        stI u4 14 a1 a2 fun t_fixed_5 =>
        cal (f_X9_ask (1 : Int32) t_knots t_bags t_q t_allCount t_allBest t_allBests t_weight t_beside t_edge t_bag t_up t_factor t_pairFactor t_forbidden t_mayNot t_fixed_5 t_state t_count t_best t_bests) fun u6 =>
        some (u6.1, u6.1, u6.2.1, u6.2.2.1, t_fixed_5, u6.2.2.2.1, u6.2.2.2.2.1, u6.2.2.2.2.2.1, u6.2.2.2.2.2.2)

set_option maxRecDepth 100000 in
set_option maxHeartbeats 1000000 in
theorem c_X9_share (l : Launch) (cA : Nat → ClassId) (q_t : Nat) (t_knots : Int32) (t_rowed : Int32) (q_t_row : Nat) (t_bags : Int32) (q_t_least : Nat) (t_q : Int32) (t_allCount : Int64) (t_allBest : Int64) (t_allBests : Int64) (q_t_weight : Nat) (t_weight : Nat → Int32) (q_t_beside : Nat) (t_beside : Nat → Int32) (q_t_edge : Nat) (t_edge : Nat → Int32) (q_t_bag : Nat) (t_bag : Nat → Int32) (q_t_up : Nat) (t_up : Nat → Int32) (q_t_factor : Nat) (t_factor : Nat → Int32) (q_t_pairFactor : Nat) (t_pairFactor : Nat → Int32) (q_t_forbidden : Nat) (t_forbidden : Nat → Int32) (q_t_mayNot : Nat) (t_mayNot : Nat → Int32) (q_t_fixed : Nat) (t_fixed : Nat → Int32) (q_t_state : Nat) (t_state : Nat → Int32) (q_t_count : Nat) (t_count : Nat → Int64) (q_t_best : Nat) (t_best : Nat → Int64) (q_t_bests : Nat) (t_bests : Nat → Int64)  (a1 : Int32) (a2 : Int32) (r : Int64 × Int64 × Int64 × Int64 × (Nat → Int32) × (Nat → Int32) × (Nat → Int64) × (Nat → Int64) × (Nat → Int64)) (hf : f_X9_share a1 a2 t_knots t_bags t_q t_allCount t_allBest t_allBests t_weight t_beside t_edge t_bag t_up t_factor t_pairFactor t_forbidden t_mayNot t_fixed t_state t_count t_best t_bests = some r) : MT l cA yX9_share cX9_share 3 (some .long) ({ frames := 4, cells := 0, slots := 0, locals := 102 } : Room) [.ref q_t, .int a1, .int a2] [oB q_t 9 [.int t_knots, .ref q_t_weight, .ref q_t_beside, .ref q_t_edge, .int t_rowed, .ref q_t_row, .int t_bags, .ref q_t_bag, .ref q_t_up, .ref q_t_least, .int t_q, .ref q_t_factor, .ref q_t_pairFactor, .ref q_t_forbidden, .ref q_t_mayNot, .ref q_t_fixed, .ref q_t_state, .ref q_t_count, .ref q_t_best, .ref q_t_bests, .long t_allCount, .long t_allBest, .long t_allBests], aI cA q_t_weight 14 t_weight, aI cA q_t_beside 14 t_beside, aI cA q_t_edge 196 t_edge, aI cA q_t_bag 14 t_bag, aI cA q_t_up 14 t_up, aI cA q_t_factor 4 t_factor, aI cA q_t_pairFactor 16 t_pairFactor, aI cA q_t_forbidden 14 t_forbidden, aZ cA q_t_mayNot 16 t_mayNot, aI cA q_t_fixed 14 t_fixed, aI cA q_t_state 14 t_state, aJ cA q_t_count 14336 t_count, aJ cA q_t_best 14336 t_best, aJ cA q_t_bests 14336 t_bests] (sB (some (.long r.1)) [oB q_t 9 [.int t_knots, .ref q_t_weight, .ref q_t_beside, .ref q_t_edge, .int t_rowed, .ref q_t_row, .int t_bags, .ref q_t_bag, .ref q_t_up, .ref q_t_least, .int t_q, .ref q_t_factor, .ref q_t_pairFactor, .ref q_t_forbidden, .ref q_t_mayNot, .ref q_t_fixed, .ref q_t_state, .ref q_t_count, .ref q_t_best, .ref q_t_bests, .long r.2.1, .long r.2.2.1, .long r.2.2.2.1], aI cA q_t_weight 14 t_weight, aI cA q_t_beside 14 t_beside, aI cA q_t_edge 196 t_edge, aI cA q_t_bag 14 t_bag, aI cA q_t_up 14 t_up, aI cA q_t_factor 4 t_factor, aI cA q_t_pairFactor 16 t_pairFactor, aI cA q_t_forbidden 14 t_forbidden, aZ cA q_t_mayNot 16 t_mayNot, aI cA q_t_fixed 14 r.2.2.2.2.1, aI cA q_t_state 14 r.2.2.2.2.2.1, aJ cA q_t_count 14336 r.2.2.2.2.2.2.1, aJ cA q_t_best 14336 r.2.2.2.2.2.2.2.1, aJ cA q_t_bests 14336 r.2.2.2.2.2.2.2.2]) := by
  refine MT.of (by decide) (Nat.le_of_ble_eq_true rfl) ?_
  intro X hXl C F hnm hrc hrs
  subst hXl
  have hk : 0 ≤ (x_R X).cells ∧ 0 ≤ (x_R X).slots := ⟨Nat.zero_le _, Nat.zero_le _⟩
  have hB : (sB (some (.long r.1)) [oB q_t 9 [.int t_knots, .ref q_t_weight, .ref q_t_beside, .ref q_t_edge, .int t_rowed, .ref q_t_row, .int t_bags, .ref q_t_bag, .ref q_t_up, .ref q_t_least, .int t_q, .ref q_t_factor, .ref q_t_pairFactor, .ref q_t_forbidden, .ref q_t_mayNot, .ref q_t_fixed, .ref q_t_state, .ref q_t_count, .ref q_t_best, .ref q_t_bests, .long r.2.1, .long r.2.2.1, .long r.2.2.2.1], aI cA q_t_weight 14 t_weight, aI cA q_t_beside 14 t_beside, aI cA q_t_edge 196 t_edge, aI cA q_t_bag 14 t_bag, aI cA q_t_up 14 t_up, aI cA q_t_factor 4 t_factor, aI cA q_t_pairFactor 16 t_pairFactor, aI cA q_t_forbidden 14 t_forbidden, aZ cA q_t_mayNot 16 t_mayNot, aI cA q_t_fixed 14 r.2.2.2.2.1, aI cA q_t_state 14 r.2.2.2.2.2.1, aJ cA q_t_count 14336 r.2.2.2.2.2.2.1, aJ cA q_t_best 14336 r.2.2.2.2.2.2.2.1, aJ cA q_t_bests 14336 r.2.2.2.2.2.2.2.2]) (some (.long r.1)) [oB q_t 9 [.int t_knots, .ref q_t_weight, .ref q_t_beside, .ref q_t_edge, .int t_rowed, .ref q_t_row, .int t_bags, .ref q_t_bag, .ref q_t_up, .ref q_t_least, .int t_q, .ref q_t_factor, .ref q_t_pairFactor, .ref q_t_forbidden, .ref q_t_mayNot, .ref q_t_fixed, .ref q_t_state, .ref q_t_count, .ref q_t_best, .ref q_t_bests, .long r.2.1, .long r.2.2.1, .long r.2.2.2.1], aI cA q_t_weight 14 t_weight, aI cA q_t_beside 14 t_beside, aI cA q_t_edge 196 t_edge, aI cA q_t_bag 14 t_bag, aI cA q_t_up 14 t_up, aI cA q_t_factor 4 t_factor, aI cA q_t_pairFactor 16 t_pairFactor, aI cA q_t_forbidden 14 t_forbidden, aZ cA q_t_mayNot 16 t_mayNot, aI cA q_t_fixed 14 r.2.2.2.2.1, aI cA q_t_state 14 r.2.2.2.2.2.1, aJ cA q_t_count 14336 r.2.2.2.2.2.2.1, aJ cA q_t_best 14336 r.2.2.2.2.2.2.2.1, aJ cA q_t_bests 14336 r.2.2.2.2.2.2.2.2] := ⟨rfl, rfl⟩
  unfold f_X9_share at hf
  have C : Cx X cX9_share RX9 (some .long) cA 4 102 3 := C
  show Go X 3 0 0 0 [oB q_t 9 [.int t_knots, .ref q_t_weight, .ref q_t_beside, .ref q_t_edge, .int t_rowed, .ref q_t_row, .int t_bags, .ref q_t_bag, .ref q_t_up, .ref q_t_least, .int t_q, .ref q_t_factor, .ref q_t_pairFactor, .ref q_t_forbidden, .ref q_t_mayNot, .ref q_t_fixed, .ref q_t_state, .ref q_t_count, .ref q_t_best, .ref q_t_bests, .long t_allCount, .long t_allBest, .long t_allBests], aI cA q_t_weight 14 t_weight, aI cA q_t_beside 14 t_beside, aI cA q_t_edge 196 t_edge, aI cA q_t_bag 14 t_bag, aI cA q_t_up 14 t_up, aI cA q_t_factor 4 t_factor, aI cA q_t_pairFactor 16 t_pairFactor, aI cA q_t_forbidden 14 t_forbidden, aZ cA q_t_mayNot 16 t_mayNot, aI cA q_t_fixed 14 t_fixed, aI cA q_t_state 14 t_state, aJ cA q_t_count 14336 t_count, aJ cA q_t_best 14336 t_best, aJ cA q_t_bests 14336 t_bests] [(0, .ref q_t), (1, .int a1), (2, .int a2)] []
  refine g_aload_n C 0 0 dX9_share_0 rfl rfl ?_
  obtain ⟨u1, hu1, hf⟩ := cal_some hf
  refine g_callV1 C 1 [0, 2, 4, 5] 0 (rest := []) dX9_share_1 (c_X9_isAsked (x_l X) cA q_t t_knots q_t_weight q_t_edge t_rowed q_t_row t_bags q_t_least t_q q_t_factor q_t_pairFactor q_t_forbidden q_t_mayNot q_t_fixed q_t_state q_t_count q_t_best q_t_bests t_allCount t_allBest t_allBests q_t_beside t_beside q_t_bag t_bag q_t_up t_up u1 hu1) kw_443 kw_444 kw_445 kw_343 kw_446 ok_X9_isAsked ⟨Nat.le_of_ble_eq_true rfl, Nat.le_of_ble_eq_true rfl⟩ hk ⟨rfl, rfl⟩ rfl rfl rfl rfl rfl (Nat.le_of_ble_eq_true rfl) rfl (ws' := [oB q_t 9 [.int t_knots, .ref q_t_weight, .ref q_t_beside, .ref q_t_edge, .int t_rowed, .ref q_t_row, .int t_bags, .ref q_t_bag, .ref q_t_up, .ref q_t_least, .int t_q, .ref q_t_factor, .ref q_t_pairFactor, .ref q_t_forbidden, .ref q_t_mayNot, .ref q_t_fixed, .ref q_t_state, .ref q_t_count, .ref q_t_best, .ref q_t_bests, .long t_allCount, .long t_allBest, .long t_allBests], aI cA q_t_weight 14 t_weight, aI cA q_t_beside 14 t_beside, aI cA q_t_edge 196 t_edge, aI cA q_t_bag 14 t_bag, aI cA q_t_up 14 t_up, aI cA q_t_factor 4 t_factor, aI cA q_t_pairFactor 16 t_pairFactor, aI cA q_t_forbidden 14 t_forbidden, aZ cA q_t_mayNot 16 t_mayNot, aI cA q_t_fixed 14 t_fixed, aI cA q_t_state 14 t_state, aJ cA q_t_count 14336 t_count, aJ cA q_t_best 14336 t_best, aJ cA q_t_bests 14336 t_bests]) (st' := [.int u1]) (N0 := 15) rfl [some 0, none, some 1, none, some 2, some 3, none, none, none, none, none, none, none, none, none] (by decide) rfl rfl ?_
  refine g_if_eq C 4 23 dX9_share_4 (by decide) hf (fun hf => ?_) (fun hf => ?_)
  · refine g_ldc2 C 23 dX9_share_23 kw_455 ?_
    cases hf
    exact g_lret C 26 dX9_share_26 F hB
  · refine g_aload_n C 7 0 dX9_share_7 rfl rfl ?_
    refine g_iload_n C 8 1 dX9_share_8 rfl rfl ?_
    obtain ⟨u2, hu2, hf⟩ := cal_some hf
    refine g_callV1 C 9 [0] 0 (rest := []) dX9_share_9 (c_X9_isKnot (x_l X) cA q_t t_knots q_t_weight q_t_beside q_t_edge t_rowed q_t_row t_bags q_t_bag q_t_up q_t_least t_q q_t_factor q_t_pairFactor q_t_forbidden q_t_mayNot q_t_fixed q_t_state q_t_count q_t_best q_t_bests t_allCount t_allBest t_allBests a1 u2 hu2) kw_349 kw_350 kw_351 kw_343 kw_352 ok_X9_isKnot ⟨Nat.le_of_ble_eq_true rfl, Nat.le_of_ble_eq_true rfl⟩ hk ⟨rfl, rfl⟩ rfl rfl rfl rfl rfl (Nat.le_of_ble_eq_true rfl) rfl (ws' := [oB q_t 9 [.int t_knots, .ref q_t_weight, .ref q_t_beside, .ref q_t_edge, .int t_rowed, .ref q_t_row, .int t_bags, .ref q_t_bag, .ref q_t_up, .ref q_t_least, .int t_q, .ref q_t_factor, .ref q_t_pairFactor, .ref q_t_forbidden, .ref q_t_mayNot, .ref q_t_fixed, .ref q_t_state, .ref q_t_count, .ref q_t_best, .ref q_t_bests, .long t_allCount, .long t_allBest, .long t_allBests], aI cA q_t_weight 14 t_weight, aI cA q_t_beside 14 t_beside, aI cA q_t_edge 196 t_edge, aI cA q_t_bag 14 t_bag, aI cA q_t_up 14 t_up, aI cA q_t_factor 4 t_factor, aI cA q_t_pairFactor 16 t_pairFactor, aI cA q_t_forbidden 14 t_forbidden, aZ cA q_t_mayNot 16 t_mayNot, aI cA q_t_fixed 14 t_fixed, aI cA q_t_state 14 t_state, aJ cA q_t_count 14336 t_count, aJ cA q_t_best 14336 t_best, aJ cA q_t_bests 14336 t_bests]) (st' := [.int u2]) (N0 := 15) rfl [some 0, none, none, none, none, none, none, none, none, none, none, none, none, none, none] (by decide) rfl rfl ?_
    refine g_if_eq C 12 23 dX9_share_12 (by decide) hf (fun hf => ?_) (fun hf => ?_)
    · refine g_ldc2 C 23 dX9_share_23 kw_455 ?_
      cases hf
      exact g_lret C 26 dX9_share_26 F hB
    · refine g_aload_n C 15 0 dX9_share_15 rfl rfl ?_
      refine g_iload_n C 16 2 dX9_share_16 rfl rfl ?_
      obtain ⟨u3, hu3, hf⟩ := cal_some hf
      refine g_callV1 C 17 [0] 0 (rest := []) dX9_share_17 (c_X9_isState (x_l X) cA q_t t_knots q_t_weight q_t_beside q_t_edge t_rowed q_t_row t_bags q_t_bag q_t_up q_t_least t_q q_t_factor q_t_pairFactor q_t_forbidden q_t_mayNot q_t_fixed q_t_state q_t_count q_t_best q_t_bests t_allCount t_allBest t_allBests a2 u3 hu3) kw_403 kw_404 kw_405 kw_343 kw_406 ok_X9_isState ⟨Nat.le_of_ble_eq_true rfl, Nat.le_of_ble_eq_true rfl⟩ hk ⟨rfl, rfl⟩ rfl rfl rfl rfl rfl (Nat.le_of_ble_eq_true rfl) rfl (ws' := [oB q_t 9 [.int t_knots, .ref q_t_weight, .ref q_t_beside, .ref q_t_edge, .int t_rowed, .ref q_t_row, .int t_bags, .ref q_t_bag, .ref q_t_up, .ref q_t_least, .int t_q, .ref q_t_factor, .ref q_t_pairFactor, .ref q_t_forbidden, .ref q_t_mayNot, .ref q_t_fixed, .ref q_t_state, .ref q_t_count, .ref q_t_best, .ref q_t_bests, .long t_allCount, .long t_allBest, .long t_allBests], aI cA q_t_weight 14 t_weight, aI cA q_t_beside 14 t_beside, aI cA q_t_edge 196 t_edge, aI cA q_t_bag 14 t_bag, aI cA q_t_up 14 t_up, aI cA q_t_factor 4 t_factor, aI cA q_t_pairFactor 16 t_pairFactor, aI cA q_t_forbidden 14 t_forbidden, aZ cA q_t_mayNot 16 t_mayNot, aI cA q_t_fixed 14 t_fixed, aI cA q_t_state 14 t_state, aJ cA q_t_count 14336 t_count, aJ cA q_t_best 14336 t_best, aJ cA q_t_bests 14336 t_bests]) (st' := [.int u3]) (N0 := 15) rfl [some 0, none, none, none, none, none, none, none, none, none, none, none, none, none, none] (by decide) rfl rfl ?_
      refine g_if_ne C 20 27 dX9_share_20 (by decide) hf (fun hf => ?_) (fun hf => ?_)
      · refine g_aload_n C 27 0 dX9_share_27 rfl rfl ?_
        obtain ⟨u4, hu4, hf⟩ := cal_some hf
        refine g_callV1 C 28 [0, 10] 0 (rest := []) dX9_share_28 (c_X9_free (x_l X) cA q_t t_knots q_t_weight q_t_beside q_t_edge t_rowed q_t_row t_bags q_t_bag q_t_up q_t_least t_q q_t_factor q_t_pairFactor q_t_forbidden q_t_mayNot q_t_state q_t_count q_t_best q_t_bests t_allCount t_allBest t_allBests q_t_fixed t_fixed u4 hu4) kw_447 kw_448 kw_449 kw_343 kw_450 ok_X9_free ⟨Nat.le_of_ble_eq_true rfl, Nat.le_of_ble_eq_true rfl⟩ hk ⟨rfl, rfl⟩ rfl rfl rfl rfl rfl (Nat.le_of_ble_eq_true rfl) rfl (ws' := [oB q_t 9 [.int t_knots, .ref q_t_weight, .ref q_t_beside, .ref q_t_edge, .int t_rowed, .ref q_t_row, .int t_bags, .ref q_t_bag, .ref q_t_up, .ref q_t_least, .int t_q, .ref q_t_factor, .ref q_t_pairFactor, .ref q_t_forbidden, .ref q_t_mayNot, .ref q_t_fixed, .ref q_t_state, .ref q_t_count, .ref q_t_best, .ref q_t_bests, .long t_allCount, .long t_allBest, .long t_allBests], aI cA q_t_weight 14 t_weight, aI cA q_t_beside 14 t_beside, aI cA q_t_edge 196 t_edge, aI cA q_t_bag 14 t_bag, aI cA q_t_up 14 t_up, aI cA q_t_factor 4 t_factor, aI cA q_t_pairFactor 16 t_pairFactor, aI cA q_t_forbidden 14 t_forbidden, aZ cA q_t_mayNot 16 t_mayNot, aI cA q_t_fixed 14 u4, aI cA q_t_state 14 t_state, aJ cA q_t_count 14336 t_count, aJ cA q_t_best 14336 t_best, aJ cA q_t_bests 14336 t_bests]) (st' := []) (N0 := 15) rfl [some 0, none, none, none, none, none, none, none, none, none, some 1, none, none, none, none] (by decide) rfl rfl ?_
        refine g_aload_n C 31 0 dX9_share_31 rfl rfl ?_
        refine g_get C 32 0 15 dX9_share_32 inX9 rfl rfl (by decide) kw_411 rfl ?_
        refine g_iload_n C 35 1 dX9_share_35 rfl rfl ?_
        refine g_iload_n C 36 2 dX9_share_36 rfl rfl ?_
        refine g_iast C 37 10 (fun z => [oB q_t 9 [.int t_knots, .ref q_t_weight, .ref q_t_beside, .ref q_t_edge, .int t_rowed, .ref q_t_row, .int t_bags, .ref q_t_bag, .ref q_t_up, .ref q_t_least, .int t_q, .ref q_t_factor, .ref q_t_pairFactor, .ref q_t_forbidden, .ref q_t_mayNot, .ref q_t_fixed, .ref q_t_state, .ref q_t_count, .ref q_t_best, .ref q_t_bests, .long t_allCount, .long t_allBest, .long t_allBests], aI cA q_t_weight 14 t_weight, aI cA q_t_beside 14 t_beside, aI cA q_t_edge 196 t_edge, aI cA q_t_bag 14 t_bag, aI cA q_t_up 14 t_up, aI cA q_t_factor 4 t_factor, aI cA q_t_pairFactor 16 t_pairFactor, aI cA q_t_forbidden 14 t_forbidden, aZ cA q_t_mayNot 16 t_mayNot, aI cA q_t_fixed 14 z, aI cA q_t_state 14 t_state, aJ cA q_t_count 14336 t_count, aJ cA q_t_best 14336 t_best, aJ cA q_t_bests 14336 t_bests]) dX9_share_37 rfl (fun _ => rfl) hf (fun t_fixed_5 hf => ?_)
        refine g_aload_n C 38 0 dX9_share_38 rfl rfl ?_
        refine g_iconst C 39 (1 : Int32) dX9_share_39 (by decide) ?_
        obtain ⟨u6, hu6, hf⟩ := cal_some hf
        refine g_callV1 C 40 [0, 1, 2, 3, 4, 5, 6, 7, 8, 9, 10, 11, 12, 13, 14] 0 (rest := []) dX9_share_40 (c_X9_ask (x_l X) cA q_t t_knots t_rowed q_t_row t_bags q_t_least t_q t_allCount t_allBest t_allBests q_t_weight t_weight q_t_beside t_beside q_t_edge t_edge q_t_bag t_bag q_t_up t_up q_t_factor t_factor q_t_pairFactor t_pairFactor q_t_forbidden t_forbidden q_t_mayNot t_mayNot q_t_fixed t_fixed_5 q_t_state t_state q_t_count t_count q_t_best t_best q_t_bests t_bests (1 : Int32) u6 hu6) kw_451 kw_452 kw_453 kw_343 kw_454 ok_X9_ask ⟨Nat.le_of_ble_eq_true rfl, Nat.le_of_ble_eq_true rfl⟩ hk ⟨rfl, rfl⟩ rfl rfl rfl rfl rfl (Nat.le_of_ble_eq_true rfl) rfl (ws' := [oB q_t 9 [.int t_knots, .ref q_t_weight, .ref q_t_beside, .ref q_t_edge, .int t_rowed, .ref q_t_row, .int t_bags, .ref q_t_bag, .ref q_t_up, .ref q_t_least, .int t_q, .ref q_t_factor, .ref q_t_pairFactor, .ref q_t_forbidden, .ref q_t_mayNot, .ref q_t_fixed, .ref q_t_state, .ref q_t_count, .ref q_t_best, .ref q_t_bests, .long u6.1, .long u6.2.1, .long u6.2.2.1], aI cA q_t_weight 14 t_weight, aI cA q_t_beside 14 t_beside, aI cA q_t_edge 196 t_edge, aI cA q_t_bag 14 t_bag, aI cA q_t_up 14 t_up, aI cA q_t_factor 4 t_factor, aI cA q_t_pairFactor 16 t_pairFactor, aI cA q_t_forbidden 14 t_forbidden, aZ cA q_t_mayNot 16 t_mayNot, aI cA q_t_fixed 14 t_fixed_5, aI cA q_t_state 14 u6.2.2.2.1, aJ cA q_t_count 14336 u6.2.2.2.2.1, aJ cA q_t_best 14336 u6.2.2.2.2.2.1, aJ cA q_t_bests 14336 u6.2.2.2.2.2.2]) (st' := []) (N0 := 15) rfl [some 0, some 1, some 2, some 3, some 4, some 5, some 6, some 7, some 8, some 9, some 10, some 11, some 12, some 13, some 14] (by decide) rfl rfl ?_
        refine g_aload_n C 43 0 dX9_share_43 rfl rfl ?_
        refine g_get C 44 0 20 dX9_share_44 inX9 rfl rfl (by decide) kw_424 rfl ?_
        cases hf
        exact g_lret C 47 dX9_share_47 F hB
      · refine g_ldc2 C 23 dX9_share_23 kw_455 ?_
        cases hf
        exact g_lret C 26 dX9_share_26 F hB
