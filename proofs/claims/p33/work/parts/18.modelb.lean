theorem dX9_fewest_0 : decode cX9_fewest 0 = .ok (.aload_n 0, 1) := by decide +kernel
theorem dX9_fewest_1 : decode cX9_fewest 1 = .ok (.iconst 0, 1) := by decide +kernel
theorem dX9_fewest_2 : decode cX9_fewest 2 = .ok (.putfield 23, 3) := by decide +kernel
theorem dX9_fewest_5 : decode cX9_fewest 5 = .ok (.iconst 0, 1) := by decide +kernel
theorem dX9_fewest_6 : decode cX9_fewest 6 = .ok (.istore_n 1, 1) := by decide +kernel
theorem dX9_fewest_7 : decode cX9_fewest 7 = .ok (.aload_n 0, 1) := by decide +kernel
theorem dX9_fewest_8 : decode cX9_fewest 8 = .ok (.getfield 23, 3) := by decide +kernel
theorem dX9_fewest_11 : decode cX9_fewest 11 = .ok (.aload_n 0, 1) := by decide +kernel
theorem dX9_fewest_12 : decode cX9_fewest 12 = .ok (.getfield 7, 3) := by decide +kernel
theorem dX9_fewest_15 : decode cX9_fewest 15 = .ok (.if_icmp .ge 87, 3) := by decide +kernel
theorem dX9_fewest_18 : decode cX9_fewest 18 = .ok (.iconst (-1), 1) := by decide +kernel
theorem dX9_fewest_19 : decode cX9_fewest 19 = .ok (.istore_n 2, 1) := by decide +kernel
theorem dX9_fewest_20 : decode cX9_fewest 20 = .ok (.iconst 0, 1) := by decide +kernel
theorem dX9_fewest_21 : decode cX9_fewest 21 = .ok (.istore_n 3, 1) := by decide +kernel
theorem dX9_fewest_22 : decode cX9_fewest 22 = .ok (.iload_n 3, 1) := by decide +kernel
theorem dX9_fewest_23 : decode cX9_fewest 23 = .ok (.aload_n 0, 1) := by decide +kernel
theorem dX9_fewest_24 : decode cX9_fewest 24 = .ok (.getfield 7, 3) := by decide +kernel
theorem dX9_fewest_27 : decode cX9_fewest 27 = .ok (.if_icmp .ge 46, 3) := by decide +kernel
theorem dX9_fewest_30 : decode cX9_fewest 30 = .ok (.iload_n 1, 1) := by decide +kernel
theorem dX9_fewest_31 : decode cX9_fewest 31 = .ok (.iload_n 3, 1) := by decide +kernel
theorem dX9_fewest_32 : decode cX9_fewest 32 = .ok (.ishr, 1) := by decide +kernel
theorem dX9_fewest_33 : decode cX9_fewest 33 = .ok (.iconst 1, 1) := by decide +kernel
theorem dX9_fewest_34 : decode cX9_fewest 34 = .ok (.iand, 1) := by decide +kernel
theorem dX9_fewest_35 : decode cX9_fewest 35 = .ok (.ifCond .ne 32, 3) := by decide +kernel
theorem dX9_fewest_38 : decode cX9_fewest 38 = .ok (.iload_n 2, 1) := by decide +kernel
theorem dX9_fewest_39 : decode cX9_fewest 39 = .ok (.ifCond .lt 26, 3) := by decide +kernel
theorem dX9_fewest_42 : decode cX9_fewest 42 = .ok (.aload_n 0, 1) := by decide +kernel
theorem dX9_fewest_43 : decode cX9_fewest 43 = .ok (.aload_n 0, 1) := by decide +kernel
theorem dX9_fewest_44 : decode cX9_fewest 44 = .ok (.iload_n 1, 1) := by decide +kernel
theorem dX9_fewest_45 : decode cX9_fewest 45 = .ok (.iload_n 3, 1) := by decide +kernel
theorem dX9_fewest_46 : decode cX9_fewest 46 = .ok (.invokevirtual 98, 3) := by decide +kernel
theorem dX9_fewest_49 : decode cX9_fewest 49 = .ok (.invokevirtual 102, 3) := by decide +kernel
theorem dX9_fewest_52 : decode cX9_fewest 52 = .ok (.aload_n 0, 1) := by decide +kernel
theorem dX9_fewest_53 : decode cX9_fewest 53 = .ok (.aload_n 0, 1) := by decide +kernel
theorem dX9_fewest_54 : decode cX9_fewest 54 = .ok (.iload_n 1, 1) := by decide +kernel
theorem dX9_fewest_55 : decode cX9_fewest 55 = .ok (.iload_n 2, 1) := by decide +kernel
theorem dX9_fewest_56 : decode cX9_fewest 56 = .ok (.invokevirtual 98, 3) := by decide +kernel
theorem dX9_fewest_59 : decode cX9_fewest 59 = .ok (.invokevirtual 102, 3) := by decide +kernel
theorem dX9_fewest_62 : decode cX9_fewest 62 = .ok (.if_icmp .ge 5, 3) := by decide +kernel
theorem dX9_fewest_65 : decode cX9_fewest 65 = .ok (.iload_n 3, 1) := by decide +kernel
theorem dX9_fewest_66 : decode cX9_fewest 66 = .ok (.istore_n 2, 1) := by decide +kernel
theorem dX9_fewest_67 : decode cX9_fewest 67 = .ok (.iinc 3 1, 3) := by decide +kernel
theorem dX9_fewest_70 : decode cX9_fewest 70 = .ok (.goto (-48), 3) := by decide +kernel
theorem dX9_fewest_73 : decode cX9_fewest 73 = .ok (.aload_n 0, 1) := by decide +kernel
theorem dX9_fewest_74 : decode cX9_fewest 74 = .ok (.getfield 26, 3) := by decide +kernel
theorem dX9_fewest_77 : decode cX9_fewest 77 = .ok (.aload_n 0, 1) := by decide +kernel
theorem dX9_fewest_78 : decode cX9_fewest 78 = .ok (.getfield 23, 3) := by decide +kernel
theorem dX9_fewest_81 : decode cX9_fewest 81 = .ok (.iload_n 2, 1) := by decide +kernel
theorem dX9_fewest_82 : decode cX9_fewest 82 = .ok (.iastore, 1) := by decide +kernel
theorem dX9_fewest_83 : decode cX9_fewest 83 = .ok (.aload_n 0, 1) := by decide +kernel
theorem dX9_fewest_84 : decode cX9_fewest 84 = .ok (.dup, 1) := by decide +kernel
theorem dX9_fewest_85 : decode cX9_fewest 85 = .ok (.getfield 23, 3) := by decide +kernel
theorem dX9_fewest_88 : decode cX9_fewest 88 = .ok (.iconst 1, 1) := by decide +kernel
theorem dX9_fewest_89 : decode cX9_fewest 89 = .ok (.iadd, 1) := by decide +kernel
theorem dX9_fewest_90 : decode cX9_fewest 90 = .ok (.putfield 23, 3) := by decide +kernel
theorem dX9_fewest_93 : decode cX9_fewest 93 = .ok (.iload_n 1, 1) := by decide +kernel
theorem dX9_fewest_94 : decode cX9_fewest 94 = .ok (.iconst 1, 1) := by decide +kernel
theorem dX9_fewest_95 : decode cX9_fewest 95 = .ok (.iload_n 2, 1) := by decide +kernel
theorem dX9_fewest_96 : decode cX9_fewest 96 = .ok (.ishl, 1) := by decide +kernel
theorem dX9_fewest_97 : decode cX9_fewest 97 = .ok (.ior, 1) := by decide +kernel
theorem dX9_fewest_98 : decode cX9_fewest 98 = .ok (.istore_n 1, 1) := by decide +kernel
theorem dX9_fewest_99 : decode cX9_fewest 99 = .ok (.goto (-92), 3) := by decide +kernel
theorem dX9_fewest_102 : decode cX9_fewest 102 = .ok (.aload_n 0, 1) := by decide +kernel
theorem dX9_fewest_103 : decode cX9_fewest 103 = .ok (.invokevirtual 113, 3) := by decide +kernel
theorem dX9_fewest_106 : decode cX9_fewest 106 = .ok (.ireturn, 1) := by decide +kernel
theorem dX9_least_0 : decode cX9_least 0 = .ok (.aload_n 0, 1) := by decide +kernel
theorem dX9_least_1 : decode cX9_least 1 = .ok (.invokevirtual 116, 3) := by decide +kernel
theorem dX9_least_4 : decode cX9_least 4 = .ok (.istore_n 1, 1) := by decide +kernel
theorem dX9_least_5 : decode cX9_least 5 = .ok (.iload_n 1, 1) := by decide +kernel
theorem dX9_least_6 : decode cX9_least 6 = .ok (.ifCond .lt 119, 3) := by decide +kernel
theorem dX9_least_9 : decode cX9_least 9 = .ok (.aload_n 0, 1) := by decide +kernel
theorem dX9_least_10 : decode cX9_least 10 = .ok (.getfield 38, 3) := by decide +kernel
theorem dX9_least_13 : decode cX9_least 13 = .ok (.iload_n 1, 1) := by decide +kernel
theorem dX9_least_14 : decode cX9_least 14 = .ok (.iload_n 1, 1) := by decide +kernel
theorem dX9_least_15 : decode cX9_least 15 = .ok (.aload_n 0, 1) := by decide +kernel
theorem dX9_least_16 : decode cX9_least 16 = .ok (.invokevirtual 116, 3) := by decide +kernel
theorem dX9_least_19 : decode cX9_least 19 = .ok (.if_icmp .ne 7, 3) := by decide +kernel
theorem dX9_least_22 : decode cX9_least 22 = .ok (.iconst (-1), 1) := by decide +kernel
theorem dX9_least_23 : decode cX9_least 23 = .ok (.goto 5, 3) := by decide +kernel
theorem dX9_least_26 : decode cX9_least 26 = .ok (.bipush 100, 2) := by decide +kernel
theorem dX9_least_28 : decode cX9_least 28 = .ok (.iastore, 1) := by decide +kernel
theorem dX9_least_29 : decode cX9_least 29 = .ok (.iconst 0, 1) := by decide +kernel
theorem dX9_least_30 : decode cX9_least 30 = .ok (.istore_n 2, 1) := by decide +kernel
theorem dX9_least_31 : decode cX9_least 31 = .ok (.iload_n 2, 1) := by decide +kernel
theorem dX9_least_32 : decode cX9_least 32 = .ok (.aload_n 0, 1) := by decide +kernel
theorem dX9_least_33 : decode cX9_least 33 = .ok (.getfield 7, 3) := by decide +kernel
theorem dX9_least_36 : decode cX9_least 36 = .ok (.if_icmp .ge 83, 3) := by decide +kernel
theorem dX9_least_39 : decode cX9_least 39 = .ok (.iload_n 1, 1) := by decide +kernel
theorem dX9_least_40 : decode cX9_least 40 = .ok (.iload_n 2, 1) := by decide +kernel
theorem dX9_least_41 : decode cX9_least 41 = .ok (.ishr, 1) := by decide +kernel
theorem dX9_least_42 : decode cX9_least 42 = .ok (.iconst 1, 1) := by decide +kernel
theorem dX9_least_43 : decode cX9_least 43 = .ok (.iand, 1) := by decide +kernel
theorem dX9_least_44 : decode cX9_least 44 = .ok (.iconst 1, 1) := by decide +kernel
theorem dX9_least_45 : decode cX9_least 45 = .ok (.if_icmp .ne 6, 3) := by decide +kernel
theorem dX9_least_48 : decode cX9_least 48 = .ok (.goto 65, 3) := by decide +kernel
theorem dX9_least_51 : decode cX9_least 51 = .ok (.aload_n 0, 1) := by decide +kernel
theorem dX9_least_52 : decode cX9_least 52 = .ok (.aload_n 0, 1) := by decide +kernel
theorem dX9_least_53 : decode cX9_least 53 = .ok (.iload_n 1, 1) := by decide +kernel
theorem dX9_least_54 : decode cX9_least 54 = .ok (.iload_n 2, 1) := by decide +kernel
theorem dX9_least_55 : decode cX9_least 55 = .ok (.invokevirtual 98, 3) := by decide +kernel
theorem dX9_least_58 : decode cX9_least 58 = .ok (.invokevirtual 102, 3) := by decide +kernel
theorem dX9_least_61 : decode cX9_least 61 = .ok (.istore_n 3, 1) := by decide +kernel
theorem dX9_least_62 : decode cX9_least 62 = .ok (.aload_n 0, 1) := by decide +kernel
theorem dX9_least_63 : decode cX9_least 63 = .ok (.getfield 38, 3) := by decide +kernel
theorem dX9_least_66 : decode cX9_least 66 = .ok (.iload_n 1, 1) := by decide +kernel
theorem dX9_least_67 : decode cX9_least 67 = .ok (.iconst 1, 1) := by decide +kernel
theorem dX9_least_68 : decode cX9_least 68 = .ok (.iload_n 2, 1) := by decide +kernel
theorem dX9_least_69 : decode cX9_least 69 = .ok (.ishl, 1) := by decide +kernel
theorem dX9_least_70 : decode cX9_least 70 = .ok (.ior, 1) := by decide +kernel
theorem dX9_least_71 : decode cX9_least 71 = .ok (.iaload, 1) := by decide +kernel
theorem dX9_least_72 : decode cX9_least 72 = .ok (.istore 4, 2) := by decide +kernel
theorem dX9_least_74 : decode cX9_least 74 = .ok (.iload 4, 2) := by decide +kernel
theorem dX9_least_76 : decode cX9_least 76 = .ok (.iload_n 3, 1) := by decide +kernel
theorem dX9_least_77 : decode cX9_least 77 = .ok (.if_icmp .le 8, 3) := by decide +kernel
theorem dX9_least_80 : decode cX9_least 80 = .ok (.iload 4, 2) := by decide +kernel
theorem dX9_least_82 : decode cX9_least 82 = .ok (.goto 4, 3) := by decide +kernel
theorem dX9_least_85 : decode cX9_least 85 = .ok (.iload_n 3, 1) := by decide +kernel
theorem dX9_least_86 : decode cX9_least 86 = .ok (.istore_n 3, 1) := by decide +kernel
theorem dX9_least_87 : decode cX9_least 87 = .ok (.aload_n 0, 1) := by decide +kernel
theorem dX9_least_88 : decode cX9_least 88 = .ok (.getfield 38, 3) := by decide +kernel
theorem dX9_least_91 : decode cX9_least 91 = .ok (.iload_n 1, 1) := by decide +kernel
theorem dX9_least_92 : decode cX9_least 92 = .ok (.iload_n 3, 1) := by decide +kernel
theorem dX9_least_93 : decode cX9_least 93 = .ok (.aload_n 0, 1) := by decide +kernel
theorem dX9_least_94 : decode cX9_least 94 = .ok (.getfield 38, 3) := by decide +kernel
theorem dX9_least_97 : decode cX9_least 97 = .ok (.iload_n 1, 1) := by decide +kernel
theorem dX9_least_98 : decode cX9_least 98 = .ok (.iaload, 1) := by decide +kernel
theorem dX9_least_99 : decode cX9_least 99 = .ok (.if_icmp .ge 7, 3) := by decide +kernel
theorem dX9_least_102 : decode cX9_least 102 = .ok (.iload_n 3, 1) := by decide +kernel
theorem dX9_least_103 : decode cX9_least 103 = .ok (.goto 9, 3) := by decide +kernel
theorem dX9_least_106 : decode cX9_least 106 = .ok (.aload_n 0, 1) := by decide +kernel
theorem dX9_least_107 : decode cX9_least 107 = .ok (.getfield 38, 3) := by decide +kernel
theorem dX9_least_110 : decode cX9_least 110 = .ok (.iload_n 1, 1) := by decide +kernel
theorem dX9_least_111 : decode cX9_least 111 = .ok (.iaload, 1) := by decide +kernel
theorem dX9_least_112 : decode cX9_least 112 = .ok (.iastore, 1) := by decide +kernel
theorem dX9_least_113 : decode cX9_least 113 = .ok (.iinc 2 1, 3) := by decide +kernel
theorem dX9_least_116 : decode cX9_least 116 = .ok (.goto (-85), 3) := by decide +kernel
theorem dX9_least_119 : decode cX9_least 119 = .ok (.iinc 1 (-1), 3) := by decide +kernel
theorem dX9_least_122 : decode cX9_least 122 = .ok (.goto (-117), 3) := by decide +kernel
theorem dX9_least_125 : decode cX9_least 125 = .ok (.aload_n 0, 1) := by decide +kernel
theorem dX9_least_126 : decode cX9_least 126 = .ok (.getfield 38, 3) := by decide +kernel
theorem dX9_least_129 : decode cX9_least 129 = .ok (.iconst 0, 1) := by decide +kernel
theorem dX9_least_130 : decode cX9_least 130 = .ok (.iaload, 1) := by decide +kernel
theorem dX9_least_131 : decode cX9_least 131 = .ok (.istore_n 1, 1) := by decide +kernel
theorem dX9_least_132 : decode cX9_least 132 = .ok (.aload_n 0, 1) := by decide +kernel
theorem dX9_least_133 : decode cX9_least 133 = .ok (.iconst 0, 1) := by decide +kernel
theorem dX9_least_134 : decode cX9_least 134 = .ok (.putfield 23, 3) := by decide +kernel
theorem dX9_least_137 : decode cX9_least 137 = .ok (.iconst 0, 1) := by decide +kernel
theorem dX9_least_138 : decode cX9_least 138 = .ok (.istore_n 2, 1) := by decide +kernel
theorem dX9_least_139 : decode cX9_least 139 = .ok (.aload_n 0, 1) := by decide +kernel
theorem dX9_least_140 : decode cX9_least 140 = .ok (.getfield 23, 3) := by decide +kernel
theorem dX9_least_143 : decode cX9_least 143 = .ok (.aload_n 0, 1) := by decide +kernel
theorem dX9_least_144 : decode cX9_least 144 = .ok (.getfield 7, 3) := by decide +kernel
theorem dX9_least_147 : decode cX9_least 147 = .ok (.if_icmp .ge 77, 3) := by decide +kernel
theorem dX9_least_150 : decode cX9_least 150 = .ok (.iconst 0, 1) := by decide +kernel
theorem dX9_least_151 : decode cX9_least 151 = .ok (.istore_n 3, 1) := by decide +kernel
theorem dX9_least_152 : decode cX9_least 152 = .ok (.iload_n 2, 1) := by decide +kernel
theorem dX9_least_153 : decode cX9_least 153 = .ok (.iload_n 3, 1) := by decide +kernel
theorem dX9_least_154 : decode cX9_least 154 = .ok (.ishr, 1) := by decide +kernel
theorem dX9_least_155 : decode cX9_least 155 = .ok (.iconst 1, 1) := by decide +kernel
theorem dX9_least_156 : decode cX9_least 156 = .ok (.iand, 1) := by decide +kernel
theorem dX9_least_157 : decode cX9_least 157 = .ok (.iconst 1, 1) := by decide +kernel
theorem dX9_least_158 : decode cX9_least 158 = .ok (.if_icmp .eq 31, 3) := by decide +kernel
theorem dX9_least_161 : decode cX9_least 161 = .ok (.aload_n 0, 1) := by decide +kernel
theorem dX9_least_162 : decode cX9_least 162 = .ok (.aload_n 0, 1) := by decide +kernel
theorem dX9_least_163 : decode cX9_least 163 = .ok (.iload_n 2, 1) := by decide +kernel
theorem dX9_least_164 : decode cX9_least 164 = .ok (.iload_n 3, 1) := by decide +kernel
theorem dX9_least_165 : decode cX9_least 165 = .ok (.invokevirtual 98, 3) := by decide +kernel
theorem dX9_least_168 : decode cX9_least 168 = .ok (.invokevirtual 102, 3) := by decide +kernel
theorem dX9_least_171 : decode cX9_least 171 = .ok (.iload_n 1, 1) := by decide +kernel
theorem dX9_least_172 : decode cX9_least 172 = .ok (.if_icmp .gt 17, 3) := by decide +kernel
theorem dX9_least_175 : decode cX9_least 175 = .ok (.aload_n 0, 1) := by decide +kernel
theorem dX9_least_176 : decode cX9_least 176 = .ok (.getfield 38, 3) := by decide +kernel
theorem dX9_least_179 : decode cX9_least 179 = .ok (.iload_n 2, 1) := by decide +kernel
theorem dX9_least_180 : decode cX9_least 180 = .ok (.iconst 1, 1) := by decide +kernel
theorem dX9_least_181 : decode cX9_least 181 = .ok (.iload_n 3, 1) := by decide +kernel
theorem dX9_least_182 : decode cX9_least 182 = .ok (.ishl, 1) := by decide +kernel
theorem dX9_least_183 : decode cX9_least 183 = .ok (.ior, 1) := by decide +kernel
theorem dX9_least_184 : decode cX9_least 184 = .ok (.iaload, 1) := by decide +kernel
theorem dX9_least_185 : decode cX9_least 185 = .ok (.iload_n 1, 1) := by decide +kernel
theorem dX9_least_186 : decode cX9_least 186 = .ok (.if_icmp .le 9, 3) := by decide +kernel
theorem dX9_least_189 : decode cX9_least 189 = .ok (.iinc 3 1, 3) := by decide +kernel
theorem dX9_least_192 : decode cX9_least 192 = .ok (.goto (-40), 3) := by decide +kernel
theorem dX9_least_195 : decode cX9_least 195 = .ok (.aload_n 0, 1) := by decide +kernel
theorem dX9_least_196 : decode cX9_least 196 = .ok (.getfield 26, 3) := by decide +kernel
theorem dX9_least_199 : decode cX9_least 199 = .ok (.aload_n 0, 1) := by decide +kernel
theorem dX9_least_200 : decode cX9_least 200 = .ok (.getfield 23, 3) := by decide +kernel
theorem dX9_least_203 : decode cX9_least 203 = .ok (.iload_n 3, 1) := by decide +kernel
theorem dX9_least_204 : decode cX9_least 204 = .ok (.iastore, 1) := by decide +kernel
theorem dX9_least_205 : decode cX9_least 205 = .ok (.aload_n 0, 1) := by decide +kernel
theorem dX9_least_206 : decode cX9_least 206 = .ok (.dup, 1) := by decide +kernel
theorem dX9_least_207 : decode cX9_least 207 = .ok (.getfield 23, 3) := by decide +kernel
theorem dX9_least_210 : decode cX9_least 210 = .ok (.iconst 1, 1) := by decide +kernel
theorem dX9_least_211 : decode cX9_least 211 = .ok (.iadd, 1) := by decide +kernel
theorem dX9_least_212 : decode cX9_least 212 = .ok (.putfield 23, 3) := by decide +kernel
theorem dX9_least_215 : decode cX9_least 215 = .ok (.iload_n 2, 1) := by decide +kernel
theorem dX9_least_216 : decode cX9_least 216 = .ok (.iconst 1, 1) := by decide +kernel
theorem dX9_least_217 : decode cX9_least 217 = .ok (.iload_n 3, 1) := by decide +kernel
theorem dX9_least_218 : decode cX9_least 218 = .ok (.ishl, 1) := by decide +kernel
theorem dX9_least_219 : decode cX9_least 219 = .ok (.ior, 1) := by decide +kernel
theorem dX9_least_220 : decode cX9_least 220 = .ok (.istore_n 2, 1) := by decide +kernel
theorem dX9_least_221 : decode cX9_least 221 = .ok (.goto (-82), 3) := by decide +kernel
theorem dX9_least_224 : decode cX9_least 224 = .ok (.iload_n 1, 1) := by decide +kernel
theorem dX9_least_225 : decode cX9_least 225 = .ok (.ireturn, 1) := by decide +kernel
theorem dX9_below_0 : decode cX9_below 0 = .ok (.aload_n 0, 1) := by decide +kernel
theorem dX9_below_1 : decode cX9_below 1 = .ok (.invokevirtual 116, 3) := by decide +kernel
theorem dX9_below_4 : decode cX9_below 4 = .ok (.istore_n 1, 1) := by decide +kernel
theorem dX9_below_5 : decode cX9_below 5 = .ok (.iconst (-1), 1) := by decide +kernel
theorem dX9_below_6 : decode cX9_below 6 = .ok (.istore_n 2, 1) := by decide +kernel
theorem dX9_below_7 : decode cX9_below 7 = .ok (.iload_n 1, 1) := by decide +kernel
theorem dX9_below_8 : decode cX9_below 8 = .ok (.ifCond .eq 106, 3) := by decide +kernel
theorem dX9_below_11 : decode cX9_below 11 = .ok (.iconst (-1), 1) := by decide +kernel
theorem dX9_below_12 : decode cX9_below 12 = .ok (.istore_n 3, 1) := by decide +kernel
theorem dX9_below_13 : decode cX9_below 13 = .ok (.iconst 0, 1) := by decide +kernel
theorem dX9_below_14 : decode cX9_below 14 = .ok (.istore 4, 2) := by decide +kernel
theorem dX9_below_16 : decode cX9_below 16 = .ok (.iload 4, 2) := by decide +kernel
theorem dX9_below_18 : decode cX9_below 18 = .ok (.aload_n 0, 1) := by decide +kernel
theorem dX9_below_19 : decode cX9_below 19 = .ok (.getfield 7, 3) := by decide +kernel
theorem dX9_below_22 : decode cX9_below 22 = .ok (.if_icmp .ge 54, 3) := by decide +kernel
theorem dX9_below_25 : decode cX9_below 25 = .ok (.iload_n 1, 1) := by decide +kernel
theorem dX9_below_26 : decode cX9_below 26 = .ok (.iload 4, 2) := by decide +kernel
theorem dX9_below_28 : decode cX9_below 28 = .ok (.ishr, 1) := by decide +kernel
theorem dX9_below_29 : decode cX9_below 29 = .ok (.iconst 1, 1) := by decide +kernel
theorem dX9_below_30 : decode cX9_below 30 = .ok (.iand, 1) := by decide +kernel
theorem dX9_below_31 : decode cX9_below 31 = .ok (.iconst 1, 1) := by decide +kernel
theorem dX9_below_32 : decode cX9_below 32 = .ok (.if_icmp .ne 38, 3) := by decide +kernel
theorem dX9_below_35 : decode cX9_below 35 = .ok (.iload_n 3, 1) := by decide +kernel
theorem dX9_below_36 : decode cX9_below 36 = .ok (.ifCond .lt 31, 3) := by decide +kernel
theorem dX9_below_39 : decode cX9_below 39 = .ok (.aload_n 0, 1) := by decide +kernel
theorem dX9_below_40 : decode cX9_below 40 = .ok (.aload_n 0, 1) := by decide +kernel
theorem dX9_below_41 : decode cX9_below 41 = .ok (.getfield 17, 3) := by decide +kernel
theorem dX9_below_44 : decode cX9_below 44 = .ok (.iload 4, 2) := by decide +kernel
theorem dX9_below_46 : decode cX9_below 46 = .ok (.iaload, 1) := by decide +kernel
theorem dX9_below_47 : decode cX9_below 47 = .ok (.iload_n 1, 1) := by decide +kernel
theorem dX9_below_48 : decode cX9_below 48 = .ok (.iand, 1) := by decide +kernel
theorem dX9_below_49 : decode cX9_below 49 = .ok (.invokevirtual 102, 3) := by decide +kernel
theorem dX9_below_52 : decode cX9_below 52 = .ok (.aload_n 0, 1) := by decide +kernel
theorem dX9_below_53 : decode cX9_below 53 = .ok (.aload_n 0, 1) := by decide +kernel
theorem dX9_below_54 : decode cX9_below 54 = .ok (.getfield 17, 3) := by decide +kernel
theorem dX9_below_57 : decode cX9_below 57 = .ok (.iload_n 3, 1) := by decide +kernel
theorem dX9_below_58 : decode cX9_below 58 = .ok (.iaload, 1) := by decide +kernel
theorem dX9_below_59 : decode cX9_below 59 = .ok (.iload_n 1, 1) := by decide +kernel
theorem dX9_below_60 : decode cX9_below 60 = .ok (.iand, 1) := by decide +kernel
theorem dX9_below_61 : decode cX9_below 61 = .ok (.invokevirtual 102, 3) := by decide +kernel
theorem dX9_below_64 : decode cX9_below 64 = .ok (.if_icmp .ge 6, 3) := by decide +kernel
theorem dX9_below_67 : decode cX9_below 67 = .ok (.iload 4, 2) := by decide +kernel
theorem dX9_below_69 : decode cX9_below 69 = .ok (.istore_n 3, 1) := by decide +kernel
theorem dX9_below_70 : decode cX9_below 70 = .ok (.iinc 4 1, 3) := by decide +kernel
theorem dX9_below_73 : decode cX9_below 73 = .ok (.goto (-57), 3) := by decide +kernel
theorem dX9_below_76 : decode cX9_below 76 = .ok (.aload_n 0, 1) := by decide +kernel
theorem dX9_below_77 : decode cX9_below 77 = .ok (.aload_n 0, 1) := by decide +kernel
theorem dX9_below_78 : decode cX9_below 78 = .ok (.getfield 17, 3) := by decide +kernel
theorem dX9_below_81 : decode cX9_below 81 = .ok (.iload_n 3, 1) := by decide +kernel
theorem dX9_below_82 : decode cX9_below 82 = .ok (.iaload, 1) := by decide +kernel
theorem dX9_below_83 : decode cX9_below 83 = .ok (.iload_n 1, 1) := by decide +kernel
theorem dX9_below_84 : decode cX9_below 84 = .ok (.iand, 1) := by decide +kernel
theorem dX9_below_85 : decode cX9_below 85 = .ok (.invokevirtual 102, 3) := by decide +kernel
theorem dX9_below_88 : decode cX9_below 88 = .ok (.istore 4, 2) := by decide +kernel
theorem dX9_below_90 : decode cX9_below 90 = .ok (.iload 4, 2) := by decide +kernel
theorem dX9_below_92 : decode cX9_below 92 = .ok (.iload_n 2, 1) := by decide +kernel
theorem dX9_below_93 : decode cX9_below 93 = .ok (.if_icmp .le 8, 3) := by decide +kernel
theorem dX9_below_96 : decode cX9_below 96 = .ok (.iload 4, 2) := by decide +kernel
theorem dX9_below_98 : decode cX9_below 98 = .ok (.goto 4, 3) := by decide +kernel
theorem dX9_below_101 : decode cX9_below 101 = .ok (.iload_n 2, 1) := by decide +kernel
theorem dX9_below_102 : decode cX9_below 102 = .ok (.istore_n 2, 1) := by decide +kernel
theorem dX9_below_103 : decode cX9_below 103 = .ok (.iload_n 1, 1) := by decide +kernel
theorem dX9_below_104 : decode cX9_below 104 = .ok (.iconst 1, 1) := by decide +kernel
theorem dX9_below_105 : decode cX9_below 105 = .ok (.iload_n 3, 1) := by decide +kernel
theorem dX9_below_106 : decode cX9_below 106 = .ok (.ishl, 1) := by decide +kernel
theorem dX9_below_107 : decode cX9_below 107 = .ok (.iconst (-1), 1) := by decide +kernel
theorem dX9_below_108 : decode cX9_below 108 = .ok (.ixor, 1) := by decide +kernel
theorem dX9_below_109 : decode cX9_below 109 = .ok (.iand, 1) := by decide +kernel
theorem dX9_below_110 : decode cX9_below 110 = .ok (.istore_n 1, 1) := by decide +kernel
theorem dX9_below_111 : decode cX9_below 111 = .ok (.goto (-104), 3) := by decide +kernel
theorem dX9_below_114 : decode cX9_below 114 = .ok (.iload_n 2, 1) := by decide +kernel
theorem dX9_below_115 : decode cX9_below 115 = .ok (.ireturn, 1) := by decide +kernel
theorem dX9_clear_0 : decode cX9_clear 0 = .ok (.aload_n 0, 1) := by decide +kernel
theorem dX9_clear_1 : decode cX9_clear 1 = .ok (.getfield 29, 3) := by decide +kernel
theorem dX9_clear_4 : decode cX9_clear 4 = .ok (.istore_n 1, 1) := by decide +kernel
theorem dX9_clear_5 : decode cX9_clear 5 = .ok (.aload_n 0, 1) := by decide +kernel
theorem dX9_clear_6 : decode cX9_clear 6 = .ok (.iconst 0, 1) := by decide +kernel
theorem dX9_clear_7 : decode cX9_clear 7 = .ok (.putfield 29, 3) := by decide +kernel
theorem dX9_clear_10 : decode cX9_clear 10 = .ok (.iload_n 1, 1) := by decide +kernel
theorem dX9_clear_11 : decode cX9_clear 11 = .ok (.ireturn, 1) := by decide +kernel
theorem dX9_bag_0 : decode cX9_bag 0 = .ok (.iload_n 1, 1) := by decide +kernel
theorem dX9_bag_1 : decode cX9_bag 1 = .ok (.ifCond .le 14, 3) := by decide +kernel
theorem dX9_bag_4 : decode cX9_bag 4 = .ok (.iload_n 1, 1) := by decide +kernel
theorem dX9_bag_5 : decode cX9_bag 5 = .ok (.aload_n 0, 1) := by decide +kernel
theorem dX9_bag_6 : decode cX9_bag 6 = .ok (.invokevirtual 116, 3) := by decide +kernel
theorem dX9_bag_9 : decode cX9_bag 9 = .ok (.iconst (-1), 1) := by decide +kernel
theorem dX9_bag_10 : decode cX9_bag 10 = .ok (.ixor, 1) := by decide +kernel
theorem dX9_bag_11 : decode cX9_bag 11 = .ok (.iand, 1) := by decide +kernel
theorem dX9_bag_12 : decode cX9_bag 12 = .ok (.ifCond .eq 6, 3) := by decide +kernel
theorem dX9_bag_15 : decode cX9_bag 15 = .ok (.bipush (-2), 2) := by decide +kernel
theorem dX9_bag_17 : decode cX9_bag 17 = .ok (.ireturn, 1) := by decide +kernel
theorem dX9_bag_18 : decode cX9_bag 18 = .ok (.aload_n 0, 1) := by decide +kernel
theorem dX9_bag_19 : decode cX9_bag 19 = .ok (.getfield 29, 3) := by decide +kernel
theorem dX9_bag_22 : decode cX9_bag 22 = .ok (.bipush 14, 2) := by decide +kernel
theorem dX9_bag_24 : decode cX9_bag 24 = .ok (.if_icmp .ne 6, 3) := by decide +kernel
theorem dX9_bag_27 : decode cX9_bag 27 = .ok (.bipush (-3), 2) := by decide +kernel
theorem dX9_bag_29 : decode cX9_bag 29 = .ok (.ireturn, 1) := by decide +kernel
theorem dX9_bag_30 : decode cX9_bag 30 = .ok (.aload_n 0, 1) := by decide +kernel
theorem dX9_bag_31 : decode cX9_bag 31 = .ok (.getfield 29, 3) := by decide +kernel
theorem dX9_bag_34 : decode cX9_bag 34 = .ok (.ifCond .le 18, 3) := by decide +kernel
theorem dX9_bag_37 : decode cX9_bag 37 = .ok (.aload_n 0, 1) := by decide +kernel
theorem dX9_bag_38 : decode cX9_bag 38 = .ok (.getfield 35, 3) := by decide +kernel
theorem dX9_bag_41 : decode cX9_bag 41 = .ok (.aload_n 0, 1) := by decide +kernel
theorem dX9_bag_42 : decode cX9_bag 42 = .ok (.getfield 29, 3) := by decide +kernel
theorem dX9_bag_45 : decode cX9_bag 45 = .ok (.iconst 1, 1) := by decide +kernel
theorem dX9_bag_46 : decode cX9_bag 46 = .ok (.isub, 1) := by decide +kernel
theorem dX9_bag_47 : decode cX9_bag 47 = .ok (.aload_n 0, 1) := by decide +kernel
theorem dX9_bag_48 : decode cX9_bag 48 = .ok (.getfield 29, 3) := by decide +kernel
theorem dX9_bag_51 : decode cX9_bag 51 = .ok (.iastore, 1) := by decide +kernel
theorem dX9_bag_52 : decode cX9_bag 52 = .ok (.aload_n 0, 1) := by decide +kernel
theorem dX9_bag_53 : decode cX9_bag 53 = .ok (.getfield 32, 3) := by decide +kernel
theorem dX9_bag_56 : decode cX9_bag 56 = .ok (.aload_n 0, 1) := by decide +kernel
theorem dX9_bag_57 : decode cX9_bag 57 = .ok (.getfield 29, 3) := by decide +kernel
theorem dX9_bag_60 : decode cX9_bag 60 = .ok (.iload_n 1, 1) := by decide +kernel
theorem dX9_bag_61 : decode cX9_bag 61 = .ok (.iastore, 1) := by decide +kernel
theorem dX9_bag_62 : decode cX9_bag 62 = .ok (.aload_n 0, 1) := by decide +kernel
theorem dX9_bag_63 : decode cX9_bag 63 = .ok (.getfield 35, 3) := by decide +kernel
theorem dX9_bag_66 : decode cX9_bag 66 = .ok (.aload_n 0, 1) := by decide +kernel
theorem dX9_bag_67 : decode cX9_bag 67 = .ok (.getfield 29, 3) := by decide +kernel
theorem dX9_bag_70 : decode cX9_bag 70 = .ok (.iconst (-1), 1) := by decide +kernel
theorem dX9_bag_71 : decode cX9_bag 71 = .ok (.iastore, 1) := by decide +kernel
theorem dX9_bag_72 : decode cX9_bag 72 = .ok (.aload_n 0, 1) := by decide +kernel
theorem dX9_bag_73 : decode cX9_bag 73 = .ok (.dup, 1) := by decide +kernel
theorem dX9_bag_74 : decode cX9_bag 74 = .ok (.getfield 29, 3) := by decide +kernel
theorem dX9_bag_77 : decode cX9_bag 77 = .ok (.iconst 1, 1) := by decide +kernel
theorem dX9_bag_78 : decode cX9_bag 78 = .ok (.iadd, 1) := by decide +kernel
theorem dX9_bag_79 : decode cX9_bag 79 = .ok (.putfield 29, 3) := by decide +kernel
theorem dX9_bag_82 : decode cX9_bag 82 = .ok (.aload_n 0, 1) := by decide +kernel
theorem dX9_bag_83 : decode cX9_bag 83 = .ok (.getfield 29, 3) := by decide +kernel
theorem dX9_bag_86 : decode cX9_bag 86 = .ok (.iconst 1, 1) := by decide +kernel
theorem dX9_bag_87 : decode cX9_bag 87 = .ok (.isub, 1) := by decide +kernel
theorem dX9_bag_88 : decode cX9_bag 88 = .ok (.ireturn, 1) := by decide +kernel
theorem dX9_hang_0 : decode cX9_hang 0 = .ok (.iload_n 1, 1) := by decide +kernel
theorem dX9_hang_1 : decode cX9_hang 1 = .ok (.ifCond .lt 23, 3) := by decide +kernel
theorem dX9_hang_4 : decode cX9_hang 4 = .ok (.iload_n 1, 1) := by decide +kernel
theorem dX9_hang_5 : decode cX9_hang 5 = .ok (.aload_n 0, 1) := by decide +kernel
theorem dX9_hang_6 : decode cX9_hang 6 = .ok (.getfield 29, 3) := by decide +kernel
theorem dX9_hang_9 : decode cX9_hang 9 = .ok (.if_icmp .ge 15, 3) := by decide +kernel
theorem dX9_hang_12 : decode cX9_hang 12 = .ok (.iload_n 2, 1) := by decide +kernel
theorem dX9_hang_13 : decode cX9_hang 13 = .ok (.ifCond .lt 11, 3) := by decide +kernel
theorem dX9_hang_16 : decode cX9_hang 16 = .ok (.iload_n 2, 1) := by decide +kernel
theorem dX9_hang_17 : decode cX9_hang 17 = .ok (.aload_n 0, 1) := by decide +kernel
theorem dX9_hang_18 : decode cX9_hang 18 = .ok (.getfield 29, 3) := by decide +kernel
theorem dX9_hang_21 : decode cX9_hang 21 = .ok (.if_icmp .lt 5, 3) := by decide +kernel
theorem dX9_hang_24 : decode cX9_hang 24 = .ok (.iconst (-1), 1) := by decide +kernel
theorem dX9_hang_25 : decode cX9_hang 25 = .ok (.ireturn, 1) := by decide +kernel
theorem dX9_hang_26 : decode cX9_hang 26 = .ok (.iload_n 1, 1) := by decide +kernel
theorem dX9_hang_27 : decode cX9_hang 27 = .ok (.aload_n 0, 1) := by decide +kernel
theorem dX9_hang_28 : decode cX9_hang 28 = .ok (.getfield 29, 3) := by decide +kernel
theorem dX9_hang_31 : decode cX9_hang 31 = .ok (.iconst 1, 1) := by decide +kernel
theorem dX9_hang_32 : decode cX9_hang 32 = .ok (.isub, 1) := by decide +kernel
theorem dX9_hang_33 : decode cX9_hang 33 = .ok (.if_icmp .eq 8, 3) := by decide +kernel
theorem dX9_hang_36 : decode cX9_hang 36 = .ok (.iload_n 2, 1) := by decide +kernel
theorem dX9_hang_37 : decode cX9_hang 37 = .ok (.iload_n 1, 1) := by decide +kernel
theorem dX9_hang_38 : decode cX9_hang 38 = .ok (.if_icmp .gt 6, 3) := by decide +kernel
theorem dX9_hang_41 : decode cX9_hang 41 = .ok (.bipush (-2), 2) := by decide +kernel
theorem dX9_hang_43 : decode cX9_hang 43 = .ok (.ireturn, 1) := by decide +kernel
theorem dX9_hang_44 : decode cX9_hang 44 = .ok (.aload_n 0, 1) := by decide +kernel
theorem dX9_hang_45 : decode cX9_hang 45 = .ok (.getfield 35, 3) := by decide +kernel
theorem dX9_hang_48 : decode cX9_hang 48 = .ok (.iload_n 1, 1) := by decide +kernel
theorem dX9_hang_49 : decode cX9_hang 49 = .ok (.iaload, 1) := by decide +kernel
theorem dX9_hang_50 : decode cX9_hang 50 = .ok (.istore_n 3, 1) := by decide +kernel
theorem dX9_hang_51 : decode cX9_hang 51 = .ok (.aload_n 0, 1) := by decide +kernel
theorem dX9_hang_52 : decode cX9_hang 52 = .ok (.getfield 35, 3) := by decide +kernel
theorem dX9_hang_55 : decode cX9_hang 55 = .ok (.iload_n 1, 1) := by decide +kernel
theorem dX9_hang_56 : decode cX9_hang 56 = .ok (.iload_n 2, 1) := by decide +kernel
theorem dX9_hang_57 : decode cX9_hang 57 = .ok (.iastore, 1) := by decide +kernel
theorem dX9_hang_58 : decode cX9_hang 58 = .ok (.iload_n 3, 1) := by decide +kernel
theorem dX9_hang_59 : decode cX9_hang 59 = .ok (.ireturn, 1) := by decide +kernel
theorem dX9_bagged_0 : decode cX9_bagged 0 = .ok (.iload_n 1, 1) := by decide +kernel
theorem dX9_bagged_1 : decode cX9_bagged 1 = .ok (.ifCond .lt 11, 3) := by decide +kernel
theorem dX9_bagged_4 : decode cX9_bagged 4 = .ok (.iload_n 1, 1) := by decide +kernel
theorem dX9_bagged_5 : decode cX9_bagged 5 = .ok (.aload_n 0, 1) := by decide +kernel
theorem dX9_bagged_6 : decode cX9_bagged 6 = .ok (.getfield 29, 3) := by decide +kernel
theorem dX9_bagged_9 : decode cX9_bagged 9 = .ok (.if_icmp .lt 5, 3) := by decide +kernel
theorem dX9_bagged_12 : decode cX9_bagged 12 = .ok (.iconst (-1), 1) := by decide +kernel
theorem dX9_bagged_13 : decode cX9_bagged 13 = .ok (.ireturn, 1) := by decide +kernel
theorem dX9_bagged_14 : decode cX9_bagged 14 = .ok (.iconst 0, 1) := by decide +kernel
theorem dX9_bagged_15 : decode cX9_bagged 15 = .ok (.istore_n 3, 1) := by decide +kernel
theorem dX9_bagged_16 : decode cX9_bagged 16 = .ok (.iload_n 2, 1) := by decide +kernel
theorem dX9_bagged_17 : decode cX9_bagged 17 = .ok (.tableswitch 80 0 2 #[27, 34, 41], 27) := by decide +kernel
theorem dX9_bagged_44 : decode cX9_bagged 44 = .ok (.aload_n 0, 1) := by decide +kernel
theorem dX9_bagged_45 : decode cX9_bagged 45 = .ok (.getfield 32, 3) := by decide +kernel
theorem dX9_bagged_48 : decode cX9_bagged 48 = .ok (.iload_n 1, 1) := by decide +kernel
theorem dX9_bagged_49 : decode cX9_bagged 49 = .ok (.iaload, 1) := by decide +kernel
theorem dX9_bagged_50 : decode cX9_bagged 50 = .ok (.ireturn, 1) := by decide +kernel
theorem dX9_bagged_51 : decode cX9_bagged 51 = .ok (.aload_n 0, 1) := by decide +kernel
theorem dX9_bagged_52 : decode cX9_bagged 52 = .ok (.getfield 35, 3) := by decide +kernel
theorem dX9_bagged_55 : decode cX9_bagged 55 = .ok (.iload_n 1, 1) := by decide +kernel
theorem dX9_bagged_56 : decode cX9_bagged 56 = .ok (.iaload, 1) := by decide +kernel
theorem dX9_bagged_57 : decode cX9_bagged 57 = .ok (.ireturn, 1) := by decide +kernel
theorem dX9_bagged_58 : decode cX9_bagged 58 = .ok (.iconst 0, 1) := by decide +kernel
theorem dX9_bagged_59 : decode cX9_bagged 59 = .ok (.istore 4, 2) := by decide +kernel
theorem dX9_bagged_61 : decode cX9_bagged 61 = .ok (.iload 4, 2) := by decide +kernel
theorem dX9_bagged_63 : decode cX9_bagged 63 = .ok (.aload_n 0, 1) := by decide +kernel
theorem dX9_bagged_64 : decode cX9_bagged 64 = .ok (.getfield 29, 3) := by decide +kernel
theorem dX9_bagged_67 : decode cX9_bagged 67 = .ok (.if_icmp .ge 28, 3) := by decide +kernel
theorem dX9_bagged_70 : decode cX9_bagged 70 = .ok (.iload_n 3, 1) := by decide +kernel
theorem dX9_bagged_71 : decode cX9_bagged 71 = .ok (.aload_n 0, 1) := by decide +kernel
theorem dX9_bagged_72 : decode cX9_bagged 72 = .ok (.getfield 35, 3) := by decide +kernel
theorem dX9_bagged_75 : decode cX9_bagged 75 = .ok (.iload 4, 2) := by decide +kernel
theorem dX9_bagged_77 : decode cX9_bagged 77 = .ok (.iaload, 1) := by decide +kernel
theorem dX9_bagged_78 : decode cX9_bagged 78 = .ok (.iload_n 1, 1) := by decide +kernel
theorem dX9_bagged_79 : decode cX9_bagged 79 = .ok (.if_icmp .ne 7, 3) := by decide +kernel
theorem dX9_bagged_82 : decode cX9_bagged 82 = .ok (.iconst 1, 1) := by decide +kernel
theorem dX9_bagged_83 : decode cX9_bagged 83 = .ok (.goto 4, 3) := by decide +kernel
theorem dX9_bagged_86 : decode cX9_bagged 86 = .ok (.iconst 0, 1) := by decide +kernel
theorem dX9_bagged_87 : decode cX9_bagged 87 = .ok (.iadd, 1) := by decide +kernel
theorem dX9_bagged_88 : decode cX9_bagged 88 = .ok (.istore_n 3, 1) := by decide +kernel
theorem dX9_bagged_89 : decode cX9_bagged 89 = .ok (.iinc 4 1, 3) := by decide +kernel
theorem dX9_bagged_92 : decode cX9_bagged 92 = .ok (.goto (-31), 3) := by decide +kernel
theorem dX9_bagged_95 : decode cX9_bagged 95 = .ok (.iload_n 3, 1) := by decide +kernel
theorem dX9_bagged_96 : decode cX9_bagged 96 = .ok (.ireturn, 1) := by decide +kernel
theorem dX9_bagged_97 : decode cX9_bagged 97 = .ok (.iconst (-1), 1) := by decide +kernel
theorem dX9_bagged_98 : decode cX9_bagged 98 = .ok (.ireturn, 1) := by decide +kernel
theorem dX9_inOne_0 : decode cX9_inOne 0 = .ok (.iconst 0, 1) := by decide +kernel
theorem dX9_inOne_1 : decode cX9_inOne 1 = .ok (.istore_n 2, 1) := by decide +kernel
theorem dX9_inOne_2 : decode cX9_inOne 2 = .ok (.iload_n 2, 1) := by decide +kernel
theorem dX9_inOne_3 : decode cX9_inOne 3 = .ok (.aload_n 0, 1) := by decide +kernel
theorem dX9_inOne_4 : decode cX9_inOne 4 = .ok (.getfield 29, 3) := by decide +kernel
theorem dX9_inOne_7 : decode cX9_inOne 7 = .ok (.if_icmp .ge 23, 3) := by decide +kernel
theorem dX9_inOne_10 : decode cX9_inOne 10 = .ok (.aload_n 0, 1) := by decide +kernel
theorem dX9_inOne_11 : decode cX9_inOne 11 = .ok (.getfield 32, 3) := by decide +kernel
theorem dX9_inOne_14 : decode cX9_inOne 14 = .ok (.iload_n 2, 1) := by decide +kernel
theorem dX9_inOne_15 : decode cX9_inOne 15 = .ok (.iaload, 1) := by decide +kernel
theorem dX9_inOne_16 : decode cX9_inOne 16 = .ok (.iload_n 1, 1) := by decide +kernel
theorem dX9_inOne_17 : decode cX9_inOne 17 = .ok (.iand, 1) := by decide +kernel
theorem dX9_inOne_18 : decode cX9_inOne 18 = .ok (.iload_n 1, 1) := by decide +kernel
theorem dX9_inOne_19 : decode cX9_inOne 19 = .ok (.if_icmp .ne 5, 3) := by decide +kernel
theorem dX9_inOne_22 : decode cX9_inOne 22 = .ok (.iconst 1, 1) := by decide +kernel
theorem dX9_inOne_23 : decode cX9_inOne 23 = .ok (.ireturn, 1) := by decide +kernel
theorem dX9_inOne_24 : decode cX9_inOne 24 = .ok (.iinc 2 1, 3) := by decide +kernel
theorem dX9_inOne_27 : decode cX9_inOne 27 = .ok (.goto (-25), 3) := by decide +kernel
theorem dX9_inOne_30 : decode cX9_inOne 30 = .ok (.iconst 0, 1) := by decide +kernel
theorem dX9_inOne_31 : decode cX9_inOne 31 = .ok (.ireturn, 1) := by decide +kernel
theorem dX9_sound_0 : decode cX9_sound 0 = .ok (.aload_n 0, 1) := by decide +kernel
theorem dX9_sound_1 : decode cX9_sound 1 = .ok (.getfield 29, 3) := by decide +kernel
theorem dX9_sound_4 : decode cX9_sound 4 = .ok (.ifCond .ne 6, 3) := by decide +kernel
theorem dX9_sound_7 : decode cX9_sound 7 = .ok (.bipush (-4), 2) := by decide +kernel
theorem dX9_sound_9 : decode cX9_sound 9 = .ok (.ireturn, 1) := by decide +kernel
theorem dX9_sound_10 : decode cX9_sound 10 = .ok (.iconst 0, 1) := by decide +kernel
theorem dX9_sound_11 : decode cX9_sound 11 = .ok (.istore_n 1, 1) := by decide +kernel
theorem dX9_sound_12 : decode cX9_sound 12 = .ok (.iload_n 1, 1) := by decide +kernel
theorem dX9_sound_13 : decode cX9_sound 13 = .ok (.aload_n 0, 1) := by decide +kernel
theorem dX9_sound_14 : decode cX9_sound 14 = .ok (.getfield 7, 3) := by decide +kernel
theorem dX9_sound_17 : decode cX9_sound 17 = .ok (.if_icmp .ge 59, 3) := by decide +kernel
theorem dX9_sound_20 : decode cX9_sound 20 = .ok (.iload_n 1, 1) := by decide +kernel
theorem dX9_sound_21 : decode cX9_sound 21 = .ok (.iconst 1, 1) := by decide +kernel
theorem dX9_sound_22 : decode cX9_sound 22 = .ok (.iadd, 1) := by decide +kernel
theorem dX9_sound_23 : decode cX9_sound 23 = .ok (.istore_n 2, 1) := by decide +kernel
theorem dX9_sound_24 : decode cX9_sound 24 = .ok (.iload_n 2, 1) := by decide +kernel
theorem dX9_sound_25 : decode cX9_sound 25 = .ok (.aload_n 0, 1) := by decide +kernel
theorem dX9_sound_26 : decode cX9_sound 26 = .ok (.getfield 7, 3) := by decide +kernel
theorem dX9_sound_29 : decode cX9_sound 29 = .ok (.if_icmp .ge 41, 3) := by decide +kernel
theorem dX9_sound_32 : decode cX9_sound 32 = .ok (.aload_n 0, 1) := by decide +kernel
theorem dX9_sound_33 : decode cX9_sound 33 = .ok (.iload_n 1, 1) := by decide +kernel
theorem dX9_sound_34 : decode cX9_sound 34 = .ok (.iload_n 2, 1) := by decide +kernel
theorem dX9_sound_35 : decode cX9_sound 35 = .ok (.invokevirtual 90, 3) := by decide +kernel
theorem dX9_sound_38 : decode cX9_sound 38 = .ok (.ifCond .eq 26, 3) := by decide +kernel
theorem dX9_sound_41 : decode cX9_sound 41 = .ok (.aload_n 0, 1) := by decide +kernel
theorem dX9_sound_42 : decode cX9_sound 42 = .ok (.iconst 1, 1) := by decide +kernel
theorem dX9_sound_43 : decode cX9_sound 43 = .ok (.iload_n 1, 1) := by decide +kernel
theorem dX9_sound_44 : decode cX9_sound 44 = .ok (.ishl, 1) := by decide +kernel
theorem dX9_sound_45 : decode cX9_sound 45 = .ok (.iconst 1, 1) := by decide +kernel
theorem dX9_sound_46 : decode cX9_sound 46 = .ok (.iload_n 2, 1) := by decide +kernel
theorem dX9_sound_47 : decode cX9_sound 47 = .ok (.ishl, 1) := by decide +kernel
theorem dX9_sound_48 : decode cX9_sound 48 = .ok (.ior, 1) := by decide +kernel
theorem dX9_sound_49 : decode cX9_sound 49 = .ok (.invokevirtual 119, 3) := by decide +kernel
theorem dX9_sound_52 : decode cX9_sound 52 = .ok (.ifCond .ne 12, 3) := by decide +kernel
theorem dX9_sound_55 : decode cX9_sound 55 = .ok (.iconst 1, 1) := by decide +kernel
theorem dX9_sound_56 : decode cX9_sound 56 = .ok (.bipush 16, 2) := by decide +kernel
theorem dX9_sound_58 : decode cX9_sound 58 = .ok (.iload_n 1, 1) := by decide +kernel
theorem dX9_sound_59 : decode cX9_sound 59 = .ok (.imul, 1) := by decide +kernel
theorem dX9_sound_60 : decode cX9_sound 60 = .ok (.iadd, 1) := by decide +kernel
theorem dX9_sound_61 : decode cX9_sound 61 = .ok (.iload_n 2, 1) := by decide +kernel
theorem dX9_sound_62 : decode cX9_sound 62 = .ok (.iadd, 1) := by decide +kernel
theorem dX9_sound_63 : decode cX9_sound 63 = .ok (.ireturn, 1) := by decide +kernel
theorem dX9_sound_64 : decode cX9_sound 64 = .ok (.iinc 2 1, 3) := by decide +kernel
theorem dX9_sound_67 : decode cX9_sound 67 = .ok (.goto (-43), 3) := by decide +kernel
theorem dX9_sound_70 : decode cX9_sound 70 = .ok (.iinc 1 1, 3) := by decide +kernel
theorem dX9_sound_73 : decode cX9_sound 73 = .ok (.goto (-61), 3) := by decide +kernel
theorem dX9_sound_76 : decode cX9_sound 76 = .ok (.iconst 0, 1) := by decide +kernel
theorem dX9_sound_77 : decode cX9_sound 77 = .ok (.istore_n 1, 1) := by decide +kernel
theorem dX9_sound_78 : decode cX9_sound 78 = .ok (.iload_n 1, 1) := by decide +kernel
theorem dX9_sound_79 : decode cX9_sound 79 = .ok (.aload_n 0, 1) := by decide +kernel
theorem dX9_sound_80 : decode cX9_sound 80 = .ok (.getfield 7, 3) := by decide +kernel
theorem dX9_sound_83 : decode cX9_sound 83 = .ok (.if_icmp .ge 25, 3) := by decide +kernel
theorem dX9_sound_86 : decode cX9_sound 86 = .ok (.aload_n 0, 1) := by decide +kernel
theorem dX9_sound_87 : decode cX9_sound 87 = .ok (.iconst 1, 1) := by decide +kernel
theorem dX9_sound_88 : decode cX9_sound 88 = .ok (.iload_n 1, 1) := by decide +kernel
theorem dX9_sound_89 : decode cX9_sound 89 = .ok (.ishl, 1) := by decide +kernel
theorem dX9_sound_90 : decode cX9_sound 90 = .ok (.invokevirtual 119, 3) := by decide +kernel
theorem dX9_sound_93 : decode cX9_sound 93 = .ok (.ifCond .ne 9, 3) := by decide +kernel
theorem dX9_sound_96 : decode cX9_sound 96 = .ok (.sipush 1001, 3) := by decide +kernel
theorem dX9_sound_99 : decode cX9_sound 99 = .ok (.iload_n 1, 1) := by decide +kernel
theorem dX9_sound_100 : decode cX9_sound 100 = .ok (.iadd, 1) := by decide +kernel
theorem dX9_sound_101 : decode cX9_sound 101 = .ok (.ireturn, 1) := by decide +kernel
theorem dX9_sound_102 : decode cX9_sound 102 = .ok (.iinc 1 1, 3) := by decide +kernel
theorem dX9_sound_105 : decode cX9_sound 105 = .ok (.goto (-27), 3) := by decide +kernel
theorem dX9_sound_108 : decode cX9_sound 108 = .ok (.iconst 0, 1) := by decide +kernel
theorem dX9_sound_109 : decode cX9_sound 109 = .ok (.istore_n 1, 1) := by decide +kernel
theorem dX9_sound_110 : decode cX9_sound 110 = .ok (.iload_n 1, 1) := by decide +kernel
theorem dX9_sound_111 : decode cX9_sound 111 = .ok (.aload_n 0, 1) := by decide +kernel
theorem dX9_sound_112 : decode cX9_sound 112 = .ok (.getfield 7, 3) := by decide +kernel
theorem dX9_sound_115 : decode cX9_sound 115 = .ok (.if_icmp .ge 82, 3) := by decide +kernel
theorem dX9_sound_118 : decode cX9_sound 118 = .ok (.iconst 0, 1) := by decide +kernel
theorem dX9_sound_119 : decode cX9_sound 119 = .ok (.istore_n 2, 1) := by decide +kernel
theorem dX9_sound_120 : decode cX9_sound 120 = .ok (.iconst 0, 1) := by decide +kernel
theorem dX9_sound_121 : decode cX9_sound 121 = .ok (.istore_n 3, 1) := by decide +kernel
theorem dX9_sound_122 : decode cX9_sound 122 = .ok (.iload_n 3, 1) := by decide +kernel
theorem dX9_sound_123 : decode cX9_sound 123 = .ok (.aload_n 0, 1) := by decide +kernel
theorem dX9_sound_124 : decode cX9_sound 124 = .ok (.getfield 29, 3) := by decide +kernel
theorem dX9_sound_127 : decode cX9_sound 127 = .ok (.if_icmp .ge 53, 3) := by decide +kernel
theorem dX9_sound_130 : decode cX9_sound 130 = .ok (.aload_n 0, 1) := by decide +kernel
theorem dX9_sound_131 : decode cX9_sound 131 = .ok (.getfield 32, 3) := by decide +kernel
theorem dX9_sound_134 : decode cX9_sound 134 = .ok (.iload_n 3, 1) := by decide +kernel
theorem dX9_sound_135 : decode cX9_sound 135 = .ok (.iaload, 1) := by decide +kernel
theorem dX9_sound_136 : decode cX9_sound 136 = .ok (.iload_n 1, 1) := by decide +kernel
theorem dX9_sound_137 : decode cX9_sound 137 = .ok (.ishr, 1) := by decide +kernel
theorem dX9_sound_138 : decode cX9_sound 138 = .ok (.iconst 1, 1) := by decide +kernel
theorem dX9_sound_139 : decode cX9_sound 139 = .ok (.iand, 1) := by decide +kernel
theorem dX9_sound_140 : decode cX9_sound 140 = .ok (.iconst 1, 1) := by decide +kernel
theorem dX9_sound_141 : decode cX9_sound 141 = .ok (.if_icmp .ne 33, 3) := by decide +kernel
theorem dX9_sound_144 : decode cX9_sound 144 = .ok (.aload_n 0, 1) := by decide +kernel
theorem dX9_sound_145 : decode cX9_sound 145 = .ok (.getfield 35, 3) := by decide +kernel
theorem dX9_sound_148 : decode cX9_sound 148 = .ok (.iload_n 3, 1) := by decide +kernel
theorem dX9_sound_149 : decode cX9_sound 149 = .ok (.iaload, 1) := by decide +kernel
theorem dX9_sound_150 : decode cX9_sound 150 = .ok (.ifCond .lt 21, 3) := by decide +kernel
theorem dX9_sound_153 : decode cX9_sound 153 = .ok (.aload_n 0, 1) := by decide +kernel
theorem dX9_sound_154 : decode cX9_sound 154 = .ok (.getfield 32, 3) := by decide +kernel
theorem dX9_sound_157 : decode cX9_sound 157 = .ok (.aload_n 0, 1) := by decide +kernel
theorem dX9_sound_158 : decode cX9_sound 158 = .ok (.getfield 35, 3) := by decide +kernel
theorem dX9_sound_161 : decode cX9_sound 161 = .ok (.iload_n 3, 1) := by decide +kernel
theorem dX9_sound_162 : decode cX9_sound 162 = .ok (.iaload, 1) := by decide +kernel
theorem dX9_sound_163 : decode cX9_sound 163 = .ok (.iaload, 1) := by decide +kernel
theorem dX9_sound_164 : decode cX9_sound 164 = .ok (.iload_n 1, 1) := by decide +kernel
theorem dX9_sound_165 : decode cX9_sound 165 = .ok (.ishr, 1) := by decide +kernel
theorem dX9_sound_166 : decode cX9_sound 166 = .ok (.iconst 1, 1) := by decide +kernel
theorem dX9_sound_167 : decode cX9_sound 167 = .ok (.iand, 1) := by decide +kernel
theorem dX9_sound_168 : decode cX9_sound 168 = .ok (.ifCond .ne 6, 3) := by decide +kernel
theorem dX9_sound_171 : decode cX9_sound 171 = .ok (.iinc 2 1, 3) := by decide +kernel
theorem dX9_sound_174 : decode cX9_sound 174 = .ok (.iinc 3 1, 3) := by decide +kernel
theorem dX9_sound_177 : decode cX9_sound 177 = .ok (.goto (-55), 3) := by decide +kernel
theorem dX9_sound_180 : decode cX9_sound 180 = .ok (.iload_n 2, 1) := by decide +kernel
theorem dX9_sound_181 : decode cX9_sound 181 = .ok (.iconst 1, 1) := by decide +kernel
theorem dX9_sound_182 : decode cX9_sound 182 = .ok (.if_icmp .eq 9, 3) := by decide +kernel
theorem dX9_sound_185 : decode cX9_sound 185 = .ok (.sipush 2001, 3) := by decide +kernel
theorem dX9_sound_188 : decode cX9_sound 188 = .ok (.iload_n 1, 1) := by decide +kernel
theorem dX9_sound_189 : decode cX9_sound 189 = .ok (.iadd, 1) := by decide +kernel
theorem dX9_sound_190 : decode cX9_sound 190 = .ok (.ireturn, 1) := by decide +kernel
theorem dX9_sound_191 : decode cX9_sound 191 = .ok (.iinc 1 1, 3) := by decide +kernel
theorem dX9_sound_194 : decode cX9_sound 194 = .ok (.goto (-84), 3) := by decide +kernel
theorem dX9_sound_197 : decode cX9_sound 197 = .ok (.iconst 0, 1) := by decide +kernel
theorem dX9_sound_198 : decode cX9_sound 198 = .ok (.ireturn, 1) := by decide +kernel
theorem dX9_separator_0 : decode cX9_separator 0 = .ok (.aload_n 0, 1) := by decide +kernel
theorem dX9_separator_1 : decode cX9_separator 1 = .ok (.getfield 29, 3) := by decide +kernel
theorem dX9_separator_4 : decode cX9_separator 4 = .ok (.ifCond .eq 10, 3) := by decide +kernel
theorem dX9_separator_7 : decode cX9_separator 7 = .ok (.aload_n 0, 1) := by decide +kernel
theorem dX9_separator_8 : decode cX9_separator 8 = .ok (.invokevirtual 122, 3) := by decide +kernel
theorem dX9_separator_11 : decode cX9_separator 11 = .ok (.ifCond .eq 6, 3) := by decide +kernel
theorem dX9_separator_14 : decode cX9_separator 14 = .ok (.bipush (-4), 2) := by decide +kernel
theorem dX9_separator_16 : decode cX9_separator 16 = .ok (.ireturn, 1) := by decide +kernel
theorem dX9_separator_17 : decode cX9_separator 17 = .ok (.iconst 0, 1) := by decide +kernel
theorem dX9_separator_18 : decode cX9_separator 18 = .ok (.istore_n 1, 1) := by decide +kernel
theorem dX9_separator_19 : decode cX9_separator 19 = .ok (.iload_n 1, 1) := by decide +kernel
theorem dX9_separator_20 : decode cX9_separator 20 = .ok (.aload_n 0, 1) := by decide +kernel
theorem dX9_separator_21 : decode cX9_separator 21 = .ok (.getfield 29, 3) := by decide +kernel
theorem dX9_separator_24 : decode cX9_separator 24 = .ok (.if_icmp .ge 136, 3) := by decide +kernel
theorem dX9_separator_27 : decode cX9_separator 27 = .ok (.aload_n 0, 1) := by decide +kernel
theorem dX9_separator_28 : decode cX9_separator 28 = .ok (.invokevirtual 116, 3) := by decide +kernel
theorem dX9_separator_31 : decode cX9_separator 31 = .ok (.aload_n 0, 1) := by decide +kernel
theorem dX9_separator_32 : decode cX9_separator 32 = .ok (.getfield 32, 3) := by decide +kernel
theorem dX9_separator_35 : decode cX9_separator 35 = .ok (.iload_n 1, 1) := by decide +kernel
theorem dX9_separator_36 : decode cX9_separator 36 = .ok (.iaload, 1) := by decide +kernel
theorem dX9_separator_37 : decode cX9_separator 37 = .ok (.iconst (-1), 1) := by decide +kernel
theorem dX9_separator_38 : decode cX9_separator 38 = .ok (.ixor, 1) := by decide +kernel
theorem dX9_separator_39 : decode cX9_separator 39 = .ok (.iand, 1) := by decide +kernel
theorem dX9_separator_40 : decode cX9_separator 40 = .ok (.istore_n 2, 1) := by decide +kernel
theorem dX9_separator_41 : decode cX9_separator 41 = .ok (.iconst 1, 1) := by decide +kernel
theorem dX9_separator_42 : decode cX9_separator 42 = .ok (.istore_n 3, 1) := by decide +kernel
theorem dX9_separator_43 : decode cX9_separator 43 = .ok (.iload_n 2, 1) := by decide +kernel
theorem dX9_separator_44 : decode cX9_separator 44 = .ok (.ifCond .eq 104, 3) := by decide +kernel
theorem dX9_separator_47 : decode cX9_separator 47 = .ok (.iload_n 2, 1) := by decide +kernel
theorem dX9_separator_48 : decode cX9_separator 48 = .ok (.iload_n 2, 1) := by decide +kernel
theorem dX9_separator_49 : decode cX9_separator 49 = .ok (.ineg, 1) := by decide +kernel
theorem dX9_separator_50 : decode cX9_separator 50 = .ok (.iand, 1) := by decide +kernel
theorem dX9_separator_51 : decode cX9_separator 51 = .ok (.istore 4, 2) := by decide +kernel
theorem dX9_separator_53 : decode cX9_separator 53 = .ok (.iconst 0, 1) := by decide +kernel
theorem dX9_separator_54 : decode cX9_separator 54 = .ok (.istore 5, 2) := by decide +kernel
theorem dX9_separator_56 : decode cX9_separator 56 = .ok (.iload 4, 2) := by decide +kernel
theorem dX9_separator_58 : decode cX9_separator 58 = .ok (.iload 5, 2) := by decide +kernel
theorem dX9_separator_60 : decode cX9_separator 60 = .ok (.if_icmp .eq 53, 3) := by decide +kernel
theorem dX9_separator_63 : decode cX9_separator 63 = .ok (.iload 4, 2) := by decide +kernel
theorem dX9_separator_65 : decode cX9_separator 65 = .ok (.istore 5, 2) := by decide +kernel
theorem dX9_separator_67 : decode cX9_separator 67 = .ok (.iconst 0, 1) := by decide +kernel
theorem dX9_separator_68 : decode cX9_separator 68 = .ok (.istore 6, 2) := by decide +kernel
theorem dX9_separator_70 : decode cX9_separator 70 = .ok (.iload 6, 2) := by decide +kernel
theorem dX9_separator_72 : decode cX9_separator 72 = .ok (.aload_n 0, 1) := by decide +kernel
theorem dX9_separator_73 : decode cX9_separator 73 = .ok (.getfield 7, 3) := by decide +kernel
theorem dX9_separator_76 : decode cX9_separator 76 = .ok (.if_icmp .ge 34, 3) := by decide +kernel
theorem dX9_separator_79 : decode cX9_separator 79 = .ok (.iload 5, 2) := by decide +kernel
theorem dX9_separator_81 : decode cX9_separator 81 = .ok (.iload 6, 2) := by decide +kernel
theorem dX9_separator_83 : decode cX9_separator 83 = .ok (.ishr, 1) := by decide +kernel
theorem dX9_separator_84 : decode cX9_separator 84 = .ok (.iconst 1, 1) := by decide +kernel
theorem dX9_separator_85 : decode cX9_separator 85 = .ok (.iand, 1) := by decide +kernel
theorem dX9_separator_86 : decode cX9_separator 86 = .ok (.iconst 1, 1) := by decide +kernel
theorem dX9_separator_87 : decode cX9_separator 87 = .ok (.if_icmp .ne 17, 3) := by decide +kernel
theorem dX9_separator_90 : decode cX9_separator 90 = .ok (.iload 4, 2) := by decide +kernel
theorem dX9_separator_92 : decode cX9_separator 92 = .ok (.aload_n 0, 1) := by decide +kernel
theorem dX9_separator_93 : decode cX9_separator 93 = .ok (.getfield 17, 3) := by decide +kernel
theorem dX9_separator_96 : decode cX9_separator 96 = .ok (.iload 6, 2) := by decide +kernel
theorem dX9_separator_98 : decode cX9_separator 98 = .ok (.iaload, 1) := by decide +kernel
theorem dX9_separator_99 : decode cX9_separator 99 = .ok (.iload_n 2, 1) := by decide +kernel
theorem dX9_separator_100 : decode cX9_separator 100 = .ok (.iand, 1) := by decide +kernel
theorem dX9_separator_101 : decode cX9_separator 101 = .ok (.ior, 1) := by decide +kernel
theorem dX9_separator_102 : decode cX9_separator 102 = .ok (.istore 4, 2) := by decide +kernel
theorem dX9_separator_104 : decode cX9_separator 104 = .ok (.iinc 6 1, 3) := by decide +kernel
theorem dX9_separator_107 : decode cX9_separator 107 = .ok (.goto (-37), 3) := by decide +kernel
theorem dX9_separator_110 : decode cX9_separator 110 = .ok (.goto (-54), 3) := by decide +kernel
theorem dX9_separator_113 : decode cX9_separator 113 = .ok (.iload_n 3, 1) := by decide +kernel
theorem dX9_separator_114 : decode cX9_separator 114 = .ok (.ifCond .eq 22, 3) := by decide +kernel
theorem dX9_separator_117 : decode cX9_separator 117 = .ok (.aload_n 0, 1) := by decide +kernel
theorem dX9_separator_118 : decode cX9_separator 118 = .ok (.iload 4, 2) := by decide +kernel
theorem dX9_separator_120 : decode cX9_separator 120 = .ok (.invokevirtual 102, 3) := by decide +kernel
theorem dX9_separator_123 : decode cX9_separator 123 = .ok (.aload_n 0, 1) := by decide +kernel
theorem dX9_separator_124 : decode cX9_separator 124 = .ok (.getfield 7, 3) := by decide +kernel
theorem dX9_separator_127 : decode cX9_separator 127 = .ok (.iconst 2, 1) := by decide +kernel
theorem dX9_separator_128 : decode cX9_separator 128 = .ok (.idiv, 1) := by decide +kernel
theorem dX9_separator_129 : decode cX9_separator 129 = .ok (.if_icmp .gt 7, 3) := by decide +kernel
theorem dX9_separator_132 : decode cX9_separator 132 = .ok (.iconst 1, 1) := by decide +kernel
theorem dX9_separator_133 : decode cX9_separator 133 = .ok (.goto 4, 3) := by decide +kernel
theorem dX9_separator_136 : decode cX9_separator 136 = .ok (.iconst 0, 1) := by decide +kernel
theorem dX9_separator_137 : decode cX9_separator 137 = .ok (.istore_n 3, 1) := by decide +kernel
theorem dX9_separator_138 : decode cX9_separator 138 = .ok (.iload_n 2, 1) := by decide +kernel
theorem dX9_separator_139 : decode cX9_separator 139 = .ok (.iload 4, 2) := by decide +kernel
theorem dX9_separator_141 : decode cX9_separator 141 = .ok (.iconst (-1), 1) := by decide +kernel
theorem dX9_separator_142 : decode cX9_separator 142 = .ok (.ixor, 1) := by decide +kernel
theorem dX9_separator_143 : decode cX9_separator 143 = .ok (.iand, 1) := by decide +kernel
theorem dX9_separator_144 : decode cX9_separator 144 = .ok (.istore_n 2, 1) := by decide +kernel
theorem dX9_separator_145 : decode cX9_separator 145 = .ok (.goto (-102), 3) := by decide +kernel
theorem dX9_separator_148 : decode cX9_separator 148 = .ok (.iload_n 3, 1) := by decide +kernel
theorem dX9_separator_149 : decode cX9_separator 149 = .ok (.ifCond .eq 5, 3) := by decide +kernel
theorem dX9_separator_152 : decode cX9_separator 152 = .ok (.iload_n 1, 1) := by decide +kernel
theorem dX9_separator_153 : decode cX9_separator 153 = .ok (.ireturn, 1) := by decide +kernel
theorem dX9_separator_154 : decode cX9_separator 154 = .ok (.iinc 1 1, 3) := by decide +kernel
theorem dX9_separator_157 : decode cX9_separator 157 = .ok (.goto (-138), 3) := by decide +kernel
theorem dX9_separator_160 : decode cX9_separator 160 = .ok (.iconst (-1), 1) := by decide +kernel
theorem dX9_separator_161 : decode cX9_separator 161 = .ok (.ireturn, 1) := by decide +kernel
theorem dX9_states_0 : decode cX9_states 0 = .ok (.iload_n 1, 1) := by decide +kernel
theorem dX9_states_1 : decode cX9_states 1 = .ok (.iconst 1, 1) := by decide +kernel
theorem dX9_states_2 : decode cX9_states 2 = .ok (.if_icmp .lt 8, 3) := by decide +kernel
theorem dX9_states_5 : decode cX9_states 5 = .ok (.iload_n 1, 1) := by decide +kernel
theorem dX9_states_6 : decode cX9_states 6 = .ok (.iconst 4, 1) := by decide +kernel
theorem dX9_states_7 : decode cX9_states 7 = .ok (.if_icmp .le 6, 3) := by decide +kernel
theorem dX9_states_10 : decode cX9_states 10 = .ok (.bipush (-2), 2) := by decide +kernel
theorem dX9_states_12 : decode cX9_states 12 = .ok (.ireturn, 1) := by decide +kernel
theorem dX9_states_13 : decode cX9_states 13 = .ok (.aload_n 0, 1) := by decide +kernel
theorem dX9_states_14 : decode cX9_states 14 = .ok (.getfield 41, 3) := by decide +kernel
theorem dX9_states_17 : decode cX9_states 17 = .ok (.istore_n 2, 1) := by decide +kernel
theorem dX9_states_18 : decode cX9_states 18 = .ok (.aload_n 0, 1) := by decide +kernel
theorem dX9_states_19 : decode cX9_states 19 = .ok (.iload_n 1, 1) := by decide +kernel
theorem dX9_states_20 : decode cX9_states 20 = .ok (.putfield 41, 3) := by decide +kernel
theorem dX9_states_23 : decode cX9_states 23 = .ok (.iconst 0, 1) := by decide +kernel
theorem dX9_states_24 : decode cX9_states 24 = .ok (.istore_n 3, 1) := by decide +kernel
theorem dX9_states_25 : decode cX9_states 25 = .ok (.iload_n 3, 1) := by decide +kernel
theorem dX9_states_26 : decode cX9_states 26 = .ok (.iconst 4, 1) := by decide +kernel
theorem dX9_states_27 : decode cX9_states 27 = .ok (.if_icmp .ge 16, 3) := by decide +kernel
theorem dX9_states_30 : decode cX9_states 30 = .ok (.aload_n 0, 1) := by decide +kernel
theorem dX9_states_31 : decode cX9_states 31 = .ok (.getfield 44, 3) := by decide +kernel
theorem dX9_states_34 : decode cX9_states 34 = .ok (.iload_n 3, 1) := by decide +kernel
theorem dX9_states_35 : decode cX9_states 35 = .ok (.iconst 0, 1) := by decide +kernel
theorem dX9_states_36 : decode cX9_states 36 = .ok (.iastore, 1) := by decide +kernel
theorem dX9_states_37 : decode cX9_states 37 = .ok (.iinc 3 1, 3) := by decide +kernel
theorem dX9_states_40 : decode cX9_states 40 = .ok (.goto (-15), 3) := by decide +kernel
theorem dX9_states_43 : decode cX9_states 43 = .ok (.iconst 0, 1) := by decide +kernel
theorem dX9_states_44 : decode cX9_states 44 = .ok (.istore_n 3, 1) := by decide +kernel
theorem dX9_states_45 : decode cX9_states 45 = .ok (.iload_n 3, 1) := by decide +kernel
theorem dX9_states_46 : decode cX9_states 46 = .ok (.bipush 16, 2) := by decide +kernel
theorem dX9_states_48 : decode cX9_states 48 = .ok (.if_icmp .ge 23, 3) := by decide +kernel
theorem dX9_states_51 : decode cX9_states 51 = .ok (.aload_n 0, 1) := by decide +kernel
theorem dX9_states_52 : decode cX9_states 52 = .ok (.getfield 47, 3) := by decide +kernel
theorem dX9_states_55 : decode cX9_states 55 = .ok (.iload_n 3, 1) := by decide +kernel
theorem dX9_states_56 : decode cX9_states 56 = .ok (.iconst 0, 1) := by decide +kernel
theorem dX9_states_57 : decode cX9_states 57 = .ok (.iastore, 1) := by decide +kernel
theorem dX9_states_58 : decode cX9_states 58 = .ok (.aload_n 0, 1) := by decide +kernel
theorem dX9_states_59 : decode cX9_states 59 = .ok (.getfield 53, 3) := by decide +kernel
theorem dX9_states_62 : decode cX9_states 62 = .ok (.iload_n 3, 1) := by decide +kernel
theorem dX9_states_63 : decode cX9_states 63 = .ok (.iconst 0, 1) := by decide +kernel
theorem dX9_states_64 : decode cX9_states 64 = .ok (.bastore, 1) := by decide +kernel
theorem dX9_states_65 : decode cX9_states 65 = .ok (.iinc 3 1, 3) := by decide +kernel
theorem dX9_states_68 : decode cX9_states 68 = .ok (.goto (-23), 3) := by decide +kernel
theorem dX9_states_71 : decode cX9_states 71 = .ok (.iconst 0, 1) := by decide +kernel
theorem dX9_states_72 : decode cX9_states 72 = .ok (.istore_n 3, 1) := by decide +kernel
theorem dX9_states_73 : decode cX9_states 73 = .ok (.iload_n 3, 1) := by decide +kernel
theorem dX9_states_74 : decode cX9_states 74 = .ok (.bipush 14, 2) := by decide +kernel
theorem dX9_states_76 : decode cX9_states 76 = .ok (.if_icmp .ge 16, 3) := by decide +kernel
theorem dX9_states_79 : decode cX9_states 79 = .ok (.aload_n 0, 1) := by decide +kernel
theorem dX9_states_80 : decode cX9_states 80 = .ok (.getfield 50, 3) := by decide +kernel
theorem dX9_states_83 : decode cX9_states 83 = .ok (.iload_n 3, 1) := by decide +kernel
theorem dX9_states_84 : decode cX9_states 84 = .ok (.iconst 0, 1) := by decide +kernel
theorem dX9_states_85 : decode cX9_states 85 = .ok (.iastore, 1) := by decide +kernel
theorem dX9_states_86 : decode cX9_states 86 = .ok (.iinc 3 1, 3) := by decide +kernel
theorem dX9_states_89 : decode cX9_states 89 = .ok (.goto (-16), 3) := by decide +kernel
theorem dX9_states_92 : decode cX9_states 92 = .ok (.iload_n 2, 1) := by decide +kernel
theorem dX9_states_93 : decode cX9_states 93 = .ok (.ireturn, 1) := by decide +kernel
theorem dX9_isFactor_0 : decode cX9_isFactor 0 = .ok (.iload_n 1, 1) := by decide +kernel
theorem dX9_isFactor_1 : decode cX9_isFactor 1 = .ok (.bipush (-10), 2) := by decide +kernel
theorem dX9_isFactor_3 : decode cX9_isFactor 3 = .ok (.if_icmp .lt 13, 3) := by decide +kernel
theorem dX9_isFactor_6 : decode cX9_isFactor 6 = .ok (.iload_n 1, 1) := by decide +kernel
theorem dX9_isFactor_7 : decode cX9_isFactor 7 = .ok (.bipush 10, 2) := by decide +kernel
theorem dX9_isFactor_9 : decode cX9_isFactor 9 = .ok (.if_icmp .gt 7, 3) := by decide +kernel
theorem dX9_isFactor_12 : decode cX9_isFactor 12 = .ok (.iconst 1, 1) := by decide +kernel
theorem dX9_isFactor_13 : decode cX9_isFactor 13 = .ok (.goto 4, 3) := by decide +kernel
theorem dX9_isFactor_16 : decode cX9_isFactor 16 = .ok (.iconst 0, 1) := by decide +kernel
theorem dX9_isFactor_17 : decode cX9_isFactor 17 = .ok (.ireturn, 1) := by decide +kernel
theorem dX9_isState_0 : decode cX9_isState 0 = .ok (.iload_n 1, 1) := by decide +kernel
theorem dX9_isState_1 : decode cX9_isState 1 = .ok (.ifCond .lt 15, 3) := by decide +kernel
theorem dX9_isState_4 : decode cX9_isState 4 = .ok (.iload_n 1, 1) := by decide +kernel
theorem dX9_isState_5 : decode cX9_isState 5 = .ok (.aload_n 0, 1) := by decide +kernel
theorem dX9_isState_6 : decode cX9_isState 6 = .ok (.getfield 41, 3) := by decide +kernel
theorem dX9_isState_9 : decode cX9_isState 9 = .ok (.if_icmp .ge 7, 3) := by decide +kernel
theorem dX9_isState_12 : decode cX9_isState 12 = .ok (.iconst 1, 1) := by decide +kernel
theorem dX9_isState_13 : decode cX9_isState 13 = .ok (.goto 4, 3) := by decide +kernel
theorem dX9_isState_16 : decode cX9_isState 16 = .ok (.iconst 0, 1) := by decide +kernel
theorem dX9_isState_17 : decode cX9_isState 17 = .ok (.ireturn, 1) := by decide +kernel
theorem dX9_factor_0 : decode cX9_factor 0 = .ok (.aload_n 0, 1) := by decide +kernel
theorem dX9_factor_1 : decode cX9_factor 1 = .ok (.iload_n 1, 1) := by decide +kernel
theorem dX9_factor_2 : decode cX9_factor 2 = .ok (.invokevirtual 125, 3) := by decide +kernel
theorem dX9_factor_5 : decode cX9_factor 5 = .ok (.ifCond .ne 5, 3) := by decide +kernel
theorem dX9_factor_8 : decode cX9_factor 8 = .ok (.iconst (-1), 1) := by decide +kernel
theorem dX9_factor_9 : decode cX9_factor 9 = .ok (.ireturn, 1) := by decide +kernel
theorem dX9_factor_10 : decode cX9_factor 10 = .ok (.aload_n 0, 1) := by decide +kernel
theorem dX9_factor_11 : decode cX9_factor 11 = .ok (.iload_n 2, 1) := by decide +kernel
theorem dX9_factor_12 : decode cX9_factor 12 = .ok (.invokevirtual 128, 3) := by decide +kernel
theorem dX9_factor_15 : decode cX9_factor 15 = .ok (.ifCond .ne 6, 3) := by decide +kernel
theorem dX9_factor_18 : decode cX9_factor 18 = .ok (.bipush (-2), 2) := by decide +kernel
theorem dX9_factor_20 : decode cX9_factor 20 = .ok (.ireturn, 1) := by decide +kernel
theorem dX9_factor_21 : decode cX9_factor 21 = .ok (.aload_n 0, 1) := by decide +kernel
theorem dX9_factor_22 : decode cX9_factor 22 = .ok (.getfield 44, 3) := by decide +kernel
theorem dX9_factor_25 : decode cX9_factor 25 = .ok (.iload_n 1, 1) := by decide +kernel
theorem dX9_factor_26 : decode cX9_factor 26 = .ok (.iaload, 1) := by decide +kernel
theorem dX9_factor_27 : decode cX9_factor 27 = .ok (.bipush 100, 2) := by decide +kernel
theorem dX9_factor_29 : decode cX9_factor 29 = .ok (.iadd, 1) := by decide +kernel
theorem dX9_factor_30 : decode cX9_factor 30 = .ok (.istore_n 3, 1) := by decide +kernel
theorem dX9_factor_31 : decode cX9_factor 31 = .ok (.aload_n 0, 1) := by decide +kernel
theorem dX9_factor_32 : decode cX9_factor 32 = .ok (.getfield 44, 3) := by decide +kernel
theorem dX9_factor_35 : decode cX9_factor 35 = .ok (.iload_n 1, 1) := by decide +kernel
theorem dX9_factor_36 : decode cX9_factor 36 = .ok (.iload_n 2, 1) := by decide +kernel
theorem dX9_factor_37 : decode cX9_factor 37 = .ok (.iastore, 1) := by decide +kernel
theorem dX9_factor_38 : decode cX9_factor 38 = .ok (.iload_n 3, 1) := by decide +kernel
theorem dX9_factor_39 : decode cX9_factor 39 = .ok (.ireturn, 1) := by decide +kernel
theorem dX9_pair_0 : decode cX9_pair 0 = .ok (.aload_n 0, 1) := by decide +kernel
theorem dX9_pair_1 : decode cX9_pair 1 = .ok (.iload_n 1, 1) := by decide +kernel
theorem dX9_pair_2 : decode cX9_pair 2 = .ok (.invokevirtual 125, 3) := by decide +kernel
theorem dX9_pair_5 : decode cX9_pair 5 = .ok (.ifCond .eq 11, 3) := by decide +kernel
theorem dX9_pair_8 : decode cX9_pair 8 = .ok (.aload_n 0, 1) := by decide +kernel
theorem dX9_pair_9 : decode cX9_pair 9 = .ok (.iload_n 2, 1) := by decide +kernel
theorem dX9_pair_10 : decode cX9_pair 10 = .ok (.invokevirtual 125, 3) := by decide +kernel
theorem dX9_pair_13 : decode cX9_pair 13 = .ok (.ifCond .ne 5, 3) := by decide +kernel
theorem dX9_pair_16 : decode cX9_pair 16 = .ok (.iconst (-1), 1) := by decide +kernel
theorem dX9_pair_17 : decode cX9_pair 17 = .ok (.ireturn, 1) := by decide +kernel
theorem dX9_pair_18 : decode cX9_pair 18 = .ok (.iload_n 3, 1) := by decide +kernel
theorem dX9_pair_19 : decode cX9_pair 19 = .ok (.ifCond .lt 17, 3) := by decide +kernel
theorem dX9_pair_22 : decode cX9_pair 22 = .ok (.iload_n 3, 1) := by decide +kernel
theorem dX9_pair_23 : decode cX9_pair 23 = .ok (.iconst 1, 1) := by decide +kernel
theorem dX9_pair_24 : decode cX9_pair 24 = .ok (.if_icmp .gt 12, 3) := by decide +kernel
theorem dX9_pair_27 : decode cX9_pair 27 = .ok (.aload_n 0, 1) := by decide +kernel
theorem dX9_pair_28 : decode cX9_pair 28 = .ok (.iload 4, 2) := by decide +kernel
theorem dX9_pair_30 : decode cX9_pair 30 = .ok (.invokevirtual 128, 3) := by decide +kernel
theorem dX9_pair_33 : decode cX9_pair 33 = .ok (.ifCond .ne 6, 3) := by decide +kernel
theorem dX9_pair_36 : decode cX9_pair 36 = .ok (.bipush (-2), 2) := by decide +kernel
theorem dX9_pair_38 : decode cX9_pair 38 = .ok (.ireturn, 1) := by decide +kernel
theorem dX9_pair_39 : decode cX9_pair 39 = .ok (.aload_n 0, 1) := by decide +kernel
theorem dX9_pair_40 : decode cX9_pair 40 = .ok (.getfield 53, 3) := by decide +kernel
theorem dX9_pair_43 : decode cX9_pair 43 = .ok (.iconst 4, 1) := by decide +kernel
theorem dX9_pair_44 : decode cX9_pair 44 = .ok (.iload_n 1, 1) := by decide +kernel
theorem dX9_pair_45 : decode cX9_pair 45 = .ok (.imul, 1) := by decide +kernel
theorem dX9_pair_46 : decode cX9_pair 46 = .ok (.iload_n 2, 1) := by decide +kernel
theorem dX9_pair_47 : decode cX9_pair 47 = .ok (.iadd, 1) := by decide +kernel
theorem dX9_pair_48 : decode cX9_pair 48 = .ok (.baload, 1) := by decide +kernel
theorem dX9_pair_49 : decode cX9_pair 49 = .ok (.ifCond .eq 7, 3) := by decide +kernel
theorem dX9_pair_52 : decode cX9_pair 52 = .ok (.iconst 0, 1) := by decide +kernel
theorem dX9_pair_53 : decode cX9_pair 53 = .ok (.goto 16, 3) := by decide +kernel
theorem dX9_pair_56 : decode cX9_pair 56 = .ok (.aload_n 0, 1) := by decide +kernel
theorem dX9_pair_57 : decode cX9_pair 57 = .ok (.getfield 47, 3) := by decide +kernel
theorem dX9_pair_60 : decode cX9_pair 60 = .ok (.iconst 4, 1) := by decide +kernel
theorem dX9_pair_61 : decode cX9_pair 61 = .ok (.iload_n 1, 1) := by decide +kernel
theorem dX9_pair_62 : decode cX9_pair 62 = .ok (.imul, 1) := by decide +kernel
theorem dX9_pair_63 : decode cX9_pair 63 = .ok (.iload_n 2, 1) := by decide +kernel
theorem dX9_pair_64 : decode cX9_pair 64 = .ok (.iadd, 1) := by decide +kernel
theorem dX9_pair_65 : decode cX9_pair 65 = .ok (.iaload, 1) := by decide +kernel
theorem dX9_pair_66 : decode cX9_pair 66 = .ok (.bipush 100, 2) := by decide +kernel
theorem dX9_pair_68 : decode cX9_pair 68 = .ok (.iadd, 1) := by decide +kernel
theorem dX9_pair_69 : decode cX9_pair 69 = .ok (.istore 5, 2) := by decide +kernel
theorem dX9_pair_71 : decode cX9_pair 71 = .ok (.aload_n 0, 1) := by decide +kernel
theorem dX9_pair_72 : decode cX9_pair 72 = .ok (.getfield 53, 3) := by decide +kernel
theorem dX9_pair_75 : decode cX9_pair 75 = .ok (.iconst 4, 1) := by decide +kernel
theorem dX9_pair_76 : decode cX9_pair 76 = .ok (.iload_n 1, 1) := by decide +kernel
theorem dX9_pair_77 : decode cX9_pair 77 = .ok (.imul, 1) := by decide +kernel
theorem dX9_pair_78 : decode cX9_pair 78 = .ok (.iload_n 2, 1) := by decide +kernel
theorem dX9_pair_79 : decode cX9_pair 79 = .ok (.iadd, 1) := by decide +kernel
theorem dX9_pair_80 : decode cX9_pair 80 = .ok (.iload_n 3, 1) := by decide +kernel
theorem dX9_pair_81 : decode cX9_pair 81 = .ok (.ifCond .ne 7, 3) := by decide +kernel
theorem dX9_pair_84 : decode cX9_pair 84 = .ok (.iconst 1, 1) := by decide +kernel
theorem dX9_pair_85 : decode cX9_pair 85 = .ok (.goto 4, 3) := by decide +kernel
theorem dX9_pair_88 : decode cX9_pair 88 = .ok (.iconst 0, 1) := by decide +kernel
theorem dX9_pair_89 : decode cX9_pair 89 = .ok (.bastore, 1) := by decide +kernel
theorem dX9_pair_90 : decode cX9_pair 90 = .ok (.aload_n 0, 1) := by decide +kernel
theorem dX9_pair_91 : decode cX9_pair 91 = .ok (.getfield 53, 3) := by decide +kernel
theorem dX9_pair_94 : decode cX9_pair 94 = .ok (.iconst 4, 1) := by decide +kernel
theorem dX9_pair_95 : decode cX9_pair 95 = .ok (.iload_n 2, 1) := by decide +kernel
theorem dX9_pair_96 : decode cX9_pair 96 = .ok (.imul, 1) := by decide +kernel
theorem dX9_pair_97 : decode cX9_pair 97 = .ok (.iload_n 1, 1) := by decide +kernel
theorem dX9_pair_98 : decode cX9_pair 98 = .ok (.iadd, 1) := by decide +kernel
theorem dX9_pair_99 : decode cX9_pair 99 = .ok (.iload_n 3, 1) := by decide +kernel
theorem dX9_pair_100 : decode cX9_pair 100 = .ok (.ifCond .ne 7, 3) := by decide +kernel
theorem dX9_pair_103 : decode cX9_pair 103 = .ok (.iconst 1, 1) := by decide +kernel
theorem dX9_pair_104 : decode cX9_pair 104 = .ok (.goto 4, 3) := by decide +kernel
theorem dX9_pair_107 : decode cX9_pair 107 = .ok (.iconst 0, 1) := by decide +kernel
theorem dX9_pair_108 : decode cX9_pair 108 = .ok (.bastore, 1) := by decide +kernel
theorem dX9_pair_109 : decode cX9_pair 109 = .ok (.aload_n 0, 1) := by decide +kernel
theorem dX9_pair_110 : decode cX9_pair 110 = .ok (.getfield 47, 3) := by decide +kernel
theorem dX9_pair_113 : decode cX9_pair 113 = .ok (.iconst 4, 1) := by decide +kernel
theorem dX9_pair_114 : decode cX9_pair 114 = .ok (.iload_n 1, 1) := by decide +kernel
theorem dX9_pair_115 : decode cX9_pair 115 = .ok (.imul, 1) := by decide +kernel
theorem dX9_pair_116 : decode cX9_pair 116 = .ok (.iload_n 2, 1) := by decide +kernel
theorem dX9_pair_117 : decode cX9_pair 117 = .ok (.iadd, 1) := by decide +kernel
theorem dX9_pair_118 : decode cX9_pair 118 = .ok (.iload 4, 2) := by decide +kernel
theorem dX9_pair_120 : decode cX9_pair 120 = .ok (.iastore, 1) := by decide +kernel
theorem dX9_pair_121 : decode cX9_pair 121 = .ok (.aload_n 0, 1) := by decide +kernel
theorem dX9_pair_122 : decode cX9_pair 122 = .ok (.getfield 47, 3) := by decide +kernel
theorem dX9_pair_125 : decode cX9_pair 125 = .ok (.iconst 4, 1) := by decide +kernel
theorem dX9_pair_126 : decode cX9_pair 126 = .ok (.iload_n 2, 1) := by decide +kernel
theorem dX9_pair_127 : decode cX9_pair 127 = .ok (.imul, 1) := by decide +kernel
theorem dX9_pair_128 : decode cX9_pair 128 = .ok (.iload_n 1, 1) := by decide +kernel
theorem dX9_pair_129 : decode cX9_pair 129 = .ok (.iadd, 1) := by decide +kernel
theorem dX9_pair_130 : decode cX9_pair 130 = .ok (.iload 4, 2) := by decide +kernel
theorem dX9_pair_132 : decode cX9_pair 132 = .ok (.iastore, 1) := by decide +kernel
theorem dX9_pair_133 : decode cX9_pair 133 = .ok (.iload 5, 2) := by decide +kernel
theorem dX9_pair_135 : decode cX9_pair 135 = .ok (.ireturn, 1) := by decide +kernel
theorem dX9_forbid_0 : decode cX9_forbid 0 = .ok (.aload_n 0, 1) := by decide +kernel
theorem dX9_forbid_1 : decode cX9_forbid 1 = .ok (.iload_n 1, 1) := by decide +kernel
theorem dX9_forbid_2 : decode cX9_forbid 2 = .ok (.invokevirtual 87, 3) := by decide +kernel
theorem dX9_forbid_5 : decode cX9_forbid 5 = .ok (.ifCond .ne 5, 3) := by decide +kernel
theorem dX9_forbid_8 : decode cX9_forbid 8 = .ok (.iconst (-1), 1) := by decide +kernel
theorem dX9_forbid_9 : decode cX9_forbid 9 = .ok (.ireturn, 1) := by decide +kernel
theorem dX9_forbid_10 : decode cX9_forbid 10 = .ok (.iload_n 2, 1) := by decide +kernel
theorem dX9_forbid_11 : decode cX9_forbid 11 = .ok (.ifCond .lt 9, 3) := by decide +kernel
theorem dX9_forbid_14 : decode cX9_forbid 14 = .ok (.iload_n 2, 1) := by decide +kernel
theorem dX9_forbid_15 : decode cX9_forbid 15 = .ok (.bipush 15, 2) := by decide +kernel
theorem dX9_forbid_17 : decode cX9_forbid 17 = .ok (.if_icmp .le 6, 3) := by decide +kernel
theorem dX9_forbid_20 : decode cX9_forbid 20 = .ok (.bipush (-2), 2) := by decide +kernel
theorem dX9_forbid_22 : decode cX9_forbid 22 = .ok (.ireturn, 1) := by decide +kernel
theorem dX9_forbid_23 : decode cX9_forbid 23 = .ok (.aload_n 0, 1) := by decide +kernel
theorem dX9_forbid_24 : decode cX9_forbid 24 = .ok (.getfield 50, 3) := by decide +kernel
theorem dX9_forbid_27 : decode cX9_forbid 27 = .ok (.iload_n 1, 1) := by decide +kernel
theorem dX9_forbid_28 : decode cX9_forbid 28 = .ok (.iaload, 1) := by decide +kernel
theorem dX9_forbid_29 : decode cX9_forbid 29 = .ok (.istore_n 3, 1) := by decide +kernel
theorem dX9_forbid_30 : decode cX9_forbid 30 = .ok (.aload_n 0, 1) := by decide +kernel
theorem dX9_forbid_31 : decode cX9_forbid 31 = .ok (.getfield 50, 3) := by decide +kernel
theorem dX9_forbid_34 : decode cX9_forbid 34 = .ok (.iload_n 1, 1) := by decide +kernel
theorem dX9_forbid_35 : decode cX9_forbid 35 = .ok (.iload_n 2, 1) := by decide +kernel
theorem dX9_forbid_36 : decode cX9_forbid 36 = .ok (.iastore, 1) := by decide +kernel
theorem dX9_forbid_37 : decode cX9_forbid 37 = .ok (.iload_n 3, 1) := by decide +kernel
theorem dX9_forbid_38 : decode cX9_forbid 38 = .ok (.ireturn, 1) := by decide +kernel
theorem dX9_count_0 : decode cX9_count 0 = .ok (.iconst 0, 1) := by decide +kernel
theorem dX9_count_1 : decode cX9_count 1 = .ok (.istore_n 2, 1) := by decide +kernel
theorem dX9_count_2 : decode cX9_count 2 = .ok (.iload_n 1, 1) := by decide +kernel
theorem dX9_count_3 : decode cX9_count 3 = .ok (.tableswitch 110 0 5 #[37, 42, 75, 80, 85, 90], 37) := by decide +kernel
theorem dX9_count_40 : decode cX9_count 40 = .ok (.aload_n 0, 1) := by decide +kernel
theorem dX9_count_41 : decode cX9_count 41 = .ok (.getfield 7, 3) := by decide +kernel
theorem dX9_count_44 : decode cX9_count 44 = .ok (.ireturn, 1) := by decide +kernel
theorem dX9_count_45 : decode cX9_count 45 = .ok (.iconst 0, 1) := by decide +kernel
theorem dX9_count_46 : decode cX9_count 46 = .ok (.istore_n 3, 1) := by decide +kernel
theorem dX9_count_47 : decode cX9_count 47 = .ok (.iload_n 3, 1) := by decide +kernel
theorem dX9_count_48 : decode cX9_count 48 = .ok (.aload_n 0, 1) := by decide +kernel
theorem dX9_count_49 : decode cX9_count 49 = .ok (.getfield 7, 3) := by decide +kernel
theorem dX9_count_52 : decode cX9_count 52 = .ok (.if_icmp .ge 22, 3) := by decide +kernel
theorem dX9_count_55 : decode cX9_count 55 = .ok (.iload_n 2, 1) := by decide +kernel
theorem dX9_count_56 : decode cX9_count 56 = .ok (.aload_n 0, 1) := by decide +kernel
theorem dX9_count_57 : decode cX9_count 57 = .ok (.aload_n 0, 1) := by decide +kernel
theorem dX9_count_58 : decode cX9_count 58 = .ok (.getfield 17, 3) := by decide +kernel
theorem dX9_count_61 : decode cX9_count 61 = .ok (.iload_n 3, 1) := by decide +kernel
theorem dX9_count_62 : decode cX9_count 62 = .ok (.iaload, 1) := by decide +kernel
theorem dX9_count_63 : decode cX9_count 63 = .ok (.invokevirtual 102, 3) := by decide +kernel
theorem dX9_count_66 : decode cX9_count 66 = .ok (.iadd, 1) := by decide +kernel
theorem dX9_count_67 : decode cX9_count 67 = .ok (.istore_n 2, 1) := by decide +kernel
theorem dX9_count_68 : decode cX9_count 68 = .ok (.iinc 3 1, 3) := by decide +kernel
theorem dX9_count_71 : decode cX9_count 71 = .ok (.goto (-24), 3) := by decide +kernel
theorem dX9_count_74 : decode cX9_count 74 = .ok (.iload_n 2, 1) := by decide +kernel
theorem dX9_count_75 : decode cX9_count 75 = .ok (.iconst 2, 1) := by decide +kernel
theorem dX9_count_76 : decode cX9_count 76 = .ok (.idiv, 1) := by decide +kernel
theorem dX9_count_77 : decode cX9_count 77 = .ok (.ireturn, 1) := by decide +kernel
theorem dX9_count_78 : decode cX9_count 78 = .ok (.aload_n 0, 1) := by decide +kernel
theorem dX9_count_79 : decode cX9_count 79 = .ok (.getfield 23, 3) := by decide +kernel
theorem dX9_count_82 : decode cX9_count 82 = .ok (.ireturn, 1) := by decide +kernel
theorem dX9_count_83 : decode cX9_count 83 = .ok (.aload_n 0, 1) := by decide +kernel
theorem dX9_count_84 : decode cX9_count 84 = .ok (.getfield 29, 3) := by decide +kernel
theorem dX9_count_87 : decode cX9_count 87 = .ok (.ireturn, 1) := by decide +kernel
theorem dX9_count_88 : decode cX9_count 88 = .ok (.aload_n 0, 1) := by decide +kernel
theorem dX9_count_89 : decode cX9_count 89 = .ok (.getfield 41, 3) := by decide +kernel
theorem dX9_count_92 : decode cX9_count 92 = .ok (.ireturn, 1) := by decide +kernel
theorem dX9_count_93 : decode cX9_count 93 = .ok (.aload_n 0, 1) := by decide +kernel
theorem dX9_count_94 : decode cX9_count 94 = .ok (.getfield 29, 3) := by decide +kernel
theorem dX9_count_97 : decode cX9_count 97 = .ok (.ifCond .le 14, 3) := by decide +kernel
theorem dX9_count_100 : decode cX9_count 100 = .ok (.aload_n 0, 1) := by decide +kernel
theorem dX9_count_101 : decode cX9_count 101 = .ok (.invokevirtual 122, 3) := by decide +kernel
theorem dX9_count_104 : decode cX9_count 104 = .ok (.ifCond .ne 7, 3) := by decide +kernel
theorem dX9_count_107 : decode cX9_count 107 = .ok (.iconst 1, 1) := by decide +kernel
theorem dX9_count_108 : decode cX9_count 108 = .ok (.goto 4, 3) := by decide +kernel
theorem dX9_count_111 : decode cX9_count 111 = .ok (.iconst 0, 1) := by decide +kernel
theorem dX9_count_112 : decode cX9_count 112 = .ok (.ireturn, 1) := by decide +kernel
theorem dX9_count_113 : decode cX9_count 113 = .ok (.iconst (-1), 1) := by decide +kernel
theorem dX9_count_114 : decode cX9_count 114 = .ok (.ireturn, 1) := by decide +kernel
def L_X9_fewest_22 (t_knots : Int32) (t_beside : Nat → Int32) (k_7 : Int32 → Int32 → (Nat → Int32) → Option (Int32 × Int32 × (Nat → Int32))) : Nat → Int32 → Int32 → Int32 → Int32 → (Nat → Int32) → Option (Int32 × Int32 × (Nat → Int32))
  | 0, _, _, _, _, _ => none
  | n + 1, x1, x2, x3, t_rowed, t_row =>
    if t_knots ≤ x3 then
      stI t_row 14 t_rowed x2 fun t_row_6 =>
      bnd (t_rowed + (1 : Int32)) fun t_rowed_7 =>
      bnd (x1 ||| ((1 : Int32) <<< (x2 &&& 31))) fun x1_8 =>
      k_7 x1_8 t_rowed_7 t_row_6
    else
      if ((x1 >>> (x3 &&& 31)) &&& (1 : Int32)) = 0 then
        if x2 < 0 then
          bnd x3 fun x2_10 =>
          bnd (x3 + (1 : Int32)) fun x3_11 =>
          L_X9_fewest_22 t_knots t_beside k_7 n x1 x2_10 x3_11 t_rowed t_row
        else
          cal (f_X9_around x1 x3 t_knots t_beside) fun u12 =>
          cal (f_X9_bits u12) fun u13 =>
          cal (f_X9_around x1 x2 t_knots t_beside) fun u14 =>
          cal (f_X9_bits u14) fun u15 =>
          if u15 ≤ u13 then
            bnd (x3 + (1 : Int32)) fun x3_16 =>
            L_X9_fewest_22 t_knots t_beside k_7 n x1 x2 x3_16 t_rowed t_row
          else
            bnd x3 fun x2_17 =>
            bnd (x3 + (1 : Int32)) fun x3_18 =>
            L_X9_fewest_22 t_knots t_beside k_7 n x1 x2_17 x3_18 t_rowed t_row
      else
        bnd (x3 + (1 : Int32)) fun x3_9 =>
        L_X9_fewest_22 t_knots t_beside k_7 n x1 x2 x3_9 t_rowed t_row

set_option maxRecDepth 100000 in
set_option maxHeartbeats 1000000 in
theorem w_X9_fewest_22 (cA : Nat → ClassId) (q_t : Nat) (q_t_weight : Nat) (q_t_edge : Nat) (t_bags : Int32) (q_t_bag : Nat) (q_t_up : Nat) (q_t_least : Nat) (t_q : Int32) (q_t_factor : Nat) (q_t_pairFactor : Nat) (q_t_forbidden : Nat) (q_t_mayNot : Nat) (q_t_fixed : Nat) (q_t_state : Nat) (q_t_count : Nat) (q_t_best : Nat) (q_t_bests : Nat) (t_allCount : Int64) (t_allBest : Int64) (t_allBests : Int64) (q_t_beside : Nat) (q_t_row : Nat) (t_knots : Int32) (t_beside : Nat → Int32) {X : XT}  (C : Cx X cX9_fewest RX9 (some .int) cA 2 50 4) {kk nn : Nat} {BB : Option Value → va_W → Prop} (hk : kk ≤ (x_R X).cells ∧ nn ≤ (x_R X).slots) (F : Fx X BB kk nn) (r : Int32 × Int32 × (Nat → Int32)) (hB : BB (some (.int r.1)) [oB q_t 9 [.int t_knots, .ref q_t_weight, .ref q_t_beside, .ref q_t_edge, .int r.2.1, .ref q_t_row, .int t_bags, .ref q_t_bag, .ref q_t_up, .ref q_t_least, .int t_q, .ref q_t_factor, .ref q_t_pairFactor, .ref q_t_forbidden, .ref q_t_mayNot, .ref q_t_fixed, .ref q_t_state, .ref q_t_count, .ref q_t_best, .ref q_t_bests, .long t_allCount, .long t_allBest, .long t_allBests], aI cA q_t_beside 14 t_beside, aI cA q_t_row 14 r.2.2]) (k_7 : Int32 → Int32 → (Nat → Int32) → Option (Int32 × Int32 × (Nat → Int32))) (h_7 : ∀ (x1 : Int32) (t_rowed : Int32) (t_row : Nat → Int32), k_7 x1 t_rowed t_row = some r → Go X 4 kk nn 7 [oB q_t 9 [.int t_knots, .ref q_t_weight, .ref q_t_beside, .ref q_t_edge, .int t_rowed, .ref q_t_row, .int t_bags, .ref q_t_bag, .ref q_t_up, .ref q_t_least, .int t_q, .ref q_t_factor, .ref q_t_pairFactor, .ref q_t_forbidden, .ref q_t_mayNot, .ref q_t_fixed, .ref q_t_state, .ref q_t_count, .ref q_t_best, .ref q_t_bests, .long t_allCount, .long t_allBest, .long t_allBests], aI cA q_t_beside 14 t_beside, aI cA q_t_row 14 t_row] [(0, .ref q_t), (1, .int x1)] []) : ∀ (n : Nat) (x1 : Int32) (x2 : Int32) (x3 : Int32) (t_rowed : Int32) (t_row : Nat → Int32), L_X9_fewest_22 t_knots t_beside k_7 n x1 x2 x3 t_rowed t_row = some r → Go X 4 kk nn 22 [oB q_t 9 [.int t_knots, .ref q_t_weight, .ref q_t_beside, .ref q_t_edge, .int t_rowed, .ref q_t_row, .int t_bags, .ref q_t_bag, .ref q_t_up, .ref q_t_least, .int t_q, .ref q_t_factor, .ref q_t_pairFactor, .ref q_t_forbidden, .ref q_t_mayNot, .ref q_t_fixed, .ref q_t_state, .ref q_t_count, .ref q_t_best, .ref q_t_bests, .long t_allCount, .long t_allBest, .long t_allBests], aI cA q_t_beside 14 t_beside, aI cA q_t_row 14 t_row] [(0, .ref q_t), (1, .int x1), (2, .int x2), (3, .int x3)] [] := by
  intro n
  induction n with
  | zero => intro x1 x2 x3 t_rowed t_row hf; exact no_some hf
  | succ n ih =>
    intro x1 x2 x3 t_rowed t_row hf
    rw [L_X9_fewest_22] at hf
    refine g_iload_n C 22 3 dX9_fewest_22 rfl rfl ?_
    refine g_aload_n C 23 0 dX9_fewest_23 rfl rfl ?_
    refine g_get C 24 0 0 dX9_fewest_24 inX9 rfl rfl (by decide) kw_339 rfl ?_
    refine g_icmp_ge C 27 73 dX9_fewest_27 (by decide) hf (fun hf => ?_) (fun hf => ?_)
    · refine g_aload_n C 73 0 dX9_fewest_73 rfl rfl ?_
      refine g_get C 74 0 5 dX9_fewest_74 inX9 rfl rfl (by decide) kw_358 rfl ?_
      refine g_aload_n C 77 0 dX9_fewest_77 rfl rfl ?_
      refine g_get C 78 0 4 dX9_fewest_78 inX9 rfl rfl (by decide) kw_347 rfl ?_
      refine g_iload_n C 81 2 dX9_fewest_81 rfl rfl ?_
      refine g_iast C 82 2 (fun z => [oB q_t 9 [.int t_knots, .ref q_t_weight, .ref q_t_beside, .ref q_t_edge, .int t_rowed, .ref q_t_row, .int t_bags, .ref q_t_bag, .ref q_t_up, .ref q_t_least, .int t_q, .ref q_t_factor, .ref q_t_pairFactor, .ref q_t_forbidden, .ref q_t_mayNot, .ref q_t_fixed, .ref q_t_state, .ref q_t_count, .ref q_t_best, .ref q_t_bests, .long t_allCount, .long t_allBest, .long t_allBests], aI cA q_t_beside 14 t_beside, aI cA q_t_row 14 z]) dX9_fewest_82 rfl (fun _ => rfl) hf (fun t_row_6 hf => ?_)
      refine g_aload_n C 83 0 dX9_fewest_83 rfl rfl ?_
      refine g_dup C 84 dX9_fewest_84 rfl ?_
      refine g_get C 85 0 4 dX9_fewest_85 inX9 rfl rfl (by decide) kw_347 rfl ?_
      refine g_iconst C 88 (1 : Int32) dX9_fewest_88 (by decide) ?_
      refine g_iadd C 89 dX9_fewest_89 ?_
      refine g_puti C 90 0 4 tyX9 (fun z => [oB q_t 9 [.int t_knots, .ref q_t_weight, .ref q_t_beside, .ref q_t_edge, .int z, .ref q_t_row, .int t_bags, .ref q_t_bag, .ref q_t_up, .ref q_t_least, .int t_q, .ref q_t_factor, .ref q_t_pairFactor, .ref q_t_forbidden, .ref q_t_mayNot, .ref q_t_fixed, .ref q_t_state, .ref q_t_count, .ref q_t_best, .ref q_t_bests, .long t_allCount, .long t_allBest, .long t_allBests], aI cA q_t_beside 14 t_beside, aI cA q_t_row 14 t_row_6]) dX9_fewest_90 inX9 tyX9_ok nmX9 rfl rfl (by decide) kw_347 rfl rfl (Nat.le_of_ble_eq_true rfl) (fun _ => rfl) hf (fun t_rowed_7 hf => ?_)
      refine g_iload_n C 93 1 dX9_fewest_93 rfl rfl ?_
      refine g_iconst C 94 (1 : Int32) dX9_fewest_94 (by decide) ?_
      refine g_iload_n C 95 2 dX9_fewest_95 rfl rfl ?_
      refine g_ishl C 96 dX9_fewest_96 ?_
      refine g_ior C 97 dX9_fewest_97 ?_
      refine g_istore_n C 98 (fun z => [(1, .int z), (0, .ref q_t), (2, .int x2), (3, .int x3)]) dX9_fewest_98 rfl (by decide) (fun _ => rfl) hf (fun x1_8 hf => ?_)
      refine g_goto C 99 7 dX9_fewest_99 (by decide) ?_
      refine g_lv [1, 0] rfl ?_
      exact h_7 x1_8 t_rowed_7 t_row_6 hf
    · refine g_iload_n C 30 1 dX9_fewest_30 rfl rfl ?_
      refine g_iload_n C 31 3 dX9_fewest_31 rfl rfl ?_
      refine g_ishr C 32 dX9_fewest_32 ?_
      refine g_iconst C 33 (1 : Int32) dX9_fewest_33 (by decide) ?_
      refine g_iand C 34 dX9_fewest_34 ?_
      refine g_if_ne C 35 67 dX9_fewest_35 (by decide) hf (fun hf => ?_) (fun hf => ?_)
      · refine g_iinc C 67 3 (v := x3 + (1 : Int32)) (fun z => [(3, .int z), (0, .ref q_t), (1, .int x1), (2, .int x2)]) dX9_fewest_67 rfl rfl (by decide) (fun _ => rfl) hf (fun x3_9 hf => ?_)
        refine g_goto C 70 22 dX9_fewest_70 (by decide) ?_
        refine g_lv [1, 2, 3, 0] rfl ?_
        exact ih x1 x2 x3_9 t_rowed t_row hf
      · refine g_iload_n C 38 2 dX9_fewest_38 rfl rfl ?_
        refine g_if_lt C 39 65 dX9_fewest_39 (by decide) hf (fun hf => ?_) (fun hf => ?_)
        · refine g_iload_n C 65 3 dX9_fewest_65 rfl rfl ?_
          refine g_istore_n C 66 (fun z => [(2, .int z), (0, .ref q_t), (1, .int x1), (3, .int x3)]) dX9_fewest_66 rfl (by decide) (fun _ => rfl) hf (fun x2_10 hf => ?_)
          refine g_iinc C 67 3 (v := x3 + (1 : Int32)) (fun z => [(3, .int z), (2, .int x2_10), (0, .ref q_t), (1, .int x1)]) dX9_fewest_67 rfl rfl (by decide) (fun _ => rfl) hf (fun x3_11 hf => ?_)
          refine g_goto C 70 22 dX9_fewest_70 (by decide) ?_
          refine g_lv [2, 3, 1, 0] rfl ?_
          exact ih x1 x2_10 x3_11 t_rowed t_row hf
        · refine g_aload_n C 42 0 dX9_fewest_42 rfl rfl ?_
          refine g_aload_n C 43 0 dX9_fewest_43 rfl rfl ?_
          refine g_iload_n C 44 1 dX9_fewest_44 rfl rfl ?_
          refine g_iload_n C 45 3 dX9_fewest_45 rfl rfl ?_
          obtain ⟨u12, hu12, hf⟩ := cal_some hf
          refine g_callV1 C 46 [0, 1] 0 (rest := [.ref q_t]) dX9_fewest_46 (c_X9_around (x_l X) cA q_t t_knots q_t_weight q_t_edge t_rowed q_t_row t_bags q_t_bag q_t_up q_t_least t_q q_t_factor q_t_pairFactor q_t_forbidden q_t_mayNot q_t_fixed q_t_state q_t_count q_t_best q_t_bests t_allCount t_allBest t_allBests q_t_beside t_beside x1 x3 u12 hu12) kw_363 kw_364 kw_365 kw_343 kw_366 ok_X9_around ⟨Nat.le_of_ble_eq_true rfl, Nat.le_of_ble_eq_true rfl⟩ hk ⟨rfl, rfl⟩ rfl rfl rfl rfl rfl (Nat.le_of_ble_eq_true rfl) rfl (ws' := [oB q_t 9 [.int t_knots, .ref q_t_weight, .ref q_t_beside, .ref q_t_edge, .int t_rowed, .ref q_t_row, .int t_bags, .ref q_t_bag, .ref q_t_up, .ref q_t_least, .int t_q, .ref q_t_factor, .ref q_t_pairFactor, .ref q_t_forbidden, .ref q_t_mayNot, .ref q_t_fixed, .ref q_t_state, .ref q_t_count, .ref q_t_best, .ref q_t_bests, .long t_allCount, .long t_allBest, .long t_allBests], aI cA q_t_beside 14 t_beside, aI cA q_t_row 14 t_row]) (st' := [.int u12, .ref q_t]) (N0 := 3) rfl [some 0, some 1, none] (by decide) rfl rfl ?_
          obtain ⟨u13, hu13, hf⟩ := cal_some hf
          refine g_callV1 C 49 [] 0 (rest := []) dX9_fewest_49 (c_X9_bits (x_l X) cA q_t u12 u13 hu13) kw_367 kw_368 kw_369 kw_343 kw_370 ok_X9_bits ⟨Nat.le_of_ble_eq_true rfl, Nat.le_of_ble_eq_true rfl⟩ hk ⟨rfl, rfl⟩ rfl rfl rfl rfl rfl (Nat.le_of_ble_eq_true rfl) rfl (ws' := [oB q_t 9 [.int t_knots, .ref q_t_weight, .ref q_t_beside, .ref q_t_edge, .int t_rowed, .ref q_t_row, .int t_bags, .ref q_t_bag, .ref q_t_up, .ref q_t_least, .int t_q, .ref q_t_factor, .ref q_t_pairFactor, .ref q_t_forbidden, .ref q_t_mayNot, .ref q_t_fixed, .ref q_t_state, .ref q_t_count, .ref q_t_best, .ref q_t_bests, .long t_allCount, .long t_allBest, .long t_allBests], aI cA q_t_beside 14 t_beside, aI cA q_t_row 14 t_row]) (st' := [.int u13]) (N0 := 3) rfl [none, none, none] (by decide) rfl rfl ?_
          refine g_aload_n C 52 0 dX9_fewest_52 rfl rfl ?_
          refine g_aload_n C 53 0 dX9_fewest_53 rfl rfl ?_
          refine g_iload_n C 54 1 dX9_fewest_54 rfl rfl ?_
          refine g_iload_n C 55 2 dX9_fewest_55 rfl rfl ?_
          obtain ⟨u14, hu14, hf⟩ := cal_some hf
          refine g_callV1 C 56 [0, 1] 0 (rest := [.ref q_t, .int u13]) dX9_fewest_56 (c_X9_around (x_l X) cA q_t t_knots q_t_weight q_t_edge t_rowed q_t_row t_bags q_t_bag q_t_up q_t_least t_q q_t_factor q_t_pairFactor q_t_forbidden q_t_mayNot q_t_fixed q_t_state q_t_count q_t_best q_t_bests t_allCount t_allBest t_allBests q_t_beside t_beside x1 x2 u14 hu14) kw_363 kw_364 kw_365 kw_343 kw_366 ok_X9_around ⟨Nat.le_of_ble_eq_true rfl, Nat.le_of_ble_eq_true rfl⟩ hk ⟨rfl, rfl⟩ rfl rfl rfl rfl rfl (Nat.le_of_ble_eq_true rfl) rfl (ws' := [oB q_t 9 [.int t_knots, .ref q_t_weight, .ref q_t_beside, .ref q_t_edge, .int t_rowed, .ref q_t_row, .int t_bags, .ref q_t_bag, .ref q_t_up, .ref q_t_least, .int t_q, .ref q_t_factor, .ref q_t_pairFactor, .ref q_t_forbidden, .ref q_t_mayNot, .ref q_t_fixed, .ref q_t_state, .ref q_t_count, .ref q_t_best, .ref q_t_bests, .long t_allCount, .long t_allBest, .long t_allBests], aI cA q_t_beside 14 t_beside, aI cA q_t_row 14 t_row]) (st' := [.int u14, .ref q_t, .int u13]) (N0 := 3) rfl [some 0, some 1, none] (by decide) rfl rfl ?_
          obtain ⟨u15, hu15, hf⟩ := cal_some hf
          refine g_callV1 C 59 [] 0 (rest := [.int u13]) dX9_fewest_59 (c_X9_bits (x_l X) cA q_t u14 u15 hu15) kw_367 kw_368 kw_369 kw_343 kw_370 ok_X9_bits ⟨Nat.le_of_ble_eq_true rfl, Nat.le_of_ble_eq_true rfl⟩ hk ⟨rfl, rfl⟩ rfl rfl rfl rfl rfl (Nat.le_of_ble_eq_true rfl) rfl (ws' := [oB q_t 9 [.int t_knots, .ref q_t_weight, .ref q_t_beside, .ref q_t_edge, .int t_rowed, .ref q_t_row, .int t_bags, .ref q_t_bag, .ref q_t_up, .ref q_t_least, .int t_q, .ref q_t_factor, .ref q_t_pairFactor, .ref q_t_forbidden, .ref q_t_mayNot, .ref q_t_fixed, .ref q_t_state, .ref q_t_count, .ref q_t_best, .ref q_t_bests, .long t_allCount, .long t_allBest, .long t_allBests], aI cA q_t_beside 14 t_beside, aI cA q_t_row 14 t_row]) (st' := [.int u15, .int u13]) (N0 := 3) rfl [none, none, none] (by decide) rfl rfl ?_
          refine g_icmp_ge C 62 67 dX9_fewest_62 (by decide) hf (fun hf => ?_) (fun hf => ?_)
          · refine g_iinc C 67 3 (v := x3 + (1 : Int32)) (fun z => [(3, .int z), (0, .ref q_t), (1, .int x1), (2, .int x2)]) dX9_fewest_67 rfl rfl (by decide) (fun _ => rfl) hf (fun x3_16 hf => ?_)
            refine g_goto C 70 22 dX9_fewest_70 (by decide) ?_
            refine g_lv [1, 2, 3, 0] rfl ?_
            exact ih x1 x2 x3_16 t_rowed t_row hf
          · refine g_iload_n C 65 3 dX9_fewest_65 rfl rfl ?_
            refine g_istore_n C 66 (fun z => [(2, .int z), (0, .ref q_t), (1, .int x1), (3, .int x3)]) dX9_fewest_66 rfl (by decide) (fun _ => rfl) hf (fun x2_17 hf => ?_)
            refine g_iinc C 67 3 (v := x3 + (1 : Int32)) (fun z => [(3, .int z), (2, .int x2_17), (0, .ref q_t), (1, .int x1)]) dX9_fewest_67 rfl rfl (by decide) (fun _ => rfl) hf (fun x3_18 hf => ?_)
            refine g_goto C 70 22 dX9_fewest_70 (by decide) ?_
            refine g_lv [2, 3, 1, 0] rfl ?_
            exact ih x1 x2_17 x3_18 t_rowed t_row hf
def L_X9_fewest_7 (t_knots : Int32) (t_beside : Nat → Int32)  : Nat → Int32 → Int32 → (Nat → Int32) → Option (Int32 × Int32 × (Nat → Int32))
  | 0, _, _, _ => none
  | n + 1, x1, t_rowed, t_row =>
    if t_knots ≤ t_rowed then
      cal (f_X9_rowWidth t_knots t_rowed t_beside t_row) fun u3 =>
      some (u3, t_rowed, t_row)
    else
      bnd (-1 : Int32) fun x2_4 =>
      bnd (0 : Int32) fun x3_5 =>
      L_X9_fewest_22 t_knots t_beside (fun y0 y1 y2 => L_X9_fewest_7 t_knots t_beside n y0 y1 y2) NN x1 x2_4 x3_5 t_rowed t_row

set_option maxRecDepth 100000 in
set_option maxHeartbeats 1000000 in
theorem w_X9_fewest_7 (cA : Nat → ClassId) (q_t : Nat) (q_t_weight : Nat) (q_t_edge : Nat) (t_bags : Int32) (q_t_bag : Nat) (q_t_up : Nat) (q_t_least : Nat) (t_q : Int32) (q_t_factor : Nat) (q_t_pairFactor : Nat) (q_t_forbidden : Nat) (q_t_mayNot : Nat) (q_t_fixed : Nat) (q_t_state : Nat) (q_t_count : Nat) (q_t_best : Nat) (q_t_bests : Nat) (t_allCount : Int64) (t_allBest : Int64) (t_allBests : Int64) (q_t_beside : Nat) (q_t_row : Nat) (t_knots : Int32) (t_beside : Nat → Int32) {X : XT}  (C : Cx X cX9_fewest RX9 (some .int) cA 2 50 4) {kk nn : Nat} {BB : Option Value → va_W → Prop} (hk : kk ≤ (x_R X).cells ∧ nn ≤ (x_R X).slots) (F : Fx X BB kk nn) (r : Int32 × Int32 × (Nat → Int32)) (hB : BB (some (.int r.1)) [oB q_t 9 [.int t_knots, .ref q_t_weight, .ref q_t_beside, .ref q_t_edge, .int r.2.1, .ref q_t_row, .int t_bags, .ref q_t_bag, .ref q_t_up, .ref q_t_least, .int t_q, .ref q_t_factor, .ref q_t_pairFactor, .ref q_t_forbidden, .ref q_t_mayNot, .ref q_t_fixed, .ref q_t_state, .ref q_t_count, .ref q_t_best, .ref q_t_bests, .long t_allCount, .long t_allBest, .long t_allBests], aI cA q_t_beside 14 t_beside, aI cA q_t_row 14 r.2.2])  : ∀ (n : Nat) (x1 : Int32) (t_rowed : Int32) (t_row : Nat → Int32), L_X9_fewest_7 t_knots t_beside n x1 t_rowed t_row = some r → Go X 4 kk nn 7 [oB q_t 9 [.int t_knots, .ref q_t_weight, .ref q_t_beside, .ref q_t_edge, .int t_rowed, .ref q_t_row, .int t_bags, .ref q_t_bag, .ref q_t_up, .ref q_t_least, .int t_q, .ref q_t_factor, .ref q_t_pairFactor, .ref q_t_forbidden, .ref q_t_mayNot, .ref q_t_fixed, .ref q_t_state, .ref q_t_count, .ref q_t_best, .ref q_t_bests, .long t_allCount, .long t_allBest, .long t_allBests], aI cA q_t_beside 14 t_beside, aI cA q_t_row 14 t_row] [(0, .ref q_t), (1, .int x1)] [] := by
  intro n
  induction n with
  | zero => intro x1 t_rowed t_row hf; exact no_some hf
  | succ n ih =>
    intro x1 t_rowed t_row hf
    rw [L_X9_fewest_7] at hf
    refine g_aload_n C 7 0 dX9_fewest_7 rfl rfl ?_
    refine g_get C 8 0 4 dX9_fewest_8 inX9 rfl rfl (by decide) kw_347 rfl ?_
    refine g_aload_n C 11 0 dX9_fewest_11 rfl rfl ?_
    refine g_get C 12 0 0 dX9_fewest_12 inX9 rfl rfl (by decide) kw_339 rfl ?_
    refine g_icmp_ge C 15 102 dX9_fewest_15 (by decide) hf (fun hf => ?_) (fun hf => ?_)
    · refine g_aload_n C 102 0 dX9_fewest_102 rfl rfl ?_
      obtain ⟨u3, hu3, hf⟩ := cal_some hf
      refine g_callV1 C 103 [0, 1, 2] 0 (rest := []) dX9_fewest_103 (c_X9_rowWidth (x_l X) cA q_t t_knots q_t_weight q_t_edge t_rowed t_bags q_t_bag q_t_up q_t_least t_q q_t_factor q_t_pairFactor q_t_forbidden q_t_mayNot q_t_fixed q_t_state q_t_count q_t_best q_t_bests t_allCount t_allBest t_allBests q_t_beside t_beside q_t_row t_row u3 hu3) kw_381 kw_382 kw_383 kw_343 kw_384 ok_X9_rowWidth ⟨Nat.le_of_ble_eq_true rfl, Nat.le_of_ble_eq_true rfl⟩ hk ⟨rfl, rfl⟩ rfl rfl rfl rfl rfl (Nat.le_of_ble_eq_true rfl) rfl (ws' := [oB q_t 9 [.int t_knots, .ref q_t_weight, .ref q_t_beside, .ref q_t_edge, .int t_rowed, .ref q_t_row, .int t_bags, .ref q_t_bag, .ref q_t_up, .ref q_t_least, .int t_q, .ref q_t_factor, .ref q_t_pairFactor, .ref q_t_forbidden, .ref q_t_mayNot, .ref q_t_fixed, .ref q_t_state, .ref q_t_count, .ref q_t_best, .ref q_t_bests, .long t_allCount, .long t_allBest, .long t_allBests], aI cA q_t_beside 14 t_beside, aI cA q_t_row 14 t_row]) (st' := [.int u3]) (N0 := 3) rfl [some 0, some 1, some 2] (by decide) rfl rfl ?_
      cases hf
      exact g_iret C 106 dX9_fewest_106 F hB
    · refine g_iconst C 18 (-1 : Int32) dX9_fewest_18 (by decide) ?_
      refine g_istore_n C 19 (fun z => [(2, .int z), (0, .ref q_t), (1, .int x1)]) dX9_fewest_19 rfl (by decide) (fun _ => rfl) hf (fun x2_4 hf => ?_)
      refine g_iconst C 20 (0 : Int32) dX9_fewest_20 (by decide) ?_
      refine g_istore_n C 21 (fun z => [(3, .int z), (2, .int x2_4), (0, .ref q_t), (1, .int x1)]) dX9_fewest_21 rfl (by decide) (fun _ => rfl) hf (fun x3_5 hf => ?_)
      refine g_lv [2, 3, 1, 0] rfl ?_
      exact w_X9_fewest_22 cA q_t q_t_weight q_t_edge t_bags q_t_bag q_t_up q_t_least t_q q_t_factor q_t_pairFactor q_t_forbidden q_t_mayNot q_t_fixed q_t_state q_t_count q_t_best q_t_bests t_allCount t_allBest t_allBests q_t_beside q_t_row t_knots t_beside C hk F r hB (fun y0 y1 y2 => L_X9_fewest_7 t_knots t_beside n y0 y1 y2) (fun y0 y1 y2 hf => ih y0 y1 y2 hf) NN x1 x2_4 x3_5 t_rowed t_row hf
def f_X9_fewest (t_knots : Int32) (t_rowed : Int32) (t_beside : Nat → Int32) (t_row : Nat → Int32) : Option (Int32 × Int32 × (Nat → Int32)) :=
  bnd (0 : Int32) fun t_rowed_1 =>
  bnd (0 : Int32) fun x1_2 =>
  L_X9_fewest_7 t_knots t_beside NN x1_2 t_rowed_1 t_row

set_option maxRecDepth 100000 in
set_option maxHeartbeats 1000000 in
theorem c_X9_fewest (l : Launch) (cA : Nat → ClassId) (q_t : Nat) (t_knots : Int32) (q_t_weight : Nat) (q_t_edge : Nat) (t_rowed : Int32) (t_bags : Int32) (q_t_bag : Nat) (q_t_up : Nat) (q_t_least : Nat) (t_q : Int32) (q_t_factor : Nat) (q_t_pairFactor : Nat) (q_t_forbidden : Nat) (q_t_mayNot : Nat) (q_t_fixed : Nat) (q_t_state : Nat) (q_t_count : Nat) (q_t_best : Nat) (q_t_bests : Nat) (t_allCount : Int64) (t_allBest : Int64) (t_allBests : Int64) (q_t_beside : Nat) (t_beside : Nat → Int32) (q_t_row : Nat) (t_row : Nat → Int32)   (r : Int32 × Int32 × (Nat → Int32)) (hf : f_X9_fewest t_knots t_rowed t_beside t_row = some r) : MT l cA yX9_fewest cX9_fewest 4 (some .int) ({ frames := 2, cells := 0, slots := 0, locals := 50 } : Room) [.ref q_t] [oB q_t 9 [.int t_knots, .ref q_t_weight, .ref q_t_beside, .ref q_t_edge, .int t_rowed, .ref q_t_row, .int t_bags, .ref q_t_bag, .ref q_t_up, .ref q_t_least, .int t_q, .ref q_t_factor, .ref q_t_pairFactor, .ref q_t_forbidden, .ref q_t_mayNot, .ref q_t_fixed, .ref q_t_state, .ref q_t_count, .ref q_t_best, .ref q_t_bests, .long t_allCount, .long t_allBest, .long t_allBests], aI cA q_t_beside 14 t_beside, aI cA q_t_row 14 t_row] (sB (some (.int r.1)) [oB q_t 9 [.int t_knots, .ref q_t_weight, .ref q_t_beside, .ref q_t_edge, .int r.2.1, .ref q_t_row, .int t_bags, .ref q_t_bag, .ref q_t_up, .ref q_t_least, .int t_q, .ref q_t_factor, .ref q_t_pairFactor, .ref q_t_forbidden, .ref q_t_mayNot, .ref q_t_fixed, .ref q_t_state, .ref q_t_count, .ref q_t_best, .ref q_t_bests, .long t_allCount, .long t_allBest, .long t_allBests], aI cA q_t_beside 14 t_beside, aI cA q_t_row 14 r.2.2]) := by
  refine MT.of (by decide) (Nat.le_of_ble_eq_true rfl) ?_
  intro X hXl C F hnm hrc hrs
  subst hXl
  have hk : 0 ≤ (x_R X).cells ∧ 0 ≤ (x_R X).slots := ⟨Nat.zero_le _, Nat.zero_le _⟩
  have hB : (sB (some (.int r.1)) [oB q_t 9 [.int t_knots, .ref q_t_weight, .ref q_t_beside, .ref q_t_edge, .int r.2.1, .ref q_t_row, .int t_bags, .ref q_t_bag, .ref q_t_up, .ref q_t_least, .int t_q, .ref q_t_factor, .ref q_t_pairFactor, .ref q_t_forbidden, .ref q_t_mayNot, .ref q_t_fixed, .ref q_t_state, .ref q_t_count, .ref q_t_best, .ref q_t_bests, .long t_allCount, .long t_allBest, .long t_allBests], aI cA q_t_beside 14 t_beside, aI cA q_t_row 14 r.2.2]) (some (.int r.1)) [oB q_t 9 [.int t_knots, .ref q_t_weight, .ref q_t_beside, .ref q_t_edge, .int r.2.1, .ref q_t_row, .int t_bags, .ref q_t_bag, .ref q_t_up, .ref q_t_least, .int t_q, .ref q_t_factor, .ref q_t_pairFactor, .ref q_t_forbidden, .ref q_t_mayNot, .ref q_t_fixed, .ref q_t_state, .ref q_t_count, .ref q_t_best, .ref q_t_bests, .long t_allCount, .long t_allBest, .long t_allBests], aI cA q_t_beside 14 t_beside, aI cA q_t_row 14 r.2.2] := ⟨rfl, rfl⟩
  unfold f_X9_fewest at hf
  have C : Cx X cX9_fewest RX9 (some .int) cA 2 50 4 := C
  show Go X 4 0 0 0 [oB q_t 9 [.int t_knots, .ref q_t_weight, .ref q_t_beside, .ref q_t_edge, .int t_rowed, .ref q_t_row, .int t_bags, .ref q_t_bag, .ref q_t_up, .ref q_t_least, .int t_q, .ref q_t_factor, .ref q_t_pairFactor, .ref q_t_forbidden, .ref q_t_mayNot, .ref q_t_fixed, .ref q_t_state, .ref q_t_count, .ref q_t_best, .ref q_t_bests, .long t_allCount, .long t_allBest, .long t_allBests], aI cA q_t_beside 14 t_beside, aI cA q_t_row 14 t_row] [(0, .ref q_t)] []
  refine g_aload_n C 0 0 dX9_fewest_0 rfl rfl ?_
  refine g_iconst C 1 (0 : Int32) dX9_fewest_1 (by decide) ?_
  refine g_puti C 2 0 4 tyX9 (fun z => [oB q_t 9 [.int t_knots, .ref q_t_weight, .ref q_t_beside, .ref q_t_edge, .int z, .ref q_t_row, .int t_bags, .ref q_t_bag, .ref q_t_up, .ref q_t_least, .int t_q, .ref q_t_factor, .ref q_t_pairFactor, .ref q_t_forbidden, .ref q_t_mayNot, .ref q_t_fixed, .ref q_t_state, .ref q_t_count, .ref q_t_best, .ref q_t_bests, .long t_allCount, .long t_allBest, .long t_allBests], aI cA q_t_beside 14 t_beside, aI cA q_t_row 14 t_row]) dX9_fewest_2 inX9 tyX9_ok nmX9 rfl rfl (by decide) kw_347 rfl rfl (Nat.le_of_ble_eq_true rfl) (fun _ => rfl) hf (fun t_rowed_1 hf => ?_)
  refine g_iconst C 5 (0 : Int32) dX9_fewest_5 (by decide) ?_
  refine g_istore_n C 6 (fun z => [(1, .int z), (0, .ref q_t)]) dX9_fewest_6 rfl (by decide) (fun _ => rfl) hf (fun x1_2 hf => ?_)
  refine g_lv [1, 0] rfl ?_
  exact w_X9_fewest_7 cA q_t q_t_weight q_t_edge t_bags q_t_bag q_t_up q_t_least t_q q_t_factor q_t_pairFactor q_t_forbidden q_t_mayNot q_t_fixed q_t_state q_t_count q_t_best q_t_bests t_allCount t_allBest t_allBests q_t_beside q_t_row t_knots t_beside C hk F r hB NN x1_2 t_rowed_1 t_row hf

def L_X9_least_152 (t_knots : Int32) (t_beside : Nat → Int32) (k_139 : Int32 → Int32 → Int32 → (Nat → Int32) → (Nat → Int32) → Option (Int32 × Int32 × (Nat → Int32) × (Nat → Int32))) : Nat → Int32 → Int32 → Int32 → Int32 → (Nat → Int32) → (Nat → Int32) → Option (Int32 × Int32 × (Nat → Int32) × (Nat → Int32))
  | 0, _, _, _, _, _, _ => none
  | n + 1, x1, x2, x3, t_rowed, t_row, t_least =>
    if ((x2 >>> (x3 &&& 31)) &&& (1 : Int32)) = (1 : Int32) then
      bnd (x3 + (1 : Int32)) fun x3_8 =>
      L_X9_least_152 t_knots t_beside k_139 n x1 x2 x3_8 t_rowed t_row t_least
    else
      cal (f_X9_around x2 x3 t_knots t_beside) fun u9 =>
      cal (f_X9_bits u9) fun u10 =>
      if x1 < u10 then
        bnd (x3 + (1 : Int32)) fun x3_11 =>
        L_X9_least_152 t_knots t_beside k_139 n x1 x2 x3_11 t_rowed t_row t_least
      else
        ldA t_least 16384 (x2 ||| ((1 : Int32) <<< (x3 &&& 31))) fun v12 =>
        if v12 ≤ x1 then
          stI t_row 14 t_rowed x3 fun t_row_13 =>
          bnd (t_rowed + (1 : Int32)) fun t_rowed_14 =>
          bnd (x2 ||| ((1 : Int32) <<< (x3 &&& 31))) fun x2_15 =>
          k_139 x1 x2_15 t_rowed_14 t_row_13 t_least
        else
          bnd (x3 + (1 : Int32)) fun x3_16 =>
          L_X9_least_152 t_knots t_beside k_139 n x1 x2 x3_16 t_rowed t_row t_least

set_option maxRecDepth 100000 in
set_option maxHeartbeats 1000000 in
theorem w_X9_least_152 (cA : Nat → ClassId) (q_t : Nat) (q_t_weight : Nat) (q_t_edge : Nat) (t_bags : Int32) (q_t_bag : Nat) (q_t_up : Nat) (t_q : Int32) (q_t_factor : Nat) (q_t_pairFactor : Nat) (q_t_forbidden : Nat) (q_t_mayNot : Nat) (q_t_fixed : Nat) (q_t_state : Nat) (q_t_count : Nat) (q_t_best : Nat) (q_t_bests : Nat) (t_allCount : Int64) (t_allBest : Int64) (t_allBests : Int64) (q_t_beside : Nat) (q_t_row : Nat) (q_t_least : Nat) (t_knots : Int32) (t_beside : Nat → Int32) {X : XT}  (C : Cx X cX9_least RX9 (some .int) cA 1 26 5) {kk nn : Nat} {BB : Option Value → va_W → Prop} (hk : kk ≤ (x_R X).cells ∧ nn ≤ (x_R X).slots) (F : Fx X BB kk nn) (r : Int32 × Int32 × (Nat → Int32) × (Nat → Int32)) (hB : BB (some (.int r.1)) [oB q_t 9 [.int t_knots, .ref q_t_weight, .ref q_t_beside, .ref q_t_edge, .int r.2.1, .ref q_t_row, .int t_bags, .ref q_t_bag, .ref q_t_up, .ref q_t_least, .int t_q, .ref q_t_factor, .ref q_t_pairFactor, .ref q_t_forbidden, .ref q_t_mayNot, .ref q_t_fixed, .ref q_t_state, .ref q_t_count, .ref q_t_best, .ref q_t_bests, .long t_allCount, .long t_allBest, .long t_allBests], aI cA q_t_beside 14 t_beside, aI cA q_t_row 14 r.2.2.1, aI cA q_t_least 16384 r.2.2.2]) (k_139 : Int32 → Int32 → Int32 → (Nat → Int32) → (Nat → Int32) → Option (Int32 × Int32 × (Nat → Int32) × (Nat → Int32))) (h_139 : ∀ (x1 : Int32) (x2 : Int32) (t_rowed : Int32) (t_row : Nat → Int32) (t_least : Nat → Int32), k_139 x1 x2 t_rowed t_row t_least = some r → Go X 5 kk nn 139 [oB q_t 9 [.int t_knots, .ref q_t_weight, .ref q_t_beside, .ref q_t_edge, .int t_rowed, .ref q_t_row, .int t_bags, .ref q_t_bag, .ref q_t_up, .ref q_t_least, .int t_q, .ref q_t_factor, .ref q_t_pairFactor, .ref q_t_forbidden, .ref q_t_mayNot, .ref q_t_fixed, .ref q_t_state, .ref q_t_count, .ref q_t_best, .ref q_t_bests, .long t_allCount, .long t_allBest, .long t_allBests], aI cA q_t_beside 14 t_beside, aI cA q_t_row 14 t_row, aI cA q_t_least 16384 t_least] [(0, .ref q_t), (1, .int x1), (2, .int x2)] []) : ∀ (n : Nat) (x1 : Int32) (x2 : Int32) (x3 : Int32) (t_rowed : Int32) (t_row : Nat → Int32) (t_least : Nat → Int32), L_X9_least_152 t_knots t_beside k_139 n x1 x2 x3 t_rowed t_row t_least = some r → Go X 5 kk nn 152 [oB q_t 9 [.int t_knots, .ref q_t_weight, .ref q_t_beside, .ref q_t_edge, .int t_rowed, .ref q_t_row, .int t_bags, .ref q_t_bag, .ref q_t_up, .ref q_t_least, .int t_q, .ref q_t_factor, .ref q_t_pairFactor, .ref q_t_forbidden, .ref q_t_mayNot, .ref q_t_fixed, .ref q_t_state, .ref q_t_count, .ref q_t_best, .ref q_t_bests, .long t_allCount, .long t_allBest, .long t_allBests], aI cA q_t_beside 14 t_beside, aI cA q_t_row 14 t_row, aI cA q_t_least 16384 t_least] [(0, .ref q_t), (1, .int x1), (2, .int x2), (3, .int x3)] [] := by
  intro n
  induction n with
  | zero => intro x1 x2 x3 t_rowed t_row t_least hf; exact no_some hf
  | succ n ih =>
    intro x1 x2 x3 t_rowed t_row t_least hf
    rw [L_X9_least_152] at hf
    refine g_iload_n C 152 2 dX9_least_152 rfl rfl ?_
    refine g_iload_n C 153 3 dX9_least_153 rfl rfl ?_
    refine g_ishr C 154 dX9_least_154 ?_
    refine g_iconst C 155 (1 : Int32) dX9_least_155 (by decide) ?_
    refine g_iand C 156 dX9_least_156 ?_
    refine g_iconst C 157 (1 : Int32) dX9_least_157 (by decide) ?_
    refine g_icmp_eq C 158 189 dX9_least_158 (by decide) hf (fun hf => ?_) (fun hf => ?_)
    · refine g_iinc C 189 3 (v := x3 + (1 : Int32)) (fun z => [(3, .int z), (0, .ref q_t), (1, .int x1), (2, .int x2)]) dX9_least_189 rfl rfl (by decide) (fun _ => rfl) hf (fun x3_8 hf => ?_)
      refine g_goto C 192 152 dX9_least_192 (by decide) ?_
      refine g_lv [1, 2, 3, 0] rfl ?_
      exact ih x1 x2 x3_8 t_rowed t_row t_least hf
    · refine g_aload_n C 161 0 dX9_least_161 rfl rfl ?_
      refine g_aload_n C 162 0 dX9_least_162 rfl rfl ?_
      refine g_iload_n C 163 2 dX9_least_163 rfl rfl ?_
      refine g_iload_n C 164 3 dX9_least_164 rfl rfl ?_
      obtain ⟨u9, hu9, hf⟩ := cal_some hf
      refine g_callV1 C 165 [0, 1] 0 (rest := [.ref q_t]) dX9_least_165 (c_X9_around (x_l X) cA q_t t_knots q_t_weight q_t_edge t_rowed q_t_row t_bags q_t_bag q_t_up q_t_least t_q q_t_factor q_t_pairFactor q_t_forbidden q_t_mayNot q_t_fixed q_t_state q_t_count q_t_best q_t_bests t_allCount t_allBest t_allBests q_t_beside t_beside x2 x3 u9 hu9) kw_363 kw_364 kw_365 kw_343 kw_366 ok_X9_around ⟨Nat.le_of_ble_eq_true rfl, Nat.le_of_ble_eq_true rfl⟩ hk ⟨rfl, rfl⟩ rfl rfl rfl rfl rfl (Nat.le_of_ble_eq_true rfl) rfl (ws' := [oB q_t 9 [.int t_knots, .ref q_t_weight, .ref q_t_beside, .ref q_t_edge, .int t_rowed, .ref q_t_row, .int t_bags, .ref q_t_bag, .ref q_t_up, .ref q_t_least, .int t_q, .ref q_t_factor, .ref q_t_pairFactor, .ref q_t_forbidden, .ref q_t_mayNot, .ref q_t_fixed, .ref q_t_state, .ref q_t_count, .ref q_t_best, .ref q_t_bests, .long t_allCount, .long t_allBest, .long t_allBests], aI cA q_t_beside 14 t_beside, aI cA q_t_row 14 t_row, aI cA q_t_least 16384 t_least]) (st' := [.int u9, .ref q_t]) (N0 := 4) rfl [some 0, some 1, none, none] (by decide) rfl rfl ?_
      obtain ⟨u10, hu10, hf⟩ := cal_some hf
      refine g_callV1 C 168 [] 0 (rest := []) dX9_least_168 (c_X9_bits (x_l X) cA q_t u9 u10 hu10) kw_367 kw_368 kw_369 kw_343 kw_370 ok_X9_bits ⟨Nat.le_of_ble_eq_true rfl, Nat.le_of_ble_eq_true rfl⟩ hk ⟨rfl, rfl⟩ rfl rfl rfl rfl rfl (Nat.le_of_ble_eq_true rfl) rfl (ws' := [oB q_t 9 [.int t_knots, .ref q_t_weight, .ref q_t_beside, .ref q_t_edge, .int t_rowed, .ref q_t_row, .int t_bags, .ref q_t_bag, .ref q_t_up, .ref q_t_least, .int t_q, .ref q_t_factor, .ref q_t_pairFactor, .ref q_t_forbidden, .ref q_t_mayNot, .ref q_t_fixed, .ref q_t_state, .ref q_t_count, .ref q_t_best, .ref q_t_bests, .long t_allCount, .long t_allBest, .long t_allBests], aI cA q_t_beside 14 t_beside, aI cA q_t_row 14 t_row, aI cA q_t_least 16384 t_least]) (st' := [.int u10]) (N0 := 4) rfl [none, none, none, none] (by decide) rfl rfl ?_
      refine g_iload_n C 171 1 dX9_least_171 rfl rfl ?_
      refine g_icmp_gt C 172 189 dX9_least_172 (by decide) hf (fun hf => ?_) (fun hf => ?_)
      · refine g_iinc C 189 3 (v := x3 + (1 : Int32)) (fun z => [(3, .int z), (0, .ref q_t), (1, .int x1), (2, .int x2)]) dX9_least_189 rfl rfl (by decide) (fun _ => rfl) hf (fun x3_11 hf => ?_)
        refine g_goto C 192 152 dX9_least_192 (by decide) ?_
        refine g_lv [1, 2, 3, 0] rfl ?_
        exact ih x1 x2 x3_11 t_rowed t_row t_least hf
      · refine g_aload_n C 175 0 dX9_least_175 rfl rfl ?_
        refine g_get C 176 0 9 dX9_least_176 inX9 rfl rfl (by decide) kw_389 rfl ?_
        refine g_iload_n C 179 2 dX9_least_179 rfl rfl ?_
        refine g_iconst C 180 (1 : Int32) dX9_least_180 (by decide) ?_
        refine g_iload_n C 181 3 dX9_least_181 rfl rfl ?_
        refine g_ishl C 182 dX9_least_182 ?_
        refine g_ior C 183 dX9_least_183 ?_
        refine g_iald C 184 3 dX9_least_184 rfl hf (fun v12 hf => ?_)
        refine g_iload_n C 185 1 dX9_least_185 rfl rfl ?_
        refine g_icmp_le C 186 195 dX9_least_186 (by decide) hf (fun hf => ?_) (fun hf => ?_)
        · refine g_aload_n C 195 0 dX9_least_195 rfl rfl ?_
          refine g_get C 196 0 5 dX9_least_196 inX9 rfl rfl (by decide) kw_358 rfl ?_
          refine g_aload_n C 199 0 dX9_least_199 rfl rfl ?_
          refine g_get C 200 0 4 dX9_least_200 inX9 rfl rfl (by decide) kw_347 rfl ?_
          refine g_iload_n C 203 3 dX9_least_203 rfl rfl ?_
          refine g_iast C 204 2 (fun z => [oB q_t 9 [.int t_knots, .ref q_t_weight, .ref q_t_beside, .ref q_t_edge, .int t_rowed, .ref q_t_row, .int t_bags, .ref q_t_bag, .ref q_t_up, .ref q_t_least, .int t_q, .ref q_t_factor, .ref q_t_pairFactor, .ref q_t_forbidden, .ref q_t_mayNot, .ref q_t_fixed, .ref q_t_state, .ref q_t_count, .ref q_t_best, .ref q_t_bests, .long t_allCount, .long t_allBest, .long t_allBests], aI cA q_t_beside 14 t_beside, aI cA q_t_row 14 z, aI cA q_t_least 16384 t_least]) dX9_least_204 rfl (fun _ => rfl) hf (fun t_row_13 hf => ?_)
          refine g_aload_n C 205 0 dX9_least_205 rfl rfl ?_
          refine g_dup C 206 dX9_least_206 rfl ?_
          refine g_get C 207 0 4 dX9_least_207 inX9 rfl rfl (by decide) kw_347 rfl ?_
          refine g_iconst C 210 (1 : Int32) dX9_least_210 (by decide) ?_
          refine g_iadd C 211 dX9_least_211 ?_
          refine g_puti C 212 0 4 tyX9 (fun z => [oB q_t 9 [.int t_knots, .ref q_t_weight, .ref q_t_beside, .ref q_t_edge, .int z, .ref q_t_row, .int t_bags, .ref q_t_bag, .ref q_t_up, .ref q_t_least, .int t_q, .ref q_t_factor, .ref q_t_pairFactor, .ref q_t_forbidden, .ref q_t_mayNot, .ref q_t_fixed, .ref q_t_state, .ref q_t_count, .ref q_t_best, .ref q_t_bests, .long t_allCount, .long t_allBest, .long t_allBests], aI cA q_t_beside 14 t_beside, aI cA q_t_row 14 t_row_13, aI cA q_t_least 16384 t_least]) dX9_least_212 inX9 tyX9_ok nmX9 rfl rfl (by decide) kw_347 rfl rfl (Nat.le_of_ble_eq_true rfl) (fun _ => rfl) hf (fun t_rowed_14 hf => ?_)
          refine g_iload_n C 215 2 dX9_least_215 rfl rfl ?_
          refine g_iconst C 216 (1 : Int32) dX9_least_216 (by decide) ?_
          refine g_iload_n C 217 3 dX9_least_217 rfl rfl ?_
          refine g_ishl C 218 dX9_least_218 ?_
          refine g_ior C 219 dX9_least_219 ?_
          refine g_istore_n C 220 (fun z => [(2, .int z), (0, .ref q_t), (1, .int x1), (3, .int x3)]) dX9_least_220 rfl (by decide) (fun _ => rfl) hf (fun x2_15 hf => ?_)
          refine g_goto C 221 139 dX9_least_221 (by decide) ?_
          refine g_lv [1, 2, 0] rfl ?_
          exact h_139 x1 x2_15 t_rowed_14 t_row_13 t_least hf
        · refine g_iinc C 189 3 (v := x3 + (1 : Int32)) (fun z => [(3, .int z), (0, .ref q_t), (1, .int x1), (2, .int x2)]) dX9_least_189 rfl rfl (by decide) (fun _ => rfl) hf (fun x3_16 hf => ?_)
          refine g_goto C 192 152 dX9_least_192 (by decide) ?_
          refine g_lv [1, 2, 3, 0] rfl ?_
          exact ih x1 x2 x3_16 t_rowed t_row t_least hf
def L_X9_least_139 (t_knots : Int32) (t_beside : Nat → Int32)  : Nat → Int32 → Int32 → Int32 → (Nat → Int32) → (Nat → Int32) → Option (Int32 × Int32 × (Nat → Int32) × (Nat → Int32))
  | 0, _, _, _, _, _ => none
  | n + 1, x1, x2, t_rowed, t_row, t_least =>
    if t_knots ≤ t_rowed then
      some (x1, t_rowed, t_row, t_least)
    else
      bnd (0 : Int32) fun x3_7 =>
      L_X9_least_152 t_knots t_beside (fun y0 y1 y2 y3 y4 => L_X9_least_139 t_knots t_beside n y0 y1 y2 y3 y4) NN x1 x2 x3_7 t_rowed t_row t_least

set_option maxRecDepth 100000 in
set_option maxHeartbeats 1000000 in
theorem w_X9_least_139 (cA : Nat → ClassId) (q_t : Nat) (q_t_weight : Nat) (q_t_edge : Nat) (t_bags : Int32) (q_t_bag : Nat) (q_t_up : Nat) (t_q : Int32) (q_t_factor : Nat) (q_t_pairFactor : Nat) (q_t_forbidden : Nat) (q_t_mayNot : Nat) (q_t_fixed : Nat) (q_t_state : Nat) (q_t_count : Nat) (q_t_best : Nat) (q_t_bests : Nat) (t_allCount : Int64) (t_allBest : Int64) (t_allBests : Int64) (q_t_beside : Nat) (q_t_row : Nat) (q_t_least : Nat) (t_knots : Int32) (t_beside : Nat → Int32) {X : XT}  (C : Cx X cX9_least RX9 (some .int) cA 1 26 5) {kk nn : Nat} {BB : Option Value → va_W → Prop} (hk : kk ≤ (x_R X).cells ∧ nn ≤ (x_R X).slots) (F : Fx X BB kk nn) (r : Int32 × Int32 × (Nat → Int32) × (Nat → Int32)) (hB : BB (some (.int r.1)) [oB q_t 9 [.int t_knots, .ref q_t_weight, .ref q_t_beside, .ref q_t_edge, .int r.2.1, .ref q_t_row, .int t_bags, .ref q_t_bag, .ref q_t_up, .ref q_t_least, .int t_q, .ref q_t_factor, .ref q_t_pairFactor, .ref q_t_forbidden, .ref q_t_mayNot, .ref q_t_fixed, .ref q_t_state, .ref q_t_count, .ref q_t_best, .ref q_t_bests, .long t_allCount, .long t_allBest, .long t_allBests], aI cA q_t_beside 14 t_beside, aI cA q_t_row 14 r.2.2.1, aI cA q_t_least 16384 r.2.2.2])  : ∀ (n : Nat) (x1 : Int32) (x2 : Int32) (t_rowed : Int32) (t_row : Nat → Int32) (t_least : Nat → Int32), L_X9_least_139 t_knots t_beside n x1 x2 t_rowed t_row t_least = some r → Go X 5 kk nn 139 [oB q_t 9 [.int t_knots, .ref q_t_weight, .ref q_t_beside, .ref q_t_edge, .int t_rowed, .ref q_t_row, .int t_bags, .ref q_t_bag, .ref q_t_up, .ref q_t_least, .int t_q, .ref q_t_factor, .ref q_t_pairFactor, .ref q_t_forbidden, .ref q_t_mayNot, .ref q_t_fixed, .ref q_t_state, .ref q_t_count, .ref q_t_best, .ref q_t_bests, .long t_allCount, .long t_allBest, .long t_allBests], aI cA q_t_beside 14 t_beside, aI cA q_t_row 14 t_row, aI cA q_t_least 16384 t_least] [(0, .ref q_t), (1, .int x1), (2, .int x2)] [] := by
  intro n
  induction n with
  | zero => intro x1 x2 t_rowed t_row t_least hf; exact no_some hf
  | succ n ih =>
    intro x1 x2 t_rowed t_row t_least hf
    rw [L_X9_least_139] at hf
    refine g_aload_n C 139 0 dX9_least_139 rfl rfl ?_
    refine g_get C 140 0 4 dX9_least_140 inX9 rfl rfl (by decide) kw_347 rfl ?_
    refine g_aload_n C 143 0 dX9_least_143 rfl rfl ?_
    refine g_get C 144 0 0 dX9_least_144 inX9 rfl rfl (by decide) kw_339 rfl ?_
    refine g_icmp_ge C 147 224 dX9_least_147 (by decide) hf (fun hf => ?_) (fun hf => ?_)
    · refine g_iload_n C 224 1 dX9_least_224 rfl rfl ?_
      cases hf
      exact g_iret C 225 dX9_least_225 F hB
    · refine g_iconst C 150 (0 : Int32) dX9_least_150 (by decide) ?_
      refine g_istore_n C 151 (fun z => [(3, .int z), (0, .ref q_t), (1, .int x1), (2, .int x2)]) dX9_least_151 rfl (by decide) (fun _ => rfl) hf (fun x3_7 hf => ?_)
      refine g_lv [1, 2, 3, 0] rfl ?_
      exact w_X9_least_152 cA q_t q_t_weight q_t_edge t_bags q_t_bag q_t_up t_q q_t_factor q_t_pairFactor q_t_forbidden q_t_mayNot q_t_fixed q_t_state q_t_count q_t_best q_t_bests t_allCount t_allBest t_allBests q_t_beside q_t_row q_t_least t_knots t_beside C hk F r hB (fun y0 y1 y2 y3 y4 => L_X9_least_139 t_knots t_beside n y0 y1 y2 y3 y4) (fun y0 y1 y2 y3 y4 hf => ih y0 y1 y2 y3 y4 hf) NN x1 x2 x3_7 t_rowed t_row t_least hf
def J_X9_least_86 (t_knots : Int32) (t_beside : Nat → Int32) (k_31 : Int32 → Int32 → Int32 → (Nat → Int32) → (Nat → Int32) → Option (Int32 × Int32 × (Nat → Int32) × (Nat → Int32))) (x1 : Int32) (x2 : Int32) (s0 : Int32) (t_rowed : Int32) (t_row : Nat → Int32) (t_least : Nat → Int32) : Option (Int32 × Int32 × (Nat → Int32) × (Nat → Int32)) :=
  bnd s0 fun x3_26 =>
  ldA t_least 16384 x1 fun v27 =>
  if v27 ≤ x3_26 then
    ldA t_least 16384 x1 fun v28 =>
    stI t_least 16384 x1 v28 fun t_least_29 =>
    bnd (x2 + (1 : Int32)) fun x2_30 =>
    k_31 x1 x2_30 t_rowed t_row t_least_29
  else
    stI t_least 16384 x1 x3_26 fun t_least_31 =>
    bnd (x2 + (1 : Int32)) fun x2_32 =>
    k_31 x1 x2_32 t_rowed t_row t_least_31

set_option maxRecDepth 100000 in
set_option maxHeartbeats 1000000 in
theorem w_X9_least_86 (cA : Nat → ClassId) (q_t : Nat) (q_t_weight : Nat) (q_t_edge : Nat) (t_bags : Int32) (q_t_bag : Nat) (q_t_up : Nat) (t_q : Int32) (q_t_factor : Nat) (q_t_pairFactor : Nat) (q_t_forbidden : Nat) (q_t_mayNot : Nat) (q_t_fixed : Nat) (q_t_state : Nat) (q_t_count : Nat) (q_t_best : Nat) (q_t_bests : Nat) (t_allCount : Int64) (t_allBest : Int64) (t_allBests : Int64) (q_t_beside : Nat) (q_t_row : Nat) (q_t_least : Nat) (t_knots : Int32) (t_beside : Nat → Int32) {X : XT}  (C : Cx X cX9_least RX9 (some .int) cA 1 26 5) {kk nn : Nat} {BB : Option Value → va_W → Prop} (hk : kk ≤ (x_R X).cells ∧ nn ≤ (x_R X).slots) (F : Fx X BB kk nn) (r : Int32 × Int32 × (Nat → Int32) × (Nat → Int32)) (hB : BB (some (.int r.1)) [oB q_t 9 [.int t_knots, .ref q_t_weight, .ref q_t_beside, .ref q_t_edge, .int r.2.1, .ref q_t_row, .int t_bags, .ref q_t_bag, .ref q_t_up, .ref q_t_least, .int t_q, .ref q_t_factor, .ref q_t_pairFactor, .ref q_t_forbidden, .ref q_t_mayNot, .ref q_t_fixed, .ref q_t_state, .ref q_t_count, .ref q_t_best, .ref q_t_bests, .long t_allCount, .long t_allBest, .long t_allBests], aI cA q_t_beside 14 t_beside, aI cA q_t_row 14 r.2.2.1, aI cA q_t_least 16384 r.2.2.2]) (k_31 : Int32 → Int32 → Int32 → (Nat → Int32) → (Nat → Int32) → Option (Int32 × Int32 × (Nat → Int32) × (Nat → Int32))) (h_31 : ∀ (x1 : Int32) (x2 : Int32) (t_rowed : Int32) (t_row : Nat → Int32) (t_least : Nat → Int32), k_31 x1 x2 t_rowed t_row t_least = some r → Go X 5 kk nn 31 [oB q_t 9 [.int t_knots, .ref q_t_weight, .ref q_t_beside, .ref q_t_edge, .int t_rowed, .ref q_t_row, .int t_bags, .ref q_t_bag, .ref q_t_up, .ref q_t_least, .int t_q, .ref q_t_factor, .ref q_t_pairFactor, .ref q_t_forbidden, .ref q_t_mayNot, .ref q_t_fixed, .ref q_t_state, .ref q_t_count, .ref q_t_best, .ref q_t_bests, .long t_allCount, .long t_allBest, .long t_allBests], aI cA q_t_beside 14 t_beside, aI cA q_t_row 14 t_row, aI cA q_t_least 16384 t_least] [(0, .ref q_t), (1, .int x1), (2, .int x2)] []) : ∀ (x1 : Int32) (x2 : Int32) (s0 : Int32) (t_rowed : Int32) (t_row : Nat → Int32) (t_least : Nat → Int32), J_X9_least_86 t_knots t_beside k_31 x1 x2 s0 t_rowed t_row t_least = some r → Go X 5 kk nn 86 [oB q_t 9 [.int t_knots, .ref q_t_weight, .ref q_t_beside, .ref q_t_edge, .int t_rowed, .ref q_t_row, .int t_bags, .ref q_t_bag, .ref q_t_up, .ref q_t_least, .int t_q, .ref q_t_factor, .ref q_t_pairFactor, .ref q_t_forbidden, .ref q_t_mayNot, .ref q_t_fixed, .ref q_t_state, .ref q_t_count, .ref q_t_best, .ref q_t_bests, .long t_allCount, .long t_allBest, .long t_allBests], aI cA q_t_beside 14 t_beside, aI cA q_t_row 14 t_row, aI cA q_t_least 16384 t_least] [(0, .ref q_t), (1, .int x1), (2, .int x2)] [.int s0] := by
  intro x1 x2 s0 t_rowed t_row t_least hf
  unfold J_X9_least_86 at hf
  refine g_istore_n C 86 (fun z => [(3, .int z), (0, .ref q_t), (1, .int x1), (2, .int x2)]) dX9_least_86 rfl (by decide) (fun _ => rfl) hf (fun x3_26 hf => ?_)
  refine g_aload_n C 87 1 dX9_least_87 rfl rfl ?_
  refine g_get C 88 0 9 dX9_least_88 inX9 rfl rfl (by decide) kw_389 rfl ?_
  refine g_iload_n C 91 2 dX9_least_91 rfl rfl ?_
  refine g_iload_n C 92 0 dX9_least_92 rfl rfl ?_
  refine g_aload_n C 93 1 dX9_least_93 rfl rfl ?_
  refine g_get C 94 0 9 dX9_least_94 inX9 rfl rfl (by decide) kw_389 rfl ?_
  refine g_iload_n C 97 2 dX9_least_97 rfl rfl ?_
  refine g_iald C 98 3 dX9_least_98 rfl hf (fun v27 hf => ?_)
  refine g_icmp_ge C 99 106 dX9_least_99 (by decide) hf (fun hf => ?_) (fun hf => ?_)
  · refine g_aload_n C 106 1 dX9_least_106 rfl rfl ?_
    refine g_get C 107 0 9 dX9_least_107 inX9 rfl rfl (by decide) kw_389 rfl ?_
    refine g_iload_n C 110 2 dX9_least_110 rfl rfl ?_
    refine g_iald C 111 3 dX9_least_111 rfl hf (fun v28 hf => ?_)
    refine g_iast C 112 3 (fun z => [oB q_t 9 [.int t_knots, .ref q_t_weight, .ref q_t_beside, .ref q_t_edge, .int t_rowed, .ref q_t_row, .int t_bags, .ref q_t_bag, .ref q_t_up, .ref q_t_least, .int t_q, .ref q_t_factor, .ref q_t_pairFactor, .ref q_t_forbidden, .ref q_t_mayNot, .ref q_t_fixed, .ref q_t_state, .ref q_t_count, .ref q_t_best, .ref q_t_bests, .long t_allCount, .long t_allBest, .long t_allBests], aI cA q_t_beside 14 t_beside, aI cA q_t_row 14 t_row, aI cA q_t_least 16384 z]) dX9_least_112 rfl (fun _ => rfl) hf (fun t_least_29 hf => ?_)
    refine g_iinc C 113 3 (v := x2 + (1 : Int32)) (fun z => [(2, .int z), (3, .int x3_26), (0, .ref q_t), (1, .int x1)]) dX9_least_113 rfl rfl (by decide) (fun _ => rfl) hf (fun x2_30 hf => ?_)
    refine g_goto C 116 31 dX9_least_116 (by decide) ?_
    refine g_lv [2, 3, 0] rfl ?_
    exact h_31 x1 x2_30 t_rowed t_row t_least_29 hf
  · refine g_iload_n C 102 0 dX9_least_102 rfl rfl ?_
    refine g_goto C 103 112 dX9_least_103 (by decide) ?_
    refine g_iast C 112 3 (fun z => [oB q_t 9 [.int t_knots, .ref q_t_weight, .ref q_t_beside, .ref q_t_edge, .int t_rowed, .ref q_t_row, .int t_bags, .ref q_t_bag, .ref q_t_up, .ref q_t_least, .int t_q, .ref q_t_factor, .ref q_t_pairFactor, .ref q_t_forbidden, .ref q_t_mayNot, .ref q_t_fixed, .ref q_t_state, .ref q_t_count, .ref q_t_best, .ref q_t_bests, .long t_allCount, .long t_allBest, .long t_allBests], aI cA q_t_beside 14 t_beside, aI cA q_t_row 14 t_row, aI cA q_t_least 16384 z]) dX9_least_112 rfl (fun _ => rfl) hf (fun t_least_31 hf => ?_)
    refine g_iinc C 113 3 (v := x2 + (1 : Int32)) (fun z => [(2, .int z), (3, .int x3_26), (0, .ref q_t), (1, .int x1)]) dX9_least_113 rfl rfl (by decide) (fun _ => rfl) hf (fun x2_32 hf => ?_)
    refine g_goto C 116 31 dX9_least_116 (by decide) ?_
    refine g_lv [2, 3, 0] rfl ?_
    exact h_31 x1 x2_32 t_rowed t_row t_least_31 hf
def L_X9_least_31 (t_knots : Int32) (t_beside : Nat → Int32) (k_5 : Int32 → Int32 → (Nat → Int32) → (Nat → Int32) → Option (Int32 × Int32 × (Nat → Int32) × (Nat → Int32))) : Nat → Int32 → Int32 → Int32 → (Nat → Int32) → (Nat → Int32) → Option (Int32 × Int32 × (Nat → Int32) × (Nat → Int32))
  | 0, _, _, _, _, _ => none
  | n + 1, x1, x2, t_rowed, t_row, t_least =>
    if t_knots ≤ x2 then
      bnd (x1 + (-1 : Int32)) fun x1_20 =>
      k_5 x1_20 t_rowed t_row t_least
    else
      if ((x1 >>> (x2 &&& 31)) &&& (1 : Int32)) = (1 : Int32) then
        bnd (x2 + (1 : Int32)) fun x2_33 =>
        L_X9_least_31 t_knots t_beside k_5 n x1 x2_33 t_rowed t_row t_least
      else
        cal (f_X9_around x1 x2 t_knots t_beside) fun u21 =>
        cal (f_X9_bits u21) fun u22 =>
        bnd u22 fun x3_23 =>
        ldA t_least 16384 (x1 ||| ((1 : Int32) <<< (x2 &&& 31))) fun v24 =>
        bnd v24 fun x4_25 =>
        if x4_25 ≤ x3_23 then
          J_X9_least_86 t_knots t_beside (fun y0 y1 y2 y3 y4 => L_X9_least_31 t_knots t_beside k_5 n y0 y1 y2 y3 y4) x1 x2 x3_23 t_rowed t_row t_least
        else
          J_X9_least_86 t_knots t_beside (fun y0 y1 y2 y3 y4 => L_X9_least_31 t_knots t_beside k_5 n y0 y1 y2 y3 y4) x1 x2 x4_25 t_rowed t_row t_least

set_option maxRecDepth 100000 in
set_option maxHeartbeats 1000000 in
theorem w_X9_least_31 (cA : Nat → ClassId) (q_t : Nat) (q_t_weight : Nat) (q_t_edge : Nat) (t_bags : Int32) (q_t_bag : Nat) (q_t_up : Nat) (t_q : Int32) (q_t_factor : Nat) (q_t_pairFactor : Nat) (q_t_forbidden : Nat) (q_t_mayNot : Nat) (q_t_fixed : Nat) (q_t_state : Nat) (q_t_count : Nat) (q_t_best : Nat) (q_t_bests : Nat) (t_allCount : Int64) (t_allBest : Int64) (t_allBests : Int64) (q_t_beside : Nat) (q_t_row : Nat) (q_t_least : Nat) (t_knots : Int32) (t_beside : Nat → Int32) {X : XT}  (C : Cx X cX9_least RX9 (some .int) cA 1 26 5) {kk nn : Nat} {BB : Option Value → va_W → Prop} (hk : kk ≤ (x_R X).cells ∧ nn ≤ (x_R X).slots) (F : Fx X BB kk nn) (r : Int32 × Int32 × (Nat → Int32) × (Nat → Int32)) (hB : BB (some (.int r.1)) [oB q_t 9 [.int t_knots, .ref q_t_weight, .ref q_t_beside, .ref q_t_edge, .int r.2.1, .ref q_t_row, .int t_bags, .ref q_t_bag, .ref q_t_up, .ref q_t_least, .int t_q, .ref q_t_factor, .ref q_t_pairFactor, .ref q_t_forbidden, .ref q_t_mayNot, .ref q_t_fixed, .ref q_t_state, .ref q_t_count, .ref q_t_best, .ref q_t_bests, .long t_allCount, .long t_allBest, .long t_allBests], aI cA q_t_beside 14 t_beside, aI cA q_t_row 14 r.2.2.1, aI cA q_t_least 16384 r.2.2.2]) (k_5 : Int32 → Int32 → (Nat → Int32) → (Nat → Int32) → Option (Int32 × Int32 × (Nat → Int32) × (Nat → Int32))) (h_5 : ∀ (x1 : Int32) (t_rowed : Int32) (t_row : Nat → Int32) (t_least : Nat → Int32), k_5 x1 t_rowed t_row t_least = some r → Go X 5 kk nn 5 [oB q_t 9 [.int t_knots, .ref q_t_weight, .ref q_t_beside, .ref q_t_edge, .int t_rowed, .ref q_t_row, .int t_bags, .ref q_t_bag, .ref q_t_up, .ref q_t_least, .int t_q, .ref q_t_factor, .ref q_t_pairFactor, .ref q_t_forbidden, .ref q_t_mayNot, .ref q_t_fixed, .ref q_t_state, .ref q_t_count, .ref q_t_best, .ref q_t_bests, .long t_allCount, .long t_allBest, .long t_allBests], aI cA q_t_beside 14 t_beside, aI cA q_t_row 14 t_row, aI cA q_t_least 16384 t_least] [(0, .ref q_t), (1, .int x1)] []) : ∀ (n : Nat) (x1 : Int32) (x2 : Int32) (t_rowed : Int32) (t_row : Nat → Int32) (t_least : Nat → Int32), L_X9_least_31 t_knots t_beside k_5 n x1 x2 t_rowed t_row t_least = some r → Go X 5 kk nn 31 [oB q_t 9 [.int t_knots, .ref q_t_weight, .ref q_t_beside, .ref q_t_edge, .int t_rowed, .ref q_t_row, .int t_bags, .ref q_t_bag, .ref q_t_up, .ref q_t_least, .int t_q, .ref q_t_factor, .ref q_t_pairFactor, .ref q_t_forbidden, .ref q_t_mayNot, .ref q_t_fixed, .ref q_t_state, .ref q_t_count, .ref q_t_best, .ref q_t_bests, .long t_allCount, .long t_allBest, .long t_allBests], aI cA q_t_beside 14 t_beside, aI cA q_t_row 14 t_row, aI cA q_t_least 16384 t_least] [(0, .ref q_t), (1, .int x1), (2, .int x2)] [] := by
  intro n
  induction n with
  | zero => intro x1 x2 t_rowed t_row t_least hf; exact no_some hf
  | succ n ih =>
    intro x1 x2 t_rowed t_row t_least hf
    rw [L_X9_least_31] at hf
    refine g_iload_n C 31 2 dX9_least_31 rfl rfl ?_
    refine g_aload_n C 32 0 dX9_least_32 rfl rfl ?_
    refine g_get C 33 0 0 dX9_least_33 inX9 rfl rfl (by decide) kw_339 rfl ?_
    refine g_icmp_ge C 36 119 dX9_least_36 (by decide) hf (fun hf => ?_) (fun hf => ?_)
    · refine g_iinc C 119 1 (v := x1 + (-1 : Int32)) (fun z => [(1, .int z), (0, .ref q_t), (2, .int x2)]) dX9_least_119 rfl rfl (by decide) (fun _ => rfl) hf (fun x1_20 hf => ?_)
      refine g_goto C 122 5 dX9_least_122 (by decide) ?_
      refine g_lv [1, 0] rfl ?_
      exact h_5 x1_20 t_rowed t_row t_least hf
    · refine g_iload_n C 39 1 dX9_least_39 rfl rfl ?_
      refine g_iload_n C 40 2 dX9_least_40 rfl rfl ?_
      refine g_ishr C 41 dX9_least_41 ?_
      refine g_iconst C 42 (1 : Int32) dX9_least_42 (by decide) ?_
      refine g_iand C 43 dX9_least_43 ?_
      refine g_iconst C 44 (1 : Int32) dX9_least_44 (by decide) ?_
      refine g_icmp_ne C 45 51 dX9_least_45 (by decide) hf (fun hf => ?_) (fun hf => ?_)
      · refine g_aload_n C 51 0 dX9_least_51 rfl rfl ?_
        refine g_aload_n C 52 0 dX9_least_52 rfl rfl ?_
        refine g_iload_n C 53 1 dX9_least_53 rfl rfl ?_
        refine g_iload_n C 54 2 dX9_least_54 rfl rfl ?_
        obtain ⟨u21, hu21, hf⟩ := cal_some hf
        refine g_callV1 C 55 [0, 1] 0 (rest := [.ref q_t]) dX9_least_55 (c_X9_around (x_l X) cA q_t t_knots q_t_weight q_t_edge t_rowed q_t_row t_bags q_t_bag q_t_up q_t_least t_q q_t_factor q_t_pairFactor q_t_forbidden q_t_mayNot q_t_fixed q_t_state q_t_count q_t_best q_t_bests t_allCount t_allBest t_allBests q_t_beside t_beside x1 x2 u21 hu21) kw_363 kw_364 kw_365 kw_343 kw_366 ok_X9_around ⟨Nat.le_of_ble_eq_true rfl, Nat.le_of_ble_eq_true rfl⟩ hk ⟨rfl, rfl⟩ rfl rfl rfl rfl rfl (Nat.le_of_ble_eq_true rfl) rfl (ws' := [oB q_t 9 [.int t_knots, .ref q_t_weight, .ref q_t_beside, .ref q_t_edge, .int t_rowed, .ref q_t_row, .int t_bags, .ref q_t_bag, .ref q_t_up, .ref q_t_least, .int t_q, .ref q_t_factor, .ref q_t_pairFactor, .ref q_t_forbidden, .ref q_t_mayNot, .ref q_t_fixed, .ref q_t_state, .ref q_t_count, .ref q_t_best, .ref q_t_bests, .long t_allCount, .long t_allBest, .long t_allBests], aI cA q_t_beside 14 t_beside, aI cA q_t_row 14 t_row, aI cA q_t_least 16384 t_least]) (st' := [.int u21, .ref q_t]) (N0 := 4) rfl [some 0, some 1, none, none] (by decide) rfl rfl ?_
        obtain ⟨u22, hu22, hf⟩ := cal_some hf
        refine g_callV1 C 58 [] 0 (rest := []) dX9_least_58 (c_X9_bits (x_l X) cA q_t u21 u22 hu22) kw_367 kw_368 kw_369 kw_343 kw_370 ok_X9_bits ⟨Nat.le_of_ble_eq_true rfl, Nat.le_of_ble_eq_true rfl⟩ hk ⟨rfl, rfl⟩ rfl rfl rfl rfl rfl (Nat.le_of_ble_eq_true rfl) rfl (ws' := [oB q_t 9 [.int t_knots, .ref q_t_weight, .ref q_t_beside, .ref q_t_edge, .int t_rowed, .ref q_t_row, .int t_bags, .ref q_t_bag, .ref q_t_up, .ref q_t_least, .int t_q, .ref q_t_factor, .ref q_t_pairFactor, .ref q_t_forbidden, .ref q_t_mayNot, .ref q_t_fixed, .ref q_t_state, .ref q_t_count, .ref q_t_best, .ref q_t_bests, .long t_allCount, .long t_allBest, .long t_allBests], aI cA q_t_beside 14 t_beside, aI cA q_t_row 14 t_row, aI cA q_t_least 16384 t_least]) (st' := [.int u22]) (N0 := 4) rfl [none, none, none, none] (by decide) rfl rfl ?_
        refine g_istore_n C 61 (fun z => [(3, .int z), (0, .ref q_t), (1, .int x1), (2, .int x2)]) dX9_least_61 rfl (by decide) (fun _ => rfl) hf (fun x3_23 hf => ?_)
        refine g_aload_n C 62 1 dX9_least_62 rfl rfl ?_
        refine g_get C 63 0 9 dX9_least_63 inX9 rfl rfl (by decide) kw_389 rfl ?_
        refine g_iload_n C 66 2 dX9_least_66 rfl rfl ?_
        refine g_iconst C 67 (1 : Int32) dX9_least_67 (by decide) ?_
        refine g_iload_n C 68 3 dX9_least_68 rfl rfl ?_
        refine g_ishl C 69 dX9_least_69 ?_
        refine g_ior C 70 dX9_least_70 ?_
        refine g_iald C 71 3 dX9_least_71 rfl hf (fun v24 hf => ?_)
        refine g_istore C 72 (fun z => [(4, .int z), (3, .int x3_23), (0, .ref q_t), (1, .int x1), (2, .int x2)]) dX9_least_72 (by decide) (fun _ => rfl) hf (fun x4_25 hf => ?_)
        refine g_iload C 74 0 dX9_least_74 rfl ?_
        refine g_iload_n C 76 1 dX9_least_76 rfl rfl ?_
        refine g_icmp_le C 77 85 dX9_least_77 (by decide) hf (fun hf => ?_) (fun hf => ?_)
        · refine g_iload_n C 85 1 dX9_least_85 rfl rfl ?_
          refine g_lv [2, 3, 4] rfl ?_
          exact w_X9_least_86 cA q_t q_t_weight q_t_edge t_bags q_t_bag q_t_up t_q q_t_factor q_t_pairFactor q_t_forbidden q_t_mayNot q_t_fixed q_t_state q_t_count q_t_best q_t_bests t_allCount t_allBest t_allBests q_t_beside q_t_row q_t_least t_knots t_beside C hk F r hB (fun y0 y1 y2 y3 y4 => L_X9_least_31 t_knots t_beside k_5 n y0 y1 y2 y3 y4) (fun y0 y1 y2 y3 y4 hf => ih y0 y1 y2 y3 y4 hf) x1 x2 x3_23 t_rowed t_row t_least hf
        · refine g_iload C 80 0 dX9_least_80 rfl ?_
          refine g_goto C 82 86 dX9_least_82 (by decide) ?_
          refine g_lv [2, 3, 4] rfl ?_
          exact w_X9_least_86 cA q_t q_t_weight q_t_edge t_bags q_t_bag q_t_up t_q q_t_factor q_t_pairFactor q_t_forbidden q_t_mayNot q_t_fixed q_t_state q_t_count q_t_best q_t_bests t_allCount t_allBest t_allBests q_t_beside q_t_row q_t_least t_knots t_beside C hk F r hB (fun y0 y1 y2 y3 y4 => L_X9_least_31 t_knots t_beside k_5 n y0 y1 y2 y3 y4) (fun y0 y1 y2 y3 y4 hf => ih y0 y1 y2 y3 y4 hf) x1 x2 x4_25 t_rowed t_row t_least hf
      · refine g_goto C 48 113 dX9_least_48 (by decide) ?_
        refine g_iinc C 113 2 (v := x2 + (1 : Int32)) (fun z => [(2, .int z), (0, .ref q_t), (1, .int x1)]) dX9_least_113 rfl rfl (by decide) (fun _ => rfl) hf (fun x2_33 hf => ?_)
        refine g_goto C 116 31 dX9_least_116 (by decide) ?_
        refine g_lv [1, 2, 0] rfl ?_
        exact ih x1 x2_33 t_rowed t_row t_least hf
def L_X9_least_5 (t_knots : Int32) (t_beside : Nat → Int32)  : Nat → Int32 → Int32 → (Nat → Int32) → (Nat → Int32) → Option (Int32 × Int32 × (Nat → Int32) × (Nat → Int32))
  | 0, _, _, _, _ => none
  | n + 1, x1, t_rowed, t_row, t_least =>
    if x1 < 0 then
      ldA t_least 16384 (0 : Int32) fun v3 =>
      bnd v3 fun x1_4 =>
      bnd (0 : Int32) fun t_rowed_5 =>
      bnd (0 : Int32) fun x2_6 =>
      L_X9_least_139 t_knots t_beside NN x1_4 x2_6 t_rowed_5 t_row t_least
    else
      cal (f_X9_all t_knots) fun u17 =>
      if x1 = u17 then
        stI t_least 16384 x1 (-1 : Int32) fun t_least_34 =>
        bnd (0 : Int32) fun x2_35 =>
        L_X9_least_31 t_knots t_beside (fun y0 y1 y2 y3 => L_X9_least_5 t_knots t_beside n y0 y1 y2 y3) NN x1 x2_35 t_rowed t_row t_least_34
      else
        stI t_least 16384 x1 (100 : Int32) fun t_least_18 =>
        bnd (0 : Int32) fun x2_19 =>
        L_X9_least_31 t_knots t_beside (fun y0 y1 y2 y3 => L_X9_least_5 t_knots t_beside n y0 y1 y2 y3) NN x1 x2_19 t_rowed t_row t_least_18

set_option maxRecDepth 100000 in
set_option maxHeartbeats 1000000 in
theorem w_X9_least_5 (cA : Nat → ClassId) (q_t : Nat) (q_t_weight : Nat) (q_t_edge : Nat) (t_bags : Int32) (q_t_bag : Nat) (q_t_up : Nat) (t_q : Int32) (q_t_factor : Nat) (q_t_pairFactor : Nat) (q_t_forbidden : Nat) (q_t_mayNot : Nat) (q_t_fixed : Nat) (q_t_state : Nat) (q_t_count : Nat) (q_t_best : Nat) (q_t_bests : Nat) (t_allCount : Int64) (t_allBest : Int64) (t_allBests : Int64) (q_t_beside : Nat) (q_t_row : Nat) (q_t_least : Nat) (t_knots : Int32) (t_beside : Nat → Int32) {X : XT}  (C : Cx X cX9_least RX9 (some .int) cA 1 26 5) {kk nn : Nat} {BB : Option Value → va_W → Prop} (hk : kk ≤ (x_R X).cells ∧ nn ≤ (x_R X).slots) (F : Fx X BB kk nn) (r : Int32 × Int32 × (Nat → Int32) × (Nat → Int32)) (hB : BB (some (.int r.1)) [oB q_t 9 [.int t_knots, .ref q_t_weight, .ref q_t_beside, .ref q_t_edge, .int r.2.1, .ref q_t_row, .int t_bags, .ref q_t_bag, .ref q_t_up, .ref q_t_least, .int t_q, .ref q_t_factor, .ref q_t_pairFactor, .ref q_t_forbidden, .ref q_t_mayNot, .ref q_t_fixed, .ref q_t_state, .ref q_t_count, .ref q_t_best, .ref q_t_bests, .long t_allCount, .long t_allBest, .long t_allBests], aI cA q_t_beside 14 t_beside, aI cA q_t_row 14 r.2.2.1, aI cA q_t_least 16384 r.2.2.2])  : ∀ (n : Nat) (x1 : Int32) (t_rowed : Int32) (t_row : Nat → Int32) (t_least : Nat → Int32), L_X9_least_5 t_knots t_beside n x1 t_rowed t_row t_least = some r → Go X 5 kk nn 5 [oB q_t 9 [.int t_knots, .ref q_t_weight, .ref q_t_beside, .ref q_t_edge, .int t_rowed, .ref q_t_row, .int t_bags, .ref q_t_bag, .ref q_t_up, .ref q_t_least, .int t_q, .ref q_t_factor, .ref q_t_pairFactor, .ref q_t_forbidden, .ref q_t_mayNot, .ref q_t_fixed, .ref q_t_state, .ref q_t_count, .ref q_t_best, .ref q_t_bests, .long t_allCount, .long t_allBest, .long t_allBests], aI cA q_t_beside 14 t_beside, aI cA q_t_row 14 t_row, aI cA q_t_least 16384 t_least] [(0, .ref q_t), (1, .int x1)] [] := by
  intro n
  induction n with
  | zero => intro x1 t_rowed t_row t_least hf; exact no_some hf
  | succ n ih =>
    intro x1 t_rowed t_row t_least hf
    rw [L_X9_least_5] at hf
    refine g_iload_n C 5 1 dX9_least_5 rfl rfl ?_
    refine g_if_lt C 6 125 dX9_least_6 (by decide) hf (fun hf => ?_) (fun hf => ?_)
    · refine g_aload_n C 125 0 dX9_least_125 rfl rfl ?_
      refine g_get C 126 0 9 dX9_least_126 inX9 rfl rfl (by decide) kw_389 rfl ?_
      refine g_iconst C 129 (0 : Int32) dX9_least_129 (by decide) ?_
      refine g_iald C 130 3 dX9_least_130 rfl hf (fun v3 hf => ?_)
      refine g_istore_n C 131 (fun z => [(1, .int z), (0, .ref q_t)]) dX9_least_131 rfl (by decide) (fun _ => rfl) hf (fun x1_4 hf => ?_)
      refine g_aload_n C 132 1 dX9_least_132 rfl rfl ?_
      refine g_iconst C 133 (0 : Int32) dX9_least_133 (by decide) ?_
      refine g_puti C 134 0 4 tyX9 (fun z => [oB q_t 9 [.int t_knots, .ref q_t_weight, .ref q_t_beside, .ref q_t_edge, .int z, .ref q_t_row, .int t_bags, .ref q_t_bag, .ref q_t_up, .ref q_t_least, .int t_q, .ref q_t_factor, .ref q_t_pairFactor, .ref q_t_forbidden, .ref q_t_mayNot, .ref q_t_fixed, .ref q_t_state, .ref q_t_count, .ref q_t_best, .ref q_t_bests, .long t_allCount, .long t_allBest, .long t_allBests], aI cA q_t_beside 14 t_beside, aI cA q_t_row 14 t_row, aI cA q_t_least 16384 t_least]) dX9_least_134 inX9 tyX9_ok nmX9 rfl rfl (by decide) kw_347 rfl rfl (Nat.le_of_ble_eq_true rfl) (fun _ => rfl) hf (fun t_rowed_5 hf => ?_)
      refine g_iconst C 137 (0 : Int32) dX9_least_137 (by decide) ?_
      refine g_istore_n C 138 (fun z => [(2, .int z), (1, .int x1_4), (0, .ref q_t)]) dX9_least_138 rfl (by decide) (fun _ => rfl) hf (fun x2_6 hf => ?_)
      refine g_lv [2, 1, 0] rfl ?_
      exact w_X9_least_139 cA q_t q_t_weight q_t_edge t_bags q_t_bag q_t_up t_q q_t_factor q_t_pairFactor q_t_forbidden q_t_mayNot q_t_fixed q_t_state q_t_count q_t_best q_t_bests t_allCount t_allBest t_allBests q_t_beside q_t_row q_t_least t_knots t_beside C hk F r hB NN x1_4 x2_6 t_rowed_5 t_row t_least hf
    · refine g_aload_n C 9 0 dX9_least_9 rfl rfl ?_
      refine g_get C 10 0 9 dX9_least_10 inX9 rfl rfl (by decide) kw_389 rfl ?_
      refine g_iload_n C 13 1 dX9_least_13 rfl rfl ?_
      refine g_iload_n C 14 1 dX9_least_14 rfl rfl ?_
      refine g_aload_n C 15 0 dX9_least_15 rfl rfl ?_
      obtain ⟨u17, hu17, hf⟩ := cal_some hf
      refine g_callV1 C 16 [0] 0 (rest := [.int x1, .int x1, .ref q_t_least]) dX9_least_16 (c_X9_all (x_l X) cA q_t t_knots q_t_weight q_t_beside q_t_edge t_rowed q_t_row t_bags q_t_bag q_t_up q_t_least t_q q_t_factor q_t_pairFactor q_t_forbidden q_t_mayNot q_t_fixed q_t_state q_t_count q_t_best q_t_bests t_allCount t_allBest t_allBests u17 hu17) kw_385 kw_386 kw_387 kw_343 kw_388 ok_X9_all ⟨Nat.le_of_ble_eq_true rfl, Nat.le_of_ble_eq_true rfl⟩ hk ⟨rfl, rfl⟩ rfl rfl rfl rfl rfl (Nat.le_of_ble_eq_true rfl) rfl (ws' := [oB q_t 9 [.int t_knots, .ref q_t_weight, .ref q_t_beside, .ref q_t_edge, .int t_rowed, .ref q_t_row, .int t_bags, .ref q_t_bag, .ref q_t_up, .ref q_t_least, .int t_q, .ref q_t_factor, .ref q_t_pairFactor, .ref q_t_forbidden, .ref q_t_mayNot, .ref q_t_fixed, .ref q_t_state, .ref q_t_count, .ref q_t_best, .ref q_t_bests, .long t_allCount, .long t_allBest, .long t_allBests], aI cA q_t_beside 14 t_beside, aI cA q_t_row 14 t_row, aI cA q_t_least 16384 t_least]) (st' := [.int u17, .int x1, .int x1, .ref q_t_least]) (N0 := 4) rfl [some 0, none, none, none] (by decide) rfl rfl ?_
      refine g_icmp_ne C 19 26 dX9_least_19 (by decide) hf (fun hf => ?_) (fun hf => ?_)
      · refine g_bipush C 26 (100 : Int32) dX9_least_26 (by decide) ?_
        refine g_iast C 28 3 (fun z => [oB q_t 9 [.int t_knots, .ref q_t_weight, .ref q_t_beside, .ref q_t_edge, .int t_rowed, .ref q_t_row, .int t_bags, .ref q_t_bag, .ref q_t_up, .ref q_t_least, .int t_q, .ref q_t_factor, .ref q_t_pairFactor, .ref q_t_forbidden, .ref q_t_mayNot, .ref q_t_fixed, .ref q_t_state, .ref q_t_count, .ref q_t_best, .ref q_t_bests, .long t_allCount, .long t_allBest, .long t_allBests], aI cA q_t_beside 14 t_beside, aI cA q_t_row 14 t_row, aI cA q_t_least 16384 z]) dX9_least_28 rfl (fun _ => rfl) hf (fun t_least_18 hf => ?_)
        refine g_iconst C 29 (0 : Int32) dX9_least_29 (by decide) ?_
        refine g_istore_n C 30 (fun z => [(2, .int z), (0, .ref q_t), (1, .int x1)]) dX9_least_30 rfl (by decide) (fun _ => rfl) hf (fun x2_19 hf => ?_)
        refine g_lv [1, 2, 0] rfl ?_
        exact w_X9_least_31 cA q_t q_t_weight q_t_edge t_bags q_t_bag q_t_up t_q q_t_factor q_t_pairFactor q_t_forbidden q_t_mayNot q_t_fixed q_t_state q_t_count q_t_best q_t_bests t_allCount t_allBest t_allBests q_t_beside q_t_row q_t_least t_knots t_beside C hk F r hB (fun y0 y1 y2 y3 => L_X9_least_5 t_knots t_beside n y0 y1 y2 y3) (fun y0 y1 y2 y3 hf => ih y0 y1 y2 y3 hf) NN x1 x2_19 t_rowed t_row t_least_18 hf
      · refine g_iconst C 22 (-1 : Int32) dX9_least_22 (by decide) ?_
        refine g_goto C 23 28 dX9_least_23 (by decide) ?_
        refine g_iast C 28 3 (fun z => [oB q_t 9 [.int t_knots, .ref q_t_weight, .ref q_t_beside, .ref q_t_edge, .int t_rowed, .ref q_t_row, .int t_bags, .ref q_t_bag, .ref q_t_up, .ref q_t_least, .int t_q, .ref q_t_factor, .ref q_t_pairFactor, .ref q_t_forbidden, .ref q_t_mayNot, .ref q_t_fixed, .ref q_t_state, .ref q_t_count, .ref q_t_best, .ref q_t_bests, .long t_allCount, .long t_allBest, .long t_allBests], aI cA q_t_beside 14 t_beside, aI cA q_t_row 14 t_row, aI cA q_t_least 16384 z]) dX9_least_28 rfl (fun _ => rfl) hf (fun t_least_34 hf => ?_)
        refine g_iconst C 29 (0 : Int32) dX9_least_29 (by decide) ?_
        refine g_istore_n C 30 (fun z => [(2, .int z), (0, .ref q_t), (1, .int x1)]) dX9_least_30 rfl (by decide) (fun _ => rfl) hf (fun x2_35 hf => ?_)
        refine g_lv [1, 2, 0] rfl ?_
        exact w_X9_least_31 cA q_t q_t_weight q_t_edge t_bags q_t_bag q_t_up t_q q_t_factor q_t_pairFactor q_t_forbidden q_t_mayNot q_t_fixed q_t_state q_t_count q_t_best q_t_bests t_allCount t_allBest t_allBests q_t_beside q_t_row q_t_least t_knots t_beside C hk F r hB (fun y0 y1 y2 y3 => L_X9_least_5 t_knots t_beside n y0 y1 y2 y3) (fun y0 y1 y2 y3 hf => ih y0 y1 y2 y3 hf) NN x1 x2_35 t_rowed t_row t_least_34 hf
def f_X9_least (t_knots : Int32) (t_rowed : Int32) (t_beside : Nat → Int32) (t_row : Nat → Int32) (t_least : Nat → Int32) : Option (Int32 × Int32 × (Nat → Int32) × (Nat → Int32)) :=
  cal (f_X9_all t_knots) fun u1 =>
  bnd u1 fun x1_2 =>
  L_X9_least_5 t_knots t_beside NN x1_2 t_rowed t_row t_least

set_option maxRecDepth 100000 in
set_option maxHeartbeats 1000000 in
theorem c_X9_least (l : Launch) (cA : Nat → ClassId) (q_t : Nat) (t_knots : Int32) (q_t_weight : Nat) (q_t_edge : Nat) (t_rowed : Int32) (t_bags : Int32) (q_t_bag : Nat) (q_t_up : Nat) (t_q : Int32) (q_t_factor : Nat) (q_t_pairFactor : Nat) (q_t_forbidden : Nat) (q_t_mayNot : Nat) (q_t_fixed : Nat) (q_t_state : Nat) (q_t_count : Nat) (q_t_best : Nat) (q_t_bests : Nat) (t_allCount : Int64) (t_allBest : Int64) (t_allBests : Int64) (q_t_beside : Nat) (t_beside : Nat → Int32) (q_t_row : Nat) (t_row : Nat → Int32) (q_t_least : Nat) (t_least : Nat → Int32)   (r : Int32 × Int32 × (Nat → Int32) × (Nat → Int32)) (hf : f_X9_least t_knots t_rowed t_beside t_row t_least = some r) : MT l cA yX9_least cX9_least 5 (some .int) ({ frames := 1, cells := 0, slots := 0, locals := 26 } : Room) [.ref q_t] [oB q_t 9 [.int t_knots, .ref q_t_weight, .ref q_t_beside, .ref q_t_edge, .int t_rowed, .ref q_t_row, .int t_bags, .ref q_t_bag, .ref q_t_up, .ref q_t_least, .int t_q, .ref q_t_factor, .ref q_t_pairFactor, .ref q_t_forbidden, .ref q_t_mayNot, .ref q_t_fixed, .ref q_t_state, .ref q_t_count, .ref q_t_best, .ref q_t_bests, .long t_allCount, .long t_allBest, .long t_allBests], aI cA q_t_beside 14 t_beside, aI cA q_t_row 14 t_row, aI cA q_t_least 16384 t_least] (sB (some (.int r.1)) [oB q_t 9 [.int t_knots, .ref q_t_weight, .ref q_t_beside, .ref q_t_edge, .int r.2.1, .ref q_t_row, .int t_bags, .ref q_t_bag, .ref q_t_up, .ref q_t_least, .int t_q, .ref q_t_factor, .ref q_t_pairFactor, .ref q_t_forbidden, .ref q_t_mayNot, .ref q_t_fixed, .ref q_t_state, .ref q_t_count, .ref q_t_best, .ref q_t_bests, .long t_allCount, .long t_allBest, .long t_allBests], aI cA q_t_beside 14 t_beside, aI cA q_t_row 14 r.2.2.1, aI cA q_t_least 16384 r.2.2.2]) := by
  refine MT.of (by decide) (Nat.le_of_ble_eq_true rfl) ?_
  intro X hXl C F hnm hrc hrs
  subst hXl
  have hk : 0 ≤ (x_R X).cells ∧ 0 ≤ (x_R X).slots := ⟨Nat.zero_le _, Nat.zero_le _⟩
  have hB : (sB (some (.int r.1)) [oB q_t 9 [.int t_knots, .ref q_t_weight, .ref q_t_beside, .ref q_t_edge, .int r.2.1, .ref q_t_row, .int t_bags, .ref q_t_bag, .ref q_t_up, .ref q_t_least, .int t_q, .ref q_t_factor, .ref q_t_pairFactor, .ref q_t_forbidden, .ref q_t_mayNot, .ref q_t_fixed, .ref q_t_state, .ref q_t_count, .ref q_t_best, .ref q_t_bests, .long t_allCount, .long t_allBest, .long t_allBests], aI cA q_t_beside 14 t_beside, aI cA q_t_row 14 r.2.2.1, aI cA q_t_least 16384 r.2.2.2]) (some (.int r.1)) [oB q_t 9 [.int t_knots, .ref q_t_weight, .ref q_t_beside, .ref q_t_edge, .int r.2.1, .ref q_t_row, .int t_bags, .ref q_t_bag, .ref q_t_up, .ref q_t_least, .int t_q, .ref q_t_factor, .ref q_t_pairFactor, .ref q_t_forbidden, .ref q_t_mayNot, .ref q_t_fixed, .ref q_t_state, .ref q_t_count, .ref q_t_best, .ref q_t_bests, .long t_allCount, .long t_allBest, .long t_allBests], aI cA q_t_beside 14 t_beside, aI cA q_t_row 14 r.2.2.1, aI cA q_t_least 16384 r.2.2.2] := ⟨rfl, rfl⟩
  unfold f_X9_least at hf
  have C : Cx X cX9_least RX9 (some .int) cA 1 26 5 := C
  show Go X 5 0 0 0 [oB q_t 9 [.int t_knots, .ref q_t_weight, .ref q_t_beside, .ref q_t_edge, .int t_rowed, .ref q_t_row, .int t_bags, .ref q_t_bag, .ref q_t_up, .ref q_t_least, .int t_q, .ref q_t_factor, .ref q_t_pairFactor, .ref q_t_forbidden, .ref q_t_mayNot, .ref q_t_fixed, .ref q_t_state, .ref q_t_count, .ref q_t_best, .ref q_t_bests, .long t_allCount, .long t_allBest, .long t_allBests], aI cA q_t_beside 14 t_beside, aI cA q_t_row 14 t_row, aI cA q_t_least 16384 t_least] [(0, .ref q_t)] []
  refine g_aload_n C 0 0 dX9_least_0 rfl rfl ?_
  obtain ⟨u1, hu1, hf⟩ := cal_some hf
  refine g_callV1 C 1 [0] 0 (rest := []) dX9_least_1 (c_X9_all (x_l X) cA q_t t_knots q_t_weight q_t_beside q_t_edge t_rowed q_t_row t_bags q_t_bag q_t_up q_t_least t_q q_t_factor q_t_pairFactor q_t_forbidden q_t_mayNot q_t_fixed q_t_state q_t_count q_t_best q_t_bests t_allCount t_allBest t_allBests u1 hu1) kw_385 kw_386 kw_387 kw_343 kw_388 ok_X9_all ⟨Nat.le_of_ble_eq_true rfl, Nat.le_of_ble_eq_true rfl⟩ hk ⟨rfl, rfl⟩ rfl rfl rfl rfl rfl (Nat.le_of_ble_eq_true rfl) rfl (ws' := [oB q_t 9 [.int t_knots, .ref q_t_weight, .ref q_t_beside, .ref q_t_edge, .int t_rowed, .ref q_t_row, .int t_bags, .ref q_t_bag, .ref q_t_up, .ref q_t_least, .int t_q, .ref q_t_factor, .ref q_t_pairFactor, .ref q_t_forbidden, .ref q_t_mayNot, .ref q_t_fixed, .ref q_t_state, .ref q_t_count, .ref q_t_best, .ref q_t_bests, .long t_allCount, .long t_allBest, .long t_allBests], aI cA q_t_beside 14 t_beside, aI cA q_t_row 14 t_row, aI cA q_t_least 16384 t_least]) (st' := [.int u1]) (N0 := 4) rfl [some 0, none, none, none] (by decide) rfl rfl ?_
  refine g_istore_n C 4 (fun z => [(1, .int z), (0, .ref q_t)]) dX9_least_4 rfl (by decide) (fun _ => rfl) hf (fun x1_2 hf => ?_)
  refine g_lv [1, 0] rfl ?_
  exact w_X9_least_5 cA q_t q_t_weight q_t_edge t_bags q_t_bag q_t_up t_q q_t_factor q_t_pairFactor q_t_forbidden q_t_mayNot q_t_fixed q_t_state q_t_count q_t_best q_t_bests t_allCount t_allBest t_allBests q_t_beside q_t_row q_t_least t_knots t_beside C hk F r hB NN x1_2 t_rowed t_row t_least hf

def J_X9_below_102 (t_knots : Int32) (t_beside : Nat → Int32) (k_7 : Int32 → Int32 → Option (Int32)) (x1 : Int32) (x3 : Int32) (s0 : Int32) : Option (Int32) :=
  bnd s0 fun x2_9 =>
  bnd (x1 &&& (((1 : Int32) <<< (x3 &&& 31)) ^^^ (-1 : Int32))) fun x1_10 =>
  k_7 x1_10 x2_9

set_option maxRecDepth 100000 in
set_option maxHeartbeats 1000000 in
theorem w_X9_below_102 (cA : Nat → ClassId) (q_t : Nat) (q_t_weight : Nat) (q_t_edge : Nat) (t_rowed : Int32) (q_t_row : Nat) (t_bags : Int32) (q_t_bag : Nat) (q_t_up : Nat) (q_t_least : Nat) (t_q : Int32) (q_t_factor : Nat) (q_t_pairFactor : Nat) (q_t_forbidden : Nat) (q_t_mayNot : Nat) (q_t_fixed : Nat) (q_t_state : Nat) (q_t_count : Nat) (q_t_best : Nat) (q_t_bests : Nat) (t_allCount : Int64) (t_allBest : Int64) (t_allBests : Int64) (q_t_beside : Nat) (t_knots : Int32) (t_beside : Nat → Int32) {X : XT}  (C : Cx X cX9_below RX9 (some .int) cA 1 23 5) {kk nn : Nat} {BB : Option Value → va_W → Prop} (hk : kk ≤ (x_R X).cells ∧ nn ≤ (x_R X).slots) (F : Fx X BB kk nn) (r : Int32) (hB : BB (some (.int r)) [oB q_t 9 [.int t_knots, .ref q_t_weight, .ref q_t_beside, .ref q_t_edge, .int t_rowed, .ref q_t_row, .int t_bags, .ref q_t_bag, .ref q_t_up, .ref q_t_least, .int t_q, .ref q_t_factor, .ref q_t_pairFactor, .ref q_t_forbidden, .ref q_t_mayNot, .ref q_t_fixed, .ref q_t_state, .ref q_t_count, .ref q_t_best, .ref q_t_bests, .long t_allCount, .long t_allBest, .long t_allBests], aI cA q_t_beside 14 t_beside]) (k_7 : Int32 → Int32 → Option (Int32)) (h_7 : ∀ (x1 : Int32) (x2 : Int32), k_7 x1 x2 = some r → Go X 5 kk nn 7 [oB q_t 9 [.int t_knots, .ref q_t_weight, .ref q_t_beside, .ref q_t_edge, .int t_rowed, .ref q_t_row, .int t_bags, .ref q_t_bag, .ref q_t_up, .ref q_t_least, .int t_q, .ref q_t_factor, .ref q_t_pairFactor, .ref q_t_forbidden, .ref q_t_mayNot, .ref q_t_fixed, .ref q_t_state, .ref q_t_count, .ref q_t_best, .ref q_t_bests, .long t_allCount, .long t_allBest, .long t_allBests], aI cA q_t_beside 14 t_beside] [(0, .ref q_t), (1, .int x1), (2, .int x2)] []) : ∀ (x1 : Int32) (x3 : Int32) (s0 : Int32), J_X9_below_102 t_knots t_beside k_7 x1 x3 s0 = some r → Go X 5 kk nn 102 [oB q_t 9 [.int t_knots, .ref q_t_weight, .ref q_t_beside, .ref q_t_edge, .int t_rowed, .ref q_t_row, .int t_bags, .ref q_t_bag, .ref q_t_up, .ref q_t_least, .int t_q, .ref q_t_factor, .ref q_t_pairFactor, .ref q_t_forbidden, .ref q_t_mayNot, .ref q_t_fixed, .ref q_t_state, .ref q_t_count, .ref q_t_best, .ref q_t_bests, .long t_allCount, .long t_allBest, .long t_allBests], aI cA q_t_beside 14 t_beside] [(0, .ref q_t), (1, .int x1), (3, .int x3)] [.int s0] := by
  intro x1 x3 s0 hf
  unfold J_X9_below_102 at hf
  refine g_istore_n C 102 (fun z => [(2, .int z), (0, .ref q_t), (1, .int x1), (3, .int x3)]) dX9_below_102 rfl (by decide) (fun _ => rfl) hf (fun x2_9 hf => ?_)
  refine g_iload_n C 103 2 dX9_below_103 rfl rfl ?_
  refine g_iconst C 104 (1 : Int32) dX9_below_104 (by decide) ?_
  refine g_iload_n C 105 3 dX9_below_105 rfl rfl ?_
  refine g_ishl C 106 dX9_below_106 ?_
  refine g_iconst C 107 (-1 : Int32) dX9_below_107 (by decide) ?_
  refine g_ixor C 108 dX9_below_108 ?_
  refine g_iand C 109 dX9_below_109 ?_
  refine g_istore_n C 110 (fun z => [(1, .int z), (2, .int x2_9), (0, .ref q_t), (3, .int x3)]) dX9_below_110 rfl (by decide) (fun _ => rfl) hf (fun x1_10 hf => ?_)
  refine g_goto C 111 7 dX9_below_111 (by decide) ?_
  refine g_lv [2, 0, 1] rfl ?_
  exact h_7 x1_10 x2_9 hf
def L_X9_below_16 (t_knots : Int32) (t_beside : Nat → Int32) (k_7 : Int32 → Int32 → Option (Int32)) : Nat → Int32 → Int32 → Int32 → Int32 → Option (Int32)
  | 0, _, _, _, _ => none
  | n + 1, x1, x2, x3, x4 =>
    if t_knots ≤ x4 then
      ldA t_beside 14 x3 fun v6 =>
      cal (f_X9_bits (v6 &&& x1)) fun u7 =>
      bnd u7 fun x4_8 =>
      if x4_8 ≤ x2 then
        J_X9_below_102 t_knots t_beside k_7 x1 x3 x2
      else
        J_X9_below_102 t_knots t_beside k_7 x1 x3 x4_8
    else
      if ((x1 >>> (x4 &&& 31)) &&& (1 : Int32)) = (1 : Int32) then
        if x3 < 0 then
          bnd x4 fun x3_12 =>
          bnd (x4 + (1 : Int32)) fun x4_13 =>
          L_X9_below_16 t_knots t_beside k_7 n x1 x2 x3_12 x4_13
        else
          ldA t_beside 14 x4 fun v14 =>
          cal (f_X9_bits (v14 &&& x1)) fun u15 =>
          ldA t_beside 14 x3 fun v16 =>
          cal (f_X9_bits (v16 &&& x1)) fun u17 =>
          if u17 ≤ u15 then
            bnd (x4 + (1 : Int32)) fun x4_18 =>
            L_X9_below_16 t_knots t_beside k_7 n x1 x2 x3 x4_18
          else
            bnd x4 fun x3_19 =>
            bnd (x4 + (1 : Int32)) fun x4_20 =>
            L_X9_below_16 t_knots t_beside k_7 n x1 x2 x3_19 x4_20
      else
        bnd (x4 + (1 : Int32)) fun x4_11 =>
        L_X9_below_16 t_knots t_beside k_7 n x1 x2 x3 x4_11

set_option maxRecDepth 100000 in
set_option maxHeartbeats 1000000 in
theorem w_X9_below_16 (cA : Nat → ClassId) (q_t : Nat) (q_t_weight : Nat) (q_t_edge : Nat) (t_rowed : Int32) (q_t_row : Nat) (t_bags : Int32) (q_t_bag : Nat) (q_t_up : Nat) (q_t_least : Nat) (t_q : Int32) (q_t_factor : Nat) (q_t_pairFactor : Nat) (q_t_forbidden : Nat) (q_t_mayNot : Nat) (q_t_fixed : Nat) (q_t_state : Nat) (q_t_count : Nat) (q_t_best : Nat) (q_t_bests : Nat) (t_allCount : Int64) (t_allBest : Int64) (t_allBests : Int64) (q_t_beside : Nat) (t_knots : Int32) (t_beside : Nat → Int32) {X : XT}  (C : Cx X cX9_below RX9 (some .int) cA 1 23 5) {kk nn : Nat} {BB : Option Value → va_W → Prop} (hk : kk ≤ (x_R X).cells ∧ nn ≤ (x_R X).slots) (F : Fx X BB kk nn) (r : Int32) (hB : BB (some (.int r)) [oB q_t 9 [.int t_knots, .ref q_t_weight, .ref q_t_beside, .ref q_t_edge, .int t_rowed, .ref q_t_row, .int t_bags, .ref q_t_bag, .ref q_t_up, .ref q_t_least, .int t_q, .ref q_t_factor, .ref q_t_pairFactor, .ref q_t_forbidden, .ref q_t_mayNot, .ref q_t_fixed, .ref q_t_state, .ref q_t_count, .ref q_t_best, .ref q_t_bests, .long t_allCount, .long t_allBest, .long t_allBests], aI cA q_t_beside 14 t_beside]) (k_7 : Int32 → Int32 → Option (Int32)) (h_7 : ∀ (x1 : Int32) (x2 : Int32), k_7 x1 x2 = some r → Go X 5 kk nn 7 [oB q_t 9 [.int t_knots, .ref q_t_weight, .ref q_t_beside, .ref q_t_edge, .int t_rowed, .ref q_t_row, .int t_bags, .ref q_t_bag, .ref q_t_up, .ref q_t_least, .int t_q, .ref q_t_factor, .ref q_t_pairFactor, .ref q_t_forbidden, .ref q_t_mayNot, .ref q_t_fixed, .ref q_t_state, .ref q_t_count, .ref q_t_best, .ref q_t_bests, .long t_allCount, .long t_allBest, .long t_allBests], aI cA q_t_beside 14 t_beside] [(0, .ref q_t), (1, .int x1), (2, .int x2)] []) : ∀ (n : Nat) (x1 : Int32) (x2 : Int32) (x3 : Int32) (x4 : Int32), L_X9_below_16 t_knots t_beside k_7 n x1 x2 x3 x4 = some r → Go X 5 kk nn 16 [oB q_t 9 [.int t_knots, .ref q_t_weight, .ref q_t_beside, .ref q_t_edge, .int t_rowed, .ref q_t_row, .int t_bags, .ref q_t_bag, .ref q_t_up, .ref q_t_least, .int t_q, .ref q_t_factor, .ref q_t_pairFactor, .ref q_t_forbidden, .ref q_t_mayNot, .ref q_t_fixed, .ref q_t_state, .ref q_t_count, .ref q_t_best, .ref q_t_bests, .long t_allCount, .long t_allBest, .long t_allBests], aI cA q_t_beside 14 t_beside] [(0, .ref q_t), (1, .int x1), (2, .int x2), (3, .int x3), (4, .int x4)] [] := by
  intro n
  induction n with
  | zero => intro x1 x2 x3 x4 hf; exact no_some hf
  | succ n ih =>
    intro x1 x2 x3 x4 hf
    rw [L_X9_below_16] at hf
    refine g_iload C 16 4 dX9_below_16 rfl ?_
    refine g_aload_n C 18 0 dX9_below_18 rfl rfl ?_
    refine g_get C 19 0 0 dX9_below_19 inX9 rfl rfl (by decide) kw_339 rfl ?_
    refine g_icmp_ge C 22 76 dX9_below_22 (by decide) hf (fun hf => ?_) (fun hf => ?_)
    · refine g_aload_n C 76 0 dX9_below_76 rfl rfl ?_
      refine g_aload_n C 77 0 dX9_below_77 rfl rfl ?_
      refine g_get C 78 0 2 dX9_below_78 inX9 rfl rfl (by decide) kw_346 rfl ?_
      refine g_iload_n C 81 3 dX9_below_81 rfl rfl ?_
      refine g_iald C 82 1 dX9_below_82 rfl hf (fun v6 hf => ?_)
      refine g_iload_n C 83 1 dX9_below_83 rfl rfl ?_
      refine g_iand C 84 dX9_below_84 ?_
      obtain ⟨u7, hu7, hf⟩ := cal_some hf
      refine g_callV1 C 85 [] 0 (rest := []) dX9_below_85 (c_X9_bits (x_l X) cA q_t (v6 &&& x1) u7 hu7) kw_367 kw_368 kw_369 kw_343 kw_370 ok_X9_bits ⟨Nat.le_of_ble_eq_true rfl, Nat.le_of_ble_eq_true rfl⟩ hk ⟨rfl, rfl⟩ rfl rfl rfl rfl rfl (Nat.le_of_ble_eq_true rfl) rfl (ws' := [oB q_t 9 [.int t_knots, .ref q_t_weight, .ref q_t_beside, .ref q_t_edge, .int t_rowed, .ref q_t_row, .int t_bags, .ref q_t_bag, .ref q_t_up, .ref q_t_least, .int t_q, .ref q_t_factor, .ref q_t_pairFactor, .ref q_t_forbidden, .ref q_t_mayNot, .ref q_t_fixed, .ref q_t_state, .ref q_t_count, .ref q_t_best, .ref q_t_bests, .long t_allCount, .long t_allBest, .long t_allBests], aI cA q_t_beside 14 t_beside]) (st' := [.int u7]) (N0 := 2) rfl [none, none] (by decide) rfl rfl ?_
      refine g_istore C 88 (fun z => [(4, .int z), (0, .ref q_t), (1, .int x1), (2, .int x2), (3, .int x3)]) dX9_below_88 (by decide) (fun _ => rfl) hf (fun x4_8 hf => ?_)
      refine g_iload C 90 0 dX9_below_90 rfl ?_
      refine g_iload_n C 92 3 dX9_below_92 rfl rfl ?_
      refine g_icmp_le C 93 101 dX9_below_93 (by decide) hf (fun hf => ?_) (fun hf => ?_)
      · refine g_iload_n C 101 3 dX9_below_101 rfl rfl ?_
        refine g_lv [1, 2, 4] rfl ?_
        exact w_X9_below_102 cA q_t q_t_weight q_t_edge t_rowed q_t_row t_bags q_t_bag q_t_up q_t_least t_q q_t_factor q_t_pairFactor q_t_forbidden q_t_mayNot q_t_fixed q_t_state q_t_count q_t_best q_t_bests t_allCount t_allBest t_allBests q_t_beside t_knots t_beside C hk F r hB k_7 h_7 x1 x3 x2 hf
      · refine g_iload C 96 0 dX9_below_96 rfl ?_
        refine g_goto C 98 102 dX9_below_98 (by decide) ?_
        refine g_lv [1, 2, 4] rfl ?_
        exact w_X9_below_102 cA q_t q_t_weight q_t_edge t_rowed q_t_row t_bags q_t_bag q_t_up q_t_least t_q q_t_factor q_t_pairFactor q_t_forbidden q_t_mayNot q_t_fixed q_t_state q_t_count q_t_best q_t_bests t_allCount t_allBest t_allBests q_t_beside t_knots t_beside C hk F r hB k_7 h_7 x1 x3 x4_8 hf
    · refine g_iload_n C 25 1 dX9_below_25 rfl rfl ?_
      refine g_iload C 26 4 dX9_below_26 rfl ?_
      refine g_ishr C 28 dX9_below_28 ?_
      refine g_iconst C 29 (1 : Int32) dX9_below_29 (by decide) ?_
      refine g_iand C 30 dX9_below_30 ?_
      refine g_iconst C 31 (1 : Int32) dX9_below_31 (by decide) ?_
      refine g_icmp_ne C 32 70 dX9_below_32 (by decide) hf (fun hf => ?_) (fun hf => ?_)
      · refine g_iinc C 70 4 (v := x4 + (1 : Int32)) (fun z => [(4, .int z), (0, .ref q_t), (1, .int x1), (2, .int x2), (3, .int x3)]) dX9_below_70 rfl rfl (by decide) (fun _ => rfl) hf (fun x4_11 hf => ?_)
        refine g_goto C 73 16 dX9_below_73 (by decide) ?_
        refine g_lv [1, 2, 3, 4, 0] rfl ?_
        exact ih x1 x2 x3 x4_11 hf
      · refine g_iload_n C 35 3 dX9_below_35 rfl rfl ?_
        refine g_if_lt C 36 67 dX9_below_36 (by decide) hf (fun hf => ?_) (fun hf => ?_)
        · refine g_iload C 67 4 dX9_below_67 rfl ?_
          refine g_istore_n C 69 (fun z => [(3, .int z), (0, .ref q_t), (1, .int x1), (2, .int x2), (4, .int x4)]) dX9_below_69 rfl (by decide) (fun _ => rfl) hf (fun x3_12 hf => ?_)
          refine g_iinc C 70 4 (v := x4 + (1 : Int32)) (fun z => [(4, .int z), (3, .int x3_12), (0, .ref q_t), (1, .int x1), (2, .int x2)]) dX9_below_70 rfl rfl (by decide) (fun _ => rfl) hf (fun x4_13 hf => ?_)
          refine g_goto C 73 16 dX9_below_73 (by decide) ?_
          refine g_lv [2, 3, 4, 1, 0] rfl ?_
          exact ih x1 x2 x3_12 x4_13 hf
        · refine g_aload_n C 39 0 dX9_below_39 rfl rfl ?_
          refine g_aload_n C 40 0 dX9_below_40 rfl rfl ?_
          refine g_get C 41 0 2 dX9_below_41 inX9 rfl rfl (by decide) kw_346 rfl ?_
          refine g_iload C 44 4 dX9_below_44 rfl ?_
          refine g_iald C 46 1 dX9_below_46 rfl hf (fun v14 hf => ?_)
          refine g_iload_n C 47 1 dX9_below_47 rfl rfl ?_
          refine g_iand C 48 dX9_below_48 ?_
          obtain ⟨u15, hu15, hf⟩ := cal_some hf
          refine g_callV1 C 49 [] 0 (rest := []) dX9_below_49 (c_X9_bits (x_l X) cA q_t (v14 &&& x1) u15 hu15) kw_367 kw_368 kw_369 kw_343 kw_370 ok_X9_bits ⟨Nat.le_of_ble_eq_true rfl, Nat.le_of_ble_eq_true rfl⟩ hk ⟨rfl, rfl⟩ rfl rfl rfl rfl rfl (Nat.le_of_ble_eq_true rfl) rfl (ws' := [oB q_t 9 [.int t_knots, .ref q_t_weight, .ref q_t_beside, .ref q_t_edge, .int t_rowed, .ref q_t_row, .int t_bags, .ref q_t_bag, .ref q_t_up, .ref q_t_least, .int t_q, .ref q_t_factor, .ref q_t_pairFactor, .ref q_t_forbidden, .ref q_t_mayNot, .ref q_t_fixed, .ref q_t_state, .ref q_t_count, .ref q_t_best, .ref q_t_bests, .long t_allCount, .long t_allBest, .long t_allBests], aI cA q_t_beside 14 t_beside]) (st' := [.int u15]) (N0 := 2) rfl [none, none] (by decide) rfl rfl ?_
          refine g_aload_n C 52 0 dX9_below_52 rfl rfl ?_
          refine g_aload_n C 53 0 dX9_below_53 rfl rfl ?_
          refine g_get C 54 0 2 dX9_below_54 inX9 rfl rfl (by decide) kw_346 rfl ?_
          refine g_iload_n C 57 3 dX9_below_57 rfl rfl ?_
          refine g_iald C 58 1 dX9_below_58 rfl hf (fun v16 hf => ?_)
          refine g_iload_n C 59 1 dX9_below_59 rfl rfl ?_
          refine g_iand C 60 dX9_below_60 ?_
          obtain ⟨u17, hu17, hf⟩ := cal_some hf
          refine g_callV1 C 61 [] 0 (rest := [.int u15]) dX9_below_61 (c_X9_bits (x_l X) cA q_t (v16 &&& x1) u17 hu17) kw_367 kw_368 kw_369 kw_343 kw_370 ok_X9_bits ⟨Nat.le_of_ble_eq_true rfl, Nat.le_of_ble_eq_true rfl⟩ hk ⟨rfl, rfl⟩ rfl rfl rfl rfl rfl (Nat.le_of_ble_eq_true rfl) rfl (ws' := [oB q_t 9 [.int t_knots, .ref q_t_weight, .ref q_t_beside, .ref q_t_edge, .int t_rowed, .ref q_t_row, .int t_bags, .ref q_t_bag, .ref q_t_up, .ref q_t_least, .int t_q, .ref q_t_factor, .ref q_t_pairFactor, .ref q_t_forbidden, .ref q_t_mayNot, .ref q_t_fixed, .ref q_t_state, .ref q_t_count, .ref q_t_best, .ref q_t_bests, .long t_allCount, .long t_allBest, .long t_allBests], aI cA q_t_beside 14 t_beside]) (st' := [.int u17, .int u15]) (N0 := 2) rfl [none, none] (by decide) rfl rfl ?_
          refine g_icmp_ge C 64 70 dX9_below_64 (by decide) hf (fun hf => ?_) (fun hf => ?_)
          · refine g_iinc C 70 4 (v := x4 + (1 : Int32)) (fun z => [(4, .int z), (0, .ref q_t), (1, .int x1), (2, .int x2), (3, .int x3)]) dX9_below_70 rfl rfl (by decide) (fun _ => rfl) hf (fun x4_18 hf => ?_)
            refine g_goto C 73 16 dX9_below_73 (by decide) ?_
            refine g_lv [1, 2, 3, 4, 0] rfl ?_
            exact ih x1 x2 x3 x4_18 hf
          · refine g_iload C 67 4 dX9_below_67 rfl ?_
            refine g_istore_n C 69 (fun z => [(3, .int z), (0, .ref q_t), (1, .int x1), (2, .int x2), (4, .int x4)]) dX9_below_69 rfl (by decide) (fun _ => rfl) hf (fun x3_19 hf => ?_)
            refine g_iinc C 70 4 (v := x4 + (1 : Int32)) (fun z => [(4, .int z), (3, .int x3_19), (0, .ref q_t), (1, .int x1), (2, .int x2)]) dX9_below_70 rfl rfl (by decide) (fun _ => rfl) hf (fun x4_20 hf => ?_)
            refine g_goto C 73 16 dX9_below_73 (by decide) ?_
            refine g_lv [2, 3, 4, 1, 0] rfl ?_
            exact ih x1 x2 x3_19 x4_20 hf
def L_X9_below_7 (t_knots : Int32) (t_beside : Nat → Int32)  : Nat → Int32 → Int32 → Option (Int32)
  | 0, _, _ => none
  | n + 1, x1, x2 =>
    if x1 = 0 then
      some (x2)
    else
      bnd (-1 : Int32) fun x3_4 =>
      bnd (0 : Int32) fun x4_5 =>
      L_X9_below_16 t_knots t_beside (fun y0 y1 => L_X9_below_7 t_knots t_beside n y0 y1) NN x1 x2 x3_4 x4_5

set_option maxRecDepth 100000 in
set_option maxHeartbeats 1000000 in
theorem w_X9_below_7 (cA : Nat → ClassId) (q_t : Nat) (q_t_weight : Nat) (q_t_edge : Nat) (t_rowed : Int32) (q_t_row : Nat) (t_bags : Int32) (q_t_bag : Nat) (q_t_up : Nat) (q_t_least : Nat) (t_q : Int32) (q_t_factor : Nat) (q_t_pairFactor : Nat) (q_t_forbidden : Nat) (q_t_mayNot : Nat) (q_t_fixed : Nat) (q_t_state : Nat) (q_t_count : Nat) (q_t_best : Nat) (q_t_bests : Nat) (t_allCount : Int64) (t_allBest : Int64) (t_allBests : Int64) (q_t_beside : Nat) (t_knots : Int32) (t_beside : Nat → Int32) {X : XT}  (C : Cx X cX9_below RX9 (some .int) cA 1 23 5) {kk nn : Nat} {BB : Option Value → va_W → Prop} (hk : kk ≤ (x_R X).cells ∧ nn ≤ (x_R X).slots) (F : Fx X BB kk nn) (r : Int32) (hB : BB (some (.int r)) [oB q_t 9 [.int t_knots, .ref q_t_weight, .ref q_t_beside, .ref q_t_edge, .int t_rowed, .ref q_t_row, .int t_bags, .ref q_t_bag, .ref q_t_up, .ref q_t_least, .int t_q, .ref q_t_factor, .ref q_t_pairFactor, .ref q_t_forbidden, .ref q_t_mayNot, .ref q_t_fixed, .ref q_t_state, .ref q_t_count, .ref q_t_best, .ref q_t_bests, .long t_allCount, .long t_allBest, .long t_allBests], aI cA q_t_beside 14 t_beside])  : ∀ (n : Nat) (x1 : Int32) (x2 : Int32), L_X9_below_7 t_knots t_beside n x1 x2 = some r → Go X 5 kk nn 7 [oB q_t 9 [.int t_knots, .ref q_t_weight, .ref q_t_beside, .ref q_t_edge, .int t_rowed, .ref q_t_row, .int t_bags, .ref q_t_bag, .ref q_t_up, .ref q_t_least, .int t_q, .ref q_t_factor, .ref q_t_pairFactor, .ref q_t_forbidden, .ref q_t_mayNot, .ref q_t_fixed, .ref q_t_state, .ref q_t_count, .ref q_t_best, .ref q_t_bests, .long t_allCount, .long t_allBest, .long t_allBests], aI cA q_t_beside 14 t_beside] [(0, .ref q_t), (1, .int x1), (2, .int x2)] [] := by
  intro n
  induction n with
  | zero => intro x1 x2 hf; exact no_some hf
  | succ n ih =>
    intro x1 x2 hf
    rw [L_X9_below_7] at hf
    refine g_iload_n C 7 1 dX9_below_7 rfl rfl ?_
    refine g_if_eq C 8 114 dX9_below_8 (by decide) hf (fun hf => ?_) (fun hf => ?_)
    · refine g_iload_n C 114 2 dX9_below_114 rfl rfl ?_
      cases hf
      exact g_iret C 115 dX9_below_115 F hB
    · refine g_iconst C 11 (-1 : Int32) dX9_below_11 (by decide) ?_
      refine g_istore_n C 12 (fun z => [(3, .int z), (0, .ref q_t), (1, .int x1), (2, .int x2)]) dX9_below_12 rfl (by decide) (fun _ => rfl) hf (fun x3_4 hf => ?_)
      refine g_iconst C 13 (0 : Int32) dX9_below_13 (by decide) ?_
      refine g_istore C 14 (fun z => [(4, .int z), (3, .int x3_4), (0, .ref q_t), (1, .int x1), (2, .int x2)]) dX9_below_14 (by decide) (fun _ => rfl) hf (fun x4_5 hf => ?_)
      refine g_lv [2, 3, 4, 1, 0] rfl ?_
      exact w_X9_below_16 cA q_t q_t_weight q_t_edge t_rowed q_t_row t_bags q_t_bag q_t_up q_t_least t_q q_t_factor q_t_pairFactor q_t_forbidden q_t_mayNot q_t_fixed q_t_state q_t_count q_t_best q_t_bests t_allCount t_allBest t_allBests q_t_beside t_knots t_beside C hk F r hB (fun y0 y1 => L_X9_below_7 t_knots t_beside n y0 y1) (fun y0 y1 hf => ih y0 y1 hf) NN x1 x2 x3_4 x4_5 hf
def f_X9_below (t_knots : Int32) (t_beside : Nat → Int32) : Option (Int32) :=
  cal (f_X9_all t_knots) fun u1 =>
  bnd u1 fun x1_2 =>
  bnd (-1 : Int32) fun x2_3 =>
  L_X9_below_7 t_knots t_beside NN x1_2 x2_3

set_option maxRecDepth 100000 in
set_option maxHeartbeats 1000000 in
theorem c_X9_below (l : Launch) (cA : Nat → ClassId) (q_t : Nat) (t_knots : Int32) (q_t_weight : Nat) (q_t_edge : Nat) (t_rowed : Int32) (q_t_row : Nat) (t_bags : Int32) (q_t_bag : Nat) (q_t_up : Nat) (q_t_least : Nat) (t_q : Int32) (q_t_factor : Nat) (q_t_pairFactor : Nat) (q_t_forbidden : Nat) (q_t_mayNot : Nat) (q_t_fixed : Nat) (q_t_state : Nat) (q_t_count : Nat) (q_t_best : Nat) (q_t_bests : Nat) (t_allCount : Int64) (t_allBest : Int64) (t_allBests : Int64) (q_t_beside : Nat) (t_beside : Nat → Int32)   (r : Int32) (hf : f_X9_below t_knots t_beside = some r) : MT l cA yX9_below cX9_below 5 (some .int) ({ frames := 1, cells := 0, slots := 0, locals := 23 } : Room) [.ref q_t] [oB q_t 9 [.int t_knots, .ref q_t_weight, .ref q_t_beside, .ref q_t_edge, .int t_rowed, .ref q_t_row, .int t_bags, .ref q_t_bag, .ref q_t_up, .ref q_t_least, .int t_q, .ref q_t_factor, .ref q_t_pairFactor, .ref q_t_forbidden, .ref q_t_mayNot, .ref q_t_fixed, .ref q_t_state, .ref q_t_count, .ref q_t_best, .ref q_t_bests, .long t_allCount, .long t_allBest, .long t_allBests], aI cA q_t_beside 14 t_beside] (sB (some (.int r)) [oB q_t 9 [.int t_knots, .ref q_t_weight, .ref q_t_beside, .ref q_t_edge, .int t_rowed, .ref q_t_row, .int t_bags, .ref q_t_bag, .ref q_t_up, .ref q_t_least, .int t_q, .ref q_t_factor, .ref q_t_pairFactor, .ref q_t_forbidden, .ref q_t_mayNot, .ref q_t_fixed, .ref q_t_state, .ref q_t_count, .ref q_t_best, .ref q_t_bests, .long t_allCount, .long t_allBest, .long t_allBests], aI cA q_t_beside 14 t_beside]) := by
  refine MT.of (by decide) (Nat.le_of_ble_eq_true rfl) ?_
  intro X hXl C F hnm hrc hrs
  subst hXl
  have hk : 0 ≤ (x_R X).cells ∧ 0 ≤ (x_R X).slots := ⟨Nat.zero_le _, Nat.zero_le _⟩
  have hB : (sB (some (.int r)) [oB q_t 9 [.int t_knots, .ref q_t_weight, .ref q_t_beside, .ref q_t_edge, .int t_rowed, .ref q_t_row, .int t_bags, .ref q_t_bag, .ref q_t_up, .ref q_t_least, .int t_q, .ref q_t_factor, .ref q_t_pairFactor, .ref q_t_forbidden, .ref q_t_mayNot, .ref q_t_fixed, .ref q_t_state, .ref q_t_count, .ref q_t_best, .ref q_t_bests, .long t_allCount, .long t_allBest, .long t_allBests], aI cA q_t_beside 14 t_beside]) (some (.int r)) [oB q_t 9 [.int t_knots, .ref q_t_weight, .ref q_t_beside, .ref q_t_edge, .int t_rowed, .ref q_t_row, .int t_bags, .ref q_t_bag, .ref q_t_up, .ref q_t_least, .int t_q, .ref q_t_factor, .ref q_t_pairFactor, .ref q_t_forbidden, .ref q_t_mayNot, .ref q_t_fixed, .ref q_t_state, .ref q_t_count, .ref q_t_best, .ref q_t_bests, .long t_allCount, .long t_allBest, .long t_allBests], aI cA q_t_beside 14 t_beside] := ⟨rfl, rfl⟩
  unfold f_X9_below at hf
  have C : Cx X cX9_below RX9 (some .int) cA 1 23 5 := C
  show Go X 5 0 0 0 [oB q_t 9 [.int t_knots, .ref q_t_weight, .ref q_t_beside, .ref q_t_edge, .int t_rowed, .ref q_t_row, .int t_bags, .ref q_t_bag, .ref q_t_up, .ref q_t_least, .int t_q, .ref q_t_factor, .ref q_t_pairFactor, .ref q_t_forbidden, .ref q_t_mayNot, .ref q_t_fixed, .ref q_t_state, .ref q_t_count, .ref q_t_best, .ref q_t_bests, .long t_allCount, .long t_allBest, .long t_allBests], aI cA q_t_beside 14 t_beside] [(0, .ref q_t)] []
  refine g_aload_n C 0 0 dX9_below_0 rfl rfl ?_
  obtain ⟨u1, hu1, hf⟩ := cal_some hf
  refine g_callV1 C 1 [0] 0 (rest := []) dX9_below_1 (c_X9_all (x_l X) cA q_t t_knots q_t_weight q_t_beside q_t_edge t_rowed q_t_row t_bags q_t_bag q_t_up q_t_least t_q q_t_factor q_t_pairFactor q_t_forbidden q_t_mayNot q_t_fixed q_t_state q_t_count q_t_best q_t_bests t_allCount t_allBest t_allBests u1 hu1) kw_385 kw_386 kw_387 kw_343 kw_388 ok_X9_all ⟨Nat.le_of_ble_eq_true rfl, Nat.le_of_ble_eq_true rfl⟩ hk ⟨rfl, rfl⟩ rfl rfl rfl rfl rfl (Nat.le_of_ble_eq_true rfl) rfl (ws' := [oB q_t 9 [.int t_knots, .ref q_t_weight, .ref q_t_beside, .ref q_t_edge, .int t_rowed, .ref q_t_row, .int t_bags, .ref q_t_bag, .ref q_t_up, .ref q_t_least, .int t_q, .ref q_t_factor, .ref q_t_pairFactor, .ref q_t_forbidden, .ref q_t_mayNot, .ref q_t_fixed, .ref q_t_state, .ref q_t_count, .ref q_t_best, .ref q_t_bests, .long t_allCount, .long t_allBest, .long t_allBests], aI cA q_t_beside 14 t_beside]) (st' := [.int u1]) (N0 := 2) rfl [some 0, none] (by decide) rfl rfl ?_
  refine g_istore_n C 4 (fun z => [(1, .int z), (0, .ref q_t)]) dX9_below_4 rfl (by decide) (fun _ => rfl) hf (fun x1_2 hf => ?_)
  refine g_iconst C 5 (-1 : Int32) dX9_below_5 (by decide) ?_
  refine g_istore_n C 6 (fun z => [(2, .int z), (1, .int x1_2), (0, .ref q_t)]) dX9_below_6 rfl (by decide) (fun _ => rfl) hf (fun x2_3 hf => ?_)
  refine g_lv [2, 1, 0] rfl ?_
  exact w_X9_below_7 cA q_t q_t_weight q_t_edge t_rowed q_t_row t_bags q_t_bag q_t_up q_t_least t_q q_t_factor q_t_pairFactor q_t_forbidden q_t_mayNot q_t_fixed q_t_state q_t_count q_t_best q_t_bests t_allCount t_allBest t_allBests q_t_beside t_knots t_beside C hk F r hB NN x1_2 x2_3 hf

def f_X9_clear (t_bags : Int32) : Option (Int32 × Int32) :=
  bnd t_bags fun x1_1 =>
  bnd (0 : Int32) fun t_bags_2 =>
  some (x1_1, t_bags_2)

set_option maxRecDepth 100000 in
set_option maxHeartbeats 1000000 in
theorem c_X9_clear (l : Launch) (cA : Nat → ClassId) (q_t : Nat) (t_knots : Int32) (q_t_weight : Nat) (q_t_beside : Nat) (q_t_edge : Nat) (t_rowed : Int32) (q_t_row : Nat) (t_bags : Int32) (q_t_bag : Nat) (q_t_up : Nat) (q_t_least : Nat) (t_q : Int32) (q_t_factor : Nat) (q_t_pairFactor : Nat) (q_t_forbidden : Nat) (q_t_mayNot : Nat) (q_t_fixed : Nat) (q_t_state : Nat) (q_t_count : Nat) (q_t_best : Nat) (q_t_bests : Nat) (t_allCount : Int64) (t_allBest : Int64) (t_allBests : Int64)   (r : Int32 × Int32) (hf : f_X9_clear t_bags = some r) : MT l cA yX9_clear cX9_clear 2 (some .int) ({ frames := 0, cells := 0, slots := 0, locals := 0 } : Room) [.ref q_t] [oB q_t 9 [.int t_knots, .ref q_t_weight, .ref q_t_beside, .ref q_t_edge, .int t_rowed, .ref q_t_row, .int t_bags, .ref q_t_bag, .ref q_t_up, .ref q_t_least, .int t_q, .ref q_t_factor, .ref q_t_pairFactor, .ref q_t_forbidden, .ref q_t_mayNot, .ref q_t_fixed, .ref q_t_state, .ref q_t_count, .ref q_t_best, .ref q_t_bests, .long t_allCount, .long t_allBest, .long t_allBests]] (sB (some (.int r.1)) [oB q_t 9 [.int t_knots, .ref q_t_weight, .ref q_t_beside, .ref q_t_edge, .int t_rowed, .ref q_t_row, .int r.2, .ref q_t_bag, .ref q_t_up, .ref q_t_least, .int t_q, .ref q_t_factor, .ref q_t_pairFactor, .ref q_t_forbidden, .ref q_t_mayNot, .ref q_t_fixed, .ref q_t_state, .ref q_t_count, .ref q_t_best, .ref q_t_bests, .long t_allCount, .long t_allBest, .long t_allBests]]) := by
  refine MT.of (by decide) (Nat.le_of_ble_eq_true rfl) ?_
  intro X hXl C F hnm hrc hrs
  subst hXl
  have hk : 0 ≤ (x_R X).cells ∧ 0 ≤ (x_R X).slots := ⟨Nat.zero_le _, Nat.zero_le _⟩
  have hB : (sB (some (.int r.1)) [oB q_t 9 [.int t_knots, .ref q_t_weight, .ref q_t_beside, .ref q_t_edge, .int t_rowed, .ref q_t_row, .int r.2, .ref q_t_bag, .ref q_t_up, .ref q_t_least, .int t_q, .ref q_t_factor, .ref q_t_pairFactor, .ref q_t_forbidden, .ref q_t_mayNot, .ref q_t_fixed, .ref q_t_state, .ref q_t_count, .ref q_t_best, .ref q_t_bests, .long t_allCount, .long t_allBest, .long t_allBests]]) (some (.int r.1)) [oB q_t 9 [.int t_knots, .ref q_t_weight, .ref q_t_beside, .ref q_t_edge, .int t_rowed, .ref q_t_row, .int r.2, .ref q_t_bag, .ref q_t_up, .ref q_t_least, .int t_q, .ref q_t_factor, .ref q_t_pairFactor, .ref q_t_forbidden, .ref q_t_mayNot, .ref q_t_fixed, .ref q_t_state, .ref q_t_count, .ref q_t_best, .ref q_t_bests, .long t_allCount, .long t_allBest, .long t_allBests]] := ⟨rfl, rfl⟩
  unfold f_X9_clear at hf
  have C : Cx X cX9_clear RX9 (some .int) cA 0 0 2 := C
  show Go X 2 0 0 0 [oB q_t 9 [.int t_knots, .ref q_t_weight, .ref q_t_beside, .ref q_t_edge, .int t_rowed, .ref q_t_row, .int t_bags, .ref q_t_bag, .ref q_t_up, .ref q_t_least, .int t_q, .ref q_t_factor, .ref q_t_pairFactor, .ref q_t_forbidden, .ref q_t_mayNot, .ref q_t_fixed, .ref q_t_state, .ref q_t_count, .ref q_t_best, .ref q_t_bests, .long t_allCount, .long t_allBest, .long t_allBests]] [(0, .ref q_t)] []
  refine g_aload_n C 0 0 dX9_clear_0 rfl rfl ?_
  refine g_get C 1 0 6 dX9_clear_1 inX9 rfl rfl (by decide) kw_348 rfl ?_
  refine g_istore_n C 4 (fun z => [(1, .int z), (0, .ref q_t)]) dX9_clear_4 rfl (by decide) (fun _ => rfl) hf (fun x1_1 hf => ?_)
  refine g_aload_n C 5 1 dX9_clear_5 rfl rfl ?_
  refine g_iconst C 6 (0 : Int32) dX9_clear_6 (by decide) ?_
  refine g_puti C 7 0 6 tyX9 (fun z => [oB q_t 9 [.int t_knots, .ref q_t_weight, .ref q_t_beside, .ref q_t_edge, .int t_rowed, .ref q_t_row, .int z, .ref q_t_bag, .ref q_t_up, .ref q_t_least, .int t_q, .ref q_t_factor, .ref q_t_pairFactor, .ref q_t_forbidden, .ref q_t_mayNot, .ref q_t_fixed, .ref q_t_state, .ref q_t_count, .ref q_t_best, .ref q_t_bests, .long t_allCount, .long t_allBest, .long t_allBests]]) dX9_clear_7 inX9 tyX9_ok nmX9 rfl rfl (by decide) kw_348 rfl rfl (Nat.le_of_ble_eq_true rfl) (fun _ => rfl) hf (fun t_bags_2 hf => ?_)
  refine g_iload_n C 10 0 dX9_clear_10 rfl rfl ?_
  cases hf
  exact g_iret C 11 dX9_clear_11 F hB

def J_X9_bag_52 (a1 : Int32) (t_knots : Int32)  (t_bags : Int32) (t_bag : Nat → Int32) (t_up : Nat → Int32) : Option (Int32 × Int32 × (Nat → Int32) × (Nat → Int32)) :=
  stI t_bag 14 t_bags a1 fun t_bag_2 =>
  stI t_up 14 t_bags (-1 : Int32) fun t_up_3 =>
  bnd (t_bags + (1 : Int32)) fun t_bags_4 =>
  some ((t_bags_4 - (1 : Int32)), t_bags_4, t_bag_2, t_up_3)

set_option maxRecDepth 100000 in
set_option maxHeartbeats 1000000 in
theorem w_X9_bag_52 (cA : Nat → ClassId) (q_t : Nat) (q_t_weight : Nat) (q_t_beside : Nat) (q_t_edge : Nat) (t_rowed : Int32) (q_t_row : Nat) (q_t_least : Nat) (t_q : Int32) (q_t_factor : Nat) (q_t_pairFactor : Nat) (q_t_forbidden : Nat) (q_t_mayNot : Nat) (q_t_fixed : Nat) (q_t_state : Nat) (q_t_count : Nat) (q_t_best : Nat) (q_t_bests : Nat) (t_allCount : Int64) (t_allBest : Int64) (t_allBests : Int64) (q_t_bag : Nat) (q_t_up : Nat) (a1 : Int32) (t_knots : Int32) {X : XT}  (C : Cx X cX9_bag RX9 (some .int) cA 1 20 2) {kk nn : Nat} {BB : Option Value → va_W → Prop} (hk : kk ≤ (x_R X).cells ∧ nn ≤ (x_R X).slots) (F : Fx X BB kk nn) (r : Int32 × Int32 × (Nat → Int32) × (Nat → Int32)) (hB : BB (some (.int r.1)) [oB q_t 9 [.int t_knots, .ref q_t_weight, .ref q_t_beside, .ref q_t_edge, .int t_rowed, .ref q_t_row, .int r.2.1, .ref q_t_bag, .ref q_t_up, .ref q_t_least, .int t_q, .ref q_t_factor, .ref q_t_pairFactor, .ref q_t_forbidden, .ref q_t_mayNot, .ref q_t_fixed, .ref q_t_state, .ref q_t_count, .ref q_t_best, .ref q_t_bests, .long t_allCount, .long t_allBest, .long t_allBests], aI cA q_t_bag 14 r.2.2.1, aI cA q_t_up 14 r.2.2.2])  : ∀ (t_bags : Int32) (t_bag : Nat → Int32) (t_up : Nat → Int32), J_X9_bag_52 a1 t_knots t_bags t_bag t_up = some r → Go X 2 kk nn 52 [oB q_t 9 [.int t_knots, .ref q_t_weight, .ref q_t_beside, .ref q_t_edge, .int t_rowed, .ref q_t_row, .int t_bags, .ref q_t_bag, .ref q_t_up, .ref q_t_least, .int t_q, .ref q_t_factor, .ref q_t_pairFactor, .ref q_t_forbidden, .ref q_t_mayNot, .ref q_t_fixed, .ref q_t_state, .ref q_t_count, .ref q_t_best, .ref q_t_bests, .long t_allCount, .long t_allBest, .long t_allBests], aI cA q_t_bag 14 t_bag, aI cA q_t_up 14 t_up] [(0, .ref q_t), (1, .int a1)] [] := by
  intro t_bags t_bag t_up hf
  unfold J_X9_bag_52 at hf
  refine g_aload_n C 52 0 dX9_bag_52 rfl rfl ?_
  refine g_get C 53 0 7 dX9_bag_53 inX9 rfl rfl (by decide) kw_371 rfl ?_
  refine g_aload_n C 56 0 dX9_bag_56 rfl rfl ?_
  refine g_get C 57 0 6 dX9_bag_57 inX9 rfl rfl (by decide) kw_348 rfl ?_
  refine g_iload_n C 60 1 dX9_bag_60 rfl rfl ?_
  refine g_iast C 61 1 (fun z => [oB q_t 9 [.int t_knots, .ref q_t_weight, .ref q_t_beside, .ref q_t_edge, .int t_rowed, .ref q_t_row, .int t_bags, .ref q_t_bag, .ref q_t_up, .ref q_t_least, .int t_q, .ref q_t_factor, .ref q_t_pairFactor, .ref q_t_forbidden, .ref q_t_mayNot, .ref q_t_fixed, .ref q_t_state, .ref q_t_count, .ref q_t_best, .ref q_t_bests, .long t_allCount, .long t_allBest, .long t_allBests], aI cA q_t_bag 14 z, aI cA q_t_up 14 t_up]) dX9_bag_61 rfl (fun _ => rfl) hf (fun t_bag_2 hf => ?_)
  refine g_aload_n C 62 0 dX9_bag_62 rfl rfl ?_
  refine g_get C 63 0 8 dX9_bag_63 inX9 rfl rfl (by decide) kw_380 rfl ?_
  refine g_aload_n C 66 0 dX9_bag_66 rfl rfl ?_
  refine g_get C 67 0 6 dX9_bag_67 inX9 rfl rfl (by decide) kw_348 rfl ?_
  refine g_iconst C 70 (-1 : Int32) dX9_bag_70 (by decide) ?_
  refine g_iast C 71 2 (fun z => [oB q_t 9 [.int t_knots, .ref q_t_weight, .ref q_t_beside, .ref q_t_edge, .int t_rowed, .ref q_t_row, .int t_bags, .ref q_t_bag, .ref q_t_up, .ref q_t_least, .int t_q, .ref q_t_factor, .ref q_t_pairFactor, .ref q_t_forbidden, .ref q_t_mayNot, .ref q_t_fixed, .ref q_t_state, .ref q_t_count, .ref q_t_best, .ref q_t_bests, .long t_allCount, .long t_allBest, .long t_allBests], aI cA q_t_bag 14 t_bag_2, aI cA q_t_up 14 z]) dX9_bag_71 rfl (fun _ => rfl) hf (fun t_up_3 hf => ?_)
  refine g_aload_n C 72 0 dX9_bag_72 rfl rfl ?_
  refine g_dup C 73 dX9_bag_73 rfl ?_
  refine g_get C 74 0 6 dX9_bag_74 inX9 rfl rfl (by decide) kw_348 rfl ?_
  refine g_iconst C 77 (1 : Int32) dX9_bag_77 (by decide) ?_
  refine g_iadd C 78 dX9_bag_78 ?_
  refine g_puti C 79 0 6 tyX9 (fun z => [oB q_t 9 [.int t_knots, .ref q_t_weight, .ref q_t_beside, .ref q_t_edge, .int t_rowed, .ref q_t_row, .int z, .ref q_t_bag, .ref q_t_up, .ref q_t_least, .int t_q, .ref q_t_factor, .ref q_t_pairFactor, .ref q_t_forbidden, .ref q_t_mayNot, .ref q_t_fixed, .ref q_t_state, .ref q_t_count, .ref q_t_best, .ref q_t_bests, .long t_allCount, .long t_allBest, .long t_allBests], aI cA q_t_bag 14 t_bag_2, aI cA q_t_up 14 t_up_3]) dX9_bag_79 inX9 tyX9_ok nmX9 rfl rfl (by decide) kw_348 rfl rfl (Nat.le_of_ble_eq_true rfl) (fun _ => rfl) hf (fun t_bags_4 hf => ?_)
  refine g_aload_n C 82 0 dX9_bag_82 rfl rfl ?_
  refine g_get C 83 0 6 dX9_bag_83 inX9 rfl rfl (by decide) kw_348 rfl ?_
  refine g_iconst C 86 (1 : Int32) dX9_bag_86 (by decide) ?_
  refine g_isub C 87 dX9_bag_87 ?_
  cases hf
  exact g_iret C 88 dX9_bag_88 F hB
def f_X9_bag (a1 : Int32) (t_knots : Int32) (t_bags : Int32) (t_bag : Nat → Int32) (t_up : Nat → Int32) : Option (Int32 × Int32 × (Nat → Int32) × (Nat → Int32)) :=
  if a1 ≤ 0 then
    some ((-2 : Int32), t_bags, t_bag, t_up)
  else
    cal (f_X9_all t_knots) fun u1 =>
    if (a1 &&& (u1 ^^^ (-1 : Int32))) = 0 then
      if t_bags = (14 : Int32) then
        some ((-3 : Int32), t_bags, t_bag, t_up)
      else
        if t_bags ≤ 0 then
          J_X9_bag_52 a1 t_knots t_bags t_bag t_up
        else
          stI t_up 14 (t_bags - (1 : Int32)) t_bags fun t_up_5 =>
          J_X9_bag_52 a1 t_knots t_bags t_bag t_up_5
    else
      some ((-2 : Int32), t_bags, t_bag, t_up)

set_option maxRecDepth 100000 in
set_option maxHeartbeats 1000000 in
theorem c_X9_bag (l : Launch) (cA : Nat → ClassId) (q_t : Nat) (t_knots : Int32) (q_t_weight : Nat) (q_t_beside : Nat) (q_t_edge : Nat) (t_rowed : Int32) (q_t_row : Nat) (t_bags : Int32) (q_t_least : Nat) (t_q : Int32) (q_t_factor : Nat) (q_t_pairFactor : Nat) (q_t_forbidden : Nat) (q_t_mayNot : Nat) (q_t_fixed : Nat) (q_t_state : Nat) (q_t_count : Nat) (q_t_best : Nat) (q_t_bests : Nat) (t_allCount : Int64) (t_allBest : Int64) (t_allBests : Int64) (q_t_bag : Nat) (t_bag : Nat → Int32) (q_t_up : Nat) (t_up : Nat → Int32)  (a1 : Int32) (r : Int32 × Int32 × (Nat → Int32) × (Nat → Int32)) (hf : f_X9_bag a1 t_knots t_bags t_bag t_up = some r) : MT l cA yX9_bag cX9_bag 2 (some .int) ({ frames := 1, cells := 0, slots := 0, locals := 20 } : Room) [.ref q_t, .int a1] [oB q_t 9 [.int t_knots, .ref q_t_weight, .ref q_t_beside, .ref q_t_edge, .int t_rowed, .ref q_t_row, .int t_bags, .ref q_t_bag, .ref q_t_up, .ref q_t_least, .int t_q, .ref q_t_factor, .ref q_t_pairFactor, .ref q_t_forbidden, .ref q_t_mayNot, .ref q_t_fixed, .ref q_t_state, .ref q_t_count, .ref q_t_best, .ref q_t_bests, .long t_allCount, .long t_allBest, .long t_allBests], aI cA q_t_bag 14 t_bag, aI cA q_t_up 14 t_up] (sB (some (.int r.1)) [oB q_t 9 [.int t_knots, .ref q_t_weight, .ref q_t_beside, .ref q_t_edge, .int t_rowed, .ref q_t_row, .int r.2.1, .ref q_t_bag, .ref q_t_up, .ref q_t_least, .int t_q, .ref q_t_factor, .ref q_t_pairFactor, .ref q_t_forbidden, .ref q_t_mayNot, .ref q_t_fixed, .ref q_t_state, .ref q_t_count, .ref q_t_best, .ref q_t_bests, .long t_allCount, .long t_allBest, .long t_allBests], aI cA q_t_bag 14 r.2.2.1, aI cA q_t_up 14 r.2.2.2]) := by
  refine MT.of (by decide) (Nat.le_of_ble_eq_true rfl) ?_
  intro X hXl C F hnm hrc hrs
  subst hXl
  have hk : 0 ≤ (x_R X).cells ∧ 0 ≤ (x_R X).slots := ⟨Nat.zero_le _, Nat.zero_le _⟩
  have hB : (sB (some (.int r.1)) [oB q_t 9 [.int t_knots, .ref q_t_weight, .ref q_t_beside, .ref q_t_edge, .int t_rowed, .ref q_t_row, .int r.2.1, .ref q_t_bag, .ref q_t_up, .ref q_t_least, .int t_q, .ref q_t_factor, .ref q_t_pairFactor, .ref q_t_forbidden, .ref q_t_mayNot, .ref q_t_fixed, .ref q_t_state, .ref q_t_count, .ref q_t_best, .ref q_t_bests, .long t_allCount, .long t_allBest, .long t_allBests], aI cA q_t_bag 14 r.2.2.1, aI cA q_t_up 14 r.2.2.2]) (some (.int r.1)) [oB q_t 9 [.int t_knots, .ref q_t_weight, .ref q_t_beside, .ref q_t_edge, .int t_rowed, .ref q_t_row, .int r.2.1, .ref q_t_bag, .ref q_t_up, .ref q_t_least, .int t_q, .ref q_t_factor, .ref q_t_pairFactor, .ref q_t_forbidden, .ref q_t_mayNot, .ref q_t_fixed, .ref q_t_state, .ref q_t_count, .ref q_t_best, .ref q_t_bests, .long t_allCount, .long t_allBest, .long t_allBests], aI cA q_t_bag 14 r.2.2.1, aI cA q_t_up 14 r.2.2.2] := ⟨rfl, rfl⟩
  unfold f_X9_bag at hf
  have C : Cx X cX9_bag RX9 (some .int) cA 1 20 2 := C
  show Go X 2 0 0 0 [oB q_t 9 [.int t_knots, .ref q_t_weight, .ref q_t_beside, .ref q_t_edge, .int t_rowed, .ref q_t_row, .int t_bags, .ref q_t_bag, .ref q_t_up, .ref q_t_least, .int t_q, .ref q_t_factor, .ref q_t_pairFactor, .ref q_t_forbidden, .ref q_t_mayNot, .ref q_t_fixed, .ref q_t_state, .ref q_t_count, .ref q_t_best, .ref q_t_bests, .long t_allCount, .long t_allBest, .long t_allBests], aI cA q_t_bag 14 t_bag, aI cA q_t_up 14 t_up] [(0, .ref q_t), (1, .int a1)] []
  refine g_iload_n C 0 1 dX9_bag_0 rfl rfl ?_
  refine g_if_le C 1 15 dX9_bag_1 (by decide) hf (fun hf => ?_) (fun hf => ?_)
  · refine g_bipush C 15 (-2 : Int32) dX9_bag_15 (by decide) ?_
    cases hf
    exact g_iret C 17 dX9_bag_17 F hB
  · refine g_iload_n C 4 1 dX9_bag_4 rfl rfl ?_
    refine g_aload_n C 5 0 dX9_bag_5 rfl rfl ?_
    obtain ⟨u1, hu1, hf⟩ := cal_some hf
    refine g_callV1 C 6 [0] 0 (rest := [.int a1]) dX9_bag_6 (c_X9_all (x_l X) cA q_t t_knots q_t_weight q_t_beside q_t_edge t_rowed q_t_row t_bags q_t_bag q_t_up q_t_least t_q q_t_factor q_t_pairFactor q_t_forbidden q_t_mayNot q_t_fixed q_t_state q_t_count q_t_best q_t_bests t_allCount t_allBest t_allBests u1 hu1) kw_385 kw_386 kw_387 kw_343 kw_388 ok_X9_all ⟨Nat.le_of_ble_eq_true rfl, Nat.le_of_ble_eq_true rfl⟩ hk ⟨rfl, rfl⟩ rfl rfl rfl rfl rfl (Nat.le_of_ble_eq_true rfl) rfl (ws' := [oB q_t 9 [.int t_knots, .ref q_t_weight, .ref q_t_beside, .ref q_t_edge, .int t_rowed, .ref q_t_row, .int t_bags, .ref q_t_bag, .ref q_t_up, .ref q_t_least, .int t_q, .ref q_t_factor, .ref q_t_pairFactor, .ref q_t_forbidden, .ref q_t_mayNot, .ref q_t_fixed, .ref q_t_state, .ref q_t_count, .ref q_t_best, .ref q_t_bests, .long t_allCount, .long t_allBest, .long t_allBests], aI cA q_t_bag 14 t_bag, aI cA q_t_up 14 t_up]) (st' := [.int u1, .int a1]) (N0 := 3) rfl [some 0, none, none] (by decide) rfl rfl ?_
    refine g_iconst C 9 (-1 : Int32) dX9_bag_9 (by decide) ?_
    refine g_ixor C 10 dX9_bag_10 ?_
    refine g_iand C 11 dX9_bag_11 ?_
    refine g_if_eq C 12 18 dX9_bag_12 (by decide) hf (fun hf => ?_) (fun hf => ?_)
    · refine g_aload_n C 18 0 dX9_bag_18 rfl rfl ?_
      refine g_get C 19 0 6 dX9_bag_19 inX9 rfl rfl (by decide) kw_348 rfl ?_
      refine g_bipush C 22 (14 : Int32) dX9_bag_22 (by decide) ?_
      refine g_icmp_ne C 24 30 dX9_bag_24 (by decide) hf (fun hf => ?_) (fun hf => ?_)
      · refine g_aload_n C 30 0 dX9_bag_30 rfl rfl ?_
        refine g_get C 31 0 6 dX9_bag_31 inX9 rfl rfl (by decide) kw_348 rfl ?_
        refine g_if_le C 34 52 dX9_bag_34 (by decide) hf (fun hf => ?_) (fun hf => ?_)
        · exact w_X9_bag_52 cA q_t q_t_weight q_t_beside q_t_edge t_rowed q_t_row q_t_least t_q q_t_factor q_t_pairFactor q_t_forbidden q_t_mayNot q_t_fixed q_t_state q_t_count q_t_best q_t_bests t_allCount t_allBest t_allBests q_t_bag q_t_up a1 t_knots C hk F r hB t_bags t_bag t_up hf
        · refine g_aload_n C 37 0 dX9_bag_37 rfl rfl ?_
          refine g_get C 38 0 8 dX9_bag_38 inX9 rfl rfl (by decide) kw_380 rfl ?_
          refine g_aload_n C 41 0 dX9_bag_41 rfl rfl ?_
          refine g_get C 42 0 6 dX9_bag_42 inX9 rfl rfl (by decide) kw_348 rfl ?_
          refine g_iconst C 45 (1 : Int32) dX9_bag_45 (by decide) ?_
          refine g_isub C 46 dX9_bag_46 ?_
          refine g_aload_n C 47 0 dX9_bag_47 rfl rfl ?_
          refine g_get C 48 0 6 dX9_bag_48 inX9 rfl rfl (by decide) kw_348 rfl ?_
          refine g_iast C 51 2 (fun z => [oB q_t 9 [.int t_knots, .ref q_t_weight, .ref q_t_beside, .ref q_t_edge, .int t_rowed, .ref q_t_row, .int t_bags, .ref q_t_bag, .ref q_t_up, .ref q_t_least, .int t_q, .ref q_t_factor, .ref q_t_pairFactor, .ref q_t_forbidden, .ref q_t_mayNot, .ref q_t_fixed, .ref q_t_state, .ref q_t_count, .ref q_t_best, .ref q_t_bests, .long t_allCount, .long t_allBest, .long t_allBests], aI cA q_t_bag 14 t_bag, aI cA q_t_up 14 z]) dX9_bag_51 rfl (fun _ => rfl) hf (fun t_up_5 hf => ?_)
          exact w_X9_bag_52 cA q_t q_t_weight q_t_beside q_t_edge t_rowed q_t_row q_t_least t_q q_t_factor q_t_pairFactor q_t_forbidden q_t_mayNot q_t_fixed q_t_state q_t_count q_t_best q_t_bests t_allCount t_allBest t_allBests q_t_bag q_t_up a1 t_knots C hk F r hB t_bags t_bag t_up_5 hf
      · refine g_bipush C 27 (-3 : Int32) dX9_bag_27 (by decide) ?_
        cases hf
        exact g_iret C 29 dX9_bag_29 F hB
    · refine g_bipush C 15 (-2 : Int32) dX9_bag_15 (by decide) ?_
      cases hf
      exact g_iret C 17 dX9_bag_17 F hB

def f_X9_hang (a1 : Int32) (a2 : Int32) (t_bags : Int32) (t_up : Nat → Int32) : Option (Int32 × (Nat → Int32)) :=
  if a1 < 0 then
    some ((-1 : Int32), t_up)
  else
    if t_bags ≤ a1 then
      some ((-1 : Int32), t_up)
    else
      if a2 < 0 then
        some ((-1 : Int32), t_up)
      else
        if a2 < t_bags then
          if a1 = (t_bags - (1 : Int32)) then
            some ((-2 : Int32), t_up)
          else
            if a1 < a2 then
              ldA t_up 14 a1 fun v1 =>
              bnd v1 fun x3_2 =>
              stI t_up 14 a1 a2 fun t_up_3 =>
              some (x3_2, t_up_3)
            else
              some ((-2 : Int32), t_up)
        else
          some ((-1 : Int32), t_up)

set_option maxRecDepth 100000 in
set_option maxHeartbeats 1000000 in
theorem c_X9_hang (l : Launch) (cA : Nat → ClassId) (q_t : Nat) (t_knots : Int32) (q_t_weight : Nat) (q_t_beside : Nat) (q_t_edge : Nat) (t_rowed : Int32) (q_t_row : Nat) (t_bags : Int32) (q_t_bag : Nat) (q_t_least : Nat) (t_q : Int32) (q_t_factor : Nat) (q_t_pairFactor : Nat) (q_t_forbidden : Nat) (q_t_mayNot : Nat) (q_t_fixed : Nat) (q_t_state : Nat) (q_t_count : Nat) (q_t_best : Nat) (q_t_bests : Nat) (t_allCount : Int64) (t_allBest : Int64) (t_allBests : Int64) (q_t_up : Nat) (t_up : Nat → Int32)  (a1 : Int32) (a2 : Int32) (r : Int32 × (Nat → Int32)) (hf : f_X9_hang a1 a2 t_bags t_up = some r) : MT l cA yX9_hang cX9_hang 4 (some .int) ({ frames := 0, cells := 0, slots := 0, locals := 0 } : Room) [.ref q_t, .int a1, .int a2] [oB q_t 9 [.int t_knots, .ref q_t_weight, .ref q_t_beside, .ref q_t_edge, .int t_rowed, .ref q_t_row, .int t_bags, .ref q_t_bag, .ref q_t_up, .ref q_t_least, .int t_q, .ref q_t_factor, .ref q_t_pairFactor, .ref q_t_forbidden, .ref q_t_mayNot, .ref q_t_fixed, .ref q_t_state, .ref q_t_count, .ref q_t_best, .ref q_t_bests, .long t_allCount, .long t_allBest, .long t_allBests], aI cA q_t_up 14 t_up] (sB (some (.int r.1)) [oB q_t 9 [.int t_knots, .ref q_t_weight, .ref q_t_beside, .ref q_t_edge, .int t_rowed, .ref q_t_row, .int t_bags, .ref q_t_bag, .ref q_t_up, .ref q_t_least, .int t_q, .ref q_t_factor, .ref q_t_pairFactor, .ref q_t_forbidden, .ref q_t_mayNot, .ref q_t_fixed, .ref q_t_state, .ref q_t_count, .ref q_t_best, .ref q_t_bests, .long t_allCount, .long t_allBest, .long t_allBests], aI cA q_t_up 14 r.2]) := by
  refine MT.of (by decide) (Nat.le_of_ble_eq_true rfl) ?_
  intro X hXl C F hnm hrc hrs
  subst hXl
  have hk : 0 ≤ (x_R X).cells ∧ 0 ≤ (x_R X).slots := ⟨Nat.zero_le _, Nat.zero_le _⟩
  have hB : (sB (some (.int r.1)) [oB q_t 9 [.int t_knots, .ref q_t_weight, .ref q_t_beside, .ref q_t_edge, .int t_rowed, .ref q_t_row, .int t_bags, .ref q_t_bag, .ref q_t_up, .ref q_t_least, .int t_q, .ref q_t_factor, .ref q_t_pairFactor, .ref q_t_forbidden, .ref q_t_mayNot, .ref q_t_fixed, .ref q_t_state, .ref q_t_count, .ref q_t_best, .ref q_t_bests, .long t_allCount, .long t_allBest, .long t_allBests], aI cA q_t_up 14 r.2]) (some (.int r.1)) [oB q_t 9 [.int t_knots, .ref q_t_weight, .ref q_t_beside, .ref q_t_edge, .int t_rowed, .ref q_t_row, .int t_bags, .ref q_t_bag, .ref q_t_up, .ref q_t_least, .int t_q, .ref q_t_factor, .ref q_t_pairFactor, .ref q_t_forbidden, .ref q_t_mayNot, .ref q_t_fixed, .ref q_t_state, .ref q_t_count, .ref q_t_best, .ref q_t_bests, .long t_allCount, .long t_allBest, .long t_allBests], aI cA q_t_up 14 r.2] := ⟨rfl, rfl⟩
  unfold f_X9_hang at hf
  have C : Cx X cX9_hang RX9 (some .int) cA 0 0 4 := C
  show Go X 4 0 0 0 [oB q_t 9 [.int t_knots, .ref q_t_weight, .ref q_t_beside, .ref q_t_edge, .int t_rowed, .ref q_t_row, .int t_bags, .ref q_t_bag, .ref q_t_up, .ref q_t_least, .int t_q, .ref q_t_factor, .ref q_t_pairFactor, .ref q_t_forbidden, .ref q_t_mayNot, .ref q_t_fixed, .ref q_t_state, .ref q_t_count, .ref q_t_best, .ref q_t_bests, .long t_allCount, .long t_allBest, .long t_allBests], aI cA q_t_up 14 t_up] [(0, .ref q_t), (1, .int a1), (2, .int a2)] []
  refine g_iload_n C 0 1 dX9_hang_0 rfl rfl ?_
  refine g_if_lt C 1 24 dX9_hang_1 (by decide) hf (fun hf => ?_) (fun hf => ?_)
  · refine g_iconst C 24 (-1 : Int32) dX9_hang_24 (by decide) ?_
    cases hf
    exact g_iret C 25 dX9_hang_25 F hB
  · refine g_iload_n C 4 1 dX9_hang_4 rfl rfl ?_
    refine g_aload_n C 5 0 dX9_hang_5 rfl rfl ?_
    refine g_get C 6 0 6 dX9_hang_6 inX9 rfl rfl (by decide) kw_348 rfl ?_
    refine g_icmp_ge C 9 24 dX9_hang_9 (by decide) hf (fun hf => ?_) (fun hf => ?_)
    · refine g_iconst C 24 (-1 : Int32) dX9_hang_24 (by decide) ?_
      cases hf
      exact g_iret C 25 dX9_hang_25 F hB
    · refine g_iload_n C 12 2 dX9_hang_12 rfl rfl ?_
      refine g_if_lt C 13 24 dX9_hang_13 (by decide) hf (fun hf => ?_) (fun hf => ?_)
      · refine g_iconst C 24 (-1 : Int32) dX9_hang_24 (by decide) ?_
        cases hf
        exact g_iret C 25 dX9_hang_25 F hB
      · refine g_iload_n C 16 2 dX9_hang_16 rfl rfl ?_
        refine g_aload_n C 17 0 dX9_hang_17 rfl rfl ?_
        refine g_get C 18 0 6 dX9_hang_18 inX9 rfl rfl (by decide) kw_348 rfl ?_
        refine g_icmp_lt C 21 26 dX9_hang_21 (by decide) hf (fun hf => ?_) (fun hf => ?_)
        · refine g_iload_n C 26 1 dX9_hang_26 rfl rfl ?_
          refine g_aload_n C 27 0 dX9_hang_27 rfl rfl ?_
          refine g_get C 28 0 6 dX9_hang_28 inX9 rfl rfl (by decide) kw_348 rfl ?_
          refine g_iconst C 31 (1 : Int32) dX9_hang_31 (by decide) ?_
          refine g_isub C 32 dX9_hang_32 ?_
          refine g_icmp_eq C 33 41 dX9_hang_33 (by decide) hf (fun hf => ?_) (fun hf => ?_)
          · refine g_bipush C 41 (-2 : Int32) dX9_hang_41 (by decide) ?_
            cases hf
            exact g_iret C 43 dX9_hang_43 F hB
          · refine g_iload_n C 36 2 dX9_hang_36 rfl rfl ?_
            refine g_iload_n C 37 1 dX9_hang_37 rfl rfl ?_
            refine g_icmp_gt C 38 44 dX9_hang_38 (by decide) hf (fun hf => ?_) (fun hf => ?_)
            · refine g_aload_n C 44 0 dX9_hang_44 rfl rfl ?_
              refine g_get C 45 0 8 dX9_hang_45 inX9 rfl rfl (by decide) kw_380 rfl ?_
              refine g_iload_n C 48 1 dX9_hang_48 rfl rfl ?_
              refine g_iald C 49 1 dX9_hang_49 rfl hf (fun v1 hf => ?_)
              refine g_istore_n C 50 (fun z => [(3, .int z), (0, .ref q_t), (1, .int a1), (2, .int a2)]) dX9_hang_50 rfl (by decide) (fun _ => rfl) hf (fun x3_2 hf => ?_)
              refine g_aload_n C 51 1 dX9_hang_51 rfl rfl ?_
              refine g_get C 52 0 8 dX9_hang_52 inX9 rfl rfl (by decide) kw_380 rfl ?_
              refine g_iload_n C 55 2 dX9_hang_55 rfl rfl ?_
              refine g_iload_n C 56 3 dX9_hang_56 rfl rfl ?_
              refine g_iast C 57 1 (fun z => [oB q_t 9 [.int t_knots, .ref q_t_weight, .ref q_t_beside, .ref q_t_edge, .int t_rowed, .ref q_t_row, .int t_bags, .ref q_t_bag, .ref q_t_up, .ref q_t_least, .int t_q, .ref q_t_factor, .ref q_t_pairFactor, .ref q_t_forbidden, .ref q_t_mayNot, .ref q_t_fixed, .ref q_t_state, .ref q_t_count, .ref q_t_best, .ref q_t_bests, .long t_allCount, .long t_allBest, .long t_allBests], aI cA q_t_up 14 z]) dX9_hang_57 rfl (fun _ => rfl) hf (fun t_up_3 hf => ?_)
              refine g_iload_n C 58 0 dX9_hang_58 rfl rfl ?_
              cases hf
              exact g_iret C 59 dX9_hang_59 F hB
            · refine g_bipush C 41 (-2 : Int32) dX9_hang_41 (by decide) ?_
              cases hf
              exact g_iret C 43 dX9_hang_43 F hB
        · refine g_iconst C 24 (-1 : Int32) dX9_hang_24 (by decide) ?_
          cases hf
          exact g_iret C 25 dX9_hang_25 F hB

def L_X9_bagged_61 (a1 : Int32) (a2 : Int32) (t_bags : Int32) (t_bag : Nat → Int32) (t_up : Nat → Int32)  : Nat → Int32 → Int32 → Option (Int32)
  | 0, _, _ => none
  | n + 1, x3, x4 =>
    if t_bags ≤ x4 then
      some (x3)
    else
      ldA t_up 14 x4 fun v8 =>
      if v8 = a1 then
        bnd (x3 + (1 : Int32)) fun x3_11 =>
        bnd (x4 + (1 : Int32)) fun x4_12 =>
        L_X9_bagged_61 a1 a2 t_bags t_bag t_up n x3_11 x4_12
      else
        bnd (x3 + (0 : Int32)) fun x3_9 =>
        bnd (x4 + (1 : Int32)) fun x4_10 =>
        L_X9_bagged_61 a1 a2 t_bags t_bag t_up n x3_9 x4_10

set_option maxRecDepth 100000 in
set_option maxHeartbeats 1000000 in
theorem w_X9_bagged_61 (cA : Nat → ClassId) (q_t : Nat) (t_knots : Int32) (q_t_weight : Nat) (q_t_beside : Nat) (q_t_edge : Nat) (t_rowed : Int32) (q_t_row : Nat) (q_t_least : Nat) (t_q : Int32) (q_t_factor : Nat) (q_t_pairFactor : Nat) (q_t_forbidden : Nat) (q_t_mayNot : Nat) (q_t_fixed : Nat) (q_t_state : Nat) (q_t_count : Nat) (q_t_best : Nat) (q_t_bests : Nat) (t_allCount : Int64) (t_allBest : Int64) (t_allBests : Int64) (q_t_bag : Nat) (q_t_up : Nat) (a1 : Int32) (a2 : Int32) (t_bags : Int32) (t_bag : Nat → Int32) (t_up : Nat → Int32) {X : XT}  (C : Cx X cX9_bagged RX9 (some .int) cA 0 0 5) {kk nn : Nat} {BB : Option Value → va_W → Prop} (hk : kk ≤ (x_R X).cells ∧ nn ≤ (x_R X).slots) (F : Fx X BB kk nn) (r : Int32) (hB : BB (some (.int r)) [oB q_t 9 [.int t_knots, .ref q_t_weight, .ref q_t_beside, .ref q_t_edge, .int t_rowed, .ref q_t_row, .int t_bags, .ref q_t_bag, .ref q_t_up, .ref q_t_least, .int t_q, .ref q_t_factor, .ref q_t_pairFactor, .ref q_t_forbidden, .ref q_t_mayNot, .ref q_t_fixed, .ref q_t_state, .ref q_t_count, .ref q_t_best, .ref q_t_bests, .long t_allCount, .long t_allBest, .long t_allBests], aI cA q_t_bag 14 t_bag, aI cA q_t_up 14 t_up])  : ∀ (n : Nat) (x3 : Int32) (x4 : Int32), L_X9_bagged_61 a1 a2 t_bags t_bag t_up n x3 x4 = some r → Go X 5 kk nn 61 [oB q_t 9 [.int t_knots, .ref q_t_weight, .ref q_t_beside, .ref q_t_edge, .int t_rowed, .ref q_t_row, .int t_bags, .ref q_t_bag, .ref q_t_up, .ref q_t_least, .int t_q, .ref q_t_factor, .ref q_t_pairFactor, .ref q_t_forbidden, .ref q_t_mayNot, .ref q_t_fixed, .ref q_t_state, .ref q_t_count, .ref q_t_best, .ref q_t_bests, .long t_allCount, .long t_allBest, .long t_allBests], aI cA q_t_bag 14 t_bag, aI cA q_t_up 14 t_up] [(0, .ref q_t), (1, .int a1), (3, .int x3), (4, .int x4)] [] := by
  intro n
  induction n with
  | zero => intro x3 x4 hf; exact no_some hf
  | succ n ih =>
    intro x3 x4 hf
    rw [L_X9_bagged_61] at hf
    refine g_iload C 61 3 dX9_bagged_61 rfl ?_
    refine g_aload_n C 63 0 dX9_bagged_63 rfl rfl ?_
    refine g_get C 64 0 6 dX9_bagged_64 inX9 rfl rfl (by decide) kw_348 rfl ?_
    refine g_icmp_ge C 67 95 dX9_bagged_67 (by decide) hf (fun hf => ?_) (fun hf => ?_)
    · refine g_iload_n C 95 2 dX9_bagged_95 rfl rfl ?_
      cases hf
      exact g_iret C 96 dX9_bagged_96 F hB
    · refine g_iload_n C 70 2 dX9_bagged_70 rfl rfl ?_
      refine g_aload_n C 71 0 dX9_bagged_71 rfl rfl ?_
      refine g_get C 72 0 8 dX9_bagged_72 inX9 rfl rfl (by decide) kw_380 rfl ?_
      refine g_iload C 75 3 dX9_bagged_75 rfl ?_
      refine g_iald C 77 2 dX9_bagged_77 rfl hf (fun v8 hf => ?_)
      refine g_iload_n C 78 1 dX9_bagged_78 rfl rfl ?_
      refine g_icmp_ne C 79 86 dX9_bagged_79 (by decide) hf (fun hf => ?_) (fun hf => ?_)
      · refine g_iconst C 86 (0 : Int32) dX9_bagged_86 (by decide) ?_
        refine g_iadd C 87 dX9_bagged_87 ?_
        refine g_istore_n C 88 (fun z => [(3, .int z), (0, .ref q_t), (1, .int a1), (4, .int x4)]) dX9_bagged_88 rfl (by decide) (fun _ => rfl) hf (fun x3_9 hf => ?_)
        refine g_iinc C 89 3 (v := x4 + (1 : Int32)) (fun z => [(4, .int z), (3, .int x3_9), (0, .ref q_t), (1, .int a1)]) dX9_bagged_89 rfl rfl (by decide) (fun _ => rfl) hf (fun x4_10 hf => ?_)
        refine g_goto C 92 61 dX9_bagged_92 (by decide) ?_
        refine g_lv [2, 3, 1, 0] rfl ?_
        exact ih x3_9 x4_10 hf
      · refine g_iconst C 82 (1 : Int32) dX9_bagged_82 (by decide) ?_
        refine g_goto C 83 87 dX9_bagged_83 (by decide) ?_
        refine g_iadd C 87 dX9_bagged_87 ?_
        refine g_istore_n C 88 (fun z => [(3, .int z), (0, .ref q_t), (1, .int a1), (4, .int x4)]) dX9_bagged_88 rfl (by decide) (fun _ => rfl) hf (fun x3_11 hf => ?_)
        refine g_iinc C 89 3 (v := x4 + (1 : Int32)) (fun z => [(4, .int z), (3, .int x3_11), (0, .ref q_t), (1, .int a1)]) dX9_bagged_89 rfl rfl (by decide) (fun _ => rfl) hf (fun x4_12 hf => ?_)
        refine g_goto C 92 61 dX9_bagged_92 (by decide) ?_
        refine g_lv [2, 3, 1, 0] rfl ?_
        exact ih x3_11 x4_12 hf
def f_X9_bagged (a1 : Int32) (a2 : Int32) (t_bags : Int32) (t_bag : Nat → Int32) (t_up : Nat → Int32) : Option (Int32) :=
  if a1 < 0 then
    some ((-1 : Int32))
  else
    if a1 < t_bags then
      bnd (0 : Int32) fun x3_1 =>
      if a2 = 0 then
        ldA t_bag 14 a1 fun v3 =>
        some (v3)
      else
        if a2 = 1 then
          ldA t_up 14 a1 fun v5 =>
          some (v5)
        else
          if a2 = 2 then
            bnd (0 : Int32) fun x4_7 =>
            L_X9_bagged_61 a1 a2 t_bags t_bag t_up NN x3_1 x4_7
          else
            some ((-1 : Int32))
    else
      some ((-1 : Int32))

set_option maxRecDepth 100000 in
set_option maxHeartbeats 1000000 in
theorem c_X9_bagged (l : Launch) (cA : Nat → ClassId) (q_t : Nat) (t_knots : Int32) (q_t_weight : Nat) (q_t_beside : Nat) (q_t_edge : Nat) (t_rowed : Int32) (q_t_row : Nat) (t_bags : Int32) (q_t_least : Nat) (t_q : Int32) (q_t_factor : Nat) (q_t_pairFactor : Nat) (q_t_forbidden : Nat) (q_t_mayNot : Nat) (q_t_fixed : Nat) (q_t_state : Nat) (q_t_count : Nat) (q_t_best : Nat) (q_t_bests : Nat) (t_allCount : Int64) (t_allBest : Int64) (t_allBests : Int64) (q_t_bag : Nat) (t_bag : Nat → Int32) (q_t_up : Nat) (t_up : Nat → Int32)  (a1 : Int32) (a2 : Int32) (r : Int32) (hf : f_X9_bagged a1 a2 t_bags t_bag t_up = some r) : MT l cA yX9_bagged cX9_bagged 5 (some .int) ({ frames := 0, cells := 0, slots := 0, locals := 0 } : Room) [.ref q_t, .int a1, .int a2] [oB q_t 9 [.int t_knots, .ref q_t_weight, .ref q_t_beside, .ref q_t_edge, .int t_rowed, .ref q_t_row, .int t_bags, .ref q_t_bag, .ref q_t_up, .ref q_t_least, .int t_q, .ref q_t_factor, .ref q_t_pairFactor, .ref q_t_forbidden, .ref q_t_mayNot, .ref q_t_fixed, .ref q_t_state, .ref q_t_count, .ref q_t_best, .ref q_t_bests, .long t_allCount, .long t_allBest, .long t_allBests], aI cA q_t_bag 14 t_bag, aI cA q_t_up 14 t_up] (sB (some (.int r)) [oB q_t 9 [.int t_knots, .ref q_t_weight, .ref q_t_beside, .ref q_t_edge, .int t_rowed, .ref q_t_row, .int t_bags, .ref q_t_bag, .ref q_t_up, .ref q_t_least, .int t_q, .ref q_t_factor, .ref q_t_pairFactor, .ref q_t_forbidden, .ref q_t_mayNot, .ref q_t_fixed, .ref q_t_state, .ref q_t_count, .ref q_t_best, .ref q_t_bests, .long t_allCount, .long t_allBest, .long t_allBests], aI cA q_t_bag 14 t_bag, aI cA q_t_up 14 t_up]) := by
  refine MT.of (by decide) (Nat.le_of_ble_eq_true rfl) ?_
  intro X hXl C F hnm hrc hrs
  subst hXl
  have hk : 0 ≤ (x_R X).cells ∧ 0 ≤ (x_R X).slots := ⟨Nat.zero_le _, Nat.zero_le _⟩
  have hB : (sB (some (.int r)) [oB q_t 9 [.int t_knots, .ref q_t_weight, .ref q_t_beside, .ref q_t_edge, .int t_rowed, .ref q_t_row, .int t_bags, .ref q_t_bag, .ref q_t_up, .ref q_t_least, .int t_q, .ref q_t_factor, .ref q_t_pairFactor, .ref q_t_forbidden, .ref q_t_mayNot, .ref q_t_fixed, .ref q_t_state, .ref q_t_count, .ref q_t_best, .ref q_t_bests, .long t_allCount, .long t_allBest, .long t_allBests], aI cA q_t_bag 14 t_bag, aI cA q_t_up 14 t_up]) (some (.int r)) [oB q_t 9 [.int t_knots, .ref q_t_weight, .ref q_t_beside, .ref q_t_edge, .int t_rowed, .ref q_t_row, .int t_bags, .ref q_t_bag, .ref q_t_up, .ref q_t_least, .int t_q, .ref q_t_factor, .ref q_t_pairFactor, .ref q_t_forbidden, .ref q_t_mayNot, .ref q_t_fixed, .ref q_t_state, .ref q_t_count, .ref q_t_best, .ref q_t_bests, .long t_allCount, .long t_allBest, .long t_allBests], aI cA q_t_bag 14 t_bag, aI cA q_t_up 14 t_up] := ⟨rfl, rfl⟩
  unfold f_X9_bagged at hf
  have C : Cx X cX9_bagged RX9 (some .int) cA 0 0 5 := C
  show Go X 5 0 0 0 [oB q_t 9 [.int t_knots, .ref q_t_weight, .ref q_t_beside, .ref q_t_edge, .int t_rowed, .ref q_t_row, .int t_bags, .ref q_t_bag, .ref q_t_up, .ref q_t_least, .int t_q, .ref q_t_factor, .ref q_t_pairFactor, .ref q_t_forbidden, .ref q_t_mayNot, .ref q_t_fixed, .ref q_t_state, .ref q_t_count, .ref q_t_best, .ref q_t_bests, .long t_allCount, .long t_allBest, .long t_allBests], aI cA q_t_bag 14 t_bag, aI cA q_t_up 14 t_up] [(0, .ref q_t), (1, .int a1), (2, .int a2)] []
  refine g_iload_n C 0 1 dX9_bagged_0 rfl rfl ?_
  refine g_if_lt C 1 12 dX9_bagged_1 (by decide) hf (fun hf => ?_) (fun hf => ?_)
  · refine g_iconst C 12 (-1 : Int32) dX9_bagged_12 (by decide) ?_
    cases hf
    exact g_iret C 13 dX9_bagged_13 F hB
  · refine g_iload_n C 4 1 dX9_bagged_4 rfl rfl ?_
    refine g_aload_n C 5 0 dX9_bagged_5 rfl rfl ?_
    refine g_get C 6 0 6 dX9_bagged_6 inX9 rfl rfl (by decide) kw_348 rfl ?_
    refine g_icmp_lt C 9 14 dX9_bagged_9 (by decide) hf (fun hf => ?_) (fun hf => ?_)
    · refine g_iconst C 14 (0 : Int32) dX9_bagged_14 (by decide) ?_
      refine g_istore_n C 15 (fun z => [(3, .int z), (0, .ref q_t), (1, .int a1), (2, .int a2)]) dX9_bagged_15 rfl (by decide) (fun _ => rfl) hf (fun x3_1 hf => ?_)
      refine g_iload_n C 16 3 dX9_bagged_16 rfl rfl ?_
      rcases ite_or hf with ⟨hx2, hf⟩ | ⟨hx2, hf⟩
      · refine g_tsw C 17 44 dX9_bagged_17 hx2 (by decide) (by decide) rfl (by decide) ?_
        refine g_aload_n C 44 1 dX9_bagged_44 rfl rfl ?_
        refine g_get C 45 0 7 dX9_bagged_45 inX9 rfl rfl (by decide) kw_371 rfl ?_
        refine g_iload_n C 48 2 dX9_bagged_48 rfl rfl ?_
        refine g_iald C 49 1 dX9_bagged_49 rfl hf (fun v3 hf => ?_)
        cases hf
        exact g_iret C 50 dX9_bagged_50 F hB
      · skip
        rcases ite_or hf with ⟨hx4, hf⟩ | ⟨hx4, hf⟩
        · refine g_tsw C 17 51 dX9_bagged_17 hx4 (by decide) (by decide) rfl (by decide) ?_
          refine g_aload_n C 51 1 dX9_bagged_51 rfl rfl ?_
          refine g_get C 52 0 8 dX9_bagged_52 inX9 rfl rfl (by decide) kw_380 rfl ?_
          refine g_iload_n C 55 2 dX9_bagged_55 rfl rfl ?_
          refine g_iald C 56 2 dX9_bagged_56 rfl hf (fun v5 hf => ?_)
          cases hf
          exact g_iret C 57 dX9_bagged_57 F hB
        · skip
          rcases ite_or hf with ⟨hx6, hf⟩ | ⟨hx6, hf⟩
          · refine g_tsw C 17 58 dX9_bagged_17 hx6 (by decide) (by decide) rfl (by decide) ?_
            refine g_iconst C 58 (0 : Int32) dX9_bagged_58 (by decide) ?_
            refine g_istore C 59 (fun z => [(4, .int z), (3, .int x3_1), (0, .ref q_t), (1, .int a1), (2, .int a2)]) dX9_bagged_59 (by decide) (fun _ => rfl) hf (fun x4_7 hf => ?_)
            refine g_lv [2, 3, 1, 0] rfl ?_
            exact w_X9_bagged_61 cA q_t t_knots q_t_weight q_t_beside q_t_edge t_rowed q_t_row q_t_least t_q q_t_factor q_t_pairFactor q_t_forbidden q_t_mayNot q_t_fixed q_t_state q_t_count q_t_best q_t_bests t_allCount t_allBest t_allBests q_t_bag q_t_up a1 a2 t_bags t_bag t_up C hk F r hB NN x3_1 x4_7 hf
          · refine g_tswO C 17 97 dX9_bagged_17 (tsw_out3 hx2 hx4 hx6) (by decide) ?_
            refine g_iconst C 97 (-1 : Int32) dX9_bagged_97 (by decide) ?_
            cases hf
            exact g_iret C 98 dX9_bagged_98 F hB
    · refine g_iconst C 12 (-1 : Int32) dX9_bagged_12 (by decide) ?_
      cases hf
      exact g_iret C 13 dX9_bagged_13 F hB

def L_X9_inOne_2 (a1 : Int32) (t_bags : Int32) (t_bag : Nat → Int32)  : Nat → Int32 → Option (Int32)
  | 0, _ => none
  | n + 1, x2 =>
    if t_bags ≤ x2 then
      some ((0 : Int32))
    else
      ldA t_bag 14 x2 fun v2 =>
      if (v2 &&& a1) = a1 then
        some ((1 : Int32))
      else
        bnd (x2 + (1 : Int32)) fun x2_3 =>
        L_X9_inOne_2 a1 t_bags t_bag n x2_3

set_option maxRecDepth 100000 in
set_option maxHeartbeats 1000000 in
theorem w_X9_inOne_2 (cA : Nat → ClassId) (q_t : Nat) (t_knots : Int32) (q_t_weight : Nat) (q_t_beside : Nat) (q_t_edge : Nat) (t_rowed : Int32) (q_t_row : Nat) (q_t_up : Nat) (q_t_least : Nat) (t_q : Int32) (q_t_factor : Nat) (q_t_pairFactor : Nat) (q_t_forbidden : Nat) (q_t_mayNot : Nat) (q_t_fixed : Nat) (q_t_state : Nat) (q_t_count : Nat) (q_t_best : Nat) (q_t_bests : Nat) (t_allCount : Int64) (t_allBest : Int64) (t_allBests : Int64) (q_t_bag : Nat) (a1 : Int32) (t_bags : Int32) (t_bag : Nat → Int32) {X : XT}  (C : Cx X cX9_inOne RX9 (some .boolean) cA 0 0 3) {kk nn : Nat} {BB : Option Value → va_W → Prop} (hk : kk ≤ (x_R X).cells ∧ nn ≤ (x_R X).slots) (F : Fx X BB kk nn) (r : Int32) (hB : BB (some (.int r)) [oB q_t 9 [.int t_knots, .ref q_t_weight, .ref q_t_beside, .ref q_t_edge, .int t_rowed, .ref q_t_row, .int t_bags, .ref q_t_bag, .ref q_t_up, .ref q_t_least, .int t_q, .ref q_t_factor, .ref q_t_pairFactor, .ref q_t_forbidden, .ref q_t_mayNot, .ref q_t_fixed, .ref q_t_state, .ref q_t_count, .ref q_t_best, .ref q_t_bests, .long t_allCount, .long t_allBest, .long t_allBests], aI cA q_t_bag 14 t_bag])  : ∀ (n : Nat) (x2 : Int32), L_X9_inOne_2 a1 t_bags t_bag n x2 = some r → Go X 3 kk nn 2 [oB q_t 9 [.int t_knots, .ref q_t_weight, .ref q_t_beside, .ref q_t_edge, .int t_rowed, .ref q_t_row, .int t_bags, .ref q_t_bag, .ref q_t_up, .ref q_t_least, .int t_q, .ref q_t_factor, .ref q_t_pairFactor, .ref q_t_forbidden, .ref q_t_mayNot, .ref q_t_fixed, .ref q_t_state, .ref q_t_count, .ref q_t_best, .ref q_t_bests, .long t_allCount, .long t_allBest, .long t_allBests], aI cA q_t_bag 14 t_bag] [(0, .ref q_t), (1, .int a1), (2, .int x2)] [] := by
  intro n
  induction n with
  | zero => intro x2 hf; exact no_some hf
  | succ n ih =>
    intro x2 hf
    rw [L_X9_inOne_2] at hf
    refine g_iload_n C 2 2 dX9_inOne_2 rfl rfl ?_
    refine g_aload_n C 3 0 dX9_inOne_3 rfl rfl ?_
    refine g_get C 4 0 6 dX9_inOne_4 inX9 rfl rfl (by decide) kw_348 rfl ?_
    refine g_icmp_ge C 7 30 dX9_inOne_7 (by decide) hf (fun hf => ?_) (fun hf => ?_)
    · refine g_iconst C 30 (0 : Int32) dX9_inOne_30 (by decide) ?_
      cases hf
      exact g_zret C 31 dX9_inOne_31 (by decide) F hB
    · refine g_aload_n C 10 0 dX9_inOne_10 rfl rfl ?_
      refine g_get C 11 0 7 dX9_inOne_11 inX9 rfl rfl (by decide) kw_371 rfl ?_
      refine g_iload_n C 14 2 dX9_inOne_14 rfl rfl ?_
      refine g_iald C 15 1 dX9_inOne_15 rfl hf (fun v2 hf => ?_)
      refine g_iload_n C 16 1 dX9_inOne_16 rfl rfl ?_
      refine g_iand C 17 dX9_inOne_17 ?_
      refine g_iload_n C 18 1 dX9_inOne_18 rfl rfl ?_
      refine g_icmp_ne C 19 24 dX9_inOne_19 (by decide) hf (fun hf => ?_) (fun hf => ?_)
      · refine g_iinc C 24 2 (v := x2 + (1 : Int32)) (fun z => [(2, .int z), (0, .ref q_t), (1, .int a1)]) dX9_inOne_24 rfl rfl (by decide) (fun _ => rfl) hf (fun x2_3 hf => ?_)
        refine g_goto C 27 2 dX9_inOne_27 (by decide) ?_
        refine g_lv [1, 2, 0] rfl ?_
        exact ih x2_3 hf
      · refine g_iconst C 22 (1 : Int32) dX9_inOne_22 (by decide) ?_
        cases hf
        exact g_zret C 23 dX9_inOne_23 (by decide) F hB
def f_X9_inOne (a1 : Int32) (t_bags : Int32) (t_bag : Nat → Int32) : Option (Int32) :=
  bnd (0 : Int32) fun x2_1 =>
  L_X9_inOne_2 a1 t_bags t_bag NN x2_1

set_option maxRecDepth 100000 in
set_option maxHeartbeats 1000000 in
theorem c_X9_inOne (l : Launch) (cA : Nat → ClassId) (q_t : Nat) (t_knots : Int32) (q_t_weight : Nat) (q_t_beside : Nat) (q_t_edge : Nat) (t_rowed : Int32) (q_t_row : Nat) (t_bags : Int32) (q_t_up : Nat) (q_t_least : Nat) (t_q : Int32) (q_t_factor : Nat) (q_t_pairFactor : Nat) (q_t_forbidden : Nat) (q_t_mayNot : Nat) (q_t_fixed : Nat) (q_t_state : Nat) (q_t_count : Nat) (q_t_best : Nat) (q_t_bests : Nat) (t_allCount : Int64) (t_allBest : Int64) (t_allBests : Int64) (q_t_bag : Nat) (t_bag : Nat → Int32)  (a1 : Int32) (r : Int32) (hf : f_X9_inOne a1 t_bags t_bag = some r) : MT l cA yX9_inOne cX9_inOne 3 (some .boolean) ({ frames := 0, cells := 0, slots := 0, locals := 0 } : Room) [.ref q_t, .int a1] [oB q_t 9 [.int t_knots, .ref q_t_weight, .ref q_t_beside, .ref q_t_edge, .int t_rowed, .ref q_t_row, .int t_bags, .ref q_t_bag, .ref q_t_up, .ref q_t_least, .int t_q, .ref q_t_factor, .ref q_t_pairFactor, .ref q_t_forbidden, .ref q_t_mayNot, .ref q_t_fixed, .ref q_t_state, .ref q_t_count, .ref q_t_best, .ref q_t_bests, .long t_allCount, .long t_allBest, .long t_allBests], aI cA q_t_bag 14 t_bag] (sB (some (.int r)) [oB q_t 9 [.int t_knots, .ref q_t_weight, .ref q_t_beside, .ref q_t_edge, .int t_rowed, .ref q_t_row, .int t_bags, .ref q_t_bag, .ref q_t_up, .ref q_t_least, .int t_q, .ref q_t_factor, .ref q_t_pairFactor, .ref q_t_forbidden, .ref q_t_mayNot, .ref q_t_fixed, .ref q_t_state, .ref q_t_count, .ref q_t_best, .ref q_t_bests, .long t_allCount, .long t_allBest, .long t_allBests], aI cA q_t_bag 14 t_bag]) := by
  refine MT.of (by decide) (Nat.le_of_ble_eq_true rfl) ?_
  intro X hXl C F hnm hrc hrs
  subst hXl
  have hk : 0 ≤ (x_R X).cells ∧ 0 ≤ (x_R X).slots := ⟨Nat.zero_le _, Nat.zero_le _⟩
  have hB : (sB (some (.int r)) [oB q_t 9 [.int t_knots, .ref q_t_weight, .ref q_t_beside, .ref q_t_edge, .int t_rowed, .ref q_t_row, .int t_bags, .ref q_t_bag, .ref q_t_up, .ref q_t_least, .int t_q, .ref q_t_factor, .ref q_t_pairFactor, .ref q_t_forbidden, .ref q_t_mayNot, .ref q_t_fixed, .ref q_t_state, .ref q_t_count, .ref q_t_best, .ref q_t_bests, .long t_allCount, .long t_allBest, .long t_allBests], aI cA q_t_bag 14 t_bag]) (some (.int r)) [oB q_t 9 [.int t_knots, .ref q_t_weight, .ref q_t_beside, .ref q_t_edge, .int t_rowed, .ref q_t_row, .int t_bags, .ref q_t_bag, .ref q_t_up, .ref q_t_least, .int t_q, .ref q_t_factor, .ref q_t_pairFactor, .ref q_t_forbidden, .ref q_t_mayNot, .ref q_t_fixed, .ref q_t_state, .ref q_t_count, .ref q_t_best, .ref q_t_bests, .long t_allCount, .long t_allBest, .long t_allBests], aI cA q_t_bag 14 t_bag] := ⟨rfl, rfl⟩
  unfold f_X9_inOne at hf
  have C : Cx X cX9_inOne RX9 (some .boolean) cA 0 0 3 := C
  show Go X 3 0 0 0 [oB q_t 9 [.int t_knots, .ref q_t_weight, .ref q_t_beside, .ref q_t_edge, .int t_rowed, .ref q_t_row, .int t_bags, .ref q_t_bag, .ref q_t_up, .ref q_t_least, .int t_q, .ref q_t_factor, .ref q_t_pairFactor, .ref q_t_forbidden, .ref q_t_mayNot, .ref q_t_fixed, .ref q_t_state, .ref q_t_count, .ref q_t_best, .ref q_t_bests, .long t_allCount, .long t_allBest, .long t_allBests], aI cA q_t_bag 14 t_bag] [(0, .ref q_t), (1, .int a1)] []
  refine g_iconst C 0 (0 : Int32) dX9_inOne_0 (by decide) ?_
  refine g_istore_n C 1 (fun z => [(2, .int z), (0, .ref q_t), (1, .int a1)]) dX9_inOne_1 rfl (by decide) (fun _ => rfl) hf (fun x2_1 hf => ?_)
  refine g_lv [1, 2, 0] rfl ?_
  exact w_X9_inOne_2 cA q_t t_knots q_t_weight q_t_beside q_t_edge t_rowed q_t_row q_t_up q_t_least t_q q_t_factor q_t_pairFactor q_t_forbidden q_t_mayNot q_t_fixed q_t_state q_t_count q_t_best q_t_bests t_allCount t_allBest t_allBests q_t_bag a1 t_bags t_bag C hk F r hB NN x2_1 hf

def L_X9_sound_122 (t_knots : Int32) (t_bags : Int32) (t_beside : Nat → Int32) (t_bag : Nat → Int32) (t_up : Nat → Int32) (k_110 : Int32 → Option (Int32)) : Nat → Int32 → Int32 → Int32 → Option (Int32)
  | 0, _, _, _ => none
  | n + 1, x1, x2, x3 =>
    if t_bags ≤ x3 then
      if x2 = (1 : Int32) then
        bnd (x1 + (1 : Int32)) fun x1_6 =>
        k_110 x1_6
      else
        some (((2001 : Int32) + x1))
    else
      ldA t_bag 14 x3 fun v7 =>
      if ((v7 >>> (x1 &&& 31)) &&& (1 : Int32)) = (1 : Int32) then
        ldA t_up 14 x3 fun v9 =>
        if v9 < 0 then
          bnd (x2 + (1 : Int32)) fun x2_10 =>
          bnd (x3 + (1 : Int32)) fun x3_11 =>
          L_X9_sound_122 t_knots t_bags t_beside t_bag t_up k_110 n x1 x2_10 x3_11
        else
          ldA t_up 14 x3 fun v12 =>
          ldA t_bag 14 v12 fun v13 =>
          if ((v13 >>> (x1 &&& 31)) &&& (1 : Int32)) = 0 then
            bnd (x2 + (1 : Int32)) fun x2_15 =>
            bnd (x3 + (1 : Int32)) fun x3_16 =>
            L_X9_sound_122 t_knots t_bags t_beside t_bag t_up k_110 n x1 x2_15 x3_16
          else
            bnd (x3 + (1 : Int32)) fun x3_14 =>
            L_X9_sound_122 t_knots t_bags t_beside t_bag t_up k_110 n x1 x2 x3_14
      else
        bnd (x3 + (1 : Int32)) fun x3_8 =>
        L_X9_sound_122 t_knots t_bags t_beside t_bag t_up k_110 n x1 x2 x3_8

set_option maxRecDepth 100000 in
set_option maxHeartbeats 1000000 in
theorem w_X9_sound_122 (cA : Nat → ClassId) (q_t : Nat) (q_t_weight : Nat) (q_t_edge : Nat) (t_rowed : Int32) (q_t_row : Nat) (q_t_least : Nat) (t_q : Int32) (q_t_factor : Nat) (q_t_pairFactor : Nat) (q_t_forbidden : Nat) (q_t_mayNot : Nat) (q_t_fixed : Nat) (q_t_state : Nat) (q_t_count : Nat) (q_t_best : Nat) (q_t_bests : Nat) (t_allCount : Int64) (t_allBest : Int64) (t_allBests : Int64) (q_t_beside : Nat) (q_t_bag : Nat) (q_t_up : Nat) (t_knots : Int32) (t_bags : Int32) (t_beside : Nat → Int32) (t_bag : Nat → Int32) (t_up : Nat → Int32) {X : XT}  (C : Cx X cX9_sound RX9 (some .int) cA 2 43 4) {kk nn : Nat} {BB : Option Value → va_W → Prop} (hk : kk ≤ (x_R X).cells ∧ nn ≤ (x_R X).slots) (F : Fx X BB kk nn) (r : Int32) (hB : BB (some (.int r)) [oB q_t 9 [.int t_knots, .ref q_t_weight, .ref q_t_beside, .ref q_t_edge, .int t_rowed, .ref q_t_row, .int t_bags, .ref q_t_bag, .ref q_t_up, .ref q_t_least, .int t_q, .ref q_t_factor, .ref q_t_pairFactor, .ref q_t_forbidden, .ref q_t_mayNot, .ref q_t_fixed, .ref q_t_state, .ref q_t_count, .ref q_t_best, .ref q_t_bests, .long t_allCount, .long t_allBest, .long t_allBests], aI cA q_t_beside 14 t_beside, aI cA q_t_bag 14 t_bag, aI cA q_t_up 14 t_up]) (k_110 : Int32 → Option (Int32)) (h_110 : ∀ (x1 : Int32), k_110 x1 = some r → Go X 4 kk nn 110 [oB q_t 9 [.int t_knots, .ref q_t_weight, .ref q_t_beside, .ref q_t_edge, .int t_rowed, .ref q_t_row, .int t_bags, .ref q_t_bag, .ref q_t_up, .ref q_t_least, .int t_q, .ref q_t_factor, .ref q_t_pairFactor, .ref q_t_forbidden, .ref q_t_mayNot, .ref q_t_fixed, .ref q_t_state, .ref q_t_count, .ref q_t_best, .ref q_t_bests, .long t_allCount, .long t_allBest, .long t_allBests], aI cA q_t_beside 14 t_beside, aI cA q_t_bag 14 t_bag, aI cA q_t_up 14 t_up] [(0, .ref q_t), (1, .int x1)] []) : ∀ (n : Nat) (x1 : Int32) (x2 : Int32) (x3 : Int32), L_X9_sound_122 t_knots t_bags t_beside t_bag t_up k_110 n x1 x2 x3 = some r → Go X 4 kk nn 122 [oB q_t 9 [.int t_knots, .ref q_t_weight, .ref q_t_beside, .ref q_t_edge, .int t_rowed, .ref q_t_row, .int t_bags, .ref q_t_bag, .ref q_t_up, .ref q_t_least, .int t_q, .ref q_t_factor, .ref q_t_pairFactor, .ref q_t_forbidden, .ref q_t_mayNot, .ref q_t_fixed, .ref q_t_state, .ref q_t_count, .ref q_t_best, .ref q_t_bests, .long t_allCount, .long t_allBest, .long t_allBests], aI cA q_t_beside 14 t_beside, aI cA q_t_bag 14 t_bag, aI cA q_t_up 14 t_up] [(0, .ref q_t), (1, .int x1), (2, .int x2), (3, .int x3)] [] := by
  intro n
  induction n with
  | zero => intro x1 x2 x3 hf; exact no_some hf
  | succ n ih =>
    intro x1 x2 x3 hf
    rw [L_X9_sound_122] at hf
    refine g_iload_n C 122 3 dX9_sound_122 rfl rfl ?_
    refine g_aload_n C 123 0 dX9_sound_123 rfl rfl ?_
    refine g_get C 124 0 6 dX9_sound_124 inX9 rfl rfl (by decide) kw_348 rfl ?_
    refine g_icmp_ge C 127 180 dX9_sound_127 (by decide) hf (fun hf => ?_) (fun hf => ?_)
    · refine g_iload_n C 180 2 dX9_sound_180 rfl rfl ?_
      refine g_iconst C 181 (1 : Int32) dX9_sound_181 (by decide) ?_
      refine g_icmp_eq C 182 191 dX9_sound_182 (by decide) hf (fun hf => ?_) (fun hf => ?_)
      · refine g_iinc C 191 1 (v := x1 + (1 : Int32)) (fun z => [(1, .int z), (0, .ref q_t), (2, .int x2), (3, .int x3)]) dX9_sound_191 rfl rfl (by decide) (fun _ => rfl) hf (fun x1_6 hf => ?_)
        refine g_goto C 194 110 dX9_sound_194 (by decide) ?_
        refine g_lv [1, 0] rfl ?_
        exact h_110 x1_6 hf
      · refine g_sipush C 185 (2001 : Int32) dX9_sound_185 (by decide) ?_
        refine g_iload_n C 188 1 dX9_sound_188 rfl rfl ?_
        refine g_iadd C 189 dX9_sound_189 ?_
        cases hf
        exact g_iret C 190 dX9_sound_190 F hB
    · refine g_aload_n C 130 0 dX9_sound_130 rfl rfl ?_
      refine g_get C 131 0 7 dX9_sound_131 inX9 rfl rfl (by decide) kw_371 rfl ?_
      refine g_iload_n C 134 3 dX9_sound_134 rfl rfl ?_
      refine g_iald C 135 2 dX9_sound_135 rfl hf (fun v7 hf => ?_)
      refine g_iload_n C 136 1 dX9_sound_136 rfl rfl ?_
      refine g_ishr C 137 dX9_sound_137 ?_
      refine g_iconst C 138 (1 : Int32) dX9_sound_138 (by decide) ?_
      refine g_iand C 139 dX9_sound_139 ?_
      refine g_iconst C 140 (1 : Int32) dX9_sound_140 (by decide) ?_
      refine g_icmp_ne C 141 174 dX9_sound_141 (by decide) hf (fun hf => ?_) (fun hf => ?_)
      · refine g_iinc C 174 3 (v := x3 + (1 : Int32)) (fun z => [(3, .int z), (0, .ref q_t), (1, .int x1), (2, .int x2)]) dX9_sound_174 rfl rfl (by decide) (fun _ => rfl) hf (fun x3_8 hf => ?_)
        refine g_goto C 177 122 dX9_sound_177 (by decide) ?_
        refine g_lv [1, 2, 3, 0] rfl ?_
        exact ih x1 x2 x3_8 hf
      · refine g_aload_n C 144 0 dX9_sound_144 rfl rfl ?_
        refine g_get C 145 0 8 dX9_sound_145 inX9 rfl rfl (by decide) kw_380 rfl ?_
        refine g_iload_n C 148 3 dX9_sound_148 rfl rfl ?_
        refine g_iald C 149 3 dX9_sound_149 rfl hf (fun v9 hf => ?_)
        refine g_if_lt C 150 171 dX9_sound_150 (by decide) hf (fun hf => ?_) (fun hf => ?_)
        · refine g_iinc C 171 2 (v := x2 + (1 : Int32)) (fun z => [(2, .int z), (0, .ref q_t), (1, .int x1), (3, .int x3)]) dX9_sound_171 rfl rfl (by decide) (fun _ => rfl) hf (fun x2_10 hf => ?_)
          refine g_iinc C 174 3 (v := x3 + (1 : Int32)) (fun z => [(3, .int z), (2, .int x2_10), (0, .ref q_t), (1, .int x1)]) dX9_sound_174 rfl rfl (by decide) (fun _ => rfl) hf (fun x3_11 hf => ?_)
          refine g_goto C 177 122 dX9_sound_177 (by decide) ?_
          refine g_lv [2, 3, 1, 0] rfl ?_
          exact ih x1 x2_10 x3_11 hf
        · refine g_aload_n C 153 0 dX9_sound_153 rfl rfl ?_
          refine g_get C 154 0 7 dX9_sound_154 inX9 rfl rfl (by decide) kw_371 rfl ?_
          refine g_aload_n C 157 0 dX9_sound_157 rfl rfl ?_
          refine g_get C 158 0 8 dX9_sound_158 inX9 rfl rfl (by decide) kw_380 rfl ?_
          refine g_iload_n C 161 3 dX9_sound_161 rfl rfl ?_
          refine g_iald C 162 3 dX9_sound_162 rfl hf (fun v12 hf => ?_)
          refine g_iald C 163 2 dX9_sound_163 rfl hf (fun v13 hf => ?_)
          refine g_iload_n C 164 1 dX9_sound_164 rfl rfl ?_
          refine g_ishr C 165 dX9_sound_165 ?_
          refine g_iconst C 166 (1 : Int32) dX9_sound_166 (by decide) ?_
          refine g_iand C 167 dX9_sound_167 ?_
          refine g_if_ne C 168 174 dX9_sound_168 (by decide) hf (fun hf => ?_) (fun hf => ?_)
          · refine g_iinc C 174 3 (v := x3 + (1 : Int32)) (fun z => [(3, .int z), (0, .ref q_t), (1, .int x1), (2, .int x2)]) dX9_sound_174 rfl rfl (by decide) (fun _ => rfl) hf (fun x3_14 hf => ?_)
            refine g_goto C 177 122 dX9_sound_177 (by decide) ?_
            refine g_lv [1, 2, 3, 0] rfl ?_
            exact ih x1 x2 x3_14 hf
          · refine g_iinc C 171 2 (v := x2 + (1 : Int32)) (fun z => [(2, .int z), (0, .ref q_t), (1, .int x1), (3, .int x3)]) dX9_sound_171 rfl rfl (by decide) (fun _ => rfl) hf (fun x2_15 hf => ?_)
            refine g_iinc C 174 3 (v := x3 + (1 : Int32)) (fun z => [(3, .int z), (2, .int x2_15), (0, .ref q_t), (1, .int x1)]) dX9_sound_174 rfl rfl (by decide) (fun _ => rfl) hf (fun x3_16 hf => ?_)
            refine g_goto C 177 122 dX9_sound_177 (by decide) ?_
            refine g_lv [2, 3, 1, 0] rfl ?_
            exact ih x1 x2_15 x3_16 hf
def L_X9_sound_110 (t_knots : Int32) (t_bags : Int32) (t_beside : Nat → Int32) (t_bag : Nat → Int32) (t_up : Nat → Int32)  : Nat → Int32 → Option (Int32)
  | 0, _ => none
  | n + 1, x1 =>
    if t_knots ≤ x1 then
      some ((0 : Int32))
    else
      bnd (0 : Int32) fun x2_4 =>
      bnd (0 : Int32) fun x3_5 =>
      L_X9_sound_122 t_knots t_bags t_beside t_bag t_up (fun y0 => L_X9_sound_110 t_knots t_bags t_beside t_bag t_up n y0) NN x1 x2_4 x3_5

set_option maxRecDepth 100000 in
set_option maxHeartbeats 1000000 in
theorem w_X9_sound_110 (cA : Nat → ClassId) (q_t : Nat) (q_t_weight : Nat) (q_t_edge : Nat) (t_rowed : Int32) (q_t_row : Nat) (q_t_least : Nat) (t_q : Int32) (q_t_factor : Nat) (q_t_pairFactor : Nat) (q_t_forbidden : Nat) (q_t_mayNot : Nat) (q_t_fixed : Nat) (q_t_state : Nat) (q_t_count : Nat) (q_t_best : Nat) (q_t_bests : Nat) (t_allCount : Int64) (t_allBest : Int64) (t_allBests : Int64) (q_t_beside : Nat) (q_t_bag : Nat) (q_t_up : Nat) (t_knots : Int32) (t_bags : Int32) (t_beside : Nat → Int32) (t_bag : Nat → Int32) (t_up : Nat → Int32) {X : XT}  (C : Cx X cX9_sound RX9 (some .int) cA 2 43 4) {kk nn : Nat} {BB : Option Value → va_W → Prop} (hk : kk ≤ (x_R X).cells ∧ nn ≤ (x_R X).slots) (F : Fx X BB kk nn) (r : Int32) (hB : BB (some (.int r)) [oB q_t 9 [.int t_knots, .ref q_t_weight, .ref q_t_beside, .ref q_t_edge, .int t_rowed, .ref q_t_row, .int t_bags, .ref q_t_bag, .ref q_t_up, .ref q_t_least, .int t_q, .ref q_t_factor, .ref q_t_pairFactor, .ref q_t_forbidden, .ref q_t_mayNot, .ref q_t_fixed, .ref q_t_state, .ref q_t_count, .ref q_t_best, .ref q_t_bests, .long t_allCount, .long t_allBest, .long t_allBests], aI cA q_t_beside 14 t_beside, aI cA q_t_bag 14 t_bag, aI cA q_t_up 14 t_up])  : ∀ (n : Nat) (x1 : Int32), L_X9_sound_110 t_knots t_bags t_beside t_bag t_up n x1 = some r → Go X 4 kk nn 110 [oB q_t 9 [.int t_knots, .ref q_t_weight, .ref q_t_beside, .ref q_t_edge, .int t_rowed, .ref q_t_row, .int t_bags, .ref q_t_bag, .ref q_t_up, .ref q_t_least, .int t_q, .ref q_t_factor, .ref q_t_pairFactor, .ref q_t_forbidden, .ref q_t_mayNot, .ref q_t_fixed, .ref q_t_state, .ref q_t_count, .ref q_t_best, .ref q_t_bests, .long t_allCount, .long t_allBest, .long t_allBests], aI cA q_t_beside 14 t_beside, aI cA q_t_bag 14 t_bag, aI cA q_t_up 14 t_up] [(0, .ref q_t), (1, .int x1)] [] := by
  intro n
  induction n with
  | zero => intro x1 hf; exact no_some hf
  | succ n ih =>
    intro x1 hf
    rw [L_X9_sound_110] at hf
    refine g_iload_n C 110 1 dX9_sound_110 rfl rfl ?_
    refine g_aload_n C 111 0 dX9_sound_111 rfl rfl ?_
    refine g_get C 112 0 0 dX9_sound_112 inX9 rfl rfl (by decide) kw_339 rfl ?_
    refine g_icmp_ge C 115 197 dX9_sound_115 (by decide) hf (fun hf => ?_) (fun hf => ?_)
    · refine g_iconst C 197 (0 : Int32) dX9_sound_197 (by decide) ?_
      cases hf
      exact g_iret C 198 dX9_sound_198 F hB
    · refine g_iconst C 118 (0 : Int32) dX9_sound_118 (by decide) ?_
      refine g_istore_n C 119 (fun z => [(2, .int z), (0, .ref q_t), (1, .int x1)]) dX9_sound_119 rfl (by decide) (fun _ => rfl) hf (fun x2_4 hf => ?_)
      refine g_iconst C 120 (0 : Int32) dX9_sound_120 (by decide) ?_
      refine g_istore_n C 121 (fun z => [(3, .int z), (2, .int x2_4), (0, .ref q_t), (1, .int x1)]) dX9_sound_121 rfl (by decide) (fun _ => rfl) hf (fun x3_5 hf => ?_)
      refine g_lv [2, 3, 1, 0] rfl ?_
      exact w_X9_sound_122 cA q_t q_t_weight q_t_edge t_rowed q_t_row q_t_least t_q q_t_factor q_t_pairFactor q_t_forbidden q_t_mayNot q_t_fixed q_t_state q_t_count q_t_best q_t_bests t_allCount t_allBest t_allBests q_t_beside q_t_bag q_t_up t_knots t_bags t_beside t_bag t_up C hk F r hB (fun y0 => L_X9_sound_110 t_knots t_bags t_beside t_bag t_up n y0) (fun y0 hf => ih y0 hf) NN x1 x2_4 x3_5 hf
def L_X9_sound_78 (t_knots : Int32) (t_bags : Int32) (t_beside : Nat → Int32) (t_bag : Nat → Int32) (t_up : Nat → Int32)  : Nat → Int32 → Option (Int32)
  | 0, _ => none
  | n + 1, x1 =>
    if t_knots ≤ x1 then
      bnd (0 : Int32) fun x1_3 =>
      L_X9_sound_110 t_knots t_bags t_beside t_bag t_up NN x1_3
    else
      cal (f_X9_inOne ((1 : Int32) <<< (x1 &&& 31)) t_bags t_bag) fun u17 =>
      if u17 = 0 then
        some (((1001 : Int32) + x1))
      else
        bnd (x1 + (1 : Int32)) fun x1_18 =>
        L_X9_sound_78 t_knots t_bags t_beside t_bag t_up n x1_18

set_option maxRecDepth 100000 in
set_option maxHeartbeats 1000000 in
theorem w_X9_sound_78 (cA : Nat → ClassId) (q_t : Nat) (q_t_weight : Nat) (q_t_edge : Nat) (t_rowed : Int32) (q_t_row : Nat) (q_t_least : Nat) (t_q : Int32) (q_t_factor : Nat) (q_t_pairFactor : Nat) (q_t_forbidden : Nat) (q_t_mayNot : Nat) (q_t_fixed : Nat) (q_t_state : Nat) (q_t_count : Nat) (q_t_best : Nat) (q_t_bests : Nat) (t_allCount : Int64) (t_allBest : Int64) (t_allBests : Int64) (q_t_beside : Nat) (q_t_bag : Nat) (q_t_up : Nat) (t_knots : Int32) (t_bags : Int32) (t_beside : Nat → Int32) (t_bag : Nat → Int32) (t_up : Nat → Int32) {X : XT}  (C : Cx X cX9_sound RX9 (some .int) cA 2 43 4) {kk nn : Nat} {BB : Option Value → va_W → Prop} (hk : kk ≤ (x_R X).cells ∧ nn ≤ (x_R X).slots) (F : Fx X BB kk nn) (r : Int32) (hB : BB (some (.int r)) [oB q_t 9 [.int t_knots, .ref q_t_weight, .ref q_t_beside, .ref q_t_edge, .int t_rowed, .ref q_t_row, .int t_bags, .ref q_t_bag, .ref q_t_up, .ref q_t_least, .int t_q, .ref q_t_factor, .ref q_t_pairFactor, .ref q_t_forbidden, .ref q_t_mayNot, .ref q_t_fixed, .ref q_t_state, .ref q_t_count, .ref q_t_best, .ref q_t_bests, .long t_allCount, .long t_allBest, .long t_allBests], aI cA q_t_beside 14 t_beside, aI cA q_t_bag 14 t_bag, aI cA q_t_up 14 t_up])  : ∀ (n : Nat) (x1 : Int32), L_X9_sound_78 t_knots t_bags t_beside t_bag t_up n x1 = some r → Go X 4 kk nn 78 [oB q_t 9 [.int t_knots, .ref q_t_weight, .ref q_t_beside, .ref q_t_edge, .int t_rowed, .ref q_t_row, .int t_bags, .ref q_t_bag, .ref q_t_up, .ref q_t_least, .int t_q, .ref q_t_factor, .ref q_t_pairFactor, .ref q_t_forbidden, .ref q_t_mayNot, .ref q_t_fixed, .ref q_t_state, .ref q_t_count, .ref q_t_best, .ref q_t_bests, .long t_allCount, .long t_allBest, .long t_allBests], aI cA q_t_beside 14 t_beside, aI cA q_t_bag 14 t_bag, aI cA q_t_up 14 t_up] [(0, .ref q_t), (1, .int x1)] [] := by
  intro n
  induction n with
  | zero => intro x1 hf; exact no_some hf
  | succ n ih =>
    intro x1 hf
    rw [L_X9_sound_78] at hf
    refine g_iload_n C 78 1 dX9_sound_78 rfl rfl ?_
    refine g_aload_n C 79 0 dX9_sound_79 rfl rfl ?_
    refine g_get C 80 0 0 dX9_sound_80 inX9 rfl rfl (by decide) kw_339 rfl ?_
    refine g_icmp_ge C 83 108 dX9_sound_83 (by decide) hf (fun hf => ?_) (fun hf => ?_)
    · refine g_iconst C 108 (0 : Int32) dX9_sound_108 (by decide) ?_
      refine g_istore_n C 109 (fun z => [(1, .int z), (0, .ref q_t)]) dX9_sound_109 rfl (by decide) (fun _ => rfl) hf (fun x1_3 hf => ?_)
      refine g_lv [1, 0] rfl ?_
      exact w_X9_sound_110 cA q_t q_t_weight q_t_edge t_rowed q_t_row q_t_least t_q q_t_factor q_t_pairFactor q_t_forbidden q_t_mayNot q_t_fixed q_t_state q_t_count q_t_best q_t_bests t_allCount t_allBest t_allBests q_t_beside q_t_bag q_t_up t_knots t_bags t_beside t_bag t_up C hk F r hB NN x1_3 hf
    · refine g_aload_n C 86 0 dX9_sound_86 rfl rfl ?_
      refine g_iconst C 87 (1 : Int32) dX9_sound_87 (by decide) ?_
      refine g_iload_n C 88 1 dX9_sound_88 rfl rfl ?_
      refine g_ishl C 89 dX9_sound_89 ?_
      obtain ⟨u17, hu17, hf⟩ := cal_some hf
      refine g_callV1 C 90 [0, 2] 0 (rest := []) dX9_sound_90 (c_X9_inOne (x_l X) cA q_t t_knots q_t_weight q_t_beside q_t_edge t_rowed q_t_row t_bags q_t_up q_t_least t_q q_t_factor q_t_pairFactor q_t_forbidden q_t_mayNot q_t_fixed q_t_state q_t_count q_t_best q_t_bests t_allCount t_allBest t_allBests q_t_bag t_bag ((1 : Int32) <<< (x1 &&& 31)) u17 hu17) kw_390 kw_391 kw_392 kw_343 kw_393 ok_X9_inOne ⟨Nat.le_of_ble_eq_true rfl, Nat.le_of_ble_eq_true rfl⟩ hk ⟨rfl, rfl⟩ rfl rfl rfl rfl rfl (Nat.le_of_ble_eq_true rfl) rfl (ws' := [oB q_t 9 [.int t_knots, .ref q_t_weight, .ref q_t_beside, .ref q_t_edge, .int t_rowed, .ref q_t_row, .int t_bags, .ref q_t_bag, .ref q_t_up, .ref q_t_least, .int t_q, .ref q_t_factor, .ref q_t_pairFactor, .ref q_t_forbidden, .ref q_t_mayNot, .ref q_t_fixed, .ref q_t_state, .ref q_t_count, .ref q_t_best, .ref q_t_bests, .long t_allCount, .long t_allBest, .long t_allBests], aI cA q_t_beside 14 t_beside, aI cA q_t_bag 14 t_bag, aI cA q_t_up 14 t_up]) (st' := [.int u17]) (N0 := 4) rfl [some 0, none, some 1, none] (by decide) rfl rfl ?_
      refine g_if_ne C 93 102 dX9_sound_93 (by decide) hf (fun hf => ?_) (fun hf => ?_)
      · refine g_iinc C 102 1 (v := x1 + (1 : Int32)) (fun z => [(1, .int z), (0, .ref q_t)]) dX9_sound_102 rfl rfl (by decide) (fun _ => rfl) hf (fun x1_18 hf => ?_)
        refine g_goto C 105 78 dX9_sound_105 (by decide) ?_
        refine g_lv [1, 0] rfl ?_
        exact ih x1_18 hf
      · refine g_sipush C 96 (1001 : Int32) dX9_sound_96 (by decide) ?_
        refine g_iload_n C 99 1 dX9_sound_99 rfl rfl ?_
        refine g_iadd C 100 dX9_sound_100 ?_
        cases hf
        exact g_iret C 101 dX9_sound_101 F hB
def L_X9_sound_24 (t_knots : Int32) (t_bags : Int32) (t_beside : Nat → Int32) (t_bag : Nat → Int32) (t_up : Nat → Int32) (k_12 : Int32 → Option (Int32)) : Nat → Int32 → Int32 → Option (Int32)
  | 0, _, _ => none
  | n + 1, x1, x2 =>
    if t_knots ≤ x2 then
      bnd (x1 + (1 : Int32)) fun x1_20 =>
      k_12 x1_20
    else
      cal (f_X9_isEdge x1 x2 t_knots t_beside) fun u21 =>
      if u21 = 0 then
        bnd (x2 + (1 : Int32)) fun x2_22 =>
        L_X9_sound_24 t_knots t_bags t_beside t_bag t_up k_12 n x1 x2_22
      else
        cal (f_X9_inOne (((1 : Int32) <<< (x1 &&& 31)) ||| ((1 : Int32) <<< (x2 &&& 31))) t_bags t_bag) fun u23 =>
        if u23 = 0 then
          some ((((1 : Int32) + ((16 : Int32) * x1)) + x2))
        else
          bnd (x2 + (1 : Int32)) fun x2_24 =>
          L_X9_sound_24 t_knots t_bags t_beside t_bag t_up k_12 n x1 x2_24

set_option maxRecDepth 100000 in
set_option maxHeartbeats 1000000 in
theorem w_X9_sound_24 (cA : Nat → ClassId) (q_t : Nat) (q_t_weight : Nat) (q_t_edge : Nat) (t_rowed : Int32) (q_t_row : Nat) (q_t_least : Nat) (t_q : Int32) (q_t_factor : Nat) (q_t_pairFactor : Nat) (q_t_forbidden : Nat) (q_t_mayNot : Nat) (q_t_fixed : Nat) (q_t_state : Nat) (q_t_count : Nat) (q_t_best : Nat) (q_t_bests : Nat) (t_allCount : Int64) (t_allBest : Int64) (t_allBests : Int64) (q_t_beside : Nat) (q_t_bag : Nat) (q_t_up : Nat) (t_knots : Int32) (t_bags : Int32) (t_beside : Nat → Int32) (t_bag : Nat → Int32) (t_up : Nat → Int32) {X : XT}  (C : Cx X cX9_sound RX9 (some .int) cA 2 43 4) {kk nn : Nat} {BB : Option Value → va_W → Prop} (hk : kk ≤ (x_R X).cells ∧ nn ≤ (x_R X).slots) (F : Fx X BB kk nn) (r : Int32) (hB : BB (some (.int r)) [oB q_t 9 [.int t_knots, .ref q_t_weight, .ref q_t_beside, .ref q_t_edge, .int t_rowed, .ref q_t_row, .int t_bags, .ref q_t_bag, .ref q_t_up, .ref q_t_least, .int t_q, .ref q_t_factor, .ref q_t_pairFactor, .ref q_t_forbidden, .ref q_t_mayNot, .ref q_t_fixed, .ref q_t_state, .ref q_t_count, .ref q_t_best, .ref q_t_bests, .long t_allCount, .long t_allBest, .long t_allBests], aI cA q_t_beside 14 t_beside, aI cA q_t_bag 14 t_bag, aI cA q_t_up 14 t_up]) (k_12 : Int32 → Option (Int32)) (h_12 : ∀ (x1 : Int32), k_12 x1 = some r → Go X 4 kk nn 12 [oB q_t 9 [.int t_knots, .ref q_t_weight, .ref q_t_beside, .ref q_t_edge, .int t_rowed, .ref q_t_row, .int t_bags, .ref q_t_bag, .ref q_t_up, .ref q_t_least, .int t_q, .ref q_t_factor, .ref q_t_pairFactor, .ref q_t_forbidden, .ref q_t_mayNot, .ref q_t_fixed, .ref q_t_state, .ref q_t_count, .ref q_t_best, .ref q_t_bests, .long t_allCount, .long t_allBest, .long t_allBests], aI cA q_t_beside 14 t_beside, aI cA q_t_bag 14 t_bag, aI cA q_t_up 14 t_up] [(0, .ref q_t), (1, .int x1)] []) : ∀ (n : Nat) (x1 : Int32) (x2 : Int32), L_X9_sound_24 t_knots t_bags t_beside t_bag t_up k_12 n x1 x2 = some r → Go X 4 kk nn 24 [oB q_t 9 [.int t_knots, .ref q_t_weight, .ref q_t_beside, .ref q_t_edge, .int t_rowed, .ref q_t_row, .int t_bags, .ref q_t_bag, .ref q_t_up, .ref q_t_least, .int t_q, .ref q_t_factor, .ref q_t_pairFactor, .ref q_t_forbidden, .ref q_t_mayNot, .ref q_t_fixed, .ref q_t_state, .ref q_t_count, .ref q_t_best, .ref q_t_bests, .long t_allCount, .long t_allBest, .long t_allBests], aI cA q_t_beside 14 t_beside, aI cA q_t_bag 14 t_bag, aI cA q_t_up 14 t_up] [(0, .ref q_t), (1, .int x1), (2, .int x2)] [] := by
  intro n
  induction n with
  | zero => intro x1 x2 hf; exact no_some hf
  | succ n ih =>
    intro x1 x2 hf
    rw [L_X9_sound_24] at hf
    refine g_iload_n C 24 2 dX9_sound_24 rfl rfl ?_
    refine g_aload_n C 25 0 dX9_sound_25 rfl rfl ?_
    refine g_get C 26 0 0 dX9_sound_26 inX9 rfl rfl (by decide) kw_339 rfl ?_
    refine g_icmp_ge C 29 70 dX9_sound_29 (by decide) hf (fun hf => ?_) (fun hf => ?_)
    · refine g_iinc C 70 1 (v := x1 + (1 : Int32)) (fun z => [(1, .int z), (0, .ref q_t), (2, .int x2)]) dX9_sound_70 rfl rfl (by decide) (fun _ => rfl) hf (fun x1_20 hf => ?_)
      refine g_goto C 73 12 dX9_sound_73 (by decide) ?_
      refine g_lv [1, 0] rfl ?_
      exact h_12 x1_20 hf
    · refine g_aload_n C 32 0 dX9_sound_32 rfl rfl ?_
      refine g_iload_n C 33 1 dX9_sound_33 rfl rfl ?_
      refine g_iload_n C 34 2 dX9_sound_34 rfl rfl ?_
      obtain ⟨u21, hu21, hf⟩ := cal_some hf
      refine g_callV1 C 35 [0, 1] 0 (rest := []) dX9_sound_35 (c_X9_isEdge (x_l X) cA q_t t_knots q_t_weight q_t_edge t_rowed q_t_row t_bags q_t_bag q_t_up q_t_least t_q q_t_factor q_t_pairFactor q_t_forbidden q_t_mayNot q_t_fixed q_t_state q_t_count q_t_best q_t_bests t_allCount t_allBest t_allBests q_t_beside t_beside x1 x2 u21 hu21) kw_354 kw_355 kw_356 kw_343 kw_357 ok_X9_isEdge ⟨Nat.le_of_ble_eq_true rfl, Nat.le_of_ble_eq_true rfl⟩ hk ⟨rfl, rfl⟩ rfl rfl rfl rfl rfl (Nat.le_of_ble_eq_true rfl) rfl (ws' := [oB q_t 9 [.int t_knots, .ref q_t_weight, .ref q_t_beside, .ref q_t_edge, .int t_rowed, .ref q_t_row, .int t_bags, .ref q_t_bag, .ref q_t_up, .ref q_t_least, .int t_q, .ref q_t_factor, .ref q_t_pairFactor, .ref q_t_forbidden, .ref q_t_mayNot, .ref q_t_fixed, .ref q_t_state, .ref q_t_count, .ref q_t_best, .ref q_t_bests, .long t_allCount, .long t_allBest, .long t_allBests], aI cA q_t_beside 14 t_beside, aI cA q_t_bag 14 t_bag, aI cA q_t_up 14 t_up]) (st' := [.int u21]) (N0 := 4) rfl [some 0, some 1, none, none] (by decide) rfl rfl ?_
      refine g_if_eq C 38 64 dX9_sound_38 (by decide) hf (fun hf => ?_) (fun hf => ?_)
      · refine g_iinc C 64 2 (v := x2 + (1 : Int32)) (fun z => [(2, .int z), (0, .ref q_t), (1, .int x1)]) dX9_sound_64 rfl rfl (by decide) (fun _ => rfl) hf (fun x2_22 hf => ?_)
        refine g_goto C 67 24 dX9_sound_67 (by decide) ?_
        refine g_lv [1, 2, 0] rfl ?_
        exact ih x1 x2_22 hf
      · refine g_aload_n C 41 0 dX9_sound_41 rfl rfl ?_
        refine g_iconst C 42 (1 : Int32) dX9_sound_42 (by decide) ?_
        refine g_iload_n C 43 1 dX9_sound_43 rfl rfl ?_
        refine g_ishl C 44 dX9_sound_44 ?_
        refine g_iconst C 45 (1 : Int32) dX9_sound_45 (by decide) ?_
        refine g_iload_n C 46 2 dX9_sound_46 rfl rfl ?_
        refine g_ishl C 47 dX9_sound_47 ?_
        refine g_ior C 48 dX9_sound_48 ?_
        obtain ⟨u23, hu23, hf⟩ := cal_some hf
        refine g_callV1 C 49 [0, 2] 0 (rest := []) dX9_sound_49 (c_X9_inOne (x_l X) cA q_t t_knots q_t_weight q_t_beside q_t_edge t_rowed q_t_row t_bags q_t_up q_t_least t_q q_t_factor q_t_pairFactor q_t_forbidden q_t_mayNot q_t_fixed q_t_state q_t_count q_t_best q_t_bests t_allCount t_allBest t_allBests q_t_bag t_bag (((1 : Int32) <<< (x1 &&& 31)) ||| ((1 : Int32) <<< (x2 &&& 31))) u23 hu23) kw_390 kw_391 kw_392 kw_343 kw_393 ok_X9_inOne ⟨Nat.le_of_ble_eq_true rfl, Nat.le_of_ble_eq_true rfl⟩ hk ⟨rfl, rfl⟩ rfl rfl rfl rfl rfl (Nat.le_of_ble_eq_true rfl) rfl (ws' := [oB q_t 9 [.int t_knots, .ref q_t_weight, .ref q_t_beside, .ref q_t_edge, .int t_rowed, .ref q_t_row, .int t_bags, .ref q_t_bag, .ref q_t_up, .ref q_t_least, .int t_q, .ref q_t_factor, .ref q_t_pairFactor, .ref q_t_forbidden, .ref q_t_mayNot, .ref q_t_fixed, .ref q_t_state, .ref q_t_count, .ref q_t_best, .ref q_t_bests, .long t_allCount, .long t_allBest, .long t_allBests], aI cA q_t_beside 14 t_beside, aI cA q_t_bag 14 t_bag, aI cA q_t_up 14 t_up]) (st' := [.int u23]) (N0 := 4) rfl [some 0, none, some 1, none] (by decide) rfl rfl ?_
        refine g_if_ne C 52 64 dX9_sound_52 (by decide) hf (fun hf => ?_) (fun hf => ?_)
        · refine g_iinc C 64 2 (v := x2 + (1 : Int32)) (fun z => [(2, .int z), (0, .ref q_t), (1, .int x1)]) dX9_sound_64 rfl rfl (by decide) (fun _ => rfl) hf (fun x2_24 hf => ?_)
          refine g_goto C 67 24 dX9_sound_67 (by decide) ?_
          refine g_lv [1, 2, 0] rfl ?_
          exact ih x1 x2_24 hf
        · refine g_iconst C 55 (1 : Int32) dX9_sound_55 (by decide) ?_
          refine g_bipush C 56 (16 : Int32) dX9_sound_56 (by decide) ?_
          refine g_iload_n C 58 1 dX9_sound_58 rfl rfl ?_
          refine g_imul C 59 dX9_sound_59 ?_
          refine g_iadd C 60 dX9_sound_60 ?_
          refine g_iload_n C 61 2 dX9_sound_61 rfl rfl ?_
          refine g_iadd C 62 dX9_sound_62 ?_
          cases hf
          exact g_iret C 63 dX9_sound_63 F hB
def L_X9_sound_12 (t_knots : Int32) (t_bags : Int32) (t_beside : Nat → Int32) (t_bag : Nat → Int32) (t_up : Nat → Int32)  : Nat → Int32 → Option (Int32)
  | 0, _ => none
  | n + 1, x1 =>
    if t_knots ≤ x1 then
      bnd (0 : Int32) fun x1_2 =>
      L_X9_sound_78 t_knots t_bags t_beside t_bag t_up NN x1_2
    else
      bnd (x1 + (1 : Int32)) fun x2_19 =>
      L_X9_sound_24 t_knots t_bags t_beside t_bag t_up (fun y0 => L_X9_sound_12 t_knots t_bags t_beside t_bag t_up n y0) NN x1 x2_19

set_option maxRecDepth 100000 in
set_option maxHeartbeats 1000000 in
theorem w_X9_sound_12 (cA : Nat → ClassId) (q_t : Nat) (q_t_weight : Nat) (q_t_edge : Nat) (t_rowed : Int32) (q_t_row : Nat) (q_t_least : Nat) (t_q : Int32) (q_t_factor : Nat) (q_t_pairFactor : Nat) (q_t_forbidden : Nat) (q_t_mayNot : Nat) (q_t_fixed : Nat) (q_t_state : Nat) (q_t_count : Nat) (q_t_best : Nat) (q_t_bests : Nat) (t_allCount : Int64) (t_allBest : Int64) (t_allBests : Int64) (q_t_beside : Nat) (q_t_bag : Nat) (q_t_up : Nat) (t_knots : Int32) (t_bags : Int32) (t_beside : Nat → Int32) (t_bag : Nat → Int32) (t_up : Nat → Int32) {X : XT}  (C : Cx X cX9_sound RX9 (some .int) cA 2 43 4) {kk nn : Nat} {BB : Option Value → va_W → Prop} (hk : kk ≤ (x_R X).cells ∧ nn ≤ (x_R X).slots) (F : Fx X BB kk nn) (r : Int32) (hB : BB (some (.int r)) [oB q_t 9 [.int t_knots, .ref q_t_weight, .ref q_t_beside, .ref q_t_edge, .int t_rowed, .ref q_t_row, .int t_bags, .ref q_t_bag, .ref q_t_up, .ref q_t_least, .int t_q, .ref q_t_factor, .ref q_t_pairFactor, .ref q_t_forbidden, .ref q_t_mayNot, .ref q_t_fixed, .ref q_t_state, .ref q_t_count, .ref q_t_best, .ref q_t_bests, .long t_allCount, .long t_allBest, .long t_allBests], aI cA q_t_beside 14 t_beside, aI cA q_t_bag 14 t_bag, aI cA q_t_up 14 t_up])  : ∀ (n : Nat) (x1 : Int32), L_X9_sound_12 t_knots t_bags t_beside t_bag t_up n x1 = some r → Go X 4 kk nn 12 [oB q_t 9 [.int t_knots, .ref q_t_weight, .ref q_t_beside, .ref q_t_edge, .int t_rowed, .ref q_t_row, .int t_bags, .ref q_t_bag, .ref q_t_up, .ref q_t_least, .int t_q, .ref q_t_factor, .ref q_t_pairFactor, .ref q_t_forbidden, .ref q_t_mayNot, .ref q_t_fixed, .ref q_t_state, .ref q_t_count, .ref q_t_best, .ref q_t_bests, .long t_allCount, .long t_allBest, .long t_allBests], aI cA q_t_beside 14 t_beside, aI cA q_t_bag 14 t_bag, aI cA q_t_up 14 t_up] [(0, .ref q_t), (1, .int x1)] [] := by
  intro n
  induction n with
  | zero => intro x1 hf; exact no_some hf
  | succ n ih =>
    intro x1 hf
    rw [L_X9_sound_12] at hf
    refine g_iload_n C 12 1 dX9_sound_12 rfl rfl ?_
    refine g_aload_n C 13 0 dX9_sound_13 rfl rfl ?_
    refine g_get C 14 0 0 dX9_sound_14 inX9 rfl rfl (by decide) kw_339 rfl ?_
    refine g_icmp_ge C 17 76 dX9_sound_17 (by decide) hf (fun hf => ?_) (fun hf => ?_)
    · refine g_iconst C 76 (0 : Int32) dX9_sound_76 (by decide) ?_
      refine g_istore_n C 77 (fun z => [(1, .int z), (0, .ref q_t)]) dX9_sound_77 rfl (by decide) (fun _ => rfl) hf (fun x1_2 hf => ?_)
      refine g_lv [1, 0] rfl ?_
      exact w_X9_sound_78 cA q_t q_t_weight q_t_edge t_rowed q_t_row q_t_least t_q q_t_factor q_t_pairFactor q_t_forbidden q_t_mayNot q_t_fixed q_t_state q_t_count q_t_best q_t_bests t_allCount t_allBest t_allBests q_t_beside q_t_bag q_t_up t_knots t_bags t_beside t_bag t_up C hk F r hB NN x1_2 hf
    · refine g_iload_n C 20 1 dX9_sound_20 rfl rfl ?_
      refine g_iconst C 21 (1 : Int32) dX9_sound_21 (by decide) ?_
      refine g_iadd C 22 dX9_sound_22 ?_
      refine g_istore_n C 23 (fun z => [(2, .int z), (0, .ref q_t), (1, .int x1)]) dX9_sound_23 rfl (by decide) (fun _ => rfl) hf (fun x2_19 hf => ?_)
      refine g_lv [1, 2, 0] rfl ?_
      exact w_X9_sound_24 cA q_t q_t_weight q_t_edge t_rowed q_t_row q_t_least t_q q_t_factor q_t_pairFactor q_t_forbidden q_t_mayNot q_t_fixed q_t_state q_t_count q_t_best q_t_bests t_allCount t_allBest t_allBests q_t_beside q_t_bag q_t_up t_knots t_bags t_beside t_bag t_up C hk F r hB (fun y0 => L_X9_sound_12 t_knots t_bags t_beside t_bag t_up n y0) (fun y0 hf => ih y0 hf) NN x1 x2_19 hf
def f_X9_sound (t_knots : Int32) (t_bags : Int32) (t_beside : Nat → Int32) (t_bag : Nat → Int32) (t_up : Nat → Int32) : Option (Int32) :=
  if t_bags = 0 then
    some ((-4 : Int32))
  else
    bnd (0 : Int32) fun x1_1 =>
    L_X9_sound_12 t_knots t_bags t_beside t_bag t_up NN x1_1

set_option maxRecDepth 100000 in
set_option maxHeartbeats 1000000 in
theorem c_X9_sound (l : Launch) (cA : Nat → ClassId) (q_t : Nat) (t_knots : Int32) (q_t_weight : Nat) (q_t_edge : Nat) (t_rowed : Int32) (q_t_row : Nat) (t_bags : Int32) (q_t_least : Nat) (t_q : Int32) (q_t_factor : Nat) (q_t_pairFactor : Nat) (q_t_forbidden : Nat) (q_t_mayNot : Nat) (q_t_fixed : Nat) (q_t_state : Nat) (q_t_count : Nat) (q_t_best : Nat) (q_t_bests : Nat) (t_allCount : Int64) (t_allBest : Int64) (t_allBests : Int64) (q_t_beside : Nat) (t_beside : Nat → Int32) (q_t_bag : Nat) (t_bag : Nat → Int32) (q_t_up : Nat) (t_up : Nat → Int32)   (r : Int32) (hf : f_X9_sound t_knots t_bags t_beside t_bag t_up = some r) : MT l cA yX9_sound cX9_sound 4 (some .int) ({ frames := 2, cells := 0, slots := 0, locals := 43 } : Room) [.ref q_t] [oB q_t 9 [.int t_knots, .ref q_t_weight, .ref q_t_beside, .ref q_t_edge, .int t_rowed, .ref q_t_row, .int t_bags, .ref q_t_bag, .ref q_t_up, .ref q_t_least, .int t_q, .ref q_t_factor, .ref q_t_pairFactor, .ref q_t_forbidden, .ref q_t_mayNot, .ref q_t_fixed, .ref q_t_state, .ref q_t_count, .ref q_t_best, .ref q_t_bests, .long t_allCount, .long t_allBest, .long t_allBests], aI cA q_t_beside 14 t_beside, aI cA q_t_bag 14 t_bag, aI cA q_t_up 14 t_up] (sB (some (.int r)) [oB q_t 9 [.int t_knots, .ref q_t_weight, .ref q_t_beside, .ref q_t_edge, .int t_rowed, .ref q_t_row, .int t_bags, .ref q_t_bag, .ref q_t_up, .ref q_t_least, .int t_q, .ref q_t_factor, .ref q_t_pairFactor, .ref q_t_forbidden, .ref q_t_mayNot, .ref q_t_fixed, .ref q_t_state, .ref q_t_count, .ref q_t_best, .ref q_t_bests, .long t_allCount, .long t_allBest, .long t_allBests], aI cA q_t_beside 14 t_beside, aI cA q_t_bag 14 t_bag, aI cA q_t_up 14 t_up]) := by
  refine MT.of (by decide) (Nat.le_of_ble_eq_true rfl) ?_
  intro X hXl C F hnm hrc hrs
  subst hXl
  have hk : 0 ≤ (x_R X).cells ∧ 0 ≤ (x_R X).slots := ⟨Nat.zero_le _, Nat.zero_le _⟩
  have hB : (sB (some (.int r)) [oB q_t 9 [.int t_knots, .ref q_t_weight, .ref q_t_beside, .ref q_t_edge, .int t_rowed, .ref q_t_row, .int t_bags, .ref q_t_bag, .ref q_t_up, .ref q_t_least, .int t_q, .ref q_t_factor, .ref q_t_pairFactor, .ref q_t_forbidden, .ref q_t_mayNot, .ref q_t_fixed, .ref q_t_state, .ref q_t_count, .ref q_t_best, .ref q_t_bests, .long t_allCount, .long t_allBest, .long t_allBests], aI cA q_t_beside 14 t_beside, aI cA q_t_bag 14 t_bag, aI cA q_t_up 14 t_up]) (some (.int r)) [oB q_t 9 [.int t_knots, .ref q_t_weight, .ref q_t_beside, .ref q_t_edge, .int t_rowed, .ref q_t_row, .int t_bags, .ref q_t_bag, .ref q_t_up, .ref q_t_least, .int t_q, .ref q_t_factor, .ref q_t_pairFactor, .ref q_t_forbidden, .ref q_t_mayNot, .ref q_t_fixed, .ref q_t_state, .ref q_t_count, .ref q_t_best, .ref q_t_bests, .long t_allCount, .long t_allBest, .long t_allBests], aI cA q_t_beside 14 t_beside, aI cA q_t_bag 14 t_bag, aI cA q_t_up 14 t_up] := ⟨rfl, rfl⟩
  unfold f_X9_sound at hf
  have C : Cx X cX9_sound RX9 (some .int) cA 2 43 4 := C
  show Go X 4 0 0 0 [oB q_t 9 [.int t_knots, .ref q_t_weight, .ref q_t_beside, .ref q_t_edge, .int t_rowed, .ref q_t_row, .int t_bags, .ref q_t_bag, .ref q_t_up, .ref q_t_least, .int t_q, .ref q_t_factor, .ref q_t_pairFactor, .ref q_t_forbidden, .ref q_t_mayNot, .ref q_t_fixed, .ref q_t_state, .ref q_t_count, .ref q_t_best, .ref q_t_bests, .long t_allCount, .long t_allBest, .long t_allBests], aI cA q_t_beside 14 t_beside, aI cA q_t_bag 14 t_bag, aI cA q_t_up 14 t_up] [(0, .ref q_t)] []
  refine g_aload_n C 0 0 dX9_sound_0 rfl rfl ?_
  refine g_get C 1 0 6 dX9_sound_1 inX9 rfl rfl (by decide) kw_348 rfl ?_
  refine g_if_ne C 4 10 dX9_sound_4 (by decide) hf (fun hf => ?_) (fun hf => ?_)
  · refine g_iconst C 10 (0 : Int32) dX9_sound_10 (by decide) ?_
    refine g_istore_n C 11 (fun z => [(1, .int z), (0, .ref q_t)]) dX9_sound_11 rfl (by decide) (fun _ => rfl) hf (fun x1_1 hf => ?_)
    refine g_lv [1, 0] rfl ?_
    exact w_X9_sound_12 cA q_t q_t_weight q_t_edge t_rowed q_t_row q_t_least t_q q_t_factor q_t_pairFactor q_t_forbidden q_t_mayNot q_t_fixed q_t_state q_t_count q_t_best q_t_bests t_allCount t_allBest t_allBests q_t_beside q_t_bag q_t_up t_knots t_bags t_beside t_bag t_up C hk F r hB NN x1_1 hf
  · refine g_bipush C 7 (-4 : Int32) dX9_sound_7 (by decide) ?_
    cases hf
    exact g_iret C 9 dX9_sound_9 F hB

def J_X9_separator_136 (t_knots : Int32) (t_bags : Int32) (t_beside : Nat → Int32) (t_bag : Nat → Int32) (t_up : Nat → Int32) (k_43 : Int32 → Int32 → Int32 → Option (Int32)) (x1 : Int32) (x2 : Int32) (x4 : Int32) : Option (Int32) :=
  bnd (0 : Int32) fun x3_10 =>
  bnd (x2 &&& (x4 ^^^ (-1 : Int32))) fun x2_11 =>
  k_43 x1 x2_11 x3_10

set_option maxRecDepth 100000 in
set_option maxHeartbeats 1000000 in
theorem w_X9_separator_136 (cA : Nat → ClassId) (q_t : Nat) (q_t_weight : Nat) (q_t_edge : Nat) (t_rowed : Int32) (q_t_row : Nat) (q_t_least : Nat) (t_q : Int32) (q_t_factor : Nat) (q_t_pairFactor : Nat) (q_t_forbidden : Nat) (q_t_mayNot : Nat) (q_t_fixed : Nat) (q_t_state : Nat) (q_t_count : Nat) (q_t_best : Nat) (q_t_bests : Nat) (t_allCount : Int64) (t_allBest : Int64) (t_allBests : Int64) (q_t_beside : Nat) (q_t_bag : Nat) (q_t_up : Nat) (t_knots : Int32) (t_bags : Int32) (t_beside : Nat → Int32) (t_bag : Nat → Int32) (t_up : Nat → Int32) {X : XT}  (C : Cx X cX9_separator RX9 (some .int) cA 3 66 7) {kk nn : Nat} {BB : Option Value → va_W → Prop} (hk : kk ≤ (x_R X).cells ∧ nn ≤ (x_R X).slots) (F : Fx X BB kk nn) (r : Int32) (hB : BB (some (.int r)) [oB q_t 9 [.int t_knots, .ref q_t_weight, .ref q_t_beside, .ref q_t_edge, .int t_rowed, .ref q_t_row, .int t_bags, .ref q_t_bag, .ref q_t_up, .ref q_t_least, .int t_q, .ref q_t_factor, .ref q_t_pairFactor, .ref q_t_forbidden, .ref q_t_mayNot, .ref q_t_fixed, .ref q_t_state, .ref q_t_count, .ref q_t_best, .ref q_t_bests, .long t_allCount, .long t_allBest, .long t_allBests], aI cA q_t_beside 14 t_beside, aI cA q_t_bag 14 t_bag, aI cA q_t_up 14 t_up]) (k_43 : Int32 → Int32 → Int32 → Option (Int32)) (h_43 : ∀ (x1 : Int32) (x2 : Int32) (x3 : Int32), k_43 x1 x2 x3 = some r → Go X 7 kk nn 43 [oB q_t 9 [.int t_knots, .ref q_t_weight, .ref q_t_beside, .ref q_t_edge, .int t_rowed, .ref q_t_row, .int t_bags, .ref q_t_bag, .ref q_t_up, .ref q_t_least, .int t_q, .ref q_t_factor, .ref q_t_pairFactor, .ref q_t_forbidden, .ref q_t_mayNot, .ref q_t_fixed, .ref q_t_state, .ref q_t_count, .ref q_t_best, .ref q_t_bests, .long t_allCount, .long t_allBest, .long t_allBests], aI cA q_t_beside 14 t_beside, aI cA q_t_bag 14 t_bag, aI cA q_t_up 14 t_up] [(0, .ref q_t), (1, .int x1), (2, .int x2), (3, .int x3)] []) : ∀ (x1 : Int32) (x2 : Int32) (x4 : Int32), J_X9_separator_136 t_knots t_bags t_beside t_bag t_up k_43 x1 x2 x4 = some r → Go X 7 kk nn 136 [oB q_t 9 [.int t_knots, .ref q_t_weight, .ref q_t_beside, .ref q_t_edge, .int t_rowed, .ref q_t_row, .int t_bags, .ref q_t_bag, .ref q_t_up, .ref q_t_least, .int t_q, .ref q_t_factor, .ref q_t_pairFactor, .ref q_t_forbidden, .ref q_t_mayNot, .ref q_t_fixed, .ref q_t_state, .ref q_t_count, .ref q_t_best, .ref q_t_bests, .long t_allCount, .long t_allBest, .long t_allBests], aI cA q_t_beside 14 t_beside, aI cA q_t_bag 14 t_bag, aI cA q_t_up 14 t_up] [(0, .ref q_t), (1, .int x1), (2, .int x2), (4, .int x4)] [] := by
  intro x1 x2 x4 hf
  unfold J_X9_separator_136 at hf
  refine g_iconst C 136 (0 : Int32) dX9_separator_136 (by decide) ?_
  refine g_istore_n C 137 (fun z => [(3, .int z), (0, .ref q_t), (1, .int x1), (2, .int x2), (4, .int x4)]) dX9_separator_137 rfl (by decide) (fun _ => rfl) hf (fun x3_10 hf => ?_)
  refine g_iload_n C 138 3 dX9_separator_138 rfl rfl ?_
  refine g_iload C 139 4 dX9_separator_139 rfl ?_
  refine g_iconst C 141 (-1 : Int32) dX9_separator_141 (by decide) ?_
  refine g_ixor C 142 dX9_separator_142 ?_
  refine g_iand C 143 dX9_separator_143 ?_
  refine g_istore_n C 144 (fun z => [(2, .int z), (3, .int x3_10), (0, .ref q_t), (1, .int x1), (4, .int x4)]) dX9_separator_144 rfl (by decide) (fun _ => rfl) hf (fun x2_11 hf => ?_)
  refine g_goto C 145 43 dX9_separator_145 (by decide) ?_
  refine g_lv [2, 3, 0, 1] rfl ?_
  exact h_43 x1 x2_11 x3_10 hf
def L_X9_separator_70 (t_knots : Int32) (t_bags : Int32) (t_beside : Nat → Int32) (t_bag : Nat → Int32) (t_up : Nat → Int32) (k_56 : Int32 → Int32 → Int32 → Int32 → Int32 → Option (Int32)) : Nat → Int32 → Int32 → Int32 → Int32 → Int32 → Int32 → Option (Int32)
  | 0, _, _, _, _, _, _ => none
  | n + 1, x1, x2, x3, x4, x5, x6 =>
    if t_knots ≤ x6 then
      k_56 x1 x2 x3 x4 x5
    else
      if ((x5 >>> (x6 &&& 31)) &&& (1 : Int32)) = (1 : Int32) then
        ldA t_beside 14 x6 fun v18 =>
        bnd (x4 ||| (v18 &&& x2)) fun x4_19 =>
        bnd (x6 + (1 : Int32)) fun x6_20 =>
        L_X9_separator_70 t_knots t_bags t_beside t_bag t_up k_56 n x1 x2 x3 x4_19 x5 x6_20
      else
        bnd (x6 + (1 : Int32)) fun x6_17 =>
        L_X9_separator_70 t_knots t_bags t_beside t_bag t_up k_56 n x1 x2 x3 x4 x5 x6_17

set_option maxRecDepth 100000 in
set_option maxHeartbeats 1000000 in
theorem w_X9_separator_70 (cA : Nat → ClassId) (q_t : Nat) (q_t_weight : Nat) (q_t_edge : Nat) (t_rowed : Int32) (q_t_row : Nat) (q_t_least : Nat) (t_q : Int32) (q_t_factor : Nat) (q_t_pairFactor : Nat) (q_t_forbidden : Nat) (q_t_mayNot : Nat) (q_t_fixed : Nat) (q_t_state : Nat) (q_t_count : Nat) (q_t_best : Nat) (q_t_bests : Nat) (t_allCount : Int64) (t_allBest : Int64) (t_allBests : Int64) (q_t_beside : Nat) (q_t_bag : Nat) (q_t_up : Nat) (t_knots : Int32) (t_bags : Int32) (t_beside : Nat → Int32) (t_bag : Nat → Int32) (t_up : Nat → Int32) {X : XT}  (C : Cx X cX9_separator RX9 (some .int) cA 3 66 7) {kk nn : Nat} {BB : Option Value → va_W → Prop} (hk : kk ≤ (x_R X).cells ∧ nn ≤ (x_R X).slots) (F : Fx X BB kk nn) (r : Int32) (hB : BB (some (.int r)) [oB q_t 9 [.int t_knots, .ref q_t_weight, .ref q_t_beside, .ref q_t_edge, .int t_rowed, .ref q_t_row, .int t_bags, .ref q_t_bag, .ref q_t_up, .ref q_t_least, .int t_q, .ref q_t_factor, .ref q_t_pairFactor, .ref q_t_forbidden, .ref q_t_mayNot, .ref q_t_fixed, .ref q_t_state, .ref q_t_count, .ref q_t_best, .ref q_t_bests, .long t_allCount, .long t_allBest, .long t_allBests], aI cA q_t_beside 14 t_beside, aI cA q_t_bag 14 t_bag, aI cA q_t_up 14 t_up]) (k_56 : Int32 → Int32 → Int32 → Int32 → Int32 → Option (Int32)) (h_56 : ∀ (x1 : Int32) (x2 : Int32) (x3 : Int32) (x4 : Int32) (x5 : Int32), k_56 x1 x2 x3 x4 x5 = some r → Go X 7 kk nn 56 [oB q_t 9 [.int t_knots, .ref q_t_weight, .ref q_t_beside, .ref q_t_edge, .int t_rowed, .ref q_t_row, .int t_bags, .ref q_t_bag, .ref q_t_up, .ref q_t_least, .int t_q, .ref q_t_factor, .ref q_t_pairFactor, .ref q_t_forbidden, .ref q_t_mayNot, .ref q_t_fixed, .ref q_t_state, .ref q_t_count, .ref q_t_best, .ref q_t_bests, .long t_allCount, .long t_allBest, .long t_allBests], aI cA q_t_beside 14 t_beside, aI cA q_t_bag 14 t_bag, aI cA q_t_up 14 t_up] [(0, .ref q_t), (1, .int x1), (2, .int x2), (3, .int x3), (4, .int x4), (5, .int x5)] []) : ∀ (n : Nat) (x1 : Int32) (x2 : Int32) (x3 : Int32) (x4 : Int32) (x5 : Int32) (x6 : Int32), L_X9_separator_70 t_knots t_bags t_beside t_bag t_up k_56 n x1 x2 x3 x4 x5 x6 = some r → Go X 7 kk nn 70 [oB q_t 9 [.int t_knots, .ref q_t_weight, .ref q_t_beside, .ref q_t_edge, .int t_rowed, .ref q_t_row, .int t_bags, .ref q_t_bag, .ref q_t_up, .ref q_t_least, .int t_q, .ref q_t_factor, .ref q_t_pairFactor, .ref q_t_forbidden, .ref q_t_mayNot, .ref q_t_fixed, .ref q_t_state, .ref q_t_count, .ref q_t_best, .ref q_t_bests, .long t_allCount, .long t_allBest, .long t_allBests], aI cA q_t_beside 14 t_beside, aI cA q_t_bag 14 t_bag, aI cA q_t_up 14 t_up] [(0, .ref q_t), (1, .int x1), (2, .int x2), (3, .int x3), (4, .int x4), (5, .int x5), (6, .int x6)] [] := by
  intro n
  induction n with
  | zero => intro x1 x2 x3 x4 x5 x6 hf; exact no_some hf
  | succ n ih =>
    intro x1 x2 x3 x4 x5 x6 hf
    rw [L_X9_separator_70] at hf
    refine g_iload C 70 6 dX9_separator_70 rfl ?_
    refine g_aload_n C 72 0 dX9_separator_72 rfl rfl ?_
    refine g_get C 73 0 0 dX9_separator_73 inX9 rfl rfl (by decide) kw_339 rfl ?_
    refine g_icmp_ge C 76 110 dX9_separator_76 (by decide) hf (fun hf => ?_) (fun hf => ?_)
    · refine g_goto C 110 56 dX9_separator_110 (by decide) ?_
      refine g_lv [0, 1, 2, 3, 4, 5] rfl ?_
      exact h_56 x1 x2 x3 x4 x5 hf
    · refine g_iload C 79 5 dX9_separator_79 rfl ?_
      refine g_iload C 81 6 dX9_separator_81 rfl ?_
      refine g_ishr C 83 dX9_separator_83 ?_
      refine g_iconst C 84 (1 : Int32) dX9_separator_84 (by decide) ?_
      refine g_iand C 85 dX9_separator_85 ?_
      refine g_iconst C 86 (1 : Int32) dX9_separator_86 (by decide) ?_
      refine g_icmp_ne C 87 104 dX9_separator_87 (by decide) hf (fun hf => ?_) (fun hf => ?_)
      · refine g_iinc C 104 6 (v := x6 + (1 : Int32)) (fun z => [(6, .int z), (0, .ref q_t), (1, .int x1), (2, .int x2), (3, .int x3), (4, .int x4), (5, .int x5)]) dX9_separator_104 rfl rfl (by decide) (fun _ => rfl) hf (fun x6_17 hf => ?_)
        refine g_goto C 107 70 dX9_separator_107 (by decide) ?_
        refine g_lv [1, 2, 3, 4, 5, 6, 0] rfl ?_
        exact ih x1 x2 x3 x4 x5 x6_17 hf
      · refine g_iload C 90 4 dX9_separator_90 rfl ?_
        refine g_aload_n C 92 0 dX9_separator_92 rfl rfl ?_
        refine g_get C 93 0 2 dX9_separator_93 inX9 rfl rfl (by decide) kw_346 rfl ?_
        refine g_iload C 96 6 dX9_separator_96 rfl ?_
        refine g_iald C 98 1 dX9_separator_98 rfl hf (fun v18 hf => ?_)
        refine g_iload_n C 99 2 dX9_separator_99 rfl rfl ?_
        refine g_iand C 100 dX9_separator_100 ?_
        refine g_ior C 101 dX9_separator_101 ?_
        refine g_istore C 102 (fun z => [(4, .int z), (0, .ref q_t), (1, .int x1), (2, .int x2), (3, .int x3), (5, .int x5), (6, .int x6)]) dX9_separator_102 (by decide) (fun _ => rfl) hf (fun x4_19 hf => ?_)
        refine g_iinc C 104 6 (v := x6 + (1 : Int32)) (fun z => [(6, .int z), (4, .int x4_19), (0, .ref q_t), (1, .int x1), (2, .int x2), (3, .int x3), (5, .int x5)]) dX9_separator_104 rfl rfl (by decide) (fun _ => rfl) hf (fun x6_20 hf => ?_)
        refine g_goto C 107 70 dX9_separator_107 (by decide) ?_
        refine g_lv [2, 3, 4, 5, 1, 6, 0] rfl ?_
        exact ih x1 x2 x3 x4_19 x5 x6_20 hf
def L_X9_separator_56 (t_knots : Int32) (t_bags : Int32) (t_beside : Nat → Int32) (t_bag : Nat → Int32) (t_up : Nat → Int32) (k_43 : Int32 → Int32 → Int32 → Option (Int32)) : Nat → Int32 → Int32 → Int32 → Int32 → Int32 → Option (Int32)
  | 0, _, _, _, _, _ => none
  | n + 1, x1, x2, x3, x4, x5 =>
    if x4 = x5 then
      if x3 = 0 then
        J_X9_separator_136 t_knots t_bags t_beside t_bag t_up k_43 x1 x2 x4
      else
        cal (f_X9_bits x4) fun u12 =>
        if (t_knots / (2 : Int32)) < u12 then
          J_X9_separator_136 t_knots t_bags t_beside t_bag t_up k_43 x1 x2 x4
        else
          bnd (1 : Int32) fun x3_13 =>
          bnd (x2 &&& (x4 ^^^ (-1 : Int32))) fun x2_14 =>
          k_43 x1 x2_14 x3_13
    else
      bnd x4 fun x5_15 =>
      bnd (0 : Int32) fun x6_16 =>
      L_X9_separator_70 t_knots t_bags t_beside t_bag t_up (fun y0 y1 y2 y3 y4 => L_X9_separator_56 t_knots t_bags t_beside t_bag t_up k_43 n y0 y1 y2 y3 y4) NN x1 x2 x3 x4 x5_15 x6_16

set_option maxRecDepth 100000 in
set_option maxHeartbeats 1000000 in
theorem w_X9_separator_56 (cA : Nat → ClassId) (q_t : Nat) (q_t_weight : Nat) (q_t_edge : Nat) (t_rowed : Int32) (q_t_row : Nat) (q_t_least : Nat) (t_q : Int32) (q_t_factor : Nat) (q_t_pairFactor : Nat) (q_t_forbidden : Nat) (q_t_mayNot : Nat) (q_t_fixed : Nat) (q_t_state : Nat) (q_t_count : Nat) (q_t_best : Nat) (q_t_bests : Nat) (t_allCount : Int64) (t_allBest : Int64) (t_allBests : Int64) (q_t_beside : Nat) (q_t_bag : Nat) (q_t_up : Nat) (t_knots : Int32) (t_bags : Int32) (t_beside : Nat → Int32) (t_bag : Nat → Int32) (t_up : Nat → Int32) {X : XT}  (C : Cx X cX9_separator RX9 (some .int) cA 3 66 7) {kk nn : Nat} {BB : Option Value → va_W → Prop} (hk : kk ≤ (x_R X).cells ∧ nn ≤ (x_R X).slots) (F : Fx X BB kk nn) (r : Int32) (hB : BB (some (.int r)) [oB q_t 9 [.int t_knots, .ref q_t_weight, .ref q_t_beside, .ref q_t_edge, .int t_rowed, .ref q_t_row, .int t_bags, .ref q_t_bag, .ref q_t_up, .ref q_t_least, .int t_q, .ref q_t_factor, .ref q_t_pairFactor, .ref q_t_forbidden, .ref q_t_mayNot, .ref q_t_fixed, .ref q_t_state, .ref q_t_count, .ref q_t_best, .ref q_t_bests, .long t_allCount, .long t_allBest, .long t_allBests], aI cA q_t_beside 14 t_beside, aI cA q_t_bag 14 t_bag, aI cA q_t_up 14 t_up]) (k_43 : Int32 → Int32 → Int32 → Option (Int32)) (h_43 : ∀ (x1 : Int32) (x2 : Int32) (x3 : Int32), k_43 x1 x2 x3 = some r → Go X 7 kk nn 43 [oB q_t 9 [.int t_knots, .ref q_t_weight, .ref q_t_beside, .ref q_t_edge, .int t_rowed, .ref q_t_row, .int t_bags, .ref q_t_bag, .ref q_t_up, .ref q_t_least, .int t_q, .ref q_t_factor, .ref q_t_pairFactor, .ref q_t_forbidden, .ref q_t_mayNot, .ref q_t_fixed, .ref q_t_state, .ref q_t_count, .ref q_t_best, .ref q_t_bests, .long t_allCount, .long t_allBest, .long t_allBests], aI cA q_t_beside 14 t_beside, aI cA q_t_bag 14 t_bag, aI cA q_t_up 14 t_up] [(0, .ref q_t), (1, .int x1), (2, .int x2), (3, .int x3)] []) : ∀ (n : Nat) (x1 : Int32) (x2 : Int32) (x3 : Int32) (x4 : Int32) (x5 : Int32), L_X9_separator_56 t_knots t_bags t_beside t_bag t_up k_43 n x1 x2 x3 x4 x5 = some r → Go X 7 kk nn 56 [oB q_t 9 [.int t_knots, .ref q_t_weight, .ref q_t_beside, .ref q_t_edge, .int t_rowed, .ref q_t_row, .int t_bags, .ref q_t_bag, .ref q_t_up, .ref q_t_least, .int t_q, .ref q_t_factor, .ref q_t_pairFactor, .ref q_t_forbidden, .ref q_t_mayNot, .ref q_t_fixed, .ref q_t_state, .ref q_t_count, .ref q_t_best, .ref q_t_bests, .long t_allCount, .long t_allBest, .long t_allBests], aI cA q_t_beside 14 t_beside, aI cA q_t_bag 14 t_bag, aI cA q_t_up 14 t_up] [(0, .ref q_t), (1, .int x1), (2, .int x2), (3, .int x3), (4, .int x4), (5, .int x5)] [] := by
  intro n
  induction n with
  | zero => intro x1 x2 x3 x4 x5 hf; exact no_some hf
  | succ n ih =>
    intro x1 x2 x3 x4 x5 hf
    rw [L_X9_separator_56] at hf
    refine g_iload C 56 4 dX9_separator_56 rfl ?_
    refine g_iload C 58 5 dX9_separator_58 rfl ?_
    refine g_icmp_eq C 60 113 dX9_separator_60 (by decide) hf (fun hf => ?_) (fun hf => ?_)
    · refine g_iload_n C 113 3 dX9_separator_113 rfl rfl ?_
      refine g_if_eq C 114 136 dX9_separator_114 (by decide) hf (fun hf => ?_) (fun hf => ?_)
      · refine g_lv [0, 1, 2, 4] rfl ?_
        exact w_X9_separator_136 cA q_t q_t_weight q_t_edge t_rowed q_t_row q_t_least t_q q_t_factor q_t_pairFactor q_t_forbidden q_t_mayNot q_t_fixed q_t_state q_t_count q_t_best q_t_bests t_allCount t_allBest t_allBests q_t_beside q_t_bag q_t_up t_knots t_bags t_beside t_bag t_up C hk F r hB k_43 h_43 x1 x2 x4 hf
      · refine g_aload_n C 117 0 dX9_separator_117 rfl rfl ?_
        refine g_iload C 118 4 dX9_separator_118 rfl ?_
        obtain ⟨u12, hu12, hf⟩ := cal_some hf
        refine g_callV1 C 120 [] 0 (rest := []) dX9_separator_120 (c_X9_bits (x_l X) cA q_t x4 u12 hu12) kw_367 kw_368 kw_369 kw_343 kw_370 ok_X9_bits ⟨Nat.le_of_ble_eq_true rfl, Nat.le_of_ble_eq_true rfl⟩ hk ⟨rfl, rfl⟩ rfl rfl rfl rfl rfl (Nat.le_of_ble_eq_true rfl) rfl (ws' := [oB q_t 9 [.int t_knots, .ref q_t_weight, .ref q_t_beside, .ref q_t_edge, .int t_rowed, .ref q_t_row, .int t_bags, .ref q_t_bag, .ref q_t_up, .ref q_t_least, .int t_q, .ref q_t_factor, .ref q_t_pairFactor, .ref q_t_forbidden, .ref q_t_mayNot, .ref q_t_fixed, .ref q_t_state, .ref q_t_count, .ref q_t_best, .ref q_t_bests, .long t_allCount, .long t_allBest, .long t_allBests], aI cA q_t_beside 14 t_beside, aI cA q_t_bag 14 t_bag, aI cA q_t_up 14 t_up]) (st' := [.int u12]) (N0 := 4) rfl [none, none, none, none] (by decide) rfl rfl ?_
        refine g_aload_n C 123 0 dX9_separator_123 rfl rfl ?_
        refine g_get C 124 0 0 dX9_separator_124 inX9 rfl rfl (by decide) kw_339 rfl ?_
        refine g_iconst C 127 (2 : Int32) dX9_separator_127 (by decide) ?_
        refine g_idiv C 128 dX9_separator_128 (by decide) ?_
        refine g_icmp_gt C 129 136 dX9_separator_129 (by decide) hf (fun hf => ?_) (fun hf => ?_)
        · refine g_lv [0, 1, 2, 4] rfl ?_
          exact w_X9_separator_136 cA q_t q_t_weight q_t_edge t_rowed q_t_row q_t_least t_q q_t_factor q_t_pairFactor q_t_forbidden q_t_mayNot q_t_fixed q_t_state q_t_count q_t_best q_t_bests t_allCount t_allBest t_allBests q_t_beside q_t_bag q_t_up t_knots t_bags t_beside t_bag t_up C hk F r hB k_43 h_43 x1 x2 x4 hf
        · refine g_iconst C 132 (1 : Int32) dX9_separator_132 (by decide) ?_
          refine g_goto C 133 137 dX9_separator_133 (by decide) ?_
          refine g_istore_n C 137 (fun z => [(3, .int z), (0, .ref q_t), (1, .int x1), (2, .int x2), (4, .int x4), (5, .int x5)]) dX9_separator_137 rfl (by decide) (fun _ => rfl) hf (fun x3_13 hf => ?_)
          refine g_iload_n C 138 3 dX9_separator_138 rfl rfl ?_
          refine g_iload C 139 4 dX9_separator_139 rfl ?_
          refine g_iconst C 141 (-1 : Int32) dX9_separator_141 (by decide) ?_
          refine g_ixor C 142 dX9_separator_142 ?_
          refine g_iand C 143 dX9_separator_143 ?_
          refine g_istore_n C 144 (fun z => [(2, .int z), (3, .int x3_13), (0, .ref q_t), (1, .int x1), (4, .int x4), (5, .int x5)]) dX9_separator_144 rfl (by decide) (fun _ => rfl) hf (fun x2_14 hf => ?_)
          refine g_goto C 145 43 dX9_separator_145 (by decide) ?_
          refine g_lv [2, 3, 0, 1] rfl ?_
          exact h_43 x1 x2_14 x3_13 hf
    · refine g_iload C 63 4 dX9_separator_63 rfl ?_
      refine g_istore C 65 (fun z => [(5, .int z), (0, .ref q_t), (1, .int x1), (2, .int x2), (3, .int x3), (4, .int x4)]) dX9_separator_65 (by decide) (fun _ => rfl) hf (fun x5_15 hf => ?_)
      refine g_iconst C 67 (0 : Int32) dX9_separator_67 (by decide) ?_
      refine g_istore C 68 (fun z => [(6, .int z), (5, .int x5_15), (0, .ref q_t), (1, .int x1), (2, .int x2), (3, .int x3), (4, .int x4)]) dX9_separator_68 (by decide) (fun _ => rfl) hf (fun x6_16 hf => ?_)
      refine g_lv [2, 3, 4, 5, 6, 1, 0] rfl ?_
      exact w_X9_separator_70 cA q_t q_t_weight q_t_edge t_rowed q_t_row q_t_least t_q q_t_factor q_t_pairFactor q_t_forbidden q_t_mayNot q_t_fixed q_t_state q_t_count q_t_best q_t_bests t_allCount t_allBest t_allBests q_t_beside q_t_bag q_t_up t_knots t_bags t_beside t_bag t_up C hk F r hB (fun y0 y1 y2 y3 y4 => L_X9_separator_56 t_knots t_bags t_beside t_bag t_up k_43 n y0 y1 y2 y3 y4) (fun y0 y1 y2 y3 y4 hf => ih y0 y1 y2 y3 y4 hf) NN x1 x2 x3 x4 x5_15 x6_16 hf
def L_X9_separator_43 (t_knots : Int32) (t_bags : Int32) (t_beside : Nat → Int32) (t_bag : Nat → Int32) (t_up : Nat → Int32) (k_19 : Int32 → Option (Int32)) : Nat → Int32 → Int32 → Int32 → Option (Int32)
  | 0, _, _, _ => none
  | n + 1, x1, x2, x3 =>
    if x2 = 0 then
      if x3 = 0 then
        bnd (x1 + (1 : Int32)) fun x1_7 =>
        k_19 x1_7
      else
        some (x1)
    else
      bnd (x2 &&& (-x2)) fun x4_8 =>
      bnd (0 : Int32) fun x5_9 =>
      L_X9_separator_56 t_knots t_bags t_beside t_bag t_up (fun y0 y1 y2 => L_X9_separator_43 t_knots t_bags t_beside t_bag t_up k_19 n y0 y1 y2) NN x1 x2 x3 x4_8 x5_9

set_option maxRecDepth 100000 in
set_option maxHeartbeats 1000000 in
theorem w_X9_separator_43 (cA : Nat → ClassId) (q_t : Nat) (q_t_weight : Nat) (q_t_edge : Nat) (t_rowed : Int32) (q_t_row : Nat) (q_t_least : Nat) (t_q : Int32) (q_t_factor : Nat) (q_t_pairFactor : Nat) (q_t_forbidden : Nat) (q_t_mayNot : Nat) (q_t_fixed : Nat) (q_t_state : Nat) (q_t_count : Nat) (q_t_best : Nat) (q_t_bests : Nat) (t_allCount : Int64) (t_allBest : Int64) (t_allBests : Int64) (q_t_beside : Nat) (q_t_bag : Nat) (q_t_up : Nat) (t_knots : Int32) (t_bags : Int32) (t_beside : Nat → Int32) (t_bag : Nat → Int32) (t_up : Nat → Int32) {X : XT}  (C : Cx X cX9_separator RX9 (some .int) cA 3 66 7) {kk nn : Nat} {BB : Option Value → va_W → Prop} (hk : kk ≤ (x_R X).cells ∧ nn ≤ (x_R X).slots) (F : Fx X BB kk nn) (r : Int32) (hB : BB (some (.int r)) [oB q_t 9 [.int t_knots, .ref q_t_weight, .ref q_t_beside, .ref q_t_edge, .int t_rowed, .ref q_t_row, .int t_bags, .ref q_t_bag, .ref q_t_up, .ref q_t_least, .int t_q, .ref q_t_factor, .ref q_t_pairFactor, .ref q_t_forbidden, .ref q_t_mayNot, .ref q_t_fixed, .ref q_t_state, .ref q_t_count, .ref q_t_best, .ref q_t_bests, .long t_allCount, .long t_allBest, .long t_allBests], aI cA q_t_beside 14 t_beside, aI cA q_t_bag 14 t_bag, aI cA q_t_up 14 t_up]) (k_19 : Int32 → Option (Int32)) (h_19 : ∀ (x1 : Int32), k_19 x1 = some r → Go X 7 kk nn 19 [oB q_t 9 [.int t_knots, .ref q_t_weight, .ref q_t_beside, .ref q_t_edge, .int t_rowed, .ref q_t_row, .int t_bags, .ref q_t_bag, .ref q_t_up, .ref q_t_least, .int t_q, .ref q_t_factor, .ref q_t_pairFactor, .ref q_t_forbidden, .ref q_t_mayNot, .ref q_t_fixed, .ref q_t_state, .ref q_t_count, .ref q_t_best, .ref q_t_bests, .long t_allCount, .long t_allBest, .long t_allBests], aI cA q_t_beside 14 t_beside, aI cA q_t_bag 14 t_bag, aI cA q_t_up 14 t_up] [(0, .ref q_t), (1, .int x1)] []) : ∀ (n : Nat) (x1 : Int32) (x2 : Int32) (x3 : Int32), L_X9_separator_43 t_knots t_bags t_beside t_bag t_up k_19 n x1 x2 x3 = some r → Go X 7 kk nn 43 [oB q_t 9 [.int t_knots, .ref q_t_weight, .ref q_t_beside, .ref q_t_edge, .int t_rowed, .ref q_t_row, .int t_bags, .ref q_t_bag, .ref q_t_up, .ref q_t_least, .int t_q, .ref q_t_factor, .ref q_t_pairFactor, .ref q_t_forbidden, .ref q_t_mayNot, .ref q_t_fixed, .ref q_t_state, .ref q_t_count, .ref q_t_best, .ref q_t_bests, .long t_allCount, .long t_allBest, .long t_allBests], aI cA q_t_beside 14 t_beside, aI cA q_t_bag 14 t_bag, aI cA q_t_up 14 t_up] [(0, .ref q_t), (1, .int x1), (2, .int x2), (3, .int x3)] [] := by
  intro n
  induction n with
  | zero => intro x1 x2 x3 hf; exact no_some hf
  | succ n ih =>
    intro x1 x2 x3 hf
    rw [L_X9_separator_43] at hf
    refine g_iload_n C 43 2 dX9_separator_43 rfl rfl ?_
    refine g_if_eq C 44 148 dX9_separator_44 (by decide) hf (fun hf => ?_) (fun hf => ?_)
    · refine g_iload_n C 148 3 dX9_separator_148 rfl rfl ?_
      refine g_if_eq C 149 154 dX9_separator_149 (by decide) hf (fun hf => ?_) (fun hf => ?_)
      · refine g_iinc C 154 1 (v := x1 + (1 : Int32)) (fun z => [(1, .int z), (0, .ref q_t), (2, .int x2), (3, .int x3)]) dX9_separator_154 rfl rfl (by decide) (fun _ => rfl) hf (fun x1_7 hf => ?_)
        refine g_goto C 157 19 dX9_separator_157 (by decide) ?_
        refine g_lv [1, 0] rfl ?_
        exact h_19 x1_7 hf
      · refine g_iload_n C 152 1 dX9_separator_152 rfl rfl ?_
        cases hf
        exact g_iret C 153 dX9_separator_153 F hB
    · refine g_iload_n C 47 2 dX9_separator_47 rfl rfl ?_
      refine g_iload_n C 48 2 dX9_separator_48 rfl rfl ?_
      refine g_ineg C 49 dX9_separator_49 ?_
      refine g_iand C 50 dX9_separator_50 ?_
      refine g_istore C 51 (fun z => [(4, .int z), (0, .ref q_t), (1, .int x1), (2, .int x2), (3, .int x3)]) dX9_separator_51 (by decide) (fun _ => rfl) hf (fun x4_8 hf => ?_)
      refine g_iconst C 53 (0 : Int32) dX9_separator_53 (by decide) ?_
      refine g_istore C 54 (fun z => [(5, .int z), (4, .int x4_8), (0, .ref q_t), (1, .int x1), (2, .int x2), (3, .int x3)]) dX9_separator_54 (by decide) (fun _ => rfl) hf (fun x5_9 hf => ?_)
      refine g_lv [2, 3, 4, 5, 1, 0] rfl ?_
      exact w_X9_separator_56 cA q_t q_t_weight q_t_edge t_rowed q_t_row q_t_least t_q q_t_factor q_t_pairFactor q_t_forbidden q_t_mayNot q_t_fixed q_t_state q_t_count q_t_best q_t_bests t_allCount t_allBest t_allBests q_t_beside q_t_bag q_t_up t_knots t_bags t_beside t_bag t_up C hk F r hB (fun y0 y1 y2 => L_X9_separator_43 t_knots t_bags t_beside t_bag t_up k_19 n y0 y1 y2) (fun y0 y1 y2 hf => ih y0 y1 y2 hf) NN x1 x2 x3 x4_8 x5_9 hf
def L_X9_separator_19 (t_knots : Int32) (t_bags : Int32) (t_beside : Nat → Int32) (t_bag : Nat → Int32) (t_up : Nat → Int32)  : Nat → Int32 → Option (Int32)
  | 0, _ => none
  | n + 1, x1 =>
    if t_bags ≤ x1 then
      some ((-1 : Int32))
    else
      cal (f_X9_all t_knots) fun u3 =>
      ldA t_bag 14 x1 fun v4 =>
      bnd (u3 &&& (v4 ^^^ (-1 : Int32))) fun x2_5 =>
      bnd (1 : Int32) fun x3_6 =>
      L_X9_separator_43 t_knots t_bags t_beside t_bag t_up (fun y0 => L_X9_separator_19 t_knots t_bags t_beside t_bag t_up n y0) NN x1 x2_5 x3_6

set_option maxRecDepth 100000 in
set_option maxHeartbeats 1000000 in
theorem w_X9_separator_19 (cA : Nat → ClassId) (q_t : Nat) (q_t_weight : Nat) (q_t_edge : Nat) (t_rowed : Int32) (q_t_row : Nat) (q_t_least : Nat) (t_q : Int32) (q_t_factor : Nat) (q_t_pairFactor : Nat) (q_t_forbidden : Nat) (q_t_mayNot : Nat) (q_t_fixed : Nat) (q_t_state : Nat) (q_t_count : Nat) (q_t_best : Nat) (q_t_bests : Nat) (t_allCount : Int64) (t_allBest : Int64) (t_allBests : Int64) (q_t_beside : Nat) (q_t_bag : Nat) (q_t_up : Nat) (t_knots : Int32) (t_bags : Int32) (t_beside : Nat → Int32) (t_bag : Nat → Int32) (t_up : Nat → Int32) {X : XT}  (C : Cx X cX9_separator RX9 (some .int) cA 3 66 7) {kk nn : Nat} {BB : Option Value → va_W → Prop} (hk : kk ≤ (x_R X).cells ∧ nn ≤ (x_R X).slots) (F : Fx X BB kk nn) (r : Int32) (hB : BB (some (.int r)) [oB q_t 9 [.int t_knots, .ref q_t_weight, .ref q_t_beside, .ref q_t_edge, .int t_rowed, .ref q_t_row, .int t_bags, .ref q_t_bag, .ref q_t_up, .ref q_t_least, .int t_q, .ref q_t_factor, .ref q_t_pairFactor, .ref q_t_forbidden, .ref q_t_mayNot, .ref q_t_fixed, .ref q_t_state, .ref q_t_count, .ref q_t_best, .ref q_t_bests, .long t_allCount, .long t_allBest, .long t_allBests], aI cA q_t_beside 14 t_beside, aI cA q_t_bag 14 t_bag, aI cA q_t_up 14 t_up])  : ∀ (n : Nat) (x1 : Int32), L_X9_separator_19 t_knots t_bags t_beside t_bag t_up n x1 = some r → Go X 7 kk nn 19 [oB q_t 9 [.int t_knots, .ref q_t_weight, .ref q_t_beside, .ref q_t_edge, .int t_rowed, .ref q_t_row, .int t_bags, .ref q_t_bag, .ref q_t_up, .ref q_t_least, .int t_q, .ref q_t_factor, .ref q_t_pairFactor, .ref q_t_forbidden, .ref q_t_mayNot, .ref q_t_fixed, .ref q_t_state, .ref q_t_count, .ref q_t_best, .ref q_t_bests, .long t_allCount, .long t_allBest, .long t_allBests], aI cA q_t_beside 14 t_beside, aI cA q_t_bag 14 t_bag, aI cA q_t_up 14 t_up] [(0, .ref q_t), (1, .int x1)] [] := by
  intro n
  induction n with
  | zero => intro x1 hf; exact no_some hf
  | succ n ih =>
    intro x1 hf
    rw [L_X9_separator_19] at hf
    refine g_iload_n C 19 1 dX9_separator_19 rfl rfl ?_
    refine g_aload_n C 20 0 dX9_separator_20 rfl rfl ?_
    refine g_get C 21 0 6 dX9_separator_21 inX9 rfl rfl (by decide) kw_348 rfl ?_
    refine g_icmp_ge C 24 160 dX9_separator_24 (by decide) hf (fun hf => ?_) (fun hf => ?_)
    · refine g_iconst C 160 (-1 : Int32) dX9_separator_160 (by decide) ?_
      cases hf
      exact g_iret C 161 dX9_separator_161 F hB
    · refine g_aload_n C 27 0 dX9_separator_27 rfl rfl ?_
      obtain ⟨u3, hu3, hf⟩ := cal_some hf
      refine g_callV1 C 28 [0] 0 (rest := []) dX9_separator_28 (c_X9_all (x_l X) cA q_t t_knots q_t_weight q_t_beside q_t_edge t_rowed q_t_row t_bags q_t_bag q_t_up q_t_least t_q q_t_factor q_t_pairFactor q_t_forbidden q_t_mayNot q_t_fixed q_t_state q_t_count q_t_best q_t_bests t_allCount t_allBest t_allBests u3 hu3) kw_385 kw_386 kw_387 kw_343 kw_388 ok_X9_all ⟨Nat.le_of_ble_eq_true rfl, Nat.le_of_ble_eq_true rfl⟩ hk ⟨rfl, rfl⟩ rfl rfl rfl rfl rfl (Nat.le_of_ble_eq_true rfl) rfl (ws' := [oB q_t 9 [.int t_knots, .ref q_t_weight, .ref q_t_beside, .ref q_t_edge, .int t_rowed, .ref q_t_row, .int t_bags, .ref q_t_bag, .ref q_t_up, .ref q_t_least, .int t_q, .ref q_t_factor, .ref q_t_pairFactor, .ref q_t_forbidden, .ref q_t_mayNot, .ref q_t_fixed, .ref q_t_state, .ref q_t_count, .ref q_t_best, .ref q_t_bests, .long t_allCount, .long t_allBest, .long t_allBests], aI cA q_t_beside 14 t_beside, aI cA q_t_bag 14 t_bag, aI cA q_t_up 14 t_up]) (st' := [.int u3]) (N0 := 4) rfl [some 0, none, none, none] (by decide) rfl rfl ?_
      refine g_aload_n C 31 0 dX9_separator_31 rfl rfl ?_
      refine g_get C 32 0 7 dX9_separator_32 inX9 rfl rfl (by decide) kw_371 rfl ?_
      refine g_iload_n C 35 1 dX9_separator_35 rfl rfl ?_
      refine g_iald C 36 2 dX9_separator_36 rfl hf (fun v4 hf => ?_)
      refine g_iconst C 37 (-1 : Int32) dX9_separator_37 (by decide) ?_
      refine g_ixor C 38 dX9_separator_38 ?_
      refine g_iand C 39 dX9_separator_39 ?_
      refine g_istore_n C 40 (fun z => [(2, .int z), (0, .ref q_t), (1, .int x1)]) dX9_separator_40 rfl (by decide) (fun _ => rfl) hf (fun x2_5 hf => ?_)
      refine g_iconst C 41 (1 : Int32) dX9_separator_41 (by decide) ?_
      refine g_istore_n C 42 (fun z => [(3, .int z), (2, .int x2_5), (0, .ref q_t), (1, .int x1)]) dX9_separator_42 rfl (by decide) (fun _ => rfl) hf (fun x3_6 hf => ?_)
      refine g_lv [2, 3, 1, 0] rfl ?_
      exact w_X9_separator_43 cA q_t q_t_weight q_t_edge t_rowed q_t_row q_t_least t_q q_t_factor q_t_pairFactor q_t_forbidden q_t_mayNot q_t_fixed q_t_state q_t_count q_t_best q_t_bests t_allCount t_allBest t_allBests q_t_beside q_t_bag q_t_up t_knots t_bags t_beside t_bag t_up C hk F r hB (fun y0 => L_X9_separator_19 t_knots t_bags t_beside t_bag t_up n y0) (fun y0 hf => ih y0 hf) NN x1 x2_5 x3_6 hf
def f_X9_separator (t_knots : Int32) (t_bags : Int32) (t_beside : Nat → Int32) (t_bag : Nat → Int32) (t_up : Nat → Int32) : Option (Int32) :=
  if t_bags = 0 then
    some ((-4 : Int32))
  else
    cal (f_X9_sound t_knots t_bags t_beside t_bag t_up) fun u1 =>
    if u1 = 0 then
      bnd (0 : Int32) fun x1_2 =>
      L_X9_separator_19 t_knots t_bags t_beside t_bag t_up NN x1_2
    else
      some ((-4 : Int32))

set_option maxRecDepth 100000 in
set_option maxHeartbeats 1000000 in
theorem c_X9_separator (l : Launch) (cA : Nat → ClassId) (q_t : Nat) (t_knots : Int32) (q_t_weight : Nat) (q_t_edge : Nat) (t_rowed : Int32) (q_t_row : Nat) (t_bags : Int32) (q_t_least : Nat) (t_q : Int32) (q_t_factor : Nat) (q_t_pairFactor : Nat) (q_t_forbidden : Nat) (q_t_mayNot : Nat) (q_t_fixed : Nat) (q_t_state : Nat) (q_t_count : Nat) (q_t_best : Nat) (q_t_bests : Nat) (t_allCount : Int64) (t_allBest : Int64) (t_allBests : Int64) (q_t_beside : Nat) (t_beside : Nat → Int32) (q_t_bag : Nat) (t_bag : Nat → Int32) (q_t_up : Nat) (t_up : Nat → Int32)   (r : Int32) (hf : f_X9_separator t_knots t_bags t_beside t_bag t_up = some r) : MT l cA yX9_separator cX9_separator 7 (some .int) ({ frames := 3, cells := 0, slots := 0, locals := 66 } : Room) [.ref q_t] [oB q_t 9 [.int t_knots, .ref q_t_weight, .ref q_t_beside, .ref q_t_edge, .int t_rowed, .ref q_t_row, .int t_bags, .ref q_t_bag, .ref q_t_up, .ref q_t_least, .int t_q, .ref q_t_factor, .ref q_t_pairFactor, .ref q_t_forbidden, .ref q_t_mayNot, .ref q_t_fixed, .ref q_t_state, .ref q_t_count, .ref q_t_best, .ref q_t_bests, .long t_allCount, .long t_allBest, .long t_allBests], aI cA q_t_beside 14 t_beside, aI cA q_t_bag 14 t_bag, aI cA q_t_up 14 t_up] (sB (some (.int r)) [oB q_t 9 [.int t_knots, .ref q_t_weight, .ref q_t_beside, .ref q_t_edge, .int t_rowed, .ref q_t_row, .int t_bags, .ref q_t_bag, .ref q_t_up, .ref q_t_least, .int t_q, .ref q_t_factor, .ref q_t_pairFactor, .ref q_t_forbidden, .ref q_t_mayNot, .ref q_t_fixed, .ref q_t_state, .ref q_t_count, .ref q_t_best, .ref q_t_bests, .long t_allCount, .long t_allBest, .long t_allBests], aI cA q_t_beside 14 t_beside, aI cA q_t_bag 14 t_bag, aI cA q_t_up 14 t_up]) := by
  refine MT.of (by decide) (Nat.le_of_ble_eq_true rfl) ?_
  intro X hXl C F hnm hrc hrs
  subst hXl
  have hk : 0 ≤ (x_R X).cells ∧ 0 ≤ (x_R X).slots := ⟨Nat.zero_le _, Nat.zero_le _⟩
  have hB : (sB (some (.int r)) [oB q_t 9 [.int t_knots, .ref q_t_weight, .ref q_t_beside, .ref q_t_edge, .int t_rowed, .ref q_t_row, .int t_bags, .ref q_t_bag, .ref q_t_up, .ref q_t_least, .int t_q, .ref q_t_factor, .ref q_t_pairFactor, .ref q_t_forbidden, .ref q_t_mayNot, .ref q_t_fixed, .ref q_t_state, .ref q_t_count, .ref q_t_best, .ref q_t_bests, .long t_allCount, .long t_allBest, .long t_allBests], aI cA q_t_beside 14 t_beside, aI cA q_t_bag 14 t_bag, aI cA q_t_up 14 t_up]) (some (.int r)) [oB q_t 9 [.int t_knots, .ref q_t_weight, .ref q_t_beside, .ref q_t_edge, .int t_rowed, .ref q_t_row, .int t_bags, .ref q_t_bag, .ref q_t_up, .ref q_t_least, .int t_q, .ref q_t_factor, .ref q_t_pairFactor, .ref q_t_forbidden, .ref q_t_mayNot, .ref q_t_fixed, .ref q_t_state, .ref q_t_count, .ref q_t_best, .ref q_t_bests, .long t_allCount, .long t_allBest, .long t_allBests], aI cA q_t_beside 14 t_beside, aI cA q_t_bag 14 t_bag, aI cA q_t_up 14 t_up] := ⟨rfl, rfl⟩
  unfold f_X9_separator at hf
  have C : Cx X cX9_separator RX9 (some .int) cA 3 66 7 := C
  show Go X 7 0 0 0 [oB q_t 9 [.int t_knots, .ref q_t_weight, .ref q_t_beside, .ref q_t_edge, .int t_rowed, .ref q_t_row, .int t_bags, .ref q_t_bag, .ref q_t_up, .ref q_t_least, .int t_q, .ref q_t_factor, .ref q_t_pairFactor, .ref q_t_forbidden, .ref q_t_mayNot, .ref q_t_fixed, .ref q_t_state, .ref q_t_count, .ref q_t_best, .ref q_t_bests, .long t_allCount, .long t_allBest, .long t_allBests], aI cA q_t_beside 14 t_beside, aI cA q_t_bag 14 t_bag, aI cA q_t_up 14 t_up] [(0, .ref q_t)] []
  refine g_aload_n C 0 0 dX9_separator_0 rfl rfl ?_
  refine g_get C 1 0 6 dX9_separator_1 inX9 rfl rfl (by decide) kw_348 rfl ?_
  refine g_if_eq C 4 14 dX9_separator_4 (by decide) hf (fun hf => ?_) (fun hf => ?_)
  · refine g_bipush C 14 (-4 : Int32) dX9_separator_14 (by decide) ?_
    cases hf
    exact g_iret C 16 dX9_separator_16 F hB
  · refine g_aload_n C 7 0 dX9_separator_7 rfl rfl ?_
    obtain ⟨u1, hu1, hf⟩ := cal_some hf
    refine g_callV1 C 8 [0, 1, 2, 3] 0 (rest := []) dX9_separator_8 (c_X9_sound (x_l X) cA q_t t_knots q_t_weight q_t_edge t_rowed q_t_row t_bags q_t_least t_q q_t_factor q_t_pairFactor q_t_forbidden q_t_mayNot q_t_fixed q_t_state q_t_count q_t_best q_t_bests t_allCount t_allBest t_allBests q_t_beside t_beside q_t_bag t_bag q_t_up t_up u1 hu1) kw_394 kw_395 kw_396 kw_343 kw_397 ok_X9_sound ⟨Nat.le_of_ble_eq_true rfl, Nat.le_of_ble_eq_true rfl⟩ hk ⟨rfl, rfl⟩ rfl rfl rfl rfl rfl (Nat.le_of_ble_eq_true rfl) rfl (ws' := [oB q_t 9 [.int t_knots, .ref q_t_weight, .ref q_t_beside, .ref q_t_edge, .int t_rowed, .ref q_t_row, .int t_bags, .ref q_t_bag, .ref q_t_up, .ref q_t_least, .int t_q, .ref q_t_factor, .ref q_t_pairFactor, .ref q_t_forbidden, .ref q_t_mayNot, .ref q_t_fixed, .ref q_t_state, .ref q_t_count, .ref q_t_best, .ref q_t_bests, .long t_allCount, .long t_allBest, .long t_allBests], aI cA q_t_beside 14 t_beside, aI cA q_t_bag 14 t_bag, aI cA q_t_up 14 t_up]) (st' := [.int u1]) (N0 := 4) rfl [some 0, some 1, some 2, some 3] (by decide) rfl rfl ?_
    refine g_if_eq C 11 17 dX9_separator_11 (by decide) hf (fun hf => ?_) (fun hf => ?_)
    · refine g_iconst C 17 (0 : Int32) dX9_separator_17 (by decide) ?_
      refine g_istore_n C 18 (fun z => [(1, .int z), (0, .ref q_t)]) dX9_separator_18 rfl (by decide) (fun _ => rfl) hf (fun x1_2 hf => ?_)
      refine g_lv [1, 0] rfl ?_
      exact w_X9_separator_19 cA q_t q_t_weight q_t_edge t_rowed q_t_row q_t_least t_q q_t_factor q_t_pairFactor q_t_forbidden q_t_mayNot q_t_fixed q_t_state q_t_count q_t_best q_t_bests t_allCount t_allBest t_allBests q_t_beside q_t_bag q_t_up t_knots t_bags t_beside t_bag t_up C hk F r hB NN x1_2 hf
    · refine g_bipush C 14 (-4 : Int32) dX9_separator_14 (by decide) ?_
      cases hf
      exact g_iret C 16 dX9_separator_16 F hB

def L_X9_states_73 (a1 : Int32)  : Nat → Int32 → Int32 → Int32 → (Nat → Int32) → (Nat → Int32) → (Nat → Int32) → (Nat → Int32) → Option (Int32 × Int32 × (Nat → Int32) × (Nat → Int32) × (Nat → Int32) × (Nat → Int32))
  | 0, _, _, _, _, _, _, _ => none
  | n + 1, x2, x3, t_q, t_factor, t_pairFactor, t_forbidden, t_mayNot =>
    if (14 : Int32) ≤ x3 then
      some (x2, t_q, t_factor, t_pairFactor, t_forbidden, t_mayNot)
    else
      stI t_forbidden 14 x3 (0 : Int32) fun t_forbidden_6 =>
      bnd (x3 + (1 : Int32)) fun x3_7 =>
      L_X9_states_73 a1 n x2 x3_7 t_q t_factor t_pairFactor t_forbidden_6 t_mayNot

set_option maxRecDepth 100000 in
set_option maxHeartbeats 1000000 in
theorem w_X9_states_73 (cA : Nat → ClassId) (q_t : Nat) (t_knots : Int32) (q_t_weight : Nat) (q_t_beside : Nat) (q_t_edge : Nat) (t_rowed : Int32) (q_t_row : Nat) (t_bags : Int32) (q_t_bag : Nat) (q_t_up : Nat) (q_t_least : Nat) (q_t_fixed : Nat) (q_t_state : Nat) (q_t_count : Nat) (q_t_best : Nat) (q_t_bests : Nat) (t_allCount : Int64) (t_allBest : Int64) (t_allBests : Int64) (q_t_factor : Nat) (q_t_pairFactor : Nat) (q_t_forbidden : Nat) (q_t_mayNot : Nat) (a1 : Int32) {X : XT}  (C : Cx X cX9_states RX9 (some .int) cA 0 0 4) {kk nn : Nat} {BB : Option Value → va_W → Prop} (hk : kk ≤ (x_R X).cells ∧ nn ≤ (x_R X).slots) (F : Fx X BB kk nn) (r : Int32 × Int32 × (Nat → Int32) × (Nat → Int32) × (Nat → Int32) × (Nat → Int32)) (hB : BB (some (.int r.1)) [oB q_t 9 [.int t_knots, .ref q_t_weight, .ref q_t_beside, .ref q_t_edge, .int t_rowed, .ref q_t_row, .int t_bags, .ref q_t_bag, .ref q_t_up, .ref q_t_least, .int r.2.1, .ref q_t_factor, .ref q_t_pairFactor, .ref q_t_forbidden, .ref q_t_mayNot, .ref q_t_fixed, .ref q_t_state, .ref q_t_count, .ref q_t_best, .ref q_t_bests, .long t_allCount, .long t_allBest, .long t_allBests], aI cA q_t_factor 4 r.2.2.1, aI cA q_t_pairFactor 16 r.2.2.2.1, aI cA q_t_forbidden 14 r.2.2.2.2.1, aZ cA q_t_mayNot 16 r.2.2.2.2.2])  : ∀ (n : Nat) (x2 : Int32) (x3 : Int32) (t_q : Int32) (t_factor : Nat → Int32) (t_pairFactor : Nat → Int32) (t_forbidden : Nat → Int32) (t_mayNot : Nat → Int32), L_X9_states_73 a1 n x2 x3 t_q t_factor t_pairFactor t_forbidden t_mayNot = some r → Go X 4 kk nn 73 [oB q_t 9 [.int t_knots, .ref q_t_weight, .ref q_t_beside, .ref q_t_edge, .int t_rowed, .ref q_t_row, .int t_bags, .ref q_t_bag, .ref q_t_up, .ref q_t_least, .int t_q, .ref q_t_factor, .ref q_t_pairFactor, .ref q_t_forbidden, .ref q_t_mayNot, .ref q_t_fixed, .ref q_t_state, .ref q_t_count, .ref q_t_best, .ref q_t_bests, .long t_allCount, .long t_allBest, .long t_allBests], aI cA q_t_factor 4 t_factor, aI cA q_t_pairFactor 16 t_pairFactor, aI cA q_t_forbidden 14 t_forbidden, aZ cA q_t_mayNot 16 t_mayNot] [(0, .ref q_t), (2, .int x2), (3, .int x3)] [] := by
  intro n
  induction n with
  | zero => intro x2 x3 t_q t_factor t_pairFactor t_forbidden t_mayNot hf; exact no_some hf
  | succ n ih =>
    intro x2 x3 t_q t_factor t_pairFactor t_forbidden t_mayNot hf
    rw [L_X9_states_73] at hf
    refine g_iload_n C 73 2 dX9_states_73 rfl rfl ?_
    refine g_bipush C 74 (14 : Int32) dX9_states_74 (by decide) ?_
    refine g_icmp_ge C 76 92 dX9_states_76 (by decide) hf (fun hf => ?_) (fun hf => ?_)
    · refine g_iload_n C 92 1 dX9_states_92 rfl rfl ?_
      cases hf
      exact g_iret C 93 dX9_states_93 F hB
    · refine g_aload_n C 79 0 dX9_states_79 rfl rfl ?_
      refine g_get C 80 0 13 dX9_states_80 inX9 rfl rfl (by decide) kw_399 rfl ?_
      refine g_iload_n C 83 2 dX9_states_83 rfl rfl ?_
      refine g_iconst C 84 (0 : Int32) dX9_states_84 (by decide) ?_
      refine g_iast C 85 3 (fun z => [oB q_t 9 [.int t_knots, .ref q_t_weight, .ref q_t_beside, .ref q_t_edge, .int t_rowed, .ref q_t_row, .int t_bags, .ref q_t_bag, .ref q_t_up, .ref q_t_least, .int t_q, .ref q_t_factor, .ref q_t_pairFactor, .ref q_t_forbidden, .ref q_t_mayNot, .ref q_t_fixed, .ref q_t_state, .ref q_t_count, .ref q_t_best, .ref q_t_bests, .long t_allCount, .long t_allBest, .long t_allBests], aI cA q_t_factor 4 t_factor, aI cA q_t_pairFactor 16 t_pairFactor, aI cA q_t_forbidden 14 z, aZ cA q_t_mayNot 16 t_mayNot]) dX9_states_85 rfl (fun _ => rfl) hf (fun t_forbidden_6 hf => ?_)
      refine g_iinc C 86 2 (v := x3 + (1 : Int32)) (fun z => [(3, .int z), (0, .ref q_t), (2, .int x2)]) dX9_states_86 rfl rfl (by decide) (fun _ => rfl) hf (fun x3_7 hf => ?_)
      refine g_goto C 89 73 dX9_states_89 (by decide) ?_
      refine g_lv [1, 2, 0] rfl ?_
      exact ih x2 x3_7 t_q t_factor t_pairFactor t_forbidden_6 t_mayNot hf
def L_X9_states_45 (a1 : Int32)  : Nat → Int32 → Int32 → Int32 → (Nat → Int32) → (Nat → Int32) → (Nat → Int32) → (Nat → Int32) → Option (Int32 × Int32 × (Nat → Int32) × (Nat → Int32) × (Nat → Int32) × (Nat → Int32))
  | 0, _, _, _, _, _, _, _ => none
  | n + 1, x2, x3, t_q, t_factor, t_pairFactor, t_forbidden, t_mayNot =>
    if (16 : Int32) ≤ x3 then
      bnd (0 : Int32) fun x3_5 =>
      L_X9_states_73 a1 NN x2 x3_5 t_q t_factor t_pairFactor t_forbidden t_mayNot
    else
      stI t_pairFactor 16 x3 (0 : Int32) fun t_pairFactor_8 =>
      stZ t_mayNot 16 x3 (0 : Int32) fun t_mayNot_9 =>
      bnd (x3 + (1 : Int32)) fun x3_10 =>
      L_X9_states_45 a1 n x2 x3_10 t_q t_factor t_pairFactor_8 t_forbidden t_mayNot_9

set_option maxRecDepth 100000 in
set_option maxHeartbeats 1000000 in
theorem w_X9_states_45 (cA : Nat → ClassId) (q_t : Nat) (t_knots : Int32) (q_t_weight : Nat) (q_t_beside : Nat) (q_t_edge : Nat) (t_rowed : Int32) (q_t_row : Nat) (t_bags : Int32) (q_t_bag : Nat) (q_t_up : Nat) (q_t_least : Nat) (q_t_fixed : Nat) (q_t_state : Nat) (q_t_count : Nat) (q_t_best : Nat) (q_t_bests : Nat) (t_allCount : Int64) (t_allBest : Int64) (t_allBests : Int64) (q_t_factor : Nat) (q_t_pairFactor : Nat) (q_t_forbidden : Nat) (q_t_mayNot : Nat) (a1 : Int32) {X : XT}  (C : Cx X cX9_states RX9 (some .int) cA 0 0 4) {kk nn : Nat} {BB : Option Value → va_W → Prop} (hk : kk ≤ (x_R X).cells ∧ nn ≤ (x_R X).slots) (F : Fx X BB kk nn) (r : Int32 × Int32 × (Nat → Int32) × (Nat → Int32) × (Nat → Int32) × (Nat → Int32)) (hB : BB (some (.int r.1)) [oB q_t 9 [.int t_knots, .ref q_t_weight, .ref q_t_beside, .ref q_t_edge, .int t_rowed, .ref q_t_row, .int t_bags, .ref q_t_bag, .ref q_t_up, .ref q_t_least, .int r.2.1, .ref q_t_factor, .ref q_t_pairFactor, .ref q_t_forbidden, .ref q_t_mayNot, .ref q_t_fixed, .ref q_t_state, .ref q_t_count, .ref q_t_best, .ref q_t_bests, .long t_allCount, .long t_allBest, .long t_allBests], aI cA q_t_factor 4 r.2.2.1, aI cA q_t_pairFactor 16 r.2.2.2.1, aI cA q_t_forbidden 14 r.2.2.2.2.1, aZ cA q_t_mayNot 16 r.2.2.2.2.2])  : ∀ (n : Nat) (x2 : Int32) (x3 : Int32) (t_q : Int32) (t_factor : Nat → Int32) (t_pairFactor : Nat → Int32) (t_forbidden : Nat → Int32) (t_mayNot : Nat → Int32), L_X9_states_45 a1 n x2 x3 t_q t_factor t_pairFactor t_forbidden t_mayNot = some r → Go X 4 kk nn 45 [oB q_t 9 [.int t_knots, .ref q_t_weight, .ref q_t_beside, .ref q_t_edge, .int t_rowed, .ref q_t_row, .int t_bags, .ref q_t_bag, .ref q_t_up, .ref q_t_least, .int t_q, .ref q_t_factor, .ref q_t_pairFactor, .ref q_t_forbidden, .ref q_t_mayNot, .ref q_t_fixed, .ref q_t_state, .ref q_t_count, .ref q_t_best, .ref q_t_bests, .long t_allCount, .long t_allBest, .long t_allBests], aI cA q_t_factor 4 t_factor, aI cA q_t_pairFactor 16 t_pairFactor, aI cA q_t_forbidden 14 t_forbidden, aZ cA q_t_mayNot 16 t_mayNot] [(0, .ref q_t), (2, .int x2), (3, .int x3)] [] := by
  intro n
  induction n with
  | zero => intro x2 x3 t_q t_factor t_pairFactor t_forbidden t_mayNot hf; exact no_some hf
  | succ n ih =>
    intro x2 x3 t_q t_factor t_pairFactor t_forbidden t_mayNot hf
    rw [L_X9_states_45] at hf
    refine g_iload_n C 45 2 dX9_states_45 rfl rfl ?_
    refine g_bipush C 46 (16 : Int32) dX9_states_46 (by decide) ?_
    refine g_icmp_ge C 48 71 dX9_states_48 (by decide) hf (fun hf => ?_) (fun hf => ?_)
    · refine g_iconst C 71 (0 : Int32) dX9_states_71 (by decide) ?_
      refine g_istore_n C 72 (fun z => [(3, .int z), (0, .ref q_t), (2, .int x2)]) dX9_states_72 rfl (by decide) (fun _ => rfl) hf (fun x3_5 hf => ?_)
      refine g_lv [1, 2, 0] rfl ?_
      exact w_X9_states_73 cA q_t t_knots q_t_weight q_t_beside q_t_edge t_rowed q_t_row t_bags q_t_bag q_t_up q_t_least q_t_fixed q_t_state q_t_count q_t_best q_t_bests t_allCount t_allBest t_allBests q_t_factor q_t_pairFactor q_t_forbidden q_t_mayNot a1 C hk F r hB NN x2 x3_5 t_q t_factor t_pairFactor t_forbidden t_mayNot hf
    · refine g_aload_n C 51 0 dX9_states_51 rfl rfl ?_
      refine g_get C 52 0 12 dX9_states_52 inX9 rfl rfl (by decide) kw_400 rfl ?_
      refine g_iload_n C 55 2 dX9_states_55 rfl rfl ?_
      refine g_iconst C 56 (0 : Int32) dX9_states_56 (by decide) ?_
      refine g_iast C 57 2 (fun z => [oB q_t 9 [.int t_knots, .ref q_t_weight, .ref q_t_beside, .ref q_t_edge, .int t_rowed, .ref q_t_row, .int t_bags, .ref q_t_bag, .ref q_t_up, .ref q_t_least, .int t_q, .ref q_t_factor, .ref q_t_pairFactor, .ref q_t_forbidden, .ref q_t_mayNot, .ref q_t_fixed, .ref q_t_state, .ref q_t_count, .ref q_t_best, .ref q_t_bests, .long t_allCount, .long t_allBest, .long t_allBests], aI cA q_t_factor 4 t_factor, aI cA q_t_pairFactor 16 z, aI cA q_t_forbidden 14 t_forbidden, aZ cA q_t_mayNot 16 t_mayNot]) dX9_states_57 rfl (fun _ => rfl) hf (fun t_pairFactor_8 hf => ?_)
      refine g_aload_n C 58 0 dX9_states_58 rfl rfl ?_
      refine g_get C 59 0 14 dX9_states_59 inX9 rfl rfl (by decide) kw_401 rfl ?_
      refine g_iload_n C 62 2 dX9_states_62 rfl rfl ?_
      refine g_iconst C 63 (0 : Int32) dX9_states_63 (by decide) ?_
      refine g_zast C 64 4 (fun z => [oB q_t 9 [.int t_knots, .ref q_t_weight, .ref q_t_beside, .ref q_t_edge, .int t_rowed, .ref q_t_row, .int t_bags, .ref q_t_bag, .ref q_t_up, .ref q_t_least, .int t_q, .ref q_t_factor, .ref q_t_pairFactor, .ref q_t_forbidden, .ref q_t_mayNot, .ref q_t_fixed, .ref q_t_state, .ref q_t_count, .ref q_t_best, .ref q_t_bests, .long t_allCount, .long t_allBest, .long t_allBests], aI cA q_t_factor 4 t_factor, aI cA q_t_pairFactor 16 t_pairFactor_8, aI cA q_t_forbidden 14 t_forbidden, aZ cA q_t_mayNot 16 z]) dX9_states_64 rfl (fun _ => rfl) hf (fun t_mayNot_9 hf => ?_)
      refine g_iinc C 65 2 (v := x3 + (1 : Int32)) (fun z => [(3, .int z), (0, .ref q_t), (2, .int x2)]) dX9_states_65 rfl rfl (by decide) (fun _ => rfl) hf (fun x3_10 hf => ?_)
      refine g_goto C 68 45 dX9_states_68 (by decide) ?_
      refine g_lv [1, 2, 0] rfl ?_
      exact ih x2 x3_10 t_q t_factor t_pairFactor_8 t_forbidden t_mayNot_9 hf
def L_X9_states_25 (a1 : Int32)  : Nat → Int32 → Int32 → Int32 → (Nat → Int32) → (Nat → Int32) → (Nat → Int32) → (Nat → Int32) → Option (Int32 × Int32 × (Nat → Int32) × (Nat → Int32) × (Nat → Int32) × (Nat → Int32))
  | 0, _, _, _, _, _, _, _ => none
  | n + 1, x2, x3, t_q, t_factor, t_pairFactor, t_forbidden, t_mayNot =>
    if (4 : Int32) ≤ x3 then
      bnd (0 : Int32) fun x3_4 =>
      L_X9_states_45 a1 NN x2 x3_4 t_q t_factor t_pairFactor t_forbidden t_mayNot
    else
      stI t_factor 4 x3 (0 : Int32) fun t_factor_11 =>
      bnd (x3 + (1 : Int32)) fun x3_12 =>
      L_X9_states_25 a1 n x2 x3_12 t_q t_factor_11 t_pairFactor t_forbidden t_mayNot

set_option maxRecDepth 100000 in
set_option maxHeartbeats 1000000 in
theorem w_X9_states_25 (cA : Nat → ClassId) (q_t : Nat) (t_knots : Int32) (q_t_weight : Nat) (q_t_beside : Nat) (q_t_edge : Nat) (t_rowed : Int32) (q_t_row : Nat) (t_bags : Int32) (q_t_bag : Nat) (q_t_up : Nat) (q_t_least : Nat) (q_t_fixed : Nat) (q_t_state : Nat) (q_t_count : Nat) (q_t_best : Nat) (q_t_bests : Nat) (t_allCount : Int64) (t_allBest : Int64) (t_allBests : Int64) (q_t_factor : Nat) (q_t_pairFactor : Nat) (q_t_forbidden : Nat) (q_t_mayNot : Nat) (a1 : Int32) {X : XT}  (C : Cx X cX9_states RX9 (some .int) cA 0 0 4) {kk nn : Nat} {BB : Option Value → va_W → Prop} (hk : kk ≤ (x_R X).cells ∧ nn ≤ (x_R X).slots) (F : Fx X BB kk nn) (r : Int32 × Int32 × (Nat → Int32) × (Nat → Int32) × (Nat → Int32) × (Nat → Int32)) (hB : BB (some (.int r.1)) [oB q_t 9 [.int t_knots, .ref q_t_weight, .ref q_t_beside, .ref q_t_edge, .int t_rowed, .ref q_t_row, .int t_bags, .ref q_t_bag, .ref q_t_up, .ref q_t_least, .int r.2.1, .ref q_t_factor, .ref q_t_pairFactor, .ref q_t_forbidden, .ref q_t_mayNot, .ref q_t_fixed, .ref q_t_state, .ref q_t_count, .ref q_t_best, .ref q_t_bests, .long t_allCount, .long t_allBest, .long t_allBests], aI cA q_t_factor 4 r.2.2.1, aI cA q_t_pairFactor 16 r.2.2.2.1, aI cA q_t_forbidden 14 r.2.2.2.2.1, aZ cA q_t_mayNot 16 r.2.2.2.2.2])  : ∀ (n : Nat) (x2 : Int32) (x3 : Int32) (t_q : Int32) (t_factor : Nat → Int32) (t_pairFactor : Nat → Int32) (t_forbidden : Nat → Int32) (t_mayNot : Nat → Int32), L_X9_states_25 a1 n x2 x3 t_q t_factor t_pairFactor t_forbidden t_mayNot = some r → Go X 4 kk nn 25 [oB q_t 9 [.int t_knots, .ref q_t_weight, .ref q_t_beside, .ref q_t_edge, .int t_rowed, .ref q_t_row, .int t_bags, .ref q_t_bag, .ref q_t_up, .ref q_t_least, .int t_q, .ref q_t_factor, .ref q_t_pairFactor, .ref q_t_forbidden, .ref q_t_mayNot, .ref q_t_fixed, .ref q_t_state, .ref q_t_count, .ref q_t_best, .ref q_t_bests, .long t_allCount, .long t_allBest, .long t_allBests], aI cA q_t_factor 4 t_factor, aI cA q_t_pairFactor 16 t_pairFactor, aI cA q_t_forbidden 14 t_forbidden, aZ cA q_t_mayNot 16 t_mayNot] [(0, .ref q_t), (2, .int x2), (3, .int x3)] [] := by
  intro n
  induction n with
  | zero => intro x2 x3 t_q t_factor t_pairFactor t_forbidden t_mayNot hf; exact no_some hf
  | succ n ih =>
    intro x2 x3 t_q t_factor t_pairFactor t_forbidden t_mayNot hf
    rw [L_X9_states_25] at hf
    refine g_iload_n C 25 2 dX9_states_25 rfl rfl ?_
    refine g_iconst C 26 (4 : Int32) dX9_states_26 (by decide) ?_
    refine g_icmp_ge C 27 43 dX9_states_27 (by decide) hf (fun hf => ?_) (fun hf => ?_)
    · refine g_iconst C 43 (0 : Int32) dX9_states_43 (by decide) ?_
      refine g_istore_n C 44 (fun z => [(3, .int z), (0, .ref q_t), (2, .int x2)]) dX9_states_44 rfl (by decide) (fun _ => rfl) hf (fun x3_4 hf => ?_)
      refine g_lv [1, 2, 0] rfl ?_
      exact w_X9_states_45 cA q_t t_knots q_t_weight q_t_beside q_t_edge t_rowed q_t_row t_bags q_t_bag q_t_up q_t_least q_t_fixed q_t_state q_t_count q_t_best q_t_bests t_allCount t_allBest t_allBests q_t_factor q_t_pairFactor q_t_forbidden q_t_mayNot a1 C hk F r hB NN x2 x3_4 t_q t_factor t_pairFactor t_forbidden t_mayNot hf
    · refine g_aload_n C 30 0 dX9_states_30 rfl rfl ?_
      refine g_get C 31 0 11 dX9_states_31 inX9 rfl rfl (by decide) kw_402 rfl ?_
      refine g_iload_n C 34 2 dX9_states_34 rfl rfl ?_
      refine g_iconst C 35 (0 : Int32) dX9_states_35 (by decide) ?_
      refine g_iast C 36 1 (fun z => [oB q_t 9 [.int t_knots, .ref q_t_weight, .ref q_t_beside, .ref q_t_edge, .int t_rowed, .ref q_t_row, .int t_bags, .ref q_t_bag, .ref q_t_up, .ref q_t_least, .int t_q, .ref q_t_factor, .ref q_t_pairFactor, .ref q_t_forbidden, .ref q_t_mayNot, .ref q_t_fixed, .ref q_t_state, .ref q_t_count, .ref q_t_best, .ref q_t_bests, .long t_allCount, .long t_allBest, .long t_allBests], aI cA q_t_factor 4 z, aI cA q_t_pairFactor 16 t_pairFactor, aI cA q_t_forbidden 14 t_forbidden, aZ cA q_t_mayNot 16 t_mayNot]) dX9_states_36 rfl (fun _ => rfl) hf (fun t_factor_11 hf => ?_)
      refine g_iinc C 37 2 (v := x3 + (1 : Int32)) (fun z => [(3, .int z), (0, .ref q_t), (2, .int x2)]) dX9_states_37 rfl rfl (by decide) (fun _ => rfl) hf (fun x3_12 hf => ?_)
      refine g_goto C 40 25 dX9_states_40 (by decide) ?_
      refine g_lv [1, 2, 0] rfl ?_
      exact ih x2 x3_12 t_q t_factor_11 t_pairFactor t_forbidden t_mayNot hf
def f_X9_states (a1 : Int32) (t_q : Int32) (t_factor : Nat → Int32) (t_pairFactor : Nat → Int32) (t_forbidden : Nat → Int32) (t_mayNot : Nat → Int32) : Option (Int32 × Int32 × (Nat → Int32) × (Nat → Int32) × (Nat → Int32) × (Nat → Int32)) :=
  if a1 < (1 : Int32) then
    some ((-2 : Int32), t_q, t_factor, t_pairFactor, t_forbidden, t_mayNot)
  else
    if a1 ≤ (4 : Int32) then
      bnd t_q fun x2_1 =>
      bnd a1 fun t_q_2 =>
      bnd (0 : Int32) fun x3_3 =>
      L_X9_states_25 a1 NN x2_1 x3_3 t_q_2 t_factor t_pairFactor t_forbidden t_mayNot
    else
      some ((-2 : Int32), t_q, t_factor, t_pairFactor, t_forbidden, t_mayNot)

set_option maxRecDepth 100000 in
set_option maxHeartbeats 1000000 in
theorem c_X9_states (l : Launch) (cA : Nat → ClassId) (q_t : Nat) (t_knots : Int32) (q_t_weight : Nat) (q_t_beside : Nat) (q_t_edge : Nat) (t_rowed : Int32) (q_t_row : Nat) (t_bags : Int32) (q_t_bag : Nat) (q_t_up : Nat) (q_t_least : Nat) (t_q : Int32) (q_t_fixed : Nat) (q_t_state : Nat) (q_t_count : Nat) (q_t_best : Nat) (q_t_bests : Nat) (t_allCount : Int64) (t_allBest : Int64) (t_allBests : Int64) (q_t_factor : Nat) (t_factor : Nat → Int32) (q_t_pairFactor : Nat) (t_pairFactor : Nat → Int32) (q_t_forbidden : Nat) (t_forbidden : Nat → Int32) (q_t_mayNot : Nat) (t_mayNot : Nat → Int32)  (a1 : Int32) (r : Int32 × Int32 × (Nat → Int32) × (Nat → Int32) × (Nat → Int32) × (Nat → Int32)) (hf : f_X9_states a1 t_q t_factor t_pairFactor t_forbidden t_mayNot = some r) : MT l cA yX9_states cX9_states 4 (some .int) ({ frames := 0, cells := 0, slots := 0, locals := 0 } : Room) [.ref q_t, .int a1] [oB q_t 9 [.int t_knots, .ref q_t_weight, .ref q_t_beside, .ref q_t_edge, .int t_rowed, .ref q_t_row, .int t_bags, .ref q_t_bag, .ref q_t_up, .ref q_t_least, .int t_q, .ref q_t_factor, .ref q_t_pairFactor, .ref q_t_forbidden, .ref q_t_mayNot, .ref q_t_fixed, .ref q_t_state, .ref q_t_count, .ref q_t_best, .ref q_t_bests, .long t_allCount, .long t_allBest, .long t_allBests], aI cA q_t_factor 4 t_factor, aI cA q_t_pairFactor 16 t_pairFactor, aI cA q_t_forbidden 14 t_forbidden, aZ cA q_t_mayNot 16 t_mayNot] (sB (some (.int r.1)) [oB q_t 9 [.int t_knots, .ref q_t_weight, .ref q_t_beside, .ref q_t_edge, .int t_rowed, .ref q_t_row, .int t_bags, .ref q_t_bag, .ref q_t_up, .ref q_t_least, .int r.2.1, .ref q_t_factor, .ref q_t_pairFactor, .ref q_t_forbidden, .ref q_t_mayNot, .ref q_t_fixed, .ref q_t_state, .ref q_t_count, .ref q_t_best, .ref q_t_bests, .long t_allCount, .long t_allBest, .long t_allBests], aI cA q_t_factor 4 r.2.2.1, aI cA q_t_pairFactor 16 r.2.2.2.1, aI cA q_t_forbidden 14 r.2.2.2.2.1, aZ cA q_t_mayNot 16 r.2.2.2.2.2]) := by
  refine MT.of (by decide) (Nat.le_of_ble_eq_true rfl) ?_
  intro X hXl C F hnm hrc hrs
  subst hXl
  have hk : 0 ≤ (x_R X).cells ∧ 0 ≤ (x_R X).slots := ⟨Nat.zero_le _, Nat.zero_le _⟩
  have hB : (sB (some (.int r.1)) [oB q_t 9 [.int t_knots, .ref q_t_weight, .ref q_t_beside, .ref q_t_edge, .int t_rowed, .ref q_t_row, .int t_bags, .ref q_t_bag, .ref q_t_up, .ref q_t_least, .int r.2.1, .ref q_t_factor, .ref q_t_pairFactor, .ref q_t_forbidden, .ref q_t_mayNot, .ref q_t_fixed, .ref q_t_state, .ref q_t_count, .ref q_t_best, .ref q_t_bests, .long t_allCount, .long t_allBest, .long t_allBests], aI cA q_t_factor 4 r.2.2.1, aI cA q_t_pairFactor 16 r.2.2.2.1, aI cA q_t_forbidden 14 r.2.2.2.2.1, aZ cA q_t_mayNot 16 r.2.2.2.2.2]) (some (.int r.1)) [oB q_t 9 [.int t_knots, .ref q_t_weight, .ref q_t_beside, .ref q_t_edge, .int t_rowed, .ref q_t_row, .int t_bags, .ref q_t_bag, .ref q_t_up, .ref q_t_least, .int r.2.1, .ref q_t_factor, .ref q_t_pairFactor, .ref q_t_forbidden, .ref q_t_mayNot, .ref q_t_fixed, .ref q_t_state, .ref q_t_count, .ref q_t_best, .ref q_t_bests, .long t_allCount, .long t_allBest, .long t_allBests], aI cA q_t_factor 4 r.2.2.1, aI cA q_t_pairFactor 16 r.2.2.2.1, aI cA q_t_forbidden 14 r.2.2.2.2.1, aZ cA q_t_mayNot 16 r.2.2.2.2.2] := ⟨rfl, rfl⟩
  unfold f_X9_states at hf
  have C : Cx X cX9_states RX9 (some .int) cA 0 0 4 := C
  show Go X 4 0 0 0 [oB q_t 9 [.int t_knots, .ref q_t_weight, .ref q_t_beside, .ref q_t_edge, .int t_rowed, .ref q_t_row, .int t_bags, .ref q_t_bag, .ref q_t_up, .ref q_t_least, .int t_q, .ref q_t_factor, .ref q_t_pairFactor, .ref q_t_forbidden, .ref q_t_mayNot, .ref q_t_fixed, .ref q_t_state, .ref q_t_count, .ref q_t_best, .ref q_t_bests, .long t_allCount, .long t_allBest, .long t_allBests], aI cA q_t_factor 4 t_factor, aI cA q_t_pairFactor 16 t_pairFactor, aI cA q_t_forbidden 14 t_forbidden, aZ cA q_t_mayNot 16 t_mayNot] [(0, .ref q_t), (1, .int a1)] []
  refine g_iload_n C 0 1 dX9_states_0 rfl rfl ?_
  refine g_iconst C 1 (1 : Int32) dX9_states_1 (by decide) ?_
  refine g_icmp_lt C 2 10 dX9_states_2 (by decide) hf (fun hf => ?_) (fun hf => ?_)
  · refine g_bipush C 10 (-2 : Int32) dX9_states_10 (by decide) ?_
    cases hf
    exact g_iret C 12 dX9_states_12 F hB
  · refine g_iload_n C 5 1 dX9_states_5 rfl rfl ?_
    refine g_iconst C 6 (4 : Int32) dX9_states_6 (by decide) ?_
    refine g_icmp_le C 7 13 dX9_states_7 (by decide) hf (fun hf => ?_) (fun hf => ?_)
    · refine g_aload_n C 13 0 dX9_states_13 rfl rfl ?_
      refine g_get C 14 0 10 dX9_states_14 inX9 rfl rfl (by decide) kw_398 rfl ?_
      refine g_istore_n C 17 (fun z => [(2, .int z), (0, .ref q_t), (1, .int a1)]) dX9_states_17 rfl (by decide) (fun _ => rfl) hf (fun x2_1 hf => ?_)
      refine g_aload_n C 18 1 dX9_states_18 rfl rfl ?_
      refine g_iload_n C 19 2 dX9_states_19 rfl rfl ?_
      refine g_puti C 20 0 10 tyX9 (fun z => [oB q_t 9 [.int t_knots, .ref q_t_weight, .ref q_t_beside, .ref q_t_edge, .int t_rowed, .ref q_t_row, .int t_bags, .ref q_t_bag, .ref q_t_up, .ref q_t_least, .int z, .ref q_t_factor, .ref q_t_pairFactor, .ref q_t_forbidden, .ref q_t_mayNot, .ref q_t_fixed, .ref q_t_state, .ref q_t_count, .ref q_t_best, .ref q_t_bests, .long t_allCount, .long t_allBest, .long t_allBests], aI cA q_t_factor 4 t_factor, aI cA q_t_pairFactor 16 t_pairFactor, aI cA q_t_forbidden 14 t_forbidden, aZ cA q_t_mayNot 16 t_mayNot]) dX9_states_20 inX9 tyX9_ok nmX9 rfl rfl (by decide) kw_398 rfl rfl (Nat.le_of_ble_eq_true rfl) (fun _ => rfl) hf (fun t_q_2 hf => ?_)
      refine g_iconst C 23 (0 : Int32) dX9_states_23 (by decide) ?_
      refine g_istore_n C 24 (fun z => [(3, .int z), (2, .int x2_1), (0, .ref q_t), (1, .int a1)]) dX9_states_24 rfl (by decide) (fun _ => rfl) hf (fun x3_3 hf => ?_)
      refine g_lv [2, 1, 0] rfl ?_
      exact w_X9_states_25 cA q_t t_knots q_t_weight q_t_beside q_t_edge t_rowed q_t_row t_bags q_t_bag q_t_up q_t_least q_t_fixed q_t_state q_t_count q_t_best q_t_bests t_allCount t_allBest t_allBests q_t_factor q_t_pairFactor q_t_forbidden q_t_mayNot a1 C hk F r hB NN x2_1 x3_3 t_q_2 t_factor t_pairFactor t_forbidden t_mayNot hf
    · refine g_bipush C 10 (-2 : Int32) dX9_states_10 (by decide) ?_
      cases hf
      exact g_iret C 12 dX9_states_12 F hB

def f_X9_isFactor (a1 : Int32) : Option (Int32) :=
  if a1 < (-10 : Int32) then
    some ((0 : Int32))
  else
    if (10 : Int32) < a1 then
      some ((0 : Int32))
    else
      some ((1 : Int32))

set_option maxRecDepth 100000 in
set_option maxHeartbeats 1000000 in
theorem c_X9_isFactor (l : Launch) (cA : Nat → ClassId) (q_t : Nat)  (a1 : Int32) (r : Int32) (hf : f_X9_isFactor a1 = some r) : MT l cA yX9_isFactor cX9_isFactor 2 (some .boolean) ({ frames := 0, cells := 0, slots := 0, locals := 0 } : Room) [.ref q_t, .int a1] [] (sB (some (.int r)) []) := by
  refine MT.of (by decide) (Nat.le_of_ble_eq_true rfl) ?_
  intro X hXl C F hnm hrc hrs
  subst hXl
  have hk : 0 ≤ (x_R X).cells ∧ 0 ≤ (x_R X).slots := ⟨Nat.zero_le _, Nat.zero_le _⟩
  have hB : (sB (some (.int r)) []) (some (.int r)) [] := ⟨rfl, rfl⟩
  unfold f_X9_isFactor at hf
  have C : Cx X cX9_isFactor RX9 (some .boolean) cA 0 0 2 := C
  show Go X 2 0 0 0 [] [(0, .ref q_t), (1, .int a1)] []
  refine g_iload_n C 0 1 dX9_isFactor_0 rfl rfl ?_
  refine g_bipush C 1 (-10 : Int32) dX9_isFactor_1 (by decide) ?_
  refine g_icmp_lt C 3 16 dX9_isFactor_3 (by decide) hf (fun hf => ?_) (fun hf => ?_)
  · refine g_iconst C 16 (0 : Int32) dX9_isFactor_16 (by decide) ?_
    cases hf
    exact g_zret C 17 dX9_isFactor_17 (by decide) F hB
  · refine g_iload_n C 6 1 dX9_isFactor_6 rfl rfl ?_
    refine g_bipush C 7 (10 : Int32) dX9_isFactor_7 (by decide) ?_
    refine g_icmp_gt C 9 16 dX9_isFactor_9 (by decide) hf (fun hf => ?_) (fun hf => ?_)
    · refine g_iconst C 16 (0 : Int32) dX9_isFactor_16 (by decide) ?_
      cases hf
      exact g_zret C 17 dX9_isFactor_17 (by decide) F hB
    · refine g_iconst C 12 (1 : Int32) dX9_isFactor_12 (by decide) ?_
      refine g_goto C 13 17 dX9_isFactor_13 (by decide) ?_
      cases hf
      exact g_zret C 17 dX9_isFactor_17 (by decide) F hB

def f_X9_isState (a1 : Int32) (t_q : Int32) : Option (Int32) :=
  if a1 < 0 then
    some ((0 : Int32))
  else
    if t_q ≤ a1 then
      some ((0 : Int32))
    else
      some ((1 : Int32))

set_option maxRecDepth 100000 in
set_option maxHeartbeats 1000000 in
theorem c_X9_isState (l : Launch) (cA : Nat → ClassId) (q_t : Nat) (t_knots : Int32) (q_t_weight : Nat) (q_t_beside : Nat) (q_t_edge : Nat) (t_rowed : Int32) (q_t_row : Nat) (t_bags : Int32) (q_t_bag : Nat) (q_t_up : Nat) (q_t_least : Nat) (t_q : Int32) (q_t_factor : Nat) (q_t_pairFactor : Nat) (q_t_forbidden : Nat) (q_t_mayNot : Nat) (q_t_fixed : Nat) (q_t_state : Nat) (q_t_count : Nat) (q_t_best : Nat) (q_t_bests : Nat) (t_allCount : Int64) (t_allBest : Int64) (t_allBests : Int64)  (a1 : Int32) (r : Int32) (hf : f_X9_isState a1 t_q = some r) : MT l cA yX9_isState cX9_isState 2 (some .boolean) ({ frames := 0, cells := 0, slots := 0, locals := 0 } : Room) [.ref q_t, .int a1] [oB q_t 9 [.int t_knots, .ref q_t_weight, .ref q_t_beside, .ref q_t_edge, .int t_rowed, .ref q_t_row, .int t_bags, .ref q_t_bag, .ref q_t_up, .ref q_t_least, .int t_q, .ref q_t_factor, .ref q_t_pairFactor, .ref q_t_forbidden, .ref q_t_mayNot, .ref q_t_fixed, .ref q_t_state, .ref q_t_count, .ref q_t_best, .ref q_t_bests, .long t_allCount, .long t_allBest, .long t_allBests]] (sB (some (.int r)) [oB q_t 9 [.int t_knots, .ref q_t_weight, .ref q_t_beside, .ref q_t_edge, .int t_rowed, .ref q_t_row, .int t_bags, .ref q_t_bag, .ref q_t_up, .ref q_t_least, .int t_q, .ref q_t_factor, .ref q_t_pairFactor, .ref q_t_forbidden, .ref q_t_mayNot, .ref q_t_fixed, .ref q_t_state, .ref q_t_count, .ref q_t_best, .ref q_t_bests, .long t_allCount, .long t_allBest, .long t_allBests]]) := by
  refine MT.of (by decide) (Nat.le_of_ble_eq_true rfl) ?_
  intro X hXl C F hnm hrc hrs
  subst hXl
  have hk : 0 ≤ (x_R X).cells ∧ 0 ≤ (x_R X).slots := ⟨Nat.zero_le _, Nat.zero_le _⟩
  have hB : (sB (some (.int r)) [oB q_t 9 [.int t_knots, .ref q_t_weight, .ref q_t_beside, .ref q_t_edge, .int t_rowed, .ref q_t_row, .int t_bags, .ref q_t_bag, .ref q_t_up, .ref q_t_least, .int t_q, .ref q_t_factor, .ref q_t_pairFactor, .ref q_t_forbidden, .ref q_t_mayNot, .ref q_t_fixed, .ref q_t_state, .ref q_t_count, .ref q_t_best, .ref q_t_bests, .long t_allCount, .long t_allBest, .long t_allBests]]) (some (.int r)) [oB q_t 9 [.int t_knots, .ref q_t_weight, .ref q_t_beside, .ref q_t_edge, .int t_rowed, .ref q_t_row, .int t_bags, .ref q_t_bag, .ref q_t_up, .ref q_t_least, .int t_q, .ref q_t_factor, .ref q_t_pairFactor, .ref q_t_forbidden, .ref q_t_mayNot, .ref q_t_fixed, .ref q_t_state, .ref q_t_count, .ref q_t_best, .ref q_t_bests, .long t_allCount, .long t_allBest, .long t_allBests]] := ⟨rfl, rfl⟩
  unfold f_X9_isState at hf
  have C : Cx X cX9_isState RX9 (some .boolean) cA 0 0 2 := C
  show Go X 2 0 0 0 [oB q_t 9 [.int t_knots, .ref q_t_weight, .ref q_t_beside, .ref q_t_edge, .int t_rowed, .ref q_t_row, .int t_bags, .ref q_t_bag, .ref q_t_up, .ref q_t_least, .int t_q, .ref q_t_factor, .ref q_t_pairFactor, .ref q_t_forbidden, .ref q_t_mayNot, .ref q_t_fixed, .ref q_t_state, .ref q_t_count, .ref q_t_best, .ref q_t_bests, .long t_allCount, .long t_allBest, .long t_allBests]] [(0, .ref q_t), (1, .int a1)] []
  refine g_iload_n C 0 1 dX9_isState_0 rfl rfl ?_
  refine g_if_lt C 1 16 dX9_isState_1 (by decide) hf (fun hf => ?_) (fun hf => ?_)
  · refine g_iconst C 16 (0 : Int32) dX9_isState_16 (by decide) ?_
    cases hf
    exact g_zret C 17 dX9_isState_17 (by decide) F hB
  · refine g_iload_n C 4 1 dX9_isState_4 rfl rfl ?_
    refine g_aload_n C 5 0 dX9_isState_5 rfl rfl ?_
    refine g_get C 6 0 10 dX9_isState_6 inX9 rfl rfl (by decide) kw_398 rfl ?_
    refine g_icmp_ge C 9 16 dX9_isState_9 (by decide) hf (fun hf => ?_) (fun hf => ?_)
    · refine g_iconst C 16 (0 : Int32) dX9_isState_16 (by decide) ?_
      cases hf
      exact g_zret C 17 dX9_isState_17 (by decide) F hB
    · refine g_iconst C 12 (1 : Int32) dX9_isState_12 (by decide) ?_
      refine g_goto C 13 17 dX9_isState_13 (by decide) ?_
      cases hf
      exact g_zret C 17 dX9_isState_17 (by decide) F hB

def f_X9_factor (a1 : Int32) (a2 : Int32) (t_q : Int32) (t_factor : Nat → Int32) : Option (Int32 × (Nat → Int32)) :=
  cal (f_X9_isState a1 t_q) fun u1 =>
  if u1 = 0 then
    some ((-1 : Int32), t_factor)
  else
    cal (f_X9_isFactor a2) fun u2 =>
    if u2 = 0 then
      some ((-2 : Int32), t_factor)
    else
      ldA t_factor 4 a1 fun v3 =>
      bnd (v3 + (100 : Int32)) fun x3_4 =>
      stI t_factor 4 a1 a2 fun t_factor_5 =>
      some (x3_4, t_factor_5)

set_option maxRecDepth 100000 in
set_option maxHeartbeats 1000000 in
theorem c_X9_factor (l : Launch) (cA : Nat → ClassId) (q_t : Nat) (t_knots : Int32) (q_t_weight : Nat) (q_t_beside : Nat) (q_t_edge : Nat) (t_rowed : Int32) (q_t_row : Nat) (t_bags : Int32) (q_t_bag : Nat) (q_t_up : Nat) (q_t_least : Nat) (t_q : Int32) (q_t_pairFactor : Nat) (q_t_forbidden : Nat) (q_t_mayNot : Nat) (q_t_fixed : Nat) (q_t_state : Nat) (q_t_count : Nat) (q_t_best : Nat) (q_t_bests : Nat) (t_allCount : Int64) (t_allBest : Int64) (t_allBests : Int64) (q_t_factor : Nat) (t_factor : Nat → Int32)  (a1 : Int32) (a2 : Int32) (r : Int32 × (Nat → Int32)) (hf : f_X9_factor a1 a2 t_q t_factor = some r) : MT l cA yX9_factor cX9_factor 4 (some .int) ({ frames := 1, cells := 0, slots := 0, locals := 21 } : Room) [.ref q_t, .int a1, .int a2] [oB q_t 9 [.int t_knots, .ref q_t_weight, .ref q_t_beside, .ref q_t_edge, .int t_rowed, .ref q_t_row, .int t_bags, .ref q_t_bag, .ref q_t_up, .ref q_t_least, .int t_q, .ref q_t_factor, .ref q_t_pairFactor, .ref q_t_forbidden, .ref q_t_mayNot, .ref q_t_fixed, .ref q_t_state, .ref q_t_count, .ref q_t_best, .ref q_t_bests, .long t_allCount, .long t_allBest, .long t_allBests], aI cA q_t_factor 4 t_factor] (sB (some (.int r.1)) [oB q_t 9 [.int t_knots, .ref q_t_weight, .ref q_t_beside, .ref q_t_edge, .int t_rowed, .ref q_t_row, .int t_bags, .ref q_t_bag, .ref q_t_up, .ref q_t_least, .int t_q, .ref q_t_factor, .ref q_t_pairFactor, .ref q_t_forbidden, .ref q_t_mayNot, .ref q_t_fixed, .ref q_t_state, .ref q_t_count, .ref q_t_best, .ref q_t_bests, .long t_allCount, .long t_allBest, .long t_allBests], aI cA q_t_factor 4 r.2]) := by
  refine MT.of (by decide) (Nat.le_of_ble_eq_true rfl) ?_
  intro X hXl C F hnm hrc hrs
  subst hXl
  have hk : 0 ≤ (x_R X).cells ∧ 0 ≤ (x_R X).slots := ⟨Nat.zero_le _, Nat.zero_le _⟩
  have hB : (sB (some (.int r.1)) [oB q_t 9 [.int t_knots, .ref q_t_weight, .ref q_t_beside, .ref q_t_edge, .int t_rowed, .ref q_t_row, .int t_bags, .ref q_t_bag, .ref q_t_up, .ref q_t_least, .int t_q, .ref q_t_factor, .ref q_t_pairFactor, .ref q_t_forbidden, .ref q_t_mayNot, .ref q_t_fixed, .ref q_t_state, .ref q_t_count, .ref q_t_best, .ref q_t_bests, .long t_allCount, .long t_allBest, .long t_allBests], aI cA q_t_factor 4 r.2]) (some (.int r.1)) [oB q_t 9 [.int t_knots, .ref q_t_weight, .ref q_t_beside, .ref q_t_edge, .int t_rowed, .ref q_t_row, .int t_bags, .ref q_t_bag, .ref q_t_up, .ref q_t_least, .int t_q, .ref q_t_factor, .ref q_t_pairFactor, .ref q_t_forbidden, .ref q_t_mayNot, .ref q_t_fixed, .ref q_t_state, .ref q_t_count, .ref q_t_best, .ref q_t_bests, .long t_allCount, .long t_allBest, .long t_allBests], aI cA q_t_factor 4 r.2] := ⟨rfl, rfl⟩
  unfold f_X9_factor at hf
  have C : Cx X cX9_factor RX9 (some .int) cA 1 21 4 := C
  show Go X 4 0 0 0 [oB q_t 9 [.int t_knots, .ref q_t_weight, .ref q_t_beside, .ref q_t_edge, .int t_rowed, .ref q_t_row, .int t_bags, .ref q_t_bag, .ref q_t_up, .ref q_t_least, .int t_q, .ref q_t_factor, .ref q_t_pairFactor, .ref q_t_forbidden, .ref q_t_mayNot, .ref q_t_fixed, .ref q_t_state, .ref q_t_count, .ref q_t_best, .ref q_t_bests, .long t_allCount, .long t_allBest, .long t_allBests], aI cA q_t_factor 4 t_factor] [(0, .ref q_t), (1, .int a1), (2, .int a2)] []
  refine g_aload_n C 0 0 dX9_factor_0 rfl rfl ?_
  refine g_iload_n C 1 1 dX9_factor_1 rfl rfl ?_
  obtain ⟨u1, hu1, hf⟩ := cal_some hf
  refine g_callV1 C 2 [0] 0 (rest := []) dX9_factor_2 (c_X9_isState (x_l X) cA q_t t_knots q_t_weight q_t_beside q_t_edge t_rowed q_t_row t_bags q_t_bag q_t_up q_t_least t_q q_t_factor q_t_pairFactor q_t_forbidden q_t_mayNot q_t_fixed q_t_state q_t_count q_t_best q_t_bests t_allCount t_allBest t_allBests a1 u1 hu1) kw_403 kw_404 kw_405 kw_343 kw_406 ok_X9_isState ⟨Nat.le_of_ble_eq_true rfl, Nat.le_of_ble_eq_true rfl⟩ hk ⟨rfl, rfl⟩ rfl rfl rfl rfl rfl (Nat.le_of_ble_eq_true rfl) rfl (ws' := [oB q_t 9 [.int t_knots, .ref q_t_weight, .ref q_t_beside, .ref q_t_edge, .int t_rowed, .ref q_t_row, .int t_bags, .ref q_t_bag, .ref q_t_up, .ref q_t_least, .int t_q, .ref q_t_factor, .ref q_t_pairFactor, .ref q_t_forbidden, .ref q_t_mayNot, .ref q_t_fixed, .ref q_t_state, .ref q_t_count, .ref q_t_best, .ref q_t_bests, .long t_allCount, .long t_allBest, .long t_allBests], aI cA q_t_factor 4 t_factor]) (st' := [.int u1]) (N0 := 2) rfl [some 0, none] (by decide) rfl rfl ?_
  refine g_if_ne C 5 10 dX9_factor_5 (by decide) hf (fun hf => ?_) (fun hf => ?_)
  · refine g_aload_n C 10 0 dX9_factor_10 rfl rfl ?_
    refine g_iload_n C 11 2 dX9_factor_11 rfl rfl ?_
    obtain ⟨u2, hu2, hf⟩ := cal_some hf
    refine g_callV1 C 12 [] 0 (rest := []) dX9_factor_12 (c_X9_isFactor (x_l X) cA q_t a2 u2 hu2) kw_407 kw_408 kw_409 kw_343 kw_410 ok_X9_isFactor ⟨Nat.le_of_ble_eq_true rfl, Nat.le_of_ble_eq_true rfl⟩ hk ⟨rfl, rfl⟩ rfl rfl rfl rfl rfl (Nat.le_of_ble_eq_true rfl) rfl (ws' := [oB q_t 9 [.int t_knots, .ref q_t_weight, .ref q_t_beside, .ref q_t_edge, .int t_rowed, .ref q_t_row, .int t_bags, .ref q_t_bag, .ref q_t_up, .ref q_t_least, .int t_q, .ref q_t_factor, .ref q_t_pairFactor, .ref q_t_forbidden, .ref q_t_mayNot, .ref q_t_fixed, .ref q_t_state, .ref q_t_count, .ref q_t_best, .ref q_t_bests, .long t_allCount, .long t_allBest, .long t_allBests], aI cA q_t_factor 4 t_factor]) (st' := [.int u2]) (N0 := 2) rfl [none, none] (by decide) rfl rfl ?_
    refine g_if_ne C 15 21 dX9_factor_15 (by decide) hf (fun hf => ?_) (fun hf => ?_)
    · refine g_aload_n C 21 0 dX9_factor_21 rfl rfl ?_
      refine g_get C 22 0 11 dX9_factor_22 inX9 rfl rfl (by decide) kw_402 rfl ?_
      refine g_iload_n C 25 1 dX9_factor_25 rfl rfl ?_
      refine g_iald C 26 1 dX9_factor_26 rfl hf (fun v3 hf => ?_)
      refine g_bipush C 27 (100 : Int32) dX9_factor_27 (by decide) ?_
      refine g_iadd C 29 dX9_factor_29 ?_
      refine g_istore_n C 30 (fun z => [(3, .int z), (0, .ref q_t), (1, .int a1), (2, .int a2)]) dX9_factor_30 rfl (by decide) (fun _ => rfl) hf (fun x3_4 hf => ?_)
      refine g_aload_n C 31 1 dX9_factor_31 rfl rfl ?_
      refine g_get C 32 0 11 dX9_factor_32 inX9 rfl rfl (by decide) kw_402 rfl ?_
      refine g_iload_n C 35 2 dX9_factor_35 rfl rfl ?_
      refine g_iload_n C 36 3 dX9_factor_36 rfl rfl ?_
      refine g_iast C 37 1 (fun z => [oB q_t 9 [.int t_knots, .ref q_t_weight, .ref q_t_beside, .ref q_t_edge, .int t_rowed, .ref q_t_row, .int t_bags, .ref q_t_bag, .ref q_t_up, .ref q_t_least, .int t_q, .ref q_t_factor, .ref q_t_pairFactor, .ref q_t_forbidden, .ref q_t_mayNot, .ref q_t_fixed, .ref q_t_state, .ref q_t_count, .ref q_t_best, .ref q_t_bests, .long t_allCount, .long t_allBest, .long t_allBests], aI cA q_t_factor 4 z]) dX9_factor_37 rfl (fun _ => rfl) hf (fun t_factor_5 hf => ?_)
      refine g_iload_n C 38 0 dX9_factor_38 rfl rfl ?_
      cases hf
      exact g_iret C 39 dX9_factor_39 F hB
    · refine g_bipush C 18 (-2 : Int32) dX9_factor_18 (by decide) ?_
      cases hf
      exact g_iret C 20 dX9_factor_20 F hB
  · refine g_iconst C 8 (-1 : Int32) dX9_factor_8 (by decide) ?_
    cases hf
    exact g_iret C 9 dX9_factor_9 F hB

def J_X9_pair_108 (a1 : Int32) (a2 : Int32) (a3 : Int32) (a4 : Int32) (t_q : Int32)  (x5 : Int32) (s0 : Int32) (s1 : Int32) (t_pairFactor : Nat → Int32) (t_mayNot : Nat → Int32) : Option (Int32 × (Nat → Int32) × (Nat → Int32)) :=
  stZ t_mayNot 16 s1 s0 fun t_mayNot_8 =>
  stI t_pairFactor 16 (((4 : Int32) * a1) + a2) a4 fun t_pairFactor_9 =>
  stI t_pairFactor_9 16 (((4 : Int32) * a2) + a1) a4 fun t_pairFactor_10 =>
  some (x5, t_pairFactor_10, t_mayNot_8)

set_option maxRecDepth 100000 in
set_option maxHeartbeats 1000000 in
theorem w_X9_pair_108 (cA : Nat → ClassId) (q_t : Nat) (t_knots : Int32) (q_t_weight : Nat) (q_t_beside : Nat) (q_t_edge : Nat) (t_rowed : Int32) (q_t_row : Nat) (t_bags : Int32) (q_t_bag : Nat) (q_t_up : Nat) (q_t_least : Nat) (q_t_factor : Nat) (q_t_forbidden : Nat) (q_t_fixed : Nat) (q_t_state : Nat) (q_t_count : Nat) (q_t_best : Nat) (q_t_bests : Nat) (t_allCount : Int64) (t_allBest : Int64) (t_allBests : Int64) (q_t_pairFactor : Nat) (q_t_mayNot : Nat) (a1 : Int32) (a2 : Int32) (a3 : Int32) (a4 : Int32) (t_q : Int32) {X : XT}  (C : Cx X cX9_pair RX9 (some .int) cA 1 21 6) {kk nn : Nat} {BB : Option Value → va_W → Prop} (hk : kk ≤ (x_R X).cells ∧ nn ≤ (x_R X).slots) (F : Fx X BB kk nn) (r : Int32 × (Nat → Int32) × (Nat → Int32)) (hB : BB (some (.int r.1)) [oB q_t 9 [.int t_knots, .ref q_t_weight, .ref q_t_beside, .ref q_t_edge, .int t_rowed, .ref q_t_row, .int t_bags, .ref q_t_bag, .ref q_t_up, .ref q_t_least, .int t_q, .ref q_t_factor, .ref q_t_pairFactor, .ref q_t_forbidden, .ref q_t_mayNot, .ref q_t_fixed, .ref q_t_state, .ref q_t_count, .ref q_t_best, .ref q_t_bests, .long t_allCount, .long t_allBest, .long t_allBests], aI cA q_t_pairFactor 16 r.2.1, aZ cA q_t_mayNot 16 r.2.2])  : ∀ (x5 : Int32) (s0 : Int32) (s1 : Int32) (t_pairFactor : Nat → Int32) (t_mayNot : Nat → Int32), J_X9_pair_108 a1 a2 a3 a4 t_q x5 s0 s1 t_pairFactor t_mayNot = some r → Go X 6 kk nn 108 [oB q_t 9 [.int t_knots, .ref q_t_weight, .ref q_t_beside, .ref q_t_edge, .int t_rowed, .ref q_t_row, .int t_bags, .ref q_t_bag, .ref q_t_up, .ref q_t_least, .int t_q, .ref q_t_factor, .ref q_t_pairFactor, .ref q_t_forbidden, .ref q_t_mayNot, .ref q_t_fixed, .ref q_t_state, .ref q_t_count, .ref q_t_best, .ref q_t_bests, .long t_allCount, .long t_allBest, .long t_allBests], aI cA q_t_pairFactor 16 t_pairFactor, aZ cA q_t_mayNot 16 t_mayNot] [(0, .ref q_t), (1, .int a1), (2, .int a2), (4, .int a4), (5, .int x5)] [.int s0, .int s1, .ref q_t_mayNot] := by
  intro x5 s0 s1 t_pairFactor t_mayNot hf
  unfold J_X9_pair_108 at hf
  refine g_zast C 108 2 (fun z => [oB q_t 9 [.int t_knots, .ref q_t_weight, .ref q_t_beside, .ref q_t_edge, .int t_rowed, .ref q_t_row, .int t_bags, .ref q_t_bag, .ref q_t_up, .ref q_t_least, .int t_q, .ref q_t_factor, .ref q_t_pairFactor, .ref q_t_forbidden, .ref q_t_mayNot, .ref q_t_fixed, .ref q_t_state, .ref q_t_count, .ref q_t_best, .ref q_t_bests, .long t_allCount, .long t_allBest, .long t_allBests], aI cA q_t_pairFactor 16 t_pairFactor, aZ cA q_t_mayNot 16 z]) dX9_pair_108 rfl (fun _ => rfl) hf (fun t_mayNot_8 hf => ?_)
  refine g_aload_n C 109 0 dX9_pair_109 rfl rfl ?_
  refine g_get C 110 0 12 dX9_pair_110 inX9 rfl rfl (by decide) kw_400 rfl ?_
  refine g_iconst C 113 (4 : Int32) dX9_pair_113 (by decide) ?_
  refine g_iload_n C 114 1 dX9_pair_114 rfl rfl ?_
  refine g_imul C 115 dX9_pair_115 ?_
  refine g_iload_n C 116 2 dX9_pair_116 rfl rfl ?_
  refine g_iadd C 117 dX9_pair_117 ?_
  refine g_iload C 118 3 dX9_pair_118 rfl ?_
  refine g_iast C 120 1 (fun z => [oB q_t 9 [.int t_knots, .ref q_t_weight, .ref q_t_beside, .ref q_t_edge, .int t_rowed, .ref q_t_row, .int t_bags, .ref q_t_bag, .ref q_t_up, .ref q_t_least, .int t_q, .ref q_t_factor, .ref q_t_pairFactor, .ref q_t_forbidden, .ref q_t_mayNot, .ref q_t_fixed, .ref q_t_state, .ref q_t_count, .ref q_t_best, .ref q_t_bests, .long t_allCount, .long t_allBest, .long t_allBests], aI cA q_t_pairFactor 16 z, aZ cA q_t_mayNot 16 t_mayNot_8]) dX9_pair_120 rfl (fun _ => rfl) hf (fun t_pairFactor_9 hf => ?_)
  refine g_aload_n C 121 0 dX9_pair_121 rfl rfl ?_
  refine g_get C 122 0 12 dX9_pair_122 inX9 rfl rfl (by decide) kw_400 rfl ?_
  refine g_iconst C 125 (4 : Int32) dX9_pair_125 (by decide) ?_
  refine g_iload_n C 126 2 dX9_pair_126 rfl rfl ?_
  refine g_imul C 127 dX9_pair_127 ?_
  refine g_iload_n C 128 1 dX9_pair_128 rfl rfl ?_
  refine g_iadd C 129 dX9_pair_129 ?_
  refine g_iload C 130 3 dX9_pair_130 rfl ?_
  refine g_iast C 132 1 (fun z => [oB q_t 9 [.int t_knots, .ref q_t_weight, .ref q_t_beside, .ref q_t_edge, .int t_rowed, .ref q_t_row, .int t_bags, .ref q_t_bag, .ref q_t_up, .ref q_t_least, .int t_q, .ref q_t_factor, .ref q_t_pairFactor, .ref q_t_forbidden, .ref q_t_mayNot, .ref q_t_fixed, .ref q_t_state, .ref q_t_count, .ref q_t_best, .ref q_t_bests, .long t_allCount, .long t_allBest, .long t_allBests], aI cA q_t_pairFactor 16 z, aZ cA q_t_mayNot 16 t_mayNot_8]) dX9_pair_132 rfl (fun _ => rfl) hf (fun t_pairFactor_10 hf => ?_)
  refine g_iload C 133 4 dX9_pair_133 rfl ?_
  cases hf
  exact g_iret C 135 dX9_pair_135 F hB
def J_X9_pair_89 (a1 : Int32) (a2 : Int32) (a3 : Int32) (a4 : Int32) (t_q : Int32)  (x5 : Int32) (s0 : Int32) (s1 : Int32) (t_pairFactor : Nat → Int32) (t_mayNot : Nat → Int32) : Option (Int32 × (Nat → Int32) × (Nat → Int32)) :=
  stZ t_mayNot 16 s1 s0 fun t_mayNot_7 =>
  if a3 = 0 then
    J_X9_pair_108 a1 a2 a3 a4 t_q x5 (1 : Int32) (((4 : Int32) * a2) + a1) t_pairFactor t_mayNot_7
  else
    J_X9_pair_108 a1 a2 a3 a4 t_q x5 (0 : Int32) (((4 : Int32) * a2) + a1) t_pairFactor t_mayNot_7

set_option maxRecDepth 100000 in
set_option maxHeartbeats 1000000 in
theorem w_X9_pair_89 (cA : Nat → ClassId) (q_t : Nat) (t_knots : Int32) (q_t_weight : Nat) (q_t_beside : Nat) (q_t_edge : Nat) (t_rowed : Int32) (q_t_row : Nat) (t_bags : Int32) (q_t_bag : Nat) (q_t_up : Nat) (q_t_least : Nat) (q_t_factor : Nat) (q_t_forbidden : Nat) (q_t_fixed : Nat) (q_t_state : Nat) (q_t_count : Nat) (q_t_best : Nat) (q_t_bests : Nat) (t_allCount : Int64) (t_allBest : Int64) (t_allBests : Int64) (q_t_pairFactor : Nat) (q_t_mayNot : Nat) (a1 : Int32) (a2 : Int32) (a3 : Int32) (a4 : Int32) (t_q : Int32) {X : XT}  (C : Cx X cX9_pair RX9 (some .int) cA 1 21 6) {kk nn : Nat} {BB : Option Value → va_W → Prop} (hk : kk ≤ (x_R X).cells ∧ nn ≤ (x_R X).slots) (F : Fx X BB kk nn) (r : Int32 × (Nat → Int32) × (Nat → Int32)) (hB : BB (some (.int r.1)) [oB q_t 9 [.int t_knots, .ref q_t_weight, .ref q_t_beside, .ref q_t_edge, .int t_rowed, .ref q_t_row, .int t_bags, .ref q_t_bag, .ref q_t_up, .ref q_t_least, .int t_q, .ref q_t_factor, .ref q_t_pairFactor, .ref q_t_forbidden, .ref q_t_mayNot, .ref q_t_fixed, .ref q_t_state, .ref q_t_count, .ref q_t_best, .ref q_t_bests, .long t_allCount, .long t_allBest, .long t_allBests], aI cA q_t_pairFactor 16 r.2.1, aZ cA q_t_mayNot 16 r.2.2])  : ∀ (x5 : Int32) (s0 : Int32) (s1 : Int32) (t_pairFactor : Nat → Int32) (t_mayNot : Nat → Int32), J_X9_pair_89 a1 a2 a3 a4 t_q x5 s0 s1 t_pairFactor t_mayNot = some r → Go X 6 kk nn 89 [oB q_t 9 [.int t_knots, .ref q_t_weight, .ref q_t_beside, .ref q_t_edge, .int t_rowed, .ref q_t_row, .int t_bags, .ref q_t_bag, .ref q_t_up, .ref q_t_least, .int t_q, .ref q_t_factor, .ref q_t_pairFactor, .ref q_t_forbidden, .ref q_t_mayNot, .ref q_t_fixed, .ref q_t_state, .ref q_t_count, .ref q_t_best, .ref q_t_bests, .long t_allCount, .long t_allBest, .long t_allBests], aI cA q_t_pairFactor 16 t_pairFactor, aZ cA q_t_mayNot 16 t_mayNot] [(0, .ref q_t), (1, .int a1), (2, .int a2), (3, .int a3), (4, .int a4), (5, .int x5)] [.int s0, .int s1, .ref q_t_mayNot] := by
  intro x5 s0 s1 t_pairFactor t_mayNot hf
  unfold J_X9_pair_89 at hf
  refine g_zast C 89 2 (fun z => [oB q_t 9 [.int t_knots, .ref q_t_weight, .ref q_t_beside, .ref q_t_edge, .int t_rowed, .ref q_t_row, .int t_bags, .ref q_t_bag, .ref q_t_up, .ref q_t_least, .int t_q, .ref q_t_factor, .ref q_t_pairFactor, .ref q_t_forbidden, .ref q_t_mayNot, .ref q_t_fixed, .ref q_t_state, .ref q_t_count, .ref q_t_best, .ref q_t_bests, .long t_allCount, .long t_allBest, .long t_allBests], aI cA q_t_pairFactor 16 t_pairFactor, aZ cA q_t_mayNot 16 z]) dX9_pair_89 rfl (fun _ => rfl) hf (fun t_mayNot_7 hf => ?_)
  refine g_aload_n C 90 0 dX9_pair_90 rfl rfl ?_
  refine g_get C 91 0 14 dX9_pair_91 inX9 rfl rfl (by decide) kw_401 rfl ?_
  refine g_iconst C 94 (4 : Int32) dX9_pair_94 (by decide) ?_
  refine g_iload_n C 95 2 dX9_pair_95 rfl rfl ?_
  refine g_imul C 96 dX9_pair_96 ?_
  refine g_iload_n C 97 1 dX9_pair_97 rfl rfl ?_
  refine g_iadd C 98 dX9_pair_98 ?_
  refine g_iload_n C 99 3 dX9_pair_99 rfl rfl ?_
  refine g_if_ne C 100 107 dX9_pair_100 (by decide) hf (fun hf => ?_) (fun hf => ?_)
  · refine g_iconst C 107 (0 : Int32) dX9_pair_107 (by decide) ?_
    refine g_lv [0, 1, 2, 4, 5] rfl ?_
    exact w_X9_pair_108 cA q_t t_knots q_t_weight q_t_beside q_t_edge t_rowed q_t_row t_bags q_t_bag q_t_up q_t_least q_t_factor q_t_forbidden q_t_fixed q_t_state q_t_count q_t_best q_t_bests t_allCount t_allBest t_allBests q_t_pairFactor q_t_mayNot a1 a2 a3 a4 t_q C hk F r hB x5 (0 : Int32) (((4 : Int32) * a2) + a1) t_pairFactor t_mayNot_7 hf
  · refine g_iconst C 103 (1 : Int32) dX9_pair_103 (by decide) ?_
    refine g_goto C 104 108 dX9_pair_104 (by decide) ?_
    refine g_lv [0, 1, 2, 4, 5] rfl ?_
    exact w_X9_pair_108 cA q_t t_knots q_t_weight q_t_beside q_t_edge t_rowed q_t_row t_bags q_t_bag q_t_up q_t_least q_t_factor q_t_forbidden q_t_fixed q_t_state q_t_count q_t_best q_t_bests t_allCount t_allBest t_allBests q_t_pairFactor q_t_mayNot a1 a2 a3 a4 t_q C hk F r hB x5 (1 : Int32) (((4 : Int32) * a2) + a1) t_pairFactor t_mayNot_7 hf
def J_X9_pair_69 (a1 : Int32) (a2 : Int32) (a3 : Int32) (a4 : Int32) (t_q : Int32)  (s0 : Int32) (t_pairFactor : Nat → Int32) (t_mayNot : Nat → Int32) : Option (Int32 × (Nat → Int32) × (Nat → Int32)) :=
  bnd s0 fun x5_6 =>
  if a3 = 0 then
    J_X9_pair_89 a1 a2 a3 a4 t_q x5_6 (1 : Int32) (((4 : Int32) * a1) + a2) t_pairFactor t_mayNot
  else
    J_X9_pair_89 a1 a2 a3 a4 t_q x5_6 (0 : Int32) (((4 : Int32) * a1) + a2) t_pairFactor t_mayNot

set_option maxRecDepth 100000 in
set_option maxHeartbeats 1000000 in
theorem w_X9_pair_69 (cA : Nat → ClassId) (q_t : Nat) (t_knots : Int32) (q_t_weight : Nat) (q_t_beside : Nat) (q_t_edge : Nat) (t_rowed : Int32) (q_t_row : Nat) (t_bags : Int32) (q_t_bag : Nat) (q_t_up : Nat) (q_t_least : Nat) (q_t_factor : Nat) (q_t_forbidden : Nat) (q_t_fixed : Nat) (q_t_state : Nat) (q_t_count : Nat) (q_t_best : Nat) (q_t_bests : Nat) (t_allCount : Int64) (t_allBest : Int64) (t_allBests : Int64) (q_t_pairFactor : Nat) (q_t_mayNot : Nat) (a1 : Int32) (a2 : Int32) (a3 : Int32) (a4 : Int32) (t_q : Int32) {X : XT}  (C : Cx X cX9_pair RX9 (some .int) cA 1 21 6) {kk nn : Nat} {BB : Option Value → va_W → Prop} (hk : kk ≤ (x_R X).cells ∧ nn ≤ (x_R X).slots) (F : Fx X BB kk nn) (r : Int32 × (Nat → Int32) × (Nat → Int32)) (hB : BB (some (.int r.1)) [oB q_t 9 [.int t_knots, .ref q_t_weight, .ref q_t_beside, .ref q_t_edge, .int t_rowed, .ref q_t_row, .int t_bags, .ref q_t_bag, .ref q_t_up, .ref q_t_least, .int t_q, .ref q_t_factor, .ref q_t_pairFactor, .ref q_t_forbidden, .ref q_t_mayNot, .ref q_t_fixed, .ref q_t_state, .ref q_t_count, .ref q_t_best, .ref q_t_bests, .long t_allCount, .long t_allBest, .long t_allBests], aI cA q_t_pairFactor 16 r.2.1, aZ cA q_t_mayNot 16 r.2.2])  : ∀ (s0 : Int32) (t_pairFactor : Nat → Int32) (t_mayNot : Nat → Int32), J_X9_pair_69 a1 a2 a3 a4 t_q s0 t_pairFactor t_mayNot = some r → Go X 6 kk nn 69 [oB q_t 9 [.int t_knots, .ref q_t_weight, .ref q_t_beside, .ref q_t_edge, .int t_rowed, .ref q_t_row, .int t_bags, .ref q_t_bag, .ref q_t_up, .ref q_t_least, .int t_q, .ref q_t_factor, .ref q_t_pairFactor, .ref q_t_forbidden, .ref q_t_mayNot, .ref q_t_fixed, .ref q_t_state, .ref q_t_count, .ref q_t_best, .ref q_t_bests, .long t_allCount, .long t_allBest, .long t_allBests], aI cA q_t_pairFactor 16 t_pairFactor, aZ cA q_t_mayNot 16 t_mayNot] [(0, .ref q_t), (1, .int a1), (2, .int a2), (3, .int a3), (4, .int a4)] [.int s0] := by
  intro s0 t_pairFactor t_mayNot hf
  unfold J_X9_pair_69 at hf
  refine g_istore C 69 (fun z => [(5, .int z), (0, .ref q_t), (1, .int a1), (2, .int a2), (3, .int a3), (4, .int a4)]) dX9_pair_69 (by decide) (fun _ => rfl) hf (fun x5_6 hf => ?_)
  refine g_aload_n C 71 1 dX9_pair_71 rfl rfl ?_
  refine g_get C 72 0 14 dX9_pair_72 inX9 rfl rfl (by decide) kw_401 rfl ?_
  refine g_iconst C 75 (4 : Int32) dX9_pair_75 (by decide) ?_
  refine g_iload_n C 76 2 dX9_pair_76 rfl rfl ?_
  refine g_imul C 77 dX9_pair_77 ?_
  refine g_iload_n C 78 3 dX9_pair_78 rfl rfl ?_
  refine g_iadd C 79 dX9_pair_79 ?_
  refine g_iload_n C 80 4 dX9_pair_80 rfl rfl ?_
  refine g_if_ne C 81 88 dX9_pair_81 (by decide) hf (fun hf => ?_) (fun hf => ?_)
  · refine g_iconst C 88 (0 : Int32) dX9_pair_88 (by decide) ?_
    refine g_lv [1, 2, 3, 4, 5, 0] rfl ?_
    exact w_X9_pair_89 cA q_t t_knots q_t_weight q_t_beside q_t_edge t_rowed q_t_row t_bags q_t_bag q_t_up q_t_least q_t_factor q_t_forbidden q_t_fixed q_t_state q_t_count q_t_best q_t_bests t_allCount t_allBest t_allBests q_t_pairFactor q_t_mayNot a1 a2 a3 a4 t_q C hk F r hB x5_6 (0 : Int32) (((4 : Int32) * a1) + a2) t_pairFactor t_mayNot hf
  · refine g_iconst C 84 (1 : Int32) dX9_pair_84 (by decide) ?_
    refine g_goto C 85 89 dX9_pair_85 (by decide) ?_
    refine g_lv [1, 2, 3, 4, 5, 0] rfl ?_
    exact w_X9_pair_89 cA q_t t_knots q_t_weight q_t_beside q_t_edge t_rowed q_t_row t_bags q_t_bag q_t_up q_t_least q_t_factor q_t_forbidden q_t_fixed q_t_state q_t_count q_t_best q_t_bests t_allCount t_allBest t_allBests q_t_pairFactor q_t_mayNot a1 a2 a3 a4 t_q C hk F r hB x5_6 (1 : Int32) (((4 : Int32) * a1) + a2) t_pairFactor t_mayNot hf
def f_X9_pair (a1 : Int32) (a2 : Int32) (a3 : Int32) (a4 : Int32) (t_q : Int32) (t_pairFactor : Nat → Int32) (t_mayNot : Nat → Int32) : Option (Int32 × (Nat → Int32) × (Nat → Int32)) :=
  cal (f_X9_isState a1 t_q) fun u1 =>
  if u1 = 0 then
    some ((-1 : Int32), t_pairFactor, t_mayNot)
  else
    cal (f_X9_isState a2 t_q) fun u2 =>
    if u2 = 0 then
      some ((-1 : Int32), t_pairFactor, t_mayNot)
    else
      if a3 < 0 then
        some ((-2 : Int32), t_pairFactor, t_mayNot)
      else
        if (1 : Int32) < a3 then
          some ((-2 : Int32), t_pairFactor, t_mayNot)
        else
          cal (f_X9_isFactor a4) fun u3 =>
          if u3 = 0 then
            some ((-2 : Int32), t_pairFactor, t_mayNot)
          else
            ldA t_mayNot 16 (((4 : Int32) * a1) + a2) fun v4 =>
            if v4 = 0 then
              ldA t_pairFactor 16 (((4 : Int32) * a1) + a2) fun v5 =>
              J_X9_pair_69 a1 a2 a3 a4 t_q (v5 + (100 : Int32)) t_pairFactor t_mayNot
            else
              J_X9_pair_69 a1 a2 a3 a4 t_q (0 : Int32) t_pairFactor t_mayNot

set_option maxRecDepth 100000 in
set_option maxHeartbeats 1000000 in
theorem c_X9_pair (l : Launch) (cA : Nat → ClassId) (q_t : Nat) (t_knots : Int32) (q_t_weight : Nat) (q_t_beside : Nat) (q_t_edge : Nat) (t_rowed : Int32) (q_t_row : Nat) (t_bags : Int32) (q_t_bag : Nat) (q_t_up : Nat) (q_t_least : Nat) (t_q : Int32) (q_t_factor : Nat) (q_t_forbidden : Nat) (q_t_fixed : Nat) (q_t_state : Nat) (q_t_count : Nat) (q_t_best : Nat) (q_t_bests : Nat) (t_allCount : Int64) (t_allBest : Int64) (t_allBests : Int64) (q_t_pairFactor : Nat) (t_pairFactor : Nat → Int32) (q_t_mayNot : Nat) (t_mayNot : Nat → Int32)  (a1 : Int32) (a2 : Int32) (a3 : Int32) (a4 : Int32) (r : Int32 × (Nat → Int32) × (Nat → Int32)) (hf : f_X9_pair a1 a2 a3 a4 t_q t_pairFactor t_mayNot = some r) : MT l cA yX9_pair cX9_pair 6 (some .int) ({ frames := 1, cells := 0, slots := 0, locals := 21 } : Room) [.ref q_t, .int a1, .int a2, .int a3, .int a4] [oB q_t 9 [.int t_knots, .ref q_t_weight, .ref q_t_beside, .ref q_t_edge, .int t_rowed, .ref q_t_row, .int t_bags, .ref q_t_bag, .ref q_t_up, .ref q_t_least, .int t_q, .ref q_t_factor, .ref q_t_pairFactor, .ref q_t_forbidden, .ref q_t_mayNot, .ref q_t_fixed, .ref q_t_state, .ref q_t_count, .ref q_t_best, .ref q_t_bests, .long t_allCount, .long t_allBest, .long t_allBests], aI cA q_t_pairFactor 16 t_pairFactor, aZ cA q_t_mayNot 16 t_mayNot] (sB (some (.int r.1)) [oB q_t 9 [.int t_knots, .ref q_t_weight, .ref q_t_beside, .ref q_t_edge, .int t_rowed, .ref q_t_row, .int t_bags, .ref q_t_bag, .ref q_t_up, .ref q_t_least, .int t_q, .ref q_t_factor, .ref q_t_pairFactor, .ref q_t_forbidden, .ref q_t_mayNot, .ref q_t_fixed, .ref q_t_state, .ref q_t_count, .ref q_t_best, .ref q_t_bests, .long t_allCount, .long t_allBest, .long t_allBests], aI cA q_t_pairFactor 16 r.2.1, aZ cA q_t_mayNot 16 r.2.2]) := by
  refine MT.of (by decide) (Nat.le_of_ble_eq_true rfl) ?_
  intro X hXl C F hnm hrc hrs
  subst hXl
  have hk : 0 ≤ (x_R X).cells ∧ 0 ≤ (x_R X).slots := ⟨Nat.zero_le _, Nat.zero_le _⟩
  have hB : (sB (some (.int r.1)) [oB q_t 9 [.int t_knots, .ref q_t_weight, .ref q_t_beside, .ref q_t_edge, .int t_rowed, .ref q_t_row, .int t_bags, .ref q_t_bag, .ref q_t_up, .ref q_t_least, .int t_q, .ref q_t_factor, .ref q_t_pairFactor, .ref q_t_forbidden, .ref q_t_mayNot, .ref q_t_fixed, .ref q_t_state, .ref q_t_count, .ref q_t_best, .ref q_t_bests, .long t_allCount, .long t_allBest, .long t_allBests], aI cA q_t_pairFactor 16 r.2.1, aZ cA q_t_mayNot 16 r.2.2]) (some (.int r.1)) [oB q_t 9 [.int t_knots, .ref q_t_weight, .ref q_t_beside, .ref q_t_edge, .int t_rowed, .ref q_t_row, .int t_bags, .ref q_t_bag, .ref q_t_up, .ref q_t_least, .int t_q, .ref q_t_factor, .ref q_t_pairFactor, .ref q_t_forbidden, .ref q_t_mayNot, .ref q_t_fixed, .ref q_t_state, .ref q_t_count, .ref q_t_best, .ref q_t_bests, .long t_allCount, .long t_allBest, .long t_allBests], aI cA q_t_pairFactor 16 r.2.1, aZ cA q_t_mayNot 16 r.2.2] := ⟨rfl, rfl⟩
  unfold f_X9_pair at hf
  have C : Cx X cX9_pair RX9 (some .int) cA 1 21 6 := C
  show Go X 6 0 0 0 [oB q_t 9 [.int t_knots, .ref q_t_weight, .ref q_t_beside, .ref q_t_edge, .int t_rowed, .ref q_t_row, .int t_bags, .ref q_t_bag, .ref q_t_up, .ref q_t_least, .int t_q, .ref q_t_factor, .ref q_t_pairFactor, .ref q_t_forbidden, .ref q_t_mayNot, .ref q_t_fixed, .ref q_t_state, .ref q_t_count, .ref q_t_best, .ref q_t_bests, .long t_allCount, .long t_allBest, .long t_allBests], aI cA q_t_pairFactor 16 t_pairFactor, aZ cA q_t_mayNot 16 t_mayNot] [(0, .ref q_t), (1, .int a1), (2, .int a2), (3, .int a3), (4, .int a4)] []
  refine g_aload_n C 0 0 dX9_pair_0 rfl rfl ?_
  refine g_iload_n C 1 1 dX9_pair_1 rfl rfl ?_
  obtain ⟨u1, hu1, hf⟩ := cal_some hf
  refine g_callV1 C 2 [0] 0 (rest := []) dX9_pair_2 (c_X9_isState (x_l X) cA q_t t_knots q_t_weight q_t_beside q_t_edge t_rowed q_t_row t_bags q_t_bag q_t_up q_t_least t_q q_t_factor q_t_pairFactor q_t_forbidden q_t_mayNot q_t_fixed q_t_state q_t_count q_t_best q_t_bests t_allCount t_allBest t_allBests a1 u1 hu1) kw_403 kw_404 kw_405 kw_343 kw_406 ok_X9_isState ⟨Nat.le_of_ble_eq_true rfl, Nat.le_of_ble_eq_true rfl⟩ hk ⟨rfl, rfl⟩ rfl rfl rfl rfl rfl (Nat.le_of_ble_eq_true rfl) rfl (ws' := [oB q_t 9 [.int t_knots, .ref q_t_weight, .ref q_t_beside, .ref q_t_edge, .int t_rowed, .ref q_t_row, .int t_bags, .ref q_t_bag, .ref q_t_up, .ref q_t_least, .int t_q, .ref q_t_factor, .ref q_t_pairFactor, .ref q_t_forbidden, .ref q_t_mayNot, .ref q_t_fixed, .ref q_t_state, .ref q_t_count, .ref q_t_best, .ref q_t_bests, .long t_allCount, .long t_allBest, .long t_allBests], aI cA q_t_pairFactor 16 t_pairFactor, aZ cA q_t_mayNot 16 t_mayNot]) (st' := [.int u1]) (N0 := 3) rfl [some 0, none, none] (by decide) rfl rfl ?_
  refine g_if_eq C 5 16 dX9_pair_5 (by decide) hf (fun hf => ?_) (fun hf => ?_)
  · refine g_iconst C 16 (-1 : Int32) dX9_pair_16 (by decide) ?_
    cases hf
    exact g_iret C 17 dX9_pair_17 F hB
  · refine g_aload_n C 8 0 dX9_pair_8 rfl rfl ?_
    refine g_iload_n C 9 2 dX9_pair_9 rfl rfl ?_
    obtain ⟨u2, hu2, hf⟩ := cal_some hf
    refine g_callV1 C 10 [0] 0 (rest := []) dX9_pair_10 (c_X9_isState (x_l X) cA q_t t_knots q_t_weight q_t_beside q_t_edge t_rowed q_t_row t_bags q_t_bag q_t_up q_t_least t_q q_t_factor q_t_pairFactor q_t_forbidden q_t_mayNot q_t_fixed q_t_state q_t_count q_t_best q_t_bests t_allCount t_allBest t_allBests a2 u2 hu2) kw_403 kw_404 kw_405 kw_343 kw_406 ok_X9_isState ⟨Nat.le_of_ble_eq_true rfl, Nat.le_of_ble_eq_true rfl⟩ hk ⟨rfl, rfl⟩ rfl rfl rfl rfl rfl (Nat.le_of_ble_eq_true rfl) rfl (ws' := [oB q_t 9 [.int t_knots, .ref q_t_weight, .ref q_t_beside, .ref q_t_edge, .int t_rowed, .ref q_t_row, .int t_bags, .ref q_t_bag, .ref q_t_up, .ref q_t_least, .int t_q, .ref q_t_factor, .ref q_t_pairFactor, .ref q_t_forbidden, .ref q_t_mayNot, .ref q_t_fixed, .ref q_t_state, .ref q_t_count, .ref q_t_best, .ref q_t_bests, .long t_allCount, .long t_allBest, .long t_allBests], aI cA q_t_pairFactor 16 t_pairFactor, aZ cA q_t_mayNot 16 t_mayNot]) (st' := [.int u2]) (N0 := 3) rfl [some 0, none, none] (by decide) rfl rfl ?_
    refine g_if_ne C 13 18 dX9_pair_13 (by decide) hf (fun hf => ?_) (fun hf => ?_)
    · refine g_iload_n C 18 3 dX9_pair_18 rfl rfl ?_
      refine g_if_lt C 19 36 dX9_pair_19 (by decide) hf (fun hf => ?_) (fun hf => ?_)
      · refine g_bipush C 36 (-2 : Int32) dX9_pair_36 (by decide) ?_
        cases hf
        exact g_iret C 38 dX9_pair_38 F hB
      · refine g_iload_n C 22 3 dX9_pair_22 rfl rfl ?_
        refine g_iconst C 23 (1 : Int32) dX9_pair_23 (by decide) ?_
        refine g_icmp_gt C 24 36 dX9_pair_24 (by decide) hf (fun hf => ?_) (fun hf => ?_)
        · refine g_bipush C 36 (-2 : Int32) dX9_pair_36 (by decide) ?_
          cases hf
          exact g_iret C 38 dX9_pair_38 F hB
        · refine g_aload_n C 27 0 dX9_pair_27 rfl rfl ?_
          refine g_iload C 28 4 dX9_pair_28 rfl ?_
          obtain ⟨u3, hu3, hf⟩ := cal_some hf
          refine g_callV1 C 30 [] 0 (rest := []) dX9_pair_30 (c_X9_isFactor (x_l X) cA q_t a4 u3 hu3) kw_407 kw_408 kw_409 kw_343 kw_410 ok_X9_isFactor ⟨Nat.le_of_ble_eq_true rfl, Nat.le_of_ble_eq_true rfl⟩ hk ⟨rfl, rfl⟩ rfl rfl rfl rfl rfl (Nat.le_of_ble_eq_true rfl) rfl (ws' := [oB q_t 9 [.int t_knots, .ref q_t_weight, .ref q_t_beside, .ref q_t_edge, .int t_rowed, .ref q_t_row, .int t_bags, .ref q_t_bag, .ref q_t_up, .ref q_t_least, .int t_q, .ref q_t_factor, .ref q_t_pairFactor, .ref q_t_forbidden, .ref q_t_mayNot, .ref q_t_fixed, .ref q_t_state, .ref q_t_count, .ref q_t_best, .ref q_t_bests, .long t_allCount, .long t_allBest, .long t_allBests], aI cA q_t_pairFactor 16 t_pairFactor, aZ cA q_t_mayNot 16 t_mayNot]) (st' := [.int u3]) (N0 := 3) rfl [none, none, none] (by decide) rfl rfl ?_
          refine g_if_ne C 33 39 dX9_pair_33 (by decide) hf (fun hf => ?_) (fun hf => ?_)
          · refine g_aload_n C 39 0 dX9_pair_39 rfl rfl ?_
            refine g_get C 40 0 14 dX9_pair_40 inX9 rfl rfl (by decide) kw_401 rfl ?_
            refine g_iconst C 43 (4 : Int32) dX9_pair_43 (by decide) ?_
            refine g_iload_n C 44 1 dX9_pair_44 rfl rfl ?_
            refine g_imul C 45 dX9_pair_45 ?_
            refine g_iload_n C 46 2 dX9_pair_46 rfl rfl ?_
            refine g_iadd C 47 dX9_pair_47 ?_
            refine g_zald C 48 2 dX9_pair_48 rfl hf (fun v4 hf => ?_)
            refine g_if_eq C 49 56 dX9_pair_49 (by decide) hf (fun hf => ?_) (fun hf => ?_)
            · refine g_aload_n C 56 0 dX9_pair_56 rfl rfl ?_
              refine g_get C 57 0 12 dX9_pair_57 inX9 rfl rfl (by decide) kw_400 rfl ?_
              refine g_iconst C 60 (4 : Int32) dX9_pair_60 (by decide) ?_
              refine g_iload_n C 61 1 dX9_pair_61 rfl rfl ?_
              refine g_imul C 62 dX9_pair_62 ?_
              refine g_iload_n C 63 2 dX9_pair_63 rfl rfl ?_
              refine g_iadd C 64 dX9_pair_64 ?_
              refine g_iald C 65 1 dX9_pair_65 rfl hf (fun v5 hf => ?_)
              refine g_bipush C 66 (100 : Int32) dX9_pair_66 (by decide) ?_
              refine g_iadd C 68 dX9_pair_68 ?_
              exact w_X9_pair_69 cA q_t t_knots q_t_weight q_t_beside q_t_edge t_rowed q_t_row t_bags q_t_bag q_t_up q_t_least q_t_factor q_t_forbidden q_t_fixed q_t_state q_t_count q_t_best q_t_bests t_allCount t_allBest t_allBests q_t_pairFactor q_t_mayNot a1 a2 a3 a4 t_q C hk F r hB (v5 + (100 : Int32)) t_pairFactor t_mayNot hf
            · refine g_iconst C 52 (0 : Int32) dX9_pair_52 (by decide) ?_
              refine g_goto C 53 69 dX9_pair_53 (by decide) ?_
              exact w_X9_pair_69 cA q_t t_knots q_t_weight q_t_beside q_t_edge t_rowed q_t_row t_bags q_t_bag q_t_up q_t_least q_t_factor q_t_forbidden q_t_fixed q_t_state q_t_count q_t_best q_t_bests t_allCount t_allBest t_allBests q_t_pairFactor q_t_mayNot a1 a2 a3 a4 t_q C hk F r hB (0 : Int32) t_pairFactor t_mayNot hf
          · refine g_bipush C 36 (-2 : Int32) dX9_pair_36 (by decide) ?_
            cases hf
            exact g_iret C 38 dX9_pair_38 F hB
    · refine g_iconst C 16 (-1 : Int32) dX9_pair_16 (by decide) ?_
      cases hf
      exact g_iret C 17 dX9_pair_17 F hB

def f_X9_forbid (a1 : Int32) (a2 : Int32) (t_knots : Int32) (t_forbidden : Nat → Int32) : Option (Int32 × (Nat → Int32)) :=
  cal (f_X9_isKnot a1 t_knots) fun u1 =>
  if u1 = 0 then
    some ((-1 : Int32), t_forbidden)
  else
    if a2 < 0 then
      some ((-2 : Int32), t_forbidden)
    else
      if a2 ≤ (15 : Int32) then
        ldA t_forbidden 14 a1 fun v2 =>
        bnd v2 fun x3_3 =>
        stI t_forbidden 14 a1 a2 fun t_forbidden_4 =>
        some (x3_3, t_forbidden_4)
      else
        some ((-2 : Int32), t_forbidden)

set_option maxRecDepth 100000 in
set_option maxHeartbeats 1000000 in
theorem c_X9_forbid (l : Launch) (cA : Nat → ClassId) (q_t : Nat) (t_knots : Int32) (q_t_weight : Nat) (q_t_beside : Nat) (q_t_edge : Nat) (t_rowed : Int32) (q_t_row : Nat) (t_bags : Int32) (q_t_bag : Nat) (q_t_up : Nat) (q_t_least : Nat) (t_q : Int32) (q_t_factor : Nat) (q_t_pairFactor : Nat) (q_t_mayNot : Nat) (q_t_fixed : Nat) (q_t_state : Nat) (q_t_count : Nat) (q_t_best : Nat) (q_t_bests : Nat) (t_allCount : Int64) (t_allBest : Int64) (t_allBests : Int64) (q_t_forbidden : Nat) (t_forbidden : Nat → Int32)  (a1 : Int32) (a2 : Int32) (r : Int32 × (Nat → Int32)) (hf : f_X9_forbid a1 a2 t_knots t_forbidden = some r) : MT l cA yX9_forbid cX9_forbid 4 (some .int) ({ frames := 1, cells := 0, slots := 0, locals := 21 } : Room) [.ref q_t, .int a1, .int a2] [oB q_t 9 [.int t_knots, .ref q_t_weight, .ref q_t_beside, .ref q_t_edge, .int t_rowed, .ref q_t_row, .int t_bags, .ref q_t_bag, .ref q_t_up, .ref q_t_least, .int t_q, .ref q_t_factor, .ref q_t_pairFactor, .ref q_t_forbidden, .ref q_t_mayNot, .ref q_t_fixed, .ref q_t_state, .ref q_t_count, .ref q_t_best, .ref q_t_bests, .long t_allCount, .long t_allBest, .long t_allBests], aI cA q_t_forbidden 14 t_forbidden] (sB (some (.int r.1)) [oB q_t 9 [.int t_knots, .ref q_t_weight, .ref q_t_beside, .ref q_t_edge, .int t_rowed, .ref q_t_row, .int t_bags, .ref q_t_bag, .ref q_t_up, .ref q_t_least, .int t_q, .ref q_t_factor, .ref q_t_pairFactor, .ref q_t_forbidden, .ref q_t_mayNot, .ref q_t_fixed, .ref q_t_state, .ref q_t_count, .ref q_t_best, .ref q_t_bests, .long t_allCount, .long t_allBest, .long t_allBests], aI cA q_t_forbidden 14 r.2]) := by
  refine MT.of (by decide) (Nat.le_of_ble_eq_true rfl) ?_
  intro X hXl C F hnm hrc hrs
  subst hXl
  have hk : 0 ≤ (x_R X).cells ∧ 0 ≤ (x_R X).slots := ⟨Nat.zero_le _, Nat.zero_le _⟩
  have hB : (sB (some (.int r.1)) [oB q_t 9 [.int t_knots, .ref q_t_weight, .ref q_t_beside, .ref q_t_edge, .int t_rowed, .ref q_t_row, .int t_bags, .ref q_t_bag, .ref q_t_up, .ref q_t_least, .int t_q, .ref q_t_factor, .ref q_t_pairFactor, .ref q_t_forbidden, .ref q_t_mayNot, .ref q_t_fixed, .ref q_t_state, .ref q_t_count, .ref q_t_best, .ref q_t_bests, .long t_allCount, .long t_allBest, .long t_allBests], aI cA q_t_forbidden 14 r.2]) (some (.int r.1)) [oB q_t 9 [.int t_knots, .ref q_t_weight, .ref q_t_beside, .ref q_t_edge, .int t_rowed, .ref q_t_row, .int t_bags, .ref q_t_bag, .ref q_t_up, .ref q_t_least, .int t_q, .ref q_t_factor, .ref q_t_pairFactor, .ref q_t_forbidden, .ref q_t_mayNot, .ref q_t_fixed, .ref q_t_state, .ref q_t_count, .ref q_t_best, .ref q_t_bests, .long t_allCount, .long t_allBest, .long t_allBests], aI cA q_t_forbidden 14 r.2] := ⟨rfl, rfl⟩
  unfold f_X9_forbid at hf
  have C : Cx X cX9_forbid RX9 (some .int) cA 1 21 4 := C
  show Go X 4 0 0 0 [oB q_t 9 [.int t_knots, .ref q_t_weight, .ref q_t_beside, .ref q_t_edge, .int t_rowed, .ref q_t_row, .int t_bags, .ref q_t_bag, .ref q_t_up, .ref q_t_least, .int t_q, .ref q_t_factor, .ref q_t_pairFactor, .ref q_t_forbidden, .ref q_t_mayNot, .ref q_t_fixed, .ref q_t_state, .ref q_t_count, .ref q_t_best, .ref q_t_bests, .long t_allCount, .long t_allBest, .long t_allBests], aI cA q_t_forbidden 14 t_forbidden] [(0, .ref q_t), (1, .int a1), (2, .int a2)] []
  refine g_aload_n C 0 0 dX9_forbid_0 rfl rfl ?_
  refine g_iload_n C 1 1 dX9_forbid_1 rfl rfl ?_
  obtain ⟨u1, hu1, hf⟩ := cal_some hf
  refine g_callV1 C 2 [0] 0 (rest := []) dX9_forbid_2 (c_X9_isKnot (x_l X) cA q_t t_knots q_t_weight q_t_beside q_t_edge t_rowed q_t_row t_bags q_t_bag q_t_up q_t_least t_q q_t_factor q_t_pairFactor q_t_forbidden q_t_mayNot q_t_fixed q_t_state q_t_count q_t_best q_t_bests t_allCount t_allBest t_allBests a1 u1 hu1) kw_349 kw_350 kw_351 kw_343 kw_352 ok_X9_isKnot ⟨Nat.le_of_ble_eq_true rfl, Nat.le_of_ble_eq_true rfl⟩ hk ⟨rfl, rfl⟩ rfl rfl rfl rfl rfl (Nat.le_of_ble_eq_true rfl) rfl (ws' := [oB q_t 9 [.int t_knots, .ref q_t_weight, .ref q_t_beside, .ref q_t_edge, .int t_rowed, .ref q_t_row, .int t_bags, .ref q_t_bag, .ref q_t_up, .ref q_t_least, .int t_q, .ref q_t_factor, .ref q_t_pairFactor, .ref q_t_forbidden, .ref q_t_mayNot, .ref q_t_fixed, .ref q_t_state, .ref q_t_count, .ref q_t_best, .ref q_t_bests, .long t_allCount, .long t_allBest, .long t_allBests], aI cA q_t_forbidden 14 t_forbidden]) (st' := [.int u1]) (N0 := 2) rfl [some 0, none] (by decide) rfl rfl ?_
  refine g_if_ne C 5 10 dX9_forbid_5 (by decide) hf (fun hf => ?_) (fun hf => ?_)
  · refine g_iload_n C 10 2 dX9_forbid_10 rfl rfl ?_
    refine g_if_lt C 11 20 dX9_forbid_11 (by decide) hf (fun hf => ?_) (fun hf => ?_)
    · refine g_bipush C 20 (-2 : Int32) dX9_forbid_20 (by decide) ?_
      cases hf
      exact g_iret C 22 dX9_forbid_22 F hB
    · refine g_iload_n C 14 2 dX9_forbid_14 rfl rfl ?_
      refine g_bipush C 15 (15 : Int32) dX9_forbid_15 (by decide) ?_
      refine g_icmp_le C 17 23 dX9_forbid_17 (by decide) hf (fun hf => ?_) (fun hf => ?_)
      · refine g_aload_n C 23 0 dX9_forbid_23 rfl rfl ?_
        refine g_get C 24 0 13 dX9_forbid_24 inX9 rfl rfl (by decide) kw_399 rfl ?_
        refine g_iload_n C 27 1 dX9_forbid_27 rfl rfl ?_
        refine g_iald C 28 1 dX9_forbid_28 rfl hf (fun v2 hf => ?_)
        refine g_istore_n C 29 (fun z => [(3, .int z), (0, .ref q_t), (1, .int a1), (2, .int a2)]) dX9_forbid_29 rfl (by decide) (fun _ => rfl) hf (fun x3_3 hf => ?_)
        refine g_aload_n C 30 1 dX9_forbid_30 rfl rfl ?_
        refine g_get C 31 0 13 dX9_forbid_31 inX9 rfl rfl (by decide) kw_399 rfl ?_
        refine g_iload_n C 34 2 dX9_forbid_34 rfl rfl ?_
        refine g_iload_n C 35 3 dX9_forbid_35 rfl rfl ?_
        refine g_iast C 36 1 (fun z => [oB q_t 9 [.int t_knots, .ref q_t_weight, .ref q_t_beside, .ref q_t_edge, .int t_rowed, .ref q_t_row, .int t_bags, .ref q_t_bag, .ref q_t_up, .ref q_t_least, .int t_q, .ref q_t_factor, .ref q_t_pairFactor, .ref q_t_forbidden, .ref q_t_mayNot, .ref q_t_fixed, .ref q_t_state, .ref q_t_count, .ref q_t_best, .ref q_t_bests, .long t_allCount, .long t_allBest, .long t_allBests], aI cA q_t_forbidden 14 z]) dX9_forbid_36 rfl (fun _ => rfl) hf (fun t_forbidden_4 hf => ?_)
        refine g_iload_n C 37 0 dX9_forbid_37 rfl rfl ?_
        cases hf
        exact g_iret C 38 dX9_forbid_38 F hB
      · refine g_bipush C 20 (-2 : Int32) dX9_forbid_20 (by decide) ?_
        cases hf
        exact g_iret C 22 dX9_forbid_22 F hB
  · refine g_iconst C 8 (-1 : Int32) dX9_forbid_8 (by decide) ?_
    cases hf
    exact g_iret C 9 dX9_forbid_9 F hB

def L_X9_count_47 (a1 : Int32) (t_knots : Int32) (t_rowed : Int32) (t_bags : Int32) (t_q : Int32) (t_beside : Nat → Int32) (t_bag : Nat → Int32) (t_up : Nat → Int32)  : Nat → Int32 → Int32 → Option (Int32)
  | 0, _, _ => none
  | n + 1, x2, x3 =>
    if t_knots ≤ x3 then
      some ((x2 / (2 : Int32)))
    else
      ldA t_beside 14 x3 fun v5 =>
      cal (f_X9_bits v5) fun u6 =>
      bnd (x2 + u6) fun x2_7 =>
      bnd (x3 + (1 : Int32)) fun x3_8 =>
      L_X9_count_47 a1 t_knots t_rowed t_bags t_q t_beside t_bag t_up n x2_7 x3_8

set_option maxRecDepth 100000 in
set_option maxHeartbeats 1000000 in
theorem w_X9_count_47 (cA : Nat → ClassId) (q_t : Nat) (q_t_weight : Nat) (q_t_edge : Nat) (q_t_row : Nat) (q_t_least : Nat) (q_t_factor : Nat) (q_t_pairFactor : Nat) (q_t_forbidden : Nat) (q_t_mayNot : Nat) (q_t_fixed : Nat) (q_t_state : Nat) (q_t_count : Nat) (q_t_best : Nat) (q_t_bests : Nat) (t_allCount : Int64) (t_allBest : Int64) (t_allBests : Int64) (q_t_beside : Nat) (q_t_bag : Nat) (q_t_up : Nat) (a1 : Int32) (t_knots : Int32) (t_rowed : Int32) (t_bags : Int32) (t_q : Int32) (t_beside : Nat → Int32) (t_bag : Nat → Int32) (t_up : Nat → Int32) {X : XT}  (C : Cx X cX9_count RX9 (some .int) cA 3 66 4) {kk nn : Nat} {BB : Option Value → va_W → Prop} (hk : kk ≤ (x_R X).cells ∧ nn ≤ (x_R X).slots) (F : Fx X BB kk nn) (r : Int32) (hB : BB (some (.int r)) [oB q_t 9 [.int t_knots, .ref q_t_weight, .ref q_t_beside, .ref q_t_edge, .int t_rowed, .ref q_t_row, .int t_bags, .ref q_t_bag, .ref q_t_up, .ref q_t_least, .int t_q, .ref q_t_factor, .ref q_t_pairFactor, .ref q_t_forbidden, .ref q_t_mayNot, .ref q_t_fixed, .ref q_t_state, .ref q_t_count, .ref q_t_best, .ref q_t_bests, .long t_allCount, .long t_allBest, .long t_allBests], aI cA q_t_beside 14 t_beside, aI cA q_t_bag 14 t_bag, aI cA q_t_up 14 t_up])  : ∀ (n : Nat) (x2 : Int32) (x3 : Int32), L_X9_count_47 a1 t_knots t_rowed t_bags t_q t_beside t_bag t_up n x2 x3 = some r → Go X 4 kk nn 47 [oB q_t 9 [.int t_knots, .ref q_t_weight, .ref q_t_beside, .ref q_t_edge, .int t_rowed, .ref q_t_row, .int t_bags, .ref q_t_bag, .ref q_t_up, .ref q_t_least, .int t_q, .ref q_t_factor, .ref q_t_pairFactor, .ref q_t_forbidden, .ref q_t_mayNot, .ref q_t_fixed, .ref q_t_state, .ref q_t_count, .ref q_t_best, .ref q_t_bests, .long t_allCount, .long t_allBest, .long t_allBests], aI cA q_t_beside 14 t_beside, aI cA q_t_bag 14 t_bag, aI cA q_t_up 14 t_up] [(0, .ref q_t), (2, .int x2), (3, .int x3)] [] := by
  intro n
  induction n with
  | zero => intro x2 x3 hf; exact no_some hf
  | succ n ih =>
    intro x2 x3 hf
    rw [L_X9_count_47] at hf
    refine g_iload_n C 47 2 dX9_count_47 rfl rfl ?_
    refine g_aload_n C 48 0 dX9_count_48 rfl rfl ?_
    refine g_get C 49 0 0 dX9_count_49 inX9 rfl rfl (by decide) kw_339 rfl ?_
    refine g_icmp_ge C 52 74 dX9_count_52 (by decide) hf (fun hf => ?_) (fun hf => ?_)
    · refine g_iload_n C 74 1 dX9_count_74 rfl rfl ?_
      refine g_iconst C 75 (2 : Int32) dX9_count_75 (by decide) ?_
      refine g_idiv C 76 dX9_count_76 (by decide) ?_
      cases hf
      exact g_iret C 77 dX9_count_77 F hB
    · refine g_iload_n C 55 1 dX9_count_55 rfl rfl ?_
      refine g_aload_n C 56 0 dX9_count_56 rfl rfl ?_
      refine g_aload_n C 57 0 dX9_count_57 rfl rfl ?_
      refine g_get C 58 0 2 dX9_count_58 inX9 rfl rfl (by decide) kw_346 rfl ?_
      refine g_iload_n C 61 2 dX9_count_61 rfl rfl ?_
      refine g_iald C 62 1 dX9_count_62 rfl hf (fun v5 hf => ?_)
      obtain ⟨u6, hu6, hf⟩ := cal_some hf
      refine g_callV1 C 63 [] 0 (rest := [.int x2]) dX9_count_63 (c_X9_bits (x_l X) cA q_t v5 u6 hu6) kw_367 kw_368 kw_369 kw_343 kw_370 ok_X9_bits ⟨Nat.le_of_ble_eq_true rfl, Nat.le_of_ble_eq_true rfl⟩ hk ⟨rfl, rfl⟩ rfl rfl rfl rfl rfl (Nat.le_of_ble_eq_true rfl) rfl (ws' := [oB q_t 9 [.int t_knots, .ref q_t_weight, .ref q_t_beside, .ref q_t_edge, .int t_rowed, .ref q_t_row, .int t_bags, .ref q_t_bag, .ref q_t_up, .ref q_t_least, .int t_q, .ref q_t_factor, .ref q_t_pairFactor, .ref q_t_forbidden, .ref q_t_mayNot, .ref q_t_fixed, .ref q_t_state, .ref q_t_count, .ref q_t_best, .ref q_t_bests, .long t_allCount, .long t_allBest, .long t_allBests], aI cA q_t_beside 14 t_beside, aI cA q_t_bag 14 t_bag, aI cA q_t_up 14 t_up]) (st' := [.int u6, .int x2]) (N0 := 4) rfl [none, none, none, none] (by decide) rfl rfl ?_
      refine g_iadd C 66 dX9_count_66 ?_
      refine g_istore_n C 67 (fun z => [(2, .int z), (0, .ref q_t), (3, .int x3)]) dX9_count_67 rfl (by decide) (fun _ => rfl) hf (fun x2_7 hf => ?_)
      refine g_iinc C 68 2 (v := x3 + (1 : Int32)) (fun z => [(3, .int z), (2, .int x2_7), (0, .ref q_t)]) dX9_count_68 rfl rfl (by decide) (fun _ => rfl) hf (fun x3_8 hf => ?_)
      refine g_goto C 71 47 dX9_count_71 (by decide) ?_
      refine g_lv [2, 1, 0] rfl ?_
      exact ih x2_7 x3_8 hf
def f_X9_count (a1 : Int32) (t_knots : Int32) (t_rowed : Int32) (t_bags : Int32) (t_q : Int32) (t_beside : Nat → Int32) (t_bag : Nat → Int32) (t_up : Nat → Int32) : Option (Int32) :=
  bnd (0 : Int32) fun x2_1 =>
  if a1 = 0 then
    some (t_knots)
  else
    if a1 = 1 then
      bnd (0 : Int32) fun x3_4 =>
      L_X9_count_47 a1 t_knots t_rowed t_bags t_q t_beside t_bag t_up NN x2_1 x3_4
    else
      if a1 = 2 then
        some (t_rowed)
      else
        if a1 = 3 then
          some (t_bags)
        else
          if a1 = 4 then
            some (t_q)
          else
            if a1 = 5 then
              if t_bags ≤ 0 then
                some ((0 : Int32))
              else
                cal (f_X9_sound t_knots t_bags t_beside t_bag t_up) fun u13 =>
                if u13 = 0 then
                  some ((1 : Int32))
                else
                  some ((0 : Int32))
            else
              some ((-1 : Int32))

set_option maxRecDepth 100000 in
set_option maxHeartbeats 1000000 in
theorem c_X9_count (l : Launch) (cA : Nat → ClassId) (q_t : Nat) (t_knots : Int32) (q_t_weight : Nat) (q_t_edge : Nat) (t_rowed : Int32) (q_t_row : Nat) (t_bags : Int32) (q_t_least : Nat) (t_q : Int32) (q_t_factor : Nat) (q_t_pairFactor : Nat) (q_t_forbidden : Nat) (q_t_mayNot : Nat) (q_t_fixed : Nat) (q_t_state : Nat) (q_t_count : Nat) (q_t_best : Nat) (q_t_bests : Nat) (t_allCount : Int64) (t_allBest : Int64) (t_allBests : Int64) (q_t_beside : Nat) (t_beside : Nat → Int32) (q_t_bag : Nat) (t_bag : Nat → Int32) (q_t_up : Nat) (t_up : Nat → Int32)  (a1 : Int32) (r : Int32) (hf : f_X9_count a1 t_knots t_rowed t_bags t_q t_beside t_bag t_up = some r) : MT l cA yX9_count cX9_count 4 (some .int) ({ frames := 3, cells := 0, slots := 0, locals := 66 } : Room) [.ref q_t, .int a1] [oB q_t 9 [.int t_knots, .ref q_t_weight, .ref q_t_beside, .ref q_t_edge, .int t_rowed, .ref q_t_row, .int t_bags, .ref q_t_bag, .ref q_t_up, .ref q_t_least, .int t_q, .ref q_t_factor, .ref q_t_pairFactor, .ref q_t_forbidden, .ref q_t_mayNot, .ref q_t_fixed, .ref q_t_state, .ref q_t_count, .ref q_t_best, .ref q_t_bests, .long t_allCount, .long t_allBest, .long t_allBests], aI cA q_t_beside 14 t_beside, aI cA q_t_bag 14 t_bag, aI cA q_t_up 14 t_up] (sB (some (.int r)) [oB q_t 9 [.int t_knots, .ref q_t_weight, .ref q_t_beside, .ref q_t_edge, .int t_rowed, .ref q_t_row, .int t_bags, .ref q_t_bag, .ref q_t_up, .ref q_t_least, .int t_q, .ref q_t_factor, .ref q_t_pairFactor, .ref q_t_forbidden, .ref q_t_mayNot, .ref q_t_fixed, .ref q_t_state, .ref q_t_count, .ref q_t_best, .ref q_t_bests, .long t_allCount, .long t_allBest, .long t_allBests], aI cA q_t_beside 14 t_beside, aI cA q_t_bag 14 t_bag, aI cA q_t_up 14 t_up]) := by
  refine MT.of (by decide) (Nat.le_of_ble_eq_true rfl) ?_
  intro X hXl C F hnm hrc hrs
  subst hXl
  have hk : 0 ≤ (x_R X).cells ∧ 0 ≤ (x_R X).slots := ⟨Nat.zero_le _, Nat.zero_le _⟩
  have hB : (sB (some (.int r)) [oB q_t 9 [.int t_knots, .ref q_t_weight, .ref q_t_beside, .ref q_t_edge, .int t_rowed, .ref q_t_row, .int t_bags, .ref q_t_bag, .ref q_t_up, .ref q_t_least, .int t_q, .ref q_t_factor, .ref q_t_pairFactor, .ref q_t_forbidden, .ref q_t_mayNot, .ref q_t_fixed, .ref q_t_state, .ref q_t_count, .ref q_t_best, .ref q_t_bests, .long t_allCount, .long t_allBest, .long t_allBests], aI cA q_t_beside 14 t_beside, aI cA q_t_bag 14 t_bag, aI cA q_t_up 14 t_up]) (some (.int r)) [oB q_t 9 [.int t_knots, .ref q_t_weight, .ref q_t_beside, .ref q_t_edge, .int t_rowed, .ref q_t_row, .int t_bags, .ref q_t_bag, .ref q_t_up, .ref q_t_least, .int t_q, .ref q_t_factor, .ref q_t_pairFactor, .ref q_t_forbidden, .ref q_t_mayNot, .ref q_t_fixed, .ref q_t_state, .ref q_t_count, .ref q_t_best, .ref q_t_bests, .long t_allCount, .long t_allBest, .long t_allBests], aI cA q_t_beside 14 t_beside, aI cA q_t_bag 14 t_bag, aI cA q_t_up 14 t_up] := ⟨rfl, rfl⟩
  unfold f_X9_count at hf
  have C : Cx X cX9_count RX9 (some .int) cA 3 66 4 := C
  show Go X 4 0 0 0 [oB q_t 9 [.int t_knots, .ref q_t_weight, .ref q_t_beside, .ref q_t_edge, .int t_rowed, .ref q_t_row, .int t_bags, .ref q_t_bag, .ref q_t_up, .ref q_t_least, .int t_q, .ref q_t_factor, .ref q_t_pairFactor, .ref q_t_forbidden, .ref q_t_mayNot, .ref q_t_fixed, .ref q_t_state, .ref q_t_count, .ref q_t_best, .ref q_t_bests, .long t_allCount, .long t_allBest, .long t_allBests], aI cA q_t_beside 14 t_beside, aI cA q_t_bag 14 t_bag, aI cA q_t_up 14 t_up] [(0, .ref q_t), (1, .int a1)] []
  refine g_iconst C 0 (0 : Int32) dX9_count_0 (by decide) ?_
  refine g_istore_n C 1 (fun z => [(2, .int z), (0, .ref q_t), (1, .int a1)]) dX9_count_1 rfl (by decide) (fun _ => rfl) hf (fun x2_1 hf => ?_)
  refine g_iload_n C 2 2 dX9_count_2 rfl rfl ?_
  rcases ite_or hf with ⟨hx2, hf⟩ | ⟨hx2, hf⟩
  · refine g_tsw C 3 40 dX9_count_3 hx2 (by decide) (by decide) rfl (by decide) ?_
    refine g_aload_n C 40 1 dX9_count_40 rfl rfl ?_
    refine g_get C 41 0 0 dX9_count_41 inX9 rfl rfl (by decide) kw_339 rfl ?_
    cases hf
    exact g_iret C 44 dX9_count_44 F hB
  · skip
    rcases ite_or hf with ⟨hx3, hf⟩ | ⟨hx3, hf⟩
    · refine g_tsw C 3 45 dX9_count_3 hx3 (by decide) (by decide) rfl (by decide) ?_
      refine g_iconst C 45 (0 : Int32) dX9_count_45 (by decide) ?_
      refine g_istore_n C 46 (fun z => [(3, .int z), (2, .int x2_1), (0, .ref q_t), (1, .int a1)]) dX9_count_46 rfl (by decide) (fun _ => rfl) hf (fun x3_4 hf => ?_)
      refine g_lv [2, 1, 0] rfl ?_
      exact w_X9_count_47 cA q_t q_t_weight q_t_edge q_t_row q_t_least q_t_factor q_t_pairFactor q_t_forbidden q_t_mayNot q_t_fixed q_t_state q_t_count q_t_best q_t_bests t_allCount t_allBest t_allBests q_t_beside q_t_bag q_t_up a1 t_knots t_rowed t_bags t_q t_beside t_bag t_up C hk F r hB NN x2_1 x3_4 hf
    · skip
      rcases ite_or hf with ⟨hx9, hf⟩ | ⟨hx9, hf⟩
      · refine g_tsw C 3 78 dX9_count_3 hx9 (by decide) (by decide) rfl (by decide) ?_
        refine g_aload_n C 78 1 dX9_count_78 rfl rfl ?_
        refine g_get C 79 0 4 dX9_count_79 inX9 rfl rfl (by decide) kw_347 rfl ?_
        cases hf
        exact g_iret C 82 dX9_count_82 F hB
      · skip
        rcases ite_or hf with ⟨hx10, hf⟩ | ⟨hx10, hf⟩
        · refine g_tsw C 3 83 dX9_count_3 hx10 (by decide) (by decide) rfl (by decide) ?_
          refine g_aload_n C 83 1 dX9_count_83 rfl rfl ?_
          refine g_get C 84 0 6 dX9_count_84 inX9 rfl rfl (by decide) kw_348 rfl ?_
          cases hf
          exact g_iret C 87 dX9_count_87 F hB
        · skip
          rcases ite_or hf with ⟨hx11, hf⟩ | ⟨hx11, hf⟩
          · refine g_tsw C 3 88 dX9_count_3 hx11 (by decide) (by decide) rfl (by decide) ?_
            refine g_aload_n C 88 1 dX9_count_88 rfl rfl ?_
            refine g_get C 89 0 10 dX9_count_89 inX9 rfl rfl (by decide) kw_398 rfl ?_
            cases hf
            exact g_iret C 92 dX9_count_92 F hB
          · skip
            rcases ite_or hf with ⟨hx12, hf⟩ | ⟨hx12, hf⟩
            · refine g_tsw C 3 93 dX9_count_3 hx12 (by decide) (by decide) rfl (by decide) ?_
              refine g_aload_n C 93 1 dX9_count_93 rfl rfl ?_
              refine g_get C 94 0 6 dX9_count_94 inX9 rfl rfl (by decide) kw_348 rfl ?_
              refine g_if_le C 97 111 dX9_count_97 (by decide) hf (fun hf => ?_) (fun hf => ?_)
              · refine g_iconst C 111 (0 : Int32) dX9_count_111 (by decide) ?_
                cases hf
                exact g_iret C 112 dX9_count_112 F hB
              · refine g_aload_n C 100 1 dX9_count_100 rfl rfl ?_
                obtain ⟨u13, hu13, hf⟩ := cal_some hf
                refine g_callV1 C 101 [0, 1, 2, 3] 0 (rest := []) dX9_count_101 (c_X9_sound (x_l X) cA q_t t_knots q_t_weight q_t_edge t_rowed q_t_row t_bags q_t_least t_q q_t_factor q_t_pairFactor q_t_forbidden q_t_mayNot q_t_fixed q_t_state q_t_count q_t_best q_t_bests t_allCount t_allBest t_allBests q_t_beside t_beside q_t_bag t_bag q_t_up t_up u13 hu13) kw_394 kw_395 kw_396 kw_343 kw_397 ok_X9_sound ⟨Nat.le_of_ble_eq_true rfl, Nat.le_of_ble_eq_true rfl⟩ hk ⟨rfl, rfl⟩ rfl rfl rfl rfl rfl (Nat.le_of_ble_eq_true rfl) rfl (ws' := [oB q_t 9 [.int t_knots, .ref q_t_weight, .ref q_t_beside, .ref q_t_edge, .int t_rowed, .ref q_t_row, .int t_bags, .ref q_t_bag, .ref q_t_up, .ref q_t_least, .int t_q, .ref q_t_factor, .ref q_t_pairFactor, .ref q_t_forbidden, .ref q_t_mayNot, .ref q_t_fixed, .ref q_t_state, .ref q_t_count, .ref q_t_best, .ref q_t_bests, .long t_allCount, .long t_allBest, .long t_allBests], aI cA q_t_beside 14 t_beside, aI cA q_t_bag 14 t_bag, aI cA q_t_up 14 t_up]) (st' := [.int u13]) (N0 := 4) rfl [some 0, some 1, some 2, some 3] (by decide) rfl rfl ?_
                refine g_if_ne C 104 111 dX9_count_104 (by decide) hf (fun hf => ?_) (fun hf => ?_)
                · refine g_iconst C 111 (0 : Int32) dX9_count_111 (by decide) ?_
                  cases hf
                  exact g_iret C 112 dX9_count_112 F hB
                · refine g_iconst C 107 (1 : Int32) dX9_count_107 (by decide) ?_
                  refine g_goto C 108 112 dX9_count_108 (by decide) ?_
                  cases hf
                  exact g_iret C 112 dX9_count_112 F hB
            · refine g_tswO C 3 113 dX9_count_3 (tsw_out6 hx2 hx3 hx9 hx10 hx11 hx12) (by decide) ?_
              refine g_iconst C 113 (-1 : Int32) dX9_count_113 (by decide) ?_
              cases hf
              exact g_iret C 114 dX9_count_114 F hB
