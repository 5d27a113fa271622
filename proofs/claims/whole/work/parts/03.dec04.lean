theorem dX7_kindsOf_132 : decode cX7_kindsOf 132 = .ok (.iload_n 2, 1) := by decide +kernel
theorem dX7_kindsOf_133 : decode cX7_kindsOf 133 = .ok (.iload 4, 2) := by decide +kernel
theorem dX7_kindsOf_135 : decode cX7_kindsOf 135 = .ok (.ifCond .eq 9, 3) := by decide +kernel
theorem dX7_kindsOf_138 : decode cX7_kindsOf 138 = .ok (.iconst 1, 1) := by decide +kernel
theorem dX7_kindsOf_139 : decode cX7_kindsOf 139 = .ok (.iload_n 3, 1) := by decide +kernel
theorem dX7_kindsOf_140 : decode cX7_kindsOf 140 = .ok (.ishl, 1) := by decide +kernel
theorem dX7_kindsOf_141 : decode cX7_kindsOf 141 = .ok (.goto 4, 3) := by decide +kernel
theorem dX7_kindsOf_144 : decode cX7_kindsOf 144 = .ok (.iconst 0, 1) := by decide +kernel
theorem dX7_kindsOf_145 : decode cX7_kindsOf 145 = .ok (.ior, 1) := by decide +kernel
theorem dX7_kindsOf_146 : decode cX7_kindsOf 146 = .ok (.istore_n 2, 1) := by decide +kernel
theorem dX7_kindsOf_147 : decode cX7_kindsOf 147 = .ok (.iinc 3 1, 3) := by decide +kernel
theorem dX7_kindsOf_150 : decode cX7_kindsOf 150 = .ok (.goto (-146), 3) := by decide +kernel
theorem dX7_kindsOf_153 : decode cX7_kindsOf 153 = .ok (.iload_n 2, 1) := by decide +kernel
theorem dX7_kindsOf_154 : decode cX7_kindsOf 154 = .ok (.ireturn, 1) := by decide +kernel
theorem dX7_is_0 : decode cX7_is 0 = .ok (.aload_n 0, 1) := by decide +kernel
theorem dX7_is_1 : decode cX7_is 1 = .ok (.iload_n 1, 1) := by decide +kernel
theorem dX7_is_2 : decode cX7_is 2 = .ok (.invokevirtual 146, 3) := by decide +kernel
theorem dX7_is_5 : decode cX7_is 5 = .ok (.ifCond .eq 11, 3) := by decide +kernel
theorem dX7_is_8 : decode cX7_is 8 = .ok (.aload_n 0, 1) := by decide +kernel
theorem dX7_is_9 : decode cX7_is 9 = .ok (.iload_n 1, 1) := by decide +kernel
theorem dX7_is_10 : decode cX7_is 10 = .ok (.invokevirtual 177, 3) := by decide +kernel
theorem dX7_is_13 : decode cX7_is 13 = .ok (.goto 9, 3) := by decide +kernel
theorem dX7_is_16 : decode cX7_is 16 = .ok (.aload_n 0, 1) := by decide +kernel
theorem dX7_is_17 : decode cX7_is 17 = .ok (.bipush (-2), 2) := by decide +kernel
theorem dX7_is_19 : decode cX7_is 19 = .ok (.invokevirtual 79, 3) := by decide +kernel
theorem dX7_is_22 : decode cX7_is 22 = .ok (.ireturn, 1) := by decide +kernel
theorem dX7_look_0 : decode cX7_look 0 = .ok (.aload_n 0, 1) := by decide +kernel
theorem dX7_look_1 : decode cX7_look 1 = .ok (.iload_n 1, 1) := by decide +kernel
theorem dX7_look_2 : decode cX7_look 2 = .ok (.invokevirtual 146, 3) := by decide +kernel
theorem dX7_look_5 : decode cX7_look 5 = .ok (.ifCond .ne 10, 3) := by decide +kernel
theorem dX7_look_8 : decode cX7_look 8 = .ok (.aload_n 0, 1) := by decide +kernel
theorem dX7_look_9 : decode cX7_look 9 = .ok (.bipush (-2), 2) := by decide +kernel
theorem dX7_look_11 : decode cX7_look 11 = .ok (.invokevirtual 79, 3) := by decide +kernel
theorem dX7_look_14 : decode cX7_look 14 = .ok (.ireturn, 1) := by decide +kernel
theorem dX7_look_15 : decode cX7_look 15 = .ok (.aload_n 0, 1) := by decide +kernel
theorem dX7_look_16 : decode cX7_look 16 = .ok (.iload_n 1, 1) := by decide +kernel
theorem dX7_look_17 : decode cX7_look 17 = .ok (.invokevirtual 177, 3) := by decide +kernel
theorem dX7_look_20 : decode cX7_look 20 = .ok (.istore_n 2, 1) := by decide +kernel
theorem dX7_look_21 : decode cX7_look 21 = .ok (.iconst (-1), 1) := by decide +kernel
theorem dX7_look_22 : decode cX7_look 22 = .ok (.istore_n 3, 1) := by decide +kernel
theorem dX7_look_23 : decode cX7_look 23 = .ok (.ldc 164, 2) := by decide +kernel
theorem dX7_look_25 : decode cX7_look 25 = .ok (.istore 4, 2) := by decide +kernel
theorem dX7_look_27 : decode cX7_look 27 = .ok (.aload_n 0, 1) := by decide +kernel
theorem dX7_look_28 : decode cX7_look 28 = .ok (.invokevirtual 135, 3) := by decide +kernel
theorem dX7_look_31 : decode cX7_look 31 = .ok (.aload_n 0, 1) := by decide +kernel
theorem dX7_look_32 : decode cX7_look 32 = .ok (.iload_n 1, 1) := by decide +kernel
theorem dX7_look_33 : decode cX7_look 33 = .ok (.aload_n 0, 1) := by decide +kernel
theorem dX7_look_34 : decode cX7_look 34 = .ok (.getfield 27, 3) := by decide +kernel
theorem dX7_look_37 : decode cX7_look 37 = .ok (.bipush 25, 2) := by decide +kernel
theorem dX7_look_39 : decode cX7_look 39 = .ok (.iaload, 1) := by decide +kernel
theorem dX7_look_40 : decode cX7_look 40 = .ok (.invokevirtual 113, 3) := by decide +kernel
theorem dX7_look_43 : decode cX7_look 43 = .ok (.istore 5, 2) := by decide +kernel
theorem dX7_look_45 : decode cX7_look 45 = .ok (.aload_n 0, 1) := by decide +kernel
theorem dX7_look_46 : decode cX7_look 46 = .ok (.iload_n 1, 1) := by decide +kernel
theorem dX7_look_47 : decode cX7_look 47 = .ok (.aload_n 0, 1) := by decide +kernel
theorem dX7_look_48 : decode cX7_look 48 = .ok (.getfield 27, 3) := by decide +kernel
theorem dX7_look_51 : decode cX7_look 51 = .ok (.bipush 20, 2) := by decide +kernel
theorem dX7_look_53 : decode cX7_look 53 = .ok (.iload_n 1, 1) := by decide +kernel
theorem dX7_look_54 : decode cX7_look 54 = .ok (.iadd, 1) := by decide +kernel
theorem dX7_look_55 : decode cX7_look 55 = .ok (.iaload, 1) := by decide +kernel
theorem dX7_look_56 : decode cX7_look 56 = .ok (.invokevirtual 113, 3) := by decide +kernel
theorem dX7_look_59 : decode cX7_look 59 = .ok (.istore 6, 2) := by decide +kernel
theorem dX7_look_61 : decode cX7_look 61 = .ok (.iconst 0, 1) := by decide +kernel
theorem dX7_look_62 : decode cX7_look 62 = .ok (.istore 7, 2) := by decide +kernel
theorem dX7_look_64 : decode cX7_look 64 = .ok (.iload 7, 2) := by decide +kernel
theorem dX7_look_66 : decode cX7_look 66 = .ok (.bipush 53, 2) := by decide +kernel
theorem dX7_look_68 : decode cX7_look 68 = .ok (.if_icmp .ge 181, 3) := by decide +kernel
theorem dX7_look_71 : decode cX7_look 71 = .ok (.iload_n 2, 1) := by decide +kernel
theorem dX7_look_72 : decode cX7_look 72 = .ok (.ifCond .le 177, 3) := by decide +kernel
theorem dX7_look_75 : decode cX7_look 75 = .ok (.iload 7, 2) := by decide +kernel
theorem dX7_look_77 : decode cX7_look 77 = .ok (.bipush 10, 2) := by decide +kernel
theorem dX7_look_79 : decode cX7_look 79 = .ok (.irem, 1) := by decide +kernel
theorem dX7_look_80 : decode cX7_look 80 = .ok (.iconst 3, 1) := by decide +kernel
theorem dX7_look_81 : decode cX7_look 81 = .ok (.if_icmp .ge 7, 3) := by decide +kernel
theorem dX7_look_84 : decode cX7_look 84 = .ok (.iconst 0, 1) := by decide +kernel
theorem dX7_look_85 : decode cX7_look 85 = .ok (.goto 5, 3) := by decide +kernel
theorem dX7_look_88 : decode cX7_look 88 = .ok (.ldc 164, 2) := by decide +kernel
theorem dX7_look_90 : decode cX7_look 90 = .ok (.istore 8, 2) := by decide +kernel
theorem dX7_look_92 : decode cX7_look 92 = .ok (.iconst 0, 1) := by decide +kernel
theorem dX7_look_93 : decode cX7_look 93 = .ok (.istore 9, 2) := by decide +kernel
theorem dX7_look_95 : decode cX7_look 95 = .ok (.iload 9, 2) := by decide +kernel
theorem dX7_look_97 : decode cX7_look 97 = .ok (.iconst 4, 1) := by decide +kernel
theorem dX7_look_98 : decode cX7_look 98 = .ok (.if_icmp .ge 17, 3) := by decide +kernel
theorem dX7_look_101 : decode cX7_look 101 = .ok (.aload_n 0, 1) := by decide +kernel
theorem dX7_look_102 : decode cX7_look 102 = .ok (.getfield 36, 3) := by decide +kernel
theorem dX7_look_105 : decode cX7_look 105 = .ok (.iload 9, 2) := by decide +kernel
theorem dX7_look_107 : decode cX7_look 107 = .ok (.iconst 0, 1) := by decide +kernel
theorem dX7_look_108 : decode cX7_look 108 = .ok (.iastore, 1) := by decide +kernel
theorem dX7_look_109 : decode cX7_look 109 = .ok (.iinc 9 1, 3) := by decide +kernel
theorem dX7_look_112 : decode cX7_look 112 = .ok (.goto (-17), 3) := by decide +kernel
theorem dX7_look_115 : decode cX7_look 115 = .ok (.iconst 0, 1) := by decide +kernel
theorem dX7_look_116 : decode cX7_look 116 = .ok (.istore 9, 2) := by decide +kernel
theorem dX7_look_118 : decode cX7_look 118 = .ok (.iload 9, 2) := by decide +kernel
theorem dX7_look_120 : decode cX7_look 120 = .ok (.bipush 6, 2) := by decide +kernel
theorem dX7_look_122 : decode cX7_look 122 = .ok (.if_icmp .ge 91, 3) := by decide +kernel
theorem dX7_look_125 : decode cX7_look 125 = .ok (.iload 8, 2) := by decide +kernel
theorem dX7_look_127 : decode cX7_look 127 = .ok (.ldc 164, 2) := by decide +kernel
theorem dX7_look_129 : decode cX7_look 129 = .ok (.if_icmp .ge 84, 3) := by decide +kernel
theorem dX7_look_132 : decode cX7_look 132 = .ok (.iload_n 2, 1) := by decide +kernel
theorem dX7_look_133 : decode cX7_look 133 = .ok (.iload 9, 2) := by decide +kernel
theorem dX7_look_135 : decode cX7_look 135 = .ok (.invokestatic 151, 3) := by decide +kernel
theorem dX7_look_138 : decode cX7_look 138 = .ok (.ifCond .eq 69, 3) := by decide +kernel
theorem dX7_look_141 : decode cX7_look 141 = .ok (.iload 9, 2) := by decide +kernel
theorem dX7_look_143 : decode cX7_look 143 = .ok (.iload 7, 2) := by decide +kernel
theorem dX7_look_145 : decode cX7_look 145 = .ok (.bipush 10, 2) := by decide +kernel
theorem dX7_look_147 : decode cX7_look 147 = .ok (.idiv, 1) := by decide +kernel
theorem dX7_look_148 : decode cX7_look 148 = .ok (.aload_n 0, 1) := by decide +kernel
theorem dX7_look_149 : decode cX7_look 149 = .ok (.getfield 27, 3) := by decide +kernel
theorem dX7_look_152 : decode cX7_look 152 = .ok (.iconst 5, 1) := by decide +kernel
theorem dX7_look_153 : decode cX7_look 153 = .ok (.iload_n 1, 1) := by decide +kernel
theorem dX7_look_154 : decode cX7_look 154 = .ok (.iadd, 1) := by decide +kernel
theorem dX7_look_155 : decode cX7_look 155 = .ok (.iaload, 1) := by decide +kernel
theorem dX7_look_156 : decode cX7_look 156 = .ok (.iload 7, 2) := by decide +kernel
theorem dX7_look_158 : decode cX7_look 158 = .ok (.bipush 10, 2) := by decide +kernel
theorem dX7_look_160 : decode cX7_look 160 = .ok (.irem, 1) := by decide +kernel
theorem dX7_look_161 : decode cX7_look 161 = .ok (.iload 5, 2) := by decide +kernel
theorem dX7_look_163 : decode cX7_look 163 = .ok (.iload 6, 2) := by decide +kernel
theorem dX7_look_165 : decode cX7_look 165 = .ok (.invokestatic 116, 3) := by decide +kernel
theorem dX7_look_168 : decode cX7_look 168 = .ok (.istore 10, 2) := by decide +kernel
theorem dX7_look_170 : decode cX7_look 170 = .ok (.aload_n 0, 1) := by decide +kernel
theorem dX7_look_171 : decode cX7_look 171 = .ok (.getfield 36, 3) := by decide +kernel
theorem dX7_look_174 : decode cX7_look 174 = .ok (.iload 10, 2) := by decide +kernel
theorem dX7_look_176 : decode cX7_look 176 = .ok (.dup2, 1) := by decide +kernel
theorem dX7_look_177 : decode cX7_look 177 = .ok (.iaload, 1) := by decide +kernel
theorem dX7_look_178 : decode cX7_look 178 = .ok (.iconst 1, 1) := by decide +kernel
theorem dX7_look_179 : decode cX7_look 179 = .ok (.iadd, 1) := by decide +kernel
theorem dX7_look_180 : decode cX7_look 180 = .ok (.iastore, 1) := by decide +kernel
theorem dX7_look_181 : decode cX7_look 181 = .ok (.aload_n 0, 1) := by decide +kernel
theorem dX7_look_182 : decode cX7_look 182 = .ok (.getfield 36, 3) := by decide +kernel
theorem dX7_look_185 : decode cX7_look 185 = .ok (.iload 10, 2) := by decide +kernel
theorem dX7_look_187 : decode cX7_look 187 = .ok (.iaload, 1) := by decide +kernel
theorem dX7_look_188 : decode cX7_look 188 = .ok (.iload 8, 2) := by decide +kernel
theorem dX7_look_190 : decode cX7_look 190 = .ok (.if_icmp .le 13, 3) := by decide +kernel
theorem dX7_look_193 : decode cX7_look 193 = .ok (.aload_n 0, 1) := by decide +kernel
theorem dX7_look_194 : decode cX7_look 194 = .ok (.getfield 36, 3) := by decide +kernel
theorem dX7_look_197 : decode cX7_look 197 = .ok (.iload 10, 2) := by decide +kernel
theorem dX7_look_199 : decode cX7_look 199 = .ok (.iaload, 1) := by decide +kernel
theorem dX7_look_200 : decode cX7_look 200 = .ok (.goto 5, 3) := by decide +kernel
theorem dX7_look_203 : decode cX7_look 203 = .ok (.iload 8, 2) := by decide +kernel
theorem dX7_look_205 : decode cX7_look 205 = .ok (.istore 8, 2) := by decide +kernel
theorem dX7_look_207 : decode cX7_look 207 = .ok (.iinc 9 1, 3) := by decide +kernel
theorem dX7_look_210 : decode cX7_look 210 = .ok (.goto (-92), 3) := by decide +kernel
theorem dX7_look_213 : decode cX7_look 213 = .ok (.iload 8, 2) := by decide +kernel
theorem dX7_look_215 : decode cX7_look 215 = .ok (.iload 4, 2) := by decide +kernel
theorem dX7_look_217 : decode cX7_look 217 = .ok (.if_icmp .ge 8, 3) := by decide +kernel
theorem dX7_look_220 : decode cX7_look 220 = .ok (.iload 7, 2) := by decide +kernel
theorem dX7_look_222 : decode cX7_look 222 = .ok (.goto 4, 3) := by decide +kernel
theorem dX7_look_225 : decode cX7_look 225 = .ok (.iload_n 3, 1) := by decide +kernel
theorem dX7_look_226 : decode cX7_look 226 = .ok (.istore_n 3, 1) := by decide +kernel
theorem dX7_look_227 : decode cX7_look 227 = .ok (.iload 8, 2) := by decide +kernel
theorem dX7_look_229 : decode cX7_look 229 = .ok (.iload 4, 2) := by decide +kernel
theorem dX7_look_231 : decode cX7_look 231 = .ok (.if_icmp .ge 8, 3) := by decide +kernel
theorem dX7_look_234 : decode cX7_look 234 = .ok (.iload 8, 2) := by decide +kernel
theorem dX7_look_236 : decode cX7_look 236 = .ok (.goto 5, 3) := by decide +kernel
theorem dX7_look_239 : decode cX7_look 239 = .ok (.iload 4, 2) := by decide +kernel
theorem dX7_look_241 : decode cX7_look 241 = .ok (.istore 4, 2) := by decide +kernel
theorem dX7_look_243 : decode cX7_look 243 = .ok (.iinc 7 1, 3) := by decide +kernel
theorem dX7_look_246 : decode cX7_look 246 = .ok (.goto (-182), 3) := by decide +kernel
theorem dX7_look_249 : decode cX7_look 249 = .ok (.iload_n 3, 1) := by decide +kernel
theorem dX7_look_250 : decode cX7_look 250 = .ok (.ireturn, 1) := by decide +kernel
theorem dX7_gain_0 : decode cX7_gain 0 = .ok (.aload_n 0, 1) := by decide +kernel
theorem dX7_gain_1 : decode cX7_gain 1 = .ok (.getfield 27, 3) := by decide +kernel
theorem dX7_gain_4 : decode cX7_gain 4 = .ok (.bipush 15, 2) := by decide +kernel
theorem dX7_gain_6 : decode cX7_gain 6 = .ok (.iload_n 1, 1) := by decide +kernel
theorem dX7_gain_7 : decode cX7_gain 7 = .ok (.iadd, 1) := by decide +kernel
theorem dX7_gain_8 : decode cX7_gain 8 = .ok (.iaload, 1) := by decide +kernel
theorem dX7_gain_9 : decode cX7_gain 9 = .ok (.aload_n 0, 1) := by decide +kernel
theorem dX7_gain_10 : decode cX7_gain 10 = .ok (.bipush 15, 2) := by decide +kernel
theorem dX7_gain_12 : decode cX7_gain 12 = .ok (.iload_n 1, 1) := by decide +kernel
theorem dX7_gain_13 : decode cX7_gain 13 = .ok (.invokevirtual 143, 3) := by decide +kernel
theorem dX7_gain_16 : decode cX7_gain 16 = .ok (.isub, 1) := by decide +kernel
theorem dX7_gain_17 : decode cX7_gain 17 = .ok (.aload_n 0, 1) := by decide +kernel
theorem dX7_gain_18 : decode cX7_gain 18 = .ok (.getfield 27, 3) := by decide +kernel
theorem dX7_gain_21 : decode cX7_gain 21 = .ok (.bipush 10, 2) := by decide +kernel
theorem dX7_gain_23 : decode cX7_gain 23 = .ok (.iload_n 1, 1) := by decide +kernel
theorem dX7_gain_24 : decode cX7_gain 24 = .ok (.iadd, 1) := by decide +kernel
theorem dX7_gain_25 : decode cX7_gain 25 = .ok (.iaload, 1) := by decide +kernel
theorem dX7_gain_26 : decode cX7_gain 26 = .ok (.isub, 1) := by decide +kernel
theorem dX7_gain_27 : decode cX7_gain 27 = .ok (.aload_n 0, 1) := by decide +kernel
theorem dX7_gain_28 : decode cX7_gain 28 = .ok (.bipush 10, 2) := by decide +kernel
theorem dX7_gain_30 : decode cX7_gain 30 = .ok (.iload_n 1, 1) := by decide +kernel
theorem dX7_gain_31 : decode cX7_gain 31 = .ok (.invokevirtual 143, 3) := by decide +kernel
theorem dX7_gain_34 : decode cX7_gain 34 = .ok (.iadd, 1) := by decide +kernel
theorem dX7_gain_35 : decode cX7_gain 35 = .ok (.ireturn, 1) := by decide +kernel
theorem dX7_rests_0 : decode cX7_rests 0 = .ok (.iconst 1, 1) := by decide +kernel
theorem dX7_rests_1 : decode cX7_rests 1 = .ok (.istore_n 2, 1) := by decide +kernel
theorem dX7_rests_2 : decode cX7_rests 2 = .ok (.iconst 0, 1) := by decide +kernel
theorem dX7_rests_3 : decode cX7_rests 3 = .ok (.istore_n 3, 1) := by decide +kernel
theorem dX7_rests_4 : decode cX7_rests 4 = .ok (.iload_n 3, 1) := by decide +kernel
theorem dX7_rests_5 : decode cX7_rests 5 = .ok (.iconst 4, 1) := by decide +kernel
theorem dX7_rests_6 : decode cX7_rests 6 = .ok (.if_icmp .ge 61, 3) := by decide +kernel
theorem dX7_rests_9 : decode cX7_rests 9 = .ok (.iload_n 2, 1) := by decide +kernel
theorem dX7_rests_10 : decode cX7_rests 10 = .ok (.ifCond .eq 49, 3) := by decide +kernel
theorem dX7_rests_13 : decode cX7_rests 13 = .ok (.aload_n 0, 1) := by decide +kernel
theorem dX7_rests_14 : decode cX7_rests 14 = .ok (.getfield 39, 3) := by decide +kernel
theorem dX7_rests_17 : decode cX7_rests 17 = .ok (.iconst 4, 1) := by decide +kernel
theorem dX7_rests_18 : decode cX7_rests 18 = .ok (.iload_n 3, 1) := by decide +kernel
theorem dX7_rests_19 : decode cX7_rests 19 = .ok (.imul, 1) := by decide +kernel
theorem dX7_rests_20 : decode cX7_rests 20 = .ok (.iload_n 1, 1) := by decide +kernel
theorem dX7_rests_21 : decode cX7_rests 21 = .ok (.iconst 4, 1) := by decide +kernel
theorem dX7_rests_22 : decode cX7_rests 22 = .ok (.irem, 1) := by decide +kernel
theorem dX7_rests_23 : decode cX7_rests 23 = .ok (.iadd, 1) := by decide +kernel
theorem dX7_rests_24 : decode cX7_rests 24 = .ok (.iaload, 1) := by decide +kernel
theorem dX7_rests_25 : decode cX7_rests 25 = .ok (.aload_n 0, 1) := by decide +kernel
theorem dX7_rests_26 : decode cX7_rests 26 = .ok (.getfield 39, 3) := by decide +kernel
theorem dX7_rests_29 : decode cX7_rests 29 = .ok (.iload_n 1, 1) := by decide +kernel
theorem dX7_rests_30 : decode cX7_rests 30 = .ok (.iaload, 1) := by decide +kernel
theorem dX7_rests_31 : decode cX7_rests 31 = .ok (.if_icmp .gt 28, 3) := by decide +kernel
theorem dX7_rests_34 : decode cX7_rests 34 = .ok (.aload_n 0, 1) := by decide +kernel
theorem dX7_rests_35 : decode cX7_rests 35 = .ok (.getfield 42, 3) := by decide +kernel
theorem dX7_rests_38 : decode cX7_rests 38 = .ok (.iload_n 1, 1) := by decide +kernel
theorem dX7_rests_39 : decode cX7_rests 39 = .ok (.iconst 4, 1) := by decide +kernel
theorem dX7_rests_40 : decode cX7_rests 40 = .ok (.idiv, 1) := by decide +kernel
theorem dX7_rests_41 : decode cX7_rests 41 = .ok (.iconst 4, 1) := by decide +kernel
theorem dX7_rests_42 : decode cX7_rests 42 = .ok (.imul, 1) := by decide +kernel
theorem dX7_rests_43 : decode cX7_rests 43 = .ok (.iload_n 3, 1) := by decide +kernel
theorem dX7_rests_44 : decode cX7_rests 44 = .ok (.iadd, 1) := by decide +kernel
theorem dX7_rests_45 : decode cX7_rests 45 = .ok (.iaload, 1) := by decide +kernel
theorem dX7_rests_46 : decode cX7_rests 46 = .ok (.aload_n 0, 1) := by decide +kernel
theorem dX7_rests_47 : decode cX7_rests 47 = .ok (.getfield 42, 3) := by decide +kernel
theorem dX7_rests_50 : decode cX7_rests 50 = .ok (.iload_n 1, 1) := by decide +kernel
theorem dX7_rests_51 : decode cX7_rests 51 = .ok (.iaload, 1) := by decide +kernel
theorem dX7_rests_52 : decode cX7_rests 52 = .ok (.if_icmp .gt 7, 3) := by decide +kernel
theorem dX7_rests_55 : decode cX7_rests 55 = .ok (.iconst 1, 1) := by decide +kernel
theorem dX7_rests_56 : decode cX7_rests 56 = .ok (.goto 4, 3) := by decide +kernel
theorem dX7_rests_59 : decode cX7_rests 59 = .ok (.iconst 0, 1) := by decide +kernel
theorem dX7_rests_60 : decode cX7_rests 60 = .ok (.istore_n 2, 1) := by decide +kernel
theorem dX7_rests_61 : decode cX7_rests 61 = .ok (.iinc 3 1, 3) := by decide +kernel
theorem dX7_rests_64 : decode cX7_rests 64 = .ok (.goto (-60), 3) := by decide +kernel
theorem dX7_rests_67 : decode cX7_rests 67 = .ok (.iload_n 2, 1) := by decide +kernel
theorem dX7_rests_68 : decode cX7_rests 68 = .ok (.ireturn, 1) := by decide +kernel
theorem dX7_two_0 : decode cX7_two 0 = .ok (.aload_n 0, 1) := by decide +kernel
theorem dX7_two_1 : decode cX7_two 1 = .ok (.iload_n 1, 1) := by decide +kernel
theorem dX7_two_2 : decode cX7_two 2 = .ok (.invokevirtual 146, 3) := by decide +kernel
theorem dX7_two_5 : decode cX7_two 5 = .ok (.ifCond .eq 21, 3) := by decide +kernel
theorem dX7_two_8 : decode cX7_two 8 = .ok (.aload_n 0, 1) := by decide +kernel
theorem dX7_two_9 : decode cX7_two 9 = .ok (.iload_n 2, 1) := by decide +kernel
theorem dX7_two_10 : decode cX7_two 10 = .ok (.invokevirtual 146, 3) := by decide +kernel
theorem dX7_two_13 : decode cX7_two 13 = .ok (.ifCond .eq 13, 3) := by decide +kernel
theorem dX7_two_16 : decode cX7_two 16 = .ok (.iload_n 1, 1) := by decide +kernel
theorem dX7_two_17 : decode cX7_two 17 = .ok (.iload_n 2, 1) := by decide +kernel
theorem dX7_two_18 : decode cX7_two 18 = .ok (.if_icmp .eq 8, 3) := by decide +kernel
theorem dX7_two_21 : decode cX7_two 21 = .ok (.iload_n 3, 1) := by decide +kernel
theorem dX7_two_22 : decode cX7_two 22 = .ok (.iconst (-1), 1) := by decide +kernel
theorem dX7_two_23 : decode cX7_two 23 = .ok (.if_icmp .ge 10, 3) := by decide +kernel
theorem dX7_two_26 : decode cX7_two 26 = .ok (.aload_n 0, 1) := by decide +kernel
theorem dX7_two_27 : decode cX7_two 27 = .ok (.bipush (-10), 2) := by decide +kernel
theorem dX7_two_29 : decode cX7_two 29 = .ok (.invokevirtual 79, 3) := by decide +kernel
theorem dX7_two_32 : decode cX7_two 32 = .ok (.ireturn, 1) := by decide +kernel
theorem dX7_two_33 : decode cX7_two 33 = .ok (.iconst 0, 1) := by decide +kernel
theorem dX7_two_34 : decode cX7_two 34 = .ok (.istore 4, 2) := by decide +kernel
theorem dX7_two_36 : decode cX7_two 36 = .ok (.iload 4, 2) := by decide +kernel
theorem dX7_two_38 : decode cX7_two 38 = .ok (.bipush 16, 2) := by decide +kernel
theorem dX7_two_40 : decode cX7_two 40 = .ok (.if_icmp .ge 53, 3) := by decide +kernel
theorem dX7_two_43 : decode cX7_two 43 = .ok (.aload_n 0, 1) := by decide +kernel
theorem dX7_two_44 : decode cX7_two 44 = .ok (.invokevirtual 135, 3) := by decide +kernel
theorem dX7_two_47 : decode cX7_two 47 = .ok (.aload_n 0, 1) := by decide +kernel
theorem dX7_two_48 : decode cX7_two 48 = .ok (.iload_n 1, 1) := by decide +kernel
theorem dX7_two_49 : decode cX7_two 49 = .ok (.iload 4, 2) := by decide +kernel
theorem dX7_two_51 : decode cX7_two 51 = .ok (.iconst 4, 1) := by decide +kernel
theorem dX7_two_52 : decode cX7_two 52 = .ok (.idiv, 1) := by decide +kernel
theorem dX7_two_53 : decode cX7_two 53 = .ok (.iload_n 2, 1) := by decide +kernel
theorem dX7_two_54 : decode cX7_two 54 = .ok (.iload 4, 2) := by decide +kernel
theorem dX7_two_56 : decode cX7_two 56 = .ok (.iconst 4, 1) := by decide +kernel
theorem dX7_two_57 : decode cX7_two 57 = .ok (.irem, 1) := by decide +kernel
theorem dX7_two_58 : decode cX7_two 58 = .ok (.invokevirtual 126, 3) := by decide +kernel
theorem dX7_two_61 : decode cX7_two 61 = .ok (.istore 5, 2) := by decide +kernel
theorem dX7_two_63 : decode cX7_two 63 = .ok (.aload_n 0, 1) := by decide +kernel
theorem dX7_two_64 : decode cX7_two 64 = .ok (.getfield 39, 3) := by decide +kernel
theorem dX7_two_67 : decode cX7_two 67 = .ok (.iload 4, 2) := by decide +kernel
theorem dX7_two_69 : decode cX7_two 69 = .ok (.aload_n 0, 1) := by decide +kernel
theorem dX7_two_70 : decode cX7_two 70 = .ok (.iload_n 1, 1) := by decide +kernel
theorem dX7_two_71 : decode cX7_two 71 = .ok (.invokevirtual 180, 3) := by decide +kernel
theorem dX7_two_74 : decode cX7_two 74 = .ok (.iastore, 1) := by decide +kernel
theorem dX7_two_75 : decode cX7_two 75 = .ok (.aload_n 0, 1) := by decide +kernel
theorem dX7_two_76 : decode cX7_two 76 = .ok (.getfield 42, 3) := by decide +kernel
theorem dX7_two_79 : decode cX7_two 79 = .ok (.iload 4, 2) := by decide +kernel
theorem dX7_two_81 : decode cX7_two 81 = .ok (.aload_n 0, 1) := by decide +kernel
theorem dX7_two_82 : decode cX7_two 82 = .ok (.iload_n 2, 1) := by decide +kernel
theorem dX7_two_83 : decode cX7_two 83 = .ok (.invokevirtual 180, 3) := by decide +kernel
theorem dX7_two_86 : decode cX7_two 86 = .ok (.iastore, 1) := by decide +kernel
theorem dX7_two_87 : decode cX7_two 87 = .ok (.iinc 4 1, 3) := by decide +kernel
theorem dX7_two_90 : decode cX7_two 90 = .ok (.goto (-54), 3) := by decide +kernel
theorem dX7_two_93 : decode cX7_two 93 = .ok (.iconst 0, 1) := by decide +kernel
theorem dX7_two_94 : decode cX7_two 94 = .ok (.istore 4, 2) := by decide +kernel
theorem dX7_two_96 : decode cX7_two 96 = .ok (.bipush (-5), 2) := by decide +kernel
theorem dX7_two_98 : decode cX7_two 98 = .ok (.istore 5, 2) := by decide +kernel
theorem dX7_two_100 : decode cX7_two 100 = .ok (.iconst 0, 1) := by decide +kernel
theorem dX7_two_101 : decode cX7_two 101 = .ok (.istore 6, 2) := by decide +kernel
theorem dX7_two_103 : decode cX7_two 103 = .ok (.iload 6, 2) := by decide +kernel
theorem dX7_two_105 : decode cX7_two 105 = .ok (.bipush 16, 2) := by decide +kernel
theorem dX7_two_107 : decode cX7_two 107 = .ok (.if_icmp .ge 36, 3) := by decide +kernel
theorem dX7_two_110 : decode cX7_two 110 = .ok (.aload_n 0, 1) := by decide +kernel
theorem dX7_two_111 : decode cX7_two 111 = .ok (.iload 6, 2) := by decide +kernel
theorem dX7_two_113 : decode cX7_two 113 = .ok (.invokevirtual 183, 3) := by decide +kernel
theorem dX7_two_116 : decode cX7_two 116 = .ok (.ifCond .eq 21, 3) := by decide +kernel
theorem dX7_two_119 : decode cX7_two 119 = .ok (.iload 4, 2) := by decide +kernel
theorem dX7_two_121 : decode cX7_two 121 = .ok (.iload_n 3, 1) := by decide +kernel
theorem dX7_two_122 : decode cX7_two 122 = .ok (.if_icmp .ne 8, 3) := by decide +kernel
theorem dX7_two_125 : decode cX7_two 125 = .ok (.iload 6, 2) := by decide +kernel
theorem dX7_two_127 : decode cX7_two 127 = .ok (.goto 5, 3) := by decide +kernel
theorem dX7_two_130 : decode cX7_two 130 = .ok (.iload 5, 2) := by decide +kernel
theorem dX7_two_132 : decode cX7_two 132 = .ok (.istore 5, 2) := by decide +kernel
theorem dX7_two_134 : decode cX7_two 134 = .ok (.iinc 4 1, 3) := by decide +kernel
theorem dX7_two_137 : decode cX7_two 137 = .ok (.iinc 6 1, 3) := by decide +kernel
theorem dX7_two_140 : decode cX7_two 140 = .ok (.goto (-37), 3) := by decide +kernel
theorem dX7_two_143 : decode cX7_two 143 = .ok (.iload_n 3, 1) := by decide +kernel
theorem dX7_two_144 : decode cX7_two 144 = .ok (.iconst (-1), 1) := by decide +kernel
theorem dX7_two_145 : decode cX7_two 145 = .ok (.if_icmp .ne 8, 3) := by decide +kernel
theorem dX7_two_148 : decode cX7_two 148 = .ok (.iload 4, 2) := by decide +kernel
theorem dX7_two_150 : decode cX7_two 150 = .ok (.goto 5, 3) := by decide +kernel
theorem dX7_two_153 : decode cX7_two 153 = .ok (.iload 5, 2) := by decide +kernel
theorem dX7_two_155 : decode cX7_two 155 = .ok (.ireturn, 1) := by decide +kernel
theorem dX7_fraction_0 : decode cX7_fraction 0 = .ok (.lload_n 1, 1) := by decide +kernel
theorem dX7_fraction_1 : decode cX7_fraction 1 = .ok (.lstore 5, 2) := by decide +kernel
theorem dX7_fraction_3 : decode cX7_fraction 3 = .ok (.lload_n 3, 1) := by decide +kernel
theorem dX7_fraction_4 : decode cX7_fraction 4 = .ok (.lstore 7, 2) := by decide +kernel
theorem dX7_fraction_6 : decode cX7_fraction 6 = .ok (.lload 7, 2) := by decide +kernel
theorem dX7_fraction_8 : decode cX7_fraction 8 = .ok (.lconst 0, 1) := by decide +kernel
theorem dX7_fraction_9 : decode cX7_fraction 9 = .ok (.lcmp, 1) := by decide +kernel
theorem dX7_fraction_10 : decode cX7_fraction 10 = .ok (.ifCond .eq 21, 3) := by decide +kernel
theorem dX7_fraction_13 : decode cX7_fraction 13 = .ok (.lload 5, 2) := by decide +kernel
theorem dX7_fraction_15 : decode cX7_fraction 15 = .ok (.lload 7, 2) := by decide +kernel
theorem dX7_fraction_17 : decode cX7_fraction 17 = .ok (.lrem, 1) := by decide +kernel
theorem dX7_fraction_18 : decode cX7_fraction 18 = .ok (.lstore 9, 2) := by decide +kernel
theorem dX7_fraction_20 : decode cX7_fraction 20 = .ok (.lload 7, 2) := by decide +kernel
theorem dX7_fraction_22 : decode cX7_fraction 22 = .ok (.lstore 5, 2) := by decide +kernel
theorem dX7_fraction_24 : decode cX7_fraction 24 = .ok (.lload 9, 2) := by decide +kernel
theorem dX7_fraction_26 : decode cX7_fraction 26 = .ok (.lstore 7, 2) := by decide +kernel
theorem dX7_fraction_28 : decode cX7_fraction 28 = .ok (.goto (-22), 3) := by decide +kernel
theorem dX7_fraction_31 : decode cX7_fraction 31 = .ok (.aload_n 0, 1) := by decide +kernel
theorem dX7_fraction_32 : decode cX7_fraction 32 = .ok (.lload_n 1, 1) := by decide +kernel
theorem dX7_fraction_33 : decode cX7_fraction 33 = .ok (.lload 5, 2) := by decide +kernel
theorem dX7_fraction_35 : decode cX7_fraction 35 = .ok (.ldiv, 1) := by decide +kernel
theorem dX7_fraction_36 : decode cX7_fraction 36 = .ok (.putfield 186, 3) := by decide +kernel
theorem dX7_fraction_39 : decode cX7_fraction 39 = .ok (.aload_n 0, 1) := by decide +kernel
theorem dX7_fraction_40 : decode cX7_fraction 40 = .ok (.lload_n 3, 1) := by decide +kernel
theorem dX7_fraction_41 : decode cX7_fraction 41 = .ok (.lload 5, 2) := by decide +kernel
theorem dX7_fraction_43 : decode cX7_fraction 43 = .ok (.ldiv, 1) := by decide +kernel
theorem dX7_fraction_44 : decode cX7_fraction 44 = .ok (.putfield 23, 3) := by decide +kernel
theorem dX7_fraction_47 : decode cX7_fraction 47 = .ok (.return_, 1) := by decide +kernel
theorem dX7_bell_0 : decode cX7_bell 0 = .ok (.iload_n 1, 1) := by decide +kernel
theorem dX7_bell_1 : decode cX7_bell 1 = .ok (.i2l, 1) := by decide +kernel
theorem dX7_bell_2 : decode cX7_bell 2 = .ok (.lconst 0, 1) := by decide +kernel
theorem dX7_bell_3 : decode cX7_bell 3 = .ok (.ldc2_w 189, 3) := by decide +kernel
theorem dX7_bell_6 : decode cX7_bell 6 = .ok (.invokestatic 62, 3) := by decide +kernel
theorem dX7_bell_9 : decode cX7_bell 9 = .ok (.ifCond .eq 15, 3) := by decide +kernel
theorem dX7_bell_12 : decode cX7_bell 12 = .ok (.iload_n 2, 1) := by decide +kernel
theorem dX7_bell_13 : decode cX7_bell 13 = .ok (.i2l, 1) := by decide +kernel
theorem dX7_bell_14 : decode cX7_bell 14 = .ok (.lconst 0, 1) := by decide +kernel
theorem dX7_bell_15 : decode cX7_bell 15 = .ok (.ldc2_w 191, 3) := by decide +kernel
theorem dX7_bell_18 : decode cX7_bell 18 = .ok (.invokestatic 62, 3) := by decide +kernel
theorem dX7_bell_21 : decode cX7_bell 21 = .ok (.ifCond .ne 10, 3) := by decide +kernel
theorem dX7_bell_24 : decode cX7_bell 24 = .ok (.aload_n 0, 1) := by decide +kernel
theorem dX7_bell_25 : decode cX7_bell 25 = .ok (.bipush (-2), 2) := by decide +kernel
theorem dX7_bell_27 : decode cX7_bell 27 = .ok (.invokevirtual 79, 3) := by decide +kernel
theorem dX7_bell_30 : decode cX7_bell 30 = .ok (.ireturn, 1) := by decide +kernel
theorem dX7_bell_31 : decode cX7_bell 31 = .ok (.lconst 0, 1) := by decide +kernel
theorem dX7_bell_32 : decode cX7_bell 32 = .ok (.lstore_n 3, 1) := by decide +kernel
theorem dX7_bell_33 : decode cX7_bell 33 = .ok (.lconst 1, 1) := by decide +kernel
theorem dX7_bell_34 : decode cX7_bell 34 = .ok (.lstore 5, 2) := by decide +kernel
theorem dX7_bell_36 : decode cX7_bell 36 = .ok (.lconst 1, 1) := by decide +kernel
theorem dX7_bell_37 : decode cX7_bell 37 = .ok (.lstore 7, 2) := by decide +kernel
theorem dX7_bell_39 : decode cX7_bell 39 = .ok (.aload_n 0, 1) := by decide +kernel
theorem dX7_bell_40 : decode cX7_bell 40 = .ok (.invokevirtual 135, 3) := by decide +kernel
theorem dX7_bell_43 : decode cX7_bell 43 = .ok (.iconst 0, 1) := by decide +kernel
theorem dX7_bell_44 : decode cX7_bell 44 = .ok (.istore 9, 2) := by decide +kernel
theorem dX7_bell_46 : decode cX7_bell 46 = .ok (.iload 9, 2) := by decide +kernel
theorem dX7_bell_48 : decode cX7_bell 48 = .ok (.iload_n 1, 1) := by decide +kernel
theorem dX7_bell_49 : decode cX7_bell 49 = .ok (.if_icmp .ge 43, 3) := by decide +kernel
theorem dX7_bell_52 : decode cX7_bell 52 = .ok (.lload 5, 2) := by decide +kernel
theorem dX7_bell_54 : decode cX7_bell 54 = .ok (.bipush 10, 2) := by decide +kernel
theorem dX7_bell_56 : decode cX7_bell 56 = .ok (.iload_n 2, 1) := by decide +kernel
theorem dX7_bell_57 : decode cX7_bell 57 = .ok (.isub, 1) := by decide +kernel
theorem dX7_bell_58 : decode cX7_bell 58 = .ok (.i2l, 1) := by decide +kernel
theorem dX7_bell_59 : decode cX7_bell 59 = .ok (.lmul, 1) := by decide +kernel
theorem dX7_bell_60 : decode cX7_bell 60 = .ok (.lstore 5, 2) := by decide +kernel
theorem dX7_bell_62 : decode cX7_bell 62 = .ok (.lload 7, 2) := by decide +kernel
theorem dX7_bell_64 : decode cX7_bell 64 = .ok (.ldc2_w 191, 3) := by decide +kernel
theorem dX7_bell_67 : decode cX7_bell 67 = .ok (.lmul, 1) := by decide +kernel
theorem dX7_bell_68 : decode cX7_bell 68 = .ok (.lstore 7, 2) := by decide +kernel
theorem dX7_bell_70 : decode cX7_bell 70 = .ok (.ldc2_w 191, 3) := by decide +kernel
theorem dX7_bell_73 : decode cX7_bell 73 = .ok (.lload_n 3, 1) := by decide +kernel
theorem dX7_bell_74 : decode cX7_bell 74 = .ok (.lmul, 1) := by decide +kernel
theorem dX7_bell_75 : decode cX7_bell 75 = .ok (.lload 5, 2) := by decide +kernel
theorem dX7_bell_77 : decode cX7_bell 77 = .ok (.aload_n 0, 1) := by decide +kernel
theorem dX7_bell_78 : decode cX7_bell 78 = .ok (.iconst 1, 1) := by decide +kernel
theorem dX7_bell_79 : decode cX7_bell 79 = .ok (.invokevirtual 138, 3) := by decide +kernel
theorem dX7_bell_82 : decode cX7_bell 82 = .ok (.i2l, 1) := by decide +kernel
theorem dX7_bell_83 : decode cX7_bell 83 = .ok (.lmul, 1) := by decide +kernel
theorem dX7_bell_84 : decode cX7_bell 84 = .ok (.ladd, 1) := by decide +kernel
theorem dX7_bell_85 : decode cX7_bell 85 = .ok (.lstore_n 3, 1) := by decide +kernel
theorem dX7_bell_86 : decode cX7_bell 86 = .ok (.iinc 9 1, 3) := by decide +kernel
theorem dX7_bell_89 : decode cX7_bell 89 = .ok (.goto (-43), 3) := by decide +kernel
theorem dX7_bell_92 : decode cX7_bell 92 = .ok (.aload_n 0, 1) := by decide +kernel
theorem dX7_bell_93 : decode cX7_bell 93 = .ok (.lload_n 3, 1) := by decide +kernel
theorem dX7_bell_94 : decode cX7_bell 94 = .ok (.lload 7, 2) := by decide +kernel
theorem dX7_bell_96 : decode cX7_bell 96 = .ok (.invokevirtual 193, 3) := by decide +kernel
theorem dX7_bell_99 : decode cX7_bell 99 = .ok (.iconst 1, 1) := by decide +kernel
theorem dX7_bell_100 : decode cX7_bell 100 = .ok (.ireturn, 1) := by decide +kernel
theorem dX7_rounds_0 : decode cX7_rounds 0 = .ok (.iload_n 1, 1) := by decide +kernel
theorem dX7_rounds_1 : decode cX7_rounds 1 = .ok (.i2l, 1) := by decide +kernel
theorem dX7_rounds_2 : decode cX7_rounds 2 = .ok (.lconst 0, 1) := by decide +kernel
theorem dX7_rounds_3 : decode cX7_rounds 3 = .ok (.ldc2_w 197, 3) := by decide +kernel
theorem dX7_rounds_6 : decode cX7_rounds 6 = .ok (.invokestatic 62, 3) := by decide +kernel
theorem dX7_rounds_9 : decode cX7_rounds 9 = .ok (.ifCond .eq 15, 3) := by decide +kernel
theorem dX7_rounds_12 : decode cX7_rounds 12 = .ok (.iload_n 2, 1) := by decide +kernel
theorem dX7_rounds_13 : decode cX7_rounds 13 = .ok (.i2l, 1) := by decide +kernel
theorem dX7_rounds_14 : decode cX7_rounds 14 = .ok (.lconst 0, 1) := by decide +kernel
theorem dX7_rounds_15 : decode cX7_rounds 15 = .ok (.ldc2_w 130, 3) := by decide +kernel
theorem dX7_rounds_18 : decode cX7_rounds 18 = .ok (.invokestatic 62, 3) := by decide +kernel
theorem dX7_rounds_21 : decode cX7_rounds 21 = .ok (.ifCond .ne 10, 3) := by decide +kernel
theorem dX7_rounds_24 : decode cX7_rounds 24 = .ok (.aload_n 0, 1) := by decide +kernel
theorem dX7_rounds_25 : decode cX7_rounds 25 = .ok (.bipush (-2), 2) := by decide +kernel
theorem dX7_rounds_27 : decode cX7_rounds 27 = .ok (.invokevirtual 79, 3) := by decide +kernel
theorem dX7_rounds_30 : decode cX7_rounds 30 = .ok (.ireturn, 1) := by decide +kernel
theorem dX7_rounds_31 : decode cX7_rounds 31 = .ok (.aload_n 0, 1) := by decide +kernel
theorem dX7_rounds_32 : decode cX7_rounds 32 = .ok (.invokevirtual 58, 3) := by decide +kernel
theorem dX7_rounds_35 : decode cX7_rounds 35 = .ok (.ifCond .ne 8, 3) := by decide +kernel
theorem dX7_rounds_38 : decode cX7_rounds 38 = .ok (.aload_n 0, 1) := by decide +kernel
theorem dX7_rounds_39 : decode cX7_rounds 39 = .ok (.invokevirtual 87, 3) := by decide +kernel
theorem dX7_rounds_42 : decode cX7_rounds 42 = .ok (.ireturn, 1) := by decide +kernel
theorem dX7_rounds_43 : decode cX7_rounds 43 = .ok (.iload_n 1, 1) := by decide +kernel
theorem dX7_rounds_44 : decode cX7_rounds 44 = .ok (.i2l, 1) := by decide +kernel
theorem dX7_rounds_45 : decode cX7_rounds 45 = .ok (.lstore_n 3, 1) := by decide +kernel
theorem dX7_rounds_46 : decode cX7_rounds 46 = .ok (.iconst 0, 1) := by decide +kernel
theorem dX7_rounds_47 : decode cX7_rounds 47 = .ok (.istore 5, 2) := by decide +kernel
theorem dX7_rounds_49 : decode cX7_rounds 49 = .ok (.aload_n 0, 1) := by decide +kernel
theorem dX7_rounds_50 : decode cX7_rounds 50 = .ok (.invokevirtual 135, 3) := by decide +kernel
theorem dX7_rounds_53 : decode cX7_rounds 53 = .ok (.iconst 0, 1) := by decide +kernel
theorem dX7_rounds_54 : decode cX7_rounds 54 = .ok (.istore 6, 2) := by decide +kernel
theorem dX7_rounds_56 : decode cX7_rounds 56 = .ok (.iload 6, 2) := by decide +kernel
theorem dX7_rounds_58 : decode cX7_rounds 58 = .ok (.iload_n 2, 1) := by decide +kernel
theorem dX7_rounds_59 : decode cX7_rounds 59 = .ok (.if_icmp .ge 62, 3) := by decide +kernel
theorem dX7_rounds_62 : decode cX7_rounds 62 = .ok (.lload_n 3, 1) := by decide +kernel
theorem dX7_rounds_63 : decode cX7_rounds 63 = .ok (.ldc2_w 199, 3) := by decide +kernel
theorem dX7_rounds_66 : decode cX7_rounds 66 = .ok (.lmul, 1) := by decide +kernel
theorem dX7_rounds_67 : decode cX7_rounds 67 = .ok (.ldc2_w 201, 3) := by decide +kernel
theorem dX7_rounds_70 : decode cX7_rounds 70 = .ok (.ladd, 1) := by decide +kernel
theorem dX7_rounds_71 : decode cX7_rounds 71 = .ok (.ldc2_w 203, 3) := by decide +kernel
theorem dX7_rounds_74 : decode cX7_rounds 74 = .ok (.lrem, 1) := by decide +kernel
theorem dX7_rounds_75 : decode cX7_rounds 75 = .ok (.lstore_n 3, 1) := by decide +kernel
theorem dX7_rounds_76 : decode cX7_rounds 76 = .ok (.aload_n 0, 1) := by decide +kernel
theorem dX7_rounds_77 : decode cX7_rounds 77 = .ok (.getfield 27, 3) := by decide +kernel
theorem dX7_rounds_80 : decode cX7_rounds 80 = .ok (.iconst 5, 1) := by decide +kernel
theorem dX7_rounds_81 : decode cX7_rounds 81 = .ok (.lload_n 3, 1) := by decide +kernel
theorem dX7_rounds_82 : decode cX7_rounds 82 = .ok (.ldc2_w 205, 3) := by decide +kernel
theorem dX7_rounds_85 : decode cX7_rounds 85 = .ok (.ldiv, 1) := by decide +kernel
theorem dX7_rounds_86 : decode cX7_rounds 86 = .ok (.aload_n 0, 1) := by decide +kernel
theorem dX7_rounds_87 : decode cX7_rounds 87 = .ok (.invokevirtual 58, 3) := by decide +kernel
theorem dX7_rounds_90 : decode cX7_rounds 90 = .ok (.i2l, 1) := by decide +kernel
theorem dX7_rounds_91 : decode cX7_rounds 91 = .ok (.lrem, 1) := by decide +kernel
theorem dX7_rounds_92 : decode cX7_rounds 92 = .ok (.l2i, 1) := by decide +kernel
theorem dX7_rounds_93 : decode cX7_rounds 93 = .ok (.iadd, 1) := by decide +kernel
theorem dX7_rounds_94 : decode cX7_rounds 94 = .ok (.lload_n 3, 1) := by decide +kernel
theorem dX7_rounds_95 : decode cX7_rounds 95 = .ok (.ldc2_w 207, 3) := by decide +kernel
theorem dX7_rounds_98 : decode cX7_rounds 98 = .ok (.ldiv, 1) := by decide +kernel
theorem dX7_rounds_99 : decode cX7_rounds 99 = .ok (.ldc2_w 209, 3) := by decide +kernel
theorem dX7_rounds_102 : decode cX7_rounds 102 = .ok (.lrem, 1) := by decide +kernel
theorem dX7_rounds_103 : decode cX7_rounds 103 = .ok (.l2i, 1) := by decide +kernel
theorem dX7_rounds_104 : decode cX7_rounds 104 = .ok (.iastore, 1) := by decide +kernel
theorem dX7_rounds_105 : decode cX7_rounds 105 = .ok (.iload 5, 2) := by decide +kernel
theorem dX7_rounds_107 : decode cX7_rounds 107 = .ok (.aload_n 0, 1) := by decide +kernel
theorem dX7_rounds_108 : decode cX7_rounds 108 = .ok (.iconst 1, 1) := by decide +kernel
theorem dX7_rounds_109 : decode cX7_rounds 109 = .ok (.invokevirtual 138, 3) := by decide +kernel
theorem dX7_rounds_112 : decode cX7_rounds 112 = .ok (.iadd, 1) := by decide +kernel
theorem dX7_rounds_113 : decode cX7_rounds 113 = .ok (.istore 5, 2) := by decide +kernel
theorem dX7_rounds_115 : decode cX7_rounds 115 = .ok (.iinc 6 1, 3) := by decide +kernel
theorem dX7_rounds_118 : decode cX7_rounds 118 = .ok (.goto (-62), 3) := by decide +kernel
theorem dX7_rounds_121 : decode cX7_rounds 121 = .ok (.iload 5, 2) := by decide +kernel
theorem dX7_rounds_123 : decode cX7_rounds 123 = .ok (.ireturn, 1) := by decide +kernel
theorem dX7_type_0 : decode cX7_type 0 = .ok (.iload_n 1, 1) := by decide +kernel
theorem dX7_type_1 : decode cX7_type 1 = .ok (.i2l, 1) := by decide +kernel
theorem dX7_type_2 : decode cX7_type 2 = .ok (.lconst 0, 1) := by decide +kernel
theorem dX7_type_3 : decode cX7_type 3 = .ok (.ldc2_w 211, 3) := by decide +kernel
theorem dX7_type_6 : decode cX7_type 6 = .ok (.invokestatic 62, 3) := by decide +kernel
theorem dX7_type_9 : decode cX7_type 9 = .ok (.ifCond .ne 10, 3) := by decide +kernel
theorem dX7_type_12 : decode cX7_type 12 = .ok (.aload_n 0, 1) := by decide +kernel
theorem dX7_type_13 : decode cX7_type 13 = .ok (.bipush (-2), 2) := by decide +kernel
theorem dX7_type_15 : decode cX7_type 15 = .ok (.invokevirtual 79, 3) := by decide +kernel
theorem dX7_type_18 : decode cX7_type 18 = .ok (.ireturn, 1) := by decide +kernel
theorem dX7_type_19 : decode cX7_type 19 = .ok (.aload_n 0, 1) := by decide +kernel
theorem dX7_type_20 : decode cX7_type 20 = .ok (.getfield 213, 3) := by decide +kernel
theorem dX7_type_23 : decode cX7_type 23 = .ok (.sipush 150, 3) := by decide +kernel
theorem dX7_type_26 : decode cX7_type 26 = .ok (.if_icmp .ne 8, 3) := by decide +kernel
theorem dX7_type_29 : decode cX7_type 29 = .ok (.aload_n 0, 1) := by decide +kernel
theorem dX7_type_30 : decode cX7_type 30 = .ok (.invokevirtual 90, 3) := by decide +kernel
theorem dX7_type_33 : decode cX7_type 33 = .ok (.ireturn, 1) := by decide +kernel
theorem dX7_type_34 : decode cX7_type 34 = .ok (.aload_n 0, 1) := by decide +kernel
theorem dX7_type_35 : decode cX7_type 35 = .ok (.getfield 45, 3) := by decide +kernel
theorem dX7_type_38 : decode cX7_type 38 = .ok (.aload_n 0, 1) := by decide +kernel
theorem dX7_type_39 : decode cX7_type 39 = .ok (.getfield 213, 3) := by decide +kernel
theorem dX7_type_42 : decode cX7_type 42 = .ok (.iload_n 1, 1) := by decide +kernel
theorem dX7_type_43 : decode cX7_type 43 = .ok (.iastore, 1) := by decide +kernel
theorem dX7_type_44 : decode cX7_type 44 = .ok (.aload_n 0, 1) := by decide +kernel
theorem dX7_type_45 : decode cX7_type 45 = .ok (.dup, 1) := by decide +kernel
theorem dX7_type_46 : decode cX7_type 46 = .ok (.getfield 213, 3) := by decide +kernel
theorem dX7_type_49 : decode cX7_type 49 = .ok (.iconst 1, 1) := by decide +kernel
theorem dX7_type_50 : decode cX7_type 50 = .ok (.iadd, 1) := by decide +kernel
theorem dX7_type_51 : decode cX7_type 51 = .ok (.putfield 213, 3) := by decide +kernel
theorem dX7_type_54 : decode cX7_type 54 = .ok (.aload_n 0, 1) := by decide +kernel
theorem dX7_type_55 : decode cX7_type 55 = .ok (.getfield 213, 3) := by decide +kernel
theorem dX7_type_58 : decode cX7_type 58 = .ok (.ireturn, 1) := by decide +kernel
theorem dX7_clear_0 : decode cX7_clear 0 = .ok (.aload_n 0, 1) := by decide +kernel
theorem dX7_clear_1 : decode cX7_clear 1 = .ok (.getfield 213, 3) := by decide +kernel
theorem dX7_clear_4 : decode cX7_clear 4 = .ok (.istore_n 1, 1) := by decide +kernel
theorem dX7_clear_5 : decode cX7_clear 5 = .ok (.aload_n 0, 1) := by decide +kernel
theorem dX7_clear_6 : decode cX7_clear 6 = .ok (.iconst 0, 1) := by decide +kernel
theorem dX7_clear_7 : decode cX7_clear 7 = .ok (.putfield 213, 3) := by decide +kernel
theorem dX7_clear_10 : decode cX7_clear 10 = .ok (.iload_n 1, 1) := by decide +kernel
theorem dX7_clear_11 : decode cX7_clear 11 = .ok (.ireturn, 1) := by decide +kernel
theorem dX7_isSmall_0 : decode cX7_isSmall 0 = .ok (.iload_n 0, 1) := by decide +kernel
theorem dX7_isSmall_1 : decode cX7_isSmall 1 = .ok (.i2l, 1) := by decide +kernel
theorem dX7_isSmall_2 : decode cX7_isSmall 2 = .ok (.ldc2_w 216, 3) := by decide +kernel
theorem dX7_isSmall_5 : decode cX7_isSmall 5 = .ok (.ldc2_w 218, 3) := by decide +kernel
theorem dX7_isSmall_8 : decode cX7_isSmall 8 = .ok (.invokestatic 62, 3) := by decide +kernel
theorem dX7_isSmall_11 : decode cX7_isSmall 11 = .ok (.ireturn, 1) := by decide +kernel
theorem dX7_isFigure_0 : decode cX7_isFigure 0 = .ok (.iload_n 0, 1) := by decide +kernel
theorem dX7_isFigure_1 : decode cX7_isFigure 1 = .ok (.i2l, 1) := by decide +kernel
theorem dX7_isFigure_2 : decode cX7_isFigure 2 = .ok (.ldc2_w 220, 3) := by decide +kernel
theorem dX7_isFigure_5 : decode cX7_isFigure 5 = .ok (.ldc2_w 222, 3) := by decide +kernel
theorem dX7_isFigure_8 : decode cX7_isFigure 8 = .ok (.invokestatic 62, 3) := by decide +kernel
theorem dX7_isFigure_11 : decode cX7_isFigure 11 = .ok (.ireturn, 1) := by decide +kernel
theorem dX7_lookAt_0 : decode cX7_lookAt 0 = .ok (.aload_n 0, 1) := by decide +kernel
theorem dX7_lookAt_1 : decode cX7_lookAt 1 = .ok (.iload_n 1, 1) := by decide +kernel
theorem dX7_lookAt_2 : decode cX7_lookAt 2 = .ok (.putfield 224, 3) := by decide +kernel
theorem dX7_lookAt_5 : decode cX7_lookAt 5 = .ok (.aload_n 0, 1) := by decide +kernel
theorem dX7_lookAt_6 : decode cX7_lookAt 6 = .ok (.getfield 224, 3) := by decide +kernel
theorem dX7_lookAt_9 : decode cX7_lookAt 9 = .ok (.aload_n 0, 1) := by decide +kernel
theorem dX7_lookAt_10 : decode cX7_lookAt 10 = .ok (.getfield 213, 3) := by decide +kernel
theorem dX7_lookAt_13 : decode cX7_lookAt 13 = .ok (.if_icmp .ge 30, 3) := by decide +kernel
theorem dX7_lookAt_16 : decode cX7_lookAt 16 = .ok (.aload_n 0, 1) := by decide +kernel
theorem dX7_lookAt_17 : decode cX7_lookAt 17 = .ok (.getfield 45, 3) := by decide +kernel
theorem dX7_lookAt_20 : decode cX7_lookAt 20 = .ok (.aload_n 0, 1) := by decide +kernel
theorem dX7_lookAt_21 : decode cX7_lookAt 21 = .ok (.getfield 224, 3) := by decide +kernel
theorem dX7_lookAt_24 : decode cX7_lookAt 24 = .ok (.iaload, 1) := by decide +kernel
theorem dX7_lookAt_25 : decode cX7_lookAt 25 = .ok (.bipush 32, 2) := by decide +kernel
theorem dX7_lookAt_27 : decode cX7_lookAt 27 = .ok (.if_icmp .ne 16, 3) := by decide +kernel
theorem dX7_lookAt_30 : decode cX7_lookAt 30 = .ok (.aload_n 0, 1) := by decide +kernel
theorem dX7_lookAt_31 : decode cX7_lookAt 31 = .ok (.dup, 1) := by decide +kernel
theorem dX7_lookAt_32 : decode cX7_lookAt 32 = .ok (.getfield 224, 3) := by decide +kernel
theorem dX7_lookAt_35 : decode cX7_lookAt 35 = .ok (.iconst 1, 1) := by decide +kernel
theorem dX7_lookAt_36 : decode cX7_lookAt 36 = .ok (.iadd, 1) := by decide +kernel
theorem dX7_lookAt_37 : decode cX7_lookAt 37 = .ok (.putfield 224, 3) := by decide +kernel
theorem dX7_lookAt_40 : decode cX7_lookAt 40 = .ok (.goto (-35), 3) := by decide +kernel
theorem dX7_lookAt_43 : decode cX7_lookAt 43 = .ok (.aload_n 0, 1) := by decide +kernel
theorem dX7_lookAt_44 : decode cX7_lookAt 44 = .ok (.iconst 0, 1) := by decide +kernel
theorem dX7_lookAt_45 : decode cX7_lookAt 45 = .ok (.putfield 227, 3) := by decide +kernel
theorem dX7_lookAt_48 : decode cX7_lookAt 48 = .ok (.aload_n 0, 1) := by decide +kernel
theorem dX7_lookAt_49 : decode cX7_lookAt 49 = .ok (.iconst 0, 1) := by decide +kernel
theorem dX7_lookAt_50 : decode cX7_lookAt 50 = .ok (.putfield 230, 3) := by decide +kernel
theorem dX7_lookAt_53 : decode cX7_lookAt 53 = .ok (.aload_n 0, 1) := by decide +kernel
theorem dX7_lookAt_54 : decode cX7_lookAt 54 = .ok (.iconst 0, 1) := by decide +kernel
theorem dX7_lookAt_55 : decode cX7_lookAt 55 = .ok (.putfield 233, 3) := by decide +kernel
theorem dX7_lookAt_58 : decode cX7_lookAt 58 = .ok (.aload_n 0, 1) := by decide +kernel
theorem dX7_lookAt_59 : decode cX7_lookAt 59 = .ok (.getfield 224, 3) := by decide +kernel
theorem dX7_lookAt_62 : decode cX7_lookAt 62 = .ok (.aload_n 0, 1) := by decide +kernel
theorem dX7_lookAt_63 : decode cX7_lookAt 63 = .ok (.getfield 213, 3) := by decide +kernel
theorem dX7_lookAt_66 : decode cX7_lookAt 66 = .ok (.if_icmp .ne 4, 3) := by decide +kernel
theorem dX7_lookAt_69 : decode cX7_lookAt 69 = .ok (.return_, 1) := by decide +kernel
theorem dX7_lookAt_70 : decode cX7_lookAt 70 = .ok (.aload_n 0, 1) := by decide +kernel
theorem dX7_lookAt_71 : decode cX7_lookAt 71 = .ok (.getfield 45, 3) := by decide +kernel
theorem dX7_lookAt_74 : decode cX7_lookAt 74 = .ok (.aload_n 0, 1) := by decide +kernel
theorem dX7_lookAt_75 : decode cX7_lookAt 75 = .ok (.getfield 224, 3) := by decide +kernel
theorem dX7_lookAt_78 : decode cX7_lookAt 78 = .ok (.iaload, 1) := by decide +kernel
theorem dX7_lookAt_79 : decode cX7_lookAt 79 = .ok (.istore_n 2, 1) := by decide +kernel
theorem dX7_lookAt_80 : decode cX7_lookAt 80 = .ok (.aload_n 0, 1) := by decide +kernel
theorem dX7_lookAt_81 : decode cX7_lookAt 81 = .ok (.iload_n 2, 1) := by decide +kernel
theorem dX7_lookAt_82 : decode cX7_lookAt 82 = .ok (.invokestatic 236, 3) := by decide +kernel
theorem dX7_lookAt_85 : decode cX7_lookAt 85 = .ok (.ifCond .eq 7, 3) := by decide +kernel
theorem dX7_lookAt_88 : decode cX7_lookAt 88 = .ok (.iconst 1, 1) := by decide +kernel
theorem dX7_lookAt_89 : decode cX7_lookAt 89 = .ok (.goto 25, 3) := by decide +kernel
theorem dX7_lookAt_92 : decode cX7_lookAt 92 = .ok (.iload_n 2, 1) := by decide +kernel
theorem dX7_lookAt_93 : decode cX7_lookAt 93 = .ok (.invokestatic 239, 3) := by decide +kernel
theorem dX7_lookAt_96 : decode cX7_lookAt 96 = .ok (.ifCond .eq 7, 3) := by decide +kernel
theorem dX7_lookAt_99 : decode cX7_lookAt 99 = .ok (.iconst 2, 1) := by decide +kernel
theorem dX7_lookAt_100 : decode cX7_lookAt 100 = .ok (.goto 14, 3) := by decide +kernel
theorem dX7_lookAt_103 : decode cX7_lookAt 103 = .ok (.iload_n 2, 1) := by decide +kernel
theorem dX7_lookAt_104 : decode cX7_lookAt 104 = .ok (.bipush 59, 2) := by decide +kernel
theorem dX7_lookAt_106 : decode cX7_lookAt 106 = .ok (.if_icmp .ne 7, 3) := by decide +kernel
theorem dX7_lookAt_109 : decode cX7_lookAt 109 = .ok (.iconst 3, 1) := by decide +kernel
theorem dX7_lookAt_110 : decode cX7_lookAt 110 = .ok (.goto 4, 3) := by decide +kernel
theorem dX7_lookAt_113 : decode cX7_lookAt 113 = .ok (.iconst 4, 1) := by decide +kernel
theorem dX7_lookAt_114 : decode cX7_lookAt 114 = .ok (.putfield 230, 3) := by decide +kernel
theorem dX7_lookAt_117 : decode cX7_lookAt 117 = .ok (.aload_n 0, 1) := by decide +kernel
theorem dX7_lookAt_118 : decode cX7_lookAt 118 = .ok (.iconst 1, 1) := by decide +kernel
theorem dX7_lookAt_119 : decode cX7_lookAt 119 = .ok (.putfield 227, 3) := by decide +kernel
theorem dX7_lookAt_122 : decode cX7_lookAt 122 = .ok (.aload_n 0, 1) := by decide +kernel
theorem dX7_lookAt_123 : decode cX7_lookAt 123 = .ok (.getfield 230, 3) := by decide +kernel
theorem dX7_lookAt_126 : decode cX7_lookAt 126 = .ok (.iconst 3, 1) := by decide +kernel
theorem dX7_lookAt_127 : decode cX7_lookAt 127 = .ok (.if_icmp .ge 7, 3) := by decide +kernel
theorem dX7_lookAt_130 : decode cX7_lookAt 130 = .ok (.iconst 1, 1) := by decide +kernel
theorem dX7_lookAt_131 : decode cX7_lookAt 131 = .ok (.goto 4, 3) := by decide +kernel
theorem dX7_lookAt_134 : decode cX7_lookAt 134 = .ok (.iconst 0, 1) := by decide +kernel
theorem dX7_lookAt_135 : decode cX7_lookAt 135 = .ok (.istore_n 3, 1) := by decide +kernel
theorem dX7_lookAt_136 : decode cX7_lookAt 136 = .ok (.iload_n 3, 1) := by decide +kernel
theorem dX7_lookAt_137 : decode cX7_lookAt 137 = .ok (.ifCond .eq 78, 3) := by decide +kernel
theorem dX7_lookAt_140 : decode cX7_lookAt 140 = .ok (.aload_n 0, 1) := by decide +kernel
theorem dX7_lookAt_141 : decode cX7_lookAt 141 = .ok (.getfield 224, 3) := by decide +kernel
theorem dX7_lookAt_144 : decode cX7_lookAt 144 = .ok (.aload_n 0, 1) := by decide +kernel
theorem dX7_lookAt_145 : decode cX7_lookAt 145 = .ok (.getfield 227, 3) := by decide +kernel
theorem dX7_lookAt_148 : decode cX7_lookAt 148 = .ok (.iadd, 1) := by decide +kernel
theorem dX7_lookAt_149 : decode cX7_lookAt 149 = .ok (.aload_n 0, 1) := by decide +kernel
theorem dX7_lookAt_150 : decode cX7_lookAt 150 = .ok (.getfield 213, 3) := by decide +kernel
theorem dX7_lookAt_153 : decode cX7_lookAt 153 = .ok (.if_icmp .ge 62, 3) := by decide +kernel
theorem dX7_lookAt_156 : decode cX7_lookAt 156 = .ok (.aload_n 0, 1) := by decide +kernel
theorem dX7_lookAt_157 : decode cX7_lookAt 157 = .ok (.getfield 45, 3) := by decide +kernel
theorem dX7_lookAt_160 : decode cX7_lookAt 160 = .ok (.aload_n 0, 1) := by decide +kernel
theorem dX7_lookAt_161 : decode cX7_lookAt 161 = .ok (.getfield 224, 3) := by decide +kernel
theorem dX7_lookAt_164 : decode cX7_lookAt 164 = .ok (.aload_n 0, 1) := by decide +kernel
theorem dX7_lookAt_165 : decode cX7_lookAt 165 = .ok (.getfield 227, 3) := by decide +kernel
theorem dX7_lookAt_168 : decode cX7_lookAt 168 = .ok (.iadd, 1) := by decide +kernel
theorem dX7_lookAt_169 : decode cX7_lookAt 169 = .ok (.iaload, 1) := by decide +kernel
theorem dX7_lookAt_170 : decode cX7_lookAt 170 = .ok (.istore 4, 2) := by decide +kernel
theorem dX7_lookAt_172 : decode cX7_lookAt 172 = .ok (.aload_n 0, 1) := by decide +kernel
theorem dX7_lookAt_173 : decode cX7_lookAt 173 = .ok (.getfield 230, 3) := by decide +kernel
theorem dX7_lookAt_176 : decode cX7_lookAt 176 = .ok (.iconst 1, 1) := by decide +kernel
theorem dX7_lookAt_177 : decode cX7_lookAt 177 = .ok (.if_icmp .ne 11, 3) := by decide +kernel
theorem dX7_lookAt_180 : decode cX7_lookAt 180 = .ok (.iload 4, 2) := by decide +kernel
theorem dX7_lookAt_182 : decode cX7_lookAt 182 = .ok (.invokestatic 236, 3) := by decide +kernel
theorem dX7_lookAt_185 : decode cX7_lookAt 185 = .ok (.goto 8, 3) := by decide +kernel
theorem dX7_lookAt_188 : decode cX7_lookAt 188 = .ok (.iload 4, 2) := by decide +kernel
theorem dX7_lookAt_190 : decode cX7_lookAt 190 = .ok (.invokestatic 239, 3) := by decide +kernel
theorem dX7_lookAt_193 : decode cX7_lookAt 193 = .ok (.istore_n 3, 1) := by decide +kernel
theorem dX7_lookAt_194 : decode cX7_lookAt 194 = .ok (.aload_n 0, 1) := by decide +kernel
theorem dX7_lookAt_195 : decode cX7_lookAt 195 = .ok (.dup, 1) := by decide +kernel
theorem dX7_lookAt_196 : decode cX7_lookAt 196 = .ok (.getfield 227, 3) := by decide +kernel
theorem dX7_lookAt_199 : decode cX7_lookAt 199 = .ok (.iload_n 3, 1) := by decide +kernel
theorem dX7_lookAt_200 : decode cX7_lookAt 200 = .ok (.ifCond .eq 7, 3) := by decide +kernel
theorem dX7_lookAt_203 : decode cX7_lookAt 203 = .ok (.iconst 1, 1) := by decide +kernel
theorem dX7_lookAt_204 : decode cX7_lookAt 204 = .ok (.goto 4, 3) := by decide +kernel
theorem dX7_lookAt_207 : decode cX7_lookAt 207 = .ok (.iconst 0, 1) := by decide +kernel
theorem dX7_lookAt_208 : decode cX7_lookAt 208 = .ok (.iadd, 1) := by decide +kernel
theorem dX7_lookAt_209 : decode cX7_lookAt 209 = .ok (.putfield 227, 3) := by decide +kernel
theorem dX7_lookAt_212 : decode cX7_lookAt 212 = .ok (.goto (-76), 3) := by decide +kernel
theorem dX7_lookAt_215 : decode cX7_lookAt 215 = .ok (.iconst 0, 1) := by decide +kernel
theorem dX7_lookAt_216 : decode cX7_lookAt 216 = .ok (.istore 4, 2) := by decide +kernel
theorem dX7_lookAt_218 : decode cX7_lookAt 218 = .ok (.iload 4, 2) := by decide +kernel
theorem dX7_lookAt_220 : decode cX7_lookAt 220 = .ok (.aload_n 0, 1) := by decide +kernel
theorem dX7_lookAt_221 : decode cX7_lookAt 221 = .ok (.getfield 227, 3) := by decide +kernel
theorem dX7_lookAt_224 : decode cX7_lookAt 224 = .ok (.if_icmp .ge 50, 3) := by decide +kernel
theorem dX7_lookAt_227 : decode cX7_lookAt 227 = .ok (.iload 4, 2) := by decide +kernel
theorem dX7_lookAt_229 : decode cX7_lookAt 229 = .ok (.iconst 2, 1) := by decide +kernel
theorem dX7_lookAt_230 : decode cX7_lookAt 230 = .ok (.if_icmp .ge 44, 3) := by decide +kernel
theorem dX7_lookAt_233 : decode cX7_lookAt 233 = .ok (.aload_n 0, 1) := by decide +kernel
theorem dX7_lookAt_234 : decode cX7_lookAt 234 = .ok (.getfield 230, 3) := by decide +kernel
theorem dX7_lookAt_237 : decode cX7_lookAt 237 = .ok (.iconst 2, 1) := by decide +kernel
theorem dX7_lookAt_238 : decode cX7_lookAt 238 = .ok (.if_icmp .ne 36, 3) := by decide +kernel
theorem dX7_lookAt_241 : decode cX7_lookAt 241 = .ok (.aload_n 0, 1) := by decide +kernel
theorem dX7_lookAt_242 : decode cX7_lookAt 242 = .ok (.bipush 10, 2) := by decide +kernel
theorem dX7_lookAt_244 : decode cX7_lookAt 244 = .ok (.aload_n 0, 1) := by decide +kernel
theorem dX7_lookAt_245 : decode cX7_lookAt 245 = .ok (.getfield 233, 3) := by decide +kernel
theorem dX7_lookAt_248 : decode cX7_lookAt 248 = .ok (.imul, 1) := by decide +kernel
theorem dX7_lookAt_249 : decode cX7_lookAt 249 = .ok (.aload_n 0, 1) := by decide +kernel
theorem dX7_lookAt_250 : decode cX7_lookAt 250 = .ok (.getfield 45, 3) := by decide +kernel
theorem dX7_lookAt_253 : decode cX7_lookAt 253 = .ok (.aload_n 0, 1) := by decide +kernel
theorem dX7_lookAt_254 : decode cX7_lookAt 254 = .ok (.getfield 224, 3) := by decide +kernel
theorem dX7_lookAt_257 : decode cX7_lookAt 257 = .ok (.iload 4, 2) := by decide +kernel
theorem dX7_lookAt_259 : decode cX7_lookAt 259 = .ok (.iadd, 1) := by decide +kernel
theorem dX7_lookAt_260 : decode cX7_lookAt 260 = .ok (.iaload, 1) := by decide +kernel
theorem dX7_lookAt_261 : decode cX7_lookAt 261 = .ok (.iadd, 1) := by decide +kernel
theorem dX7_lookAt_262 : decode cX7_lookAt 262 = .ok (.bipush 48, 2) := by decide +kernel
theorem dX7_lookAt_264 : decode cX7_lookAt 264 = .ok (.isub, 1) := by decide +kernel
theorem dX7_lookAt_265 : decode cX7_lookAt 265 = .ok (.putfield 233, 3) := by decide +kernel
theorem dX7_lookAt_268 : decode cX7_lookAt 268 = .ok (.iinc 4 1, 3) := by decide +kernel
theorem dX7_lookAt_271 : decode cX7_lookAt 271 = .ok (.goto (-53), 3) := by decide +kernel
theorem dX7_lookAt_274 : decode cX7_lookAt 274 = .ok (.aload_n 0, 1) := by decide +kernel
theorem dX7_lookAt_275 : decode cX7_lookAt 275 = .ok (.aload_n 0, 1) := by decide +kernel
theorem dX7_lookAt_276 : decode cX7_lookAt 276 = .ok (.getfield 230, 3) := by decide +kernel
theorem dX7_lookAt_279 : decode cX7_lookAt 279 = .ok (.iconst 2, 1) := by decide +kernel
theorem dX7_lookAt_280 : decode cX7_lookAt 280 = .ok (.if_icmp .ne 15, 3) := by decide +kernel
theorem dX7_lookAt_283 : decode cX7_lookAt 283 = .ok (.aload_n 0, 1) := by decide +kernel
theorem dX7_lookAt_284 : decode cX7_lookAt 284 = .ok (.getfield 227, 3) := by decide +kernel
theorem dX7_lookAt_287 : decode cX7_lookAt 287 = .ok (.iconst 2, 1) := by decide +kernel
theorem dX7_lookAt_288 : decode cX7_lookAt 288 = .ok (.if_icmp .le 7, 3) := by decide +kernel
theorem dX7_lookAt_291 : decode cX7_lookAt 291 = .ok (.iconst 4, 1) := by decide +kernel
theorem dX7_lookAt_292 : decode cX7_lookAt 292 = .ok (.goto 7, 3) := by decide +kernel
theorem dX7_lookAt_295 : decode cX7_lookAt 295 = .ok (.aload_n 0, 1) := by decide +kernel
theorem dX7_lookAt_296 : decode cX7_lookAt 296 = .ok (.getfield 230, 3) := by decide +kernel
theorem dX7_lookAt_299 : decode cX7_lookAt 299 = .ok (.putfield 230, 3) := by decide +kernel
theorem dX7_lookAt_302 : decode cX7_lookAt 302 = .ok (.return_, 1) := by decide +kernel
theorem dX7_goBehind_0 : decode cX7_goBehind 0 = .ok (.aload_n 0, 1) := by decide +kernel
theorem dX7_goBehind_1 : decode cX7_goBehind 1 = .ok (.aload_n 0, 1) := by decide +kernel
theorem dX7_goBehind_2 : decode cX7_goBehind 2 = .ok (.getfield 224, 3) := by decide +kernel
theorem dX7_goBehind_5 : decode cX7_goBehind 5 = .ok (.aload_n 0, 1) := by decide +kernel
theorem dX7_goBehind_6 : decode cX7_goBehind 6 = .ok (.getfield 227, 3) := by decide +kernel
theorem dX7_goBehind_9 : decode cX7_goBehind 9 = .ok (.iadd, 1) := by decide +kernel
theorem dX7_goBehind_10 : decode cX7_goBehind 10 = .ok (.invokevirtual 242, 3) := by decide +kernel
theorem dX7_goBehind_13 : decode cX7_goBehind 13 = .ok (.return_, 1) := by decide +kernel
theorem dX7_spells_0 : decode cX7_spells 0 = .ok (.aload_n 0, 1) := by decide +kernel
theorem dX7_spells_1 : decode cX7_spells 1 = .ok (.getfield 230, 3) := by decide +kernel
theorem dX7_spells_4 : decode cX7_spells 4 = .ok (.iconst 1, 1) := by decide +kernel
theorem dX7_spells_5 : decode cX7_spells 5 = .ok (.if_icmp .ne 15, 3) := by decide +kernel
theorem dX7_spells_8 : decode cX7_spells 8 = .ok (.aload_n 0, 1) := by decide +kernel
theorem dX7_spells_9 : decode cX7_spells 9 = .ok (.getfield 227, 3) := by decide +kernel
theorem dX7_spells_12 : decode cX7_spells 12 = .ok (.iload_n 1, 1) := by decide +kernel
theorem dX7_spells_13 : decode cX7_spells 13 = .ok (.if_icmp .ne 7, 3) := by decide +kernel
theorem dX7_spells_16 : decode cX7_spells 16 = .ok (.iconst 1, 1) := by decide +kernel
theorem dX7_spells_17 : decode cX7_spells 17 = .ok (.goto 4, 3) := by decide +kernel
theorem dX7_spells_20 : decode cX7_spells 20 = .ok (.iconst 0, 1) := by decide +kernel
theorem dX7_spells_21 : decode cX7_spells 21 = .ok (.istore 8, 2) := by decide +kernel
theorem dX7_spells_23 : decode cX7_spells 23 = .ok (.iconst 0, 1) := by decide +kernel
theorem dX7_spells_24 : decode cX7_spells 24 = .ok (.istore 9, 2) := by decide +kernel
theorem dX7_spells_26 : decode cX7_spells 26 = .ok (.iload 9, 2) := by decide +kernel
theorem dX7_spells_28 : decode cX7_spells 28 = .ok (.iload_n 1, 1) := by decide +kernel
theorem dX7_spells_29 : decode cX7_spells 29 = .ok (.if_icmp .ge 90, 3) := by decide +kernel
theorem dX7_spells_32 : decode cX7_spells 32 = .ok (.iload 8, 2) := by decide +kernel
theorem dX7_spells_34 : decode cX7_spells 34 = .ok (.ifCond .eq 85, 3) := by decide +kernel
theorem dX7_spells_37 : decode cX7_spells 37 = .ok (.aload_n 0, 1) := by decide +kernel
theorem dX7_spells_38 : decode cX7_spells 38 = .ok (.getfield 45, 3) := by decide +kernel
theorem dX7_spells_41 : decode cX7_spells 41 = .ok (.aload_n 0, 1) := by decide +kernel
theorem dX7_spells_42 : decode cX7_spells 42 = .ok (.getfield 224, 3) := by decide +kernel
theorem dX7_spells_45 : decode cX7_spells 45 = .ok (.iload 9, 2) := by decide +kernel
theorem dX7_spells_47 : decode cX7_spells 47 = .ok (.iadd, 1) := by decide +kernel
theorem dX7_spells_48 : decode cX7_spells 48 = .ok (.iaload, 1) := by decide +kernel
theorem dX7_spells_49 : decode cX7_spells 49 = .ok (.iload 9, 2) := by decide +kernel
theorem dX7_spells_51 : decode cX7_spells 51 = .ok (.ifCond .ne 7, 3) := by decide +kernel
theorem dX7_spells_54 : decode cX7_spells 54 = .ok (.iload_n 2, 1) := by decide +kernel
theorem dX7_spells_55 : decode cX7_spells 55 = .ok (.goto 48, 3) := by decide +kernel
theorem dX7_spells_58 : decode cX7_spells 58 = .ok (.iload 9, 2) := by decide +kernel
theorem dX7_spells_60 : decode cX7_spells 60 = .ok (.iconst 1, 1) := by decide +kernel
theorem dX7_spells_61 : decode cX7_spells 61 = .ok (.if_icmp .ne 7, 3) := by decide +kernel
theorem dX7_spells_64 : decode cX7_spells 64 = .ok (.iload_n 3, 1) := by decide +kernel
theorem dX7_spells_65 : decode cX7_spells 65 = .ok (.goto 38, 3) := by decide +kernel
theorem dX7_spells_68 : decode cX7_spells 68 = .ok (.iload 9, 2) := by decide +kernel
theorem dX7_spells_70 : decode cX7_spells 70 = .ok (.iconst 2, 1) := by decide +kernel
theorem dX7_spells_71 : decode cX7_spells 71 = .ok (.if_icmp .ne 8, 3) := by decide +kernel
theorem dX7_spells_74 : decode cX7_spells 74 = .ok (.iload 4, 2) := by decide +kernel
theorem dX7_spells_76 : decode cX7_spells 76 = .ok (.goto 27, 3) := by decide +kernel
theorem dX7_spells_79 : decode cX7_spells 79 = .ok (.iload 9, 2) := by decide +kernel
theorem dX7_spells_81 : decode cX7_spells 81 = .ok (.iconst 3, 1) := by decide +kernel
theorem dX7_spells_82 : decode cX7_spells 82 = .ok (.if_icmp .ne 8, 3) := by decide +kernel
theorem dX7_spells_85 : decode cX7_spells 85 = .ok (.iload 5, 2) := by decide +kernel
theorem dX7_spells_87 : decode cX7_spells 87 = .ok (.goto 16, 3) := by decide +kernel
theorem dX7_spells_90 : decode cX7_spells 90 = .ok (.iload 9, 2) := by decide +kernel
theorem dX7_spells_92 : decode cX7_spells 92 = .ok (.iconst 4, 1) := by decide +kernel
theorem dX7_spells_93 : decode cX7_spells 93 = .ok (.if_icmp .ne 8, 3) := by decide +kernel
theorem dX7_spells_96 : decode cX7_spells 96 = .ok (.iload 6, 2) := by decide +kernel
theorem dX7_spells_98 : decode cX7_spells 98 = .ok (.goto 5, 3) := by decide +kernel
theorem dX7_spells_101 : decode cX7_spells 101 = .ok (.iload 7, 2) := by decide +kernel
theorem dX7_spells_103 : decode cX7_spells 103 = .ok (.if_icmp .ne 7, 3) := by decide +kernel
theorem dX7_spells_106 : decode cX7_spells 106 = .ok (.iconst 1, 1) := by decide +kernel
theorem dX7_spells_107 : decode cX7_spells 107 = .ok (.goto 4, 3) := by decide +kernel
theorem dX7_spells_110 : decode cX7_spells 110 = .ok (.iconst 0, 1) := by decide +kernel
theorem dX7_spells_111 : decode cX7_spells 111 = .ok (.istore 8, 2) := by decide +kernel
theorem dX7_spells_113 : decode cX7_spells 113 = .ok (.iinc 9 1, 3) := by decide +kernel
theorem dX7_spells_116 : decode cX7_spells 116 = .ok (.goto (-90), 3) := by decide +kernel
theorem dX7_spells_119 : decode cX7_spells 119 = .ok (.iload 8, 2) := by decide +kernel
theorem dX7_spells_121 : decode cX7_spells 121 = .ok (.ireturn, 1) := by decide +kernel
theorem dX7_takes_0 : decode cX7_takes 0 = .ok (.aload_n 0, 1) := by decide +kernel
theorem dX7_takes_1 : decode cX7_takes 1 = .ok (.getfield 230, 3) := by decide +kernel
theorem dX7_takes_4 : decode cX7_takes 4 = .ok (.iconst 2, 1) := by decide +kernel
theorem dX7_takes_5 : decode cX7_takes 5 = .ok (.if_icmp .ne 18, 3) := by decide +kernel
theorem dX7_takes_8 : decode cX7_takes 8 = .ok (.aload_n 0, 1) := by decide +kernel
theorem dX7_takes_9 : decode cX7_takes 9 = .ok (.getfield 233, 3) := by decide +kernel
theorem dX7_takes_12 : decode cX7_takes 12 = .ok (.i2l, 1) := by decide +kernel
theorem dX7_takes_13 : decode cX7_takes 13 = .ok (.iload_n 2, 1) := by decide +kernel
theorem dX7_takes_14 : decode cX7_takes 14 = .ok (.i2l, 1) := by decide +kernel
theorem dX7_takes_15 : decode cX7_takes 15 = .ok (.iload_n 3, 1) := by decide +kernel
theorem dX7_takes_16 : decode cX7_takes 16 = .ok (.i2l, 1) := by decide +kernel
theorem dX7_takes_17 : decode cX7_takes 17 = .ok (.invokestatic 62, 3) := by decide +kernel
theorem dX7_takes_20 : decode cX7_takes 20 = .ok (.ifCond .ne 5, 3) := by decide +kernel
theorem dX7_takes_23 : decode cX7_takes 23 = .ok (.iconst 0, 1) := by decide +kernel
theorem dX7_takes_24 : decode cX7_takes 24 = .ok (.ireturn, 1) := by decide +kernel
theorem dX7_takes_25 : decode cX7_takes 25 = .ok (.aload_n 0, 1) := by decide +kernel
theorem dX7_takes_26 : decode cX7_takes 26 = .ok (.getfield 51, 3) := by decide +kernel
theorem dX7_takes_29 : decode cX7_takes 29 = .ok (.iload_n 1, 1) := by decide +kernel
theorem dX7_takes_30 : decode cX7_takes 30 = .ok (.aload_n 0, 1) := by decide +kernel
theorem dX7_takes_31 : decode cX7_takes 31 = .ok (.getfield 233, 3) := by decide +kernel
theorem dX7_takes_34 : decode cX7_takes 34 = .ok (.iastore, 1) := by decide +kernel
theorem dX7_takes_35 : decode cX7_takes 35 = .ok (.aload_n 0, 1) := by decide +kernel
theorem dX7_takes_36 : decode cX7_takes 36 = .ok (.invokevirtual 246, 3) := by decide +kernel
theorem dX7_takes_39 : decode cX7_takes 39 = .ok (.iconst 1, 1) := by decide +kernel
theorem dX7_takes_40 : decode cX7_takes 40 = .ok (.ireturn, 1) := by decide +kernel
theorem dX7_takesCar_0 : decode cX7_takesCar 0 = .ok (.aload_n 0, 1) := by decide +kernel
theorem dX7_takesCar_1 : decode cX7_takesCar 1 = .ok (.getfield 48, 3) := by decide +kernel
theorem dX7_takesCar_4 : decode cX7_takesCar 4 = .ok (.iconst 0, 1) := by decide +kernel
theorem dX7_takesCar_5 : decode cX7_takesCar 5 = .ok (.iaload, 1) := by decide +kernel
theorem dX7_takesCar_6 : decode cX7_takesCar 6 = .ok (.iconst 5, 1) := by decide +kernel
theorem dX7_takesCar_7 : decode cX7_takesCar 7 = .ok (.if_icmp .ne 5, 3) := by decide +kernel
theorem dX7_takesCar_10 : decode cX7_takesCar 10 = .ok (.iconst 0, 1) := by decide +kernel
theorem dX7_takesCar_11 : decode cX7_takesCar 11 = .ok (.ireturn, 1) := by decide +kernel
theorem dX7_takesCar_12 : decode cX7_takesCar 12 = .ok (.aload_n 0, 1) := by decide +kernel
theorem dX7_takesCar_13 : decode cX7_takesCar 13 = .ok (.invokevirtual 246, 3) := by decide +kernel
theorem dX7_takesCar_16 : decode cX7_takesCar 16 = .ok (.aload_n 0, 1) := by decide +kernel
theorem dX7_takesCar_17 : decode cX7_takesCar 17 = .ok (.iconst 0, 1) := by decide +kernel
theorem dX7_takesCar_18 : decode cX7_takesCar 18 = .ok (.iconst 0, 1) := by decide +kernel
theorem dX7_takesCar_19 : decode cX7_takesCar 19 = .ok (.iconst 5, 1) := by decide +kernel
theorem dX7_takesCar_20 : decode cX7_takesCar 20 = .ok (.invokevirtual 249, 3) := by decide +kernel
theorem dX7_takesCar_23 : decode cX7_takesCar 23 = .ok (.ifCond .eq 47, 3) := by decide +kernel
theorem dX7_takesCar_26 : decode cX7_takesCar 26 = .ok (.aload_n 0, 1) := by decide +kernel
theorem dX7_takesCar_27 : decode cX7_takesCar 27 = .ok (.getfield 230, 3) := by decide +kernel
theorem dX7_takesCar_30 : decode cX7_takesCar 30 = .ok (.iconst 2, 1) := by decide +kernel
theorem dX7_takesCar_31 : decode cX7_takesCar 31 = .ok (.if_icmp .ne 39, 3) := by decide +kernel
theorem dX7_takesCar_34 : decode cX7_takesCar 34 = .ok (.aload_n 0, 1) := by decide +kernel
theorem dX7_takesCar_35 : decode cX7_takesCar 35 = .ok (.getfield 48, 3) := by decide +kernel
theorem dX7_takesCar_38 : decode cX7_takesCar 38 = .ok (.aload_n 0, 1) := by decide +kernel
theorem dX7_takesCar_39 : decode cX7_takesCar 39 = .ok (.getfield 233, 3) := by decide +kernel
theorem dX7_takesCar_42 : decode cX7_takesCar 42 = .ok (.invokestatic 83, 3) := by decide +kernel
theorem dX7_takesCar_45 : decode cX7_takesCar 45 = .ok (.iconst (-1), 1) := by decide +kernel
theorem dX7_takesCar_46 : decode cX7_takesCar 46 = .ok (.if_icmp .ne 24, 3) := by decide +kernel
theorem dX7_takesCar_49 : decode cX7_takesCar 49 = .ok (.aload_n 0, 1) := by decide +kernel
theorem dX7_takesCar_50 : decode cX7_takesCar 50 = .ok (.iconst 1, 1) := by decide +kernel
theorem dX7_takesCar_51 : decode cX7_takesCar 51 = .ok (.iconst 0, 1) := by decide +kernel
theorem dX7_takesCar_52 : decode cX7_takesCar 52 = .ok (.bipush 23, 2) := by decide +kernel
theorem dX7_takesCar_54 : decode cX7_takesCar 54 = .ok (.invokevirtual 249, 3) := by decide +kernel
theorem dX7_takesCar_57 : decode cX7_takesCar 57 = .ok (.ifCond .eq 13, 3) := by decide +kernel
theorem dX7_takesCar_60 : decode cX7_takesCar 60 = .ok (.aload_n 0, 1) := by decide +kernel
theorem dX7_takesCar_61 : decode cX7_takesCar 61 = .ok (.iconst 2, 1) := by decide +kernel
theorem dX7_takesCar_62 : decode cX7_takesCar 62 = .ok (.iconst 0, 1) := by decide +kernel
theorem dX7_takesCar_63 : decode cX7_takesCar 63 = .ok (.iconst 3, 1) := by decide +kernel
theorem dX7_takesCar_64 : decode cX7_takesCar 64 = .ok (.invokevirtual 249, 3) := by decide +kernel
theorem dX7_takesCar_67 : decode cX7_takesCar 67 = .ok (.ifCond .ne 5, 3) := by decide +kernel
theorem dX7_takesCar_70 : decode cX7_takesCar 70 = .ok (.iconst 0, 1) := by decide +kernel
theorem dX7_takesCar_71 : decode cX7_takesCar 71 = .ok (.ireturn, 1) := by decide +kernel
theorem dX7_takesCar_72 : decode cX7_takesCar 72 = .ok (.aload_n 0, 1) := by decide +kernel
theorem dX7_takesCar_73 : decode cX7_takesCar 73 = .ok (.getfield 48, 3) := by decide +kernel
theorem dX7_takesCar_76 : decode cX7_takesCar 76 = .ok (.aload_n 0, 1) := by decide +kernel
theorem dX7_takesCar_77 : decode cX7_takesCar 77 = .ok (.getfield 51, 3) := by decide +kernel
theorem dX7_takesCar_80 : decode cX7_takesCar 80 = .ok (.iconst 0, 1) := by decide +kernel
theorem dX7_takesCar_81 : decode cX7_takesCar 81 = .ok (.iaload, 1) := by decide +kernel
theorem dX7_takesCar_82 : decode cX7_takesCar 82 = .ok (.aload_n 0, 1) := by decide +kernel
theorem dX7_takesCar_83 : decode cX7_takesCar 83 = .ok (.getfield 51, 3) := by decide +kernel
theorem dX7_takesCar_86 : decode cX7_takesCar 86 = .ok (.iconst 1, 1) := by decide +kernel
theorem dX7_takesCar_87 : decode cX7_takesCar 87 = .ok (.iaload, 1) := by decide +kernel
theorem dX7_takesCar_88 : decode cX7_takesCar 88 = .ok (.aload_n 0, 1) := by decide +kernel
theorem dX7_takesCar_89 : decode cX7_takesCar 89 = .ok (.getfield 51, 3) := by decide +kernel
theorem dX7_takesCar_92 : decode cX7_takesCar 92 = .ok (.iconst 2, 1) := by decide +kernel
theorem dX7_takesCar_93 : decode cX7_takesCar 93 = .ok (.iaload, 1) := by decide +kernel
theorem dX7_takesCar_94 : decode cX7_takesCar 94 = .ok (.invokestatic 93, 3) := by decide +kernel
theorem dX7_takesCar_97 : decode cX7_takesCar 97 = .ok (.iconst 1, 1) := by decide +kernel
theorem dX7_takesCar_98 : decode cX7_takesCar 98 = .ok (.ireturn, 1) := by decide +kernel
theorem dX7_takesHat_0 : decode cX7_takesHat 0 = .ok (.aload_n 0, 1) := by decide +kernel
theorem dX7_takesHat_1 : decode cX7_takesHat 1 = .ok (.invokevirtual 246, 3) := by decide +kernel
theorem dX7_takesHat_4 : decode cX7_takesHat 4 = .ok (.aload_n 0, 1) := by decide +kernel
theorem dX7_takesHat_5 : decode cX7_takesHat 5 = .ok (.iconst 0, 1) := by decide +kernel
theorem dX7_takesHat_6 : decode cX7_takesHat 6 = .ok (.iconst 0, 1) := by decide +kernel
theorem dX7_takesHat_7 : decode cX7_takesHat 7 = .ok (.aload_n 0, 1) := by decide +kernel
theorem dX7_takesHat_8 : decode cX7_takesHat 8 = .ok (.getfield 48, 3) := by decide +kernel
theorem dX7_takesHat_11 : decode cX7_takesHat 11 = .ok (.iconst 0, 1) := by decide +kernel
theorem dX7_takesHat_12 : decode cX7_takesHat 12 = .ok (.iaload, 1) := by decide +kernel
theorem dX7_takesHat_13 : decode cX7_takesHat 13 = .ok (.iconst 1, 1) := by decide +kernel
theorem dX7_takesHat_14 : decode cX7_takesHat 14 = .ok (.isub, 1) := by decide +kernel
theorem dX7_takesHat_15 : decode cX7_takesHat 15 = .ok (.invokevirtual 249, 3) := by decide +kernel
theorem dX7_takesHat_18 : decode cX7_takesHat 18 = .ok (.ifCond .ne 5, 3) := by decide +kernel
theorem dX7_takesHat_21 : decode cX7_takesHat 21 = .ok (.iconst 0, 1) := by decide +kernel
theorem dX7_takesHat_22 : decode cX7_takesHat 22 = .ok (.ireturn, 1) := by decide +kernel
theorem dX7_takesHat_23 : decode cX7_takesHat 23 = .ok (.aload_n 0, 1) := by decide +kernel
theorem dX7_takesHat_24 : decode cX7_takesHat 24 = .ok (.getfield 48, 3) := by decide +kernel
theorem dX7_takesHat_27 : decode cX7_takesHat 27 = .ok (.bipush 28, 2) := by decide +kernel
theorem dX7_takesHat_29 : decode cX7_takesHat 29 = .ok (.aload_n 0, 1) := by decide +kernel
theorem dX7_takesHat_30 : decode cX7_takesHat 30 = .ok (.getfield 51, 3) := by decide +kernel
theorem dX7_takesHat_33 : decode cX7_takesHat 33 = .ok (.iconst 0, 1) := by decide +kernel
theorem dX7_takesHat_34 : decode cX7_takesHat 34 = .ok (.iaload, 1) := by decide +kernel
theorem dX7_takesHat_35 : decode cX7_takesHat 35 = .ok (.iastore, 1) := by decide +kernel
theorem dX7_takesHat_36 : decode cX7_takesHat 36 = .ok (.iconst 1, 1) := by decide +kernel
theorem dX7_takesHat_37 : decode cX7_takesHat 37 = .ok (.ireturn, 1) := by decide +kernel
theorem dX7_takesFoe_0 : decode cX7_takesFoe 0 = .ok (.aload_n 0, 1) := by decide +kernel
theorem dX7_takesFoe_1 : decode cX7_takesFoe 1 = .ok (.invokevirtual 246, 3) := by decide +kernel
theorem dX7_takesFoe_4 : decode cX7_takesFoe 4 = .ok (.aload_n 0, 1) := by decide +kernel
theorem dX7_takesFoe_5 : decode cX7_takesFoe 5 = .ok (.iconst 0, 1) := by decide +kernel
theorem dX7_takesFoe_6 : decode cX7_takesFoe 6 = .ok (.iconst 0, 1) := by decide +kernel
theorem dX7_takesFoe_7 : decode cX7_takesFoe 7 = .ok (.aload_n 0, 1) := by decide +kernel
theorem dX7_takesFoe_8 : decode cX7_takesFoe 8 = .ok (.getfield 48, 3) := by decide +kernel
theorem dX7_takesFoe_11 : decode cX7_takesFoe 11 = .ok (.iconst 0, 1) := by decide +kernel
theorem dX7_takesFoe_12 : decode cX7_takesFoe 12 = .ok (.iaload, 1) := by decide +kernel
theorem dX7_takesFoe_13 : decode cX7_takesFoe 13 = .ok (.iconst 1, 1) := by decide +kernel
theorem dX7_takesFoe_14 : decode cX7_takesFoe 14 = .ok (.isub, 1) := by decide +kernel
theorem dX7_takesFoe_15 : decode cX7_takesFoe 15 = .ok (.invokevirtual 249, 3) := by decide +kernel
theorem dX7_takesFoe_18 : decode cX7_takesFoe 18 = .ok (.ifCond .eq 41, 3) := by decide +kernel
theorem dX7_takesFoe_21 : decode cX7_takesFoe 21 = .ok (.aload_n 0, 1) := by decide +kernel
theorem dX7_takesFoe_22 : decode cX7_takesFoe 22 = .ok (.getfield 230, 3) := by decide +kernel
theorem dX7_takesFoe_25 : decode cX7_takesFoe 25 = .ok (.iconst 2, 1) := by decide +kernel
theorem dX7_takesFoe_26 : decode cX7_takesFoe 26 = .ok (.if_icmp .ne 33, 3) := by decide +kernel
theorem dX7_takesFoe_29 : decode cX7_takesFoe 29 = .ok (.aload_n 0, 1) := by decide +kernel
theorem dX7_takesFoe_30 : decode cX7_takesFoe 30 = .ok (.getfield 233, 3) := by decide +kernel
theorem dX7_takesFoe_33 : decode cX7_takesFoe 33 = .ok (.aload_n 0, 1) := by decide +kernel
theorem dX7_takesFoe_34 : decode cX7_takesFoe 34 = .ok (.getfield 51, 3) := by decide +kernel
theorem dX7_takesFoe_37 : decode cX7_takesFoe 37 = .ok (.iconst 0, 1) := by decide +kernel
theorem dX7_takesFoe_38 : decode cX7_takesFoe 38 = .ok (.iaload, 1) := by decide +kernel
theorem dX7_takesFoe_39 : decode cX7_takesFoe 39 = .ok (.if_icmp .eq 20, 3) := by decide +kernel
theorem dX7_takesFoe_42 : decode cX7_takesFoe 42 = .ok (.aload_n 0, 1) := by decide +kernel
theorem dX7_takesFoe_43 : decode cX7_takesFoe 43 = .ok (.iconst 1, 1) := by decide +kernel
theorem dX7_takesFoe_44 : decode cX7_takesFoe 44 = .ok (.iconst 0, 1) := by decide +kernel
theorem dX7_takesFoe_45 : decode cX7_takesFoe 45 = .ok (.aload_n 0, 1) := by decide +kernel
theorem dX7_takesFoe_46 : decode cX7_takesFoe 46 = .ok (.getfield 48, 3) := by decide +kernel
theorem dX7_takesFoe_49 : decode cX7_takesFoe 49 = .ok (.iconst 0, 1) := by decide +kernel
theorem dX7_takesFoe_50 : decode cX7_takesFoe 50 = .ok (.iaload, 1) := by decide +kernel
theorem dX7_takesFoe_51 : decode cX7_takesFoe 51 = .ok (.iconst 1, 1) := by decide +kernel
theorem dX7_takesFoe_52 : decode cX7_takesFoe 52 = .ok (.isub, 1) := by decide +kernel
theorem dX7_takesFoe_53 : decode cX7_takesFoe 53 = .ok (.invokevirtual 249, 3) := by decide +kernel
theorem dX7_takesFoe_56 : decode cX7_takesFoe 56 = .ok (.ifCond .ne 5, 3) := by decide +kernel
theorem dX7_takesFoe_59 : decode cX7_takesFoe 59 = .ok (.iconst 0, 1) := by decide +kernel
theorem dX7_takesFoe_60 : decode cX7_takesFoe 60 = .ok (.ireturn, 1) := by decide +kernel
theorem dX7_takesFoe_61 : decode cX7_takesFoe 61 = .ok (.aload_n 0, 1) := by decide +kernel
theorem dX7_takesFoe_62 : decode cX7_takesFoe 62 = .ok (.getfield 48, 3) := by decide +kernel
theorem dX7_takesFoe_65 : decode cX7_takesFoe 65 = .ok (.bipush 23, 2) := by decide +kernel
theorem dX7_takesFoe_67 : decode cX7_takesFoe 67 = .ok (.aload_n 0, 1) := by decide +kernel
theorem dX7_takesFoe_68 : decode cX7_takesFoe 68 = .ok (.getfield 51, 3) := by decide +kernel
theorem dX7_takesFoe_71 : decode cX7_takesFoe 71 = .ok (.iconst 0, 1) := by decide +kernel
theorem dX7_takesFoe_72 : decode cX7_takesFoe 72 = .ok (.iaload, 1) := by decide +kernel
theorem dX7_takesFoe_73 : decode cX7_takesFoe 73 = .ok (.iadd, 1) := by decide +kernel
theorem dX7_takesFoe_74 : decode cX7_takesFoe 74 = .ok (.aload_n 0, 1) := by decide +kernel
theorem dX7_takesFoe_75 : decode cX7_takesFoe 75 = .ok (.getfield 51, 3) := by decide +kernel
theorem dX7_takesFoe_78 : decode cX7_takesFoe 78 = .ok (.iconst 1, 1) := by decide +kernel
theorem dX7_takesFoe_79 : decode cX7_takesFoe 79 = .ok (.iaload, 1) := by decide +kernel
theorem dX7_takesFoe_80 : decode cX7_takesFoe 80 = .ok (.iastore, 1) := by decide +kernel
theorem dX7_takesFoe_81 : decode cX7_takesFoe 81 = .ok (.iconst 1, 1) := by decide +kernel
theorem dX7_takesFoe_82 : decode cX7_takesFoe 82 = .ok (.ireturn, 1) := by decide +kernel
theorem dX7_takesItem_0 : decode cX7_takesItem 0 = .ok (.aload_n 0, 1) := by decide +kernel
theorem dX7_takesItem_1 : decode cX7_takesItem 1 = .ok (.iconst 3, 1) := by decide +kernel
theorem dX7_takesItem_2 : decode cX7_takesItem 2 = .ok (.bipush 99, 2) := by decide +kernel
theorem dX7_takesItem_4 : decode cX7_takesItem 4 = .ok (.bipush 97, 2) := by decide +kernel
theorem dX7_takesItem_6 : decode cX7_takesItem 6 = .ok (.bipush 114, 2) := by decide +kernel
theorem dX7_takesItem_8 : decode cX7_takesItem 8 = .ok (.iconst 0, 1) := by decide +kernel
theorem dX7_takesItem_9 : decode cX7_takesItem 9 = .ok (.iconst 0, 1) := by decide +kernel
theorem dX7_takesItem_10 : decode cX7_takesItem 10 = .ok (.iconst 0, 1) := by decide +kernel
theorem dX7_takesItem_11 : decode cX7_takesItem 11 = .ok (.invokevirtual 253, 3) := by decide +kernel
theorem dX7_takesItem_14 : decode cX7_takesItem 14 = .ok (.ifCond .eq 8, 3) := by decide +kernel
theorem dX7_takesItem_17 : decode cX7_takesItem 17 = .ok (.aload_n 0, 1) := by decide +kernel
theorem dX7_takesItem_18 : decode cX7_takesItem 18 = .ok (.invokevirtual 257, 3) := by decide +kernel
theorem dX7_takesItem_21 : decode cX7_takesItem 21 = .ok (.ireturn, 1) := by decide +kernel
theorem dX7_takesItem_22 : decode cX7_takesItem 22 = .ok (.aload_n 0, 1) := by decide +kernel
theorem dX7_takesItem_23 : decode cX7_takesItem 23 = .ok (.iconst 3, 1) := by decide +kernel
theorem dX7_takesItem_24 : decode cX7_takesItem 24 = .ok (.bipush 104, 2) := by decide +kernel
theorem dX7_takesItem_26 : decode cX7_takesItem 26 = .ok (.bipush 97, 2) := by decide +kernel
theorem dX7_takesItem_28 : decode cX7_takesItem 28 = .ok (.bipush 116, 2) := by decide +kernel
theorem dX7_takesItem_30 : decode cX7_takesItem 30 = .ok (.iconst 0, 1) := by decide +kernel
theorem dX7_takesItem_31 : decode cX7_takesItem 31 = .ok (.iconst 0, 1) := by decide +kernel
theorem dX7_takesItem_32 : decode cX7_takesItem 32 = .ok (.iconst 0, 1) := by decide +kernel
theorem dX7_takesItem_33 : decode cX7_takesItem 33 = .ok (.invokevirtual 253, 3) := by decide +kernel
theorem dX7_takesItem_36 : decode cX7_takesItem 36 = .ok (.ifCond .eq 8, 3) := by decide +kernel
theorem dX7_takesItem_39 : decode cX7_takesItem 39 = .ok (.aload_n 0, 1) := by decide +kernel
theorem dX7_takesItem_40 : decode cX7_takesItem 40 = .ok (.invokevirtual 261, 3) := by decide +kernel
theorem dX7_takesItem_43 : decode cX7_takesItem 43 = .ok (.ireturn, 1) := by decide +kernel
theorem dX7_takesItem_44 : decode cX7_takesItem 44 = .ok (.aload_n 0, 1) := by decide +kernel
theorem dX7_takesItem_45 : decode cX7_takesItem 45 = .ok (.iconst 3, 1) := by decide +kernel
theorem dX7_takesItem_46 : decode cX7_takesItem 46 = .ok (.bipush 102, 2) := by decide +kernel
theorem dX7_takesItem_48 : decode cX7_takesItem 48 = .ok (.bipush 111, 2) := by decide +kernel
theorem dX7_takesItem_50 : decode cX7_takesItem 50 = .ok (.bipush 101, 2) := by decide +kernel
theorem dX7_takesItem_52 : decode cX7_takesItem 52 = .ok (.iconst 0, 1) := by decide +kernel
theorem dX7_takesItem_53 : decode cX7_takesItem 53 = .ok (.iconst 0, 1) := by decide +kernel
theorem dX7_takesItem_54 : decode cX7_takesItem 54 = .ok (.iconst 0, 1) := by decide +kernel
theorem dX7_takesItem_55 : decode cX7_takesItem 55 = .ok (.invokevirtual 253, 3) := by decide +kernel
theorem dX7_takesItem_58 : decode cX7_takesItem 58 = .ok (.ifCond .eq 14, 3) := by decide +kernel
theorem dX7_takesItem_61 : decode cX7_takesItem 61 = .ok (.aload_n 0, 1) := by decide +kernel
theorem dX7_takesItem_62 : decode cX7_takesItem 62 = .ok (.invokevirtual 264, 3) := by decide +kernel
theorem dX7_takesItem_65 : decode cX7_takesItem 65 = .ok (.ifCond .eq 7, 3) := by decide +kernel
theorem dX7_takesItem_68 : decode cX7_takesItem 68 = .ok (.iconst 1, 1) := by decide +kernel
theorem dX7_takesItem_69 : decode cX7_takesItem 69 = .ok (.goto 4, 3) := by decide +kernel
theorem dX7_takesItem_72 : decode cX7_takesItem 72 = .ok (.iconst 0, 1) := by decide +kernel
theorem dX7_takesItem_73 : decode cX7_takesItem 73 = .ok (.ireturn, 1) := by decide +kernel
theorem dX7_read_0 : decode cX7_read 0 = .ok (.aload_n 0, 1) := by decide +kernel
theorem dX7_read_1 : decode cX7_read 1 = .ok (.iconst 0, 1) := by decide +kernel
theorem dX7_read_2 : decode cX7_read 2 = .ok (.invokevirtual 242, 3) := by decide +kernel
theorem dX7_read_5 : decode cX7_read 5 = .ok (.aload_n 0, 1) := by decide +kernel
theorem dX7_read_6 : decode cX7_read 6 = .ok (.iconst 5, 1) := by decide +kernel
theorem dX7_read_7 : decode cX7_read 7 = .ok (.bipush 102, 2) := by decide +kernel
theorem dX7_read_9 : decode cX7_read 9 = .ok (.bipush 108, 2) := by decide +kernel
theorem dX7_read_11 : decode cX7_read 11 = .ok (.bipush 111, 2) := by decide +kernel
theorem dX7_read_13 : decode cX7_read 13 = .ok (.bipush 111, 2) := by decide +kernel
theorem dX7_read_15 : decode cX7_read 15 = .ok (.bipush 114, 2) := by decide +kernel
theorem dX7_read_17 : decode cX7_read 17 = .ok (.iconst 0, 1) := by decide +kernel
theorem dX7_read_18 : decode cX7_read 18 = .ok (.invokevirtual 253, 3) := by decide +kernel
theorem dX7_read_21 : decode cX7_read 21 = .ok (.ifCond .ne 11, 3) := by decide +kernel
theorem dX7_read_24 : decode cX7_read 24 = .ok (.bipush (-10), 2) := by decide +kernel
theorem dX7_read_26 : decode cX7_read 26 = .ok (.aload_n 0, 1) := by decide +kernel
theorem dX7_read_27 : decode cX7_read 27 = .ok (.getfield 224, 3) := by decide +kernel
theorem dX7_read_30 : decode cX7_read 30 = .ok (.isub, 1) := by decide +kernel
theorem dX7_read_31 : decode cX7_read 31 = .ok (.ireturn, 1) := by decide +kernel
theorem dX7_read_32 : decode cX7_read 32 = .ok (.aload_n 0, 1) := by decide +kernel
theorem dX7_read_33 : decode cX7_read 33 = .ok (.invokevirtual 246, 3) := by decide +kernel
theorem dX7_read_36 : decode cX7_read 36 = .ok (.aload_n 0, 1) := by decide +kernel
theorem dX7_read_37 : decode cX7_read 37 = .ok (.getfield 230, 3) := by decide +kernel
theorem dX7_read_40 : decode cX7_read 40 = .ok (.iconst 3, 1) := by decide +kernel
theorem dX7_read_41 : decode cX7_read 41 = .ok (.if_icmp .eq 11, 3) := by decide +kernel
theorem dX7_read_44 : decode cX7_read 44 = .ok (.bipush (-10), 2) := by decide +kernel
theorem dX7_read_46 : decode cX7_read 46 = .ok (.aload_n 0, 1) := by decide +kernel
theorem dX7_read_47 : decode cX7_read 47 = .ok (.getfield 224, 3) := by decide +kernel
theorem dX7_read_50 : decode cX7_read 50 = .ok (.isub, 1) := by decide +kernel
theorem dX7_read_51 : decode cX7_read 51 = .ok (.ireturn, 1) := by decide +kernel
theorem dX7_read_52 : decode cX7_read 52 = .ok (.aload_n 0, 1) := by decide +kernel
theorem dX7_read_53 : decode cX7_read 53 = .ok (.invokevirtual 246, 3) := by decide +kernel
theorem dX7_read_56 : decode cX7_read 56 = .ok (.aload_n 0, 1) := by decide +kernel
theorem dX7_read_57 : decode cX7_read 57 = .ok (.getfield 48, 3) := by decide +kernel
theorem dX7_read_60 : decode cX7_read 60 = .ok (.invokestatic 54, 3) := by decide +kernel
theorem dX7_read_63 : decode cX7_read 63 = .ok (.iconst 1, 1) := by decide +kernel
theorem dX7_read_64 : decode cX7_read 64 = .ok (.istore_n 1, 1) := by decide +kernel
theorem dX7_read_65 : decode cX7_read 65 = .ok (.aload_n 0, 1) := by decide +kernel
theorem dX7_read_66 : decode cX7_read 66 = .ok (.getfield 230, 3) := by decide +kernel
theorem dX7_read_69 : decode cX7_read 69 = .ok (.ifCond .eq 36, 3) := by decide +kernel
theorem dX7_read_72 : decode cX7_read 72 = .ok (.aload_n 0, 1) := by decide +kernel
theorem dX7_read_73 : decode cX7_read 73 = .ok (.invokevirtual 267, 3) := by decide +kernel
theorem dX7_read_76 : decode cX7_read 76 = .ok (.ifCond .eq 11, 3) := by decide +kernel
theorem dX7_read_79 : decode cX7_read 79 = .ok (.aload_n 0, 1) := by decide +kernel
theorem dX7_read_80 : decode cX7_read 80 = .ok (.getfield 230, 3) := by decide +kernel
theorem dX7_read_83 : decode cX7_read 83 = .ok (.iconst 3, 1) := by decide +kernel
theorem dX7_read_84 : decode cX7_read 84 = .ok (.if_icmp .eq 11, 3) := by decide +kernel
theorem dX7_read_87 : decode cX7_read 87 = .ok (.bipush (-10), 2) := by decide +kernel
theorem dX7_read_89 : decode cX7_read 89 = .ok (.aload_n 0, 1) := by decide +kernel
theorem dX7_read_90 : decode cX7_read 90 = .ok (.getfield 224, 3) := by decide +kernel
theorem dX7_read_93 : decode cX7_read 93 = .ok (.isub, 1) := by decide +kernel
theorem dX7_read_94 : decode cX7_read 94 = .ok (.ireturn, 1) := by decide +kernel
theorem dX7_read_95 : decode cX7_read 95 = .ok (.aload_n 0, 1) := by decide +kernel
theorem dX7_read_96 : decode cX7_read 96 = .ok (.invokevirtual 246, 3) := by decide +kernel
theorem dX7_read_99 : decode cX7_read 99 = .ok (.iinc 1 1, 3) := by decide +kernel
theorem dX7_read_102 : decode cX7_read 102 = .ok (.goto (-37), 3) := by decide +kernel
theorem dX7_read_105 : decode cX7_read 105 = .ok (.iconst 0, 1) := by decide +kernel
theorem dX7_read_106 : decode cX7_read 106 = .ok (.istore_n 2, 1) := by decide +kernel
theorem dX7_read_107 : decode cX7_read 107 = .ok (.iload_n 2, 1) := by decide +kernel
theorem dX7_read_108 : decode cX7_read 108 = .ok (.bipush 77, 2) := by decide +kernel
theorem dX7_read_110 : decode cX7_read 110 = .ok (.if_icmp .ge 21, 3) := by decide +kernel
theorem dX7_read_113 : decode cX7_read 113 = .ok (.aload_n 0, 1) := by decide +kernel
theorem dX7_read_114 : decode cX7_read 114 = .ok (.getfield 7, 3) := by decide +kernel
theorem dX7_read_117 : decode cX7_read 117 = .ok (.iload_n 2, 1) := by decide +kernel
theorem dX7_read_118 : decode cX7_read 118 = .ok (.aload_n 0, 1) := by decide +kernel
theorem dX7_read_119 : decode cX7_read 119 = .ok (.getfield 48, 3) := by decide +kernel
theorem dX7_read_122 : decode cX7_read 122 = .ok (.iload_n 2, 1) := by decide +kernel
theorem dX7_read_123 : decode cX7_read 123 = .ok (.iaload, 1) := by decide +kernel
theorem dX7_read_124 : decode cX7_read 124 = .ok (.iastore, 1) := by decide +kernel
theorem dX7_read_125 : decode cX7_read 125 = .ok (.iinc 2 1, 3) := by decide +kernel
theorem dX7_read_128 : decode cX7_read 128 = .ok (.goto (-21), 3) := by decide +kernel
theorem dX7_read_131 : decode cX7_read 131 = .ok (.iload_n 1, 1) := by decide +kernel
theorem dX7_read_132 : decode cX7_read 132 = .ok (.ireturn, 1) := by decide +kernel
theorem dX7_part_0 : decode cX7_part 0 = .ok (.iload_n 1, 1) := by decide +kernel
theorem dX7_part_1 : decode cX7_part 1 = .ok (.ifCond .ne 10, 3) := by decide +kernel
theorem dX7_part_4 : decode cX7_part 4 = .ok (.aload_n 0, 1) := by decide +kernel
theorem dX7_part_5 : decode cX7_part 5 = .ok (.getfield 186, 3) := by decide +kernel
theorem dX7_part_8 : decode cX7_part 8 = .ok (.goto 22, 3) := by decide +kernel
theorem dX7_part_11 : decode cX7_part 11 = .ok (.iload_n 1, 1) := by decide +kernel
theorem dX7_part_12 : decode cX7_part 12 = .ok (.iconst 1, 1) := by decide +kernel
theorem dX7_part_13 : decode cX7_part 13 = .ok (.if_icmp .ne 10, 3) := by decide +kernel
theorem dX7_part_16 : decode cX7_part 16 = .ok (.aload_n 0, 1) := by decide +kernel
theorem dX7_part_17 : decode cX7_part 17 = .ok (.getfield 23, 3) := by decide +kernel
theorem dX7_part_20 : decode cX7_part 20 = .ok (.goto 10, 3) := by decide +kernel
theorem dX7_part_23 : decode cX7_part 23 = .ok (.aload_n 0, 1) := by decide +kernel
theorem dX7_part_24 : decode cX7_part 24 = .ok (.bipush (-2), 2) := by decide +kernel
theorem dX7_part_26 : decode cX7_part 26 = .ok (.invokevirtual 79, 3) := by decide +kernel
theorem dX7_part_29 : decode cX7_part 29 = .ok (.i2l, 1) := by decide +kernel
theorem dX7_part_30 : decode cX7_part 30 = .ok (.lreturn, 1) := by decide +kernel
theorem dX7_image_0 : decode cX7_image 0 = .ok (.iload_n 1, 1) := by decide +kernel
theorem dX7_image_1 : decode cX7_image 1 = .ok (.i2l, 1) := by decide +kernel
theorem dX7_image_2 : decode cX7_image 2 = .ok (.lconst 0, 1) := by decide +kernel
theorem dX7_image_3 : decode cX7_image 3 = .ok (.lconst 1, 1) := by decide +kernel
theorem dX7_image_4 : decode cX7_image 4 = .ok (.invokestatic 62, 3) := by decide +kernel
theorem dX7_image_7 : decode cX7_image 7 = .ok (.ifCond .ne 10, 3) := by decide +kernel
theorem dX7_image_10 : decode cX7_image 10 = .ok (.aload_n 0, 1) := by decide +kernel
theorem dX7_image_11 : decode cX7_image 11 = .ok (.bipush (-2), 2) := by decide +kernel
theorem dX7_image_13 : decode cX7_image 13 = .ok (.invokevirtual 79, 3) := by decide +kernel
theorem dX7_image_16 : decode cX7_image 16 = .ok (.ireturn, 1) := by decide +kernel
theorem dX7_image_17 : decode cX7_image 17 = .ok (.iconst 0, 1) := by decide +kernel
theorem dX7_image_18 : decode cX7_image 18 = .ok (.istore_n 2, 1) := by decide +kernel
theorem dX7_image_19 : decode cX7_image 19 = .ok (.iload_n 2, 1) := by decide +kernel
theorem dX7_image_20 : decode cX7_image 20 = .ok (.sipush 293, 3) := by decide +kernel
theorem dX7_image_23 : decode cX7_image 23 = .ok (.if_icmp .ge 27, 3) := by decide +kernel
theorem dX7_image_26 : decode cX7_image 26 = .ok (.aload_n 0, 1) := by decide +kernel
theorem dX7_image_27 : decode cX7_image 27 = .ok (.getfield 13, 3) := by decide +kernel
theorem dX7_image_30 : decode cX7_image 30 = .ok (.sipush 293, 3) := by decide +kernel
theorem dX7_image_33 : decode cX7_image 33 = .ok (.iload_n 1, 1) := by decide +kernel
theorem dX7_image_34 : decode cX7_image 34 = .ok (.imul, 1) := by decide +kernel
theorem dX7_image_35 : decode cX7_image 35 = .ok (.iload_n 2, 1) := by decide +kernel
theorem dX7_image_36 : decode cX7_image 36 = .ok (.iadd, 1) := by decide +kernel
theorem dX7_image_37 : decode cX7_image 37 = .ok (.aload_n 0, 1) := by decide +kernel
theorem dX7_image_38 : decode cX7_image 38 = .ok (.getfield 7, 3) := by decide +kernel
theorem dX7_image_41 : decode cX7_image 41 = .ok (.iload_n 2, 1) := by decide +kernel
theorem dX7_image_42 : decode cX7_image 42 = .ok (.iaload, 1) := by decide +kernel
theorem dX7_image_43 : decode cX7_image 43 = .ok (.iastore, 1) := by decide +kernel
theorem dX7_image_44 : decode cX7_image 44 = .ok (.iinc 2 1, 3) := by decide +kernel
theorem dX7_image_47 : decode cX7_image 47 = .ok (.goto (-28), 3) := by decide +kernel
theorem dX7_image_50 : decode cX7_image 50 = .ok (.aload_n 0, 1) := by decide +kernel
theorem dX7_image_51 : decode cX7_image 51 = .ok (.getfield 16, 3) := by decide +kernel
theorem dX7_image_54 : decode cX7_image 54 = .ok (.iload_n 1, 1) := by decide +kernel
theorem dX7_image_55 : decode cX7_image 55 = .ok (.iconst 1, 1) := by decide +kernel
theorem dX7_image_56 : decode cX7_image 56 = .ok (.bastore, 1) := by decide +kernel
theorem dX7_image_57 : decode cX7_image 57 = .ok (.iconst 1, 1) := by decide +kernel
theorem dX7_image_58 : decode cX7_image 58 = .ok (.ireturn, 1) := by decide +kernel
theorem dX7_from_0 : decode cX7_from 0 = .ok (.iload_n 1, 1) := by decide +kernel
theorem dX7_from_1 : decode cX7_from 1 = .ok (.i2l, 1) := by decide +kernel
theorem dX7_from_2 : decode cX7_from 2 = .ok (.lconst 0, 1) := by decide +kernel
theorem dX7_from_3 : decode cX7_from 3 = .ok (.lconst 1, 1) := by decide +kernel
theorem dX7_from_4 : decode cX7_from 4 = .ok (.invokestatic 62, 3) := by decide +kernel
theorem dX7_from_7 : decode cX7_from 7 = .ok (.ifCond .ne 10, 3) := by decide +kernel
theorem dX7_from_10 : decode cX7_from 10 = .ok (.aload_n 0, 1) := by decide +kernel
theorem dX7_from_11 : decode cX7_from 11 = .ok (.bipush (-2), 2) := by decide +kernel
theorem dX7_from_13 : decode cX7_from 13 = .ok (.invokevirtual 79, 3) := by decide +kernel
theorem dX7_from_16 : decode cX7_from 16 = .ok (.ireturn, 1) := by decide +kernel
theorem dX7_from_17 : decode cX7_from 17 = .ok (.aload_n 0, 1) := by decide +kernel
theorem dX7_from_18 : decode cX7_from 18 = .ok (.getfield 16, 3) := by decide +kernel
theorem dX7_from_21 : decode cX7_from 21 = .ok (.iload_n 1, 1) := by decide +kernel
theorem dX7_from_22 : decode cX7_from 22 = .ok (.baload, 1) := by decide +kernel
theorem dX7_from_23 : decode cX7_from 23 = .ok (.ifCond .ne 8, 3) := by decide +kernel
theorem dX7_from_26 : decode cX7_from 26 = .ok (.aload_n 0, 1) := by decide +kernel
theorem dX7_from_27 : decode cX7_from 27 = .ok (.invokevirtual 87, 3) := by decide +kernel
theorem dX7_from_30 : decode cX7_from 30 = .ok (.ireturn, 1) := by decide +kernel
theorem dX7_from_31 : decode cX7_from 31 = .ok (.iconst 0, 1) := by decide +kernel
theorem dX7_from_32 : decode cX7_from 32 = .ok (.istore_n 2, 1) := by decide +kernel
theorem dX7_from_33 : decode cX7_from 33 = .ok (.iload_n 2, 1) := by decide +kernel
theorem dX7_from_34 : decode cX7_from 34 = .ok (.sipush 293, 3) := by decide +kernel
theorem dX7_from_37 : decode cX7_from 37 = .ok (.if_icmp .ge 27, 3) := by decide +kernel
theorem dX7_from_40 : decode cX7_from 40 = .ok (.aload_n 0, 1) := by decide +kernel
theorem dX7_from_41 : decode cX7_from 41 = .ok (.getfield 7, 3) := by decide +kernel
theorem dX7_from_44 : decode cX7_from 44 = .ok (.iload_n 2, 1) := by decide +kernel
theorem dX7_from_45 : decode cX7_from 45 = .ok (.aload_n 0, 1) := by decide +kernel
theorem dX7_from_46 : decode cX7_from 46 = .ok (.getfield 13, 3) := by decide +kernel
theorem dX7_from_49 : decode cX7_from 49 = .ok (.sipush 293, 3) := by decide +kernel
theorem dX7_from_52 : decode cX7_from 52 = .ok (.iload_n 1, 1) := by decide +kernel
theorem dX7_from_53 : decode cX7_from 53 = .ok (.imul, 1) := by decide +kernel
theorem dX7_from_54 : decode cX7_from 54 = .ok (.iload_n 2, 1) := by decide +kernel
theorem dX7_from_55 : decode cX7_from 55 = .ok (.iadd, 1) := by decide +kernel
theorem dX7_from_56 : decode cX7_from 56 = .ok (.iaload, 1) := by decide +kernel
theorem dX7_from_57 : decode cX7_from 57 = .ok (.iastore, 1) := by decide +kernel
theorem dX7_from_58 : decode cX7_from 58 = .ok (.iinc 2 1, 3) := by decide +kernel
theorem dX7_from_61 : decode cX7_from 61 = .ok (.goto (-28), 3) := by decide +kernel
theorem dX7_from_64 : decode cX7_from 64 = .ok (.iconst 1, 1) := by decide +kernel
theorem dX7_from_65 : decode cX7_from 65 = .ok (.ireturn, 1) := by decide +kernel
theorem dX7_status_0 : decode cX7_status 0 = .ok (.iload_n 1, 1) := by decide +kernel
theorem dX7_status_1 : decode cX7_status 1 = .ok (.i2l, 1) := by decide +kernel
theorem dX7_status_2 : decode cX7_status 2 = .ok (.lconst 0, 1) := by decide +kernel
theorem dX7_status_3 : decode cX7_status 3 = .ok (.ldc2_w 175, 3) := by decide +kernel
theorem dX7_status_6 : decode cX7_status 6 = .ok (.invokestatic 62, 3) := by decide +kernel
theorem dX7_status_9 : decode cX7_status 9 = .ok (.ifCond .eq 12, 3) := by decide +kernel
theorem dX7_status_12 : decode cX7_status 12 = .ok (.aload_n 0, 1) := by decide +kernel
theorem dX7_status_13 : decode cX7_status 13 = .ok (.getfield 20, 3) := by decide +kernel
theorem dX7_status_16 : decode cX7_status 16 = .ok (.iload_n 1, 1) := by decide +kernel
theorem dX7_status_17 : decode cX7_status 17 = .ok (.iaload, 1) := by decide +kernel
theorem dX7_status_18 : decode cX7_status 18 = .ok (.goto 8, 3) := by decide +kernel
theorem dX7_status_21 : decode cX7_status 21 = .ok (.aload_n 0, 1) := by decide +kernel
theorem dX7_status_22 : decode cX7_status 22 = .ok (.iconst (-1), 1) := by decide +kernel
theorem dX7_status_23 : decode cX7_status 23 = .ok (.invokevirtual 79, 3) := by decide +kernel
theorem dX7_status_26 : decode cX7_status 26 = .ok (.ireturn, 1) := by decide +kernel
theorem dX7_allGiven_0 : decode cX7_allGiven 0 = .ok (.iconst 0, 1) := by decide +kernel
theorem dX7_allGiven_1 : decode cX7_allGiven 1 = .ok (.istore_n 1, 1) := by decide +kernel
theorem dX7_allGiven_2 : decode cX7_allGiven 2 = .ok (.iconst 0, 1) := by decide +kernel
theorem dX7_allGiven_3 : decode cX7_allGiven 3 = .ok (.istore_n 2, 1) := by decide +kernel
theorem dX7_allGiven_4 : decode cX7_allGiven 4 = .ok (.iload_n 2, 1) := by decide +kernel
theorem dX7_allGiven_5 : decode cX7_allGiven 5 = .ok (.aload_n 0, 1) := by decide +kernel
theorem dX7_allGiven_6 : decode cX7_allGiven 6 = .ok (.invokevirtual 58, 3) := by decide +kernel
theorem dX7_allGiven_9 : decode cX7_allGiven 9 = .ok (.if_icmp .ge 19, 3) := by decide +kernel
theorem dX7_allGiven_12 : decode cX7_allGiven 12 = .ok (.iload_n 1, 1) := by decide +kernel
theorem dX7_allGiven_13 : decode cX7_allGiven 13 = .ok (.aload_n 0, 1) := by decide +kernel
theorem dX7_allGiven_14 : decode cX7_allGiven 14 = .ok (.bipush 15, 2) := by decide +kernel
theorem dX7_allGiven_16 : decode cX7_allGiven 16 = .ok (.iload_n 2, 1) := by decide +kernel
theorem dX7_allGiven_17 : decode cX7_allGiven 17 = .ok (.invokevirtual 143, 3) := by decide +kernel
theorem dX7_allGiven_20 : decode cX7_allGiven 20 = .ok (.iadd, 1) := by decide +kernel
theorem dX7_allGiven_21 : decode cX7_allGiven 21 = .ok (.istore_n 1, 1) := by decide +kernel
theorem dX7_allGiven_22 : decode cX7_allGiven 22 = .ok (.iinc 2 1, 3) := by decide +kernel
theorem dX7_allGiven_25 : decode cX7_allGiven 25 = .ok (.goto (-21), 3) := by decide +kernel
theorem dX7_allGiven_28 : decode cX7_allGiven 28 = .ok (.iload_n 1, 1) := by decide +kernel
theorem dX7_allGiven_29 : decode cX7_allGiven 29 = .ok (.ireturn, 1) := by decide +kernel
theorem dX7_counted_0 : decode cX7_counted 0 = .ok (.iload_n 1, 1) := by decide +kernel
theorem dX7_counted_1 : decode cX7_counted 1 = .ok (.tableswitch 67 0 4 #[35, 40, 48, 53, 60], 35) := by decide +kernel
theorem dX7_counted_36 : decode cX7_counted 36 = .ok (.aload_n 0, 1) := by decide +kernel
theorem dX7_counted_37 : decode cX7_counted 37 = .ok (.invokevirtual 58, 3) := by decide +kernel
theorem dX7_counted_40 : decode cX7_counted 40 = .ok (.ireturn, 1) := by decide +kernel
theorem dX7_counted_41 : decode cX7_counted 41 = .ok (.aload_n 0, 1) := by decide +kernel
theorem dX7_counted_42 : decode cX7_counted 42 = .ok (.bipush 26, 2) := by decide +kernel
theorem dX7_counted_44 : decode cX7_counted 44 = .ok (.iconst 0, 1) := by decide +kernel
theorem dX7_counted_45 : decode cX7_counted 45 = .ok (.invokevirtual 143, 3) := by decide +kernel
theorem dX7_counted_48 : decode cX7_counted 48 = .ok (.ireturn, 1) := by decide +kernel
theorem dX7_counted_49 : decode cX7_counted 49 = .ok (.aload_n 0, 1) := by decide +kernel
theorem dX7_counted_50 : decode cX7_counted 50 = .ok (.invokevirtual 270, 3) := by decide +kernel
theorem dX7_counted_53 : decode cX7_counted 53 = .ok (.ireturn, 1) := by decide +kernel
theorem dX7_counted_54 : decode cX7_counted 54 = .ok (.aload_n 0, 1) := by decide +kernel
theorem dX7_counted_55 : decode cX7_counted 55 = .ok (.getfield 7, 3) := by decide +kernel
theorem dX7_counted_58 : decode cX7_counted 58 = .ok (.iconst 1, 1) := by decide +kernel
theorem dX7_counted_59 : decode cX7_counted 59 = .ok (.iaload, 1) := by decide +kernel
theorem dX7_counted_60 : decode cX7_counted 60 = .ok (.ireturn, 1) := by decide +kernel
theorem dX7_counted_61 : decode cX7_counted 61 = .ok (.aload_n 0, 1) := by decide +kernel
theorem dX7_counted_62 : decode cX7_counted 62 = .ok (.getfield 7, 3) := by decide +kernel
theorem dX7_counted_65 : decode cX7_counted 65 = .ok (.iconst 2, 1) := by decide +kernel
theorem dX7_counted_66 : decode cX7_counted 66 = .ok (.iaload, 1) := by decide +kernel
theorem dX7_counted_67 : decode cX7_counted 67 = .ok (.ireturn, 1) := by decide +kernel
theorem dX7_counted_68 : decode cX7_counted 68 = .ok (.aload_n 0, 1) := by decide +kernel
theorem dX7_counted_69 : decode cX7_counted 69 = .ok (.getfield 213, 3) := by decide +kernel
theorem dX7_counted_72 : decode cX7_counted 72 = .ok (.ireturn, 1) := by decide +kernel
theorem dX7_count_0 : decode cX7_count 0 = .ok (.iload_n 1, 1) := by decide +kernel
theorem dX7_count_1 : decode cX7_count 1 = .ok (.i2l, 1) := by decide +kernel
theorem dX7_count_2 : decode cX7_count 2 = .ok (.lconst 0, 1) := by decide +kernel
theorem dX7_count_3 : decode cX7_count 3 = .ok (.ldc2_w 70, 3) := by decide +kernel
theorem dX7_count_6 : decode cX7_count 6 = .ok (.invokestatic 62, 3) := by decide +kernel
theorem dX7_count_9 : decode cX7_count 9 = .ok (.ifCond .eq 11, 3) := by decide +kernel
theorem dX7_count_12 : decode cX7_count 12 = .ok (.aload_n 0, 1) := by decide +kernel
theorem dX7_count_13 : decode cX7_count 13 = .ok (.iload_n 1, 1) := by decide +kernel
theorem dX7_count_14 : decode cX7_count 14 = .ok (.invokevirtual 273, 3) := by decide +kernel
theorem dX7_count_17 : decode cX7_count 17 = .ok (.goto 9, 3) := by decide +kernel
theorem dX7_count_20 : decode cX7_count 20 = .ok (.aload_n 0, 1) := by decide +kernel
theorem dX7_count_21 : decode cX7_count 21 = .ok (.bipush (-2), 2) := by decide +kernel
theorem dX7_count_23 : decode cX7_count 23 = .ok (.invokevirtual 79, 3) := by decide +kernel
theorem dX7_count_26 : decode cX7_count 26 = .ok (.ireturn, 1) := by decide +kernel
theorem dX7_sums_0 : decode cX7_sums 0 = .ok (.lload_n 1, 1) := by decide +kernel
theorem dX7_sums_1 : decode cX7_sums 1 = .ok (.lstore 5, 2) := by decide +kernel
theorem dX7_sums_3 : decode cX7_sums 3 = .ok (.iconst 0, 1) := by decide +kernel
theorem dX7_sums_4 : decode cX7_sums 4 = .ok (.istore 7, 2) := by decide +kernel
theorem dX7_sums_6 : decode cX7_sums 6 = .ok (.iload 7, 2) := by decide +kernel
theorem dX7_sums_8 : decode cX7_sums 8 = .ok (.iload 4, 2) := by decide +kernel
theorem dX7_sums_10 : decode cX7_sums 10 = .ok (.if_icmp .ge 28, 3) := by decide +kernel
theorem dX7_sums_13 : decode cX7_sums 13 = .ok (.ldc2_w 276, 3) := by decide +kernel
theorem dX7_sums_16 : decode cX7_sums 16 = .ok (.lload 5, 2) := by decide +kernel
theorem dX7_sums_18 : decode cX7_sums 18 = .ok (.lmul, 1) := by decide +kernel
theorem dX7_sums_19 : decode cX7_sums 19 = .ok (.aload_n 0, 1) := by decide +kernel
