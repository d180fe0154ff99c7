theorem dX7_run_126 : decode cX7_run 126 = .ok (.imul, 1) := by decide +kernel
theorem dX7_run_127 : decode cX7_run 127 = .ok (.bipush 100, 2) := by decide +kernel
theorem dX7_run_129 : decode cX7_run 129 = .ok (.iload 5, 2) := by decide +kernel
theorem dX7_run_131 : decode cX7_run 131 = .ok (.imul, 1) := by decide +kernel
theorem dX7_run_132 : decode cX7_run 132 = .ok (.iadd, 1) := by decide +kernel
theorem dX7_run_133 : decode cX7_run 133 = .ok (.iload 6, 2) := by decide +kernel
theorem dX7_run_135 : decode cX7_run 135 = .ok (.iadd, 1) := by decide +kernel
theorem dX7_run_136 : decode cX7_run 136 = .ok (.istore 7, 2) := by decide +kernel
theorem dX7_run_138 : decode cX7_run 138 = .ok (.aload_n 0, 1) := by decide +kernel
theorem dX7_run_139 : decode cX7_run 139 = .ok (.iload_n 1, 1) := by decide +kernel
theorem dX7_run_140 : decode cX7_run 140 = .ok (.iload 4, 2) := by decide +kernel
theorem dX7_run_142 : decode cX7_run 142 = .ok (.invokevirtual 170, 3) := by decide +kernel
theorem dX7_run_145 : decode cX7_run 145 = .ok (.ifCond .eq 15, 3) := by decide +kernel
theorem dX7_run_148 : decode cX7_run 148 = .ok (.aload_n 0, 1) := by decide +kernel
theorem dX7_run_149 : decode cX7_run 149 = .ok (.iload_n 3, 1) := by decide +kernel
theorem dX7_run_150 : decode cX7_run 150 = .ok (.iload 7, 2) := by decide +kernel
theorem dX7_run_152 : decode cX7_run 152 = .ok (.invokevirtual 173, 3) := by decide +kernel
theorem dX7_run_155 : decode cX7_run 155 = .ok (.aload_n 0, 1) := by decide +kernel
theorem dX7_run_156 : decode cX7_run 156 = .ok (.getfield 160, 3) := by decide +kernel
theorem dX7_run_159 : decode cX7_run 159 = .ok (.ireturn, 1) := by decide +kernel
theorem dX7_run_160 : decode cX7_run 160 = .ok (.aload_n 0, 1) := by decide +kernel
theorem dX7_run_161 : decode cX7_run 161 = .ok (.iload_n 1, 1) := by decide +kernel
theorem dX7_run_162 : decode cX7_run 162 = .ok (.invokevirtual 176, 3) := by decide +kernel
theorem dX7_run_165 : decode cX7_run 165 = .ok (.ifCond .eq 6, 3) := by decide +kernel
theorem dX7_run_168 : decode cX7_run 168 = .ok (.goto (-130), 3) := by decide +kernel
theorem dX7_run_171 : decode cX7_run 171 = .ok (.aload_n 0, 1) := by decide +kernel
theorem dX7_run_172 : decode cX7_run 172 = .ok (.getfield 157, 3) := by decide +kernel
theorem dX7_run_175 : decode cX7_run 175 = .ok (.iload_n 2, 1) := by decide +kernel
theorem dX7_run_176 : decode cX7_run 176 = .ok (.if_icmp .ne 6, 3) := by decide +kernel
theorem dX7_run_179 : decode cX7_run 179 = .ok (.bipush (-2), 2) := by decide +kernel
theorem dX7_run_181 : decode cX7_run 181 = .ok (.ireturn, 1) := by decide +kernel
theorem dX7_run_182 : decode cX7_run 182 = .ok (.iconst 0, 1) := by decide +kernel
theorem dX7_run_183 : decode cX7_run 183 = .ok (.istore 8, 2) := by decide +kernel
theorem dX7_run_185 : decode cX7_run 185 = .ok (.iload 8, 2) := by decide +kernel
theorem dX7_run_187 : decode cX7_run 187 = .ok (.bipush 18, 2) := by decide +kernel
theorem dX7_run_189 : decode cX7_run 189 = .ok (.if_icmp .ge 31, 3) := by decide +kernel
theorem dX7_run_192 : decode cX7_run 192 = .ok (.aload_n 0, 1) := by decide +kernel
theorem dX7_run_193 : decode cX7_run 193 = .ok (.getfield 60, 3) := by decide +kernel
theorem dX7_run_196 : decode cX7_run 196 = .ok (.aload_n 0, 1) := by decide +kernel
theorem dX7_run_197 : decode cX7_run 197 = .ok (.getfield 157, 3) := by decide +kernel
theorem dX7_run_200 : decode cX7_run 200 = .ok (.bipush 18, 2) := by decide +kernel
theorem dX7_run_202 : decode cX7_run 202 = .ok (.imul, 1) := by decide +kernel
theorem dX7_run_203 : decode cX7_run 203 = .ok (.iload 8, 2) := by decide +kernel
theorem dX7_run_205 : decode cX7_run 205 = .ok (.iadd, 1) := by decide +kernel
theorem dX7_run_206 : decode cX7_run 206 = .ok (.aload_n 0, 1) := by decide +kernel
theorem dX7_run_207 : decode cX7_run 207 = .ok (.getfield 72, 3) := by decide +kernel
theorem dX7_run_210 : decode cX7_run 210 = .ok (.iload 8, 2) := by decide +kernel
theorem dX7_run_212 : decode cX7_run 212 = .ok (.iaload, 1) := by decide +kernel
theorem dX7_run_213 : decode cX7_run 213 = .ok (.iastore, 1) := by decide +kernel
theorem dX7_run_214 : decode cX7_run 214 = .ok (.iinc 8 1, 3) := by decide +kernel
theorem dX7_run_217 : decode cX7_run 217 = .ok (.goto (-32), 3) := by decide +kernel
theorem dX7_run_220 : decode cX7_run 220 = .ok (.aload_n 0, 1) := by decide +kernel
theorem dX7_run_221 : decode cX7_run 221 = .ok (.getfield 63, 3) := by decide +kernel
theorem dX7_run_224 : decode cX7_run 224 = .ok (.aload_n 0, 1) := by decide +kernel
theorem dX7_run_225 : decode cX7_run 225 = .ok (.getfield 157, 3) := by decide +kernel
theorem dX7_run_228 : decode cX7_run 228 = .ok (.iload_n 3, 1) := by decide +kernel
theorem dX7_run_229 : decode cX7_run 229 = .ok (.iastore, 1) := by decide +kernel
theorem dX7_run_230 : decode cX7_run 230 = .ok (.aload_n 0, 1) := by decide +kernel
theorem dX7_run_231 : decode cX7_run 231 = .ok (.getfield 66, 3) := by decide +kernel
theorem dX7_run_234 : decode cX7_run 234 = .ok (.aload_n 0, 1) := by decide +kernel
theorem dX7_run_235 : decode cX7_run 235 = .ok (.getfield 157, 3) := by decide +kernel
theorem dX7_run_238 : decode cX7_run 238 = .ok (.iload 7, 2) := by decide +kernel
theorem dX7_run_240 : decode cX7_run 240 = .ok (.iastore, 1) := by decide +kernel
theorem dX7_run_241 : decode cX7_run 241 = .ok (.aload_n 0, 1) := by decide +kernel
theorem dX7_run_242 : decode cX7_run 242 = .ok (.dup, 1) := by decide +kernel
theorem dX7_run_243 : decode cX7_run 243 = .ok (.getfield 157, 3) := by decide +kernel
theorem dX7_run_246 : decode cX7_run 246 = .ok (.iconst 1, 1) := by decide +kernel
theorem dX7_run_247 : decode cX7_run 247 = .ok (.iadd, 1) := by decide +kernel
theorem dX7_run_248 : decode cX7_run 248 = .ok (.putfield 157, 3) := by decide +kernel
theorem dX7_run_251 : decode cX7_run 251 = .ok (.goto (-213), 3) := by decide +kernel
theorem dX7_finish_0 : decode cX7_finish 0 = .ok (.iconst 1, 1) := by decide +kernel
theorem dX7_finish_1 : decode cX7_finish 1 = .ok (.istore_n 3, 1) := by decide +kernel
theorem dX7_finish_2 : decode cX7_finish 2 = .ok (.iload_n 1, 1) := by decide +kernel
theorem dX7_finish_3 : decode cX7_finish 3 = .ok (.istore 4, 2) := by decide +kernel
theorem dX7_finish_5 : decode cX7_finish 5 = .ok (.aload_n 0, 1) := by decide +kernel
theorem dX7_finish_6 : decode cX7_finish 6 = .ok (.getfield 63, 3) := by decide +kernel
theorem dX7_finish_9 : decode cX7_finish 9 = .ok (.iload 4, 2) := by decide +kernel
theorem dX7_finish_11 : decode cX7_finish 11 = .ok (.iaload, 1) := by decide +kernel
theorem dX7_finish_12 : decode cX7_finish 12 = .ok (.ifCond .lt 18, 3) := by decide +kernel
theorem dX7_finish_15 : decode cX7_finish 15 = .ok (.iinc 3 1, 3) := by decide +kernel
theorem dX7_finish_18 : decode cX7_finish 18 = .ok (.aload_n 0, 1) := by decide +kernel
theorem dX7_finish_19 : decode cX7_finish 19 = .ok (.getfield 63, 3) := by decide +kernel
theorem dX7_finish_22 : decode cX7_finish 22 = .ok (.iload 4, 2) := by decide +kernel
theorem dX7_finish_24 : decode cX7_finish 24 = .ok (.iaload, 1) := by decide +kernel
theorem dX7_finish_25 : decode cX7_finish 25 = .ok (.istore 4, 2) := by decide +kernel
theorem dX7_finish_27 : decode cX7_finish 27 = .ok (.goto (-22), 3) := by decide +kernel
theorem dX7_finish_30 : decode cX7_finish 30 = .ok (.aload_n 0, 1) := by decide +kernel
theorem dX7_finish_31 : decode cX7_finish 31 = .ok (.iload_n 3, 1) := by decide +kernel
theorem dX7_finish_32 : decode cX7_finish 32 = .ok (.putfield 160, 3) := by decide +kernel
theorem dX7_finish_35 : decode cX7_finish 35 = .ok (.aload_n 0, 1) := by decide +kernel
theorem dX7_finish_36 : decode cX7_finish 36 = .ok (.getfield 75, 3) := by decide +kernel
theorem dX7_finish_39 : decode cX7_finish 39 = .ok (.iload_n 3, 1) := by decide +kernel
theorem dX7_finish_40 : decode cX7_finish 40 = .ok (.iconst 1, 1) := by decide +kernel
theorem dX7_finish_41 : decode cX7_finish 41 = .ok (.isub, 1) := by decide +kernel
theorem dX7_finish_42 : decode cX7_finish 42 = .ok (.iload_n 2, 1) := by decide +kernel
theorem dX7_finish_43 : decode cX7_finish 43 = .ok (.iastore, 1) := by decide +kernel
theorem dX7_finish_44 : decode cX7_finish 44 = .ok (.iload_n 3, 1) := by decide +kernel
theorem dX7_finish_45 : decode cX7_finish 45 = .ok (.iconst 2, 1) := by decide +kernel
theorem dX7_finish_46 : decode cX7_finish 46 = .ok (.isub, 1) := by decide +kernel
theorem dX7_finish_47 : decode cX7_finish 47 = .ok (.istore 4, 2) := by decide +kernel
theorem dX7_finish_49 : decode cX7_finish 49 = .ok (.iload_n 1, 1) := by decide +kernel
theorem dX7_finish_50 : decode cX7_finish 50 = .ok (.istore 5, 2) := by decide +kernel
theorem dX7_finish_52 : decode cX7_finish 52 = .ok (.aload_n 0, 1) := by decide +kernel
theorem dX7_finish_53 : decode cX7_finish 53 = .ok (.getfield 63, 3) := by decide +kernel
theorem dX7_finish_56 : decode cX7_finish 56 = .ok (.iload 5, 2) := by decide +kernel
theorem dX7_finish_58 : decode cX7_finish 58 = .ok (.iaload, 1) := by decide +kernel
theorem dX7_finish_59 : decode cX7_finish 59 = .ok (.ifCond .lt 32, 3) := by decide +kernel
theorem dX7_finish_62 : decode cX7_finish 62 = .ok (.aload_n 0, 1) := by decide +kernel
theorem dX7_finish_63 : decode cX7_finish 63 = .ok (.getfield 75, 3) := by decide +kernel
theorem dX7_finish_66 : decode cX7_finish 66 = .ok (.iload 4, 2) := by decide +kernel
theorem dX7_finish_68 : decode cX7_finish 68 = .ok (.aload_n 0, 1) := by decide +kernel
theorem dX7_finish_69 : decode cX7_finish 69 = .ok (.getfield 66, 3) := by decide +kernel
theorem dX7_finish_72 : decode cX7_finish 72 = .ok (.iload 5, 2) := by decide +kernel
theorem dX7_finish_74 : decode cX7_finish 74 = .ok (.iaload, 1) := by decide +kernel
theorem dX7_finish_75 : decode cX7_finish 75 = .ok (.iastore, 1) := by decide +kernel
theorem dX7_finish_76 : decode cX7_finish 76 = .ok (.iinc 4 (-1), 3) := by decide +kernel
theorem dX7_finish_79 : decode cX7_finish 79 = .ok (.aload_n 0, 1) := by decide +kernel
theorem dX7_finish_80 : decode cX7_finish 80 = .ok (.getfield 63, 3) := by decide +kernel
theorem dX7_finish_83 : decode cX7_finish 83 = .ok (.iload 5, 2) := by decide +kernel
theorem dX7_finish_85 : decode cX7_finish 85 = .ok (.iaload, 1) := by decide +kernel
theorem dX7_finish_86 : decode cX7_finish 86 = .ok (.istore 5, 2) := by decide +kernel
theorem dX7_finish_88 : decode cX7_finish 88 = .ok (.goto (-36), 3) := by decide +kernel
theorem dX7_finish_91 : decode cX7_finish 91 = .ok (.return_, 1) := by decide +kernel
theorem dX7_states_0 : decode cX7_states 0 = .ok (.aload_n 0, 1) := by decide +kernel
theorem dX7_states_1 : decode cX7_states 1 = .ok (.iconst 0, 1) := by decide +kernel
theorem dX7_states_2 : decode cX7_states 2 = .ok (.putfield 78, 3) := by decide +kernel
theorem dX7_states_5 : decode cX7_states 5 = .ok (.aload_n 0, 1) := by decide +kernel
theorem dX7_states_6 : decode cX7_states 6 = .ok (.getfield 157, 3) := by decide +kernel
theorem dX7_states_9 : decode cX7_states 9 = .ok (.ireturn, 1) := by decide +kernel
theorem dX7_move_0 : decode cX7_move 0 = .ok (.aload_n 0, 1) := by decide +kernel
theorem dX7_move_1 : decode cX7_move 1 = .ok (.iload_n 1, 1) := by decide +kernel
theorem dX7_move_2 : decode cX7_move 2 = .ok (.iconst 0, 1) := by decide +kernel
theorem dX7_move_3 : decode cX7_move 3 = .ok (.aload_n 0, 1) := by decide +kernel
theorem dX7_move_4 : decode cX7_move 4 = .ok (.getfield 160, 3) := by decide +kernel
theorem dX7_move_7 : decode cX7_move 7 = .ok (.iconst 1, 1) := by decide +kernel
theorem dX7_move_8 : decode cX7_move 8 = .ok (.isub, 1) := by decide +kernel
theorem dX7_move_9 : decode cX7_move 9 = .ok (.invokestatic 88, 3) := by decide +kernel
theorem dX7_move_12 : decode cX7_move 12 = .ok (.ifCond .eq 7, 3) := by decide +kernel
theorem dX7_move_15 : decode cX7_move 15 = .ok (.iconst 0, 1) := by decide +kernel
theorem dX7_move_16 : decode cX7_move 16 = .ok (.goto 4, 3) := by decide +kernel
theorem dX7_move_19 : decode cX7_move 19 = .ok (.iconst 1, 1) := by decide +kernel
theorem dX7_move_20 : decode cX7_move 20 = .ok (.putfield 78, 3) := by decide +kernel
theorem dX7_move_23 : decode cX7_move 23 = .ok (.aload_n 0, 1) := by decide +kernel
theorem dX7_move_24 : decode cX7_move 24 = .ok (.getfield 78, 3) := by decide +kernel
theorem dX7_move_27 : decode cX7_move 27 = .ok (.ifCond .le 7, 3) := by decide +kernel
theorem dX7_move_30 : decode cX7_move 30 = .ok (.iconst 0, 1) := by decide +kernel
theorem dX7_move_31 : decode cX7_move 31 = .ok (.goto 9, 3) := by decide +kernel
theorem dX7_move_34 : decode cX7_move 34 = .ok (.aload_n 0, 1) := by decide +kernel
theorem dX7_move_35 : decode cX7_move 35 = .ok (.getfield 75, 3) := by decide +kernel
theorem dX7_move_38 : decode cX7_move 38 = .ok (.iload_n 1, 1) := by decide +kernel
theorem dX7_move_39 : decode cX7_move 39 = .ok (.iaload, 1) := by decide +kernel
theorem dX7_move_40 : decode cX7_move 40 = .ok (.ireturn, 1) := by decide +kernel
theorem dJ6_bitCount_0f7a4_0 : decode cJ6_bitCount_0f7a4 0 = .ok (.iload_n 0, 1) := by decide +kernel
theorem dJ6_bitCount_0f7a4_1 : decode cJ6_bitCount_0f7a4 1 = .ok (.iload_n 0, 1) := by decide +kernel
theorem dJ6_bitCount_0f7a4_2 : decode cJ6_bitCount_0f7a4 2 = .ok (.iconst 1, 1) := by decide +kernel
theorem dJ6_bitCount_0f7a4_3 : decode cJ6_bitCount_0f7a4 3 = .ok (.iushr, 1) := by decide +kernel
theorem dJ6_bitCount_0f7a4_4 : decode cJ6_bitCount_0f7a4 4 = .ok (.ldc_w 265, 3) := by decide +kernel
theorem dJ6_bitCount_0f7a4_7 : decode cJ6_bitCount_0f7a4 7 = .ok (.iand, 1) := by decide +kernel
theorem dJ6_bitCount_0f7a4_8 : decode cJ6_bitCount_0f7a4 8 = .ok (.isub, 1) := by decide +kernel
theorem dJ6_bitCount_0f7a4_9 : decode cJ6_bitCount_0f7a4 9 = .ok (.istore_n 0, 1) := by decide +kernel
theorem dJ6_bitCount_0f7a4_10 : decode cJ6_bitCount_0f7a4 10 = .ok (.iload_n 0, 1) := by decide +kernel
theorem dJ6_bitCount_0f7a4_11 : decode cJ6_bitCount_0f7a4 11 = .ok (.ldc_w 266, 3) := by decide +kernel
theorem dJ6_bitCount_0f7a4_14 : decode cJ6_bitCount_0f7a4 14 = .ok (.iand, 1) := by decide +kernel
theorem dJ6_bitCount_0f7a4_15 : decode cJ6_bitCount_0f7a4 15 = .ok (.iload_n 0, 1) := by decide +kernel
theorem dJ6_bitCount_0f7a4_16 : decode cJ6_bitCount_0f7a4 16 = .ok (.iconst 2, 1) := by decide +kernel
theorem dJ6_bitCount_0f7a4_17 : decode cJ6_bitCount_0f7a4 17 = .ok (.iushr, 1) := by decide +kernel
theorem dJ6_bitCount_0f7a4_18 : decode cJ6_bitCount_0f7a4 18 = .ok (.ldc_w 266, 3) := by decide +kernel
theorem dJ6_bitCount_0f7a4_21 : decode cJ6_bitCount_0f7a4 21 = .ok (.iand, 1) := by decide +kernel
theorem dJ6_bitCount_0f7a4_22 : decode cJ6_bitCount_0f7a4 22 = .ok (.iadd, 1) := by decide +kernel
theorem dJ6_bitCount_0f7a4_23 : decode cJ6_bitCount_0f7a4 23 = .ok (.istore_n 0, 1) := by decide +kernel
theorem dJ6_bitCount_0f7a4_24 : decode cJ6_bitCount_0f7a4 24 = .ok (.iload_n 0, 1) := by decide +kernel
theorem dJ6_bitCount_0f7a4_25 : decode cJ6_bitCount_0f7a4 25 = .ok (.iload_n 0, 1) := by decide +kernel
theorem dJ6_bitCount_0f7a4_26 : decode cJ6_bitCount_0f7a4 26 = .ok (.iconst 4, 1) := by decide +kernel
theorem dJ6_bitCount_0f7a4_27 : decode cJ6_bitCount_0f7a4 27 = .ok (.iushr, 1) := by decide +kernel
theorem dJ6_bitCount_0f7a4_28 : decode cJ6_bitCount_0f7a4 28 = .ok (.iadd, 1) := by decide +kernel
theorem dJ6_bitCount_0f7a4_29 : decode cJ6_bitCount_0f7a4 29 = .ok (.ldc_w 267, 3) := by decide +kernel
theorem dJ6_bitCount_0f7a4_32 : decode cJ6_bitCount_0f7a4 32 = .ok (.iand, 1) := by decide +kernel
theorem dJ6_bitCount_0f7a4_33 : decode cJ6_bitCount_0f7a4 33 = .ok (.istore_n 0, 1) := by decide +kernel
theorem dJ6_bitCount_0f7a4_34 : decode cJ6_bitCount_0f7a4 34 = .ok (.iload_n 0, 1) := by decide +kernel
theorem dJ6_bitCount_0f7a4_35 : decode cJ6_bitCount_0f7a4 35 = .ok (.iload_n 0, 1) := by decide +kernel
theorem dJ6_bitCount_0f7a4_36 : decode cJ6_bitCount_0f7a4 36 = .ok (.bipush 8, 2) := by decide +kernel
theorem dJ6_bitCount_0f7a4_38 : decode cJ6_bitCount_0f7a4 38 = .ok (.iushr, 1) := by decide +kernel
theorem dJ6_bitCount_0f7a4_39 : decode cJ6_bitCount_0f7a4 39 = .ok (.iadd, 1) := by decide +kernel
theorem dJ6_bitCount_0f7a4_40 : decode cJ6_bitCount_0f7a4 40 = .ok (.istore_n 0, 1) := by decide +kernel
theorem dJ6_bitCount_0f7a4_41 : decode cJ6_bitCount_0f7a4 41 = .ok (.iload_n 0, 1) := by decide +kernel
theorem dJ6_bitCount_0f7a4_42 : decode cJ6_bitCount_0f7a4 42 = .ok (.iload_n 0, 1) := by decide +kernel
theorem dJ6_bitCount_0f7a4_43 : decode cJ6_bitCount_0f7a4 43 = .ok (.bipush 16, 2) := by decide +kernel
theorem dJ6_bitCount_0f7a4_45 : decode cJ6_bitCount_0f7a4 45 = .ok (.iushr, 1) := by decide +kernel
theorem dJ6_bitCount_0f7a4_46 : decode cJ6_bitCount_0f7a4 46 = .ok (.iadd, 1) := by decide +kernel
theorem dJ6_bitCount_0f7a4_47 : decode cJ6_bitCount_0f7a4 47 = .ok (.istore_n 0, 1) := by decide +kernel
theorem dJ6_bitCount_0f7a4_48 : decode cJ6_bitCount_0f7a4 48 = .ok (.iload_n 0, 1) := by decide +kernel
theorem dJ6_bitCount_0f7a4_49 : decode cJ6_bitCount_0f7a4 49 = .ok (.bipush 63, 2) := by decide +kernel
theorem dJ6_bitCount_0f7a4_51 : decode cJ6_bitCount_0f7a4 51 = .ok (.iand, 1) := by decide +kernel
theorem dJ6_bitCount_0f7a4_52 : decode cJ6_bitCount_0f7a4 52 = .ok (.ireturn, 1) := by decide +kernel
theorem dJ13_bitCount_95d88_0 : decode cJ13_bitCount_95d88 0 = .ok (.lload_n 0, 1) := by decide +kernel
theorem dJ13_bitCount_95d88_1 : decode cJ13_bitCount_95d88 1 = .ok (.lload_n 0, 1) := by decide +kernel
theorem dJ13_bitCount_95d88_2 : decode cJ13_bitCount_95d88 2 = .ok (.iconst 1, 1) := by decide +kernel
theorem dJ13_bitCount_95d88_3 : decode cJ13_bitCount_95d88 3 = .ok (.lushr, 1) := by decide +kernel
theorem dJ13_bitCount_95d88_4 : decode cJ13_bitCount_95d88 4 = .ok (.ldc2_w 314, 3) := by decide +kernel
theorem dJ13_bitCount_95d88_7 : decode cJ13_bitCount_95d88 7 = .ok (.land, 1) := by decide +kernel
theorem dJ13_bitCount_95d88_8 : decode cJ13_bitCount_95d88 8 = .ok (.lsub, 1) := by decide +kernel
theorem dJ13_bitCount_95d88_9 : decode cJ13_bitCount_95d88 9 = .ok (.lstore_n 0, 1) := by decide +kernel
theorem dJ13_bitCount_95d88_10 : decode cJ13_bitCount_95d88 10 = .ok (.lload_n 0, 1) := by decide +kernel
theorem dJ13_bitCount_95d88_11 : decode cJ13_bitCount_95d88 11 = .ok (.ldc2_w 316, 3) := by decide +kernel
theorem dJ13_bitCount_95d88_14 : decode cJ13_bitCount_95d88 14 = .ok (.land, 1) := by decide +kernel
theorem dJ13_bitCount_95d88_15 : decode cJ13_bitCount_95d88 15 = .ok (.lload_n 0, 1) := by decide +kernel
theorem dJ13_bitCount_95d88_16 : decode cJ13_bitCount_95d88 16 = .ok (.iconst 2, 1) := by decide +kernel
theorem dJ13_bitCount_95d88_17 : decode cJ13_bitCount_95d88 17 = .ok (.lushr, 1) := by decide +kernel
theorem dJ13_bitCount_95d88_18 : decode cJ13_bitCount_95d88 18 = .ok (.ldc2_w 316, 3) := by decide +kernel
theorem dJ13_bitCount_95d88_21 : decode cJ13_bitCount_95d88 21 = .ok (.land, 1) := by decide +kernel
theorem dJ13_bitCount_95d88_22 : decode cJ13_bitCount_95d88 22 = .ok (.ladd, 1) := by decide +kernel
theorem dJ13_bitCount_95d88_23 : decode cJ13_bitCount_95d88 23 = .ok (.lstore_n 0, 1) := by decide +kernel
theorem dJ13_bitCount_95d88_24 : decode cJ13_bitCount_95d88 24 = .ok (.lload_n 0, 1) := by decide +kernel
theorem dJ13_bitCount_95d88_25 : decode cJ13_bitCount_95d88 25 = .ok (.lload_n 0, 1) := by decide +kernel
theorem dJ13_bitCount_95d88_26 : decode cJ13_bitCount_95d88 26 = .ok (.iconst 4, 1) := by decide +kernel
theorem dJ13_bitCount_95d88_27 : decode cJ13_bitCount_95d88 27 = .ok (.lushr, 1) := by decide +kernel
theorem dJ13_bitCount_95d88_28 : decode cJ13_bitCount_95d88 28 = .ok (.ladd, 1) := by decide +kernel
theorem dJ13_bitCount_95d88_29 : decode cJ13_bitCount_95d88 29 = .ok (.ldc2_w 318, 3) := by decide +kernel
theorem dJ13_bitCount_95d88_32 : decode cJ13_bitCount_95d88 32 = .ok (.land, 1) := by decide +kernel
theorem dJ13_bitCount_95d88_33 : decode cJ13_bitCount_95d88 33 = .ok (.lstore_n 0, 1) := by decide +kernel
theorem dJ13_bitCount_95d88_34 : decode cJ13_bitCount_95d88 34 = .ok (.lload_n 0, 1) := by decide +kernel
theorem dJ13_bitCount_95d88_35 : decode cJ13_bitCount_95d88 35 = .ok (.lload_n 0, 1) := by decide +kernel
theorem dJ13_bitCount_95d88_36 : decode cJ13_bitCount_95d88 36 = .ok (.bipush 8, 2) := by decide +kernel
theorem dJ13_bitCount_95d88_38 : decode cJ13_bitCount_95d88 38 = .ok (.lushr, 1) := by decide +kernel
theorem dJ13_bitCount_95d88_39 : decode cJ13_bitCount_95d88 39 = .ok (.ladd, 1) := by decide +kernel
theorem dJ13_bitCount_95d88_40 : decode cJ13_bitCount_95d88 40 = .ok (.lstore_n 0, 1) := by decide +kernel
theorem dJ13_bitCount_95d88_41 : decode cJ13_bitCount_95d88 41 = .ok (.lload_n 0, 1) := by decide +kernel
theorem dJ13_bitCount_95d88_42 : decode cJ13_bitCount_95d88 42 = .ok (.lload_n 0, 1) := by decide +kernel
theorem dJ13_bitCount_95d88_43 : decode cJ13_bitCount_95d88 43 = .ok (.bipush 16, 2) := by decide +kernel
theorem dJ13_bitCount_95d88_45 : decode cJ13_bitCount_95d88 45 = .ok (.lushr, 1) := by decide +kernel
theorem dJ13_bitCount_95d88_46 : decode cJ13_bitCount_95d88 46 = .ok (.ladd, 1) := by decide +kernel
theorem dJ13_bitCount_95d88_47 : decode cJ13_bitCount_95d88 47 = .ok (.lstore_n 0, 1) := by decide +kernel
theorem dJ13_bitCount_95d88_48 : decode cJ13_bitCount_95d88 48 = .ok (.lload_n 0, 1) := by decide +kernel
theorem dJ13_bitCount_95d88_49 : decode cJ13_bitCount_95d88 49 = .ok (.lload_n 0, 1) := by decide +kernel
theorem dJ13_bitCount_95d88_50 : decode cJ13_bitCount_95d88 50 = .ok (.bipush 32, 2) := by decide +kernel
theorem dJ13_bitCount_95d88_52 : decode cJ13_bitCount_95d88 52 = .ok (.lushr, 1) := by decide +kernel
theorem dJ13_bitCount_95d88_53 : decode cJ13_bitCount_95d88 53 = .ok (.ladd, 1) := by decide +kernel
theorem dJ13_bitCount_95d88_54 : decode cJ13_bitCount_95d88 54 = .ok (.lstore_n 0, 1) := by decide +kernel
theorem dJ13_bitCount_95d88_55 : decode cJ13_bitCount_95d88 55 = .ok (.lload_n 0, 1) := by decide +kernel
theorem dJ13_bitCount_95d88_56 : decode cJ13_bitCount_95d88 56 = .ok (.l2i, 1) := by decide +kernel
theorem dJ13_bitCount_95d88_57 : decode cJ13_bitCount_95d88 57 = .ok (.bipush 127, 2) := by decide +kernel
theorem dJ13_bitCount_95d88_59 : decode cJ13_bitCount_95d88 59 = .ok (.iand, 1) := by decide +kernel
theorem dJ13_bitCount_95d88_60 : decode cJ13_bitCount_95d88 60 = .ok (.ireturn, 1) := by decide +kernel
theorem dJ9_max_7cf53_0 : decode cJ9_max_7cf53 0 = .ok (.iload_n 0, 1) := by decide +kernel
theorem dJ9_max_7cf53_1 : decode cJ9_max_7cf53 1 = .ok (.iload_n 1, 1) := by decide +kernel
theorem dJ9_max_7cf53_2 : decode cJ9_max_7cf53 2 = .ok (.if_icmp .lt 7, 3) := by decide +kernel
theorem dJ9_max_7cf53_5 : decode cJ9_max_7cf53 5 = .ok (.iload_n 0, 1) := by decide +kernel
theorem dJ9_max_7cf53_6 : decode cJ9_max_7cf53 6 = .ok (.goto 4, 3) := by decide +kernel
theorem dJ9_max_7cf53_9 : decode cJ9_max_7cf53 9 = .ok (.iload_n 1, 1) := by decide +kernel
theorem dJ9_max_7cf53_10 : decode cJ9_max_7cf53 10 = .ok (.ireturn, 1) := by decide +kernel
theorem dJ9_min_7cf53_0 : decode cJ9_min_7cf53 0 = .ok (.iload_n 0, 1) := by decide +kernel
theorem dJ9_min_7cf53_1 : decode cJ9_min_7cf53 1 = .ok (.iload_n 1, 1) := by decide +kernel
theorem dJ9_min_7cf53_2 : decode cJ9_min_7cf53 2 = .ok (.if_icmp .gt 7, 3) := by decide +kernel
theorem dJ9_min_7cf53_5 : decode cJ9_min_7cf53 5 = .ok (.iload_n 0, 1) := by decide +kernel
theorem dJ9_min_7cf53_6 : decode cJ9_min_7cf53 6 = .ok (.goto 4, 3) := by decide +kernel
theorem dJ9_min_7cf53_9 : decode cJ9_min_7cf53 9 = .ok (.iload_n 1, 1) := by decide +kernel
theorem dJ9_min_7cf53_10 : decode cJ9_min_7cf53 10 = .ok (.ireturn, 1) := by decide +kernel
theorem dJ7_fill_d0a16_0 : decode cJ7_fill_d0a16 0 = .ok (.iconst 0, 1) := by decide +kernel
theorem dJ7_fill_d0a16_1 : decode cJ7_fill_d0a16 1 = .ok (.istore_n 3, 1) := by decide +kernel
theorem dJ7_fill_d0a16_2 : decode cJ7_fill_d0a16 2 = .ok (.aload_n 0, 1) := by decide +kernel
theorem dJ7_fill_d0a16_3 : decode cJ7_fill_d0a16 3 = .ok (.arraylength, 1) := by decide +kernel
theorem dJ7_fill_d0a16_4 : decode cJ7_fill_d0a16 4 = .ok (.istore 4, 2) := by decide +kernel
theorem dJ7_fill_d0a16_6 : decode cJ7_fill_d0a16 6 = .ok (.iload_n 3, 1) := by decide +kernel
theorem dJ7_fill_d0a16_7 : decode cJ7_fill_d0a16 7 = .ok (.iload 4, 2) := by decide +kernel
theorem dJ7_fill_d0a16_9 : decode cJ7_fill_d0a16 9 = .ok (.if_icmp .ge 13, 3) := by decide +kernel
theorem dJ7_fill_d0a16_12 : decode cJ7_fill_d0a16 12 = .ok (.aload_n 0, 1) := by decide +kernel
theorem dJ7_fill_d0a16_13 : decode cJ7_fill_d0a16 13 = .ok (.iload_n 3, 1) := by decide +kernel
theorem dJ7_fill_d0a16_14 : decode cJ7_fill_d0a16 14 = .ok (.lload_n 1, 1) := by decide +kernel
theorem dJ7_fill_d0a16_15 : decode cJ7_fill_d0a16 15 = .ok (.lastore, 1) := by decide +kernel
theorem dJ7_fill_d0a16_16 : decode cJ7_fill_d0a16 16 = .ok (.iinc 3 1, 3) := by decide +kernel
theorem dJ7_fill_d0a16_19 : decode cJ7_fill_d0a16 19 = .ok (.goto (-13), 3) := by decide +kernel
theorem dJ7_fill_d0a16_22 : decode cJ7_fill_d0a16 22 = .ok (.return_, 1) := by decide +kernel
theorem dJ7_fill_53178_0 : decode cJ7_fill_53178 0 = .ok (.iconst 0, 1) := by decide +kernel
theorem dJ7_fill_53178_1 : decode cJ7_fill_53178 1 = .ok (.istore_n 2, 1) := by decide +kernel
theorem dJ7_fill_53178_2 : decode cJ7_fill_53178 2 = .ok (.aload_n 0, 1) := by decide +kernel
theorem dJ7_fill_53178_3 : decode cJ7_fill_53178 3 = .ok (.arraylength, 1) := by decide +kernel
theorem dJ7_fill_53178_4 : decode cJ7_fill_53178 4 = .ok (.istore_n 3, 1) := by decide +kernel
theorem dJ7_fill_53178_5 : decode cJ7_fill_53178 5 = .ok (.iload_n 2, 1) := by decide +kernel
theorem dJ7_fill_53178_6 : decode cJ7_fill_53178 6 = .ok (.iload_n 3, 1) := by decide +kernel
theorem dJ7_fill_53178_7 : decode cJ7_fill_53178 7 = .ok (.if_icmp .ge 13, 3) := by decide +kernel
theorem dJ7_fill_53178_10 : decode cJ7_fill_53178 10 = .ok (.aload_n 0, 1) := by decide +kernel
theorem dJ7_fill_53178_11 : decode cJ7_fill_53178 11 = .ok (.iload_n 2, 1) := by decide +kernel
theorem dJ7_fill_53178_12 : decode cJ7_fill_53178 12 = .ok (.iload_n 1, 1) := by decide +kernel
theorem dJ7_fill_53178_13 : decode cJ7_fill_53178 13 = .ok (.iastore, 1) := by decide +kernel
theorem dJ7_fill_53178_14 : decode cJ7_fill_53178 14 = .ok (.iinc 2 1, 3) := by decide +kernel
theorem dJ7_fill_53178_17 : decode cJ7_fill_53178 17 = .ok (.goto (-12), 3) := by decide +kernel
theorem dJ7_fill_53178_20 : decode cJ7_fill_53178 20 = .ok (.return_, 1) := by decide +kernel
theorem dL_cube_0 : decode cL_cube 0 = .ok (.aload 4, 2) := by decide +kernel
theorem dL_cube_2 : decode cL_cube 2 = .ok (.iconst 0, 1) := by decide +kernel
theorem dL_cube_3 : decode cL_cube 3 = .ok (.aload_n 0, 1) := by decide +kernel
theorem dL_cube_4 : decode cL_cube 4 = .ok (.iload_n 1, 1) := by decide +kernel
theorem dL_cube_5 : decode cL_cube 5 = .ok (.iload_n 2, 1) := by decide +kernel
theorem dL_cube_6 : decode cL_cube 6 = .ok (.iload_n 3, 1) := by decide +kernel
theorem dL_cube_7 : decode cL_cube 7 = .ok (.invokevirtual 7, 3) := by decide +kernel
theorem dL_cube_10 : decode cL_cube 10 = .ok (.i2l, 1) := by decide +kernel
theorem dL_cube_11 : decode cL_cube 11 = .ok (.lastore, 1) := by decide +kernel
theorem dL_cube_12 : decode cL_cube 12 = .ok (.goto 11, 3) := by decide +kernel
theorem dL_cube_15 : decode cL_cube 15 = .ok (.astore 5, 2) := by decide +kernel
theorem dL_cube_17 : decode cL_cube 17 = .ok (.iconst 1, 1) := by decide +kernel
theorem dL_cube_18 : decode cL_cube 18 = .ok (.ireturn, 1) := by decide +kernel
theorem dL_cube_19 : decode cL_cube 19 = .ok (.astore 5, 2) := by decide +kernel
theorem dL_cube_21 : decode cL_cube 21 = .ok (.iconst 2, 1) := by decide +kernel
theorem dL_cube_22 : decode cL_cube 22 = .ok (.ireturn, 1) := by decide +kernel
theorem dL_cube_23 : decode cL_cube 23 = .ok (.iconst 0, 1) := by decide +kernel
theorem dL_cube_24 : decode cL_cube 24 = .ok (.ireturn, 1) := by decide +kernel
theorem dL_mirror_0 : decode cL_mirror 0 = .ok (.aload_n 0, 1) := by decide +kernel
theorem dL_mirror_1 : decode cL_mirror 1 = .ok (.iload_n 1, 1) := by decide +kernel
theorem dL_mirror_2 : decode cL_mirror 2 = .ok (.iload_n 2, 1) := by decide +kernel
theorem dL_mirror_3 : decode cL_mirror 3 = .ok (.invokevirtual 17, 3) := by decide +kernel
theorem dL_mirror_6 : decode cL_mirror 6 = .ok (.goto 6, 3) := by decide +kernel
theorem dL_mirror_9 : decode cL_mirror 9 = .ok (.astore_n 3, 1) := by decide +kernel
theorem dL_mirror_10 : decode cL_mirror 10 = .ok (.iconst 1, 1) := by decide +kernel
theorem dL_mirror_11 : decode cL_mirror 11 = .ok (.ireturn, 1) := by decide +kernel
theorem dL_mirror_12 : decode cL_mirror 12 = .ok (.iconst 0, 1) := by decide +kernel
theorem dL_mirror_13 : decode cL_mirror 13 = .ok (.ireturn, 1) := by decide +kernel
theorem dL_shapes_0 : decode cL_shapes 0 = .ok (.aload_n 2, 1) := by decide +kernel
theorem dL_shapes_1 : decode cL_shapes 1 = .ok (.iconst 0, 1) := by decide +kernel
theorem dL_shapes_2 : decode cL_shapes 2 = .ok (.aload_n 0, 1) := by decide +kernel
theorem dL_shapes_3 : decode cL_shapes 3 = .ok (.iload_n 1, 1) := by decide +kernel
theorem dL_shapes_4 : decode cL_shapes 4 = .ok (.invokevirtual 21, 3) := by decide +kernel
theorem dL_shapes_7 : decode cL_shapes 7 = .ok (.i2l, 1) := by decide +kernel
theorem dL_shapes_8 : decode cL_shapes 8 = .ok (.lastore, 1) := by decide +kernel
theorem dL_shapes_9 : decode cL_shapes 9 = .ok (.goto 6, 3) := by decide +kernel
theorem dL_shapes_12 : decode cL_shapes 12 = .ok (.astore_n 3, 1) := by decide +kernel
theorem dL_shapes_13 : decode cL_shapes 13 = .ok (.iconst 1, 1) := by decide +kernel
theorem dL_shapes_14 : decode cL_shapes 14 = .ok (.ireturn, 1) := by decide +kernel
theorem dL_shapes_15 : decode cL_shapes 15 = .ok (.iconst 0, 1) := by decide +kernel
theorem dL_shapes_16 : decode cL_shapes 16 = .ok (.ireturn, 1) := by decide +kernel
theorem dL_shape_0 : decode cL_shape 0 = .ok (.aload_n 3, 1) := by decide +kernel
theorem dL_shape_1 : decode cL_shape 1 = .ok (.iconst 0, 1) := by decide +kernel
theorem dL_shape_2 : decode cL_shape 2 = .ok (.aload_n 0, 1) := by decide +kernel
theorem dL_shape_3 : decode cL_shape 3 = .ok (.iload_n 1, 1) := by decide +kernel
theorem dL_shape_4 : decode cL_shape 4 = .ok (.iload_n 2, 1) := by decide +kernel
theorem dL_shape_5 : decode cL_shape 5 = .ok (.invokevirtual 25, 3) := by decide +kernel
theorem dL_shape_8 : decode cL_shape 8 = .ok (.lastore, 1) := by decide +kernel
theorem dL_shape_9 : decode cL_shape 9 = .ok (.goto 11, 3) := by decide +kernel
theorem dL_shape_12 : decode cL_shape 12 = .ok (.astore 4, 2) := by decide +kernel
theorem dL_shape_14 : decode cL_shape 14 = .ok (.iconst 1, 1) := by decide +kernel
theorem dL_shape_15 : decode cL_shape 15 = .ok (.ireturn, 1) := by decide +kernel
theorem dL_shape_16 : decode cL_shape 16 = .ok (.astore 4, 2) := by decide +kernel
theorem dL_shape_18 : decode cL_shape 18 = .ok (.iconst 2, 1) := by decide +kernel
theorem dL_shape_19 : decode cL_shape 19 = .ok (.ireturn, 1) := by decide +kernel
theorem dL_shape_20 : decode cL_shape 20 = .ok (.iconst 0, 1) := by decide +kernel
theorem dL_shape_21 : decode cL_shape 21 = .ok (.ireturn, 1) := by decide +kernel
theorem dL_target_0 : decode cL_target 0 = .ok (.aload_n 0, 1) := by decide +kernel
theorem dL_target_1 : decode cL_target 1 = .ok (.iload_n 1, 1) := by decide +kernel
theorem dL_target_2 : decode cL_target 2 = .ok (.iload_n 2, 1) := by decide +kernel
theorem dL_target_3 : decode cL_target 3 = .ok (.invokevirtual 31, 3) := by decide +kernel
theorem dL_target_6 : decode cL_target 6 = .ok (.goto 6, 3) := by decide +kernel
theorem dL_target_9 : decode cL_target 9 = .ok (.astore_n 3, 1) := by decide +kernel
theorem dL_target_10 : decode cL_target 10 = .ok (.iconst 1, 1) := by decide +kernel
theorem dL_target_11 : decode cL_target 11 = .ok (.ireturn, 1) := by decide +kernel
theorem dL_target_12 : decode cL_target 12 = .ok (.iconst 0, 1) := by decide +kernel
theorem dL_target_13 : decode cL_target 13 = .ok (.ireturn, 1) := by decide +kernel
theorem dL_places_0 : decode cL_places 0 = .ok (.aload_n 2, 1) := by decide +kernel
theorem dL_places_1 : decode cL_places 1 = .ok (.iconst 0, 1) := by decide +kernel
theorem dL_places_2 : decode cL_places 2 = .ok (.aload_n 0, 1) := by decide +kernel
theorem dL_places_3 : decode cL_places 3 = .ok (.iload_n 1, 1) := by decide +kernel
theorem dL_places_4 : decode cL_places 4 = .ok (.invokevirtual 35, 3) := by decide +kernel
theorem dL_places_7 : decode cL_places 7 = .ok (.i2l, 1) := by decide +kernel
theorem dL_places_8 : decode cL_places 8 = .ok (.lastore, 1) := by decide +kernel
theorem dL_places_9 : decode cL_places 9 = .ok (.goto 6, 3) := by decide +kernel
theorem dL_places_12 : decode cL_places 12 = .ok (.astore_n 3, 1) := by decide +kernel
theorem dL_places_13 : decode cL_places 13 = .ok (.iconst 1, 1) := by decide +kernel
theorem dL_places_14 : decode cL_places 14 = .ok (.ireturn, 1) := by decide +kernel
theorem dL_places_15 : decode cL_places 15 = .ok (.iconst 0, 1) := by decide +kernel
theorem dL_places_16 : decode cL_places 16 = .ok (.ireturn, 1) := by decide +kernel
theorem dL_pack_0 : decode cL_pack 0 = .ok (.aload_n 2, 1) := by decide +kernel
theorem dL_pack_1 : decode cL_pack 1 = .ok (.iconst 0, 1) := by decide +kernel
theorem dL_pack_2 : decode cL_pack 2 = .ok (.aload_n 0, 1) := by decide +kernel
theorem dL_pack_3 : decode cL_pack 3 = .ok (.iload_n 1, 1) := by decide +kernel
theorem dL_pack_4 : decode cL_pack 4 = .ok (.invokevirtual 38, 3) := by decide +kernel
theorem dL_pack_7 : decode cL_pack 7 = .ok (.i2l, 1) := by decide +kernel
theorem dL_pack_8 : decode cL_pack 8 = .ok (.lastore, 1) := by decide +kernel
theorem dL_pack_9 : decode cL_pack 9 = .ok (.goto 6, 3) := by decide +kernel
theorem dL_pack_12 : decode cL_pack 12 = .ok (.astore_n 3, 1) := by decide +kernel
theorem dL_pack_13 : decode cL_pack 13 = .ok (.iconst 1, 1) := by decide +kernel
theorem dL_pack_14 : decode cL_pack 14 = .ok (.ireturn, 1) := by decide +kernel
theorem dL_pack_15 : decode cL_pack 15 = .ok (.iconst 0, 1) := by decide +kernel
theorem dL_pack_16 : decode cL_pack 16 = .ok (.ireturn, 1) := by decide +kernel
theorem dL_assemble_0 : decode cL_assemble 0 = .ok (.aload_n 3, 1) := by decide +kernel
theorem dL_assemble_1 : decode cL_assemble 1 = .ok (.iconst 0, 1) := by decide +kernel
theorem dL_assemble_2 : decode cL_assemble 2 = .ok (.aload_n 0, 1) := by decide +kernel
theorem dL_assemble_3 : decode cL_assemble 3 = .ok (.iload_n 1, 1) := by decide +kernel
theorem dL_assemble_4 : decode cL_assemble 4 = .ok (.iload_n 2, 1) := by decide +kernel
theorem dL_assemble_5 : decode cL_assemble 5 = .ok (.invokevirtual 41, 3) := by decide +kernel
theorem dL_assemble_8 : decode cL_assemble 8 = .ok (.ifCond .eq 7, 3) := by decide +kernel
theorem dL_assemble_11 : decode cL_assemble 11 = .ok (.lconst 1, 1) := by decide +kernel
theorem dL_assemble_12 : decode cL_assemble 12 = .ok (.goto 4, 3) := by decide +kernel
theorem dL_assemble_15 : decode cL_assemble 15 = .ok (.lconst 0, 1) := by decide +kernel
theorem dL_assemble_16 : decode cL_assemble 16 = .ok (.lastore, 1) := by decide +kernel
theorem dL_assemble_17 : decode cL_assemble 17 = .ok (.goto 7, 3) := by decide +kernel
theorem dL_assemble_20 : decode cL_assemble 20 = .ok (.astore 4, 2) := by decide +kernel
theorem dL_assemble_22 : decode cL_assemble 22 = .ok (.iconst 1, 1) := by decide +kernel
theorem dL_assemble_23 : decode cL_assemble 23 = .ok (.ireturn, 1) := by decide +kernel
theorem dL_assemble_24 : decode cL_assemble 24 = .ok (.iconst 0, 1) := by decide +kernel
theorem dL_assemble_25 : decode cL_assemble 25 = .ok (.ireturn, 1) := by decide +kernel
theorem dL_put_0 : decode cL_put 0 = .ok (.aload_n 0, 1) := by decide +kernel
theorem dL_put_1 : decode cL_put 1 = .ok (.iload_n 1, 1) := by decide +kernel
theorem dL_put_2 : decode cL_put 2 = .ok (.lload_n 2, 1) := by decide +kernel
theorem dL_put_3 : decode cL_put 3 = .ok (.invokevirtual 45, 3) := by decide +kernel
theorem dL_put_6 : decode cL_put 6 = .ok (.goto 11, 3) := by decide +kernel
theorem dL_put_9 : decode cL_put 9 = .ok (.astore 4, 2) := by decide +kernel
theorem dL_put_11 : decode cL_put 11 = .ok (.iconst 1, 1) := by decide +kernel
theorem dL_put_12 : decode cL_put 12 = .ok (.ireturn, 1) := by decide +kernel
theorem dL_put_13 : decode cL_put 13 = .ok (.astore 4, 2) := by decide +kernel
theorem dL_put_15 : decode cL_put 15 = .ok (.iconst 2, 1) := by decide +kernel
theorem dL_put_16 : decode cL_put 16 = .ok (.ireturn, 1) := by decide +kernel
theorem dL_put_17 : decode cL_put 17 = .ok (.iconst 0, 1) := by decide +kernel
theorem dL_put_18 : decode cL_put 18 = .ok (.ireturn, 1) := by decide +kernel
theorem dL_take_0 : decode cL_take 0 = .ok (.aload_n 0, 1) := by decide +kernel
theorem dL_take_1 : decode cL_take 1 = .ok (.iload_n 1, 1) := by decide +kernel
theorem dL_take_2 : decode cL_take 2 = .ok (.invokevirtual 49, 3) := by decide +kernel
theorem dL_take_5 : decode cL_take 5 = .ok (.goto 9, 3) := by decide +kernel
theorem dL_take_8 : decode cL_take 8 = .ok (.astore_n 2, 1) := by decide +kernel
theorem dL_take_9 : decode cL_take 9 = .ok (.iconst 1, 1) := by decide +kernel
theorem dL_take_10 : decode cL_take 10 = .ok (.ireturn, 1) := by decide +kernel
theorem dL_take_11 : decode cL_take 11 = .ok (.astore_n 2, 1) := by decide +kernel
theorem dL_take_12 : decode cL_take 12 = .ok (.iconst 2, 1) := by decide +kernel
theorem dL_take_13 : decode cL_take 13 = .ok (.ireturn, 1) := by decide +kernel
theorem dL_take_14 : decode cL_take 14 = .ok (.iconst 0, 1) := by decide +kernel
theorem dL_take_15 : decode cL_take 15 = .ok (.ireturn, 1) := by decide +kernel
theorem dL_cells_0 : decode cL_cells 0 = .ok (.aload_n 2, 1) := by decide +kernel
theorem dL_cells_1 : decode cL_cells 1 = .ok (.iconst 0, 1) := by decide +kernel
theorem dL_cells_2 : decode cL_cells 2 = .ok (.aload_n 0, 1) := by decide +kernel
theorem dL_cells_3 : decode cL_cells 3 = .ok (.iload_n 1, 1) := by decide +kernel
theorem dL_cells_4 : decode cL_cells 4 = .ok (.invokevirtual 53, 3) := by decide +kernel
theorem dL_cells_7 : decode cL_cells 7 = .ok (.lastore, 1) := by decide +kernel
theorem dL_cells_8 : decode cL_cells 8 = .ok (.goto 6, 3) := by decide +kernel
theorem dL_cells_11 : decode cL_cells 11 = .ok (.astore_n 3, 1) := by decide +kernel
theorem dL_cells_12 : decode cL_cells 12 = .ok (.iconst 1, 1) := by decide +kernel
theorem dL_cells_13 : decode cL_cells 13 = .ok (.ireturn, 1) := by decide +kernel
theorem dL_cells_14 : decode cL_cells 14 = .ok (.iconst 0, 1) := by decide +kernel
theorem dL_cells_15 : decode cL_cells 15 = .ok (.ireturn, 1) := by decide +kernel
theorem dL_plan_0 : decode cL_plan 0 = .ok (.aload_n 3, 1) := by decide +kernel
theorem dL_plan_1 : decode cL_plan 1 = .ok (.iconst 0, 1) := by decide +kernel
theorem dL_plan_2 : decode cL_plan 2 = .ok (.aload_n 0, 1) := by decide +kernel
theorem dL_plan_3 : decode cL_plan 3 = .ok (.iload_n 1, 1) := by decide +kernel
theorem dL_plan_4 : decode cL_plan 4 = .ok (.iload_n 2, 1) := by decide +kernel
theorem dL_plan_5 : decode cL_plan 5 = .ok (.invokevirtual 57, 3) := by decide +kernel
theorem dL_plan_8 : decode cL_plan 8 = .ok (.i2l, 1) := by decide +kernel
theorem dL_plan_9 : decode cL_plan 9 = .ok (.lastore, 1) := by decide +kernel
theorem dL_plan_10 : decode cL_plan 10 = .ok (.goto 7, 3) := by decide +kernel
theorem dL_plan_13 : decode cL_plan 13 = .ok (.astore 4, 2) := by decide +kernel
theorem dL_plan_15 : decode cL_plan 15 = .ok (.iconst 1, 1) := by decide +kernel
theorem dL_plan_16 : decode cL_plan 16 = .ok (.ireturn, 1) := by decide +kernel
theorem dL_plan_17 : decode cL_plan 17 = .ok (.iconst 0, 1) := by decide +kernel
theorem dL_plan_18 : decode cL_plan 18 = .ok (.ireturn, 1) := by decide +kernel
theorem dL_move_0 : decode cL_move 0 = .ok (.aload_n 2, 1) := by decide +kernel
theorem dL_move_1 : decode cL_move 1 = .ok (.iconst 0, 1) := by decide +kernel
theorem dL_move_2 : decode cL_move 2 = .ok (.aload_n 0, 1) := by decide +kernel
theorem dL_move_3 : decode cL_move 3 = .ok (.iload_n 1, 1) := by decide +kernel
theorem dL_move_4 : decode cL_move 4 = .ok (.invokevirtual 61, 3) := by decide +kernel
theorem dL_move_7 : decode cL_move 7 = .ok (.i2l, 1) := by decide +kernel
theorem dL_move_8 : decode cL_move 8 = .ok (.lastore, 1) := by decide +kernel
theorem dL_move_9 : decode cL_move 9 = .ok (.goto 6, 3) := by decide +kernel
theorem dL_move_12 : decode cL_move 12 = .ok (.astore_n 3, 1) := by decide +kernel
theorem dL_move_13 : decode cL_move 13 = .ok (.iconst 1, 1) := by decide +kernel
theorem dL_move_14 : decode cL_move 14 = .ok (.ireturn, 1) := by decide +kernel
theorem dL_move_15 : decode cL_move 15 = .ok (.iconst 0, 1) := by decide +kernel
theorem dL_move_16 : decode cL_move 16 = .ok (.ireturn, 1) := by decide +kernel
theorem dL_law_0 : decode cL_law 0 = .ok (.new 8, 3) := by decide +kernel
theorem dL_law_3 : decode cL_law 3 = .ok (.dup, 1) := by decide +kernel
theorem dL_law_4 : decode cL_law 4 = .ok (.invokespecial 64, 3) := by decide +kernel
theorem dL_law_7 : decode cL_law 7 = .ok (.astore_n 1, 1) := by decide +kernel
theorem dL_law_8 : decode cL_law 8 = .ok (.new 65, 3) := by decide +kernel
theorem dL_law_11 : decode cL_law 11 = .ok (.dup, 1) := by decide +kernel
theorem dL_law_12 : decode cL_law 12 = .ok (.invokespecial 67, 3) := by decide +kernel
theorem dL_law_15 : decode cL_law 15 = .ok (.astore_n 2, 1) := by decide +kernel
theorem dL_law_16 : decode cL_law 16 = .ok (.iconst 1, 1) := by decide +kernel
theorem dL_law_17 : decode cL_law 17 = .ok (.newarray .long, 2) := by decide +kernel
theorem dL_law_19 : decode cL_law 19 = .ok (.astore_n 3, 1) := by decide +kernel
theorem dL_law_20 : decode cL_law 20 = .ok (.iconst 0, 1) := by decide +kernel
theorem dL_law_21 : decode cL_law 21 = .ok (.istore 4, 2) := by decide +kernel
theorem dL_law_23 : decode cL_law 23 = .ok (.iload 4, 2) := by decide +kernel
theorem dL_law_25 : decode cL_law 25 = .ok (.aload_n 0, 1) := by decide +kernel
theorem dL_law_26 : decode cL_law 26 = .ok (.arraylength, 1) := by decide +kernel
theorem dL_law_27 : decode cL_law 27 = .ok (.iconst 4, 1) := by decide +kernel
theorem dL_law_28 : decode cL_law 28 = .ok (.isub, 1) := by decide +kernel
theorem dL_law_29 : decode cL_law 29 = .ok (.if_icmp .gt 928, 3) := by decide +kernel
theorem dL_law_32 : decode cL_law 32 = .ok (.aload_n 0, 1) := by decide +kernel
theorem dL_law_33 : decode cL_law 33 = .ok (.iload 4, 2) := by decide +kernel
theorem dL_law_35 : decode cL_law 35 = .ok (.iaload, 1) := by decide +kernel
theorem dL_law_36 : decode cL_law 36 = .ok (.bipush 15, 2) := by decide +kernel
theorem dL_law_38 : decode cL_law 38 = .ok (.iand, 1) := by decide +kernel
theorem dL_law_39 : decode cL_law 39 = .ok (.tableswitch 912 0 14 #[73, 169, 233, 289, 356, 404, 460, 516, 529, 604, 684, 720, 775, 843, 856], 73) := by decide +kernel
theorem dL_law_112 : decode cL_law 112 = .ok (.aload_n 1, 1) := by decide +kernel
theorem dL_law_113 : decode cL_law 113 = .ok (.aload_n 0, 1) := by decide +kernel
theorem dL_law_114 : decode cL_law 114 = .ok (.iload 4, 2) := by decide +kernel
theorem dL_law_116 : decode cL_law 116 = .ok (.iconst 1, 1) := by decide +kernel
theorem dL_law_117 : decode cL_law 117 = .ok (.iadd, 1) := by decide +kernel
theorem dL_law_118 : decode cL_law 118 = .ok (.iaload, 1) := by decide +kernel
theorem dL_law_119 : decode cL_law 119 = .ok (.aload_n 0, 1) := by decide +kernel
theorem dL_law_120 : decode cL_law 120 = .ok (.iload 4, 2) := by decide +kernel
theorem dL_law_122 : decode cL_law 122 = .ok (.iconst 2, 1) := by decide +kernel
theorem dL_law_123 : decode cL_law 123 = .ok (.iadd, 1) := by decide +kernel
theorem dL_law_124 : decode cL_law 124 = .ok (.iaload, 1) := by decide +kernel
theorem dL_law_125 : decode cL_law 125 = .ok (.aload_n 0, 1) := by decide +kernel
theorem dL_law_126 : decode cL_law 126 = .ok (.iload 4, 2) := by decide +kernel
theorem dL_law_128 : decode cL_law 128 = .ok (.iconst 3, 1) := by decide +kernel
theorem dL_law_129 : decode cL_law 129 = .ok (.iadd, 1) := by decide +kernel
theorem dL_law_130 : decode cL_law 130 = .ok (.iaload, 1) := by decide +kernel
theorem dL_law_131 : decode cL_law 131 = .ok (.ifCond .eq 7, 3) := by decide +kernel
theorem dL_law_134 : decode cL_law 134 = .ok (.iconst 1, 1) := by decide +kernel
theorem dL_law_135 : decode cL_law 135 = .ok (.goto 4, 3) := by decide +kernel
theorem dL_law_138 : decode cL_law 138 = .ok (.iconst 0, 1) := by decide +kernel
theorem dL_law_139 : decode cL_law 139 = .ok (.aload_n 3, 1) := by decide +kernel
theorem dL_law_140 : decode cL_law 140 = .ok (.invokestatic 68, 3) := by decide +kernel
theorem dL_law_143 : decode cL_law 143 = .ok (.istore 5, 2) := by decide +kernel
theorem dL_law_145 : decode cL_law 145 = .ok (.aload_n 2, 1) := by decide +kernel
theorem dL_law_146 : decode cL_law 146 = .ok (.aload_n 0, 1) := by decide +kernel
theorem dL_law_147 : decode cL_law 147 = .ok (.iload 4, 2) := by decide +kernel
theorem dL_law_149 : decode cL_law 149 = .ok (.iconst 1, 1) := by decide +kernel
theorem dL_law_150 : decode cL_law 150 = .ok (.iadd, 1) := by decide +kernel
theorem dL_law_151 : decode cL_law 151 = .ok (.iaload, 1) := by decide +kernel
theorem dL_law_152 : decode cL_law 152 = .ok (.aload_n 0, 1) := by decide +kernel
theorem dL_law_153 : decode cL_law 153 = .ok (.iload 4, 2) := by decide +kernel
theorem dL_law_155 : decode cL_law 155 = .ok (.iconst 2, 1) := by decide +kernel
theorem dL_law_156 : decode cL_law 156 = .ok (.iadd, 1) := by decide +kernel
theorem dL_law_157 : decode cL_law 157 = .ok (.iaload, 1) := by decide +kernel
theorem dL_law_158 : decode cL_law 158 = .ok (.aload_n 0, 1) := by decide +kernel
theorem dL_law_159 : decode cL_law 159 = .ok (.iload 4, 2) := by decide +kernel
theorem dL_law_161 : decode cL_law 161 = .ok (.iconst 3, 1) := by decide +kernel
theorem dL_law_162 : decode cL_law 162 = .ok (.iadd, 1) := by decide +kernel
theorem dL_law_163 : decode cL_law 163 = .ok (.iaload, 1) := by decide +kernel
theorem dL_law_164 : decode cL_law 164 = .ok (.ifCond .eq 7, 3) := by decide +kernel
theorem dL_law_167 : decode cL_law 167 = .ok (.iconst 1, 1) := by decide +kernel
theorem dL_law_168 : decode cL_law 168 = .ok (.goto 4, 3) := by decide +kernel
theorem dL_law_171 : decode cL_law 171 = .ok (.iconst 0, 1) := by decide +kernel
theorem dL_law_172 : decode cL_law 172 = .ok (.invokevirtual 73, 3) := by decide +kernel
theorem dL_law_175 : decode cL_law 175 = .ok (.istore 6, 2) := by decide +kernel
theorem dL_law_177 : decode cL_law 177 = .ok (.aload_n 2, 1) := by decide +kernel
theorem dL_law_178 : decode cL_law 178 = .ok (.invokevirtual 74, 3) := by decide +kernel
theorem dL_law_181 : decode cL_law 181 = .ok (.iload 5, 2) := by decide +kernel
theorem dL_law_183 : decode cL_law 183 = .ok (.if_icmp .eq 5, 3) := by decide +kernel
theorem dL_law_186 : decode cL_law 186 = .ok (.iconst 0, 1) := by decide +kernel
theorem dL_law_187 : decode cL_law 187 = .ok (.ireturn, 1) := by decide +kernel
theorem dL_law_188 : decode cL_law 188 = .ok (.iload 5, 2) := by decide +kernel
theorem dL_law_190 : decode cL_law 190 = .ok (.ifCond .ne 15, 3) := by decide +kernel
theorem dL_law_193 : decode cL_law 193 = .ok (.aload_n 3, 1) := by decide +kernel
theorem dL_law_194 : decode cL_law 194 = .ok (.iconst 0, 1) := by decide +kernel
theorem dL_law_195 : decode cL_law 195 = .ok (.laload, 1) := by decide +kernel
theorem dL_law_196 : decode cL_law 196 = .ok (.iload 6, 2) := by decide +kernel
theorem dL_law_198 : decode cL_law 198 = .ok (.i2l, 1) := by decide +kernel
theorem dL_law_199 : decode cL_law 199 = .ok (.lcmp, 1) := by decide +kernel
theorem dL_law_200 : decode cL_law 200 = .ok (.ifCond .eq 5, 3) := by decide +kernel
theorem dL_law_203 : decode cL_law 203 = .ok (.iconst 0, 1) := by decide +kernel
theorem dL_law_204 : decode cL_law 204 = .ok (.ireturn, 1) := by decide +kernel
theorem dL_law_205 : decode cL_law 205 = .ok (.goto 746, 3) := by decide +kernel
theorem dL_law_208 : decode cL_law 208 = .ok (.aload_n 1, 1) := by decide +kernel
theorem dL_law_209 : decode cL_law 209 = .ok (.aload_n 0, 1) := by decide +kernel
theorem dL_law_210 : decode cL_law 210 = .ok (.iload 4, 2) := by decide +kernel
theorem dL_law_212 : decode cL_law 212 = .ok (.iconst 1, 1) := by decide +kernel
theorem dL_law_213 : decode cL_law 213 = .ok (.iadd, 1) := by decide +kernel
theorem dL_law_214 : decode cL_law 214 = .ok (.iaload, 1) := by decide +kernel
theorem dL_law_215 : decode cL_law 215 = .ok (.aload_n 0, 1) := by decide +kernel
theorem dL_law_216 : decode cL_law 216 = .ok (.iload 4, 2) := by decide +kernel
theorem dL_law_218 : decode cL_law 218 = .ok (.iconst 2, 1) := by decide +kernel
theorem dL_law_219 : decode cL_law 219 = .ok (.iadd, 1) := by decide +kernel
theorem dL_law_220 : decode cL_law 220 = .ok (.iaload, 1) := by decide +kernel
theorem dL_law_221 : decode cL_law 221 = .ok (.ifCond .eq 7, 3) := by decide +kernel
theorem dL_law_224 : decode cL_law 224 = .ok (.iconst 1, 1) := by decide +kernel
theorem dL_law_225 : decode cL_law 225 = .ok (.goto 4, 3) := by decide +kernel
theorem dL_law_228 : decode cL_law 228 = .ok (.iconst 0, 1) := by decide +kernel
theorem dL_law_229 : decode cL_law 229 = .ok (.invokestatic 78, 3) := by decide +kernel
theorem dL_law_232 : decode cL_law 232 = .ok (.istore 5, 2) := by decide +kernel
theorem dL_law_234 : decode cL_law 234 = .ok (.aload_n 2, 1) := by decide +kernel
theorem dL_law_235 : decode cL_law 235 = .ok (.aload_n 0, 1) := by decide +kernel
theorem dL_law_236 : decode cL_law 236 = .ok (.iload 4, 2) := by decide +kernel
theorem dL_law_238 : decode cL_law 238 = .ok (.iconst 1, 1) := by decide +kernel
theorem dL_law_239 : decode cL_law 239 = .ok (.iadd, 1) := by decide +kernel
theorem dL_law_240 : decode cL_law 240 = .ok (.iaload, 1) := by decide +kernel
theorem dL_law_241 : decode cL_law 241 = .ok (.aload_n 0, 1) := by decide +kernel
theorem dL_law_242 : decode cL_law 242 = .ok (.iload 4, 2) := by decide +kernel
theorem dL_law_244 : decode cL_law 244 = .ok (.iconst 2, 1) := by decide +kernel
theorem dL_law_245 : decode cL_law 245 = .ok (.iadd, 1) := by decide +kernel
theorem dL_law_246 : decode cL_law 246 = .ok (.iaload, 1) := by decide +kernel
theorem dL_law_247 : decode cL_law 247 = .ok (.ifCond .eq 7, 3) := by decide +kernel
theorem dL_law_250 : decode cL_law 250 = .ok (.iconst 1, 1) := by decide +kernel
theorem dL_law_251 : decode cL_law 251 = .ok (.goto 4, 3) := by decide +kernel
theorem dL_law_254 : decode cL_law 254 = .ok (.iconst 0, 1) := by decide +kernel
theorem dL_law_255 : decode cL_law 255 = .ok (.invokevirtual 81, 3) := by decide +kernel
theorem dL_law_258 : decode cL_law 258 = .ok (.aload_n 2, 1) := by decide +kernel
theorem dL_law_259 : decode cL_law 259 = .ok (.invokevirtual 74, 3) := by decide +kernel
theorem dL_law_262 : decode cL_law 262 = .ok (.iload 5, 2) := by decide +kernel
theorem dL_law_264 : decode cL_law 264 = .ok (.if_icmp .eq 5, 3) := by decide +kernel
theorem dL_law_267 : decode cL_law 267 = .ok (.iconst 0, 1) := by decide +kernel
theorem dL_law_268 : decode cL_law 268 = .ok (.ireturn, 1) := by decide +kernel
theorem dL_law_269 : decode cL_law 269 = .ok (.goto 682, 3) := by decide +kernel
theorem dL_law_272 : decode cL_law 272 = .ok (.aload_n 1, 1) := by decide +kernel
theorem dL_law_273 : decode cL_law 273 = .ok (.aload_n 0, 1) := by decide +kernel
theorem dL_law_274 : decode cL_law 274 = .ok (.iload 4, 2) := by decide +kernel
theorem dL_law_276 : decode cL_law 276 = .ok (.iconst 1, 1) := by decide +kernel
theorem dL_law_277 : decode cL_law 277 = .ok (.iadd, 1) := by decide +kernel
theorem dL_law_278 : decode cL_law 278 = .ok (.iaload, 1) := by decide +kernel
theorem dL_law_279 : decode cL_law 279 = .ok (.aload_n 3, 1) := by decide +kernel
theorem dL_law_280 : decode cL_law 280 = .ok (.invokestatic 82, 3) := by decide +kernel
theorem dL_law_283 : decode cL_law 283 = .ok (.istore 5, 2) := by decide +kernel
theorem dL_law_285 : decode cL_law 285 = .ok (.aload_n 2, 1) := by decide +kernel
theorem dL_law_286 : decode cL_law 286 = .ok (.aload_n 0, 1) := by decide +kernel
theorem dL_law_287 : decode cL_law 287 = .ok (.iload 4, 2) := by decide +kernel
theorem dL_law_289 : decode cL_law 289 = .ok (.iconst 1, 1) := by decide +kernel
theorem dL_law_290 : decode cL_law 290 = .ok (.iadd, 1) := by decide +kernel
theorem dL_law_291 : decode cL_law 291 = .ok (.iaload, 1) := by decide +kernel
theorem dL_law_292 : decode cL_law 292 = .ok (.invokevirtual 85, 3) := by decide +kernel
theorem dL_law_295 : decode cL_law 295 = .ok (.istore 6, 2) := by decide +kernel
theorem dL_law_297 : decode cL_law 297 = .ok (.aload_n 2, 1) := by decide +kernel
theorem dL_law_298 : decode cL_law 298 = .ok (.invokevirtual 74, 3) := by decide +kernel
theorem dL_law_301 : decode cL_law 301 = .ok (.iload 5, 2) := by decide +kernel
theorem dL_law_303 : decode cL_law 303 = .ok (.if_icmp .eq 5, 3) := by decide +kernel
theorem dL_law_306 : decode cL_law 306 = .ok (.iconst 0, 1) := by decide +kernel
theorem dL_law_307 : decode cL_law 307 = .ok (.ireturn, 1) := by decide +kernel
theorem dL_law_308 : decode cL_law 308 = .ok (.iload 5, 2) := by decide +kernel
theorem dL_law_310 : decode cL_law 310 = .ok (.ifCond .ne 15, 3) := by decide +kernel
theorem dL_law_313 : decode cL_law 313 = .ok (.aload_n 3, 1) := by decide +kernel
theorem dL_law_314 : decode cL_law 314 = .ok (.iconst 0, 1) := by decide +kernel
theorem dL_law_315 : decode cL_law 315 = .ok (.laload, 1) := by decide +kernel
theorem dL_law_316 : decode cL_law 316 = .ok (.iload 6, 2) := by decide +kernel
theorem dL_law_318 : decode cL_law 318 = .ok (.i2l, 1) := by decide +kernel
theorem dL_law_319 : decode cL_law 319 = .ok (.lcmp, 1) := by decide +kernel
theorem dL_law_320 : decode cL_law 320 = .ok (.ifCond .eq 5, 3) := by decide +kernel
theorem dL_law_323 : decode cL_law 323 = .ok (.iconst 0, 1) := by decide +kernel
theorem dL_law_324 : decode cL_law 324 = .ok (.ireturn, 1) := by decide +kernel
theorem dL_law_325 : decode cL_law 325 = .ok (.goto 626, 3) := by decide +kernel
theorem dL_law_328 : decode cL_law 328 = .ok (.aload_n 1, 1) := by decide +kernel
theorem dL_law_329 : decode cL_law 329 = .ok (.aload_n 0, 1) := by decide +kernel
theorem dL_law_330 : decode cL_law 330 = .ok (.iload 4, 2) := by decide +kernel
theorem dL_law_332 : decode cL_law 332 = .ok (.iconst 1, 1) := by decide +kernel
theorem dL_law_333 : decode cL_law 333 = .ok (.iadd, 1) := by decide +kernel
theorem dL_law_334 : decode cL_law 334 = .ok (.iaload, 1) := by decide +kernel
theorem dL_law_335 : decode cL_law 335 = .ok (.aload_n 0, 1) := by decide +kernel
theorem dL_law_336 : decode cL_law 336 = .ok (.iload 4, 2) := by decide +kernel
theorem dL_law_338 : decode cL_law 338 = .ok (.iconst 2, 1) := by decide +kernel
theorem dL_law_339 : decode cL_law 339 = .ok (.iadd, 1) := by decide +kernel
theorem dL_law_340 : decode cL_law 340 = .ok (.iaload, 1) := by decide +kernel
theorem dL_law_341 : decode cL_law 341 = .ok (.aload_n 3, 1) := by decide +kernel
theorem dL_law_342 : decode cL_law 342 = .ok (.invokestatic 86, 3) := by decide +kernel
theorem dL_law_345 : decode cL_law 345 = .ok (.istore 5, 2) := by decide +kernel
theorem dL_law_347 : decode cL_law 347 = .ok (.aload_n 2, 1) := by decide +kernel
theorem dL_law_348 : decode cL_law 348 = .ok (.aload_n 0, 1) := by decide +kernel
theorem dL_law_349 : decode cL_law 349 = .ok (.iload 4, 2) := by decide +kernel
theorem dL_law_351 : decode cL_law 351 = .ok (.iconst 1, 1) := by decide +kernel
theorem dL_law_352 : decode cL_law 352 = .ok (.iadd, 1) := by decide +kernel
theorem dL_law_353 : decode cL_law 353 = .ok (.iaload, 1) := by decide +kernel
theorem dL_law_354 : decode cL_law 354 = .ok (.aload_n 0, 1) := by decide +kernel
theorem dL_law_355 : decode cL_law 355 = .ok (.iload 4, 2) := by decide +kernel
theorem dL_law_357 : decode cL_law 357 = .ok (.iconst 2, 1) := by decide +kernel
theorem dL_law_358 : decode cL_law 358 = .ok (.iadd, 1) := by decide +kernel
theorem dL_law_359 : decode cL_law 359 = .ok (.iaload, 1) := by decide +kernel
theorem dL_law_360 : decode cL_law 360 = .ok (.invokevirtual 89, 3) := by decide +kernel
theorem dL_law_363 : decode cL_law 363 = .ok (.lstore 6, 2) := by decide +kernel
theorem dL_law_365 : decode cL_law 365 = .ok (.aload_n 2, 1) := by decide +kernel
theorem dL_law_366 : decode cL_law 366 = .ok (.invokevirtual 74, 3) := by decide +kernel
theorem dL_law_369 : decode cL_law 369 = .ok (.iload 5, 2) := by decide +kernel
theorem dL_law_371 : decode cL_law 371 = .ok (.if_icmp .eq 5, 3) := by decide +kernel
theorem dL_law_374 : decode cL_law 374 = .ok (.iconst 0, 1) := by decide +kernel
theorem dL_law_375 : decode cL_law 375 = .ok (.ireturn, 1) := by decide +kernel
theorem dL_law_376 : decode cL_law 376 = .ok (.iload 5, 2) := by decide +kernel
theorem dL_law_378 : decode cL_law 378 = .ok (.ifCond .ne 14, 3) := by decide +kernel
theorem dL_law_381 : decode cL_law 381 = .ok (.aload_n 3, 1) := by decide +kernel
theorem dL_law_382 : decode cL_law 382 = .ok (.iconst 0, 1) := by decide +kernel
theorem dL_law_383 : decode cL_law 383 = .ok (.laload, 1) := by decide +kernel
theorem dL_law_384 : decode cL_law 384 = .ok (.lload 6, 2) := by decide +kernel
theorem dL_law_386 : decode cL_law 386 = .ok (.lcmp, 1) := by decide +kernel
theorem dL_law_387 : decode cL_law 387 = .ok (.ifCond .eq 5, 3) := by decide +kernel
theorem dL_law_390 : decode cL_law 390 = .ok (.iconst 0, 1) := by decide +kernel
theorem dL_law_391 : decode cL_law 391 = .ok (.ireturn, 1) := by decide +kernel
theorem dL_law_392 : decode cL_law 392 = .ok (.goto 559, 3) := by decide +kernel
theorem dL_law_395 : decode cL_law 395 = .ok (.aload_n 1, 1) := by decide +kernel
theorem dL_law_396 : decode cL_law 396 = .ok (.aload_n 0, 1) := by decide +kernel
theorem dL_law_397 : decode cL_law 397 = .ok (.iload 4, 2) := by decide +kernel
theorem dL_law_399 : decode cL_law 399 = .ok (.iconst 1, 1) := by decide +kernel
theorem dL_law_400 : decode cL_law 400 = .ok (.iadd, 1) := by decide +kernel
theorem dL_law_401 : decode cL_law 401 = .ok (.iaload, 1) := by decide +kernel
theorem dL_law_402 : decode cL_law 402 = .ok (.aload_n 0, 1) := by decide +kernel
theorem dL_law_403 : decode cL_law 403 = .ok (.iload 4, 2) := by decide +kernel
theorem dL_law_405 : decode cL_law 405 = .ok (.iconst 2, 1) := by decide +kernel
theorem dL_law_406 : decode cL_law 406 = .ok (.iadd, 1) := by decide +kernel
theorem dL_law_407 : decode cL_law 407 = .ok (.iaload, 1) := by decide +kernel
theorem dL_law_408 : decode cL_law 408 = .ok (.invokestatic 90, 3) := by decide +kernel
theorem dL_law_411 : decode cL_law 411 = .ok (.istore 5, 2) := by decide +kernel
theorem dL_law_413 : decode cL_law 413 = .ok (.aload_n 2, 1) := by decide +kernel
theorem dL_law_414 : decode cL_law 414 = .ok (.aload_n 0, 1) := by decide +kernel
theorem dL_law_415 : decode cL_law 415 = .ok (.iload 4, 2) := by decide +kernel
theorem dL_law_417 : decode cL_law 417 = .ok (.iconst 1, 1) := by decide +kernel
theorem dL_law_418 : decode cL_law 418 = .ok (.iadd, 1) := by decide +kernel
theorem dL_law_419 : decode cL_law 419 = .ok (.iaload, 1) := by decide +kernel
theorem dL_law_420 : decode cL_law 420 = .ok (.aload_n 0, 1) := by decide +kernel
theorem dL_law_421 : decode cL_law 421 = .ok (.iload 4, 2) := by decide +kernel
theorem dL_law_423 : decode cL_law 423 = .ok (.iconst 2, 1) := by decide +kernel
theorem dL_law_424 : decode cL_law 424 = .ok (.iadd, 1) := by decide +kernel
theorem dL_law_425 : decode cL_law 425 = .ok (.iaload, 1) := by decide +kernel
theorem dL_law_426 : decode cL_law 426 = .ok (.invokevirtual 93, 3) := by decide +kernel
theorem dL_law_429 : decode cL_law 429 = .ok (.aload_n 2, 1) := by decide +kernel
theorem dL_law_430 : decode cL_law 430 = .ok (.invokevirtual 74, 3) := by decide +kernel
theorem dL_law_433 : decode cL_law 433 = .ok (.iload 5, 2) := by decide +kernel
theorem dL_law_435 : decode cL_law 435 = .ok (.if_icmp .eq 5, 3) := by decide +kernel
theorem dL_law_438 : decode cL_law 438 = .ok (.iconst 0, 1) := by decide +kernel
theorem dL_law_439 : decode cL_law 439 = .ok (.ireturn, 1) := by decide +kernel
theorem dL_law_440 : decode cL_law 440 = .ok (.goto 511, 3) := by decide +kernel
theorem dL_law_443 : decode cL_law 443 = .ok (.aload_n 1, 1) := by decide +kernel
theorem dL_law_444 : decode cL_law 444 = .ok (.aload_n 0, 1) := by decide +kernel
theorem dL_law_445 : decode cL_law 445 = .ok (.iload 4, 2) := by decide +kernel
theorem dL_law_447 : decode cL_law 447 = .ok (.iconst 1, 1) := by decide +kernel
theorem dL_law_448 : decode cL_law 448 = .ok (.iadd, 1) := by decide +kernel
theorem dL_law_449 : decode cL_law 449 = .ok (.iaload, 1) := by decide +kernel
theorem dL_law_450 : decode cL_law 450 = .ok (.aload_n 3, 1) := by decide +kernel
theorem dL_law_451 : decode cL_law 451 = .ok (.invokestatic 94, 3) := by decide +kernel
theorem dL_law_454 : decode cL_law 454 = .ok (.istore 5, 2) := by decide +kernel
theorem dL_law_456 : decode cL_law 456 = .ok (.aload_n 2, 1) := by decide +kernel
theorem dL_law_457 : decode cL_law 457 = .ok (.aload_n 0, 1) := by decide +kernel
theorem dL_law_458 : decode cL_law 458 = .ok (.iload 4, 2) := by decide +kernel
theorem dL_law_460 : decode cL_law 460 = .ok (.iconst 1, 1) := by decide +kernel
theorem dL_law_461 : decode cL_law 461 = .ok (.iadd, 1) := by decide +kernel
theorem dL_law_462 : decode cL_law 462 = .ok (.iaload, 1) := by decide +kernel
theorem dL_law_463 : decode cL_law 463 = .ok (.invokevirtual 96, 3) := by decide +kernel
theorem dL_law_466 : decode cL_law 466 = .ok (.istore 6, 2) := by decide +kernel
theorem dL_law_468 : decode cL_law 468 = .ok (.aload_n 2, 1) := by decide +kernel
theorem dL_law_469 : decode cL_law 469 = .ok (.invokevirtual 74, 3) := by decide +kernel
theorem dL_law_472 : decode cL_law 472 = .ok (.iload 5, 2) := by decide +kernel
theorem dL_law_474 : decode cL_law 474 = .ok (.if_icmp .eq 5, 3) := by decide +kernel
theorem dL_law_477 : decode cL_law 477 = .ok (.iconst 0, 1) := by decide +kernel
theorem dL_law_478 : decode cL_law 478 = .ok (.ireturn, 1) := by decide +kernel
theorem dL_law_479 : decode cL_law 479 = .ok (.iload 5, 2) := by decide +kernel
theorem dL_law_481 : decode cL_law 481 = .ok (.ifCond .ne 15, 3) := by decide +kernel
theorem dL_law_484 : decode cL_law 484 = .ok (.aload_n 3, 1) := by decide +kernel
theorem dL_law_485 : decode cL_law 485 = .ok (.iconst 0, 1) := by decide +kernel
theorem dL_law_486 : decode cL_law 486 = .ok (.laload, 1) := by decide +kernel
theorem dL_law_487 : decode cL_law 487 = .ok (.iload 6, 2) := by decide +kernel
theorem dL_law_489 : decode cL_law 489 = .ok (.i2l, 1) := by decide +kernel
theorem dL_law_490 : decode cL_law 490 = .ok (.lcmp, 1) := by decide +kernel
theorem dL_law_491 : decode cL_law 491 = .ok (.ifCond .eq 5, 3) := by decide +kernel
theorem dL_law_494 : decode cL_law 494 = .ok (.iconst 0, 1) := by decide +kernel
theorem dL_law_495 : decode cL_law 495 = .ok (.ireturn, 1) := by decide +kernel
theorem dL_law_496 : decode cL_law 496 = .ok (.goto 455, 3) := by decide +kernel
theorem dL_law_499 : decode cL_law 499 = .ok (.aload_n 1, 1) := by decide +kernel
theorem dL_law_500 : decode cL_law 500 = .ok (.aload_n 0, 1) := by decide +kernel
theorem dL_law_501 : decode cL_law 501 = .ok (.iload 4, 2) := by decide +kernel
theorem dL_law_503 : decode cL_law 503 = .ok (.iconst 1, 1) := by decide +kernel
theorem dL_law_504 : decode cL_law 504 = .ok (.iadd, 1) := by decide +kernel
theorem dL_law_505 : decode cL_law 505 = .ok (.iaload, 1) := by decide +kernel
theorem dL_law_506 : decode cL_law 506 = .ok (.aload_n 3, 1) := by decide +kernel
theorem dL_law_507 : decode cL_law 507 = .ok (.invokestatic 97, 3) := by decide +kernel
theorem dL_law_510 : decode cL_law 510 = .ok (.istore 5, 2) := by decide +kernel
theorem dL_law_512 : decode cL_law 512 = .ok (.aload_n 2, 1) := by decide +kernel
theorem dL_law_513 : decode cL_law 513 = .ok (.aload_n 0, 1) := by decide +kernel
theorem dL_law_514 : decode cL_law 514 = .ok (.iload 4, 2) := by decide +kernel
theorem dL_law_516 : decode cL_law 516 = .ok (.iconst 1, 1) := by decide +kernel
theorem dL_law_517 : decode cL_law 517 = .ok (.iadd, 1) := by decide +kernel
theorem dL_law_518 : decode cL_law 518 = .ok (.iaload, 1) := by decide +kernel
theorem dL_law_519 : decode cL_law 519 = .ok (.invokevirtual 99, 3) := by decide +kernel
theorem dL_law_522 : decode cL_law 522 = .ok (.istore 6, 2) := by decide +kernel
theorem dL_law_524 : decode cL_law 524 = .ok (.aload_n 2, 1) := by decide +kernel
theorem dL_law_525 : decode cL_law 525 = .ok (.invokevirtual 74, 3) := by decide +kernel
theorem dL_law_528 : decode cL_law 528 = .ok (.iload 5, 2) := by decide +kernel
theorem dL_law_530 : decode cL_law 530 = .ok (.if_icmp .eq 5, 3) := by decide +kernel
theorem dL_law_533 : decode cL_law 533 = .ok (.iconst 0, 1) := by decide +kernel
theorem dL_law_534 : decode cL_law 534 = .ok (.ireturn, 1) := by decide +kernel
theorem dL_law_535 : decode cL_law 535 = .ok (.iload 5, 2) := by decide +kernel
theorem dL_law_537 : decode cL_law 537 = .ok (.ifCond .ne 15, 3) := by decide +kernel
theorem dL_law_540 : decode cL_law 540 = .ok (.aload_n 3, 1) := by decide +kernel
theorem dL_law_541 : decode cL_law 541 = .ok (.iconst 0, 1) := by decide +kernel
theorem dL_law_542 : decode cL_law 542 = .ok (.laload, 1) := by decide +kernel
theorem dL_law_543 : decode cL_law 543 = .ok (.iload 6, 2) := by decide +kernel
theorem dL_law_545 : decode cL_law 545 = .ok (.i2l, 1) := by decide +kernel
theorem dL_law_546 : decode cL_law 546 = .ok (.lcmp, 1) := by decide +kernel
theorem dL_law_547 : decode cL_law 547 = .ok (.ifCond .eq 5, 3) := by decide +kernel
theorem dL_law_550 : decode cL_law 550 = .ok (.iconst 0, 1) := by decide +kernel
theorem dL_law_551 : decode cL_law 551 = .ok (.ireturn, 1) := by decide +kernel
theorem dL_law_552 : decode cL_law 552 = .ok (.goto 399, 3) := by decide +kernel
theorem dL_law_555 : decode cL_law 555 = .ok (.aload_n 1, 1) := by decide +kernel
theorem dL_law_556 : decode cL_law 556 = .ok (.invokevirtual 100, 3) := by decide +kernel
theorem dL_law_559 : decode cL_law 559 = .ok (.aload_n 2, 1) := by decide +kernel
theorem dL_law_560 : decode cL_law 560 = .ok (.invokevirtual 103, 3) := by decide +kernel
theorem dL_law_563 : decode cL_law 563 = .ok (.if_icmp .eq 388, 3) := by decide +kernel
theorem dL_law_566 : decode cL_law 566 = .ok (.iconst 0, 1) := by decide +kernel
theorem dL_law_567 : decode cL_law 567 = .ok (.ireturn, 1) := by decide +kernel
theorem dL_law_568 : decode cL_law 568 = .ok (.aload_n 1, 1) := by decide +kernel
theorem dL_law_569 : decode cL_law 569 = .ok (.aload_n 0, 1) := by decide +kernel
theorem dL_law_570 : decode cL_law 570 = .ok (.iload 4, 2) := by decide +kernel
theorem dL_law_572 : decode cL_law 572 = .ok (.iconst 1, 1) := by decide +kernel
theorem dL_law_573 : decode cL_law 573 = .ok (.iadd, 1) := by decide +kernel
theorem dL_law_574 : decode cL_law 574 = .ok (.iaload, 1) := by decide +kernel
theorem dL_law_575 : decode cL_law 575 = .ok (.aload_n 0, 1) := by decide +kernel
theorem dL_law_576 : decode cL_law 576 = .ok (.iload 4, 2) := by decide +kernel
theorem dL_law_578 : decode cL_law 578 = .ok (.iconst 2, 1) := by decide +kernel
theorem dL_law_579 : decode cL_law 579 = .ok (.iadd, 1) := by decide +kernel
theorem dL_law_580 : decode cL_law 580 = .ok (.iaload, 1) := by decide +kernel
theorem dL_law_581 : decode cL_law 581 = .ok (.aload_n 3, 1) := by decide +kernel
theorem dL_law_582 : decode cL_law 582 = .ok (.invokestatic 104, 3) := by decide +kernel
theorem dL_law_585 : decode cL_law 585 = .ok (.istore 5, 2) := by decide +kernel
theorem dL_law_587 : decode cL_law 587 = .ok (.aload_n 2, 1) := by decide +kernel
theorem dL_law_588 : decode cL_law 588 = .ok (.aload_n 0, 1) := by decide +kernel
theorem dL_law_589 : decode cL_law 589 = .ok (.iload 4, 2) := by decide +kernel
theorem dL_law_591 : decode cL_law 591 = .ok (.iconst 1, 1) := by decide +kernel
theorem dL_law_592 : decode cL_law 592 = .ok (.iadd, 1) := by decide +kernel
theorem dL_law_593 : decode cL_law 593 = .ok (.iaload, 1) := by decide +kernel
theorem dL_law_594 : decode cL_law 594 = .ok (.aload_n 0, 1) := by decide +kernel
theorem dL_law_595 : decode cL_law 595 = .ok (.iload 4, 2) := by decide +kernel
theorem dL_law_597 : decode cL_law 597 = .ok (.iconst 2, 1) := by decide +kernel
theorem dL_law_598 : decode cL_law 598 = .ok (.iadd, 1) := by decide +kernel
theorem dL_law_599 : decode cL_law 599 = .ok (.iaload, 1) := by decide +kernel
theorem dL_law_600 : decode cL_law 600 = .ok (.invokevirtual 106, 3) := by decide +kernel
theorem dL_law_603 : decode cL_law 603 = .ok (.istore 6, 2) := by decide +kernel
theorem dL_law_605 : decode cL_law 605 = .ok (.aload_n 2, 1) := by decide +kernel
theorem dL_law_606 : decode cL_law 606 = .ok (.invokevirtual 74, 3) := by decide +kernel
theorem dL_law_609 : decode cL_law 609 = .ok (.iload 5, 2) := by decide +kernel
theorem dL_law_611 : decode cL_law 611 = .ok (.if_icmp .eq 5, 3) := by decide +kernel
theorem dL_law_614 : decode cL_law 614 = .ok (.iconst 0, 1) := by decide +kernel
theorem dL_law_615 : decode cL_law 615 = .ok (.ireturn, 1) := by decide +kernel
theorem dL_law_616 : decode cL_law 616 = .ok (.iload 5, 2) := by decide +kernel
theorem dL_law_618 : decode cL_law 618 = .ok (.ifCond .ne 22, 3) := by decide +kernel
theorem dL_law_621 : decode cL_law 621 = .ok (.aload_n 3, 1) := by decide +kernel
theorem dL_law_622 : decode cL_law 622 = .ok (.iconst 0, 1) := by decide +kernel
theorem dL_law_623 : decode cL_law 623 = .ok (.laload, 1) := by decide +kernel
theorem dL_law_624 : decode cL_law 624 = .ok (.iload 6, 2) := by decide +kernel
theorem dL_law_626 : decode cL_law 626 = .ok (.ifCond .eq 7, 3) := by decide +kernel
theorem dL_law_629 : decode cL_law 629 = .ok (.lconst 1, 1) := by decide +kernel
theorem dL_law_630 : decode cL_law 630 = .ok (.goto 4, 3) := by decide +kernel
theorem dL_law_633 : decode cL_law 633 = .ok (.lconst 0, 1) := by decide +kernel
theorem dL_law_634 : decode cL_law 634 = .ok (.lcmp, 1) := by decide +kernel
theorem dL_law_635 : decode cL_law 635 = .ok (.ifCond .eq 5, 3) := by decide +kernel
theorem dL_law_638 : decode cL_law 638 = .ok (.iconst 0, 1) := by decide +kernel
theorem dL_law_639 : decode cL_law 639 = .ok (.ireturn, 1) := by decide +kernel
theorem dL_law_640 : decode cL_law 640 = .ok (.goto 311, 3) := by decide +kernel
theorem dL_law_643 : decode cL_law 643 = .ok (.aload_n 1, 1) := by decide +kernel
theorem dL_law_644 : decode cL_law 644 = .ok (.aload_n 0, 1) := by decide +kernel
theorem dL_law_645 : decode cL_law 645 = .ok (.iload 4, 2) := by decide +kernel
theorem dL_law_647 : decode cL_law 647 = .ok (.iconst 1, 1) := by decide +kernel
theorem dL_law_648 : decode cL_law 648 = .ok (.iadd, 1) := by decide +kernel
theorem dL_law_649 : decode cL_law 649 = .ok (.iaload, 1) := by decide +kernel
theorem dL_law_650 : decode cL_law 650 = .ok (.aload_n 0, 1) := by decide +kernel
theorem dL_law_651 : decode cL_law 651 = .ok (.iload 4, 2) := by decide +kernel
theorem dL_law_653 : decode cL_law 653 = .ok (.iconst 2, 1) := by decide +kernel
theorem dL_law_654 : decode cL_law 654 = .ok (.iadd, 1) := by decide +kernel
theorem dL_law_655 : decode cL_law 655 = .ok (.iaload, 1) := by decide +kernel
theorem dL_law_656 : decode cL_law 656 = .ok (.i2l, 1) := by decide +kernel
theorem dL_law_657 : decode cL_law 657 = .ok (.bipush 32, 2) := by decide +kernel
theorem dL_law_659 : decode cL_law 659 = .ok (.lshl, 1) := by decide +kernel
theorem dL_law_660 : decode cL_law 660 = .ok (.aload_n 0, 1) := by decide +kernel
theorem dL_law_661 : decode cL_law 661 = .ok (.iload 4, 2) := by decide +kernel
theorem dL_law_663 : decode cL_law 663 = .ok (.iconst 3, 1) := by decide +kernel
theorem dL_law_664 : decode cL_law 664 = .ok (.iadd, 1) := by decide +kernel
theorem dL_law_665 : decode cL_law 665 = .ok (.iaload, 1) := by decide +kernel
theorem dL_law_666 : decode cL_law 666 = .ok (.i2l, 1) := by decide +kernel
theorem dL_law_667 : decode cL_law 667 = .ok (.ldc2_w 107, 3) := by decide +kernel
theorem dL_law_670 : decode cL_law 670 = .ok (.land, 1) := by decide +kernel
theorem dL_law_671 : decode cL_law 671 = .ok (.lor, 1) := by decide +kernel
theorem dL_law_672 : decode cL_law 672 = .ok (.invokestatic 109, 3) := by decide +kernel
theorem dL_law_675 : decode cL_law 675 = .ok (.istore 5, 2) := by decide +kernel
theorem dL_law_677 : decode cL_law 677 = .ok (.aload_n 2, 1) := by decide +kernel
theorem dL_law_678 : decode cL_law 678 = .ok (.aload_n 0, 1) := by decide +kernel
theorem dL_law_679 : decode cL_law 679 = .ok (.iload 4, 2) := by decide +kernel
theorem dL_law_681 : decode cL_law 681 = .ok (.iconst 1, 1) := by decide +kernel
theorem dL_law_682 : decode cL_law 682 = .ok (.iadd, 1) := by decide +kernel
theorem dL_law_683 : decode cL_law 683 = .ok (.iaload, 1) := by decide +kernel
theorem dL_law_684 : decode cL_law 684 = .ok (.aload_n 0, 1) := by decide +kernel
theorem dL_law_685 : decode cL_law 685 = .ok (.iload 4, 2) := by decide +kernel
theorem dL_law_687 : decode cL_law 687 = .ok (.iconst 2, 1) := by decide +kernel
theorem dL_law_688 : decode cL_law 688 = .ok (.iadd, 1) := by decide +kernel
theorem dL_law_689 : decode cL_law 689 = .ok (.iaload, 1) := by decide +kernel
theorem dL_law_690 : decode cL_law 690 = .ok (.i2l, 1) := by decide +kernel
theorem dL_law_691 : decode cL_law 691 = .ok (.bipush 32, 2) := by decide +kernel
theorem dL_law_693 : decode cL_law 693 = .ok (.lshl, 1) := by decide +kernel
theorem dL_law_694 : decode cL_law 694 = .ok (.aload_n 0, 1) := by decide +kernel
theorem dL_law_695 : decode cL_law 695 = .ok (.iload 4, 2) := by decide +kernel
theorem dL_law_697 : decode cL_law 697 = .ok (.iconst 3, 1) := by decide +kernel
theorem dL_law_698 : decode cL_law 698 = .ok (.iadd, 1) := by decide +kernel
theorem dL_law_699 : decode cL_law 699 = .ok (.iaload, 1) := by decide +kernel
theorem dL_law_700 : decode cL_law 700 = .ok (.i2l, 1) := by decide +kernel
theorem dL_law_701 : decode cL_law 701 = .ok (.ldc2_w 107, 3) := by decide +kernel
theorem dL_law_704 : decode cL_law 704 = .ok (.land, 1) := by decide +kernel
theorem dL_law_705 : decode cL_law 705 = .ok (.lor, 1) := by decide +kernel
theorem dL_law_706 : decode cL_law 706 = .ok (.invokevirtual 112, 3) := by decide +kernel
theorem dL_law_709 : decode cL_law 709 = .ok (.aload_n 2, 1) := by decide +kernel
theorem dL_law_710 : decode cL_law 710 = .ok (.invokevirtual 74, 3) := by decide +kernel
theorem dL_law_713 : decode cL_law 713 = .ok (.iload 5, 2) := by decide +kernel
theorem dL_law_715 : decode cL_law 715 = .ok (.if_icmp .eq 5, 3) := by decide +kernel
theorem dL_law_718 : decode cL_law 718 = .ok (.iconst 0, 1) := by decide +kernel
theorem dL_law_719 : decode cL_law 719 = .ok (.ireturn, 1) := by decide +kernel
theorem dL_law_720 : decode cL_law 720 = .ok (.goto 231, 3) := by decide +kernel
theorem dL_law_723 : decode cL_law 723 = .ok (.aload_n 1, 1) := by decide +kernel
theorem dL_law_724 : decode cL_law 724 = .ok (.aload_n 0, 1) := by decide +kernel
theorem dL_law_725 : decode cL_law 725 = .ok (.iload 4, 2) := by decide +kernel
theorem dL_law_727 : decode cL_law 727 = .ok (.iconst 1, 1) := by decide +kernel
theorem dL_law_728 : decode cL_law 728 = .ok (.iadd, 1) := by decide +kernel
theorem dL_law_729 : decode cL_law 729 = .ok (.iaload, 1) := by decide +kernel
theorem dL_law_730 : decode cL_law 730 = .ok (.invokestatic 113, 3) := by decide +kernel
theorem dL_law_733 : decode cL_law 733 = .ok (.istore 5, 2) := by decide +kernel
theorem dL_law_735 : decode cL_law 735 = .ok (.aload_n 2, 1) := by decide +kernel
theorem dL_law_736 : decode cL_law 736 = .ok (.aload_n 0, 1) := by decide +kernel
theorem dL_law_737 : decode cL_law 737 = .ok (.iload 4, 2) := by decide +kernel
theorem dL_law_739 : decode cL_law 739 = .ok (.iconst 1, 1) := by decide +kernel
theorem dL_law_740 : decode cL_law 740 = .ok (.iadd, 1) := by decide +kernel
theorem dL_law_741 : decode cL_law 741 = .ok (.iaload, 1) := by decide +kernel
theorem dL_law_742 : decode cL_law 742 = .ok (.invokevirtual 116, 3) := by decide +kernel
theorem dL_law_745 : decode cL_law 745 = .ok (.aload_n 2, 1) := by decide +kernel
theorem dL_law_746 : decode cL_law 746 = .ok (.invokevirtual 74, 3) := by decide +kernel
theorem dL_law_749 : decode cL_law 749 = .ok (.iload 5, 2) := by decide +kernel
theorem dL_law_751 : decode cL_law 751 = .ok (.if_icmp .eq 5, 3) := by decide +kernel
