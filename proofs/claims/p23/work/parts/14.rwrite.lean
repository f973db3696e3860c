theorem dX9_comes_0 : decode cX9_comes 0 = .ok (.iconst 0, 1) := by decide +kernel
theorem dX9_comes_1 : decode cX9_comes 1 = .ok (.istore_n 2, 1) := by decide +kernel
theorem dX9_comes_12 : decode cX9_comes 12 = .ok (.aload_n 0, 1) := by decide +kernel
theorem dX9_comes_13 : decode cX9_comes 13 = .ok (.getfield 75, 3) := by decide +kernel
theorem dX9_comes_16 : decode cX9_comes 16 = .ok (.bipush 120, 2) := by decide +kernel
theorem dX9_comes_18 : decode cX9_comes 18 = .ok (.iload_n 1, 1) := by decide +kernel
theorem dX9_comes_19 : decode cX9_comes 19 = .ok (.imul, 1) := by decide +kernel
theorem dX9_comes_2 : decode cX9_comes 2 = .ok (.iload_n 2, 1) := by decide +kernel
theorem dX9_comes_20 : decode cX9_comes 20 = .ok (.iload_n 2, 1) := by decide +kernel
theorem dX9_comes_21 : decode cX9_comes 21 = .ok (.iadd, 1) := by decide +kernel
theorem dX9_comes_22 : decode cX9_comes 22 = .ok (.aload_n 0, 1) := by decide +kernel
theorem dX9_comes_23 : decode cX9_comes 23 = .ok (.getfield 114, 3) := by decide +kernel
theorem dX9_comes_26 : decode cX9_comes 26 = .ok (.iload_n 2, 1) := by decide +kernel
theorem dX9_comes_27 : decode cX9_comes 27 = .ok (.iaload, 1) := by decide +kernel
theorem dX9_comes_28 : decode cX9_comes 28 = .ok (.iastore, 1) := by decide +kernel
theorem dX9_comes_29 : decode cX9_comes 29 = .ok (.iinc 2 1, 3) := by decide +kernel
theorem dX9_comes_3 : decode cX9_comes 3 = .ok (.aload_n 0, 1) := by decide +kernel
theorem dX9_comes_32 : decode cX9_comes 32 = .ok (.goto (-30), 3) := by decide +kernel
theorem dX9_comes_35 : decode cX9_comes 35 = .ok (.aload_n 0, 1) := by decide +kernel
theorem dX9_comes_36 : decode cX9_comes 36 = .ok (.getfield 78, 3) := by decide +kernel
theorem dX9_comes_39 : decode cX9_comes 39 = .ok (.iload_n 1, 1) := by decide +kernel
theorem dX9_comes_4 : decode cX9_comes 4 = .ok (.getfield 117, 3) := by decide +kernel
theorem dX9_comes_40 : decode cX9_comes 40 = .ok (.aload_n 0, 1) := by decide +kernel
theorem dX9_comes_41 : decode cX9_comes 41 = .ok (.getfield 117, 3) := by decide +kernel
theorem dX9_comes_44 : decode cX9_comes 44 = .ok (.iconst 0, 1) := by decide +kernel
theorem dX9_comes_45 : decode cX9_comes 45 = .ok (.iaload, 1) := by decide +kernel
theorem dX9_comes_46 : decode cX9_comes 46 = .ok (.iastore, 1) := by decide +kernel
theorem dX9_comes_47 : decode cX9_comes 47 = .ok (.return_, 1) := by decide +kernel
theorem dX9_comes_7 : decode cX9_comes 7 = .ok (.iconst 0, 1) := by decide +kernel
theorem dX9_comes_8 : decode cX9_comes 8 = .ok (.iaload, 1) := by decide +kernel
theorem dX9_comes_9 : decode cX9_comes 9 = .ok (.if_icmp .ge 26, 3) := by decide +kernel
theorem dX9_folded_0 : decode cX9_folded 0 = .ok (.lload_n 0, 1) := by decide +kernel
theorem dX9_folded_1 : decode cX9_folded 1 = .ok (.iconst 1, 1) := by decide +kernel
theorem dX9_folded_2 : decode cX9_folded 2 = .ok (.lshl, 1) := by decide +kernel
theorem dX9_folded_3 : decode cX9_folded 3 = .ok (.lload_n 0, 1) := by decide +kernel
theorem dX9_folded_4 : decode cX9_folded 4 = .ok (.bipush 63, 2) := by decide +kernel
theorem dX9_folded_6 : decode cX9_folded 6 = .ok (.lshr, 1) := by decide +kernel
theorem dX9_folded_7 : decode cX9_folded 7 = .ok (.lxor, 1) := by decide +kernel
theorem dX9_folded_8 : decode cX9_folded 8 = .ok (.lreturn, 1) := by decide +kernel
theorem dX9_keepsFresh_0 : decode cX9_keepsFresh 0 = .ok (.aload_n 0, 1) := by decide +kernel
theorem dX9_keepsFresh_1 : decode cX9_keepsFresh 1 = .ok (.aload_n 0, 1) := by decide +kernel
theorem dX9_keepsFresh_10 : decode cX9_keepsFresh 10 = .ok (.iconst 0, 1) := by decide +kernel
theorem dX9_keepsFresh_11 : decode cX9_keepsFresh 11 = .ok (.istore_n 1, 1) := by decide +kernel
theorem dX9_keepsFresh_12 : decode cX9_keepsFresh 12 = .ok (.iload_n 1, 1) := by decide +kernel
theorem dX9_keepsFresh_13 : decode cX9_keepsFresh 13 = .ok (.aload_n 0, 1) := by decide +kernel
theorem dX9_keepsFresh_14 : decode cX9_keepsFresh 14 = .ok (.getfield 337, 3) := by decide +kernel
theorem dX9_keepsFresh_17 : decode cX9_keepsFresh 17 = .ok (.if_icmp .ge 21, 3) := by decide +kernel
theorem dX9_keepsFresh_2 : decode cX9_keepsFresh 2 = .ok (.getfield 117, 3) := by decide +kernel
theorem dX9_keepsFresh_20 : decode cX9_keepsFresh 20 = .ok (.aload_n 0, 1) := by decide +kernel
theorem dX9_keepsFresh_21 : decode cX9_keepsFresh 21 = .ok (.getfield 123, 3) := by decide +kernel
theorem dX9_keepsFresh_24 : decode cX9_keepsFresh 24 = .ok (.iload_n 1, 1) := by decide +kernel
theorem dX9_keepsFresh_25 : decode cX9_keepsFresh 25 = .ok (.aload_n 0, 1) := by decide +kernel
theorem dX9_keepsFresh_26 : decode cX9_keepsFresh 26 = .ok (.getfield 114, 3) := by decide +kernel
theorem dX9_keepsFresh_29 : decode cX9_keepsFresh 29 = .ok (.iload_n 1, 1) := by decide +kernel
theorem dX9_keepsFresh_30 : decode cX9_keepsFresh 30 = .ok (.iaload, 1) := by decide +kernel
theorem dX9_keepsFresh_31 : decode cX9_keepsFresh 31 = .ok (.iastore, 1) := by decide +kernel
theorem dX9_keepsFresh_32 : decode cX9_keepsFresh 32 = .ok (.iinc 1 1, 3) := by decide +kernel
theorem dX9_keepsFresh_35 : decode cX9_keepsFresh 35 = .ok (.goto (-23), 3) := by decide +kernel
theorem dX9_keepsFresh_38 : decode cX9_keepsFresh 38 = .ok (.return_, 1) := by decide +kernel
theorem dX9_keepsFresh_5 : decode cX9_keepsFresh 5 = .ok (.iconst 0, 1) := by decide +kernel
theorem dX9_keepsFresh_6 : decode cX9_keepsFresh 6 = .ok (.iaload, 1) := by decide +kernel
theorem dX9_keepsFresh_7 : decode cX9_keepsFresh 7 = .ok (.putfield 337, 3) := by decide +kernel
theorem dX9_laysVarint_0 : decode cX9_laysVarint 0 = .ok (.lload_n 2, 1) := by decide +kernel
theorem dX9_laysVarint_1 : decode cX9_laysVarint 1 = .ok (.lstore 4, 2) := by decide +kernel
theorem dX9_laysVarint_10 : decode cX9_laysVarint 10 = .ok (.lload 4, 2) := by decide +kernel
theorem dX9_laysVarint_12 : decode cX9_laysVarint 12 = .ok (.ldc2_w 217, 3) := by decide +kernel
theorem dX9_laysVarint_15 : decode cX9_laysVarint 15 = .ok (.lcmp, 1) := by decide +kernel
theorem dX9_laysVarint_16 : decode cX9_laysVarint 16 = .ok (.ifCond .le 29, 3) := by decide +kernel
theorem dX9_laysVarint_19 : decode cX9_laysVarint 19 = .ok (.aload_n 0, 1) := by decide +kernel
theorem dX9_laysVarint_20 : decode cX9_laysVarint 20 = .ok (.iload_n 1, 1) := by decide +kernel
theorem dX9_laysVarint_21 : decode cX9_laysVarint 21 = .ok (.lload 4, 2) := by decide +kernel
theorem dX9_laysVarint_23 : decode cX9_laysVarint 23 = .ok (.ldc2_w 217, 3) := by decide +kernel
theorem dX9_laysVarint_26 : decode cX9_laysVarint 26 = .ok (.land, 1) := by decide +kernel
theorem dX9_laysVarint_27 : decode cX9_laysVarint 27 = .ok (.l2i, 1) := by decide +kernel
theorem dX9_laysVarint_28 : decode cX9_laysVarint 28 = .ok (.sipush 128, 3) := by decide +kernel
theorem dX9_laysVarint_3 : decode cX9_laysVarint 3 = .ok (.lload 4, 2) := by decide +kernel
theorem dX9_laysVarint_31 : decode cX9_laysVarint 31 = .ok (.ior, 1) := by decide +kernel
theorem dX9_laysVarint_32 : decode cX9_laysVarint 32 = .ok (.invokevirtual 320, 3) := by decide +kernel
theorem dX9_laysVarint_35 : decode cX9_laysVarint 35 = .ok (.lload 4, 2) := by decide +kernel
theorem dX9_laysVarint_37 : decode cX9_laysVarint 37 = .ok (.bipush 7, 2) := by decide +kernel
theorem dX9_laysVarint_39 : decode cX9_laysVarint 39 = .ok (.lushr, 1) := by decide +kernel
theorem dX9_laysVarint_40 : decode cX9_laysVarint 40 = .ok (.lstore 4, 2) := by decide +kernel
theorem dX9_laysVarint_42 : decode cX9_laysVarint 42 = .ok (.goto (-39), 3) := by decide +kernel
theorem dX9_laysVarint_45 : decode cX9_laysVarint 45 = .ok (.aload_n 0, 1) := by decide +kernel
theorem dX9_laysVarint_46 : decode cX9_laysVarint 46 = .ok (.iload_n 1, 1) := by decide +kernel
theorem dX9_laysVarint_47 : decode cX9_laysVarint 47 = .ok (.lload 4, 2) := by decide +kernel
theorem dX9_laysVarint_49 : decode cX9_laysVarint 49 = .ok (.l2i, 1) := by decide +kernel
theorem dX9_laysVarint_5 : decode cX9_laysVarint 5 = .ok (.lconst 0, 1) := by decide +kernel
theorem dX9_laysVarint_50 : decode cX9_laysVarint 50 = .ok (.invokevirtual 320, 3) := by decide +kernel
theorem dX9_laysVarint_53 : decode cX9_laysVarint 53 = .ok (.return_, 1) := by decide +kernel
theorem dX9_laysVarint_6 : decode cX9_laysVarint 6 = .ok (.lcmp, 1) := by decide +kernel
theorem dX9_laysVarint_7 : decode cX9_laysVarint 7 = .ok (.ifCond .lt 12, 3) := by decide +kernel
theorem dX9_lays_0 : decode cX9_lays 0 = .ok (.aload_n 0, 1) := by decide +kernel
theorem dX9_lays_1 : decode cX9_lays 1 = .ok (.getfield 114, 3) := by decide +kernel
theorem dX9_lays_10 : decode cX9_lays 10 = .ok (.getfield 117, 3) := by decide +kernel
theorem dX9_lays_13 : decode cX9_lays 13 = .ok (.iload_n 1, 1) := by decide +kernel
theorem dX9_lays_14 : decode cX9_lays 14 = .ok (.iaload, 1) := by decide +kernel
theorem dX9_lays_15 : decode cX9_lays 15 = .ok (.iadd, 1) := by decide +kernel
theorem dX9_lays_16 : decode cX9_lays 16 = .ok (.iload_n 2, 1) := by decide +kernel
theorem dX9_lays_17 : decode cX9_lays 17 = .ok (.iastore, 1) := by decide +kernel
theorem dX9_lays_18 : decode cX9_lays 18 = .ok (.aload_n 0, 1) := by decide +kernel
theorem dX9_lays_19 : decode cX9_lays 19 = .ok (.getfield 117, 3) := by decide +kernel
theorem dX9_lays_22 : decode cX9_lays 22 = .ok (.iload_n 1, 1) := by decide +kernel
theorem dX9_lays_23 : decode cX9_lays 23 = .ok (.dup2, 1) := by decide +kernel
theorem dX9_lays_24 : decode cX9_lays 24 = .ok (.iaload, 1) := by decide +kernel
theorem dX9_lays_25 : decode cX9_lays 25 = .ok (.iconst 1, 1) := by decide +kernel
theorem dX9_lays_26 : decode cX9_lays 26 = .ok (.iadd, 1) := by decide +kernel
theorem dX9_lays_27 : decode cX9_lays 27 = .ok (.iastore, 1) := by decide +kernel
theorem dX9_lays_28 : decode cX9_lays 28 = .ok (.return_, 1) := by decide +kernel
theorem dX9_lays_4 : decode cX9_lays 4 = .ok (.sipush 160, 3) := by decide +kernel
theorem dX9_lays_7 : decode cX9_lays 7 = .ok (.iload_n 1, 1) := by decide +kernel
theorem dX9_lays_8 : decode cX9_lays 8 = .ok (.imul, 1) := by decide +kernel
theorem dX9_lays_9 : decode cX9_lays 9 = .ok (.aload_n 0, 1) := by decide +kernel
theorem dX9_puts_0 : decode cX9_puts 0 = .ok (.aload_n 0, 1) := by decide +kernel
theorem dX9_puts_1 : decode cX9_puts 1 = .ok (.iload_n 1, 1) := by decide +kernel
theorem dX9_puts_10 : decode cX9_puts 10 = .ok (.iload_n 1, 1) := by decide +kernel
theorem dX9_puts_102 : decode cX9_puts 102 = .ok (.istore 8, 2) := by decide +kernel
theorem dX9_puts_104 : decode cX9_puts 104 = .ok (.aload_n 0, 1) := by decide +kernel
theorem dX9_puts_105 : decode cX9_puts 105 = .ok (.iload_n 2, 1) := by decide +kernel
theorem dX9_puts_106 : decode cX9_puts 106 = .ok (.aload_n 0, 1) := by decide +kernel
theorem dX9_puts_107 : decode cX9_puts 107 = .ok (.getfield 263, 3) := by decide +kernel
theorem dX9_puts_11 : decode cX9_puts 11 = .ok (.iaload, 1) := by decide +kernel
theorem dX9_puts_110 : decode cX9_puts 110 = .ok (.invokevirtual 246, 3) := by decide +kernel
theorem dX9_puts_113 : decode cX9_puts 113 = .ok (.ifCond .eq 38, 3) := by decide +kernel
theorem dX9_puts_116 : decode cX9_puts 116 = .ok (.iload 5, 2) := by decide +kernel
theorem dX9_puts_118 : decode cX9_puts 118 = .ok (.ifCond .le 33, 3) := by decide +kernel
theorem dX9_puts_12 : decode cX9_puts 12 = .ok (.iload_n 2, 1) := by decide +kernel
theorem dX9_puts_121 : decode cX9_puts 121 = .ok (.aload_n 0, 1) := by decide +kernel
theorem dX9_puts_122 : decode cX9_puts 122 = .ok (.getfield 17, 3) := by decide +kernel
theorem dX9_puts_125 : decode cX9_puts 125 = .ok (.bipush 31, 2) := by decide +kernel
theorem dX9_puts_127 : decode cX9_puts 127 = .ok (.iload_n 2, 1) := by decide +kernel
theorem dX9_puts_128 : decode cX9_puts 128 = .ok (.imul, 1) := by decide +kernel
theorem dX9_puts_129 : decode cX9_puts 129 = .ok (.aload_n 0, 1) := by decide +kernel
theorem dX9_puts_13 : decode cX9_puts 13 = .ok (.invokevirtual 331, 3) := by decide +kernel
theorem dX9_puts_130 : decode cX9_puts 130 = .ok (.getfield 263, 3) := by decide +kernel
theorem dX9_puts_133 : decode cX9_puts 133 = .ok (.iadd, 1) := by decide +kernel
theorem dX9_puts_134 : decode cX9_puts 134 = .ok (.iaload, 1) := by decide +kernel
theorem dX9_puts_135 : decode cX9_puts 135 = .ok (.iload 5, 2) := by decide +kernel
theorem dX9_puts_137 : decode cX9_puts 137 = .ok (.if_icmp .ne 14, 3) := by decide +kernel
theorem dX9_puts_140 : decode cX9_puts 140 = .ok (.aload_n 0, 1) := by decide +kernel
theorem dX9_puts_141 : decode cX9_puts 141 = .ok (.getfield 337, 3) := by decide +kernel
theorem dX9_puts_144 : decode cX9_puts 144 = .ok (.ifCond .le 7, 3) := by decide +kernel
theorem dX9_puts_147 : decode cX9_puts 147 = .ok (.iconst 1, 1) := by decide +kernel
theorem dX9_puts_148 : decode cX9_puts 148 = .ok (.goto 4, 3) := by decide +kernel
theorem dX9_puts_151 : decode cX9_puts 151 = .ok (.iconst 0, 1) := by decide +kernel
theorem dX9_puts_152 : decode cX9_puts 152 = .ok (.istore 9, 2) := by decide +kernel
theorem dX9_puts_154 : decode cX9_puts 154 = .ok (.aload_n 0, 1) := by decide +kernel
theorem dX9_puts_155 : decode cX9_puts 155 = .ok (.getfield 263, 3) := by decide +kernel
theorem dX9_puts_158 : decode cX9_puts 158 = .ok (.iload_n 3, 1) := by decide +kernel
theorem dX9_puts_159 : decode cX9_puts 159 = .ok (.if_icmp .le 41, 3) := by decide +kernel
theorem dX9_puts_16 : decode cX9_puts 16 = .ok (.aload_n 0, 1) := by decide +kernel
theorem dX9_puts_162 : decode cX9_puts 162 = .ok (.iload 6, 2) := by decide +kernel
theorem dX9_puts_164 : decode cX9_puts 164 = .ok (.ifCond .ne 36, 3) := by decide +kernel
theorem dX9_puts_167 : decode cX9_puts 167 = .ok (.iconst 0, 1) := by decide +kernel
theorem dX9_puts_168 : decode cX9_puts 168 = .ok (.istore 10, 2) := by decide +kernel
theorem dX9_puts_17 : decode cX9_puts 17 = .ok (.getfield 117, 3) := by decide +kernel
theorem dX9_puts_170 : decode cX9_puts 170 = .ok (.iload 10, 2) := by decide +kernel
theorem dX9_puts_172 : decode cX9_puts 172 = .ok (.aload_n 0, 1) := by decide +kernel
theorem dX9_puts_173 : decode cX9_puts 173 = .ok (.getfield 337, 3) := by decide +kernel
theorem dX9_puts_176 : decode cX9_puts 176 = .ok (.if_icmp .ge 21, 3) := by decide +kernel
theorem dX9_puts_179 : decode cX9_puts 179 = .ok (.aload_n 0, 1) := by decide +kernel
theorem dX9_puts_180 : decode cX9_puts 180 = .ok (.iconst 0, 1) := by decide +kernel
theorem dX9_puts_181 : decode cX9_puts 181 = .ok (.aload_n 0, 1) := by decide +kernel
theorem dX9_puts_182 : decode cX9_puts 182 = .ok (.getfield 123, 3) := by decide +kernel
theorem dX9_puts_185 : decode cX9_puts 185 = .ok (.iload 10, 2) := by decide +kernel
theorem dX9_puts_187 : decode cX9_puts 187 = .ok (.iaload, 1) := by decide +kernel
theorem dX9_puts_188 : decode cX9_puts 188 = .ok (.invokevirtual 320, 3) := by decide +kernel
theorem dX9_puts_191 : decode cX9_puts 191 = .ok (.iinc 10 1, 3) := by decide +kernel
theorem dX9_puts_194 : decode cX9_puts 194 = .ok (.goto (-24), 3) := by decide +kernel
theorem dX9_puts_197 : decode cX9_puts 197 = .ok (.iconst 1, 1) := by decide +kernel
theorem dX9_puts_198 : decode cX9_puts 198 = .ok (.istore 6, 2) := by decide +kernel
theorem dX9_puts_2 : decode cX9_puts 2 = .ok (.invokevirtual 302, 3) := by decide +kernel
theorem dX9_puts_20 : decode cX9_puts 20 = .ok (.iconst 0, 1) := by decide +kernel
theorem dX9_puts_200 : decode cX9_puts 200 = .ok (.aload_n 0, 1) := by decide +kernel
theorem dX9_puts_201 : decode cX9_puts 201 = .ok (.getfield 263, 3) := by decide +kernel
theorem dX9_puts_204 : decode cX9_puts 204 = .ok (.iload_n 3, 1) := by decide +kernel
theorem dX9_puts_205 : decode cX9_puts 205 = .ok (.if_icmp .eq 37, 3) := by decide +kernel
theorem dX9_puts_208 : decode cX9_puts 208 = .ok (.iload 9, 2) := by decide +kernel
theorem dX9_puts_21 : decode cX9_puts 21 = .ok (.iaload, 1) := by decide +kernel
theorem dX9_puts_210 : decode cX9_puts 210 = .ok (.ifCond .ne 32, 3) := by decide +kernel
theorem dX9_puts_213 : decode cX9_puts 213 = .ok (.iload 7, 2) := by decide +kernel
theorem dX9_puts_215 : decode cX9_puts 215 = .ok (.istore 10, 2) := by decide +kernel
theorem dX9_puts_217 : decode cX9_puts 217 = .ok (.iload 10, 2) := by decide +kernel
theorem dX9_puts_219 : decode cX9_puts 219 = .ok (.iload 8, 2) := by decide +kernel
theorem dX9_puts_22 : decode cX9_puts 22 = .ok (.istore 4, 2) := by decide +kernel
theorem dX9_puts_221 : decode cX9_puts 221 = .ok (.if_icmp .ge 21, 3) := by decide +kernel
theorem dX9_puts_224 : decode cX9_puts 224 = .ok (.aload_n 0, 1) := by decide +kernel
theorem dX9_puts_225 : decode cX9_puts 225 = .ok (.iconst 0, 1) := by decide +kernel
theorem dX9_puts_226 : decode cX9_puts 226 = .ok (.aload_n 0, 1) := by decide +kernel
theorem dX9_puts_227 : decode cX9_puts 227 = .ok (.getfield 81, 3) := by decide +kernel
theorem dX9_puts_230 : decode cX9_puts 230 = .ok (.iload 10, 2) := by decide +kernel
theorem dX9_puts_232 : decode cX9_puts 232 = .ok (.iaload, 1) := by decide +kernel
theorem dX9_puts_233 : decode cX9_puts 233 = .ok (.invokevirtual 320, 3) := by decide +kernel
theorem dX9_puts_236 : decode cX9_puts 236 = .ok (.iinc 10 1, 3) := by decide +kernel
theorem dX9_puts_239 : decode cX9_puts 239 = .ok (.goto (-22), 3) := by decide +kernel
theorem dX9_puts_24 : decode cX9_puts 24 = .ok (.iconst 0, 1) := by decide +kernel
theorem dX9_puts_242 : decode cX9_puts 242 = .ok (.iload 8, 2) := by decide +kernel
theorem dX9_puts_244 : decode cX9_puts 244 = .ok (.istore 7, 2) := by decide +kernel
theorem dX9_puts_246 : decode cX9_puts 246 = .ok (.goto (-166), 3) := by decide +kernel
theorem dX9_puts_249 : decode cX9_puts 249 = .ok (.iload 6, 2) := by decide +kernel
theorem dX9_puts_25 : decode cX9_puts 25 = .ok (.istore 5, 2) := by decide +kernel
theorem dX9_puts_251 : decode cX9_puts 251 = .ok (.ifCond .ne 33, 3) := by decide +kernel
theorem dX9_puts_254 : decode cX9_puts 254 = .ok (.iconst 0, 1) := by decide +kernel
theorem dX9_puts_255 : decode cX9_puts 255 = .ok (.istore 8, 2) := by decide +kernel
theorem dX9_puts_257 : decode cX9_puts 257 = .ok (.iload 8, 2) := by decide +kernel
theorem dX9_puts_259 : decode cX9_puts 259 = .ok (.aload_n 0, 1) := by decide +kernel
theorem dX9_puts_260 : decode cX9_puts 260 = .ok (.getfield 337, 3) := by decide +kernel
theorem dX9_puts_263 : decode cX9_puts 263 = .ok (.if_icmp .ge 21, 3) := by decide +kernel
theorem dX9_puts_266 : decode cX9_puts 266 = .ok (.aload_n 0, 1) := by decide +kernel
theorem dX9_puts_267 : decode cX9_puts 267 = .ok (.iconst 0, 1) := by decide +kernel
theorem dX9_puts_268 : decode cX9_puts 268 = .ok (.aload_n 0, 1) := by decide +kernel
theorem dX9_puts_269 : decode cX9_puts 269 = .ok (.getfield 123, 3) := by decide +kernel
theorem dX9_puts_27 : decode cX9_puts 27 = .ok (.iload 5, 2) := by decide +kernel
theorem dX9_puts_272 : decode cX9_puts 272 = .ok (.iload 8, 2) := by decide +kernel
theorem dX9_puts_274 : decode cX9_puts 274 = .ok (.iaload, 1) := by decide +kernel
theorem dX9_puts_275 : decode cX9_puts 275 = .ok (.invokevirtual 320, 3) := by decide +kernel
theorem dX9_puts_278 : decode cX9_puts 278 = .ok (.iinc 8 1, 3) := by decide +kernel
theorem dX9_puts_281 : decode cX9_puts 281 = .ok (.goto (-24), 3) := by decide +kernel
theorem dX9_puts_284 : decode cX9_puts 284 = .ok (.aload_n 0, 1) := by decide +kernel
theorem dX9_puts_285 : decode cX9_puts 285 = .ok (.getfield 117, 3) := by decide +kernel
theorem dX9_puts_288 : decode cX9_puts 288 = .ok (.iconst 0, 1) := by decide +kernel
theorem dX9_puts_289 : decode cX9_puts 289 = .ok (.iaload, 1) := by decide +kernel
theorem dX9_puts_29 : decode cX9_puts 29 = .ok (.iload 4, 2) := by decide +kernel
theorem dX9_puts_290 : decode cX9_puts 290 = .ok (.bipush 120, 2) := by decide +kernel
theorem dX9_puts_292 : decode cX9_puts 292 = .ok (.if_icmp .le 6, 3) := by decide +kernel
theorem dX9_puts_295 : decode cX9_puts 295 = .ok (.bipush (-4), 2) := by decide +kernel
theorem dX9_puts_297 : decode cX9_puts 297 = .ok (.ireturn, 1) := by decide +kernel
theorem dX9_puts_298 : decode cX9_puts 298 = .ok (.aload_n 0, 1) := by decide +kernel
theorem dX9_puts_299 : decode cX9_puts 299 = .ok (.iload_n 1, 1) := by decide +kernel
theorem dX9_puts_300 : decode cX9_puts 300 = .ok (.invokevirtual 334, 3) := by decide +kernel
theorem dX9_puts_303 : decode cX9_puts 303 = .ok (.aload_n 0, 1) := by decide +kernel
theorem dX9_puts_304 : decode cX9_puts 304 = .ok (.getfield 78, 3) := by decide +kernel
theorem dX9_puts_307 : decode cX9_puts 307 = .ok (.iload_n 1, 1) := by decide +kernel
theorem dX9_puts_308 : decode cX9_puts 308 = .ok (.iaload, 1) := by decide +kernel
theorem dX9_puts_309 : decode cX9_puts 309 = .ok (.ireturn, 1) := by decide +kernel
theorem dX9_puts_31 : decode cX9_puts 31 = .ok (.if_icmp .ge 23, 3) := by decide +kernel
theorem dX9_puts_34 : decode cX9_puts 34 = .ok (.aload_n 0, 1) := by decide +kernel
theorem dX9_puts_35 : decode cX9_puts 35 = .ok (.getfield 81, 3) := by decide +kernel
theorem dX9_puts_38 : decode cX9_puts 38 = .ok (.iload 5, 2) := by decide +kernel
theorem dX9_puts_40 : decode cX9_puts 40 = .ok (.aload_n 0, 1) := by decide +kernel
theorem dX9_puts_41 : decode cX9_puts 41 = .ok (.getfield 114, 3) := by decide +kernel
theorem dX9_puts_44 : decode cX9_puts 44 = .ok (.iload 5, 2) := by decide +kernel
theorem dX9_puts_46 : decode cX9_puts 46 = .ok (.iaload, 1) := by decide +kernel
theorem dX9_puts_47 : decode cX9_puts 47 = .ok (.iastore, 1) := by decide +kernel
theorem dX9_puts_48 : decode cX9_puts 48 = .ok (.iinc 5 1, 3) := by decide +kernel
theorem dX9_puts_5 : decode cX9_puts 5 = .ok (.aload_n 0, 1) := by decide +kernel
theorem dX9_puts_51 : decode cX9_puts 51 = .ok (.goto (-24), 3) := by decide +kernel
theorem dX9_puts_54 : decode cX9_puts 54 = .ok (.aload_n 0, 1) := by decide +kernel
theorem dX9_puts_55 : decode cX9_puts 55 = .ok (.getfield 117, 3) := by decide +kernel
theorem dX9_puts_58 : decode cX9_puts 58 = .ok (.iconst 0, 1) := by decide +kernel
theorem dX9_puts_59 : decode cX9_puts 59 = .ok (.iconst 0, 1) := by decide +kernel
theorem dX9_puts_6 : decode cX9_puts 6 = .ok (.aload_n 0, 1) := by decide +kernel
theorem dX9_puts_60 : decode cX9_puts 60 = .ok (.iastore, 1) := by decide +kernel
theorem dX9_puts_61 : decode cX9_puts 61 = .ok (.aload_n 0, 1) := by decide +kernel
theorem dX9_puts_62 : decode cX9_puts 62 = .ok (.getfield 17, 3) := by decide +kernel
theorem dX9_puts_65 : decode cX9_puts 65 = .ok (.bipush 31, 2) := by decide +kernel
theorem dX9_puts_67 : decode cX9_puts 67 = .ok (.iload_n 2, 1) := by decide +kernel
theorem dX9_puts_68 : decode cX9_puts 68 = .ok (.imul, 1) := by decide +kernel
theorem dX9_puts_69 : decode cX9_puts 69 = .ok (.iload_n 3, 1) := by decide +kernel
theorem dX9_puts_7 : decode cX9_puts 7 = .ok (.getfield 78, 3) := by decide +kernel
theorem dX9_puts_70 : decode cX9_puts 70 = .ok (.iadd, 1) := by decide +kernel
theorem dX9_puts_71 : decode cX9_puts 71 = .ok (.iaload, 1) := by decide +kernel
theorem dX9_puts_72 : decode cX9_puts 72 = .ok (.istore 5, 2) := by decide +kernel
theorem dX9_puts_74 : decode cX9_puts 74 = .ok (.iconst 0, 1) := by decide +kernel
theorem dX9_puts_75 : decode cX9_puts 75 = .ok (.istore 6, 2) := by decide +kernel
theorem dX9_puts_77 : decode cX9_puts 77 = .ok (.iconst 0, 1) := by decide +kernel
theorem dX9_puts_78 : decode cX9_puts 78 = .ok (.istore 7, 2) := by decide +kernel
theorem dX9_puts_80 : decode cX9_puts 80 = .ok (.iload 7, 2) := by decide +kernel
theorem dX9_puts_82 : decode cX9_puts 82 = .ok (.iload 4, 2) := by decide +kernel
theorem dX9_puts_84 : decode cX9_puts 84 = .ok (.if_icmp .ge 165, 3) := by decide +kernel
theorem dX9_puts_87 : decode cX9_puts 87 = .ok (.aload_n 0, 1) := by decide +kernel
theorem dX9_puts_88 : decode cX9_puts 88 = .ok (.iload 7, 2) := by decide +kernel
theorem dX9_puts_90 : decode cX9_puts 90 = .ok (.iload 4, 2) := by decide +kernel
theorem dX9_puts_92 : decode cX9_puts 92 = .ok (.iload_n 2, 1) := by decide +kernel
theorem dX9_puts_93 : decode cX9_puts 93 = .ok (.iconst 0, 1) := by decide +kernel
theorem dX9_puts_94 : decode cX9_puts 94 = .ok (.iconst 0, 1) := by decide +kernel
theorem dX9_puts_95 : decode cX9_puts 95 = .ok (.invokevirtual 298, 3) := by decide +kernel
theorem dX9_puts_98 : decode cX9_puts 98 = .ok (.aload_n 0, 1) := by decide +kernel
theorem dX9_puts_99 : decode cX9_puts 99 = .ok (.getfield 278, 3) := by decide +kernel
theorem dX9_write_0 : decode cX9_write 0 = .ok (.iload_n 1, 1) := by decide +kernel
theorem dX9_write_1 : decode cX9_write 1 = .ok (.invokestatic 249, 3) := by decide +kernel
theorem dX9_write_11 : decode cX9_write 11 = .ok (.ifCond .eq 11, 3) := by decide +kernel
theorem dX9_write_14 : decode cX9_write 14 = .ok (.aload_n 0, 1) := by decide +kernel
theorem dX9_write_15 : decode cX9_write 15 = .ok (.iload_n 2, 1) := by decide +kernel
theorem dX9_write_16 : decode cX9_write 16 = .ok (.invokevirtual 239, 3) := by decide +kernel
theorem dX9_write_19 : decode cX9_write 19 = .ok (.ifCond .ne 5, 3) := by decide +kernel
theorem dX9_write_22 : decode cX9_write 22 = .ok (.iconst (-1), 1) := by decide +kernel
theorem dX9_write_23 : decode cX9_write 23 = .ok (.ireturn, 1) := by decide +kernel
theorem dX9_write_24 : decode cX9_write 24 = .ok (.aload_n 0, 1) := by decide +kernel
theorem dX9_write_25 : decode cX9_write 25 = .ok (.iload_n 1, 1) := by decide +kernel
theorem dX9_write_26 : decode cX9_write 26 = .ok (.iload_n 2, 1) := by decide +kernel
theorem dX9_write_27 : decode cX9_write 27 = .ok (.invokevirtual 308, 3) := by decide +kernel
theorem dX9_write_30 : decode cX9_write 30 = .ok (.ifCond .ne 6, 3) := by decide +kernel
theorem dX9_write_33 : decode cX9_write 33 = .ok (.bipush (-2), 2) := by decide +kernel
theorem dX9_write_35 : decode cX9_write 35 = .ok (.ireturn, 1) := by decide +kernel
theorem dX9_write_36 : decode cX9_write 36 = .ok (.aload_n 0, 1) := by decide +kernel
theorem dX9_write_37 : decode cX9_write 37 = .ok (.aload_n 0, 1) := by decide +kernel
theorem dX9_write_38 : decode cX9_write 38 = .ok (.getfield 78, 3) := by decide +kernel
theorem dX9_write_4 : decode cX9_write 4 = .ok (.ifCond .eq 18, 3) := by decide +kernel
theorem dX9_write_41 : decode cX9_write 41 = .ok (.iload_n 1, 1) := by decide +kernel
theorem dX9_write_42 : decode cX9_write 42 = .ok (.iaload, 1) := by decide +kernel
theorem dX9_write_43 : decode cX9_write 43 = .ok (.iload_n 2, 1) := by decide +kernel
theorem dX9_write_44 : decode cX9_write 44 = .ok (.invokevirtual 331, 3) := by decide +kernel
theorem dX9_write_47 : decode cX9_write 47 = .ok (.aload_n 0, 1) := by decide +kernel
theorem dX9_write_48 : decode cX9_write 48 = .ok (.iload_n 3, 1) := by decide +kernel
theorem dX9_write_49 : decode cX9_write 49 = .ok (.invokevirtual 334, 3) := by decide +kernel
theorem dX9_write_52 : decode cX9_write 52 = .ok (.aload_n 0, 1) := by decide +kernel
theorem dX9_write_53 : decode cX9_write 53 = .ok (.getfield 78, 3) := by decide +kernel
theorem dX9_write_56 : decode cX9_write 56 = .ok (.iload_n 3, 1) := by decide +kernel
theorem dX9_write_57 : decode cX9_write 57 = .ok (.iaload, 1) := by decide +kernel
theorem dX9_write_58 : decode cX9_write 58 = .ok (.ireturn, 1) := by decide +kernel
theorem dX9_write_7 : decode cX9_write 7 = .ok (.iload_n 3, 1) := by decide +kernel
theorem dX9_write_8 : decode cX9_write 8 = .ok (.invokestatic 249, 3) := by decide +kernel
theorem dX9_writes_0 : decode cX9_writes 0 = .ok (.iconst 0, 1) := by decide +kernel
theorem dX9_writes_1 : decode cX9_writes 1 = .ok (.istore_n 3, 1) := by decide +kernel
theorem dX9_writes_10 : decode cX9_writes 10 = .ok (.aload_n 0, 1) := by decide +kernel
theorem dX9_writes_100 : decode cX9_writes 100 = .ok (.getfield 117, 3) := by decide +kernel
theorem dX9_writes_103 : decode cX9_writes 103 = .ok (.iload_n 3, 1) := by decide +kernel
theorem dX9_writes_104 : decode cX9_writes 104 = .ok (.iconst 1, 1) := by decide +kernel
theorem dX9_writes_105 : decode cX9_writes 105 = .ok (.iadd, 1) := by decide +kernel
theorem dX9_writes_106 : decode cX9_writes 106 = .ok (.iaload, 1) := by decide +kernel
theorem dX9_writes_107 : decode cX9_writes 107 = .ok (.if_icmp .ge 29, 3) := by decide +kernel
theorem dX9_writes_11 : decode cX9_writes 11 = .ok (.getfield 117, 3) := by decide +kernel
theorem dX9_writes_110 : decode cX9_writes 110 = .ok (.aload_n 0, 1) := by decide +kernel
theorem dX9_writes_111 : decode cX9_writes 111 = .ok (.iload_n 3, 1) := by decide +kernel
theorem dX9_writes_112 : decode cX9_writes 112 = .ok (.aload_n 0, 1) := by decide +kernel
theorem dX9_writes_113 : decode cX9_writes 113 = .ok (.getfield 114, 3) := by decide +kernel
theorem dX9_writes_116 : decode cX9_writes 116 = .ok (.sipush 160, 3) := by decide +kernel
theorem dX9_writes_119 : decode cX9_writes 119 = .ok (.iload_n 3, 1) := by decide +kernel
theorem dX9_writes_120 : decode cX9_writes 120 = .ok (.iconst 1, 1) := by decide +kernel
theorem dX9_writes_121 : decode cX9_writes 121 = .ok (.iadd, 1) := by decide +kernel
theorem dX9_writes_122 : decode cX9_writes 122 = .ok (.imul, 1) := by decide +kernel
theorem dX9_writes_123 : decode cX9_writes 123 = .ok (.iload 6, 2) := by decide +kernel
theorem dX9_writes_125 : decode cX9_writes 125 = .ok (.iadd, 1) := by decide +kernel
theorem dX9_writes_126 : decode cX9_writes 126 = .ok (.iaload, 1) := by decide +kernel
theorem dX9_writes_127 : decode cX9_writes 127 = .ok (.invokevirtual 320, 3) := by decide +kernel
theorem dX9_writes_130 : decode cX9_writes 130 = .ok (.iinc 6 1, 3) := by decide +kernel
theorem dX9_writes_133 : decode cX9_writes 133 = .ok (.goto (-36), 3) := by decide +kernel
theorem dX9_writes_136 : decode cX9_writes 136 = .ok (.goto (-116), 3) := by decide +kernel
theorem dX9_writes_139 : decode cX9_writes 139 = .ok (.aload_n 0, 1) := by decide +kernel
theorem dX9_writes_14 : decode cX9_writes 14 = .ok (.iconst 0, 1) := by decide +kernel
theorem dX9_writes_140 : decode cX9_writes 140 = .ok (.getfield 99, 3) := by decide +kernel
theorem dX9_writes_143 : decode cX9_writes 143 = .ok (.iload_n 3, 1) := by decide +kernel
theorem dX9_writes_144 : decode cX9_writes 144 = .ok (.iaload, 1) := by decide +kernel
theorem dX9_writes_145 : decode cX9_writes 145 = .ok (.istore 6, 2) := by decide +kernel
theorem dX9_writes_147 : decode cX9_writes 147 = .ok (.aload_n 0, 1) := by decide +kernel
theorem dX9_writes_148 : decode cX9_writes 148 = .ok (.iload 5, 2) := by decide +kernel
theorem dX9_writes_15 : decode cX9_writes 15 = .ok (.iconst 0, 1) := by decide +kernel
theorem dX9_writes_150 : decode cX9_writes 150 = .ok (.aload_n 0, 1) := by decide +kernel
theorem dX9_writes_151 : decode cX9_writes 151 = .ok (.getfield 105, 3) := by decide +kernel
theorem dX9_writes_154 : decode cX9_writes 154 = .ok (.iload_n 3, 1) := by decide +kernel
theorem dX9_writes_155 : decode cX9_writes 155 = .ok (.iaload, 1) := by decide +kernel
theorem dX9_writes_156 : decode cX9_writes 156 = .ok (.iload 6, 2) := by decide +kernel
theorem dX9_writes_158 : decode cX9_writes 158 = .ok (.iconst 0, 1) := by decide +kernel
theorem dX9_writes_159 : decode cX9_writes 159 = .ok (.iconst 0, 1) := by decide +kernel
theorem dX9_writes_16 : decode cX9_writes 16 = .ok (.iastore, 1) := by decide +kernel
theorem dX9_writes_160 : decode cX9_writes 160 = .ok (.invokevirtual 298, 3) := by decide +kernel
theorem dX9_writes_163 : decode cX9_writes 163 = .ok (.aload_n 0, 1) := by decide +kernel
theorem dX9_writes_164 : decode cX9_writes 164 = .ok (.getfield 102, 3) := by decide +kernel
theorem dX9_writes_167 : decode cX9_writes 167 = .ok (.iload_n 3, 1) := by decide +kernel
theorem dX9_writes_168 : decode cX9_writes 168 = .ok (.aload_n 0, 1) := by decide +kernel
theorem dX9_writes_169 : decode cX9_writes 169 = .ok (.getfield 278, 3) := by decide +kernel
theorem dX9_writes_17 : decode cX9_writes 17 = .ok (.iconst 1, 1) := by decide +kernel
theorem dX9_writes_172 : decode cX9_writes 172 = .ok (.iastore, 1) := by decide +kernel
theorem dX9_writes_173 : decode cX9_writes 173 = .ok (.bipush 31, 2) := by decide +kernel
theorem dX9_writes_175 : decode cX9_writes 175 = .ok (.iload 6, 2) := by decide +kernel
theorem dX9_writes_177 : decode cX9_writes 177 = .ok (.imul, 1) := by decide +kernel
theorem dX9_writes_178 : decode cX9_writes 178 = .ok (.aload_n 0, 1) := by decide +kernel
theorem dX9_writes_179 : decode cX9_writes 179 = .ok (.getfield 263, 3) := by decide +kernel
theorem dX9_writes_18 : decode cX9_writes 18 = .ok (.istore 4, 2) := by decide +kernel
theorem dX9_writes_182 : decode cX9_writes 182 = .ok (.iadd, 1) := by decide +kernel
theorem dX9_writes_183 : decode cX9_writes 183 = .ok (.istore 7, 2) := by decide +kernel
theorem dX9_writes_185 : decode cX9_writes 185 = .ok (.aload_n 0, 1) := by decide +kernel
theorem dX9_writes_186 : decode cX9_writes 186 = .ok (.iload 6, 2) := by decide +kernel
theorem dX9_writes_188 : decode cX9_writes 188 = .ok (.aload_n 0, 1) := by decide +kernel
theorem dX9_writes_189 : decode cX9_writes 189 = .ok (.getfield 263, 3) := by decide +kernel
theorem dX9_writes_192 : decode cX9_writes 192 = .ok (.invokevirtual 246, 3) := by decide +kernel
theorem dX9_writes_195 : decode cX9_writes 195 = .ok (.ifCond .ne 37, 3) := by decide +kernel
theorem dX9_writes_198 : decode cX9_writes 198 = .ok (.iload 5, 2) := by decide +kernel
theorem dX9_writes_2 : decode cX9_writes 2 = .ok (.aload_n 0, 1) := by decide +kernel
theorem dX9_writes_20 : decode cX9_writes 20 = .ok (.iload 4, 2) := by decide +kernel
theorem dX9_writes_200 : decode cX9_writes 200 = .ok (.istore 8, 2) := by decide +kernel
theorem dX9_writes_202 : decode cX9_writes 202 = .ok (.iload 8, 2) := by decide +kernel
theorem dX9_writes_204 : decode cX9_writes 204 = .ok (.aload_n 0, 1) := by decide +kernel
theorem dX9_writes_205 : decode cX9_writes 205 = .ok (.getfield 278, 3) := by decide +kernel
theorem dX9_writes_208 : decode cX9_writes 208 = .ok (.if_icmp .ge 21, 3) := by decide +kernel
theorem dX9_writes_211 : decode cX9_writes 211 = .ok (.aload_n 0, 1) := by decide +kernel
theorem dX9_writes_212 : decode cX9_writes 212 = .ok (.iload_n 3, 1) := by decide +kernel
theorem dX9_writes_213 : decode cX9_writes 213 = .ok (.aload_n 0, 1) := by decide +kernel
theorem dX9_writes_214 : decode cX9_writes 214 = .ok (.getfield 81, 3) := by decide +kernel
theorem dX9_writes_217 : decode cX9_writes 217 = .ok (.iload 8, 2) := by decide +kernel
theorem dX9_writes_219 : decode cX9_writes 219 = .ok (.iaload, 1) := by decide +kernel
theorem dX9_writes_22 : decode cX9_writes 22 = .ok (.ifCond .eq 372, 3) := by decide +kernel
theorem dX9_writes_220 : decode cX9_writes 220 = .ok (.invokevirtual 320, 3) := by decide +kernel
theorem dX9_writes_223 : decode cX9_writes 223 = .ok (.iinc 8 1, 3) := by decide +kernel
theorem dX9_writes_226 : decode cX9_writes 226 = .ok (.goto (-24), 3) := by decide +kernel
theorem dX9_writes_229 : decode cX9_writes 229 = .ok (.goto 162, 3) := by decide +kernel
theorem dX9_writes_232 : decode cX9_writes 232 = .ok (.aload_n 0, 1) := by decide +kernel
theorem dX9_writes_233 : decode cX9_writes 233 = .ok (.getfield 13, 3) := by decide +kernel
theorem dX9_writes_236 : decode cX9_writes 236 = .ok (.iload 7, 2) := by decide +kernel
theorem dX9_writes_238 : decode cX9_writes 238 = .ok (.iaload, 1) := by decide +kernel
theorem dX9_writes_239 : decode cX9_writes 239 = .ok (.bipush 6, 2) := by decide +kernel
theorem dX9_writes_241 : decode cX9_writes 241 = .ok (.if_icmp .ne 50, 3) := by decide +kernel
theorem dX9_writes_244 : decode cX9_writes 244 = .ok (.iinc 3 1, 3) := by decide +kernel
theorem dX9_writes_247 : decode cX9_writes 247 = .ok (.aload_n 0, 1) := by decide +kernel
theorem dX9_writes_248 : decode cX9_writes 248 = .ok (.iload_n 3, 1) := by decide +kernel
theorem dX9_writes_249 : decode cX9_writes 249 = .ok (.aload_n 0, 1) := by decide +kernel
theorem dX9_writes_25 : decode cX9_writes 25 = .ok (.aload_n 0, 1) := by decide +kernel
theorem dX9_writes_250 : decode cX9_writes 250 = .ok (.getfield 20, 3) := by decide +kernel
theorem dX9_writes_253 : decode cX9_writes 253 = .ok (.iload 7, 2) := by decide +kernel
theorem dX9_writes_255 : decode cX9_writes 255 = .ok (.iaload, 1) := by decide +kernel
theorem dX9_writes_256 : decode cX9_writes 256 = .ok (.aload_n 0, 1) := by decide +kernel
theorem dX9_writes_257 : decode cX9_writes 257 = .ok (.getfield 275, 3) := by decide +kernel
theorem dX9_writes_26 : decode cX9_writes 26 = .ok (.getfield 102, 3) := by decide +kernel
theorem dX9_writes_260 : decode cX9_writes 260 = .ok (.aload_n 0, 1) := by decide +kernel
theorem dX9_writes_261 : decode cX9_writes 261 = .ok (.getfield 278, 3) := by decide +kernel
theorem dX9_writes_264 : decode cX9_writes 264 = .ok (.invokevirtual 294, 3) := by decide +kernel
theorem dX9_writes_267 : decode cX9_writes 267 = .ok (.aload_n 0, 1) := by decide +kernel
theorem dX9_writes_268 : decode cX9_writes 268 = .ok (.getfield 117, 3) := by decide +kernel
theorem dX9_writes_271 : decode cX9_writes 271 = .ok (.iload_n 3, 1) := by decide +kernel
theorem dX9_writes_272 : decode cX9_writes 272 = .ok (.iconst 0, 1) := by decide +kernel
theorem dX9_writes_273 : decode cX9_writes 273 = .ok (.iastore, 1) := by decide +kernel
theorem dX9_writes_274 : decode cX9_writes 274 = .ok (.aload_n 0, 1) := by decide +kernel
theorem dX9_writes_275 : decode cX9_writes 275 = .ok (.getfield 120, 3) := by decide +kernel
theorem dX9_writes_278 : decode cX9_writes 278 = .ok (.iload_n 3, 1) := by decide +kernel
theorem dX9_writes_279 : decode cX9_writes 279 = .ok (.iconst 2, 1) := by decide +kernel
theorem dX9_writes_280 : decode cX9_writes 280 = .ok (.aload_n 0, 1) := by decide +kernel
theorem dX9_writes_281 : decode cX9_writes 281 = .ok (.getfield 263, 3) := by decide +kernel
theorem dX9_writes_284 : decode cX9_writes 284 = .ok (.imul, 1) := by decide +kernel
theorem dX9_writes_285 : decode cX9_writes 285 = .ok (.iconst 1, 1) := by decide +kernel
theorem dX9_writes_286 : decode cX9_writes 286 = .ok (.iadd, 1) := by decide +kernel
theorem dX9_writes_287 : decode cX9_writes 287 = .ok (.iastore, 1) := by decide +kernel
theorem dX9_writes_288 : decode cX9_writes 288 = .ok (.goto 103, 3) := by decide +kernel
theorem dX9_writes_29 : decode cX9_writes 29 = .ok (.iload_n 3, 1) := by decide +kernel
theorem dX9_writes_291 : decode cX9_writes 291 = .ok (.aload_n 0, 1) := by decide +kernel
theorem dX9_writes_292 : decode cX9_writes 292 = .ok (.getfield 13, 3) := by decide +kernel
theorem dX9_writes_295 : decode cX9_writes 295 = .ok (.iload 7, 2) := by decide +kernel
theorem dX9_writes_297 : decode cX9_writes 297 = .ok (.iaload, 1) := by decide +kernel
theorem dX9_writes_298 : decode cX9_writes 298 = .ok (.iconst 5, 1) := by decide +kernel
theorem dX9_writes_299 : decode cX9_writes 299 = .ok (.if_icmp .ne 68, 3) := by decide +kernel
theorem dX9_writes_3 : decode cX9_writes 3 = .ok (.iconst 0, 1) := by decide +kernel
theorem dX9_writes_30 : decode cX9_writes 30 = .ok (.iaload, 1) := by decide +kernel
theorem dX9_writes_302 : decode cX9_writes 302 = .ok (.aload_n 0, 1) := by decide +kernel
theorem dX9_writes_303 : decode cX9_writes 303 = .ok (.iload_n 3, 1) := by decide +kernel
theorem dX9_writes_304 : decode cX9_writes 304 = .ok (.iconst 2, 1) := by decide +kernel
theorem dX9_writes_305 : decode cX9_writes 305 = .ok (.aload_n 0, 1) := by decide +kernel
theorem dX9_writes_306 : decode cX9_writes 306 = .ok (.getfield 263, 3) := by decide +kernel
theorem dX9_writes_309 : decode cX9_writes 309 = .ok (.imul, 1) := by decide +kernel
theorem dX9_writes_31 : decode cX9_writes 31 = .ok (.istore 5, 2) := by decide +kernel
theorem dX9_writes_310 : decode cX9_writes 310 = .ok (.iconst 1, 1) := by decide +kernel
theorem dX9_writes_311 : decode cX9_writes 311 = .ok (.iadd, 1) := by decide +kernel
theorem dX9_writes_312 : decode cX9_writes 312 = .ok (.i2l, 1) := by decide +kernel
theorem dX9_writes_313 : decode cX9_writes 313 = .ok (.invokevirtual 323, 3) := by decide +kernel
theorem dX9_writes_316 : decode cX9_writes 316 = .ok (.aload_n 0, 1) := by decide +kernel
theorem dX9_writes_317 : decode cX9_writes 317 = .ok (.iload_n 3, 1) := by decide +kernel
theorem dX9_writes_318 : decode cX9_writes 318 = .ok (.aload_n 0, 1) := by decide +kernel
theorem dX9_writes_319 : decode cX9_writes 319 = .ok (.getfield 278, 3) := by decide +kernel
theorem dX9_writes_322 : decode cX9_writes 322 = .ok (.aload_n 0, 1) := by decide +kernel
theorem dX9_writes_323 : decode cX9_writes 323 = .ok (.getfield 275, 3) := by decide +kernel
theorem dX9_writes_326 : decode cX9_writes 326 = .ok (.isub, 1) := by decide +kernel
theorem dX9_writes_327 : decode cX9_writes 327 = .ok (.i2l, 1) := by decide +kernel
theorem dX9_writes_328 : decode cX9_writes 328 = .ok (.invokevirtual 323, 3) := by decide +kernel
theorem dX9_writes_33 : decode cX9_writes 33 = .ok (.iload 5, 2) := by decide +kernel
theorem dX9_writes_331 : decode cX9_writes 331 = .ok (.aload_n 0, 1) := by decide +kernel
theorem dX9_writes_332 : decode cX9_writes 332 = .ok (.getfield 275, 3) := by decide +kernel
theorem dX9_writes_335 : decode cX9_writes 335 = .ok (.istore 8, 2) := by decide +kernel
theorem dX9_writes_337 : decode cX9_writes 337 = .ok (.iload 8, 2) := by decide +kernel
theorem dX9_writes_339 : decode cX9_writes 339 = .ok (.aload_n 0, 1) := by decide +kernel
theorem dX9_writes_340 : decode cX9_writes 340 = .ok (.getfield 278, 3) := by decide +kernel
theorem dX9_writes_343 : decode cX9_writes 343 = .ok (.if_icmp .ge 21, 3) := by decide +kernel
theorem dX9_writes_346 : decode cX9_writes 346 = .ok (.aload_n 0, 1) := by decide +kernel
theorem dX9_writes_347 : decode cX9_writes 347 = .ok (.iload_n 3, 1) := by decide +kernel
theorem dX9_writes_348 : decode cX9_writes 348 = .ok (.aload_n 0, 1) := by decide +kernel
theorem dX9_writes_349 : decode cX9_writes 349 = .ok (.getfield 81, 3) := by decide +kernel
theorem dX9_writes_35 : decode cX9_writes 35 = .ok (.aload_n 0, 1) := by decide +kernel
theorem dX9_writes_352 : decode cX9_writes 352 = .ok (.iload 8, 2) := by decide +kernel
theorem dX9_writes_354 : decode cX9_writes 354 = .ok (.iaload, 1) := by decide +kernel
theorem dX9_writes_355 : decode cX9_writes 355 = .ok (.invokevirtual 320, 3) := by decide +kernel
theorem dX9_writes_358 : decode cX9_writes 358 = .ok (.iinc 8 1, 3) := by decide +kernel
theorem dX9_writes_36 : decode cX9_writes 36 = .ok (.getfield 105, 3) := by decide +kernel
theorem dX9_writes_361 : decode cX9_writes 361 = .ok (.goto (-24), 3) := by decide +kernel
theorem dX9_writes_364 : decode cX9_writes 364 = .ok (.goto 27, 3) := by decide +kernel
theorem dX9_writes_367 : decode cX9_writes 367 = .ok (.aload_n 0, 1) := by decide +kernel
theorem dX9_writes_368 : decode cX9_writes 368 = .ok (.iload_n 3, 1) := by decide +kernel
theorem dX9_writes_369 : decode cX9_writes 369 = .ok (.iconst 2, 1) := by decide +kernel
theorem dX9_writes_370 : decode cX9_writes 370 = .ok (.aload_n 0, 1) := by decide +kernel
theorem dX9_writes_371 : decode cX9_writes 371 = .ok (.getfield 263, 3) := by decide +kernel
theorem dX9_writes_374 : decode cX9_writes 374 = .ok (.imul, 1) := by decide +kernel
theorem dX9_writes_375 : decode cX9_writes 375 = .ok (.i2l, 1) := by decide +kernel
theorem dX9_writes_376 : decode cX9_writes 376 = .ok (.invokevirtual 323, 3) := by decide +kernel
theorem dX9_writes_379 : decode cX9_writes 379 = .ok (.aload_n 0, 1) := by decide +kernel
theorem dX9_writes_380 : decode cX9_writes 380 = .ok (.iload_n 3, 1) := by decide +kernel
theorem dX9_writes_381 : decode cX9_writes 381 = .ok (.aload_n 0, 1) := by decide +kernel
theorem dX9_writes_382 : decode cX9_writes 382 = .ok (.getfield 273, 3) := by decide +kernel
theorem dX9_writes_385 : decode cX9_writes 385 = .ok (.invokestatic 327, 3) := by decide +kernel
theorem dX9_writes_388 : decode cX9_writes 388 = .ok (.invokevirtual 323, 3) := by decide +kernel
theorem dX9_writes_39 : decode cX9_writes 39 = .ok (.iload_n 3, 1) := by decide +kernel
theorem dX9_writes_391 : decode cX9_writes 391 = .ok (.goto (-371), 3) := by decide +kernel
theorem dX9_writes_394 : decode cX9_writes 394 = .ok (.return_, 1) := by decide +kernel
theorem dX9_writes_4 : decode cX9_writes 4 = .ok (.iload_n 2, 1) := by decide +kernel
theorem dX9_writes_40 : decode cX9_writes 40 = .ok (.iaload, 1) := by decide +kernel
theorem dX9_writes_41 : decode cX9_writes 41 = .ok (.if_icmp .ne 98, 3) := by decide +kernel
theorem dX9_writes_44 : decode cX9_writes 44 = .ok (.iload_n 3, 1) := by decide +kernel
theorem dX9_writes_45 : decode cX9_writes 45 = .ok (.ifCond .le 7, 3) := by decide +kernel
theorem dX9_writes_48 : decode cX9_writes 48 = .ok (.iconst 1, 1) := by decide +kernel
theorem dX9_writes_49 : decode cX9_writes 49 = .ok (.goto 4, 3) := by decide +kernel
theorem dX9_writes_5 : decode cX9_writes 5 = .ok (.iconst 0, 1) := by decide +kernel
theorem dX9_writes_52 : decode cX9_writes 52 = .ok (.iconst 0, 1) := by decide +kernel
theorem dX9_writes_53 : decode cX9_writes 53 = .ok (.istore 4, 2) := by decide +kernel
theorem dX9_writes_55 : decode cX9_writes 55 = .ok (.iload 4, 2) := by decide +kernel
theorem dX9_writes_57 : decode cX9_writes 57 = .ok (.ifCond .ne 6, 3) := by decide +kernel
theorem dX9_writes_6 : decode cX9_writes 6 = .ok (.iload_n 1, 1) := by decide +kernel
theorem dX9_writes_60 : decode cX9_writes 60 = .ok (.goto (-40), 3) := by decide +kernel
theorem dX9_writes_63 : decode cX9_writes 63 = .ok (.iinc 3 (-1), 3) := by decide +kernel
theorem dX9_writes_66 : decode cX9_writes 66 = .ok (.aload_n 0, 1) := by decide +kernel
theorem dX9_writes_67 : decode cX9_writes 67 = .ok (.iload_n 3, 1) := by decide +kernel
theorem dX9_writes_68 : decode cX9_writes 68 = .ok (.aload_n 0, 1) := by decide +kernel
theorem dX9_writes_69 : decode cX9_writes 69 = .ok (.getfield 120, 3) := by decide +kernel
theorem dX9_writes_7 : decode cX9_writes 7 = .ok (.invokevirtual 294, 3) := by decide +kernel
theorem dX9_writes_72 : decode cX9_writes 72 = .ok (.iload_n 3, 1) := by decide +kernel
theorem dX9_writes_73 : decode cX9_writes 73 = .ok (.iconst 1, 1) := by decide +kernel
theorem dX9_writes_74 : decode cX9_writes 74 = .ok (.iadd, 1) := by decide +kernel
theorem dX9_writes_75 : decode cX9_writes 75 = .ok (.iaload, 1) := by decide +kernel
theorem dX9_writes_76 : decode cX9_writes 76 = .ok (.i2l, 1) := by decide +kernel
theorem dX9_writes_77 : decode cX9_writes 77 = .ok (.invokevirtual 323, 3) := by decide +kernel
theorem dX9_writes_80 : decode cX9_writes 80 = .ok (.aload_n 0, 1) := by decide +kernel
theorem dX9_writes_81 : decode cX9_writes 81 = .ok (.iload_n 3, 1) := by decide +kernel
theorem dX9_writes_82 : decode cX9_writes 82 = .ok (.aload_n 0, 1) := by decide +kernel
theorem dX9_writes_83 : decode cX9_writes 83 = .ok (.getfield 117, 3) := by decide +kernel
theorem dX9_writes_86 : decode cX9_writes 86 = .ok (.iload_n 3, 1) := by decide +kernel
theorem dX9_writes_87 : decode cX9_writes 87 = .ok (.iconst 1, 1) := by decide +kernel
theorem dX9_writes_88 : decode cX9_writes 88 = .ok (.iadd, 1) := by decide +kernel
theorem dX9_writes_89 : decode cX9_writes 89 = .ok (.iaload, 1) := by decide +kernel
theorem dX9_writes_90 : decode cX9_writes 90 = .ok (.i2l, 1) := by decide +kernel
theorem dX9_writes_91 : decode cX9_writes 91 = .ok (.invokevirtual 323, 3) := by decide +kernel
theorem dX9_writes_94 : decode cX9_writes 94 = .ok (.iconst 0, 1) := by decide +kernel
theorem dX9_writes_95 : decode cX9_writes 95 = .ok (.istore 6, 2) := by decide +kernel
theorem dX9_writes_97 : decode cX9_writes 97 = .ok (.iload 6, 2) := by decide +kernel
theorem dX9_writes_99 : decode cX9_writes 99 = .ok (.aload_n 0, 1) := by decide +kernel
noncomputable def x9_lays (p0 : Int32) (p1 : Int32) (st : RS) : Option (RS) := gd (vp_in p0 9) (gd (vp_in ((160 * p0) + (gF st 53 p0.toNatClampNeg)) 1440) (nam (sF st 52 (upd (gF st 52) ((160 * p0) + (gF st 53 p0.toNatClampNeg)).toNatClampNeg p1)) (fun st_3 => gd (vp_in p0 9) (gd (vp_in p0 9) (nam (sF st_3 53 (upd (gF st_3 53) p0.toNatClampNeg ((gF st_3 53 p0.toNatClampNeg) + 1))) (fun st_6 => some st_6))))))
def wq_X9_lays : List Cond := .code yX9_lays cX9_lays 3 none :: (([.fieldLink RX9 114 "RecordBenchModel" "laid" "[I", .fieldLink RX9 117 "RecordBenchModel" "laidLong" "[I"] : List Cond) ++ wsX90)
set_option maxHeartbeats 4000000 in
set_option maxRecDepth 100000 in
theorem c_X9_lays (l : Launch) (dC : Nat → ClassId) (dI : Nat → Nat → Nat) (h0 : Nat) (ar : Nat → Nat) (ca : Nat → ClassId) (p0 : Int32) (p1 : Int32) (st st' : RS) (hf : x9_lays p0 p1 st = some st') (sz : Nat) : Met l yX9_lays wq_X9_lays ({ frames := 0, cells := 0, slots := 0, locals := 0 }) (va_Pc [.ref h0, .int p0, .int p1] (Pr (dC, dI) (rT ca) [] (RW h0 ar ca st) sz)) (va_Qv (fun (_ : Unit) => True) (Bq (dC, dI) (fun _ => RW h0 ar ca st') (fun _ => []) (va_A (RW h0 ar ca st) sz)) (va_A (RW h0 ar ca st) sz)) 0 0 (va_A (RW h0 ar ca st) sz) := by
  refine Met.ofW (cc := cX9_lays) (maxL := 3) (ret := none) (by decide) rfl ?_
  intro p e s m args below meth c s₁ B hml hv
  obtain ⟨rfl, hsz, hP, hK, hD0, hN, hZ, hR⟩ := hv
  have hx := B.exec
  have hb := B.bytes
  have hr := B.returns
  have hts := atoms_spec (ws := wq_X9_lays) B.pre
  have hown : s.vm.findClass RX9 = some m.cls := findClass_of_methodNamed B.named
  have iRX9 : ∀ w ∈ u_ws RX9 TX9 60, w ∈ wq_X9_lays := fun w h => List.mem_cons_of_mem _ (List.mem_append_right _ h)
  subst hsz
  have hp : Rp (dC, dI) h0 ar ca (va_A (RW h0 ar ca st) s.heap.size) s.heap st s.heap [] := ⟨hP, hD0.self, va_S.rf⟩
  generalize hAe : va_A (RW h0 ar ca st) s.heap.size = A at hp hZ ⊢
  have hA : ∀ q : Nat, s.heap.size ≤ q → A q := fun q h => by rw [← hAe]; exact Or.inr h
  have hl := lv_entry ([.ref h0, .int p0, .int p1]) (n := 3) (Nat.le_of_ble_eq_true rfl)
  rw [lg_entry_eq]
  generalize (lg_sl ([.ref h0, .int p0, .int p1]) ++ List.replicate (3 - (lg_sl ([.ref h0, .int p0, .int p1])).length) Slot.unset).toArray = ls at hl ⊢
  have hl : lv_has ls 3 [(0, .ref h0), (1, .int p0), (2, .int p1)] := hl
  unfold x9_lays at hf
  refine lv_aload_n hx hb dX9_lays_0 rfl (lv_at hl 0 rfl) ?_
  refine r_ga hx hb hts iRX9 hown hK hp 52 (by decide) (by decide) (hts (.fieldLink RX9 114 "RecordBenchModel" "laid" "[I") (by decide +kernel)) dX9_lays_1 ?_
  refine lv_sipush (v := 160) hx hb dX9_lays_4 (by decide) ?_
  refine lv_iload_n hx hb dX9_lays_7 rfl (lv_at hl 1 rfl) ?_
  refine lv_imul hx hb dX9_lays_8 ?_
  refine lv_aload_n hx hb dX9_lays_9 rfl (lv_at hl 0 rfl) ?_
  refine r_ga hx hb hts iRX9 hown hK hp 53 (by decide) (by decide) (hts (.fieldLink RX9 117 "RecordBenchModel" "laidLong" "[I") (by decide +kernel)) dX9_lays_10 ?_
  refine lv_iload_n hx hb dX9_lays_13 rfl (lv_at hl 1 rfl) ?_
  obtain ⟨g_1, hf⟩ := gd_some hf
  refine r_ai (n := 9) hx hb hK hp 24 53 rfl rfl rfl g_1 dX9_lays_14 ?_
  refine lv_iadd hx hb dX9_lays_15 ?_
  refine lv_iload_n hx hb dX9_lays_16 rfl (lv_at hl 2 rfl) ?_
  obtain ⟨g_2, hf⟩ := gd_some hf
  refine r_si (n := 1440) hx hb hK hp 23 52 rfl rfl rfl g_2 dX9_lays_17 (fun H locs hp => ?_)
  obtain ⟨st_3, est_3, hf⟩ := nam_some hf
  rw [← est_3] at hp
  refine lv_aload_n hx hb dX9_lays_18 rfl (lv_at hl 0 rfl) ?_
  refine r_ga hx hb hts iRX9 hown hK hp 53 (by decide) (by decide) (hts (.fieldLink RX9 117 "RecordBenchModel" "laidLong" "[I") (by decide +kernel)) dX9_lays_19 ?_
  refine lv_iload_n hx hb dX9_lays_22 rfl (lv_at hl 1 rfl) ?_
  refine lv_dup2_11 hx hb dX9_lays_23 rfl rfl ?_
  obtain ⟨g_4, hf⟩ := gd_some hf
  refine r_ai (n := 9) hx hb hK hp 24 53 rfl rfl rfl g_4 dX9_lays_24 ?_
  refine lv_iconst (v := 1) hx hb dX9_lays_25 (by decide) ?_
  refine lv_iadd hx hb dX9_lays_26 ?_
  obtain ⟨g_5, hf⟩ := gd_some hf
  refine r_si (n := 9) hx hb hK hp 24 53 rfl rfl rfl g_5 dX9_lays_27 (fun H locs hp => ?_)
  obtain ⟨st_6, est_6, hf⟩ := nam_some hf
  rw [← est_6] at hp
  have e2 := Option.some.inj hf
  exact W.vret hx hb hr (fun t ht hW => ⟨⟨(), rfl, trivial, Rp.end e2 hp hK ht hW⟩, hp.2.2.F ht⟩) hp.2.2.2.2 dX9_lays_28
noncomputable def x9_laysVarint_19 (k3 : Int32 → Int64 → RS → Option (RS)) (l1 : Int32) (l4 : Int64) (st : RS) : Option (RS) := bnv (x9_lays l1 (((l4 &&& 127).toInt32) ||| 128) st) (fun st_1 => nam ((l4.toUInt64 >>> ((7 : Int32).toInt64.toUInt64 &&& Int64.toUInt64 63)).toInt64) (fun v_4 => k3 l1 v_4 st_1))
noncomputable def x9_laysVarint_3  : Nat → Int32 → Int64 → RS → Option (RS)
  | 0 => fun _ _ _ => none
  | n + 1 => fun l1 l4 st => pif ((lg_cmp l4 (0 : Int64)) < 0) (x9_laysVarint_19 (x9_laysVarint_3 n) l1 l4 st) (pif ((lg_cmp l4 (127 : Int64)) ≤ 0) (bnv (x9_lays l1 l4.toInt32 st) (fun st_7 => some st_7)) (x9_laysVarint_19 (x9_laysVarint_3 n) l1 l4 st))
theorem x9_laysVarint_3_z  (l1 : Int32) (l4 : Int64) (st : RS) : x9_laysVarint_3  0 l1 l4 st = none := rfl
theorem x9_laysVarint_3_s  (n : Nat) (l1 : Int32) (l4 : Int64) (st : RS) : x9_laysVarint_3  (n + 1) l1 l4 st = pif ((lg_cmp l4 (0 : Int64)) < 0) (x9_laysVarint_19 (x9_laysVarint_3 n) l1 l4 st) (pif ((lg_cmp l4 (127 : Int64)) ≤ 0) (bnv (x9_lays l1 l4.toInt32 st) (fun st_7 => some st_7)) (x9_laysVarint_19 (x9_laysVarint_3 n) l1 l4 st)) := rfl
noncomputable def x9_laysVarint (p0 : Int32) (p1 : Int64) (st : RS) : Option (RS) := x9_laysVarint_3  fuel p0 p1 st
def wq_X9_laysVarint : List Cond := .code yX9_laysVarint cX9_laysVarint 6 none :: (([.constantLong RX9 217 (127), .methodLink RX9 320 yX9_lays, .instanceMethod yX9_lays, .selects RX9 yX9_lays yX9_lays, .initialized RX9, .code yX9_lays cX9_lays 3 none, .fieldLink RX9 114 "RecordBenchModel" "laid" "[I", .fieldLink RX9 117 "RecordBenchModel" "laidLong" "[I"] : List Cond) ++ wsX90)
theorem gs_wq_X9_laysVarint_wsX90 : GoodIn wq_X9_laysVarint wsX90 := fun w h => ⟨List.mem_cons_of_mem _ (List.mem_append_right _ h), (gt_wsX90 w h).2⟩
set_option maxRecDepth 20000 in
theorem gq_X9_laysVarint_X9_lays_320 : GoodIn wq_X9_laysVarint (wsV RX9 320 RX9 yX9_lays wq_X9_lays) := goodIn_app (goodIn_r _ [2, 3, 4, 5] rfl rfl) (goodIn_ca (goodIn_r _ [6, 7, 8] rfl rfl) gs_wq_X9_laysVarint_wsX90)
set_option maxHeartbeats 4000000 in
set_option maxRecDepth 100000 in
theorem c_X9_laysVarint (l : Launch) (dC : Nat → ClassId) (dI : Nat → Nat → Nat) (h0 : Nat) (ar : Nat → Nat) (ca : Nat → ClassId) (p0 : Int32) (p1 : Int64) (st st' : RS) (hf : x9_laysVarint p0 p1 st = some st') (sz : Nat) : Met l yX9_laysVarint wq_X9_laysVarint ({ frames := 1, cells := 0, slots := 0, locals := 26 }) (va_Pc [.ref h0, .int p0, .long p1] (Pr (dC, dI) (rT ca) [] (RW h0 ar ca st) sz)) (va_Qv (fun (_ : Unit) => True) (Bq (dC, dI) (fun _ => RW h0 ar ca st') (fun _ => []) (va_A (RW h0 ar ca st) sz)) (va_A (RW h0 ar ca st) sz)) 0 0 (va_A (RW h0 ar ca st) sz) := by
  refine Met.ofW (cc := cX9_laysVarint) (maxL := 6) (ret := none) (by decide) rfl ?_
  intro p e s m args below meth c s₁ B hml hv
  obtain ⟨rfl, hsz, hP, hK, hD0, hN, hZ, hR⟩ := hv
  have hx := B.exec
  have hb := B.bytes
  have hr := B.returns
  have hts := atoms_spec (ws := wq_X9_laysVarint) B.pre
  have hown : s.vm.findClass RX9 = some m.cls := findClass_of_methodNamed B.named
  subst hsz
  have hp : Rp (dC, dI) h0 ar ca (va_A (RW h0 ar ca st) s.heap.size) s.heap st s.heap [] := ⟨hP, hD0.self, va_S.rf⟩
  generalize hAe : va_A (RW h0 ar ca st) s.heap.size = A at hp hZ ⊢
  have hA : ∀ q : Nat, s.heap.size ≤ q → A q := fun q h => by rw [← hAe]; exact Or.inr h
  have hl := lv_entry ([.ref h0, .int p0, .long p1]) (n := 6) (Nat.le_of_ble_eq_true rfl)
  rw [lg_entry_eq]
  generalize (lg_sl ([.ref h0, .int p0, .long p1]) ++ List.replicate (6 - (lg_sl ([.ref h0, .int p0, .long p1])).length) Slot.unset).toArray = ls at hl ⊢
  have hl : lv_has ls 6 [(0, .ref h0), (1, .int p0), (2, .long p1)] := hl
  refine W_lp (fun n3 (u : Int32 × Int64 × RS) H locs ls => match u with | (l1, l4, st) => x9_laysVarint_3 n3 l1 l4 st = some st' ∧ Rp (dC, dI) h0 ar ca A s.heap st H locs ∧ lv_has ls 6 [(0, .ref h0), (1, .int l1), (4, .long l4)]) (fun (u : Int32 × Int64 × RS) ls => match u with | (l1, l4, st) => F0 m 3 ls []) ?_ ?_ (fun J3 => ?_)
  · intro u H locs ls hu
    obtain ⟨l1, l4, st⟩ := u
    obtain ⟨hf, hp, hl⟩ := hu
    rw [x9_laysVarint_3_z] at hf
    cases hf
  · intro n3 ih3 u H locs ls hu
    obtain ⟨l1, l4, st⟩ := u
    obtain ⟨hf, hp, hl⟩ := hu
    show W p l e _ s m _ below meth c _ _ _ _ _ (F0 m 3 ls [])
    refine W_blk (fun (u : Int32 × Int64 × RS) H locs ls => match u with | (l1, l4, st) => x9_laysVarint_19 (x9_laysVarint_3 n3) l1 l4 st = some st' ∧ Rp (dC, dI) h0 ar ca A s.heap st H locs ∧ lv_has ls 6 [(0, .ref h0), (1, .int l1), (4, .long l4)]) (fun (u : Int32 × Int64 × RS) ls => match u with | (l1, l4, st) => F0 m 19 ls []) ?_ (fun J19 => ?_)
    · intro u H locs ls hu
      obtain ⟨l1, l4, st⟩ := u
      obtain ⟨hf, hp, hl⟩ := hu
      show W p l e _ s m _ below meth c _ _ _ _ _ (F0 m 19 ls [])
      unfold x9_laysVarint_19 at hf
      refine lv_aload_n hx hb dX9_laysVarint_19 rfl (lv_at hl 0 rfl) ?_
      refine lv_iload_n hx hb dX9_laysVarint_20 rfl (lv_at hl 1 rfl) ?_
      refine lv_lload hx hb dX9_laysVarint_21 (lv_at hl 2 rfl) ?_
      refine lv_ldc2 hx hb hown (hts (.constantLong RX9 217 (127)) (by decide +kernel)) dX9_laysVarint_23 ?_
      refine lv_land hx hb dX9_laysVarint_26 ?_
      refine lv_l2i (v := (l4 &&& 127).toInt32) hx hb dX9_laysVarint_27 rfl ?_
      refine lv_sipush (v := 128) hx hb dX9_laysVarint_28 (by decide) ?_
      refine lv_ior hx hb dX9_laysVarint_31 ?_
      obtain ⟨st_1, hc_2, hf⟩ := bnv_some hf
      refine r_cv hp hA (va_runV (As := [.int l1, .int (((l4 &&& 127).toInt32) ||| 128)]) (rest := []) ⟨hx, hb, hml, hown, hts⟩ (c_X9_lays l dC dI h0 ar ca l1 (((l4 &&& 127).toInt32) ||| 128) _ _ hc_2 _) (cwV 2 hts gq_X9_laysVarint_X9_lays_320 rfl rfl rfl (by decide +kernel) ⟨Nat.le_of_ble_eq_true rfl, Nat.le_of_ble_eq_true rfl⟩) ⟨Pr.blind _, va_recv hK hp.1 (ci := 11) (q0 := 0) rfl rfl, r_pre hp hK hN hZ hA⟩ rfl rfl hl.1 rfl (lv_room (Nat.le_of_ble_eq_true rfl)) dX9_laysVarint_32 ⟨Nat.le_of_ble_eq_true rfl, Nat.le_of_ble_eq_true rfl⟩) (fun H locs hp => ?_)
      refine lv_lload hx hb dX9_laysVarint_35 (lv_at hl 2 rfl) ?_
      refine lv_bipush (v := 7) hx hb dX9_laysVarint_37 (by decide) ?_
      refine lv_lushr (v := (l4.toUInt64 >>> ((7 : Int32).toInt64.toUInt64 &&& Int64.toUInt64 63)).toInt64) hx hb dX9_laysVarint_39 rfl ?_
      obtain ⟨v_4, ev_4, hf⟩ := nam_some hf
      refine W_tol (y := v_4) ev_4.symm ?_
      refine lv_lstore (lv' := [(4, .long v_4), (0, .ref h0), (1, .int l1)]) hx hb dX9_laysVarint_40 hl (by decide) rfl (fun ls hl => ?_)
      refine lv_goto (tgt := 3) hx hb dX9_laysVarint_42 (by decide) ?_
      exact ih3 (l1, v_4, st_1) _ _ _ ⟨hf, hp, (lv_sub hl [1, 2, 0] rfl)⟩
    rw [x9_laysVarint_3_s] at hf
    refine lv_lload hx hb dX9_laysVarint_3 (lv_at hl 2 rfl) ?_
    refine lv_lconst (v := 0) hx hb dX9_laysVarint_5 (by decide) ?_
    refine W.lcmp hx hb dX9_laysVarint_6 ?_
    refine lv_if_lt (tgt := 19) hx hb dX9_laysVarint_7 (by decide) (fun c_5 => ?_) (fun c_5 => ?_)
    · have hf := pif_t c_5 hf
      exact J19 (l1, l4, st) _ _ _ ⟨hf, hp, (lv_sub hl [0, 1, 2] rfl)⟩
    · have hf := pif_f c_5 hf
      refine lv_lload hx hb dX9_laysVarint_10 (lv_at hl 2 rfl) ?_
      refine lv_ldc2 hx hb hown (hts (.constantLong RX9 217 (127)) (by decide +kernel)) dX9_laysVarint_12 ?_
      refine W.lcmp hx hb dX9_laysVarint_15 ?_
      refine lv_if_le (tgt := 45) hx hb dX9_laysVarint_16 (by decide) (fun c_6 => ?_) (fun c_6 => ?_)
      · have hf := pif_t c_6 hf
        refine lv_aload_n hx hb dX9_laysVarint_45 rfl (lv_at hl 0 rfl) ?_
        refine lv_iload_n hx hb dX9_laysVarint_46 rfl (lv_at hl 1 rfl) ?_
        refine lv_lload hx hb dX9_laysVarint_47 (lv_at hl 2 rfl) ?_
        refine lv_l2i (v := l4.toInt32) hx hb dX9_laysVarint_49 rfl ?_
        obtain ⟨st_7, hc_8, hf⟩ := bnv_some hf
        refine r_cv hp hA (va_runV (As := [.int l1, .int l4.toInt32]) (rest := []) ⟨hx, hb, hml, hown, hts⟩ (c_X9_lays l dC dI h0 ar ca l1 l4.toInt32 _ _ hc_8 _) (cwV 2 hts gq_X9_laysVarint_X9_lays_320 rfl rfl rfl (by decide +kernel) ⟨Nat.le_of_ble_eq_true rfl, Nat.le_of_ble_eq_true rfl⟩) ⟨Pr.blind _, va_recv hK hp.1 (ci := 11) (q0 := 0) rfl rfl, r_pre hp hK hN hZ hA⟩ rfl rfl hl.1 rfl (lv_room (Nat.le_of_ble_eq_true rfl)) dX9_laysVarint_50 ⟨Nat.le_of_ble_eq_true rfl, Nat.le_of_ble_eq_true rfl⟩) (fun H locs hp => ?_)
        have e2 := Option.some.inj hf
        exact W.vret hx hb hr (fun t ht hW => ⟨⟨(), rfl, trivial, Rp.end e2 hp hK ht hW⟩, hp.2.2.F ht⟩) hp.2.2.2.2 dX9_laysVarint_53
      · have hf := pif_f c_6 hf
        exact J19 (l1, l4, st) _ _ _ ⟨hf, hp, (lv_sub hl [0, 1, 2] rfl)⟩
  unfold x9_laysVarint at hf
  refine lv_lload_n hx hb dX9_laysVarint_0 rfl (lv_at hl 2 rfl) ?_
  refine lv_lstore (lv' := [(4, .long p1), (0, .ref h0), (1, .int p0), (2, .long p1)]) hx hb dX9_laysVarint_1 hl (by decide) rfl (fun ls hl => ?_)
  exact J3 fuel (p0, p1, st) _ _ _ ⟨hf, hp, (lv_sub hl [1, 2, 0] rfl)⟩
noncomputable def x9_folded (p0 : Int64) (st : RS) : Option (Int64 × RS) := some ((p0 <<< ((1 : Int32).toInt64 &&& 63)) ^^^ (p0 >>> ((63 : Int32).toInt64 &&& 63)), st)
def wq_X9_folded : List Cond := .code yX9_folded cX9_folded 2 (some .long) :: ([])
set_option maxHeartbeats 4000000 in
set_option maxRecDepth 100000 in
theorem c_X9_folded (l : Launch) (dC : Nat → ClassId) (dI : Nat → Nat → Nat) (h0 : Nat) (ar : Nat → Nat) (ca : Nat → ClassId) (p0 : Int64) (st st' : RS) (r : Int64) (hf : x9_folded p0 st = some (r, st')) (sz : Nat) : Met l yX9_folded wq_X9_folded ({ frames := 0, cells := 0, slots := 0, locals := 0 }) (va_Pc [.long p0] (Pr (dC, dI) (rT ca) [] (RW h0 ar ca st) sz)) (va_Ql (fun r' (_ : Unit) => r' = r) (Bq (dC, dI) (fun _ => RW h0 ar ca st') (fun _ => []) (va_A (RW h0 ar ca st) sz)) (va_A (RW h0 ar ca st) sz)) 0 0 (va_A (RW h0 ar ca st) sz) := by
  refine Met.ofW (cc := cX9_folded) (maxL := 2) (ret := (some .long)) (by decide) rfl ?_
  intro p e s m args below meth c s₁ B hml hv
  obtain ⟨rfl, hsz, hP, hK, hD0, hN, hZ, hR⟩ := hv
  have hx := B.exec
  have hb := B.bytes
  have hr := B.returns
  have hts := atoms_spec (ws := wq_X9_folded) B.pre
  have hown : s.vm.findClass RX9 = some m.cls := findClass_of_methodNamed B.named
  subst hsz
  have hp : Rp (dC, dI) h0 ar ca (va_A (RW h0 ar ca st) s.heap.size) s.heap st s.heap [] := ⟨hP, hD0.self, va_S.rf⟩
  generalize hAe : va_A (RW h0 ar ca st) s.heap.size = A at hp hZ ⊢
  have hA : ∀ q : Nat, s.heap.size ≤ q → A q := fun q h => by rw [← hAe]; exact Or.inr h
  have hl := lv_entry ([.long p0]) (n := 2) (Nat.le_of_ble_eq_true rfl)
  rw [lg_entry_eq]
  generalize (lg_sl ([.long p0]) ++ List.replicate (2 - (lg_sl ([.long p0])).length) Slot.unset).toArray = ls at hl ⊢
  have hl : lv_has ls 2 [(0, .long p0)] := hl
  unfold x9_folded at hf
  refine lv_lload_n hx hb dX9_folded_0 rfl (lv_at hl 0 rfl) ?_
  refine lv_iconst (v := 1) hx hb dX9_folded_1 (by decide) ?_
  refine lv_lshl (v := p0 <<< ((1 : Int32).toInt64 &&& 63)) hx hb dX9_folded_2 rfl ?_
  refine lv_lload_n hx hb dX9_folded_3 rfl (lv_at hl 0 rfl) ?_
  refine lv_bipush (v := 63) hx hb dX9_folded_4 (by decide) ?_
  refine lv_lshr (v := p0 >>> ((63 : Int32).toInt64 &&& 63)) hx hb dX9_folded_6 rfl ?_
  refine lv_lxor hx hb dX9_folded_7 ?_
  obtain ⟨e1, e2⟩ := pr_some hf
  exact W.lret (v := (p0 <<< ((1 : Int32).toInt64 &&& 63)) ^^^ (p0 >>> ((63 : Int32).toInt64 &&& 63))) hx hb hr (fun t ht hW => ⟨⟨(p0 <<< ((1 : Int32).toInt64 &&& 63)) ^^^ (p0 >>> ((63 : Int32).toInt64 &&& 63)), (), rfl, e1, Rp.end e2 hp hK ht hW⟩, hp.2.2.F ht⟩) hp.2.2.2.2 dX9_folded_8
noncomputable def x9_writes_337 (k20 : Int32 → Int32 → RS → Option (RS)) : Nat → Int32 → Int32 → Int32 → RS → Option (RS)
  | 0 => fun _ _ _ _ => none
  | n + 1 => fun l3 l4 l8 st => pif ((gI st 36) ≤ l8) (k20 l3 l4 st) (gd (vp_in l8 160) (bnv (x9_lays l3 (gF st 30 l8.toNatClampNeg) st) (fun st_3 => nam (l8 + 1) (fun v_6 => (x9_writes_337 k20 n) l3 l4 v_6 st_3))))
theorem x9_writes_337_z (k20 : Int32 → Int32 → RS → Option (RS)) (l3 : Int32) (l4 : Int32) (l8 : Int32) (st : RS) : x9_writes_337 k20 0 l3 l4 l8 st = none := rfl
theorem x9_writes_337_s (k20 : Int32 → Int32 → RS → Option (RS)) (n : Nat) (l3 : Int32) (l4 : Int32) (l8 : Int32) (st : RS) : x9_writes_337 k20 (n + 1) l3 l4 l8 st = pif ((gI st 36) ≤ l8) (k20 l3 l4 st) (gd (vp_in l8 160) (bnv (x9_lays l3 (gF st 30 l8.toNatClampNeg) st) (fun st_3 => nam (l8 + 1) (fun v_6 => (x9_writes_337 k20 n) l3 l4 v_6 st_3)))) := rfl
noncomputable def x9_writes_202 (k20 : Int32 → Int32 → RS → Option (RS)) : Nat → Int32 → Int32 → Int32 → RS → Option (RS)
  | 0 => fun _ _ _ _ => none
  | n + 1 => fun l3 l4 l8 st => pif ((gI st 36) ≤ l8) (k20 l3 l4 st) (gd (vp_in l8 160) (bnv (x9_lays l3 (gF st 30 l8.toNatClampNeg) st) (fun st_9 => nam (l8 + 1) (fun v_12 => (x9_writes_202 k20 n) l3 l4 v_12 st_9))))
theorem x9_writes_202_z (k20 : Int32 → Int32 → RS → Option (RS)) (l3 : Int32) (l4 : Int32) (l8 : Int32) (st : RS) : x9_writes_202 k20 0 l3 l4 l8 st = none := rfl
theorem x9_writes_202_s (k20 : Int32 → Int32 → RS → Option (RS)) (n : Nat) (l3 : Int32) (l4 : Int32) (l8 : Int32) (st : RS) : x9_writes_202 k20 (n + 1) l3 l4 l8 st = pif ((gI st 36) ≤ l8) (k20 l3 l4 st) (gd (vp_in l8 160) (bnv (x9_lays l3 (gF st 30 l8.toNatClampNeg) st) (fun st_9 => nam (l8 + 1) (fun v_12 => (x9_writes_202 k20 n) l3 l4 v_12 st_9)))) := rfl
noncomputable def x9_writes_97 (k20 : Int32 → Int32 → RS → Option (RS)) : Nat → Int32 → Int32 → Int32 → RS → Option (RS)
  | 0 => fun _ _ _ _ => none
  | n + 1 => fun l3 l4 l6 st => gd (vp_in (l3 + 1) 9) (pif ((gF st 53 (l3 + 1).toNatClampNeg) ≤ l6) (k20 l3 l4 st) (gd (vp_in ((160 * (l3 + 1)) + l6) 1440) (bnv (x9_lays l3 (gF st 52 ((160 * (l3 + 1)) + l6).toNatClampNeg) st) (fun st_16 => nam (l6 + 1) (fun v_19 => (x9_writes_97 k20 n) l3 l4 v_19 st_16)))))
theorem x9_writes_97_z (k20 : Int32 → Int32 → RS → Option (RS)) (l3 : Int32) (l4 : Int32) (l6 : Int32) (st : RS) : x9_writes_97 k20 0 l3 l4 l6 st = none := rfl
theorem x9_writes_97_s (k20 : Int32 → Int32 → RS → Option (RS)) (n : Nat) (l3 : Int32) (l4 : Int32) (l6 : Int32) (st : RS) : x9_writes_97 k20 (n + 1) l3 l4 l6 st = gd (vp_in (l3 + 1) 9) (pif ((gF st 53 (l3 + 1).toNatClampNeg) ≤ l6) (k20 l3 l4 st) (gd (vp_in ((160 * (l3 + 1)) + l6) 1440) (bnv (x9_lays l3 (gF st 52 ((160 * (l3 + 1)) + l6).toNatClampNeg) st) (fun st_16 => nam (l6 + 1) (fun v_19 => (x9_writes_97 k20 n) l3 l4 v_19 st_16))))) := rfl
noncomputable def x9_writes_53 (k20 : Int32 → Int32 → RS → Option (RS)) (l3 : Int32) (s0 : Int32) (st : RS) : Option (RS) := pif (s0 = 0) (k20 l3 s0 st) (nam (l3 + (-1)) (fun v_21 => gd (vp_in (v_21 + 1) 9) (bnv (x9_laysVarint v_21 ((gF st 54 (v_21 + 1).toNatClampNeg).toInt64) st) (fun st_23 => gd (vp_in (v_21 + 1) 9) (bnv (x9_laysVarint v_21 ((gF st_23 53 (v_21 + 1).toNatClampNeg).toInt64) st_23) (fun st_27 => x9_writes_97 k20 fuel v_21 s0 0 st_27))))))
noncomputable def x9_writes_20  : Nat → Int32 → Int32 → RS → Option (RS)
  | 0 => fun _ _ _ => none
  | n + 1 => fun l3 l4 st => pif (l4 = 0) (some st) (gd (vp_in l3 9) (nam (gF st 48 l3.toNatClampNeg) (fun v_32 => gd (vp_in l3 9) (pif (v_32 = (gF st 49 l3.toNatClampNeg)) (pif (l3 ≤ 0) (x9_writes_53 (x9_writes_20 n) l3 0 st) (x9_writes_53 (x9_writes_20 n) l3 1 st)) (gd (vp_in l3 9) (nam (gF st 47 l3.toNatClampNeg) (fun v_36 => gd (vp_in l3 9) (bnv (x9_piece v_32 (gF st 49 l3.toNatClampNeg) v_36 0 0 st) (fun st_38 => gd (vp_in l3 9) (nam (sF st_38 48 (upd (gF st_38 48) l3.toNatClampNeg (gI st_38 36))) (fun st_42 => nam ((31 * v_36) + (gI st_42 33)) (fun v_43 => bnd (x9_has v_36 (gI st_42 33) st_42) (fun r_46 st_44 => pif (r_46 = 0) (x9_writes_202 (x9_writes_20 n) fuel l3 l4 v_32 st_44) (gd (vp_in v_43 248) (pif ((gF st_44 1 v_43.toNatClampNeg) = 6) (nam (l3 + 1) (fun v_68 => gd (vp_in v_43 248) (bnv (x9_opens v_68 (gF st_44 3 v_43.toNatClampNeg) (gI st_44 35) (gI st_44 36) st_44) (fun st_70 => gd (vp_in v_68 9) (nam (sF st_70 53 (upd (gF st_70 53) v_68.toNatClampNeg 0)) (fun st_74 => gd (vp_in v_68 9) (nam (sF st_74 54 (upd (gF st_74 54) v_68.toNatClampNeg ((2 * (gI st_74 33)) + 1))) (fun st_76 => (x9_writes_20 n) v_68 l4 st_76)))))))) (gd (vp_in v_43 248) (pif ((gF st_44 1 v_43.toNatClampNeg) = 5) (bnv (x9_laysVarint l3 (((2 * (gI st_44 33)) + 1).toInt64) st_44) (fun st_61 => bnv (x9_laysVarint l3 (((gI st_61 36) - (gI st_61 35)).toInt64) st_61) (fun st_64 => nam (gI st_64 35) (fun v_67 => x9_writes_337 (x9_writes_20 n) fuel l3 l4 v_67 st_64)))) (bnv (x9_laysVarint l3 ((2 * (gI st_44 33)).toInt64) st_44) (fun st_52 => bnd (x9_folded (gJ st_52 37) st_52) (fun r_57 st_55 => bnv (x9_laysVarint l3 r_57 st_55) (fun st_58 => (x9_writes_20 n) l3 l4 st_58)))))))))))))))))))))
theorem x9_writes_20_z  (l3 : Int32) (l4 : Int32) (st : RS) : x9_writes_20  0 l3 l4 st = none := rfl
theorem x9_writes_20_s  (n : Nat) (l3 : Int32) (l4 : Int32) (st : RS) : x9_writes_20  (n + 1) l3 l4 st = pif (l4 = 0) (some st) (gd (vp_in l3 9) (nam (gF st 48 l3.toNatClampNeg) (fun v_32 => gd (vp_in l3 9) (pif (v_32 = (gF st 49 l3.toNatClampNeg)) (pif (l3 ≤ 0) (x9_writes_53 (x9_writes_20 n) l3 0 st) (x9_writes_53 (x9_writes_20 n) l3 1 st)) (gd (vp_in l3 9) (nam (gF st 47 l3.toNatClampNeg) (fun v_36 => gd (vp_in l3 9) (bnv (x9_piece v_32 (gF st 49 l3.toNatClampNeg) v_36 0 0 st) (fun st_38 => gd (vp_in l3 9) (nam (sF st_38 48 (upd (gF st_38 48) l3.toNatClampNeg (gI st_38 36))) (fun st_42 => nam ((31 * v_36) + (gI st_42 33)) (fun v_43 => bnd (x9_has v_36 (gI st_42 33) st_42) (fun r_46 st_44 => pif (r_46 = 0) (x9_writes_202 (x9_writes_20 n) fuel l3 l4 v_32 st_44) (gd (vp_in v_43 248) (pif ((gF st_44 1 v_43.toNatClampNeg) = 6) (nam (l3 + 1) (fun v_68 => gd (vp_in v_43 248) (bnv (x9_opens v_68 (gF st_44 3 v_43.toNatClampNeg) (gI st_44 35) (gI st_44 36) st_44) (fun st_70 => gd (vp_in v_68 9) (nam (sF st_70 53 (upd (gF st_70 53) v_68.toNatClampNeg 0)) (fun st_74 => gd (vp_in v_68 9) (nam (sF st_74 54 (upd (gF st_74 54) v_68.toNatClampNeg ((2 * (gI st_74 33)) + 1))) (fun st_76 => (x9_writes_20 n) v_68 l4 st_76)))))))) (gd (vp_in v_43 248) (pif ((gF st_44 1 v_43.toNatClampNeg) = 5) (bnv (x9_laysVarint l3 (((2 * (gI st_44 33)) + 1).toInt64) st_44) (fun st_61 => bnv (x9_laysVarint l3 (((gI st_61 36) - (gI st_61 35)).toInt64) st_61) (fun st_64 => nam (gI st_64 35) (fun v_67 => x9_writes_337 (x9_writes_20 n) fuel l3 l4 v_67 st_64)))) (bnv (x9_laysVarint l3 ((2 * (gI st_44 33)).toInt64) st_44) (fun st_52 => bnd (x9_folded (gJ st_52 37) st_52) (fun r_57 st_55 => bnv (x9_laysVarint l3 r_57 st_55) (fun st_58 => (x9_writes_20 n) l3 l4 st_58))))))))))))))))))))) := rfl
noncomputable def x9_writes (p0 : Int32) (p1 : Int32) (st : RS) : Option (RS) := bnv (x9_opens 0 p1 0 p0 st) (fun st_78 => gd (vp_in (0 : Int32) 9) (nam (sF st_78 53 (upd (gF st_78 53) (0 : Int32).toNatClampNeg 0)) (fun st_82 => x9_writes_20  fuel 0 1 st_82)))
def wq_X9_writes : List Cond := .code yX9_writes cX9_writes 9 none :: (([.fieldLink RX9 117 "RecordBenchModel" "laidLong" "[I", .fieldLink RX9 102 "RecordBenchModel" "pileAt" "[I", .fieldLink RX9 105 "RecordBenchModel" "pileEnd" "[I", .fieldLink RX9 99 "RecordBenchModel" "pileMake" "[I", .fieldLink RX9 278 "RecordBenchModel" "to" "I", .fieldLink RX9 263 "RecordBenchModel" "number" "I", .fieldLink RX9 13 "RecordBenchModel" "kind" "[I", .fieldLink RX9 273 "RecordBenchModel" "value" "J", .fieldLink RX9 275 "RecordBenchModel" "from" "I", .fieldLink RX9 20 "RecordBenchModel" "inner" "[I", .fieldLink RX9 120 "RecordBenchModel" "levelKey" "[I", .fieldLink RX9 114 "RecordBenchModel" "laid" "[I", .fieldLink RX9 81 "RecordBenchModel" "row" "[I", .methodLink RX9 320 yX9_lays, .instanceMethod yX9_lays, .selects RX9 yX9_lays yX9_lays, .initialized RX9, .methodLink RX9 323 yX9_laysVarint, .instanceMethod yX9_laysVarint, .selects RX9 yX9_laysVarint yX9_laysVarint, .methodLink RX9 298 yX9_piece, .instanceMethod yX9_piece, .selects RX9 yX9_piece yX9_piece, .methodLink RX9 246 yX9_has, .instanceMethod yX9_has, .selects RX9 yX9_has yX9_has, .methodLink RX9 327 yX9_folded, .static yX9_folded, .methodLink RX9 294 yX9_opens, .instanceMethod yX9_opens, .selects RX9 yX9_opens yX9_opens, .code yX9_lays cX9_lays 3 none, .code yX9_laysVarint cX9_laysVarint 6 none, .constantLong RX9 217 (127), .code yX9_piece cX9_piece 14 none, .fieldLink RX9 260 "RecordBenchModel" "pieceFault" "I", .fieldLink RX9 252 "RecordBenchModel" "varint" "J", .fieldLink RX9 267 "RecordBenchModel" "isLong" "Z", .constantLong RX9 271 (30), .fieldLink RX9 257 "RecordBenchModel" "varintEnd" "I", .fieldLink RX9 17 "RecordBenchModel" "group" "[I", .methodLink RX9 281 yX9_isText, .static yX9_isText, .methodLink RX9 229 yX9_isOf, .static yX9_isOf, .methodLink RX9 265 yX9_varint, .instanceMethod yX9_varint, .selects RX9 yX9_varint yX9_varint, .code yX9_isText cX9_isText 4 (some .boolean), .code yX9_isOf cX9_isOf 3 (some .boolean), .constantLong RX9 219 (-2147483648), .constantLong RX9 221 (2147483647), .constantLong RX9 215 (-128), .code yX9_has cX9_has 3 (some .boolean), .fieldLink RX9 36 "RecordBenchModel" "isThere" "[Z", .code yX9_varint cX9_varint 6 (some .boolean), .constantLong RX9 255 (128), .code yX9_folded cX9_folded 2 (some .long), .code yX9_opens cX9_opens 5 none, .fieldLink RX9 108 "RecordBenchModel" "pileLast" "[I", .fieldLink RX9 111 "RecordBenchModel" "pileGroups" "[I"] : List Cond) ++ wsX90)
theorem gs_wq_X9_writes_wsX90 : GoodIn wq_X9_writes wsX90 := fun w h => ⟨List.mem_cons_of_mem _ (List.mem_append_right _ h), (gt_wsX90 w h).2⟩
set_option maxRecDepth 20000 in
theorem gq_X9_writes_X9_lays_320 : GoodIn wq_X9_writes (wsV RX9 320 RX9 yX9_lays wq_X9_lays) := goodIn_app (goodIn_r _ [14, 15, 16, 17] rfl rfl) (goodIn_ca (goodIn_r _ [32, 12, 1] rfl rfl) gs_wq_X9_writes_wsX90)
set_option maxRecDepth 20000 in
theorem gq_X9_writes_X9_laysVarint_323 : GoodIn wq_X9_writes (wsV RX9 323 RX9 yX9_laysVarint wq_X9_laysVarint) := goodIn_app (goodIn_r _ [18, 19, 20, 17] rfl rfl) (goodIn_ca (goodIn_r _ [33, 34, 14, 15, 16, 17, 32, 12, 1] rfl rfl) gs_wq_X9_writes_wsX90)
set_option maxRecDepth 20000 in
theorem gq_X9_writes_X9_piece_298 : GoodIn wq_X9_writes (wsV RX9 298 RX9 yX9_piece wq_X9_piece) := goodIn_app (goodIn_r _ [21, 22, 23, 17] rfl rfl) (goodIn_ca (goodIn_r _ [35, 36, 6, 37, 38, 39, 40, 8, 9, 5, 7, 41, 13, 42, 43, 17, 44, 45, 24, 25, 26, 46, 47, 48, 49, 50, 51, 52, 53, 34, 54, 55, 56, 57] rfl rfl) gs_wq_X9_writes_wsX90)
set_option maxRecDepth 20000 in
theorem gq_X9_writes_X9_has_246 : GoodIn wq_X9_writes (wsV RX9 246 RX9 yX9_has wq_X9_has) := goodIn_app (goodIn_r _ [24, 25, 26, 17] rfl rfl) (goodIn_ca (goodIn_r _ [54, 55, 7] rfl rfl) gs_wq_X9_writes_wsX90)
set_option maxRecDepth 20000 in
theorem gq_X9_writes_X9_folded_327 : GoodIn wq_X9_writes (wsS RX9 327 yX9_folded wq_X9_folded) := goodIn_app (goodIn_r _ [27, 28, 17] rfl rfl) (goodIn_r _ [58] rfl rfl)
set_option maxRecDepth 20000 in
theorem gq_X9_writes_X9_opens_294 : GoodIn wq_X9_writes (wsV RX9 294 RX9 yX9_opens wq_X9_opens) := goodIn_app (goodIn_r _ [29, 30, 31, 17] rfl rfl) (goodIn_ca (goodIn_r _ [59, 4, 2, 3, 60, 61] rfl rfl) gs_wq_X9_writes_wsX90)
set_option maxHeartbeats 4000000 in
set_option maxRecDepth 100000 in
theorem c_X9_writes (l : Launch) (dC : Nat → ClassId) (dI : Nat → Nat → Nat) (h0 : Nat) (ar : Nat → Nat) (ca : Nat → ClassId) (p0 : Int32) (p1 : Int32) (st st' : RS) (hf : x9_writes p0 p1 st = some st') (sz : Nat) : Met l yX9_writes wq_X9_writes ({ frames := 2, cells := 0, slots := 0, locals := 66 }) (va_Pc [.ref h0, .int p0, .int p1] (Pr (dC, dI) (rT ca) [] (RW h0 ar ca st) sz)) (va_Qv (fun (_ : Unit) => True) (Bq (dC, dI) (fun _ => RW h0 ar ca st') (fun _ => []) (va_A (RW h0 ar ca st) sz)) (va_A (RW h0 ar ca st) sz)) 0 0 (va_A (RW h0 ar ca st) sz) := by
  refine Met.ofW (cc := cX9_writes) (maxL := 9) (ret := none) (by decide) rfl ?_
  intro p e s m args below meth c s₁ B hml hv
  obtain ⟨rfl, hsz, hP, hK, hD0, hN, hZ, hR⟩ := hv
  have hx := B.exec
  have hb := B.bytes
  have hr := B.returns
  have hts := atoms_spec (ws := wq_X9_writes) B.pre
  have hown : s.vm.findClass RX9 = some m.cls := findClass_of_methodNamed B.named
  have iRX9 : ∀ w ∈ u_ws RX9 TX9 60, w ∈ wq_X9_writes := fun w h => List.mem_cons_of_mem _ (List.mem_append_right _ h)
  subst hsz
  have hp : Rp (dC, dI) h0 ar ca (va_A (RW h0 ar ca st) s.heap.size) s.heap st s.heap [] := ⟨hP, hD0.self, va_S.rf⟩
  generalize hAe : va_A (RW h0 ar ca st) s.heap.size = A at hp hZ ⊢
  have hA : ∀ q : Nat, s.heap.size ≤ q → A q := fun q h => by rw [← hAe]; exact Or.inr h
  have hl := lv_entry ([.ref h0, .int p0, .int p1]) (n := 9) (Nat.le_of_ble_eq_true rfl)
  rw [lg_entry_eq]
  generalize (lg_sl ([.ref h0, .int p0, .int p1]) ++ List.replicate (9 - (lg_sl ([.ref h0, .int p0, .int p1])).length) Slot.unset).toArray = ls at hl ⊢
  have hl : lv_has ls 9 [(0, .ref h0), (1, .int p0), (2, .int p1)] := hl
  refine W_lp (fun n20 (u : Int32 × Int32 × RS) H locs ls => match u with | (l3, l4, st) => x9_writes_20 n20 l3 l4 st = some st' ∧ Rp (dC, dI) h0 ar ca A s.heap st H locs ∧ lv_has ls 9 [(0, .ref h0), (3, .int l3), (4, .int l4)]) (fun (u : Int32 × Int32 × RS) ls => match u with | (l3, l4, st) => F0 m 20 ls []) ?_ ?_ (fun J20 => ?_)
  · intro u H locs ls hu
    obtain ⟨l3, l4, st⟩ := u
    obtain ⟨hf, hp, hl⟩ := hu
    rw [x9_writes_20_z] at hf
    cases hf
  · intro n20 ih20 u H locs ls hu
    obtain ⟨l3, l4, st⟩ := u
    obtain ⟨hf, hp, hl⟩ := hu
    show W p l e _ s m _ below meth c _ _ _ _ _ (F0 m 20 ls [])
    refine W_lp (fun n337 (u : Int32 × Int32 × Int32 × RS) H locs ls => match u with | (l3, l4, l8, st) => x9_writes_337 (x9_writes_20 n20) n337 l3 l4 l8 st = some st' ∧ Rp (dC, dI) h0 ar ca A s.heap st H locs ∧ lv_has ls 9 [(0, .ref h0), (3, .int l3), (4, .int l4), (8, .int l8)]) (fun (u : Int32 × Int32 × Int32 × RS) ls => match u with | (l3, l4, l8, st) => F0 m 337 ls []) ?_ ?_ (fun J337 => ?_)
    · intro u H locs ls hu
      obtain ⟨l3, l4, l8, st⟩ := u
      obtain ⟨hf, hp, hl⟩ := hu
      rw [x9_writes_337_z] at hf
      cases hf
    · intro n337 ih337 u H locs ls hu
      obtain ⟨l3, l4, l8, st⟩ := u
      obtain ⟨hf, hp, hl⟩ := hu
      show W p l e _ s m _ below meth c _ _ _ _ _ (F0 m 337 ls [])
      rw [x9_writes_337_s] at hf
      refine lv_iload hx hb dX9_writes_337 (lv_at hl 3 rfl) ?_
      refine lv_aload_n hx hb dX9_writes_339 rfl (lv_at hl 0 rfl) ?_
      refine r_gi hx hb hts iRX9 hown hK hp 36 (by decide) rfl (hts (.fieldLink RX9 278 "RecordBenchModel" "to" "I") (by decide +kernel)) dX9_writes_340 ?_
      refine lv_icmp_ge (tgt := 364) hx hb dX9_writes_343 (by decide) (fun c_1 => ?_) (fun c_1 => ?_)
      · have hf := pif_t c_1 hf
        refine lv_goto (tgt := 391) hx hb dX9_writes_364 (by decide) ?_
        refine lv_goto (tgt := 20) hx hb dX9_writes_391 (by decide) ?_
        exact ih20 (l3, l4, st) _ _ _ ⟨hf, hp, (lv_sub hl [0, 1, 2] rfl)⟩
      · have hf := pif_f c_1 hf
        refine lv_aload_n hx hb dX9_writes_346 rfl (lv_at hl 0 rfl) ?_
        refine lv_iload_n hx hb dX9_writes_347 rfl (lv_at hl 1 rfl) ?_
        refine lv_aload_n hx hb dX9_writes_348 rfl (lv_at hl 0 rfl) ?_
        refine r_ga hx hb hts iRX9 hown hK hp 30 (by decide) (by decide) (hts (.fieldLink RX9 81 "RecordBenchModel" "row" "[I") (by decide +kernel)) dX9_writes_349 ?_
        refine lv_iload hx hb dX9_writes_352 (lv_at hl 3 rfl) ?_
        obtain ⟨g_2, hf⟩ := gd_some hf
        refine r_ai (n := 160) hx hb hK hp 12 30 rfl rfl rfl g_2 dX9_writes_354 ?_
        obtain ⟨st_3, hc_4, hf⟩ := bnv_some hf
        refine r_cv hp hA (va_runV (As := [.int l3, .int (gF st 30 l8.toNatClampNeg)]) (rest := []) ⟨hx, hb, hml, hown, hts⟩ (c_X9_lays l dC dI h0 ar ca l3 (gF st 30 l8.toNatClampNeg) _ _ hc_4 _) (cwV 2 hts gq_X9_writes_X9_lays_320 rfl rfl rfl (by decide +kernel) ⟨Nat.le_of_ble_eq_true rfl, Nat.le_of_ble_eq_true rfl⟩) ⟨Pr.blind _, va_recv hK hp.1 (ci := 11) (q0 := 0) rfl rfl, r_pre hp hK hN hZ hA⟩ rfl rfl hl.1 rfl (lv_room (Nat.le_of_ble_eq_true rfl)) dX9_writes_355 ⟨Nat.le_of_ble_eq_true rfl, Nat.le_of_ble_eq_true rfl⟩) (fun H locs hp => ?_)
        obtain ⟨v_6, ev_6, hf⟩ := nam_some hf
        refine lv_iinc (v := v_6) (lv' := [(8, .int v_6), (0, .ref h0), (3, .int l3), (4, .int l4)]) hx hb dX9_writes_358 hl (k := 3) rfl ev_6.symm (by decide) rfl (fun ls hl => ?_)
        refine lv_goto (tgt := 337) hx hb dX9_writes_361 (by decide) ?_
        exact ih337 (l3, l4, v_6, st_3) _ _ _ ⟨hf, hp, (lv_sub hl [1, 2, 3, 0] rfl)⟩
    refine W_lp (fun n202 (u : Int32 × Int32 × Int32 × RS) H locs ls => match u with | (l3, l4, l8, st) => x9_writes_202 (x9_writes_20 n20) n202 l3 l4 l8 st = some st' ∧ Rp (dC, dI) h0 ar ca A s.heap st H locs ∧ lv_has ls 9 [(0, .ref h0), (3, .int l3), (4, .int l4), (8, .int l8)]) (fun (u : Int32 × Int32 × Int32 × RS) ls => match u with | (l3, l4, l8, st) => F0 m 202 ls []) ?_ ?_ (fun J202 => ?_)
    · intro u H locs ls hu
      obtain ⟨l3, l4, l8, st⟩ := u
      obtain ⟨hf, hp, hl⟩ := hu
      rw [x9_writes_202_z] at hf
      cases hf
    · intro n202 ih202 u H locs ls hu
      obtain ⟨l3, l4, l8, st⟩ := u
      obtain ⟨hf, hp, hl⟩ := hu
      show W p l e _ s m _ below meth c _ _ _ _ _ (F0 m 202 ls [])
      rw [x9_writes_202_s] at hf
      refine lv_iload hx hb dX9_writes_202 (lv_at hl 3 rfl) ?_
      refine lv_aload_n hx hb dX9_writes_204 rfl (lv_at hl 0 rfl) ?_
      refine r_gi hx hb hts iRX9 hown hK hp 36 (by decide) rfl (hts (.fieldLink RX9 278 "RecordBenchModel" "to" "I") (by decide +kernel)) dX9_writes_205 ?_
      refine lv_icmp_ge (tgt := 229) hx hb dX9_writes_208 (by decide) (fun c_7 => ?_) (fun c_7 => ?_)
      · have hf := pif_t c_7 hf
        refine lv_goto (tgt := 391) hx hb dX9_writes_229 (by decide) ?_
        refine lv_goto (tgt := 20) hx hb dX9_writes_391 (by decide) ?_
        exact ih20 (l3, l4, st) _ _ _ ⟨hf, hp, (lv_sub hl [0, 1, 2] rfl)⟩
      · have hf := pif_f c_7 hf
        refine lv_aload_n hx hb dX9_writes_211 rfl (lv_at hl 0 rfl) ?_
        refine lv_iload_n hx hb dX9_writes_212 rfl (lv_at hl 1 rfl) ?_
        refine lv_aload_n hx hb dX9_writes_213 rfl (lv_at hl 0 rfl) ?_
        refine r_ga hx hb hts iRX9 hown hK hp 30 (by decide) (by decide) (hts (.fieldLink RX9 81 "RecordBenchModel" "row" "[I") (by decide +kernel)) dX9_writes_214 ?_
        refine lv_iload hx hb dX9_writes_217 (lv_at hl 3 rfl) ?_
        obtain ⟨g_8, hf⟩ := gd_some hf
        refine r_ai (n := 160) hx hb hK hp 12 30 rfl rfl rfl g_8 dX9_writes_219 ?_
        obtain ⟨st_9, hc_10, hf⟩ := bnv_some hf
        refine r_cv hp hA (va_runV (As := [.int l3, .int (gF st 30 l8.toNatClampNeg)]) (rest := []) ⟨hx, hb, hml, hown, hts⟩ (c_X9_lays l dC dI h0 ar ca l3 (gF st 30 l8.toNatClampNeg) _ _ hc_10 _) (cwV 2 hts gq_X9_writes_X9_lays_320 rfl rfl rfl (by decide +kernel) ⟨Nat.le_of_ble_eq_true rfl, Nat.le_of_ble_eq_true rfl⟩) ⟨Pr.blind _, va_recv hK hp.1 (ci := 11) (q0 := 0) rfl rfl, r_pre hp hK hN hZ hA⟩ rfl rfl hl.1 rfl (lv_room (Nat.le_of_ble_eq_true rfl)) dX9_writes_220 ⟨Nat.le_of_ble_eq_true rfl, Nat.le_of_ble_eq_true rfl⟩) (fun H locs hp => ?_)
        obtain ⟨v_12, ev_12, hf⟩ := nam_some hf
        refine lv_iinc (v := v_12) (lv' := [(8, .int v_12), (0, .ref h0), (3, .int l3), (4, .int l4)]) hx hb dX9_writes_223 hl (k := 3) rfl ev_12.symm (by decide) rfl (fun ls hl => ?_)
        refine lv_goto (tgt := 202) hx hb dX9_writes_226 (by decide) ?_
        exact ih202 (l3, l4, v_12, st_9) _ _ _ ⟨hf, hp, (lv_sub hl [1, 2, 3, 0] rfl)⟩
    refine W_lp (fun n97 (u : Int32 × Int32 × Int32 × RS) H locs ls => match u with | (l3, l4, l6, st) => x9_writes_97 (x9_writes_20 n20) n97 l3 l4 l6 st = some st' ∧ Rp (dC, dI) h0 ar ca A s.heap st H locs ∧ lv_has ls 9 [(0, .ref h0), (3, .int l3), (4, .int l4), (6, .int l6)]) (fun (u : Int32 × Int32 × Int32 × RS) ls => match u with | (l3, l4, l6, st) => F0 m 97 ls []) ?_ ?_ (fun J97 => ?_)
    · intro u H locs ls hu
      obtain ⟨l3, l4, l6, st⟩ := u
      obtain ⟨hf, hp, hl⟩ := hu
      rw [x9_writes_97_z] at hf
      cases hf
    · intro n97 ih97 u H locs ls hu
      obtain ⟨l3, l4, l6, st⟩ := u
      obtain ⟨hf, hp, hl⟩ := hu
      show W p l e _ s m _ below meth c _ _ _ _ _ (F0 m 97 ls [])
      rw [x9_writes_97_s] at hf
      refine lv_iload hx hb dX9_writes_97 (lv_at hl 3 rfl) ?_
      refine lv_aload_n hx hb dX9_writes_99 rfl (lv_at hl 0 rfl) ?_
      refine r_ga hx hb hts iRX9 hown hK hp 53 (by decide) (by decide) (hts (.fieldLink RX9 117 "RecordBenchModel" "laidLong" "[I") (by decide +kernel)) dX9_writes_100 ?_
      refine lv_iload_n hx hb dX9_writes_103 rfl (lv_at hl 1 rfl) ?_
      refine lv_iconst (v := 1) hx hb dX9_writes_104 (by decide) ?_
      refine lv_iadd hx hb dX9_writes_105 ?_
      obtain ⟨g_13, hf⟩ := gd_some hf
      refine r_ai (n := 9) hx hb hK hp 24 53 rfl rfl rfl g_13 dX9_writes_106 ?_
      refine lv_icmp_ge (tgt := 136) hx hb dX9_writes_107 (by decide) (fun c_14 => ?_) (fun c_14 => ?_)
      · have hf := pif_t c_14 hf
        refine lv_goto (tgt := 20) hx hb dX9_writes_136 (by decide) ?_
        exact ih20 (l3, l4, st) _ _ _ ⟨hf, hp, (lv_sub hl [0, 1, 2] rfl)⟩
      · have hf := pif_f c_14 hf
        refine lv_aload_n hx hb dX9_writes_110 rfl (lv_at hl 0 rfl) ?_
        refine lv_iload_n hx hb dX9_writes_111 rfl (lv_at hl 1 rfl) ?_
        refine lv_aload_n hx hb dX9_writes_112 rfl (lv_at hl 0 rfl) ?_
        refine r_ga hx hb hts iRX9 hown hK hp 52 (by decide) (by decide) (hts (.fieldLink RX9 114 "RecordBenchModel" "laid" "[I") (by decide +kernel)) dX9_writes_113 ?_
        refine lv_sipush (v := 160) hx hb dX9_writes_116 (by decide) ?_
        refine lv_iload_n hx hb dX9_writes_119 rfl (lv_at hl 1 rfl) ?_
        refine lv_iconst (v := 1) hx hb dX9_writes_120 (by decide) ?_
        refine lv_iadd hx hb dX9_writes_121 ?_
        refine lv_imul hx hb dX9_writes_122 ?_
        refine lv_iload hx hb dX9_writes_123 (lv_at hl 3 rfl) ?_
        refine lv_iadd hx hb dX9_writes_125 ?_
        obtain ⟨g_15, hf⟩ := gd_some hf
        refine r_ai (n := 1440) hx hb hK hp 23 52 rfl rfl rfl g_15 dX9_writes_126 ?_
        obtain ⟨st_16, hc_17, hf⟩ := bnv_some hf
        refine r_cv hp hA (va_runV (As := [.int l3, .int (gF st 52 ((160 * (l3 + 1)) + l6).toNatClampNeg)]) (rest := []) ⟨hx, hb, hml, hown, hts⟩ (c_X9_lays l dC dI h0 ar ca l3 (gF st 52 ((160 * (l3 + 1)) + l6).toNatClampNeg) _ _ hc_17 _) (cwV 2 hts gq_X9_writes_X9_lays_320 rfl rfl rfl (by decide +kernel) ⟨Nat.le_of_ble_eq_true rfl, Nat.le_of_ble_eq_true rfl⟩) ⟨Pr.blind _, va_recv hK hp.1 (ci := 11) (q0 := 0) rfl rfl, r_pre hp hK hN hZ hA⟩ rfl rfl hl.1 rfl (lv_room (Nat.le_of_ble_eq_true rfl)) dX9_writes_127 ⟨Nat.le_of_ble_eq_true rfl, Nat.le_of_ble_eq_true rfl⟩) (fun H locs hp => ?_)
        obtain ⟨v_19, ev_19, hf⟩ := nam_some hf
        refine lv_iinc (v := v_19) (lv' := [(6, .int v_19), (0, .ref h0), (3, .int l3), (4, .int l4)]) hx hb dX9_writes_130 hl (k := 3) rfl ev_19.symm (by decide) rfl (fun ls hl => ?_)
        refine lv_goto (tgt := 97) hx hb dX9_writes_133 (by decide) ?_
        exact ih97 (l3, l4, v_19, st_16) _ _ _ ⟨hf, hp, (lv_sub hl [1, 2, 3, 0] rfl)⟩
    refine W_blk (fun (u : Int32 × Int32 × RS) H locs ls => match u with | (l3, s0, st) => x9_writes_53 (x9_writes_20 n20) l3 s0 st = some st' ∧ Rp (dC, dI) h0 ar ca A s.heap st H locs ∧ lv_has ls 9 [(0, .ref h0), (3, .int l3)]) (fun (u : Int32 × Int32 × RS) ls => match u with | (l3, s0, st) => F0 m 53 ls [.int s0]) ?_ (fun J53 => ?_)
    · intro u H locs ls hu
      obtain ⟨l3, s0, st⟩ := u
      obtain ⟨hf, hp, hl⟩ := hu
      show W p l e _ s m _ below meth c _ _ _ _ _ (F0 m 53 ls [.int s0])
      unfold x9_writes_53 at hf
      refine lv_istore (lv' := [(4, .int s0), (0, .ref h0), (3, .int l3)]) hx hb dX9_writes_53 hl (by decide) rfl (fun ls hl => ?_)
      refine lv_iload hx hb dX9_writes_55 (lv_at hl 0 rfl) ?_
      refine lv_if_ne (tgt := 63) hx hb dX9_writes_57 (by decide) (fun c_20 => ?_) (fun c_20 => ?_)
      · have hf := pif_f c_20 hf
        obtain ⟨v_21, ev_21, hf⟩ := nam_some hf
        refine lv_iinc (v := v_21) (lv' := [(3, .int v_21), (4, .int s0), (0, .ref h0)]) hx hb dX9_writes_63 hl (k := 2) rfl ev_21.symm (by decide) rfl (fun ls hl => ?_)
        refine lv_aload_n hx hb dX9_writes_66 rfl (lv_at hl 2 rfl) ?_
        refine lv_iload_n hx hb dX9_writes_67 rfl (lv_at hl 0 rfl) ?_
        refine lv_aload_n hx hb dX9_writes_68 rfl (lv_at hl 2 rfl) ?_
        refine r_ga hx hb hts iRX9 hown hK hp 54 (by decide) (by decide) (hts (.fieldLink RX9 120 "RecordBenchModel" "levelKey" "[I") (by decide +kernel)) dX9_writes_69 ?_
        refine lv_iload_n hx hb dX9_writes_72 rfl (lv_at hl 0 rfl) ?_
        refine lv_iconst (v := 1) hx hb dX9_writes_73 (by decide) ?_
        refine lv_iadd hx hb dX9_writes_74 ?_
        obtain ⟨g_22, hf⟩ := gd_some hf
        refine r_ai (n := 9) hx hb hK hp 25 54 rfl rfl rfl g_22 dX9_writes_75 ?_
        refine lv_i2l (v := (gF st 54 (v_21 + 1).toNatClampNeg).toInt64) hx hb dX9_writes_76 rfl ?_
        obtain ⟨st_23, hc_24, hf⟩ := bnv_some hf
        refine r_cv hp hA (va_runV (As := [.int v_21, .long ((gF st 54 (v_21 + 1).toNatClampNeg).toInt64)]) (rest := []) ⟨hx, hb, hml, hown, hts⟩ (c_X9_laysVarint l dC dI h0 ar ca v_21 ((gF st 54 (v_21 + 1).toNatClampNeg).toInt64) _ _ hc_24 _) (cwV 2 hts gq_X9_writes_X9_laysVarint_323 rfl rfl rfl (by decide +kernel) ⟨Nat.le_of_ble_eq_true rfl, Nat.le_of_ble_eq_true rfl⟩) ⟨Pr.blind _, va_recv hK hp.1 (ci := 11) (q0 := 0) rfl rfl, r_pre hp hK hN hZ hA⟩ rfl rfl hl.1 rfl (lv_room (Nat.le_of_ble_eq_true rfl)) dX9_writes_77 ⟨Nat.le_of_ble_eq_true rfl, Nat.le_of_ble_eq_true rfl⟩) (fun H locs hp => ?_)
        refine lv_aload_n hx hb dX9_writes_80 rfl (lv_at hl 2 rfl) ?_
        refine lv_iload_n hx hb dX9_writes_81 rfl (lv_at hl 0 rfl) ?_
        refine lv_aload_n hx hb dX9_writes_82 rfl (lv_at hl 2 rfl) ?_
        refine r_ga hx hb hts iRX9 hown hK hp 53 (by decide) (by decide) (hts (.fieldLink RX9 117 "RecordBenchModel" "laidLong" "[I") (by decide +kernel)) dX9_writes_83 ?_
        refine lv_iload_n hx hb dX9_writes_86 rfl (lv_at hl 0 rfl) ?_
        refine lv_iconst (v := 1) hx hb dX9_writes_87 (by decide) ?_
        refine lv_iadd hx hb dX9_writes_88 ?_
        obtain ⟨g_26, hf⟩ := gd_some hf
        refine r_ai (n := 9) hx hb hK hp 24 53 rfl rfl rfl g_26 dX9_writes_89 ?_
        refine lv_i2l (v := (gF st_23 53 (v_21 + 1).toNatClampNeg).toInt64) hx hb dX9_writes_90 rfl ?_
        obtain ⟨st_27, hc_28, hf⟩ := bnv_some hf
        refine r_cv hp hA (va_runV (As := [.int v_21, .long ((gF st_23 53 (v_21 + 1).toNatClampNeg).toInt64)]) (rest := []) ⟨hx, hb, hml, hown, hts⟩ (c_X9_laysVarint l dC dI h0 ar ca v_21 ((gF st_23 53 (v_21 + 1).toNatClampNeg).toInt64) _ _ hc_28 _) (cwV 2 hts gq_X9_writes_X9_laysVarint_323 rfl rfl rfl (by decide +kernel) ⟨Nat.le_of_ble_eq_true rfl, Nat.le_of_ble_eq_true rfl⟩) ⟨Pr.blind _, va_recv hK hp.1 (ci := 11) (q0 := 0) rfl rfl, r_pre hp hK hN hZ hA⟩ rfl rfl hl.1 rfl (lv_room (Nat.le_of_ble_eq_true rfl)) dX9_writes_91 ⟨Nat.le_of_ble_eq_true rfl, Nat.le_of_ble_eq_true rfl⟩) (fun H locs hp => ?_)
        refine lv_iconst (v := 0) hx hb dX9_writes_94 (by decide) ?_
        refine lv_istore (lv' := [(6, .int 0), (3, .int v_21), (4, .int s0), (0, .ref h0)]) hx hb dX9_writes_95 hl (by decide) rfl (fun ls hl => ?_)
        exact J97 fuel (v_21, s0, 0, st_27) _ _ _ ⟨hf, hp, (lv_sub hl [3, 1, 2, 0] rfl)⟩
      · have hf := pif_t c_20 hf
        refine lv_goto (tgt := 20) hx hb dX9_writes_60 (by decide) ?_
        exact ih20 (l3, s0, st) _ _ _ ⟨hf, hp, (lv_sub hl [1, 2, 0] rfl)⟩
    rw [x9_writes_20_s] at hf
    refine lv_iload hx hb dX9_writes_20 (lv_at hl 2 rfl) ?_
    refine lv_if_eq (tgt := 394) hx hb dX9_writes_22 (by decide) (fun c_30 => ?_) (fun c_30 => ?_)
    · have hf := pif_t c_30 hf
      have e2 := Option.some.inj hf
      exact W.vret hx hb hr (fun t ht hW => ⟨⟨(), rfl, trivial, Rp.end e2 hp hK ht hW⟩, hp.2.2.F ht⟩) hp.2.2.2.2 dX9_writes_394
    · have hf := pif_f c_30 hf
      refine lv_aload_n hx hb dX9_writes_25 rfl (lv_at hl 0 rfl) ?_
      refine r_ga hx hb hts iRX9 hown hK hp 48 (by decide) (by decide) (hts (.fieldLink RX9 102 "RecordBenchModel" "pileAt" "[I") (by decide +kernel)) dX9_writes_26 ?_
      refine lv_iload_n hx hb dX9_writes_29 rfl (lv_at hl 1 rfl) ?_
      obtain ⟨g_31, hf⟩ := gd_some hf
      refine r_ai (n := 9) hx hb hK hp 19 48 rfl rfl rfl g_31 dX9_writes_30 ?_
      obtain ⟨v_32, ev_32, hf⟩ := nam_some hf
      refine W_toi (y := v_32) ev_32.symm ?_
      refine lv_istore (lv' := [(5, .int v_32), (0, .ref h0), (3, .int l3), (4, .int l4)]) hx hb dX9_writes_31 hl (by decide) rfl (fun ls hl => ?_)
      refine lv_iload hx hb dX9_writes_33 (lv_at hl 0 rfl) ?_
      refine lv_aload_n hx hb dX9_writes_35 rfl (lv_at hl 1 rfl) ?_
      refine r_ga hx hb hts iRX9 hown hK hp 49 (by decide) (by decide) (hts (.fieldLink RX9 105 "RecordBenchModel" "pileEnd" "[I") (by decide +kernel)) dX9_writes_36 ?_
      refine lv_iload_n hx hb dX9_writes_39 rfl (lv_at hl 2 rfl) ?_
      obtain ⟨g_33, hf⟩ := gd_some hf
      refine r_ai (n := 9) hx hb hK hp 20 49 rfl rfl rfl g_33 dX9_writes_40 ?_
      refine lv_icmp_ne (tgt := 139) hx hb dX9_writes_41 (by decide) (fun c_34 => ?_) (fun c_34 => ?_)
      · have hf := pif_f c_34 hf
        refine lv_aload_n hx hb dX9_writes_139 rfl (lv_at hl 1 rfl) ?_
        refine r_ga hx hb hts iRX9 hown hK hp 47 (by decide) (by decide) (hts (.fieldLink RX9 99 "RecordBenchModel" "pileMake" "[I") (by decide +kernel)) dX9_writes_140 ?_
        refine lv_iload_n hx hb dX9_writes_143 rfl (lv_at hl 2 rfl) ?_
        obtain ⟨g_35, hf⟩ := gd_some hf
        refine r_ai (n := 9) hx hb hK hp 18 47 rfl rfl rfl g_35 dX9_writes_144 ?_
        obtain ⟨v_36, ev_36, hf⟩ := nam_some hf
        refine W_toi (y := v_36) ev_36.symm ?_
        refine lv_istore (lv' := [(6, .int v_36), (5, .int v_32), (0, .ref h0), (3, .int l3), (4, .int l4)]) hx hb dX9_writes_145 hl (by decide) rfl (fun ls hl => ?_)
        refine lv_aload_n hx hb dX9_writes_147 rfl (lv_at hl 2 rfl) ?_
        refine lv_iload hx hb dX9_writes_148 (lv_at hl 1 rfl) ?_
        refine lv_aload_n hx hb dX9_writes_150 rfl (lv_at hl 2 rfl) ?_
        refine r_ga hx hb hts iRX9 hown hK hp 49 (by decide) (by decide) (hts (.fieldLink RX9 105 "RecordBenchModel" "pileEnd" "[I") (by decide +kernel)) dX9_writes_151 ?_
        refine lv_iload_n hx hb dX9_writes_154 rfl (lv_at hl 3 rfl) ?_
        obtain ⟨g_37, hf⟩ := gd_some hf
        refine r_ai (n := 9) hx hb hK hp 20 49 rfl rfl rfl g_37 dX9_writes_155 ?_
        refine lv_iload hx hb dX9_writes_156 (lv_at hl 0 rfl) ?_
        refine lv_iconst (v := 0) hx hb dX9_writes_158 (by decide) ?_
        refine lv_iconst (v := 0) hx hb dX9_writes_159 (by decide) ?_
        obtain ⟨st_38, hc_39, hf⟩ := bnv_some hf
        refine r_cv hp hA (va_runV (As := [.int v_32, .int (gF st 49 l3.toNatClampNeg), .int v_36, .int 0, .int 0]) (rest := []) ⟨hx, hb, hml, hown, hts⟩ (c_X9_piece l dC dI h0 ar ca v_32 (gF st 49 l3.toNatClampNeg) v_36 0 0 _ _ hc_39 _) (cwV 5 hts gq_X9_writes_X9_piece_298 rfl rfl rfl (by decide +kernel) ⟨Nat.le_of_ble_eq_true rfl, Nat.le_of_ble_eq_true rfl⟩) ⟨Pr.blind _, va_recv hK hp.1 (ci := 11) (q0 := 0) rfl rfl, r_pre hp hK hN hZ hA⟩ rfl rfl hl.1 rfl (lv_room (Nat.le_of_ble_eq_true rfl)) dX9_writes_160 ⟨Nat.le_of_ble_eq_true rfl, Nat.le_of_ble_eq_true rfl⟩) (fun H locs hp => ?_)
        refine lv_aload_n hx hb dX9_writes_163 rfl (lv_at hl 2 rfl) ?_
        refine r_ga hx hb hts iRX9 hown hK hp 48 (by decide) (by decide) (hts (.fieldLink RX9 102 "RecordBenchModel" "pileAt" "[I") (by decide +kernel)) dX9_writes_164 ?_
        refine lv_iload_n hx hb dX9_writes_167 rfl (lv_at hl 3 rfl) ?_
        refine lv_aload_n hx hb dX9_writes_168 rfl (lv_at hl 2 rfl) ?_
        refine r_gi hx hb hts iRX9 hown hK hp 36 (by decide) rfl (hts (.fieldLink RX9 278 "RecordBenchModel" "to" "I") (by decide +kernel)) dX9_writes_169 ?_
        obtain ⟨g_41, hf⟩ := gd_some hf
        refine r_si (n := 9) hx hb hK hp 19 48 rfl rfl rfl g_41 dX9_writes_172 (fun H locs hp => ?_)
        obtain ⟨st_42, est_42, hf⟩ := nam_some hf
        rw [← est_42] at hp
        refine lv_bipush (v := 31) hx hb dX9_writes_173 (by decide) ?_
        refine lv_iload hx hb dX9_writes_175 (lv_at hl 0 rfl) ?_
        refine lv_imul hx hb dX9_writes_177 ?_
        refine lv_aload_n hx hb dX9_writes_178 rfl (lv_at hl 2 rfl) ?_
        refine r_gi hx hb hts iRX9 hown hK hp 33 (by decide) rfl (hts (.fieldLink RX9 263 "RecordBenchModel" "number" "I") (by decide +kernel)) dX9_writes_179 ?_
        refine lv_iadd hx hb dX9_writes_182 ?_
        obtain ⟨v_43, ev_43, hf⟩ := nam_some hf
        refine W_toi (y := v_43) ev_43.symm ?_
        refine lv_istore (lv' := [(7, .int v_43), (6, .int v_36), (5, .int v_32), (0, .ref h0), (3, .int l3), (4, .int l4)]) hx hb dX9_writes_183 hl (by decide) rfl (fun ls hl => ?_)
        refine lv_aload_n hx hb dX9_writes_185 rfl (lv_at hl 3 rfl) ?_
        refine lv_iload hx hb dX9_writes_186 (lv_at hl 1 rfl) ?_
        refine lv_aload_n hx hb dX9_writes_188 rfl (lv_at hl 3 rfl) ?_
        refine r_gi hx hb hts iRX9 hown hK hp 33 (by decide) rfl (hts (.fieldLink RX9 263 "RecordBenchModel" "number" "I") (by decide +kernel)) dX9_writes_189 ?_
        obtain ⟨r_46, st_44, hc_45, hf⟩ := bnd_some hf
        refine r_ci hp hA (va_runV (As := [.int v_36, .int (gI st_42 33)]) (rest := []) ⟨hx, hb, hml, hown, hts⟩ (c_X9_has l dC dI h0 ar ca v_36 (gI st_42 33) _ _ _ hc_45 _) (cwV 2 hts gq_X9_writes_X9_has_246 rfl rfl rfl (by decide +kernel) ⟨Nat.le_of_ble_eq_true rfl, Nat.le_of_ble_eq_true rfl⟩) ⟨Pr.blind _, va_recv hK hp.1 (ci := 11) (q0 := 0) rfl rfl, r_pre hp hK hN hZ hA⟩ rfl rfl hl.1 rfl (lv_room (Nat.le_of_ble_eq_true rfl)) dX9_writes_192 ⟨Nat.le_of_ble_eq_true rfl, Nat.le_of_ble_eq_true rfl⟩) (fun H locs hp => ?_)
        refine lv_if_ne (tgt := 232) hx hb dX9_writes_195 (by decide) (fun c_47 => ?_) (fun c_47 => ?_)
        · have hf := pif_f c_47 hf
          refine lv_aload_n hx hb dX9_writes_232 rfl (lv_at hl 3 rfl) ?_
          refine r_ga hx hb hts iRX9 hown hK hp 1 (by decide) (by decide) (hts (.fieldLink RX9 13 "RecordBenchModel" "kind" "[I") (by decide +kernel)) dX9_writes_233 ?_
          refine lv_iload hx hb dX9_writes_236 (lv_at hl 0 rfl) ?_
          obtain ⟨g_48, hf⟩ := gd_some hf
          refine r_ai (n := 248) hx hb hK hp 1 1 rfl rfl rfl g_48 dX9_writes_238 ?_
          refine lv_bipush (v := 6) hx hb dX9_writes_239 (by decide) ?_
          refine lv_icmp_ne (tgt := 291) hx hb dX9_writes_241 (by decide) (fun c_49 => ?_) (fun c_49 => ?_)
          · have hf := pif_f c_49 hf
            refine lv_aload_n hx hb dX9_writes_291 rfl (lv_at hl 3 rfl) ?_
            refine r_ga hx hb hts iRX9 hown hK hp 1 (by decide) (by decide) (hts (.fieldLink RX9 13 "RecordBenchModel" "kind" "[I") (by decide +kernel)) dX9_writes_292 ?_
            refine lv_iload hx hb dX9_writes_295 (lv_at hl 0 rfl) ?_
            obtain ⟨g_50, hf⟩ := gd_some hf
            refine r_ai (n := 248) hx hb hK hp 1 1 rfl rfl rfl g_50 dX9_writes_297 ?_
            refine lv_iconst (v := 5) hx hb dX9_writes_298 (by decide) ?_
            refine lv_icmp_ne (tgt := 367) hx hb dX9_writes_299 (by decide) (fun c_51 => ?_) (fun c_51 => ?_)
            · have hf := pif_f c_51 hf
              refine lv_aload_n hx hb dX9_writes_367 rfl (lv_at hl 3 rfl) ?_
              refine lv_iload_n hx hb dX9_writes_368 rfl (lv_at hl 4 rfl) ?_
              refine lv_iconst (v := 2) hx hb dX9_writes_369 (by decide) ?_
              refine lv_aload_n hx hb dX9_writes_370 rfl (lv_at hl 3 rfl) ?_
              refine r_gi hx hb hts iRX9 hown hK hp 33 (by decide) rfl (hts (.fieldLink RX9 263 "RecordBenchModel" "number" "I") (by decide +kernel)) dX9_writes_371 ?_
              refine lv_imul hx hb dX9_writes_374 ?_
              refine lv_i2l (v := (2 * (gI st_44 33)).toInt64) hx hb dX9_writes_375 rfl ?_
              obtain ⟨st_52, hc_53, hf⟩ := bnv_some hf
              refine r_cv hp hA (va_runV (As := [.int l3, .long ((2 * (gI st_44 33)).toInt64)]) (rest := []) ⟨hx, hb, hml, hown, hts⟩ (c_X9_laysVarint l dC dI h0 ar ca l3 ((2 * (gI st_44 33)).toInt64) _ _ hc_53 _) (cwV 2 hts gq_X9_writes_X9_laysVarint_323 rfl rfl rfl (by decide +kernel) ⟨Nat.le_of_ble_eq_true rfl, Nat.le_of_ble_eq_true rfl⟩) ⟨Pr.blind _, va_recv hK hp.1 (ci := 11) (q0 := 0) rfl rfl, r_pre hp hK hN hZ hA⟩ rfl rfl hl.1 rfl (lv_room (Nat.le_of_ble_eq_true rfl)) dX9_writes_376 ⟨Nat.le_of_ble_eq_true rfl, Nat.le_of_ble_eq_true rfl⟩) (fun H locs hp => ?_)
              refine lv_aload_n hx hb dX9_writes_379 rfl (lv_at hl 3 rfl) ?_
              refine lv_iload_n hx hb dX9_writes_380 rfl (lv_at hl 4 rfl) ?_
              refine lv_aload_n hx hb dX9_writes_381 rfl (lv_at hl 3 rfl) ?_
              refine r_gj hx hb hts iRX9 hown hK hp 37 (by decide) rfl (hts (.fieldLink RX9 273 "RecordBenchModel" "value" "J") (by decide +kernel)) dX9_writes_382 ?_
              obtain ⟨r_57, st_55, hc_56, hf⟩ := bnd_some hf
              refine r_cl hp hA (va_runS (As := [.long (gJ st_52 37)]) (rest := [.int l3, .ref h0]) ⟨hx, hb, hml, hown, hts⟩ (c_X9_folded l dC dI h0 ar ca (gJ st_52 37) _ _ _ hc_56 _) (cwS 1 hts gq_X9_writes_X9_folded_327 rfl rfl rfl (by decide +kernel) ⟨Nat.le_of_ble_eq_true rfl, Nat.le_of_ble_eq_true rfl⟩) ⟨Pr.blind _, r_pre hp hK hN hZ hA⟩ rfl rfl hl.1 rfl (lv_room (Nat.le_of_ble_eq_true rfl)) dX9_writes_385 ⟨Nat.le_of_ble_eq_true rfl, Nat.le_of_ble_eq_true rfl⟩) (fun H locs hp => ?_)
              obtain ⟨st_58, hc_59, hf⟩ := bnv_some hf
              refine r_cv hp hA (va_runV (As := [.int l3, .long r_57]) (rest := []) ⟨hx, hb, hml, hown, hts⟩ (c_X9_laysVarint l dC dI h0 ar ca l3 r_57 _ _ hc_59 _) (cwV 2 hts gq_X9_writes_X9_laysVarint_323 rfl rfl rfl (by decide +kernel) ⟨Nat.le_of_ble_eq_true rfl, Nat.le_of_ble_eq_true rfl⟩) ⟨Pr.blind _, va_recv hK hp.1 (ci := 11) (q0 := 0) rfl rfl, r_pre hp hK hN hZ hA⟩ rfl rfl hl.1 rfl (lv_room (Nat.le_of_ble_eq_true rfl)) dX9_writes_388 ⟨Nat.le_of_ble_eq_true rfl, Nat.le_of_ble_eq_true rfl⟩) (fun H locs hp => ?_)
              refine lv_goto (tgt := 20) hx hb dX9_writes_391 (by decide) ?_
              exact ih20 (l3, l4, st_58) _ _ _ ⟨hf, hp, (lv_sub hl [3, 4, 5] rfl)⟩
            · have hf := pif_t c_51 hf
              refine lv_aload_n hx hb dX9_writes_302 rfl (lv_at hl 3 rfl) ?_
              refine lv_iload_n hx hb dX9_writes_303 rfl (lv_at hl 4 rfl) ?_
              refine lv_iconst (v := 2) hx hb dX9_writes_304 (by decide) ?_
              refine lv_aload_n hx hb dX9_writes_305 rfl (lv_at hl 3 rfl) ?_
              refine r_gi hx hb hts iRX9 hown hK hp 33 (by decide) rfl (hts (.fieldLink RX9 263 "RecordBenchModel" "number" "I") (by decide +kernel)) dX9_writes_306 ?_
              refine lv_imul hx hb dX9_writes_309 ?_
              refine lv_iconst (v := 1) hx hb dX9_writes_310 (by decide) ?_
              refine lv_iadd hx hb dX9_writes_311 ?_
              refine lv_i2l (v := ((2 * (gI st_44 33)) + 1).toInt64) hx hb dX9_writes_312 rfl ?_
              obtain ⟨st_61, hc_62, hf⟩ := bnv_some hf
              refine r_cv hp hA (va_runV (As := [.int l3, .long (((2 * (gI st_44 33)) + 1).toInt64)]) (rest := []) ⟨hx, hb, hml, hown, hts⟩ (c_X9_laysVarint l dC dI h0 ar ca l3 (((2 * (gI st_44 33)) + 1).toInt64) _ _ hc_62 _) (cwV 2 hts gq_X9_writes_X9_laysVarint_323 rfl rfl rfl (by decide +kernel) ⟨Nat.le_of_ble_eq_true rfl, Nat.le_of_ble_eq_true rfl⟩) ⟨Pr.blind _, va_recv hK hp.1 (ci := 11) (q0 := 0) rfl rfl, r_pre hp hK hN hZ hA⟩ rfl rfl hl.1 rfl (lv_room (Nat.le_of_ble_eq_true rfl)) dX9_writes_313 ⟨Nat.le_of_ble_eq_true rfl, Nat.le_of_ble_eq_true rfl⟩) (fun H locs hp => ?_)
              refine lv_aload_n hx hb dX9_writes_316 rfl (lv_at hl 3 rfl) ?_
              refine lv_iload_n hx hb dX9_writes_317 rfl (lv_at hl 4 rfl) ?_
              refine lv_aload_n hx hb dX9_writes_318 rfl (lv_at hl 3 rfl) ?_
              refine r_gi hx hb hts iRX9 hown hK hp 36 (by decide) rfl (hts (.fieldLink RX9 278 "RecordBenchModel" "to" "I") (by decide +kernel)) dX9_writes_319 ?_
              refine lv_aload_n hx hb dX9_writes_322 rfl (lv_at hl 3 rfl) ?_
              refine r_gi hx hb hts iRX9 hown hK hp 35 (by decide) rfl (hts (.fieldLink RX9 275 "RecordBenchModel" "from" "I") (by decide +kernel)) dX9_writes_323 ?_
              refine lv_isub hx hb dX9_writes_326 ?_
              refine lv_i2l (v := ((gI st_61 36) - (gI st_61 35)).toInt64) hx hb dX9_writes_327 rfl ?_
              obtain ⟨st_64, hc_65, hf⟩ := bnv_some hf
              refine r_cv hp hA (va_runV (As := [.int l3, .long (((gI st_61 36) - (gI st_61 35)).toInt64)]) (rest := []) ⟨hx, hb, hml, hown, hts⟩ (c_X9_laysVarint l dC dI h0 ar ca l3 (((gI st_61 36) - (gI st_61 35)).toInt64) _ _ hc_65 _) (cwV 2 hts gq_X9_writes_X9_laysVarint_323 rfl rfl rfl (by decide +kernel) ⟨Nat.le_of_ble_eq_true rfl, Nat.le_of_ble_eq_true rfl⟩) ⟨Pr.blind _, va_recv hK hp.1 (ci := 11) (q0 := 0) rfl rfl, r_pre hp hK hN hZ hA⟩ rfl rfl hl.1 rfl (lv_room (Nat.le_of_ble_eq_true rfl)) dX9_writes_328 ⟨Nat.le_of_ble_eq_true rfl, Nat.le_of_ble_eq_true rfl⟩) (fun H locs hp => ?_)
              refine lv_aload_n hx hb dX9_writes_331 rfl (lv_at hl 3 rfl) ?_
              refine r_gi hx hb hts iRX9 hown hK hp 35 (by decide) rfl (hts (.fieldLink RX9 275 "RecordBenchModel" "from" "I") (by decide +kernel)) dX9_writes_332 ?_
              obtain ⟨v_67, ev_67, hf⟩ := nam_some hf
              refine W_toi (y := v_67) ev_67.symm ?_
              refine lv_istore (lv' := [(8, .int v_67), (7, .int v_43), (6, .int v_36), (5, .int v_32), (0, .ref h0), (3, .int l3), (4, .int l4)]) hx hb dX9_writes_335 hl (by decide) rfl (fun ls hl => ?_)
              exact J337 fuel (l3, l4, v_67, st_64) _ _ _ ⟨hf, hp, (lv_sub hl [4, 5, 6, 0] rfl)⟩
          · have hf := pif_t c_49 hf
            obtain ⟨v_68, ev_68, hf⟩ := nam_some hf
            refine lv_iinc (v := v_68) (lv' := [(3, .int v_68), (7, .int v_43), (6, .int v_36), (5, .int v_32), (0, .ref h0), (4, .int l4)]) hx hb dX9_writes_244 hl (k := 4) rfl ev_68.symm (by decide) rfl (fun ls hl => ?_)
            refine lv_aload_n hx hb dX9_writes_247 rfl (lv_at hl 4 rfl) ?_
            refine lv_iload_n hx hb dX9_writes_248 rfl (lv_at hl 0 rfl) ?_
            refine lv_aload_n hx hb dX9_writes_249 rfl (lv_at hl 4 rfl) ?_
            refine r_ga hx hb hts iRX9 hown hK hp 3 (by decide) (by decide) (hts (.fieldLink RX9 20 "RecordBenchModel" "inner" "[I") (by decide +kernel)) dX9_writes_250 ?_
            refine lv_iload hx hb dX9_writes_253 (lv_at hl 1 rfl) ?_
            obtain ⟨g_69, hf⟩ := gd_some hf
            refine r_ai (n := 248) hx hb hK hp 3 3 rfl rfl rfl g_69 dX9_writes_255 ?_
            refine lv_aload_n hx hb dX9_writes_256 rfl (lv_at hl 4 rfl) ?_
            refine r_gi hx hb hts iRX9 hown hK hp 35 (by decide) rfl (hts (.fieldLink RX9 275 "RecordBenchModel" "from" "I") (by decide +kernel)) dX9_writes_257 ?_
            refine lv_aload_n hx hb dX9_writes_260 rfl (lv_at hl 4 rfl) ?_
            refine r_gi hx hb hts iRX9 hown hK hp 36 (by decide) rfl (hts (.fieldLink RX9 278 "RecordBenchModel" "to" "I") (by decide +kernel)) dX9_writes_261 ?_
            obtain ⟨st_70, hc_71, hf⟩ := bnv_some hf
            refine r_cv hp hA (va_runV (As := [.int v_68, .int (gF st_44 3 v_43.toNatClampNeg), .int (gI st_44 35), .int (gI st_44 36)]) (rest := []) ⟨hx, hb, hml, hown, hts⟩ (c_X9_opens l dC dI h0 ar ca v_68 (gF st_44 3 v_43.toNatClampNeg) (gI st_44 35) (gI st_44 36) _ _ hc_71 _) (cwV 4 hts gq_X9_writes_X9_opens_294 rfl rfl rfl (by decide +kernel) ⟨Nat.le_of_ble_eq_true rfl, Nat.le_of_ble_eq_true rfl⟩) ⟨Pr.blind _, va_recv hK hp.1 (ci := 11) (q0 := 0) rfl rfl, r_pre hp hK hN hZ hA⟩ rfl rfl hl.1 rfl (lv_room (Nat.le_of_ble_eq_true rfl)) dX9_writes_264 ⟨Nat.le_of_ble_eq_true rfl, Nat.le_of_ble_eq_true rfl⟩) (fun H locs hp => ?_)
            refine lv_aload_n hx hb dX9_writes_267 rfl (lv_at hl 4 rfl) ?_
            refine r_ga hx hb hts iRX9 hown hK hp 53 (by decide) (by decide) (hts (.fieldLink RX9 117 "RecordBenchModel" "laidLong" "[I") (by decide +kernel)) dX9_writes_268 ?_
            refine lv_iload_n hx hb dX9_writes_271 rfl (lv_at hl 0 rfl) ?_
            refine lv_iconst (v := 0) hx hb dX9_writes_272 (by decide) ?_
            obtain ⟨g_73, hf⟩ := gd_some hf
            refine r_si (n := 9) hx hb hK hp 24 53 rfl rfl rfl g_73 dX9_writes_273 (fun H locs hp => ?_)
            obtain ⟨st_74, est_74, hf⟩ := nam_some hf
            rw [← est_74] at hp
            refine lv_aload_n hx hb dX9_writes_274 rfl (lv_at hl 4 rfl) ?_
            refine r_ga hx hb hts iRX9 hown hK hp 54 (by decide) (by decide) (hts (.fieldLink RX9 120 "RecordBenchModel" "levelKey" "[I") (by decide +kernel)) dX9_writes_275 ?_
            refine lv_iload_n hx hb dX9_writes_278 rfl (lv_at hl 0 rfl) ?_
            refine lv_iconst (v := 2) hx hb dX9_writes_279 (by decide) ?_
            refine lv_aload_n hx hb dX9_writes_280 rfl (lv_at hl 4 rfl) ?_
            refine r_gi hx hb hts iRX9 hown hK hp 33 (by decide) rfl (hts (.fieldLink RX9 263 "RecordBenchModel" "number" "I") (by decide +kernel)) dX9_writes_281 ?_
            refine lv_imul hx hb dX9_writes_284 ?_
            refine lv_iconst (v := 1) hx hb dX9_writes_285 (by decide) ?_
            refine lv_iadd hx hb dX9_writes_286 ?_
            obtain ⟨g_75, hf⟩ := gd_some hf
            refine r_si (n := 9) hx hb hK hp 25 54 rfl rfl rfl g_75 dX9_writes_287 (fun H locs hp => ?_)
            obtain ⟨st_76, est_76, hf⟩ := nam_some hf
            rw [← est_76] at hp
            refine lv_goto (tgt := 391) hx hb dX9_writes_288 (by decide) ?_
            refine lv_goto (tgt := 20) hx hb dX9_writes_391 (by decide) ?_
            exact ih20 (v_68, l4, st_76) _ _ _ ⟨hf, hp, (lv_sub hl [4, 0, 5] rfl)⟩
        · have hf := pif_t c_47 hf
          refine lv_iload hx hb dX9_writes_198 (lv_at hl 2 rfl) ?_
          refine lv_istore (lv' := [(8, .int v_32), (7, .int v_43), (6, .int v_36), (5, .int v_32), (0, .ref h0), (3, .int l3), (4, .int l4)]) hx hb dX9_writes_200 hl (by decide) rfl (fun ls hl => ?_)
          exact J202 fuel (l3, l4, v_32, st_44) _ _ _ ⟨hf, hp, (lv_sub hl [4, 5, 6, 0] rfl)⟩
      · have hf := pif_t c_34 hf
        refine lv_iload_n hx hb dX9_writes_44 rfl (lv_at hl 2 rfl) ?_
        refine lv_if_le (tgt := 52) hx hb dX9_writes_45 (by decide) (fun c_77 => ?_) (fun c_77 => ?_)
        · have hf := pif_t c_77 hf
          refine lv_iconst (v := 0) hx hb dX9_writes_52 (by decide) ?_
          exact J53 (l3, 0, st) _ _ _ ⟨hf, hp, (lv_sub hl [1, 2] rfl)⟩
        · have hf := pif_f c_77 hf
          refine lv_iconst (v := 1) hx hb dX9_writes_48 (by decide) ?_
          refine lv_goto (tgt := 53) hx hb dX9_writes_49 (by decide) ?_
          exact J53 (l3, 1, st) _ _ _ ⟨hf, hp, (lv_sub hl [1, 2] rfl)⟩
  unfold x9_writes at hf
  refine lv_iconst (v := 0) hx hb dX9_writes_0 (by decide) ?_
  refine lv_istore_n (lv' := [(3, .int 0), (0, .ref h0), (1, .int p0), (2, .int p1)]) hx hb dX9_writes_1 rfl hl (by decide) rfl (fun ls hl => ?_)
  refine lv_aload_n hx hb dX9_writes_2 rfl (lv_at hl 1 rfl) ?_
  refine lv_iconst (v := 0) hx hb dX9_writes_3 (by decide) ?_
  refine lv_iload_n hx hb dX9_writes_4 rfl (lv_at hl 3 rfl) ?_
  refine lv_iconst (v := 0) hx hb dX9_writes_5 (by decide) ?_
  refine lv_iload_n hx hb dX9_writes_6 rfl (lv_at hl 2 rfl) ?_
  obtain ⟨st_78, hc_79, hf⟩ := bnv_some hf
  refine r_cv hp hA (va_runV (As := [.int 0, .int p1, .int 0, .int p0]) (rest := []) ⟨hx, hb, hml, hown, hts⟩ (c_X9_opens l dC dI h0 ar ca 0 p1 0 p0 _ _ hc_79 _) (cwV 4 hts gq_X9_writes_X9_opens_294 rfl rfl rfl (by decide +kernel) ⟨Nat.le_of_ble_eq_true rfl, Nat.le_of_ble_eq_true rfl⟩) ⟨Pr.blind _, va_recv hK hp.1 (ci := 11) (q0 := 0) rfl rfl, r_pre hp hK hN hZ hA⟩ rfl rfl hl.1 rfl (lv_room (Nat.le_of_ble_eq_true rfl)) dX9_writes_7 ⟨Nat.le_of_ble_eq_true rfl, Nat.le_of_ble_eq_true rfl⟩) (fun H locs hp => ?_)
  refine lv_aload_n hx hb dX9_writes_10 rfl (lv_at hl 1 rfl) ?_
  refine r_ga hx hb hts iRX9 hown hK hp 53 (by decide) (by decide) (hts (.fieldLink RX9 117 "RecordBenchModel" "laidLong" "[I") (by decide +kernel)) dX9_writes_11 ?_
  refine lv_iconst (v := 0) hx hb dX9_writes_14 (by decide) ?_
  refine lv_iconst (v := 0) hx hb dX9_writes_15 (by decide) ?_
  obtain ⟨g_81, hf⟩ := gd_some hf
  refine r_si (n := 9) hx hb hK hp 24 53 rfl rfl rfl g_81 dX9_writes_16 (fun H locs hp => ?_)
  obtain ⟨st_82, est_82, hf⟩ := nam_some hf
  rw [← est_82] at hp
  refine lv_iconst (v := 1) hx hb dX9_writes_17 (by decide) ?_
  refine lv_istore (lv' := [(4, .int 1), (3, .int 0), (0, .ref h0), (1, .int p0), (2, .int p1)]) hx hb dX9_writes_18 hl (by decide) rfl (fun ls hl => ?_)
  exact J20 fuel (0, 1, st_82) _ _ _ ⟨hf, hp, (lv_sub hl [2, 1, 0] rfl)⟩
noncomputable def x9_comes_2  : Nat → Int32 → Int32 → RS → Option (RS)
  | 0 => fun _ _ _ => none
  | n + 1 => fun l1 l2 st => gd (vp_in (0 : Int32) 9) (pif ((gF st 53 (0 : Int32).toNatClampNeg) ≤ l2) (gd (vp_in (0 : Int32) 9) (gd (vp_in l1 4) (nam (sF st 29 (upd (gF st 29) l1.toNatClampNeg (gF st 53 (0 : Int32).toNatClampNeg))) (fun st_5 => some st_5)))) (gd (vp_in l2 1440) (gd (vp_in ((120 * l1) + l2) 480) (nam (sF st 28 (upd (gF st 28) ((120 * l1) + l2).toNatClampNeg (gF st 52 l2.toNatClampNeg))) (fun st_8 => nam (l2 + 1) (fun v_9 => (x9_comes_2 n) l1 v_9 st_8))))))
theorem x9_comes_2_z  (l1 : Int32) (l2 : Int32) (st : RS) : x9_comes_2  0 l1 l2 st = none := rfl
theorem x9_comes_2_s  (n : Nat) (l1 : Int32) (l2 : Int32) (st : RS) : x9_comes_2  (n + 1) l1 l2 st = gd (vp_in (0 : Int32) 9) (pif ((gF st 53 (0 : Int32).toNatClampNeg) ≤ l2) (gd (vp_in (0 : Int32) 9) (gd (vp_in l1 4) (nam (sF st 29 (upd (gF st 29) l1.toNatClampNeg (gF st 53 (0 : Int32).toNatClampNeg))) (fun st_5 => some st_5)))) (gd (vp_in l2 1440) (gd (vp_in ((120 * l1) + l2) 480) (nam (sF st 28 (upd (gF st 28) ((120 * l1) + l2).toNatClampNeg (gF st 52 l2.toNatClampNeg))) (fun st_8 => nam (l2 + 1) (fun v_9 => (x9_comes_2 n) l1 v_9 st_8)))))) := rfl
noncomputable def x9_comes (p0 : Int32) (st : RS) : Option (RS) := x9_comes_2  fuel p0 0 st
def wq_X9_comes : List Cond := .code yX9_comes cX9_comes 3 none :: (([.fieldLink RX9 117 "RecordBenchModel" "laidLong" "[I", .fieldLink RX9 78 "RecordBenchModel" "long0" "[I", .fieldLink RX9 75 "RecordBenchModel" "bytes" "[I", .fieldLink RX9 114 "RecordBenchModel" "laid" "[I"] : List Cond) ++ wsX90)
set_option maxHeartbeats 4000000 in
set_option maxRecDepth 100000 in
theorem c_X9_comes (l : Launch) (dC : Nat → ClassId) (dI : Nat → Nat → Nat) (h0 : Nat) (ar : Nat → Nat) (ca : Nat → ClassId) (p0 : Int32) (st st' : RS) (hf : x9_comes p0 st = some st') (sz : Nat) : Met l yX9_comes wq_X9_comes ({ frames := 0, cells := 0, slots := 0, locals := 0 }) (va_Pc [.ref h0, .int p0] (Pr (dC, dI) (rT ca) [] (RW h0 ar ca st) sz)) (va_Qv (fun (_ : Unit) => True) (Bq (dC, dI) (fun _ => RW h0 ar ca st') (fun _ => []) (va_A (RW h0 ar ca st) sz)) (va_A (RW h0 ar ca st) sz)) 0 0 (va_A (RW h0 ar ca st) sz) := by
  refine Met.ofW (cc := cX9_comes) (maxL := 3) (ret := none) (by decide) rfl ?_
  intro p e s m args below meth c s₁ B hml hv
  obtain ⟨rfl, hsz, hP, hK, hD0, hN, hZ, hR⟩ := hv
  have hx := B.exec
  have hb := B.bytes
  have hr := B.returns
  have hts := atoms_spec (ws := wq_X9_comes) B.pre
  have hown : s.vm.findClass RX9 = some m.cls := findClass_of_methodNamed B.named
  have iRX9 : ∀ w ∈ u_ws RX9 TX9 60, w ∈ wq_X9_comes := fun w h => List.mem_cons_of_mem _ (List.mem_append_right _ h)
  subst hsz
  have hp : Rp (dC, dI) h0 ar ca (va_A (RW h0 ar ca st) s.heap.size) s.heap st s.heap [] := ⟨hP, hD0.self, va_S.rf⟩
  generalize hAe : va_A (RW h0 ar ca st) s.heap.size = A at hp hZ ⊢
  have hA : ∀ q : Nat, s.heap.size ≤ q → A q := fun q h => by rw [← hAe]; exact Or.inr h
  have hl := lv_entry ([.ref h0, .int p0]) (n := 3) (Nat.le_of_ble_eq_true rfl)
  rw [lg_entry_eq]
  generalize (lg_sl ([.ref h0, .int p0]) ++ List.replicate (3 - (lg_sl ([.ref h0, .int p0])).length) Slot.unset).toArray = ls at hl ⊢
  have hl : lv_has ls 3 [(0, .ref h0), (1, .int p0)] := hl
  refine W_lp (fun n2 (u : Int32 × Int32 × RS) H locs ls => match u with | (l1, l2, st) => x9_comes_2 n2 l1 l2 st = some st' ∧ Rp (dC, dI) h0 ar ca A s.heap st H locs ∧ lv_has ls 3 [(0, .ref h0), (1, .int l1), (2, .int l2)]) (fun (u : Int32 × Int32 × RS) ls => match u with | (l1, l2, st) => F0 m 2 ls []) ?_ ?_ (fun J2 => ?_)
  · intro u H locs ls hu
    obtain ⟨l1, l2, st⟩ := u
    obtain ⟨hf, hp, hl⟩ := hu
    rw [x9_comes_2_z] at hf
    cases hf
  · intro n2 ih2 u H locs ls hu
    obtain ⟨l1, l2, st⟩ := u
    obtain ⟨hf, hp, hl⟩ := hu
    show W p l e _ s m _ below meth c _ _ _ _ _ (F0 m 2 ls [])
    rw [x9_comes_2_s] at hf
    refine lv_iload_n hx hb dX9_comes_2 rfl (lv_at hl 2 rfl) ?_
    refine lv_aload_n hx hb dX9_comes_3 rfl (lv_at hl 0 rfl) ?_
    refine r_ga hx hb hts iRX9 hown hK hp 53 (by decide) (by decide) (hts (.fieldLink RX9 117 "RecordBenchModel" "laidLong" "[I") (by decide +kernel)) dX9_comes_4 ?_
    refine lv_iconst (v := 0) hx hb dX9_comes_7 (by decide) ?_
    obtain ⟨g_1, hf⟩ := gd_some hf
    refine r_ai (n := 9) hx hb hK hp 24 53 rfl rfl rfl g_1 dX9_comes_8 ?_
    refine lv_icmp_ge (tgt := 35) hx hb dX9_comes_9 (by decide) (fun c_2 => ?_) (fun c_2 => ?_)
    · have hf := pif_t c_2 hf
      refine lv_aload_n hx hb dX9_comes_35 rfl (lv_at hl 0 rfl) ?_
      refine r_ga hx hb hts iRX9 hown hK hp 29 (by decide) (by decide) (hts (.fieldLink RX9 78 "RecordBenchModel" "long0" "[I") (by decide +kernel)) dX9_comes_36 ?_
      refine lv_iload_n hx hb dX9_comes_39 rfl (lv_at hl 1 rfl) ?_
      refine lv_aload_n hx hb dX9_comes_40 rfl (lv_at hl 0 rfl) ?_
      refine r_ga hx hb hts iRX9 hown hK hp 53 (by decide) (by decide) (hts (.fieldLink RX9 117 "RecordBenchModel" "laidLong" "[I") (by decide +kernel)) dX9_comes_41 ?_
      refine lv_iconst (v := 0) hx hb dX9_comes_44 (by decide) ?_
      obtain ⟨g_3, hf⟩ := gd_some hf
      refine r_ai (n := 9) hx hb hK hp 24 53 rfl rfl rfl g_3 dX9_comes_45 ?_
      obtain ⟨g_4, hf⟩ := gd_some hf
      refine r_si (n := 4) hx hb hK hp 11 29 rfl rfl rfl g_4 dX9_comes_46 (fun H locs hp => ?_)
      obtain ⟨st_5, est_5, hf⟩ := nam_some hf
      rw [← est_5] at hp
      have e2 := Option.some.inj hf
      exact W.vret hx hb hr (fun t ht hW => ⟨⟨(), rfl, trivial, Rp.end e2 hp hK ht hW⟩, hp.2.2.F ht⟩) hp.2.2.2.2 dX9_comes_47
    · have hf := pif_f c_2 hf
      refine lv_aload_n hx hb dX9_comes_12 rfl (lv_at hl 0 rfl) ?_
      refine r_ga hx hb hts iRX9 hown hK hp 28 (by decide) (by decide) (hts (.fieldLink RX9 75 "RecordBenchModel" "bytes" "[I") (by decide +kernel)) dX9_comes_13 ?_
      refine lv_bipush (v := 120) hx hb dX9_comes_16 (by decide) ?_
      refine lv_iload_n hx hb dX9_comes_18 rfl (lv_at hl 1 rfl) ?_
      refine lv_imul hx hb dX9_comes_19 ?_
      refine lv_iload_n hx hb dX9_comes_20 rfl (lv_at hl 2 rfl) ?_
      refine lv_iadd hx hb dX9_comes_21 ?_
      refine lv_aload_n hx hb dX9_comes_22 rfl (lv_at hl 0 rfl) ?_
      refine r_ga hx hb hts iRX9 hown hK hp 52 (by decide) (by decide) (hts (.fieldLink RX9 114 "RecordBenchModel" "laid" "[I") (by decide +kernel)) dX9_comes_23 ?_
      refine lv_iload_n hx hb dX9_comes_26 rfl (lv_at hl 2 rfl) ?_
      obtain ⟨g_6, hf⟩ := gd_some hf
      refine r_ai (n := 1440) hx hb hK hp 23 52 rfl rfl rfl g_6 dX9_comes_27 ?_
      obtain ⟨g_7, hf⟩ := gd_some hf
      refine r_si (n := 480) hx hb hK hp 10 28 rfl rfl rfl g_7 dX9_comes_28 (fun H locs hp => ?_)
      obtain ⟨st_8, est_8, hf⟩ := nam_some hf
      rw [← est_8] at hp
      obtain ⟨v_9, ev_9, hf⟩ := nam_some hf
      refine lv_iinc (v := v_9) (lv' := [(2, .int v_9), (0, .ref h0), (1, .int l1)]) hx hb dX9_comes_29 hl (k := 2) rfl ev_9.symm (by decide) rfl (fun ls hl => ?_)
      refine lv_goto (tgt := 2) hx hb dX9_comes_32 (by decide) ?_
      exact ih2 (l1, v_9, st_8) _ _ _ ⟨hf, hp, (lv_sub hl [1, 2, 0] rfl)⟩
  unfold x9_comes at hf
  refine lv_iconst (v := 0) hx hb dX9_comes_0 (by decide) ?_
  refine lv_istore_n (lv' := [(2, .int 0), (0, .ref h0), (1, .int p0)]) hx hb dX9_comes_1 rfl hl (by decide) rfl (fun ls hl => ?_)
  exact J2 fuel (p0, 0, st) _ _ _ ⟨hf, hp, (lv_sub hl [1, 2, 0] rfl)⟩
noncomputable def x9_write (p0 : Int32) (p1 : Int32) (p2 : Int32) (st : RS) : Option (Int32 × RS) := bnd (x9_isRecord p0 st) (fun r_3 st_1 => pif (r_3 = 0) (some (((-1) : Int32), st_1)) (bnd (x9_isRecord p2 st_1) (fun r_7 st_5 => pif (r_7 = 0) (some (((-1) : Int32), st_5)) (bnd (x9_isMake p1 st_5) (fun r_11 st_9 => pif (r_11 = 0) (some (((-1) : Int32), st_9)) (bnd (x9_isRead p0 p1 st_9) (fun r_15 st_13 => pif (r_15 = 0) (some (((-2) : Int32), st_13)) (gd (vp_in p0 4) (bnv (x9_writes (gF st_13 29 p0.toNatClampNeg) p1 st_13) (fun st_18 => bnv (x9_comes p2 st_18) (fun st_21 => gd (vp_in p2 4) (some (gF st_21 29 p2.toNatClampNeg, st_21)))))))))))))
def wq_X9_write : List Cond := .code yX9_write cX9_write 4 (some .int) :: (([.fieldLink RX9 78 "RecordBenchModel" "long0" "[I", .methodLink RX9 249 yX9_isRecord, .static yX9_isRecord, .initialized RX9, .methodLink RX9 239 yX9_isMake, .instanceMethod yX9_isMake, .selects RX9 yX9_isMake yX9_isMake, .methodLink RX9 308 yX9_isRead, .instanceMethod yX9_isRead, .selects RX9 yX9_isRead yX9_isRead, .methodLink RX9 331 yX9_writes, .instanceMethod yX9_writes, .selects RX9 yX9_writes yX9_writes, .methodLink RX9 334 yX9_comes, .instanceMethod yX9_comes, .selects RX9 yX9_comes yX9_comes, .code yX9_isRecord cX9_isRecord 1 (some .boolean), .code yX9_isMake cX9_isMake 2 (some .boolean), .fieldLink RX9 7 "RecordBenchModel" "told" "[Z", .code yX9_isRead cX9_isRead 3 (some .boolean), .methodLink RX9 302 yX9_loads, .instanceMethod yX9_loads, .selects RX9 yX9_loads yX9_loads, .methodLink RX9 305 yX9_reads, .instanceMethod yX9_reads, .selects RX9 yX9_reads yX9_reads, .code yX9_loads cX9_loads 3 none, .fieldLink RX9 81 "RecordBenchModel" "row" "[I", .fieldLink RX9 75 "RecordBenchModel" "bytes" "[I", .code yX9_reads cX9_reads 7 (some .boolean), .fieldLink RX9 285 "RecordBenchModel" "readFault" "I", .fieldLink RX9 288 "RecordBenchModel" "readPlace" "I", .fieldLink RX9 291 "RecordBenchModel" "pieces" "I", .fieldLink RX9 102 "RecordBenchModel" "pileAt" "[I", .fieldLink RX9 105 "RecordBenchModel" "pileEnd" "[I", .fieldLink RX9 99 "RecordBenchModel" "pileMake" "[I", .fieldLink RX9 108 "RecordBenchModel" "pileLast" "[I", .fieldLink RX9 111 "RecordBenchModel" "pileGroups" "[I", .fieldLink RX9 260 "RecordBenchModel" "pieceFault" "I", .fieldLink RX9 84 "RecordBenchModel" "pieceNumber" "[I", .fieldLink RX9 263 "RecordBenchModel" "number" "I", .fieldLink RX9 87 "RecordBenchModel" "pieceBegin" "[I", .fieldLink RX9 90 "RecordBenchModel" "pieceFrom" "[I", .fieldLink RX9 275 "RecordBenchModel" "from" "I", .fieldLink RX9 93 "RecordBenchModel" "pieceTo" "[I", .fieldLink RX9 278 "RecordBenchModel" "to" "I", .fieldLink RX9 96 "RecordBenchModel" "pieceValue" "[J", .fieldLink RX9 273 "RecordBenchModel" "value" "J", .fieldLink RX9 17 "RecordBenchModel" "group" "[I", .fieldLink RX9 13 "RecordBenchModel" "kind" "[I", .fieldLink RX9 20 "RecordBenchModel" "inner" "[I", .methodLink RX9 294 yX9_opens, .instanceMethod yX9_opens, .selects RX9 yX9_opens yX9_opens, .methodLink RX9 246 yX9_has, .instanceMethod yX9_has, .selects RX9 yX9_has yX9_has, .methodLink RX9 298 yX9_piece, .instanceMethod yX9_piece, .selects RX9 yX9_piece yX9_piece, .code yX9_opens cX9_opens 5 none, .code yX9_has cX9_has 3 (some .boolean), .fieldLink RX9 36 "RecordBenchModel" "isThere" "[Z", .code yX9_piece cX9_piece 14 none, .fieldLink RX9 252 "RecordBenchModel" "varint" "J", .fieldLink RX9 267 "RecordBenchModel" "isLong" "Z", .constantLong RX9 271 (30), .fieldLink RX9 257 "RecordBenchModel" "varintEnd" "I", .methodLink RX9 281 yX9_isText, .static yX9_isText, .methodLink RX9 229 yX9_isOf, .static yX9_isOf, .methodLink RX9 265 yX9_varint, .instanceMethod yX9_varint, .selects RX9 yX9_varint yX9_varint, .code yX9_isText cX9_isText 4 (some .boolean), .code yX9_isOf cX9_isOf 3 (some .boolean), .constantLong RX9 219 (-2147483648), .constantLong RX9 221 (2147483647), .constantLong RX9 215 (-128), .constantLong RX9 217 (127), .code yX9_varint cX9_varint 6 (some .boolean), .constantLong RX9 255 (128), .code yX9_writes cX9_writes 9 none, .fieldLink RX9 117 "RecordBenchModel" "laidLong" "[I", .fieldLink RX9 120 "RecordBenchModel" "levelKey" "[I", .fieldLink RX9 114 "RecordBenchModel" "laid" "[I", .methodLink RX9 320 yX9_lays, .instanceMethod yX9_lays, .selects RX9 yX9_lays yX9_lays, .methodLink RX9 323 yX9_laysVarint, .instanceMethod yX9_laysVarint, .selects RX9 yX9_laysVarint yX9_laysVarint, .methodLink RX9 327 yX9_folded, .static yX9_folded, .code yX9_lays cX9_lays 3 none, .code yX9_laysVarint cX9_laysVarint 6 none, .code yX9_folded cX9_folded 2 (some .long), .code yX9_comes cX9_comes 3 none] : List Cond) ++ wsX90)
set_option maxRecDepth 20000 in
theorem gq_X9_write_X9_isRecord_249 : GoodIn wq_X9_write (wsS RX9 249 yX9_isRecord wq_X9_isRecord) := goodIn_app (goodIn_r _ [2, 3, 4] rfl rfl) (goodIn_r _ [17] rfl rfl)
theorem gs_wq_X9_write_wsX90 : GoodIn wq_X9_write wsX90 := fun w h => ⟨List.mem_cons_of_mem _ (List.mem_append_right _ h), (gt_wsX90 w h).2⟩
set_option maxRecDepth 20000 in
theorem gq_X9_write_X9_isMake_239 : GoodIn wq_X9_write (wsV RX9 239 RX9 yX9_isMake wq_X9_isMake) := goodIn_app (goodIn_r _ [5, 6, 7, 4] rfl rfl) (goodIn_ca (goodIn_r _ [18, 19] rfl rfl) gs_wq_X9_write_wsX90)
set_option maxRecDepth 20000 in
theorem gq_X9_write_X9_isRead_308 : GoodIn wq_X9_write (wsV RX9 308 RX9 yX9_isRead wq_X9_isRead) := goodIn_app (goodIn_r _ [8, 9, 10, 4] rfl rfl) (goodIn_ca (goodIn_r _ [20, 1, 21, 22, 23, 4, 24, 25, 26, 27, 28, 29, 30, 31, 32, 33, 34, 35, 36, 37, 38, 39, 40, 41, 42, 43, 44, 45, 46, 47, 48, 49, 50, 51, 52, 53, 54, 55, 56, 57, 58, 59, 60, 61, 62, 63, 64, 65, 66, 67, 68, 69, 70, 71, 72, 73, 74, 75, 76, 77, 78, 79, 80, 81, 82, 83] rfl rfl) gs_wq_X9_write_wsX90)
set_option maxRecDepth 20000 in
theorem gq_X9_write_X9_writes_331 : GoodIn wq_X9_write (wsV RX9 331 RX9 yX9_writes wq_X9_writes) := goodIn_app (goodIn_r _ [11, 12, 13, 4] rfl rfl) (goodIn_ca (goodIn_r _ [84, 85, 34, 35, 36, 46, 41, 50, 48, 44, 51, 86, 87, 28, 88, 89, 90, 4, 91, 92, 93, 58, 59, 60, 55, 56, 57, 94, 95, 52, 53, 54, 96, 97, 81, 64, 39, 65, 66, 67, 68, 49, 69, 70, 71, 72, 73, 74, 75, 76, 77, 78, 79, 80, 62, 63, 82, 83, 98, 61, 37, 38] rfl rfl) gs_wq_X9_write_wsX90)
set_option maxRecDepth 20000 in
theorem gq_X9_write_X9_comes_334 : GoodIn wq_X9_write (wsV RX9 334 RX9 yX9_comes wq_X9_comes) := goodIn_app (goodIn_r _ [14, 15, 16, 4] rfl rfl) (goodIn_ca (goodIn_r _ [99, 85, 1, 29, 87] rfl rfl) gs_wq_X9_write_wsX90)
set_option maxHeartbeats 4000000 in
set_option maxRecDepth 100000 in
theorem c_X9_write (l : Launch) (dC : Nat → ClassId) (dI : Nat → Nat → Nat) (h0 : Nat) (ar : Nat → Nat) (ca : Nat → ClassId) (p0 : Int32) (p1 : Int32) (p2 : Int32) (st st' : RS) (r : Int32) (hf : x9_write p0 p1 p2 st = some (r, st')) (sz : Nat) : Met l yX9_write wq_X9_write ({ frames := 4, cells := 0, slots := 0, locals := 122 }) (va_Pc [.ref h0, .int p0, .int p1, .int p2] (Pr (dC, dI) (rT ca) [] (RW h0 ar ca st) sz)) (va_Qi (fun r' (_ : Unit) => r' = r) (Bq (dC, dI) (fun _ => RW h0 ar ca st') (fun _ => []) (va_A (RW h0 ar ca st) sz)) (va_A (RW h0 ar ca st) sz)) 0 0 (va_A (RW h0 ar ca st) sz) := by
  refine Met.ofW (cc := cX9_write) (maxL := 4) (ret := (some .int)) (by decide) rfl ?_
  intro p e s m args below meth c s₁ B hml hv
  obtain ⟨rfl, hsz, hP, hK, hD0, hN, hZ, hR⟩ := hv
  have hx := B.exec
  have hb := B.bytes
  have hr := B.returns
  have hts := atoms_spec (ws := wq_X9_write) B.pre
  have hown : s.vm.findClass RX9 = some m.cls := findClass_of_methodNamed B.named
  have iRX9 : ∀ w ∈ u_ws RX9 TX9 60, w ∈ wq_X9_write := fun w h => List.mem_cons_of_mem _ (List.mem_append_right _ h)
  subst hsz
  have hp : Rp (dC, dI) h0 ar ca (va_A (RW h0 ar ca st) s.heap.size) s.heap st s.heap [] := ⟨hP, hD0.self, va_S.rf⟩
  generalize hAe : va_A (RW h0 ar ca st) s.heap.size = A at hp hZ ⊢
  have hA : ∀ q : Nat, s.heap.size ≤ q → A q := fun q h => by rw [← hAe]; exact Or.inr h
  have hl := lv_entry ([.ref h0, .int p0, .int p1, .int p2]) (n := 4) (Nat.le_of_ble_eq_true rfl)
  rw [lg_entry_eq]
  generalize (lg_sl ([.ref h0, .int p0, .int p1, .int p2]) ++ List.replicate (4 - (lg_sl ([.ref h0, .int p0, .int p1, .int p2])).length) Slot.unset).toArray = ls at hl ⊢
  have hl : lv_has ls 4 [(0, .ref h0), (1, .int p0), (2, .int p1), (3, .int p2)] := hl
  unfold x9_write at hf
  refine lv_iload_n hx hb dX9_write_0 rfl (lv_at hl 1 rfl) ?_
  obtain ⟨r_3, st_1, hc_2, hf⟩ := bnd_some hf
  refine r_ci hp hA (va_runS (As := [.int p0]) (rest := []) ⟨hx, hb, hml, hown, hts⟩ (c_X9_isRecord l dC dI h0 ar ca p0 _ _ _ hc_2 _) (cwS 1 hts gq_X9_write_X9_isRecord_249 rfl rfl rfl (by decide +kernel) ⟨Nat.le_of_ble_eq_true rfl, Nat.le_of_ble_eq_true rfl⟩) ⟨Pr.blind _, r_pre hp hK hN hZ hA⟩ rfl rfl hl.1 rfl (lv_room (Nat.le_of_ble_eq_true rfl)) dX9_write_1 ⟨Nat.le_of_ble_eq_true rfl, Nat.le_of_ble_eq_true rfl⟩) (fun H locs hp => ?_)
  refine lv_if_eq (tgt := 22) hx hb dX9_write_4 (by decide) (fun c_4 => ?_) (fun c_4 => ?_)
  · have hf := pif_t c_4 hf
    refine lv_iconst (v := (-1)) hx hb dX9_write_22 (by decide) ?_
    obtain ⟨e1, e2⟩ := pr_some hf
    exact W.iret (v := (-1)) hx hb hr (fun t ht hW => ⟨⟨(-1), (), rfl, e1, Rp.end e2 hp hK ht hW⟩, hp.2.2.F ht⟩) hp.2.2.2.2 dX9_write_23
  · have hf := pif_f c_4 hf
    refine lv_iload_n hx hb dX9_write_7 rfl (lv_at hl 3 rfl) ?_
    obtain ⟨r_7, st_5, hc_6, hf⟩ := bnd_some hf
    refine r_ci hp hA (va_runS (As := [.int p2]) (rest := []) ⟨hx, hb, hml, hown, hts⟩ (c_X9_isRecord l dC dI h0 ar ca p2 _ _ _ hc_6 _) (cwS 1 hts gq_X9_write_X9_isRecord_249 rfl rfl rfl (by decide +kernel) ⟨Nat.le_of_ble_eq_true rfl, Nat.le_of_ble_eq_true rfl⟩) ⟨Pr.blind _, r_pre hp hK hN hZ hA⟩ rfl rfl hl.1 rfl (lv_room (Nat.le_of_ble_eq_true rfl)) dX9_write_8 ⟨Nat.le_of_ble_eq_true rfl, Nat.le_of_ble_eq_true rfl⟩) (fun H locs hp => ?_)
    refine lv_if_eq (tgt := 22) hx hb dX9_write_11 (by decide) (fun c_8 => ?_) (fun c_8 => ?_)
    · have hf := pif_t c_8 hf
      refine lv_iconst (v := (-1)) hx hb dX9_write_22 (by decide) ?_
      obtain ⟨e1, e2⟩ := pr_some hf
      exact W.iret (v := (-1)) hx hb hr (fun t ht hW => ⟨⟨(-1), (), rfl, e1, Rp.end e2 hp hK ht hW⟩, hp.2.2.F ht⟩) hp.2.2.2.2 dX9_write_23
    · have hf := pif_f c_8 hf
      refine lv_aload_n hx hb dX9_write_14 rfl (lv_at hl 0 rfl) ?_
      refine lv_iload_n hx hb dX9_write_15 rfl (lv_at hl 2 rfl) ?_
      obtain ⟨r_11, st_9, hc_10, hf⟩ := bnd_some hf
      refine r_ci hp hA (va_runV (As := [.int p1]) (rest := []) ⟨hx, hb, hml, hown, hts⟩ (c_X9_isMake l dC dI h0 ar ca p1 _ _ _ hc_10 _) (cwV 1 hts gq_X9_write_X9_isMake_239 rfl rfl rfl (by decide +kernel) ⟨Nat.le_of_ble_eq_true rfl, Nat.le_of_ble_eq_true rfl⟩) ⟨Pr.blind _, va_recv hK hp.1 (ci := 11) (q0 := 0) rfl rfl, r_pre hp hK hN hZ hA⟩ rfl rfl hl.1 rfl (lv_room (Nat.le_of_ble_eq_true rfl)) dX9_write_16 ⟨Nat.le_of_ble_eq_true rfl, Nat.le_of_ble_eq_true rfl⟩) (fun H locs hp => ?_)
      refine lv_if_ne (tgt := 24) hx hb dX9_write_19 (by decide) (fun c_12 => ?_) (fun c_12 => ?_)
      · have hf := pif_f c_12 hf
        refine lv_aload_n hx hb dX9_write_24 rfl (lv_at hl 0 rfl) ?_
        refine lv_iload_n hx hb dX9_write_25 rfl (lv_at hl 1 rfl) ?_
        refine lv_iload_n hx hb dX9_write_26 rfl (lv_at hl 2 rfl) ?_
        obtain ⟨r_15, st_13, hc_14, hf⟩ := bnd_some hf
        refine r_ci hp hA (va_runV (As := [.int p0, .int p1]) (rest := []) ⟨hx, hb, hml, hown, hts⟩ (c_X9_isRead l dC dI h0 ar ca p0 p1 _ _ _ hc_14 _) (cwV 2 hts gq_X9_write_X9_isRead_308 rfl rfl rfl (by decide +kernel) ⟨Nat.le_of_ble_eq_true rfl, Nat.le_of_ble_eq_true rfl⟩) ⟨Pr.blind _, va_recv hK hp.1 (ci := 11) (q0 := 0) rfl rfl, r_pre hp hK hN hZ hA⟩ rfl rfl hl.1 rfl (lv_room (Nat.le_of_ble_eq_true rfl)) dX9_write_27 ⟨Nat.le_of_ble_eq_true rfl, Nat.le_of_ble_eq_true rfl⟩) (fun H locs hp => ?_)
        refine lv_if_ne (tgt := 36) hx hb dX9_write_30 (by decide) (fun c_16 => ?_) (fun c_16 => ?_)
        · have hf := pif_f c_16 hf
          refine lv_aload_n hx hb dX9_write_36 rfl (lv_at hl 0 rfl) ?_
          refine lv_aload_n hx hb dX9_write_37 rfl (lv_at hl 0 rfl) ?_
          refine r_ga hx hb hts iRX9 hown hK hp 29 (by decide) (by decide) (hts (.fieldLink RX9 78 "RecordBenchModel" "long0" "[I") (by decide +kernel)) dX9_write_38 ?_
          refine lv_iload_n hx hb dX9_write_41 rfl (lv_at hl 1 rfl) ?_
          obtain ⟨g_17, hf⟩ := gd_some hf
          refine r_ai (n := 4) hx hb hK hp 11 29 rfl rfl rfl g_17 dX9_write_42 ?_
          refine lv_iload_n hx hb dX9_write_43 rfl (lv_at hl 2 rfl) ?_
          obtain ⟨st_18, hc_19, hf⟩ := bnv_some hf
          refine r_cv hp hA (va_runV (As := [.int (gF st_13 29 p0.toNatClampNeg), .int p1]) (rest := []) ⟨hx, hb, hml, hown, hts⟩ (c_X9_writes l dC dI h0 ar ca (gF st_13 29 p0.toNatClampNeg) p1 _ _ hc_19 _) (cwV 2 hts gq_X9_write_X9_writes_331 rfl rfl rfl (by decide +kernel) ⟨Nat.le_of_ble_eq_true rfl, Nat.le_of_ble_eq_true rfl⟩) ⟨Pr.blind _, va_recv hK hp.1 (ci := 11) (q0 := 0) rfl rfl, r_pre hp hK hN hZ hA⟩ rfl rfl hl.1 rfl (lv_room (Nat.le_of_ble_eq_true rfl)) dX9_write_44 ⟨Nat.le_of_ble_eq_true rfl, Nat.le_of_ble_eq_true rfl⟩) (fun H locs hp => ?_)
          refine lv_aload_n hx hb dX9_write_47 rfl (lv_at hl 0 rfl) ?_
          refine lv_iload_n hx hb dX9_write_48 rfl (lv_at hl 3 rfl) ?_
          obtain ⟨st_21, hc_22, hf⟩ := bnv_some hf
          refine r_cv hp hA (va_runV (As := [.int p2]) (rest := []) ⟨hx, hb, hml, hown, hts⟩ (c_X9_comes l dC dI h0 ar ca p2 _ _ hc_22 _) (cwV 1 hts gq_X9_write_X9_comes_334 rfl rfl rfl (by decide +kernel) ⟨Nat.le_of_ble_eq_true rfl, Nat.le_of_ble_eq_true rfl⟩) ⟨Pr.blind _, va_recv hK hp.1 (ci := 11) (q0 := 0) rfl rfl, r_pre hp hK hN hZ hA⟩ rfl rfl hl.1 rfl (lv_room (Nat.le_of_ble_eq_true rfl)) dX9_write_49 ⟨Nat.le_of_ble_eq_true rfl, Nat.le_of_ble_eq_true rfl⟩) (fun H locs hp => ?_)
          refine lv_aload_n hx hb dX9_write_52 rfl (lv_at hl 0 rfl) ?_
          refine r_ga hx hb hts iRX9 hown hK hp 29 (by decide) (by decide) (hts (.fieldLink RX9 78 "RecordBenchModel" "long0" "[I") (by decide +kernel)) dX9_write_53 ?_
          refine lv_iload_n hx hb dX9_write_56 rfl (lv_at hl 3 rfl) ?_
          obtain ⟨g_24, hf⟩ := gd_some hf
          refine r_ai (n := 4) hx hb hK hp 11 29 rfl rfl rfl g_24 dX9_write_57 ?_
          obtain ⟨e1, e2⟩ := pr_some hf
          exact W.iret (v := gF st_21 29 p2.toNatClampNeg) hx hb hr (fun t ht hW => ⟨⟨gF st_21 29 p2.toNatClampNeg, (), rfl, e1, Rp.end e2 hp hK ht hW⟩, hp.2.2.F ht⟩) hp.2.2.2.2 dX9_write_58
        · have hf := pif_t c_16 hf
          refine lv_bipush (v := (-2)) hx hb dX9_write_33 (by decide) ?_
          obtain ⟨e1, e2⟩ := pr_some hf
          exact W.iret (v := (-2)) hx hb hr (fun t ht hW => ⟨⟨(-2), (), rfl, e1, Rp.end e2 hp hK ht hW⟩, hp.2.2.F ht⟩) hp.2.2.2.2 dX9_write_35
      · have hf := pif_t c_12 hf
        refine lv_iconst (v := (-1)) hx hb dX9_write_22 (by decide) ?_
        obtain ⟨e1, e2⟩ := pr_some hf
        exact W.iret (v := (-1)) hx hb hr (fun t ht hW => ⟨⟨(-1), (), rfl, e1, Rp.end e2 hp hK ht hW⟩, hp.2.2.F ht⟩) hp.2.2.2.2 dX9_write_23
noncomputable def x9_keepsFresh_12  : Nat → Int32 → RS → Option (RS)
  | 0 => fun _ _ => none
  | n + 1 => fun l1 st => pif ((gI st 56) ≤ l1) (some st) (gd (vp_in l1 1440) (gd (vp_in l1 200) (nam (sF st 55 (upd (gF st 55) l1.toNatClampNeg (gF st 52 l1.toNatClampNeg))) (fun st_4 => nam (l1 + 1) (fun v_5 => (x9_keepsFresh_12 n) v_5 st_4)))))
theorem x9_keepsFresh_12_z  (l1 : Int32) (st : RS) : x9_keepsFresh_12  0 l1 st = none := rfl
theorem x9_keepsFresh_12_s  (n : Nat) (l1 : Int32) (st : RS) : x9_keepsFresh_12  (n + 1) l1 st = pif ((gI st 56) ≤ l1) (some st) (gd (vp_in l1 1440) (gd (vp_in l1 200) (nam (sF st 55 (upd (gF st 55) l1.toNatClampNeg (gF st 52 l1.toNatClampNeg))) (fun st_4 => nam (l1 + 1) (fun v_5 => (x9_keepsFresh_12 n) v_5 st_4))))) := rfl
noncomputable def x9_keepsFresh  (st : RS) : Option (RS) := gd (vp_in (0 : Int32) 9) (nam (sI st 56 (gF st 53 (0 : Int32).toNatClampNeg)) (fun st_7 => x9_keepsFresh_12  fuel 0 st_7))
def wq_X9_keepsFresh : List Cond := .code yX9_keepsFresh cX9_keepsFresh 2 none :: (([.fieldLink RX9 117 "RecordBenchModel" "laidLong" "[I", .fieldLink RX9 337 "RecordBenchModel" "freshLong" "I", .fieldLink RX9 123 "RecordBenchModel" "fresh" "[I", .fieldLink RX9 114 "RecordBenchModel" "laid" "[I"] : List Cond) ++ wsX90)
set_option maxHeartbeats 4000000 in
set_option maxRecDepth 100000 in
theorem c_X9_keepsFresh (l : Launch) (dC : Nat → ClassId) (dI : Nat → Nat → Nat) (h0 : Nat) (ar : Nat → Nat) (ca : Nat → ClassId)  (st st' : RS) (hf : x9_keepsFresh  st = some st') (sz : Nat) : Met l yX9_keepsFresh wq_X9_keepsFresh ({ frames := 0, cells := 0, slots := 0, locals := 0 }) (va_Pc [.ref h0] (Pr (dC, dI) (rT ca) [] (RW h0 ar ca st) sz)) (va_Qv (fun (_ : Unit) => True) (Bq (dC, dI) (fun _ => RW h0 ar ca st') (fun _ => []) (va_A (RW h0 ar ca st) sz)) (va_A (RW h0 ar ca st) sz)) 0 0 (va_A (RW h0 ar ca st) sz) := by
  refine Met.ofW (cc := cX9_keepsFresh) (maxL := 2) (ret := none) (by decide) rfl ?_
  intro p e s m args below meth c s₁ B hml hv
  obtain ⟨rfl, hsz, hP, hK, hD0, hN, hZ, hR⟩ := hv
  have hx := B.exec
  have hb := B.bytes
  have hr := B.returns
  have hts := atoms_spec (ws := wq_X9_keepsFresh) B.pre
  have hown : s.vm.findClass RX9 = some m.cls := findClass_of_methodNamed B.named
  have iRX9 : ∀ w ∈ u_ws RX9 TX9 60, w ∈ wq_X9_keepsFresh := fun w h => List.mem_cons_of_mem _ (List.mem_append_right _ h)
  subst hsz
  have hp : Rp (dC, dI) h0 ar ca (va_A (RW h0 ar ca st) s.heap.size) s.heap st s.heap [] := ⟨hP, hD0.self, va_S.rf⟩
  generalize hAe : va_A (RW h0 ar ca st) s.heap.size = A at hp hZ ⊢
  have hA : ∀ q : Nat, s.heap.size ≤ q → A q := fun q h => by rw [← hAe]; exact Or.inr h
  have hl := lv_entry ([.ref h0]) (n := 2) (Nat.le_of_ble_eq_true rfl)
  rw [lg_entry_eq]
  generalize (lg_sl ([.ref h0]) ++ List.replicate (2 - (lg_sl ([.ref h0])).length) Slot.unset).toArray = ls at hl ⊢
  have hl : lv_has ls 2 [(0, .ref h0)] := hl
  refine W_lp (fun n12 (u : Int32 × RS) H locs ls => match u with | (l1, st) => x9_keepsFresh_12 n12 l1 st = some st' ∧ Rp (dC, dI) h0 ar ca A s.heap st H locs ∧ lv_has ls 2 [(0, .ref h0), (1, .int l1)]) (fun (u : Int32 × RS) ls => match u with | (l1, st) => F0 m 12 ls []) ?_ ?_ (fun J12 => ?_)
  · intro u H locs ls hu
    obtain ⟨l1, st⟩ := u
    obtain ⟨hf, hp, hl⟩ := hu
    rw [x9_keepsFresh_12_z] at hf
    cases hf
  · intro n12 ih12 u H locs ls hu
    obtain ⟨l1, st⟩ := u
    obtain ⟨hf, hp, hl⟩ := hu
    show W p l e _ s m _ below meth c _ _ _ _ _ (F0 m 12 ls [])
    rw [x9_keepsFresh_12_s] at hf
    refine lv_iload_n hx hb dX9_keepsFresh_12 rfl (lv_at hl 1 rfl) ?_
    refine lv_aload_n hx hb dX9_keepsFresh_13 rfl (lv_at hl 0 rfl) ?_
    refine r_gi hx hb hts iRX9 hown hK hp 56 (by decide) rfl (hts (.fieldLink RX9 337 "RecordBenchModel" "freshLong" "I") (by decide +kernel)) dX9_keepsFresh_14 ?_
    refine lv_icmp_ge (tgt := 38) hx hb dX9_keepsFresh_17 (by decide) (fun c_1 => ?_) (fun c_1 => ?_)
    · have hf := pif_t c_1 hf
      have e2 := Option.some.inj hf
      exact W.vret hx hb hr (fun t ht hW => ⟨⟨(), rfl, trivial, Rp.end e2 hp hK ht hW⟩, hp.2.2.F ht⟩) hp.2.2.2.2 dX9_keepsFresh_38
    · have hf := pif_f c_1 hf
      refine lv_aload_n hx hb dX9_keepsFresh_20 rfl (lv_at hl 0 rfl) ?_
      refine r_ga hx hb hts iRX9 hown hK hp 55 (by decide) (by decide) (hts (.fieldLink RX9 123 "RecordBenchModel" "fresh" "[I") (by decide +kernel)) dX9_keepsFresh_21 ?_
      refine lv_iload_n hx hb dX9_keepsFresh_24 rfl (lv_at hl 1 rfl) ?_
      refine lv_aload_n hx hb dX9_keepsFresh_25 rfl (lv_at hl 0 rfl) ?_
      refine r_ga hx hb hts iRX9 hown hK hp 52 (by decide) (by decide) (hts (.fieldLink RX9 114 "RecordBenchModel" "laid" "[I") (by decide +kernel)) dX9_keepsFresh_26 ?_
      refine lv_iload_n hx hb dX9_keepsFresh_29 rfl (lv_at hl 1 rfl) ?_
      obtain ⟨g_2, hf⟩ := gd_some hf
      refine r_ai (n := 1440) hx hb hK hp 23 52 rfl rfl rfl g_2 dX9_keepsFresh_30 ?_
      obtain ⟨g_3, hf⟩ := gd_some hf
      refine r_si (n := 200) hx hb hK hp 26 55 rfl rfl rfl g_3 dX9_keepsFresh_31 (fun H locs hp => ?_)
      obtain ⟨st_4, est_4, hf⟩ := nam_some hf
      rw [← est_4] at hp
      obtain ⟨v_5, ev_5, hf⟩ := nam_some hf
      refine lv_iinc (v := v_5) (lv' := [(1, .int v_5), (0, .ref h0)]) hx hb dX9_keepsFresh_32 hl (k := 1) rfl ev_5.symm (by decide) rfl (fun ls hl => ?_)
      refine lv_goto (tgt := 12) hx hb dX9_keepsFresh_35 (by decide) ?_
      exact ih12 (v_5, st_4) _ _ _ ⟨hf, hp, (lv_sub hl [1, 0] rfl)⟩
  unfold x9_keepsFresh at hf
  refine lv_aload_n hx hb dX9_keepsFresh_0 rfl (lv_at hl 0 rfl) ?_
  refine lv_aload_n hx hb dX9_keepsFresh_1 rfl (lv_at hl 0 rfl) ?_
  refine r_ga hx hb hts iRX9 hown hK hp 53 (by decide) (by decide) (hts (.fieldLink RX9 117 "RecordBenchModel" "laidLong" "[I") (by decide +kernel)) dX9_keepsFresh_2 ?_
  refine lv_iconst (v := 0) hx hb dX9_keepsFresh_5 (by decide) ?_
  obtain ⟨g_6, hf⟩ := gd_some hf
  refine r_ai (n := 9) hx hb hK hp 24 53 rfl rfl rfl g_6 dX9_keepsFresh_6 ?_
  refine r_pi (v := gF st 53 (0 : Int32).toNatClampNeg) (ty := .int) hx hb hts iRX9 hown hK hp 56 (by decide) rfl (hts (.fieldLink RX9 337 "RecordBenchModel" "freshLong" "I") (by decide +kernel)) rfl (by decide +kernel) rfl rfl dX9_keepsFresh_7 (fun H locs hp => ?_)
  obtain ⟨st_7, est_7, hf⟩ := nam_some hf
  rw [← est_7] at hp
  refine lv_iconst (v := 0) hx hb dX9_keepsFresh_10 (by decide) ?_
  refine lv_istore_n (lv' := [(1, .int 0), (0, .ref h0)]) hx hb dX9_keepsFresh_11 rfl hl (by decide) rfl (fun ls hl => ?_)
  exact J12 fuel (0, st_7) _ _ _ ⟨hf, hp, (lv_sub hl [1, 0] rfl)⟩
noncomputable def x9_puts_284  (l1 : Int32) (st : RS) : Option (Int32 × RS) := gd (vp_in (0 : Int32) 9) (pif ((gF st 53 (0 : Int32).toNatClampNeg) ≤ 120) (bnv (x9_comes l1 st) (fun st_3 => gd (vp_in l1 4) (some (gF st_3 29 l1.toNatClampNeg, st_3)))) (some (((-4) : Int32), st)))
noncomputable def x9_puts_257  : Nat → Int32 → Int32 → RS → Option (Int32 × RS)
  | 0 => fun _ _ _ => none
  | n + 1 => fun l1 l8 st => pif ((gI st 56) ≤ l8) (x9_puts_284  l1 st) (gd (vp_in l8 200) (bnv (x9_lays 0 (gF st 55 l8.toNatClampNeg) st) (fun st_9 => nam (l8 + 1) (fun v_12 => (x9_puts_257 n) l1 v_12 st_9))))
theorem x9_puts_257_z  (l1 : Int32) (l8 : Int32) (st : RS) : x9_puts_257  0 l1 l8 st = none := rfl
theorem x9_puts_257_s  (n : Nat) (l1 : Int32) (l8 : Int32) (st : RS) : x9_puts_257  (n + 1) l1 l8 st = pif ((gI st 56) ≤ l8) (x9_puts_284  l1 st) (gd (vp_in l8 200) (bnv (x9_lays 0 (gF st 55 l8.toNatClampNeg) st) (fun st_9 => nam (l8 + 1) (fun v_12 => (x9_puts_257 n) l1 v_12 st_9)))) := rfl
noncomputable def x9_puts_242 (k80 : Int32 → Int32 → Int32 → Int32 → Int32 → Int32 → Int32 → RS → Option (Int32 × RS)) (l1 : Int32) (l2 : Int32) (l3 : Int32) (l4 : Int32) (l5 : Int32) (l6 : Int32) (l8 : Int32) (st : RS) : Option (Int32 × RS) := k80 l1 l2 l3 l4 l5 l6 l8 st
noncomputable def x9_puts_217 (k80 : Int32 → Int32 → Int32 → Int32 → Int32 → Int32 → Int32 → RS → Option (Int32 × RS)) : Nat → Int32 → Int32 → Int32 → Int32 → Int32 → Int32 → Int32 → Int32 → RS → Option (Int32 × RS)
  | 0 => fun _ _ _ _ _ _ _ _ _ => none
  | n + 1 => fun l1 l2 l3 l4 l5 l6 l8 l10 st => pif (l8 ≤ l10) (x9_puts_242 k80 l1 l2 l3 l4 l5 l6 l8 st) (gd (vp_in l10 160) (bnv (x9_lays 0 (gF st 30 l10.toNatClampNeg) st) (fun st_15 => nam (l10 + 1) (fun v_18 => (x9_puts_217 k80 n) l1 l2 l3 l4 l5 l6 l8 v_18 st_15))))
theorem x9_puts_217_z (k80 : Int32 → Int32 → Int32 → Int32 → Int32 → Int32 → Int32 → RS → Option (Int32 × RS)) (l1 : Int32) (l2 : Int32) (l3 : Int32) (l4 : Int32) (l5 : Int32) (l6 : Int32) (l8 : Int32) (l10 : Int32) (st : RS) : x9_puts_217 k80 0 l1 l2 l3 l4 l5 l6 l8 l10 st = none := rfl
theorem x9_puts_217_s (k80 : Int32 → Int32 → Int32 → Int32 → Int32 → Int32 → Int32 → RS → Option (Int32 × RS)) (n : Nat) (l1 : Int32) (l2 : Int32) (l3 : Int32) (l4 : Int32) (l5 : Int32) (l6 : Int32) (l8 : Int32) (l10 : Int32) (st : RS) : x9_puts_217 k80 (n + 1) l1 l2 l3 l4 l5 l6 l8 l10 st = pif (l8 ≤ l10) (x9_puts_242 k80 l1 l2 l3 l4 l5 l6 l8 st) (gd (vp_in l10 160) (bnv (x9_lays 0 (gF st 30 l10.toNatClampNeg) st) (fun st_15 => nam (l10 + 1) (fun v_18 => (x9_puts_217 k80 n) l1 l2 l3 l4 l5 l6 l8 v_18 st_15)))) := rfl
noncomputable def x9_puts_200 (k80 : Int32 → Int32 → Int32 → Int32 → Int32 → Int32 → Int32 → RS → Option (Int32 × RS)) (l1 : Int32) (l2 : Int32) (l3 : Int32) (l4 : Int32) (l5 : Int32) (l6 : Int32) (l7 : Int32) (l8 : Int32) (l9 : Int32) (st : RS) : Option (Int32 × RS) := pif ((gI st 33) = l3) (x9_puts_242 k80 l1 l2 l3 l4 l5 l6 l8 st) (pif (l9 = 0) (x9_puts_217 k80 fuel l1 l2 l3 l4 l5 l6 l8 l7 st) (x9_puts_242 k80 l1 l2 l3 l4 l5 l6 l8 st))
noncomputable def x9_puts_170 (k80 : Int32 → Int32 → Int32 → Int32 → Int32 → Int32 → Int32 → RS → Option (Int32 × RS)) : Nat → Int32 → Int32 → Int32 → Int32 → Int32 → Int32 → Int32 → Int32 → Int32 → RS → Option (Int32 × RS)
  | 0 => fun _ _ _ _ _ _ _ _ _ _ => none
  | n + 1 => fun l1 l2 l3 l4 l5 l7 l8 l9 l10 st => pif ((gI st 56) ≤ l10) (x9_puts_200 k80 l1 l2 l3 l4 l5 1 l7 l8 l9 st) (gd (vp_in l10 200) (bnv (x9_lays 0 (gF st 55 l10.toNatClampNeg) st) (fun st_23 => nam (l10 + 1) (fun v_26 => (x9_puts_170 k80 n) l1 l2 l3 l4 l5 l7 l8 l9 v_26 st_23))))
theorem x9_puts_170_z (k80 : Int32 → Int32 → Int32 → Int32 → Int32 → Int32 → Int32 → RS → Option (Int32 × RS)) (l1 : Int32) (l2 : Int32) (l3 : Int32) (l4 : Int32) (l5 : Int32) (l7 : Int32) (l8 : Int32) (l9 : Int32) (l10 : Int32) (st : RS) : x9_puts_170 k80 0 l1 l2 l3 l4 l5 l7 l8 l9 l10 st = none := rfl
theorem x9_puts_170_s (k80 : Int32 → Int32 → Int32 → Int32 → Int32 → Int32 → Int32 → RS → Option (Int32 × RS)) (n : Nat) (l1 : Int32) (l2 : Int32) (l3 : Int32) (l4 : Int32) (l5 : Int32) (l7 : Int32) (l8 : Int32) (l9 : Int32) (l10 : Int32) (st : RS) : x9_puts_170 k80 (n + 1) l1 l2 l3 l4 l5 l7 l8 l9 l10 st = pif ((gI st 56) ≤ l10) (x9_puts_200 k80 l1 l2 l3 l4 l5 1 l7 l8 l9 st) (gd (vp_in l10 200) (bnv (x9_lays 0 (gF st 55 l10.toNatClampNeg) st) (fun st_23 => nam (l10 + 1) (fun v_26 => (x9_puts_170 k80 n) l1 l2 l3 l4 l5 l7 l8 l9 v_26 st_23)))) := rfl
noncomputable def x9_puts_152 (k80 : Int32 → Int32 → Int32 → Int32 → Int32 → Int32 → Int32 → RS → Option (Int32 × RS)) (l1 : Int32) (l2 : Int32) (l3 : Int32) (l4 : Int32) (l5 : Int32) (l6 : Int32) (l7 : Int32) (l8 : Int32) (s0 : Int32) (st : RS) : Option (Int32 × RS) := pif ((gI st 33) ≤ l3) (x9_puts_200 k80 l1 l2 l3 l4 l5 l6 l7 l8 s0 st) (pif (l6 = 0) (x9_puts_170 k80 fuel l1 l2 l3 l4 l5 l7 l8 s0 0 st) (x9_puts_200 k80 l1 l2 l3 l4 l5 l6 l7 l8 s0 st))
noncomputable def x9_puts_151 (k80 : Int32 → Int32 → Int32 → Int32 → Int32 → Int32 → Int32 → RS → Option (Int32 × RS)) (l1 : Int32) (l2 : Int32) (l3 : Int32) (l4 : Int32) (l5 : Int32) (l6 : Int32) (l7 : Int32) (l8 : Int32) (st : RS) : Option (Int32 × RS) := x9_puts_152 k80 l1 l2 l3 l4 l5 l6 l7 l8 0 st
noncomputable def x9_puts_80  : Nat → Int32 → Int32 → Int32 → Int32 → Int32 → Int32 → Int32 → RS → Option (Int32 × RS)
  | 0 => fun _ _ _ _ _ _ _ _ => none
  | n + 1 => fun l1 l2 l3 l4 l5 l6 l7 st => pif (l4 ≤ l7) (pif (l6 = 0) (x9_puts_257  fuel l1 0 st) (x9_puts_284  l1 st)) (bnv (x9_piece l7 l4 l2 0 0 st) (fun st_31 => nam (gI st_31 36) (fun v_34 => bnd (x9_has l2 (gI st_31 33) st_31) (fun r_37 st_35 => pif (r_37 = 0) (x9_puts_151 (x9_puts_80 n) l1 l2 l3 l4 l5 l6 l7 v_34 st_35) (pif (l5 ≤ 0) (x9_puts_151 (x9_puts_80 n) l1 l2 l3 l4 l5 l6 l7 v_34 st_35) (gd (vp_in ((31 * l2) + (gI st_35 33)) 248) (pif ((gF st_35 2 ((31 * l2) + (gI st_35 33)).toNatClampNeg) = l5) (pif ((gI st_35 56) ≤ 0) (x9_puts_151 (x9_puts_80 n) l1 l2 l3 l4 l5 l6 l7 v_34 st_35) (x9_puts_152 (x9_puts_80 n) l1 l2 l3 l4 l5 l6 l7 v_34 1 st_35)) (x9_puts_151 (x9_puts_80 n) l1 l2 l3 l4 l5 l6 l7 v_34 st_35))))))))
theorem x9_puts_80_z  (l1 : Int32) (l2 : Int32) (l3 : Int32) (l4 : Int32) (l5 : Int32) (l6 : Int32) (l7 : Int32) (st : RS) : x9_puts_80  0 l1 l2 l3 l4 l5 l6 l7 st = none := rfl
theorem x9_puts_80_s  (n : Nat) (l1 : Int32) (l2 : Int32) (l3 : Int32) (l4 : Int32) (l5 : Int32) (l6 : Int32) (l7 : Int32) (st : RS) : x9_puts_80  (n + 1) l1 l2 l3 l4 l5 l6 l7 st = pif (l4 ≤ l7) (pif (l6 = 0) (x9_puts_257  fuel l1 0 st) (x9_puts_284  l1 st)) (bnv (x9_piece l7 l4 l2 0 0 st) (fun st_31 => nam (gI st_31 36) (fun v_34 => bnd (x9_has l2 (gI st_31 33) st_31) (fun r_37 st_35 => pif (r_37 = 0) (x9_puts_151 (x9_puts_80 n) l1 l2 l3 l4 l5 l6 l7 v_34 st_35) (pif (l5 ≤ 0) (x9_puts_151 (x9_puts_80 n) l1 l2 l3 l4 l5 l6 l7 v_34 st_35) (gd (vp_in ((31 * l2) + (gI st_35 33)) 248) (pif ((gF st_35 2 ((31 * l2) + (gI st_35 33)).toNatClampNeg) = l5) (pif ((gI st_35 56) ≤ 0) (x9_puts_151 (x9_puts_80 n) l1 l2 l3 l4 l5 l6 l7 v_34 st_35) (x9_puts_152 (x9_puts_80 n) l1 l2 l3 l4 l5 l6 l7 v_34 1 st_35)) (x9_puts_151 (x9_puts_80 n) l1 l2 l3 l4 l5 l6 l7 v_34 st_35)))))))) := rfl
noncomputable def x9_puts_27  : Nat → Int32 → Int32 → Int32 → Int32 → Int32 → RS → Option (Int32 × RS)
  | 0 => fun _ _ _ _ _ _ => none
  | n + 1 => fun l1 l2 l3 l4 l5 st => pif (l4 ≤ l5) (gd (vp_in (0 : Int32) 9) (nam (sF st 53 (upd (gF st 53) (0 : Int32).toNatClampNeg 0)) (fun st_45 => gd (vp_in ((31 * l2) + l3) 248) (nam (gF st_45 2 ((31 * l2) + l3).toNatClampNeg) (fun v_47 => x9_puts_80  fuel l1 l2 l3 l4 v_47 0 0 st_45))))) (gd (vp_in l5 1440) (gd (vp_in l5 160) (nam (sF st 30 (upd (gF st 30) l5.toNatClampNeg (gF st 52 l5.toNatClampNeg))) (fun st_50 => nam (l5 + 1) (fun v_51 => (x9_puts_27 n) l1 l2 l3 l4 v_51 st_50)))))
theorem x9_puts_27_z  (l1 : Int32) (l2 : Int32) (l3 : Int32) (l4 : Int32) (l5 : Int32) (st : RS) : x9_puts_27  0 l1 l2 l3 l4 l5 st = none := rfl
theorem x9_puts_27_s  (n : Nat) (l1 : Int32) (l2 : Int32) (l3 : Int32) (l4 : Int32) (l5 : Int32) (st : RS) : x9_puts_27  (n + 1) l1 l2 l3 l4 l5 st = pif (l4 ≤ l5) (gd (vp_in (0 : Int32) 9) (nam (sF st 53 (upd (gF st 53) (0 : Int32).toNatClampNeg 0)) (fun st_45 => gd (vp_in ((31 * l2) + l3) 248) (nam (gF st_45 2 ((31 * l2) + l3).toNatClampNeg) (fun v_47 => x9_puts_80  fuel l1 l2 l3 l4 v_47 0 0 st_45))))) (gd (vp_in l5 1440) (gd (vp_in l5 160) (nam (sF st 30 (upd (gF st 30) l5.toNatClampNeg (gF st 52 l5.toNatClampNeg))) (fun st_50 => nam (l5 + 1) (fun v_51 => (x9_puts_27 n) l1 l2 l3 l4 v_51 st_50))))) := rfl
noncomputable def x9_puts (p0 : Int32) (p1 : Int32) (p2 : Int32) (st : RS) : Option (Int32 × RS) := bnv (x9_loads p0 st) (fun st_52 => gd (vp_in p0 4) (bnv (x9_writes (gF st_52 29 p0.toNatClampNeg) p1 st_52) (fun st_56 => gd (vp_in (0 : Int32) 9) (nam (gF st_56 53 (0 : Int32).toNatClampNeg) (fun v_60 => x9_puts_27  fuel p0 p1 p2 v_60 0 st_56)))))
def wq_X9_puts : List Cond := .code yX9_puts cX9_puts 11 (some .int) :: (([.fieldLink RX9 78 "RecordBenchModel" "long0" "[I", .fieldLink RX9 117 "RecordBenchModel" "laidLong" "[I", .fieldLink RX9 17 "RecordBenchModel" "group" "[I", .fieldLink RX9 81 "RecordBenchModel" "row" "[I", .fieldLink RX9 114 "RecordBenchModel" "laid" "[I", .fieldLink RX9 278 "RecordBenchModel" "to" "I", .fieldLink RX9 263 "RecordBenchModel" "number" "I", .fieldLink RX9 337 "RecordBenchModel" "freshLong" "I", .fieldLink RX9 123 "RecordBenchModel" "fresh" "[I", .methodLink RX9 334 yX9_comes, .instanceMethod yX9_comes, .selects RX9 yX9_comes yX9_comes, .initialized RX9, .methodLink RX9 320 yX9_lays, .instanceMethod yX9_lays, .selects RX9 yX9_lays yX9_lays, .methodLink RX9 298 yX9_piece, .instanceMethod yX9_piece, .selects RX9 yX9_piece yX9_piece, .methodLink RX9 246 yX9_has, .instanceMethod yX9_has, .selects RX9 yX9_has yX9_has, .methodLink RX9 302 yX9_loads, .instanceMethod yX9_loads, .selects RX9 yX9_loads yX9_loads, .methodLink RX9 331 yX9_writes, .instanceMethod yX9_writes, .selects RX9 yX9_writes yX9_writes, .code yX9_comes cX9_comes 3 none, .fieldLink RX9 75 "RecordBenchModel" "bytes" "[I", .code yX9_lays cX9_lays 3 none, .code yX9_piece cX9_piece 14 none, .fieldLink RX9 260 "RecordBenchModel" "pieceFault" "I", .fieldLink RX9 252 "RecordBenchModel" "varint" "J", .fieldLink RX9 267 "RecordBenchModel" "isLong" "Z", .constantLong RX9 271 (30), .fieldLink RX9 257 "RecordBenchModel" "varintEnd" "I", .fieldLink RX9 273 "RecordBenchModel" "value" "J", .fieldLink RX9 275 "RecordBenchModel" "from" "I", .fieldLink RX9 13 "RecordBenchModel" "kind" "[I", .methodLink RX9 281 yX9_isText, .static yX9_isText, .methodLink RX9 229 yX9_isOf, .static yX9_isOf, .methodLink RX9 265 yX9_varint, .instanceMethod yX9_varint, .selects RX9 yX9_varint yX9_varint, .code yX9_isText cX9_isText 4 (some .boolean), .code yX9_isOf cX9_isOf 3 (some .boolean), .constantLong RX9 219 (-2147483648), .constantLong RX9 221 (2147483647), .constantLong RX9 215 (-128), .constantLong RX9 217 (127), .code yX9_has cX9_has 3 (some .boolean), .fieldLink RX9 36 "RecordBenchModel" "isThere" "[Z", .code yX9_varint cX9_varint 6 (some .boolean), .constantLong RX9 255 (128), .code yX9_loads cX9_loads 3 none, .code yX9_writes cX9_writes 9 none, .fieldLink RX9 102 "RecordBenchModel" "pileAt" "[I", .fieldLink RX9 105 "RecordBenchModel" "pileEnd" "[I", .fieldLink RX9 99 "RecordBenchModel" "pileMake" "[I", .fieldLink RX9 20 "RecordBenchModel" "inner" "[I", .fieldLink RX9 120 "RecordBenchModel" "levelKey" "[I", .methodLink RX9 323 yX9_laysVarint, .instanceMethod yX9_laysVarint, .selects RX9 yX9_laysVarint yX9_laysVarint, .methodLink RX9 327 yX9_folded, .static yX9_folded, .methodLink RX9 294 yX9_opens, .instanceMethod yX9_opens, .selects RX9 yX9_opens yX9_opens, .code yX9_laysVarint cX9_laysVarint 6 none, .code yX9_folded cX9_folded 2 (some .long), .code yX9_opens cX9_opens 5 none, .fieldLink RX9 108 "RecordBenchModel" "pileLast" "[I", .fieldLink RX9 111 "RecordBenchModel" "pileGroups" "[I"] : List Cond) ++ wsX90)
theorem gs_wq_X9_puts_wsX90 : GoodIn wq_X9_puts wsX90 := fun w h => ⟨List.mem_cons_of_mem _ (List.mem_append_right _ h), (gt_wsX90 w h).2⟩
set_option maxRecDepth 20000 in
theorem gq_X9_puts_X9_comes_334 : GoodIn wq_X9_puts (wsV RX9 334 RX9 yX9_comes wq_X9_comes) := goodIn_app (goodIn_r _ [10, 11, 12, 13] rfl rfl) (goodIn_ca (goodIn_r _ [29, 2, 1, 30, 5] rfl rfl) gs_wq_X9_puts_wsX90)
set_option maxRecDepth 20000 in
theorem gq_X9_puts_X9_lays_320 : GoodIn wq_X9_puts (wsV RX9 320 RX9 yX9_lays wq_X9_lays) := goodIn_app (goodIn_r _ [14, 15, 16, 13] rfl rfl) (goodIn_ca (goodIn_r _ [31, 5, 2] rfl rfl) gs_wq_X9_puts_wsX90)
set_option maxRecDepth 20000 in
theorem gq_X9_puts_X9_piece_298 : GoodIn wq_X9_puts (wsV RX9 298 RX9 yX9_piece wq_X9_piece) := goodIn_app (goodIn_r _ [17, 18, 19, 13] rfl rfl) (goodIn_ca (goodIn_r _ [32, 33, 7, 34, 35, 36, 37, 38, 39, 6, 40, 3, 4, 41, 42, 13, 43, 44, 20, 21, 22, 45, 46, 47, 48, 49, 50, 51, 52, 53, 54, 55, 56, 57] rfl rfl) gs_wq_X9_puts_wsX90)
set_option maxRecDepth 20000 in
theorem gq_X9_puts_X9_has_246 : GoodIn wq_X9_puts (wsV RX9 246 RX9 yX9_has wq_X9_has) := goodIn_app (goodIn_r _ [20, 21, 22, 13] rfl rfl) (goodIn_ca (goodIn_r _ [54, 55, 40] rfl rfl) gs_wq_X9_puts_wsX90)
set_option maxRecDepth 20000 in
theorem gq_X9_puts_X9_loads_302 : GoodIn wq_X9_puts (wsV RX9 302 RX9 yX9_loads wq_X9_loads) := goodIn_app (goodIn_r _ [23, 24, 25, 13] rfl rfl) (goodIn_ca (goodIn_r _ [58, 1, 4, 30] rfl rfl) gs_wq_X9_puts_wsX90)
set_option maxRecDepth 20000 in
theorem gq_X9_puts_X9_writes_331 : GoodIn wq_X9_puts (wsV RX9 331 RX9 yX9_writes wq_X9_writes) := goodIn_app (goodIn_r _ [26, 27, 28, 13] rfl rfl) (goodIn_ca (goodIn_r _ [59, 2, 60, 61, 62, 6, 7, 40, 38, 39, 63, 64, 5, 4, 14, 15, 16, 13, 65, 66, 67, 17, 18, 19, 20, 21, 22, 68, 69, 70, 71, 72, 31, 73, 53, 32, 33, 34, 35, 36, 37, 3, 41, 42, 43, 44, 45, 46, 47, 48, 49, 50, 51, 52, 54, 55, 56, 57, 74, 75, 76, 77] rfl rfl) gs_wq_X9_puts_wsX90)
set_option maxHeartbeats 4000000 in
set_option maxRecDepth 100000 in
theorem c_X9_puts (l : Launch) (dC : Nat → ClassId) (dI : Nat → Nat → Nat) (h0 : Nat) (ar : Nat → Nat) (ca : Nat → ClassId) (p0 : Int32) (p1 : Int32) (p2 : Int32) (st st' : RS) (r : Int32) (hf : x9_puts p0 p1 p2 st = some (r, st')) (sz : Nat) : Met l yX9_puts wq_X9_puts ({ frames := 3, cells := 0, slots := 0, locals := 98 }) (va_Pc [.ref h0, .int p0, .int p1, .int p2] (Pr (dC, dI) (rT ca) [] (RW h0 ar ca st) sz)) (va_Qi (fun r' (_ : Unit) => r' = r) (Bq (dC, dI) (fun _ => RW h0 ar ca st') (fun _ => []) (va_A (RW h0 ar ca st) sz)) (va_A (RW h0 ar ca st) sz)) 0 0 (va_A (RW h0 ar ca st) sz) := by
  refine Met.ofW (cc := cX9_puts) (maxL := 11) (ret := (some .int)) (by decide) rfl ?_
  intro p e s m args below meth c s₁ B hml hv
  obtain ⟨rfl, hsz, hP, hK, hD0, hN, hZ, hR⟩ := hv
  have hx := B.exec
  have hb := B.bytes
  have hr := B.returns
  have hts := atoms_spec (ws := wq_X9_puts) B.pre
  have hown : s.vm.findClass RX9 = some m.cls := findClass_of_methodNamed B.named
  have iRX9 : ∀ w ∈ u_ws RX9 TX9 60, w ∈ wq_X9_puts := fun w h => List.mem_cons_of_mem _ (List.mem_append_right _ h)
  subst hsz
  have hp : Rp (dC, dI) h0 ar ca (va_A (RW h0 ar ca st) s.heap.size) s.heap st s.heap [] := ⟨hP, hD0.self, va_S.rf⟩
  generalize hAe : va_A (RW h0 ar ca st) s.heap.size = A at hp hZ ⊢
  have hA : ∀ q : Nat, s.heap.size ≤ q → A q := fun q h => by rw [← hAe]; exact Or.inr h
  have hl := lv_entry ([.ref h0, .int p0, .int p1, .int p2]) (n := 11) (Nat.le_of_ble_eq_true rfl)
  rw [lg_entry_eq]
  generalize (lg_sl ([.ref h0, .int p0, .int p1, .int p2]) ++ List.replicate (11 - (lg_sl ([.ref h0, .int p0, .int p1, .int p2])).length) Slot.unset).toArray = ls at hl ⊢
  have hl : lv_has ls 11 [(0, .ref h0), (1, .int p0), (2, .int p1), (3, .int p2)] := hl
  refine W_blk (fun (u : Int32 × RS) H locs ls => match u with | (l1, st) => x9_puts_284 l1 st = some (r, st') ∧ Rp (dC, dI) h0 ar ca A s.heap st H locs ∧ lv_has ls 11 [(0, .ref h0), (1, .int l1)]) (fun (u : Int32 × RS) ls => match u with | (l1, st) => F0 m 284 ls []) ?_ (fun J284 => ?_)
  · intro u H locs ls hu
    obtain ⟨l1, st⟩ := u
    obtain ⟨hf, hp, hl⟩ := hu
    show W p l e _ s m _ below meth c _ _ _ _ _ (F0 m 284 ls [])
    unfold x9_puts_284 at hf
    refine lv_aload_n hx hb dX9_puts_284 rfl (lv_at hl 0 rfl) ?_
    refine r_ga hx hb hts iRX9 hown hK hp 53 (by decide) (by decide) (hts (.fieldLink RX9 117 "RecordBenchModel" "laidLong" "[I") (by decide +kernel)) dX9_puts_285 ?_
    refine lv_iconst (v := 0) hx hb dX9_puts_288 (by decide) ?_
    obtain ⟨g_1, hf⟩ := gd_some hf
    refine r_ai (n := 9) hx hb hK hp 24 53 rfl rfl rfl g_1 dX9_puts_289 ?_
    refine lv_bipush (v := 120) hx hb dX9_puts_290 (by decide) ?_
    refine lv_icmp_le (tgt := 298) hx hb dX9_puts_292 (by decide) (fun c_2 => ?_) (fun c_2 => ?_)
    · have hf := pif_t c_2 hf
      refine lv_aload_n hx hb dX9_puts_298 rfl (lv_at hl 0 rfl) ?_
      refine lv_iload_n hx hb dX9_puts_299 rfl (lv_at hl 1 rfl) ?_
      obtain ⟨st_3, hc_4, hf⟩ := bnv_some hf
      refine r_cv hp hA (va_runV (As := [.int l1]) (rest := []) ⟨hx, hb, hml, hown, hts⟩ (c_X9_comes l dC dI h0 ar ca l1 _ _ hc_4 _) (cwV 1 hts gq_X9_puts_X9_comes_334 rfl rfl rfl (by decide +kernel) ⟨Nat.le_of_ble_eq_true rfl, Nat.le_of_ble_eq_true rfl⟩) ⟨Pr.blind _, va_recv hK hp.1 (ci := 11) (q0 := 0) rfl rfl, r_pre hp hK hN hZ hA⟩ rfl rfl hl.1 rfl (lv_room (Nat.le_of_ble_eq_true rfl)) dX9_puts_300 ⟨Nat.le_of_ble_eq_true rfl, Nat.le_of_ble_eq_true rfl⟩) (fun H locs hp => ?_)
      refine lv_aload_n hx hb dX9_puts_303 rfl (lv_at hl 0 rfl) ?_
      refine r_ga hx hb hts iRX9 hown hK hp 29 (by decide) (by decide) (hts (.fieldLink RX9 78 "RecordBenchModel" "long0" "[I") (by decide +kernel)) dX9_puts_304 ?_
      refine lv_iload_n hx hb dX9_puts_307 rfl (lv_at hl 1 rfl) ?_
      obtain ⟨g_6, hf⟩ := gd_some hf
      refine r_ai (n := 4) hx hb hK hp 11 29 rfl rfl rfl g_6 dX9_puts_308 ?_
      obtain ⟨e1, e2⟩ := pr_some hf
      exact W.iret (v := gF st_3 29 l1.toNatClampNeg) hx hb hr (fun t ht hW => ⟨⟨gF st_3 29 l1.toNatClampNeg, (), rfl, e1, Rp.end e2 hp hK ht hW⟩, hp.2.2.F ht⟩) hp.2.2.2.2 dX9_puts_309
    · have hf := pif_f c_2 hf
      refine lv_bipush (v := (-4)) hx hb dX9_puts_295 (by decide) ?_
      obtain ⟨e1, e2⟩ := pr_some hf
      exact W.iret (v := (-4)) hx hb hr (fun t ht hW => ⟨⟨(-4), (), rfl, e1, Rp.end e2 hp hK ht hW⟩, hp.2.2.F ht⟩) hp.2.2.2.2 dX9_puts_297
  refine W_lp (fun n257 (u : Int32 × Int32 × RS) H locs ls => match u with | (l1, l8, st) => x9_puts_257 n257 l1 l8 st = some (r, st') ∧ Rp (dC, dI) h0 ar ca A s.heap st H locs ∧ lv_has ls 11 [(0, .ref h0), (1, .int l1), (8, .int l8)]) (fun (u : Int32 × Int32 × RS) ls => match u with | (l1, l8, st) => F0 m 257 ls []) ?_ ?_ (fun J257 => ?_)
  · intro u H locs ls hu
    obtain ⟨l1, l8, st⟩ := u
    obtain ⟨hf, hp, hl⟩ := hu
    rw [x9_puts_257_z] at hf
    cases hf
  · intro n257 ih257 u H locs ls hu
    obtain ⟨l1, l8, st⟩ := u
    obtain ⟨hf, hp, hl⟩ := hu
    show W p l e _ s m _ below meth c _ _ _ _ _ (F0 m 257 ls [])
    rw [x9_puts_257_s] at hf
    refine lv_iload hx hb dX9_puts_257 (lv_at hl 2 rfl) ?_
    refine lv_aload_n hx hb dX9_puts_259 rfl (lv_at hl 0 rfl) ?_
    refine r_gi hx hb hts iRX9 hown hK hp 56 (by decide) rfl (hts (.fieldLink RX9 337 "RecordBenchModel" "freshLong" "I") (by decide +kernel)) dX9_puts_260 ?_
    refine lv_icmp_ge (tgt := 284) hx hb dX9_puts_263 (by decide) (fun c_7 => ?_) (fun c_7 => ?_)
    · have hf := pif_t c_7 hf
      exact J284 (l1, st) _ _ _ ⟨hf, hp, (lv_sub hl [0, 1] rfl)⟩
    · have hf := pif_f c_7 hf
      refine lv_aload_n hx hb dX9_puts_266 rfl (lv_at hl 0 rfl) ?_
      refine lv_iconst (v := 0) hx hb dX9_puts_267 (by decide) ?_
      refine lv_aload_n hx hb dX9_puts_268 rfl (lv_at hl 0 rfl) ?_
      refine r_ga hx hb hts iRX9 hown hK hp 55 (by decide) (by decide) (hts (.fieldLink RX9 123 "RecordBenchModel" "fresh" "[I") (by decide +kernel)) dX9_puts_269 ?_
      refine lv_iload hx hb dX9_puts_272 (lv_at hl 2 rfl) ?_
      obtain ⟨g_8, hf⟩ := gd_some hf
      refine r_ai (n := 200) hx hb hK hp 26 55 rfl rfl rfl g_8 dX9_puts_274 ?_
      obtain ⟨st_9, hc_10, hf⟩ := bnv_some hf
      refine r_cv hp hA (va_runV (As := [.int 0, .int (gF st 55 l8.toNatClampNeg)]) (rest := []) ⟨hx, hb, hml, hown, hts⟩ (c_X9_lays l dC dI h0 ar ca 0 (gF st 55 l8.toNatClampNeg) _ _ hc_10 _) (cwV 2 hts gq_X9_puts_X9_lays_320 rfl rfl rfl (by decide +kernel) ⟨Nat.le_of_ble_eq_true rfl, Nat.le_of_ble_eq_true rfl⟩) ⟨Pr.blind _, va_recv hK hp.1 (ci := 11) (q0 := 0) rfl rfl, r_pre hp hK hN hZ hA⟩ rfl rfl hl.1 rfl (lv_room (Nat.le_of_ble_eq_true rfl)) dX9_puts_275 ⟨Nat.le_of_ble_eq_true rfl, Nat.le_of_ble_eq_true rfl⟩) (fun H locs hp => ?_)
      obtain ⟨v_12, ev_12, hf⟩ := nam_some hf
      refine lv_iinc (v := v_12) (lv' := [(8, .int v_12), (0, .ref h0), (1, .int l1)]) hx hb dX9_puts_278 hl (k := 2) rfl ev_12.symm (by decide) rfl (fun ls hl => ?_)
      refine lv_goto (tgt := 257) hx hb dX9_puts_281 (by decide) ?_
      exact ih257 (l1, v_12, st_9) _ _ _ ⟨hf, hp, (lv_sub hl [1, 2, 0] rfl)⟩
  refine W_lp (fun n80 (u : Int32 × Int32 × Int32 × Int32 × Int32 × Int32 × Int32 × RS) H locs ls => match u with | (l1, l2, l3, l4, l5, l6, l7, st) => x9_puts_80 n80 l1 l2 l3 l4 l5 l6 l7 st = some (r, st') ∧ Rp (dC, dI) h0 ar ca A s.heap st H locs ∧ lv_has ls 11 [(0, .ref h0), (1, .int l1), (2, .int l2), (3, .int l3), (4, .int l4), (5, .int l5), (6, .int l6), (7, .int l7)]) (fun (u : Int32 × Int32 × Int32 × Int32 × Int32 × Int32 × Int32 × RS) ls => match u with | (l1, l2, l3, l4, l5, l6, l7, st) => F0 m 80 ls []) ?_ ?_ (fun J80 => ?_)
  · intro u H locs ls hu
    obtain ⟨l1, l2, l3, l4, l5, l6, l7, st⟩ := u
    obtain ⟨hf, hp, hl⟩ := hu
    rw [x9_puts_80_z] at hf
    cases hf
  · intro n80 ih80 u H locs ls hu
    obtain ⟨l1, l2, l3, l4, l5, l6, l7, st⟩ := u
    obtain ⟨hf, hp, hl⟩ := hu
    show W p l e _ s m _ below meth c _ _ _ _ _ (F0 m 80 ls [])
    refine W_blk (fun (u : Int32 × Int32 × Int32 × Int32 × Int32 × Int32 × Int32 × RS) H locs ls => match u with | (l1, l2, l3, l4, l5, l6, l8, st) => x9_puts_242 (x9_puts_80 n80) l1 l2 l3 l4 l5 l6 l8 st = some (r, st') ∧ Rp (dC, dI) h0 ar ca A s.heap st H locs ∧ lv_has ls 11 [(0, .ref h0), (1, .int l1), (2, .int l2), (3, .int l3), (4, .int l4), (5, .int l5), (6, .int l6), (8, .int l8)]) (fun (u : Int32 × Int32 × Int32 × Int32 × Int32 × Int32 × Int32 × RS) ls => match u with | (l1, l2, l3, l4, l5, l6, l8, st) => F0 m 242 ls []) ?_ (fun J242 => ?_)
    · intro u H locs ls hu
      obtain ⟨l1, l2, l3, l4, l5, l6, l8, st⟩ := u
      obtain ⟨hf, hp, hl⟩ := hu
      show W p l e _ s m _ below meth c _ _ _ _ _ (F0 m 242 ls [])
      unfold x9_puts_242 at hf
      refine lv_iload hx hb dX9_puts_242 (lv_at hl 7 rfl) ?_
      refine lv_istore (lv' := [(7, .int l8), (0, .ref h0), (1, .int l1), (2, .int l2), (3, .int l3), (4, .int l4), (5, .int l5), (6, .int l6), (8, .int l8)]) hx hb dX9_puts_244 hl (by decide) rfl (fun ls hl => ?_)
      refine lv_goto (tgt := 80) hx hb dX9_puts_246 (by decide) ?_
      exact ih80 (l1, l2, l3, l4, l5, l6, l8, st) _ _ _ ⟨hf, hp, (lv_sub hl [1, 2, 3, 4, 5, 6, 7, 0] rfl)⟩
    refine W_lp (fun n217 (u : Int32 × Int32 × Int32 × Int32 × Int32 × Int32 × Int32 × Int32 × RS) H locs ls => match u with | (l1, l2, l3, l4, l5, l6, l8, l10, st) => x9_puts_217 (x9_puts_80 n80) n217 l1 l2 l3 l4 l5 l6 l8 l10 st = some (r, st') ∧ Rp (dC, dI) h0 ar ca A s.heap st H locs ∧ lv_has ls 11 [(0, .ref h0), (1, .int l1), (2, .int l2), (3, .int l3), (4, .int l4), (5, .int l5), (6, .int l6), (8, .int l8), (10, .int l10)]) (fun (u : Int32 × Int32 × Int32 × Int32 × Int32 × Int32 × Int32 × Int32 × RS) ls => match u with | (l1, l2, l3, l4, l5, l6, l8, l10, st) => F0 m 217 ls []) ?_ ?_ (fun J217 => ?_)
    · intro u H locs ls hu
      obtain ⟨l1, l2, l3, l4, l5, l6, l8, l10, st⟩ := u
      obtain ⟨hf, hp, hl⟩ := hu
      rw [x9_puts_217_z] at hf
      cases hf
    · intro n217 ih217 u H locs ls hu
      obtain ⟨l1, l2, l3, l4, l5, l6, l8, l10, st⟩ := u
      obtain ⟨hf, hp, hl⟩ := hu
      show W p l e _ s m _ below meth c _ _ _ _ _ (F0 m 217 ls [])
      rw [x9_puts_217_s] at hf
      refine lv_iload hx hb dX9_puts_217 (lv_at hl 8 rfl) ?_
      refine lv_iload hx hb dX9_puts_219 (lv_at hl 7 rfl) ?_
      refine lv_icmp_ge (tgt := 242) hx hb dX9_puts_221 (by decide) (fun c_13 => ?_) (fun c_13 => ?_)
      · have hf := pif_t c_13 hf
        exact J242 (l1, l2, l3, l4, l5, l6, l8, st) _ _ _ ⟨hf, hp, (lv_sub hl [0, 1, 2, 3, 4, 5, 6, 7] rfl)⟩
      · have hf := pif_f c_13 hf
        refine lv_aload_n hx hb dX9_puts_224 rfl (lv_at hl 0 rfl) ?_
        refine lv_iconst (v := 0) hx hb dX9_puts_225 (by decide) ?_
        refine lv_aload_n hx hb dX9_puts_226 rfl (lv_at hl 0 rfl) ?_
        refine r_ga hx hb hts iRX9 hown hK hp 30 (by decide) (by decide) (hts (.fieldLink RX9 81 "RecordBenchModel" "row" "[I") (by decide +kernel)) dX9_puts_227 ?_
        refine lv_iload hx hb dX9_puts_230 (lv_at hl 8 rfl) ?_
        obtain ⟨g_14, hf⟩ := gd_some hf
        refine r_ai (n := 160) hx hb hK hp 12 30 rfl rfl rfl g_14 dX9_puts_232 ?_
        obtain ⟨st_15, hc_16, hf⟩ := bnv_some hf
        refine r_cv hp hA (va_runV (As := [.int 0, .int (gF st 30 l10.toNatClampNeg)]) (rest := []) ⟨hx, hb, hml, hown, hts⟩ (c_X9_lays l dC dI h0 ar ca 0 (gF st 30 l10.toNatClampNeg) _ _ hc_16 _) (cwV 2 hts gq_X9_puts_X9_lays_320 rfl rfl rfl (by decide +kernel) ⟨Nat.le_of_ble_eq_true rfl, Nat.le_of_ble_eq_true rfl⟩) ⟨Pr.blind _, va_recv hK hp.1 (ci := 11) (q0 := 0) rfl rfl, r_pre hp hK hN hZ hA⟩ rfl rfl hl.1 rfl (lv_room (Nat.le_of_ble_eq_true rfl)) dX9_puts_233 ⟨Nat.le_of_ble_eq_true rfl, Nat.le_of_ble_eq_true rfl⟩) (fun H locs hp => ?_)
        obtain ⟨v_18, ev_18, hf⟩ := nam_some hf
        refine lv_iinc (v := v_18) (lv' := [(10, .int v_18), (0, .ref h0), (1, .int l1), (2, .int l2), (3, .int l3), (4, .int l4), (5, .int l5), (6, .int l6), (8, .int l8)]) hx hb dX9_puts_236 hl (k := 8) rfl ev_18.symm (by decide) rfl (fun ls hl => ?_)
        refine lv_goto (tgt := 217) hx hb dX9_puts_239 (by decide) ?_
        exact ih217 (l1, l2, l3, l4, l5, l6, l8, v_18, st_15) _ _ _ ⟨hf, hp, (lv_sub hl [1, 2, 3, 4, 5, 6, 7, 8, 0] rfl)⟩
    refine W_blk (fun (u : Int32 × Int32 × Int32 × Int32 × Int32 × Int32 × Int32 × Int32 × Int32 × RS) H locs ls => match u with | (l1, l2, l3, l4, l5, l6, l7, l8, l9, st) => x9_puts_200 (x9_puts_80 n80) l1 l2 l3 l4 l5 l6 l7 l8 l9 st = some (r, st') ∧ Rp (dC, dI) h0 ar ca A s.heap st H locs ∧ lv_has ls 11 [(0, .ref h0), (1, .int l1), (2, .int l2), (3, .int l3), (4, .int l4), (5, .int l5), (6, .int l6), (7, .int l7), (8, .int l8), (9, .int l9)]) (fun (u : Int32 × Int32 × Int32 × Int32 × Int32 × Int32 × Int32 × Int32 × Int32 × RS) ls => match u with | (l1, l2, l3, l4, l5, l6, l7, l8, l9, st) => F0 m 200 ls []) ?_ (fun J200 => ?_)
    · intro u H locs ls hu
      obtain ⟨l1, l2, l3, l4, l5, l6, l7, l8, l9, st⟩ := u
      obtain ⟨hf, hp, hl⟩ := hu
      show W p l e _ s m _ below meth c _ _ _ _ _ (F0 m 200 ls [])
      unfold x9_puts_200 at hf
      refine lv_aload_n hx hb dX9_puts_200 rfl (lv_at hl 0 rfl) ?_
      refine r_gi hx hb hts iRX9 hown hK hp 33 (by decide) rfl (hts (.fieldLink RX9 263 "RecordBenchModel" "number" "I") (by decide +kernel)) dX9_puts_201 ?_
      refine lv_iload_n hx hb dX9_puts_204 rfl (lv_at hl 3 rfl) ?_
      refine lv_icmp_eq (tgt := 242) hx hb dX9_puts_205 (by decide) (fun c_19 => ?_) (fun c_19 => ?_)
      · have hf := pif_t c_19 hf
        exact J242 (l1, l2, l3, l4, l5, l6, l8, st) _ _ _ ⟨hf, hp, (lv_sub hl [0, 1, 2, 3, 4, 5, 6, 8] rfl)⟩
      · have hf := pif_f c_19 hf
        refine lv_iload hx hb dX9_puts_208 (lv_at hl 9 rfl) ?_
        refine lv_if_ne (tgt := 242) hx hb dX9_puts_210 (by decide) (fun c_20 => ?_) (fun c_20 => ?_)
        · have hf := pif_f c_20 hf
          exact J242 (l1, l2, l3, l4, l5, l6, l8, st) _ _ _ ⟨hf, hp, (lv_sub hl [0, 1, 2, 3, 4, 5, 6, 8] rfl)⟩
        · have hf := pif_t c_20 hf
          refine lv_iload hx hb dX9_puts_213 (lv_at hl 7 rfl) ?_
          refine lv_istore (lv' := [(10, .int l7), (0, .ref h0), (1, .int l1), (2, .int l2), (3, .int l3), (4, .int l4), (5, .int l5), (6, .int l6), (7, .int l7), (8, .int l8), (9, .int l9)]) hx hb dX9_puts_215 hl (by decide) rfl (fun ls hl => ?_)
          exact J217 fuel (l1, l2, l3, l4, l5, l6, l8, l7, st) _ _ _ ⟨hf, hp, (lv_sub hl [1, 2, 3, 4, 5, 6, 7, 9, 0] rfl)⟩
    refine W_lp (fun n170 (u : Int32 × Int32 × Int32 × Int32 × Int32 × Int32 × Int32 × Int32 × Int32 × RS) H locs ls => match u with | (l1, l2, l3, l4, l5, l7, l8, l9, l10, st) => x9_puts_170 (x9_puts_80 n80) n170 l1 l2 l3 l4 l5 l7 l8 l9 l10 st = some (r, st') ∧ Rp (dC, dI) h0 ar ca A s.heap st H locs ∧ lv_has ls 11 [(0, .ref h0), (1, .int l1), (2, .int l2), (3, .int l3), (4, .int l4), (5, .int l5), (7, .int l7), (8, .int l8), (9, .int l9), (10, .int l10)]) (fun (u : Int32 × Int32 × Int32 × Int32 × Int32 × Int32 × Int32 × Int32 × Int32 × RS) ls => match u with | (l1, l2, l3, l4, l5, l7, l8, l9, l10, st) => F0 m 170 ls []) ?_ ?_ (fun J170 => ?_)
    · intro u H locs ls hu
      obtain ⟨l1, l2, l3, l4, l5, l7, l8, l9, l10, st⟩ := u
      obtain ⟨hf, hp, hl⟩ := hu
      rw [x9_puts_170_z] at hf
      cases hf
    · intro n170 ih170 u H locs ls hu
      obtain ⟨l1, l2, l3, l4, l5, l7, l8, l9, l10, st⟩ := u
      obtain ⟨hf, hp, hl⟩ := hu
      show W p l e _ s m _ below meth c _ _ _ _ _ (F0 m 170 ls [])
      rw [x9_puts_170_s] at hf
      refine lv_iload hx hb dX9_puts_170 (lv_at hl 9 rfl) ?_
      refine lv_aload_n hx hb dX9_puts_172 rfl (lv_at hl 0 rfl) ?_
      refine r_gi hx hb hts iRX9 hown hK hp 56 (by decide) rfl (hts (.fieldLink RX9 337 "RecordBenchModel" "freshLong" "I") (by decide +kernel)) dX9_puts_173 ?_
      refine lv_icmp_ge (tgt := 197) hx hb dX9_puts_176 (by decide) (fun c_21 => ?_) (fun c_21 => ?_)
      · have hf := pif_t c_21 hf
        refine lv_iconst (v := 1) hx hb dX9_puts_197 (by decide) ?_
        refine lv_istore (lv' := [(6, .int 1), (0, .ref h0), (1, .int l1), (2, .int l2), (3, .int l3), (4, .int l4), (5, .int l5), (7, .int l7), (8, .int l8), (9, .int l9), (10, .int l10)]) hx hb dX9_puts_198 hl (by decide) rfl (fun ls hl => ?_)
        exact J200 (l1, l2, l3, l4, l5, 1, l7, l8, l9, st) _ _ _ ⟨hf, hp, (lv_sub hl [1, 2, 3, 4, 5, 6, 0, 7, 8, 9] rfl)⟩
      · have hf := pif_f c_21 hf
        refine lv_aload_n hx hb dX9_puts_179 rfl (lv_at hl 0 rfl) ?_
        refine lv_iconst (v := 0) hx hb dX9_puts_180 (by decide) ?_
        refine lv_aload_n hx hb dX9_puts_181 rfl (lv_at hl 0 rfl) ?_
        refine r_ga hx hb hts iRX9 hown hK hp 55 (by decide) (by decide) (hts (.fieldLink RX9 123 "RecordBenchModel" "fresh" "[I") (by decide +kernel)) dX9_puts_182 ?_
        refine lv_iload hx hb dX9_puts_185 (lv_at hl 9 rfl) ?_
        obtain ⟨g_22, hf⟩ := gd_some hf
        refine r_ai (n := 200) hx hb hK hp 26 55 rfl rfl rfl g_22 dX9_puts_187 ?_
        obtain ⟨st_23, hc_24, hf⟩ := bnv_some hf
        refine r_cv hp hA (va_runV (As := [.int 0, .int (gF st 55 l10.toNatClampNeg)]) (rest := []) ⟨hx, hb, hml, hown, hts⟩ (c_X9_lays l dC dI h0 ar ca 0 (gF st 55 l10.toNatClampNeg) _ _ hc_24 _) (cwV 2 hts gq_X9_puts_X9_lays_320 rfl rfl rfl (by decide +kernel) ⟨Nat.le_of_ble_eq_true rfl, Nat.le_of_ble_eq_true rfl⟩) ⟨Pr.blind _, va_recv hK hp.1 (ci := 11) (q0 := 0) rfl rfl, r_pre hp hK hN hZ hA⟩ rfl rfl hl.1 rfl (lv_room (Nat.le_of_ble_eq_true rfl)) dX9_puts_188 ⟨Nat.le_of_ble_eq_true rfl, Nat.le_of_ble_eq_true rfl⟩) (fun H locs hp => ?_)
        obtain ⟨v_26, ev_26, hf⟩ := nam_some hf
        refine lv_iinc (v := v_26) (lv' := [(10, .int v_26), (0, .ref h0), (1, .int l1), (2, .int l2), (3, .int l3), (4, .int l4), (5, .int l5), (7, .int l7), (8, .int l8), (9, .int l9)]) hx hb dX9_puts_191 hl (k := 9) rfl ev_26.symm (by decide) rfl (fun ls hl => ?_)
        refine lv_goto (tgt := 170) hx hb dX9_puts_194 (by decide) ?_
        exact ih170 (l1, l2, l3, l4, l5, l7, l8, l9, v_26, st_23) _ _ _ ⟨hf, hp, (lv_sub hl [1, 2, 3, 4, 5, 6, 7, 8, 9, 0] rfl)⟩
    refine W_blk (fun (u : Int32 × Int32 × Int32 × Int32 × Int32 × Int32 × Int32 × Int32 × Int32 × RS) H locs ls => match u with | (l1, l2, l3, l4, l5, l6, l7, l8, s0, st) => x9_puts_152 (x9_puts_80 n80) l1 l2 l3 l4 l5 l6 l7 l8 s0 st = some (r, st') ∧ Rp (dC, dI) h0 ar ca A s.heap st H locs ∧ lv_has ls 11 [(0, .ref h0), (1, .int l1), (2, .int l2), (3, .int l3), (4, .int l4), (5, .int l5), (6, .int l6), (7, .int l7), (8, .int l8)]) (fun (u : Int32 × Int32 × Int32 × Int32 × Int32 × Int32 × Int32 × Int32 × Int32 × RS) ls => match u with | (l1, l2, l3, l4, l5, l6, l7, l8, s0, st) => F0 m 152 ls [.int s0]) ?_ (fun J152 => ?_)
    · intro u H locs ls hu
      obtain ⟨l1, l2, l3, l4, l5, l6, l7, l8, s0, st⟩ := u
      obtain ⟨hf, hp, hl⟩ := hu
      show W p l e _ s m _ below meth c _ _ _ _ _ (F0 m 152 ls [.int s0])
      unfold x9_puts_152 at hf
      refine lv_istore (lv' := [(9, .int s0), (0, .ref h0), (1, .int l1), (2, .int l2), (3, .int l3), (4, .int l4), (5, .int l5), (6, .int l6), (7, .int l7), (8, .int l8)]) hx hb dX9_puts_152 hl (by decide) rfl (fun ls hl => ?_)
      refine lv_aload_n hx hb dX9_puts_154 rfl (lv_at hl 1 rfl) ?_
      refine r_gi hx hb hts iRX9 hown hK hp 33 (by decide) rfl (hts (.fieldLink RX9 263 "RecordBenchModel" "number" "I") (by decide +kernel)) dX9_puts_155 ?_
      refine lv_iload_n hx hb dX9_puts_158 rfl (lv_at hl 4 rfl) ?_
      refine lv_icmp_le (tgt := 200) hx hb dX9_puts_159 (by decide) (fun c_27 => ?_) (fun c_27 => ?_)
      · have hf := pif_t c_27 hf
        exact J200 (l1, l2, l3, l4, l5, l6, l7, l8, s0, st) _ _ _ ⟨hf, hp, (lv_sub hl [1, 2, 3, 4, 5, 6, 7, 8, 9, 0] rfl)⟩
      · have hf := pif_f c_27 hf
        refine lv_iload hx hb dX9_puts_162 (lv_at hl 7 rfl) ?_
        refine lv_if_ne (tgt := 200) hx hb dX9_puts_164 (by decide) (fun c_28 => ?_) (fun c_28 => ?_)
        · have hf := pif_f c_28 hf
          exact J200 (l1, l2, l3, l4, l5, l6, l7, l8, s0, st) _ _ _ ⟨hf, hp, (lv_sub hl [1, 2, 3, 4, 5, 6, 7, 8, 9, 0] rfl)⟩
        · have hf := pif_t c_28 hf
          refine lv_iconst (v := 0) hx hb dX9_puts_167 (by decide) ?_
          refine lv_istore (lv' := [(10, .int 0), (9, .int s0), (0, .ref h0), (1, .int l1), (2, .int l2), (3, .int l3), (4, .int l4), (5, .int l5), (6, .int l6), (7, .int l7), (8, .int l8)]) hx hb dX9_puts_168 hl (by decide) rfl (fun ls hl => ?_)
          exact J170 fuel (l1, l2, l3, l4, l5, l7, l8, s0, 0, st) _ _ _ ⟨hf, hp, (lv_sub hl [2, 3, 4, 5, 6, 7, 9, 10, 1, 0] rfl)⟩
    refine W_blk (fun (u : Int32 × Int32 × Int32 × Int32 × Int32 × Int32 × Int32 × Int32 × RS) H locs ls => match u with | (l1, l2, l3, l4, l5, l6, l7, l8, st) => x9_puts_151 (x9_puts_80 n80) l1 l2 l3 l4 l5 l6 l7 l8 st = some (r, st') ∧ Rp (dC, dI) h0 ar ca A s.heap st H locs ∧ lv_has ls 11 [(0, .ref h0), (1, .int l1), (2, .int l2), (3, .int l3), (4, .int l4), (5, .int l5), (6, .int l6), (7, .int l7), (8, .int l8)]) (fun (u : Int32 × Int32 × Int32 × Int32 × Int32 × Int32 × Int32 × Int32 × RS) ls => match u with | (l1, l2, l3, l4, l5, l6, l7, l8, st) => F0 m 151 ls []) ?_ (fun J151 => ?_)
    · intro u H locs ls hu
      obtain ⟨l1, l2, l3, l4, l5, l6, l7, l8, st⟩ := u
      obtain ⟨hf, hp, hl⟩ := hu
      show W p l e _ s m _ below meth c _ _ _ _ _ (F0 m 151 ls [])
      unfold x9_puts_151 at hf
      refine lv_iconst (v := 0) hx hb dX9_puts_151 (by decide) ?_
      exact J152 (l1, l2, l3, l4, l5, l6, l7, l8, 0, st) _ _ _ ⟨hf, hp, (lv_sub hl [0, 1, 2, 3, 4, 5, 6, 7, 8] rfl)⟩
    rw [x9_puts_80_s] at hf
    refine lv_iload hx hb dX9_puts_80 (lv_at hl 7 rfl) ?_
    refine lv_iload hx hb dX9_puts_82 (lv_at hl 4 rfl) ?_
    refine lv_icmp_ge (tgt := 249) hx hb dX9_puts_84 (by decide) (fun c_29 => ?_) (fun c_29 => ?_)
    · have hf := pif_t c_29 hf
      refine lv_iload hx hb dX9_puts_249 (lv_at hl 6 rfl) ?_
      refine lv_if_ne (tgt := 284) hx hb dX9_puts_251 (by decide) (fun c_30 => ?_) (fun c_30 => ?_)
      · have hf := pif_f c_30 hf
        exact J284 (l1, st) _ _ _ ⟨hf, hp, (lv_sub hl [0, 1] rfl)⟩
      · have hf := pif_t c_30 hf
        refine lv_iconst (v := 0) hx hb dX9_puts_254 (by decide) ?_
        refine lv_istore (lv' := [(8, .int 0), (0, .ref h0), (1, .int l1), (2, .int l2), (3, .int l3), (4, .int l4), (5, .int l5), (6, .int l6), (7, .int l7)]) hx hb dX9_puts_255 hl (by decide) rfl (fun ls hl => ?_)
        exact J257 fuel (l1, 0, st) _ _ _ ⟨hf, hp, (lv_sub hl [1, 2, 0] rfl)⟩
    · have hf := pif_f c_29 hf
      refine lv_aload_n hx hb dX9_puts_87 rfl (lv_at hl 0 rfl) ?_
      refine lv_iload hx hb dX9_puts_88 (lv_at hl 7 rfl) ?_
      refine lv_iload hx hb dX9_puts_90 (lv_at hl 4 rfl) ?_
      refine lv_iload_n hx hb dX9_puts_92 rfl (lv_at hl 2 rfl) ?_
      refine lv_iconst (v := 0) hx hb dX9_puts_93 (by decide) ?_
      refine lv_iconst (v := 0) hx hb dX9_puts_94 (by decide) ?_
      obtain ⟨st_31, hc_32, hf⟩ := bnv_some hf
      refine r_cv hp hA (va_runV (As := [.int l7, .int l4, .int l2, .int 0, .int 0]) (rest := []) ⟨hx, hb, hml, hown, hts⟩ (c_X9_piece l dC dI h0 ar ca l7 l4 l2 0 0 _ _ hc_32 _) (cwV 5 hts gq_X9_puts_X9_piece_298 rfl rfl rfl (by decide +kernel) ⟨Nat.le_of_ble_eq_true rfl, Nat.le_of_ble_eq_true rfl⟩) ⟨Pr.blind _, va_recv hK hp.1 (ci := 11) (q0 := 0) rfl rfl, r_pre hp hK hN hZ hA⟩ rfl rfl hl.1 rfl (lv_room (Nat.le_of_ble_eq_true rfl)) dX9_puts_95 ⟨Nat.le_of_ble_eq_true rfl, Nat.le_of_ble_eq_true rfl⟩) (fun H locs hp => ?_)
      refine lv_aload_n hx hb dX9_puts_98 rfl (lv_at hl 0 rfl) ?_
      refine r_gi hx hb hts iRX9 hown hK hp 36 (by decide) rfl (hts (.fieldLink RX9 278 "RecordBenchModel" "to" "I") (by decide +kernel)) dX9_puts_99 ?_
      obtain ⟨v_34, ev_34, hf⟩ := nam_some hf
      refine W_toi (y := v_34) ev_34.symm ?_
      refine lv_istore (lv' := [(8, .int v_34), (0, .ref h0), (1, .int l1), (2, .int l2), (3, .int l3), (4, .int l4), (5, .int l5), (6, .int l6), (7, .int l7)]) hx hb dX9_puts_102 hl (by decide) rfl (fun ls hl => ?_)
      refine lv_aload_n hx hb dX9_puts_104 rfl (lv_at hl 1 rfl) ?_
      refine lv_iload_n hx hb dX9_puts_105 rfl (lv_at hl 3 rfl) ?_
      refine lv_aload_n hx hb dX9_puts_106 rfl (lv_at hl 1 rfl) ?_
      refine r_gi hx hb hts iRX9 hown hK hp 33 (by decide) rfl (hts (.fieldLink RX9 263 "RecordBenchModel" "number" "I") (by decide +kernel)) dX9_puts_107 ?_
      obtain ⟨r_37, st_35, hc_36, hf⟩ := bnd_some hf
      refine r_ci hp hA (va_runV (As := [.int l2, .int (gI st_31 33)]) (rest := []) ⟨hx, hb, hml, hown, hts⟩ (c_X9_has l dC dI h0 ar ca l2 (gI st_31 33) _ _ _ hc_36 _) (cwV 2 hts gq_X9_puts_X9_has_246 rfl rfl rfl (by decide +kernel) ⟨Nat.le_of_ble_eq_true rfl, Nat.le_of_ble_eq_true rfl⟩) ⟨Pr.blind _, va_recv hK hp.1 (ci := 11) (q0 := 0) rfl rfl, r_pre hp hK hN hZ hA⟩ rfl rfl hl.1 rfl (lv_room (Nat.le_of_ble_eq_true rfl)) dX9_puts_110 ⟨Nat.le_of_ble_eq_true rfl, Nat.le_of_ble_eq_true rfl⟩) (fun H locs hp => ?_)
      refine lv_if_eq (tgt := 151) hx hb dX9_puts_113 (by decide) (fun c_38 => ?_) (fun c_38 => ?_)
      · have hf := pif_t c_38 hf
        exact J151 (l1, l2, l3, l4, l5, l6, l7, v_34, st_35) _ _ _ ⟨hf, hp, (lv_sub hl [1, 2, 3, 4, 5, 6, 7, 8, 0] rfl)⟩
      · have hf := pif_f c_38 hf
        refine lv_iload hx hb dX9_puts_116 (lv_at hl 6 rfl) ?_
        refine lv_if_le (tgt := 151) hx hb dX9_puts_118 (by decide) (fun c_39 => ?_) (fun c_39 => ?_)
        · have hf := pif_t c_39 hf
          exact J151 (l1, l2, l3, l4, l5, l6, l7, v_34, st_35) _ _ _ ⟨hf, hp, (lv_sub hl [1, 2, 3, 4, 5, 6, 7, 8, 0] rfl)⟩
        · have hf := pif_f c_39 hf
          refine lv_aload_n hx hb dX9_puts_121 rfl (lv_at hl 1 rfl) ?_
          refine r_ga hx hb hts iRX9 hown hK hp 2 (by decide) (by decide) (hts (.fieldLink RX9 17 "RecordBenchModel" "group" "[I") (by decide +kernel)) dX9_puts_122 ?_
          refine lv_bipush (v := 31) hx hb dX9_puts_125 (by decide) ?_
          refine lv_iload_n hx hb dX9_puts_127 rfl (lv_at hl 3 rfl) ?_
          refine lv_imul hx hb dX9_puts_128 ?_
          refine lv_aload_n hx hb dX9_puts_129 rfl (lv_at hl 1 rfl) ?_
          refine r_gi hx hb hts iRX9 hown hK hp 33 (by decide) rfl (hts (.fieldLink RX9 263 "RecordBenchModel" "number" "I") (by decide +kernel)) dX9_puts_130 ?_
          refine lv_iadd hx hb dX9_puts_133 ?_
          obtain ⟨g_40, hf⟩ := gd_some hf
          refine r_ai (n := 248) hx hb hK hp 2 2 rfl rfl rfl g_40 dX9_puts_134 ?_
          refine lv_iload hx hb dX9_puts_135 (lv_at hl 6 rfl) ?_
          refine lv_icmp_ne (tgt := 151) hx hb dX9_puts_137 (by decide) (fun c_41 => ?_) (fun c_41 => ?_)
          · have hf := pif_f c_41 hf
            exact J151 (l1, l2, l3, l4, l5, l6, l7, v_34, st_35) _ _ _ ⟨hf, hp, (lv_sub hl [1, 2, 3, 4, 5, 6, 7, 8, 0] rfl)⟩
          · have hf := pif_t c_41 hf
            refine lv_aload_n hx hb dX9_puts_140 rfl (lv_at hl 1 rfl) ?_
            refine r_gi hx hb hts iRX9 hown hK hp 56 (by decide) rfl (hts (.fieldLink RX9 337 "RecordBenchModel" "freshLong" "I") (by decide +kernel)) dX9_puts_141 ?_
            refine lv_if_le (tgt := 151) hx hb dX9_puts_144 (by decide) (fun c_42 => ?_) (fun c_42 => ?_)
            · have hf := pif_t c_42 hf
              exact J151 (l1, l2, l3, l4, l5, l6, l7, v_34, st_35) _ _ _ ⟨hf, hp, (lv_sub hl [1, 2, 3, 4, 5, 6, 7, 8, 0] rfl)⟩
            · have hf := pif_f c_42 hf
              refine lv_iconst (v := 1) hx hb dX9_puts_147 (by decide) ?_
              refine lv_goto (tgt := 152) hx hb dX9_puts_148 (by decide) ?_
              exact J152 (l1, l2, l3, l4, l5, l6, l7, v_34, 1, st_35) _ _ _ ⟨hf, hp, (lv_sub hl [1, 2, 3, 4, 5, 6, 7, 8, 0] rfl)⟩
  refine W_lp (fun n27 (u : Int32 × Int32 × Int32 × Int32 × Int32 × RS) H locs ls => match u with | (l1, l2, l3, l4, l5, st) => x9_puts_27 n27 l1 l2 l3 l4 l5 st = some (r, st') ∧ Rp (dC, dI) h0 ar ca A s.heap st H locs ∧ lv_has ls 11 [(0, .ref h0), (1, .int l1), (2, .int l2), (3, .int l3), (4, .int l4), (5, .int l5)]) (fun (u : Int32 × Int32 × Int32 × Int32 × Int32 × RS) ls => match u with | (l1, l2, l3, l4, l5, st) => F0 m 27 ls []) ?_ ?_ (fun J27 => ?_)
  · intro u H locs ls hu
    obtain ⟨l1, l2, l3, l4, l5, st⟩ := u
    obtain ⟨hf, hp, hl⟩ := hu
    rw [x9_puts_27_z] at hf
    cases hf
  · intro n27 ih27 u H locs ls hu
    obtain ⟨l1, l2, l3, l4, l5, st⟩ := u
    obtain ⟨hf, hp, hl⟩ := hu
    show W p l e _ s m _ below meth c _ _ _ _ _ (F0 m 27 ls [])
    rw [x9_puts_27_s] at hf
    refine lv_iload hx hb dX9_puts_27 (lv_at hl 5 rfl) ?_
    refine lv_iload hx hb dX9_puts_29 (lv_at hl 4 rfl) ?_
    refine lv_icmp_ge (tgt := 54) hx hb dX9_puts_31 (by decide) (fun c_43 => ?_) (fun c_43 => ?_)
    · have hf := pif_t c_43 hf
      refine lv_aload_n hx hb dX9_puts_54 rfl (lv_at hl 0 rfl) ?_
      refine r_ga hx hb hts iRX9 hown hK hp 53 (by decide) (by decide) (hts (.fieldLink RX9 117 "RecordBenchModel" "laidLong" "[I") (by decide +kernel)) dX9_puts_55 ?_
      refine lv_iconst (v := 0) hx hb dX9_puts_58 (by decide) ?_
      refine lv_iconst (v := 0) hx hb dX9_puts_59 (by decide) ?_
      obtain ⟨g_44, hf⟩ := gd_some hf
      refine r_si (n := 9) hx hb hK hp 24 53 rfl rfl rfl g_44 dX9_puts_60 (fun H locs hp => ?_)
      obtain ⟨st_45, est_45, hf⟩ := nam_some hf
      rw [← est_45] at hp
      refine lv_aload_n hx hb dX9_puts_61 rfl (lv_at hl 0 rfl) ?_
      refine r_ga hx hb hts iRX9 hown hK hp 2 (by decide) (by decide) (hts (.fieldLink RX9 17 "RecordBenchModel" "group" "[I") (by decide +kernel)) dX9_puts_62 ?_
      refine lv_bipush (v := 31) hx hb dX9_puts_65 (by decide) ?_
      refine lv_iload_n hx hb dX9_puts_67 rfl (lv_at hl 2 rfl) ?_
      refine lv_imul hx hb dX9_puts_68 ?_
      refine lv_iload_n hx hb dX9_puts_69 rfl (lv_at hl 3 rfl) ?_
      refine lv_iadd hx hb dX9_puts_70 ?_
      obtain ⟨g_46, hf⟩ := gd_some hf
      refine r_ai (n := 248) hx hb hK hp 2 2 rfl rfl rfl g_46 dX9_puts_71 ?_
      obtain ⟨v_47, ev_47, hf⟩ := nam_some hf
      refine W_toi (y := v_47) ev_47.symm ?_
      refine lv_istore (lv' := [(5, .int v_47), (0, .ref h0), (1, .int l1), (2, .int l2), (3, .int l3), (4, .int l4)]) hx hb dX9_puts_72 hl (by decide) rfl (fun ls hl => ?_)
      refine lv_iconst (v := 0) hx hb dX9_puts_74 (by decide) ?_
      refine lv_istore (lv' := [(6, .int 0), (5, .int v_47), (0, .ref h0), (1, .int l1), (2, .int l2), (3, .int l3), (4, .int l4)]) hx hb dX9_puts_75 hl (by decide) rfl (fun ls hl => ?_)
      refine lv_iconst (v := 0) hx hb dX9_puts_77 (by decide) ?_
      refine lv_istore (lv' := [(7, .int 0), (6, .int 0), (5, .int v_47), (0, .ref h0), (1, .int l1), (2, .int l2), (3, .int l3), (4, .int l4)]) hx hb dX9_puts_78 hl (by decide) rfl (fun ls hl => ?_)
      exact J80 fuel (l1, l2, l3, l4, v_47, 0, 0, st_45) _ _ _ ⟨hf, hp, (lv_sub hl [3, 4, 5, 6, 7, 2, 1, 0] rfl)⟩
    · have hf := pif_f c_43 hf
      refine lv_aload_n hx hb dX9_puts_34 rfl (lv_at hl 0 rfl) ?_
      refine r_ga hx hb hts iRX9 hown hK hp 30 (by decide) (by decide) (hts (.fieldLink RX9 81 "RecordBenchModel" "row" "[I") (by decide +kernel)) dX9_puts_35 ?_
      refine lv_iload hx hb dX9_puts_38 (lv_at hl 5 rfl) ?_
      refine lv_aload_n hx hb dX9_puts_40 rfl (lv_at hl 0 rfl) ?_
      refine r_ga hx hb hts iRX9 hown hK hp 52 (by decide) (by decide) (hts (.fieldLink RX9 114 "RecordBenchModel" "laid" "[I") (by decide +kernel)) dX9_puts_41 ?_
      refine lv_iload hx hb dX9_puts_44 (lv_at hl 5 rfl) ?_
      obtain ⟨g_48, hf⟩ := gd_some hf
      refine r_ai (n := 1440) hx hb hK hp 23 52 rfl rfl rfl g_48 dX9_puts_46 ?_
      obtain ⟨g_49, hf⟩ := gd_some hf
      refine r_si (n := 160) hx hb hK hp 12 30 rfl rfl rfl g_49 dX9_puts_47 (fun H locs hp => ?_)
      obtain ⟨st_50, est_50, hf⟩ := nam_some hf
      rw [← est_50] at hp
      obtain ⟨v_51, ev_51, hf⟩ := nam_some hf
      refine lv_iinc (v := v_51) (lv' := [(5, .int v_51), (0, .ref h0), (1, .int l1), (2, .int l2), (3, .int l3), (4, .int l4)]) hx hb dX9_puts_48 hl (k := 5) rfl ev_51.symm (by decide) rfl (fun ls hl => ?_)
      refine lv_goto (tgt := 27) hx hb dX9_puts_51 (by decide) ?_
      exact ih27 (l1, l2, l3, l4, v_51, st_50) _ _ _ ⟨hf, hp, (lv_sub hl [1, 2, 3, 4, 5, 0] rfl)⟩
  unfold x9_puts at hf
  refine lv_aload_n hx hb dX9_puts_0 rfl (lv_at hl 0 rfl) ?_
  refine lv_iload_n hx hb dX9_puts_1 rfl (lv_at hl 1 rfl) ?_
  obtain ⟨st_52, hc_53, hf⟩ := bnv_some hf
  refine r_cv hp hA (va_runV (As := [.int p0]) (rest := []) ⟨hx, hb, hml, hown, hts⟩ (c_X9_loads l dC dI h0 ar ca p0 _ _ hc_53 _) (cwV 1 hts gq_X9_puts_X9_loads_302 rfl rfl rfl (by decide +kernel) ⟨Nat.le_of_ble_eq_true rfl, Nat.le_of_ble_eq_true rfl⟩) ⟨Pr.blind _, va_recv hK hp.1 (ci := 11) (q0 := 0) rfl rfl, r_pre hp hK hN hZ hA⟩ rfl rfl hl.1 rfl (lv_room (Nat.le_of_ble_eq_true rfl)) dX9_puts_2 ⟨Nat.le_of_ble_eq_true rfl, Nat.le_of_ble_eq_true rfl⟩) (fun H locs hp => ?_)
  refine lv_aload_n hx hb dX9_puts_5 rfl (lv_at hl 0 rfl) ?_
  refine lv_aload_n hx hb dX9_puts_6 rfl (lv_at hl 0 rfl) ?_
  refine r_ga hx hb hts iRX9 hown hK hp 29 (by decide) (by decide) (hts (.fieldLink RX9 78 "RecordBenchModel" "long0" "[I") (by decide +kernel)) dX9_puts_7 ?_
  refine lv_iload_n hx hb dX9_puts_10 rfl (lv_at hl 1 rfl) ?_
  obtain ⟨g_55, hf⟩ := gd_some hf
  refine r_ai (n := 4) hx hb hK hp 11 29 rfl rfl rfl g_55 dX9_puts_11 ?_
  refine lv_iload_n hx hb dX9_puts_12 rfl (lv_at hl 2 rfl) ?_
  obtain ⟨st_56, hc_57, hf⟩ := bnv_some hf
  refine r_cv hp hA (va_runV (As := [.int (gF st_52 29 p0.toNatClampNeg), .int p1]) (rest := []) ⟨hx, hb, hml, hown, hts⟩ (c_X9_writes l dC dI h0 ar ca (gF st_52 29 p0.toNatClampNeg) p1 _ _ hc_57 _) (cwV 2 hts gq_X9_puts_X9_writes_331 rfl rfl rfl (by decide +kernel) ⟨Nat.le_of_ble_eq_true rfl, Nat.le_of_ble_eq_true rfl⟩) ⟨Pr.blind _, va_recv hK hp.1 (ci := 11) (q0 := 0) rfl rfl, r_pre hp hK hN hZ hA⟩ rfl rfl hl.1 rfl (lv_room (Nat.le_of_ble_eq_true rfl)) dX9_puts_13 ⟨Nat.le_of_ble_eq_true rfl, Nat.le_of_ble_eq_true rfl⟩) (fun H locs hp => ?_)
  refine lv_aload_n hx hb dX9_puts_16 rfl (lv_at hl 0 rfl) ?_
  refine r_ga hx hb hts iRX9 hown hK hp 53 (by decide) (by decide) (hts (.fieldLink RX9 117 "RecordBenchModel" "laidLong" "[I") (by decide +kernel)) dX9_puts_17 ?_
  refine lv_iconst (v := 0) hx hb dX9_puts_20 (by decide) ?_
  obtain ⟨g_59, hf⟩ := gd_some hf
  refine r_ai (n := 9) hx hb hK hp 24 53 rfl rfl rfl g_59 dX9_puts_21 ?_
  obtain ⟨v_60, ev_60, hf⟩ := nam_some hf
  refine W_toi (y := v_60) ev_60.symm ?_
  refine lv_istore (lv' := [(4, .int v_60), (0, .ref h0), (1, .int p0), (2, .int p1), (3, .int p2)]) hx hb dX9_puts_22 hl (by decide) rfl (fun ls hl => ?_)
  refine lv_iconst (v := 0) hx hb dX9_puts_24 (by decide) ?_
  refine lv_istore (lv' := [(5, .int 0), (4, .int v_60), (0, .ref h0), (1, .int p0), (2, .int p1), (3, .int p2)]) hx hb dX9_puts_25 hl (by decide) rfl (fun ls hl => ?_)
  exact J27 fuel (p0, p1, p2, v_60, 0, st_56) _ _ _ ⟨hf, hp, (lv_sub hl [2, 3, 4, 5, 1, 0] rfl)⟩
