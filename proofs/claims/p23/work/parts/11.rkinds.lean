theorem dX9_field_0 : decode cX9_field 0 = .ok (.aload_n 0, 1) := by decide +kernel
theorem dX9_field_1 : decode cX9_field 1 = .ok (.invokevirtual 150, 3) := by decide +kernel
theorem dX9_field_102 : decode cX9_field 102 = .ok (.ifCond .eq 4, 3) := by decide +kernel
theorem dX9_field_105 : decode cX9_field 105 = .ok (.return_, 1) := by decide +kernel
theorem dX9_field_106 : decode cX9_field 106 = .ok (.lload 4, 2) := by decide +kernel
theorem dX9_field_108 : decode cX9_field 108 = .ok (.aload_n 0, 1) := by decide +kernel
theorem dX9_field_109 : decode cX9_field 109 = .ok (.getfield 50, 3) := by decide +kernel
theorem dX9_field_11 : decode cX9_field 11 = .ok (.if_icmp .ne 12, 3) := by decide +kernel
theorem dX9_field_112 : decode cX9_field 112 = .ok (.lcmp, 1) := by decide +kernel
theorem dX9_field_113 : decode cX9_field 113 = .ok (.ifCond .ne 67, 3) := by decide +kernel
theorem dX9_field_116 : decode cX9_field 116 = .ok (.aload_n 0, 1) := by decide +kernel
theorem dX9_field_117 : decode cX9_field 117 = .ok (.invokevirtual 188, 3) := by decide +kernel
theorem dX9_field_120 : decode cX9_field 120 = .ok (.aload_n 0, 1) := by decide +kernel
theorem dX9_field_121 : decode cX9_field 121 = .ok (.bipush 59, 2) := by decide +kernel
theorem dX9_field_123 : decode cX9_field 123 = .ok (.invokevirtual 191, 3) := by decide +kernel
theorem dX9_field_126 : decode cX9_field 126 = .ok (.aload_n 0, 1) := by decide +kernel
theorem dX9_field_127 : decode cX9_field 127 = .ok (.getfield 135, 3) := by decide +kernel
theorem dX9_field_130 : decode cX9_field 130 = .ok (.ifCond .eq 4, 3) := by decide +kernel
theorem dX9_field_133 : decode cX9_field 133 = .ok (.return_, 1) := by decide +kernel
theorem dX9_field_134 : decode cX9_field 134 = .ok (.aload_n 0, 1) := by decide +kernel
theorem dX9_field_135 : decode cX9_field 135 = .ok (.getfield 36, 3) := by decide +kernel
theorem dX9_field_138 : decode cX9_field 138 = .ok (.iload_n 3, 1) := by decide +kernel
theorem dX9_field_139 : decode cX9_field 139 = .ok (.iconst 1, 1) := by decide +kernel
theorem dX9_field_14 : decode cX9_field 14 = .ok (.aload_n 0, 1) := by decide +kernel
theorem dX9_field_140 : decode cX9_field 140 = .ok (.bastore, 1) := by decide +kernel
theorem dX9_field_141 : decode cX9_field 141 = .ok (.aload_n 0, 1) := by decide +kernel
theorem dX9_field_142 : decode cX9_field 142 = .ok (.getfield 13, 3) := by decide +kernel
theorem dX9_field_145 : decode cX9_field 145 = .ok (.iload_n 3, 1) := by decide +kernel
theorem dX9_field_146 : decode cX9_field 146 = .ok (.iconst 0, 1) := by decide +kernel
theorem dX9_field_147 : decode cX9_field 147 = .ok (.iastore, 1) := by decide +kernel
theorem dX9_field_148 : decode cX9_field 148 = .ok (.aload_n 0, 1) := by decide +kernel
theorem dX9_field_149 : decode cX9_field 149 = .ok (.getfield 23, 3) := by decide +kernel
theorem dX9_field_15 : decode cX9_field 15 = .ok (.iconst 1, 1) := by decide +kernel
theorem dX9_field_152 : decode cX9_field 152 = .ok (.iload_n 3, 1) := by decide +kernel
theorem dX9_field_153 : decode cX9_field 153 = .ok (.iconst 0, 1) := by decide +kernel
theorem dX9_field_154 : decode cX9_field 154 = .ok (.iastore, 1) := by decide +kernel
theorem dX9_field_155 : decode cX9_field 155 = .ok (.aload_n 0, 1) := by decide +kernel
theorem dX9_field_156 : decode cX9_field 156 = .ok (.getfield 26, 3) := by decide +kernel
theorem dX9_field_159 : decode cX9_field 159 = .ok (.iload_n 3, 1) := by decide +kernel
theorem dX9_field_16 : decode cX9_field 16 = .ok (.aload_n 0, 1) := by decide +kernel
theorem dX9_field_160 : decode cX9_field 160 = .ok (.lconst 0, 1) := by decide +kernel
theorem dX9_field_161 : decode cX9_field 161 = .ok (.lastore, 1) := by decide +kernel
theorem dX9_field_162 : decode cX9_field 162 = .ok (.aload_n 0, 1) := by decide +kernel
theorem dX9_field_163 : decode cX9_field 163 = .ok (.getfield 17, 3) := by decide +kernel
theorem dX9_field_166 : decode cX9_field 166 = .ok (.iload_n 3, 1) := by decide +kernel
theorem dX9_field_167 : decode cX9_field 167 = .ok (.iconst 0, 1) := by decide +kernel
theorem dX9_field_168 : decode cX9_field 168 = .ok (.iastore, 1) := by decide +kernel
theorem dX9_field_169 : decode cX9_field 169 = .ok (.aload_n 0, 1) := by decide +kernel
theorem dX9_field_17 : decode cX9_field 17 = .ok (.getfield 147, 3) := by decide +kernel
theorem dX9_field_170 : decode cX9_field 170 = .ok (.dup, 1) := by decide +kernel
theorem dX9_field_171 : decode cX9_field 171 = .ok (.getfield 177, 3) := by decide +kernel
theorem dX9_field_174 : decode cX9_field 174 = .ok (.iconst 1, 1) := by decide +kernel
theorem dX9_field_175 : decode cX9_field 175 = .ok (.iadd, 1) := by decide +kernel
theorem dX9_field_176 : decode cX9_field 176 = .ok (.putfield 177, 3) := by decide +kernel
theorem dX9_field_179 : decode cX9_field 179 = .ok (.return_, 1) := by decide +kernel
theorem dX9_field_180 : decode cX9_field 180 = .ok (.aload_n 0, 1) := by decide +kernel
theorem dX9_field_181 : decode cX9_field 181 = .ok (.getfield 141, 3) := by decide +kernel
theorem dX9_field_184 : decode cX9_field 184 = .ok (.aload_n 0, 1) := by decide +kernel
theorem dX9_field_185 : decode cX9_field 185 = .ok (.getfield 162, 3) := by decide +kernel
theorem dX9_field_188 : decode cX9_field 188 = .ok (.if_icmp .eq 13, 3) := by decide +kernel
theorem dX9_field_191 : decode cX9_field 191 = .ok (.aload_n 0, 1) := by decide +kernel
theorem dX9_field_192 : decode cX9_field 192 = .ok (.lload 4, 2) := by decide +kernel
theorem dX9_field_194 : decode cX9_field 194 = .ok (.invokevirtual 195, 3) := by decide +kernel
theorem dX9_field_197 : decode cX9_field 197 = .ok (.iconst (-1), 1) := by decide +kernel
theorem dX9_field_198 : decode cX9_field 198 = .ok (.if_icmp .eq 15, 3) := by decide +kernel
theorem dX9_field_20 : decode cX9_field 20 = .ok (.invokevirtual 154, 3) := by decide +kernel
theorem dX9_field_201 : decode cX9_field 201 = .ok (.aload_n 0, 1) := by decide +kernel
theorem dX9_field_202 : decode cX9_field 202 = .ok (.iconst 1, 1) := by decide +kernel
theorem dX9_field_203 : decode cX9_field 203 = .ok (.aload_n 0, 1) := by decide +kernel
theorem dX9_field_204 : decode cX9_field 204 = .ok (.getfield 141, 3) := by decide +kernel
theorem dX9_field_207 : decode cX9_field 207 = .ok (.invokevirtual 154, 3) := by decide +kernel
theorem dX9_field_210 : decode cX9_field 210 = .ok (.goto 22, 3) := by decide +kernel
theorem dX9_field_213 : decode cX9_field 213 = .ok (.lload 4, 2) := by decide +kernel
theorem dX9_field_215 : decode cX9_field 215 = .ok (.lconst 0, 1) := by decide +kernel
theorem dX9_field_216 : decode cX9_field 216 = .ok (.lcmp, 1) := by decide +kernel
theorem dX9_field_217 : decode cX9_field 217 = .ok (.ifCond .ge 15, 3) := by decide +kernel
theorem dX9_field_220 : decode cX9_field 220 = .ok (.aload_n 0, 1) := by decide +kernel
theorem dX9_field_221 : decode cX9_field 221 = .ok (.iconst 1, 1) := by decide +kernel
theorem dX9_field_222 : decode cX9_field 222 = .ok (.aload_n 0, 1) := by decide +kernel
theorem dX9_field_223 : decode cX9_field 223 = .ok (.getfield 141, 3) := by decide +kernel
theorem dX9_field_226 : decode cX9_field 226 = .ok (.bipush 8, 2) := by decide +kernel
theorem dX9_field_228 : decode cX9_field 228 = .ok (.iadd, 1) := by decide +kernel
theorem dX9_field_229 : decode cX9_field 229 = .ok (.invokevirtual 154, 3) := by decide +kernel
theorem dX9_field_23 : decode cX9_field 23 = .ok (.aload_n 0, 1) := by decide +kernel
theorem dX9_field_232 : decode cX9_field 232 = .ok (.iconst 1, 1) := by decide +kernel
theorem dX9_field_233 : decode cX9_field 233 = .ok (.istore 6, 2) := by decide +kernel
theorem dX9_field_235 : decode cX9_field 235 = .ok (.iload 6, 2) := by decide +kernel
theorem dX9_field_237 : decode cX9_field 237 = .ok (.bipush 31, 2) := by decide +kernel
theorem dX9_field_239 : decode cX9_field 239 = .ok (.if_icmp .ge 58, 3) := by decide +kernel
theorem dX9_field_24 : decode cX9_field 24 = .ok (.getfield 135, 3) := by decide +kernel
theorem dX9_field_242 : decode cX9_field 242 = .ok (.aload_n 0, 1) := by decide +kernel
theorem dX9_field_243 : decode cX9_field 243 = .ok (.getfield 135, 3) := by decide +kernel
theorem dX9_field_246 : decode cX9_field 246 = .ok (.ifCond .ne 51, 3) := by decide +kernel
theorem dX9_field_249 : decode cX9_field 249 = .ok (.aload_n 0, 1) := by decide +kernel
theorem dX9_field_250 : decode cX9_field 250 = .ok (.getfield 36, 3) := by decide +kernel
theorem dX9_field_253 : decode cX9_field 253 = .ok (.bipush 31, 2) := by decide +kernel
theorem dX9_field_255 : decode cX9_field 255 = .ok (.iload_n 1, 1) := by decide +kernel
theorem dX9_field_256 : decode cX9_field 256 = .ok (.imul, 1) := by decide +kernel
theorem dX9_field_257 : decode cX9_field 257 = .ok (.iload 6, 2) := by decide +kernel
theorem dX9_field_259 : decode cX9_field 259 = .ok (.iadd, 1) := by decide +kernel
theorem dX9_field_260 : decode cX9_field 260 = .ok (.baload, 1) := by decide +kernel
theorem dX9_field_261 : decode cX9_field 261 = .ok (.ifCond .eq 30, 3) := by decide +kernel
theorem dX9_field_264 : decode cX9_field 264 = .ok (.aload_n 0, 1) := by decide +kernel
theorem dX9_field_265 : decode cX9_field 265 = .ok (.getfield 26, 3) := by decide +kernel
theorem dX9_field_268 : decode cX9_field 268 = .ok (.bipush 31, 2) := by decide +kernel
theorem dX9_field_27 : decode cX9_field 27 = .ok (.ifCond .ne 14, 3) := by decide +kernel
theorem dX9_field_270 : decode cX9_field 270 = .ok (.iload_n 1, 1) := by decide +kernel
theorem dX9_field_271 : decode cX9_field 271 = .ok (.imul, 1) := by decide +kernel
theorem dX9_field_272 : decode cX9_field 272 = .ok (.iload 6, 2) := by decide +kernel
theorem dX9_field_274 : decode cX9_field 274 = .ok (.iadd, 1) := by decide +kernel
theorem dX9_field_275 : decode cX9_field 275 = .ok (.laload, 1) := by decide +kernel
theorem dX9_field_276 : decode cX9_field 276 = .ok (.lload 4, 2) := by decide +kernel
theorem dX9_field_278 : decode cX9_field 278 = .ok (.lcmp, 1) := by decide +kernel
theorem dX9_field_279 : decode cX9_field 279 = .ok (.ifCond .ne 12, 3) := by decide +kernel
theorem dX9_field_282 : decode cX9_field 282 = .ok (.aload_n 0, 1) := by decide +kernel
theorem dX9_field_283 : decode cX9_field 283 = .ok (.iconst 3, 1) := by decide +kernel
theorem dX9_field_284 : decode cX9_field 284 = .ok (.aload_n 0, 1) := by decide +kernel
theorem dX9_field_285 : decode cX9_field 285 = .ok (.getfield 141, 3) := by decide +kernel
theorem dX9_field_288 : decode cX9_field 288 = .ok (.invokevirtual 154, 3) := by decide +kernel
theorem dX9_field_291 : decode cX9_field 291 = .ok (.iinc 6 1, 3) := by decide +kernel
theorem dX9_field_294 : decode cX9_field 294 = .ok (.goto (-59), 3) := by decide +kernel
theorem dX9_field_297 : decode cX9_field 297 = .ok (.aload_n 0, 1) := by decide +kernel
theorem dX9_field_298 : decode cX9_field 298 = .ok (.getfield 135, 3) := by decide +kernel
theorem dX9_field_30 : decode cX9_field 30 = .ok (.aload_n 0, 1) := by decide +kernel
theorem dX9_field_301 : decode cX9_field 301 = .ok (.ifCond .eq 4, 3) := by decide +kernel
theorem dX9_field_304 : decode cX9_field 304 = .ok (.return_, 1) := by decide +kernel
theorem dX9_field_305 : decode cX9_field 305 = .ok (.aload_n 0, 1) := by decide +kernel
theorem dX9_field_306 : decode cX9_field 306 = .ok (.invokevirtual 172, 3) := by decide +kernel
theorem dX9_field_309 : decode cX9_field 309 = .ok (.aload_n 0, 1) := by decide +kernel
theorem dX9_field_31 : decode cX9_field 31 = .ok (.iconst 2, 1) := by decide +kernel
theorem dX9_field_310 : decode cX9_field 310 = .ok (.getfield 141, 3) := by decide +kernel
theorem dX9_field_313 : decode cX9_field 313 = .ok (.isub, 1) := by decide +kernel
theorem dX9_field_314 : decode cX9_field 314 = .ok (.istore 6, 2) := by decide +kernel
theorem dX9_field_316 : decode cX9_field 316 = .ok (.aload_n 0, 1) := by decide +kernel
theorem dX9_field_317 : decode cX9_field 317 = .ok (.invokevirtual 188, 3) := by decide +kernel
theorem dX9_field_32 : decode cX9_field 32 = .ok (.iconst 1, 1) := by decide +kernel
theorem dX9_field_320 : decode cX9_field 320 = .ok (.aload_n 0, 1) := by decide +kernel
theorem dX9_field_321 : decode cX9_field 321 = .ok (.aload_n 0, 1) := by decide +kernel
theorem dX9_field_322 : decode cX9_field 322 = .ok (.invokevirtual 184, 3) := by decide +kernel
theorem dX9_field_325 : decode cX9_field 325 = .ok (.invokevirtual 195, 3) := by decide +kernel
theorem dX9_field_328 : decode cX9_field 328 = .ok (.istore 7, 2) := by decide +kernel
theorem dX9_field_33 : decode cX9_field 33 = .ok (.bipush 30, 2) := by decide +kernel
theorem dX9_field_330 : decode cX9_field 330 = .ok (.iload 7, 2) := by decide +kernel
theorem dX9_field_332 : decode cX9_field 332 = .ok (.iconst (-1), 1) := by decide +kernel
theorem dX9_field_333 : decode cX9_field 333 = .ok (.if_icmp .ne 12, 3) := by decide +kernel
theorem dX9_field_336 : decode cX9_field 336 = .ok (.aload_n 0, 1) := by decide +kernel
theorem dX9_field_337 : decode cX9_field 337 = .ok (.iconst 1, 1) := by decide +kernel
theorem dX9_field_338 : decode cX9_field 338 = .ok (.aload_n 0, 1) := by decide +kernel
theorem dX9_field_339 : decode cX9_field 339 = .ok (.getfield 141, 3) := by decide +kernel
theorem dX9_field_342 : decode cX9_field 342 = .ok (.invokevirtual 154, 3) := by decide +kernel
theorem dX9_field_345 : decode cX9_field 345 = .ok (.aload_n 0, 1) := by decide +kernel
theorem dX9_field_346 : decode cX9_field 346 = .ok (.getfield 135, 3) := by decide +kernel
theorem dX9_field_349 : decode cX9_field 349 = .ok (.ifCond .eq 4, 3) := by decide +kernel
theorem dX9_field_35 : decode cX9_field 35 = .ok (.invokevirtual 180, 3) := by decide +kernel
theorem dX9_field_352 : decode cX9_field 352 = .ok (.return_, 1) := by decide +kernel
theorem dX9_field_353 : decode cX9_field 353 = .ok (.aload_n 0, 1) := by decide +kernel
theorem dX9_field_354 : decode cX9_field 354 = .ok (.invokevirtual 188, 3) := by decide +kernel
theorem dX9_field_357 : decode cX9_field 357 = .ok (.aload_n 0, 1) := by decide +kernel
theorem dX9_field_358 : decode cX9_field 358 = .ok (.iload_n 1, 1) := by decide +kernel
theorem dX9_field_359 : decode cX9_field 359 = .ok (.iload_n 3, 1) := by decide +kernel
theorem dX9_field_360 : decode cX9_field 360 = .ok (.iload 7, 2) := by decide +kernel
theorem dX9_field_362 : decode cX9_field 362 = .ok (.invokevirtual 199, 3) := by decide +kernel
theorem dX9_field_365 : decode cX9_field 365 = .ok (.aload_n 0, 1) := by decide +kernel
theorem dX9_field_366 : decode cX9_field 366 = .ok (.getfield 135, 3) := by decide +kernel
theorem dX9_field_369 : decode cX9_field 369 = .ok (.ifCond .eq 4, 3) := by decide +kernel
theorem dX9_field_372 : decode cX9_field 372 = .ok (.return_, 1) := by decide +kernel
theorem dX9_field_373 : decode cX9_field 373 = .ok (.aload_n 0, 1) := by decide +kernel
theorem dX9_field_374 : decode cX9_field 374 = .ok (.getfield 36, 3) := by decide +kernel
theorem dX9_field_377 : decode cX9_field 377 = .ok (.iload_n 3, 1) := by decide +kernel
theorem dX9_field_378 : decode cX9_field 378 = .ok (.iconst 1, 1) := by decide +kernel
theorem dX9_field_379 : decode cX9_field 379 = .ok (.bastore, 1) := by decide +kernel
theorem dX9_field_38 : decode cX9_field 38 = .ok (.goto 4, 3) := by decide +kernel
theorem dX9_field_380 : decode cX9_field 380 = .ok (.aload_n 0, 1) := by decide +kernel
theorem dX9_field_381 : decode cX9_field 381 = .ok (.getfield 13, 3) := by decide +kernel
theorem dX9_field_384 : decode cX9_field 384 = .ok (.iload_n 3, 1) := by decide +kernel
theorem dX9_field_385 : decode cX9_field 385 = .ok (.iload 7, 2) := by decide +kernel
theorem dX9_field_387 : decode cX9_field 387 = .ok (.iastore, 1) := by decide +kernel
theorem dX9_field_388 : decode cX9_field 388 = .ok (.aload_n 0, 1) := by decide +kernel
theorem dX9_field_389 : decode cX9_field 389 = .ok (.getfield 23, 3) := by decide +kernel
theorem dX9_field_392 : decode cX9_field 392 = .ok (.iload_n 3, 1) := by decide +kernel
theorem dX9_field_393 : decode cX9_field 393 = .ok (.iload 6, 2) := by decide +kernel
theorem dX9_field_395 : decode cX9_field 395 = .ok (.iastore, 1) := by decide +kernel
theorem dX9_field_396 : decode cX9_field 396 = .ok (.aload_n 0, 1) := by decide +kernel
theorem dX9_field_397 : decode cX9_field 397 = .ok (.getfield 26, 3) := by decide +kernel
theorem dX9_field_4 : decode cX9_field 4 = .ok (.pop, 1) := by decide +kernel
theorem dX9_field_400 : decode cX9_field 400 = .ok (.iload_n 3, 1) := by decide +kernel
theorem dX9_field_401 : decode cX9_field 401 = .ok (.lload 4, 2) := by decide +kernel
theorem dX9_field_403 : decode cX9_field 403 = .ok (.lastore, 1) := by decide +kernel
theorem dX9_field_404 : decode cX9_field 404 = .ok (.aload_n 0, 1) := by decide +kernel
theorem dX9_field_405 : decode cX9_field 405 = .ok (.dup, 1) := by decide +kernel
theorem dX9_field_406 : decode cX9_field 406 = .ok (.getfield 177, 3) := by decide +kernel
theorem dX9_field_409 : decode cX9_field 409 = .ok (.iconst 1, 1) := by decide +kernel
theorem dX9_field_41 : decode cX9_field 41 = .ok (.iconst 0, 1) := by decide +kernel
theorem dX9_field_410 : decode cX9_field 410 = .ok (.iadd, 1) := by decide +kernel
theorem dX9_field_411 : decode cX9_field 411 = .ok (.putfield 177, 3) := by decide +kernel
theorem dX9_field_414 : decode cX9_field 414 = .ok (.return_, 1) := by decide +kernel
theorem dX9_field_42 : decode cX9_field 42 = .ok (.istore_n 2, 1) := by decide +kernel
theorem dX9_field_43 : decode cX9_field 43 = .ok (.aload_n 0, 1) := by decide +kernel
theorem dX9_field_44 : decode cX9_field 44 = .ok (.getfield 135, 3) := by decide +kernel
theorem dX9_field_47 : decode cX9_field 47 = .ok (.ifCond .eq 4, 3) := by decide +kernel
theorem dX9_field_5 : decode cX9_field 5 = .ok (.aload_n 0, 1) := by decide +kernel
theorem dX9_field_50 : decode cX9_field 50 = .ok (.return_, 1) := by decide +kernel
theorem dX9_field_51 : decode cX9_field 51 = .ok (.bipush 31, 2) := by decide +kernel
theorem dX9_field_53 : decode cX9_field 53 = .ok (.iload_n 1, 1) := by decide +kernel
theorem dX9_field_54 : decode cX9_field 54 = .ok (.imul, 1) := by decide +kernel
theorem dX9_field_55 : decode cX9_field 55 = .ok (.iload_n 2, 1) := by decide +kernel
theorem dX9_field_56 : decode cX9_field 56 = .ok (.iadd, 1) := by decide +kernel
theorem dX9_field_57 : decode cX9_field 57 = .ok (.istore_n 3, 1) := by decide +kernel
theorem dX9_field_58 : decode cX9_field 58 = .ok (.aload_n 0, 1) := by decide +kernel
theorem dX9_field_59 : decode cX9_field 59 = .ok (.getfield 36, 3) := by decide +kernel
theorem dX9_field_6 : decode cX9_field 6 = .ok (.getfield 177, 3) := by decide +kernel
theorem dX9_field_62 : decode cX9_field 62 = .ok (.iload_n 3, 1) := by decide +kernel
theorem dX9_field_63 : decode cX9_field 63 = .ok (.baload, 1) := by decide +kernel
theorem dX9_field_64 : decode cX9_field 64 = .ok (.ifCond .eq 12, 3) := by decide +kernel
theorem dX9_field_67 : decode cX9_field 67 = .ok (.aload_n 0, 1) := by decide +kernel
theorem dX9_field_68 : decode cX9_field 68 = .ok (.iconst 3, 1) := by decide +kernel
theorem dX9_field_69 : decode cX9_field 69 = .ok (.aload_n 0, 1) := by decide +kernel
theorem dX9_field_70 : decode cX9_field 70 = .ok (.getfield 147, 3) := by decide +kernel
theorem dX9_field_73 : decode cX9_field 73 = .ok (.invokevirtual 154, 3) := by decide +kernel
theorem dX9_field_76 : decode cX9_field 76 = .ok (.aload_n 0, 1) := by decide +kernel
theorem dX9_field_77 : decode cX9_field 77 = .ok (.invokevirtual 184, 3) := by decide +kernel
theorem dX9_field_80 : decode cX9_field 80 = .ok (.lstore 4, 2) := by decide +kernel
theorem dX9_field_82 : decode cX9_field 82 = .ok (.lload 4, 2) := by decide +kernel
theorem dX9_field_84 : decode cX9_field 84 = .ok (.lconst 0, 1) := by decide +kernel
theorem dX9_field_85 : decode cX9_field 85 = .ok (.lcmp, 1) := by decide +kernel
theorem dX9_field_86 : decode cX9_field 86 = .ok (.ifCond .ne 12, 3) := by decide +kernel
theorem dX9_field_89 : decode cX9_field 89 = .ok (.aload_n 0, 1) := by decide +kernel
theorem dX9_field_9 : decode cX9_field 9 = .ok (.bipush 10, 2) := by decide +kernel
theorem dX9_field_90 : decode cX9_field 90 = .ok (.iconst 1, 1) := by decide +kernel
theorem dX9_field_91 : decode cX9_field 91 = .ok (.aload_n 0, 1) := by decide +kernel
theorem dX9_field_92 : decode cX9_field 92 = .ok (.getfield 141, 3) := by decide +kernel
theorem dX9_field_95 : decode cX9_field 95 = .ok (.invokevirtual 154, 3) := by decide +kernel
theorem dX9_field_98 : decode cX9_field 98 = .ok (.aload_n 0, 1) := by decide +kernel
theorem dX9_field_99 : decode cX9_field 99 = .ok (.getfield 135, 3) := by decide +kernel
theorem dX9_isOf_0 : decode cX9_isOf 0 = .ok (.iload_n 2, 1) := by decide +kernel
theorem dX9_isOf_1 : decode cX9_isOf 1 = .ok (.iconst 1, 1) := by decide +kernel
theorem dX9_isOf_11 : decode cX9_isOf 11 = .ok (.lload_n 0, 1) := by decide +kernel
theorem dX9_isOf_12 : decode cX9_isOf 12 = .ok (.lconst 1, 1) := by decide +kernel
theorem dX9_isOf_13 : decode cX9_isOf 13 = .ok (.lcmp, 1) := by decide +kernel
theorem dX9_isOf_14 : decode cX9_isOf 14 = .ok (.ifCond .ne 7, 3) := by decide +kernel
theorem dX9_isOf_17 : decode cX9_isOf 17 = .ok (.iconst 1, 1) := by decide +kernel
theorem dX9_isOf_18 : decode cX9_isOf 18 = .ok (.goto 62, 3) := by decide +kernel
theorem dX9_isOf_2 : decode cX9_isOf 2 = .ok (.if_icmp .ne 23, 3) := by decide +kernel
theorem dX9_isOf_21 : decode cX9_isOf 21 = .ok (.iconst 0, 1) := by decide +kernel
theorem dX9_isOf_22 : decode cX9_isOf 22 = .ok (.goto 58, 3) := by decide +kernel
theorem dX9_isOf_25 : decode cX9_isOf 25 = .ok (.iload_n 2, 1) := by decide +kernel
theorem dX9_isOf_26 : decode cX9_isOf 26 = .ok (.iconst 2, 1) := by decide +kernel
theorem dX9_isOf_27 : decode cX9_isOf 27 = .ok (.if_icmp .ne 27, 3) := by decide +kernel
theorem dX9_isOf_30 : decode cX9_isOf 30 = .ok (.lload_n 0, 1) := by decide +kernel
theorem dX9_isOf_31 : decode cX9_isOf 31 = .ok (.ldc2_w 215, 3) := by decide +kernel
theorem dX9_isOf_34 : decode cX9_isOf 34 = .ok (.lcmp, 1) := by decide +kernel
theorem dX9_isOf_35 : decode cX9_isOf 35 = .ok (.ifCond .lt 15, 3) := by decide +kernel
theorem dX9_isOf_38 : decode cX9_isOf 38 = .ok (.lload_n 0, 1) := by decide +kernel
theorem dX9_isOf_39 : decode cX9_isOf 39 = .ok (.ldc2_w 217, 3) := by decide +kernel
theorem dX9_isOf_42 : decode cX9_isOf 42 = .ok (.lcmp, 1) := by decide +kernel
theorem dX9_isOf_43 : decode cX9_isOf 43 = .ok (.ifCond .gt 7, 3) := by decide +kernel
theorem dX9_isOf_46 : decode cX9_isOf 46 = .ok (.iconst 1, 1) := by decide +kernel
theorem dX9_isOf_47 : decode cX9_isOf 47 = .ok (.goto 33, 3) := by decide +kernel
theorem dX9_isOf_5 : decode cX9_isOf 5 = .ok (.lload_n 0, 1) := by decide +kernel
theorem dX9_isOf_50 : decode cX9_isOf 50 = .ok (.iconst 0, 1) := by decide +kernel
theorem dX9_isOf_51 : decode cX9_isOf 51 = .ok (.goto 29, 3) := by decide +kernel
theorem dX9_isOf_54 : decode cX9_isOf 54 = .ok (.iload_n 2, 1) := by decide +kernel
theorem dX9_isOf_55 : decode cX9_isOf 55 = .ok (.iconst 4, 1) := by decide +kernel
theorem dX9_isOf_56 : decode cX9_isOf 56 = .ok (.if_icmp .eq 19, 3) := by decide +kernel
theorem dX9_isOf_59 : decode cX9_isOf 59 = .ok (.lload_n 0, 1) := by decide +kernel
theorem dX9_isOf_6 : decode cX9_isOf 6 = .ok (.lconst 0, 1) := by decide +kernel
theorem dX9_isOf_60 : decode cX9_isOf 60 = .ok (.ldc2_w 219, 3) := by decide +kernel
theorem dX9_isOf_63 : decode cX9_isOf 63 = .ok (.lcmp, 1) := by decide +kernel
theorem dX9_isOf_64 : decode cX9_isOf 64 = .ok (.ifCond .lt 15, 3) := by decide +kernel
theorem dX9_isOf_67 : decode cX9_isOf 67 = .ok (.lload_n 0, 1) := by decide +kernel
theorem dX9_isOf_68 : decode cX9_isOf 68 = .ok (.ldc2_w 221, 3) := by decide +kernel
theorem dX9_isOf_7 : decode cX9_isOf 7 = .ok (.lcmp, 1) := by decide +kernel
theorem dX9_isOf_71 : decode cX9_isOf 71 = .ok (.lcmp, 1) := by decide +kernel
theorem dX9_isOf_72 : decode cX9_isOf 72 = .ok (.ifCond .gt 7, 3) := by decide +kernel
theorem dX9_isOf_75 : decode cX9_isOf 75 = .ok (.iconst 1, 1) := by decide +kernel
theorem dX9_isOf_76 : decode cX9_isOf 76 = .ok (.goto 4, 3) := by decide +kernel
theorem dX9_isOf_79 : decode cX9_isOf 79 = .ok (.iconst 0, 1) := by decide +kernel
theorem dX9_isOf_8 : decode cX9_isOf 8 = .ok (.ifCond .eq 9, 3) := by decide +kernel
theorem dX9_isOf_80 : decode cX9_isOf 80 = .ok (.ireturn, 1) := by decide +kernel
theorem dX9_kinds_0 : decode cX9_kinds 0 = .ok (.aload_n 0, 1) := by decide +kernel
theorem dX9_kinds_1 : decode cX9_kinds 1 = .ok (.getfield 20, 3) := by decide +kernel
theorem dX9_kinds_100 : decode cX9_kinds 100 = .ok (.aload_n 0, 1) := by decide +kernel
theorem dX9_kinds_101 : decode cX9_kinds 101 = .ok (.invokevirtual 188, 3) := by decide +kernel
theorem dX9_kinds_104 : decode cX9_kinds 104 = .ok (.aload_n 0, 1) := by decide +kernel
theorem dX9_kinds_105 : decode cX9_kinds 105 = .ok (.getfield 135, 3) := by decide +kernel
theorem dX9_kinds_108 : decode cX9_kinds 108 = .ok (.ifCond .ne 13, 3) := by decide +kernel
theorem dX9_kinds_11 : decode cX9_kinds 11 = .ok (.iload_n 2, 1) := by decide +kernel
theorem dX9_kinds_111 : decode cX9_kinds 111 = .ok (.aload_n 0, 1) := by decide +kernel
theorem dX9_kinds_112 : decode cX9_kinds 112 = .ok (.getfield 17, 3) := by decide +kernel
theorem dX9_kinds_115 : decode cX9_kinds 115 = .ok (.iload_n 2, 1) := by decide +kernel
theorem dX9_kinds_116 : decode cX9_kinds 116 = .ok (.aload_n 0, 1) := by decide +kernel
theorem dX9_kinds_117 : decode cX9_kinds 117 = .ok (.invokevirtual 203, 3) := by decide +kernel
theorem dX9_kinds_12 : decode cX9_kinds 12 = .ok (.iconst 0, 1) := by decide +kernel
theorem dX9_kinds_120 : decode cX9_kinds 120 = .ok (.iastore, 1) := by decide +kernel
theorem dX9_kinds_121 : decode cX9_kinds 121 = .ok (.aload_n 0, 1) := by decide +kernel
theorem dX9_kinds_122 : decode cX9_kinds 122 = .ok (.getfield 135, 3) := by decide +kernel
theorem dX9_kinds_125 : decode cX9_kinds 125 = .ok (.ifCond .ne 32, 3) := by decide +kernel
theorem dX9_kinds_128 : decode cX9_kinds 128 = .ok (.aload_n 0, 1) := by decide +kernel
theorem dX9_kinds_129 : decode cX9_kinds 129 = .ok (.getfield 17, 3) := by decide +kernel
theorem dX9_kinds_13 : decode cX9_kinds 13 = .ok (.iastore, 1) := by decide +kernel
theorem dX9_kinds_132 : decode cX9_kinds 132 = .ok (.iload_n 2, 1) := by decide +kernel
theorem dX9_kinds_133 : decode cX9_kinds 133 = .ok (.iaload, 1) := by decide +kernel
theorem dX9_kinds_134 : decode cX9_kinds 134 = .ok (.iconst 1, 1) := by decide +kernel
theorem dX9_kinds_135 : decode cX9_kinds 135 = .ok (.if_icmp .lt 13, 3) := by decide +kernel
theorem dX9_kinds_138 : decode cX9_kinds 138 = .ok (.aload_n 0, 1) := by decide +kernel
theorem dX9_kinds_139 : decode cX9_kinds 139 = .ok (.getfield 17, 3) := by decide +kernel
theorem dX9_kinds_14 : decode cX9_kinds 14 = .ok (.aload_n 0, 1) := by decide +kernel
theorem dX9_kinds_142 : decode cX9_kinds 142 = .ok (.iload_n 2, 1) := by decide +kernel
theorem dX9_kinds_143 : decode cX9_kinds 143 = .ok (.iaload, 1) := by decide +kernel
theorem dX9_kinds_144 : decode cX9_kinds 144 = .ok (.iconst 3, 1) := by decide +kernel
theorem dX9_kinds_145 : decode cX9_kinds 145 = .ok (.if_icmp .le 12, 3) := by decide +kernel
theorem dX9_kinds_148 : decode cX9_kinds 148 = .ok (.aload_n 0, 1) := by decide +kernel
theorem dX9_kinds_149 : decode cX9_kinds 149 = .ok (.iconst 1, 1) := by decide +kernel
theorem dX9_kinds_15 : decode cX9_kinds 15 = .ok (.getfield 30, 3) := by decide +kernel
theorem dX9_kinds_150 : decode cX9_kinds 150 = .ok (.aload_n 0, 1) := by decide +kernel
theorem dX9_kinds_151 : decode cX9_kinds 151 = .ok (.getfield 147, 3) := by decide +kernel
theorem dX9_kinds_154 : decode cX9_kinds 154 = .ok (.invokevirtual 154, 3) := by decide +kernel
theorem dX9_kinds_157 : decode cX9_kinds 157 = .ok (.aload_n 0, 1) := by decide +kernel
theorem dX9_kinds_158 : decode cX9_kinds 158 = .ok (.invokevirtual 206, 3) := by decide +kernel
theorem dX9_kinds_161 : decode cX9_kinds 161 = .ok (.aload_n 0, 1) := by decide +kernel
theorem dX9_kinds_162 : decode cX9_kinds 162 = .ok (.getfield 135, 3) := by decide +kernel
theorem dX9_kinds_165 : decode cX9_kinds 165 = .ok (.ifCond .ne 47, 3) := by decide +kernel
theorem dX9_kinds_168 : decode cX9_kinds 168 = .ok (.aload_n 0, 1) := by decide +kernel
theorem dX9_kinds_169 : decode cX9_kinds 169 = .ok (.invokevirtual 150, 3) := by decide +kernel
theorem dX9_kinds_172 : decode cX9_kinds 172 = .ok (.bipush 61, 2) := by decide +kernel
theorem dX9_kinds_174 : decode cX9_kinds 174 = .ok (.if_icmp .ne 38, 3) := by decide +kernel
theorem dX9_kinds_177 : decode cX9_kinds 177 = .ok (.iload_n 3, 1) := by decide +kernel
theorem dX9_kinds_178 : decode cX9_kinds 178 = .ok (.bipush 6, 2) := by decide +kernel
theorem dX9_kinds_18 : decode cX9_kinds 18 = .ok (.iload_n 2, 1) := by decide +kernel
theorem dX9_kinds_180 : decode cX9_kinds 180 = .ok (.if_icmp .eq 32, 3) := by decide +kernel
theorem dX9_kinds_183 : decode cX9_kinds 183 = .ok (.aload_n 0, 1) := by decide +kernel
theorem dX9_kinds_184 : decode cX9_kinds 184 = .ok (.dup, 1) := by decide +kernel
theorem dX9_kinds_185 : decode cX9_kinds 185 = .ok (.getfield 141, 3) := by decide +kernel
theorem dX9_kinds_188 : decode cX9_kinds 188 = .ok (.iconst 1, 1) := by decide +kernel
theorem dX9_kinds_189 : decode cX9_kinds 189 = .ok (.iadd, 1) := by decide +kernel
theorem dX9_kinds_19 : decode cX9_kinds 19 = .ok (.lconst 0, 1) := by decide +kernel
theorem dX9_kinds_190 : decode cX9_kinds 190 = .ok (.putfield 141, 3) := by decide +kernel
theorem dX9_kinds_193 : decode cX9_kinds 193 = .ok (.iload_n 3, 1) := by decide +kernel
theorem dX9_kinds_194 : decode cX9_kinds 194 = .ok (.iconst 5, 1) := by decide +kernel
theorem dX9_kinds_195 : decode cX9_kinds 195 = .ok (.if_icmp .ne 11, 3) := by decide +kernel
theorem dX9_kinds_198 : decode cX9_kinds 198 = .ok (.aload_n 0, 1) := by decide +kernel
theorem dX9_kinds_199 : decode cX9_kinds 199 = .ok (.iload_n 2, 1) := by decide +kernel
theorem dX9_kinds_20 : decode cX9_kinds 20 = .ok (.lastore, 1) := by decide +kernel
theorem dX9_kinds_200 : decode cX9_kinds 200 = .ok (.invokevirtual 209, 3) := by decide +kernel
theorem dX9_kinds_203 : decode cX9_kinds 203 = .ok (.goto 9, 3) := by decide +kernel
theorem dX9_kinds_206 : decode cX9_kinds 206 = .ok (.aload_n 0, 1) := by decide +kernel
theorem dX9_kinds_207 : decode cX9_kinds 207 = .ok (.iload_n 2, 1) := by decide +kernel
theorem dX9_kinds_208 : decode cX9_kinds 208 = .ok (.iload_n 3, 1) := by decide +kernel
theorem dX9_kinds_209 : decode cX9_kinds 209 = .ok (.invokevirtual 212, 3) := by decide +kernel
theorem dX9_kinds_21 : decode cX9_kinds 21 = .ok (.iload_n 3, 1) := by decide +kernel
theorem dX9_kinds_212 : decode cX9_kinds 212 = .ok (.aload_n 0, 1) := by decide +kernel
theorem dX9_kinds_213 : decode cX9_kinds 213 = .ok (.getfield 135, 3) := by decide +kernel
theorem dX9_kinds_216 : decode cX9_kinds 216 = .ok (.ifCond .ne 9, 3) := by decide +kernel
theorem dX9_kinds_219 : decode cX9_kinds 219 = .ok (.aload_n 0, 1) := by decide +kernel
theorem dX9_kinds_22 : decode cX9_kinds 22 = .ok (.bipush 6, 2) := by decide +kernel
theorem dX9_kinds_220 : decode cX9_kinds 220 = .ok (.bipush 59, 2) := by decide +kernel
theorem dX9_kinds_222 : decode cX9_kinds 222 = .ok (.invokevirtual 191, 3) := by decide +kernel
theorem dX9_kinds_225 : decode cX9_kinds 225 = .ok (.return_, 1) := by decide +kernel
theorem dX9_kinds_24 : decode cX9_kinds 24 = .ok (.if_icmp .ne 57, 3) := by decide +kernel
theorem dX9_kinds_27 : decode cX9_kinds 27 = .ok (.aload_n 0, 1) := by decide +kernel
theorem dX9_kinds_28 : decode cX9_kinds 28 = .ok (.getfield 20, 3) := by decide +kernel
theorem dX9_kinds_31 : decode cX9_kinds 31 = .ok (.iload_n 2, 1) := by decide +kernel
theorem dX9_kinds_32 : decode cX9_kinds 32 = .ok (.aload_n 0, 1) := by decide +kernel
theorem dX9_kinds_33 : decode cX9_kinds 33 = .ok (.invokevirtual 203, 3) := by decide +kernel
theorem dX9_kinds_36 : decode cX9_kinds 36 = .ok (.iastore, 1) := by decide +kernel
theorem dX9_kinds_37 : decode cX9_kinds 37 = .ok (.aload_n 0, 1) := by decide +kernel
theorem dX9_kinds_38 : decode cX9_kinds 38 = .ok (.getfield 135, 3) := by decide +kernel
theorem dX9_kinds_4 : decode cX9_kinds 4 = .ok (.iload_n 2, 1) := by decide +kernel
theorem dX9_kinds_41 : decode cX9_kinds 41 = .ok (.ifCond .ne 36, 3) := by decide +kernel
theorem dX9_kinds_44 : decode cX9_kinds 44 = .ok (.aload_n 0, 1) := by decide +kernel
theorem dX9_kinds_45 : decode cX9_kinds 45 = .ok (.getfield 20, 3) := by decide +kernel
theorem dX9_kinds_48 : decode cX9_kinds 48 = .ok (.iload_n 2, 1) := by decide +kernel
theorem dX9_kinds_49 : decode cX9_kinds 49 = .ok (.iaload, 1) := by decide +kernel
theorem dX9_kinds_5 : decode cX9_kinds 5 = .ok (.iconst (-1), 1) := by decide +kernel
theorem dX9_kinds_50 : decode cX9_kinds 50 = .ok (.iload_n 1, 1) := by decide +kernel
theorem dX9_kinds_51 : decode cX9_kinds 51 = .ok (.if_icmp .ge 17, 3) := by decide +kernel
theorem dX9_kinds_54 : decode cX9_kinds 54 = .ok (.aload_n 0, 1) := by decide +kernel
theorem dX9_kinds_55 : decode cX9_kinds 55 = .ok (.getfield 7, 3) := by decide +kernel
theorem dX9_kinds_58 : decode cX9_kinds 58 = .ok (.aload_n 0, 1) := by decide +kernel
theorem dX9_kinds_59 : decode cX9_kinds 59 = .ok (.getfield 20, 3) := by decide +kernel
theorem dX9_kinds_6 : decode cX9_kinds 6 = .ok (.iastore, 1) := by decide +kernel
theorem dX9_kinds_62 : decode cX9_kinds 62 = .ok (.iload_n 2, 1) := by decide +kernel
theorem dX9_kinds_63 : decode cX9_kinds 63 = .ok (.iaload, 1) := by decide +kernel
theorem dX9_kinds_64 : decode cX9_kinds 64 = .ok (.baload, 1) := by decide +kernel
theorem dX9_kinds_65 : decode cX9_kinds 65 = .ok (.ifCond .ne 12, 3) := by decide +kernel
theorem dX9_kinds_68 : decode cX9_kinds 68 = .ok (.aload_n 0, 1) := by decide +kernel
theorem dX9_kinds_69 : decode cX9_kinds 69 = .ok (.iconst 2, 1) := by decide +kernel
theorem dX9_kinds_7 : decode cX9_kinds 7 = .ok (.aload_n 0, 1) := by decide +kernel
theorem dX9_kinds_70 : decode cX9_kinds 70 = .ok (.aload_n 0, 1) := by decide +kernel
theorem dX9_kinds_71 : decode cX9_kinds 71 = .ok (.getfield 147, 3) := by decide +kernel
theorem dX9_kinds_74 : decode cX9_kinds 74 = .ok (.invokevirtual 154, 3) := by decide +kernel
theorem dX9_kinds_77 : decode cX9_kinds 77 = .ok (.aload_n 0, 1) := by decide +kernel
theorem dX9_kinds_78 : decode cX9_kinds 78 = .ok (.invokevirtual 206, 3) := by decide +kernel
theorem dX9_kinds_8 : decode cX9_kinds 8 = .ok (.getfield 17, 3) := by decide +kernel
theorem dX9_kinds_81 : decode cX9_kinds 81 = .ok (.aload_n 0, 1) := by decide +kernel
theorem dX9_kinds_82 : decode cX9_kinds 82 = .ok (.getfield 135, 3) := by decide +kernel
theorem dX9_kinds_85 : decode cX9_kinds 85 = .ok (.ifCond .ne 76, 3) := by decide +kernel
theorem dX9_kinds_88 : decode cX9_kinds 88 = .ok (.aload_n 0, 1) := by decide +kernel
theorem dX9_kinds_89 : decode cX9_kinds 89 = .ok (.invokevirtual 184, 3) := by decide +kernel
theorem dX9_kinds_92 : decode cX9_kinds 92 = .ok (.aload_n 0, 1) := by decide +kernel
theorem dX9_kinds_93 : decode cX9_kinds 93 = .ok (.getfield 72, 3) := by decide +kernel
theorem dX9_kinds_96 : decode cX9_kinds 96 = .ok (.lcmp, 1) := by decide +kernel
theorem dX9_kinds_97 : decode cX9_kinds 97 = .ok (.ifCond .ne 64, 3) := by decide +kernel
theorem dX9_make_0 : decode cX9_make 0 = .ok (.iload_n 1, 1) := by decide +kernel
theorem dX9_make_1 : decode cX9_make 1 = .ok (.ifCond .lt 18, 3) := by decide +kernel
theorem dX9_make_10 : decode cX9_make 10 = .ok (.aload_n 0, 1) := by decide +kernel
theorem dX9_make_101 : decode cX9_make 101 = .ok (.aload_n 0, 1) := by decide +kernel
theorem dX9_make_102 : decode cX9_make 102 = .ok (.iload_n 1, 1) := by decide +kernel
theorem dX9_make_103 : decode cX9_make 103 = .ok (.invokevirtual 233, 3) := by decide +kernel
theorem dX9_make_106 : decode cX9_make 106 = .ok (.goto (-20), 3) := by decide +kernel
theorem dX9_make_109 : decode cX9_make 109 = .ok (.aload_n 0, 1) := by decide +kernel
theorem dX9_make_11 : decode cX9_make 11 = .ok (.getfield 7, 3) := by decide +kernel
theorem dX9_make_110 : decode cX9_make 110 = .ok (.aload_n 0, 1) := by decide +kernel
theorem dX9_make_111 : decode cX9_make 111 = .ok (.getfield 135, 3) := by decide +kernel
theorem dX9_make_114 : decode cX9_make 114 = .ok (.putfield 236, 3) := by decide +kernel
theorem dX9_make_117 : decode cX9_make 117 = .ok (.aload_n 0, 1) := by decide +kernel
theorem dX9_make_118 : decode cX9_make 118 = .ok (.aload_n 0, 1) := by decide +kernel
theorem dX9_make_119 : decode cX9_make 119 = .ok (.getfield 138, 3) := by decide +kernel
theorem dX9_make_122 : decode cX9_make 122 = .ok (.putfield 42, 3) := by decide +kernel
theorem dX9_make_125 : decode cX9_make 125 = .ok (.aload_n 0, 1) := by decide +kernel
theorem dX9_make_126 : decode cX9_make 126 = .ok (.getfield 135, 3) := by decide +kernel
theorem dX9_make_129 : decode cX9_make 129 = .ok (.ifCond .eq 5, 3) := by decide +kernel
theorem dX9_make_132 : decode cX9_make 132 = .ok (.iconst (-1), 1) := by decide +kernel
theorem dX9_make_133 : decode cX9_make 133 = .ok (.ireturn, 1) := by decide +kernel
theorem dX9_make_134 : decode cX9_make 134 = .ok (.aload_n 0, 1) := by decide +kernel
theorem dX9_make_135 : decode cX9_make 135 = .ok (.getfield 7, 3) := by decide +kernel
theorem dX9_make_138 : decode cX9_make 138 = .ok (.iload_n 1, 1) := by decide +kernel
theorem dX9_make_139 : decode cX9_make 139 = .ok (.iconst 1, 1) := by decide +kernel
theorem dX9_make_14 : decode cX9_make 14 = .ok (.iload_n 1, 1) := by decide +kernel
theorem dX9_make_140 : decode cX9_make 140 = .ok (.bastore, 1) := by decide +kernel
theorem dX9_make_141 : decode cX9_make 141 = .ok (.aload_n 0, 1) := by decide +kernel
theorem dX9_make_142 : decode cX9_make 142 = .ok (.getfield 177, 3) := by decide +kernel
theorem dX9_make_145 : decode cX9_make 145 = .ok (.ireturn, 1) := by decide +kernel
theorem dX9_make_15 : decode cX9_make 15 = .ok (.baload, 1) := by decide +kernel
theorem dX9_make_16 : decode cX9_make 16 = .ok (.ifCond .eq 6, 3) := by decide +kernel
theorem dX9_make_19 : decode cX9_make 19 = .ok (.bipush (-2), 2) := by decide +kernel
theorem dX9_make_21 : decode cX9_make 21 = .ok (.ireturn, 1) := by decide +kernel
theorem dX9_make_22 : decode cX9_make 22 = .ok (.aload_n 0, 1) := by decide +kernel
theorem dX9_make_23 : decode cX9_make 23 = .ok (.iconst 0, 1) := by decide +kernel
theorem dX9_make_24 : decode cX9_make 24 = .ok (.putfield 141, 3) := by decide +kernel
theorem dX9_make_27 : decode cX9_make 27 = .ok (.aload_n 0, 1) := by decide +kernel
theorem dX9_make_28 : decode cX9_make 28 = .ok (.aload_n 0, 1) := by decide +kernel
theorem dX9_make_29 : decode cX9_make 29 = .ok (.getfield 132, 3) := by decide +kernel
theorem dX9_make_32 : decode cX9_make 32 = .ok (.putfield 144, 3) := by decide +kernel
theorem dX9_make_35 : decode cX9_make 35 = .ok (.aload_n 0, 1) := by decide +kernel
theorem dX9_make_36 : decode cX9_make 36 = .ok (.iconst 0, 1) := by decide +kernel
theorem dX9_make_37 : decode cX9_make 37 = .ok (.putfield 132, 3) := by decide +kernel
theorem dX9_make_4 : decode cX9_make 4 = .ok (.iload_n 1, 1) := by decide +kernel
theorem dX9_make_40 : decode cX9_make 40 = .ok (.aload_n 0, 1) := by decide +kernel
theorem dX9_make_41 : decode cX9_make 41 = .ok (.iconst 0, 1) := by decide +kernel
theorem dX9_make_42 : decode cX9_make 42 = .ok (.putfield 135, 3) := by decide +kernel
theorem dX9_make_45 : decode cX9_make 45 = .ok (.aload_n 0, 1) := by decide +kernel
theorem dX9_make_46 : decode cX9_make 46 = .ok (.iconst (-1), 1) := by decide +kernel
theorem dX9_make_47 : decode cX9_make 47 = .ok (.putfield 138, 3) := by decide +kernel
theorem dX9_make_5 : decode cX9_make 5 = .ok (.bipush 8, 2) := by decide +kernel
theorem dX9_make_50 : decode cX9_make 50 = .ok (.aload_n 0, 1) := by decide +kernel
theorem dX9_make_51 : decode cX9_make 51 = .ok (.iconst (-1), 1) := by decide +kernel
theorem dX9_make_52 : decode cX9_make 52 = .ok (.putfield 162, 3) := by decide +kernel
theorem dX9_make_55 : decode cX9_make 55 = .ok (.aload_n 0, 1) := by decide +kernel
theorem dX9_make_56 : decode cX9_make 56 = .ok (.iconst 0, 1) := by decide +kernel
theorem dX9_make_57 : decode cX9_make 57 = .ok (.putfield 177, 3) := by decide +kernel
theorem dX9_make_60 : decode cX9_make 60 = .ok (.iconst 0, 1) := by decide +kernel
theorem dX9_make_61 : decode cX9_make 61 = .ok (.istore_n 2, 1) := by decide +kernel
theorem dX9_make_62 : decode cX9_make 62 = .ok (.iload_n 2, 1) := by decide +kernel
theorem dX9_make_63 : decode cX9_make 63 = .ok (.bipush 31, 2) := by decide +kernel
theorem dX9_make_65 : decode cX9_make 65 = .ok (.if_icmp .ge 21, 3) := by decide +kernel
theorem dX9_make_68 : decode cX9_make 68 = .ok (.aload_n 0, 1) := by decide +kernel
theorem dX9_make_69 : decode cX9_make 69 = .ok (.getfield 36, 3) := by decide +kernel
theorem dX9_make_7 : decode cX9_make 7 = .ok (.if_icmp .ge 12, 3) := by decide +kernel
theorem dX9_make_72 : decode cX9_make 72 = .ok (.bipush 31, 2) := by decide +kernel
theorem dX9_make_74 : decode cX9_make 74 = .ok (.iload_n 1, 1) := by decide +kernel
theorem dX9_make_75 : decode cX9_make 75 = .ok (.imul, 1) := by decide +kernel
theorem dX9_make_76 : decode cX9_make 76 = .ok (.iload_n 2, 1) := by decide +kernel
theorem dX9_make_77 : decode cX9_make 77 = .ok (.iadd, 1) := by decide +kernel
theorem dX9_make_78 : decode cX9_make 78 = .ok (.iconst 0, 1) := by decide +kernel
theorem dX9_make_79 : decode cX9_make 79 = .ok (.bastore, 1) := by decide +kernel
theorem dX9_make_80 : decode cX9_make 80 = .ok (.iinc 2 1, 3) := by decide +kernel
theorem dX9_make_83 : decode cX9_make 83 = .ok (.goto (-21), 3) := by decide +kernel
theorem dX9_make_86 : decode cX9_make 86 = .ok (.aload_n 0, 1) := by decide +kernel
theorem dX9_make_87 : decode cX9_make 87 = .ok (.getfield 135, 3) := by decide +kernel
theorem dX9_make_90 : decode cX9_make 90 = .ok (.ifCond .ne 19, 3) := by decide +kernel
theorem dX9_make_93 : decode cX9_make 93 = .ok (.aload_n 0, 1) := by decide +kernel
theorem dX9_make_94 : decode cX9_make 94 = .ok (.invokevirtual 150, 3) := by decide +kernel
theorem dX9_make_97 : decode cX9_make 97 = .ok (.iconst (-1), 1) := by decide +kernel
theorem dX9_make_98 : decode cX9_make 98 = .ok (.if_icmp .eq 11, 3) := by decide +kernel
theorem dX9_textValue_0 : decode cX9_textValue 0 = .ok (.aload_n 0, 1) := by decide +kernel
theorem dX9_textValue_1 : decode cX9_textValue 1 = .ok (.bipush 34, 2) := by decide +kernel
theorem dX9_textValue_100 : decode cX9_textValue 100 = .ok (.iadd, 1) := by decide +kernel
theorem dX9_textValue_101 : decode cX9_textValue 101 = .ok (.aload_n 0, 1) := by decide +kernel
theorem dX9_textValue_102 : decode cX9_textValue 102 = .ok (.getfield 39, 3) := by decide +kernel
theorem dX9_textValue_105 : decode cX9_textValue 105 = .ok (.aload_n 0, 1) := by decide +kernel
theorem dX9_textValue_106 : decode cX9_textValue 106 = .ok (.getfield 141, 3) := by decide +kernel
theorem dX9_textValue_109 : decode cX9_textValue 109 = .ok (.iaload, 1) := by decide +kernel
theorem dX9_textValue_110 : decode cX9_textValue 110 = .ok (.iastore, 1) := by decide +kernel
theorem dX9_textValue_111 : decode cX9_textValue 111 = .ok (.iinc 2 1, 3) := by decide +kernel
theorem dX9_textValue_114 : decode cX9_textValue 114 = .ok (.aload_n 0, 1) := by decide +kernel
theorem dX9_textValue_115 : decode cX9_textValue 115 = .ok (.dup, 1) := by decide +kernel
theorem dX9_textValue_116 : decode cX9_textValue 116 = .ok (.getfield 141, 3) := by decide +kernel
theorem dX9_textValue_119 : decode cX9_textValue 119 = .ok (.iconst 1, 1) := by decide +kernel
theorem dX9_textValue_12 : decode cX9_textValue 12 = .ok (.ifCond .ne 115, 3) := by decide +kernel
theorem dX9_textValue_120 : decode cX9_textValue 120 = .ok (.iadd, 1) := by decide +kernel
theorem dX9_textValue_121 : decode cX9_textValue 121 = .ok (.putfield 141, 3) := by decide +kernel
theorem dX9_textValue_124 : decode cX9_textValue 124 = .ok (.goto (-116), 3) := by decide +kernel
theorem dX9_textValue_127 : decode cX9_textValue 127 = .ok (.aload_n 0, 1) := by decide +kernel
theorem dX9_textValue_128 : decode cX9_textValue 128 = .ok (.getfield 141, 3) := by decide +kernel
theorem dX9_textValue_131 : decode cX9_textValue 131 = .ok (.aload_n 0, 1) := by decide +kernel
theorem dX9_textValue_132 : decode cX9_textValue 132 = .ok (.getfield 144, 3) := by decide +kernel
theorem dX9_textValue_135 : decode cX9_textValue 135 = .ok (.if_icmp .ne 12, 3) := by decide +kernel
theorem dX9_textValue_138 : decode cX9_textValue 138 = .ok (.aload_n 0, 1) := by decide +kernel
theorem dX9_textValue_139 : decode cX9_textValue 139 = .ok (.iconst 1, 1) := by decide +kernel
theorem dX9_textValue_140 : decode cX9_textValue 140 = .ok (.aload_n 0, 1) := by decide +kernel
theorem dX9_textValue_141 : decode cX9_textValue 141 = .ok (.getfield 141, 3) := by decide +kernel
theorem dX9_textValue_144 : decode cX9_textValue 144 = .ok (.invokevirtual 154, 3) := by decide +kernel
theorem dX9_textValue_147 : decode cX9_textValue 147 = .ok (.aload_n 0, 1) := by decide +kernel
theorem dX9_textValue_148 : decode cX9_textValue 148 = .ok (.dup, 1) := by decide +kernel
theorem dX9_textValue_149 : decode cX9_textValue 149 = .ok (.getfield 141, 3) := by decide +kernel
theorem dX9_textValue_15 : decode cX9_textValue 15 = .ok (.aload_n 0, 1) := by decide +kernel
theorem dX9_textValue_152 : decode cX9_textValue 152 = .ok (.iconst 1, 1) := by decide +kernel
theorem dX9_textValue_153 : decode cX9_textValue 153 = .ok (.iadd, 1) := by decide +kernel
theorem dX9_textValue_154 : decode cX9_textValue 154 = .ok (.putfield 141, 3) := by decide +kernel
theorem dX9_textValue_157 : decode cX9_textValue 157 = .ok (.aload_n 0, 1) := by decide +kernel
theorem dX9_textValue_158 : decode cX9_textValue 158 = .ok (.getfield 30, 3) := by decide +kernel
theorem dX9_textValue_16 : decode cX9_textValue 16 = .ok (.getfield 141, 3) := by decide +kernel
theorem dX9_textValue_161 : decode cX9_textValue 161 = .ok (.iload_n 1, 1) := by decide +kernel
theorem dX9_textValue_162 : decode cX9_textValue 162 = .ok (.iload_n 2, 1) := by decide +kernel
theorem dX9_textValue_163 : decode cX9_textValue 163 = .ok (.i2l, 1) := by decide +kernel
theorem dX9_textValue_164 : decode cX9_textValue 164 = .ok (.lastore, 1) := by decide +kernel
theorem dX9_textValue_165 : decode cX9_textValue 165 = .ok (.return_, 1) := by decide +kernel
theorem dX9_textValue_19 : decode cX9_textValue 19 = .ok (.aload_n 0, 1) := by decide +kernel
theorem dX9_textValue_20 : decode cX9_textValue 20 = .ok (.getfield 144, 3) := by decide +kernel
theorem dX9_textValue_23 : decode cX9_textValue 23 = .ok (.if_icmp .ge 104, 3) := by decide +kernel
theorem dX9_textValue_26 : decode cX9_textValue 26 = .ok (.aload_n 0, 1) := by decide +kernel
theorem dX9_textValue_27 : decode cX9_textValue 27 = .ok (.getfield 39, 3) := by decide +kernel
theorem dX9_textValue_3 : decode cX9_textValue 3 = .ok (.invokevirtual 191, 3) := by decide +kernel
theorem dX9_textValue_30 : decode cX9_textValue 30 = .ok (.aload_n 0, 1) := by decide +kernel
theorem dX9_textValue_31 : decode cX9_textValue 31 = .ok (.getfield 141, 3) := by decide +kernel
theorem dX9_textValue_34 : decode cX9_textValue 34 = .ok (.iaload, 1) := by decide +kernel
theorem dX9_textValue_35 : decode cX9_textValue 35 = .ok (.bipush 34, 2) := by decide +kernel
theorem dX9_textValue_37 : decode cX9_textValue 37 = .ok (.if_icmp .eq 90, 3) := by decide +kernel
theorem dX9_textValue_40 : decode cX9_textValue 40 = .ok (.iload_n 2, 1) := by decide +kernel
theorem dX9_textValue_41 : decode cX9_textValue 41 = .ok (.bipush 12, 2) := by decide +kernel
theorem dX9_textValue_43 : decode cX9_textValue 43 = .ok (.if_icmp .eq 31, 3) := by decide +kernel
theorem dX9_textValue_46 : decode cX9_textValue 46 = .ok (.aload_n 0, 1) := by decide +kernel
theorem dX9_textValue_47 : decode cX9_textValue 47 = .ok (.getfield 39, 3) := by decide +kernel
theorem dX9_textValue_50 : decode cX9_textValue 50 = .ok (.aload_n 0, 1) := by decide +kernel
theorem dX9_textValue_51 : decode cX9_textValue 51 = .ok (.getfield 141, 3) := by decide +kernel
theorem dX9_textValue_54 : decode cX9_textValue 54 = .ok (.iaload, 1) := by decide +kernel
theorem dX9_textValue_55 : decode cX9_textValue 55 = .ok (.bipush 32, 2) := by decide +kernel
theorem dX9_textValue_57 : decode cX9_textValue 57 = .ok (.if_icmp .lt 17, 3) := by decide +kernel
theorem dX9_textValue_6 : decode cX9_textValue 6 = .ok (.iconst 0, 1) := by decide +kernel
theorem dX9_textValue_60 : decode cX9_textValue 60 = .ok (.aload_n 0, 1) := by decide +kernel
theorem dX9_textValue_61 : decode cX9_textValue 61 = .ok (.getfield 39, 3) := by decide +kernel
theorem dX9_textValue_64 : decode cX9_textValue 64 = .ok (.aload_n 0, 1) := by decide +kernel
theorem dX9_textValue_65 : decode cX9_textValue 65 = .ok (.getfield 141, 3) := by decide +kernel
theorem dX9_textValue_68 : decode cX9_textValue 68 = .ok (.iaload, 1) := by decide +kernel
theorem dX9_textValue_69 : decode cX9_textValue 69 = .ok (.bipush 126, 2) := by decide +kernel
theorem dX9_textValue_7 : decode cX9_textValue 7 = .ok (.istore_n 2, 1) := by decide +kernel
theorem dX9_textValue_71 : decode cX9_textValue 71 = .ok (.if_icmp .le 12, 3) := by decide +kernel
theorem dX9_textValue_74 : decode cX9_textValue 74 = .ok (.aload_n 0, 1) := by decide +kernel
theorem dX9_textValue_75 : decode cX9_textValue 75 = .ok (.iconst 1, 1) := by decide +kernel
theorem dX9_textValue_76 : decode cX9_textValue 76 = .ok (.aload_n 0, 1) := by decide +kernel
theorem dX9_textValue_77 : decode cX9_textValue 77 = .ok (.getfield 141, 3) := by decide +kernel
theorem dX9_textValue_8 : decode cX9_textValue 8 = .ok (.aload_n 0, 1) := by decide +kernel
theorem dX9_textValue_80 : decode cX9_textValue 80 = .ok (.invokevirtual 154, 3) := by decide +kernel
theorem dX9_textValue_83 : decode cX9_textValue 83 = .ok (.aload_n 0, 1) := by decide +kernel
theorem dX9_textValue_84 : decode cX9_textValue 84 = .ok (.getfield 135, 3) := by decide +kernel
theorem dX9_textValue_87 : decode cX9_textValue 87 = .ok (.ifCond .eq 4, 3) := by decide +kernel
theorem dX9_textValue_9 : decode cX9_textValue 9 = .ok (.getfield 135, 3) := by decide +kernel
theorem dX9_textValue_90 : decode cX9_textValue 90 = .ok (.return_, 1) := by decide +kernel
theorem dX9_textValue_91 : decode cX9_textValue 91 = .ok (.aload_n 0, 1) := by decide +kernel
theorem dX9_textValue_92 : decode cX9_textValue 92 = .ok (.getfield 33, 3) := by decide +kernel
theorem dX9_textValue_95 : decode cX9_textValue 95 = .ok (.bipush 12, 2) := by decide +kernel
theorem dX9_textValue_97 : decode cX9_textValue 97 = .ok (.iload_n 1, 1) := by decide +kernel
theorem dX9_textValue_98 : decode cX9_textValue 98 = .ok (.imul, 1) := by decide +kernel
theorem dX9_textValue_99 : decode cX9_textValue 99 = .ok (.iload_n 2, 1) := by decide +kernel
theorem dX9_value_0 : decode cX9_value 0 = .ok (.aload_n 0, 1) := by decide +kernel
theorem dX9_value_1 : decode cX9_value 1 = .ok (.invokevirtual 150, 3) := by decide +kernel
theorem dX9_value_10 : decode cX9_value 10 = .ok (.aload_n 0, 1) := by decide +kernel
theorem dX9_value_101 : decode cX9_value 101 = .ok (.isub, 1) := by decide +kernel
theorem dX9_value_102 : decode cX9_value 102 = .ok (.bipush 19, 2) := by decide +kernel
theorem dX9_value_104 : decode cX9_value 104 = .ok (.if_icmp .ne 13, 3) := by decide +kernel
theorem dX9_value_107 : decode cX9_value 107 = .ok (.aload_n 0, 1) := by decide +kernel
theorem dX9_value_108 : decode cX9_value 108 = .ok (.iconst 1, 1) := by decide +kernel
theorem dX9_value_109 : decode cX9_value 109 = .ok (.aload_n 0, 1) := by decide +kernel
theorem dX9_value_11 : decode cX9_value 11 = .ok (.getfield 141, 3) := by decide +kernel
theorem dX9_value_110 : decode cX9_value 110 = .ok (.getfield 141, 3) := by decide +kernel
theorem dX9_value_113 : decode cX9_value 113 = .ok (.invokevirtual 154, 3) := by decide +kernel
theorem dX9_value_116 : decode cX9_value 116 = .ok (.return_, 1) := by decide +kernel
theorem dX9_value_117 : decode cX9_value 117 = .ok (.aload_n 0, 1) := by decide +kernel
theorem dX9_value_118 : decode cX9_value 118 = .ok (.getfield 39, 3) := by decide +kernel
theorem dX9_value_121 : decode cX9_value 121 = .ok (.aload_n 0, 1) := by decide +kernel
theorem dX9_value_122 : decode cX9_value 122 = .ok (.getfield 141, 3) := by decide +kernel
theorem dX9_value_125 : decode cX9_value 125 = .ok (.iaload, 1) := by decide +kernel
theorem dX9_value_126 : decode cX9_value 126 = .ok (.bipush 48, 2) := by decide +kernel
theorem dX9_value_128 : decode cX9_value 128 = .ok (.isub, 1) := by decide +kernel
theorem dX9_value_129 : decode cX9_value 129 = .ok (.istore 9, 2) := by decide +kernel
theorem dX9_value_131 : decode cX9_value 131 = .ok (.iload 8, 2) := by decide +kernel
theorem dX9_value_133 : decode cX9_value 133 = .ok (.ifCond .ne 28, 3) := by decide +kernel
theorem dX9_value_136 : decode cX9_value 136 = .ok (.lload 6, 2) := by decide +kernel
theorem dX9_value_138 : decode cX9_value 138 = .ok (.ldc2_w 223, 3) := by decide +kernel
theorem dX9_value_14 : decode cX9_value 14 = .ok (.aload_n 0, 1) := by decide +kernel
theorem dX9_value_141 : decode cX9_value 141 = .ok (.lcmp, 1) := by decide +kernel
theorem dX9_value_142 : decode cX9_value 142 = .ok (.ifCond .lt 19, 3) := by decide +kernel
theorem dX9_value_145 : decode cX9_value 145 = .ok (.lload 6, 2) := by decide +kernel
theorem dX9_value_147 : decode cX9_value 147 = .ok (.ldc2_w 223, 3) := by decide +kernel
theorem dX9_value_15 : decode cX9_value 15 = .ok (.getfield 144, 3) := by decide +kernel
theorem dX9_value_150 : decode cX9_value 150 = .ok (.lcmp, 1) := by decide +kernel
theorem dX9_value_151 : decode cX9_value 151 = .ok (.ifCond .ne 14, 3) := by decide +kernel
theorem dX9_value_154 : decode cX9_value 154 = .ok (.iload 9, 2) := by decide +kernel
theorem dX9_value_156 : decode cX9_value 156 = .ok (.bipush 8, 2) := by decide +kernel
theorem dX9_value_158 : decode cX9_value 158 = .ok (.if_icmp .le 7, 3) := by decide +kernel
theorem dX9_value_161 : decode cX9_value 161 = .ok (.iconst 1, 1) := by decide +kernel
theorem dX9_value_162 : decode cX9_value 162 = .ok (.goto 4, 3) := by decide +kernel
theorem dX9_value_165 : decode cX9_value 165 = .ok (.iconst 0, 1) := by decide +kernel
theorem dX9_value_166 : decode cX9_value 166 = .ok (.istore 8, 2) := by decide +kernel
theorem dX9_value_168 : decode cX9_value 168 = .ok (.iload 8, 2) := by decide +kernel
theorem dX9_value_170 : decode cX9_value 170 = .ok (.ifCond .ne 15, 3) := by decide +kernel
theorem dX9_value_173 : decode cX9_value 173 = .ok (.ldc2_w 225, 3) := by decide +kernel
theorem dX9_value_176 : decode cX9_value 176 = .ok (.lload 6, 2) := by decide +kernel
theorem dX9_value_178 : decode cX9_value 178 = .ok (.lmul, 1) := by decide +kernel
theorem dX9_value_179 : decode cX9_value 179 = .ok (.iload 9, 2) := by decide +kernel
theorem dX9_value_18 : decode cX9_value 18 = .ok (.if_icmp .ge 21, 3) := by decide +kernel
theorem dX9_value_181 : decode cX9_value 181 = .ok (.i2l, 1) := by decide +kernel
theorem dX9_value_182 : decode cX9_value 182 = .ok (.lsub, 1) := by decide +kernel
theorem dX9_value_183 : decode cX9_value 183 = .ok (.lstore 6, 2) := by decide +kernel
theorem dX9_value_185 : decode cX9_value 185 = .ok (.aload_n 0, 1) := by decide +kernel
theorem dX9_value_186 : decode cX9_value 186 = .ok (.dup, 1) := by decide +kernel
theorem dX9_value_187 : decode cX9_value 187 = .ok (.getfield 141, 3) := by decide +kernel
theorem dX9_value_190 : decode cX9_value 190 = .ok (.iconst 1, 1) := by decide +kernel
theorem dX9_value_191 : decode cX9_value 191 = .ok (.iadd, 1) := by decide +kernel
theorem dX9_value_192 : decode cX9_value 192 = .ok (.putfield 141, 3) := by decide +kernel
theorem dX9_value_195 : decode cX9_value 195 = .ok (.goto (-126), 3) := by decide +kernel
theorem dX9_value_198 : decode cX9_value 198 = .ok (.aload_n 0, 1) := by decide +kernel
theorem dX9_value_199 : decode cX9_value 199 = .ok (.getfield 141, 3) := by decide +kernel
theorem dX9_value_202 : decode cX9_value 202 = .ok (.iload 5, 2) := by decide +kernel
theorem dX9_value_204 : decode cX9_value 204 = .ok (.if_icmp .ne 13, 3) := by decide +kernel
theorem dX9_value_207 : decode cX9_value 207 = .ok (.aload_n 0, 1) := by decide +kernel
theorem dX9_value_208 : decode cX9_value 208 = .ok (.iconst 1, 1) := by decide +kernel
theorem dX9_value_209 : decode cX9_value 209 = .ok (.aload_n 0, 1) := by decide +kernel
theorem dX9_value_21 : decode cX9_value 21 = .ok (.aload_n 0, 1) := by decide +kernel
theorem dX9_value_210 : decode cX9_value 210 = .ok (.getfield 141, 3) := by decide +kernel
theorem dX9_value_213 : decode cX9_value 213 = .ok (.invokevirtual 154, 3) := by decide +kernel
theorem dX9_value_216 : decode cX9_value 216 = .ok (.return_, 1) := by decide +kernel
theorem dX9_value_217 : decode cX9_value 217 = .ok (.aload_n 0, 1) := by decide +kernel
theorem dX9_value_218 : decode cX9_value 218 = .ok (.aload_n 0, 1) := by decide +kernel
theorem dX9_value_219 : decode cX9_value 219 = .ok (.getfield 141, 3) := by decide +kernel
theorem dX9_value_22 : decode cX9_value 22 = .ok (.getfield 39, 3) := by decide +kernel
theorem dX9_value_222 : decode cX9_value 222 = .ok (.putfield 162, 3) := by decide +kernel
theorem dX9_value_225 : decode cX9_value 225 = .ok (.iload 4, 2) := by decide +kernel
theorem dX9_value_227 : decode cX9_value 227 = .ok (.ifCond .ne 15, 3) := by decide +kernel
theorem dX9_value_230 : decode cX9_value 230 = .ok (.lload 6, 2) := by decide +kernel
theorem dX9_value_232 : decode cX9_value 232 = .ok (.ldc2_w 227, 3) := by decide +kernel
theorem dX9_value_235 : decode cX9_value 235 = .ok (.lcmp, 1) := by decide +kernel
theorem dX9_value_236 : decode cX9_value 236 = .ok (.ifCond .ne 6, 3) := by decide +kernel
theorem dX9_value_239 : decode cX9_value 239 = .ok (.iconst 1, 1) := by decide +kernel
theorem dX9_value_240 : decode cX9_value 240 = .ok (.istore 8, 2) := by decide +kernel
theorem dX9_value_242 : decode cX9_value 242 = .ok (.iload 4, 2) := by decide +kernel
theorem dX9_value_244 : decode cX9_value 244 = .ok (.ifCond .ne 9, 3) := by decide +kernel
theorem dX9_value_247 : decode cX9_value 247 = .ok (.lconst 0, 1) := by decide +kernel
theorem dX9_value_248 : decode cX9_value 248 = .ok (.lload 6, 2) := by decide +kernel
theorem dX9_value_25 : decode cX9_value 25 = .ok (.aload_n 0, 1) := by decide +kernel
theorem dX9_value_250 : decode cX9_value 250 = .ok (.lsub, 1) := by decide +kernel
theorem dX9_value_251 : decode cX9_value 251 = .ok (.lstore 6, 2) := by decide +kernel
theorem dX9_value_253 : decode cX9_value 253 = .ok (.iload 8, 2) := by decide +kernel
theorem dX9_value_255 : decode cX9_value 255 = .ok (.ifCond .ne 12, 3) := by decide +kernel
theorem dX9_value_258 : decode cX9_value 258 = .ok (.lload 6, 2) := by decide +kernel
theorem dX9_value_26 : decode cX9_value 26 = .ok (.getfield 141, 3) := by decide +kernel
theorem dX9_value_260 : decode cX9_value 260 = .ok (.iload_n 2, 1) := by decide +kernel
theorem dX9_value_261 : decode cX9_value 261 = .ok (.invokestatic 229, 3) := by decide +kernel
theorem dX9_value_264 : decode cX9_value 264 = .ok (.ifCond .ne 9, 3) := by decide +kernel
theorem dX9_value_267 : decode cX9_value 267 = .ok (.aload_n 0, 1) := by decide +kernel
theorem dX9_value_268 : decode cX9_value 268 = .ok (.iconst 2, 1) := by decide +kernel
theorem dX9_value_269 : decode cX9_value 269 = .ok (.iload_n 3, 1) := by decide +kernel
theorem dX9_value_270 : decode cX9_value 270 = .ok (.invokevirtual 154, 3) := by decide +kernel
theorem dX9_value_273 : decode cX9_value 273 = .ok (.aload_n 0, 1) := by decide +kernel
theorem dX9_value_274 : decode cX9_value 274 = .ok (.getfield 30, 3) := by decide +kernel
theorem dX9_value_277 : decode cX9_value 277 = .ok (.iload_n 1, 1) := by decide +kernel
theorem dX9_value_278 : decode cX9_value 278 = .ok (.lload 6, 2) := by decide +kernel
theorem dX9_value_280 : decode cX9_value 280 = .ok (.lastore, 1) := by decide +kernel
theorem dX9_value_281 : decode cX9_value 281 = .ok (.return_, 1) := by decide +kernel
theorem dX9_value_29 : decode cX9_value 29 = .ok (.iaload, 1) := by decide +kernel
theorem dX9_value_30 : decode cX9_value 30 = .ok (.bipush 45, 2) := by decide +kernel
theorem dX9_value_32 : decode cX9_value 32 = .ok (.if_icmp .ne 7, 3) := by decide +kernel
theorem dX9_value_35 : decode cX9_value 35 = .ok (.iconst 1, 1) := by decide +kernel
theorem dX9_value_36 : decode cX9_value 36 = .ok (.goto 4, 3) := by decide +kernel
theorem dX9_value_39 : decode cX9_value 39 = .ok (.iconst 0, 1) := by decide +kernel
theorem dX9_value_4 : decode cX9_value 4 = .ok (.pop, 1) := by decide +kernel
theorem dX9_value_40 : decode cX9_value 40 = .ok (.istore 4, 2) := by decide +kernel
theorem dX9_value_42 : decode cX9_value 42 = .ok (.iload 4, 2) := by decide +kernel
theorem dX9_value_44 : decode cX9_value 44 = .ok (.ifCond .eq 13, 3) := by decide +kernel
theorem dX9_value_47 : decode cX9_value 47 = .ok (.aload_n 0, 1) := by decide +kernel
theorem dX9_value_48 : decode cX9_value 48 = .ok (.dup, 1) := by decide +kernel
theorem dX9_value_49 : decode cX9_value 49 = .ok (.getfield 141, 3) := by decide +kernel
theorem dX9_value_5 : decode cX9_value 5 = .ok (.aload_n 0, 1) := by decide +kernel
theorem dX9_value_52 : decode cX9_value 52 = .ok (.iconst 1, 1) := by decide +kernel
theorem dX9_value_53 : decode cX9_value 53 = .ok (.iadd, 1) := by decide +kernel
theorem dX9_value_54 : decode cX9_value 54 = .ok (.putfield 141, 3) := by decide +kernel
theorem dX9_value_57 : decode cX9_value 57 = .ok (.aload_n 0, 1) := by decide +kernel
theorem dX9_value_58 : decode cX9_value 58 = .ok (.getfield 141, 3) := by decide +kernel
theorem dX9_value_6 : decode cX9_value 6 = .ok (.getfield 141, 3) := by decide +kernel
theorem dX9_value_61 : decode cX9_value 61 = .ok (.istore 5, 2) := by decide +kernel
theorem dX9_value_63 : decode cX9_value 63 = .ok (.lconst 0, 1) := by decide +kernel
theorem dX9_value_64 : decode cX9_value 64 = .ok (.lstore 6, 2) := by decide +kernel
theorem dX9_value_66 : decode cX9_value 66 = .ok (.iconst 0, 1) := by decide +kernel
theorem dX9_value_67 : decode cX9_value 67 = .ok (.istore 8, 2) := by decide +kernel
theorem dX9_value_69 : decode cX9_value 69 = .ok (.aload_n 0, 1) := by decide +kernel
theorem dX9_value_70 : decode cX9_value 70 = .ok (.getfield 141, 3) := by decide +kernel
theorem dX9_value_73 : decode cX9_value 73 = .ok (.aload_n 0, 1) := by decide +kernel
theorem dX9_value_74 : decode cX9_value 74 = .ok (.getfield 144, 3) := by decide +kernel
theorem dX9_value_77 : decode cX9_value 77 = .ok (.if_icmp .ge 121, 3) := by decide +kernel
theorem dX9_value_80 : decode cX9_value 80 = .ok (.aload_n 0, 1) := by decide +kernel
theorem dX9_value_81 : decode cX9_value 81 = .ok (.getfield 39, 3) := by decide +kernel
theorem dX9_value_84 : decode cX9_value 84 = .ok (.aload_n 0, 1) := by decide +kernel
theorem dX9_value_85 : decode cX9_value 85 = .ok (.getfield 141, 3) := by decide +kernel
theorem dX9_value_88 : decode cX9_value 88 = .ok (.iaload, 1) := by decide +kernel
theorem dX9_value_89 : decode cX9_value 89 = .ok (.invokestatic 158, 3) := by decide +kernel
theorem dX9_value_9 : decode cX9_value 9 = .ok (.istore_n 3, 1) := by decide +kernel
theorem dX9_value_92 : decode cX9_value 92 = .ok (.ifCond .eq 106, 3) := by decide +kernel
theorem dX9_value_95 : decode cX9_value 95 = .ok (.aload_n 0, 1) := by decide +kernel
theorem dX9_value_96 : decode cX9_value 96 = .ok (.getfield 141, 3) := by decide +kernel
theorem dX9_value_99 : decode cX9_value 99 = .ok (.iload 5, 2) := by decide +kernel
noncomputable def x9_isOf (p0 : Int64) (p1 : Int32) (st : RS) : Option (Int32 × RS) := pif (p1 = 1) (pif ((lg_cmp p0 (0 : Int64)) = 0) (some ((1 : Int32), st)) (pif ((lg_cmp p0 (1 : Int64)) = 0) (some ((1 : Int32), st)) (some ((0 : Int32), st)))) (pif (p1 = 2) (pif ((lg_cmp p0 ((-128) : Int64)) < 0) (some ((0 : Int32), st)) (pif (0 < (lg_cmp p0 (127 : Int64))) (some ((0 : Int32), st)) (some ((1 : Int32), st)))) (pif (p1 = 4) (some ((1 : Int32), st)) (pif ((lg_cmp p0 ((-2147483648) : Int64)) < 0) (some ((0 : Int32), st)) (pif (0 < (lg_cmp p0 (2147483647 : Int64))) (some ((0 : Int32), st)) (some ((1 : Int32), st))))))
def wq_X9_isOf : List Cond := .code yX9_isOf cX9_isOf 3 (some .boolean) :: ([.constantLong RX9 219 (-2147483648), .constantLong RX9 221 (2147483647), .constantLong RX9 215 (-128), .constantLong RX9 217 (127)])
set_option maxHeartbeats 4000000 in
set_option maxRecDepth 100000 in
theorem c_X9_isOf (l : Launch) (dC : Nat → ClassId) (dI : Nat → Nat → Nat) (h0 : Nat) (ar : Nat → Nat) (ca : Nat → ClassId) (p0 : Int64) (p1 : Int32) (st st' : RS) (r : Int32) (hf : x9_isOf p0 p1 st = some (r, st')) (sz : Nat) : Met l yX9_isOf wq_X9_isOf ({ frames := 0, cells := 0, slots := 0, locals := 0 }) (va_Pc [.long p0, .int p1] (Pr (dC, dI) (rT ca) [] (RW h0 ar ca st) sz)) (va_Qi (fun r' (_ : Unit) => r' = r) (Bq (dC, dI) (fun _ => RW h0 ar ca st') (fun _ => []) (va_A (RW h0 ar ca st) sz)) (va_A (RW h0 ar ca st) sz)) 0 0 (va_A (RW h0 ar ca st) sz) := by
  refine Met.ofW (cc := cX9_isOf) (maxL := 3) (ret := (some .boolean)) (by decide) rfl ?_
  intro p e s m args below meth c s₁ B hml hv
  obtain ⟨rfl, hsz, hP, hK, hD0, hN, hZ, hR⟩ := hv
  have hx := B.exec
  have hb := B.bytes
  have hr := B.returns
  have hts := atoms_spec (ws := wq_X9_isOf) B.pre
  have hown : s.vm.findClass RX9 = some m.cls := findClass_of_methodNamed B.named
  subst hsz
  have hp : Rp (dC, dI) h0 ar ca (va_A (RW h0 ar ca st) s.heap.size) s.heap st s.heap [] := ⟨hP, hD0.self, va_S.rf⟩
  generalize hAe : va_A (RW h0 ar ca st) s.heap.size = A at hp hZ ⊢
  have hA : ∀ q : Nat, s.heap.size ≤ q → A q := fun q h => by rw [← hAe]; exact Or.inr h
  have hl := lv_entry ([.long p0, .int p1]) (n := 3) (Nat.le_of_ble_eq_true rfl)
  rw [lg_entry_eq]
  generalize (lg_sl ([.long p0, .int p1]) ++ List.replicate (3 - (lg_sl ([.long p0, .int p1])).length) Slot.unset).toArray = ls at hl ⊢
  have hl : lv_has ls 3 [(0, .long p0), (2, .int p1)] := hl
  unfold x9_isOf at hf
  refine lv_iload_n hx hb dX9_isOf_0 rfl (lv_at hl 1 rfl) ?_
  refine lv_iconst (v := 1) hx hb dX9_isOf_1 (by decide) ?_
  refine lv_icmp_ne (tgt := 25) hx hb dX9_isOf_2 (by decide) (fun c_1 => ?_) (fun c_1 => ?_)
  · have hf := pif_f c_1 hf
    refine lv_iload_n hx hb dX9_isOf_25 rfl (lv_at hl 1 rfl) ?_
    refine lv_iconst (v := 2) hx hb dX9_isOf_26 (by decide) ?_
    refine lv_icmp_ne (tgt := 54) hx hb dX9_isOf_27 (by decide) (fun c_2 => ?_) (fun c_2 => ?_)
    · have hf := pif_f c_2 hf
      refine lv_iload_n hx hb dX9_isOf_54 rfl (lv_at hl 1 rfl) ?_
      refine lv_iconst (v := 4) hx hb dX9_isOf_55 (by decide) ?_
      refine lv_icmp_eq (tgt := 75) hx hb dX9_isOf_56 (by decide) (fun c_3 => ?_) (fun c_3 => ?_)
      · have hf := pif_t c_3 hf
        refine lv_iconst (v := 1) hx hb dX9_isOf_75 (by decide) ?_
        refine lv_goto (tgt := 80) hx hb dX9_isOf_76 (by decide) ?_
        obtain ⟨e1, e2⟩ := pr_some hf
        exact W.zret (v := 1) hx hb hr rfl (fun t ht hW => ⟨⟨1, (), rfl, e1, Rp.end e2 hp hK ht hW⟩, hp.2.2.F ht⟩) hp.2.2.2.2 dX9_isOf_80
      · have hf := pif_f c_3 hf
        refine lv_lload_n hx hb dX9_isOf_59 rfl (lv_at hl 0 rfl) ?_
        refine lv_ldc2 hx hb hown (hts (.constantLong RX9 219 (-2147483648)) (by decide +kernel)) dX9_isOf_60 ?_
        refine W.lcmp hx hb dX9_isOf_63 ?_
        refine lv_if_lt (tgt := 79) hx hb dX9_isOf_64 (by decide) (fun c_4 => ?_) (fun c_4 => ?_)
        · have hf := pif_t c_4 hf
          refine lv_iconst (v := 0) hx hb dX9_isOf_79 (by decide) ?_
          obtain ⟨e1, e2⟩ := pr_some hf
          exact W.zret (v := 0) hx hb hr rfl (fun t ht hW => ⟨⟨0, (), rfl, e1, Rp.end e2 hp hK ht hW⟩, hp.2.2.F ht⟩) hp.2.2.2.2 dX9_isOf_80
        · have hf := pif_f c_4 hf
          refine lv_lload_n hx hb dX9_isOf_67 rfl (lv_at hl 0 rfl) ?_
          refine lv_ldc2 hx hb hown (hts (.constantLong RX9 221 (2147483647)) (by decide +kernel)) dX9_isOf_68 ?_
          refine W.lcmp hx hb dX9_isOf_71 ?_
          refine lv_if_gt (tgt := 79) hx hb dX9_isOf_72 (by decide) (fun c_5 => ?_) (fun c_5 => ?_)
          · have hf := pif_t c_5 hf
            refine lv_iconst (v := 0) hx hb dX9_isOf_79 (by decide) ?_
            obtain ⟨e1, e2⟩ := pr_some hf
            exact W.zret (v := 0) hx hb hr rfl (fun t ht hW => ⟨⟨0, (), rfl, e1, Rp.end e2 hp hK ht hW⟩, hp.2.2.F ht⟩) hp.2.2.2.2 dX9_isOf_80
          · have hf := pif_f c_5 hf
            refine lv_iconst (v := 1) hx hb dX9_isOf_75 (by decide) ?_
            refine lv_goto (tgt := 80) hx hb dX9_isOf_76 (by decide) ?_
            obtain ⟨e1, e2⟩ := pr_some hf
            exact W.zret (v := 1) hx hb hr rfl (fun t ht hW => ⟨⟨1, (), rfl, e1, Rp.end e2 hp hK ht hW⟩, hp.2.2.F ht⟩) hp.2.2.2.2 dX9_isOf_80
    · have hf := pif_t c_2 hf
      refine lv_lload_n hx hb dX9_isOf_30 rfl (lv_at hl 0 rfl) ?_
      refine lv_ldc2 hx hb hown (hts (.constantLong RX9 215 (-128)) (by decide +kernel)) dX9_isOf_31 ?_
      refine W.lcmp hx hb dX9_isOf_34 ?_
      refine lv_if_lt (tgt := 50) hx hb dX9_isOf_35 (by decide) (fun c_6 => ?_) (fun c_6 => ?_)
      · have hf := pif_t c_6 hf
        refine lv_iconst (v := 0) hx hb dX9_isOf_50 (by decide) ?_
        refine lv_goto (tgt := 80) hx hb dX9_isOf_51 (by decide) ?_
        obtain ⟨e1, e2⟩ := pr_some hf
        exact W.zret (v := 0) hx hb hr rfl (fun t ht hW => ⟨⟨0, (), rfl, e1, Rp.end e2 hp hK ht hW⟩, hp.2.2.F ht⟩) hp.2.2.2.2 dX9_isOf_80
      · have hf := pif_f c_6 hf
        refine lv_lload_n hx hb dX9_isOf_38 rfl (lv_at hl 0 rfl) ?_
        refine lv_ldc2 hx hb hown (hts (.constantLong RX9 217 (127)) (by decide +kernel)) dX9_isOf_39 ?_
        refine W.lcmp hx hb dX9_isOf_42 ?_
        refine lv_if_gt (tgt := 50) hx hb dX9_isOf_43 (by decide) (fun c_7 => ?_) (fun c_7 => ?_)
        · have hf := pif_t c_7 hf
          refine lv_iconst (v := 0) hx hb dX9_isOf_50 (by decide) ?_
          refine lv_goto (tgt := 80) hx hb dX9_isOf_51 (by decide) ?_
          obtain ⟨e1, e2⟩ := pr_some hf
          exact W.zret (v := 0) hx hb hr rfl (fun t ht hW => ⟨⟨0, (), rfl, e1, Rp.end e2 hp hK ht hW⟩, hp.2.2.F ht⟩) hp.2.2.2.2 dX9_isOf_80
        · have hf := pif_f c_7 hf
          refine lv_iconst (v := 1) hx hb dX9_isOf_46 (by decide) ?_
          refine lv_goto (tgt := 80) hx hb dX9_isOf_47 (by decide) ?_
          obtain ⟨e1, e2⟩ := pr_some hf
          exact W.zret (v := 1) hx hb hr rfl (fun t ht hW => ⟨⟨1, (), rfl, e1, Rp.end e2 hp hK ht hW⟩, hp.2.2.F ht⟩) hp.2.2.2.2 dX9_isOf_80
  · have hf := pif_t c_1 hf
    refine lv_lload_n hx hb dX9_isOf_5 rfl (lv_at hl 0 rfl) ?_
    refine lv_lconst (v := 0) hx hb dX9_isOf_6 (by decide) ?_
    refine W.lcmp hx hb dX9_isOf_7 ?_
    refine lv_if_eq (tgt := 17) hx hb dX9_isOf_8 (by decide) (fun c_8 => ?_) (fun c_8 => ?_)
    · have hf := pif_t c_8 hf
      refine lv_iconst (v := 1) hx hb dX9_isOf_17 (by decide) ?_
      refine lv_goto (tgt := 80) hx hb dX9_isOf_18 (by decide) ?_
      obtain ⟨e1, e2⟩ := pr_some hf
      exact W.zret (v := 1) hx hb hr rfl (fun t ht hW => ⟨⟨1, (), rfl, e1, Rp.end e2 hp hK ht hW⟩, hp.2.2.F ht⟩) hp.2.2.2.2 dX9_isOf_80
    · have hf := pif_f c_8 hf
      refine lv_lload_n hx hb dX9_isOf_11 rfl (lv_at hl 0 rfl) ?_
      refine lv_lconst (v := 1) hx hb dX9_isOf_12 (by decide) ?_
      refine W.lcmp hx hb dX9_isOf_13 ?_
      refine lv_if_ne (tgt := 21) hx hb dX9_isOf_14 (by decide) (fun c_9 => ?_) (fun c_9 => ?_)
      · have hf := pif_f c_9 hf
        refine lv_iconst (v := 0) hx hb dX9_isOf_21 (by decide) ?_
        refine lv_goto (tgt := 80) hx hb dX9_isOf_22 (by decide) ?_
        obtain ⟨e1, e2⟩ := pr_some hf
        exact W.zret (v := 0) hx hb hr rfl (fun t ht hW => ⟨⟨0, (), rfl, e1, Rp.end e2 hp hK ht hW⟩, hp.2.2.F ht⟩) hp.2.2.2.2 dX9_isOf_80
      · have hf := pif_t c_9 hf
        refine lv_iconst (v := 1) hx hb dX9_isOf_17 (by decide) ?_
        refine lv_goto (tgt := 80) hx hb dX9_isOf_18 (by decide) ?_
        obtain ⟨e1, e2⟩ := pr_some hf
        exact W.zret (v := 1) hx hb hr rfl (fun t ht hW => ⟨⟨1, (), rfl, e1, Rp.end e2 hp hK ht hW⟩, hp.2.2.F ht⟩) hp.2.2.2.2 dX9_isOf_80
noncomputable def x9_value_273  (l1 : Int32) (l6 : Int64) (st : RS) : Option (RS) := gd (vp_in l1 248) (nam (sL st 6 (vp_updL (gL st 6) l1.toNatClampNeg l6)) (fun st_2 => some st_2))
noncomputable def x9_value_267  (l1 : Int32) (l3 : Int32) (l6 : Int64) (st : RS) : Option (RS) := bnv (x9_fail 2 l3 st) (fun st_3 => x9_value_273  l1 l6 st_3)
noncomputable def x9_value_253  (l1 : Int32) (l2 : Int32) (l3 : Int32) (l6 : Int64) (l8 : Int32) (st : RS) : Option (RS) := pif (l8 = 0) (bnd (x9_isOf l6 l2 st) (fun r_9 st_7 => pif (r_9 = 0) (x9_value_267  l1 l3 l6 st_7) (x9_value_273  l1 l6 st_7))) (x9_value_267  l1 l3 l6 st)
noncomputable def x9_value_242  (l1 : Int32) (l2 : Int32) (l3 : Int32) (l4 : Int32) (l6 : Int64) (l8 : Int32) (st : RS) : Option (RS) := pif (l4 = 0) (nam (0 - l6) (fun v_12 => x9_value_253  l1 l2 l3 v_12 l8 st)) (x9_value_253  l1 l2 l3 l6 l8 st)
noncomputable def x9_value_198  (l1 : Int32) (l2 : Int32) (l3 : Int32) (l4 : Int32) (l5 : Int32) (l6 : Int64) (l8 : Int32) (st : RS) : Option (RS) := pif ((gI st 11) = l5) (bnv (x9_fail 1 (gI st 11) st) (fun st_17 => some st_17)) (nam (sI st 18 (gI st 11)) (fun st_14 => pif (l4 = 0) (pif ((lg_cmp l6 ((-9223372036854775808) : Int64)) = 0) (x9_value_242  l1 l2 l3 l4 l6 1 st_14) (x9_value_242  l1 l2 l3 l4 l6 l8 st_14)) (x9_value_242  l1 l2 l3 l4 l6 l8 st_14)))
noncomputable def x9_value_185 (k69 : Int32 → Int32 → Int32 → Int32 → Int32 → Int64 → Int32 → RS → Option (RS)) (l1 : Int32) (l2 : Int32) (l3 : Int32) (l4 : Int32) (l5 : Int32) (l6 : Int64) (l8 : Int32) (st : RS) : Option (RS) := nam (sI st 11 ((gI st 11) + 1)) (fun st_20 => k69 l1 l2 l3 l4 l5 l6 l8 st_20)
noncomputable def x9_value_166 (k69 : Int32 → Int32 → Int32 → Int32 → Int32 → Int64 → Int32 → RS → Option (RS)) (l1 : Int32) (l2 : Int32) (l3 : Int32) (l4 : Int32) (l5 : Int32) (l6 : Int64) (l9 : Int32) (s0 : Int32) (st : RS) : Option (RS) := pif (s0 = 0) (nam ((10 * l6) - l9.toInt64) (fun v_22 => x9_value_185 k69 l1 l2 l3 l4 l5 v_22 s0 st)) (x9_value_185 k69 l1 l2 l3 l4 l5 l6 s0 st)
noncomputable def x9_value_165 (k69 : Int32 → Int32 → Int32 → Int32 → Int32 → Int64 → Int32 → RS → Option (RS)) (l1 : Int32) (l2 : Int32) (l3 : Int32) (l4 : Int32) (l5 : Int32) (l6 : Int64) (l9 : Int32) (st : RS) : Option (RS) := x9_value_166 k69 l1 l2 l3 l4 l5 l6 l9 0 st
noncomputable def x9_value_161 (k69 : Int32 → Int32 → Int32 → Int32 → Int32 → Int64 → Int32 → RS → Option (RS)) (l1 : Int32) (l2 : Int32) (l3 : Int32) (l4 : Int32) (l5 : Int32) (l6 : Int64) (l9 : Int32) (st : RS) : Option (RS) := x9_value_166 k69 l1 l2 l3 l4 l5 l6 l9 1 st
noncomputable def x9_value_69  : Nat → Int32 → Int32 → Int32 → Int32 → Int32 → Int64 → Int32 → RS → Option (RS)
  | 0 => fun _ _ _ _ _ _ _ _ => none
  | n + 1 => fun l1 l2 l3 l4 l5 l6 l8 st => pif ((gI st 12) ≤ (gI st 11)) (x9_value_198  l1 l2 l3 l4 l5 l6 l8 st) (gd (vp_in (gI st 11) 400) (bnd (x9_isDigit (gF st 9 (gI st 11).toNatClampNeg) st) (fun r_27 st_25 => pif (r_27 = 0) (x9_value_198  l1 l2 l3 l4 l5 l6 l8 st_25) (pif (((gI st_25 11) - l5) = 19) (bnv (x9_fail 1 (gI st_25 11) st_25) (fun st_36 => some st_36)) (gd (vp_in (gI st_25 11) 400) (nam ((gF st_25 9 (gI st_25 11).toNatClampNeg) - 48) (fun v_31 => pif (l8 = 0) (pif ((lg_cmp l6 ((-922337203685477580) : Int64)) < 0) (x9_value_161 (x9_value_69 n) l1 l2 l3 l4 l5 l6 v_31 st_25) (pif ((lg_cmp l6 ((-922337203685477580) : Int64)) = 0) (pif (v_31 ≤ 8) (x9_value_165 (x9_value_69 n) l1 l2 l3 l4 l5 l6 v_31 st_25) (x9_value_161 (x9_value_69 n) l1 l2 l3 l4 l5 l6 v_31 st_25)) (x9_value_165 (x9_value_69 n) l1 l2 l3 l4 l5 l6 v_31 st_25))) (x9_value_161 (x9_value_69 n) l1 l2 l3 l4 l5 l6 v_31 st_25))))))))
theorem x9_value_69_z  (l1 : Int32) (l2 : Int32) (l3 : Int32) (l4 : Int32) (l5 : Int32) (l6 : Int64) (l8 : Int32) (st : RS) : x9_value_69  0 l1 l2 l3 l4 l5 l6 l8 st = none := rfl
theorem x9_value_69_s  (n : Nat) (l1 : Int32) (l2 : Int32) (l3 : Int32) (l4 : Int32) (l5 : Int32) (l6 : Int64) (l8 : Int32) (st : RS) : x9_value_69  (n + 1) l1 l2 l3 l4 l5 l6 l8 st = pif ((gI st 12) ≤ (gI st 11)) (x9_value_198  l1 l2 l3 l4 l5 l6 l8 st) (gd (vp_in (gI st 11) 400) (bnd (x9_isDigit (gF st 9 (gI st 11).toNatClampNeg) st) (fun r_27 st_25 => pif (r_27 = 0) (x9_value_198  l1 l2 l3 l4 l5 l6 l8 st_25) (pif (((gI st_25 11) - l5) = 19) (bnv (x9_fail 1 (gI st_25 11) st_25) (fun st_36 => some st_36)) (gd (vp_in (gI st_25 11) 400) (nam ((gF st_25 9 (gI st_25 11).toNatClampNeg) - 48) (fun v_31 => pif (l8 = 0) (pif ((lg_cmp l6 ((-922337203685477580) : Int64)) < 0) (x9_value_161 (x9_value_69 n) l1 l2 l3 l4 l5 l6 v_31 st_25) (pif ((lg_cmp l6 ((-922337203685477580) : Int64)) = 0) (pif (v_31 ≤ 8) (x9_value_165 (x9_value_69 n) l1 l2 l3 l4 l5 l6 v_31 st_25) (x9_value_161 (x9_value_69 n) l1 l2 l3 l4 l5 l6 v_31 st_25)) (x9_value_165 (x9_value_69 n) l1 l2 l3 l4 l5 l6 v_31 st_25))) (x9_value_161 (x9_value_69 n) l1 l2 l3 l4 l5 l6 v_31 st_25)))))))) := rfl
noncomputable def x9_value_57  (l1 : Int32) (l2 : Int32) (l3 : Int32) (l4 : Int32) (st : RS) : Option (RS) := nam (gI st 11) (fun v_39 => x9_value_69  fuel l1 l2 l3 l4 v_39 0 0 st)
noncomputable def x9_value_40  (l1 : Int32) (l2 : Int32) (l3 : Int32) (s0 : Int32) (st : RS) : Option (RS) := pif (s0 = 0) (x9_value_57  l1 l2 l3 s0 st) (nam (sI st 11 ((gI st 11) + 1)) (fun st_41 => x9_value_57  l1 l2 l3 s0 st_41))
noncomputable def x9_value_39  (l1 : Int32) (l2 : Int32) (l3 : Int32) (st : RS) : Option (RS) := x9_value_40  l1 l2 l3 0 st
noncomputable def x9_value (p0 : Int32) (p1 : Int32) (st : RS) : Option (RS) := bnd (x9_next st) (fun r_44 st_42 => nam (gI st_42 11) (fun v_45 => pif ((gI st_42 12) ≤ (gI st_42 11)) (x9_value_39  p0 p1 v_45 st_42) (gd (vp_in (gI st_42 11) 400) (pif ((gF st_42 9 (gI st_42 11).toNatClampNeg) = 45) (x9_value_40  p0 p1 v_45 1 st_42) (x9_value_39  p0 p1 v_45 st_42)))))
def wq_X9_value : List Cond := .code yX9_value cX9_value 10 none :: (([.fieldLink RX9 141 "RecordBenchModel" "at" "I", .fieldLink RX9 144 "RecordBenchModel" "size" "I", .fieldLink RX9 39 "RecordBenchModel" "tape" "[I", .constantLong RX9 223 (-922337203685477580), .constantLong RX9 225 (10), .fieldLink RX9 162 "RecordBenchModel" "ended" "I", .constantLong RX9 227 (-9223372036854775808), .fieldLink RX9 30 "RecordBenchModel" "plain" "[J", .methodLink RX9 154 yX9_fail, .instanceMethod yX9_fail, .selects RX9 yX9_fail yX9_fail, .initialized RX9, .methodLink RX9 229 yX9_isOf, .static yX9_isOf, .methodLink RX9 158 yX9_isDigit, .static yX9_isDigit, .methodLink RX9 150 yX9_next, .instanceMethod yX9_next, .selects RX9 yX9_next yX9_next, .code yX9_fail cX9_fail 3 none, .fieldLink RX9 135 "RecordBenchModel" "bad" "I", .fieldLink RX9 138 "RecordBenchModel" "badPlace" "I", .code yX9_isOf cX9_isOf 3 (some .boolean), .constantLong RX9 219 (-2147483648), .constantLong RX9 221 (2147483647), .constantLong RX9 215 (-128), .constantLong RX9 217 (127), .code yX9_isDigit cX9_isDigit 1 (some .boolean), .code yX9_next cX9_next 1 (some .int), .fieldLink RX9 147 "RecordBenchModel" "begun" "I"] : List Cond) ++ wsX90)
theorem gs_wq_X9_value_wsX90 : GoodIn wq_X9_value wsX90 := fun w h => ⟨List.mem_cons_of_mem _ (List.mem_append_right _ h), (gt_wsX90 w h).2⟩
set_option maxRecDepth 20000 in
theorem gq_X9_value_X9_fail_154 : GoodIn wq_X9_value (wsV RX9 154 RX9 yX9_fail wq_X9_fail) := goodIn_app (goodIn_r _ [9, 10, 11, 12] rfl rfl) (goodIn_ca (goodIn_r _ [20, 21, 22] rfl rfl) gs_wq_X9_value_wsX90)
set_option maxRecDepth 20000 in
theorem gq_X9_value_X9_isOf_229 : GoodIn wq_X9_value (wsS RX9 229 yX9_isOf wq_X9_isOf) := goodIn_app (goodIn_r _ [13, 14, 12] rfl rfl) (goodIn_r _ [23, 24, 25, 26, 27] rfl rfl)
set_option maxRecDepth 20000 in
theorem gq_X9_value_X9_isDigit_158 : GoodIn wq_X9_value (wsS RX9 158 yX9_isDigit wq_X9_isDigit) := goodIn_app (goodIn_r _ [15, 16, 12] rfl rfl) (goodIn_r _ [28] rfl rfl)
set_option maxRecDepth 20000 in
theorem gq_X9_value_X9_next_150 : GoodIn wq_X9_value (wsV RX9 150 RX9 yX9_next wq_X9_next) := goodIn_app (goodIn_r _ [17, 18, 19, 12] rfl rfl) (goodIn_ca (goodIn_r _ [29, 1, 2, 3, 30] rfl rfl) gs_wq_X9_value_wsX90)
set_option maxHeartbeats 4000000 in
set_option maxRecDepth 100000 in
theorem c_X9_value (l : Launch) (dC : Nat → ClassId) (dI : Nat → Nat → Nat) (h0 : Nat) (ar : Nat → Nat) (ca : Nat → ClassId) (p0 : Int32) (p1 : Int32) (st st' : RS) (hf : x9_value p0 p1 st = some st') (sz : Nat) : Met l yX9_value wq_X9_value ({ frames := 1, cells := 0, slots := 0, locals := 26 }) (va_Pc [.ref h0, .int p0, .int p1] (Pr (dC, dI) (rT ca) [] (RW h0 ar ca st) sz)) (va_Qv (fun (_ : Unit) => True) (Bq (dC, dI) (fun _ => RW h0 ar ca st') (fun _ => []) (va_A (RW h0 ar ca st) sz)) (va_A (RW h0 ar ca st) sz)) 0 0 (va_A (RW h0 ar ca st) sz) := by
  refine Met.ofW (cc := cX9_value) (maxL := 10) (ret := none) (by decide) rfl ?_
  intro p e s m args below meth c s₁ B hml hv
  obtain ⟨rfl, hsz, hP, hK, hD0, hN, hZ, hR⟩ := hv
  have hx := B.exec
  have hb := B.bytes
  have hr := B.returns
  have hts := atoms_spec (ws := wq_X9_value) B.pre
  have hown : s.vm.findClass RX9 = some m.cls := findClass_of_methodNamed B.named
  have iRX9 : ∀ w ∈ u_ws RX9 TX9 60, w ∈ wq_X9_value := fun w h => List.mem_cons_of_mem _ (List.mem_append_right _ h)
  subst hsz
  have hp : Rp (dC, dI) h0 ar ca (va_A (RW h0 ar ca st) s.heap.size) s.heap st s.heap [] := ⟨hP, hD0.self, va_S.rf⟩
  generalize hAe : va_A (RW h0 ar ca st) s.heap.size = A at hp hZ ⊢
  have hA : ∀ q : Nat, s.heap.size ≤ q → A q := fun q h => by rw [← hAe]; exact Or.inr h
  have hl := lv_entry ([.ref h0, .int p0, .int p1]) (n := 10) (Nat.le_of_ble_eq_true rfl)
  rw [lg_entry_eq]
  generalize (lg_sl ([.ref h0, .int p0, .int p1]) ++ List.replicate (10 - (lg_sl ([.ref h0, .int p0, .int p1])).length) Slot.unset).toArray = ls at hl ⊢
  have hl : lv_has ls 10 [(0, .ref h0), (1, .int p0), (2, .int p1)] := hl
  refine W_blk (fun (u : Int32 × Int64 × RS) H locs ls => match u with | (l1, l6, st) => x9_value_273 l1 l6 st = some st' ∧ Rp (dC, dI) h0 ar ca A s.heap st H locs ∧ lv_has ls 10 [(0, .ref h0), (1, .int l1), (6, .long l6)]) (fun (u : Int32 × Int64 × RS) ls => match u with | (l1, l6, st) => F0 m 273 ls []) ?_ (fun J273 => ?_)
  · intro u H locs ls hu
    obtain ⟨l1, l6, st⟩ := u
    obtain ⟨hf, hp, hl⟩ := hu
    show W p l e _ s m _ below meth c _ _ _ _ _ (F0 m 273 ls [])
    unfold x9_value_273 at hf
    refine lv_aload_n hx hb dX9_value_273 rfl (lv_at hl 0 rfl) ?_
    refine r_ga hx hb hts iRX9 hown hK hp 6 (by decide) (by decide) (hts (.fieldLink RX9 30 "RecordBenchModel" "plain" "[J") (by decide +kernel)) dX9_value_274 ?_
    refine lv_iload_n hx hb dX9_value_277 rfl (lv_at hl 1 rfl) ?_
    refine lv_lload hx hb dX9_value_278 (lv_at hl 2 rfl) ?_
    obtain ⟨g_1, hf⟩ := gd_some hf
    refine r_sj (n := 248) hx hb hK hp 6 6 rfl rfl rfl g_1 dX9_value_280 (fun H locs hp => ?_)
    obtain ⟨st_2, est_2, hf⟩ := nam_some hf
    rw [← est_2] at hp
    have e2 := Option.some.inj hf
    exact W.vret hx hb hr (fun t ht hW => ⟨⟨(), rfl, trivial, Rp.end e2 hp hK ht hW⟩, hp.2.2.F ht⟩) hp.2.2.2.2 dX9_value_281
  refine W_blk (fun (u : Int32 × Int32 × Int64 × RS) H locs ls => match u with | (l1, l3, l6, st) => x9_value_267 l1 l3 l6 st = some st' ∧ Rp (dC, dI) h0 ar ca A s.heap st H locs ∧ lv_has ls 10 [(0, .ref h0), (1, .int l1), (3, .int l3), (6, .long l6)]) (fun (u : Int32 × Int32 × Int64 × RS) ls => match u with | (l1, l3, l6, st) => F0 m 267 ls []) ?_ (fun J267 => ?_)
  · intro u H locs ls hu
    obtain ⟨l1, l3, l6, st⟩ := u
    obtain ⟨hf, hp, hl⟩ := hu
    show W p l e _ s m _ below meth c _ _ _ _ _ (F0 m 267 ls [])
    unfold x9_value_267 at hf
    refine lv_aload_n hx hb dX9_value_267 rfl (lv_at hl 0 rfl) ?_
    refine lv_iconst (v := 2) hx hb dX9_value_268 (by decide) ?_
    refine lv_iload_n hx hb dX9_value_269 rfl (lv_at hl 2 rfl) ?_
    obtain ⟨st_3, hc_4, hf⟩ := bnv_some hf
    refine r_cv hp hA (va_runV (As := [.int 2, .int l3]) (rest := []) ⟨hx, hb, hml, hown, hts⟩ (c_X9_fail l dC dI h0 ar ca 2 l3 _ _ hc_4 _) (cwV 2 hts gq_X9_value_X9_fail_154 rfl rfl rfl (by decide +kernel) ⟨Nat.le_of_ble_eq_true rfl, Nat.le_of_ble_eq_true rfl⟩) ⟨Pr.blind _, va_recv hK hp.1 (ci := 11) (q0 := 0) rfl rfl, r_pre hp hK hN hZ hA⟩ rfl rfl hl.1 rfl (lv_room (Nat.le_of_ble_eq_true rfl)) dX9_value_270 ⟨Nat.le_of_ble_eq_true rfl, Nat.le_of_ble_eq_true rfl⟩) (fun H locs hp => ?_)
    exact J273 (l1, l6, st_3) _ _ _ ⟨hf, hp, (lv_sub hl [0, 1, 3] rfl)⟩
  refine W_blk (fun (u : Int32 × Int32 × Int32 × Int64 × Int32 × RS) H locs ls => match u with | (l1, l2, l3, l6, l8, st) => x9_value_253 l1 l2 l3 l6 l8 st = some st' ∧ Rp (dC, dI) h0 ar ca A s.heap st H locs ∧ lv_has ls 10 [(0, .ref h0), (1, .int l1), (2, .int l2), (3, .int l3), (6, .long l6), (8, .int l8)]) (fun (u : Int32 × Int32 × Int32 × Int64 × Int32 × RS) ls => match u with | (l1, l2, l3, l6, l8, st) => F0 m 253 ls []) ?_ (fun J253 => ?_)
  · intro u H locs ls hu
    obtain ⟨l1, l2, l3, l6, l8, st⟩ := u
    obtain ⟨hf, hp, hl⟩ := hu
    show W p l e _ s m _ below meth c _ _ _ _ _ (F0 m 253 ls [])
    unfold x9_value_253 at hf
    refine lv_iload hx hb dX9_value_253 (lv_at hl 5 rfl) ?_
    refine lv_if_ne (tgt := 267) hx hb dX9_value_255 (by decide) (fun c_6 => ?_) (fun c_6 => ?_)
    · have hf := pif_f c_6 hf
      exact J267 (l1, l3, l6, st) _ _ _ ⟨hf, hp, (lv_sub hl [0, 1, 3, 4] rfl)⟩
    · have hf := pif_t c_6 hf
      refine lv_lload hx hb dX9_value_258 (lv_at hl 4 rfl) ?_
      refine lv_iload_n hx hb dX9_value_260 rfl (lv_at hl 2 rfl) ?_
      obtain ⟨r_9, st_7, hc_8, hf⟩ := bnd_some hf
      refine r_ci hp hA (va_runS (As := [.long l6, .int l2]) (rest := []) ⟨hx, hb, hml, hown, hts⟩ (c_X9_isOf l dC dI h0 ar ca l6 l2 _ _ _ hc_8 _) (cwS 2 hts gq_X9_value_X9_isOf_229 rfl rfl rfl (by decide +kernel) ⟨Nat.le_of_ble_eq_true rfl, Nat.le_of_ble_eq_true rfl⟩) ⟨Pr.blind _, r_pre hp hK hN hZ hA⟩ rfl rfl hl.1 rfl (lv_room (Nat.le_of_ble_eq_true rfl)) dX9_value_261 ⟨Nat.le_of_ble_eq_true rfl, Nat.le_of_ble_eq_true rfl⟩) (fun H locs hp => ?_)
      refine lv_if_ne (tgt := 273) hx hb dX9_value_264 (by decide) (fun c_10 => ?_) (fun c_10 => ?_)
      · have hf := pif_f c_10 hf
        exact J273 (l1, l6, st_7) _ _ _ ⟨hf, hp, (lv_sub hl [0, 1, 4] rfl)⟩
      · have hf := pif_t c_10 hf
        exact J267 (l1, l3, l6, st_7) _ _ _ ⟨hf, hp, (lv_sub hl [0, 1, 3, 4] rfl)⟩
  refine W_blk (fun (u : Int32 × Int32 × Int32 × Int32 × Int64 × Int32 × RS) H locs ls => match u with | (l1, l2, l3, l4, l6, l8, st) => x9_value_242 l1 l2 l3 l4 l6 l8 st = some st' ∧ Rp (dC, dI) h0 ar ca A s.heap st H locs ∧ lv_has ls 10 [(0, .ref h0), (1, .int l1), (2, .int l2), (3, .int l3), (4, .int l4), (6, .long l6), (8, .int l8)]) (fun (u : Int32 × Int32 × Int32 × Int32 × Int64 × Int32 × RS) ls => match u with | (l1, l2, l3, l4, l6, l8, st) => F0 m 242 ls []) ?_ (fun J242 => ?_)
  · intro u H locs ls hu
    obtain ⟨l1, l2, l3, l4, l6, l8, st⟩ := u
    obtain ⟨hf, hp, hl⟩ := hu
    show W p l e _ s m _ below meth c _ _ _ _ _ (F0 m 242 ls [])
    unfold x9_value_242 at hf
    refine lv_iload hx hb dX9_value_242 (lv_at hl 4 rfl) ?_
    refine lv_if_ne (tgt := 253) hx hb dX9_value_244 (by decide) (fun c_11 => ?_) (fun c_11 => ?_)
    · have hf := pif_f c_11 hf
      exact J253 (l1, l2, l3, l6, l8, st) _ _ _ ⟨hf, hp, (lv_sub hl [0, 1, 2, 3, 5, 6] rfl)⟩
    · have hf := pif_t c_11 hf
      refine lv_lconst (v := 0) hx hb dX9_value_247 (by decide) ?_
      refine lv_lload hx hb dX9_value_248 (lv_at hl 5 rfl) ?_
      refine lv_lsub hx hb dX9_value_250 ?_
      obtain ⟨v_12, ev_12, hf⟩ := nam_some hf
      refine W_tol (y := v_12) ev_12.symm ?_
      refine lv_lstore (lv' := [(6, .long v_12), (0, .ref h0), (1, .int l1), (2, .int l2), (3, .int l3), (4, .int l4), (8, .int l8)]) hx hb dX9_value_251 hl (by decide) rfl (fun ls hl => ?_)
      exact J253 (l1, l2, l3, v_12, l8, st) _ _ _ ⟨hf, hp, (lv_sub hl [1, 2, 3, 4, 0, 6] rfl)⟩
  refine W_blk (fun (u : Int32 × Int32 × Int32 × Int32 × Int32 × Int64 × Int32 × RS) H locs ls => match u with | (l1, l2, l3, l4, l5, l6, l8, st) => x9_value_198 l1 l2 l3 l4 l5 l6 l8 st = some st' ∧ Rp (dC, dI) h0 ar ca A s.heap st H locs ∧ lv_has ls 10 [(0, .ref h0), (1, .int l1), (2, .int l2), (3, .int l3), (4, .int l4), (5, .int l5), (6, .long l6), (8, .int l8)]) (fun (u : Int32 × Int32 × Int32 × Int32 × Int32 × Int64 × Int32 × RS) ls => match u with | (l1, l2, l3, l4, l5, l6, l8, st) => F0 m 198 ls []) ?_ (fun J198 => ?_)
  · intro u H locs ls hu
    obtain ⟨l1, l2, l3, l4, l5, l6, l8, st⟩ := u
    obtain ⟨hf, hp, hl⟩ := hu
    show W p l e _ s m _ below meth c _ _ _ _ _ (F0 m 198 ls [])
    unfold x9_value_198 at hf
    refine lv_aload_n hx hb dX9_value_198 rfl (lv_at hl 0 rfl) ?_
    refine r_gi hx hb hts iRX9 hown hK hp 11 (by decide) rfl (hts (.fieldLink RX9 141 "RecordBenchModel" "at" "I") (by decide +kernel)) dX9_value_199 ?_
    refine lv_iload hx hb dX9_value_202 (lv_at hl 5 rfl) ?_
    refine lv_icmp_ne (tgt := 217) hx hb dX9_value_204 (by decide) (fun c_13 => ?_) (fun c_13 => ?_)
    · have hf := pif_f c_13 hf
      refine lv_aload_n hx hb dX9_value_217 rfl (lv_at hl 0 rfl) ?_
      refine lv_aload_n hx hb dX9_value_218 rfl (lv_at hl 0 rfl) ?_
      refine r_gi hx hb hts iRX9 hown hK hp 11 (by decide) rfl (hts (.fieldLink RX9 141 "RecordBenchModel" "at" "I") (by decide +kernel)) dX9_value_219 ?_
      refine r_pi (v := gI st 11) (ty := .int) hx hb hts iRX9 hown hK hp 18 (by decide) rfl (hts (.fieldLink RX9 162 "RecordBenchModel" "ended" "I") (by decide +kernel)) rfl (by decide +kernel) rfl rfl dX9_value_222 (fun H locs hp => ?_)
      obtain ⟨st_14, est_14, hf⟩ := nam_some hf
      rw [← est_14] at hp
      refine lv_iload hx hb dX9_value_225 (lv_at hl 4 rfl) ?_
      refine lv_if_ne (tgt := 242) hx hb dX9_value_227 (by decide) (fun c_15 => ?_) (fun c_15 => ?_)
      · have hf := pif_f c_15 hf
        exact J242 (l1, l2, l3, l4, l6, l8, st_14) _ _ _ ⟨hf, hp, (lv_sub hl [0, 1, 2, 3, 4, 6, 7] rfl)⟩
      · have hf := pif_t c_15 hf
        refine lv_lload hx hb dX9_value_230 (lv_at hl 6 rfl) ?_
        refine lv_ldc2 hx hb hown (hts (.constantLong RX9 227 (-9223372036854775808)) (by decide +kernel)) dX9_value_232 ?_
        refine W.lcmp hx hb dX9_value_235 ?_
        refine lv_if_ne (tgt := 242) hx hb dX9_value_236 (by decide) (fun c_16 => ?_) (fun c_16 => ?_)
        · have hf := pif_f c_16 hf
          exact J242 (l1, l2, l3, l4, l6, l8, st_14) _ _ _ ⟨hf, hp, (lv_sub hl [0, 1, 2, 3, 4, 6, 7] rfl)⟩
        · have hf := pif_t c_16 hf
          refine lv_iconst (v := 1) hx hb dX9_value_239 (by decide) ?_
          refine lv_istore (lv' := [(8, .int 1), (0, .ref h0), (1, .int l1), (2, .int l2), (3, .int l3), (4, .int l4), (5, .int l5), (6, .long l6)]) hx hb dX9_value_240 hl (by decide) rfl (fun ls hl => ?_)
          exact J242 (l1, l2, l3, l4, l6, 1, st_14) _ _ _ ⟨hf, hp, (lv_sub hl [1, 2, 3, 4, 5, 7, 0] rfl)⟩
    · have hf := pif_t c_13 hf
      refine lv_aload_n hx hb dX9_value_207 rfl (lv_at hl 0 rfl) ?_
      refine lv_iconst (v := 1) hx hb dX9_value_208 (by decide) ?_
      refine lv_aload_n hx hb dX9_value_209 rfl (lv_at hl 0 rfl) ?_
      refine r_gi hx hb hts iRX9 hown hK hp 11 (by decide) rfl (hts (.fieldLink RX9 141 "RecordBenchModel" "at" "I") (by decide +kernel)) dX9_value_210 ?_
      obtain ⟨st_17, hc_18, hf⟩ := bnv_some hf
      refine r_cv hp hA (va_runV (As := [.int 1, .int (gI st 11)]) (rest := []) ⟨hx, hb, hml, hown, hts⟩ (c_X9_fail l dC dI h0 ar ca 1 (gI st 11) _ _ hc_18 _) (cwV 2 hts gq_X9_value_X9_fail_154 rfl rfl rfl (by decide +kernel) ⟨Nat.le_of_ble_eq_true rfl, Nat.le_of_ble_eq_true rfl⟩) ⟨Pr.blind _, va_recv hK hp.1 (ci := 11) (q0 := 0) rfl rfl, r_pre hp hK hN hZ hA⟩ rfl rfl hl.1 rfl (lv_room (Nat.le_of_ble_eq_true rfl)) dX9_value_213 ⟨Nat.le_of_ble_eq_true rfl, Nat.le_of_ble_eq_true rfl⟩) (fun H locs hp => ?_)
      have e2 := Option.some.inj hf
      exact W.vret hx hb hr (fun t ht hW => ⟨⟨(), rfl, trivial, Rp.end e2 hp hK ht hW⟩, hp.2.2.F ht⟩) hp.2.2.2.2 dX9_value_216
  refine W_lp (fun n69 (u : Int32 × Int32 × Int32 × Int32 × Int32 × Int64 × Int32 × RS) H locs ls => match u with | (l1, l2, l3, l4, l5, l6, l8, st) => x9_value_69 n69 l1 l2 l3 l4 l5 l6 l8 st = some st' ∧ Rp (dC, dI) h0 ar ca A s.heap st H locs ∧ lv_has ls 10 [(0, .ref h0), (1, .int l1), (2, .int l2), (3, .int l3), (4, .int l4), (5, .int l5), (6, .long l6), (8, .int l8)]) (fun (u : Int32 × Int32 × Int32 × Int32 × Int32 × Int64 × Int32 × RS) ls => match u with | (l1, l2, l3, l4, l5, l6, l8, st) => F0 m 69 ls []) ?_ ?_ (fun J69 => ?_)
  · intro u H locs ls hu
    obtain ⟨l1, l2, l3, l4, l5, l6, l8, st⟩ := u
    obtain ⟨hf, hp, hl⟩ := hu
    rw [x9_value_69_z] at hf
    cases hf
  · intro n69 ih69 u H locs ls hu
    obtain ⟨l1, l2, l3, l4, l5, l6, l8, st⟩ := u
    obtain ⟨hf, hp, hl⟩ := hu
    show W p l e _ s m _ below meth c _ _ _ _ _ (F0 m 69 ls [])
    refine W_blk (fun (u : Int32 × Int32 × Int32 × Int32 × Int32 × Int64 × Int32 × RS) H locs ls => match u with | (l1, l2, l3, l4, l5, l6, l8, st) => x9_value_185 (x9_value_69 n69) l1 l2 l3 l4 l5 l6 l8 st = some st' ∧ Rp (dC, dI) h0 ar ca A s.heap st H locs ∧ lv_has ls 10 [(0, .ref h0), (1, .int l1), (2, .int l2), (3, .int l3), (4, .int l4), (5, .int l5), (6, .long l6), (8, .int l8)]) (fun (u : Int32 × Int32 × Int32 × Int32 × Int32 × Int64 × Int32 × RS) ls => match u with | (l1, l2, l3, l4, l5, l6, l8, st) => F0 m 185 ls []) ?_ (fun J185 => ?_)
    · intro u H locs ls hu
      obtain ⟨l1, l2, l3, l4, l5, l6, l8, st⟩ := u
      obtain ⟨hf, hp, hl⟩ := hu
      show W p l e _ s m _ below meth c _ _ _ _ _ (F0 m 185 ls [])
      unfold x9_value_185 at hf
      refine lv_aload_n hx hb dX9_value_185 rfl (lv_at hl 0 rfl) ?_
      refine lv_dup hx hb dX9_value_186 rfl ?_
      refine r_gi hx hb hts iRX9 hown hK hp 11 (by decide) rfl (hts (.fieldLink RX9 141 "RecordBenchModel" "at" "I") (by decide +kernel)) dX9_value_187 ?_
      refine lv_iconst (v := 1) hx hb dX9_value_190 (by decide) ?_
      refine lv_iadd hx hb dX9_value_191 ?_
      refine r_pi (v := (gI st 11) + 1) (ty := .int) hx hb hts iRX9 hown hK hp 11 (by decide) rfl (hts (.fieldLink RX9 141 "RecordBenchModel" "at" "I") (by decide +kernel)) rfl (by decide +kernel) rfl rfl dX9_value_192 (fun H locs hp => ?_)
      obtain ⟨st_20, est_20, hf⟩ := nam_some hf
      rw [← est_20] at hp
      refine lv_goto (tgt := 69) hx hb dX9_value_195 (by decide) ?_
      exact ih69 (l1, l2, l3, l4, l5, l6, l8, st_20) _ _ _ ⟨hf, hp, (lv_sub hl [0, 1, 2, 3, 4, 5, 6, 7] rfl)⟩
    refine W_blk (fun (u : Int32 × Int32 × Int32 × Int32 × Int32 × Int64 × Int32 × Int32 × RS) H locs ls => match u with | (l1, l2, l3, l4, l5, l6, l9, s0, st) => x9_value_166 (x9_value_69 n69) l1 l2 l3 l4 l5 l6 l9 s0 st = some st' ∧ Rp (dC, dI) h0 ar ca A s.heap st H locs ∧ lv_has ls 10 [(0, .ref h0), (1, .int l1), (2, .int l2), (3, .int l3), (4, .int l4), (5, .int l5), (6, .long l6), (9, .int l9)]) (fun (u : Int32 × Int32 × Int32 × Int32 × Int32 × Int64 × Int32 × Int32 × RS) ls => match u with | (l1, l2, l3, l4, l5, l6, l9, s0, st) => F0 m 166 ls [.int s0]) ?_ (fun J166 => ?_)
    · intro u H locs ls hu
      obtain ⟨l1, l2, l3, l4, l5, l6, l9, s0, st⟩ := u
      obtain ⟨hf, hp, hl⟩ := hu
      show W p l e _ s m _ below meth c _ _ _ _ _ (F0 m 166 ls [.int s0])
      unfold x9_value_166 at hf
      refine lv_istore (lv' := [(8, .int s0), (0, .ref h0), (1, .int l1), (2, .int l2), (3, .int l3), (4, .int l4), (5, .int l5), (6, .long l6), (9, .int l9)]) hx hb dX9_value_166 hl (by decide) rfl (fun ls hl => ?_)
      refine lv_iload hx hb dX9_value_168 (lv_at hl 0 rfl) ?_
      refine lv_if_ne (tgt := 185) hx hb dX9_value_170 (by decide) (fun c_21 => ?_) (fun c_21 => ?_)
      · have hf := pif_f c_21 hf
        exact J185 (l1, l2, l3, l4, l5, l6, s0, st) _ _ _ ⟨hf, hp, (lv_sub hl [1, 2, 3, 4, 5, 6, 7, 0] rfl)⟩
      · have hf := pif_t c_21 hf
        refine lv_ldc2 hx hb hown (hts (.constantLong RX9 225 (10)) (by decide +kernel)) dX9_value_173 ?_
        refine lv_lload hx hb dX9_value_176 (lv_at hl 7 rfl) ?_
        refine lv_lmul hx hb dX9_value_178 ?_
        refine lv_iload hx hb dX9_value_179 (lv_at hl 8 rfl) ?_
        refine lv_i2l (v := l9.toInt64) hx hb dX9_value_181 rfl ?_
        refine lv_lsub hx hb dX9_value_182 ?_
        obtain ⟨v_22, ev_22, hf⟩ := nam_some hf
        refine W_tol (y := v_22) ev_22.symm ?_
        refine lv_lstore (lv' := [(6, .long v_22), (8, .int s0), (0, .ref h0), (1, .int l1), (2, .int l2), (3, .int l3), (4, .int l4), (5, .int l5), (9, .int l9)]) hx hb dX9_value_183 hl (by decide) rfl (fun ls hl => ?_)
        exact J185 (l1, l2, l3, l4, l5, v_22, s0, st) _ _ _ ⟨hf, hp, (lv_sub hl [2, 3, 4, 5, 6, 7, 0, 1] rfl)⟩
    refine W_blk (fun (u : Int32 × Int32 × Int32 × Int32 × Int32 × Int64 × Int32 × RS) H locs ls => match u with | (l1, l2, l3, l4, l5, l6, l9, st) => x9_value_165 (x9_value_69 n69) l1 l2 l3 l4 l5 l6 l9 st = some st' ∧ Rp (dC, dI) h0 ar ca A s.heap st H locs ∧ lv_has ls 10 [(0, .ref h0), (1, .int l1), (2, .int l2), (3, .int l3), (4, .int l4), (5, .int l5), (6, .long l6), (9, .int l9)]) (fun (u : Int32 × Int32 × Int32 × Int32 × Int32 × Int64 × Int32 × RS) ls => match u with | (l1, l2, l3, l4, l5, l6, l9, st) => F0 m 165 ls []) ?_ (fun J165 => ?_)
    · intro u H locs ls hu
      obtain ⟨l1, l2, l3, l4, l5, l6, l9, st⟩ := u
      obtain ⟨hf, hp, hl⟩ := hu
      show W p l e _ s m _ below meth c _ _ _ _ _ (F0 m 165 ls [])
      unfold x9_value_165 at hf
      refine lv_iconst (v := 0) hx hb dX9_value_165 (by decide) ?_
      exact J166 (l1, l2, l3, l4, l5, l6, l9, 0, st) _ _ _ ⟨hf, hp, (lv_sub hl [0, 1, 2, 3, 4, 5, 6, 7] rfl)⟩
    refine W_blk (fun (u : Int32 × Int32 × Int32 × Int32 × Int32 × Int64 × Int32 × RS) H locs ls => match u with | (l1, l2, l3, l4, l5, l6, l9, st) => x9_value_161 (x9_value_69 n69) l1 l2 l3 l4 l5 l6 l9 st = some st' ∧ Rp (dC, dI) h0 ar ca A s.heap st H locs ∧ lv_has ls 10 [(0, .ref h0), (1, .int l1), (2, .int l2), (3, .int l3), (4, .int l4), (5, .int l5), (6, .long l6), (9, .int l9)]) (fun (u : Int32 × Int32 × Int32 × Int32 × Int32 × Int64 × Int32 × RS) ls => match u with | (l1, l2, l3, l4, l5, l6, l9, st) => F0 m 161 ls []) ?_ (fun J161 => ?_)
    · intro u H locs ls hu
      obtain ⟨l1, l2, l3, l4, l5, l6, l9, st⟩ := u
      obtain ⟨hf, hp, hl⟩ := hu
      show W p l e _ s m _ below meth c _ _ _ _ _ (F0 m 161 ls [])
      unfold x9_value_161 at hf
      refine lv_iconst (v := 1) hx hb dX9_value_161 (by decide) ?_
      refine lv_goto (tgt := 166) hx hb dX9_value_162 (by decide) ?_
      exact J166 (l1, l2, l3, l4, l5, l6, l9, 1, st) _ _ _ ⟨hf, hp, (lv_sub hl [0, 1, 2, 3, 4, 5, 6, 7] rfl)⟩
    rw [x9_value_69_s] at hf
    refine lv_aload_n hx hb dX9_value_69 rfl (lv_at hl 0 rfl) ?_
    refine r_gi hx hb hts iRX9 hown hK hp 11 (by decide) rfl (hts (.fieldLink RX9 141 "RecordBenchModel" "at" "I") (by decide +kernel)) dX9_value_70 ?_
    refine lv_aload_n hx hb dX9_value_73 rfl (lv_at hl 0 rfl) ?_
    refine r_gi hx hb hts iRX9 hown hK hp 12 (by decide) rfl (hts (.fieldLink RX9 144 "RecordBenchModel" "size" "I") (by decide +kernel)) dX9_value_74 ?_
    refine lv_icmp_ge (tgt := 198) hx hb dX9_value_77 (by decide) (fun c_23 => ?_) (fun c_23 => ?_)
    · have hf := pif_t c_23 hf
      exact J198 (l1, l2, l3, l4, l5, l6, l8, st) _ _ _ ⟨hf, hp, (lv_sub hl [0, 1, 2, 3, 4, 5, 6, 7] rfl)⟩
    · have hf := pif_f c_23 hf
      refine lv_aload_n hx hb dX9_value_80 rfl (lv_at hl 0 rfl) ?_
      refine r_ga hx hb hts iRX9 hown hK hp 9 (by decide) (by decide) (hts (.fieldLink RX9 39 "RecordBenchModel" "tape" "[I") (by decide +kernel)) dX9_value_81 ?_
      refine lv_aload_n hx hb dX9_value_84 rfl (lv_at hl 0 rfl) ?_
      refine r_gi hx hb hts iRX9 hown hK hp 11 (by decide) rfl (hts (.fieldLink RX9 141 "RecordBenchModel" "at" "I") (by decide +kernel)) dX9_value_85 ?_
      obtain ⟨g_24, hf⟩ := gd_some hf
      refine r_ai (n := 400) hx hb hK hp 9 9 rfl rfl rfl g_24 dX9_value_88 ?_
      obtain ⟨r_27, st_25, hc_26, hf⟩ := bnd_some hf
      refine r_ci hp hA (va_runS (As := [.int (gF st 9 (gI st 11).toNatClampNeg)]) (rest := []) ⟨hx, hb, hml, hown, hts⟩ (c_X9_isDigit l dC dI h0 ar ca (gF st 9 (gI st 11).toNatClampNeg) _ _ _ hc_26 _) (cwS 1 hts gq_X9_value_X9_isDigit_158 rfl rfl rfl (by decide +kernel) ⟨Nat.le_of_ble_eq_true rfl, Nat.le_of_ble_eq_true rfl⟩) ⟨Pr.blind _, r_pre hp hK hN hZ hA⟩ rfl rfl hl.1 rfl (lv_room (Nat.le_of_ble_eq_true rfl)) dX9_value_89 ⟨Nat.le_of_ble_eq_true rfl, Nat.le_of_ble_eq_true rfl⟩) (fun H locs hp => ?_)
      refine lv_if_eq (tgt := 198) hx hb dX9_value_92 (by decide) (fun c_28 => ?_) (fun c_28 => ?_)
      · have hf := pif_t c_28 hf
        exact J198 (l1, l2, l3, l4, l5, l6, l8, st_25) _ _ _ ⟨hf, hp, (lv_sub hl [0, 1, 2, 3, 4, 5, 6, 7] rfl)⟩
      · have hf := pif_f c_28 hf
        refine lv_aload_n hx hb dX9_value_95 rfl (lv_at hl 0 rfl) ?_
        refine r_gi hx hb hts iRX9 hown hK hp 11 (by decide) rfl (hts (.fieldLink RX9 141 "RecordBenchModel" "at" "I") (by decide +kernel)) dX9_value_96 ?_
        refine lv_iload hx hb dX9_value_99 (lv_at hl 5 rfl) ?_
        refine lv_isub hx hb dX9_value_101 ?_
        refine lv_bipush (v := 19) hx hb dX9_value_102 (by decide) ?_
        refine lv_icmp_ne (tgt := 117) hx hb dX9_value_104 (by decide) (fun c_29 => ?_) (fun c_29 => ?_)
        · have hf := pif_f c_29 hf
          refine lv_aload_n hx hb dX9_value_117 rfl (lv_at hl 0 rfl) ?_
          refine r_ga hx hb hts iRX9 hown hK hp 9 (by decide) (by decide) (hts (.fieldLink RX9 39 "RecordBenchModel" "tape" "[I") (by decide +kernel)) dX9_value_118 ?_
          refine lv_aload_n hx hb dX9_value_121 rfl (lv_at hl 0 rfl) ?_
          refine r_gi hx hb hts iRX9 hown hK hp 11 (by decide) rfl (hts (.fieldLink RX9 141 "RecordBenchModel" "at" "I") (by decide +kernel)) dX9_value_122 ?_
          obtain ⟨g_30, hf⟩ := gd_some hf
          refine r_ai (n := 400) hx hb hK hp 9 9 rfl rfl rfl g_30 dX9_value_125 ?_
          refine lv_bipush (v := 48) hx hb dX9_value_126 (by decide) ?_
          refine lv_isub hx hb dX9_value_128 ?_
          obtain ⟨v_31, ev_31, hf⟩ := nam_some hf
          refine W_toi (y := v_31) ev_31.symm ?_
          refine lv_istore (lv' := [(9, .int v_31), (0, .ref h0), (1, .int l1), (2, .int l2), (3, .int l3), (4, .int l4), (5, .int l5), (6, .long l6), (8, .int l8)]) hx hb dX9_value_129 hl (by decide) rfl (fun ls hl => ?_)
          refine lv_iload hx hb dX9_value_131 (lv_at hl 8 rfl) ?_
          refine lv_if_ne (tgt := 161) hx hb dX9_value_133 (by decide) (fun c_32 => ?_) (fun c_32 => ?_)
          · have hf := pif_f c_32 hf
            exact J161 (l1, l2, l3, l4, l5, l6, v_31, st_25) _ _ _ ⟨hf, hp, (lv_sub hl [1, 2, 3, 4, 5, 6, 7, 0] rfl)⟩
          · have hf := pif_t c_32 hf
            refine lv_lload hx hb dX9_value_136 (lv_at hl 7 rfl) ?_
            refine lv_ldc2 hx hb hown (hts (.constantLong RX9 223 (-922337203685477580)) (by decide +kernel)) dX9_value_138 ?_
            refine W.lcmp hx hb dX9_value_141 ?_
            refine lv_if_lt (tgt := 161) hx hb dX9_value_142 (by decide) (fun c_33 => ?_) (fun c_33 => ?_)
            · have hf := pif_t c_33 hf
              exact J161 (l1, l2, l3, l4, l5, l6, v_31, st_25) _ _ _ ⟨hf, hp, (lv_sub hl [1, 2, 3, 4, 5, 6, 7, 0] rfl)⟩
            · have hf := pif_f c_33 hf
              refine lv_lload hx hb dX9_value_145 (lv_at hl 7 rfl) ?_
              refine lv_ldc2 hx hb hown (hts (.constantLong RX9 223 (-922337203685477580)) (by decide +kernel)) dX9_value_147 ?_
              refine W.lcmp hx hb dX9_value_150 ?_
              refine lv_if_ne (tgt := 165) hx hb dX9_value_151 (by decide) (fun c_34 => ?_) (fun c_34 => ?_)
              · have hf := pif_f c_34 hf
                exact J165 (l1, l2, l3, l4, l5, l6, v_31, st_25) _ _ _ ⟨hf, hp, (lv_sub hl [1, 2, 3, 4, 5, 6, 7, 0] rfl)⟩
              · have hf := pif_t c_34 hf
                refine lv_iload hx hb dX9_value_154 (lv_at hl 0 rfl) ?_
                refine lv_bipush (v := 8) hx hb dX9_value_156 (by decide) ?_
                refine lv_icmp_le (tgt := 165) hx hb dX9_value_158 (by decide) (fun c_35 => ?_) (fun c_35 => ?_)
                · have hf := pif_t c_35 hf
                  exact J165 (l1, l2, l3, l4, l5, l6, v_31, st_25) _ _ _ ⟨hf, hp, (lv_sub hl [1, 2, 3, 4, 5, 6, 7, 0] rfl)⟩
                · have hf := pif_f c_35 hf
                  exact J161 (l1, l2, l3, l4, l5, l6, v_31, st_25) _ _ _ ⟨hf, hp, (lv_sub hl [1, 2, 3, 4, 5, 6, 7, 0] rfl)⟩
        · have hf := pif_t c_29 hf
          refine lv_aload_n hx hb dX9_value_107 rfl (lv_at hl 0 rfl) ?_
          refine lv_iconst (v := 1) hx hb dX9_value_108 (by decide) ?_
          refine lv_aload_n hx hb dX9_value_109 rfl (lv_at hl 0 rfl) ?_
          refine r_gi hx hb hts iRX9 hown hK hp 11 (by decide) rfl (hts (.fieldLink RX9 141 "RecordBenchModel" "at" "I") (by decide +kernel)) dX9_value_110 ?_
          obtain ⟨st_36, hc_37, hf⟩ := bnv_some hf
          refine r_cv hp hA (va_runV (As := [.int 1, .int (gI st_25 11)]) (rest := []) ⟨hx, hb, hml, hown, hts⟩ (c_X9_fail l dC dI h0 ar ca 1 (gI st_25 11) _ _ hc_37 _) (cwV 2 hts gq_X9_value_X9_fail_154 rfl rfl rfl (by decide +kernel) ⟨Nat.le_of_ble_eq_true rfl, Nat.le_of_ble_eq_true rfl⟩) ⟨Pr.blind _, va_recv hK hp.1 (ci := 11) (q0 := 0) rfl rfl, r_pre hp hK hN hZ hA⟩ rfl rfl hl.1 rfl (lv_room (Nat.le_of_ble_eq_true rfl)) dX9_value_113 ⟨Nat.le_of_ble_eq_true rfl, Nat.le_of_ble_eq_true rfl⟩) (fun H locs hp => ?_)
          have e2 := Option.some.inj hf
          exact W.vret hx hb hr (fun t ht hW => ⟨⟨(), rfl, trivial, Rp.end e2 hp hK ht hW⟩, hp.2.2.F ht⟩) hp.2.2.2.2 dX9_value_116
  refine W_blk (fun (u : Int32 × Int32 × Int32 × Int32 × RS) H locs ls => match u with | (l1, l2, l3, l4, st) => x9_value_57 l1 l2 l3 l4 st = some st' ∧ Rp (dC, dI) h0 ar ca A s.heap st H locs ∧ lv_has ls 10 [(0, .ref h0), (1, .int l1), (2, .int l2), (3, .int l3), (4, .int l4)]) (fun (u : Int32 × Int32 × Int32 × Int32 × RS) ls => match u with | (l1, l2, l3, l4, st) => F0 m 57 ls []) ?_ (fun J57 => ?_)
  · intro u H locs ls hu
    obtain ⟨l1, l2, l3, l4, st⟩ := u
    obtain ⟨hf, hp, hl⟩ := hu
    show W p l e _ s m _ below meth c _ _ _ _ _ (F0 m 57 ls [])
    unfold x9_value_57 at hf
    refine lv_aload_n hx hb dX9_value_57 rfl (lv_at hl 0 rfl) ?_
    refine r_gi hx hb hts iRX9 hown hK hp 11 (by decide) rfl (hts (.fieldLink RX9 141 "RecordBenchModel" "at" "I") (by decide +kernel)) dX9_value_58 ?_
    obtain ⟨v_39, ev_39, hf⟩ := nam_some hf
    refine W_toi (y := v_39) ev_39.symm ?_
    refine lv_istore (lv' := [(5, .int v_39), (0, .ref h0), (1, .int l1), (2, .int l2), (3, .int l3), (4, .int l4)]) hx hb dX9_value_61 hl (by decide) rfl (fun ls hl => ?_)
    refine lv_lconst (v := 0) hx hb dX9_value_63 (by decide) ?_
    refine lv_lstore (lv' := [(6, .long 0), (5, .int v_39), (0, .ref h0), (1, .int l1), (2, .int l2), (3, .int l3), (4, .int l4)]) hx hb dX9_value_64 hl (by decide) rfl (fun ls hl => ?_)
    refine lv_iconst (v := 0) hx hb dX9_value_66 (by decide) ?_
    refine lv_istore (lv' := [(8, .int 0), (6, .long 0), (5, .int v_39), (0, .ref h0), (1, .int l1), (2, .int l2), (3, .int l3), (4, .int l4)]) hx hb dX9_value_67 hl (by decide) rfl (fun ls hl => ?_)
    exact J69 fuel (l1, l2, l3, l4, v_39, 0, 0, st) _ _ _ ⟨hf, hp, (lv_sub hl [3, 4, 5, 6, 7, 2, 1, 0] rfl)⟩
  refine W_blk (fun (u : Int32 × Int32 × Int32 × Int32 × RS) H locs ls => match u with | (l1, l2, l3, s0, st) => x9_value_40 l1 l2 l3 s0 st = some st' ∧ Rp (dC, dI) h0 ar ca A s.heap st H locs ∧ lv_has ls 10 [(0, .ref h0), (1, .int l1), (2, .int l2), (3, .int l3)]) (fun (u : Int32 × Int32 × Int32 × Int32 × RS) ls => match u with | (l1, l2, l3, s0, st) => F0 m 40 ls [.int s0]) ?_ (fun J40 => ?_)
  · intro u H locs ls hu
    obtain ⟨l1, l2, l3, s0, st⟩ := u
    obtain ⟨hf, hp, hl⟩ := hu
    show W p l e _ s m _ below meth c _ _ _ _ _ (F0 m 40 ls [.int s0])
    unfold x9_value_40 at hf
    refine lv_istore (lv' := [(4, .int s0), (0, .ref h0), (1, .int l1), (2, .int l2), (3, .int l3)]) hx hb dX9_value_40 hl (by decide) rfl (fun ls hl => ?_)
    refine lv_iload hx hb dX9_value_42 (lv_at hl 0 rfl) ?_
    refine lv_if_eq (tgt := 57) hx hb dX9_value_44 (by decide) (fun c_40 => ?_) (fun c_40 => ?_)
    · have hf := pif_t c_40 hf
      exact J57 (l1, l2, l3, s0, st) _ _ _ ⟨hf, hp, (lv_sub hl [1, 2, 3, 4, 0] rfl)⟩
    · have hf := pif_f c_40 hf
      refine lv_aload_n hx hb dX9_value_47 rfl (lv_at hl 1 rfl) ?_
      refine lv_dup hx hb dX9_value_48 rfl ?_
      refine r_gi hx hb hts iRX9 hown hK hp 11 (by decide) rfl (hts (.fieldLink RX9 141 "RecordBenchModel" "at" "I") (by decide +kernel)) dX9_value_49 ?_
      refine lv_iconst (v := 1) hx hb dX9_value_52 (by decide) ?_
      refine lv_iadd hx hb dX9_value_53 ?_
      refine r_pi (v := (gI st 11) + 1) (ty := .int) hx hb hts iRX9 hown hK hp 11 (by decide) rfl (hts (.fieldLink RX9 141 "RecordBenchModel" "at" "I") (by decide +kernel)) rfl (by decide +kernel) rfl rfl dX9_value_54 (fun H locs hp => ?_)
      obtain ⟨st_41, est_41, hf⟩ := nam_some hf
      rw [← est_41] at hp
      exact J57 (l1, l2, l3, s0, st_41) _ _ _ ⟨hf, hp, (lv_sub hl [1, 2, 3, 4, 0] rfl)⟩
  refine W_blk (fun (u : Int32 × Int32 × Int32 × RS) H locs ls => match u with | (l1, l2, l3, st) => x9_value_39 l1 l2 l3 st = some st' ∧ Rp (dC, dI) h0 ar ca A s.heap st H locs ∧ lv_has ls 10 [(0, .ref h0), (1, .int l1), (2, .int l2), (3, .int l3)]) (fun (u : Int32 × Int32 × Int32 × RS) ls => match u with | (l1, l2, l3, st) => F0 m 39 ls []) ?_ (fun J39 => ?_)
  · intro u H locs ls hu
    obtain ⟨l1, l2, l3, st⟩ := u
    obtain ⟨hf, hp, hl⟩ := hu
    show W p l e _ s m _ below meth c _ _ _ _ _ (F0 m 39 ls [])
    unfold x9_value_39 at hf
    refine lv_iconst (v := 0) hx hb dX9_value_39 (by decide) ?_
    exact J40 (l1, l2, l3, 0, st) _ _ _ ⟨hf, hp, (lv_sub hl [0, 1, 2, 3] rfl)⟩
  unfold x9_value at hf
  refine lv_aload_n hx hb dX9_value_0 rfl (lv_at hl 0 rfl) ?_
  obtain ⟨r_44, st_42, hc_43, hf⟩ := bnd_some hf
  refine r_ci hp hA (va_runV (As := []) (rest := []) ⟨hx, hb, hml, hown, hts⟩ (c_X9_next l dC dI h0 ar ca  _ _ _ hc_43 _) (cwV 0 hts gq_X9_value_X9_next_150 rfl rfl rfl (by decide +kernel) ⟨Nat.le_of_ble_eq_true rfl, Nat.le_of_ble_eq_true rfl⟩) ⟨Pr.blind _, va_recv hK hp.1 (ci := 11) (q0 := 0) rfl rfl, r_pre hp hK hN hZ hA⟩ rfl rfl hl.1 rfl (lv_room (Nat.le_of_ble_eq_true rfl)) dX9_value_1 ⟨Nat.le_of_ble_eq_true rfl, Nat.le_of_ble_eq_true rfl⟩) (fun H locs hp => ?_)
  refine lv_pop hx hb dX9_value_4 rfl ?_
  refine lv_aload_n hx hb dX9_value_5 rfl (lv_at hl 0 rfl) ?_
  refine r_gi hx hb hts iRX9 hown hK hp 11 (by decide) rfl (hts (.fieldLink RX9 141 "RecordBenchModel" "at" "I") (by decide +kernel)) dX9_value_6 ?_
  obtain ⟨v_45, ev_45, hf⟩ := nam_some hf
  refine W_toi (y := v_45) ev_45.symm ?_
  refine lv_istore_n (lv' := [(3, .int v_45), (0, .ref h0), (1, .int p0), (2, .int p1)]) hx hb dX9_value_9 rfl hl (by decide) rfl (fun ls hl => ?_)
  refine lv_aload_n hx hb dX9_value_10 rfl (lv_at hl 1 rfl) ?_
  refine r_gi hx hb hts iRX9 hown hK hp 11 (by decide) rfl (hts (.fieldLink RX9 141 "RecordBenchModel" "at" "I") (by decide +kernel)) dX9_value_11 ?_
  refine lv_aload_n hx hb dX9_value_14 rfl (lv_at hl 1 rfl) ?_
  refine r_gi hx hb hts iRX9 hown hK hp 12 (by decide) rfl (hts (.fieldLink RX9 144 "RecordBenchModel" "size" "I") (by decide +kernel)) dX9_value_15 ?_
  refine lv_icmp_ge (tgt := 39) hx hb dX9_value_18 (by decide) (fun c_46 => ?_) (fun c_46 => ?_)
  · have hf := pif_t c_46 hf
    exact J39 (p0, p1, v_45, st_42) _ _ _ ⟨hf, hp, (lv_sub hl [1, 2, 3, 0] rfl)⟩
  · have hf := pif_f c_46 hf
    refine lv_aload_n hx hb dX9_value_21 rfl (lv_at hl 1 rfl) ?_
    refine r_ga hx hb hts iRX9 hown hK hp 9 (by decide) (by decide) (hts (.fieldLink RX9 39 "RecordBenchModel" "tape" "[I") (by decide +kernel)) dX9_value_22 ?_
    refine lv_aload_n hx hb dX9_value_25 rfl (lv_at hl 1 rfl) ?_
    refine r_gi hx hb hts iRX9 hown hK hp 11 (by decide) rfl (hts (.fieldLink RX9 141 "RecordBenchModel" "at" "I") (by decide +kernel)) dX9_value_26 ?_
    obtain ⟨g_47, hf⟩ := gd_some hf
    refine r_ai (n := 400) hx hb hK hp 9 9 rfl rfl rfl g_47 dX9_value_29 ?_
    refine lv_bipush (v := 45) hx hb dX9_value_30 (by decide) ?_
    refine lv_icmp_ne (tgt := 39) hx hb dX9_value_32 (by decide) (fun c_48 => ?_) (fun c_48 => ?_)
    · have hf := pif_f c_48 hf
      exact J39 (p0, p1, v_45, st_42) _ _ _ ⟨hf, hp, (lv_sub hl [1, 2, 3, 0] rfl)⟩
    · have hf := pif_t c_48 hf
      refine lv_iconst (v := 1) hx hb dX9_value_35 (by decide) ?_
      refine lv_goto (tgt := 40) hx hb dX9_value_36 (by decide) ?_
      exact J40 (p0, p1, v_45, 1, st_42) _ _ _ ⟨hf, hp, (lv_sub hl [1, 2, 3, 0] rfl)⟩
noncomputable def x9_textValue_147  (l1 : Int32) (l2 : Int32) (st : RS) : Option (RS) := nam (sI st 11 ((gI st 11) + 1)) (fun st_1 => gd (vp_in l1 248) (nam (sL st_1 6 (vp_updL (gL st_1 6) l1.toNatClampNeg l2.toInt64)) (fun st_3 => some st_3)))
noncomputable def x9_textValue_127  (l1 : Int32) (l2 : Int32) (st : RS) : Option (RS) := pif ((gI st 11) = (gI st 12)) (bnv (x9_fail 1 (gI st 11) st) (fun st_5 => x9_textValue_147  l1 l2 st_5)) (x9_textValue_147  l1 l2 st)
noncomputable def x9_textValue_83 (k8 : Int32 → Int32 → RS → Option (RS)) (l1 : Int32) (l2 : Int32) (st : RS) : Option (RS) := pif ((gI st 13) = 0) (gd (vp_in (gI st 11) 400) (gd (vp_in ((12 * l1) + l2) 2976) (nam (sF st 7 (upd (gF st 7) ((12 * l1) + l2).toNatClampNeg (gF st 9 (gI st 11).toNatClampNeg))) (fun st_11 => nam (l2 + 1) (fun v_12 => nam (sI st_11 11 ((gI st_11 11) + 1)) (fun st_13 => k8 l1 v_12 st_13)))))) (some st)
noncomputable def x9_textValue_74 (k8 : Int32 → Int32 → RS → Option (RS)) (l1 : Int32) (l2 : Int32) (st : RS) : Option (RS) := bnv (x9_fail 1 (gI st 11) st) (fun st_14 => x9_textValue_83 k8 l1 l2 st_14)
noncomputable def x9_textValue_8  : Nat → Int32 → Int32 → RS → Option (RS)
  | 0 => fun _ _ _ => none
  | n + 1 => fun l1 l2 st => pif ((gI st 13) = 0) (pif ((gI st 12) ≤ (gI st 11)) (x9_textValue_127  l1 l2 st) (gd (vp_in (gI st 11) 400) (pif ((gF st 9 (gI st 11).toNatClampNeg) = 34) (x9_textValue_127  l1 l2 st) (pif (l2 = 12) (x9_textValue_74 (x9_textValue_8 n) l1 l2 st) (gd (vp_in (gI st 11) 400) (pif ((gF st 9 (gI st 11).toNatClampNeg) < 32) (x9_textValue_74 (x9_textValue_8 n) l1 l2 st) (gd (vp_in (gI st 11) 400) (pif ((gF st 9 (gI st 11).toNatClampNeg) ≤ 126) (x9_textValue_83 (x9_textValue_8 n) l1 l2 st) (x9_textValue_74 (x9_textValue_8 n) l1 l2 st))))))))) (x9_textValue_127  l1 l2 st)
theorem x9_textValue_8_z  (l1 : Int32) (l2 : Int32) (st : RS) : x9_textValue_8  0 l1 l2 st = none := rfl
theorem x9_textValue_8_s  (n : Nat) (l1 : Int32) (l2 : Int32) (st : RS) : x9_textValue_8  (n + 1) l1 l2 st = pif ((gI st 13) = 0) (pif ((gI st 12) ≤ (gI st 11)) (x9_textValue_127  l1 l2 st) (gd (vp_in (gI st 11) 400) (pif ((gF st 9 (gI st 11).toNatClampNeg) = 34) (x9_textValue_127  l1 l2 st) (pif (l2 = 12) (x9_textValue_74 (x9_textValue_8 n) l1 l2 st) (gd (vp_in (gI st 11) 400) (pif ((gF st 9 (gI st 11).toNatClampNeg) < 32) (x9_textValue_74 (x9_textValue_8 n) l1 l2 st) (gd (vp_in (gI st 11) 400) (pif ((gF st 9 (gI st 11).toNatClampNeg) ≤ 126) (x9_textValue_83 (x9_textValue_8 n) l1 l2 st) (x9_textValue_74 (x9_textValue_8 n) l1 l2 st))))))))) (x9_textValue_127  l1 l2 st) := rfl
noncomputable def x9_textValue (p0 : Int32) (st : RS) : Option (RS) := bnv (x9_sign 34 st) (fun st_26 => x9_textValue_8  fuel p0 0 st_26)
def wq_X9_textValue : List Cond := .code yX9_textValue cX9_textValue 3 none :: (([.fieldLink RX9 135 "RecordBenchModel" "bad" "I", .fieldLink RX9 141 "RecordBenchModel" "at" "I", .fieldLink RX9 144 "RecordBenchModel" "size" "I", .fieldLink RX9 39 "RecordBenchModel" "tape" "[I", .fieldLink RX9 33 "RecordBenchModel" "plainText" "[I", .fieldLink RX9 30 "RecordBenchModel" "plain" "[J", .methodLink RX9 154 yX9_fail, .instanceMethod yX9_fail, .selects RX9 yX9_fail yX9_fail, .initialized RX9, .methodLink RX9 191 yX9_sign, .instanceMethod yX9_sign, .selects RX9 yX9_sign yX9_sign, .code yX9_fail cX9_fail 3 none, .fieldLink RX9 138 "RecordBenchModel" "badPlace" "I", .code yX9_sign cX9_sign 2 none, .methodLink RX9 150 yX9_next, .instanceMethod yX9_next, .selects RX9 yX9_next yX9_next, .code yX9_next cX9_next 1 (some .int), .fieldLink RX9 147 "RecordBenchModel" "begun" "I"] : List Cond) ++ wsX90)
theorem gs_wq_X9_textValue_wsX90 : GoodIn wq_X9_textValue wsX90 := fun w h => ⟨List.mem_cons_of_mem _ (List.mem_append_right _ h), (gt_wsX90 w h).2⟩
set_option maxRecDepth 20000 in
theorem gq_X9_textValue_X9_fail_154 : GoodIn wq_X9_textValue (wsV RX9 154 RX9 yX9_fail wq_X9_fail) := goodIn_app (goodIn_r _ [7, 8, 9, 10] rfl rfl) (goodIn_ca (goodIn_r _ [14, 1, 15] rfl rfl) gs_wq_X9_textValue_wsX90)
set_option maxRecDepth 20000 in
theorem gq_X9_textValue_X9_sign_191 : GoodIn wq_X9_textValue (wsV RX9 191 RX9 yX9_sign wq_X9_sign) := goodIn_app (goodIn_r _ [11, 12, 13, 10] rfl rfl) (goodIn_ca (goodIn_r _ [16, 2, 17, 18, 19, 10, 7, 8, 9, 20, 3, 4, 21, 14, 1, 15] rfl rfl) gs_wq_X9_textValue_wsX90)
set_option maxHeartbeats 4000000 in
set_option maxRecDepth 100000 in
theorem c_X9_textValue (l : Launch) (dC : Nat → ClassId) (dI : Nat → Nat → Nat) (h0 : Nat) (ar : Nat → Nat) (ca : Nat → ClassId) (p0 : Int32) (st st' : RS) (hf : x9_textValue p0 st = some st') (sz : Nat) : Met l yX9_textValue wq_X9_textValue ({ frames := 2, cells := 0, slots := 0, locals := 51 }) (va_Pc [.ref h0, .int p0] (Pr (dC, dI) (rT ca) [] (RW h0 ar ca st) sz)) (va_Qv (fun (_ : Unit) => True) (Bq (dC, dI) (fun _ => RW h0 ar ca st') (fun _ => []) (va_A (RW h0 ar ca st) sz)) (va_A (RW h0 ar ca st) sz)) 0 0 (va_A (RW h0 ar ca st) sz) := by
  refine Met.ofW (cc := cX9_textValue) (maxL := 3) (ret := none) (by decide) rfl ?_
  intro p e s m args below meth c s₁ B hml hv
  obtain ⟨rfl, hsz, hP, hK, hD0, hN, hZ, hR⟩ := hv
  have hx := B.exec
  have hb := B.bytes
  have hr := B.returns
  have hts := atoms_spec (ws := wq_X9_textValue) B.pre
  have hown : s.vm.findClass RX9 = some m.cls := findClass_of_methodNamed B.named
  have iRX9 : ∀ w ∈ u_ws RX9 TX9 60, w ∈ wq_X9_textValue := fun w h => List.mem_cons_of_mem _ (List.mem_append_right _ h)
  subst hsz
  have hp : Rp (dC, dI) h0 ar ca (va_A (RW h0 ar ca st) s.heap.size) s.heap st s.heap [] := ⟨hP, hD0.self, va_S.rf⟩
  generalize hAe : va_A (RW h0 ar ca st) s.heap.size = A at hp hZ ⊢
  have hA : ∀ q : Nat, s.heap.size ≤ q → A q := fun q h => by rw [← hAe]; exact Or.inr h
  have hl := lv_entry ([.ref h0, .int p0]) (n := 3) (Nat.le_of_ble_eq_true rfl)
  rw [lg_entry_eq]
  generalize (lg_sl ([.ref h0, .int p0]) ++ List.replicate (3 - (lg_sl ([.ref h0, .int p0])).length) Slot.unset).toArray = ls at hl ⊢
  have hl : lv_has ls 3 [(0, .ref h0), (1, .int p0)] := hl
  refine W_blk (fun (u : Int32 × Int32 × RS) H locs ls => match u with | (l1, l2, st) => x9_textValue_147 l1 l2 st = some st' ∧ Rp (dC, dI) h0 ar ca A s.heap st H locs ∧ lv_has ls 3 [(0, .ref h0), (1, .int l1), (2, .int l2)]) (fun (u : Int32 × Int32 × RS) ls => match u with | (l1, l2, st) => F0 m 147 ls []) ?_ (fun J147 => ?_)
  · intro u H locs ls hu
    obtain ⟨l1, l2, st⟩ := u
    obtain ⟨hf, hp, hl⟩ := hu
    show W p l e _ s m _ below meth c _ _ _ _ _ (F0 m 147 ls [])
    unfold x9_textValue_147 at hf
    refine lv_aload_n hx hb dX9_textValue_147 rfl (lv_at hl 0 rfl) ?_
    refine lv_dup hx hb dX9_textValue_148 rfl ?_
    refine r_gi hx hb hts iRX9 hown hK hp 11 (by decide) rfl (hts (.fieldLink RX9 141 "RecordBenchModel" "at" "I") (by decide +kernel)) dX9_textValue_149 ?_
    refine lv_iconst (v := 1) hx hb dX9_textValue_152 (by decide) ?_
    refine lv_iadd hx hb dX9_textValue_153 ?_
    refine r_pi (v := (gI st 11) + 1) (ty := .int) hx hb hts iRX9 hown hK hp 11 (by decide) rfl (hts (.fieldLink RX9 141 "RecordBenchModel" "at" "I") (by decide +kernel)) rfl (by decide +kernel) rfl rfl dX9_textValue_154 (fun H locs hp => ?_)
    obtain ⟨st_1, est_1, hf⟩ := nam_some hf
    rw [← est_1] at hp
    refine lv_aload_n hx hb dX9_textValue_157 rfl (lv_at hl 0 rfl) ?_
    refine r_ga hx hb hts iRX9 hown hK hp 6 (by decide) (by decide) (hts (.fieldLink RX9 30 "RecordBenchModel" "plain" "[J") (by decide +kernel)) dX9_textValue_158 ?_
    refine lv_iload_n hx hb dX9_textValue_161 rfl (lv_at hl 1 rfl) ?_
    refine lv_iload_n hx hb dX9_textValue_162 rfl (lv_at hl 2 rfl) ?_
    refine lv_i2l (v := l2.toInt64) hx hb dX9_textValue_163 rfl ?_
    obtain ⟨g_2, hf⟩ := gd_some hf
    refine r_sj (n := 248) hx hb hK hp 6 6 rfl rfl rfl g_2 dX9_textValue_164 (fun H locs hp => ?_)
    obtain ⟨st_3, est_3, hf⟩ := nam_some hf
    rw [← est_3] at hp
    have e2 := Option.some.inj hf
    exact W.vret hx hb hr (fun t ht hW => ⟨⟨(), rfl, trivial, Rp.end e2 hp hK ht hW⟩, hp.2.2.F ht⟩) hp.2.2.2.2 dX9_textValue_165
  refine W_blk (fun (u : Int32 × Int32 × RS) H locs ls => match u with | (l1, l2, st) => x9_textValue_127 l1 l2 st = some st' ∧ Rp (dC, dI) h0 ar ca A s.heap st H locs ∧ lv_has ls 3 [(0, .ref h0), (1, .int l1), (2, .int l2)]) (fun (u : Int32 × Int32 × RS) ls => match u with | (l1, l2, st) => F0 m 127 ls []) ?_ (fun J127 => ?_)
  · intro u H locs ls hu
    obtain ⟨l1, l2, st⟩ := u
    obtain ⟨hf, hp, hl⟩ := hu
    show W p l e _ s m _ below meth c _ _ _ _ _ (F0 m 127 ls [])
    unfold x9_textValue_127 at hf
    refine lv_aload_n hx hb dX9_textValue_127 rfl (lv_at hl 0 rfl) ?_
    refine r_gi hx hb hts iRX9 hown hK hp 11 (by decide) rfl (hts (.fieldLink RX9 141 "RecordBenchModel" "at" "I") (by decide +kernel)) dX9_textValue_128 ?_
    refine lv_aload_n hx hb dX9_textValue_131 rfl (lv_at hl 0 rfl) ?_
    refine r_gi hx hb hts iRX9 hown hK hp 12 (by decide) rfl (hts (.fieldLink RX9 144 "RecordBenchModel" "size" "I") (by decide +kernel)) dX9_textValue_132 ?_
    refine lv_icmp_ne (tgt := 147) hx hb dX9_textValue_135 (by decide) (fun c_4 => ?_) (fun c_4 => ?_)
    · have hf := pif_f c_4 hf
      exact J147 (l1, l2, st) _ _ _ ⟨hf, hp, (lv_sub hl [0, 1, 2] rfl)⟩
    · have hf := pif_t c_4 hf
      refine lv_aload_n hx hb dX9_textValue_138 rfl (lv_at hl 0 rfl) ?_
      refine lv_iconst (v := 1) hx hb dX9_textValue_139 (by decide) ?_
      refine lv_aload_n hx hb dX9_textValue_140 rfl (lv_at hl 0 rfl) ?_
      refine r_gi hx hb hts iRX9 hown hK hp 11 (by decide) rfl (hts (.fieldLink RX9 141 "RecordBenchModel" "at" "I") (by decide +kernel)) dX9_textValue_141 ?_
      obtain ⟨st_5, hc_6, hf⟩ := bnv_some hf
      refine r_cv hp hA (va_runV (As := [.int 1, .int (gI st 11)]) (rest := []) ⟨hx, hb, hml, hown, hts⟩ (c_X9_fail l dC dI h0 ar ca 1 (gI st 11) _ _ hc_6 _) (cwV 2 hts gq_X9_textValue_X9_fail_154 rfl rfl rfl (by decide +kernel) ⟨Nat.le_of_ble_eq_true rfl, Nat.le_of_ble_eq_true rfl⟩) ⟨Pr.blind _, va_recv hK hp.1 (ci := 11) (q0 := 0) rfl rfl, r_pre hp hK hN hZ hA⟩ rfl rfl hl.1 rfl (lv_room (Nat.le_of_ble_eq_true rfl)) dX9_textValue_144 ⟨Nat.le_of_ble_eq_true rfl, Nat.le_of_ble_eq_true rfl⟩) (fun H locs hp => ?_)
      exact J147 (l1, l2, st_5) _ _ _ ⟨hf, hp, (lv_sub hl [0, 1, 2] rfl)⟩
  refine W_lp (fun n8 (u : Int32 × Int32 × RS) H locs ls => match u with | (l1, l2, st) => x9_textValue_8 n8 l1 l2 st = some st' ∧ Rp (dC, dI) h0 ar ca A s.heap st H locs ∧ lv_has ls 3 [(0, .ref h0), (1, .int l1), (2, .int l2)]) (fun (u : Int32 × Int32 × RS) ls => match u with | (l1, l2, st) => F0 m 8 ls []) ?_ ?_ (fun J8 => ?_)
  · intro u H locs ls hu
    obtain ⟨l1, l2, st⟩ := u
    obtain ⟨hf, hp, hl⟩ := hu
    rw [x9_textValue_8_z] at hf
    cases hf
  · intro n8 ih8 u H locs ls hu
    obtain ⟨l1, l2, st⟩ := u
    obtain ⟨hf, hp, hl⟩ := hu
    show W p l e _ s m _ below meth c _ _ _ _ _ (F0 m 8 ls [])
    refine W_blk (fun (u : Int32 × Int32 × RS) H locs ls => match u with | (l1, l2, st) => x9_textValue_83 (x9_textValue_8 n8) l1 l2 st = some st' ∧ Rp (dC, dI) h0 ar ca A s.heap st H locs ∧ lv_has ls 3 [(0, .ref h0), (1, .int l1), (2, .int l2)]) (fun (u : Int32 × Int32 × RS) ls => match u with | (l1, l2, st) => F0 m 83 ls []) ?_ (fun J83 => ?_)
    · intro u H locs ls hu
      obtain ⟨l1, l2, st⟩ := u
      obtain ⟨hf, hp, hl⟩ := hu
      show W p l e _ s m _ below meth c _ _ _ _ _ (F0 m 83 ls [])
      unfold x9_textValue_83 at hf
      refine lv_aload_n hx hb dX9_textValue_83 rfl (lv_at hl 0 rfl) ?_
      refine r_gi hx hb hts iRX9 hown hK hp 13 (by decide) rfl (hts (.fieldLink RX9 135 "RecordBenchModel" "bad" "I") (by decide +kernel)) dX9_textValue_84 ?_
      refine lv_if_eq (tgt := 91) hx hb dX9_textValue_87 (by decide) (fun c_8 => ?_) (fun c_8 => ?_)
      · have hf := pif_t c_8 hf
        refine lv_aload_n hx hb dX9_textValue_91 rfl (lv_at hl 0 rfl) ?_
        refine r_ga hx hb hts iRX9 hown hK hp 7 (by decide) (by decide) (hts (.fieldLink RX9 33 "RecordBenchModel" "plainText" "[I") (by decide +kernel)) dX9_textValue_92 ?_
        refine lv_bipush (v := 12) hx hb dX9_textValue_95 (by decide) ?_
        refine lv_iload_n hx hb dX9_textValue_97 rfl (lv_at hl 1 rfl) ?_
        refine lv_imul hx hb dX9_textValue_98 ?_
        refine lv_iload_n hx hb dX9_textValue_99 rfl (lv_at hl 2 rfl) ?_
        refine lv_iadd hx hb dX9_textValue_100 ?_
        refine lv_aload_n hx hb dX9_textValue_101 rfl (lv_at hl 0 rfl) ?_
        refine r_ga hx hb hts iRX9 hown hK hp 9 (by decide) (by decide) (hts (.fieldLink RX9 39 "RecordBenchModel" "tape" "[I") (by decide +kernel)) dX9_textValue_102 ?_
        refine lv_aload_n hx hb dX9_textValue_105 rfl (lv_at hl 0 rfl) ?_
        refine r_gi hx hb hts iRX9 hown hK hp 11 (by decide) rfl (hts (.fieldLink RX9 141 "RecordBenchModel" "at" "I") (by decide +kernel)) dX9_textValue_106 ?_
        obtain ⟨g_9, hf⟩ := gd_some hf
        refine r_ai (n := 400) hx hb hK hp 9 9 rfl rfl rfl g_9 dX9_textValue_109 ?_
        obtain ⟨g_10, hf⟩ := gd_some hf
        refine r_si (n := 2976) hx hb hK hp 7 7 rfl rfl rfl g_10 dX9_textValue_110 (fun H locs hp => ?_)
        obtain ⟨st_11, est_11, hf⟩ := nam_some hf
        rw [← est_11] at hp
        obtain ⟨v_12, ev_12, hf⟩ := nam_some hf
        refine lv_iinc (v := v_12) (lv' := [(2, .int v_12), (0, .ref h0), (1, .int l1)]) hx hb dX9_textValue_111 hl (k := 2) rfl ev_12.symm (by decide) rfl (fun ls hl => ?_)
        refine lv_aload_n hx hb dX9_textValue_114 rfl (lv_at hl 1 rfl) ?_
        refine lv_dup hx hb dX9_textValue_115 rfl ?_
        refine r_gi hx hb hts iRX9 hown hK hp 11 (by decide) rfl (hts (.fieldLink RX9 141 "RecordBenchModel" "at" "I") (by decide +kernel)) dX9_textValue_116 ?_
        refine lv_iconst (v := 1) hx hb dX9_textValue_119 (by decide) ?_
        refine lv_iadd hx hb dX9_textValue_120 ?_
        refine r_pi (v := (gI st_11 11) + 1) (ty := .int) hx hb hts iRX9 hown hK hp 11 (by decide) rfl (hts (.fieldLink RX9 141 "RecordBenchModel" "at" "I") (by decide +kernel)) rfl (by decide +kernel) rfl rfl dX9_textValue_121 (fun H locs hp => ?_)
        obtain ⟨st_13, est_13, hf⟩ := nam_some hf
        rw [← est_13] at hp
        refine lv_goto (tgt := 8) hx hb dX9_textValue_124 (by decide) ?_
        exact ih8 (l1, v_12, st_13) _ _ _ ⟨hf, hp, (lv_sub hl [1, 2, 0] rfl)⟩
      · have hf := pif_f c_8 hf
        have e2 := Option.some.inj hf
        exact W.vret hx hb hr (fun t ht hW => ⟨⟨(), rfl, trivial, Rp.end e2 hp hK ht hW⟩, hp.2.2.F ht⟩) hp.2.2.2.2 dX9_textValue_90
    refine W_blk (fun (u : Int32 × Int32 × RS) H locs ls => match u with | (l1, l2, st) => x9_textValue_74 (x9_textValue_8 n8) l1 l2 st = some st' ∧ Rp (dC, dI) h0 ar ca A s.heap st H locs ∧ lv_has ls 3 [(0, .ref h0), (1, .int l1), (2, .int l2)]) (fun (u : Int32 × Int32 × RS) ls => match u with | (l1, l2, st) => F0 m 74 ls []) ?_ (fun J74 => ?_)
    · intro u H locs ls hu
      obtain ⟨l1, l2, st⟩ := u
      obtain ⟨hf, hp, hl⟩ := hu
      show W p l e _ s m _ below meth c _ _ _ _ _ (F0 m 74 ls [])
      unfold x9_textValue_74 at hf
      refine lv_aload_n hx hb dX9_textValue_74 rfl (lv_at hl 0 rfl) ?_
      refine lv_iconst (v := 1) hx hb dX9_textValue_75 (by decide) ?_
      refine lv_aload_n hx hb dX9_textValue_76 rfl (lv_at hl 0 rfl) ?_
      refine r_gi hx hb hts iRX9 hown hK hp 11 (by decide) rfl (hts (.fieldLink RX9 141 "RecordBenchModel" "at" "I") (by decide +kernel)) dX9_textValue_77 ?_
      obtain ⟨st_14, hc_15, hf⟩ := bnv_some hf
      refine r_cv hp hA (va_runV (As := [.int 1, .int (gI st 11)]) (rest := []) ⟨hx, hb, hml, hown, hts⟩ (c_X9_fail l dC dI h0 ar ca 1 (gI st 11) _ _ hc_15 _) (cwV 2 hts gq_X9_textValue_X9_fail_154 rfl rfl rfl (by decide +kernel) ⟨Nat.le_of_ble_eq_true rfl, Nat.le_of_ble_eq_true rfl⟩) ⟨Pr.blind _, va_recv hK hp.1 (ci := 11) (q0 := 0) rfl rfl, r_pre hp hK hN hZ hA⟩ rfl rfl hl.1 rfl (lv_room (Nat.le_of_ble_eq_true rfl)) dX9_textValue_80 ⟨Nat.le_of_ble_eq_true rfl, Nat.le_of_ble_eq_true rfl⟩) (fun H locs hp => ?_)
      exact J83 (l1, l2, st_14) _ _ _ ⟨hf, hp, (lv_sub hl [0, 1, 2] rfl)⟩
    rw [x9_textValue_8_s] at hf
    refine lv_aload_n hx hb dX9_textValue_8 rfl (lv_at hl 0 rfl) ?_
    refine r_gi hx hb hts iRX9 hown hK hp 13 (by decide) rfl (hts (.fieldLink RX9 135 "RecordBenchModel" "bad" "I") (by decide +kernel)) dX9_textValue_9 ?_
    refine lv_if_ne (tgt := 127) hx hb dX9_textValue_12 (by decide) (fun c_17 => ?_) (fun c_17 => ?_)
    · have hf := pif_f c_17 hf
      exact J127 (l1, l2, st) _ _ _ ⟨hf, hp, (lv_sub hl [0, 1, 2] rfl)⟩
    · have hf := pif_t c_17 hf
      refine lv_aload_n hx hb dX9_textValue_15 rfl (lv_at hl 0 rfl) ?_
      refine r_gi hx hb hts iRX9 hown hK hp 11 (by decide) rfl (hts (.fieldLink RX9 141 "RecordBenchModel" "at" "I") (by decide +kernel)) dX9_textValue_16 ?_
      refine lv_aload_n hx hb dX9_textValue_19 rfl (lv_at hl 0 rfl) ?_
      refine r_gi hx hb hts iRX9 hown hK hp 12 (by decide) rfl (hts (.fieldLink RX9 144 "RecordBenchModel" "size" "I") (by decide +kernel)) dX9_textValue_20 ?_
      refine lv_icmp_ge (tgt := 127) hx hb dX9_textValue_23 (by decide) (fun c_18 => ?_) (fun c_18 => ?_)
      · have hf := pif_t c_18 hf
        exact J127 (l1, l2, st) _ _ _ ⟨hf, hp, (lv_sub hl [0, 1, 2] rfl)⟩
      · have hf := pif_f c_18 hf
        refine lv_aload_n hx hb dX9_textValue_26 rfl (lv_at hl 0 rfl) ?_
        refine r_ga hx hb hts iRX9 hown hK hp 9 (by decide) (by decide) (hts (.fieldLink RX9 39 "RecordBenchModel" "tape" "[I") (by decide +kernel)) dX9_textValue_27 ?_
        refine lv_aload_n hx hb dX9_textValue_30 rfl (lv_at hl 0 rfl) ?_
        refine r_gi hx hb hts iRX9 hown hK hp 11 (by decide) rfl (hts (.fieldLink RX9 141 "RecordBenchModel" "at" "I") (by decide +kernel)) dX9_textValue_31 ?_
        obtain ⟨g_19, hf⟩ := gd_some hf
        refine r_ai (n := 400) hx hb hK hp 9 9 rfl rfl rfl g_19 dX9_textValue_34 ?_
        refine lv_bipush (v := 34) hx hb dX9_textValue_35 (by decide) ?_
        refine lv_icmp_eq (tgt := 127) hx hb dX9_textValue_37 (by decide) (fun c_20 => ?_) (fun c_20 => ?_)
        · have hf := pif_t c_20 hf
          exact J127 (l1, l2, st) _ _ _ ⟨hf, hp, (lv_sub hl [0, 1, 2] rfl)⟩
        · have hf := pif_f c_20 hf
          refine lv_iload_n hx hb dX9_textValue_40 rfl (lv_at hl 2 rfl) ?_
          refine lv_bipush (v := 12) hx hb dX9_textValue_41 (by decide) ?_
          refine lv_icmp_eq (tgt := 74) hx hb dX9_textValue_43 (by decide) (fun c_21 => ?_) (fun c_21 => ?_)
          · have hf := pif_t c_21 hf
            exact J74 (l1, l2, st) _ _ _ ⟨hf, hp, (lv_sub hl [0, 1, 2] rfl)⟩
          · have hf := pif_f c_21 hf
            refine lv_aload_n hx hb dX9_textValue_46 rfl (lv_at hl 0 rfl) ?_
            refine r_ga hx hb hts iRX9 hown hK hp 9 (by decide) (by decide) (hts (.fieldLink RX9 39 "RecordBenchModel" "tape" "[I") (by decide +kernel)) dX9_textValue_47 ?_
            refine lv_aload_n hx hb dX9_textValue_50 rfl (lv_at hl 0 rfl) ?_
            refine r_gi hx hb hts iRX9 hown hK hp 11 (by decide) rfl (hts (.fieldLink RX9 141 "RecordBenchModel" "at" "I") (by decide +kernel)) dX9_textValue_51 ?_
            obtain ⟨g_22, hf⟩ := gd_some hf
            refine r_ai (n := 400) hx hb hK hp 9 9 rfl rfl rfl g_22 dX9_textValue_54 ?_
            refine lv_bipush (v := 32) hx hb dX9_textValue_55 (by decide) ?_
            refine lv_icmp_lt (tgt := 74) hx hb dX9_textValue_57 (by decide) (fun c_23 => ?_) (fun c_23 => ?_)
            · have hf := pif_t c_23 hf
              exact J74 (l1, l2, st) _ _ _ ⟨hf, hp, (lv_sub hl [0, 1, 2] rfl)⟩
            · have hf := pif_f c_23 hf
              refine lv_aload_n hx hb dX9_textValue_60 rfl (lv_at hl 0 rfl) ?_
              refine r_ga hx hb hts iRX9 hown hK hp 9 (by decide) (by decide) (hts (.fieldLink RX9 39 "RecordBenchModel" "tape" "[I") (by decide +kernel)) dX9_textValue_61 ?_
              refine lv_aload_n hx hb dX9_textValue_64 rfl (lv_at hl 0 rfl) ?_
              refine r_gi hx hb hts iRX9 hown hK hp 11 (by decide) rfl (hts (.fieldLink RX9 141 "RecordBenchModel" "at" "I") (by decide +kernel)) dX9_textValue_65 ?_
              obtain ⟨g_24, hf⟩ := gd_some hf
              refine r_ai (n := 400) hx hb hK hp 9 9 rfl rfl rfl g_24 dX9_textValue_68 ?_
              refine lv_bipush (v := 126) hx hb dX9_textValue_69 (by decide) ?_
              refine lv_icmp_le (tgt := 83) hx hb dX9_textValue_71 (by decide) (fun c_25 => ?_) (fun c_25 => ?_)
              · have hf := pif_t c_25 hf
                exact J83 (l1, l2, st) _ _ _ ⟨hf, hp, (lv_sub hl [0, 1, 2] rfl)⟩
              · have hf := pif_f c_25 hf
                exact J74 (l1, l2, st) _ _ _ ⟨hf, hp, (lv_sub hl [0, 1, 2] rfl)⟩
  unfold x9_textValue at hf
  refine lv_aload_n hx hb dX9_textValue_0 rfl (lv_at hl 0 rfl) ?_
  refine lv_bipush (v := 34) hx hb dX9_textValue_1 (by decide) ?_
  obtain ⟨st_26, hc_27, hf⟩ := bnv_some hf
  refine r_cv hp hA (va_runV (As := [.int 34]) (rest := []) ⟨hx, hb, hml, hown, hts⟩ (c_X9_sign l dC dI h0 ar ca 34 _ _ hc_27 _) (cwV 1 hts gq_X9_textValue_X9_sign_191 rfl rfl rfl (by decide +kernel) ⟨Nat.le_of_ble_eq_true rfl, Nat.le_of_ble_eq_true rfl⟩) ⟨Pr.blind _, va_recv hK hp.1 (ci := 11) (q0 := 0) rfl rfl, r_pre hp hK hN hZ hA⟩ rfl rfl hl.1 rfl (lv_room (Nat.le_of_ble_eq_true rfl)) dX9_textValue_3 ⟨Nat.le_of_ble_eq_true rfl, Nat.le_of_ble_eq_true rfl⟩) (fun H locs hp => ?_)
  refine lv_iconst (v := 0) hx hb dX9_textValue_6 (by decide) ?_
  refine lv_istore_n (lv' := [(2, .int 0), (0, .ref h0), (1, .int p0)]) hx hb dX9_textValue_7 rfl hl (by decide) rfl (fun ls hl => ?_)
  exact J8 fuel (p0, 0, st_26) _ _ _ ⟨hf, hp, (lv_sub hl [1, 2, 0] rfl)⟩
noncomputable def x9_kinds_212  (st : RS) : Option (RS) := pif ((gI st 13) = 0) (bnv (x9_sign 59 st) (fun st_2 => some st_2)) (some st)
noncomputable def x9_kinds_161  (l2 : Int32) (l3 : Int32) (st : RS) : Option (RS) := pif ((gI st 13) = 0) (bnd (x9_next st) (fun r_8 st_6 => pif (r_8 = 61) (pif (l3 = 6) (x9_kinds_212  st_6) (nam (sI st_6 11 ((gI st_6 11) + 1)) (fun st_11 => pif (l3 = 5) (bnv (x9_textValue l2 st_11) (fun st_16 => x9_kinds_212  st_16)) (bnv (x9_value l2 l3 st_11) (fun st_13 => x9_kinds_212  st_13))))) (x9_kinds_212  st_6))) (x9_kinds_212  st)
noncomputable def x9_kinds_157  (l2 : Int32) (l3 : Int32) (st : RS) : Option (RS) := bnv (x9_ends st) (fun st_19 => x9_kinds_161  l2 l3 st_19)
noncomputable def x9_kinds_148  (l2 : Int32) (l3 : Int32) (st : RS) : Option (RS) := bnv (x9_fail 1 (gI st 17) st) (fun st_22 => x9_kinds_157  l2 l3 st_22)
noncomputable def x9_kinds_121  (l2 : Int32) (l3 : Int32) (st : RS) : Option (RS) := pif ((gI st 13) = 0) (gd (vp_in l2 248) (pif ((gF st 2 l2.toNatClampNeg) < 1) (x9_kinds_148  l2 l3 st) (gd (vp_in l2 248) (pif ((gF st 2 l2.toNatClampNeg) ≤ 3) (x9_kinds_157  l2 l3 st) (x9_kinds_148  l2 l3 st))))) (x9_kinds_157  l2 l3 st)
noncomputable def x9_kinds_81  (l2 : Int32) (l3 : Int32) (st : RS) : Option (RS) := pif ((gI st 13) = 0) (bnd (x9_word st) (fun r_33 st_31 => pif ((lg_cmp r_33 (gJ st_31 26)) = 0) (bnv (x9_takes st_31) (fun st_35 => pif ((gI st_35 13) = 0) (bnd (x9_digit st_35) (fun r_41 st_39 => gd (vp_in l2 248) (nam (sF st_39 2 (upd (gF st_39 2) l2.toNatClampNeg r_41)) (fun st_43 => x9_kinds_121  l2 l3 st_43)))) (x9_kinds_121  l2 l3 st_35))) (x9_kinds_161  l2 l3 st_31))) (x9_kinds_161  l2 l3 st)
noncomputable def x9_kinds_77  (l2 : Int32) (l3 : Int32) (st : RS) : Option (RS) := bnv (x9_ends st) (fun st_44 => x9_kinds_81  l2 l3 st_44)
noncomputable def x9_kinds_68  (l2 : Int32) (l3 : Int32) (st : RS) : Option (RS) := bnv (x9_fail 2 (gI st 17) st) (fun st_47 => x9_kinds_77  l2 l3 st_47)
noncomputable def x9_kinds (p0 : Int32) (p1 : Int32) (p2 : Int32) (st : RS) : Option (RS) := gd (vp_in p1 248) (nam (sF st 3 (upd (gF st 3) p1.toNatClampNeg (-1))) (fun st_51 => gd (vp_in p1 248) (nam (sF st_51 2 (upd (gF st_51 2) p1.toNatClampNeg 0)) (fun st_53 => gd (vp_in p1 248) (nam (sL st_53 6 (vp_updL (gL st_53 6) p1.toNatClampNeg 0)) (fun st_55 => pif (p2 = 6) (bnd (x9_digit st_55) (fun r_59 st_57 => gd (vp_in p1 248) (nam (sF st_57 3 (upd (gF st_57 3) p1.toNatClampNeg r_59)) (fun st_61 => pif ((gI st_61 13) = 0) (gd (vp_in p1 248) (pif (p0 ≤ (gF st_61 3 p1.toNatClampNeg)) (x9_kinds_68  p1 p2 st_61) (gd (vp_in p1 248) (gd (vp_in (gF st_61 3 p1.toNatClampNeg) 8) (pif ((gF st_61 0 (gF st_61 3 p1.toNatClampNeg).toNatClampNeg) = 0) (x9_kinds_68  p1 p2 st_61) (x9_kinds_77  p1 p2 st_61)))))) (x9_kinds_77  p1 p2 st_61))))) (x9_kinds_81  p1 p2 st_55)))))))
def wq_X9_kinds : List Cond := .code yX9_kinds cX9_kinds 4 none :: (([.fieldLink RX9 20 "RecordBenchModel" "inner" "[I", .fieldLink RX9 17 "RecordBenchModel" "group" "[I", .fieldLink RX9 30 "RecordBenchModel" "plain" "[J", .fieldLink RX9 135 "RecordBenchModel" "bad" "I", .fieldLink RX9 7 "RecordBenchModel" "told" "[Z", .fieldLink RX9 147 "RecordBenchModel" "begun" "I", .fieldLink RX9 72 "RecordBenchModel" "inWord" "J", .fieldLink RX9 141 "RecordBenchModel" "at" "I", .methodLink RX9 191 yX9_sign, .instanceMethod yX9_sign, .selects RX9 yX9_sign yX9_sign, .initialized RX9, .methodLink RX9 150 yX9_next, .instanceMethod yX9_next, .selects RX9 yX9_next yX9_next, .methodLink RX9 212 yX9_value, .instanceMethod yX9_value, .selects RX9 yX9_value yX9_value, .methodLink RX9 209 yX9_textValue, .instanceMethod yX9_textValue, .selects RX9 yX9_textValue yX9_textValue, .methodLink RX9 206 yX9_ends, .instanceMethod yX9_ends, .selects RX9 yX9_ends yX9_ends, .methodLink RX9 154 yX9_fail, .instanceMethod yX9_fail, .selects RX9 yX9_fail yX9_fail, .methodLink RX9 184 yX9_word, .instanceMethod yX9_word, .selects RX9 yX9_word yX9_word, .methodLink RX9 188 yX9_takes, .instanceMethod yX9_takes, .selects RX9 yX9_takes yX9_takes, .methodLink RX9 203 yX9_digit, .instanceMethod yX9_digit, .selects RX9 yX9_digit yX9_digit, .code yX9_sign cX9_sign 2 none, .code yX9_next cX9_next 1 (some .int), .fieldLink RX9 144 "RecordBenchModel" "size" "I", .fieldLink RX9 39 "RecordBenchModel" "tape" "[I", .code yX9_fail cX9_fail 3 none, .fieldLink RX9 138 "RecordBenchModel" "badPlace" "I", .code yX9_value cX9_value 10 none, .constantLong RX9 223 (-922337203685477580), .constantLong RX9 225 (10), .fieldLink RX9 162 "RecordBenchModel" "ended" "I", .constantLong RX9 227 (-9223372036854775808), .methodLink RX9 229 yX9_isOf, .static yX9_isOf, .methodLink RX9 158 yX9_isDigit, .static yX9_isDigit, .code yX9_isOf cX9_isOf 3 (some .boolean), .constantLong RX9 219 (-2147483648), .constantLong RX9 221 (2147483647), .constantLong RX9 215 (-128), .constantLong RX9 217 (127), .code yX9_isDigit cX9_isDigit 1 (some .boolean), .code yX9_textValue cX9_textValue 3 none, .fieldLink RX9 33 "RecordBenchModel" "plainText" "[I", .code yX9_ends cX9_ends 1 none, .code yX9_word cX9_word 5 (some .long), .constantLong RX9 175 (-1), .constantLong RX9 168 (27), .constantLong RX9 170 (97), .methodLink RX9 172 yX9_wordEnd, .instanceMethod yX9_wordEnd, .selects RX9 yX9_wordEnd yX9_wordEnd, .code yX9_wordEnd cX9_wordEnd 2 (some .int), .methodLink RX9 165 yX9_isLetter, .static yX9_isLetter, .code yX9_isLetter cX9_isLetter 1 (some .boolean), .code yX9_takes cX9_takes 1 none, .code yX9_digit cX9_digit 1 (some .int)] : List Cond) ++ wsX90)
theorem gs_wq_X9_kinds_wsX90 : GoodIn wq_X9_kinds wsX90 := fun w h => ⟨List.mem_cons_of_mem _ (List.mem_append_right _ h), (gt_wsX90 w h).2⟩
set_option maxRecDepth 20000 in
theorem gq_X9_kinds_X9_sign_191 : GoodIn wq_X9_kinds (wsV RX9 191 RX9 yX9_sign wq_X9_sign) := goodIn_app (goodIn_r _ [9, 10, 11, 12] rfl rfl) (goodIn_ca (goodIn_r _ [37, 8, 13, 14, 15, 12, 25, 26, 27, 38, 39, 40, 6, 41, 4, 42] rfl rfl) gs_wq_X9_kinds_wsX90)
set_option maxRecDepth 20000 in
theorem gq_X9_kinds_X9_next_150 : GoodIn wq_X9_kinds (wsV RX9 150 RX9 yX9_next wq_X9_next) := goodIn_app (goodIn_r _ [13, 14, 15, 12] rfl rfl) (goodIn_ca (goodIn_r _ [38, 8, 39, 40, 6] rfl rfl) gs_wq_X9_kinds_wsX90)
set_option maxRecDepth 20000 in
theorem gq_X9_kinds_X9_value_212 : GoodIn wq_X9_kinds (wsV RX9 212 RX9 yX9_value wq_X9_value) := goodIn_app (goodIn_r _ [16, 17, 18, 12] rfl rfl) (goodIn_ca (goodIn_r _ [43, 8, 39, 40, 44, 45, 46, 47, 3, 25, 26, 27, 12, 48, 49, 50, 51, 13, 14, 15, 41, 4, 42, 52, 53, 54, 55, 56, 57, 38, 6] rfl rfl) gs_wq_X9_kinds_wsX90)
set_option maxRecDepth 20000 in
theorem gq_X9_kinds_X9_textValue_209 : GoodIn wq_X9_kinds (wsV RX9 209 RX9 yX9_textValue wq_X9_textValue) := goodIn_app (goodIn_r _ [19, 20, 21, 12] rfl rfl) (goodIn_ca (goodIn_r _ [58, 4, 8, 39, 40, 59, 3, 25, 26, 27, 12, 9, 10, 11, 41, 42, 37, 13, 14, 15, 38, 6] rfl rfl) gs_wq_X9_kinds_wsX90)
set_option maxRecDepth 20000 in
theorem gq_X9_kinds_X9_ends_206 : GoodIn wq_X9_kinds (wsV RX9 206 RX9 yX9_ends wq_X9_ends) := goodIn_app (goodIn_r _ [22, 23, 24, 12] rfl rfl) (goodIn_ca (goodIn_r _ [60, 8, 39, 40, 50, 51, 12, 25, 26, 27, 57, 41, 4, 42] rfl rfl) gs_wq_X9_kinds_wsX90)
set_option maxRecDepth 20000 in
theorem gq_X9_kinds_X9_fail_154 : GoodIn wq_X9_kinds (wsV RX9 154 RX9 yX9_fail wq_X9_fail) := goodIn_app (goodIn_r _ [25, 26, 27, 12] rfl rfl) (goodIn_ca (goodIn_r _ [41, 4, 42] rfl rfl) gs_wq_X9_kinds_wsX90)
set_option maxRecDepth 20000 in
theorem gq_X9_kinds_X9_word_184 : GoodIn wq_X9_kinds (wsV RX9 184 RX9 yX9_word wq_X9_word) := goodIn_app (goodIn_r _ [28, 29, 30, 12] rfl rfl) (goodIn_ca (goodIn_r _ [61, 8, 62, 63, 40, 64, 13, 14, 15, 12, 65, 66, 67, 38, 39, 6, 68, 69, 70, 71] rfl rfl) gs_wq_X9_kinds_wsX90)
set_option maxRecDepth 20000 in
theorem gq_X9_kinds_X9_takes_188 : GoodIn wq_X9_kinds (wsV RX9 188 RX9 yX9_takes wq_X9_takes) := goodIn_app (goodIn_r _ [31, 32, 33, 12] rfl rfl) (goodIn_ca (goodIn_r _ [72, 8, 46, 65, 66, 67, 12, 25, 26, 27, 68, 39, 40, 69, 70, 71, 41, 4, 42] rfl rfl) gs_wq_X9_kinds_wsX90)
set_option maxRecDepth 20000 in
theorem gq_X9_kinds_X9_digit_203 : GoodIn wq_X9_kinds (wsV RX9 203 RX9 yX9_digit wq_X9_digit) := goodIn_app (goodIn_r _ [34, 35, 36, 12] rfl rfl) (goodIn_ca (goodIn_r _ [73, 8, 46, 40, 6, 25, 26, 27, 12, 13, 14, 15, 50, 51, 41, 4, 42, 38, 39, 57] rfl rfl) gs_wq_X9_kinds_wsX90)
set_option maxHeartbeats 4000000 in
set_option maxRecDepth 100000 in
theorem c_X9_kinds (l : Launch) (dC : Nat → ClassId) (dI : Nat → Nat → Nat) (h0 : Nat) (ar : Nat → Nat) (ca : Nat → ClassId) (p0 : Int32) (p1 : Int32) (p2 : Int32) (st st' : RS) (hf : x9_kinds p0 p1 p2 st = some st') (sz : Nat) : Met l yX9_kinds wq_X9_kinds ({ frames := 3, cells := 0, slots := 0, locals := 77 }) (va_Pc [.ref h0, .int p0, .int p1, .int p2] (Pr (dC, dI) (rT ca) [] (RW h0 ar ca st) sz)) (va_Qv (fun (_ : Unit) => True) (Bq (dC, dI) (fun _ => RW h0 ar ca st') (fun _ => []) (va_A (RW h0 ar ca st) sz)) (va_A (RW h0 ar ca st) sz)) 0 0 (va_A (RW h0 ar ca st) sz) := by
  refine Met.ofW (cc := cX9_kinds) (maxL := 4) (ret := none) (by decide) rfl ?_
  intro p e s m args below meth c s₁ B hml hv
  obtain ⟨rfl, hsz, hP, hK, hD0, hN, hZ, hR⟩ := hv
  have hx := B.exec
  have hb := B.bytes
  have hr := B.returns
  have hts := atoms_spec (ws := wq_X9_kinds) B.pre
  have hown : s.vm.findClass RX9 = some m.cls := findClass_of_methodNamed B.named
  have iRX9 : ∀ w ∈ u_ws RX9 TX9 60, w ∈ wq_X9_kinds := fun w h => List.mem_cons_of_mem _ (List.mem_append_right _ h)
  subst hsz
  have hp : Rp (dC, dI) h0 ar ca (va_A (RW h0 ar ca st) s.heap.size) s.heap st s.heap [] := ⟨hP, hD0.self, va_S.rf⟩
  generalize hAe : va_A (RW h0 ar ca st) s.heap.size = A at hp hZ ⊢
  have hA : ∀ q : Nat, s.heap.size ≤ q → A q := fun q h => by rw [← hAe]; exact Or.inr h
  have hl := lv_entry ([.ref h0, .int p0, .int p1, .int p2]) (n := 4) (Nat.le_of_ble_eq_true rfl)
  rw [lg_entry_eq]
  generalize (lg_sl ([.ref h0, .int p0, .int p1, .int p2]) ++ List.replicate (4 - (lg_sl ([.ref h0, .int p0, .int p1, .int p2])).length) Slot.unset).toArray = ls at hl ⊢
  have hl : lv_has ls 4 [(0, .ref h0), (1, .int p0), (2, .int p1), (3, .int p2)] := hl
  refine W_blk (fun (st : RS) H locs ls => x9_kinds_212 st = some st' ∧ Rp (dC, dI) h0 ar ca A s.heap st H locs ∧ lv_has ls 4 [(0, .ref h0)]) (fun (st : RS) ls => F0 m 212 ls []) ?_ (fun J212 => ?_)
  · intro u H locs ls hu
    obtain ⟨st, rfl⟩ : ∃ z, z = u := ⟨_, rfl⟩
    obtain ⟨hf, hp, hl⟩ := hu
    show W p l e _ s m _ below meth c _ _ _ _ _ (F0 m 212 ls [])
    unfold x9_kinds_212 at hf
    refine lv_aload_n hx hb dX9_kinds_212 rfl (lv_at hl 0 rfl) ?_
    refine r_gi hx hb hts iRX9 hown hK hp 13 (by decide) rfl (hts (.fieldLink RX9 135 "RecordBenchModel" "bad" "I") (by decide +kernel)) dX9_kinds_213 ?_
    refine lv_if_ne (tgt := 225) hx hb dX9_kinds_216 (by decide) (fun c_1 => ?_) (fun c_1 => ?_)
    · have hf := pif_f c_1 hf
      have e2 := Option.some.inj hf
      exact W.vret hx hb hr (fun t ht hW => ⟨⟨(), rfl, trivial, Rp.end e2 hp hK ht hW⟩, hp.2.2.F ht⟩) hp.2.2.2.2 dX9_kinds_225
    · have hf := pif_t c_1 hf
      refine lv_aload_n hx hb dX9_kinds_219 rfl (lv_at hl 0 rfl) ?_
      refine lv_bipush (v := 59) hx hb dX9_kinds_220 (by decide) ?_
      obtain ⟨st_2, hc_3, hf⟩ := bnv_some hf
      refine r_cv hp hA (va_runV (As := [.int 59]) (rest := []) ⟨hx, hb, hml, hown, hts⟩ (c_X9_sign l dC dI h0 ar ca 59 _ _ hc_3 _) (cwV 1 hts gq_X9_kinds_X9_sign_191 rfl rfl rfl (by decide +kernel) ⟨Nat.le_of_ble_eq_true rfl, Nat.le_of_ble_eq_true rfl⟩) ⟨Pr.blind _, va_recv hK hp.1 (ci := 11) (q0 := 0) rfl rfl, r_pre hp hK hN hZ hA⟩ rfl rfl hl.1 rfl (lv_room (Nat.le_of_ble_eq_true rfl)) dX9_kinds_222 ⟨Nat.le_of_ble_eq_true rfl, Nat.le_of_ble_eq_true rfl⟩) (fun H locs hp => ?_)
      have e2 := Option.some.inj hf
      exact W.vret hx hb hr (fun t ht hW => ⟨⟨(), rfl, trivial, Rp.end e2 hp hK ht hW⟩, hp.2.2.F ht⟩) hp.2.2.2.2 dX9_kinds_225
  refine W_blk (fun (u : Int32 × Int32 × RS) H locs ls => match u with | (l2, l3, st) => x9_kinds_161 l2 l3 st = some st' ∧ Rp (dC, dI) h0 ar ca A s.heap st H locs ∧ lv_has ls 4 [(0, .ref h0), (2, .int l2), (3, .int l3)]) (fun (u : Int32 × Int32 × RS) ls => match u with | (l2, l3, st) => F0 m 161 ls []) ?_ (fun J161 => ?_)
  · intro u H locs ls hu
    obtain ⟨l2, l3, st⟩ := u
    obtain ⟨hf, hp, hl⟩ := hu
    show W p l e _ s m _ below meth c _ _ _ _ _ (F0 m 161 ls [])
    unfold x9_kinds_161 at hf
    refine lv_aload_n hx hb dX9_kinds_161 rfl (lv_at hl 0 rfl) ?_
    refine r_gi hx hb hts iRX9 hown hK hp 13 (by decide) rfl (hts (.fieldLink RX9 135 "RecordBenchModel" "bad" "I") (by decide +kernel)) dX9_kinds_162 ?_
    refine lv_if_ne (tgt := 212) hx hb dX9_kinds_165 (by decide) (fun c_5 => ?_) (fun c_5 => ?_)
    · have hf := pif_f c_5 hf
      exact J212 st _ _ _ ⟨hf, hp, (lv_sub hl [0] rfl)⟩
    · have hf := pif_t c_5 hf
      refine lv_aload_n hx hb dX9_kinds_168 rfl (lv_at hl 0 rfl) ?_
      obtain ⟨r_8, st_6, hc_7, hf⟩ := bnd_some hf
      refine r_ci hp hA (va_runV (As := []) (rest := []) ⟨hx, hb, hml, hown, hts⟩ (c_X9_next l dC dI h0 ar ca  _ _ _ hc_7 _) (cwV 0 hts gq_X9_kinds_X9_next_150 rfl rfl rfl (by decide +kernel) ⟨Nat.le_of_ble_eq_true rfl, Nat.le_of_ble_eq_true rfl⟩) ⟨Pr.blind _, va_recv hK hp.1 (ci := 11) (q0 := 0) rfl rfl, r_pre hp hK hN hZ hA⟩ rfl rfl hl.1 rfl (lv_room (Nat.le_of_ble_eq_true rfl)) dX9_kinds_169 ⟨Nat.le_of_ble_eq_true rfl, Nat.le_of_ble_eq_true rfl⟩) (fun H locs hp => ?_)
      refine lv_bipush (v := 61) hx hb dX9_kinds_172 (by decide) ?_
      refine lv_icmp_ne (tgt := 212) hx hb dX9_kinds_174 (by decide) (fun c_9 => ?_) (fun c_9 => ?_)
      · have hf := pif_f c_9 hf
        exact J212 st_6 _ _ _ ⟨hf, hp, (lv_sub hl [0] rfl)⟩
      · have hf := pif_t c_9 hf
        refine lv_iload_n hx hb dX9_kinds_177 rfl (lv_at hl 2 rfl) ?_
        refine lv_bipush (v := 6) hx hb dX9_kinds_178 (by decide) ?_
        refine lv_icmp_eq (tgt := 212) hx hb dX9_kinds_180 (by decide) (fun c_10 => ?_) (fun c_10 => ?_)
        · have hf := pif_t c_10 hf
          exact J212 st_6 _ _ _ ⟨hf, hp, (lv_sub hl [0] rfl)⟩
        · have hf := pif_f c_10 hf
          refine lv_aload_n hx hb dX9_kinds_183 rfl (lv_at hl 0 rfl) ?_
          refine lv_dup hx hb dX9_kinds_184 rfl ?_
          refine r_gi hx hb hts iRX9 hown hK hp 11 (by decide) rfl (hts (.fieldLink RX9 141 "RecordBenchModel" "at" "I") (by decide +kernel)) dX9_kinds_185 ?_
          refine lv_iconst (v := 1) hx hb dX9_kinds_188 (by decide) ?_
          refine lv_iadd hx hb dX9_kinds_189 ?_
          refine r_pi (v := (gI st_6 11) + 1) (ty := .int) hx hb hts iRX9 hown hK hp 11 (by decide) rfl (hts (.fieldLink RX9 141 "RecordBenchModel" "at" "I") (by decide +kernel)) rfl (by decide +kernel) rfl rfl dX9_kinds_190 (fun H locs hp => ?_)
          obtain ⟨st_11, est_11, hf⟩ := nam_some hf
          rw [← est_11] at hp
          refine lv_iload_n hx hb dX9_kinds_193 rfl (lv_at hl 2 rfl) ?_
          refine lv_iconst (v := 5) hx hb dX9_kinds_194 (by decide) ?_
          refine lv_icmp_ne (tgt := 206) hx hb dX9_kinds_195 (by decide) (fun c_12 => ?_) (fun c_12 => ?_)
          · have hf := pif_f c_12 hf
            refine lv_aload_n hx hb dX9_kinds_206 rfl (lv_at hl 0 rfl) ?_
            refine lv_iload_n hx hb dX9_kinds_207 rfl (lv_at hl 1 rfl) ?_
            refine lv_iload_n hx hb dX9_kinds_208 rfl (lv_at hl 2 rfl) ?_
            obtain ⟨st_13, hc_14, hf⟩ := bnv_some hf
            refine r_cv hp hA (va_runV (As := [.int l2, .int l3]) (rest := []) ⟨hx, hb, hml, hown, hts⟩ (c_X9_value l dC dI h0 ar ca l2 l3 _ _ hc_14 _) (cwV 2 hts gq_X9_kinds_X9_value_212 rfl rfl rfl (by decide +kernel) ⟨Nat.le_of_ble_eq_true rfl, Nat.le_of_ble_eq_true rfl⟩) ⟨Pr.blind _, va_recv hK hp.1 (ci := 11) (q0 := 0) rfl rfl, r_pre hp hK hN hZ hA⟩ rfl rfl hl.1 rfl (lv_room (Nat.le_of_ble_eq_true rfl)) dX9_kinds_209 ⟨Nat.le_of_ble_eq_true rfl, Nat.le_of_ble_eq_true rfl⟩) (fun H locs hp => ?_)
            exact J212 st_13 _ _ _ ⟨hf, hp, (lv_sub hl [0] rfl)⟩
          · have hf := pif_t c_12 hf
            refine lv_aload_n hx hb dX9_kinds_198 rfl (lv_at hl 0 rfl) ?_
            refine lv_iload_n hx hb dX9_kinds_199 rfl (lv_at hl 1 rfl) ?_
            obtain ⟨st_16, hc_17, hf⟩ := bnv_some hf
            refine r_cv hp hA (va_runV (As := [.int l2]) (rest := []) ⟨hx, hb, hml, hown, hts⟩ (c_X9_textValue l dC dI h0 ar ca l2 _ _ hc_17 _) (cwV 1 hts gq_X9_kinds_X9_textValue_209 rfl rfl rfl (by decide +kernel) ⟨Nat.le_of_ble_eq_true rfl, Nat.le_of_ble_eq_true rfl⟩) ⟨Pr.blind _, va_recv hK hp.1 (ci := 11) (q0 := 0) rfl rfl, r_pre hp hK hN hZ hA⟩ rfl rfl hl.1 rfl (lv_room (Nat.le_of_ble_eq_true rfl)) dX9_kinds_200 ⟨Nat.le_of_ble_eq_true rfl, Nat.le_of_ble_eq_true rfl⟩) (fun H locs hp => ?_)
            refine lv_goto (tgt := 212) hx hb dX9_kinds_203 (by decide) ?_
            exact J212 st_16 _ _ _ ⟨hf, hp, (lv_sub hl [0] rfl)⟩
  refine W_blk (fun (u : Int32 × Int32 × RS) H locs ls => match u with | (l2, l3, st) => x9_kinds_157 l2 l3 st = some st' ∧ Rp (dC, dI) h0 ar ca A s.heap st H locs ∧ lv_has ls 4 [(0, .ref h0), (2, .int l2), (3, .int l3)]) (fun (u : Int32 × Int32 × RS) ls => match u with | (l2, l3, st) => F0 m 157 ls []) ?_ (fun J157 => ?_)
  · intro u H locs ls hu
    obtain ⟨l2, l3, st⟩ := u
    obtain ⟨hf, hp, hl⟩ := hu
    show W p l e _ s m _ below meth c _ _ _ _ _ (F0 m 157 ls [])
    unfold x9_kinds_157 at hf
    refine lv_aload_n hx hb dX9_kinds_157 rfl (lv_at hl 0 rfl) ?_
    obtain ⟨st_19, hc_20, hf⟩ := bnv_some hf
    refine r_cv hp hA (va_runV (As := []) (rest := []) ⟨hx, hb, hml, hown, hts⟩ (c_X9_ends l dC dI h0 ar ca  _ _ hc_20 _) (cwV 0 hts gq_X9_kinds_X9_ends_206 rfl rfl rfl (by decide +kernel) ⟨Nat.le_of_ble_eq_true rfl, Nat.le_of_ble_eq_true rfl⟩) ⟨Pr.blind _, va_recv hK hp.1 (ci := 11) (q0 := 0) rfl rfl, r_pre hp hK hN hZ hA⟩ rfl rfl hl.1 rfl (lv_room (Nat.le_of_ble_eq_true rfl)) dX9_kinds_158 ⟨Nat.le_of_ble_eq_true rfl, Nat.le_of_ble_eq_true rfl⟩) (fun H locs hp => ?_)
    exact J161 (l2, l3, st_19) _ _ _ ⟨hf, hp, (lv_sub hl [0, 1, 2] rfl)⟩
  refine W_blk (fun (u : Int32 × Int32 × RS) H locs ls => match u with | (l2, l3, st) => x9_kinds_148 l2 l3 st = some st' ∧ Rp (dC, dI) h0 ar ca A s.heap st H locs ∧ lv_has ls 4 [(0, .ref h0), (2, .int l2), (3, .int l3)]) (fun (u : Int32 × Int32 × RS) ls => match u with | (l2, l3, st) => F0 m 148 ls []) ?_ (fun J148 => ?_)
  · intro u H locs ls hu
    obtain ⟨l2, l3, st⟩ := u
    obtain ⟨hf, hp, hl⟩ := hu
    show W p l e _ s m _ below meth c _ _ _ _ _ (F0 m 148 ls [])
    unfold x9_kinds_148 at hf
    refine lv_aload_n hx hb dX9_kinds_148 rfl (lv_at hl 0 rfl) ?_
    refine lv_iconst (v := 1) hx hb dX9_kinds_149 (by decide) ?_
    refine lv_aload_n hx hb dX9_kinds_150 rfl (lv_at hl 0 rfl) ?_
    refine r_gi hx hb hts iRX9 hown hK hp 17 (by decide) rfl (hts (.fieldLink RX9 147 "RecordBenchModel" "begun" "I") (by decide +kernel)) dX9_kinds_151 ?_
    obtain ⟨st_22, hc_23, hf⟩ := bnv_some hf
    refine r_cv hp hA (va_runV (As := [.int 1, .int (gI st 17)]) (rest := []) ⟨hx, hb, hml, hown, hts⟩ (c_X9_fail l dC dI h0 ar ca 1 (gI st 17) _ _ hc_23 _) (cwV 2 hts gq_X9_kinds_X9_fail_154 rfl rfl rfl (by decide +kernel) ⟨Nat.le_of_ble_eq_true rfl, Nat.le_of_ble_eq_true rfl⟩) ⟨Pr.blind _, va_recv hK hp.1 (ci := 11) (q0 := 0) rfl rfl, r_pre hp hK hN hZ hA⟩ rfl rfl hl.1 rfl (lv_room (Nat.le_of_ble_eq_true rfl)) dX9_kinds_154 ⟨Nat.le_of_ble_eq_true rfl, Nat.le_of_ble_eq_true rfl⟩) (fun H locs hp => ?_)
    exact J157 (l2, l3, st_22) _ _ _ ⟨hf, hp, (lv_sub hl [0, 1, 2] rfl)⟩
  refine W_blk (fun (u : Int32 × Int32 × RS) H locs ls => match u with | (l2, l3, st) => x9_kinds_121 l2 l3 st = some st' ∧ Rp (dC, dI) h0 ar ca A s.heap st H locs ∧ lv_has ls 4 [(0, .ref h0), (2, .int l2), (3, .int l3)]) (fun (u : Int32 × Int32 × RS) ls => match u with | (l2, l3, st) => F0 m 121 ls []) ?_ (fun J121 => ?_)
  · intro u H locs ls hu
    obtain ⟨l2, l3, st⟩ := u
    obtain ⟨hf, hp, hl⟩ := hu
    show W p l e _ s m _ below meth c _ _ _ _ _ (F0 m 121 ls [])
    unfold x9_kinds_121 at hf
    refine lv_aload_n hx hb dX9_kinds_121 rfl (lv_at hl 0 rfl) ?_
    refine r_gi hx hb hts iRX9 hown hK hp 13 (by decide) rfl (hts (.fieldLink RX9 135 "RecordBenchModel" "bad" "I") (by decide +kernel)) dX9_kinds_122 ?_
    refine lv_if_ne (tgt := 157) hx hb dX9_kinds_125 (by decide) (fun c_25 => ?_) (fun c_25 => ?_)
    · have hf := pif_f c_25 hf
      exact J157 (l2, l3, st) _ _ _ ⟨hf, hp, (lv_sub hl [0, 1, 2] rfl)⟩
    · have hf := pif_t c_25 hf
      refine lv_aload_n hx hb dX9_kinds_128 rfl (lv_at hl 0 rfl) ?_
      refine r_ga hx hb hts iRX9 hown hK hp 2 (by decide) (by decide) (hts (.fieldLink RX9 17 "RecordBenchModel" "group" "[I") (by decide +kernel)) dX9_kinds_129 ?_
      refine lv_iload_n hx hb dX9_kinds_132 rfl (lv_at hl 1 rfl) ?_
      obtain ⟨g_26, hf⟩ := gd_some hf
      refine r_ai (n := 248) hx hb hK hp 2 2 rfl rfl rfl g_26 dX9_kinds_133 ?_
      refine lv_iconst (v := 1) hx hb dX9_kinds_134 (by decide) ?_
      refine lv_icmp_lt (tgt := 148) hx hb dX9_kinds_135 (by decide) (fun c_27 => ?_) (fun c_27 => ?_)
      · have hf := pif_t c_27 hf
        exact J148 (l2, l3, st) _ _ _ ⟨hf, hp, (lv_sub hl [0, 1, 2] rfl)⟩
      · have hf := pif_f c_27 hf
        refine lv_aload_n hx hb dX9_kinds_138 rfl (lv_at hl 0 rfl) ?_
        refine r_ga hx hb hts iRX9 hown hK hp 2 (by decide) (by decide) (hts (.fieldLink RX9 17 "RecordBenchModel" "group" "[I") (by decide +kernel)) dX9_kinds_139 ?_
        refine lv_iload_n hx hb dX9_kinds_142 rfl (lv_at hl 1 rfl) ?_
        obtain ⟨g_28, hf⟩ := gd_some hf
        refine r_ai (n := 248) hx hb hK hp 2 2 rfl rfl rfl g_28 dX9_kinds_143 ?_
        refine lv_iconst (v := 3) hx hb dX9_kinds_144 (by decide) ?_
        refine lv_icmp_le (tgt := 157) hx hb dX9_kinds_145 (by decide) (fun c_29 => ?_) (fun c_29 => ?_)
        · have hf := pif_t c_29 hf
          exact J157 (l2, l3, st) _ _ _ ⟨hf, hp, (lv_sub hl [0, 1, 2] rfl)⟩
        · have hf := pif_f c_29 hf
          exact J148 (l2, l3, st) _ _ _ ⟨hf, hp, (lv_sub hl [0, 1, 2] rfl)⟩
  refine W_blk (fun (u : Int32 × Int32 × RS) H locs ls => match u with | (l2, l3, st) => x9_kinds_81 l2 l3 st = some st' ∧ Rp (dC, dI) h0 ar ca A s.heap st H locs ∧ lv_has ls 4 [(0, .ref h0), (2, .int l2), (3, .int l3)]) (fun (u : Int32 × Int32 × RS) ls => match u with | (l2, l3, st) => F0 m 81 ls []) ?_ (fun J81 => ?_)
  · intro u H locs ls hu
    obtain ⟨l2, l3, st⟩ := u
    obtain ⟨hf, hp, hl⟩ := hu
    show W p l e _ s m _ below meth c _ _ _ _ _ (F0 m 81 ls [])
    unfold x9_kinds_81 at hf
    refine lv_aload_n hx hb dX9_kinds_81 rfl (lv_at hl 0 rfl) ?_
    refine r_gi hx hb hts iRX9 hown hK hp 13 (by decide) rfl (hts (.fieldLink RX9 135 "RecordBenchModel" "bad" "I") (by decide +kernel)) dX9_kinds_82 ?_
    refine lv_if_ne (tgt := 161) hx hb dX9_kinds_85 (by decide) (fun c_30 => ?_) (fun c_30 => ?_)
    · have hf := pif_f c_30 hf
      exact J161 (l2, l3, st) _ _ _ ⟨hf, hp, (lv_sub hl [0, 1, 2] rfl)⟩
    · have hf := pif_t c_30 hf
      refine lv_aload_n hx hb dX9_kinds_88 rfl (lv_at hl 0 rfl) ?_
      obtain ⟨r_33, st_31, hc_32, hf⟩ := bnd_some hf
      refine r_cl hp hA (va_runV (As := []) (rest := []) ⟨hx, hb, hml, hown, hts⟩ (c_X9_word l dC dI h0 ar ca  _ _ _ hc_32 _) (cwV 0 hts gq_X9_kinds_X9_word_184 rfl rfl rfl (by decide +kernel) ⟨Nat.le_of_ble_eq_true rfl, Nat.le_of_ble_eq_true rfl⟩) ⟨Pr.blind _, va_recv hK hp.1 (ci := 11) (q0 := 0) rfl rfl, r_pre hp hK hN hZ hA⟩ rfl rfl hl.1 rfl (lv_room (Nat.le_of_ble_eq_true rfl)) dX9_kinds_89 ⟨Nat.le_of_ble_eq_true rfl, Nat.le_of_ble_eq_true rfl⟩) (fun H locs hp => ?_)
      refine lv_aload_n hx hb dX9_kinds_92 rfl (lv_at hl 0 rfl) ?_
      refine r_gj hx hb hts iRX9 hown hK hp 26 (by decide) rfl (hts (.fieldLink RX9 72 "RecordBenchModel" "inWord" "J") (by decide +kernel)) dX9_kinds_93 ?_
      refine W.lcmp hx hb dX9_kinds_96 ?_
      refine lv_if_ne (tgt := 161) hx hb dX9_kinds_97 (by decide) (fun c_34 => ?_) (fun c_34 => ?_)
      · have hf := pif_f c_34 hf
        exact J161 (l2, l3, st_31) _ _ _ ⟨hf, hp, (lv_sub hl [0, 1, 2] rfl)⟩
      · have hf := pif_t c_34 hf
        refine lv_aload_n hx hb dX9_kinds_100 rfl (lv_at hl 0 rfl) ?_
        obtain ⟨st_35, hc_36, hf⟩ := bnv_some hf
        refine r_cv hp hA (va_runV (As := []) (rest := []) ⟨hx, hb, hml, hown, hts⟩ (c_X9_takes l dC dI h0 ar ca  _ _ hc_36 _) (cwV 0 hts gq_X9_kinds_X9_takes_188 rfl rfl rfl (by decide +kernel) ⟨Nat.le_of_ble_eq_true rfl, Nat.le_of_ble_eq_true rfl⟩) ⟨Pr.blind _, va_recv hK hp.1 (ci := 11) (q0 := 0) rfl rfl, r_pre hp hK hN hZ hA⟩ rfl rfl hl.1 rfl (lv_room (Nat.le_of_ble_eq_true rfl)) dX9_kinds_101 ⟨Nat.le_of_ble_eq_true rfl, Nat.le_of_ble_eq_true rfl⟩) (fun H locs hp => ?_)
        refine lv_aload_n hx hb dX9_kinds_104 rfl (lv_at hl 0 rfl) ?_
        refine r_gi hx hb hts iRX9 hown hK hp 13 (by decide) rfl (hts (.fieldLink RX9 135 "RecordBenchModel" "bad" "I") (by decide +kernel)) dX9_kinds_105 ?_
        refine lv_if_ne (tgt := 121) hx hb dX9_kinds_108 (by decide) (fun c_38 => ?_) (fun c_38 => ?_)
        · have hf := pif_f c_38 hf
          exact J121 (l2, l3, st_35) _ _ _ ⟨hf, hp, (lv_sub hl [0, 1, 2] rfl)⟩
        · have hf := pif_t c_38 hf
          refine lv_aload_n hx hb dX9_kinds_111 rfl (lv_at hl 0 rfl) ?_
          refine r_ga hx hb hts iRX9 hown hK hp 2 (by decide) (by decide) (hts (.fieldLink RX9 17 "RecordBenchModel" "group" "[I") (by decide +kernel)) dX9_kinds_112 ?_
          refine lv_iload_n hx hb dX9_kinds_115 rfl (lv_at hl 1 rfl) ?_
          refine lv_aload_n hx hb dX9_kinds_116 rfl (lv_at hl 0 rfl) ?_
          obtain ⟨r_41, st_39, hc_40, hf⟩ := bnd_some hf
          refine r_ci hp hA (va_runV (As := []) (rest := [.int l2, .ref (ar 2)]) ⟨hx, hb, hml, hown, hts⟩ (c_X9_digit l dC dI h0 ar ca  _ _ _ hc_40 _) (cwV 0 hts gq_X9_kinds_X9_digit_203 rfl rfl rfl (by decide +kernel) ⟨Nat.le_of_ble_eq_true rfl, Nat.le_of_ble_eq_true rfl⟩) ⟨Pr.blind _, va_recv hK hp.1 (ci := 11) (q0 := 0) rfl rfl, r_pre hp hK hN hZ hA⟩ rfl rfl hl.1 rfl (lv_room (Nat.le_of_ble_eq_true rfl)) dX9_kinds_117 ⟨Nat.le_of_ble_eq_true rfl, Nat.le_of_ble_eq_true rfl⟩) (fun H locs hp => ?_)
          obtain ⟨g_42, hf⟩ := gd_some hf
          refine r_si (n := 248) hx hb hK hp 2 2 rfl rfl rfl g_42 dX9_kinds_120 (fun H locs hp => ?_)
          obtain ⟨st_43, est_43, hf⟩ := nam_some hf
          rw [← est_43] at hp
          exact J121 (l2, l3, st_43) _ _ _ ⟨hf, hp, (lv_sub hl [0, 1, 2] rfl)⟩
  refine W_blk (fun (u : Int32 × Int32 × RS) H locs ls => match u with | (l2, l3, st) => x9_kinds_77 l2 l3 st = some st' ∧ Rp (dC, dI) h0 ar ca A s.heap st H locs ∧ lv_has ls 4 [(0, .ref h0), (2, .int l2), (3, .int l3)]) (fun (u : Int32 × Int32 × RS) ls => match u with | (l2, l3, st) => F0 m 77 ls []) ?_ (fun J77 => ?_)
  · intro u H locs ls hu
    obtain ⟨l2, l3, st⟩ := u
    obtain ⟨hf, hp, hl⟩ := hu
    show W p l e _ s m _ below meth c _ _ _ _ _ (F0 m 77 ls [])
    unfold x9_kinds_77 at hf
    refine lv_aload_n hx hb dX9_kinds_77 rfl (lv_at hl 0 rfl) ?_
    obtain ⟨st_44, hc_45, hf⟩ := bnv_some hf
    refine r_cv hp hA (va_runV (As := []) (rest := []) ⟨hx, hb, hml, hown, hts⟩ (c_X9_ends l dC dI h0 ar ca  _ _ hc_45 _) (cwV 0 hts gq_X9_kinds_X9_ends_206 rfl rfl rfl (by decide +kernel) ⟨Nat.le_of_ble_eq_true rfl, Nat.le_of_ble_eq_true rfl⟩) ⟨Pr.blind _, va_recv hK hp.1 (ci := 11) (q0 := 0) rfl rfl, r_pre hp hK hN hZ hA⟩ rfl rfl hl.1 rfl (lv_room (Nat.le_of_ble_eq_true rfl)) dX9_kinds_78 ⟨Nat.le_of_ble_eq_true rfl, Nat.le_of_ble_eq_true rfl⟩) (fun H locs hp => ?_)
    exact J81 (l2, l3, st_44) _ _ _ ⟨hf, hp, (lv_sub hl [0, 1, 2] rfl)⟩
  refine W_blk (fun (u : Int32 × Int32 × RS) H locs ls => match u with | (l2, l3, st) => x9_kinds_68 l2 l3 st = some st' ∧ Rp (dC, dI) h0 ar ca A s.heap st H locs ∧ lv_has ls 4 [(0, .ref h0), (2, .int l2), (3, .int l3)]) (fun (u : Int32 × Int32 × RS) ls => match u with | (l2, l3, st) => F0 m 68 ls []) ?_ (fun J68 => ?_)
  · intro u H locs ls hu
    obtain ⟨l2, l3, st⟩ := u
    obtain ⟨hf, hp, hl⟩ := hu
    show W p l e _ s m _ below meth c _ _ _ _ _ (F0 m 68 ls [])
    unfold x9_kinds_68 at hf
    refine lv_aload_n hx hb dX9_kinds_68 rfl (lv_at hl 0 rfl) ?_
    refine lv_iconst (v := 2) hx hb dX9_kinds_69 (by decide) ?_
    refine lv_aload_n hx hb dX9_kinds_70 rfl (lv_at hl 0 rfl) ?_
    refine r_gi hx hb hts iRX9 hown hK hp 17 (by decide) rfl (hts (.fieldLink RX9 147 "RecordBenchModel" "begun" "I") (by decide +kernel)) dX9_kinds_71 ?_
    obtain ⟨st_47, hc_48, hf⟩ := bnv_some hf
    refine r_cv hp hA (va_runV (As := [.int 2, .int (gI st 17)]) (rest := []) ⟨hx, hb, hml, hown, hts⟩ (c_X9_fail l dC dI h0 ar ca 2 (gI st 17) _ _ hc_48 _) (cwV 2 hts gq_X9_kinds_X9_fail_154 rfl rfl rfl (by decide +kernel) ⟨Nat.le_of_ble_eq_true rfl, Nat.le_of_ble_eq_true rfl⟩) ⟨Pr.blind _, va_recv hK hp.1 (ci := 11) (q0 := 0) rfl rfl, r_pre hp hK hN hZ hA⟩ rfl rfl hl.1 rfl (lv_room (Nat.le_of_ble_eq_true rfl)) dX9_kinds_74 ⟨Nat.le_of_ble_eq_true rfl, Nat.le_of_ble_eq_true rfl⟩) (fun H locs hp => ?_)
    exact J77 (l2, l3, st_47) _ _ _ ⟨hf, hp, (lv_sub hl [0, 1, 2] rfl)⟩
  unfold x9_kinds at hf
  refine lv_aload_n hx hb dX9_kinds_0 rfl (lv_at hl 0 rfl) ?_
  refine r_ga hx hb hts iRX9 hown hK hp 3 (by decide) (by decide) (hts (.fieldLink RX9 20 "RecordBenchModel" "inner" "[I") (by decide +kernel)) dX9_kinds_1 ?_
  refine lv_iload_n hx hb dX9_kinds_4 rfl (lv_at hl 2 rfl) ?_
  refine lv_iconst (v := (-1)) hx hb dX9_kinds_5 (by decide) ?_
  obtain ⟨g_50, hf⟩ := gd_some hf
  refine r_si (n := 248) hx hb hK hp 3 3 rfl rfl rfl g_50 dX9_kinds_6 (fun H locs hp => ?_)
  obtain ⟨st_51, est_51, hf⟩ := nam_some hf
  rw [← est_51] at hp
  refine lv_aload_n hx hb dX9_kinds_7 rfl (lv_at hl 0 rfl) ?_
  refine r_ga hx hb hts iRX9 hown hK hp 2 (by decide) (by decide) (hts (.fieldLink RX9 17 "RecordBenchModel" "group" "[I") (by decide +kernel)) dX9_kinds_8 ?_
  refine lv_iload_n hx hb dX9_kinds_11 rfl (lv_at hl 2 rfl) ?_
  refine lv_iconst (v := 0) hx hb dX9_kinds_12 (by decide) ?_
  obtain ⟨g_52, hf⟩ := gd_some hf
  refine r_si (n := 248) hx hb hK hp 2 2 rfl rfl rfl g_52 dX9_kinds_13 (fun H locs hp => ?_)
  obtain ⟨st_53, est_53, hf⟩ := nam_some hf
  rw [← est_53] at hp
  refine lv_aload_n hx hb dX9_kinds_14 rfl (lv_at hl 0 rfl) ?_
  refine r_ga hx hb hts iRX9 hown hK hp 6 (by decide) (by decide) (hts (.fieldLink RX9 30 "RecordBenchModel" "plain" "[J") (by decide +kernel)) dX9_kinds_15 ?_
  refine lv_iload_n hx hb dX9_kinds_18 rfl (lv_at hl 2 rfl) ?_
  refine lv_lconst (v := 0) hx hb dX9_kinds_19 (by decide) ?_
  obtain ⟨g_54, hf⟩ := gd_some hf
  refine r_sj (n := 248) hx hb hK hp 6 6 rfl rfl rfl g_54 dX9_kinds_20 (fun H locs hp => ?_)
  obtain ⟨st_55, est_55, hf⟩ := nam_some hf
  rw [← est_55] at hp
  refine lv_iload_n hx hb dX9_kinds_21 rfl (lv_at hl 3 rfl) ?_
  refine lv_bipush (v := 6) hx hb dX9_kinds_22 (by decide) ?_
  refine lv_icmp_ne (tgt := 81) hx hb dX9_kinds_24 (by decide) (fun c_56 => ?_) (fun c_56 => ?_)
  · have hf := pif_f c_56 hf
    exact J81 (p1, p2, st_55) _ _ _ ⟨hf, hp, (lv_sub hl [0, 2, 3] rfl)⟩
  · have hf := pif_t c_56 hf
    refine lv_aload_n hx hb dX9_kinds_27 rfl (lv_at hl 0 rfl) ?_
    refine r_ga hx hb hts iRX9 hown hK hp 3 (by decide) (by decide) (hts (.fieldLink RX9 20 "RecordBenchModel" "inner" "[I") (by decide +kernel)) dX9_kinds_28 ?_
    refine lv_iload_n hx hb dX9_kinds_31 rfl (lv_at hl 2 rfl) ?_
    refine lv_aload_n hx hb dX9_kinds_32 rfl (lv_at hl 0 rfl) ?_
    obtain ⟨r_59, st_57, hc_58, hf⟩ := bnd_some hf
    refine r_ci hp hA (va_runV (As := []) (rest := [.int p1, .ref (ar 3)]) ⟨hx, hb, hml, hown, hts⟩ (c_X9_digit l dC dI h0 ar ca  _ _ _ hc_58 _) (cwV 0 hts gq_X9_kinds_X9_digit_203 rfl rfl rfl (by decide +kernel) ⟨Nat.le_of_ble_eq_true rfl, Nat.le_of_ble_eq_true rfl⟩) ⟨Pr.blind _, va_recv hK hp.1 (ci := 11) (q0 := 0) rfl rfl, r_pre hp hK hN hZ hA⟩ rfl rfl hl.1 rfl (lv_room (Nat.le_of_ble_eq_true rfl)) dX9_kinds_33 ⟨Nat.le_of_ble_eq_true rfl, Nat.le_of_ble_eq_true rfl⟩) (fun H locs hp => ?_)
    obtain ⟨g_60, hf⟩ := gd_some hf
    refine r_si (n := 248) hx hb hK hp 3 3 rfl rfl rfl g_60 dX9_kinds_36 (fun H locs hp => ?_)
    obtain ⟨st_61, est_61, hf⟩ := nam_some hf
    rw [← est_61] at hp
    refine lv_aload_n hx hb dX9_kinds_37 rfl (lv_at hl 0 rfl) ?_
    refine r_gi hx hb hts iRX9 hown hK hp 13 (by decide) rfl (hts (.fieldLink RX9 135 "RecordBenchModel" "bad" "I") (by decide +kernel)) dX9_kinds_38 ?_
    refine lv_if_ne (tgt := 77) hx hb dX9_kinds_41 (by decide) (fun c_62 => ?_) (fun c_62 => ?_)
    · have hf := pif_f c_62 hf
      exact J77 (p1, p2, st_61) _ _ _ ⟨hf, hp, (lv_sub hl [0, 2, 3] rfl)⟩
    · have hf := pif_t c_62 hf
      refine lv_aload_n hx hb dX9_kinds_44 rfl (lv_at hl 0 rfl) ?_
      refine r_ga hx hb hts iRX9 hown hK hp 3 (by decide) (by decide) (hts (.fieldLink RX9 20 "RecordBenchModel" "inner" "[I") (by decide +kernel)) dX9_kinds_45 ?_
      refine lv_iload_n hx hb dX9_kinds_48 rfl (lv_at hl 2 rfl) ?_
      obtain ⟨g_63, hf⟩ := gd_some hf
      refine r_ai (n := 248) hx hb hK hp 3 3 rfl rfl rfl g_63 dX9_kinds_49 ?_
      refine lv_iload_n hx hb dX9_kinds_50 rfl (lv_at hl 1 rfl) ?_
      refine lv_icmp_ge (tgt := 68) hx hb dX9_kinds_51 (by decide) (fun c_64 => ?_) (fun c_64 => ?_)
      · have hf := pif_t c_64 hf
        exact J68 (p1, p2, st_61) _ _ _ ⟨hf, hp, (lv_sub hl [0, 2, 3] rfl)⟩
      · have hf := pif_f c_64 hf
        refine lv_aload_n hx hb dX9_kinds_54 rfl (lv_at hl 0 rfl) ?_
        refine r_ga hx hb hts iRX9 hown hK hp 0 (by decide) (by decide) (hts (.fieldLink RX9 7 "RecordBenchModel" "told" "[Z") (by decide +kernel)) dX9_kinds_55 ?_
        refine lv_aload_n hx hb dX9_kinds_58 rfl (lv_at hl 0 rfl) ?_
        refine r_ga hx hb hts iRX9 hown hK hp 3 (by decide) (by decide) (hts (.fieldLink RX9 20 "RecordBenchModel" "inner" "[I") (by decide +kernel)) dX9_kinds_59 ?_
        refine lv_iload_n hx hb dX9_kinds_62 rfl (lv_at hl 2 rfl) ?_
        obtain ⟨g_65, hf⟩ := gd_some hf
        refine r_ai (n := 248) hx hb hK hp 3 3 rfl rfl rfl g_65 dX9_kinds_63 ?_
        obtain ⟨g_66, hf⟩ := gd_some hf
        refine r_az (n := 8) hx hb hK hp 0 0 rfl rfl rfl g_66 dX9_kinds_64 ?_
        refine lv_if_ne (tgt := 77) hx hb dX9_kinds_65 (by decide) (fun c_67 => ?_) (fun c_67 => ?_)
        · have hf := pif_f c_67 hf
          exact J77 (p1, p2, st_61) _ _ _ ⟨hf, hp, (lv_sub hl [0, 2, 3] rfl)⟩
        · have hf := pif_t c_67 hf
          exact J68 (p1, p2, st_61) _ _ _ ⟨hf, hp, (lv_sub hl [0, 2, 3] rfl)⟩
noncomputable def x9_field_345  (l1 : Int32) (l3 : Int32) (l4 : Int64) (l6 : Int32) (l7 : Int32) (st : RS) : Option (RS) := pif ((gI st 13) = 0) (bnv (x9_takes st) (fun st_2 => bnv (x9_kinds l1 l3 l7 st_2) (fun st_5 => pif ((gI st_5 13) = 0) (gd (vp_in l3 248) (nam (sF st_5 8 (upd (gF st_5 8) l3.toNatClampNeg (vp_nar .boolean 1))) (fun st_10 => gd (vp_in l3 248) (nam (sF st_10 1 (upd (gF st_10 1) l3.toNatClampNeg l7)) (fun st_12 => gd (vp_in l3 248) (nam (sF st_12 4 (upd (gF st_12 4) l3.toNatClampNeg l6)) (fun st_14 => gd (vp_in l3 248) (nam (sL st_14 5 (vp_updL (gL st_14 5) l3.toNatClampNeg l4)) (fun st_16 => nam (sI st_16 27 ((gI st_16 27) + 1)) (fun st_17 => some st_17)))))))))) (some st_5)))) (some st)
noncomputable def x9_field_297  (l1 : Int32) (l3 : Int32) (l4 : Int64) (st : RS) : Option (RS) := pif ((gI st 13) = 0) (bnd (x9_wordEnd st) (fun r_21 st_19 => nam (r_21 - (gI st_19 11)) (fun v_22 => bnv (x9_takes st_19) (fun st_23 => bnd (x9_word st_23) (fun r_28 st_26 => bnd (x9_kindOf r_28 st_26) (fun r_31 st_29 => pif (r_31 = (-1)) (bnv (x9_fail 1 (gI st_29 11) st_29) (fun st_33 => x9_field_345  l1 l3 l4 v_22 r_31 st_33)) (x9_field_345  l1 l3 l4 v_22 r_31 st_29))))))) (some st)
noncomputable def x9_field_235  : Nat → Int32 → Int32 → Int64 → Int32 → RS → Option (RS)
  | 0 => fun _ _ _ _ _ => none
  | n + 1 => fun l1 l3 l4 l6 st => pif (31 ≤ l6) (x9_field_297  l1 l3 l4 st) (pif ((gI st 13) = 0) (gd (vp_in ((31 * l1) + l6) 248) (pif ((gF st 8 ((31 * l1) + l6).toNatClampNeg) = 0) (nam (l6 + 1) (fun v_40 => (x9_field_235 n) l1 l3 l4 v_40 st)) (gd (vp_in ((31 * l1) + l6) 248) (pif ((lg_cmp (gL st 5 ((31 * l1) + l6).toNatClampNeg) l4) = 0) (bnv (x9_fail 3 (gI st 11) st) (fun st_44 => nam (l6 + 1) (fun v_47 => (x9_field_235 n) l1 l3 l4 v_47 st_44))) (nam (l6 + 1) (fun v_43 => (x9_field_235 n) l1 l3 l4 v_43 st)))))) (x9_field_297  l1 l3 l4 st))
theorem x9_field_235_z  (l1 : Int32) (l3 : Int32) (l4 : Int64) (l6 : Int32) (st : RS) : x9_field_235  0 l1 l3 l4 l6 st = none := rfl
theorem x9_field_235_s  (n : Nat) (l1 : Int32) (l3 : Int32) (l4 : Int64) (l6 : Int32) (st : RS) : x9_field_235  (n + 1) l1 l3 l4 l6 st = pif (31 ≤ l6) (x9_field_297  l1 l3 l4 st) (pif ((gI st 13) = 0) (gd (vp_in ((31 * l1) + l6) 248) (pif ((gF st 8 ((31 * l1) + l6).toNatClampNeg) = 0) (nam (l6 + 1) (fun v_40 => (x9_field_235 n) l1 l3 l4 v_40 st)) (gd (vp_in ((31 * l1) + l6) 248) (pif ((lg_cmp (gL st 5 ((31 * l1) + l6).toNatClampNeg) l4) = 0) (bnv (x9_fail 3 (gI st 11) st) (fun st_44 => nam (l6 + 1) (fun v_47 => (x9_field_235 n) l1 l3 l4 v_47 st_44))) (nam (l6 + 1) (fun v_43 => (x9_field_235 n) l1 l3 l4 v_43 st)))))) (x9_field_297  l1 l3 l4 st)) := rfl
noncomputable def x9_field_232  (l1 : Int32) (l3 : Int32) (l4 : Int64) (st : RS) : Option (RS) := x9_field_235  fuel l1 l3 l4 1 st
noncomputable def x9_field_201  (l1 : Int32) (l3 : Int32) (l4 : Int64) (st : RS) : Option (RS) := bnv (x9_fail 1 (gI st 11) st) (fun st_48 => x9_field_232  l1 l3 l4 st_48)
noncomputable def x9_field_98  (l1 : Int32) (l3 : Int32) (l4 : Int64) (st : RS) : Option (RS) := pif ((gI st 13) = 0) (pif ((lg_cmp l4 (gJ st 19)) = 0) (bnv (x9_takes st) (fun st_62 => bnv (x9_sign 59 st_62) (fun st_65 => pif ((gI st_65 13) = 0) (gd (vp_in l3 248) (nam (sF st_65 8 (upd (gF st_65 8) l3.toNatClampNeg (vp_nar .boolean 1))) (fun st_70 => gd (vp_in l3 248) (nam (sF st_70 1 (upd (gF st_70 1) l3.toNatClampNeg 0)) (fun st_72 => gd (vp_in l3 248) (nam (sF st_72 4 (upd (gF st_72 4) l3.toNatClampNeg 0)) (fun st_74 => gd (vp_in l3 248) (nam (sL st_74 5 (vp_updL (gL st_74 5) l3.toNatClampNeg 0)) (fun st_76 => gd (vp_in l3 248) (nam (sF st_76 2 (upd (gF st_76 2) l3.toNatClampNeg 0)) (fun st_78 => nam (sI st_78 27 ((gI st_78 27) + 1)) (fun st_79 => some st_79)))))))))))) (some st_65)))) (pif ((gI st 11) = (gI st 18)) (x9_field_201  l1 l3 l4 st) (bnd (x9_kindOf l4 st) (fun r_56 st_54 => pif (r_56 = (-1)) (pif (0 ≤ (lg_cmp l4 (0 : Int64))) (x9_field_232  l1 l3 l4 st_54) (bnv (x9_fail 1 ((gI st_54 11) + 8) st_54) (fun st_59 => x9_field_232  l1 l3 l4 st_59))) (x9_field_201  l1 l3 l4 st_54))))) (some st)
noncomputable def x9_field_76  (l1 : Int32) (l3 : Int32) (st : RS) : Option (RS) := bnd (x9_word st) (fun r_82 st_80 => pif ((lg_cmp r_82 (0 : Int64)) = 0) (bnv (x9_fail 1 (gI st_80 11) st_80) (fun st_84 => x9_field_98  l1 l3 r_82 st_84)) (x9_field_98  l1 l3 r_82 st_80))
noncomputable def x9_field_42  (l1 : Int32) (s0 : Int32) (st : RS) : Option (RS) := pif ((gI st 13) = 0) (nam ((31 * l1) + s0) (fun v_88 => gd (vp_in v_88 248) (pif ((gF st 8 v_88.toNatClampNeg) = 0) (x9_field_76  l1 v_88 st) (bnv (x9_fail 3 (gI st 17) st) (fun st_91 => x9_field_76  l1 v_88 st_91))))) (some st)
noncomputable def x9_field_23  (l1 : Int32) (st : RS) : Option (RS) := pif ((gI st 13) = 0) (bnd (x9_number 2 1 30 st) (fun r_97 st_95 => x9_field_42  l1 r_97 st_95)) (x9_field_42  l1 0 st)
noncomputable def x9_field (p0 : Int32) (st : RS) : Option (RS) := bnd (x9_next st) (fun r_100 st_98 => pif ((gI st_98 27) = 10) (bnv (x9_fail 1 (gI st_98 17) st_98) (fun st_102 => x9_field_23  p0 st_102)) (x9_field_23  p0 st_98))
def wq_X9_field : List Cond := .code yX9_field cX9_field 8 none :: (([.fieldLink RX9 177 "RecordBenchModel" "fields" "I", .fieldLink RX9 147 "RecordBenchModel" "begun" "I", .fieldLink RX9 135 "RecordBenchModel" "bad" "I", .fieldLink RX9 36 "RecordBenchModel" "isThere" "[Z", .fieldLink RX9 141 "RecordBenchModel" "at" "I", .fieldLink RX9 50 "RecordBenchModel" "goneWord" "J", .fieldLink RX9 162 "RecordBenchModel" "ended" "I", .fieldLink RX9 13 "RecordBenchModel" "kind" "[I", .fieldLink RX9 23 "RecordBenchModel" "letters" "[I", .fieldLink RX9 26 "RecordBenchModel" "name" "[J", .fieldLink RX9 17 "RecordBenchModel" "group" "[I", .methodLink RX9 188 yX9_takes, .instanceMethod yX9_takes, .selects RX9 yX9_takes yX9_takes, .initialized RX9, .methodLink RX9 199 yX9_kinds, .instanceMethod yX9_kinds, .selects RX9 yX9_kinds yX9_kinds, .methodLink RX9 172 yX9_wordEnd, .instanceMethod yX9_wordEnd, .selects RX9 yX9_wordEnd yX9_wordEnd, .methodLink RX9 184 yX9_word, .instanceMethod yX9_word, .selects RX9 yX9_word yX9_word, .methodLink RX9 195 yX9_kindOf, .instanceMethod yX9_kindOf, .selects RX9 yX9_kindOf yX9_kindOf, .methodLink RX9 154 yX9_fail, .instanceMethod yX9_fail, .selects RX9 yX9_fail yX9_fail, .methodLink RX9 191 yX9_sign, .instanceMethod yX9_sign, .selects RX9 yX9_sign yX9_sign, .methodLink RX9 180 yX9_number, .instanceMethod yX9_number, .selects RX9 yX9_number yX9_number, .methodLink RX9 150 yX9_next, .instanceMethod yX9_next, .selects RX9 yX9_next yX9_next, .code yX9_takes cX9_takes 1 none, .code yX9_wordEnd cX9_wordEnd 2 (some .int), .fieldLink RX9 144 "RecordBenchModel" "size" "I", .fieldLink RX9 39 "RecordBenchModel" "tape" "[I", .methodLink RX9 165 yX9_isLetter, .static yX9_isLetter, .code yX9_isLetter cX9_isLetter 1 (some .boolean), .code yX9_fail cX9_fail 3 none, .fieldLink RX9 138 "RecordBenchModel" "badPlace" "I", .code yX9_kinds cX9_kinds 4 none, .fieldLink RX9 20 "RecordBenchModel" "inner" "[I", .fieldLink RX9 30 "RecordBenchModel" "plain" "[J", .fieldLink RX9 7 "RecordBenchModel" "told" "[Z", .fieldLink RX9 72 "RecordBenchModel" "inWord" "J", .methodLink RX9 212 yX9_value, .instanceMethod yX9_value, .selects RX9 yX9_value yX9_value, .methodLink RX9 209 yX9_textValue, .instanceMethod yX9_textValue, .selects RX9 yX9_textValue yX9_textValue, .methodLink RX9 206 yX9_ends, .instanceMethod yX9_ends, .selects RX9 yX9_ends yX9_ends, .methodLink RX9 203 yX9_digit, .instanceMethod yX9_digit, .selects RX9 yX9_digit yX9_digit, .code yX9_sign cX9_sign 2 none, .code yX9_next cX9_next 1 (some .int), .code yX9_value cX9_value 10 none, .constantLong RX9 223 (-922337203685477580), .constantLong RX9 225 (10), .constantLong RX9 227 (-9223372036854775808), .methodLink RX9 229 yX9_isOf, .static yX9_isOf, .methodLink RX9 158 yX9_isDigit, .static yX9_isDigit, .code yX9_isOf cX9_isOf 3 (some .boolean), .constantLong RX9 219 (-2147483648), .constantLong RX9 221 (2147483647), .constantLong RX9 215 (-128), .constantLong RX9 217 (127), .code yX9_isDigit cX9_isDigit 1 (some .boolean), .code yX9_textValue cX9_textValue 3 none, .fieldLink RX9 33 "RecordBenchModel" "plainText" "[I", .code yX9_ends cX9_ends 1 none, .code yX9_word cX9_word 5 (some .long), .constantLong RX9 175 (-1), .constantLong RX9 168 (27), .constantLong RX9 170 (97), .code yX9_digit cX9_digit 1 (some .int), .code yX9_kindOf cX9_kindOf 3 (some .int), .fieldLink RX9 54 "RecordBenchModel" "flagWord" "J", .fieldLink RX9 57 "RecordBenchModel" "smallWord" "J", .fieldLink RX9 60 "RecordBenchModel" "intWord" "J", .fieldLink RX9 63 "RecordBenchModel" "longWord" "J", .fieldLink RX9 66 "RecordBenchModel" "textWord" "J", .fieldLink RX9 69 "RecordBenchModel" "recWord" "J", .code yX9_number cX9_number 5 (some .int)] : List Cond) ++ wsX90)
theorem gs_wq_X9_field_wsX90 : GoodIn wq_X9_field wsX90 := fun w h => ⟨List.mem_cons_of_mem _ (List.mem_append_right _ h), (gt_wsX90 w h).2⟩
set_option maxRecDepth 20000 in
theorem gq_X9_field_X9_takes_188 : GoodIn wq_X9_field (wsV RX9 188 RX9 yX9_takes wq_X9_takes) := goodIn_app (goodIn_r _ [12, 13, 14, 15] rfl rfl) (goodIn_ca (goodIn_r _ [40, 5, 7, 19, 20, 21, 15, 28, 29, 30, 41, 42, 43, 44, 45, 46, 47, 3, 48] rfl rfl) gs_wq_X9_field_wsX90)
set_option maxRecDepth 20000 in
theorem gq_X9_field_X9_kinds_199 : GoodIn wq_X9_field (wsV RX9 199 RX9 yX9_kinds wq_X9_kinds) := goodIn_app (goodIn_r _ [16, 17, 18, 15] rfl rfl) (goodIn_ca (goodIn_r _ [49, 50, 11, 51, 3, 52, 2, 53, 5, 31, 32, 33, 15, 37, 38, 39, 54, 55, 56, 57, 58, 59, 60, 61, 62, 28, 29, 30, 22, 23, 24, 12, 13, 14, 63, 64, 65, 66, 67, 42, 43, 47, 48, 68, 69, 70, 7, 71, 72, 73, 74, 75, 76, 77, 78, 79, 80, 81, 82, 83, 84, 85, 86, 87, 88, 19, 20, 21, 41, 44, 45, 46, 40, 89] rfl rfl) gs_wq_X9_field_wsX90)
set_option maxRecDepth 20000 in
theorem gq_X9_field_X9_wordEnd_172 : GoodIn wq_X9_field (wsV RX9 172 RX9 yX9_wordEnd wq_X9_wordEnd) := goodIn_app (goodIn_r _ [19, 20, 21, 15] rfl rfl) (goodIn_ca (goodIn_r _ [41, 5, 42, 43, 44, 45, 15, 46] rfl rfl) gs_wq_X9_field_wsX90)
set_option maxRecDepth 20000 in
theorem gq_X9_field_X9_word_184 : GoodIn wq_X9_field (wsV RX9 184 RX9 yX9_word wq_X9_word) := goodIn_app (goodIn_r _ [22, 23, 24, 15] rfl rfl) (goodIn_ca (goodIn_r _ [85, 5, 86, 87, 43, 88, 37, 38, 39, 15, 19, 20, 21, 67, 42, 2, 41, 44, 45, 46] rfl rfl) gs_wq_X9_field_wsX90)
set_option maxRecDepth 20000 in
theorem gq_X9_field_X9_kindOf_195 : GoodIn wq_X9_field (wsV RX9 195 RX9 yX9_kindOf wq_X9_kindOf) := goodIn_app (goodIn_r _ [25, 26, 27, 15] rfl rfl) (goodIn_ca (goodIn_r _ [90, 91, 92, 93, 94, 95, 96] rfl rfl) gs_wq_X9_field_wsX90)
set_option maxRecDepth 20000 in
theorem gq_X9_field_X9_fail_154 : GoodIn wq_X9_field (wsV RX9 154 RX9 yX9_fail wq_X9_fail) := goodIn_app (goodIn_r _ [28, 29, 30, 15] rfl rfl) (goodIn_ca (goodIn_r _ [47, 3, 48] rfl rfl) gs_wq_X9_field_wsX90)
set_option maxRecDepth 20000 in
theorem gq_X9_field_X9_sign_191 : GoodIn wq_X9_field (wsV RX9 191 RX9 yX9_sign wq_X9_sign) := goodIn_app (goodIn_r _ [31, 32, 33, 15] rfl rfl) (goodIn_ca (goodIn_r _ [66, 5, 37, 38, 39, 15, 28, 29, 30, 67, 42, 43, 2, 47, 3, 48] rfl rfl) gs_wq_X9_field_wsX90)
set_option maxRecDepth 20000 in
theorem gq_X9_field_X9_number_180 : GoodIn wq_X9_field (wsV RX9 180 RX9 yX9_number wq_X9_number) := goodIn_app (goodIn_r _ [34, 35, 36, 15] rfl rfl) (goodIn_ca (goodIn_r _ [97, 5, 7, 42, 43, 2, 28, 29, 30, 15, 74, 75, 37, 38, 39, 47, 3, 48, 81, 67] rfl rfl) gs_wq_X9_field_wsX90)
set_option maxRecDepth 20000 in
theorem gq_X9_field_X9_next_150 : GoodIn wq_X9_field (wsV RX9 150 RX9 yX9_next wq_X9_next) := goodIn_app (goodIn_r _ [37, 38, 39, 15] rfl rfl) (goodIn_ca (goodIn_r _ [67, 5, 42, 43, 2] rfl rfl) gs_wq_X9_field_wsX90)
set_option maxHeartbeats 4000000 in
set_option maxRecDepth 100000 in
theorem c_X9_field (l : Launch) (dC : Nat → ClassId) (dI : Nat → Nat → Nat) (h0 : Nat) (ar : Nat → Nat) (ca : Nat → ClassId) (p0 : Int32) (st st' : RS) (hf : x9_field p0 st = some st') (sz : Nat) : Met l yX9_field wq_X9_field ({ frames := 4, cells := 0, slots := 0, locals := 104 }) (va_Pc [.ref h0, .int p0] (Pr (dC, dI) (rT ca) [] (RW h0 ar ca st) sz)) (va_Qv (fun (_ : Unit) => True) (Bq (dC, dI) (fun _ => RW h0 ar ca st') (fun _ => []) (va_A (RW h0 ar ca st) sz)) (va_A (RW h0 ar ca st) sz)) 0 0 (va_A (RW h0 ar ca st) sz) := by
  refine Met.ofW (cc := cX9_field) (maxL := 8) (ret := none) (by decide) rfl ?_
  intro p e s m args below meth c s₁ B hml hv
  obtain ⟨rfl, hsz, hP, hK, hD0, hN, hZ, hR⟩ := hv
  have hx := B.exec
  have hb := B.bytes
  have hr := B.returns
  have hts := atoms_spec (ws := wq_X9_field) B.pre
  have hown : s.vm.findClass RX9 = some m.cls := findClass_of_methodNamed B.named
  have iRX9 : ∀ w ∈ u_ws RX9 TX9 60, w ∈ wq_X9_field := fun w h => List.mem_cons_of_mem _ (List.mem_append_right _ h)
  subst hsz
  have hp : Rp (dC, dI) h0 ar ca (va_A (RW h0 ar ca st) s.heap.size) s.heap st s.heap [] := ⟨hP, hD0.self, va_S.rf⟩
  generalize hAe : va_A (RW h0 ar ca st) s.heap.size = A at hp hZ ⊢
  have hA : ∀ q : Nat, s.heap.size ≤ q → A q := fun q h => by rw [← hAe]; exact Or.inr h
  have hl := lv_entry ([.ref h0, .int p0]) (n := 8) (Nat.le_of_ble_eq_true rfl)
  rw [lg_entry_eq]
  generalize (lg_sl ([.ref h0, .int p0]) ++ List.replicate (8 - (lg_sl ([.ref h0, .int p0])).length) Slot.unset).toArray = ls at hl ⊢
  have hl : lv_has ls 8 [(0, .ref h0), (1, .int p0)] := hl
  refine W_blk (fun (u : Int32 × Int32 × Int64 × Int32 × Int32 × RS) H locs ls => match u with | (l1, l3, l4, l6, l7, st) => x9_field_345 l1 l3 l4 l6 l7 st = some st' ∧ Rp (dC, dI) h0 ar ca A s.heap st H locs ∧ lv_has ls 8 [(0, .ref h0), (1, .int l1), (3, .int l3), (4, .long l4), (6, .int l6), (7, .int l7)]) (fun (u : Int32 × Int32 × Int64 × Int32 × Int32 × RS) ls => match u with | (l1, l3, l4, l6, l7, st) => F0 m 345 ls []) ?_ (fun J345 => ?_)
  · intro u H locs ls hu
    obtain ⟨l1, l3, l4, l6, l7, st⟩ := u
    obtain ⟨hf, hp, hl⟩ := hu
    show W p l e _ s m _ below meth c _ _ _ _ _ (F0 m 345 ls [])
    unfold x9_field_345 at hf
    refine lv_aload_n hx hb dX9_field_345 rfl (lv_at hl 0 rfl) ?_
    refine r_gi hx hb hts iRX9 hown hK hp 13 (by decide) rfl (hts (.fieldLink RX9 135 "RecordBenchModel" "bad" "I") (by decide +kernel)) dX9_field_346 ?_
    refine lv_if_eq (tgt := 353) hx hb dX9_field_349 (by decide) (fun c_1 => ?_) (fun c_1 => ?_)
    · have hf := pif_t c_1 hf
      refine lv_aload_n hx hb dX9_field_353 rfl (lv_at hl 0 rfl) ?_
      obtain ⟨st_2, hc_3, hf⟩ := bnv_some hf
      refine r_cv hp hA (va_runV (As := []) (rest := []) ⟨hx, hb, hml, hown, hts⟩ (c_X9_takes l dC dI h0 ar ca  _ _ hc_3 _) (cwV 0 hts gq_X9_field_X9_takes_188 rfl rfl rfl (by decide +kernel) ⟨Nat.le_of_ble_eq_true rfl, Nat.le_of_ble_eq_true rfl⟩) ⟨Pr.blind _, va_recv hK hp.1 (ci := 11) (q0 := 0) rfl rfl, r_pre hp hK hN hZ hA⟩ rfl rfl hl.1 rfl (lv_room (Nat.le_of_ble_eq_true rfl)) dX9_field_354 ⟨Nat.le_of_ble_eq_true rfl, Nat.le_of_ble_eq_true rfl⟩) (fun H locs hp => ?_)
      refine lv_aload_n hx hb dX9_field_357 rfl (lv_at hl 0 rfl) ?_
      refine lv_iload_n hx hb dX9_field_358 rfl (lv_at hl 1 rfl) ?_
      refine lv_iload_n hx hb dX9_field_359 rfl (lv_at hl 2 rfl) ?_
      refine lv_iload hx hb dX9_field_360 (lv_at hl 5 rfl) ?_
      obtain ⟨st_5, hc_6, hf⟩ := bnv_some hf
      refine r_cv hp hA (va_runV (As := [.int l1, .int l3, .int l7]) (rest := []) ⟨hx, hb, hml, hown, hts⟩ (c_X9_kinds l dC dI h0 ar ca l1 l3 l7 _ _ hc_6 _) (cwV 3 hts gq_X9_field_X9_kinds_199 rfl rfl rfl (by decide +kernel) ⟨Nat.le_of_ble_eq_true rfl, Nat.le_of_ble_eq_true rfl⟩) ⟨Pr.blind _, va_recv hK hp.1 (ci := 11) (q0 := 0) rfl rfl, r_pre hp hK hN hZ hA⟩ rfl rfl hl.1 rfl (lv_room (Nat.le_of_ble_eq_true rfl)) dX9_field_362 ⟨Nat.le_of_ble_eq_true rfl, Nat.le_of_ble_eq_true rfl⟩) (fun H locs hp => ?_)
      refine lv_aload_n hx hb dX9_field_365 rfl (lv_at hl 0 rfl) ?_
      refine r_gi hx hb hts iRX9 hown hK hp 13 (by decide) rfl (hts (.fieldLink RX9 135 "RecordBenchModel" "bad" "I") (by decide +kernel)) dX9_field_366 ?_
      refine lv_if_eq (tgt := 373) hx hb dX9_field_369 (by decide) (fun c_8 => ?_) (fun c_8 => ?_)
      · have hf := pif_t c_8 hf
        refine lv_aload_n hx hb dX9_field_373 rfl (lv_at hl 0 rfl) ?_
        refine r_ga hx hb hts iRX9 hown hK hp 8 (by decide) (by decide) (hts (.fieldLink RX9 36 "RecordBenchModel" "isThere" "[Z") (by decide +kernel)) dX9_field_374 ?_
        refine lv_iload_n hx hb dX9_field_377 rfl (lv_at hl 2 rfl) ?_
        refine lv_iconst (v := 1) hx hb dX9_field_378 (by decide) ?_
        obtain ⟨g_9, hf⟩ := gd_some hf
        refine r_sz (n := 248) hx hb hK hp 8 8 rfl rfl rfl g_9 dX9_field_379 (fun H locs hp => ?_)
        obtain ⟨st_10, est_10, hf⟩ := nam_some hf
        rw [← est_10] at hp
        refine lv_aload_n hx hb dX9_field_380 rfl (lv_at hl 0 rfl) ?_
        refine r_ga hx hb hts iRX9 hown hK hp 1 (by decide) (by decide) (hts (.fieldLink RX9 13 "RecordBenchModel" "kind" "[I") (by decide +kernel)) dX9_field_381 ?_
        refine lv_iload_n hx hb dX9_field_384 rfl (lv_at hl 2 rfl) ?_
        refine lv_iload hx hb dX9_field_385 (lv_at hl 5 rfl) ?_
        obtain ⟨g_11, hf⟩ := gd_some hf
        refine r_si (n := 248) hx hb hK hp 1 1 rfl rfl rfl g_11 dX9_field_387 (fun H locs hp => ?_)
        obtain ⟨st_12, est_12, hf⟩ := nam_some hf
        rw [← est_12] at hp
        refine lv_aload_n hx hb dX9_field_388 rfl (lv_at hl 0 rfl) ?_
        refine r_ga hx hb hts iRX9 hown hK hp 4 (by decide) (by decide) (hts (.fieldLink RX9 23 "RecordBenchModel" "letters" "[I") (by decide +kernel)) dX9_field_389 ?_
        refine lv_iload_n hx hb dX9_field_392 rfl (lv_at hl 2 rfl) ?_
        refine lv_iload hx hb dX9_field_393 (lv_at hl 4 rfl) ?_
        obtain ⟨g_13, hf⟩ := gd_some hf
        refine r_si (n := 248) hx hb hK hp 4 4 rfl rfl rfl g_13 dX9_field_395 (fun H locs hp => ?_)
        obtain ⟨st_14, est_14, hf⟩ := nam_some hf
        rw [← est_14] at hp
        refine lv_aload_n hx hb dX9_field_396 rfl (lv_at hl 0 rfl) ?_
        refine r_ga hx hb hts iRX9 hown hK hp 5 (by decide) (by decide) (hts (.fieldLink RX9 26 "RecordBenchModel" "name" "[J") (by decide +kernel)) dX9_field_397 ?_
        refine lv_iload_n hx hb dX9_field_400 rfl (lv_at hl 2 rfl) ?_
        refine lv_lload hx hb dX9_field_401 (lv_at hl 3 rfl) ?_
        obtain ⟨g_15, hf⟩ := gd_some hf
        refine r_sj (n := 248) hx hb hK hp 5 5 rfl rfl rfl g_15 dX9_field_403 (fun H locs hp => ?_)
        obtain ⟨st_16, est_16, hf⟩ := nam_some hf
        rw [← est_16] at hp
        refine lv_aload_n hx hb dX9_field_404 rfl (lv_at hl 0 rfl) ?_
        refine lv_dup hx hb dX9_field_405 rfl ?_
        refine r_gi hx hb hts iRX9 hown hK hp 27 (by decide) rfl (hts (.fieldLink RX9 177 "RecordBenchModel" "fields" "I") (by decide +kernel)) dX9_field_406 ?_
        refine lv_iconst (v := 1) hx hb dX9_field_409 (by decide) ?_
        refine lv_iadd hx hb dX9_field_410 ?_
        refine r_pi (v := (gI st_16 27) + 1) (ty := .int) hx hb hts iRX9 hown hK hp 27 (by decide) rfl (hts (.fieldLink RX9 177 "RecordBenchModel" "fields" "I") (by decide +kernel)) rfl (by decide +kernel) rfl rfl dX9_field_411 (fun H locs hp => ?_)
        obtain ⟨st_17, est_17, hf⟩ := nam_some hf
        rw [← est_17] at hp
        have e2 := Option.some.inj hf
        exact W.vret hx hb hr (fun t ht hW => ⟨⟨(), rfl, trivial, Rp.end e2 hp hK ht hW⟩, hp.2.2.F ht⟩) hp.2.2.2.2 dX9_field_414
      · have hf := pif_f c_8 hf
        have e2 := Option.some.inj hf
        exact W.vret hx hb hr (fun t ht hW => ⟨⟨(), rfl, trivial, Rp.end e2 hp hK ht hW⟩, hp.2.2.F ht⟩) hp.2.2.2.2 dX9_field_372
    · have hf := pif_f c_1 hf
      have e2 := Option.some.inj hf
      exact W.vret hx hb hr (fun t ht hW => ⟨⟨(), rfl, trivial, Rp.end e2 hp hK ht hW⟩, hp.2.2.F ht⟩) hp.2.2.2.2 dX9_field_352
  refine W_blk (fun (u : Int32 × Int32 × Int64 × RS) H locs ls => match u with | (l1, l3, l4, st) => x9_field_297 l1 l3 l4 st = some st' ∧ Rp (dC, dI) h0 ar ca A s.heap st H locs ∧ lv_has ls 8 [(0, .ref h0), (1, .int l1), (3, .int l3), (4, .long l4)]) (fun (u : Int32 × Int32 × Int64 × RS) ls => match u with | (l1, l3, l4, st) => F0 m 297 ls []) ?_ (fun J297 => ?_)
  · intro u H locs ls hu
    obtain ⟨l1, l3, l4, st⟩ := u
    obtain ⟨hf, hp, hl⟩ := hu
    show W p l e _ s m _ below meth c _ _ _ _ _ (F0 m 297 ls [])
    unfold x9_field_297 at hf
    refine lv_aload_n hx hb dX9_field_297 rfl (lv_at hl 0 rfl) ?_
    refine r_gi hx hb hts iRX9 hown hK hp 13 (by decide) rfl (hts (.fieldLink RX9 135 "RecordBenchModel" "bad" "I") (by decide +kernel)) dX9_field_298 ?_
    refine lv_if_eq (tgt := 305) hx hb dX9_field_301 (by decide) (fun c_18 => ?_) (fun c_18 => ?_)
    · have hf := pif_t c_18 hf
      refine lv_aload_n hx hb dX9_field_305 rfl (lv_at hl 0 rfl) ?_
      obtain ⟨r_21, st_19, hc_20, hf⟩ := bnd_some hf
      refine r_ci hp hA (va_runV (As := []) (rest := []) ⟨hx, hb, hml, hown, hts⟩ (c_X9_wordEnd l dC dI h0 ar ca  _ _ _ hc_20 _) (cwV 0 hts gq_X9_field_X9_wordEnd_172 rfl rfl rfl (by decide +kernel) ⟨Nat.le_of_ble_eq_true rfl, Nat.le_of_ble_eq_true rfl⟩) ⟨Pr.blind _, va_recv hK hp.1 (ci := 11) (q0 := 0) rfl rfl, r_pre hp hK hN hZ hA⟩ rfl rfl hl.1 rfl (lv_room (Nat.le_of_ble_eq_true rfl)) dX9_field_306 ⟨Nat.le_of_ble_eq_true rfl, Nat.le_of_ble_eq_true rfl⟩) (fun H locs hp => ?_)
      refine lv_aload_n hx hb dX9_field_309 rfl (lv_at hl 0 rfl) ?_
      refine r_gi hx hb hts iRX9 hown hK hp 11 (by decide) rfl (hts (.fieldLink RX9 141 "RecordBenchModel" "at" "I") (by decide +kernel)) dX9_field_310 ?_
      refine lv_isub hx hb dX9_field_313 ?_
      obtain ⟨v_22, ev_22, hf⟩ := nam_some hf
      refine W_toi (y := v_22) ev_22.symm ?_
      refine lv_istore (lv' := [(6, .int v_22), (0, .ref h0), (1, .int l1), (3, .int l3), (4, .long l4)]) hx hb dX9_field_314 hl (by decide) rfl (fun ls hl => ?_)
      refine lv_aload_n hx hb dX9_field_316 rfl (lv_at hl 1 rfl) ?_
      obtain ⟨st_23, hc_24, hf⟩ := bnv_some hf
      refine r_cv hp hA (va_runV (As := []) (rest := []) ⟨hx, hb, hml, hown, hts⟩ (c_X9_takes l dC dI h0 ar ca  _ _ hc_24 _) (cwV 0 hts gq_X9_field_X9_takes_188 rfl rfl rfl (by decide +kernel) ⟨Nat.le_of_ble_eq_true rfl, Nat.le_of_ble_eq_true rfl⟩) ⟨Pr.blind _, va_recv hK hp.1 (ci := 11) (q0 := 0) rfl rfl, r_pre hp hK hN hZ hA⟩ rfl rfl hl.1 rfl (lv_room (Nat.le_of_ble_eq_true rfl)) dX9_field_317 ⟨Nat.le_of_ble_eq_true rfl, Nat.le_of_ble_eq_true rfl⟩) (fun H locs hp => ?_)
      refine lv_aload_n hx hb dX9_field_320 rfl (lv_at hl 1 rfl) ?_
      refine lv_aload_n hx hb dX9_field_321 rfl (lv_at hl 1 rfl) ?_
      obtain ⟨r_28, st_26, hc_27, hf⟩ := bnd_some hf
      refine r_cl hp hA (va_runV (As := []) (rest := [.ref h0]) ⟨hx, hb, hml, hown, hts⟩ (c_X9_word l dC dI h0 ar ca  _ _ _ hc_27 _) (cwV 0 hts gq_X9_field_X9_word_184 rfl rfl rfl (by decide +kernel) ⟨Nat.le_of_ble_eq_true rfl, Nat.le_of_ble_eq_true rfl⟩) ⟨Pr.blind _, va_recv hK hp.1 (ci := 11) (q0 := 0) rfl rfl, r_pre hp hK hN hZ hA⟩ rfl rfl hl.1 rfl (lv_room (Nat.le_of_ble_eq_true rfl)) dX9_field_322 ⟨Nat.le_of_ble_eq_true rfl, Nat.le_of_ble_eq_true rfl⟩) (fun H locs hp => ?_)
      obtain ⟨r_31, st_29, hc_30, hf⟩ := bnd_some hf
      refine r_ci hp hA (va_runV (As := [.long r_28]) (rest := []) ⟨hx, hb, hml, hown, hts⟩ (c_X9_kindOf l dC dI h0 ar ca r_28 _ _ _ hc_30 _) (cwV 1 hts gq_X9_field_X9_kindOf_195 rfl rfl rfl (by decide +kernel) ⟨Nat.le_of_ble_eq_true rfl, Nat.le_of_ble_eq_true rfl⟩) ⟨Pr.blind _, va_recv hK hp.1 (ci := 11) (q0 := 0) rfl rfl, r_pre hp hK hN hZ hA⟩ rfl rfl hl.1 rfl (lv_room (Nat.le_of_ble_eq_true rfl)) dX9_field_325 ⟨Nat.le_of_ble_eq_true rfl, Nat.le_of_ble_eq_true rfl⟩) (fun H locs hp => ?_)
      refine lv_istore (lv' := [(7, .int r_31), (6, .int v_22), (0, .ref h0), (1, .int l1), (3, .int l3), (4, .long l4)]) hx hb dX9_field_328 hl (by decide) rfl (fun ls hl => ?_)
      refine lv_iload hx hb dX9_field_330 (lv_at hl 0 rfl) ?_
      refine lv_iconst (v := (-1)) hx hb dX9_field_332 (by decide) ?_
      refine lv_icmp_ne (tgt := 345) hx hb dX9_field_333 (by decide) (fun c_32 => ?_) (fun c_32 => ?_)
      · have hf := pif_f c_32 hf
        exact J345 (l1, l3, l4, v_22, r_31, st_29) _ _ _ ⟨hf, hp, (lv_sub hl [2, 3, 4, 5, 1, 0] rfl)⟩
      · have hf := pif_t c_32 hf
        refine lv_aload_n hx hb dX9_field_336 rfl (lv_at hl 2 rfl) ?_
        refine lv_iconst (v := 1) hx hb dX9_field_337 (by decide) ?_
        refine lv_aload_n hx hb dX9_field_338 rfl (lv_at hl 2 rfl) ?_
        refine r_gi hx hb hts iRX9 hown hK hp 11 (by decide) rfl (hts (.fieldLink RX9 141 "RecordBenchModel" "at" "I") (by decide +kernel)) dX9_field_339 ?_
        obtain ⟨st_33, hc_34, hf⟩ := bnv_some hf
        refine r_cv hp hA (va_runV (As := [.int 1, .int (gI st_29 11)]) (rest := []) ⟨hx, hb, hml, hown, hts⟩ (c_X9_fail l dC dI h0 ar ca 1 (gI st_29 11) _ _ hc_34 _) (cwV 2 hts gq_X9_field_X9_fail_154 rfl rfl rfl (by decide +kernel) ⟨Nat.le_of_ble_eq_true rfl, Nat.le_of_ble_eq_true rfl⟩) ⟨Pr.blind _, va_recv hK hp.1 (ci := 11) (q0 := 0) rfl rfl, r_pre hp hK hN hZ hA⟩ rfl rfl hl.1 rfl (lv_room (Nat.le_of_ble_eq_true rfl)) dX9_field_342 ⟨Nat.le_of_ble_eq_true rfl, Nat.le_of_ble_eq_true rfl⟩) (fun H locs hp => ?_)
        exact J345 (l1, l3, l4, v_22, r_31, st_33) _ _ _ ⟨hf, hp, (lv_sub hl [2, 3, 4, 5, 1, 0] rfl)⟩
    · have hf := pif_f c_18 hf
      have e2 := Option.some.inj hf
      exact W.vret hx hb hr (fun t ht hW => ⟨⟨(), rfl, trivial, Rp.end e2 hp hK ht hW⟩, hp.2.2.F ht⟩) hp.2.2.2.2 dX9_field_304
  refine W_lp (fun n235 (u : Int32 × Int32 × Int64 × Int32 × RS) H locs ls => match u with | (l1, l3, l4, l6, st) => x9_field_235 n235 l1 l3 l4 l6 st = some st' ∧ Rp (dC, dI) h0 ar ca A s.heap st H locs ∧ lv_has ls 8 [(0, .ref h0), (1, .int l1), (3, .int l3), (4, .long l4), (6, .int l6)]) (fun (u : Int32 × Int32 × Int64 × Int32 × RS) ls => match u with | (l1, l3, l4, l6, st) => F0 m 235 ls []) ?_ ?_ (fun J235 => ?_)
  · intro u H locs ls hu
    obtain ⟨l1, l3, l4, l6, st⟩ := u
    obtain ⟨hf, hp, hl⟩ := hu
    rw [x9_field_235_z] at hf
    cases hf
  · intro n235 ih235 u H locs ls hu
    obtain ⟨l1, l3, l4, l6, st⟩ := u
    obtain ⟨hf, hp, hl⟩ := hu
    show W p l e _ s m _ below meth c _ _ _ _ _ (F0 m 235 ls [])
    rw [x9_field_235_s] at hf
    refine lv_iload hx hb dX9_field_235 (lv_at hl 4 rfl) ?_
    refine lv_bipush (v := 31) hx hb dX9_field_237 (by decide) ?_
    refine lv_icmp_ge (tgt := 297) hx hb dX9_field_239 (by decide) (fun c_36 => ?_) (fun c_36 => ?_)
    · have hf := pif_t c_36 hf
      exact J297 (l1, l3, l4, st) _ _ _ ⟨hf, hp, (lv_sub hl [0, 1, 2, 3] rfl)⟩
    · have hf := pif_f c_36 hf
      refine lv_aload_n hx hb dX9_field_242 rfl (lv_at hl 0 rfl) ?_
      refine r_gi hx hb hts iRX9 hown hK hp 13 (by decide) rfl (hts (.fieldLink RX9 135 "RecordBenchModel" "bad" "I") (by decide +kernel)) dX9_field_243 ?_
      refine lv_if_ne (tgt := 297) hx hb dX9_field_246 (by decide) (fun c_37 => ?_) (fun c_37 => ?_)
      · have hf := pif_f c_37 hf
        exact J297 (l1, l3, l4, st) _ _ _ ⟨hf, hp, (lv_sub hl [0, 1, 2, 3] rfl)⟩
      · have hf := pif_t c_37 hf
        refine lv_aload_n hx hb dX9_field_249 rfl (lv_at hl 0 rfl) ?_
        refine r_ga hx hb hts iRX9 hown hK hp 8 (by decide) (by decide) (hts (.fieldLink RX9 36 "RecordBenchModel" "isThere" "[Z") (by decide +kernel)) dX9_field_250 ?_
        refine lv_bipush (v := 31) hx hb dX9_field_253 (by decide) ?_
        refine lv_iload_n hx hb dX9_field_255 rfl (lv_at hl 1 rfl) ?_
        refine lv_imul hx hb dX9_field_256 ?_
        refine lv_iload hx hb dX9_field_257 (lv_at hl 4 rfl) ?_
        refine lv_iadd hx hb dX9_field_259 ?_
        obtain ⟨g_38, hf⟩ := gd_some hf
        refine r_az (n := 248) hx hb hK hp 8 8 rfl rfl rfl g_38 dX9_field_260 ?_
        refine lv_if_eq (tgt := 291) hx hb dX9_field_261 (by decide) (fun c_39 => ?_) (fun c_39 => ?_)
        · have hf := pif_t c_39 hf
          obtain ⟨v_40, ev_40, hf⟩ := nam_some hf
          refine lv_iinc (v := v_40) (lv' := [(6, .int v_40), (0, .ref h0), (1, .int l1), (3, .int l3), (4, .long l4)]) hx hb dX9_field_291 hl (k := 4) rfl ev_40.symm (by decide) rfl (fun ls hl => ?_)
          refine lv_goto (tgt := 235) hx hb dX9_field_294 (by decide) ?_
          exact ih235 (l1, l3, l4, v_40, st) _ _ _ ⟨hf, hp, (lv_sub hl [1, 2, 3, 4, 0] rfl)⟩
        · have hf := pif_f c_39 hf
          refine lv_aload_n hx hb dX9_field_264 rfl (lv_at hl 0 rfl) ?_
          refine r_ga hx hb hts iRX9 hown hK hp 5 (by decide) (by decide) (hts (.fieldLink RX9 26 "RecordBenchModel" "name" "[J") (by decide +kernel)) dX9_field_265 ?_
          refine lv_bipush (v := 31) hx hb dX9_field_268 (by decide) ?_
          refine lv_iload_n hx hb dX9_field_270 rfl (lv_at hl 1 rfl) ?_
          refine lv_imul hx hb dX9_field_271 ?_
          refine lv_iload hx hb dX9_field_272 (lv_at hl 4 rfl) ?_
          refine lv_iadd hx hb dX9_field_274 ?_
          obtain ⟨g_41, hf⟩ := gd_some hf
          refine r_aj (n := 248) hx hb hK hp 5 5 rfl rfl rfl g_41 dX9_field_275 ?_
          refine lv_lload hx hb dX9_field_276 (lv_at hl 3 rfl) ?_
          refine W.lcmp hx hb dX9_field_278 ?_
          refine lv_if_ne (tgt := 291) hx hb dX9_field_279 (by decide) (fun c_42 => ?_) (fun c_42 => ?_)
          · have hf := pif_f c_42 hf
            obtain ⟨v_43, ev_43, hf⟩ := nam_some hf
            refine lv_iinc (v := v_43) (lv' := [(6, .int v_43), (0, .ref h0), (1, .int l1), (3, .int l3), (4, .long l4)]) hx hb dX9_field_291 hl (k := 4) rfl ev_43.symm (by decide) rfl (fun ls hl => ?_)
            refine lv_goto (tgt := 235) hx hb dX9_field_294 (by decide) ?_
            exact ih235 (l1, l3, l4, v_43, st) _ _ _ ⟨hf, hp, (lv_sub hl [1, 2, 3, 4, 0] rfl)⟩
          · have hf := pif_t c_42 hf
            refine lv_aload_n hx hb dX9_field_282 rfl (lv_at hl 0 rfl) ?_
            refine lv_iconst (v := 3) hx hb dX9_field_283 (by decide) ?_
            refine lv_aload_n hx hb dX9_field_284 rfl (lv_at hl 0 rfl) ?_
            refine r_gi hx hb hts iRX9 hown hK hp 11 (by decide) rfl (hts (.fieldLink RX9 141 "RecordBenchModel" "at" "I") (by decide +kernel)) dX9_field_285 ?_
            obtain ⟨st_44, hc_45, hf⟩ := bnv_some hf
            refine r_cv hp hA (va_runV (As := [.int 3, .int (gI st 11)]) (rest := []) ⟨hx, hb, hml, hown, hts⟩ (c_X9_fail l dC dI h0 ar ca 3 (gI st 11) _ _ hc_45 _) (cwV 2 hts gq_X9_field_X9_fail_154 rfl rfl rfl (by decide +kernel) ⟨Nat.le_of_ble_eq_true rfl, Nat.le_of_ble_eq_true rfl⟩) ⟨Pr.blind _, va_recv hK hp.1 (ci := 11) (q0 := 0) rfl rfl, r_pre hp hK hN hZ hA⟩ rfl rfl hl.1 rfl (lv_room (Nat.le_of_ble_eq_true rfl)) dX9_field_288 ⟨Nat.le_of_ble_eq_true rfl, Nat.le_of_ble_eq_true rfl⟩) (fun H locs hp => ?_)
            obtain ⟨v_47, ev_47, hf⟩ := nam_some hf
            refine lv_iinc (v := v_47) (lv' := [(6, .int v_47), (0, .ref h0), (1, .int l1), (3, .int l3), (4, .long l4)]) hx hb dX9_field_291 hl (k := 4) rfl ev_47.symm (by decide) rfl (fun ls hl => ?_)
            refine lv_goto (tgt := 235) hx hb dX9_field_294 (by decide) ?_
            exact ih235 (l1, l3, l4, v_47, st_44) _ _ _ ⟨hf, hp, (lv_sub hl [1, 2, 3, 4, 0] rfl)⟩
  refine W_blk (fun (u : Int32 × Int32 × Int64 × RS) H locs ls => match u with | (l1, l3, l4, st) => x9_field_232 l1 l3 l4 st = some st' ∧ Rp (dC, dI) h0 ar ca A s.heap st H locs ∧ lv_has ls 8 [(0, .ref h0), (1, .int l1), (3, .int l3), (4, .long l4)]) (fun (u : Int32 × Int32 × Int64 × RS) ls => match u with | (l1, l3, l4, st) => F0 m 232 ls []) ?_ (fun J232 => ?_)
  · intro u H locs ls hu
    obtain ⟨l1, l3, l4, st⟩ := u
    obtain ⟨hf, hp, hl⟩ := hu
    show W p l e _ s m _ below meth c _ _ _ _ _ (F0 m 232 ls [])
    unfold x9_field_232 at hf
    refine lv_iconst (v := 1) hx hb dX9_field_232 (by decide) ?_
    refine lv_istore (lv' := [(6, .int 1), (0, .ref h0), (1, .int l1), (3, .int l3), (4, .long l4)]) hx hb dX9_field_233 hl (by decide) rfl (fun ls hl => ?_)
    exact J235 fuel (l1, l3, l4, 1, st) _ _ _ ⟨hf, hp, (lv_sub hl [1, 2, 3, 4, 0] rfl)⟩
  refine W_blk (fun (u : Int32 × Int32 × Int64 × RS) H locs ls => match u with | (l1, l3, l4, st) => x9_field_201 l1 l3 l4 st = some st' ∧ Rp (dC, dI) h0 ar ca A s.heap st H locs ∧ lv_has ls 8 [(0, .ref h0), (1, .int l1), (3, .int l3), (4, .long l4)]) (fun (u : Int32 × Int32 × Int64 × RS) ls => match u with | (l1, l3, l4, st) => F0 m 201 ls []) ?_ (fun J201 => ?_)
  · intro u H locs ls hu
    obtain ⟨l1, l3, l4, st⟩ := u
    obtain ⟨hf, hp, hl⟩ := hu
    show W p l e _ s m _ below meth c _ _ _ _ _ (F0 m 201 ls [])
    unfold x9_field_201 at hf
    refine lv_aload_n hx hb dX9_field_201 rfl (lv_at hl 0 rfl) ?_
    refine lv_iconst (v := 1) hx hb dX9_field_202 (by decide) ?_
    refine lv_aload_n hx hb dX9_field_203 rfl (lv_at hl 0 rfl) ?_
    refine r_gi hx hb hts iRX9 hown hK hp 11 (by decide) rfl (hts (.fieldLink RX9 141 "RecordBenchModel" "at" "I") (by decide +kernel)) dX9_field_204 ?_
    obtain ⟨st_48, hc_49, hf⟩ := bnv_some hf
    refine r_cv hp hA (va_runV (As := [.int 1, .int (gI st 11)]) (rest := []) ⟨hx, hb, hml, hown, hts⟩ (c_X9_fail l dC dI h0 ar ca 1 (gI st 11) _ _ hc_49 _) (cwV 2 hts gq_X9_field_X9_fail_154 rfl rfl rfl (by decide +kernel) ⟨Nat.le_of_ble_eq_true rfl, Nat.le_of_ble_eq_true rfl⟩) ⟨Pr.blind _, va_recv hK hp.1 (ci := 11) (q0 := 0) rfl rfl, r_pre hp hK hN hZ hA⟩ rfl rfl hl.1 rfl (lv_room (Nat.le_of_ble_eq_true rfl)) dX9_field_207 ⟨Nat.le_of_ble_eq_true rfl, Nat.le_of_ble_eq_true rfl⟩) (fun H locs hp => ?_)
    refine lv_goto (tgt := 232) hx hb dX9_field_210 (by decide) ?_
    exact J232 (l1, l3, l4, st_48) _ _ _ ⟨hf, hp, (lv_sub hl [0, 1, 2, 3] rfl)⟩
  refine W_blk (fun (u : Int32 × Int32 × Int64 × RS) H locs ls => match u with | (l1, l3, l4, st) => x9_field_98 l1 l3 l4 st = some st' ∧ Rp (dC, dI) h0 ar ca A s.heap st H locs ∧ lv_has ls 8 [(0, .ref h0), (1, .int l1), (3, .int l3), (4, .long l4)]) (fun (u : Int32 × Int32 × Int64 × RS) ls => match u with | (l1, l3, l4, st) => F0 m 98 ls []) ?_ (fun J98 => ?_)
  · intro u H locs ls hu
    obtain ⟨l1, l3, l4, st⟩ := u
    obtain ⟨hf, hp, hl⟩ := hu
    show W p l e _ s m _ below meth c _ _ _ _ _ (F0 m 98 ls [])
    unfold x9_field_98 at hf
    refine lv_aload_n hx hb dX9_field_98 rfl (lv_at hl 0 rfl) ?_
    refine r_gi hx hb hts iRX9 hown hK hp 13 (by decide) rfl (hts (.fieldLink RX9 135 "RecordBenchModel" "bad" "I") (by decide +kernel)) dX9_field_99 ?_
    refine lv_if_eq (tgt := 106) hx hb dX9_field_102 (by decide) (fun c_51 => ?_) (fun c_51 => ?_)
    · have hf := pif_t c_51 hf
      refine lv_lload hx hb dX9_field_106 (lv_at hl 3 rfl) ?_
      refine lv_aload_n hx hb dX9_field_108 rfl (lv_at hl 0 rfl) ?_
      refine r_gj hx hb hts iRX9 hown hK hp 19 (by decide) rfl (hts (.fieldLink RX9 50 "RecordBenchModel" "goneWord" "J") (by decide +kernel)) dX9_field_109 ?_
      refine W.lcmp hx hb dX9_field_112 ?_
      refine lv_if_ne (tgt := 180) hx hb dX9_field_113 (by decide) (fun c_52 => ?_) (fun c_52 => ?_)
      · have hf := pif_f c_52 hf
        refine lv_aload_n hx hb dX9_field_180 rfl (lv_at hl 0 rfl) ?_
        refine r_gi hx hb hts iRX9 hown hK hp 11 (by decide) rfl (hts (.fieldLink RX9 141 "RecordBenchModel" "at" "I") (by decide +kernel)) dX9_field_181 ?_
        refine lv_aload_n hx hb dX9_field_184 rfl (lv_at hl 0 rfl) ?_
        refine r_gi hx hb hts iRX9 hown hK hp 18 (by decide) rfl (hts (.fieldLink RX9 162 "RecordBenchModel" "ended" "I") (by decide +kernel)) dX9_field_185 ?_
        refine lv_icmp_eq (tgt := 201) hx hb dX9_field_188 (by decide) (fun c_53 => ?_) (fun c_53 => ?_)
        · have hf := pif_t c_53 hf
          exact J201 (l1, l3, l4, st) _ _ _ ⟨hf, hp, (lv_sub hl [0, 1, 2, 3] rfl)⟩
        · have hf := pif_f c_53 hf
          refine lv_aload_n hx hb dX9_field_191 rfl (lv_at hl 0 rfl) ?_
          refine lv_lload hx hb dX9_field_192 (lv_at hl 3 rfl) ?_
          obtain ⟨r_56, st_54, hc_55, hf⟩ := bnd_some hf
          refine r_ci hp hA (va_runV (As := [.long l4]) (rest := []) ⟨hx, hb, hml, hown, hts⟩ (c_X9_kindOf l dC dI h0 ar ca l4 _ _ _ hc_55 _) (cwV 1 hts gq_X9_field_X9_kindOf_195 rfl rfl rfl (by decide +kernel) ⟨Nat.le_of_ble_eq_true rfl, Nat.le_of_ble_eq_true rfl⟩) ⟨Pr.blind _, va_recv hK hp.1 (ci := 11) (q0 := 0) rfl rfl, r_pre hp hK hN hZ hA⟩ rfl rfl hl.1 rfl (lv_room (Nat.le_of_ble_eq_true rfl)) dX9_field_194 ⟨Nat.le_of_ble_eq_true rfl, Nat.le_of_ble_eq_true rfl⟩) (fun H locs hp => ?_)
          refine lv_iconst (v := (-1)) hx hb dX9_field_197 (by decide) ?_
          refine lv_icmp_eq (tgt := 213) hx hb dX9_field_198 (by decide) (fun c_57 => ?_) (fun c_57 => ?_)
          · have hf := pif_t c_57 hf
            refine lv_lload hx hb dX9_field_213 (lv_at hl 3 rfl) ?_
            refine lv_lconst (v := 0) hx hb dX9_field_215 (by decide) ?_
            refine W.lcmp hx hb dX9_field_216 ?_
            refine lv_if_ge (tgt := 232) hx hb dX9_field_217 (by decide) (fun c_58 => ?_) (fun c_58 => ?_)
            · have hf := pif_t c_58 hf
              exact J232 (l1, l3, l4, st_54) _ _ _ ⟨hf, hp, (lv_sub hl [0, 1, 2, 3] rfl)⟩
            · have hf := pif_f c_58 hf
              refine lv_aload_n hx hb dX9_field_220 rfl (lv_at hl 0 rfl) ?_
              refine lv_iconst (v := 1) hx hb dX9_field_221 (by decide) ?_
              refine lv_aload_n hx hb dX9_field_222 rfl (lv_at hl 0 rfl) ?_
              refine r_gi hx hb hts iRX9 hown hK hp 11 (by decide) rfl (hts (.fieldLink RX9 141 "RecordBenchModel" "at" "I") (by decide +kernel)) dX9_field_223 ?_
              refine lv_bipush (v := 8) hx hb dX9_field_226 (by decide) ?_
              refine lv_iadd hx hb dX9_field_228 ?_
              obtain ⟨st_59, hc_60, hf⟩ := bnv_some hf
              refine r_cv hp hA (va_runV (As := [.int 1, .int ((gI st_54 11) + 8)]) (rest := []) ⟨hx, hb, hml, hown, hts⟩ (c_X9_fail l dC dI h0 ar ca 1 ((gI st_54 11) + 8) _ _ hc_60 _) (cwV 2 hts gq_X9_field_X9_fail_154 rfl rfl rfl (by decide +kernel) ⟨Nat.le_of_ble_eq_true rfl, Nat.le_of_ble_eq_true rfl⟩) ⟨Pr.blind _, va_recv hK hp.1 (ci := 11) (q0 := 0) rfl rfl, r_pre hp hK hN hZ hA⟩ rfl rfl hl.1 rfl (lv_room (Nat.le_of_ble_eq_true rfl)) dX9_field_229 ⟨Nat.le_of_ble_eq_true rfl, Nat.le_of_ble_eq_true rfl⟩) (fun H locs hp => ?_)
              exact J232 (l1, l3, l4, st_59) _ _ _ ⟨hf, hp, (lv_sub hl [0, 1, 2, 3] rfl)⟩
          · have hf := pif_f c_57 hf
            exact J201 (l1, l3, l4, st_54) _ _ _ ⟨hf, hp, (lv_sub hl [0, 1, 2, 3] rfl)⟩
      · have hf := pif_t c_52 hf
        refine lv_aload_n hx hb dX9_field_116 rfl (lv_at hl 0 rfl) ?_
        obtain ⟨st_62, hc_63, hf⟩ := bnv_some hf
        refine r_cv hp hA (va_runV (As := []) (rest := []) ⟨hx, hb, hml, hown, hts⟩ (c_X9_takes l dC dI h0 ar ca  _ _ hc_63 _) (cwV 0 hts gq_X9_field_X9_takes_188 rfl rfl rfl (by decide +kernel) ⟨Nat.le_of_ble_eq_true rfl, Nat.le_of_ble_eq_true rfl⟩) ⟨Pr.blind _, va_recv hK hp.1 (ci := 11) (q0 := 0) rfl rfl, r_pre hp hK hN hZ hA⟩ rfl rfl hl.1 rfl (lv_room (Nat.le_of_ble_eq_true rfl)) dX9_field_117 ⟨Nat.le_of_ble_eq_true rfl, Nat.le_of_ble_eq_true rfl⟩) (fun H locs hp => ?_)
        refine lv_aload_n hx hb dX9_field_120 rfl (lv_at hl 0 rfl) ?_
        refine lv_bipush (v := 59) hx hb dX9_field_121 (by decide) ?_
        obtain ⟨st_65, hc_66, hf⟩ := bnv_some hf
        refine r_cv hp hA (va_runV (As := [.int 59]) (rest := []) ⟨hx, hb, hml, hown, hts⟩ (c_X9_sign l dC dI h0 ar ca 59 _ _ hc_66 _) (cwV 1 hts gq_X9_field_X9_sign_191 rfl rfl rfl (by decide +kernel) ⟨Nat.le_of_ble_eq_true rfl, Nat.le_of_ble_eq_true rfl⟩) ⟨Pr.blind _, va_recv hK hp.1 (ci := 11) (q0 := 0) rfl rfl, r_pre hp hK hN hZ hA⟩ rfl rfl hl.1 rfl (lv_room (Nat.le_of_ble_eq_true rfl)) dX9_field_123 ⟨Nat.le_of_ble_eq_true rfl, Nat.le_of_ble_eq_true rfl⟩) (fun H locs hp => ?_)
        refine lv_aload_n hx hb dX9_field_126 rfl (lv_at hl 0 rfl) ?_
        refine r_gi hx hb hts iRX9 hown hK hp 13 (by decide) rfl (hts (.fieldLink RX9 135 "RecordBenchModel" "bad" "I") (by decide +kernel)) dX9_field_127 ?_
        refine lv_if_eq (tgt := 134) hx hb dX9_field_130 (by decide) (fun c_68 => ?_) (fun c_68 => ?_)
        · have hf := pif_t c_68 hf
          refine lv_aload_n hx hb dX9_field_134 rfl (lv_at hl 0 rfl) ?_
          refine r_ga hx hb hts iRX9 hown hK hp 8 (by decide) (by decide) (hts (.fieldLink RX9 36 "RecordBenchModel" "isThere" "[Z") (by decide +kernel)) dX9_field_135 ?_
          refine lv_iload_n hx hb dX9_field_138 rfl (lv_at hl 2 rfl) ?_
          refine lv_iconst (v := 1) hx hb dX9_field_139 (by decide) ?_
          obtain ⟨g_69, hf⟩ := gd_some hf
          refine r_sz (n := 248) hx hb hK hp 8 8 rfl rfl rfl g_69 dX9_field_140 (fun H locs hp => ?_)
          obtain ⟨st_70, est_70, hf⟩ := nam_some hf
          rw [← est_70] at hp
          refine lv_aload_n hx hb dX9_field_141 rfl (lv_at hl 0 rfl) ?_
          refine r_ga hx hb hts iRX9 hown hK hp 1 (by decide) (by decide) (hts (.fieldLink RX9 13 "RecordBenchModel" "kind" "[I") (by decide +kernel)) dX9_field_142 ?_
          refine lv_iload_n hx hb dX9_field_145 rfl (lv_at hl 2 rfl) ?_
          refine lv_iconst (v := 0) hx hb dX9_field_146 (by decide) ?_
          obtain ⟨g_71, hf⟩ := gd_some hf
          refine r_si (n := 248) hx hb hK hp 1 1 rfl rfl rfl g_71 dX9_field_147 (fun H locs hp => ?_)
          obtain ⟨st_72, est_72, hf⟩ := nam_some hf
          rw [← est_72] at hp
          refine lv_aload_n hx hb dX9_field_148 rfl (lv_at hl 0 rfl) ?_
          refine r_ga hx hb hts iRX9 hown hK hp 4 (by decide) (by decide) (hts (.fieldLink RX9 23 "RecordBenchModel" "letters" "[I") (by decide +kernel)) dX9_field_149 ?_
          refine lv_iload_n hx hb dX9_field_152 rfl (lv_at hl 2 rfl) ?_
          refine lv_iconst (v := 0) hx hb dX9_field_153 (by decide) ?_
          obtain ⟨g_73, hf⟩ := gd_some hf
          refine r_si (n := 248) hx hb hK hp 4 4 rfl rfl rfl g_73 dX9_field_154 (fun H locs hp => ?_)
          obtain ⟨st_74, est_74, hf⟩ := nam_some hf
          rw [← est_74] at hp
          refine lv_aload_n hx hb dX9_field_155 rfl (lv_at hl 0 rfl) ?_
          refine r_ga hx hb hts iRX9 hown hK hp 5 (by decide) (by decide) (hts (.fieldLink RX9 26 "RecordBenchModel" "name" "[J") (by decide +kernel)) dX9_field_156 ?_
          refine lv_iload_n hx hb dX9_field_159 rfl (lv_at hl 2 rfl) ?_
          refine lv_lconst (v := 0) hx hb dX9_field_160 (by decide) ?_
          obtain ⟨g_75, hf⟩ := gd_some hf
          refine r_sj (n := 248) hx hb hK hp 5 5 rfl rfl rfl g_75 dX9_field_161 (fun H locs hp => ?_)
          obtain ⟨st_76, est_76, hf⟩ := nam_some hf
          rw [← est_76] at hp
          refine lv_aload_n hx hb dX9_field_162 rfl (lv_at hl 0 rfl) ?_
          refine r_ga hx hb hts iRX9 hown hK hp 2 (by decide) (by decide) (hts (.fieldLink RX9 17 "RecordBenchModel" "group" "[I") (by decide +kernel)) dX9_field_163 ?_
          refine lv_iload_n hx hb dX9_field_166 rfl (lv_at hl 2 rfl) ?_
          refine lv_iconst (v := 0) hx hb dX9_field_167 (by decide) ?_
          obtain ⟨g_77, hf⟩ := gd_some hf
          refine r_si (n := 248) hx hb hK hp 2 2 rfl rfl rfl g_77 dX9_field_168 (fun H locs hp => ?_)
          obtain ⟨st_78, est_78, hf⟩ := nam_some hf
          rw [← est_78] at hp
          refine lv_aload_n hx hb dX9_field_169 rfl (lv_at hl 0 rfl) ?_
          refine lv_dup hx hb dX9_field_170 rfl ?_
          refine r_gi hx hb hts iRX9 hown hK hp 27 (by decide) rfl (hts (.fieldLink RX9 177 "RecordBenchModel" "fields" "I") (by decide +kernel)) dX9_field_171 ?_
          refine lv_iconst (v := 1) hx hb dX9_field_174 (by decide) ?_
          refine lv_iadd hx hb dX9_field_175 ?_
          refine r_pi (v := (gI st_78 27) + 1) (ty := .int) hx hb hts iRX9 hown hK hp 27 (by decide) rfl (hts (.fieldLink RX9 177 "RecordBenchModel" "fields" "I") (by decide +kernel)) rfl (by decide +kernel) rfl rfl dX9_field_176 (fun H locs hp => ?_)
          obtain ⟨st_79, est_79, hf⟩ := nam_some hf
          rw [← est_79] at hp
          have e2 := Option.some.inj hf
          exact W.vret hx hb hr (fun t ht hW => ⟨⟨(), rfl, trivial, Rp.end e2 hp hK ht hW⟩, hp.2.2.F ht⟩) hp.2.2.2.2 dX9_field_179
        · have hf := pif_f c_68 hf
          have e2 := Option.some.inj hf
          exact W.vret hx hb hr (fun t ht hW => ⟨⟨(), rfl, trivial, Rp.end e2 hp hK ht hW⟩, hp.2.2.F ht⟩) hp.2.2.2.2 dX9_field_133
    · have hf := pif_f c_51 hf
      have e2 := Option.some.inj hf
      exact W.vret hx hb hr (fun t ht hW => ⟨⟨(), rfl, trivial, Rp.end e2 hp hK ht hW⟩, hp.2.2.F ht⟩) hp.2.2.2.2 dX9_field_105
  refine W_blk (fun (u : Int32 × Int32 × RS) H locs ls => match u with | (l1, l3, st) => x9_field_76 l1 l3 st = some st' ∧ Rp (dC, dI) h0 ar ca A s.heap st H locs ∧ lv_has ls 8 [(0, .ref h0), (1, .int l1), (3, .int l3)]) (fun (u : Int32 × Int32 × RS) ls => match u with | (l1, l3, st) => F0 m 76 ls []) ?_ (fun J76 => ?_)
  · intro u H locs ls hu
    obtain ⟨l1, l3, st⟩ := u
    obtain ⟨hf, hp, hl⟩ := hu
    show W p l e _ s m _ below meth c _ _ _ _ _ (F0 m 76 ls [])
    unfold x9_field_76 at hf
    refine lv_aload_n hx hb dX9_field_76 rfl (lv_at hl 0 rfl) ?_
    obtain ⟨r_82, st_80, hc_81, hf⟩ := bnd_some hf
    refine r_cl hp hA (va_runV (As := []) (rest := []) ⟨hx, hb, hml, hown, hts⟩ (c_X9_word l dC dI h0 ar ca  _ _ _ hc_81 _) (cwV 0 hts gq_X9_field_X9_word_184 rfl rfl rfl (by decide +kernel) ⟨Nat.le_of_ble_eq_true rfl, Nat.le_of_ble_eq_true rfl⟩) ⟨Pr.blind _, va_recv hK hp.1 (ci := 11) (q0 := 0) rfl rfl, r_pre hp hK hN hZ hA⟩ rfl rfl hl.1 rfl (lv_room (Nat.le_of_ble_eq_true rfl)) dX9_field_77 ⟨Nat.le_of_ble_eq_true rfl, Nat.le_of_ble_eq_true rfl⟩) (fun H locs hp => ?_)
    refine lv_lstore (lv' := [(4, .long r_82), (0, .ref h0), (1, .int l1), (3, .int l3)]) hx hb dX9_field_80 hl (by decide) rfl (fun ls hl => ?_)
    refine lv_lload hx hb dX9_field_82 (lv_at hl 0 rfl) ?_
    refine lv_lconst (v := 0) hx hb dX9_field_84 (by decide) ?_
    refine W.lcmp hx hb dX9_field_85 ?_
    refine lv_if_ne (tgt := 98) hx hb dX9_field_86 (by decide) (fun c_83 => ?_) (fun c_83 => ?_)
    · have hf := pif_f c_83 hf
      exact J98 (l1, l3, r_82, st_80) _ _ _ ⟨hf, hp, (lv_sub hl [1, 2, 3, 0] rfl)⟩
    · have hf := pif_t c_83 hf
      refine lv_aload_n hx hb dX9_field_89 rfl (lv_at hl 1 rfl) ?_
      refine lv_iconst (v := 1) hx hb dX9_field_90 (by decide) ?_
      refine lv_aload_n hx hb dX9_field_91 rfl (lv_at hl 1 rfl) ?_
      refine r_gi hx hb hts iRX9 hown hK hp 11 (by decide) rfl (hts (.fieldLink RX9 141 "RecordBenchModel" "at" "I") (by decide +kernel)) dX9_field_92 ?_
      obtain ⟨st_84, hc_85, hf⟩ := bnv_some hf
      refine r_cv hp hA (va_runV (As := [.int 1, .int (gI st_80 11)]) (rest := []) ⟨hx, hb, hml, hown, hts⟩ (c_X9_fail l dC dI h0 ar ca 1 (gI st_80 11) _ _ hc_85 _) (cwV 2 hts gq_X9_field_X9_fail_154 rfl rfl rfl (by decide +kernel) ⟨Nat.le_of_ble_eq_true rfl, Nat.le_of_ble_eq_true rfl⟩) ⟨Pr.blind _, va_recv hK hp.1 (ci := 11) (q0 := 0) rfl rfl, r_pre hp hK hN hZ hA⟩ rfl rfl hl.1 rfl (lv_room (Nat.le_of_ble_eq_true rfl)) dX9_field_95 ⟨Nat.le_of_ble_eq_true rfl, Nat.le_of_ble_eq_true rfl⟩) (fun H locs hp => ?_)
      exact J98 (l1, l3, r_82, st_84) _ _ _ ⟨hf, hp, (lv_sub hl [1, 2, 3, 0] rfl)⟩
  refine W_blk (fun (u : Int32 × Int32 × RS) H locs ls => match u with | (l1, s0, st) => x9_field_42 l1 s0 st = some st' ∧ Rp (dC, dI) h0 ar ca A s.heap st H locs ∧ lv_has ls 8 [(0, .ref h0), (1, .int l1)]) (fun (u : Int32 × Int32 × RS) ls => match u with | (l1, s0, st) => F0 m 42 ls [.int s0]) ?_ (fun J42 => ?_)
  · intro u H locs ls hu
    obtain ⟨l1, s0, st⟩ := u
    obtain ⟨hf, hp, hl⟩ := hu
    show W p l e _ s m _ below meth c _ _ _ _ _ (F0 m 42 ls [.int s0])
    unfold x9_field_42 at hf
    refine lv_istore_n (lv' := [(2, .int s0), (0, .ref h0), (1, .int l1)]) hx hb dX9_field_42 rfl hl (by decide) rfl (fun ls hl => ?_)
    refine lv_aload_n hx hb dX9_field_43 rfl (lv_at hl 1 rfl) ?_
    refine r_gi hx hb hts iRX9 hown hK hp 13 (by decide) rfl (hts (.fieldLink RX9 135 "RecordBenchModel" "bad" "I") (by decide +kernel)) dX9_field_44 ?_
    refine lv_if_eq (tgt := 51) hx hb dX9_field_47 (by decide) (fun c_87 => ?_) (fun c_87 => ?_)
    · have hf := pif_t c_87 hf
      refine lv_bipush (v := 31) hx hb dX9_field_51 (by decide) ?_
      refine lv_iload_n hx hb dX9_field_53 rfl (lv_at hl 2 rfl) ?_
      refine lv_imul hx hb dX9_field_54 ?_
      refine lv_iload_n hx hb dX9_field_55 rfl (lv_at hl 0 rfl) ?_
      refine lv_iadd hx hb dX9_field_56 ?_
      obtain ⟨v_88, ev_88, hf⟩ := nam_some hf
      refine W_toi (y := v_88) ev_88.symm ?_
      refine lv_istore_n (lv' := [(3, .int v_88), (2, .int s0), (0, .ref h0), (1, .int l1)]) hx hb dX9_field_57 rfl hl (by decide) rfl (fun ls hl => ?_)
      refine lv_aload_n hx hb dX9_field_58 rfl (lv_at hl 2 rfl) ?_
      refine r_ga hx hb hts iRX9 hown hK hp 8 (by decide) (by decide) (hts (.fieldLink RX9 36 "RecordBenchModel" "isThere" "[Z") (by decide +kernel)) dX9_field_59 ?_
      refine lv_iload_n hx hb dX9_field_62 rfl (lv_at hl 0 rfl) ?_
      obtain ⟨g_89, hf⟩ := gd_some hf
      refine r_az (n := 248) hx hb hK hp 8 8 rfl rfl rfl g_89 dX9_field_63 ?_
      refine lv_if_eq (tgt := 76) hx hb dX9_field_64 (by decide) (fun c_90 => ?_) (fun c_90 => ?_)
      · have hf := pif_t c_90 hf
        exact J76 (l1, v_88, st) _ _ _ ⟨hf, hp, (lv_sub hl [2, 3, 0] rfl)⟩
      · have hf := pif_f c_90 hf
        refine lv_aload_n hx hb dX9_field_67 rfl (lv_at hl 2 rfl) ?_
        refine lv_iconst (v := 3) hx hb dX9_field_68 (by decide) ?_
        refine lv_aload_n hx hb dX9_field_69 rfl (lv_at hl 2 rfl) ?_
        refine r_gi hx hb hts iRX9 hown hK hp 17 (by decide) rfl (hts (.fieldLink RX9 147 "RecordBenchModel" "begun" "I") (by decide +kernel)) dX9_field_70 ?_
        obtain ⟨st_91, hc_92, hf⟩ := bnv_some hf
        refine r_cv hp hA (va_runV (As := [.int 3, .int (gI st 17)]) (rest := []) ⟨hx, hb, hml, hown, hts⟩ (c_X9_fail l dC dI h0 ar ca 3 (gI st 17) _ _ hc_92 _) (cwV 2 hts gq_X9_field_X9_fail_154 rfl rfl rfl (by decide +kernel) ⟨Nat.le_of_ble_eq_true rfl, Nat.le_of_ble_eq_true rfl⟩) ⟨Pr.blind _, va_recv hK hp.1 (ci := 11) (q0 := 0) rfl rfl, r_pre hp hK hN hZ hA⟩ rfl rfl hl.1 rfl (lv_room (Nat.le_of_ble_eq_true rfl)) dX9_field_73 ⟨Nat.le_of_ble_eq_true rfl, Nat.le_of_ble_eq_true rfl⟩) (fun H locs hp => ?_)
        exact J76 (l1, v_88, st_91) _ _ _ ⟨hf, hp, (lv_sub hl [2, 3, 0] rfl)⟩
    · have hf := pif_f c_87 hf
      have e2 := Option.some.inj hf
      exact W.vret hx hb hr (fun t ht hW => ⟨⟨(), rfl, trivial, Rp.end e2 hp hK ht hW⟩, hp.2.2.F ht⟩) hp.2.2.2.2 dX9_field_50
  refine W_blk (fun (u : Int32 × RS) H locs ls => match u with | (l1, st) => x9_field_23 l1 st = some st' ∧ Rp (dC, dI) h0 ar ca A s.heap st H locs ∧ lv_has ls 8 [(0, .ref h0), (1, .int l1)]) (fun (u : Int32 × RS) ls => match u with | (l1, st) => F0 m 23 ls []) ?_ (fun J23 => ?_)
  · intro u H locs ls hu
    obtain ⟨l1, st⟩ := u
    obtain ⟨hf, hp, hl⟩ := hu
    show W p l e _ s m _ below meth c _ _ _ _ _ (F0 m 23 ls [])
    unfold x9_field_23 at hf
    refine lv_aload_n hx hb dX9_field_23 rfl (lv_at hl 0 rfl) ?_
    refine r_gi hx hb hts iRX9 hown hK hp 13 (by decide) rfl (hts (.fieldLink RX9 135 "RecordBenchModel" "bad" "I") (by decide +kernel)) dX9_field_24 ?_
    refine lv_if_ne (tgt := 41) hx hb dX9_field_27 (by decide) (fun c_94 => ?_) (fun c_94 => ?_)
    · have hf := pif_f c_94 hf
      refine lv_iconst (v := 0) hx hb dX9_field_41 (by decide) ?_
      exact J42 (l1, 0, st) _ _ _ ⟨hf, hp, (lv_sub hl [0, 1] rfl)⟩
    · have hf := pif_t c_94 hf
      refine lv_aload_n hx hb dX9_field_30 rfl (lv_at hl 0 rfl) ?_
      refine lv_iconst (v := 2) hx hb dX9_field_31 (by decide) ?_
      refine lv_iconst (v := 1) hx hb dX9_field_32 (by decide) ?_
      refine lv_bipush (v := 30) hx hb dX9_field_33 (by decide) ?_
      obtain ⟨r_97, st_95, hc_96, hf⟩ := bnd_some hf
      refine r_ci hp hA (va_runV (As := [.int 2, .int 1, .int 30]) (rest := []) ⟨hx, hb, hml, hown, hts⟩ (c_X9_number l dC dI h0 ar ca 2 1 30 _ _ _ hc_96 _) (cwV 3 hts gq_X9_field_X9_number_180 rfl rfl rfl (by decide +kernel) ⟨Nat.le_of_ble_eq_true rfl, Nat.le_of_ble_eq_true rfl⟩) ⟨Pr.blind _, va_recv hK hp.1 (ci := 11) (q0 := 0) rfl rfl, r_pre hp hK hN hZ hA⟩ rfl rfl hl.1 rfl (lv_room (Nat.le_of_ble_eq_true rfl)) dX9_field_35 ⟨Nat.le_of_ble_eq_true rfl, Nat.le_of_ble_eq_true rfl⟩) (fun H locs hp => ?_)
      refine lv_goto (tgt := 42) hx hb dX9_field_38 (by decide) ?_
      exact J42 (l1, r_97, st_95) _ _ _ ⟨hf, hp, (lv_sub hl [0, 1] rfl)⟩
  unfold x9_field at hf
  refine lv_aload_n hx hb dX9_field_0 rfl (lv_at hl 0 rfl) ?_
  obtain ⟨r_100, st_98, hc_99, hf⟩ := bnd_some hf
  refine r_ci hp hA (va_runV (As := []) (rest := []) ⟨hx, hb, hml, hown, hts⟩ (c_X9_next l dC dI h0 ar ca  _ _ _ hc_99 _) (cwV 0 hts gq_X9_field_X9_next_150 rfl rfl rfl (by decide +kernel) ⟨Nat.le_of_ble_eq_true rfl, Nat.le_of_ble_eq_true rfl⟩) ⟨Pr.blind _, va_recv hK hp.1 (ci := 11) (q0 := 0) rfl rfl, r_pre hp hK hN hZ hA⟩ rfl rfl hl.1 rfl (lv_room (Nat.le_of_ble_eq_true rfl)) dX9_field_1 ⟨Nat.le_of_ble_eq_true rfl, Nat.le_of_ble_eq_true rfl⟩) (fun H locs hp => ?_)
  refine lv_pop hx hb dX9_field_4 rfl ?_
  refine lv_aload_n hx hb dX9_field_5 rfl (lv_at hl 0 rfl) ?_
  refine r_gi hx hb hts iRX9 hown hK hp 27 (by decide) rfl (hts (.fieldLink RX9 177 "RecordBenchModel" "fields" "I") (by decide +kernel)) dX9_field_6 ?_
  refine lv_bipush (v := 10) hx hb dX9_field_9 (by decide) ?_
  refine lv_icmp_ne (tgt := 23) hx hb dX9_field_11 (by decide) (fun c_101 => ?_) (fun c_101 => ?_)
  · have hf := pif_f c_101 hf
    exact J23 (p0, st_98) _ _ _ ⟨hf, hp, (lv_sub hl [0, 1] rfl)⟩
  · have hf := pif_t c_101 hf
    refine lv_aload_n hx hb dX9_field_14 rfl (lv_at hl 0 rfl) ?_
    refine lv_iconst (v := 1) hx hb dX9_field_15 (by decide) ?_
    refine lv_aload_n hx hb dX9_field_16 rfl (lv_at hl 0 rfl) ?_
    refine r_gi hx hb hts iRX9 hown hK hp 17 (by decide) rfl (hts (.fieldLink RX9 147 "RecordBenchModel" "begun" "I") (by decide +kernel)) dX9_field_17 ?_
    obtain ⟨st_102, hc_103, hf⟩ := bnv_some hf
    refine r_cv hp hA (va_runV (As := [.int 1, .int (gI st_98 17)]) (rest := []) ⟨hx, hb, hml, hown, hts⟩ (c_X9_fail l dC dI h0 ar ca 1 (gI st_98 17) _ _ hc_103 _) (cwV 2 hts gq_X9_field_X9_fail_154 rfl rfl rfl (by decide +kernel) ⟨Nat.le_of_ble_eq_true rfl, Nat.le_of_ble_eq_true rfl⟩) ⟨Pr.blind _, va_recv hK hp.1 (ci := 11) (q0 := 0) rfl rfl, r_pre hp hK hN hZ hA⟩ rfl rfl hl.1 rfl (lv_room (Nat.le_of_ble_eq_true rfl)) dX9_field_20 ⟨Nat.le_of_ble_eq_true rfl, Nat.le_of_ble_eq_true rfl⟩) (fun H locs hp => ?_)
    exact J23 (p0, st_102) _ _ _ ⟨hf, hp, (lv_sub hl [0, 1] rfl)⟩
noncomputable def x9_make_109  (l1 : Int32) (st : RS) : Option (Int32 × RS) := nam (sI st 15 (gI st 13)) (fun st_1 => nam (sI st_1 16 (gI st_1 14)) (fun st_2 => pif ((gI st_2 13) = 0) (gd (vp_in l1 8) (nam (sF st_2 0 (upd (gF st_2 0) l1.toNatClampNeg (vp_nar .boolean 1))) (fun st_5 => some (gI st_5 27, st_5)))) (some (((-1) : Int32), st_2))))
noncomputable def x9_make_86  : Nat → Int32 → RS → Option (Int32 × RS)
  | 0 => fun _ _ => none
  | n + 1 => fun l1 st => pif ((gI st 13) = 0) (bnd (x9_next st) (fun r_9 st_7 => pif (r_9 = (-1)) (x9_make_109  l1 st_7) (bnv (x9_field l1 st_7) (fun st_11 => (x9_make_86 n) l1 st_11)))) (x9_make_109  l1 st)
theorem x9_make_86_z  (l1 : Int32) (st : RS) : x9_make_86  0 l1 st = none := rfl
theorem x9_make_86_s  (n : Nat) (l1 : Int32) (st : RS) : x9_make_86  (n + 1) l1 st = pif ((gI st 13) = 0) (bnd (x9_next st) (fun r_9 st_7 => pif (r_9 = (-1)) (x9_make_109  l1 st_7) (bnv (x9_field l1 st_7) (fun st_11 => (x9_make_86 n) l1 st_11)))) (x9_make_109  l1 st) := rfl
noncomputable def x9_make_62  : Nat → Int32 → Int32 → RS → Option (Int32 × RS)
  | 0 => fun _ _ _ => none
  | n + 1 => fun l1 l2 st => pif (31 ≤ l2) (x9_make_86  fuel l1 st) (gd (vp_in ((31 * l1) + l2) 248) (nam (sF st 8 (upd (gF st 8) ((31 * l1) + l2).toNatClampNeg (vp_nar .boolean 0))) (fun st_16 => nam (l2 + 1) (fun v_17 => (x9_make_62 n) l1 v_17 st_16))))
theorem x9_make_62_z  (l1 : Int32) (l2 : Int32) (st : RS) : x9_make_62  0 l1 l2 st = none := rfl
theorem x9_make_62_s  (n : Nat) (l1 : Int32) (l2 : Int32) (st : RS) : x9_make_62  (n + 1) l1 l2 st = pif (31 ≤ l2) (x9_make_86  fuel l1 st) (gd (vp_in ((31 * l1) + l2) 248) (nam (sF st 8 (upd (gF st 8) ((31 * l1) + l2).toNatClampNeg (vp_nar .boolean 0))) (fun st_16 => nam (l2 + 1) (fun v_17 => (x9_make_62 n) l1 v_17 st_16)))) := rfl
noncomputable def x9_make (p0 : Int32) (st : RS) : Option (Int32 × RS) := pif (p0 < 0) (some (((-2) : Int32), st)) (pif (8 ≤ p0) (some (((-2) : Int32), st)) (gd (vp_in p0 8) (pif ((gF st 0 p0.toNatClampNeg) = 0) (nam (sI st 11 0) (fun st_22 => nam (sI st_22 12 (gI st_22 10)) (fun st_23 => nam (sI st_23 10 0) (fun st_24 => nam (sI st_24 13 0) (fun st_25 => nam (sI st_25 14 (-1)) (fun st_26 => nam (sI st_26 18 (-1)) (fun st_27 => nam (sI st_27 27 0) (fun st_28 => x9_make_62  fuel p0 0 st_28)))))))) (some (((-2) : Int32), st)))))
def wq_X9_make : List Cond := .code yX9_make cX9_make 3 (some .int) :: (([.fieldLink RX9 7 "RecordBenchModel" "told" "[Z", .fieldLink RX9 141 "RecordBenchModel" "at" "I", .fieldLink RX9 132 "RecordBenchModel" "taped" "I", .fieldLink RX9 144 "RecordBenchModel" "size" "I", .fieldLink RX9 135 "RecordBenchModel" "bad" "I", .fieldLink RX9 138 "RecordBenchModel" "badPlace" "I", .fieldLink RX9 162 "RecordBenchModel" "ended" "I", .fieldLink RX9 177 "RecordBenchModel" "fields" "I", .fieldLink RX9 36 "RecordBenchModel" "isThere" "[Z", .fieldLink RX9 236 "RecordBenchModel" "fault" "I", .fieldLink RX9 42 "RecordBenchModel" "faultPlace" "I", .methodLink RX9 150 yX9_next, .instanceMethod yX9_next, .selects RX9 yX9_next yX9_next, .initialized RX9, .methodLink RX9 233 yX9_field, .instanceMethod yX9_field, .selects RX9 yX9_field yX9_field, .code yX9_next cX9_next 1 (some .int), .fieldLink RX9 39 "RecordBenchModel" "tape" "[I", .fieldLink RX9 147 "RecordBenchModel" "begun" "I", .code yX9_field cX9_field 8 none, .fieldLink RX9 50 "RecordBenchModel" "goneWord" "J", .fieldLink RX9 13 "RecordBenchModel" "kind" "[I", .fieldLink RX9 23 "RecordBenchModel" "letters" "[I", .fieldLink RX9 26 "RecordBenchModel" "name" "[J", .fieldLink RX9 17 "RecordBenchModel" "group" "[I", .methodLink RX9 188 yX9_takes, .instanceMethod yX9_takes, .selects RX9 yX9_takes yX9_takes, .methodLink RX9 199 yX9_kinds, .instanceMethod yX9_kinds, .selects RX9 yX9_kinds yX9_kinds, .methodLink RX9 172 yX9_wordEnd, .instanceMethod yX9_wordEnd, .selects RX9 yX9_wordEnd yX9_wordEnd, .methodLink RX9 184 yX9_word, .instanceMethod yX9_word, .selects RX9 yX9_word yX9_word, .methodLink RX9 195 yX9_kindOf, .instanceMethod yX9_kindOf, .selects RX9 yX9_kindOf yX9_kindOf, .methodLink RX9 154 yX9_fail, .instanceMethod yX9_fail, .selects RX9 yX9_fail yX9_fail, .methodLink RX9 191 yX9_sign, .instanceMethod yX9_sign, .selects RX9 yX9_sign yX9_sign, .methodLink RX9 180 yX9_number, .instanceMethod yX9_number, .selects RX9 yX9_number yX9_number, .code yX9_takes cX9_takes 1 none, .code yX9_wordEnd cX9_wordEnd 2 (some .int), .methodLink RX9 165 yX9_isLetter, .static yX9_isLetter, .code yX9_isLetter cX9_isLetter 1 (some .boolean), .code yX9_fail cX9_fail 3 none, .code yX9_kinds cX9_kinds 4 none, .fieldLink RX9 20 "RecordBenchModel" "inner" "[I", .fieldLink RX9 30 "RecordBenchModel" "plain" "[J", .fieldLink RX9 72 "RecordBenchModel" "inWord" "J", .methodLink RX9 212 yX9_value, .instanceMethod yX9_value, .selects RX9 yX9_value yX9_value, .methodLink RX9 209 yX9_textValue, .instanceMethod yX9_textValue, .selects RX9 yX9_textValue yX9_textValue, .methodLink RX9 206 yX9_ends, .instanceMethod yX9_ends, .selects RX9 yX9_ends yX9_ends, .methodLink RX9 203 yX9_digit, .instanceMethod yX9_digit, .selects RX9 yX9_digit yX9_digit, .code yX9_sign cX9_sign 2 none, .code yX9_value cX9_value 10 none, .constantLong RX9 223 (-922337203685477580), .constantLong RX9 225 (10), .constantLong RX9 227 (-9223372036854775808), .methodLink RX9 229 yX9_isOf, .static yX9_isOf, .methodLink RX9 158 yX9_isDigit, .static yX9_isDigit, .code yX9_isOf cX9_isOf 3 (some .boolean), .constantLong RX9 219 (-2147483648), .constantLong RX9 221 (2147483647), .constantLong RX9 215 (-128), .constantLong RX9 217 (127), .code yX9_isDigit cX9_isDigit 1 (some .boolean), .code yX9_textValue cX9_textValue 3 none, .fieldLink RX9 33 "RecordBenchModel" "plainText" "[I", .code yX9_ends cX9_ends 1 none, .code yX9_word cX9_word 5 (some .long), .constantLong RX9 175 (-1), .constantLong RX9 168 (27), .constantLong RX9 170 (97), .code yX9_digit cX9_digit 1 (some .int), .code yX9_kindOf cX9_kindOf 3 (some .int), .fieldLink RX9 54 "RecordBenchModel" "flagWord" "J", .fieldLink RX9 57 "RecordBenchModel" "smallWord" "J", .fieldLink RX9 60 "RecordBenchModel" "intWord" "J", .fieldLink RX9 63 "RecordBenchModel" "longWord" "J", .fieldLink RX9 66 "RecordBenchModel" "textWord" "J", .fieldLink RX9 69 "RecordBenchModel" "recWord" "J", .code yX9_number cX9_number 5 (some .int)] : List Cond) ++ wsX90)
theorem gs_wq_X9_make_wsX90 : GoodIn wq_X9_make wsX90 := fun w h => ⟨List.mem_cons_of_mem _ (List.mem_append_right _ h), (gt_wsX90 w h).2⟩
set_option maxRecDepth 20000 in
theorem gq_X9_make_X9_next_150 : GoodIn wq_X9_make (wsV RX9 150 RX9 yX9_next wq_X9_next) := goodIn_app (goodIn_r _ [12, 13, 14, 15] rfl rfl) (goodIn_ca (goodIn_r _ [19, 2, 4, 20, 21] rfl rfl) gs_wq_X9_make_wsX90)
set_option maxRecDepth 20000 in
theorem gq_X9_make_X9_field_233 : GoodIn wq_X9_make (wsV RX9 233 RX9 yX9_field wq_X9_field) := goodIn_app (goodIn_r _ [16, 17, 18, 15] rfl rfl) (goodIn_ca (goodIn_r _ [22, 8, 21, 5, 9, 2, 23, 7, 24, 25, 26, 27, 28, 29, 30, 15, 31, 32, 33, 34, 35, 36, 37, 38, 39, 40, 41, 42, 43, 44, 45, 46, 47, 48, 49, 50, 51, 12, 13, 14, 52, 53, 4, 20, 54, 55, 56, 57, 6, 58, 59, 60, 1, 61, 62, 63, 64, 65, 66, 67, 68, 69, 70, 71, 72, 73, 74, 19, 75, 76, 77, 78, 79, 80, 81, 82, 83, 84, 85, 86, 87, 88, 89, 90, 91, 92, 93, 94, 95, 96, 97, 98, 99, 100, 101, 102, 103, 104] rfl rfl) gs_wq_X9_make_wsX90)
set_option maxHeartbeats 4000000 in
set_option maxRecDepth 100000 in
theorem c_X9_make (l : Launch) (dC : Nat → ClassId) (dI : Nat → Nat → Nat) (h0 : Nat) (ar : Nat → Nat) (ca : Nat → ClassId) (p0 : Int32) (st st' : RS) (r : Int32) (hf : x9_make p0 st = some (r, st')) (sz : Nat) : Met l yX9_make wq_X9_make ({ frames := 5, cells := 0, slots := 0, locals := 135 }) (va_Pc [.ref h0, .int p0] (Pr (dC, dI) (rT ca) [] (RW h0 ar ca st) sz)) (va_Qi (fun r' (_ : Unit) => r' = r) (Bq (dC, dI) (fun _ => RW h0 ar ca st') (fun _ => []) (va_A (RW h0 ar ca st) sz)) (va_A (RW h0 ar ca st) sz)) 0 0 (va_A (RW h0 ar ca st) sz) := by
  refine Met.ofW (cc := cX9_make) (maxL := 3) (ret := (some .int)) (by decide) rfl ?_
  intro p e s m args below meth c s₁ B hml hv
  obtain ⟨rfl, hsz, hP, hK, hD0, hN, hZ, hR⟩ := hv
  have hx := B.exec
  have hb := B.bytes
  have hr := B.returns
  have hts := atoms_spec (ws := wq_X9_make) B.pre
  have hown : s.vm.findClass RX9 = some m.cls := findClass_of_methodNamed B.named
  have iRX9 : ∀ w ∈ u_ws RX9 TX9 60, w ∈ wq_X9_make := fun w h => List.mem_cons_of_mem _ (List.mem_append_right _ h)
  subst hsz
  have hp : Rp (dC, dI) h0 ar ca (va_A (RW h0 ar ca st) s.heap.size) s.heap st s.heap [] := ⟨hP, hD0.self, va_S.rf⟩
  generalize hAe : va_A (RW h0 ar ca st) s.heap.size = A at hp hZ ⊢
  have hA : ∀ q : Nat, s.heap.size ≤ q → A q := fun q h => by rw [← hAe]; exact Or.inr h
  have hl := lv_entry ([.ref h0, .int p0]) (n := 3) (Nat.le_of_ble_eq_true rfl)
  rw [lg_entry_eq]
  generalize (lg_sl ([.ref h0, .int p0]) ++ List.replicate (3 - (lg_sl ([.ref h0, .int p0])).length) Slot.unset).toArray = ls at hl ⊢
  have hl : lv_has ls 3 [(0, .ref h0), (1, .int p0)] := hl
  refine W_blk (fun (u : Int32 × RS) H locs ls => match u with | (l1, st) => x9_make_109 l1 st = some (r, st') ∧ Rp (dC, dI) h0 ar ca A s.heap st H locs ∧ lv_has ls 3 [(0, .ref h0), (1, .int l1)]) (fun (u : Int32 × RS) ls => match u with | (l1, st) => F0 m 109 ls []) ?_ (fun J109 => ?_)
  · intro u H locs ls hu
    obtain ⟨l1, st⟩ := u
    obtain ⟨hf, hp, hl⟩ := hu
    show W p l e _ s m _ below meth c _ _ _ _ _ (F0 m 109 ls [])
    unfold x9_make_109 at hf
    refine lv_aload_n hx hb dX9_make_109 rfl (lv_at hl 0 rfl) ?_
    refine lv_aload_n hx hb dX9_make_110 rfl (lv_at hl 0 rfl) ?_
    refine r_gi hx hb hts iRX9 hown hK hp 13 (by decide) rfl (hts (.fieldLink RX9 135 "RecordBenchModel" "bad" "I") (by decide +kernel)) dX9_make_111 ?_
    refine r_pi (v := gI st 13) (ty := .int) hx hb hts iRX9 hown hK hp 15 (by decide) rfl (hts (.fieldLink RX9 236 "RecordBenchModel" "fault" "I") (by decide +kernel)) rfl (by decide +kernel) rfl rfl dX9_make_114 (fun H locs hp => ?_)
    obtain ⟨st_1, est_1, hf⟩ := nam_some hf
    rw [← est_1] at hp
    refine lv_aload_n hx hb dX9_make_117 rfl (lv_at hl 0 rfl) ?_
    refine lv_aload_n hx hb dX9_make_118 rfl (lv_at hl 0 rfl) ?_
    refine r_gi hx hb hts iRX9 hown hK hp 14 (by decide) rfl (hts (.fieldLink RX9 138 "RecordBenchModel" "badPlace" "I") (by decide +kernel)) dX9_make_119 ?_
    refine r_pi (v := gI st_1 14) (ty := .int) hx hb hts iRX9 hown hK hp 16 (by decide) rfl (hts (.fieldLink RX9 42 "RecordBenchModel" "faultPlace" "I") (by decide +kernel)) rfl (by decide +kernel) rfl rfl dX9_make_122 (fun H locs hp => ?_)
    obtain ⟨st_2, est_2, hf⟩ := nam_some hf
    rw [← est_2] at hp
    refine lv_aload_n hx hb dX9_make_125 rfl (lv_at hl 0 rfl) ?_
    refine r_gi hx hb hts iRX9 hown hK hp 13 (by decide) rfl (hts (.fieldLink RX9 135 "RecordBenchModel" "bad" "I") (by decide +kernel)) dX9_make_126 ?_
    refine lv_if_eq (tgt := 134) hx hb dX9_make_129 (by decide) (fun c_3 => ?_) (fun c_3 => ?_)
    · have hf := pif_t c_3 hf
      refine lv_aload_n hx hb dX9_make_134 rfl (lv_at hl 0 rfl) ?_
      refine r_ga hx hb hts iRX9 hown hK hp 0 (by decide) (by decide) (hts (.fieldLink RX9 7 "RecordBenchModel" "told" "[Z") (by decide +kernel)) dX9_make_135 ?_
      refine lv_iload_n hx hb dX9_make_138 rfl (lv_at hl 1 rfl) ?_
      refine lv_iconst (v := 1) hx hb dX9_make_139 (by decide) ?_
      obtain ⟨g_4, hf⟩ := gd_some hf
      refine r_sz (n := 8) hx hb hK hp 0 0 rfl rfl rfl g_4 dX9_make_140 (fun H locs hp => ?_)
      obtain ⟨st_5, est_5, hf⟩ := nam_some hf
      rw [← est_5] at hp
      refine lv_aload_n hx hb dX9_make_141 rfl (lv_at hl 0 rfl) ?_
      refine r_gi hx hb hts iRX9 hown hK hp 27 (by decide) rfl (hts (.fieldLink RX9 177 "RecordBenchModel" "fields" "I") (by decide +kernel)) dX9_make_142 ?_
      obtain ⟨e1, e2⟩ := pr_some hf
      exact W.iret (v := gI st_5 27) hx hb hr (fun t ht hW => ⟨⟨gI st_5 27, (), rfl, e1, Rp.end e2 hp hK ht hW⟩, hp.2.2.F ht⟩) hp.2.2.2.2 dX9_make_145
    · have hf := pif_f c_3 hf
      refine lv_iconst (v := (-1)) hx hb dX9_make_132 (by decide) ?_
      obtain ⟨e1, e2⟩ := pr_some hf
      exact W.iret (v := (-1)) hx hb hr (fun t ht hW => ⟨⟨(-1), (), rfl, e1, Rp.end e2 hp hK ht hW⟩, hp.2.2.F ht⟩) hp.2.2.2.2 dX9_make_133
  refine W_lp (fun n86 (u : Int32 × RS) H locs ls => match u with | (l1, st) => x9_make_86 n86 l1 st = some (r, st') ∧ Rp (dC, dI) h0 ar ca A s.heap st H locs ∧ lv_has ls 3 [(0, .ref h0), (1, .int l1)]) (fun (u : Int32 × RS) ls => match u with | (l1, st) => F0 m 86 ls []) ?_ ?_ (fun J86 => ?_)
  · intro u H locs ls hu
    obtain ⟨l1, st⟩ := u
    obtain ⟨hf, hp, hl⟩ := hu
    rw [x9_make_86_z] at hf
    cases hf
  · intro n86 ih86 u H locs ls hu
    obtain ⟨l1, st⟩ := u
    obtain ⟨hf, hp, hl⟩ := hu
    show W p l e _ s m _ below meth c _ _ _ _ _ (F0 m 86 ls [])
    rw [x9_make_86_s] at hf
    refine lv_aload_n hx hb dX9_make_86 rfl (lv_at hl 0 rfl) ?_
    refine r_gi hx hb hts iRX9 hown hK hp 13 (by decide) rfl (hts (.fieldLink RX9 135 "RecordBenchModel" "bad" "I") (by decide +kernel)) dX9_make_87 ?_
    refine lv_if_ne (tgt := 109) hx hb dX9_make_90 (by decide) (fun c_6 => ?_) (fun c_6 => ?_)
    · have hf := pif_f c_6 hf
      exact J109 (l1, st) _ _ _ ⟨hf, hp, (lv_sub hl [0, 1] rfl)⟩
    · have hf := pif_t c_6 hf
      refine lv_aload_n hx hb dX9_make_93 rfl (lv_at hl 0 rfl) ?_
      obtain ⟨r_9, st_7, hc_8, hf⟩ := bnd_some hf
      refine r_ci hp hA (va_runV (As := []) (rest := []) ⟨hx, hb, hml, hown, hts⟩ (c_X9_next l dC dI h0 ar ca  _ _ _ hc_8 _) (cwV 0 hts gq_X9_make_X9_next_150 rfl rfl rfl (by decide +kernel) ⟨Nat.le_of_ble_eq_true rfl, Nat.le_of_ble_eq_true rfl⟩) ⟨Pr.blind _, va_recv hK hp.1 (ci := 11) (q0 := 0) rfl rfl, r_pre hp hK hN hZ hA⟩ rfl rfl hl.1 rfl (lv_room (Nat.le_of_ble_eq_true rfl)) dX9_make_94 ⟨Nat.le_of_ble_eq_true rfl, Nat.le_of_ble_eq_true rfl⟩) (fun H locs hp => ?_)
      refine lv_iconst (v := (-1)) hx hb dX9_make_97 (by decide) ?_
      refine lv_icmp_eq (tgt := 109) hx hb dX9_make_98 (by decide) (fun c_10 => ?_) (fun c_10 => ?_)
      · have hf := pif_t c_10 hf
        exact J109 (l1, st_7) _ _ _ ⟨hf, hp, (lv_sub hl [0, 1] rfl)⟩
      · have hf := pif_f c_10 hf
        refine lv_aload_n hx hb dX9_make_101 rfl (lv_at hl 0 rfl) ?_
        refine lv_iload_n hx hb dX9_make_102 rfl (lv_at hl 1 rfl) ?_
        obtain ⟨st_11, hc_12, hf⟩ := bnv_some hf
        refine r_cv hp hA (va_runV (As := [.int l1]) (rest := []) ⟨hx, hb, hml, hown, hts⟩ (c_X9_field l dC dI h0 ar ca l1 _ _ hc_12 _) (cwV 1 hts gq_X9_make_X9_field_233 rfl rfl rfl (by decide +kernel) ⟨Nat.le_of_ble_eq_true rfl, Nat.le_of_ble_eq_true rfl⟩) ⟨Pr.blind _, va_recv hK hp.1 (ci := 11) (q0 := 0) rfl rfl, r_pre hp hK hN hZ hA⟩ rfl rfl hl.1 rfl (lv_room (Nat.le_of_ble_eq_true rfl)) dX9_make_103 ⟨Nat.le_of_ble_eq_true rfl, Nat.le_of_ble_eq_true rfl⟩) (fun H locs hp => ?_)
        refine lv_goto (tgt := 86) hx hb dX9_make_106 (by decide) ?_
        exact ih86 (l1, st_11) _ _ _ ⟨hf, hp, (lv_sub hl [0, 1] rfl)⟩
  refine W_lp (fun n62 (u : Int32 × Int32 × RS) H locs ls => match u with | (l1, l2, st) => x9_make_62 n62 l1 l2 st = some (r, st') ∧ Rp (dC, dI) h0 ar ca A s.heap st H locs ∧ lv_has ls 3 [(0, .ref h0), (1, .int l1), (2, .int l2)]) (fun (u : Int32 × Int32 × RS) ls => match u with | (l1, l2, st) => F0 m 62 ls []) ?_ ?_ (fun J62 => ?_)
  · intro u H locs ls hu
    obtain ⟨l1, l2, st⟩ := u
    obtain ⟨hf, hp, hl⟩ := hu
    rw [x9_make_62_z] at hf
    cases hf
  · intro n62 ih62 u H locs ls hu
    obtain ⟨l1, l2, st⟩ := u
    obtain ⟨hf, hp, hl⟩ := hu
    show W p l e _ s m _ below meth c _ _ _ _ _ (F0 m 62 ls [])
    rw [x9_make_62_s] at hf
    refine lv_iload_n hx hb dX9_make_62 rfl (lv_at hl 2 rfl) ?_
    refine lv_bipush (v := 31) hx hb dX9_make_63 (by decide) ?_
    refine lv_icmp_ge (tgt := 86) hx hb dX9_make_65 (by decide) (fun c_14 => ?_) (fun c_14 => ?_)
    · have hf := pif_t c_14 hf
      exact J86 fuel (l1, st) _ _ _ ⟨hf, hp, (lv_sub hl [0, 1] rfl)⟩
    · have hf := pif_f c_14 hf
      refine lv_aload_n hx hb dX9_make_68 rfl (lv_at hl 0 rfl) ?_
      refine r_ga hx hb hts iRX9 hown hK hp 8 (by decide) (by decide) (hts (.fieldLink RX9 36 "RecordBenchModel" "isThere" "[Z") (by decide +kernel)) dX9_make_69 ?_
      refine lv_bipush (v := 31) hx hb dX9_make_72 (by decide) ?_
      refine lv_iload_n hx hb dX9_make_74 rfl (lv_at hl 1 rfl) ?_
      refine lv_imul hx hb dX9_make_75 ?_
      refine lv_iload_n hx hb dX9_make_76 rfl (lv_at hl 2 rfl) ?_
      refine lv_iadd hx hb dX9_make_77 ?_
      refine lv_iconst (v := 0) hx hb dX9_make_78 (by decide) ?_
      obtain ⟨g_15, hf⟩ := gd_some hf
      refine r_sz (n := 248) hx hb hK hp 8 8 rfl rfl rfl g_15 dX9_make_79 (fun H locs hp => ?_)
      obtain ⟨st_16, est_16, hf⟩ := nam_some hf
      rw [← est_16] at hp
      obtain ⟨v_17, ev_17, hf⟩ := nam_some hf
      refine lv_iinc (v := v_17) (lv' := [(2, .int v_17), (0, .ref h0), (1, .int l1)]) hx hb dX9_make_80 hl (k := 2) rfl ev_17.symm (by decide) rfl (fun ls hl => ?_)
      refine lv_goto (tgt := 62) hx hb dX9_make_83 (by decide) ?_
      exact ih62 (l1, v_17, st_16) _ _ _ ⟨hf, hp, (lv_sub hl [1, 2, 0] rfl)⟩
  unfold x9_make at hf
  refine lv_iload_n hx hb dX9_make_0 rfl (lv_at hl 1 rfl) ?_
  refine lv_if_lt (tgt := 19) hx hb dX9_make_1 (by decide) (fun c_18 => ?_) (fun c_18 => ?_)
  · have hf := pif_t c_18 hf
    refine lv_bipush (v := (-2)) hx hb dX9_make_19 (by decide) ?_
    obtain ⟨e1, e2⟩ := pr_some hf
    exact W.iret (v := (-2)) hx hb hr (fun t ht hW => ⟨⟨(-2), (), rfl, e1, Rp.end e2 hp hK ht hW⟩, hp.2.2.F ht⟩) hp.2.2.2.2 dX9_make_21
  · have hf := pif_f c_18 hf
    refine lv_iload_n hx hb dX9_make_4 rfl (lv_at hl 1 rfl) ?_
    refine lv_bipush (v := 8) hx hb dX9_make_5 (by decide) ?_
    refine lv_icmp_ge (tgt := 19) hx hb dX9_make_7 (by decide) (fun c_19 => ?_) (fun c_19 => ?_)
    · have hf := pif_t c_19 hf
      refine lv_bipush (v := (-2)) hx hb dX9_make_19 (by decide) ?_
      obtain ⟨e1, e2⟩ := pr_some hf
      exact W.iret (v := (-2)) hx hb hr (fun t ht hW => ⟨⟨(-2), (), rfl, e1, Rp.end e2 hp hK ht hW⟩, hp.2.2.F ht⟩) hp.2.2.2.2 dX9_make_21
    · have hf := pif_f c_19 hf
      refine lv_aload_n hx hb dX9_make_10 rfl (lv_at hl 0 rfl) ?_
      refine r_ga hx hb hts iRX9 hown hK hp 0 (by decide) (by decide) (hts (.fieldLink RX9 7 "RecordBenchModel" "told" "[Z") (by decide +kernel)) dX9_make_11 ?_
      refine lv_iload_n hx hb dX9_make_14 rfl (lv_at hl 1 rfl) ?_
      obtain ⟨g_20, hf⟩ := gd_some hf
      refine r_az (n := 8) hx hb hK hp 0 0 rfl rfl rfl g_20 dX9_make_15 ?_
      refine lv_if_eq (tgt := 22) hx hb dX9_make_16 (by decide) (fun c_21 => ?_) (fun c_21 => ?_)
      · have hf := pif_t c_21 hf
        refine lv_aload_n hx hb dX9_make_22 rfl (lv_at hl 0 rfl) ?_
        refine lv_iconst (v := 0) hx hb dX9_make_23 (by decide) ?_
        refine r_pi (v := 0) (ty := .int) hx hb hts iRX9 hown hK hp 11 (by decide) rfl (hts (.fieldLink RX9 141 "RecordBenchModel" "at" "I") (by decide +kernel)) rfl (by decide +kernel) rfl rfl dX9_make_24 (fun H locs hp => ?_)
        obtain ⟨st_22, est_22, hf⟩ := nam_some hf
        rw [← est_22] at hp
        refine lv_aload_n hx hb dX9_make_27 rfl (lv_at hl 0 rfl) ?_
        refine lv_aload_n hx hb dX9_make_28 rfl (lv_at hl 0 rfl) ?_
        refine r_gi hx hb hts iRX9 hown hK hp 10 (by decide) rfl (hts (.fieldLink RX9 132 "RecordBenchModel" "taped" "I") (by decide +kernel)) dX9_make_29 ?_
        refine r_pi (v := gI st_22 10) (ty := .int) hx hb hts iRX9 hown hK hp 12 (by decide) rfl (hts (.fieldLink RX9 144 "RecordBenchModel" "size" "I") (by decide +kernel)) rfl (by decide +kernel) rfl rfl dX9_make_32 (fun H locs hp => ?_)
        obtain ⟨st_23, est_23, hf⟩ := nam_some hf
        rw [← est_23] at hp
        refine lv_aload_n hx hb dX9_make_35 rfl (lv_at hl 0 rfl) ?_
        refine lv_iconst (v := 0) hx hb dX9_make_36 (by decide) ?_
        refine r_pi (v := 0) (ty := .int) hx hb hts iRX9 hown hK hp 10 (by decide) rfl (hts (.fieldLink RX9 132 "RecordBenchModel" "taped" "I") (by decide +kernel)) rfl (by decide +kernel) rfl rfl dX9_make_37 (fun H locs hp => ?_)
        obtain ⟨st_24, est_24, hf⟩ := nam_some hf
        rw [← est_24] at hp
        refine lv_aload_n hx hb dX9_make_40 rfl (lv_at hl 0 rfl) ?_
        refine lv_iconst (v := 0) hx hb dX9_make_41 (by decide) ?_
        refine r_pi (v := 0) (ty := .int) hx hb hts iRX9 hown hK hp 13 (by decide) rfl (hts (.fieldLink RX9 135 "RecordBenchModel" "bad" "I") (by decide +kernel)) rfl (by decide +kernel) rfl rfl dX9_make_42 (fun H locs hp => ?_)
        obtain ⟨st_25, est_25, hf⟩ := nam_some hf
        rw [← est_25] at hp
        refine lv_aload_n hx hb dX9_make_45 rfl (lv_at hl 0 rfl) ?_
        refine lv_iconst (v := (-1)) hx hb dX9_make_46 (by decide) ?_
        refine r_pi (v := (-1)) (ty := .int) hx hb hts iRX9 hown hK hp 14 (by decide) rfl (hts (.fieldLink RX9 138 "RecordBenchModel" "badPlace" "I") (by decide +kernel)) rfl (by decide +kernel) rfl rfl dX9_make_47 (fun H locs hp => ?_)
        obtain ⟨st_26, est_26, hf⟩ := nam_some hf
        rw [← est_26] at hp
        refine lv_aload_n hx hb dX9_make_50 rfl (lv_at hl 0 rfl) ?_
        refine lv_iconst (v := (-1)) hx hb dX9_make_51 (by decide) ?_
        refine r_pi (v := (-1)) (ty := .int) hx hb hts iRX9 hown hK hp 18 (by decide) rfl (hts (.fieldLink RX9 162 "RecordBenchModel" "ended" "I") (by decide +kernel)) rfl (by decide +kernel) rfl rfl dX9_make_52 (fun H locs hp => ?_)
        obtain ⟨st_27, est_27, hf⟩ := nam_some hf
        rw [← est_27] at hp
        refine lv_aload_n hx hb dX9_make_55 rfl (lv_at hl 0 rfl) ?_
        refine lv_iconst (v := 0) hx hb dX9_make_56 (by decide) ?_
        refine r_pi (v := 0) (ty := .int) hx hb hts iRX9 hown hK hp 27 (by decide) rfl (hts (.fieldLink RX9 177 "RecordBenchModel" "fields" "I") (by decide +kernel)) rfl (by decide +kernel) rfl rfl dX9_make_57 (fun H locs hp => ?_)
        obtain ⟨st_28, est_28, hf⟩ := nam_some hf
        rw [← est_28] at hp
        refine lv_iconst (v := 0) hx hb dX9_make_60 (by decide) ?_
        refine lv_istore_n (lv' := [(2, .int 0), (0, .ref h0), (1, .int p0)]) hx hb dX9_make_61 rfl hl (by decide) rfl (fun ls hl => ?_)
        exact J62 fuel (p0, 0, st_28) _ _ _ ⟨hf, hp, (lv_sub hl [1, 2, 0] rfl)⟩
      · have hf := pif_f c_21 hf
        refine lv_bipush (v := (-2)) hx hb dX9_make_19 (by decide) ?_
        obtain ⟨e1, e2⟩ := pr_some hf
        exact W.iret (v := (-2)) hx hb hr (fun t ht hW => ⟨⟨(-2), (), rfl, e1, Rp.end e2 hp hK ht hW⟩, hp.2.2.F ht⟩) hp.2.2.2.2 dX9_make_21
