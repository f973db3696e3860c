theorem dL_law_136 : decode cL_law 136 = .ok (.aload_n 1, 1) := by decide +kernel
theorem dL_law_137 : decode cL_law 137 = .ok (.aload_n 0, 1) := by decide +kernel
theorem dL_law_138 : decode cL_law 138 = .ok (.iload_n 3, 1) := by decide +kernel
theorem dL_law_139 : decode cL_law 139 = .ok (.iconst 1, 1) := by decide +kernel
theorem dL_law_140 : decode cL_law 140 = .ok (.iadd, 1) := by decide +kernel
theorem dL_law_141 : decode cL_law 141 = .ok (.iaload, 1) := by decide +kernel
theorem dL_law_142 : decode cL_law 142 = .ok (.aload_n 0, 1) := by decide +kernel
theorem dL_law_143 : decode cL_law 143 = .ok (.iload_n 3, 1) := by decide +kernel
theorem dL_law_144 : decode cL_law 144 = .ok (.iconst 2, 1) := by decide +kernel
theorem dL_law_145 : decode cL_law 145 = .ok (.iadd, 1) := by decide +kernel
theorem dL_law_146 : decode cL_law 146 = .ok (.iaload, 1) := by decide +kernel
theorem dL_law_147 : decode cL_law 147 = .ok (.aload_n 0, 1) := by decide +kernel
theorem dL_law_148 : decode cL_law 148 = .ok (.iload_n 3, 1) := by decide +kernel
theorem dL_law_149 : decode cL_law 149 = .ok (.iconst 3, 1) := by decide +kernel
theorem dL_law_150 : decode cL_law 150 = .ok (.iadd, 1) := by decide +kernel
theorem dL_law_151 : decode cL_law 151 = .ok (.iaload, 1) := by decide +kernel
theorem dL_law_152 : decode cL_law 152 = .ok (.aload_n 0, 1) := by decide +kernel
theorem dL_law_153 : decode cL_law 153 = .ok (.iload_n 3, 1) := by decide +kernel
theorem dL_law_154 : decode cL_law 154 = .ok (.iconst 4, 1) := by decide +kernel
theorem dL_law_155 : decode cL_law 155 = .ok (.iadd, 1) := by decide +kernel
theorem dL_law_156 : decode cL_law 156 = .ok (.iaload, 1) := by decide +kernel
theorem dL_law_157 : decode cL_law 157 = .ok (.aload_n 0, 1) := by decide +kernel
theorem dL_law_158 : decode cL_law 158 = .ok (.iload_n 3, 1) := by decide +kernel
theorem dL_law_159 : decode cL_law 159 = .ok (.iconst 5, 1) := by decide +kernel
theorem dL_law_160 : decode cL_law 160 = .ok (.iadd, 1) := by decide +kernel
theorem dL_law_161 : decode cL_law 161 = .ok (.iaload, 1) := by decide +kernel
theorem dL_law_162 : decode cL_law 162 = .ok (.invokevirtual 13, 3) := by decide +kernel
theorem dL_law_165 : decode cL_law 165 = .ok (.aload_n 2, 1) := by decide +kernel
theorem dL_law_166 : decode cL_law 166 = .ok (.aload_n 0, 1) := by decide +kernel
theorem dL_law_167 : decode cL_law 167 = .ok (.iload_n 3, 1) := by decide +kernel
theorem dL_law_168 : decode cL_law 168 = .ok (.iconst 1, 1) := by decide +kernel
theorem dL_law_169 : decode cL_law 169 = .ok (.iadd, 1) := by decide +kernel
theorem dL_law_170 : decode cL_law 170 = .ok (.iaload, 1) := by decide +kernel
theorem dL_law_171 : decode cL_law 171 = .ok (.aload_n 0, 1) := by decide +kernel
theorem dL_law_172 : decode cL_law 172 = .ok (.iload_n 3, 1) := by decide +kernel
theorem dL_law_173 : decode cL_law 173 = .ok (.iconst 2, 1) := by decide +kernel
theorem dL_law_174 : decode cL_law 174 = .ok (.iadd, 1) := by decide +kernel
theorem dL_law_175 : decode cL_law 175 = .ok (.iaload, 1) := by decide +kernel
theorem dL_law_176 : decode cL_law 176 = .ok (.aload_n 0, 1) := by decide +kernel
theorem dL_law_177 : decode cL_law 177 = .ok (.iload_n 3, 1) := by decide +kernel
theorem dL_law_178 : decode cL_law 178 = .ok (.iconst 3, 1) := by decide +kernel
theorem dL_law_179 : decode cL_law 179 = .ok (.iadd, 1) := by decide +kernel
theorem dL_law_18 : decode cL_law 18 = .ok (.iload_n 3, 1) := by decide +kernel
theorem dL_law_180 : decode cL_law 180 = .ok (.iaload, 1) := by decide +kernel
theorem dL_law_181 : decode cL_law 181 = .ok (.aload_n 0, 1) := by decide +kernel
theorem dL_law_182 : decode cL_law 182 = .ok (.iload_n 3, 1) := by decide +kernel
theorem dL_law_183 : decode cL_law 183 = .ok (.iconst 4, 1) := by decide +kernel
theorem dL_law_184 : decode cL_law 184 = .ok (.iadd, 1) := by decide +kernel
theorem dL_law_185 : decode cL_law 185 = .ok (.iaload, 1) := by decide +kernel
theorem dL_law_186 : decode cL_law 186 = .ok (.aload_n 0, 1) := by decide +kernel
theorem dL_law_187 : decode cL_law 187 = .ok (.iload_n 3, 1) := by decide +kernel
theorem dL_law_188 : decode cL_law 188 = .ok (.iconst 5, 1) := by decide +kernel
theorem dL_law_189 : decode cL_law 189 = .ok (.iadd, 1) := by decide +kernel
theorem dL_law_19 : decode cL_law 19 = .ok (.aload_n 0, 1) := by decide +kernel
theorem dL_law_190 : decode cL_law 190 = .ok (.iaload, 1) := by decide +kernel
theorem dL_law_191 : decode cL_law 191 = .ok (.invokevirtual 17, 3) := by decide +kernel
theorem dL_law_194 : decode cL_law 194 = .ok (.if_icmp .eq 780, 3) := by decide +kernel
theorem dL_law_199 : decode cL_law 199 = .ok (.aload_n 1, 1) := by decide +kernel
theorem dL_law_20 : decode cL_law 20 = .ok (.arraylength, 1) := by decide +kernel
theorem dL_law_200 : decode cL_law 200 = .ok (.aload_n 0, 1) := by decide +kernel
theorem dL_law_201 : decode cL_law 201 = .ok (.iload_n 3, 1) := by decide +kernel
theorem dL_law_202 : decode cL_law 202 = .ok (.iconst 1, 1) := by decide +kernel
theorem dL_law_203 : decode cL_law 203 = .ok (.iadd, 1) := by decide +kernel
theorem dL_law_204 : decode cL_law 204 = .ok (.iaload, 1) := by decide +kernel
theorem dL_law_205 : decode cL_law 205 = .ok (.invokevirtual 18, 3) := by decide +kernel
theorem dL_law_208 : decode cL_law 208 = .ok (.aload_n 2, 1) := by decide +kernel
theorem dL_law_209 : decode cL_law 209 = .ok (.aload_n 0, 1) := by decide +kernel
theorem dL_law_21 : decode cL_law 21 = .ok (.bipush 6, 2) := by decide +kernel
theorem dL_law_210 : decode cL_law 210 = .ok (.iload_n 3, 1) := by decide +kernel
theorem dL_law_211 : decode cL_law 211 = .ok (.iconst 1, 1) := by decide +kernel
theorem dL_law_212 : decode cL_law 212 = .ok (.iadd, 1) := by decide +kernel
theorem dL_law_213 : decode cL_law 213 = .ok (.iaload, 1) := by decide +kernel
theorem dL_law_214 : decode cL_law 214 = .ok (.invokevirtual 22, 3) := by decide +kernel
theorem dL_law_217 : decode cL_law 217 = .ok (.if_icmp .eq 757, 3) := by decide +kernel
theorem dL_law_222 : decode cL_law 222 = .ok (.aload_n 1, 1) := by decide +kernel
theorem dL_law_223 : decode cL_law 223 = .ok (.aload_n 0, 1) := by decide +kernel
theorem dL_law_224 : decode cL_law 224 = .ok (.iload_n 3, 1) := by decide +kernel
theorem dL_law_225 : decode cL_law 225 = .ok (.iconst 1, 1) := by decide +kernel
theorem dL_law_226 : decode cL_law 226 = .ok (.iadd, 1) := by decide +kernel
theorem dL_law_227 : decode cL_law 227 = .ok (.iaload, 1) := by decide +kernel
theorem dL_law_228 : decode cL_law 228 = .ok (.invokevirtual 23, 3) := by decide +kernel
theorem dL_law_23 : decode cL_law 23 = .ok (.isub, 1) := by decide +kernel
theorem dL_law_231 : decode cL_law 231 = .ok (.aload_n 2, 1) := by decide +kernel
theorem dL_law_232 : decode cL_law 232 = .ok (.aload_n 0, 1) := by decide +kernel
theorem dL_law_233 : decode cL_law 233 = .ok (.iload_n 3, 1) := by decide +kernel
theorem dL_law_234 : decode cL_law 234 = .ok (.iconst 1, 1) := by decide +kernel
theorem dL_law_235 : decode cL_law 235 = .ok (.iadd, 1) := by decide +kernel
theorem dL_law_236 : decode cL_law 236 = .ok (.iaload, 1) := by decide +kernel
theorem dL_law_237 : decode cL_law 237 = .ok (.invokevirtual 27, 3) := by decide +kernel
theorem dL_law_24 : decode cL_law 24 = .ok (.if_icmp .gt 956, 3) := by decide +kernel
theorem dL_law_240 : decode cL_law 240 = .ok (.if_icmp .eq 734, 3) := by decide +kernel
theorem dL_law_245 : decode cL_law 245 = .ok (.aload_n 1, 1) := by decide +kernel
theorem dL_law_246 : decode cL_law 246 = .ok (.aload_n 0, 1) := by decide +kernel
theorem dL_law_247 : decode cL_law 247 = .ok (.iload_n 3, 1) := by decide +kernel
theorem dL_law_248 : decode cL_law 248 = .ok (.iconst 1, 1) := by decide +kernel
theorem dL_law_249 : decode cL_law 249 = .ok (.iadd, 1) := by decide +kernel
theorem dL_law_250 : decode cL_law 250 = .ok (.iaload, 1) := by decide +kernel
theorem dL_law_251 : decode cL_law 251 = .ok (.invokevirtual 28, 3) := by decide +kernel
theorem dL_law_254 : decode cL_law 254 = .ok (.aload_n 2, 1) := by decide +kernel
theorem dL_law_255 : decode cL_law 255 = .ok (.aload_n 0, 1) := by decide +kernel
theorem dL_law_256 : decode cL_law 256 = .ok (.iload_n 3, 1) := by decide +kernel
theorem dL_law_257 : decode cL_law 257 = .ok (.iconst 1, 1) := by decide +kernel
theorem dL_law_258 : decode cL_law 258 = .ok (.iadd, 1) := by decide +kernel
theorem dL_law_259 : decode cL_law 259 = .ok (.iaload, 1) := by decide +kernel
theorem dL_law_260 : decode cL_law 260 = .ok (.invokevirtual 31, 3) := by decide +kernel
theorem dL_law_263 : decode cL_law 263 = .ok (.if_icmp .eq 711, 3) := by decide +kernel
theorem dL_law_268 : decode cL_law 268 = .ok (.aload_n 1, 1) := by decide +kernel
theorem dL_law_269 : decode cL_law 269 = .ok (.aload_n 0, 1) := by decide +kernel
theorem dL_law_270 : decode cL_law 270 = .ok (.iload_n 3, 1) := by decide +kernel
theorem dL_law_271 : decode cL_law 271 = .ok (.iconst 1, 1) := by decide +kernel
theorem dL_law_272 : decode cL_law 272 = .ok (.iadd, 1) := by decide +kernel
theorem dL_law_273 : decode cL_law 273 = .ok (.iaload, 1) := by decide +kernel
theorem dL_law_274 : decode cL_law 274 = .ok (.aload_n 0, 1) := by decide +kernel
theorem dL_law_275 : decode cL_law 275 = .ok (.iload_n 3, 1) := by decide +kernel
theorem dL_law_276 : decode cL_law 276 = .ok (.iconst 2, 1) := by decide +kernel
theorem dL_law_277 : decode cL_law 277 = .ok (.iadd, 1) := by decide +kernel
theorem dL_law_278 : decode cL_law 278 = .ok (.iaload, 1) := by decide +kernel
theorem dL_law_279 : decode cL_law 279 = .ok (.aload_n 0, 1) := by decide +kernel
theorem dL_law_280 : decode cL_law 280 = .ok (.iload_n 3, 1) := by decide +kernel
theorem dL_law_281 : decode cL_law 281 = .ok (.iconst 3, 1) := by decide +kernel
theorem dL_law_282 : decode cL_law 282 = .ok (.iadd, 1) := by decide +kernel
theorem dL_law_283 : decode cL_law 283 = .ok (.iaload, 1) := by decide +kernel
theorem dL_law_284 : decode cL_law 284 = .ok (.invokevirtual 32, 3) := by decide +kernel
theorem dL_law_287 : decode cL_law 287 = .ok (.aload_n 2, 1) := by decide +kernel
theorem dL_law_288 : decode cL_law 288 = .ok (.aload_n 0, 1) := by decide +kernel
theorem dL_law_289 : decode cL_law 289 = .ok (.iload_n 3, 1) := by decide +kernel
theorem dL_law_290 : decode cL_law 290 = .ok (.iconst 1, 1) := by decide +kernel
theorem dL_law_291 : decode cL_law 291 = .ok (.iadd, 1) := by decide +kernel
theorem dL_law_292 : decode cL_law 292 = .ok (.iaload, 1) := by decide +kernel
theorem dL_law_293 : decode cL_law 293 = .ok (.aload_n 0, 1) := by decide +kernel
theorem dL_law_294 : decode cL_law 294 = .ok (.iload_n 3, 1) := by decide +kernel
theorem dL_law_295 : decode cL_law 295 = .ok (.iconst 2, 1) := by decide +kernel
theorem dL_law_296 : decode cL_law 296 = .ok (.iadd, 1) := by decide +kernel
theorem dL_law_297 : decode cL_law 297 = .ok (.iaload, 1) := by decide +kernel
theorem dL_law_298 : decode cL_law 298 = .ok (.aload_n 0, 1) := by decide +kernel
theorem dL_law_299 : decode cL_law 299 = .ok (.iload_n 3, 1) := by decide +kernel
theorem dL_law_300 : decode cL_law 300 = .ok (.iconst 3, 1) := by decide +kernel
theorem dL_law_301 : decode cL_law 301 = .ok (.iadd, 1) := by decide +kernel
theorem dL_law_302 : decode cL_law 302 = .ok (.iaload, 1) := by decide +kernel
theorem dL_law_303 : decode cL_law 303 = .ok (.invokevirtual 36, 3) := by decide +kernel
theorem dL_law_306 : decode cL_law 306 = .ok (.if_icmp .eq 668, 3) := by decide +kernel
theorem dL_law_311 : decode cL_law 311 = .ok (.aload_n 1, 1) := by decide +kernel
theorem dL_law_312 : decode cL_law 312 = .ok (.aload_n 0, 1) := by decide +kernel
theorem dL_law_313 : decode cL_law 313 = .ok (.iload_n 3, 1) := by decide +kernel
theorem dL_law_314 : decode cL_law 314 = .ok (.iconst 1, 1) := by decide +kernel
theorem dL_law_315 : decode cL_law 315 = .ok (.iadd, 1) := by decide +kernel
theorem dL_law_316 : decode cL_law 316 = .ok (.iaload, 1) := by decide +kernel
theorem dL_law_317 : decode cL_law 317 = .ok (.aload_n 0, 1) := by decide +kernel
theorem dL_law_318 : decode cL_law 318 = .ok (.iload_n 3, 1) := by decide +kernel
theorem dL_law_319 : decode cL_law 319 = .ok (.iconst 2, 1) := by decide +kernel
theorem dL_law_320 : decode cL_law 320 = .ok (.iadd, 1) := by decide +kernel
theorem dL_law_321 : decode cL_law 321 = .ok (.iaload, 1) := by decide +kernel
theorem dL_law_322 : decode cL_law 322 = .ok (.invokevirtual 37, 3) := by decide +kernel
theorem dL_law_325 : decode cL_law 325 = .ok (.aload_n 2, 1) := by decide +kernel
theorem dL_law_326 : decode cL_law 326 = .ok (.aload_n 0, 1) := by decide +kernel
theorem dL_law_327 : decode cL_law 327 = .ok (.iload_n 3, 1) := by decide +kernel
theorem dL_law_328 : decode cL_law 328 = .ok (.iconst 1, 1) := by decide +kernel
theorem dL_law_329 : decode cL_law 329 = .ok (.iadd, 1) := by decide +kernel
theorem dL_law_330 : decode cL_law 330 = .ok (.iaload, 1) := by decide +kernel
theorem dL_law_331 : decode cL_law 331 = .ok (.aload_n 0, 1) := by decide +kernel
theorem dL_law_332 : decode cL_law 332 = .ok (.iload_n 3, 1) := by decide +kernel
theorem dL_law_333 : decode cL_law 333 = .ok (.iconst 2, 1) := by decide +kernel
theorem dL_law_334 : decode cL_law 334 = .ok (.iadd, 1) := by decide +kernel
theorem dL_law_335 : decode cL_law 335 = .ok (.iaload, 1) := by decide +kernel
theorem dL_law_336 : decode cL_law 336 = .ok (.invokevirtual 41, 3) := by decide +kernel
theorem dL_law_339 : decode cL_law 339 = .ok (.lcmp, 1) := by decide +kernel
theorem dL_law_340 : decode cL_law 340 = .ok (.ifCond .eq 634, 3) := by decide +kernel
theorem dL_law_345 : decode cL_law 345 = .ok (.aload_n 1, 1) := by decide +kernel
theorem dL_law_346 : decode cL_law 346 = .ok (.aload_n 0, 1) := by decide +kernel
theorem dL_law_347 : decode cL_law 347 = .ok (.iload_n 3, 1) := by decide +kernel
theorem dL_law_348 : decode cL_law 348 = .ok (.iconst 1, 1) := by decide +kernel
theorem dL_law_349 : decode cL_law 349 = .ok (.iadd, 1) := by decide +kernel
theorem dL_law_350 : decode cL_law 350 = .ok (.iaload, 1) := by decide +kernel
theorem dL_law_351 : decode cL_law 351 = .ok (.invokevirtual 42, 3) := by decide +kernel
theorem dL_law_354 : decode cL_law 354 = .ok (.aload_n 2, 1) := by decide +kernel
theorem dL_law_355 : decode cL_law 355 = .ok (.aload_n 0, 1) := by decide +kernel
theorem dL_law_356 : decode cL_law 356 = .ok (.iload_n 3, 1) := by decide +kernel
theorem dL_law_357 : decode cL_law 357 = .ok (.iconst 1, 1) := by decide +kernel
theorem dL_law_358 : decode cL_law 358 = .ok (.iadd, 1) := by decide +kernel
theorem dL_law_359 : decode cL_law 359 = .ok (.iaload, 1) := by decide +kernel
theorem dL_law_360 : decode cL_law 360 = .ok (.invokevirtual 45, 3) := by decide +kernel
theorem dL_law_363 : decode cL_law 363 = .ok (.if_icmp .eq 611, 3) := by decide +kernel
theorem dL_law_368 : decode cL_law 368 = .ok (.aload_n 1, 1) := by decide +kernel
theorem dL_law_369 : decode cL_law 369 = .ok (.aload_n 0, 1) := by decide +kernel
theorem dL_law_370 : decode cL_law 370 = .ok (.iload_n 3, 1) := by decide +kernel
theorem dL_law_371 : decode cL_law 371 = .ok (.iconst 1, 1) := by decide +kernel
theorem dL_law_372 : decode cL_law 372 = .ok (.iadd, 1) := by decide +kernel
theorem dL_law_373 : decode cL_law 373 = .ok (.iaload, 1) := by decide +kernel
theorem dL_law_374 : decode cL_law 374 = .ok (.invokevirtual 46, 3) := by decide +kernel
theorem dL_law_377 : decode cL_law 377 = .ok (.aload_n 2, 1) := by decide +kernel
theorem dL_law_378 : decode cL_law 378 = .ok (.aload_n 0, 1) := by decide +kernel
theorem dL_law_379 : decode cL_law 379 = .ok (.iload_n 3, 1) := by decide +kernel
theorem dL_law_380 : decode cL_law 380 = .ok (.iconst 1, 1) := by decide +kernel
theorem dL_law_381 : decode cL_law 381 = .ok (.iadd, 1) := by decide +kernel
theorem dL_law_382 : decode cL_law 382 = .ok (.iaload, 1) := by decide +kernel
theorem dL_law_383 : decode cL_law 383 = .ok (.invokevirtual 49, 3) := by decide +kernel
theorem dL_law_386 : decode cL_law 386 = .ok (.if_icmp .eq 588, 3) := by decide +kernel
theorem dL_law_391 : decode cL_law 391 = .ok (.aload_n 1, 1) := by decide +kernel
theorem dL_law_392 : decode cL_law 392 = .ok (.aload_n 0, 1) := by decide +kernel
theorem dL_law_393 : decode cL_law 393 = .ok (.iload_n 3, 1) := by decide +kernel
theorem dL_law_394 : decode cL_law 394 = .ok (.iconst 1, 1) := by decide +kernel
theorem dL_law_395 : decode cL_law 395 = .ok (.iadd, 1) := by decide +kernel
theorem dL_law_396 : decode cL_law 396 = .ok (.iaload, 1) := by decide +kernel
theorem dL_law_397 : decode cL_law 397 = .ok (.aload_n 0, 1) := by decide +kernel
theorem dL_law_398 : decode cL_law 398 = .ok (.iload_n 3, 1) := by decide +kernel
theorem dL_law_399 : decode cL_law 399 = .ok (.iconst 2, 1) := by decide +kernel
theorem dL_law_400 : decode cL_law 400 = .ok (.iadd, 1) := by decide +kernel
theorem dL_law_401 : decode cL_law 401 = .ok (.iaload, 1) := by decide +kernel
theorem dL_law_402 : decode cL_law 402 = .ok (.aload_n 0, 1) := by decide +kernel
theorem dL_law_403 : decode cL_law 403 = .ok (.iload_n 3, 1) := by decide +kernel
theorem dL_law_404 : decode cL_law 404 = .ok (.iconst 3, 1) := by decide +kernel
theorem dL_law_405 : decode cL_law 405 = .ok (.iadd, 1) := by decide +kernel
theorem dL_law_406 : decode cL_law 406 = .ok (.iaload, 1) := by decide +kernel
theorem dL_law_407 : decode cL_law 407 = .ok (.aload_n 0, 1) := by decide +kernel
theorem dL_law_408 : decode cL_law 408 = .ok (.iload_n 3, 1) := by decide +kernel
theorem dL_law_409 : decode cL_law 409 = .ok (.iconst 4, 1) := by decide +kernel
theorem dL_law_410 : decode cL_law 410 = .ok (.iadd, 1) := by decide +kernel
theorem dL_law_411 : decode cL_law 411 = .ok (.iaload, 1) := by decide +kernel
theorem dL_law_412 : decode cL_law 412 = .ok (.i2l, 1) := by decide +kernel
theorem dL_law_413 : decode cL_law 413 = .ok (.bipush 32, 2) := by decide +kernel
theorem dL_law_415 : decode cL_law 415 = .ok (.lshl, 1) := by decide +kernel
theorem dL_law_416 : decode cL_law 416 = .ok (.aload_n 0, 1) := by decide +kernel
theorem dL_law_417 : decode cL_law 417 = .ok (.iload_n 3, 1) := by decide +kernel
theorem dL_law_418 : decode cL_law 418 = .ok (.iconst 5, 1) := by decide +kernel
theorem dL_law_419 : decode cL_law 419 = .ok (.iadd, 1) := by decide +kernel
theorem dL_law_420 : decode cL_law 420 = .ok (.iaload, 1) := by decide +kernel
theorem dL_law_421 : decode cL_law 421 = .ok (.i2l, 1) := by decide +kernel
theorem dL_law_422 : decode cL_law 422 = .ok (.ldc2_w 50, 3) := by decide +kernel
theorem dL_law_425 : decode cL_law 425 = .ok (.land, 1) := by decide +kernel
theorem dL_law_426 : decode cL_law 426 = .ok (.lor, 1) := by decide +kernel
theorem dL_law_427 : decode cL_law 427 = .ok (.invokevirtual 52, 3) := by decide +kernel
theorem dL_law_430 : decode cL_law 430 = .ok (.aload_n 2, 1) := by decide +kernel
theorem dL_law_431 : decode cL_law 431 = .ok (.aload_n 0, 1) := by decide +kernel
theorem dL_law_432 : decode cL_law 432 = .ok (.iload_n 3, 1) := by decide +kernel
theorem dL_law_433 : decode cL_law 433 = .ok (.iconst 1, 1) := by decide +kernel
theorem dL_law_434 : decode cL_law 434 = .ok (.iadd, 1) := by decide +kernel
theorem dL_law_435 : decode cL_law 435 = .ok (.iaload, 1) := by decide +kernel
theorem dL_law_436 : decode cL_law 436 = .ok (.aload_n 0, 1) := by decide +kernel
theorem dL_law_437 : decode cL_law 437 = .ok (.iload_n 3, 1) := by decide +kernel
theorem dL_law_438 : decode cL_law 438 = .ok (.iconst 2, 1) := by decide +kernel
theorem dL_law_439 : decode cL_law 439 = .ok (.iadd, 1) := by decide +kernel
theorem dL_law_440 : decode cL_law 440 = .ok (.iaload, 1) := by decide +kernel
theorem dL_law_441 : decode cL_law 441 = .ok (.aload_n 0, 1) := by decide +kernel
theorem dL_law_442 : decode cL_law 442 = .ok (.iload_n 3, 1) := by decide +kernel
theorem dL_law_443 : decode cL_law 443 = .ok (.iconst 3, 1) := by decide +kernel
theorem dL_law_444 : decode cL_law 444 = .ok (.iadd, 1) := by decide +kernel
theorem dL_law_445 : decode cL_law 445 = .ok (.iaload, 1) := by decide +kernel
theorem dL_law_446 : decode cL_law 446 = .ok (.aload_n 0, 1) := by decide +kernel
theorem dL_law_447 : decode cL_law 447 = .ok (.iload_n 3, 1) := by decide +kernel
theorem dL_law_448 : decode cL_law 448 = .ok (.iconst 4, 1) := by decide +kernel
theorem dL_law_449 : decode cL_law 449 = .ok (.iadd, 1) := by decide +kernel
theorem dL_law_450 : decode cL_law 450 = .ok (.iaload, 1) := by decide +kernel
theorem dL_law_451 : decode cL_law 451 = .ok (.i2l, 1) := by decide +kernel
theorem dL_law_452 : decode cL_law 452 = .ok (.bipush 32, 2) := by decide +kernel
theorem dL_law_454 : decode cL_law 454 = .ok (.lshl, 1) := by decide +kernel
theorem dL_law_455 : decode cL_law 455 = .ok (.aload_n 0, 1) := by decide +kernel
theorem dL_law_456 : decode cL_law 456 = .ok (.iload_n 3, 1) := by decide +kernel
theorem dL_law_457 : decode cL_law 457 = .ok (.iconst 5, 1) := by decide +kernel
theorem dL_law_458 : decode cL_law 458 = .ok (.iadd, 1) := by decide +kernel
theorem dL_law_459 : decode cL_law 459 = .ok (.iaload, 1) := by decide +kernel
theorem dL_law_460 : decode cL_law 460 = .ok (.i2l, 1) := by decide +kernel
theorem dL_law_461 : decode cL_law 461 = .ok (.ldc2_w 50, 3) := by decide +kernel
theorem dL_law_464 : decode cL_law 464 = .ok (.land, 1) := by decide +kernel
theorem dL_law_465 : decode cL_law 465 = .ok (.lor, 1) := by decide +kernel
theorem dL_law_466 : decode cL_law 466 = .ok (.invokevirtual 56, 3) := by decide +kernel
theorem dL_law_469 : decode cL_law 469 = .ok (.if_icmp .eq 505, 3) := by decide +kernel
theorem dL_law_474 : decode cL_law 474 = .ok (.aload_n 1, 1) := by decide +kernel
theorem dL_law_475 : decode cL_law 475 = .ok (.aload_n 0, 1) := by decide +kernel
theorem dL_law_476 : decode cL_law 476 = .ok (.iload_n 3, 1) := by decide +kernel
theorem dL_law_477 : decode cL_law 477 = .ok (.iconst 1, 1) := by decide +kernel
theorem dL_law_478 : decode cL_law 478 = .ok (.iadd, 1) := by decide +kernel
theorem dL_law_479 : decode cL_law 479 = .ok (.iaload, 1) := by decide +kernel
theorem dL_law_480 : decode cL_law 480 = .ok (.aload_n 0, 1) := by decide +kernel
theorem dL_law_481 : decode cL_law 481 = .ok (.iload_n 3, 1) := by decide +kernel
theorem dL_law_482 : decode cL_law 482 = .ok (.iconst 2, 1) := by decide +kernel
theorem dL_law_483 : decode cL_law 483 = .ok (.iadd, 1) := by decide +kernel
theorem dL_law_484 : decode cL_law 484 = .ok (.iaload, 1) := by decide +kernel
theorem dL_law_485 : decode cL_law 485 = .ok (.aload_n 0, 1) := by decide +kernel
theorem dL_law_486 : decode cL_law 486 = .ok (.iload_n 3, 1) := by decide +kernel
theorem dL_law_487 : decode cL_law 487 = .ok (.iconst 3, 1) := by decide +kernel
theorem dL_law_488 : decode cL_law 488 = .ok (.iadd, 1) := by decide +kernel
theorem dL_law_489 : decode cL_law 489 = .ok (.iaload, 1) := by decide +kernel
theorem dL_law_490 : decode cL_law 490 = .ok (.invokevirtual 57, 3) := by decide +kernel
theorem dL_law_493 : decode cL_law 493 = .ok (.aload_n 2, 1) := by decide +kernel
theorem dL_law_494 : decode cL_law 494 = .ok (.aload_n 0, 1) := by decide +kernel
theorem dL_law_495 : decode cL_law 495 = .ok (.iload_n 3, 1) := by decide +kernel
theorem dL_law_496 : decode cL_law 496 = .ok (.iconst 1, 1) := by decide +kernel
theorem dL_law_497 : decode cL_law 497 = .ok (.iadd, 1) := by decide +kernel
theorem dL_law_498 : decode cL_law 498 = .ok (.iaload, 1) := by decide +kernel
theorem dL_law_499 : decode cL_law 499 = .ok (.aload_n 0, 1) := by decide +kernel
theorem dL_law_500 : decode cL_law 500 = .ok (.iload_n 3, 1) := by decide +kernel
theorem dL_law_501 : decode cL_law 501 = .ok (.iconst 2, 1) := by decide +kernel
theorem dL_law_502 : decode cL_law 502 = .ok (.iadd, 1) := by decide +kernel
theorem dL_law_503 : decode cL_law 503 = .ok (.iaload, 1) := by decide +kernel
theorem dL_law_504 : decode cL_law 504 = .ok (.aload_n 0, 1) := by decide +kernel
theorem dL_law_505 : decode cL_law 505 = .ok (.iload_n 3, 1) := by decide +kernel
theorem dL_law_506 : decode cL_law 506 = .ok (.iconst 3, 1) := by decide +kernel
theorem dL_law_507 : decode cL_law 507 = .ok (.iadd, 1) := by decide +kernel
theorem dL_law_508 : decode cL_law 508 = .ok (.iaload, 1) := by decide +kernel
theorem dL_law_509 : decode cL_law 509 = .ok (.invokevirtual 60, 3) := by decide +kernel
theorem dL_law_512 : decode cL_law 512 = .ok (.if_icmp .eq 462, 3) := by decide +kernel
theorem dL_law_517 : decode cL_law 517 = .ok (.aload_n 1, 1) := by decide +kernel
theorem dL_law_518 : decode cL_law 518 = .ok (.aload_n 0, 1) := by decide +kernel
theorem dL_law_519 : decode cL_law 519 = .ok (.iload_n 3, 1) := by decide +kernel
theorem dL_law_520 : decode cL_law 520 = .ok (.iconst 1, 1) := by decide +kernel
theorem dL_law_521 : decode cL_law 521 = .ok (.iadd, 1) := by decide +kernel
theorem dL_law_522 : decode cL_law 522 = .ok (.iaload, 1) := by decide +kernel
theorem dL_law_523 : decode cL_law 523 = .ok (.aload_n 0, 1) := by decide +kernel
theorem dL_law_524 : decode cL_law 524 = .ok (.iload_n 3, 1) := by decide +kernel
theorem dL_law_525 : decode cL_law 525 = .ok (.iconst 2, 1) := by decide +kernel
theorem dL_law_526 : decode cL_law 526 = .ok (.iadd, 1) := by decide +kernel
theorem dL_law_527 : decode cL_law 527 = .ok (.iaload, 1) := by decide +kernel
theorem dL_law_528 : decode cL_law 528 = .ok (.aload_n 0, 1) := by decide +kernel
theorem dL_law_529 : decode cL_law 529 = .ok (.iload_n 3, 1) := by decide +kernel
theorem dL_law_530 : decode cL_law 530 = .ok (.iconst 3, 1) := by decide +kernel
theorem dL_law_531 : decode cL_law 531 = .ok (.iadd, 1) := by decide +kernel
theorem dL_law_532 : decode cL_law 532 = .ok (.iaload, 1) := by decide +kernel
theorem dL_law_533 : decode cL_law 533 = .ok (.aload_n 0, 1) := by decide +kernel
theorem dL_law_534 : decode cL_law 534 = .ok (.iload_n 3, 1) := by decide +kernel
theorem dL_law_535 : decode cL_law 535 = .ok (.iconst 4, 1) := by decide +kernel
theorem dL_law_536 : decode cL_law 536 = .ok (.iadd, 1) := by decide +kernel
theorem dL_law_537 : decode cL_law 537 = .ok (.iaload, 1) := by decide +kernel
theorem dL_law_538 : decode cL_law 538 = .ok (.invokevirtual 61, 3) := by decide +kernel
theorem dL_law_541 : decode cL_law 541 = .ok (.aload_n 2, 1) := by decide +kernel
theorem dL_law_542 : decode cL_law 542 = .ok (.aload_n 0, 1) := by decide +kernel
theorem dL_law_543 : decode cL_law 543 = .ok (.iload_n 3, 1) := by decide +kernel
theorem dL_law_544 : decode cL_law 544 = .ok (.iconst 1, 1) := by decide +kernel
theorem dL_law_545 : decode cL_law 545 = .ok (.iadd, 1) := by decide +kernel
theorem dL_law_546 : decode cL_law 546 = .ok (.iaload, 1) := by decide +kernel
theorem dL_law_547 : decode cL_law 547 = .ok (.aload_n 0, 1) := by decide +kernel
theorem dL_law_548 : decode cL_law 548 = .ok (.iload_n 3, 1) := by decide +kernel
theorem dL_law_549 : decode cL_law 549 = .ok (.iconst 2, 1) := by decide +kernel
theorem dL_law_550 : decode cL_law 550 = .ok (.iadd, 1) := by decide +kernel
theorem dL_law_551 : decode cL_law 551 = .ok (.iaload, 1) := by decide +kernel
theorem dL_law_552 : decode cL_law 552 = .ok (.aload_n 0, 1) := by decide +kernel
theorem dL_law_553 : decode cL_law 553 = .ok (.iload_n 3, 1) := by decide +kernel
theorem dL_law_554 : decode cL_law 554 = .ok (.iconst 3, 1) := by decide +kernel
theorem dL_law_555 : decode cL_law 555 = .ok (.iadd, 1) := by decide +kernel
theorem dL_law_556 : decode cL_law 556 = .ok (.iaload, 1) := by decide +kernel
theorem dL_law_557 : decode cL_law 557 = .ok (.aload_n 0, 1) := by decide +kernel
theorem dL_law_558 : decode cL_law 558 = .ok (.iload_n 3, 1) := by decide +kernel
theorem dL_law_559 : decode cL_law 559 = .ok (.iconst 4, 1) := by decide +kernel
theorem dL_law_560 : decode cL_law 560 = .ok (.iadd, 1) := by decide +kernel
theorem dL_law_561 : decode cL_law 561 = .ok (.iaload, 1) := by decide +kernel
theorem dL_law_562 : decode cL_law 562 = .ok (.invokevirtual 65, 3) := by decide +kernel
theorem dL_law_565 : decode cL_law 565 = .ok (.if_icmp .eq 409, 3) := by decide +kernel
theorem dL_law_570 : decode cL_law 570 = .ok (.aload_n 1, 1) := by decide +kernel
theorem dL_law_571 : decode cL_law 571 = .ok (.aload_n 0, 1) := by decide +kernel
theorem dL_law_572 : decode cL_law 572 = .ok (.iload_n 3, 1) := by decide +kernel
theorem dL_law_573 : decode cL_law 573 = .ok (.iconst 1, 1) := by decide +kernel
theorem dL_law_574 : decode cL_law 574 = .ok (.iadd, 1) := by decide +kernel
theorem dL_law_575 : decode cL_law 575 = .ok (.iaload, 1) := by decide +kernel
theorem dL_law_576 : decode cL_law 576 = .ok (.aload_n 0, 1) := by decide +kernel
theorem dL_law_577 : decode cL_law 577 = .ok (.iload_n 3, 1) := by decide +kernel
theorem dL_law_578 : decode cL_law 578 = .ok (.iconst 2, 1) := by decide +kernel
theorem dL_law_579 : decode cL_law 579 = .ok (.iadd, 1) := by decide +kernel
theorem dL_law_580 : decode cL_law 580 = .ok (.iaload, 1) := by decide +kernel
theorem dL_law_581 : decode cL_law 581 = .ok (.aload_n 0, 1) := by decide +kernel
theorem dL_law_582 : decode cL_law 582 = .ok (.iload_n 3, 1) := by decide +kernel
theorem dL_law_583 : decode cL_law 583 = .ok (.iconst 3, 1) := by decide +kernel
theorem dL_law_584 : decode cL_law 584 = .ok (.iadd, 1) := by decide +kernel
theorem dL_law_585 : decode cL_law 585 = .ok (.iaload, 1) := by decide +kernel
theorem dL_law_586 : decode cL_law 586 = .ok (.invokevirtual 66, 3) := by decide +kernel
theorem dL_law_589 : decode cL_law 589 = .ok (.aload_n 2, 1) := by decide +kernel
theorem dL_law_590 : decode cL_law 590 = .ok (.aload_n 0, 1) := by decide +kernel
theorem dL_law_591 : decode cL_law 591 = .ok (.iload_n 3, 1) := by decide +kernel
theorem dL_law_592 : decode cL_law 592 = .ok (.iconst 1, 1) := by decide +kernel
theorem dL_law_593 : decode cL_law 593 = .ok (.iadd, 1) := by decide +kernel
theorem dL_law_594 : decode cL_law 594 = .ok (.iaload, 1) := by decide +kernel
theorem dL_law_595 : decode cL_law 595 = .ok (.aload_n 0, 1) := by decide +kernel
theorem dL_law_596 : decode cL_law 596 = .ok (.iload_n 3, 1) := by decide +kernel
theorem dL_law_597 : decode cL_law 597 = .ok (.iconst 2, 1) := by decide +kernel
theorem dL_law_598 : decode cL_law 598 = .ok (.iadd, 1) := by decide +kernel
theorem dL_law_599 : decode cL_law 599 = .ok (.iaload, 1) := by decide +kernel
theorem dL_law_600 : decode cL_law 600 = .ok (.aload_n 0, 1) := by decide +kernel
theorem dL_law_601 : decode cL_law 601 = .ok (.iload_n 3, 1) := by decide +kernel
theorem dL_law_602 : decode cL_law 602 = .ok (.iconst 3, 1) := by decide +kernel
theorem dL_law_603 : decode cL_law 603 = .ok (.iadd, 1) := by decide +kernel
theorem dL_law_604 : decode cL_law 604 = .ok (.iaload, 1) := by decide +kernel
theorem dL_law_605 : decode cL_law 605 = .ok (.invokevirtual 69, 3) := by decide +kernel
theorem dL_law_608 : decode cL_law 608 = .ok (.if_icmp .eq 366, 3) := by decide +kernel
theorem dL_law_613 : decode cL_law 613 = .ok (.aload_n 1, 1) := by decide +kernel
theorem dL_law_614 : decode cL_law 614 = .ok (.aload_n 0, 1) := by decide +kernel
theorem dL_law_615 : decode cL_law 615 = .ok (.iload_n 3, 1) := by decide +kernel
theorem dL_law_616 : decode cL_law 616 = .ok (.iconst 1, 1) := by decide +kernel
theorem dL_law_617 : decode cL_law 617 = .ok (.iadd, 1) := by decide +kernel
theorem dL_law_618 : decode cL_law 618 = .ok (.iaload, 1) := by decide +kernel
theorem dL_law_619 : decode cL_law 619 = .ok (.aload_n 0, 1) := by decide +kernel
theorem dL_law_620 : decode cL_law 620 = .ok (.iload_n 3, 1) := by decide +kernel
theorem dL_law_621 : decode cL_law 621 = .ok (.iconst 2, 1) := by decide +kernel
theorem dL_law_622 : decode cL_law 622 = .ok (.iadd, 1) := by decide +kernel
theorem dL_law_623 : decode cL_law 623 = .ok (.iaload, 1) := by decide +kernel
theorem dL_law_624 : decode cL_law 624 = .ok (.invokevirtual 70, 3) := by decide +kernel
theorem dL_law_627 : decode cL_law 627 = .ok (.aload_n 2, 1) := by decide +kernel
theorem dL_law_628 : decode cL_law 628 = .ok (.aload_n 0, 1) := by decide +kernel
theorem dL_law_629 : decode cL_law 629 = .ok (.iload_n 3, 1) := by decide +kernel
theorem dL_law_630 : decode cL_law 630 = .ok (.iconst 1, 1) := by decide +kernel
theorem dL_law_631 : decode cL_law 631 = .ok (.iadd, 1) := by decide +kernel
theorem dL_law_632 : decode cL_law 632 = .ok (.iaload, 1) := by decide +kernel
theorem dL_law_633 : decode cL_law 633 = .ok (.aload_n 0, 1) := by decide +kernel
theorem dL_law_634 : decode cL_law 634 = .ok (.iload_n 3, 1) := by decide +kernel
theorem dL_law_635 : decode cL_law 635 = .ok (.iconst 2, 1) := by decide +kernel
theorem dL_law_636 : decode cL_law 636 = .ok (.iadd, 1) := by decide +kernel
theorem dL_law_637 : decode cL_law 637 = .ok (.iaload, 1) := by decide +kernel
theorem dL_law_638 : decode cL_law 638 = .ok (.invokevirtual 74, 3) := by decide +kernel
theorem dL_law_641 : decode cL_law 641 = .ok (.if_icmp .eq 333, 3) := by decide +kernel
theorem dL_law_646 : decode cL_law 646 = .ok (.aload_n 1, 1) := by decide +kernel
theorem dL_law_647 : decode cL_law 647 = .ok (.aload_n 0, 1) := by decide +kernel
theorem dL_law_648 : decode cL_law 648 = .ok (.iload_n 3, 1) := by decide +kernel
theorem dL_law_649 : decode cL_law 649 = .ok (.iconst 1, 1) := by decide +kernel
theorem dL_law_650 : decode cL_law 650 = .ok (.iadd, 1) := by decide +kernel
theorem dL_law_651 : decode cL_law 651 = .ok (.iaload, 1) := by decide +kernel
theorem dL_law_652 : decode cL_law 652 = .ok (.aload_n 0, 1) := by decide +kernel
theorem dL_law_653 : decode cL_law 653 = .ok (.iload_n 3, 1) := by decide +kernel
theorem dL_law_654 : decode cL_law 654 = .ok (.iconst 2, 1) := by decide +kernel
theorem dL_law_655 : decode cL_law 655 = .ok (.iadd, 1) := by decide +kernel
theorem dL_law_656 : decode cL_law 656 = .ok (.iaload, 1) := by decide +kernel
theorem dL_law_657 : decode cL_law 657 = .ok (.aload_n 0, 1) := by decide +kernel
theorem dL_law_658 : decode cL_law 658 = .ok (.iload_n 3, 1) := by decide +kernel
theorem dL_law_659 : decode cL_law 659 = .ok (.iconst 3, 1) := by decide +kernel
theorem dL_law_660 : decode cL_law 660 = .ok (.iadd, 1) := by decide +kernel
theorem dL_law_661 : decode cL_law 661 = .ok (.iaload, 1) := by decide +kernel
theorem dL_law_662 : decode cL_law 662 = .ok (.aload_n 0, 1) := by decide +kernel
theorem dL_law_663 : decode cL_law 663 = .ok (.iload_n 3, 1) := by decide +kernel
theorem dL_law_664 : decode cL_law 664 = .ok (.iconst 4, 1) := by decide +kernel
theorem dL_law_665 : decode cL_law 665 = .ok (.iadd, 1) := by decide +kernel
theorem dL_law_666 : decode cL_law 666 = .ok (.iaload, 1) := by decide +kernel
theorem dL_law_667 : decode cL_law 667 = .ok (.invokevirtual 75, 3) := by decide +kernel
theorem dL_law_670 : decode cL_law 670 = .ok (.aload_n 2, 1) := by decide +kernel
theorem dL_law_671 : decode cL_law 671 = .ok (.aload_n 0, 1) := by decide +kernel
theorem dL_law_672 : decode cL_law 672 = .ok (.iload_n 3, 1) := by decide +kernel
theorem dL_law_673 : decode cL_law 673 = .ok (.iconst 1, 1) := by decide +kernel
theorem dL_law_674 : decode cL_law 674 = .ok (.iadd, 1) := by decide +kernel
theorem dL_law_675 : decode cL_law 675 = .ok (.iaload, 1) := by decide +kernel
theorem dL_law_676 : decode cL_law 676 = .ok (.aload_n 0, 1) := by decide +kernel
theorem dL_law_677 : decode cL_law 677 = .ok (.iload_n 3, 1) := by decide +kernel
theorem dL_law_678 : decode cL_law 678 = .ok (.iconst 2, 1) := by decide +kernel
theorem dL_law_679 : decode cL_law 679 = .ok (.iadd, 1) := by decide +kernel
theorem dL_law_680 : decode cL_law 680 = .ok (.iaload, 1) := by decide +kernel
theorem dL_law_681 : decode cL_law 681 = .ok (.aload_n 0, 1) := by decide +kernel
theorem dL_law_682 : decode cL_law 682 = .ok (.iload_n 3, 1) := by decide +kernel
theorem dL_law_683 : decode cL_law 683 = .ok (.iconst 3, 1) := by decide +kernel
theorem dL_law_684 : decode cL_law 684 = .ok (.iadd, 1) := by decide +kernel
theorem dL_law_685 : decode cL_law 685 = .ok (.iaload, 1) := by decide +kernel
theorem dL_law_686 : decode cL_law 686 = .ok (.aload_n 0, 1) := by decide +kernel
theorem dL_law_687 : decode cL_law 687 = .ok (.iload_n 3, 1) := by decide +kernel
theorem dL_law_688 : decode cL_law 688 = .ok (.iconst 4, 1) := by decide +kernel
theorem dL_law_689 : decode cL_law 689 = .ok (.iadd, 1) := by decide +kernel
theorem dL_law_690 : decode cL_law 690 = .ok (.iaload, 1) := by decide +kernel
theorem dL_law_691 : decode cL_law 691 = .ok (.invokevirtual 79, 3) := by decide +kernel
theorem dL_law_694 : decode cL_law 694 = .ok (.lcmp, 1) := by decide +kernel
theorem dL_law_695 : decode cL_law 695 = .ok (.ifCond .eq 279, 3) := by decide +kernel
theorem dL_law_700 : decode cL_law 700 = .ok (.aload_n 1, 1) := by decide +kernel
theorem dL_law_701 : decode cL_law 701 = .ok (.aload_n 0, 1) := by decide +kernel
theorem dL_law_702 : decode cL_law 702 = .ok (.iload_n 3, 1) := by decide +kernel
theorem dL_law_703 : decode cL_law 703 = .ok (.iconst 1, 1) := by decide +kernel
theorem dL_law_704 : decode cL_law 704 = .ok (.iadd, 1) := by decide +kernel
theorem dL_law_705 : decode cL_law 705 = .ok (.iaload, 1) := by decide +kernel
theorem dL_law_706 : decode cL_law 706 = .ok (.aload_n 0, 1) := by decide +kernel
theorem dL_law_707 : decode cL_law 707 = .ok (.iload_n 3, 1) := by decide +kernel
theorem dL_law_708 : decode cL_law 708 = .ok (.iconst 2, 1) := by decide +kernel
theorem dL_law_709 : decode cL_law 709 = .ok (.iadd, 1) := by decide +kernel
theorem dL_law_710 : decode cL_law 710 = .ok (.iaload, 1) := by decide +kernel
theorem dL_law_711 : decode cL_law 711 = .ok (.invokevirtual 80, 3) := by decide +kernel
theorem dL_law_714 : decode cL_law 714 = .ok (.aload_n 2, 1) := by decide +kernel
theorem dL_law_715 : decode cL_law 715 = .ok (.aload_n 0, 1) := by decide +kernel
theorem dL_law_716 : decode cL_law 716 = .ok (.iload_n 3, 1) := by decide +kernel
theorem dL_law_717 : decode cL_law 717 = .ok (.iconst 1, 1) := by decide +kernel
theorem dL_law_718 : decode cL_law 718 = .ok (.iadd, 1) := by decide +kernel
theorem dL_law_719 : decode cL_law 719 = .ok (.iaload, 1) := by decide +kernel
theorem dL_law_720 : decode cL_law 720 = .ok (.aload_n 0, 1) := by decide +kernel
theorem dL_law_721 : decode cL_law 721 = .ok (.iload_n 3, 1) := by decide +kernel
theorem dL_law_722 : decode cL_law 722 = .ok (.iconst 2, 1) := by decide +kernel
theorem dL_law_723 : decode cL_law 723 = .ok (.iadd, 1) := by decide +kernel
theorem dL_law_724 : decode cL_law 724 = .ok (.iaload, 1) := by decide +kernel
theorem dL_law_725 : decode cL_law 725 = .ok (.invokevirtual 83, 3) := by decide +kernel
theorem dL_law_728 : decode cL_law 728 = .ok (.if_icmp .eq 246, 3) := by decide +kernel
theorem dL_law_733 : decode cL_law 733 = .ok (.aload_n 1, 1) := by decide +kernel
theorem dL_law_734 : decode cL_law 734 = .ok (.aload_n 0, 1) := by decide +kernel
theorem dL_law_735 : decode cL_law 735 = .ok (.iload_n 3, 1) := by decide +kernel
theorem dL_law_736 : decode cL_law 736 = .ok (.iconst 1, 1) := by decide +kernel
theorem dL_law_737 : decode cL_law 737 = .ok (.iadd, 1) := by decide +kernel
theorem dL_law_738 : decode cL_law 738 = .ok (.iaload, 1) := by decide +kernel
theorem dL_law_739 : decode cL_law 739 = .ok (.aload_n 0, 1) := by decide +kernel
theorem dL_law_740 : decode cL_law 740 = .ok (.iload_n 3, 1) := by decide +kernel
theorem dL_law_741 : decode cL_law 741 = .ok (.iconst 2, 1) := by decide +kernel
theorem dL_law_742 : decode cL_law 742 = .ok (.iadd, 1) := by decide +kernel
theorem dL_law_743 : decode cL_law 743 = .ok (.iaload, 1) := by decide +kernel
theorem dL_law_744 : decode cL_law 744 = .ok (.aload_n 0, 1) := by decide +kernel
theorem dL_law_745 : decode cL_law 745 = .ok (.iload_n 3, 1) := by decide +kernel
theorem dL_law_746 : decode cL_law 746 = .ok (.iconst 3, 1) := by decide +kernel
theorem dL_law_747 : decode cL_law 747 = .ok (.iadd, 1) := by decide +kernel
theorem dL_law_748 : decode cL_law 748 = .ok (.iaload, 1) := by decide +kernel
theorem dL_law_749 : decode cL_law 749 = .ok (.invokevirtual 84, 3) := by decide +kernel
theorem dL_law_752 : decode cL_law 752 = .ok (.aload_n 2, 1) := by decide +kernel
theorem dL_law_753 : decode cL_law 753 = .ok (.aload_n 0, 1) := by decide +kernel
theorem dL_law_754 : decode cL_law 754 = .ok (.iload_n 3, 1) := by decide +kernel
theorem dL_law_755 : decode cL_law 755 = .ok (.iconst 1, 1) := by decide +kernel
theorem dL_law_756 : decode cL_law 756 = .ok (.iadd, 1) := by decide +kernel
theorem dL_law_757 : decode cL_law 757 = .ok (.iaload, 1) := by decide +kernel
theorem dL_law_758 : decode cL_law 758 = .ok (.aload_n 0, 1) := by decide +kernel
theorem dL_law_759 : decode cL_law 759 = .ok (.iload_n 3, 1) := by decide +kernel
theorem dL_law_760 : decode cL_law 760 = .ok (.iconst 2, 1) := by decide +kernel
theorem dL_law_761 : decode cL_law 761 = .ok (.iadd, 1) := by decide +kernel
theorem dL_law_762 : decode cL_law 762 = .ok (.iaload, 1) := by decide +kernel
theorem dL_law_763 : decode cL_law 763 = .ok (.aload_n 0, 1) := by decide +kernel
theorem dL_law_764 : decode cL_law 764 = .ok (.iload_n 3, 1) := by decide +kernel
theorem dL_law_765 : decode cL_law 765 = .ok (.iconst 3, 1) := by decide +kernel
theorem dL_law_766 : decode cL_law 766 = .ok (.iadd, 1) := by decide +kernel
theorem dL_law_767 : decode cL_law 767 = .ok (.iaload, 1) := by decide +kernel
theorem dL_law_768 : decode cL_law 768 = .ok (.invokevirtual 87, 3) := by decide +kernel
theorem dL_law_771 : decode cL_law 771 = .ok (.if_icmp .eq 203, 3) := by decide +kernel
theorem dL_law_776 : decode cL_law 776 = .ok (.aload_n 1, 1) := by decide +kernel
theorem dL_law_777 : decode cL_law 777 = .ok (.aload_n 0, 1) := by decide +kernel
theorem dL_law_778 : decode cL_law 778 = .ok (.iload_n 3, 1) := by decide +kernel
theorem dL_law_779 : decode cL_law 779 = .ok (.iconst 1, 1) := by decide +kernel
theorem dL_law_780 : decode cL_law 780 = .ok (.iadd, 1) := by decide +kernel
theorem dL_law_781 : decode cL_law 781 = .ok (.iaload, 1) := by decide +kernel
theorem dL_law_782 : decode cL_law 782 = .ok (.aload_n 0, 1) := by decide +kernel
theorem dL_law_783 : decode cL_law 783 = .ok (.iload_n 3, 1) := by decide +kernel
theorem dL_law_784 : decode cL_law 784 = .ok (.iconst 2, 1) := by decide +kernel
theorem dL_law_785 : decode cL_law 785 = .ok (.iadd, 1) := by decide +kernel
theorem dL_law_786 : decode cL_law 786 = .ok (.iaload, 1) := by decide +kernel
theorem dL_law_787 : decode cL_law 787 = .ok (.invokevirtual 88, 3) := by decide +kernel
theorem dL_law_790 : decode cL_law 790 = .ok (.aload_n 2, 1) := by decide +kernel
theorem dL_law_791 : decode cL_law 791 = .ok (.aload_n 0, 1) := by decide +kernel
theorem dL_law_792 : decode cL_law 792 = .ok (.iload_n 3, 1) := by decide +kernel
theorem dL_law_793 : decode cL_law 793 = .ok (.iconst 1, 1) := by decide +kernel
theorem dL_law_794 : decode cL_law 794 = .ok (.iadd, 1) := by decide +kernel
theorem dL_law_795 : decode cL_law 795 = .ok (.iaload, 1) := by decide +kernel
theorem dL_law_796 : decode cL_law 796 = .ok (.aload_n 0, 1) := by decide +kernel
theorem dL_law_797 : decode cL_law 797 = .ok (.iload_n 3, 1) := by decide +kernel
theorem dL_law_798 : decode cL_law 798 = .ok (.iconst 2, 1) := by decide +kernel
theorem dL_law_799 : decode cL_law 799 = .ok (.iadd, 1) := by decide +kernel
theorem dL_law_800 : decode cL_law 800 = .ok (.iaload, 1) := by decide +kernel
theorem dL_law_801 : decode cL_law 801 = .ok (.invokevirtual 91, 3) := by decide +kernel
theorem dL_law_804 : decode cL_law 804 = .ok (.if_icmp .eq 170, 3) := by decide +kernel
theorem dL_law_809 : decode cL_law 809 = .ok (.aload_n 1, 1) := by decide +kernel
theorem dL_law_810 : decode cL_law 810 = .ok (.aload_n 0, 1) := by decide +kernel
theorem dL_law_811 : decode cL_law 811 = .ok (.iload_n 3, 1) := by decide +kernel
theorem dL_law_812 : decode cL_law 812 = .ok (.iconst 1, 1) := by decide +kernel
theorem dL_law_813 : decode cL_law 813 = .ok (.iadd, 1) := by decide +kernel
theorem dL_law_814 : decode cL_law 814 = .ok (.iaload, 1) := by decide +kernel
theorem dL_law_815 : decode cL_law 815 = .ok (.aload_n 0, 1) := by decide +kernel
theorem dL_law_816 : decode cL_law 816 = .ok (.iload_n 3, 1) := by decide +kernel
theorem dL_law_817 : decode cL_law 817 = .ok (.iconst 2, 1) := by decide +kernel
theorem dL_law_818 : decode cL_law 818 = .ok (.iadd, 1) := by decide +kernel
theorem dL_law_819 : decode cL_law 819 = .ok (.iaload, 1) := by decide +kernel
theorem dL_law_820 : decode cL_law 820 = .ok (.aload_n 0, 1) := by decide +kernel
theorem dL_law_821 : decode cL_law 821 = .ok (.iload_n 3, 1) := by decide +kernel
theorem dL_law_822 : decode cL_law 822 = .ok (.iconst 3, 1) := by decide +kernel
theorem dL_law_823 : decode cL_law 823 = .ok (.iadd, 1) := by decide +kernel
theorem dL_law_824 : decode cL_law 824 = .ok (.iaload, 1) := by decide +kernel
theorem dL_law_825 : decode cL_law 825 = .ok (.aload_n 0, 1) := by decide +kernel
theorem dL_law_826 : decode cL_law 826 = .ok (.iload_n 3, 1) := by decide +kernel
theorem dL_law_827 : decode cL_law 827 = .ok (.iconst 4, 1) := by decide +kernel
theorem dL_law_828 : decode cL_law 828 = .ok (.iadd, 1) := by decide +kernel
theorem dL_law_829 : decode cL_law 829 = .ok (.iaload, 1) := by decide +kernel
theorem dL_law_830 : decode cL_law 830 = .ok (.invokevirtual 92, 3) := by decide +kernel
theorem dL_law_833 : decode cL_law 833 = .ok (.aload_n 2, 1) := by decide +kernel
theorem dL_law_834 : decode cL_law 834 = .ok (.aload_n 0, 1) := by decide +kernel
theorem dL_law_835 : decode cL_law 835 = .ok (.iload_n 3, 1) := by decide +kernel
theorem dL_law_836 : decode cL_law 836 = .ok (.iconst 1, 1) := by decide +kernel
theorem dL_law_837 : decode cL_law 837 = .ok (.iadd, 1) := by decide +kernel
theorem dL_law_838 : decode cL_law 838 = .ok (.iaload, 1) := by decide +kernel
theorem dL_law_839 : decode cL_law 839 = .ok (.aload_n 0, 1) := by decide +kernel
theorem dL_law_840 : decode cL_law 840 = .ok (.iload_n 3, 1) := by decide +kernel
theorem dL_law_841 : decode cL_law 841 = .ok (.iconst 2, 1) := by decide +kernel
theorem dL_law_842 : decode cL_law 842 = .ok (.iadd, 1) := by decide +kernel
theorem dL_law_843 : decode cL_law 843 = .ok (.iaload, 1) := by decide +kernel
theorem dL_law_844 : decode cL_law 844 = .ok (.aload_n 0, 1) := by decide +kernel
theorem dL_law_845 : decode cL_law 845 = .ok (.iload_n 3, 1) := by decide +kernel
theorem dL_law_846 : decode cL_law 846 = .ok (.iconst 3, 1) := by decide +kernel
theorem dL_law_847 : decode cL_law 847 = .ok (.iadd, 1) := by decide +kernel
theorem dL_law_848 : decode cL_law 848 = .ok (.iaload, 1) := by decide +kernel
theorem dL_law_849 : decode cL_law 849 = .ok (.aload_n 0, 1) := by decide +kernel
theorem dL_law_850 : decode cL_law 850 = .ok (.iload_n 3, 1) := by decide +kernel
theorem dL_law_851 : decode cL_law 851 = .ok (.iconst 4, 1) := by decide +kernel
theorem dL_law_852 : decode cL_law 852 = .ok (.iadd, 1) := by decide +kernel
theorem dL_law_853 : decode cL_law 853 = .ok (.iaload, 1) := by decide +kernel
theorem dL_law_854 : decode cL_law 854 = .ok (.invokevirtual 95, 3) := by decide +kernel
theorem dL_law_857 : decode cL_law 857 = .ok (.if_icmp .eq 117, 3) := by decide +kernel
theorem dL_law_862 : decode cL_law 862 = .ok (.aload_n 1, 1) := by decide +kernel
theorem dL_law_863 : decode cL_law 863 = .ok (.aload_n 0, 1) := by decide +kernel
theorem dL_law_864 : decode cL_law 864 = .ok (.iload_n 3, 1) := by decide +kernel
theorem dL_law_865 : decode cL_law 865 = .ok (.iconst 1, 1) := by decide +kernel
theorem dL_law_866 : decode cL_law 866 = .ok (.iadd, 1) := by decide +kernel
theorem dL_law_867 : decode cL_law 867 = .ok (.iaload, 1) := by decide +kernel
theorem dL_law_868 : decode cL_law 868 = .ok (.aload_n 0, 1) := by decide +kernel
theorem dL_law_869 : decode cL_law 869 = .ok (.iload_n 3, 1) := by decide +kernel
theorem dL_law_870 : decode cL_law 870 = .ok (.iconst 2, 1) := by decide +kernel
theorem dL_law_871 : decode cL_law 871 = .ok (.iadd, 1) := by decide +kernel
theorem dL_law_872 : decode cL_law 872 = .ok (.iaload, 1) := by decide +kernel
theorem dL_law_873 : decode cL_law 873 = .ok (.invokevirtual 96, 3) := by decide +kernel
theorem dL_law_876 : decode cL_law 876 = .ok (.aload_n 2, 1) := by decide +kernel
theorem dL_law_877 : decode cL_law 877 = .ok (.aload_n 0, 1) := by decide +kernel
theorem dL_law_878 : decode cL_law 878 = .ok (.iload_n 3, 1) := by decide +kernel
theorem dL_law_879 : decode cL_law 879 = .ok (.iconst 1, 1) := by decide +kernel
theorem dL_law_880 : decode cL_law 880 = .ok (.iadd, 1) := by decide +kernel
theorem dL_law_881 : decode cL_law 881 = .ok (.iaload, 1) := by decide +kernel
theorem dL_law_882 : decode cL_law 882 = .ok (.aload_n 0, 1) := by decide +kernel
theorem dL_law_883 : decode cL_law 883 = .ok (.iload_n 3, 1) := by decide +kernel
theorem dL_law_884 : decode cL_law 884 = .ok (.iconst 2, 1) := by decide +kernel
theorem dL_law_885 : decode cL_law 885 = .ok (.iadd, 1) := by decide +kernel
theorem dL_law_886 : decode cL_law 886 = .ok (.iaload, 1) := by decide +kernel
theorem dL_law_887 : decode cL_law 887 = .ok (.invokevirtual 99, 3) := by decide +kernel
theorem dL_law_890 : decode cL_law 890 = .ok (.if_icmp .eq 84, 3) := by decide +kernel
theorem dL_law_895 : decode cL_law 895 = .ok (.aload_n 1, 1) := by decide +kernel
theorem dL_law_896 : decode cL_law 896 = .ok (.aload_n 0, 1) := by decide +kernel
theorem dL_law_897 : decode cL_law 897 = .ok (.iload_n 3, 1) := by decide +kernel
theorem dL_law_898 : decode cL_law 898 = .ok (.iconst 1, 1) := by decide +kernel
theorem dL_law_899 : decode cL_law 899 = .ok (.iadd, 1) := by decide +kernel
theorem dL_law_900 : decode cL_law 900 = .ok (.iaload, 1) := by decide +kernel
theorem dL_law_901 : decode cL_law 901 = .ok (.aload_n 0, 1) := by decide +kernel
theorem dL_law_902 : decode cL_law 902 = .ok (.iload_n 3, 1) := by decide +kernel
theorem dL_law_903 : decode cL_law 903 = .ok (.iconst 2, 1) := by decide +kernel
theorem dL_law_904 : decode cL_law 904 = .ok (.iadd, 1) := by decide +kernel
theorem dL_law_905 : decode cL_law 905 = .ok (.iaload, 1) := by decide +kernel
theorem dL_law_906 : decode cL_law 906 = .ok (.aload_n 0, 1) := by decide +kernel
theorem dL_law_907 : decode cL_law 907 = .ok (.iload_n 3, 1) := by decide +kernel
theorem dL_law_908 : decode cL_law 908 = .ok (.iconst 3, 1) := by decide +kernel
theorem dL_law_909 : decode cL_law 909 = .ok (.iadd, 1) := by decide +kernel
theorem dL_law_910 : decode cL_law 910 = .ok (.iaload, 1) := by decide +kernel
theorem dL_law_911 : decode cL_law 911 = .ok (.invokevirtual 100, 3) := by decide +kernel
theorem dL_law_914 : decode cL_law 914 = .ok (.aload_n 2, 1) := by decide +kernel
theorem dL_law_915 : decode cL_law 915 = .ok (.aload_n 0, 1) := by decide +kernel
theorem dL_law_916 : decode cL_law 916 = .ok (.iload_n 3, 1) := by decide +kernel
theorem dL_law_917 : decode cL_law 917 = .ok (.iconst 1, 1) := by decide +kernel
theorem dL_law_918 : decode cL_law 918 = .ok (.iadd, 1) := by decide +kernel
theorem dL_law_919 : decode cL_law 919 = .ok (.iaload, 1) := by decide +kernel
theorem dL_law_920 : decode cL_law 920 = .ok (.aload_n 0, 1) := by decide +kernel
theorem dL_law_921 : decode cL_law 921 = .ok (.iload_n 3, 1) := by decide +kernel
theorem dL_law_922 : decode cL_law 922 = .ok (.iconst 2, 1) := by decide +kernel
theorem dL_law_923 : decode cL_law 923 = .ok (.iadd, 1) := by decide +kernel
theorem dL_law_924 : decode cL_law 924 = .ok (.iaload, 1) := by decide +kernel
theorem dL_law_925 : decode cL_law 925 = .ok (.aload_n 0, 1) := by decide +kernel
theorem dL_law_926 : decode cL_law 926 = .ok (.iload_n 3, 1) := by decide +kernel
theorem dL_law_927 : decode cL_law 927 = .ok (.iconst 3, 1) := by decide +kernel
theorem dL_law_928 : decode cL_law 928 = .ok (.iadd, 1) := by decide +kernel
theorem dL_law_929 : decode cL_law 929 = .ok (.iaload, 1) := by decide +kernel
theorem dL_law_930 : decode cL_law 930 = .ok (.invokevirtual 103, 3) := by decide +kernel
theorem dL_law_933 : decode cL_law 933 = .ok (.if_icmp .eq 41, 3) := by decide +kernel
theorem dL_law_938 : decode cL_law 938 = .ok (.aload_n 1, 1) := by decide +kernel
theorem dL_law_939 : decode cL_law 939 = .ok (.invokevirtual 104, 3) := by decide +kernel
theorem dL_law_942 : decode cL_law 942 = .ok (.aload_n 2, 1) := by decide +kernel
theorem dL_law_943 : decode cL_law 943 = .ok (.invokevirtual 108, 3) := by decide +kernel
theorem dL_law_946 : decode cL_law 946 = .ok (.if_icmp .eq 28, 3) := by decide +kernel
theorem dL_law_951 : decode cL_law 951 = .ok (.aload_n 1, 1) := by decide +kernel
theorem dL_law_952 : decode cL_law 952 = .ok (.aload_n 0, 1) := by decide +kernel
theorem dL_law_953 : decode cL_law 953 = .ok (.iload_n 3, 1) := by decide +kernel
theorem dL_law_954 : decode cL_law 954 = .ok (.iconst 1, 1) := by decide +kernel
theorem dL_law_955 : decode cL_law 955 = .ok (.iadd, 1) := by decide +kernel
theorem dL_law_956 : decode cL_law 956 = .ok (.iaload, 1) := by decide +kernel
theorem dL_law_957 : decode cL_law 957 = .ok (.invokevirtual 109, 3) := by decide +kernel
theorem dL_law_960 : decode cL_law 960 = .ok (.aload_n 2, 1) := by decide +kernel
theorem dL_law_961 : decode cL_law 961 = .ok (.aload_n 0, 1) := by decide +kernel
theorem dL_law_962 : decode cL_law 962 = .ok (.iload_n 3, 1) := by decide +kernel
theorem dL_law_963 : decode cL_law 963 = .ok (.iconst 1, 1) := by decide +kernel
theorem dL_law_964 : decode cL_law 964 = .ok (.iadd, 1) := by decide +kernel
theorem dL_law_965 : decode cL_law 965 = .ok (.iaload, 1) := by decide +kernel
theorem dL_law_966 : decode cL_law 966 = .ok (.invokevirtual 112, 3) := by decide +kernel
theorem dL_law_969 : decode cL_law 969 = .ok (.if_icmp .eq 5, 3) := by decide +kernel
theorem dL_law_974 : decode cL_law 974 = .ok (.iinc 3 6, 3) := by decide +kernel
theorem dL_law_977 : decode cL_law 977 = .ok (.goto (-959), 3) := by decide +kernel
theorem dL_law_980 : decode cL_law 980 = .ok (.iconst 1, 1) := by decide +kernel
theorem dL_law_981 : decode cL_law 981 = .ok (.ireturn, 1) := by decide +kernel
set_option maxHeartbeats 4000000 in
set_option maxRecDepth 100000 in
theorem law_0 {p : Program} {e : Env} {s : State} {m : MethodId} {below : List Frame} {meth : Method} {c : Code} (l : Launch) {b : Nat} {xs : Nat → Int32} {A : Nat → Prop} (C0 : lw_At p s m meth c b 6 xs) (hA : ∀ q : Nat, s.heap.size ≤ q → A q) (hA2 : ∀ q : Nat, A q → s.heap.size ≤ q) (hbA : ¬ A b) (dC : Nat → ClassId) (dI : Nat → Nat → Nat) (hN : NX s) (hZ : cz A s s.heap) (ho : Nat) (t0 : Nat) (r0 : Nat) (m0 : Nat) (x0 : Nat) (v4 : Value) (v5 : Value) (v6 : Value) (v7 : Value) (v8 : Value) (tb : Nat) (cT : ClassId) (cR : ClassId) (fR : Nat → Option Nat) (q0 : Nat) (q1 : Nat) (q2 : Nat) (q3 : Nat) (b0 : Nat) (b1 : Nat) (b2 : Nat) (b3 : Nat) (cM : ClassId) (sb : Nat) (hq0 : fR 0 = some q0) (hq1 : fR 1 = some q1) (hq2 : fR 2 = some q2) (hq3 : fR 3 = some q3) (hm : Nat) (a0 : Nat) (cZ : ClassId) (a8 : Nat) (c8 : ClassId) (a9 : Nat) (c9 : ClassId) (a29 : Nat) (c29 : ClassId) (fs : List Value) (hfs : fs.length = 60) (fh0 : fs[0]? = some (.ref a0)) (fh8 : fs[8]? = some (.ref a8)) (fh9 : fs[9]? = some (.ref a9)) (fh10 : fs[10]? = some (.int 0)) (fh15 : fs[15]? = some (.int 0)) (fh16 : fs[16]? = some (.int ((-1)))) (fh29 : fs[29]? = some (.ref a29)) (fh59 : fs[59]? = some (.int 0)) (H : Heap) (locs : List Loc) (hK : va_K (dC, dI) vwCl [(cT, .int), (cR, .object RX5), (cM, .object RX1), (cZ, .boolean), (c8, .boolean), (c9, .int), (c29, .int)] s) (hP : va_P (dC, dI) vwCl [(ho, .inr (10, [.ref t0, .ref r0, .ref m0, .ref x0, v4, v5, v6, v7, v8, .int 0, .int ((-1)), .int 0])), (t0, .inr (7, [.ref tb, .int 0])), (tb, .inl (cT, 400, .inl (fun _ => 0))), (r0, .inl (cR, 4, .inr (.inr (.inr (.inr fR))))), (q0, .inr (7, [.ref b0, .int 0])), (q1, .inr (7, [.ref b1, .int 0])), (q2, .inr (7, [.ref b2, .int 0])), (q3, .inr (7, [.ref b3, .int 0])), (m0, .inl (cM, 8, .inr (.inr (.inr (.inr (fun _ => none)))))), (x0, .inr (8, [.ref t0, .ref m0, .ref sb, .int 0, .int 0, .int ((-1))])), (hm, .inr (11, fs)), (a0, .inl (cZ, 8, .inl (fun _ => 0))), (a8, .inl (c8, 248, .inl (fun _ => 0))), (a9, .inl (c9, 400, .inl (fun _ => 0))), (a29, .inl (c29, 4, .inl (fun _ => 0)))] H) (hD : va_D A [(ho, .inr (10, [.ref t0, .ref r0, .ref m0, .ref x0, v4, v5, v6, v7, v8, .int 0, .int ((-1)), .int 0])), (t0, .inr (7, [.ref tb, .int 0])), (tb, .inl (cT, 400, .inl (fun _ => 0))), (r0, .inl (cR, 4, .inr (.inr (.inr (.inr fR))))), (q0, .inr (7, [.ref b0, .int 0])), (q1, .inr (7, [.ref b1, .int 0])), (q2, .inr (7, [.ref b2, .int 0])), (q3, .inr (7, [.ref b3, .int 0])), (m0, .inl (cM, 8, .inr (.inr (.inr (.inr (fun _ => none)))))), (x0, .inr (8, [.ref t0, .ref m0, .ref sb, .int 0, .int 0, .int ((-1))])), (hm, .inr (11, fs)), (a0, .inl (cZ, 8, .inl (fun _ => 0))), (a8, .inl (c8, 248, .inl (fun _ => 0))), (a9, .inl (c9, 400, .inl (fun _ => 0))), (a29, .inl (c29, 4, .inl (fun _ => 0)))]) (hS : va_S A s.heap H locs) (ls : Array Slot) (hl : lv_has ls 4 [(3, .int 0), (2, .ref hm), (1, .ref ho), (0, .ref b)]) : W p l e room_1 s m #[Value.ref b] below meth c H locs 74 12530 (lw_Z below #[Value.ref b] s) (F0 m 136 ls []) := by
  obtain ⟨hx, hb, hr, hml, hown, hts, hX, hbl, hlocks, hgv⟩ := C0
  refine lv_aload_n hx hb dL_law_136 rfl (lv_at hl 2 rfl) ?_
  refine lv_aload_n hx hb dL_law_137 rfl (lv_at hl 3 rfl) ?_
  refine lv_iload_n hx hb dL_law_138 rfl (lv_at hl 0 rfl) ?_
  refine lv_iconst (v := 1) hx hb dL_law_139 (by decide) ?_
  refine lv_iadd hx hb dL_law_140 ?_
  refine W_toi (y := 1) (by decide) ?_
  refine va_sld hx hb hX hbl hbA hS (by unfold vp_in; decide) dL_law_141 ?_
  refine W_toi (y := xs 1) rfl ?_
  refine lv_aload_n hx hb dL_law_142 rfl (lv_at hl 3 rfl) ?_
  refine lv_iload_n hx hb dL_law_143 rfl (lv_at hl 0 rfl) ?_
  refine lv_iconst (v := 2) hx hb dL_law_144 (by decide) ?_
  refine lv_iadd hx hb dL_law_145 ?_
  refine W_toi (y := 2) (by decide) ?_
  refine va_sld hx hb hX hbl hbA hS (by unfold vp_in; decide) dL_law_146 ?_
  refine W_toi (y := xs 2) rfl ?_
  refine lv_aload_n hx hb dL_law_147 rfl (lv_at hl 3 rfl) ?_
  refine lv_iload_n hx hb dL_law_148 rfl (lv_at hl 0 rfl) ?_
  refine lv_iconst (v := 3) hx hb dL_law_149 (by decide) ?_
  refine lv_iadd hx hb dL_law_150 ?_
  refine W_toi (y := 3) (by decide) ?_
  refine va_sld hx hb hX hbl hbA hS (by unfold vp_in; decide) dL_law_151 ?_
  refine W_toi (y := xs 3) rfl ?_
  refine lv_aload_n hx hb dL_law_152 rfl (lv_at hl 3 rfl) ?_
  refine lv_iload_n hx hb dL_law_153 rfl (lv_at hl 0 rfl) ?_
  refine lv_iconst (v := 4) hx hb dL_law_154 (by decide) ?_
  refine lv_iadd hx hb dL_law_155 ?_
  refine W_toi (y := 4) (by decide) ?_
  refine va_sld hx hb hX hbl hbA hS (by unfold vp_in; decide) dL_law_156 ?_
  refine W_toi (y := xs 4) rfl ?_
  refine lv_aload_n hx hb dL_law_157 rfl (lv_at hl 3 rfl) ?_
  refine lv_iload_n hx hb dL_law_158 rfl (lv_at hl 0 rfl) ?_
  refine lv_iconst (v := 5) hx hb dL_law_159 (by decide) ?_
  refine lv_iadd hx hb dL_law_160 ?_
  refine W_toi (y := 5) (by decide) ?_
  refine va_sld hx hb hX hbl hbA hS (by unfold vp_in; decide) dL_law_161 ?_
  refine W_toi (y := xs 5) rfl ?_
  have hFc := va_free (wc := [(ho, .inr (10, [.ref t0, .ref r0, .ref m0, .ref x0, v4, v5, v6, v7, v8, .int 0, .int ((-1)), .int 0])), (t0, .inr (7, [.ref tb, .int 0])), (tb, .inl (cT, 400, .inl (fun _ => 0)))]) hD hS hA [0, 1, 2] rfl
  refine va_calli (va_runV (As := [.int (xs 1), .int (xs 2), .int (xs 3), .int (xs 4), .int (xs 5)]) (rest := []) ⟨hx, hb, hml, hown, hts⟩ (c_X8_feed l dC dI ho t0 r0 m0 x0 (v4) (v5) (v6) (v7) (v8) tb cT (xs 1) (xs 2) (xs 3) (xs 4) (xs 5) H.size) (cwV 5 hts gp_law_0_X8_feed_13 rfl rfl rfl (by decide +kernel) ⟨Nat.le_of_ble_eq_true rfl, Nat.le_of_ble_eq_true rfl⟩) ⟨Pr.blind _, va_recv hK hP (ci := 10) (q0 := 0) rfl rfl, fun U hU hW => ⟨rfl, Pr.at (hP.sub (ws' := [(ho, .inr (10, [.ref t0, .ref r0, .ref m0, .ref x0, v4, v5, v6, v7, v8, .int 0, .int ((-1)), .int 0])), (t0, .inr (7, [.ref tb, .int 0])), (tb, .inl (cT, 400, .inl (fun _ => 0)))]) [0, 1, 2] rfl) (hK.sub (tys' := [(cT, .int)]) [0] rfl) (hD.sub (ws' := [(ho, .inr (10, [.ref t0, .ref r0, .ref m0, .ref x0, v4, v5, v6, v7, v8, .int 0, .int ((-1)), .int 0])), (t0, .inr (7, [.ref tb, .int 0])), (tb, .inl (cT, 400, .inl (fun _ => 0)))]) [0, 1, 2] (by decide) rfl) hN hZ hS hFc hU hW⟩⟩ rfl rfl hl.1 rfl (lv_room (Nat.le_of_ble_eq_true rfl)) dL_law_162 ⟨Nat.le_of_ble_eq_true rfl, Nat.le_of_ble_eq_true rfl⟩) hS (fun q _ h => hFc q h) hFc (fun r_1 u t H1 locs ht hvm hw_2 hB hz1 hk1 hS => ?_)
  obtain ⟨hP, hD, hK⟩ := Bq.join (wr := [(r0, .inl (cR, 4, .inr (.inr (.inr (.inr fR))))), (q0, .inr (7, [.ref b0, .int 0])), (q1, .inr (7, [.ref b1, .int 0])), (q2, .inr (7, [.ref b2, .int 0])), (q3, .inr (7, [.ref b3, .int 0])), (m0, .inl (cM, 8, .inr (.inr (.inr (.inr (fun _ => none)))))), (x0, .inr (8, [.ref t0, .ref m0, .ref sb, .int 0, .int 0, .int ((-1))])), (hm, .inr (11, fs)), (a0, .inl (cZ, 8, .inl (fun _ => 0))), (a8, .inl (c8, 248, .inl (fun _ => 0))), (a9, .inl (c9, 400, .inl (fun _ => 0))), (a29, .inl (c29, 4, .inl (fun _ => 0)))]) hB ht hvm hP hD [0, 1, 2] [3, 4, 5, 6, 7, 8, 9, 10, 11, 12, 13, 14] rfl rfl (by decide) (by decide) hk1 hFc hK
  generalize H1 = H at hP hS ⊢
  have hP : va_P (dC, dI) vwCl [(r0, .inl (cR, 4, .inr (.inr (.inr (.inr fR))))), (q0, .inr (7, [.ref b0, .int 0])), (q1, .inr (7, [.ref b1, .int 0])), (q2, .inr (7, [.ref b2, .int 0])), (q3, .inr (7, [.ref b3, .int 0])), (m0, .inl (cM, 8, .inr (.inr (.inr (.inr (fun _ => none)))))), (x0, .inr (8, [.ref t0, .ref m0, .ref sb, .int 0, .int 0, .int ((-1))])), (hm, .inr (11, fs)), (a0, .inl (cZ, 8, .inl (fun _ => 0))), (a8, .inl (c8, 248, .inl (fun _ => 0))), (a9, .inl (c9, 400, .inl (fun _ => 0))), (a29, .inl (c29, 4, .inl (fun _ => 0)))] H := hP
  have hD : va_D A [(r0, .inl (cR, 4, .inr (.inr (.inr (.inr fR))))), (q0, .inr (7, [.ref b0, .int 0])), (q1, .inr (7, [.ref b1, .int 0])), (q2, .inr (7, [.ref b2, .int 0])), (q3, .inr (7, [.ref b3, .int 0])), (m0, .inl (cM, 8, .inr (.inr (.inr (.inr (fun _ => none)))))), (x0, .inr (8, [.ref t0, .ref m0, .ref sb, .int 0, .int 0, .int ((-1))])), (hm, .inr (11, fs)), (a0, .inl (cZ, 8, .inl (fun _ => 0))), (a8, .inl (c8, 248, .inl (fun _ => 0))), (a9, .inl (c9, 400, .inl (fun _ => 0))), (a29, .inl (c29, 4, .inl (fun _ => 0)))] := hD
  have hK : va_K (dC, dI) vwCl [(cT, .int), (cR, .object RX5), (cM, .object RX1), (cZ, .boolean), (c8, .boolean), (c9, .int), (c29, .int)] s := hK
  try dsimp only at hw_2
  have k_3 := hw_2
  refine W_toi (y := 20) k_3 ?_
  refine lv_aload_n hx hb dL_law_165 rfl (lv_at hl 1 rfl) ?_
  refine lv_aload_n hx hb dL_law_166 rfl (lv_at hl 3 rfl) ?_
  refine lv_iload_n hx hb dL_law_167 rfl (lv_at hl 0 rfl) ?_
  refine lv_iconst (v := 1) hx hb dL_law_168 (by decide) ?_
  refine lv_iadd hx hb dL_law_169 ?_
  refine W_toi (y := 1) (by decide) ?_
  refine va_sld hx hb hX hbl hbA hS (by unfold vp_in; decide) dL_law_170 ?_
  refine W_toi (y := xs 1) rfl ?_
  refine lv_aload_n hx hb dL_law_171 rfl (lv_at hl 3 rfl) ?_
  refine lv_iload_n hx hb dL_law_172 rfl (lv_at hl 0 rfl) ?_
  refine lv_iconst (v := 2) hx hb dL_law_173 (by decide) ?_
  refine lv_iadd hx hb dL_law_174 ?_
  refine W_toi (y := 2) (by decide) ?_
  refine va_sld hx hb hX hbl hbA hS (by unfold vp_in; decide) dL_law_175 ?_
  refine W_toi (y := xs 2) rfl ?_
  refine lv_aload_n hx hb dL_law_176 rfl (lv_at hl 3 rfl) ?_
  refine lv_iload_n hx hb dL_law_177 rfl (lv_at hl 0 rfl) ?_
  refine lv_iconst (v := 3) hx hb dL_law_178 (by decide) ?_
  refine lv_iadd hx hb dL_law_179 ?_
  refine W_toi (y := 3) (by decide) ?_
  refine va_sld hx hb hX hbl hbA hS (by unfold vp_in; decide) dL_law_180 ?_
  refine W_toi (y := xs 3) rfl ?_
  refine lv_aload_n hx hb dL_law_181 rfl (lv_at hl 3 rfl) ?_
  refine lv_iload_n hx hb dL_law_182 rfl (lv_at hl 0 rfl) ?_
  refine lv_iconst (v := 4) hx hb dL_law_183 (by decide) ?_
  refine lv_iadd hx hb dL_law_184 ?_
  refine W_toi (y := 4) (by decide) ?_
  refine va_sld hx hb hX hbl hbA hS (by unfold vp_in; decide) dL_law_185 ?_
  refine W_toi (y := xs 4) rfl ?_
  refine lv_aload_n hx hb dL_law_186 rfl (lv_at hl 3 rfl) ?_
  refine lv_iload_n hx hb dL_law_187 rfl (lv_at hl 0 rfl) ?_
  refine lv_iconst (v := 5) hx hb dL_law_188 (by decide) ?_
  refine lv_iadd hx hb dL_law_189 ?_
  refine W_toi (y := 5) (by decide) ?_
  refine va_sld hx hb hX hbl hbA hS (by unfold vp_in; decide) dL_law_190 ?_
  refine W_toi (y := xs 5) rfl ?_
  have hFc := va_free (wc := [(hm, .inr (11, fs)), (a9, .inl (c9, 400, .inl (fun _ => 0)))]) hD hS hA [7, 10] rfl
  refine va_calli (va_runV (As := [.int (xs 1), .int (xs 2), .int (xs 3), .int (xs 4), .int (xs 5)]) (rest := [.int 20]) ⟨hx, hb, hml, hown, hts⟩ (c_X9_feed l dC dI hm fs hfs a9 c9 fh9 fh10 (xs 1) (xs 2) (xs 3) (xs 4) (xs 5) H.size) (cwV 5 hts gp_law_0_X9_feed_17 rfl rfl rfl (by decide +kernel) ⟨Nat.le_of_ble_eq_true rfl, Nat.le_of_ble_eq_true rfl⟩) ⟨Pr.blind _, va_recv hK hP (ci := 11) (q0 := 7) rfl rfl, fun U hU hW => ⟨rfl, Pr.at (hP.sub (ws' := [(hm, .inr (11, fs)), (a9, .inl (c9, 400, .inl (fun _ => 0)))]) [7, 10] rfl) (hK.sub (tys' := [(c9, .int)]) [5] rfl) (hD.sub (ws' := [(hm, .inr (11, fs)), (a9, .inl (c9, 400, .inl (fun _ => 0)))]) [7, 10] (by decide) rfl) hN hZ hS hFc hU hW⟩⟩ rfl rfl hl.1 rfl (lv_room (Nat.le_of_ble_eq_true rfl)) dL_law_191 ⟨Nat.le_of_ble_eq_true rfl, Nat.le_of_ble_eq_true rfl⟩) hS (fun q _ h => hFc q h) hFc (fun r_4 u t H1 locs ht hvm hw_5 hB hz1 hk1 hS => ?_)
  obtain ⟨hP, hD, hK⟩ := Bq.join (wr := [(r0, .inl (cR, 4, .inr (.inr (.inr (.inr fR))))), (q0, .inr (7, [.ref b0, .int 0])), (q1, .inr (7, [.ref b1, .int 0])), (q2, .inr (7, [.ref b2, .int 0])), (q3, .inr (7, [.ref b3, .int 0])), (m0, .inl (cM, 8, .inr (.inr (.inr (.inr (fun _ => none)))))), (x0, .inr (8, [.ref t0, .ref m0, .ref sb, .int 0, .int 0, .int ((-1))])), (a0, .inl (cZ, 8, .inl (fun _ => 0))), (a8, .inl (c8, 248, .inl (fun _ => 0))), (a29, .inl (c29, 4, .inl (fun _ => 0)))]) hB ht hvm hP hD [7, 10] [0, 1, 2, 3, 4, 5, 6, 8, 9, 11] rfl rfl (by decide) (by decide) hk1 hFc hK
  generalize H1 = H at hP hS ⊢
  have hP : va_P (dC, dI) vwCl [(r0, .inl (cR, 4, .inr (.inr (.inr (.inr fR))))), (q0, .inr (7, [.ref b0, .int 0])), (q1, .inr (7, [.ref b1, .int 0])), (q2, .inr (7, [.ref b2, .int 0])), (q3, .inr (7, [.ref b3, .int 0])), (m0, .inl (cM, 8, .inr (.inr (.inr (.inr (fun _ => none)))))), (x0, .inr (8, [.ref t0, .ref m0, .ref sb, .int 0, .int 0, .int ((-1))])), (a0, .inl (cZ, 8, .inl (fun _ => 0))), (a8, .inl (c8, 248, .inl (fun _ => 0))), (a29, .inl (c29, 4, .inl (fun _ => 0)))] H := hP
  have hD : va_D A [(r0, .inl (cR, 4, .inr (.inr (.inr (.inr fR))))), (q0, .inr (7, [.ref b0, .int 0])), (q1, .inr (7, [.ref b1, .int 0])), (q2, .inr (7, [.ref b2, .int 0])), (q3, .inr (7, [.ref b3, .int 0])), (m0, .inl (cM, 8, .inr (.inr (.inr (.inr (fun _ => none)))))), (x0, .inr (8, [.ref t0, .ref m0, .ref sb, .int 0, .int 0, .int ((-1))])), (a0, .inl (cZ, 8, .inl (fun _ => 0))), (a8, .inl (c8, 248, .inl (fun _ => 0))), (a29, .inl (c29, 4, .inl (fun _ => 0)))] := hD
  have hK : va_K (dC, dI) vwCl [(cT, .int), (cR, .object RX5), (cM, .object RX1), (cZ, .boolean), (c8, .boolean), (c9, .int), (c29, .int)] s := hK
  try dsimp only at hw_5
  have k_6 := hw_5
  refine W_toi (y := 20) k_6 ?_
  refine lv_icmp_eq (tgt := 974) hx hb dL_law_194 (by decide) (fun c_7 => ?_) (fun c_7 => absurd (by decide) c_7)
  refine lv_iinc (v := 6) (lv' := [(3, .int 6), (2, .ref hm), (1, .ref ho), (0, .ref b)]) hx hb dL_law_974 hl (k := 0) rfl (by decide) (by decide) rfl (fun ls hl => ?_)
  refine lv_goto (tgt := 18) hx hb dL_law_977 (by decide) ?_
  refine lv_iload_n hx hb dL_law_18 rfl (lv_at hl 0 rfl) ?_
  refine lv_aload_n hx hb dL_law_19 rfl (lv_at hl 3 rfl) ?_
  refine va_slen hx hb hX hbl hbA hS dL_law_20 ?_
  refine W_toi (y := 6) rfl ?_
  refine lv_bipush (v := 6) hx hb dL_law_21 (by decide) ?_
  refine lv_isub hx hb dL_law_23 ?_
  refine W_toi (y := 0) (by decide) ?_
  refine lv_icmp_gt (tgt := 980) hx hb dL_law_24 (by decide) (fun c_8 => ?_) (fun c_8 => absurd (by decide) c_8)
  refine lv_iconst (v := 1) hx hb dL_law_980 (by decide) ?_
  refine va_forget (fun q hq => hA2 _ (hS.2.2 q hq)) ?_
  refine W.widen (k := 600000) (n := 7302250) (by omega) (by omega) ?_
  exact lw_ret hx hb hr hlocks dL_law_981
set_option maxHeartbeats 4000000 in
set_option maxRecDepth 100000 in
theorem law_1 {p : Program} {e : Env} {s : State} {m : MethodId} {below : List Frame} {meth : Method} {c : Code} (l : Launch) {b : Nat} {xs : Nat → Int32} {A : Nat → Prop} (C0 : lw_At p s m meth c b 6 xs) (hA : ∀ q : Nat, s.heap.size ≤ q → A q) (hA2 : ∀ q : Nat, A q → s.heap.size ≤ q) (hbA : ¬ A b) (dC : Nat → ClassId) (dI : Nat → Nat → Nat) (hN : NX s) (hZ : cz A s s.heap) (ho : Nat) (t0 : Nat) (r0 : Nat) (m0 : Nat) (x0 : Nat) (v4 : Value) (v5 : Value) (v6 : Value) (v7 : Value) (v8 : Value) (tb : Nat) (cT : ClassId) (cR : ClassId) (fR : Nat → Option Nat) (q0 : Nat) (q1 : Nat) (q2 : Nat) (q3 : Nat) (b0 : Nat) (b1 : Nat) (b2 : Nat) (b3 : Nat) (cM : ClassId) (sb : Nat) (hq0 : fR 0 = some q0) (hq1 : fR 1 = some q1) (hq2 : fR 2 = some q2) (hq3 : fR 3 = some q3) (hm : Nat) (a0 : Nat) (cZ : ClassId) (a8 : Nat) (c8 : ClassId) (a9 : Nat) (c9 : ClassId) (a29 : Nat) (c29 : ClassId) (fs : List Value) (hfs : fs.length = 60) (fh0 : fs[0]? = some (.ref a0)) (fh8 : fs[8]? = some (.ref a8)) (fh9 : fs[9]? = some (.ref a9)) (fh10 : fs[10]? = some (.int 0)) (fh15 : fs[15]? = some (.int 0)) (fh16 : fs[16]? = some (.int ((-1)))) (fh29 : fs[29]? = some (.ref a29)) (fh59 : fs[59]? = some (.int 0)) (H : Heap) (locs : List Loc) (hK : va_K (dC, dI) vwCl [(cT, .int), (cR, .object RX5), (cM, .object RX1), (cZ, .boolean), (c8, .boolean), (c9, .int), (c29, .int)] s) (hP : va_P (dC, dI) vwCl [(ho, .inr (10, [.ref t0, .ref r0, .ref m0, .ref x0, v4, v5, v6, v7, v8, .int 0, .int ((-1)), .int 0])), (t0, .inr (7, [.ref tb, .int 0])), (tb, .inl (cT, 400, .inl (fun _ => 0))), (r0, .inl (cR, 4, .inr (.inr (.inr (.inr fR))))), (q0, .inr (7, [.ref b0, .int 0])), (q1, .inr (7, [.ref b1, .int 0])), (q2, .inr (7, [.ref b2, .int 0])), (q3, .inr (7, [.ref b3, .int 0])), (m0, .inl (cM, 8, .inr (.inr (.inr (.inr (fun _ => none)))))), (x0, .inr (8, [.ref t0, .ref m0, .ref sb, .int 0, .int 0, .int ((-1))])), (hm, .inr (11, fs)), (a0, .inl (cZ, 8, .inl (fun _ => 0))), (a8, .inl (c8, 248, .inl (fun _ => 0))), (a9, .inl (c9, 400, .inl (fun _ => 0))), (a29, .inl (c29, 4, .inl (fun _ => 0)))] H) (hD : va_D A [(ho, .inr (10, [.ref t0, .ref r0, .ref m0, .ref x0, v4, v5, v6, v7, v8, .int 0, .int ((-1)), .int 0])), (t0, .inr (7, [.ref tb, .int 0])), (tb, .inl (cT, 400, .inl (fun _ => 0))), (r0, .inl (cR, 4, .inr (.inr (.inr (.inr fR))))), (q0, .inr (7, [.ref b0, .int 0])), (q1, .inr (7, [.ref b1, .int 0])), (q2, .inr (7, [.ref b2, .int 0])), (q3, .inr (7, [.ref b3, .int 0])), (m0, .inl (cM, 8, .inr (.inr (.inr (.inr (fun _ => none)))))), (x0, .inr (8, [.ref t0, .ref m0, .ref sb, .int 0, .int 0, .int ((-1))])), (hm, .inr (11, fs)), (a0, .inl (cZ, 8, .inl (fun _ => 0))), (a8, .inl (c8, 248, .inl (fun _ => 0))), (a9, .inl (c9, 400, .inl (fun _ => 0))), (a29, .inl (c29, 4, .inl (fun _ => 0)))]) (hS : va_S A s.heap H locs) (ls : Array Slot) (hl : lv_has ls 4 [(3, .int 0), (2, .ref hm), (1, .ref ho), (0, .ref b)]) : W p l e room_1 s m #[Value.ref b] below meth c H locs 74 12530 (lw_Z below #[Value.ref b] s) (F0 m 199 ls []) := by
  obtain ⟨hx, hb, hr, hml, hown, hts, hX, hbl, hlocks, hgv⟩ := C0
  refine lv_aload_n hx hb dL_law_199 rfl (lv_at hl 2 rfl) ?_
  refine lv_aload_n hx hb dL_law_200 rfl (lv_at hl 3 rfl) ?_
  refine lv_iload_n hx hb dL_law_201 rfl (lv_at hl 0 rfl) ?_
  refine lv_iconst (v := 1) hx hb dL_law_202 (by decide) ?_
  refine lv_iadd hx hb dL_law_203 ?_
  refine W_toi (y := 1) (by decide) ?_
  refine va_sld hx hb hX hbl hbA hS (by unfold vp_in; decide) dL_law_204 ?_
  refine W_toi (y := xs 1) rfl ?_
  have hFc := va_free (wc := [(ho, .inr (10, [.ref t0, .ref r0, .ref m0, .ref x0, v4, v5, v6, v7, v8, .int 0, .int ((-1)), .int 0])), (t0, .inr (7, [.ref tb, .int 0]))]) hD hS hA [0, 1] rfl
  refine va_calli (va_runV (As := [.int (xs 1)]) (rest := []) ⟨hx, hb, hml, hown, hts⟩ (c_X8_end l dC dI ho t0 r0 m0 x0 (v4) (v5) (v6) (v7) (v8) tb (xs 1) H.size) (cwV 1 hts gp_law_1_X8_end_18 rfl rfl rfl (by decide +kernel) ⟨Nat.le_of_ble_eq_true rfl, Nat.le_of_ble_eq_true rfl⟩) ⟨Pr.blind _, va_recv hK hP (ci := 10) (q0 := 0) rfl rfl, fun U hU hW => ⟨rfl, Pr.at (hP.sub (ws' := [(ho, .inr (10, [.ref t0, .ref r0, .ref m0, .ref x0, v4, v5, v6, v7, v8, .int 0, .int ((-1)), .int 0])), (t0, .inr (7, [.ref tb, .int 0]))]) [0, 1] rfl) (hK.sub (tys' := []) [] rfl) (hD.sub (ws' := [(ho, .inr (10, [.ref t0, .ref r0, .ref m0, .ref x0, v4, v5, v6, v7, v8, .int 0, .int ((-1)), .int 0])), (t0, .inr (7, [.ref tb, .int 0]))]) [0, 1] (by decide) rfl) hN hZ hS hFc hU hW⟩⟩ rfl rfl hl.1 rfl (lv_room (Nat.le_of_ble_eq_true rfl)) dL_law_205 ⟨Nat.le_of_ble_eq_true rfl, Nat.le_of_ble_eq_true rfl⟩) hS (fun q _ h => hFc q h) hFc (fun r_1 u t H1 locs ht hvm hw_2 hB hz1 hk1 hS => ?_)
  obtain ⟨hP, hD, hK⟩ := Bq.join (wr := [(tb, .inl (cT, 400, .inl (fun _ => 0))), (r0, .inl (cR, 4, .inr (.inr (.inr (.inr fR))))), (q0, .inr (7, [.ref b0, .int 0])), (q1, .inr (7, [.ref b1, .int 0])), (q2, .inr (7, [.ref b2, .int 0])), (q3, .inr (7, [.ref b3, .int 0])), (m0, .inl (cM, 8, .inr (.inr (.inr (.inr (fun _ => none)))))), (x0, .inr (8, [.ref t0, .ref m0, .ref sb, .int 0, .int 0, .int ((-1))])), (hm, .inr (11, fs)), (a0, .inl (cZ, 8, .inl (fun _ => 0))), (a8, .inl (c8, 248, .inl (fun _ => 0))), (a9, .inl (c9, 400, .inl (fun _ => 0))), (a29, .inl (c29, 4, .inl (fun _ => 0)))]) hB ht hvm hP hD [0, 1] [2, 3, 4, 5, 6, 7, 8, 9, 10, 11, 12, 13, 14] rfl rfl (by decide) (by decide) hk1 hFc hK
  generalize H1 = H at hP hS ⊢
  have hP : va_P (dC, dI) vwCl [(tb, .inl (cT, 400, .inl (fun _ => 0))), (r0, .inl (cR, 4, .inr (.inr (.inr (.inr fR))))), (q0, .inr (7, [.ref b0, .int 0])), (q1, .inr (7, [.ref b1, .int 0])), (q2, .inr (7, [.ref b2, .int 0])), (q3, .inr (7, [.ref b3, .int 0])), (m0, .inl (cM, 8, .inr (.inr (.inr (.inr (fun _ => none)))))), (x0, .inr (8, [.ref t0, .ref m0, .ref sb, .int 0, .int 0, .int ((-1))])), (hm, .inr (11, fs)), (a0, .inl (cZ, 8, .inl (fun _ => 0))), (a8, .inl (c8, 248, .inl (fun _ => 0))), (a9, .inl (c9, 400, .inl (fun _ => 0))), (a29, .inl (c29, 4, .inl (fun _ => 0)))] H := hP
  have hD : va_D A [(tb, .inl (cT, 400, .inl (fun _ => 0))), (r0, .inl (cR, 4, .inr (.inr (.inr (.inr fR))))), (q0, .inr (7, [.ref b0, .int 0])), (q1, .inr (7, [.ref b1, .int 0])), (q2, .inr (7, [.ref b2, .int 0])), (q3, .inr (7, [.ref b3, .int 0])), (m0, .inl (cM, 8, .inr (.inr (.inr (.inr (fun _ => none)))))), (x0, .inr (8, [.ref t0, .ref m0, .ref sb, .int 0, .int 0, .int ((-1))])), (hm, .inr (11, fs)), (a0, .inl (cZ, 8, .inl (fun _ => 0))), (a8, .inl (c8, 248, .inl (fun _ => 0))), (a9, .inl (c9, 400, .inl (fun _ => 0))), (a29, .inl (c29, 4, .inl (fun _ => 0)))] := hD
  have hK : va_K (dC, dI) vwCl [(cT, .int), (cR, .object RX5), (cM, .object RX1), (cZ, .boolean), (c8, .boolean), (c9, .int), (c29, .int)] s := hK
  try dsimp only at hw_2
  have k_3 := hw_2
  refine W_toi (y := if (xs 1) < 0 ∨ ¬ (xs 1) ≤ 0 then 0 else 1) k_3 ?_
  refine lv_aload_n hx hb dL_law_208 rfl (lv_at hl 1 rfl) ?_
  refine lv_aload_n hx hb dL_law_209 rfl (lv_at hl 3 rfl) ?_
  refine lv_iload_n hx hb dL_law_210 rfl (lv_at hl 0 rfl) ?_
  refine lv_iconst (v := 1) hx hb dL_law_211 (by decide) ?_
  refine lv_iadd hx hb dL_law_212 ?_
  refine W_toi (y := 1) (by decide) ?_
  refine va_sld hx hb hX hbl hbA hS (by unfold vp_in; decide) dL_law_213 ?_
  refine W_toi (y := xs 1) rfl ?_
  have hFc := va_free (wc := [(hm, .inr (11, fs))]) hD hS hA [8] rfl
  refine va_calli (va_runV (As := [.int (xs 1)]) (rest := [.int (if (xs 1) < 0 ∨ ¬ (xs 1) ≤ 0 then 0 else 1)]) ⟨hx, hb, hml, hown, hts⟩ (c_X9_end l dC dI hm fs hfs fh10 (xs 1) H.size) (cwV 1 hts gp_law_1_X9_end_22 rfl rfl rfl (by decide +kernel) ⟨Nat.le_of_ble_eq_true rfl, Nat.le_of_ble_eq_true rfl⟩) ⟨Pr.blind _, va_recv hK hP (ci := 11) (q0 := 8) rfl rfl, fun U hU hW => ⟨rfl, Pr.at (hP.sub (ws' := [(hm, .inr (11, fs))]) [8] rfl) (hK.sub (tys' := []) [] rfl) (hD.sub (ws' := [(hm, .inr (11, fs))]) [8] (by decide) rfl) hN hZ hS hFc hU hW⟩⟩ rfl rfl hl.1 rfl (lv_room (Nat.le_of_ble_eq_true rfl)) dL_law_214 ⟨Nat.le_of_ble_eq_true rfl, Nat.le_of_ble_eq_true rfl⟩) hS (fun q _ h => hFc q h) hFc (fun r_4 u t H1 locs ht hvm hw_5 hB hz1 hk1 hS => ?_)
  obtain ⟨hP, hD, hK⟩ := Bq.join (wr := [(tb, .inl (cT, 400, .inl (fun _ => 0))), (r0, .inl (cR, 4, .inr (.inr (.inr (.inr fR))))), (q0, .inr (7, [.ref b0, .int 0])), (q1, .inr (7, [.ref b1, .int 0])), (q2, .inr (7, [.ref b2, .int 0])), (q3, .inr (7, [.ref b3, .int 0])), (m0, .inl (cM, 8, .inr (.inr (.inr (.inr (fun _ => none)))))), (x0, .inr (8, [.ref t0, .ref m0, .ref sb, .int 0, .int 0, .int ((-1))])), (a0, .inl (cZ, 8, .inl (fun _ => 0))), (a8, .inl (c8, 248, .inl (fun _ => 0))), (a9, .inl (c9, 400, .inl (fun _ => 0))), (a29, .inl (c29, 4, .inl (fun _ => 0)))]) hB ht hvm hP hD [8] [0, 1, 2, 3, 4, 5, 6, 7, 9, 10, 11, 12] rfl rfl (by decide) (by decide) hk1 hFc hK
  generalize H1 = H at hP hS ⊢
  have hP : va_P (dC, dI) vwCl [(tb, .inl (cT, 400, .inl (fun _ => 0))), (r0, .inl (cR, 4, .inr (.inr (.inr (.inr fR))))), (q0, .inr (7, [.ref b0, .int 0])), (q1, .inr (7, [.ref b1, .int 0])), (q2, .inr (7, [.ref b2, .int 0])), (q3, .inr (7, [.ref b3, .int 0])), (m0, .inl (cM, 8, .inr (.inr (.inr (.inr (fun _ => none)))))), (x0, .inr (8, [.ref t0, .ref m0, .ref sb, .int 0, .int 0, .int ((-1))])), (a0, .inl (cZ, 8, .inl (fun _ => 0))), (a8, .inl (c8, 248, .inl (fun _ => 0))), (a9, .inl (c9, 400, .inl (fun _ => 0))), (a29, .inl (c29, 4, .inl (fun _ => 0)))] H := hP
  have hD : va_D A [(tb, .inl (cT, 400, .inl (fun _ => 0))), (r0, .inl (cR, 4, .inr (.inr (.inr (.inr fR))))), (q0, .inr (7, [.ref b0, .int 0])), (q1, .inr (7, [.ref b1, .int 0])), (q2, .inr (7, [.ref b2, .int 0])), (q3, .inr (7, [.ref b3, .int 0])), (m0, .inl (cM, 8, .inr (.inr (.inr (.inr (fun _ => none)))))), (x0, .inr (8, [.ref t0, .ref m0, .ref sb, .int 0, .int 0, .int ((-1))])), (a0, .inl (cZ, 8, .inl (fun _ => 0))), (a8, .inl (c8, 248, .inl (fun _ => 0))), (a9, .inl (c9, 400, .inl (fun _ => 0))), (a29, .inl (c29, 4, .inl (fun _ => 0)))] := hD
  have hK : va_K (dC, dI) vwCl [(cT, .int), (cR, .object RX5), (cM, .object RX1), (cZ, .boolean), (c8, .boolean), (c9, .int), (c29, .int)] s := hK
  try dsimp only at hw_5
  have k_6 := hw_5
  refine W_toi (y := if (xs 1) < 0 ∨ ¬ (xs 1) ≤ 0 then 0 else 1) k_6 ?_
  refine lv_icmp_eq (tgt := 974) hx hb dL_law_217 (by decide) (fun c_7 => ?_) (fun c_7 => absurd (rfl) c_7)
  refine lv_iinc (v := 6) (lv' := [(3, .int 6), (2, .ref hm), (1, .ref ho), (0, .ref b)]) hx hb dL_law_974 hl (k := 0) rfl (by decide) (by decide) rfl (fun ls hl => ?_)
  refine lv_goto (tgt := 18) hx hb dL_law_977 (by decide) ?_
  refine lv_iload_n hx hb dL_law_18 rfl (lv_at hl 0 rfl) ?_
  refine lv_aload_n hx hb dL_law_19 rfl (lv_at hl 3 rfl) ?_
  refine va_slen hx hb hX hbl hbA hS dL_law_20 ?_
  refine W_toi (y := 6) rfl ?_
  refine lv_bipush (v := 6) hx hb dL_law_21 (by decide) ?_
  refine lv_isub hx hb dL_law_23 ?_
  refine W_toi (y := 0) (by decide) ?_
  refine lv_icmp_gt (tgt := 980) hx hb dL_law_24 (by decide) (fun c_8 => ?_) (fun c_8 => absurd (by decide) c_8)
  refine lv_iconst (v := 1) hx hb dL_law_980 (by decide) ?_
  refine va_forget (fun q hq => hA2 _ (hS.2.2 q hq)) ?_
  refine W.widen (k := 600000) (n := 7302250) (by omega) (by omega) ?_
  exact lw_ret hx hb hr hlocks dL_law_981
set_option maxHeartbeats 4000000 in
set_option maxRecDepth 100000 in
theorem law_2 {p : Program} {e : Env} {s : State} {m : MethodId} {below : List Frame} {meth : Method} {c : Code} (l : Launch) {b : Nat} {xs : Nat → Int32} {A : Nat → Prop} (C0 : lw_At p s m meth c b 6 xs) (hA : ∀ q : Nat, s.heap.size ≤ q → A q) (hA2 : ∀ q : Nat, A q → s.heap.size ≤ q) (hbA : ¬ A b) (dC : Nat → ClassId) (dI : Nat → Nat → Nat) (hN : NX s) (hZ : cz A s s.heap) (ho : Nat) (t0 : Nat) (r0 : Nat) (m0 : Nat) (x0 : Nat) (v4 : Value) (v5 : Value) (v6 : Value) (v7 : Value) (v8 : Value) (tb : Nat) (cT : ClassId) (cR : ClassId) (fR : Nat → Option Nat) (q0 : Nat) (q1 : Nat) (q2 : Nat) (q3 : Nat) (b0 : Nat) (b1 : Nat) (b2 : Nat) (b3 : Nat) (cM : ClassId) (sb : Nat) (hq0 : fR 0 = some q0) (hq1 : fR 1 = some q1) (hq2 : fR 2 = some q2) (hq3 : fR 3 = some q3) (hm : Nat) (a0 : Nat) (cZ : ClassId) (a8 : Nat) (c8 : ClassId) (a9 : Nat) (c9 : ClassId) (a29 : Nat) (c29 : ClassId) (fs : List Value) (hfs : fs.length = 60) (fh0 : fs[0]? = some (.ref a0)) (fh8 : fs[8]? = some (.ref a8)) (fh9 : fs[9]? = some (.ref a9)) (fh10 : fs[10]? = some (.int 0)) (fh15 : fs[15]? = some (.int 0)) (fh16 : fs[16]? = some (.int ((-1)))) (fh29 : fs[29]? = some (.ref a29)) (fh59 : fs[59]? = some (.int 0)) (H : Heap) (locs : List Loc) (hK : va_K (dC, dI) vwCl [(cT, .int), (cR, .object RX5), (cM, .object RX1), (cZ, .boolean), (c8, .boolean), (c9, .int), (c29, .int)] s) (hP : va_P (dC, dI) vwCl [(ho, .inr (10, [.ref t0, .ref r0, .ref m0, .ref x0, v4, v5, v6, v7, v8, .int 0, .int ((-1)), .int 0])), (t0, .inr (7, [.ref tb, .int 0])), (tb, .inl (cT, 400, .inl (fun _ => 0))), (r0, .inl (cR, 4, .inr (.inr (.inr (.inr fR))))), (q0, .inr (7, [.ref b0, .int 0])), (q1, .inr (7, [.ref b1, .int 0])), (q2, .inr (7, [.ref b2, .int 0])), (q3, .inr (7, [.ref b3, .int 0])), (m0, .inl (cM, 8, .inr (.inr (.inr (.inr (fun _ => none)))))), (x0, .inr (8, [.ref t0, .ref m0, .ref sb, .int 0, .int 0, .int ((-1))])), (hm, .inr (11, fs)), (a0, .inl (cZ, 8, .inl (fun _ => 0))), (a8, .inl (c8, 248, .inl (fun _ => 0))), (a9, .inl (c9, 400, .inl (fun _ => 0))), (a29, .inl (c29, 4, .inl (fun _ => 0)))] H) (hD : va_D A [(ho, .inr (10, [.ref t0, .ref r0, .ref m0, .ref x0, v4, v5, v6, v7, v8, .int 0, .int ((-1)), .int 0])), (t0, .inr (7, [.ref tb, .int 0])), (tb, .inl (cT, 400, .inl (fun _ => 0))), (r0, .inl (cR, 4, .inr (.inr (.inr (.inr fR))))), (q0, .inr (7, [.ref b0, .int 0])), (q1, .inr (7, [.ref b1, .int 0])), (q2, .inr (7, [.ref b2, .int 0])), (q3, .inr (7, [.ref b3, .int 0])), (m0, .inl (cM, 8, .inr (.inr (.inr (.inr (fun _ => none)))))), (x0, .inr (8, [.ref t0, .ref m0, .ref sb, .int 0, .int 0, .int ((-1))])), (hm, .inr (11, fs)), (a0, .inl (cZ, 8, .inl (fun _ => 0))), (a8, .inl (c8, 248, .inl (fun _ => 0))), (a9, .inl (c9, 400, .inl (fun _ => 0))), (a29, .inl (c29, 4, .inl (fun _ => 0)))]) (hS : va_S A s.heap H locs) (ls : Array Slot) (hl : lv_has ls 4 [(3, .int 0), (2, .ref hm), (1, .ref ho), (0, .ref b)]) : W p l e room_1 s m #[Value.ref b] below meth c H locs 74 12530 (lw_Z below #[Value.ref b] s) (F0 m 222 ls []) := by
  obtain ⟨hx, hb, hr, hml, hown, hts, hX, hbl, hlocks, hgv⟩ := C0
  refine lv_aload_n hx hb dL_law_222 rfl (lv_at hl 2 rfl) ?_
  refine lv_aload_n hx hb dL_law_223 rfl (lv_at hl 3 rfl) ?_
  refine lv_iload_n hx hb dL_law_224 rfl (lv_at hl 0 rfl) ?_
  refine lv_iconst (v := 1) hx hb dL_law_225 (by decide) ?_
  refine lv_iadd hx hb dL_law_226 ?_
  refine W_toi (y := 1) (by decide) ?_
  refine va_sld hx hb hX hbl hbA hS (by unfold vp_in; decide) dL_law_227 ?_
  refine W_toi (y := xs 1) rfl ?_
  have hFc := va_free (wc := [(ho, .inr (10, [.ref t0, .ref r0, .ref m0, .ref x0, v4, v5, v6, v7, v8, .int 0, .int ((-1)), .int 0])), (m0, .inl (cM, 8, .inr (.inr (.inr (.inr (fun _ => none)))))), (t0, .inr (7, [.ref tb, .int 0])), (x0, .inr (8, [.ref t0, .ref m0, .ref sb, .int 0, .int 0, .int ((-1))]))]) hD hS hA [0, 8, 1, 9] rfl
  refine va_calli (va_runV (As := [.int (xs 1)]) (rest := []) ⟨hx, hb, hml, hown, hts⟩ (c_X8_make l dC dI ho t0 r0 m0 x0 (v4) (v5) (v6) (v7) (v8) cM tb sb (xs 1) H.size) (cwV 1 hts gp_law_2_X8_make_23 rfl rfl rfl (by decide +kernel) ⟨Nat.le_of_ble_eq_true rfl, Nat.le_of_ble_eq_true rfl⟩) ⟨Pr.blind _, va_recv hK hP (ci := 10) (q0 := 0) rfl rfl, fun U hU hW => ⟨rfl, Pr.at (hP.sub (ws' := [(ho, .inr (10, [.ref t0, .ref r0, .ref m0, .ref x0, v4, v5, v6, v7, v8, .int 0, .int ((-1)), .int 0])), (m0, .inl (cM, 8, .inr (.inr (.inr (.inr (fun _ => none)))))), (t0, .inr (7, [.ref tb, .int 0])), (x0, .inr (8, [.ref t0, .ref m0, .ref sb, .int 0, .int 0, .int ((-1))]))]) [0, 8, 1, 9] rfl) (hK.sub (tys' := [(cM, .object RX1)]) [2] rfl) (hD.sub (ws' := [(ho, .inr (10, [.ref t0, .ref r0, .ref m0, .ref x0, v4, v5, v6, v7, v8, .int 0, .int ((-1)), .int 0])), (m0, .inl (cM, 8, .inr (.inr (.inr (.inr (fun _ => none)))))), (t0, .inr (7, [.ref tb, .int 0])), (x0, .inr (8, [.ref t0, .ref m0, .ref sb, .int 0, .int 0, .int ((-1))]))]) [0, 8, 1, 9] (by decide) rfl) hN hZ hS hFc hU hW⟩⟩ rfl rfl hl.1 rfl (lv_room (Nat.le_of_ble_eq_true rfl)) dL_law_228 ⟨Nat.le_of_ble_eq_true rfl, Nat.le_of_ble_eq_true rfl⟩) hS (fun q _ h => hFc q h) hFc (fun r_1 u t H1 locs ht hvm hw_2 hB hz1 hk1 hS => ?_)
  obtain ⟨hP, hD, hK⟩ := Bq.join (wr := [(tb, .inl (cT, 400, .inl (fun _ => 0))), (r0, .inl (cR, 4, .inr (.inr (.inr (.inr fR))))), (q0, .inr (7, [.ref b0, .int 0])), (q1, .inr (7, [.ref b1, .int 0])), (q2, .inr (7, [.ref b2, .int 0])), (q3, .inr (7, [.ref b3, .int 0])), (hm, .inr (11, fs)), (a0, .inl (cZ, 8, .inl (fun _ => 0))), (a8, .inl (c8, 248, .inl (fun _ => 0))), (a9, .inl (c9, 400, .inl (fun _ => 0))), (a29, .inl (c29, 4, .inl (fun _ => 0)))]) hB ht hvm hP hD [0, 8, 1, 9] [2, 3, 4, 5, 6, 7, 10, 11, 12, 13, 14] rfl rfl (by decide) (by decide) hk1 hFc hK
  generalize H1 = H at hP hS ⊢
  have hP : va_P (dC, dI) vwCl [(tb, .inl (cT, 400, .inl (fun _ => 0))), (r0, .inl (cR, 4, .inr (.inr (.inr (.inr fR))))), (q0, .inr (7, [.ref b0, .int 0])), (q1, .inr (7, [.ref b1, .int 0])), (q2, .inr (7, [.ref b2, .int 0])), (q3, .inr (7, [.ref b3, .int 0])), (hm, .inr (11, fs)), (a0, .inl (cZ, 8, .inl (fun _ => 0))), (a8, .inl (c8, 248, .inl (fun _ => 0))), (a9, .inl (c9, 400, .inl (fun _ => 0))), (a29, .inl (c29, 4, .inl (fun _ => 0)))] H := hP
  have hD : va_D A [(tb, .inl (cT, 400, .inl (fun _ => 0))), (r0, .inl (cR, 4, .inr (.inr (.inr (.inr fR))))), (q0, .inr (7, [.ref b0, .int 0])), (q1, .inr (7, [.ref b1, .int 0])), (q2, .inr (7, [.ref b2, .int 0])), (q3, .inr (7, [.ref b3, .int 0])), (hm, .inr (11, fs)), (a0, .inl (cZ, 8, .inl (fun _ => 0))), (a8, .inl (c8, 248, .inl (fun _ => 0))), (a9, .inl (c9, 400, .inl (fun _ => 0))), (a29, .inl (c29, 4, .inl (fun _ => 0)))] := hD
  have hK : va_K (dC, dI) vwCl [(cT, .int), (cR, .object RX5), (cM, .object RX1), (cZ, .boolean), (c8, .boolean), (c9, .int), (c29, .int)] s := hK
  refine W.widen (k := 76) (n := 12563) (by omega) (by omega) ?_
  try dsimp only at hw_2
  have k_3 := hw_2
  refine W_toi (y := if (xs 1) < 0 ∨ 8 ≤ (xs 1) then -2 else 0) k_3 ?_
  refine lv_aload_n hx hb dL_law_231 rfl (lv_at hl 1 rfl) ?_
  refine lv_aload_n hx hb dL_law_232 rfl (lv_at hl 3 rfl) ?_
  refine lv_iload_n hx hb dL_law_233 rfl (lv_at hl 0 rfl) ?_
  refine lv_iconst (v := 1) hx hb dL_law_234 (by decide) ?_
  refine lv_iadd hx hb dL_law_235 ?_
  refine W_toi (y := 1) (by decide) ?_
  refine va_sld hx hb hX hbl hbA hS (by unfold vp_in; decide) dL_law_236 ?_
  refine W_toi (y := xs 1) rfl ?_
  have hFc := va_free (wc := [(hm, .inr (11, fs)), (a0, .inl (cZ, 8, .inl (fun _ => 0))), (a8, .inl (c8, 248, .inl (fun _ => 0)))]) hD hS hA [6, 7, 8] rfl
  refine va_calli (va_runV (As := [.int (xs 1)]) (rest := [.int (if (xs 1) < 0 ∨ 8 ≤ (xs 1) then -2 else 0)]) ⟨hx, hb, hml, hown, hts⟩ (c_X9_make l dC dI hm fs hfs a0 cZ a8 c8 fh0 fh8 fh10 (xs 1) H.size) (cwV 1 hts gp_law_2_X9_make_27 rfl rfl rfl (by decide +kernel) ⟨Nat.le_of_ble_eq_true rfl, Nat.le_of_ble_eq_true rfl⟩) ⟨Pr.blind _, va_recv hK hP (ci := 11) (q0 := 6) rfl rfl, fun U hU hW => ⟨rfl, Pr.at (hP.sub (ws' := [(hm, .inr (11, fs)), (a0, .inl (cZ, 8, .inl (fun _ => 0))), (a8, .inl (c8, 248, .inl (fun _ => 0)))]) [6, 7, 8] rfl) (hK.sub (tys' := [(cZ, .boolean), (c8, .boolean)]) [3, 4] rfl) (hD.sub (ws' := [(hm, .inr (11, fs)), (a0, .inl (cZ, 8, .inl (fun _ => 0))), (a8, .inl (c8, 248, .inl (fun _ => 0)))]) [6, 7, 8] (by decide) rfl) hN hZ hS hFc hU hW⟩⟩ rfl rfl hl.1 rfl (lv_room (Nat.le_of_ble_eq_true rfl)) dL_law_237 ⟨Nat.le_of_ble_eq_true rfl, Nat.le_of_ble_eq_true rfl⟩) hS (fun q _ h => hFc q h) hFc (fun r_4 u t H1 locs ht hvm hw_5 hB hz1 hk1 hS => ?_)
  obtain ⟨hP, hD, hK⟩ := Bq.join (wr := [(tb, .inl (cT, 400, .inl (fun _ => 0))), (r0, .inl (cR, 4, .inr (.inr (.inr (.inr fR))))), (q0, .inr (7, [.ref b0, .int 0])), (q1, .inr (7, [.ref b1, .int 0])), (q2, .inr (7, [.ref b2, .int 0])), (q3, .inr (7, [.ref b3, .int 0])), (a9, .inl (c9, 400, .inl (fun _ => 0))), (a29, .inl (c29, 4, .inl (fun _ => 0)))]) hB ht hvm hP hD [6, 7, 8] [0, 1, 2, 3, 4, 5, 9, 10] rfl rfl (by decide) (by decide) hk1 hFc hK
  generalize H1 = H at hP hS ⊢
  have hP : va_P (dC, dI) vwCl [(tb, .inl (cT, 400, .inl (fun _ => 0))), (r0, .inl (cR, 4, .inr (.inr (.inr (.inr fR))))), (q0, .inr (7, [.ref b0, .int 0])), (q1, .inr (7, [.ref b1, .int 0])), (q2, .inr (7, [.ref b2, .int 0])), (q3, .inr (7, [.ref b3, .int 0])), (a9, .inl (c9, 400, .inl (fun _ => 0))), (a29, .inl (c29, 4, .inl (fun _ => 0)))] H := hP
  have hD : va_D A [(tb, .inl (cT, 400, .inl (fun _ => 0))), (r0, .inl (cR, 4, .inr (.inr (.inr (.inr fR))))), (q0, .inr (7, [.ref b0, .int 0])), (q1, .inr (7, [.ref b1, .int 0])), (q2, .inr (7, [.ref b2, .int 0])), (q3, .inr (7, [.ref b3, .int 0])), (a9, .inl (c9, 400, .inl (fun _ => 0))), (a29, .inl (c29, 4, .inl (fun _ => 0)))] := hD
  have hK : va_K (dC, dI) vwCl [(cT, .int), (cR, .object RX5), (cM, .object RX1), (cZ, .boolean), (c8, .boolean), (c9, .int), (c29, .int)] s := hK
  try dsimp only at hw_5
  have k_6 := hw_5
  refine W_toi (y := if (xs 1) < 0 ∨ 8 ≤ (xs 1) then -2 else 0) k_6 ?_
  refine lv_icmp_eq (tgt := 974) hx hb dL_law_240 (by decide) (fun c_7 => ?_) (fun c_7 => absurd (rfl) c_7)
  refine lv_iinc (v := 6) (lv' := [(3, .int 6), (2, .ref hm), (1, .ref ho), (0, .ref b)]) hx hb dL_law_974 hl (k := 0) rfl (by decide) (by decide) rfl (fun ls hl => ?_)
  refine lv_goto (tgt := 18) hx hb dL_law_977 (by decide) ?_
  refine lv_iload_n hx hb dL_law_18 rfl (lv_at hl 0 rfl) ?_
  refine lv_aload_n hx hb dL_law_19 rfl (lv_at hl 3 rfl) ?_
  refine va_slen hx hb hX hbl hbA hS dL_law_20 ?_
  refine W_toi (y := 6) rfl ?_
  refine lv_bipush (v := 6) hx hb dL_law_21 (by decide) ?_
  refine lv_isub hx hb dL_law_23 ?_
  refine W_toi (y := 0) (by decide) ?_
  refine lv_icmp_gt (tgt := 980) hx hb dL_law_24 (by decide) (fun c_8 => ?_) (fun c_8 => absurd (by decide) c_8)
  refine lv_iconst (v := 1) hx hb dL_law_980 (by decide) ?_
  refine va_forget (fun q hq => hA2 _ (hS.2.2 q hq)) ?_
  refine W.widen (k := 600000) (n := 7302250) (by omega) (by omega) ?_
  exact lw_ret hx hb hr hlocks dL_law_981
set_option maxHeartbeats 4000000 in
set_option maxRecDepth 100000 in
theorem law_3 {p : Program} {e : Env} {s : State} {m : MethodId} {below : List Frame} {meth : Method} {c : Code} (l : Launch) {b : Nat} {xs : Nat → Int32} {A : Nat → Prop} (C0 : lw_At p s m meth c b 6 xs) (hA : ∀ q : Nat, s.heap.size ≤ q → A q) (hA2 : ∀ q : Nat, A q → s.heap.size ≤ q) (hbA : ¬ A b) (dC : Nat → ClassId) (dI : Nat → Nat → Nat) (hN : NX s) (hZ : cz A s s.heap) (ho : Nat) (t0 : Nat) (r0 : Nat) (m0 : Nat) (x0 : Nat) (v4 : Value) (v5 : Value) (v6 : Value) (v7 : Value) (v8 : Value) (tb : Nat) (cT : ClassId) (cR : ClassId) (fR : Nat → Option Nat) (q0 : Nat) (q1 : Nat) (q2 : Nat) (q3 : Nat) (b0 : Nat) (b1 : Nat) (b2 : Nat) (b3 : Nat) (cM : ClassId) (sb : Nat) (hq0 : fR 0 = some q0) (hq1 : fR 1 = some q1) (hq2 : fR 2 = some q2) (hq3 : fR 3 = some q3) (hm : Nat) (a0 : Nat) (cZ : ClassId) (a8 : Nat) (c8 : ClassId) (a9 : Nat) (c9 : ClassId) (a29 : Nat) (c29 : ClassId) (fs : List Value) (hfs : fs.length = 60) (fh0 : fs[0]? = some (.ref a0)) (fh8 : fs[8]? = some (.ref a8)) (fh9 : fs[9]? = some (.ref a9)) (fh10 : fs[10]? = some (.int 0)) (fh15 : fs[15]? = some (.int 0)) (fh16 : fs[16]? = some (.int ((-1)))) (fh29 : fs[29]? = some (.ref a29)) (fh59 : fs[59]? = some (.int 0)) (H : Heap) (locs : List Loc) (hK : va_K (dC, dI) vwCl [(cT, .int), (cR, .object RX5), (cM, .object RX1), (cZ, .boolean), (c8, .boolean), (c9, .int), (c29, .int)] s) (hP : va_P (dC, dI) vwCl [(ho, .inr (10, [.ref t0, .ref r0, .ref m0, .ref x0, v4, v5, v6, v7, v8, .int 0, .int ((-1)), .int 0])), (t0, .inr (7, [.ref tb, .int 0])), (tb, .inl (cT, 400, .inl (fun _ => 0))), (r0, .inl (cR, 4, .inr (.inr (.inr (.inr fR))))), (q0, .inr (7, [.ref b0, .int 0])), (q1, .inr (7, [.ref b1, .int 0])), (q2, .inr (7, [.ref b2, .int 0])), (q3, .inr (7, [.ref b3, .int 0])), (m0, .inl (cM, 8, .inr (.inr (.inr (.inr (fun _ => none)))))), (x0, .inr (8, [.ref t0, .ref m0, .ref sb, .int 0, .int 0, .int ((-1))])), (hm, .inr (11, fs)), (a0, .inl (cZ, 8, .inl (fun _ => 0))), (a8, .inl (c8, 248, .inl (fun _ => 0))), (a9, .inl (c9, 400, .inl (fun _ => 0))), (a29, .inl (c29, 4, .inl (fun _ => 0)))] H) (hD : va_D A [(ho, .inr (10, [.ref t0, .ref r0, .ref m0, .ref x0, v4, v5, v6, v7, v8, .int 0, .int ((-1)), .int 0])), (t0, .inr (7, [.ref tb, .int 0])), (tb, .inl (cT, 400, .inl (fun _ => 0))), (r0, .inl (cR, 4, .inr (.inr (.inr (.inr fR))))), (q0, .inr (7, [.ref b0, .int 0])), (q1, .inr (7, [.ref b1, .int 0])), (q2, .inr (7, [.ref b2, .int 0])), (q3, .inr (7, [.ref b3, .int 0])), (m0, .inl (cM, 8, .inr (.inr (.inr (.inr (fun _ => none)))))), (x0, .inr (8, [.ref t0, .ref m0, .ref sb, .int 0, .int 0, .int ((-1))])), (hm, .inr (11, fs)), (a0, .inl (cZ, 8, .inl (fun _ => 0))), (a8, .inl (c8, 248, .inl (fun _ => 0))), (a9, .inl (c9, 400, .inl (fun _ => 0))), (a29, .inl (c29, 4, .inl (fun _ => 0)))]) (hS : va_S A s.heap H locs) (ls : Array Slot) (hl : lv_has ls 4 [(3, .int 0), (2, .ref hm), (1, .ref ho), (0, .ref b)]) : W p l e room_1 s m #[Value.ref b] below meth c H locs 74 12530 (lw_Z below #[Value.ref b] s) (F0 m 245 ls []) := by
  obtain ⟨hx, hb, hr, hml, hown, hts, hX, hbl, hlocks, hgv⟩ := C0
  refine lv_aload_n hx hb dL_law_245 rfl (lv_at hl 2 rfl) ?_
  refine lv_aload_n hx hb dL_law_246 rfl (lv_at hl 3 rfl) ?_
  refine lv_iload_n hx hb dL_law_247 rfl (lv_at hl 0 rfl) ?_
  refine lv_iconst (v := 1) hx hb dL_law_248 (by decide) ?_
  refine lv_iadd hx hb dL_law_249 ?_
  refine W_toi (y := 1) (by decide) ?_
  refine va_sld hx hb hX hbl hbA hS (by unfold vp_in; decide) dL_law_250 ?_
  refine W_toi (y := xs 1) rfl ?_
  have hFc := va_free (wc := [(ho, .inr (10, [.ref t0, .ref r0, .ref m0, .ref x0, v4, v5, v6, v7, v8, .int 0, .int ((-1)), .int 0]))]) hD hS hA [0] rfl
  refine va_calli (va_runV (As := [.int (xs 1)]) (rest := []) ⟨hx, hb, hml, hown, hts⟩ (c_X8_fault l dC dI ho t0 r0 m0 x0 (v4) (v5) (v6) (v7) (v8) (xs 1) H.size) (cwV 1 hts gp_law_3_X8_fault_28 rfl rfl rfl (by decide +kernel) ⟨Nat.le_of_ble_eq_true rfl, Nat.le_of_ble_eq_true rfl⟩) ⟨Pr.blind _, va_recv hK hP (ci := 10) (q0 := 0) rfl rfl, fun U hU hW => ⟨rfl, Pr.at (hP.sub (ws' := [(ho, .inr (10, [.ref t0, .ref r0, .ref m0, .ref x0, v4, v5, v6, v7, v8, .int 0, .int ((-1)), .int 0]))]) [0] rfl) (hK.sub (tys' := []) [] rfl) (hD.sub (ws' := [(ho, .inr (10, [.ref t0, .ref r0, .ref m0, .ref x0, v4, v5, v6, v7, v8, .int 0, .int ((-1)), .int 0]))]) [0] (by decide) rfl) hN hZ hS hFc hU hW⟩⟩ rfl rfl hl.1 rfl (lv_room (Nat.le_of_ble_eq_true rfl)) dL_law_251 ⟨Nat.le_of_ble_eq_true rfl, Nat.le_of_ble_eq_true rfl⟩) hS (fun q _ h => hFc q h) hFc (fun r_1 u t H1 locs ht hvm hw_2 hB hz1 hk1 hS => ?_)
  obtain ⟨hP, hD, hK⟩ := Bq.join (wr := [(t0, .inr (7, [.ref tb, .int 0])), (tb, .inl (cT, 400, .inl (fun _ => 0))), (r0, .inl (cR, 4, .inr (.inr (.inr (.inr fR))))), (q0, .inr (7, [.ref b0, .int 0])), (q1, .inr (7, [.ref b1, .int 0])), (q2, .inr (7, [.ref b2, .int 0])), (q3, .inr (7, [.ref b3, .int 0])), (m0, .inl (cM, 8, .inr (.inr (.inr (.inr (fun _ => none)))))), (x0, .inr (8, [.ref t0, .ref m0, .ref sb, .int 0, .int 0, .int ((-1))])), (hm, .inr (11, fs)), (a0, .inl (cZ, 8, .inl (fun _ => 0))), (a8, .inl (c8, 248, .inl (fun _ => 0))), (a9, .inl (c9, 400, .inl (fun _ => 0))), (a29, .inl (c29, 4, .inl (fun _ => 0)))]) hB ht hvm hP hD [0] [1, 2, 3, 4, 5, 6, 7, 8, 9, 10, 11, 12, 13, 14] rfl rfl (by decide) (by decide) hk1 hFc hK
  generalize H1 = H at hP hS ⊢
  have hP : va_P (dC, dI) vwCl [(t0, .inr (7, [.ref tb, .int 0])), (tb, .inl (cT, 400, .inl (fun _ => 0))), (r0, .inl (cR, 4, .inr (.inr (.inr (.inr fR))))), (q0, .inr (7, [.ref b0, .int 0])), (q1, .inr (7, [.ref b1, .int 0])), (q2, .inr (7, [.ref b2, .int 0])), (q3, .inr (7, [.ref b3, .int 0])), (m0, .inl (cM, 8, .inr (.inr (.inr (.inr (fun _ => none)))))), (x0, .inr (8, [.ref t0, .ref m0, .ref sb, .int 0, .int 0, .int ((-1))])), (hm, .inr (11, fs)), (a0, .inl (cZ, 8, .inl (fun _ => 0))), (a8, .inl (c8, 248, .inl (fun _ => 0))), (a9, .inl (c9, 400, .inl (fun _ => 0))), (a29, .inl (c29, 4, .inl (fun _ => 0)))] H := hP
  have hD : va_D A [(t0, .inr (7, [.ref tb, .int 0])), (tb, .inl (cT, 400, .inl (fun _ => 0))), (r0, .inl (cR, 4, .inr (.inr (.inr (.inr fR))))), (q0, .inr (7, [.ref b0, .int 0])), (q1, .inr (7, [.ref b1, .int 0])), (q2, .inr (7, [.ref b2, .int 0])), (q3, .inr (7, [.ref b3, .int 0])), (m0, .inl (cM, 8, .inr (.inr (.inr (.inr (fun _ => none)))))), (x0, .inr (8, [.ref t0, .ref m0, .ref sb, .int 0, .int 0, .int ((-1))])), (hm, .inr (11, fs)), (a0, .inl (cZ, 8, .inl (fun _ => 0))), (a8, .inl (c8, 248, .inl (fun _ => 0))), (a9, .inl (c9, 400, .inl (fun _ => 0))), (a29, .inl (c29, 4, .inl (fun _ => 0)))] := hD
  have hK : va_K (dC, dI) vwCl [(cT, .int), (cR, .object RX5), (cM, .object RX1), (cZ, .boolean), (c8, .boolean), (c9, .int), (c29, .int)] s := hK
  try dsimp only at hw_2
  have k_3 := hw_2
  refine W_toi (y := if (xs 1) = 0 then 0 else -1) k_3 ?_
  refine lv_aload_n hx hb dL_law_254 rfl (lv_at hl 1 rfl) ?_
  refine lv_aload_n hx hb dL_law_255 rfl (lv_at hl 3 rfl) ?_
  refine lv_iload_n hx hb dL_law_256 rfl (lv_at hl 0 rfl) ?_
  refine lv_iconst (v := 1) hx hb dL_law_257 (by decide) ?_
  refine lv_iadd hx hb dL_law_258 ?_
  refine W_toi (y := 1) (by decide) ?_
  refine va_sld hx hb hX hbl hbA hS (by unfold vp_in; decide) dL_law_259 ?_
  refine W_toi (y := xs 1) rfl ?_
  have hFc := va_free (wc := [(hm, .inr (11, fs))]) hD hS hA [9] rfl
  refine va_calli (va_runV (As := [.int (xs 1)]) (rest := [.int (if (xs 1) = 0 then 0 else -1)]) ⟨hx, hb, hml, hown, hts⟩ (c_X9_fault l dC dI hm fs hfs fh15 fh16 (xs 1) H.size) (cwV 1 hts gp_law_3_X9_fault_31 rfl rfl rfl (by decide +kernel) ⟨Nat.le_of_ble_eq_true rfl, Nat.le_of_ble_eq_true rfl⟩) ⟨Pr.blind _, va_recv hK hP (ci := 11) (q0 := 9) rfl rfl, fun U hU hW => ⟨rfl, Pr.at (hP.sub (ws' := [(hm, .inr (11, fs))]) [9] rfl) (hK.sub (tys' := []) [] rfl) (hD.sub (ws' := [(hm, .inr (11, fs))]) [9] (by decide) rfl) hN hZ hS hFc hU hW⟩⟩ rfl rfl hl.1 rfl (lv_room (Nat.le_of_ble_eq_true rfl)) dL_law_260 ⟨Nat.le_of_ble_eq_true rfl, Nat.le_of_ble_eq_true rfl⟩) hS (fun q _ h => hFc q h) hFc (fun r_4 u t H1 locs ht hvm hw_5 hB hz1 hk1 hS => ?_)
  obtain ⟨hP, hD, hK⟩ := Bq.join (wr := [(t0, .inr (7, [.ref tb, .int 0])), (tb, .inl (cT, 400, .inl (fun _ => 0))), (r0, .inl (cR, 4, .inr (.inr (.inr (.inr fR))))), (q0, .inr (7, [.ref b0, .int 0])), (q1, .inr (7, [.ref b1, .int 0])), (q2, .inr (7, [.ref b2, .int 0])), (q3, .inr (7, [.ref b3, .int 0])), (m0, .inl (cM, 8, .inr (.inr (.inr (.inr (fun _ => none)))))), (x0, .inr (8, [.ref t0, .ref m0, .ref sb, .int 0, .int 0, .int ((-1))])), (a0, .inl (cZ, 8, .inl (fun _ => 0))), (a8, .inl (c8, 248, .inl (fun _ => 0))), (a9, .inl (c9, 400, .inl (fun _ => 0))), (a29, .inl (c29, 4, .inl (fun _ => 0)))]) hB ht hvm hP hD [9] [0, 1, 2, 3, 4, 5, 6, 7, 8, 10, 11, 12, 13] rfl rfl (by decide) (by decide) hk1 hFc hK
  generalize H1 = H at hP hS ⊢
  have hP : va_P (dC, dI) vwCl [(t0, .inr (7, [.ref tb, .int 0])), (tb, .inl (cT, 400, .inl (fun _ => 0))), (r0, .inl (cR, 4, .inr (.inr (.inr (.inr fR))))), (q0, .inr (7, [.ref b0, .int 0])), (q1, .inr (7, [.ref b1, .int 0])), (q2, .inr (7, [.ref b2, .int 0])), (q3, .inr (7, [.ref b3, .int 0])), (m0, .inl (cM, 8, .inr (.inr (.inr (.inr (fun _ => none)))))), (x0, .inr (8, [.ref t0, .ref m0, .ref sb, .int 0, .int 0, .int ((-1))])), (a0, .inl (cZ, 8, .inl (fun _ => 0))), (a8, .inl (c8, 248, .inl (fun _ => 0))), (a9, .inl (c9, 400, .inl (fun _ => 0))), (a29, .inl (c29, 4, .inl (fun _ => 0)))] H := hP
  have hD : va_D A [(t0, .inr (7, [.ref tb, .int 0])), (tb, .inl (cT, 400, .inl (fun _ => 0))), (r0, .inl (cR, 4, .inr (.inr (.inr (.inr fR))))), (q0, .inr (7, [.ref b0, .int 0])), (q1, .inr (7, [.ref b1, .int 0])), (q2, .inr (7, [.ref b2, .int 0])), (q3, .inr (7, [.ref b3, .int 0])), (m0, .inl (cM, 8, .inr (.inr (.inr (.inr (fun _ => none)))))), (x0, .inr (8, [.ref t0, .ref m0, .ref sb, .int 0, .int 0, .int ((-1))])), (a0, .inl (cZ, 8, .inl (fun _ => 0))), (a8, .inl (c8, 248, .inl (fun _ => 0))), (a9, .inl (c9, 400, .inl (fun _ => 0))), (a29, .inl (c29, 4, .inl (fun _ => 0)))] := hD
  have hK : va_K (dC, dI) vwCl [(cT, .int), (cR, .object RX5), (cM, .object RX1), (cZ, .boolean), (c8, .boolean), (c9, .int), (c29, .int)] s := hK
  try dsimp only at hw_5
  have k_6 := hw_5
  refine W_toi (y := if (xs 1) = 0 then 0 else -1) k_6 ?_
  refine lv_icmp_eq (tgt := 974) hx hb dL_law_263 (by decide) (fun c_7 => ?_) (fun c_7 => absurd (rfl) c_7)
  refine lv_iinc (v := 6) (lv' := [(3, .int 6), (2, .ref hm), (1, .ref ho), (0, .ref b)]) hx hb dL_law_974 hl (k := 0) rfl (by decide) (by decide) rfl (fun ls hl => ?_)
  refine lv_goto (tgt := 18) hx hb dL_law_977 (by decide) ?_
  refine lv_iload_n hx hb dL_law_18 rfl (lv_at hl 0 rfl) ?_
  refine lv_aload_n hx hb dL_law_19 rfl (lv_at hl 3 rfl) ?_
  refine va_slen hx hb hX hbl hbA hS dL_law_20 ?_
  refine W_toi (y := 6) rfl ?_
  refine lv_bipush (v := 6) hx hb dL_law_21 (by decide) ?_
  refine lv_isub hx hb dL_law_23 ?_
  refine W_toi (y := 0) (by decide) ?_
  refine lv_icmp_gt (tgt := 980) hx hb dL_law_24 (by decide) (fun c_8 => ?_) (fun c_8 => absurd (by decide) c_8)
  refine lv_iconst (v := 1) hx hb dL_law_980 (by decide) ?_
  refine va_forget (fun q hq => hA2 _ (hS.2.2 q hq)) ?_
  refine W.widen (k := 600000) (n := 7302250) (by omega) (by omega) ?_
  exact lw_ret hx hb hr hlocks dL_law_981
set_option maxHeartbeats 4000000 in
set_option maxRecDepth 100000 in
theorem law_4 {p : Program} {e : Env} {s : State} {m : MethodId} {below : List Frame} {meth : Method} {c : Code} (l : Launch) {b : Nat} {xs : Nat → Int32} {A : Nat → Prop} (C0 : lw_At p s m meth c b 6 xs) (hA : ∀ q : Nat, s.heap.size ≤ q → A q) (hA2 : ∀ q : Nat, A q → s.heap.size ≤ q) (hbA : ¬ A b) (dC : Nat → ClassId) (dI : Nat → Nat → Nat) (hN : NX s) (hZ : cz A s s.heap) (ho : Nat) (t0 : Nat) (r0 : Nat) (m0 : Nat) (x0 : Nat) (v4 : Value) (v5 : Value) (v6 : Value) (v7 : Value) (v8 : Value) (tb : Nat) (cT : ClassId) (cR : ClassId) (fR : Nat → Option Nat) (q0 : Nat) (q1 : Nat) (q2 : Nat) (q3 : Nat) (b0 : Nat) (b1 : Nat) (b2 : Nat) (b3 : Nat) (cM : ClassId) (sb : Nat) (hq0 : fR 0 = some q0) (hq1 : fR 1 = some q1) (hq2 : fR 2 = some q2) (hq3 : fR 3 = some q3) (hm : Nat) (a0 : Nat) (cZ : ClassId) (a8 : Nat) (c8 : ClassId) (a9 : Nat) (c9 : ClassId) (a29 : Nat) (c29 : ClassId) (fs : List Value) (hfs : fs.length = 60) (fh0 : fs[0]? = some (.ref a0)) (fh8 : fs[8]? = some (.ref a8)) (fh9 : fs[9]? = some (.ref a9)) (fh10 : fs[10]? = some (.int 0)) (fh15 : fs[15]? = some (.int 0)) (fh16 : fs[16]? = some (.int ((-1)))) (fh29 : fs[29]? = some (.ref a29)) (fh59 : fs[59]? = some (.int 0)) (H : Heap) (locs : List Loc) (hK : va_K (dC, dI) vwCl [(cT, .int), (cR, .object RX5), (cM, .object RX1), (cZ, .boolean), (c8, .boolean), (c9, .int), (c29, .int)] s) (hP : va_P (dC, dI) vwCl [(ho, .inr (10, [.ref t0, .ref r0, .ref m0, .ref x0, v4, v5, v6, v7, v8, .int 0, .int ((-1)), .int 0])), (t0, .inr (7, [.ref tb, .int 0])), (tb, .inl (cT, 400, .inl (fun _ => 0))), (r0, .inl (cR, 4, .inr (.inr (.inr (.inr fR))))), (q0, .inr (7, [.ref b0, .int 0])), (q1, .inr (7, [.ref b1, .int 0])), (q2, .inr (7, [.ref b2, .int 0])), (q3, .inr (7, [.ref b3, .int 0])), (m0, .inl (cM, 8, .inr (.inr (.inr (.inr (fun _ => none)))))), (x0, .inr (8, [.ref t0, .ref m0, .ref sb, .int 0, .int 0, .int ((-1))])), (hm, .inr (11, fs)), (a0, .inl (cZ, 8, .inl (fun _ => 0))), (a8, .inl (c8, 248, .inl (fun _ => 0))), (a9, .inl (c9, 400, .inl (fun _ => 0))), (a29, .inl (c29, 4, .inl (fun _ => 0)))] H) (hD : va_D A [(ho, .inr (10, [.ref t0, .ref r0, .ref m0, .ref x0, v4, v5, v6, v7, v8, .int 0, .int ((-1)), .int 0])), (t0, .inr (7, [.ref tb, .int 0])), (tb, .inl (cT, 400, .inl (fun _ => 0))), (r0, .inl (cR, 4, .inr (.inr (.inr (.inr fR))))), (q0, .inr (7, [.ref b0, .int 0])), (q1, .inr (7, [.ref b1, .int 0])), (q2, .inr (7, [.ref b2, .int 0])), (q3, .inr (7, [.ref b3, .int 0])), (m0, .inl (cM, 8, .inr (.inr (.inr (.inr (fun _ => none)))))), (x0, .inr (8, [.ref t0, .ref m0, .ref sb, .int 0, .int 0, .int ((-1))])), (hm, .inr (11, fs)), (a0, .inl (cZ, 8, .inl (fun _ => 0))), (a8, .inl (c8, 248, .inl (fun _ => 0))), (a9, .inl (c9, 400, .inl (fun _ => 0))), (a29, .inl (c29, 4, .inl (fun _ => 0)))]) (hS : va_S A s.heap H locs) (ls : Array Slot) (hl : lv_has ls 4 [(3, .int 0), (2, .ref hm), (1, .ref ho), (0, .ref b)]) : W p l e room_1 s m #[Value.ref b] below meth c H locs 74 12530 (lw_Z below #[Value.ref b] s) (F0 m 268 ls []) := by
  obtain ⟨hx, hb, hr, hml, hown, hts, hX, hbl, hlocks, hgv⟩ := C0
  refine lv_aload_n hx hb dL_law_268 rfl (lv_at hl 2 rfl) ?_
  refine lv_aload_n hx hb dL_law_269 rfl (lv_at hl 3 rfl) ?_
  refine lv_iload_n hx hb dL_law_270 rfl (lv_at hl 0 rfl) ?_
  refine lv_iconst (v := 1) hx hb dL_law_271 (by decide) ?_
  refine lv_iadd hx hb dL_law_272 ?_
  refine W_toi (y := 1) (by decide) ?_
  refine va_sld hx hb hX hbl hbA hS (by unfold vp_in; decide) dL_law_273 ?_
  refine W_toi (y := xs 1) rfl ?_
  refine lv_aload_n hx hb dL_law_274 rfl (lv_at hl 3 rfl) ?_
  refine lv_iload_n hx hb dL_law_275 rfl (lv_at hl 0 rfl) ?_
  refine lv_iconst (v := 2) hx hb dL_law_276 (by decide) ?_
  refine lv_iadd hx hb dL_law_277 ?_
  refine W_toi (y := 2) (by decide) ?_
  refine va_sld hx hb hX hbl hbA hS (by unfold vp_in; decide) dL_law_278 ?_
  refine W_toi (y := xs 2) rfl ?_
  refine lv_aload_n hx hb dL_law_279 rfl (lv_at hl 3 rfl) ?_
  refine lv_iload_n hx hb dL_law_280 rfl (lv_at hl 0 rfl) ?_
  refine lv_iconst (v := 3) hx hb dL_law_281 (by decide) ?_
  refine lv_iadd hx hb dL_law_282 ?_
  refine W_toi (y := 3) (by decide) ?_
  refine va_sld hx hb hX hbl hbA hS (by unfold vp_in; decide) dL_law_283 ?_
  refine W_toi (y := xs 3) rfl ?_
  have hFc := va_free (wc := [(ho, .inr (10, [.ref t0, .ref r0, .ref m0, .ref x0, v4, v5, v6, v7, v8, .int 0, .int ((-1)), .int 0])), (m0, .inl (cM, 8, .inr (.inr (.inr (.inr (fun _ => none))))))]) hD hS hA [0, 8] rfl
  refine va_calli (va_runV (As := [.int (xs 1), .int (xs 2), .int (xs 3)]) (rest := []) ⟨hx, hb, hml, hown, hts⟩ (c_X8_field l dC dI ho t0 r0 m0 x0 (v4) (v5) (v6) (v7) (v8) cM (xs 1) (xs 2) (xs 3) H.size) (cwV 3 hts gp_law_4_X8_field_32 rfl rfl rfl (by decide +kernel) ⟨Nat.le_of_ble_eq_true rfl, Nat.le_of_ble_eq_true rfl⟩) ⟨Pr.blind _, va_recv hK hP (ci := 10) (q0 := 0) rfl rfl, fun U hU hW => ⟨rfl, Pr.at (hP.sub (ws' := [(ho, .inr (10, [.ref t0, .ref r0, .ref m0, .ref x0, v4, v5, v6, v7, v8, .int 0, .int ((-1)), .int 0])), (m0, .inl (cM, 8, .inr (.inr (.inr (.inr (fun _ => none))))))]) [0, 8] rfl) (hK.sub (tys' := [(cM, .object RX1)]) [2] rfl) (hD.sub (ws' := [(ho, .inr (10, [.ref t0, .ref r0, .ref m0, .ref x0, v4, v5, v6, v7, v8, .int 0, .int ((-1)), .int 0])), (m0, .inl (cM, 8, .inr (.inr (.inr (.inr (fun _ => none))))))]) [0, 8] (by decide) rfl) hN hZ hS hFc hU hW⟩⟩ rfl rfl hl.1 rfl (lv_room (Nat.le_of_ble_eq_true rfl)) dL_law_284 ⟨Nat.le_of_ble_eq_true rfl, Nat.le_of_ble_eq_true rfl⟩) hS (fun q _ h => hFc q h) hFc (fun r_1 u t H1 locs ht hvm hw_2 hB hz1 hk1 hS => ?_)
  obtain ⟨hP, hD, hK⟩ := Bq.join (wr := [(t0, .inr (7, [.ref tb, .int 0])), (tb, .inl (cT, 400, .inl (fun _ => 0))), (r0, .inl (cR, 4, .inr (.inr (.inr (.inr fR))))), (q0, .inr (7, [.ref b0, .int 0])), (q1, .inr (7, [.ref b1, .int 0])), (q2, .inr (7, [.ref b2, .int 0])), (q3, .inr (7, [.ref b3, .int 0])), (x0, .inr (8, [.ref t0, .ref m0, .ref sb, .int 0, .int 0, .int ((-1))])), (hm, .inr (11, fs)), (a0, .inl (cZ, 8, .inl (fun _ => 0))), (a8, .inl (c8, 248, .inl (fun _ => 0))), (a9, .inl (c9, 400, .inl (fun _ => 0))), (a29, .inl (c29, 4, .inl (fun _ => 0)))]) hB ht hvm hP hD [0, 8] [1, 2, 3, 4, 5, 6, 7, 9, 10, 11, 12, 13, 14] rfl rfl (by decide) (by decide) hk1 hFc hK
  generalize H1 = H at hP hS ⊢
  have hP : va_P (dC, dI) vwCl [(t0, .inr (7, [.ref tb, .int 0])), (tb, .inl (cT, 400, .inl (fun _ => 0))), (r0, .inl (cR, 4, .inr (.inr (.inr (.inr fR))))), (q0, .inr (7, [.ref b0, .int 0])), (q1, .inr (7, [.ref b1, .int 0])), (q2, .inr (7, [.ref b2, .int 0])), (q3, .inr (7, [.ref b3, .int 0])), (x0, .inr (8, [.ref t0, .ref m0, .ref sb, .int 0, .int 0, .int ((-1))])), (hm, .inr (11, fs)), (a0, .inl (cZ, 8, .inl (fun _ => 0))), (a8, .inl (c8, 248, .inl (fun _ => 0))), (a9, .inl (c9, 400, .inl (fun _ => 0))), (a29, .inl (c29, 4, .inl (fun _ => 0)))] H := hP
  have hD : va_D A [(t0, .inr (7, [.ref tb, .int 0])), (tb, .inl (cT, 400, .inl (fun _ => 0))), (r0, .inl (cR, 4, .inr (.inr (.inr (.inr fR))))), (q0, .inr (7, [.ref b0, .int 0])), (q1, .inr (7, [.ref b1, .int 0])), (q2, .inr (7, [.ref b2, .int 0])), (q3, .inr (7, [.ref b3, .int 0])), (x0, .inr (8, [.ref t0, .ref m0, .ref sb, .int 0, .int 0, .int ((-1))])), (hm, .inr (11, fs)), (a0, .inl (cZ, 8, .inl (fun _ => 0))), (a8, .inl (c8, 248, .inl (fun _ => 0))), (a9, .inl (c9, 400, .inl (fun _ => 0))), (a29, .inl (c29, 4, .inl (fun _ => 0)))] := hD
  have hK : va_K (dC, dI) vwCl [(cT, .int), (cR, .object RX5), (cM, .object RX1), (cZ, .boolean), (c8, .boolean), (c9, .int), (c29, .int)] s := hK
  try dsimp only at hw_2
  have k_3 := hw_2
  refine W_toi (y := -1) k_3 ?_
  refine lv_aload_n hx hb dL_law_287 rfl (lv_at hl 1 rfl) ?_
  refine lv_aload_n hx hb dL_law_288 rfl (lv_at hl 3 rfl) ?_
  refine lv_iload_n hx hb dL_law_289 rfl (lv_at hl 0 rfl) ?_
  refine lv_iconst (v := 1) hx hb dL_law_290 (by decide) ?_
  refine lv_iadd hx hb dL_law_291 ?_
  refine W_toi (y := 1) (by decide) ?_
  refine va_sld hx hb hX hbl hbA hS (by unfold vp_in; decide) dL_law_292 ?_
  refine W_toi (y := xs 1) rfl ?_
  refine lv_aload_n hx hb dL_law_293 rfl (lv_at hl 3 rfl) ?_
  refine lv_iload_n hx hb dL_law_294 rfl (lv_at hl 0 rfl) ?_
  refine lv_iconst (v := 2) hx hb dL_law_295 (by decide) ?_
  refine lv_iadd hx hb dL_law_296 ?_
  refine W_toi (y := 2) (by decide) ?_
  refine va_sld hx hb hX hbl hbA hS (by unfold vp_in; decide) dL_law_297 ?_
  refine W_toi (y := xs 2) rfl ?_
  refine lv_aload_n hx hb dL_law_298 rfl (lv_at hl 3 rfl) ?_
  refine lv_iload_n hx hb dL_law_299 rfl (lv_at hl 0 rfl) ?_
  refine lv_iconst (v := 3) hx hb dL_law_300 (by decide) ?_
  refine lv_iadd hx hb dL_law_301 ?_
  refine W_toi (y := 3) (by decide) ?_
  refine va_sld hx hb hX hbl hbA hS (by unfold vp_in; decide) dL_law_302 ?_
  refine W_toi (y := xs 3) rfl ?_
  have hFc := va_free (wc := [(hm, .inr (11, fs)), (a0, .inl (cZ, 8, .inl (fun _ => 0)))]) hD hS hA [8, 9] rfl
  refine va_calli (va_runV (As := [.int (xs 1), .int (xs 2), .int (xs 3)]) (rest := [.int (-1)]) ⟨hx, hb, hml, hown, hts⟩ (c_X9_fieldP l dC dI hm fs hfs a0 cZ fh0 (xs 1) (xs 2) (xs 3) H.size) (cwV 3 hts gp_law_4_X9_fieldP_36 rfl rfl rfl (by decide +kernel) ⟨Nat.le_of_ble_eq_true rfl, Nat.le_of_ble_eq_true rfl⟩) ⟨Pr.blind _, va_recv hK hP (ci := 11) (q0 := 8) rfl rfl, fun U hU hW => ⟨rfl, Pr.at (hP.sub (ws' := [(hm, .inr (11, fs)), (a0, .inl (cZ, 8, .inl (fun _ => 0)))]) [8, 9] rfl) (hK.sub (tys' := [(cZ, .boolean)]) [3] rfl) (hD.sub (ws' := [(hm, .inr (11, fs)), (a0, .inl (cZ, 8, .inl (fun _ => 0)))]) [8, 9] (by decide) rfl) hN hZ hS hFc hU hW⟩⟩ rfl rfl hl.1 rfl (lv_room (Nat.le_of_ble_eq_true rfl)) dL_law_303 ⟨Nat.le_of_ble_eq_true rfl, Nat.le_of_ble_eq_true rfl⟩) hS (fun q _ h => hFc q h) hFc (fun r_4 u t H1 locs ht hvm hw_5 hB hz1 hk1 hS => ?_)
  obtain ⟨hP, hD, hK⟩ := Bq.join (wr := [(t0, .inr (7, [.ref tb, .int 0])), (tb, .inl (cT, 400, .inl (fun _ => 0))), (r0, .inl (cR, 4, .inr (.inr (.inr (.inr fR))))), (q0, .inr (7, [.ref b0, .int 0])), (q1, .inr (7, [.ref b1, .int 0])), (q2, .inr (7, [.ref b2, .int 0])), (q3, .inr (7, [.ref b3, .int 0])), (x0, .inr (8, [.ref t0, .ref m0, .ref sb, .int 0, .int 0, .int ((-1))])), (a8, .inl (c8, 248, .inl (fun _ => 0))), (a9, .inl (c9, 400, .inl (fun _ => 0))), (a29, .inl (c29, 4, .inl (fun _ => 0)))]) hB ht hvm hP hD [8, 9] [0, 1, 2, 3, 4, 5, 6, 7, 10, 11, 12] rfl rfl (by decide) (by decide) hk1 hFc hK
  generalize H1 = H at hP hS ⊢
  have hP : va_P (dC, dI) vwCl [(t0, .inr (7, [.ref tb, .int 0])), (tb, .inl (cT, 400, .inl (fun _ => 0))), (r0, .inl (cR, 4, .inr (.inr (.inr (.inr fR))))), (q0, .inr (7, [.ref b0, .int 0])), (q1, .inr (7, [.ref b1, .int 0])), (q2, .inr (7, [.ref b2, .int 0])), (q3, .inr (7, [.ref b3, .int 0])), (x0, .inr (8, [.ref t0, .ref m0, .ref sb, .int 0, .int 0, .int ((-1))])), (a8, .inl (c8, 248, .inl (fun _ => 0))), (a9, .inl (c9, 400, .inl (fun _ => 0))), (a29, .inl (c29, 4, .inl (fun _ => 0)))] H := hP
  have hD : va_D A [(t0, .inr (7, [.ref tb, .int 0])), (tb, .inl (cT, 400, .inl (fun _ => 0))), (r0, .inl (cR, 4, .inr (.inr (.inr (.inr fR))))), (q0, .inr (7, [.ref b0, .int 0])), (q1, .inr (7, [.ref b1, .int 0])), (q2, .inr (7, [.ref b2, .int 0])), (q3, .inr (7, [.ref b3, .int 0])), (x0, .inr (8, [.ref t0, .ref m0, .ref sb, .int 0, .int 0, .int ((-1))])), (a8, .inl (c8, 248, .inl (fun _ => 0))), (a9, .inl (c9, 400, .inl (fun _ => 0))), (a29, .inl (c29, 4, .inl (fun _ => 0)))] := hD
  have hK : va_K (dC, dI) vwCl [(cT, .int), (cR, .object RX5), (cM, .object RX1), (cZ, .boolean), (c8, .boolean), (c9, .int), (c29, .int)] s := hK
  try dsimp only at hw_5
  have k_6 := hw_5
  refine W_toi (y := -1) k_6 ?_
  refine lv_icmp_eq (tgt := 974) hx hb dL_law_306 (by decide) (fun c_7 => ?_) (fun c_7 => absurd (by decide) c_7)
  refine lv_iinc (v := 6) (lv' := [(3, .int 6), (2, .ref hm), (1, .ref ho), (0, .ref b)]) hx hb dL_law_974 hl (k := 0) rfl (by decide) (by decide) rfl (fun ls hl => ?_)
  refine lv_goto (tgt := 18) hx hb dL_law_977 (by decide) ?_
  refine lv_iload_n hx hb dL_law_18 rfl (lv_at hl 0 rfl) ?_
  refine lv_aload_n hx hb dL_law_19 rfl (lv_at hl 3 rfl) ?_
  refine va_slen hx hb hX hbl hbA hS dL_law_20 ?_
  refine W_toi (y := 6) rfl ?_
  refine lv_bipush (v := 6) hx hb dL_law_21 (by decide) ?_
  refine lv_isub hx hb dL_law_23 ?_
  refine W_toi (y := 0) (by decide) ?_
  refine lv_icmp_gt (tgt := 980) hx hb dL_law_24 (by decide) (fun c_8 => ?_) (fun c_8 => absurd (by decide) c_8)
  refine lv_iconst (v := 1) hx hb dL_law_980 (by decide) ?_
  refine va_forget (fun q hq => hA2 _ (hS.2.2 q hq)) ?_
  refine W.widen (k := 600000) (n := 7302250) (by omega) (by omega) ?_
  exact lw_ret hx hb hr hlocks dL_law_981
set_option maxHeartbeats 4000000 in
set_option maxRecDepth 100000 in
theorem law_5 {p : Program} {e : Env} {s : State} {m : MethodId} {below : List Frame} {meth : Method} {c : Code} (l : Launch) {b : Nat} {xs : Nat → Int32} {A : Nat → Prop} (C0 : lw_At p s m meth c b 6 xs) (hA : ∀ q : Nat, s.heap.size ≤ q → A q) (hA2 : ∀ q : Nat, A q → s.heap.size ≤ q) (hbA : ¬ A b) (dC : Nat → ClassId) (dI : Nat → Nat → Nat) (hN : NX s) (hZ : cz A s s.heap) (ho : Nat) (t0 : Nat) (r0 : Nat) (m0 : Nat) (x0 : Nat) (v4 : Value) (v5 : Value) (v6 : Value) (v7 : Value) (v8 : Value) (tb : Nat) (cT : ClassId) (cR : ClassId) (fR : Nat → Option Nat) (q0 : Nat) (q1 : Nat) (q2 : Nat) (q3 : Nat) (b0 : Nat) (b1 : Nat) (b2 : Nat) (b3 : Nat) (cM : ClassId) (sb : Nat) (hq0 : fR 0 = some q0) (hq1 : fR 1 = some q1) (hq2 : fR 2 = some q2) (hq3 : fR 3 = some q3) (hm : Nat) (a0 : Nat) (cZ : ClassId) (a8 : Nat) (c8 : ClassId) (a9 : Nat) (c9 : ClassId) (a29 : Nat) (c29 : ClassId) (fs : List Value) (hfs : fs.length = 60) (fh0 : fs[0]? = some (.ref a0)) (fh8 : fs[8]? = some (.ref a8)) (fh9 : fs[9]? = some (.ref a9)) (fh10 : fs[10]? = some (.int 0)) (fh15 : fs[15]? = some (.int 0)) (fh16 : fs[16]? = some (.int ((-1)))) (fh29 : fs[29]? = some (.ref a29)) (fh59 : fs[59]? = some (.int 0)) (H : Heap) (locs : List Loc) (hK : va_K (dC, dI) vwCl [(cT, .int), (cR, .object RX5), (cM, .object RX1), (cZ, .boolean), (c8, .boolean), (c9, .int), (c29, .int)] s) (hP : va_P (dC, dI) vwCl [(ho, .inr (10, [.ref t0, .ref r0, .ref m0, .ref x0, v4, v5, v6, v7, v8, .int 0, .int ((-1)), .int 0])), (t0, .inr (7, [.ref tb, .int 0])), (tb, .inl (cT, 400, .inl (fun _ => 0))), (r0, .inl (cR, 4, .inr (.inr (.inr (.inr fR))))), (q0, .inr (7, [.ref b0, .int 0])), (q1, .inr (7, [.ref b1, .int 0])), (q2, .inr (7, [.ref b2, .int 0])), (q3, .inr (7, [.ref b3, .int 0])), (m0, .inl (cM, 8, .inr (.inr (.inr (.inr (fun _ => none)))))), (x0, .inr (8, [.ref t0, .ref m0, .ref sb, .int 0, .int 0, .int ((-1))])), (hm, .inr (11, fs)), (a0, .inl (cZ, 8, .inl (fun _ => 0))), (a8, .inl (c8, 248, .inl (fun _ => 0))), (a9, .inl (c9, 400, .inl (fun _ => 0))), (a29, .inl (c29, 4, .inl (fun _ => 0)))] H) (hD : va_D A [(ho, .inr (10, [.ref t0, .ref r0, .ref m0, .ref x0, v4, v5, v6, v7, v8, .int 0, .int ((-1)), .int 0])), (t0, .inr (7, [.ref tb, .int 0])), (tb, .inl (cT, 400, .inl (fun _ => 0))), (r0, .inl (cR, 4, .inr (.inr (.inr (.inr fR))))), (q0, .inr (7, [.ref b0, .int 0])), (q1, .inr (7, [.ref b1, .int 0])), (q2, .inr (7, [.ref b2, .int 0])), (q3, .inr (7, [.ref b3, .int 0])), (m0, .inl (cM, 8, .inr (.inr (.inr (.inr (fun _ => none)))))), (x0, .inr (8, [.ref t0, .ref m0, .ref sb, .int 0, .int 0, .int ((-1))])), (hm, .inr (11, fs)), (a0, .inl (cZ, 8, .inl (fun _ => 0))), (a8, .inl (c8, 248, .inl (fun _ => 0))), (a9, .inl (c9, 400, .inl (fun _ => 0))), (a29, .inl (c29, 4, .inl (fun _ => 0)))]) (hS : va_S A s.heap H locs) (ls : Array Slot) (hl : lv_has ls 4 [(3, .int 0), (2, .ref hm), (1, .ref ho), (0, .ref b)]) : W p l e room_1 s m #[Value.ref b] below meth c H locs 74 12530 (lw_Z below #[Value.ref b] s) (F0 m 311 ls []) := by
  obtain ⟨hx, hb, hr, hml, hown, hts, hX, hbl, hlocks, hgv⟩ := C0
  refine lv_aload_n hx hb dL_law_311 rfl (lv_at hl 2 rfl) ?_
  refine lv_aload_n hx hb dL_law_312 rfl (lv_at hl 3 rfl) ?_
  refine lv_iload_n hx hb dL_law_313 rfl (lv_at hl 0 rfl) ?_
  refine lv_iconst (v := 1) hx hb dL_law_314 (by decide) ?_
  refine lv_iadd hx hb dL_law_315 ?_
  refine W_toi (y := 1) (by decide) ?_
  refine va_sld hx hb hX hbl hbA hS (by unfold vp_in; decide) dL_law_316 ?_
  refine W_toi (y := xs 1) rfl ?_
  refine lv_aload_n hx hb dL_law_317 rfl (lv_at hl 3 rfl) ?_
  refine lv_iload_n hx hb dL_law_318 rfl (lv_at hl 0 rfl) ?_
  refine lv_iconst (v := 2) hx hb dL_law_319 (by decide) ?_
  refine lv_iadd hx hb dL_law_320 ?_
  refine W_toi (y := 2) (by decide) ?_
  refine va_sld hx hb hX hbl hbA hS (by unfold vp_in; decide) dL_law_321 ?_
  refine W_toi (y := xs 2) rfl ?_
  have hFc := va_free (wc := [(ho, .inr (10, [.ref t0, .ref r0, .ref m0, .ref x0, v4, v5, v6, v7, v8, .int 0, .int ((-1)), .int 0])), (m0, .inl (cM, 8, .inr (.inr (.inr (.inr (fun _ => none))))))]) hD hS hA [0, 8] rfl
  refine va_calll (va_runV (As := [.int (xs 1), .int (xs 2)]) (rest := []) ⟨hx, hb, hml, hown, hts⟩ (c_X8_plain l dC dI ho t0 r0 m0 x0 (v4) (v5) (v6) (v7) (v8) cM (xs 1) (xs 2) H.size) (cwV 2 hts gp_law_5_X8_plain_37 rfl rfl rfl (by decide +kernel) ⟨Nat.le_of_ble_eq_true rfl, Nat.le_of_ble_eq_true rfl⟩) ⟨Pr.blind _, va_recv hK hP (ci := 10) (q0 := 0) rfl rfl, fun U hU hW => ⟨rfl, Pr.at (hP.sub (ws' := [(ho, .inr (10, [.ref t0, .ref r0, .ref m0, .ref x0, v4, v5, v6, v7, v8, .int 0, .int ((-1)), .int 0])), (m0, .inl (cM, 8, .inr (.inr (.inr (.inr (fun _ => none))))))]) [0, 8] rfl) (hK.sub (tys' := [(cM, .object RX1)]) [2] rfl) (hD.sub (ws' := [(ho, .inr (10, [.ref t0, .ref r0, .ref m0, .ref x0, v4, v5, v6, v7, v8, .int 0, .int ((-1)), .int 0])), (m0, .inl (cM, 8, .inr (.inr (.inr (.inr (fun _ => none))))))]) [0, 8] (by decide) rfl) hN hZ hS hFc hU hW⟩⟩ rfl rfl hl.1 rfl (lv_room (Nat.le_of_ble_eq_true rfl)) dL_law_322 ⟨Nat.le_of_ble_eq_true rfl, Nat.le_of_ble_eq_true rfl⟩) hS (fun q _ h => hFc q h) hFc (fun r_1 u t H1 locs ht hvm hw_2 hB hz1 hk1 hS => ?_)
  obtain ⟨hP, hD, hK⟩ := Bq.join (wr := [(t0, .inr (7, [.ref tb, .int 0])), (tb, .inl (cT, 400, .inl (fun _ => 0))), (r0, .inl (cR, 4, .inr (.inr (.inr (.inr fR))))), (q0, .inr (7, [.ref b0, .int 0])), (q1, .inr (7, [.ref b1, .int 0])), (q2, .inr (7, [.ref b2, .int 0])), (q3, .inr (7, [.ref b3, .int 0])), (x0, .inr (8, [.ref t0, .ref m0, .ref sb, .int 0, .int 0, .int ((-1))])), (hm, .inr (11, fs)), (a0, .inl (cZ, 8, .inl (fun _ => 0))), (a8, .inl (c8, 248, .inl (fun _ => 0))), (a9, .inl (c9, 400, .inl (fun _ => 0))), (a29, .inl (c29, 4, .inl (fun _ => 0)))]) hB ht hvm hP hD [0, 8] [1, 2, 3, 4, 5, 6, 7, 9, 10, 11, 12, 13, 14] rfl rfl (by decide) (by decide) hk1 hFc hK
  generalize H1 = H at hP hS ⊢
  have hP : va_P (dC, dI) vwCl [(t0, .inr (7, [.ref tb, .int 0])), (tb, .inl (cT, 400, .inl (fun _ => 0))), (r0, .inl (cR, 4, .inr (.inr (.inr (.inr fR))))), (q0, .inr (7, [.ref b0, .int 0])), (q1, .inr (7, [.ref b1, .int 0])), (q2, .inr (7, [.ref b2, .int 0])), (q3, .inr (7, [.ref b3, .int 0])), (x0, .inr (8, [.ref t0, .ref m0, .ref sb, .int 0, .int 0, .int ((-1))])), (hm, .inr (11, fs)), (a0, .inl (cZ, 8, .inl (fun _ => 0))), (a8, .inl (c8, 248, .inl (fun _ => 0))), (a9, .inl (c9, 400, .inl (fun _ => 0))), (a29, .inl (c29, 4, .inl (fun _ => 0)))] H := hP
  have hD : va_D A [(t0, .inr (7, [.ref tb, .int 0])), (tb, .inl (cT, 400, .inl (fun _ => 0))), (r0, .inl (cR, 4, .inr (.inr (.inr (.inr fR))))), (q0, .inr (7, [.ref b0, .int 0])), (q1, .inr (7, [.ref b1, .int 0])), (q2, .inr (7, [.ref b2, .int 0])), (q3, .inr (7, [.ref b3, .int 0])), (x0, .inr (8, [.ref t0, .ref m0, .ref sb, .int 0, .int 0, .int ((-1))])), (hm, .inr (11, fs)), (a0, .inl (cZ, 8, .inl (fun _ => 0))), (a8, .inl (c8, 248, .inl (fun _ => 0))), (a9, .inl (c9, 400, .inl (fun _ => 0))), (a29, .inl (c29, 4, .inl (fun _ => 0)))] := hD
  have hK : va_K (dC, dI) vwCl [(cT, .int), (cR, .object RX5), (cM, .object RX1), (cZ, .boolean), (c8, .boolean), (c9, .int), (c29, .int)] s := hK
  try dsimp only at hw_2
  have k_3 := hw_2
  refine W_tol (y := 0) k_3 ?_
  refine lv_aload_n hx hb dL_law_325 rfl (lv_at hl 1 rfl) ?_
  refine lv_aload_n hx hb dL_law_326 rfl (lv_at hl 3 rfl) ?_
  refine lv_iload_n hx hb dL_law_327 rfl (lv_at hl 0 rfl) ?_
  refine lv_iconst (v := 1) hx hb dL_law_328 (by decide) ?_
  refine lv_iadd hx hb dL_law_329 ?_
  refine W_toi (y := 1) (by decide) ?_
  refine va_sld hx hb hX hbl hbA hS (by unfold vp_in; decide) dL_law_330 ?_
  refine W_toi (y := xs 1) rfl ?_
  refine lv_aload_n hx hb dL_law_331 rfl (lv_at hl 3 rfl) ?_
  refine lv_iload_n hx hb dL_law_332 rfl (lv_at hl 0 rfl) ?_
  refine lv_iconst (v := 2) hx hb dL_law_333 (by decide) ?_
  refine lv_iadd hx hb dL_law_334 ?_
  refine W_toi (y := 2) (by decide) ?_
  refine va_sld hx hb hX hbl hbA hS (by unfold vp_in; decide) dL_law_335 ?_
  refine W_toi (y := xs 2) rfl ?_
  have hFc := va_free (wc := [(hm, .inr (11, fs)), (a0, .inl (cZ, 8, .inl (fun _ => 0)))]) hD hS hA [8, 9] rfl
  refine va_calll (va_runV (As := [.int (xs 1), .int (xs 2)]) (rest := [.long 0]) ⟨hx, hb, hml, hown, hts⟩ (c_X9_plain l dC dI hm fs hfs a0 cZ fh0 (xs 1) (xs 2) H.size) (cwV 2 hts gp_law_5_X9_plain_41 rfl rfl rfl (by decide +kernel) ⟨Nat.le_of_ble_eq_true rfl, Nat.le_of_ble_eq_true rfl⟩) ⟨Pr.blind _, va_recv hK hP (ci := 11) (q0 := 8) rfl rfl, fun U hU hW => ⟨rfl, Pr.at (hP.sub (ws' := [(hm, .inr (11, fs)), (a0, .inl (cZ, 8, .inl (fun _ => 0)))]) [8, 9] rfl) (hK.sub (tys' := [(cZ, .boolean)]) [3] rfl) (hD.sub (ws' := [(hm, .inr (11, fs)), (a0, .inl (cZ, 8, .inl (fun _ => 0)))]) [8, 9] (by decide) rfl) hN hZ hS hFc hU hW⟩⟩ rfl rfl hl.1 rfl (lv_room (Nat.le_of_ble_eq_true rfl)) dL_law_336 ⟨Nat.le_of_ble_eq_true rfl, Nat.le_of_ble_eq_true rfl⟩) hS (fun q _ h => hFc q h) hFc (fun r_4 u t H1 locs ht hvm hw_5 hB hz1 hk1 hS => ?_)
  obtain ⟨hP, hD, hK⟩ := Bq.join (wr := [(t0, .inr (7, [.ref tb, .int 0])), (tb, .inl (cT, 400, .inl (fun _ => 0))), (r0, .inl (cR, 4, .inr (.inr (.inr (.inr fR))))), (q0, .inr (7, [.ref b0, .int 0])), (q1, .inr (7, [.ref b1, .int 0])), (q2, .inr (7, [.ref b2, .int 0])), (q3, .inr (7, [.ref b3, .int 0])), (x0, .inr (8, [.ref t0, .ref m0, .ref sb, .int 0, .int 0, .int ((-1))])), (a8, .inl (c8, 248, .inl (fun _ => 0))), (a9, .inl (c9, 400, .inl (fun _ => 0))), (a29, .inl (c29, 4, .inl (fun _ => 0)))]) hB ht hvm hP hD [8, 9] [0, 1, 2, 3, 4, 5, 6, 7, 10, 11, 12] rfl rfl (by decide) (by decide) hk1 hFc hK
  generalize H1 = H at hP hS ⊢
  have hP : va_P (dC, dI) vwCl [(t0, .inr (7, [.ref tb, .int 0])), (tb, .inl (cT, 400, .inl (fun _ => 0))), (r0, .inl (cR, 4, .inr (.inr (.inr (.inr fR))))), (q0, .inr (7, [.ref b0, .int 0])), (q1, .inr (7, [.ref b1, .int 0])), (q2, .inr (7, [.ref b2, .int 0])), (q3, .inr (7, [.ref b3, .int 0])), (x0, .inr (8, [.ref t0, .ref m0, .ref sb, .int 0, .int 0, .int ((-1))])), (a8, .inl (c8, 248, .inl (fun _ => 0))), (a9, .inl (c9, 400, .inl (fun _ => 0))), (a29, .inl (c29, 4, .inl (fun _ => 0)))] H := hP
  have hD : va_D A [(t0, .inr (7, [.ref tb, .int 0])), (tb, .inl (cT, 400, .inl (fun _ => 0))), (r0, .inl (cR, 4, .inr (.inr (.inr (.inr fR))))), (q0, .inr (7, [.ref b0, .int 0])), (q1, .inr (7, [.ref b1, .int 0])), (q2, .inr (7, [.ref b2, .int 0])), (q3, .inr (7, [.ref b3, .int 0])), (x0, .inr (8, [.ref t0, .ref m0, .ref sb, .int 0, .int 0, .int ((-1))])), (a8, .inl (c8, 248, .inl (fun _ => 0))), (a9, .inl (c9, 400, .inl (fun _ => 0))), (a29, .inl (c29, 4, .inl (fun _ => 0)))] := hD
  have hK : va_K (dC, dI) vwCl [(cT, .int), (cR, .object RX5), (cM, .object RX1), (cZ, .boolean), (c8, .boolean), (c9, .int), (c29, .int)] s := hK
  try dsimp only at hw_5
  have k_6 := hw_5
  refine W_tol (y := 0) k_6 ?_
  refine W.lcmp hx hb dL_law_339 ?_
  refine W_toi (y := 0) (by decide) ?_
  refine lv_if_eq (tgt := 974) hx hb dL_law_340 (by decide) (fun c_7 => ?_) (fun c_7 => absurd (by decide) c_7)
  refine lv_iinc (v := 6) (lv' := [(3, .int 6), (2, .ref hm), (1, .ref ho), (0, .ref b)]) hx hb dL_law_974 hl (k := 0) rfl (by decide) (by decide) rfl (fun ls hl => ?_)
  refine lv_goto (tgt := 18) hx hb dL_law_977 (by decide) ?_
  refine lv_iload_n hx hb dL_law_18 rfl (lv_at hl 0 rfl) ?_
  refine lv_aload_n hx hb dL_law_19 rfl (lv_at hl 3 rfl) ?_
  refine va_slen hx hb hX hbl hbA hS dL_law_20 ?_
  refine W_toi (y := 6) rfl ?_
  refine lv_bipush (v := 6) hx hb dL_law_21 (by decide) ?_
  refine lv_isub hx hb dL_law_23 ?_
  refine W_toi (y := 0) (by decide) ?_
  refine lv_icmp_gt (tgt := 980) hx hb dL_law_24 (by decide) (fun c_8 => ?_) (fun c_8 => absurd (by decide) c_8)
  refine lv_iconst (v := 1) hx hb dL_law_980 (by decide) ?_
  refine va_forget (fun q hq => hA2 _ (hS.2.2 q hq)) ?_
  refine W.widen (k := 600000) (n := 7302250) (by omega) (by omega) ?_
  exact lw_ret hx hb hr hlocks dL_law_981
set_option maxHeartbeats 4000000 in
set_option maxRecDepth 100000 in
theorem law_6 {p : Program} {e : Env} {s : State} {m : MethodId} {below : List Frame} {meth : Method} {c : Code} (l : Launch) {b : Nat} {xs : Nat → Int32} {A : Nat → Prop} (C0 : lw_At p s m meth c b 6 xs) (hA : ∀ q : Nat, s.heap.size ≤ q → A q) (hA2 : ∀ q : Nat, A q → s.heap.size ≤ q) (hbA : ¬ A b) (dC : Nat → ClassId) (dI : Nat → Nat → Nat) (hN : NX s) (hZ : cz A s s.heap) (ho : Nat) (t0 : Nat) (r0 : Nat) (m0 : Nat) (x0 : Nat) (v4 : Value) (v5 : Value) (v6 : Value) (v7 : Value) (v8 : Value) (tb : Nat) (cT : ClassId) (cR : ClassId) (fR : Nat → Option Nat) (q0 : Nat) (q1 : Nat) (q2 : Nat) (q3 : Nat) (b0 : Nat) (b1 : Nat) (b2 : Nat) (b3 : Nat) (cM : ClassId) (sb : Nat) (hq0 : fR 0 = some q0) (hq1 : fR 1 = some q1) (hq2 : fR 2 = some q2) (hq3 : fR 3 = some q3) (hm : Nat) (a0 : Nat) (cZ : ClassId) (a8 : Nat) (c8 : ClassId) (a9 : Nat) (c9 : ClassId) (a29 : Nat) (c29 : ClassId) (fs : List Value) (hfs : fs.length = 60) (fh0 : fs[0]? = some (.ref a0)) (fh8 : fs[8]? = some (.ref a8)) (fh9 : fs[9]? = some (.ref a9)) (fh10 : fs[10]? = some (.int 0)) (fh15 : fs[15]? = some (.int 0)) (fh16 : fs[16]? = some (.int ((-1)))) (fh29 : fs[29]? = some (.ref a29)) (fh59 : fs[59]? = some (.int 0)) (H : Heap) (locs : List Loc) (hK : va_K (dC, dI) vwCl [(cT, .int), (cR, .object RX5), (cM, .object RX1), (cZ, .boolean), (c8, .boolean), (c9, .int), (c29, .int)] s) (hP : va_P (dC, dI) vwCl [(ho, .inr (10, [.ref t0, .ref r0, .ref m0, .ref x0, v4, v5, v6, v7, v8, .int 0, .int ((-1)), .int 0])), (t0, .inr (7, [.ref tb, .int 0])), (tb, .inl (cT, 400, .inl (fun _ => 0))), (r0, .inl (cR, 4, .inr (.inr (.inr (.inr fR))))), (q0, .inr (7, [.ref b0, .int 0])), (q1, .inr (7, [.ref b1, .int 0])), (q2, .inr (7, [.ref b2, .int 0])), (q3, .inr (7, [.ref b3, .int 0])), (m0, .inl (cM, 8, .inr (.inr (.inr (.inr (fun _ => none)))))), (x0, .inr (8, [.ref t0, .ref m0, .ref sb, .int 0, .int 0, .int ((-1))])), (hm, .inr (11, fs)), (a0, .inl (cZ, 8, .inl (fun _ => 0))), (a8, .inl (c8, 248, .inl (fun _ => 0))), (a9, .inl (c9, 400, .inl (fun _ => 0))), (a29, .inl (c29, 4, .inl (fun _ => 0)))] H) (hD : va_D A [(ho, .inr (10, [.ref t0, .ref r0, .ref m0, .ref x0, v4, v5, v6, v7, v8, .int 0, .int ((-1)), .int 0])), (t0, .inr (7, [.ref tb, .int 0])), (tb, .inl (cT, 400, .inl (fun _ => 0))), (r0, .inl (cR, 4, .inr (.inr (.inr (.inr fR))))), (q0, .inr (7, [.ref b0, .int 0])), (q1, .inr (7, [.ref b1, .int 0])), (q2, .inr (7, [.ref b2, .int 0])), (q3, .inr (7, [.ref b3, .int 0])), (m0, .inl (cM, 8, .inr (.inr (.inr (.inr (fun _ => none)))))), (x0, .inr (8, [.ref t0, .ref m0, .ref sb, .int 0, .int 0, .int ((-1))])), (hm, .inr (11, fs)), (a0, .inl (cZ, 8, .inl (fun _ => 0))), (a8, .inl (c8, 248, .inl (fun _ => 0))), (a9, .inl (c9, 400, .inl (fun _ => 0))), (a29, .inl (c29, 4, .inl (fun _ => 0)))]) (hS : va_S A s.heap H locs) (ls : Array Slot) (hl : lv_has ls 4 [(3, .int 0), (2, .ref hm), (1, .ref ho), (0, .ref b)]) : W p l e room_1 s m #[Value.ref b] below meth c H locs 74 12530 (lw_Z below #[Value.ref b] s) (F0 m 345 ls []) := by
  obtain ⟨hx, hb, hr, hml, hown, hts, hX, hbl, hlocks, hgv⟩ := C0
  refine lv_aload_n hx hb dL_law_345 rfl (lv_at hl 2 rfl) ?_
  refine lv_aload_n hx hb dL_law_346 rfl (lv_at hl 3 rfl) ?_
  refine lv_iload_n hx hb dL_law_347 rfl (lv_at hl 0 rfl) ?_
  refine lv_iconst (v := 1) hx hb dL_law_348 (by decide) ?_
  refine lv_iadd hx hb dL_law_349 ?_
  refine W_toi (y := 1) (by decide) ?_
  refine va_sld hx hb hX hbl hbA hS (by unfold vp_in; decide) dL_law_350 ?_
  refine W_toi (y := xs 1) rfl ?_
  have hFc := va_free (wc := [(ho, .inr (10, [.ref t0, .ref r0, .ref m0, .ref x0, v4, v5, v6, v7, v8, .int 0, .int ((-1)), .int 0])), (r0, .inl (cR, 4, .inr (.inr (.inr (.inr fR))))), (q0, .inr (7, [.ref b0, .int 0])), (q1, .inr (7, [.ref b1, .int 0])), (q2, .inr (7, [.ref b2, .int 0])), (q3, .inr (7, [.ref b3, .int 0]))]) hD hS hA [0, 3, 4, 5, 6, 7] rfl
  refine va_calli (va_runV (As := [.int (xs 1)]) (rest := []) ⟨hx, hb, hml, hown, hts⟩ (c_X8_clear l dC dI ho t0 r0 m0 x0 (v4) (v5) (v6) (v7) (v8) cR fR q0 q1 q2 q3 b0 b1 b2 b3 (hq0) (hq1) (hq2) (hq3) (xs 1) H.size) (cwV 1 hts gp_law_6_X8_clear_42 rfl rfl rfl (by decide +kernel) ⟨Nat.le_of_ble_eq_true rfl, Nat.le_of_ble_eq_true rfl⟩) ⟨Pr.blind _, va_recv hK hP (ci := 10) (q0 := 0) rfl rfl, fun U hU hW => ⟨rfl, Pr.at (hP.sub (ws' := [(ho, .inr (10, [.ref t0, .ref r0, .ref m0, .ref x0, v4, v5, v6, v7, v8, .int 0, .int ((-1)), .int 0])), (r0, .inl (cR, 4, .inr (.inr (.inr (.inr fR))))), (q0, .inr (7, [.ref b0, .int 0])), (q1, .inr (7, [.ref b1, .int 0])), (q2, .inr (7, [.ref b2, .int 0])), (q3, .inr (7, [.ref b3, .int 0]))]) [0, 3, 4, 5, 6, 7] rfl) (hK.sub (tys' := [(cR, .object RX5)]) [1] rfl) (hD.sub (ws' := [(ho, .inr (10, [.ref t0, .ref r0, .ref m0, .ref x0, v4, v5, v6, v7, v8, .int 0, .int ((-1)), .int 0])), (r0, .inl (cR, 4, .inr (.inr (.inr (.inr fR))))), (q0, .inr (7, [.ref b0, .int 0])), (q1, .inr (7, [.ref b1, .int 0])), (q2, .inr (7, [.ref b2, .int 0])), (q3, .inr (7, [.ref b3, .int 0]))]) [0, 3, 4, 5, 6, 7] (by decide) rfl) hN hZ hS hFc hU hW⟩⟩ rfl rfl hl.1 rfl (lv_room (Nat.le_of_ble_eq_true rfl)) dL_law_351 ⟨Nat.le_of_ble_eq_true rfl, Nat.le_of_ble_eq_true rfl⟩) hS (fun q _ h => hFc q h) hFc (fun r_1 u t H1 locs ht hvm hw_2 hB hz1 hk1 hS => ?_)
  obtain ⟨hP, hD, hK⟩ := Bq.join (wr := [(t0, .inr (7, [.ref tb, .int 0])), (tb, .inl (cT, 400, .inl (fun _ => 0))), (m0, .inl (cM, 8, .inr (.inr (.inr (.inr (fun _ => none)))))), (x0, .inr (8, [.ref t0, .ref m0, .ref sb, .int 0, .int 0, .int ((-1))])), (hm, .inr (11, fs)), (a0, .inl (cZ, 8, .inl (fun _ => 0))), (a8, .inl (c8, 248, .inl (fun _ => 0))), (a9, .inl (c9, 400, .inl (fun _ => 0))), (a29, .inl (c29, 4, .inl (fun _ => 0)))]) hB ht hvm hP hD [0, 3, 4, 5, 6, 7] [1, 2, 8, 9, 10, 11, 12, 13, 14] rfl rfl (by decide) (by decide) hk1 hFc hK
  generalize H1 = H at hP hS ⊢
  have hP : va_P (dC, dI) vwCl [(t0, .inr (7, [.ref tb, .int 0])), (tb, .inl (cT, 400, .inl (fun _ => 0))), (m0, .inl (cM, 8, .inr (.inr (.inr (.inr (fun _ => none)))))), (x0, .inr (8, [.ref t0, .ref m0, .ref sb, .int 0, .int 0, .int ((-1))])), (hm, .inr (11, fs)), (a0, .inl (cZ, 8, .inl (fun _ => 0))), (a8, .inl (c8, 248, .inl (fun _ => 0))), (a9, .inl (c9, 400, .inl (fun _ => 0))), (a29, .inl (c29, 4, .inl (fun _ => 0)))] H := hP
  have hD : va_D A [(t0, .inr (7, [.ref tb, .int 0])), (tb, .inl (cT, 400, .inl (fun _ => 0))), (m0, .inl (cM, 8, .inr (.inr (.inr (.inr (fun _ => none)))))), (x0, .inr (8, [.ref t0, .ref m0, .ref sb, .int 0, .int 0, .int ((-1))])), (hm, .inr (11, fs)), (a0, .inl (cZ, 8, .inl (fun _ => 0))), (a8, .inl (c8, 248, .inl (fun _ => 0))), (a9, .inl (c9, 400, .inl (fun _ => 0))), (a29, .inl (c29, 4, .inl (fun _ => 0)))] := hD
  have hK : va_K (dC, dI) vwCl [(cT, .int), (cR, .object RX5), (cM, .object RX1), (cZ, .boolean), (c8, .boolean), (c9, .int), (c29, .int)] s := hK
  try dsimp only at hw_2
  have k_3 := hw_2
  refine W_toi (y := if (xs 1) < 0 ∨ 4 ≤ (xs 1) then -1 else 0) k_3 ?_
  refine lv_aload_n hx hb dL_law_354 rfl (lv_at hl 1 rfl) ?_
  refine lv_aload_n hx hb dL_law_355 rfl (lv_at hl 3 rfl) ?_
  refine lv_iload_n hx hb dL_law_356 rfl (lv_at hl 0 rfl) ?_
  refine lv_iconst (v := 1) hx hb dL_law_357 (by decide) ?_
  refine lv_iadd hx hb dL_law_358 ?_
  refine W_toi (y := 1) (by decide) ?_
  refine va_sld hx hb hX hbl hbA hS (by unfold vp_in; decide) dL_law_359 ?_
  refine W_toi (y := xs 1) rfl ?_
  have hFc := va_free (wc := [(hm, .inr (11, fs)), (a29, .inl (c29, 4, .inl (fun _ => 0)))]) hD hS hA [4, 8] rfl
  refine va_calli (va_runV (As := [.int (xs 1)]) (rest := [.int (if (xs 1) < 0 ∨ 4 ≤ (xs 1) then -1 else 0)]) ⟨hx, hb, hml, hown, hts⟩ (c_X9_clear l dC dI hm fs hfs a29 c29 fh29 (xs 1) H.size) (cwV 1 hts gp_law_6_X9_clear_45 rfl rfl rfl (by decide +kernel) ⟨Nat.le_of_ble_eq_true rfl, Nat.le_of_ble_eq_true rfl⟩) ⟨Pr.blind _, va_recv hK hP (ci := 11) (q0 := 4) rfl rfl, fun U hU hW => ⟨rfl, Pr.at (hP.sub (ws' := [(hm, .inr (11, fs)), (a29, .inl (c29, 4, .inl (fun _ => 0)))]) [4, 8] rfl) (hK.sub (tys' := [(c29, .int)]) [6] rfl) (hD.sub (ws' := [(hm, .inr (11, fs)), (a29, .inl (c29, 4, .inl (fun _ => 0)))]) [4, 8] (by decide) rfl) hN hZ hS hFc hU hW⟩⟩ rfl rfl hl.1 rfl (lv_room (Nat.le_of_ble_eq_true rfl)) dL_law_360 ⟨Nat.le_of_ble_eq_true rfl, Nat.le_of_ble_eq_true rfl⟩) hS (fun q _ h => hFc q h) hFc (fun r_4 u t H1 locs ht hvm hw_5 hB hz1 hk1 hS => ?_)
  obtain ⟨hP, hD, hK⟩ := Bq.join (wr := [(t0, .inr (7, [.ref tb, .int 0])), (tb, .inl (cT, 400, .inl (fun _ => 0))), (m0, .inl (cM, 8, .inr (.inr (.inr (.inr (fun _ => none)))))), (x0, .inr (8, [.ref t0, .ref m0, .ref sb, .int 0, .int 0, .int ((-1))])), (a0, .inl (cZ, 8, .inl (fun _ => 0))), (a8, .inl (c8, 248, .inl (fun _ => 0))), (a9, .inl (c9, 400, .inl (fun _ => 0)))]) hB ht hvm hP hD [4, 8] [0, 1, 2, 3, 5, 6, 7] rfl rfl (by decide) (by decide) hk1 hFc hK
  generalize H1 = H at hP hS ⊢
  have hP : va_P (dC, dI) vwCl [(t0, .inr (7, [.ref tb, .int 0])), (tb, .inl (cT, 400, .inl (fun _ => 0))), (m0, .inl (cM, 8, .inr (.inr (.inr (.inr (fun _ => none)))))), (x0, .inr (8, [.ref t0, .ref m0, .ref sb, .int 0, .int 0, .int ((-1))])), (a0, .inl (cZ, 8, .inl (fun _ => 0))), (a8, .inl (c8, 248, .inl (fun _ => 0))), (a9, .inl (c9, 400, .inl (fun _ => 0)))] H := hP
  have hD : va_D A [(t0, .inr (7, [.ref tb, .int 0])), (tb, .inl (cT, 400, .inl (fun _ => 0))), (m0, .inl (cM, 8, .inr (.inr (.inr (.inr (fun _ => none)))))), (x0, .inr (8, [.ref t0, .ref m0, .ref sb, .int 0, .int 0, .int ((-1))])), (a0, .inl (cZ, 8, .inl (fun _ => 0))), (a8, .inl (c8, 248, .inl (fun _ => 0))), (a9, .inl (c9, 400, .inl (fun _ => 0)))] := hD
  have hK : va_K (dC, dI) vwCl [(cT, .int), (cR, .object RX5), (cM, .object RX1), (cZ, .boolean), (c8, .boolean), (c9, .int), (c29, .int)] s := hK
  try dsimp only at hw_5
  have k_6 := hw_5
  refine W_toi (y := if (xs 1) < 0 ∨ 4 ≤ (xs 1) then -1 else 0) k_6 ?_
  refine lv_icmp_eq (tgt := 974) hx hb dL_law_363 (by decide) (fun c_7 => ?_) (fun c_7 => absurd (rfl) c_7)
  refine lv_iinc (v := 6) (lv' := [(3, .int 6), (2, .ref hm), (1, .ref ho), (0, .ref b)]) hx hb dL_law_974 hl (k := 0) rfl (by decide) (by decide) rfl (fun ls hl => ?_)
  refine lv_goto (tgt := 18) hx hb dL_law_977 (by decide) ?_
  refine lv_iload_n hx hb dL_law_18 rfl (lv_at hl 0 rfl) ?_
  refine lv_aload_n hx hb dL_law_19 rfl (lv_at hl 3 rfl) ?_
  refine va_slen hx hb hX hbl hbA hS dL_law_20 ?_
  refine W_toi (y := 6) rfl ?_
  refine lv_bipush (v := 6) hx hb dL_law_21 (by decide) ?_
  refine lv_isub hx hb dL_law_23 ?_
  refine W_toi (y := 0) (by decide) ?_
  refine lv_icmp_gt (tgt := 980) hx hb dL_law_24 (by decide) (fun c_8 => ?_) (fun c_8 => absurd (by decide) c_8)
  refine lv_iconst (v := 1) hx hb dL_law_980 (by decide) ?_
  refine va_forget (fun q hq => hA2 _ (hS.2.2 q hq)) ?_
  refine W.widen (k := 600000) (n := 7302250) (by omega) (by omega) ?_
  exact lw_ret hx hb hr hlocks dL_law_981
set_option maxHeartbeats 4000000 in
set_option maxRecDepth 100000 in
theorem law_7 {p : Program} {e : Env} {s : State} {m : MethodId} {below : List Frame} {meth : Method} {c : Code} (l : Launch) {b : Nat} {xs : Nat → Int32} {A : Nat → Prop} (C0 : lw_At p s m meth c b 6 xs) (hA : ∀ q : Nat, s.heap.size ≤ q → A q) (hA2 : ∀ q : Nat, A q → s.heap.size ≤ q) (hbA : ¬ A b) (dC : Nat → ClassId) (dI : Nat → Nat → Nat) (hN : NX s) (hZ : cz A s s.heap) (ho : Nat) (t0 : Nat) (r0 : Nat) (m0 : Nat) (x0 : Nat) (v4 : Value) (v5 : Value) (v6 : Value) (v7 : Value) (v8 : Value) (tb : Nat) (cT : ClassId) (cR : ClassId) (fR : Nat → Option Nat) (q0 : Nat) (q1 : Nat) (q2 : Nat) (q3 : Nat) (b0 : Nat) (b1 : Nat) (b2 : Nat) (b3 : Nat) (cM : ClassId) (sb : Nat) (hq0 : fR 0 = some q0) (hq1 : fR 1 = some q1) (hq2 : fR 2 = some q2) (hq3 : fR 3 = some q3) (hm : Nat) (a0 : Nat) (cZ : ClassId) (a8 : Nat) (c8 : ClassId) (a9 : Nat) (c9 : ClassId) (a29 : Nat) (c29 : ClassId) (fs : List Value) (hfs : fs.length = 60) (fh0 : fs[0]? = some (.ref a0)) (fh8 : fs[8]? = some (.ref a8)) (fh9 : fs[9]? = some (.ref a9)) (fh10 : fs[10]? = some (.int 0)) (fh15 : fs[15]? = some (.int 0)) (fh16 : fs[16]? = some (.int ((-1)))) (fh29 : fs[29]? = some (.ref a29)) (fh59 : fs[59]? = some (.int 0)) (H : Heap) (locs : List Loc) (hK : va_K (dC, dI) vwCl [(cT, .int), (cR, .object RX5), (cM, .object RX1), (cZ, .boolean), (c8, .boolean), (c9, .int), (c29, .int)] s) (hP : va_P (dC, dI) vwCl [(ho, .inr (10, [.ref t0, .ref r0, .ref m0, .ref x0, v4, v5, v6, v7, v8, .int 0, .int ((-1)), .int 0])), (t0, .inr (7, [.ref tb, .int 0])), (tb, .inl (cT, 400, .inl (fun _ => 0))), (r0, .inl (cR, 4, .inr (.inr (.inr (.inr fR))))), (q0, .inr (7, [.ref b0, .int 0])), (q1, .inr (7, [.ref b1, .int 0])), (q2, .inr (7, [.ref b2, .int 0])), (q3, .inr (7, [.ref b3, .int 0])), (m0, .inl (cM, 8, .inr (.inr (.inr (.inr (fun _ => none)))))), (x0, .inr (8, [.ref t0, .ref m0, .ref sb, .int 0, .int 0, .int ((-1))])), (hm, .inr (11, fs)), (a0, .inl (cZ, 8, .inl (fun _ => 0))), (a8, .inl (c8, 248, .inl (fun _ => 0))), (a9, .inl (c9, 400, .inl (fun _ => 0))), (a29, .inl (c29, 4, .inl (fun _ => 0)))] H) (hD : va_D A [(ho, .inr (10, [.ref t0, .ref r0, .ref m0, .ref x0, v4, v5, v6, v7, v8, .int 0, .int ((-1)), .int 0])), (t0, .inr (7, [.ref tb, .int 0])), (tb, .inl (cT, 400, .inl (fun _ => 0))), (r0, .inl (cR, 4, .inr (.inr (.inr (.inr fR))))), (q0, .inr (7, [.ref b0, .int 0])), (q1, .inr (7, [.ref b1, .int 0])), (q2, .inr (7, [.ref b2, .int 0])), (q3, .inr (7, [.ref b3, .int 0])), (m0, .inl (cM, 8, .inr (.inr (.inr (.inr (fun _ => none)))))), (x0, .inr (8, [.ref t0, .ref m0, .ref sb, .int 0, .int 0, .int ((-1))])), (hm, .inr (11, fs)), (a0, .inl (cZ, 8, .inl (fun _ => 0))), (a8, .inl (c8, 248, .inl (fun _ => 0))), (a9, .inl (c9, 400, .inl (fun _ => 0))), (a29, .inl (c29, 4, .inl (fun _ => 0)))]) (hS : va_S A s.heap H locs) (ls : Array Slot) (hl : lv_has ls 4 [(3, .int 0), (2, .ref hm), (1, .ref ho), (0, .ref b)]) : W p l e room_1 s m #[Value.ref b] below meth c H locs 74 12530 (lw_Z below #[Value.ref b] s) (F0 m 368 ls []) := by
  obtain ⟨hx, hb, hr, hml, hown, hts, hX, hbl, hlocks, hgv⟩ := C0
  refine lv_aload_n hx hb dL_law_368 rfl (lv_at hl 2 rfl) ?_
  refine lv_aload_n hx hb dL_law_369 rfl (lv_at hl 3 rfl) ?_
  refine lv_iload_n hx hb dL_law_370 rfl (lv_at hl 0 rfl) ?_
  refine lv_iconst (v := 1) hx hb dL_law_371 (by decide) ?_
  refine lv_iadd hx hb dL_law_372 ?_
  refine W_toi (y := 1) (by decide) ?_
  refine va_sld hx hb hX hbl hbA hS (by unfold vp_in; decide) dL_law_373 ?_
  refine W_toi (y := xs 1) rfl ?_
  have hFc := va_free (wc := [(ho, .inr (10, [.ref t0, .ref r0, .ref m0, .ref x0, v4, v5, v6, v7, v8, .int 0, .int ((-1)), .int 0])), (r0, .inl (cR, 4, .inr (.inr (.inr (.inr fR))))), (q0, .inr (7, [.ref b0, .int 0])), (q1, .inr (7, [.ref b1, .int 0])), (q2, .inr (7, [.ref b2, .int 0])), (q3, .inr (7, [.ref b3, .int 0])), (t0, .inr (7, [.ref tb, .int 0]))]) hD hS hA [0, 3, 4, 5, 6, 7, 1] rfl
  refine va_calli (va_runV (As := [.int (xs 1)]) (rest := []) ⟨hx, hb, hml, hown, hts⟩ (c_X8_load l dC dI ho t0 r0 m0 x0 (v4) (v5) (v6) (v7) (v8) cR fR q0 q1 q2 q3 b0 b1 b2 b3 tb (hq0) (hq1) (hq2) (hq3) (xs 1) H.size) (cwV 1 hts gp_law_7_X8_load_46 rfl rfl rfl (by decide +kernel) ⟨Nat.le_of_ble_eq_true rfl, Nat.le_of_ble_eq_true rfl⟩) ⟨Pr.blind _, va_recv hK hP (ci := 10) (q0 := 0) rfl rfl, fun U hU hW => ⟨rfl, Pr.at (hP.sub (ws' := [(ho, .inr (10, [.ref t0, .ref r0, .ref m0, .ref x0, v4, v5, v6, v7, v8, .int 0, .int ((-1)), .int 0])), (r0, .inl (cR, 4, .inr (.inr (.inr (.inr fR))))), (q0, .inr (7, [.ref b0, .int 0])), (q1, .inr (7, [.ref b1, .int 0])), (q2, .inr (7, [.ref b2, .int 0])), (q3, .inr (7, [.ref b3, .int 0])), (t0, .inr (7, [.ref tb, .int 0]))]) [0, 3, 4, 5, 6, 7, 1] rfl) (hK.sub (tys' := [(cR, .object RX5)]) [1] rfl) (hD.sub (ws' := [(ho, .inr (10, [.ref t0, .ref r0, .ref m0, .ref x0, v4, v5, v6, v7, v8, .int 0, .int ((-1)), .int 0])), (r0, .inl (cR, 4, .inr (.inr (.inr (.inr fR))))), (q0, .inr (7, [.ref b0, .int 0])), (q1, .inr (7, [.ref b1, .int 0])), (q2, .inr (7, [.ref b2, .int 0])), (q3, .inr (7, [.ref b3, .int 0])), (t0, .inr (7, [.ref tb, .int 0]))]) [0, 3, 4, 5, 6, 7, 1] (by decide) rfl) hN hZ hS hFc hU hW⟩⟩ rfl rfl hl.1 rfl (lv_room (Nat.le_of_ble_eq_true rfl)) dL_law_374 ⟨Nat.le_of_ble_eq_true rfl, Nat.le_of_ble_eq_true rfl⟩) hS (fun q _ h => hFc q h) hFc (fun r_1 u t H1 locs ht hvm hw_2 hB hz1 hk1 hS => ?_)
  obtain ⟨hP, hD, hK⟩ := Bq.join (wr := [(tb, .inl (cT, 400, .inl (fun _ => 0))), (m0, .inl (cM, 8, .inr (.inr (.inr (.inr (fun _ => none)))))), (x0, .inr (8, [.ref t0, .ref m0, .ref sb, .int 0, .int 0, .int ((-1))])), (hm, .inr (11, fs)), (a0, .inl (cZ, 8, .inl (fun _ => 0))), (a8, .inl (c8, 248, .inl (fun _ => 0))), (a9, .inl (c9, 400, .inl (fun _ => 0))), (a29, .inl (c29, 4, .inl (fun _ => 0)))]) hB ht hvm hP hD [0, 3, 4, 5, 6, 7, 1] [2, 8, 9, 10, 11, 12, 13, 14] rfl rfl (by decide) (by decide) hk1 hFc hK
  generalize H1 = H at hP hS ⊢
  have hP : va_P (dC, dI) vwCl [(tb, .inl (cT, 400, .inl (fun _ => 0))), (m0, .inl (cM, 8, .inr (.inr (.inr (.inr (fun _ => none)))))), (x0, .inr (8, [.ref t0, .ref m0, .ref sb, .int 0, .int 0, .int ((-1))])), (hm, .inr (11, fs)), (a0, .inl (cZ, 8, .inl (fun _ => 0))), (a8, .inl (c8, 248, .inl (fun _ => 0))), (a9, .inl (c9, 400, .inl (fun _ => 0))), (a29, .inl (c29, 4, .inl (fun _ => 0)))] H := hP
  have hD : va_D A [(tb, .inl (cT, 400, .inl (fun _ => 0))), (m0, .inl (cM, 8, .inr (.inr (.inr (.inr (fun _ => none)))))), (x0, .inr (8, [.ref t0, .ref m0, .ref sb, .int 0, .int 0, .int ((-1))])), (hm, .inr (11, fs)), (a0, .inl (cZ, 8, .inl (fun _ => 0))), (a8, .inl (c8, 248, .inl (fun _ => 0))), (a9, .inl (c9, 400, .inl (fun _ => 0))), (a29, .inl (c29, 4, .inl (fun _ => 0)))] := hD
  have hK : va_K (dC, dI) vwCl [(cT, .int), (cR, .object RX5), (cM, .object RX1), (cZ, .boolean), (c8, .boolean), (c9, .int), (c29, .int)] s := hK
  try dsimp only at hw_2
  have k_3 := hw_2
  refine W_toi (y := if (xs 1) < 0 ∨ 4 ≤ (xs 1) then -1 else 0) k_3 ?_
  refine lv_aload_n hx hb dL_law_377 rfl (lv_at hl 1 rfl) ?_
  refine lv_aload_n hx hb dL_law_378 rfl (lv_at hl 3 rfl) ?_
  refine lv_iload_n hx hb dL_law_379 rfl (lv_at hl 0 rfl) ?_
  refine lv_iconst (v := 1) hx hb dL_law_380 (by decide) ?_
  refine lv_iadd hx hb dL_law_381 ?_
  refine W_toi (y := 1) (by decide) ?_
  refine va_sld hx hb hX hbl hbA hS (by unfold vp_in; decide) dL_law_382 ?_
  refine W_toi (y := xs 1) rfl ?_
  have hFc := va_free (wc := [(hm, .inr (11, fs)), (a29, .inl (c29, 4, .inl (fun _ => 0)))]) hD hS hA [3, 7] rfl
  refine va_calli (va_runV (As := [.int (xs 1)]) (rest := [.int (if (xs 1) < 0 ∨ 4 ≤ (xs 1) then -1 else 0)]) ⟨hx, hb, hml, hown, hts⟩ (c_X9_load l dC dI hm fs hfs a29 c29 fh10 fh29 (xs 1) H.size) (cwV 1 hts gp_law_7_X9_load_49 rfl rfl rfl (by decide +kernel) ⟨Nat.le_of_ble_eq_true rfl, Nat.le_of_ble_eq_true rfl⟩) ⟨Pr.blind _, va_recv hK hP (ci := 11) (q0 := 3) rfl rfl, fun U hU hW => ⟨rfl, Pr.at (hP.sub (ws' := [(hm, .inr (11, fs)), (a29, .inl (c29, 4, .inl (fun _ => 0)))]) [3, 7] rfl) (hK.sub (tys' := [(c29, .int)]) [6] rfl) (hD.sub (ws' := [(hm, .inr (11, fs)), (a29, .inl (c29, 4, .inl (fun _ => 0)))]) [3, 7] (by decide) rfl) hN hZ hS hFc hU hW⟩⟩ rfl rfl hl.1 rfl (lv_room (Nat.le_of_ble_eq_true rfl)) dL_law_383 ⟨Nat.le_of_ble_eq_true rfl, Nat.le_of_ble_eq_true rfl⟩) hS (fun q _ h => hFc q h) hFc (fun r_4 u t H1 locs ht hvm hw_5 hB hz1 hk1 hS => ?_)
  obtain ⟨hP, hD, hK⟩ := Bq.join (wr := [(tb, .inl (cT, 400, .inl (fun _ => 0))), (m0, .inl (cM, 8, .inr (.inr (.inr (.inr (fun _ => none)))))), (x0, .inr (8, [.ref t0, .ref m0, .ref sb, .int 0, .int 0, .int ((-1))])), (a0, .inl (cZ, 8, .inl (fun _ => 0))), (a8, .inl (c8, 248, .inl (fun _ => 0))), (a9, .inl (c9, 400, .inl (fun _ => 0)))]) hB ht hvm hP hD [3, 7] [0, 1, 2, 4, 5, 6] rfl rfl (by decide) (by decide) hk1 hFc hK
  generalize H1 = H at hP hS ⊢
  have hP : va_P (dC, dI) vwCl [(tb, .inl (cT, 400, .inl (fun _ => 0))), (m0, .inl (cM, 8, .inr (.inr (.inr (.inr (fun _ => none)))))), (x0, .inr (8, [.ref t0, .ref m0, .ref sb, .int 0, .int 0, .int ((-1))])), (a0, .inl (cZ, 8, .inl (fun _ => 0))), (a8, .inl (c8, 248, .inl (fun _ => 0))), (a9, .inl (c9, 400, .inl (fun _ => 0)))] H := hP
  have hD : va_D A [(tb, .inl (cT, 400, .inl (fun _ => 0))), (m0, .inl (cM, 8, .inr (.inr (.inr (.inr (fun _ => none)))))), (x0, .inr (8, [.ref t0, .ref m0, .ref sb, .int 0, .int 0, .int ((-1))])), (a0, .inl (cZ, 8, .inl (fun _ => 0))), (a8, .inl (c8, 248, .inl (fun _ => 0))), (a9, .inl (c9, 400, .inl (fun _ => 0)))] := hD
  have hK : va_K (dC, dI) vwCl [(cT, .int), (cR, .object RX5), (cM, .object RX1), (cZ, .boolean), (c8, .boolean), (c9, .int), (c29, .int)] s := hK
  try dsimp only at hw_5
  have k_6 := hw_5
  refine W_toi (y := if (xs 1) < 0 ∨ 4 ≤ (xs 1) then -1 else 0) k_6 ?_
  refine lv_icmp_eq (tgt := 974) hx hb dL_law_386 (by decide) (fun c_7 => ?_) (fun c_7 => absurd (rfl) c_7)
  refine lv_iinc (v := 6) (lv' := [(3, .int 6), (2, .ref hm), (1, .ref ho), (0, .ref b)]) hx hb dL_law_974 hl (k := 0) rfl (by decide) (by decide) rfl (fun ls hl => ?_)
  refine lv_goto (tgt := 18) hx hb dL_law_977 (by decide) ?_
  refine lv_iload_n hx hb dL_law_18 rfl (lv_at hl 0 rfl) ?_
  refine lv_aload_n hx hb dL_law_19 rfl (lv_at hl 3 rfl) ?_
  refine va_slen hx hb hX hbl hbA hS dL_law_20 ?_
  refine W_toi (y := 6) rfl ?_
  refine lv_bipush (v := 6) hx hb dL_law_21 (by decide) ?_
  refine lv_isub hx hb dL_law_23 ?_
  refine W_toi (y := 0) (by decide) ?_
  refine lv_icmp_gt (tgt := 980) hx hb dL_law_24 (by decide) (fun c_8 => ?_) (fun c_8 => absurd (by decide) c_8)
  refine lv_iconst (v := 1) hx hb dL_law_980 (by decide) ?_
  refine va_forget (fun q hq => hA2 _ (hS.2.2 q hq)) ?_
  refine W.widen (k := 600000) (n := 7302250) (by omega) (by omega) ?_
  exact lw_ret hx hb hr hlocks dL_law_981
set_option maxHeartbeats 4000000 in
set_option maxRecDepth 100000 in
theorem law_8 {p : Program} {e : Env} {s : State} {m : MethodId} {below : List Frame} {meth : Method} {c : Code} (l : Launch) {b : Nat} {xs : Nat → Int32} {A : Nat → Prop} (C0 : lw_At p s m meth c b 6 xs) (hA : ∀ q : Nat, s.heap.size ≤ q → A q) (hA2 : ∀ q : Nat, A q → s.heap.size ≤ q) (hbA : ¬ A b) (dC : Nat → ClassId) (dI : Nat → Nat → Nat) (hN : NX s) (hZ : cz A s s.heap) (ho : Nat) (t0 : Nat) (r0 : Nat) (m0 : Nat) (x0 : Nat) (v4 : Value) (v5 : Value) (v6 : Value) (v7 : Value) (v8 : Value) (tb : Nat) (cT : ClassId) (cR : ClassId) (fR : Nat → Option Nat) (q0 : Nat) (q1 : Nat) (q2 : Nat) (q3 : Nat) (b0 : Nat) (b1 : Nat) (b2 : Nat) (b3 : Nat) (cM : ClassId) (sb : Nat) (hq0 : fR 0 = some q0) (hq1 : fR 1 = some q1) (hq2 : fR 2 = some q2) (hq3 : fR 3 = some q3) (hm : Nat) (a0 : Nat) (cZ : ClassId) (a8 : Nat) (c8 : ClassId) (a9 : Nat) (c9 : ClassId) (a29 : Nat) (c29 : ClassId) (fs : List Value) (hfs : fs.length = 60) (fh0 : fs[0]? = some (.ref a0)) (fh8 : fs[8]? = some (.ref a8)) (fh9 : fs[9]? = some (.ref a9)) (fh10 : fs[10]? = some (.int 0)) (fh15 : fs[15]? = some (.int 0)) (fh16 : fs[16]? = some (.int ((-1)))) (fh29 : fs[29]? = some (.ref a29)) (fh59 : fs[59]? = some (.int 0)) (H : Heap) (locs : List Loc) (hK : va_K (dC, dI) vwCl [(cT, .int), (cR, .object RX5), (cM, .object RX1), (cZ, .boolean), (c8, .boolean), (c9, .int), (c29, .int)] s) (hP : va_P (dC, dI) vwCl [(ho, .inr (10, [.ref t0, .ref r0, .ref m0, .ref x0, v4, v5, v6, v7, v8, .int 0, .int ((-1)), .int 0])), (t0, .inr (7, [.ref tb, .int 0])), (tb, .inl (cT, 400, .inl (fun _ => 0))), (r0, .inl (cR, 4, .inr (.inr (.inr (.inr fR))))), (q0, .inr (7, [.ref b0, .int 0])), (q1, .inr (7, [.ref b1, .int 0])), (q2, .inr (7, [.ref b2, .int 0])), (q3, .inr (7, [.ref b3, .int 0])), (m0, .inl (cM, 8, .inr (.inr (.inr (.inr (fun _ => none)))))), (x0, .inr (8, [.ref t0, .ref m0, .ref sb, .int 0, .int 0, .int ((-1))])), (hm, .inr (11, fs)), (a0, .inl (cZ, 8, .inl (fun _ => 0))), (a8, .inl (c8, 248, .inl (fun _ => 0))), (a9, .inl (c9, 400, .inl (fun _ => 0))), (a29, .inl (c29, 4, .inl (fun _ => 0)))] H) (hD : va_D A [(ho, .inr (10, [.ref t0, .ref r0, .ref m0, .ref x0, v4, v5, v6, v7, v8, .int 0, .int ((-1)), .int 0])), (t0, .inr (7, [.ref tb, .int 0])), (tb, .inl (cT, 400, .inl (fun _ => 0))), (r0, .inl (cR, 4, .inr (.inr (.inr (.inr fR))))), (q0, .inr (7, [.ref b0, .int 0])), (q1, .inr (7, [.ref b1, .int 0])), (q2, .inr (7, [.ref b2, .int 0])), (q3, .inr (7, [.ref b3, .int 0])), (m0, .inl (cM, 8, .inr (.inr (.inr (.inr (fun _ => none)))))), (x0, .inr (8, [.ref t0, .ref m0, .ref sb, .int 0, .int 0, .int ((-1))])), (hm, .inr (11, fs)), (a0, .inl (cZ, 8, .inl (fun _ => 0))), (a8, .inl (c8, 248, .inl (fun _ => 0))), (a9, .inl (c9, 400, .inl (fun _ => 0))), (a29, .inl (c29, 4, .inl (fun _ => 0)))]) (hS : va_S A s.heap H locs) (ls : Array Slot) (hl : lv_has ls 4 [(3, .int 0), (2, .ref hm), (1, .ref ho), (0, .ref b)]) : W p l e room_1 s m #[Value.ref b] below meth c H locs 74 12530 (lw_Z below #[Value.ref b] s) (F0 m 391 ls []) := by
  obtain ⟨hx, hb, hr, hml, hown, hts, hX, hbl, hlocks, hgv⟩ := C0
  refine lv_aload_n hx hb dL_law_391 rfl (lv_at hl 2 rfl) ?_
  refine lv_aload_n hx hb dL_law_392 rfl (lv_at hl 3 rfl) ?_
  refine lv_iload_n hx hb dL_law_393 rfl (lv_at hl 0 rfl) ?_
  refine lv_iconst (v := 1) hx hb dL_law_394 (by decide) ?_
  refine lv_iadd hx hb dL_law_395 ?_
  refine W_toi (y := 1) (by decide) ?_
  refine va_sld hx hb hX hbl hbA hS (by unfold vp_in; decide) dL_law_396 ?_
  refine W_toi (y := xs 1) rfl ?_
  refine lv_aload_n hx hb dL_law_397 rfl (lv_at hl 3 rfl) ?_
  refine lv_iload_n hx hb dL_law_398 rfl (lv_at hl 0 rfl) ?_
  refine lv_iconst (v := 2) hx hb dL_law_399 (by decide) ?_
  refine lv_iadd hx hb dL_law_400 ?_
  refine W_toi (y := 2) (by decide) ?_
  refine va_sld hx hb hX hbl hbA hS (by unfold vp_in; decide) dL_law_401 ?_
  refine W_toi (y := xs 2) rfl ?_
  refine lv_aload_n hx hb dL_law_402 rfl (lv_at hl 3 rfl) ?_
  refine lv_iload_n hx hb dL_law_403 rfl (lv_at hl 0 rfl) ?_
  refine lv_iconst (v := 3) hx hb dL_law_404 (by decide) ?_
  refine lv_iadd hx hb dL_law_405 ?_
  refine W_toi (y := 3) (by decide) ?_
  refine va_sld hx hb hX hbl hbA hS (by unfold vp_in; decide) dL_law_406 ?_
  refine W_toi (y := xs 3) rfl ?_
  refine lv_aload_n hx hb dL_law_407 rfl (lv_at hl 3 rfl) ?_
  refine lv_iload_n hx hb dL_law_408 rfl (lv_at hl 0 rfl) ?_
  refine lv_iconst (v := 4) hx hb dL_law_409 (by decide) ?_
  refine lv_iadd hx hb dL_law_410 ?_
  refine W_toi (y := 4) (by decide) ?_
  refine va_sld hx hb hX hbl hbA hS (by unfold vp_in; decide) dL_law_411 ?_
  refine W_toi (y := xs 4) rfl ?_
  obtain ⟨z_1, ez_1⟩ : ∃ y : Int64, y = (xs 4).toInt64 := ⟨_, rfl⟩
  refine lv_i2l (v := z_1) hx hb dL_law_412 ez_1.symm ?_
  refine lv_bipush (v := 32) hx hb dL_law_413 (by decide) ?_
  obtain ⟨z_2, ez_2⟩ : ∃ y : Int64, y = (z_1 : Int64) <<< ((32 : Int32).toInt64 &&& 63) := ⟨_, rfl⟩
  refine lv_lshl (v := z_2) hx hb dL_law_415 ez_2.symm ?_
  refine lv_aload_n hx hb dL_law_416 rfl (lv_at hl 3 rfl) ?_
  refine lv_iload_n hx hb dL_law_417 rfl (lv_at hl 0 rfl) ?_
  refine lv_iconst (v := 5) hx hb dL_law_418 (by decide) ?_
  refine lv_iadd hx hb dL_law_419 ?_
  refine W_toi (y := 5) (by decide) ?_
  refine va_sld hx hb hX hbl hbA hS (by unfold vp_in; decide) dL_law_420 ?_
  refine W_toi (y := xs 5) rfl ?_
  obtain ⟨z_3, ez_3⟩ : ∃ y : Int64, y = (xs 5).toInt64 := ⟨_, rfl⟩
  refine lv_i2l (v := z_3) hx hb dL_law_421 ez_3.symm ?_
  refine lv_ldc2 hx hb hown (hts (.constantLong RL 50 (4294967295)) (by decide +kernel)) dL_law_422 ?_
  refine lv_land hx hb dL_law_425 ?_
  refine lv_topl (fun z_4 ez_4 => ?_)
  refine lv_lor hx hb dL_law_426 ?_
  refine lv_topl (fun z_5 ez_5 => ?_)
  have hFc := va_free (wc := [(ho, .inr (10, [.ref t0, .ref r0, .ref m0, .ref x0, v4, v5, v6, v7, v8, .int 0, .int ((-1)), .int 0])), (m0, .inl (cM, 8, .inr (.inr (.inr (.inr (fun _ => none)))))), (r0, .inl (cR, 4, .inr (.inr (.inr (.inr fR)))))]) hD hS hA [0, 8, 3] rfl
  refine va_calli (va_runV (As := [.int (xs 1), .int (xs 2), .int (xs 3), .long z_5]) (rest := []) ⟨hx, hb, hml, hown, hts⟩ (c_X8_set l dC dI ho t0 r0 m0 x0 (v4) (v5) (v6) (v7) (v8) cM cR fR (xs 1) (xs 2) (xs 3) z_5 H.size) (cwV 4 hts gp_law_8_X8_set_52 rfl rfl rfl (by decide +kernel) ⟨Nat.le_of_ble_eq_true rfl, Nat.le_of_ble_eq_true rfl⟩) ⟨Pr.blind _, va_recv hK hP (ci := 10) (q0 := 0) rfl rfl, fun U hU hW => ⟨rfl, Pr.at (hP.sub (ws' := [(ho, .inr (10, [.ref t0, .ref r0, .ref m0, .ref x0, v4, v5, v6, v7, v8, .int 0, .int ((-1)), .int 0])), (m0, .inl (cM, 8, .inr (.inr (.inr (.inr (fun _ => none)))))), (r0, .inl (cR, 4, .inr (.inr (.inr (.inr fR)))))]) [0, 8, 3] rfl) (hK.sub (tys' := [(cM, .object RX1), (cR, .object RX5)]) [2, 1] rfl) (hD.sub (ws' := [(ho, .inr (10, [.ref t0, .ref r0, .ref m0, .ref x0, v4, v5, v6, v7, v8, .int 0, .int ((-1)), .int 0])), (m0, .inl (cM, 8, .inr (.inr (.inr (.inr (fun _ => none)))))), (r0, .inl (cR, 4, .inr (.inr (.inr (.inr fR)))))]) [0, 8, 3] (by decide) rfl) hN hZ hS hFc hU hW⟩⟩ rfl rfl hl.1 rfl (lv_room (Nat.le_of_ble_eq_true rfl)) dL_law_427 ⟨Nat.le_of_ble_eq_true rfl, Nat.le_of_ble_eq_true rfl⟩) hS (fun q _ h => hFc q h) hFc (fun r_6 u t H1 locs ht hvm hw_7 hB hz1 hk1 hS => ?_)
  obtain ⟨hP, hD, hK⟩ := Bq.join (wr := [(t0, .inr (7, [.ref tb, .int 0])), (tb, .inl (cT, 400, .inl (fun _ => 0))), (q0, .inr (7, [.ref b0, .int 0])), (q1, .inr (7, [.ref b1, .int 0])), (q2, .inr (7, [.ref b2, .int 0])), (q3, .inr (7, [.ref b3, .int 0])), (x0, .inr (8, [.ref t0, .ref m0, .ref sb, .int 0, .int 0, .int ((-1))])), (hm, .inr (11, fs)), (a0, .inl (cZ, 8, .inl (fun _ => 0))), (a8, .inl (c8, 248, .inl (fun _ => 0))), (a9, .inl (c9, 400, .inl (fun _ => 0))), (a29, .inl (c29, 4, .inl (fun _ => 0)))]) hB ht hvm hP hD [0, 8, 3] [1, 2, 4, 5, 6, 7, 9, 10, 11, 12, 13, 14] rfl rfl (by decide) (by decide) hk1 hFc hK
  generalize H1 = H at hP hS ⊢
  have hP : va_P (dC, dI) vwCl [(t0, .inr (7, [.ref tb, .int 0])), (tb, .inl (cT, 400, .inl (fun _ => 0))), (q0, .inr (7, [.ref b0, .int 0])), (q1, .inr (7, [.ref b1, .int 0])), (q2, .inr (7, [.ref b2, .int 0])), (q3, .inr (7, [.ref b3, .int 0])), (x0, .inr (8, [.ref t0, .ref m0, .ref sb, .int 0, .int 0, .int ((-1))])), (hm, .inr (11, fs)), (a0, .inl (cZ, 8, .inl (fun _ => 0))), (a8, .inl (c8, 248, .inl (fun _ => 0))), (a9, .inl (c9, 400, .inl (fun _ => 0))), (a29, .inl (c29, 4, .inl (fun _ => 0)))] H := hP
  have hD : va_D A [(t0, .inr (7, [.ref tb, .int 0])), (tb, .inl (cT, 400, .inl (fun _ => 0))), (q0, .inr (7, [.ref b0, .int 0])), (q1, .inr (7, [.ref b1, .int 0])), (q2, .inr (7, [.ref b2, .int 0])), (q3, .inr (7, [.ref b3, .int 0])), (x0, .inr (8, [.ref t0, .ref m0, .ref sb, .int 0, .int 0, .int ((-1))])), (hm, .inr (11, fs)), (a0, .inl (cZ, 8, .inl (fun _ => 0))), (a8, .inl (c8, 248, .inl (fun _ => 0))), (a9, .inl (c9, 400, .inl (fun _ => 0))), (a29, .inl (c29, 4, .inl (fun _ => 0)))] := hD
  have hK : va_K (dC, dI) vwCl [(cT, .int), (cR, .object RX5), (cM, .object RX1), (cZ, .boolean), (c8, .boolean), (c9, .int), (c29, .int)] s := hK
  try dsimp only at hw_7
  have k_8 := hw_7
  refine W_toi (y := -1) k_8 ?_
  refine lv_aload_n hx hb dL_law_430 rfl (lv_at hl 1 rfl) ?_
  refine lv_aload_n hx hb dL_law_431 rfl (lv_at hl 3 rfl) ?_
  refine lv_iload_n hx hb dL_law_432 rfl (lv_at hl 0 rfl) ?_
  refine lv_iconst (v := 1) hx hb dL_law_433 (by decide) ?_
  refine lv_iadd hx hb dL_law_434 ?_
  refine W_toi (y := 1) (by decide) ?_
  refine va_sld hx hb hX hbl hbA hS (by unfold vp_in; decide) dL_law_435 ?_
  refine W_toi (y := xs 1) rfl ?_
  refine lv_aload_n hx hb dL_law_436 rfl (lv_at hl 3 rfl) ?_
  refine lv_iload_n hx hb dL_law_437 rfl (lv_at hl 0 rfl) ?_
  refine lv_iconst (v := 2) hx hb dL_law_438 (by decide) ?_
  refine lv_iadd hx hb dL_law_439 ?_
  refine W_toi (y := 2) (by decide) ?_
  refine va_sld hx hb hX hbl hbA hS (by unfold vp_in; decide) dL_law_440 ?_
  refine W_toi (y := xs 2) rfl ?_
  refine lv_aload_n hx hb dL_law_441 rfl (lv_at hl 3 rfl) ?_
  refine lv_iload_n hx hb dL_law_442 rfl (lv_at hl 0 rfl) ?_
  refine lv_iconst (v := 3) hx hb dL_law_443 (by decide) ?_
  refine lv_iadd hx hb dL_law_444 ?_
  refine W_toi (y := 3) (by decide) ?_
  refine va_sld hx hb hX hbl hbA hS (by unfold vp_in; decide) dL_law_445 ?_
  refine W_toi (y := xs 3) rfl ?_
  refine lv_aload_n hx hb dL_law_446 rfl (lv_at hl 3 rfl) ?_
  refine lv_iload_n hx hb dL_law_447 rfl (lv_at hl 0 rfl) ?_
  refine lv_iconst (v := 4) hx hb dL_law_448 (by decide) ?_
  refine lv_iadd hx hb dL_law_449 ?_
  refine W_toi (y := 4) (by decide) ?_
  refine va_sld hx hb hX hbl hbA hS (by unfold vp_in; decide) dL_law_450 ?_
  refine W_toi (y := xs 4) rfl ?_
  obtain ⟨z_9, ez_9⟩ : ∃ y : Int64, y = (xs 4).toInt64 := ⟨_, rfl⟩
  refine lv_i2l (v := z_9) hx hb dL_law_451 ez_9.symm ?_
  refine lv_bipush (v := 32) hx hb dL_law_452 (by decide) ?_
  obtain ⟨z_10, ez_10⟩ : ∃ y : Int64, y = (z_9 : Int64) <<< ((32 : Int32).toInt64 &&& 63) := ⟨_, rfl⟩
  refine lv_lshl (v := z_10) hx hb dL_law_454 ez_10.symm ?_
  refine lv_aload_n hx hb dL_law_455 rfl (lv_at hl 3 rfl) ?_
  refine lv_iload_n hx hb dL_law_456 rfl (lv_at hl 0 rfl) ?_
  refine lv_iconst (v := 5) hx hb dL_law_457 (by decide) ?_
  refine lv_iadd hx hb dL_law_458 ?_
  refine W_toi (y := 5) (by decide) ?_
  refine va_sld hx hb hX hbl hbA hS (by unfold vp_in; decide) dL_law_459 ?_
  refine W_toi (y := xs 5) rfl ?_
  obtain ⟨z_11, ez_11⟩ : ∃ y : Int64, y = (xs 5).toInt64 := ⟨_, rfl⟩
  refine lv_i2l (v := z_11) hx hb dL_law_460 ez_11.symm ?_
  refine lv_ldc2 hx hb hown (hts (.constantLong RL 50 (4294967295)) (by decide +kernel)) dL_law_461 ?_
  refine lv_land hx hb dL_law_464 ?_
  refine lv_topl (fun z_12 ez_12 => ?_)
  refine lv_lor hx hb dL_law_465 ?_
  refine lv_topl (fun z_13 ez_13 => ?_)
  have hFc := va_free (wc := [(hm, .inr (11, fs)), (a0, .inl (cZ, 8, .inl (fun _ => 0)))]) hD hS hA [7, 8] rfl
  refine va_calli (va_runV (As := [.int (xs 1), .int (xs 2), .int (xs 3), .long z_13]) (rest := [.int (-1)]) ⟨hx, hb, hml, hown, hts⟩ (c_X9_set l dC dI hm fs hfs a0 cZ fh0 (xs 1) (xs 2) (xs 3) z_13 H.size) (cwV 4 hts gp_law_8_X9_set_56 rfl rfl rfl (by decide +kernel) ⟨Nat.le_of_ble_eq_true rfl, Nat.le_of_ble_eq_true rfl⟩) ⟨Pr.blind _, va_recv hK hP (ci := 11) (q0 := 7) rfl rfl, fun U hU hW => ⟨rfl, Pr.at (hP.sub (ws' := [(hm, .inr (11, fs)), (a0, .inl (cZ, 8, .inl (fun _ => 0)))]) [7, 8] rfl) (hK.sub (tys' := [(cZ, .boolean)]) [3] rfl) (hD.sub (ws' := [(hm, .inr (11, fs)), (a0, .inl (cZ, 8, .inl (fun _ => 0)))]) [7, 8] (by decide) rfl) hN hZ hS hFc hU hW⟩⟩ rfl rfl hl.1 rfl (lv_room (Nat.le_of_ble_eq_true rfl)) dL_law_466 ⟨Nat.le_of_ble_eq_true rfl, Nat.le_of_ble_eq_true rfl⟩) hS (fun q _ h => hFc q h) hFc (fun r_14 u t H1 locs ht hvm hw_15 hB hz1 hk1 hS => ?_)
  obtain ⟨hP, hD, hK⟩ := Bq.join (wr := [(t0, .inr (7, [.ref tb, .int 0])), (tb, .inl (cT, 400, .inl (fun _ => 0))), (q0, .inr (7, [.ref b0, .int 0])), (q1, .inr (7, [.ref b1, .int 0])), (q2, .inr (7, [.ref b2, .int 0])), (q3, .inr (7, [.ref b3, .int 0])), (x0, .inr (8, [.ref t0, .ref m0, .ref sb, .int 0, .int 0, .int ((-1))])), (a8, .inl (c8, 248, .inl (fun _ => 0))), (a9, .inl (c9, 400, .inl (fun _ => 0))), (a29, .inl (c29, 4, .inl (fun _ => 0)))]) hB ht hvm hP hD [7, 8] [0, 1, 2, 3, 4, 5, 6, 9, 10, 11] rfl rfl (by decide) (by decide) hk1 hFc hK
  generalize H1 = H at hP hS ⊢
  have hP : va_P (dC, dI) vwCl [(t0, .inr (7, [.ref tb, .int 0])), (tb, .inl (cT, 400, .inl (fun _ => 0))), (q0, .inr (7, [.ref b0, .int 0])), (q1, .inr (7, [.ref b1, .int 0])), (q2, .inr (7, [.ref b2, .int 0])), (q3, .inr (7, [.ref b3, .int 0])), (x0, .inr (8, [.ref t0, .ref m0, .ref sb, .int 0, .int 0, .int ((-1))])), (a8, .inl (c8, 248, .inl (fun _ => 0))), (a9, .inl (c9, 400, .inl (fun _ => 0))), (a29, .inl (c29, 4, .inl (fun _ => 0)))] H := hP
  have hD : va_D A [(t0, .inr (7, [.ref tb, .int 0])), (tb, .inl (cT, 400, .inl (fun _ => 0))), (q0, .inr (7, [.ref b0, .int 0])), (q1, .inr (7, [.ref b1, .int 0])), (q2, .inr (7, [.ref b2, .int 0])), (q3, .inr (7, [.ref b3, .int 0])), (x0, .inr (8, [.ref t0, .ref m0, .ref sb, .int 0, .int 0, .int ((-1))])), (a8, .inl (c8, 248, .inl (fun _ => 0))), (a9, .inl (c9, 400, .inl (fun _ => 0))), (a29, .inl (c29, 4, .inl (fun _ => 0)))] := hD
  have hK : va_K (dC, dI) vwCl [(cT, .int), (cR, .object RX5), (cM, .object RX1), (cZ, .boolean), (c8, .boolean), (c9, .int), (c29, .int)] s := hK
  try dsimp only at hw_15
  have k_16 := hw_15
  refine W_toi (y := -1) k_16 ?_
  refine lv_icmp_eq (tgt := 974) hx hb dL_law_469 (by decide) (fun c_17 => ?_) (fun c_17 => absurd (by decide) c_17)
  refine lv_iinc (v := 6) (lv' := [(3, .int 6), (2, .ref hm), (1, .ref ho), (0, .ref b)]) hx hb dL_law_974 hl (k := 0) rfl (by decide) (by decide) rfl (fun ls hl => ?_)
  refine lv_goto (tgt := 18) hx hb dL_law_977 (by decide) ?_
  refine lv_iload_n hx hb dL_law_18 rfl (lv_at hl 0 rfl) ?_
  refine lv_aload_n hx hb dL_law_19 rfl (lv_at hl 3 rfl) ?_
  refine va_slen hx hb hX hbl hbA hS dL_law_20 ?_
  refine W_toi (y := 6) rfl ?_
  refine lv_bipush (v := 6) hx hb dL_law_21 (by decide) ?_
  refine lv_isub hx hb dL_law_23 ?_
  refine W_toi (y := 0) (by decide) ?_
  refine lv_icmp_gt (tgt := 980) hx hb dL_law_24 (by decide) (fun c_18 => ?_) (fun c_18 => absurd (by decide) c_18)
  refine lv_iconst (v := 1) hx hb dL_law_980 (by decide) ?_
  refine va_forget (fun q hq => hA2 _ (hS.2.2 q hq)) ?_
  refine W.widen (k := 600000) (n := 7302250) (by omega) (by omega) ?_
  exact lw_ret hx hb hr hlocks dL_law_981
set_option maxHeartbeats 4000000 in
set_option maxRecDepth 100000 in
theorem law_9 {p : Program} {e : Env} {s : State} {m : MethodId} {below : List Frame} {meth : Method} {c : Code} (l : Launch) {b : Nat} {xs : Nat → Int32} {A : Nat → Prop} (C0 : lw_At p s m meth c b 6 xs) (hA : ∀ q : Nat, s.heap.size ≤ q → A q) (hA2 : ∀ q : Nat, A q → s.heap.size ≤ q) (hbA : ¬ A b) (dC : Nat → ClassId) (dI : Nat → Nat → Nat) (hN : NX s) (hZ : cz A s s.heap) (ho : Nat) (t0 : Nat) (r0 : Nat) (m0 : Nat) (x0 : Nat) (v4 : Value) (v5 : Value) (v6 : Value) (v7 : Value) (v8 : Value) (tb : Nat) (cT : ClassId) (cR : ClassId) (fR : Nat → Option Nat) (q0 : Nat) (q1 : Nat) (q2 : Nat) (q3 : Nat) (b0 : Nat) (b1 : Nat) (b2 : Nat) (b3 : Nat) (cM : ClassId) (sb : Nat) (hq0 : fR 0 = some q0) (hq1 : fR 1 = some q1) (hq2 : fR 2 = some q2) (hq3 : fR 3 = some q3) (hm : Nat) (a0 : Nat) (cZ : ClassId) (a8 : Nat) (c8 : ClassId) (a9 : Nat) (c9 : ClassId) (a29 : Nat) (c29 : ClassId) (fs : List Value) (hfs : fs.length = 60) (fh0 : fs[0]? = some (.ref a0)) (fh8 : fs[8]? = some (.ref a8)) (fh9 : fs[9]? = some (.ref a9)) (fh10 : fs[10]? = some (.int 0)) (fh15 : fs[15]? = some (.int 0)) (fh16 : fs[16]? = some (.int ((-1)))) (fh29 : fs[29]? = some (.ref a29)) (fh59 : fs[59]? = some (.int 0)) (H : Heap) (locs : List Loc) (hK : va_K (dC, dI) vwCl [(cT, .int), (cR, .object RX5), (cM, .object RX1), (cZ, .boolean), (c8, .boolean), (c9, .int), (c29, .int)] s) (hP : va_P (dC, dI) vwCl [(ho, .inr (10, [.ref t0, .ref r0, .ref m0, .ref x0, v4, v5, v6, v7, v8, .int 0, .int ((-1)), .int 0])), (t0, .inr (7, [.ref tb, .int 0])), (tb, .inl (cT, 400, .inl (fun _ => 0))), (r0, .inl (cR, 4, .inr (.inr (.inr (.inr fR))))), (q0, .inr (7, [.ref b0, .int 0])), (q1, .inr (7, [.ref b1, .int 0])), (q2, .inr (7, [.ref b2, .int 0])), (q3, .inr (7, [.ref b3, .int 0])), (m0, .inl (cM, 8, .inr (.inr (.inr (.inr (fun _ => none)))))), (x0, .inr (8, [.ref t0, .ref m0, .ref sb, .int 0, .int 0, .int ((-1))])), (hm, .inr (11, fs)), (a0, .inl (cZ, 8, .inl (fun _ => 0))), (a8, .inl (c8, 248, .inl (fun _ => 0))), (a9, .inl (c9, 400, .inl (fun _ => 0))), (a29, .inl (c29, 4, .inl (fun _ => 0)))] H) (hD : va_D A [(ho, .inr (10, [.ref t0, .ref r0, .ref m0, .ref x0, v4, v5, v6, v7, v8, .int 0, .int ((-1)), .int 0])), (t0, .inr (7, [.ref tb, .int 0])), (tb, .inl (cT, 400, .inl (fun _ => 0))), (r0, .inl (cR, 4, .inr (.inr (.inr (.inr fR))))), (q0, .inr (7, [.ref b0, .int 0])), (q1, .inr (7, [.ref b1, .int 0])), (q2, .inr (7, [.ref b2, .int 0])), (q3, .inr (7, [.ref b3, .int 0])), (m0, .inl (cM, 8, .inr (.inr (.inr (.inr (fun _ => none)))))), (x0, .inr (8, [.ref t0, .ref m0, .ref sb, .int 0, .int 0, .int ((-1))])), (hm, .inr (11, fs)), (a0, .inl (cZ, 8, .inl (fun _ => 0))), (a8, .inl (c8, 248, .inl (fun _ => 0))), (a9, .inl (c9, 400, .inl (fun _ => 0))), (a29, .inl (c29, 4, .inl (fun _ => 0)))]) (hS : va_S A s.heap H locs) (ls : Array Slot) (hl : lv_has ls 4 [(3, .int 0), (2, .ref hm), (1, .ref ho), (0, .ref b)]) : W p l e room_1 s m #[Value.ref b] below meth c H locs 74 12530 (lw_Z below #[Value.ref b] s) (F0 m 474 ls []) := by
  obtain ⟨hx, hb, hr, hml, hown, hts, hX, hbl, hlocks, hgv⟩ := C0
  refine lv_aload_n hx hb dL_law_474 rfl (lv_at hl 2 rfl) ?_
  refine lv_aload_n hx hb dL_law_475 rfl (lv_at hl 3 rfl) ?_
  refine lv_iload_n hx hb dL_law_476 rfl (lv_at hl 0 rfl) ?_
  refine lv_iconst (v := 1) hx hb dL_law_477 (by decide) ?_
  refine lv_iadd hx hb dL_law_478 ?_
  refine W_toi (y := 1) (by decide) ?_
  refine va_sld hx hb hX hbl hbA hS (by unfold vp_in; decide) dL_law_479 ?_
  refine W_toi (y := xs 1) rfl ?_
  refine lv_aload_n hx hb dL_law_480 rfl (lv_at hl 3 rfl) ?_
  refine lv_iload_n hx hb dL_law_481 rfl (lv_at hl 0 rfl) ?_
  refine lv_iconst (v := 2) hx hb dL_law_482 (by decide) ?_
  refine lv_iadd hx hb dL_law_483 ?_
  refine W_toi (y := 2) (by decide) ?_
  refine va_sld hx hb hX hbl hbA hS (by unfold vp_in; decide) dL_law_484 ?_
  refine W_toi (y := xs 2) rfl ?_
  refine lv_aload_n hx hb dL_law_485 rfl (lv_at hl 3 rfl) ?_
  refine lv_iload_n hx hb dL_law_486 rfl (lv_at hl 0 rfl) ?_
  refine lv_iconst (v := 3) hx hb dL_law_487 (by decide) ?_
  refine lv_iadd hx hb dL_law_488 ?_
  refine W_toi (y := 3) (by decide) ?_
  refine va_sld hx hb hX hbl hbA hS (by unfold vp_in; decide) dL_law_489 ?_
  refine W_toi (y := xs 3) rfl ?_
  have hFc := va_free (wc := [(ho, .inr (10, [.ref t0, .ref r0, .ref m0, .ref x0, v4, v5, v6, v7, v8, .int 0, .int ((-1)), .int 0])), (m0, .inl (cM, 8, .inr (.inr (.inr (.inr (fun _ => none)))))), (r0, .inl (cR, 4, .inr (.inr (.inr (.inr fR))))), (t0, .inr (7, [.ref tb, .int 0]))]) hD hS hA [0, 8, 3, 1] rfl
  refine va_calli (va_runV (As := [.int (xs 1), .int (xs 2), .int (xs 3)]) (rest := []) ⟨hx, hb, hml, hown, hts⟩ (c_X8_say l dC dI ho t0 r0 m0 x0 (v4) (v5) (v6) (v7) (v8) cM cR fR tb (xs 1) (xs 2) (xs 3) H.size) (cwV 3 hts gp_law_9_X8_say_57 rfl rfl rfl (by decide +kernel) ⟨Nat.le_of_ble_eq_true rfl, Nat.le_of_ble_eq_true rfl⟩) ⟨Pr.blind _, va_recv hK hP (ci := 10) (q0 := 0) rfl rfl, fun U hU hW => ⟨rfl, Pr.at (hP.sub (ws' := [(ho, .inr (10, [.ref t0, .ref r0, .ref m0, .ref x0, v4, v5, v6, v7, v8, .int 0, .int ((-1)), .int 0])), (m0, .inl (cM, 8, .inr (.inr (.inr (.inr (fun _ => none)))))), (r0, .inl (cR, 4, .inr (.inr (.inr (.inr fR))))), (t0, .inr (7, [.ref tb, .int 0]))]) [0, 8, 3, 1] rfl) (hK.sub (tys' := [(cM, .object RX1), (cR, .object RX5)]) [2, 1] rfl) (hD.sub (ws' := [(ho, .inr (10, [.ref t0, .ref r0, .ref m0, .ref x0, v4, v5, v6, v7, v8, .int 0, .int ((-1)), .int 0])), (m0, .inl (cM, 8, .inr (.inr (.inr (.inr (fun _ => none)))))), (r0, .inl (cR, 4, .inr (.inr (.inr (.inr fR))))), (t0, .inr (7, [.ref tb, .int 0]))]) [0, 8, 3, 1] (by decide) rfl) hN hZ hS hFc hU hW⟩⟩ rfl rfl hl.1 rfl (lv_room (Nat.le_of_ble_eq_true rfl)) dL_law_490 ⟨Nat.le_of_ble_eq_true rfl, Nat.le_of_ble_eq_true rfl⟩) hS (fun q _ h => hFc q h) hFc (fun r_1 u t H1 locs ht hvm hw_2 hB hz1 hk1 hS => ?_)
  obtain ⟨hP, hD, hK⟩ := Bq.join (wr := [(tb, .inl (cT, 400, .inl (fun _ => 0))), (q0, .inr (7, [.ref b0, .int 0])), (q1, .inr (7, [.ref b1, .int 0])), (q2, .inr (7, [.ref b2, .int 0])), (q3, .inr (7, [.ref b3, .int 0])), (x0, .inr (8, [.ref t0, .ref m0, .ref sb, .int 0, .int 0, .int ((-1))])), (hm, .inr (11, fs)), (a0, .inl (cZ, 8, .inl (fun _ => 0))), (a8, .inl (c8, 248, .inl (fun _ => 0))), (a9, .inl (c9, 400, .inl (fun _ => 0))), (a29, .inl (c29, 4, .inl (fun _ => 0)))]) hB ht hvm hP hD [0, 8, 3, 1] [2, 4, 5, 6, 7, 9, 10, 11, 12, 13, 14] rfl rfl (by decide) (by decide) hk1 hFc hK
  generalize H1 = H at hP hS ⊢
  have hP : va_P (dC, dI) vwCl [(tb, .inl (cT, 400, .inl (fun _ => 0))), (q0, .inr (7, [.ref b0, .int 0])), (q1, .inr (7, [.ref b1, .int 0])), (q2, .inr (7, [.ref b2, .int 0])), (q3, .inr (7, [.ref b3, .int 0])), (x0, .inr (8, [.ref t0, .ref m0, .ref sb, .int 0, .int 0, .int ((-1))])), (hm, .inr (11, fs)), (a0, .inl (cZ, 8, .inl (fun _ => 0))), (a8, .inl (c8, 248, .inl (fun _ => 0))), (a9, .inl (c9, 400, .inl (fun _ => 0))), (a29, .inl (c29, 4, .inl (fun _ => 0)))] H := hP
  have hD : va_D A [(tb, .inl (cT, 400, .inl (fun _ => 0))), (q0, .inr (7, [.ref b0, .int 0])), (q1, .inr (7, [.ref b1, .int 0])), (q2, .inr (7, [.ref b2, .int 0])), (q3, .inr (7, [.ref b3, .int 0])), (x0, .inr (8, [.ref t0, .ref m0, .ref sb, .int 0, .int 0, .int ((-1))])), (hm, .inr (11, fs)), (a0, .inl (cZ, 8, .inl (fun _ => 0))), (a8, .inl (c8, 248, .inl (fun _ => 0))), (a9, .inl (c9, 400, .inl (fun _ => 0))), (a29, .inl (c29, 4, .inl (fun _ => 0)))] := hD
  have hK : va_K (dC, dI) vwCl [(cT, .int), (cR, .object RX5), (cM, .object RX1), (cZ, .boolean), (c8, .boolean), (c9, .int), (c29, .int)] s := hK
  try dsimp only at hw_2
  have k_3 := hw_2
  refine W_toi (y := -1) k_3 ?_
  refine lv_aload_n hx hb dL_law_493 rfl (lv_at hl 1 rfl) ?_
  refine lv_aload_n hx hb dL_law_494 rfl (lv_at hl 3 rfl) ?_
  refine lv_iload_n hx hb dL_law_495 rfl (lv_at hl 0 rfl) ?_
  refine lv_iconst (v := 1) hx hb dL_law_496 (by decide) ?_
  refine lv_iadd hx hb dL_law_497 ?_
  refine W_toi (y := 1) (by decide) ?_
  refine va_sld hx hb hX hbl hbA hS (by unfold vp_in; decide) dL_law_498 ?_
  refine W_toi (y := xs 1) rfl ?_
  refine lv_aload_n hx hb dL_law_499 rfl (lv_at hl 3 rfl) ?_
  refine lv_iload_n hx hb dL_law_500 rfl (lv_at hl 0 rfl) ?_
  refine lv_iconst (v := 2) hx hb dL_law_501 (by decide) ?_
  refine lv_iadd hx hb dL_law_502 ?_
  refine W_toi (y := 2) (by decide) ?_
  refine va_sld hx hb hX hbl hbA hS (by unfold vp_in; decide) dL_law_503 ?_
  refine W_toi (y := xs 2) rfl ?_
  refine lv_aload_n hx hb dL_law_504 rfl (lv_at hl 3 rfl) ?_
  refine lv_iload_n hx hb dL_law_505 rfl (lv_at hl 0 rfl) ?_
  refine lv_iconst (v := 3) hx hb dL_law_506 (by decide) ?_
  refine lv_iadd hx hb dL_law_507 ?_
  refine W_toi (y := 3) (by decide) ?_
  refine va_sld hx hb hX hbl hbA hS (by unfold vp_in; decide) dL_law_508 ?_
  refine W_toi (y := xs 3) rfl ?_
  have hFc := va_free (wc := [(hm, .inr (11, fs)), (a0, .inl (cZ, 8, .inl (fun _ => 0)))]) hD hS hA [6, 7] rfl
  refine va_calli (va_runV (As := [.int (xs 1), .int (xs 2), .int (xs 3)]) (rest := [.int (-1)]) ⟨hx, hb, hml, hown, hts⟩ (c_X9_say l dC dI hm fs hfs a0 cZ fh0 fh10 (xs 1) (xs 2) (xs 3) H.size) (cwV 3 hts gp_law_9_X9_say_60 rfl rfl rfl (by decide +kernel) ⟨Nat.le_of_ble_eq_true rfl, Nat.le_of_ble_eq_true rfl⟩) ⟨Pr.blind _, va_recv hK hP (ci := 11) (q0 := 6) rfl rfl, fun U hU hW => ⟨rfl, Pr.at (hP.sub (ws' := [(hm, .inr (11, fs)), (a0, .inl (cZ, 8, .inl (fun _ => 0)))]) [6, 7] rfl) (hK.sub (tys' := [(cZ, .boolean)]) [3] rfl) (hD.sub (ws' := [(hm, .inr (11, fs)), (a0, .inl (cZ, 8, .inl (fun _ => 0)))]) [6, 7] (by decide) rfl) hN hZ hS hFc hU hW⟩⟩ rfl rfl hl.1 rfl (lv_room (Nat.le_of_ble_eq_true rfl)) dL_law_509 ⟨Nat.le_of_ble_eq_true rfl, Nat.le_of_ble_eq_true rfl⟩) hS (fun q _ h => hFc q h) hFc (fun r_4 u t H1 locs ht hvm hw_5 hB hz1 hk1 hS => ?_)
  obtain ⟨hP, hD, hK⟩ := Bq.join (wr := [(tb, .inl (cT, 400, .inl (fun _ => 0))), (q0, .inr (7, [.ref b0, .int 0])), (q1, .inr (7, [.ref b1, .int 0])), (q2, .inr (7, [.ref b2, .int 0])), (q3, .inr (7, [.ref b3, .int 0])), (x0, .inr (8, [.ref t0, .ref m0, .ref sb, .int 0, .int 0, .int ((-1))])), (a8, .inl (c8, 248, .inl (fun _ => 0))), (a9, .inl (c9, 400, .inl (fun _ => 0))), (a29, .inl (c29, 4, .inl (fun _ => 0)))]) hB ht hvm hP hD [6, 7] [0, 1, 2, 3, 4, 5, 8, 9, 10] rfl rfl (by decide) (by decide) hk1 hFc hK
  generalize H1 = H at hP hS ⊢
  have hP : va_P (dC, dI) vwCl [(tb, .inl (cT, 400, .inl (fun _ => 0))), (q0, .inr (7, [.ref b0, .int 0])), (q1, .inr (7, [.ref b1, .int 0])), (q2, .inr (7, [.ref b2, .int 0])), (q3, .inr (7, [.ref b3, .int 0])), (x0, .inr (8, [.ref t0, .ref m0, .ref sb, .int 0, .int 0, .int ((-1))])), (a8, .inl (c8, 248, .inl (fun _ => 0))), (a9, .inl (c9, 400, .inl (fun _ => 0))), (a29, .inl (c29, 4, .inl (fun _ => 0)))] H := hP
  have hD : va_D A [(tb, .inl (cT, 400, .inl (fun _ => 0))), (q0, .inr (7, [.ref b0, .int 0])), (q1, .inr (7, [.ref b1, .int 0])), (q2, .inr (7, [.ref b2, .int 0])), (q3, .inr (7, [.ref b3, .int 0])), (x0, .inr (8, [.ref t0, .ref m0, .ref sb, .int 0, .int 0, .int ((-1))])), (a8, .inl (c8, 248, .inl (fun _ => 0))), (a9, .inl (c9, 400, .inl (fun _ => 0))), (a29, .inl (c29, 4, .inl (fun _ => 0)))] := hD
  have hK : va_K (dC, dI) vwCl [(cT, .int), (cR, .object RX5), (cM, .object RX1), (cZ, .boolean), (c8, .boolean), (c9, .int), (c29, .int)] s := hK
  try dsimp only at hw_5
  have k_6 := hw_5
  refine W_toi (y := -1) k_6 ?_
  refine lv_icmp_eq (tgt := 974) hx hb dL_law_512 (by decide) (fun c_7 => ?_) (fun c_7 => absurd (by decide) c_7)
  refine lv_iinc (v := 6) (lv' := [(3, .int 6), (2, .ref hm), (1, .ref ho), (0, .ref b)]) hx hb dL_law_974 hl (k := 0) rfl (by decide) (by decide) rfl (fun ls hl => ?_)
  refine lv_goto (tgt := 18) hx hb dL_law_977 (by decide) ?_
  refine lv_iload_n hx hb dL_law_18 rfl (lv_at hl 0 rfl) ?_
  refine lv_aload_n hx hb dL_law_19 rfl (lv_at hl 3 rfl) ?_
  refine va_slen hx hb hX hbl hbA hS dL_law_20 ?_
  refine W_toi (y := 6) rfl ?_
  refine lv_bipush (v := 6) hx hb dL_law_21 (by decide) ?_
  refine lv_isub hx hb dL_law_23 ?_
  refine W_toi (y := 0) (by decide) ?_
  refine lv_icmp_gt (tgt := 980) hx hb dL_law_24 (by decide) (fun c_8 => ?_) (fun c_8 => absurd (by decide) c_8)
  refine lv_iconst (v := 1) hx hb dL_law_980 (by decide) ?_
  refine va_forget (fun q hq => hA2 _ (hS.2.2 q hq)) ?_
  refine W.widen (k := 600000) (n := 7302250) (by omega) (by omega) ?_
  exact lw_ret hx hb hr hlocks dL_law_981
set_option maxHeartbeats 4000000 in
set_option maxRecDepth 100000 in
theorem law_10 {p : Program} {e : Env} {s : State} {m : MethodId} {below : List Frame} {meth : Method} {c : Code} (l : Launch) {b : Nat} {xs : Nat → Int32} {A : Nat → Prop} (C0 : lw_At p s m meth c b 6 xs) (hA : ∀ q : Nat, s.heap.size ≤ q → A q) (hA2 : ∀ q : Nat, A q → s.heap.size ≤ q) (hbA : ¬ A b) (dC : Nat → ClassId) (dI : Nat → Nat → Nat) (hN : NX s) (hZ : cz A s s.heap) (ho : Nat) (t0 : Nat) (r0 : Nat) (m0 : Nat) (x0 : Nat) (v4 : Value) (v5 : Value) (v6 : Value) (v7 : Value) (v8 : Value) (tb : Nat) (cT : ClassId) (cR : ClassId) (fR : Nat → Option Nat) (q0 : Nat) (q1 : Nat) (q2 : Nat) (q3 : Nat) (b0 : Nat) (b1 : Nat) (b2 : Nat) (b3 : Nat) (cM : ClassId) (sb : Nat) (hq0 : fR 0 = some q0) (hq1 : fR 1 = some q1) (hq2 : fR 2 = some q2) (hq3 : fR 3 = some q3) (hm : Nat) (a0 : Nat) (cZ : ClassId) (a8 : Nat) (c8 : ClassId) (a9 : Nat) (c9 : ClassId) (a29 : Nat) (c29 : ClassId) (fs : List Value) (hfs : fs.length = 60) (fh0 : fs[0]? = some (.ref a0)) (fh8 : fs[8]? = some (.ref a8)) (fh9 : fs[9]? = some (.ref a9)) (fh10 : fs[10]? = some (.int 0)) (fh15 : fs[15]? = some (.int 0)) (fh16 : fs[16]? = some (.int ((-1)))) (fh29 : fs[29]? = some (.ref a29)) (fh59 : fs[59]? = some (.int 0)) (H : Heap) (locs : List Loc) (hK : va_K (dC, dI) vwCl [(cT, .int), (cR, .object RX5), (cM, .object RX1), (cZ, .boolean), (c8, .boolean), (c9, .int), (c29, .int)] s) (hP : va_P (dC, dI) vwCl [(ho, .inr (10, [.ref t0, .ref r0, .ref m0, .ref x0, v4, v5, v6, v7, v8, .int 0, .int ((-1)), .int 0])), (t0, .inr (7, [.ref tb, .int 0])), (tb, .inl (cT, 400, .inl (fun _ => 0))), (r0, .inl (cR, 4, .inr (.inr (.inr (.inr fR))))), (q0, .inr (7, [.ref b0, .int 0])), (q1, .inr (7, [.ref b1, .int 0])), (q2, .inr (7, [.ref b2, .int 0])), (q3, .inr (7, [.ref b3, .int 0])), (m0, .inl (cM, 8, .inr (.inr (.inr (.inr (fun _ => none)))))), (x0, .inr (8, [.ref t0, .ref m0, .ref sb, .int 0, .int 0, .int ((-1))])), (hm, .inr (11, fs)), (a0, .inl (cZ, 8, .inl (fun _ => 0))), (a8, .inl (c8, 248, .inl (fun _ => 0))), (a9, .inl (c9, 400, .inl (fun _ => 0))), (a29, .inl (c29, 4, .inl (fun _ => 0)))] H) (hD : va_D A [(ho, .inr (10, [.ref t0, .ref r0, .ref m0, .ref x0, v4, v5, v6, v7, v8, .int 0, .int ((-1)), .int 0])), (t0, .inr (7, [.ref tb, .int 0])), (tb, .inl (cT, 400, .inl (fun _ => 0))), (r0, .inl (cR, 4, .inr (.inr (.inr (.inr fR))))), (q0, .inr (7, [.ref b0, .int 0])), (q1, .inr (7, [.ref b1, .int 0])), (q2, .inr (7, [.ref b2, .int 0])), (q3, .inr (7, [.ref b3, .int 0])), (m0, .inl (cM, 8, .inr (.inr (.inr (.inr (fun _ => none)))))), (x0, .inr (8, [.ref t0, .ref m0, .ref sb, .int 0, .int 0, .int ((-1))])), (hm, .inr (11, fs)), (a0, .inl (cZ, 8, .inl (fun _ => 0))), (a8, .inl (c8, 248, .inl (fun _ => 0))), (a9, .inl (c9, 400, .inl (fun _ => 0))), (a29, .inl (c29, 4, .inl (fun _ => 0)))]) (hS : va_S A s.heap H locs) (ls : Array Slot) (hl : lv_has ls 4 [(3, .int 0), (2, .ref hm), (1, .ref ho), (0, .ref b)]) : W p l e room_1 s m #[Value.ref b] below meth c H locs 74 12530 (lw_Z below #[Value.ref b] s) (F0 m 517 ls []) := by
  obtain ⟨hx, hb, hr, hml, hown, hts, hX, hbl, hlocks, hgv⟩ := C0
  refine lv_aload_n hx hb dL_law_517 rfl (lv_at hl 2 rfl) ?_
  refine lv_aload_n hx hb dL_law_518 rfl (lv_at hl 3 rfl) ?_
  refine lv_iload_n hx hb dL_law_519 rfl (lv_at hl 0 rfl) ?_
  refine lv_iconst (v := 1) hx hb dL_law_520 (by decide) ?_
  refine lv_iadd hx hb dL_law_521 ?_
  refine W_toi (y := 1) (by decide) ?_
  refine va_sld hx hb hX hbl hbA hS (by unfold vp_in; decide) dL_law_522 ?_
  refine W_toi (y := xs 1) rfl ?_
  refine lv_aload_n hx hb dL_law_523 rfl (lv_at hl 3 rfl) ?_
  refine lv_iload_n hx hb dL_law_524 rfl (lv_at hl 0 rfl) ?_
  refine lv_iconst (v := 2) hx hb dL_law_525 (by decide) ?_
  refine lv_iadd hx hb dL_law_526 ?_
  refine W_toi (y := 2) (by decide) ?_
  refine va_sld hx hb hX hbl hbA hS (by unfold vp_in; decide) dL_law_527 ?_
  refine W_toi (y := xs 2) rfl ?_
  refine lv_aload_n hx hb dL_law_528 rfl (lv_at hl 3 rfl) ?_
  refine lv_iload_n hx hb dL_law_529 rfl (lv_at hl 0 rfl) ?_
  refine lv_iconst (v := 3) hx hb dL_law_530 (by decide) ?_
  refine lv_iadd hx hb dL_law_531 ?_
  refine W_toi (y := 3) (by decide) ?_
  refine va_sld hx hb hX hbl hbA hS (by unfold vp_in; decide) dL_law_532 ?_
  refine W_toi (y := xs 3) rfl ?_
  refine lv_aload_n hx hb dL_law_533 rfl (lv_at hl 3 rfl) ?_
  refine lv_iload_n hx hb dL_law_534 rfl (lv_at hl 0 rfl) ?_
  refine lv_iconst (v := 4) hx hb dL_law_535 (by decide) ?_
  refine lv_iadd hx hb dL_law_536 ?_
  refine W_toi (y := 4) (by decide) ?_
  refine va_sld hx hb hX hbl hbA hS (by unfold vp_in; decide) dL_law_537 ?_
  refine W_toi (y := xs 4) rfl ?_
  have hFc := va_free (wc := [(ho, .inr (10, [.ref t0, .ref r0, .ref m0, .ref x0, v4, v5, v6, v7, v8, .int 0, .int ((-1)), .int 0])), (m0, .inl (cM, 8, .inr (.inr (.inr (.inr (fun _ => none)))))), (r0, .inl (cR, 4, .inr (.inr (.inr (.inr fR)))))]) hD hS hA [0, 8, 3] rfl
  refine va_calli (va_runV (As := [.int (xs 1), .int (xs 2), .int (xs 3), .int (xs 4)]) (rest := []) ⟨hx, hb, hml, hown, hts⟩ (c_X8_nest l dC dI ho t0 r0 m0 x0 (v4) (v5) (v6) (v7) (v8) cM cR fR (xs 1) (xs 2) (xs 3) (xs 4) H.size) (cwV 4 hts gp_law_10_X8_nest_61 rfl rfl rfl (by decide +kernel) ⟨Nat.le_of_ble_eq_true rfl, Nat.le_of_ble_eq_true rfl⟩) ⟨Pr.blind _, va_recv hK hP (ci := 10) (q0 := 0) rfl rfl, fun U hU hW => ⟨rfl, Pr.at (hP.sub (ws' := [(ho, .inr (10, [.ref t0, .ref r0, .ref m0, .ref x0, v4, v5, v6, v7, v8, .int 0, .int ((-1)), .int 0])), (m0, .inl (cM, 8, .inr (.inr (.inr (.inr (fun _ => none)))))), (r0, .inl (cR, 4, .inr (.inr (.inr (.inr fR)))))]) [0, 8, 3] rfl) (hK.sub (tys' := [(cM, .object RX1), (cR, .object RX5)]) [2, 1] rfl) (hD.sub (ws' := [(ho, .inr (10, [.ref t0, .ref r0, .ref m0, .ref x0, v4, v5, v6, v7, v8, .int 0, .int ((-1)), .int 0])), (m0, .inl (cM, 8, .inr (.inr (.inr (.inr (fun _ => none)))))), (r0, .inl (cR, 4, .inr (.inr (.inr (.inr fR)))))]) [0, 8, 3] (by decide) rfl) hN hZ hS hFc hU hW⟩⟩ rfl rfl hl.1 rfl (lv_room (Nat.le_of_ble_eq_true rfl)) dL_law_538 ⟨Nat.le_of_ble_eq_true rfl, Nat.le_of_ble_eq_true rfl⟩) hS (fun q _ h => hFc q h) hFc (fun r_1 u t H1 locs ht hvm hw_2 hB hz1 hk1 hS => ?_)
  obtain ⟨hP, hD, hK⟩ := Bq.join (wr := [(t0, .inr (7, [.ref tb, .int 0])), (tb, .inl (cT, 400, .inl (fun _ => 0))), (q0, .inr (7, [.ref b0, .int 0])), (q1, .inr (7, [.ref b1, .int 0])), (q2, .inr (7, [.ref b2, .int 0])), (q3, .inr (7, [.ref b3, .int 0])), (x0, .inr (8, [.ref t0, .ref m0, .ref sb, .int 0, .int 0, .int ((-1))])), (hm, .inr (11, fs)), (a0, .inl (cZ, 8, .inl (fun _ => 0))), (a8, .inl (c8, 248, .inl (fun _ => 0))), (a9, .inl (c9, 400, .inl (fun _ => 0))), (a29, .inl (c29, 4, .inl (fun _ => 0)))]) hB ht hvm hP hD [0, 8, 3] [1, 2, 4, 5, 6, 7, 9, 10, 11, 12, 13, 14] rfl rfl (by decide) (by decide) hk1 hFc hK
  generalize H1 = H at hP hS ⊢
  have hP : va_P (dC, dI) vwCl [(t0, .inr (7, [.ref tb, .int 0])), (tb, .inl (cT, 400, .inl (fun _ => 0))), (q0, .inr (7, [.ref b0, .int 0])), (q1, .inr (7, [.ref b1, .int 0])), (q2, .inr (7, [.ref b2, .int 0])), (q3, .inr (7, [.ref b3, .int 0])), (x0, .inr (8, [.ref t0, .ref m0, .ref sb, .int 0, .int 0, .int ((-1))])), (hm, .inr (11, fs)), (a0, .inl (cZ, 8, .inl (fun _ => 0))), (a8, .inl (c8, 248, .inl (fun _ => 0))), (a9, .inl (c9, 400, .inl (fun _ => 0))), (a29, .inl (c29, 4, .inl (fun _ => 0)))] H := hP
  have hD : va_D A [(t0, .inr (7, [.ref tb, .int 0])), (tb, .inl (cT, 400, .inl (fun _ => 0))), (q0, .inr (7, [.ref b0, .int 0])), (q1, .inr (7, [.ref b1, .int 0])), (q2, .inr (7, [.ref b2, .int 0])), (q3, .inr (7, [.ref b3, .int 0])), (x0, .inr (8, [.ref t0, .ref m0, .ref sb, .int 0, .int 0, .int ((-1))])), (hm, .inr (11, fs)), (a0, .inl (cZ, 8, .inl (fun _ => 0))), (a8, .inl (c8, 248, .inl (fun _ => 0))), (a9, .inl (c9, 400, .inl (fun _ => 0))), (a29, .inl (c29, 4, .inl (fun _ => 0)))] := hD
  have hK : va_K (dC, dI) vwCl [(cT, .int), (cR, .object RX5), (cM, .object RX1), (cZ, .boolean), (c8, .boolean), (c9, .int), (c29, .int)] s := hK
  try dsimp only at hw_2
  have k_3 := hw_2
  refine W_toi (y := -1) k_3 ?_
  refine lv_aload_n hx hb dL_law_541 rfl (lv_at hl 1 rfl) ?_
  refine lv_aload_n hx hb dL_law_542 rfl (lv_at hl 3 rfl) ?_
  refine lv_iload_n hx hb dL_law_543 rfl (lv_at hl 0 rfl) ?_
  refine lv_iconst (v := 1) hx hb dL_law_544 (by decide) ?_
  refine lv_iadd hx hb dL_law_545 ?_
  refine W_toi (y := 1) (by decide) ?_
  refine va_sld hx hb hX hbl hbA hS (by unfold vp_in; decide) dL_law_546 ?_
  refine W_toi (y := xs 1) rfl ?_
  refine lv_aload_n hx hb dL_law_547 rfl (lv_at hl 3 rfl) ?_
  refine lv_iload_n hx hb dL_law_548 rfl (lv_at hl 0 rfl) ?_
  refine lv_iconst (v := 2) hx hb dL_law_549 (by decide) ?_
  refine lv_iadd hx hb dL_law_550 ?_
  refine W_toi (y := 2) (by decide) ?_
  refine va_sld hx hb hX hbl hbA hS (by unfold vp_in; decide) dL_law_551 ?_
  refine W_toi (y := xs 2) rfl ?_
  refine lv_aload_n hx hb dL_law_552 rfl (lv_at hl 3 rfl) ?_
  refine lv_iload_n hx hb dL_law_553 rfl (lv_at hl 0 rfl) ?_
  refine lv_iconst (v := 3) hx hb dL_law_554 (by decide) ?_
  refine lv_iadd hx hb dL_law_555 ?_
  refine W_toi (y := 3) (by decide) ?_
  refine va_sld hx hb hX hbl hbA hS (by unfold vp_in; decide) dL_law_556 ?_
  refine W_toi (y := xs 3) rfl ?_
  refine lv_aload_n hx hb dL_law_557 rfl (lv_at hl 3 rfl) ?_
  refine lv_iload_n hx hb dL_law_558 rfl (lv_at hl 0 rfl) ?_
  refine lv_iconst (v := 4) hx hb dL_law_559 (by decide) ?_
  refine lv_iadd hx hb dL_law_560 ?_
  refine W_toi (y := 4) (by decide) ?_
  refine va_sld hx hb hX hbl hbA hS (by unfold vp_in; decide) dL_law_561 ?_
  refine W_toi (y := xs 4) rfl ?_
  have hFc := va_free (wc := [(hm, .inr (11, fs)), (a0, .inl (cZ, 8, .inl (fun _ => 0)))]) hD hS hA [7, 8] rfl
  refine va_calli (va_runV (As := [.int (xs 1), .int (xs 2), .int (xs 3), .int (xs 4)]) (rest := [.int (-1)]) ⟨hx, hb, hml, hown, hts⟩ (c_X9_nest l dC dI hm fs hfs a0 cZ fh0 (xs 1) (xs 2) (xs 3) (xs 4) H.size) (cwV 4 hts gp_law_10_X9_nest_65 rfl rfl rfl (by decide +kernel) ⟨Nat.le_of_ble_eq_true rfl, Nat.le_of_ble_eq_true rfl⟩) ⟨Pr.blind _, va_recv hK hP (ci := 11) (q0 := 7) rfl rfl, fun U hU hW => ⟨rfl, Pr.at (hP.sub (ws' := [(hm, .inr (11, fs)), (a0, .inl (cZ, 8, .inl (fun _ => 0)))]) [7, 8] rfl) (hK.sub (tys' := [(cZ, .boolean)]) [3] rfl) (hD.sub (ws' := [(hm, .inr (11, fs)), (a0, .inl (cZ, 8, .inl (fun _ => 0)))]) [7, 8] (by decide) rfl) hN hZ hS hFc hU hW⟩⟩ rfl rfl hl.1 rfl (lv_room (Nat.le_of_ble_eq_true rfl)) dL_law_562 ⟨Nat.le_of_ble_eq_true rfl, Nat.le_of_ble_eq_true rfl⟩) hS (fun q _ h => hFc q h) hFc (fun r_4 u t H1 locs ht hvm hw_5 hB hz1 hk1 hS => ?_)
  obtain ⟨hP, hD, hK⟩ := Bq.join (wr := [(t0, .inr (7, [.ref tb, .int 0])), (tb, .inl (cT, 400, .inl (fun _ => 0))), (q0, .inr (7, [.ref b0, .int 0])), (q1, .inr (7, [.ref b1, .int 0])), (q2, .inr (7, [.ref b2, .int 0])), (q3, .inr (7, [.ref b3, .int 0])), (x0, .inr (8, [.ref t0, .ref m0, .ref sb, .int 0, .int 0, .int ((-1))])), (a8, .inl (c8, 248, .inl (fun _ => 0))), (a9, .inl (c9, 400, .inl (fun _ => 0))), (a29, .inl (c29, 4, .inl (fun _ => 0)))]) hB ht hvm hP hD [7, 8] [0, 1, 2, 3, 4, 5, 6, 9, 10, 11] rfl rfl (by decide) (by decide) hk1 hFc hK
  generalize H1 = H at hP hS ⊢
  have hP : va_P (dC, dI) vwCl [(t0, .inr (7, [.ref tb, .int 0])), (tb, .inl (cT, 400, .inl (fun _ => 0))), (q0, .inr (7, [.ref b0, .int 0])), (q1, .inr (7, [.ref b1, .int 0])), (q2, .inr (7, [.ref b2, .int 0])), (q3, .inr (7, [.ref b3, .int 0])), (x0, .inr (8, [.ref t0, .ref m0, .ref sb, .int 0, .int 0, .int ((-1))])), (a8, .inl (c8, 248, .inl (fun _ => 0))), (a9, .inl (c9, 400, .inl (fun _ => 0))), (a29, .inl (c29, 4, .inl (fun _ => 0)))] H := hP
  have hD : va_D A [(t0, .inr (7, [.ref tb, .int 0])), (tb, .inl (cT, 400, .inl (fun _ => 0))), (q0, .inr (7, [.ref b0, .int 0])), (q1, .inr (7, [.ref b1, .int 0])), (q2, .inr (7, [.ref b2, .int 0])), (q3, .inr (7, [.ref b3, .int 0])), (x0, .inr (8, [.ref t0, .ref m0, .ref sb, .int 0, .int 0, .int ((-1))])), (a8, .inl (c8, 248, .inl (fun _ => 0))), (a9, .inl (c9, 400, .inl (fun _ => 0))), (a29, .inl (c29, 4, .inl (fun _ => 0)))] := hD
  have hK : va_K (dC, dI) vwCl [(cT, .int), (cR, .object RX5), (cM, .object RX1), (cZ, .boolean), (c8, .boolean), (c9, .int), (c29, .int)] s := hK
  try dsimp only at hw_5
  have k_6 := hw_5
  refine W_toi (y := -1) k_6 ?_
  refine lv_icmp_eq (tgt := 974) hx hb dL_law_565 (by decide) (fun c_7 => ?_) (fun c_7 => absurd (by decide) c_7)
  refine lv_iinc (v := 6) (lv' := [(3, .int 6), (2, .ref hm), (1, .ref ho), (0, .ref b)]) hx hb dL_law_974 hl (k := 0) rfl (by decide) (by decide) rfl (fun ls hl => ?_)
  refine lv_goto (tgt := 18) hx hb dL_law_977 (by decide) ?_
  refine lv_iload_n hx hb dL_law_18 rfl (lv_at hl 0 rfl) ?_
  refine lv_aload_n hx hb dL_law_19 rfl (lv_at hl 3 rfl) ?_
  refine va_slen hx hb hX hbl hbA hS dL_law_20 ?_
  refine W_toi (y := 6) rfl ?_
  refine lv_bipush (v := 6) hx hb dL_law_21 (by decide) ?_
  refine lv_isub hx hb dL_law_23 ?_
  refine W_toi (y := 0) (by decide) ?_
  refine lv_icmp_gt (tgt := 980) hx hb dL_law_24 (by decide) (fun c_8 => ?_) (fun c_8 => absurd (by decide) c_8)
  refine lv_iconst (v := 1) hx hb dL_law_980 (by decide) ?_
  refine va_forget (fun q hq => hA2 _ (hS.2.2 q hq)) ?_
  refine W.widen (k := 600000) (n := 7302250) (by omega) (by omega) ?_
  exact lw_ret hx hb hr hlocks dL_law_981
set_option maxHeartbeats 4000000 in
set_option maxRecDepth 100000 in
theorem law_11 {p : Program} {e : Env} {s : State} {m : MethodId} {below : List Frame} {meth : Method} {c : Code} (l : Launch) {b : Nat} {xs : Nat → Int32} {A : Nat → Prop} (C0 : lw_At p s m meth c b 6 xs) (hA : ∀ q : Nat, s.heap.size ≤ q → A q) (hA2 : ∀ q : Nat, A q → s.heap.size ≤ q) (hbA : ¬ A b) (dC : Nat → ClassId) (dI : Nat → Nat → Nat) (hN : NX s) (hZ : cz A s s.heap) (ho : Nat) (t0 : Nat) (r0 : Nat) (m0 : Nat) (x0 : Nat) (v4 : Value) (v5 : Value) (v6 : Value) (v7 : Value) (v8 : Value) (tb : Nat) (cT : ClassId) (cR : ClassId) (fR : Nat → Option Nat) (q0 : Nat) (q1 : Nat) (q2 : Nat) (q3 : Nat) (b0 : Nat) (b1 : Nat) (b2 : Nat) (b3 : Nat) (cM : ClassId) (sb : Nat) (hq0 : fR 0 = some q0) (hq1 : fR 1 = some q1) (hq2 : fR 2 = some q2) (hq3 : fR 3 = some q3) (hm : Nat) (a0 : Nat) (cZ : ClassId) (a8 : Nat) (c8 : ClassId) (a9 : Nat) (c9 : ClassId) (a29 : Nat) (c29 : ClassId) (fs : List Value) (hfs : fs.length = 60) (fh0 : fs[0]? = some (.ref a0)) (fh8 : fs[8]? = some (.ref a8)) (fh9 : fs[9]? = some (.ref a9)) (fh10 : fs[10]? = some (.int 0)) (fh15 : fs[15]? = some (.int 0)) (fh16 : fs[16]? = some (.int ((-1)))) (fh29 : fs[29]? = some (.ref a29)) (fh59 : fs[59]? = some (.int 0)) (H : Heap) (locs : List Loc) (hK : va_K (dC, dI) vwCl [(cT, .int), (cR, .object RX5), (cM, .object RX1), (cZ, .boolean), (c8, .boolean), (c9, .int), (c29, .int)] s) (hP : va_P (dC, dI) vwCl [(ho, .inr (10, [.ref t0, .ref r0, .ref m0, .ref x0, v4, v5, v6, v7, v8, .int 0, .int ((-1)), .int 0])), (t0, .inr (7, [.ref tb, .int 0])), (tb, .inl (cT, 400, .inl (fun _ => 0))), (r0, .inl (cR, 4, .inr (.inr (.inr (.inr fR))))), (q0, .inr (7, [.ref b0, .int 0])), (q1, .inr (7, [.ref b1, .int 0])), (q2, .inr (7, [.ref b2, .int 0])), (q3, .inr (7, [.ref b3, .int 0])), (m0, .inl (cM, 8, .inr (.inr (.inr (.inr (fun _ => none)))))), (x0, .inr (8, [.ref t0, .ref m0, .ref sb, .int 0, .int 0, .int ((-1))])), (hm, .inr (11, fs)), (a0, .inl (cZ, 8, .inl (fun _ => 0))), (a8, .inl (c8, 248, .inl (fun _ => 0))), (a9, .inl (c9, 400, .inl (fun _ => 0))), (a29, .inl (c29, 4, .inl (fun _ => 0)))] H) (hD : va_D A [(ho, .inr (10, [.ref t0, .ref r0, .ref m0, .ref x0, v4, v5, v6, v7, v8, .int 0, .int ((-1)), .int 0])), (t0, .inr (7, [.ref tb, .int 0])), (tb, .inl (cT, 400, .inl (fun _ => 0))), (r0, .inl (cR, 4, .inr (.inr (.inr (.inr fR))))), (q0, .inr (7, [.ref b0, .int 0])), (q1, .inr (7, [.ref b1, .int 0])), (q2, .inr (7, [.ref b2, .int 0])), (q3, .inr (7, [.ref b3, .int 0])), (m0, .inl (cM, 8, .inr (.inr (.inr (.inr (fun _ => none)))))), (x0, .inr (8, [.ref t0, .ref m0, .ref sb, .int 0, .int 0, .int ((-1))])), (hm, .inr (11, fs)), (a0, .inl (cZ, 8, .inl (fun _ => 0))), (a8, .inl (c8, 248, .inl (fun _ => 0))), (a9, .inl (c9, 400, .inl (fun _ => 0))), (a29, .inl (c29, 4, .inl (fun _ => 0)))]) (hS : va_S A s.heap H locs) (ls : Array Slot) (hl : lv_has ls 4 [(3, .int 0), (2, .ref hm), (1, .ref ho), (0, .ref b)]) : W p l e room_1 s m #[Value.ref b] below meth c H locs 74 12530 (lw_Z below #[Value.ref b] s) (F0 m 570 ls []) := by
  obtain ⟨hx, hb, hr, hml, hown, hts, hX, hbl, hlocks, hgv⟩ := C0
  refine lv_aload_n hx hb dL_law_570 rfl (lv_at hl 2 rfl) ?_
  refine lv_aload_n hx hb dL_law_571 rfl (lv_at hl 3 rfl) ?_
  refine lv_iload_n hx hb dL_law_572 rfl (lv_at hl 0 rfl) ?_
  refine lv_iconst (v := 1) hx hb dL_law_573 (by decide) ?_
  refine lv_iadd hx hb dL_law_574 ?_
  refine W_toi (y := 1) (by decide) ?_
  refine va_sld hx hb hX hbl hbA hS (by unfold vp_in; decide) dL_law_575 ?_
  refine W_toi (y := xs 1) rfl ?_
  refine lv_aload_n hx hb dL_law_576 rfl (lv_at hl 3 rfl) ?_
  refine lv_iload_n hx hb dL_law_577 rfl (lv_at hl 0 rfl) ?_
  refine lv_iconst (v := 2) hx hb dL_law_578 (by decide) ?_
  refine lv_iadd hx hb dL_law_579 ?_
  refine W_toi (y := 2) (by decide) ?_
  refine va_sld hx hb hX hbl hbA hS (by unfold vp_in; decide) dL_law_580 ?_
  refine W_toi (y := xs 2) rfl ?_
  refine lv_aload_n hx hb dL_law_581 rfl (lv_at hl 3 rfl) ?_
  refine lv_iload_n hx hb dL_law_582 rfl (lv_at hl 0 rfl) ?_
  refine lv_iconst (v := 3) hx hb dL_law_583 (by decide) ?_
  refine lv_iadd hx hb dL_law_584 ?_
  refine W_toi (y := 3) (by decide) ?_
  refine va_sld hx hb hX hbl hbA hS (by unfold vp_in; decide) dL_law_585 ?_
  refine W_toi (y := xs 3) rfl ?_
  have hFc := va_free (wc := [(ho, .inr (10, [.ref t0, .ref r0, .ref m0, .ref x0, v4, v5, v6, v7, v8, .int 0, .int ((-1)), .int 0])), (m0, .inl (cM, 8, .inr (.inr (.inr (.inr (fun _ => none)))))), (r0, .inl (cR, 4, .inr (.inr (.inr (.inr fR)))))]) hD hS hA [0, 8, 3] rfl
  refine va_calli (va_runV (As := [.int (xs 1), .int (xs 2), .int (xs 3)]) (rest := []) ⟨hx, hb, hml, hown, hts⟩ (c_X8_drop l dC dI ho t0 r0 m0 x0 (v4) (v5) (v6) (v7) (v8) cM cR fR (xs 1) (xs 2) (xs 3) H.size) (cwV 3 hts gp_law_11_X8_drop_66 rfl rfl rfl (by decide +kernel) ⟨Nat.le_of_ble_eq_true rfl, Nat.le_of_ble_eq_true rfl⟩) ⟨Pr.blind _, va_recv hK hP (ci := 10) (q0 := 0) rfl rfl, fun U hU hW => ⟨rfl, Pr.at (hP.sub (ws' := [(ho, .inr (10, [.ref t0, .ref r0, .ref m0, .ref x0, v4, v5, v6, v7, v8, .int 0, .int ((-1)), .int 0])), (m0, .inl (cM, 8, .inr (.inr (.inr (.inr (fun _ => none)))))), (r0, .inl (cR, 4, .inr (.inr (.inr (.inr fR)))))]) [0, 8, 3] rfl) (hK.sub (tys' := [(cM, .object RX1), (cR, .object RX5)]) [2, 1] rfl) (hD.sub (ws' := [(ho, .inr (10, [.ref t0, .ref r0, .ref m0, .ref x0, v4, v5, v6, v7, v8, .int 0, .int ((-1)), .int 0])), (m0, .inl (cM, 8, .inr (.inr (.inr (.inr (fun _ => none)))))), (r0, .inl (cR, 4, .inr (.inr (.inr (.inr fR)))))]) [0, 8, 3] (by decide) rfl) hN hZ hS hFc hU hW⟩⟩ rfl rfl hl.1 rfl (lv_room (Nat.le_of_ble_eq_true rfl)) dL_law_586 ⟨Nat.le_of_ble_eq_true rfl, Nat.le_of_ble_eq_true rfl⟩) hS (fun q _ h => hFc q h) hFc (fun r_1 u t H1 locs ht hvm hw_2 hB hz1 hk1 hS => ?_)
  obtain ⟨hP, hD, hK⟩ := Bq.join (wr := [(t0, .inr (7, [.ref tb, .int 0])), (tb, .inl (cT, 400, .inl (fun _ => 0))), (q0, .inr (7, [.ref b0, .int 0])), (q1, .inr (7, [.ref b1, .int 0])), (q2, .inr (7, [.ref b2, .int 0])), (q3, .inr (7, [.ref b3, .int 0])), (x0, .inr (8, [.ref t0, .ref m0, .ref sb, .int 0, .int 0, .int ((-1))])), (hm, .inr (11, fs)), (a0, .inl (cZ, 8, .inl (fun _ => 0))), (a8, .inl (c8, 248, .inl (fun _ => 0))), (a9, .inl (c9, 400, .inl (fun _ => 0))), (a29, .inl (c29, 4, .inl (fun _ => 0)))]) hB ht hvm hP hD [0, 8, 3] [1, 2, 4, 5, 6, 7, 9, 10, 11, 12, 13, 14] rfl rfl (by decide) (by decide) hk1 hFc hK
  generalize H1 = H at hP hS ⊢
  have hP : va_P (dC, dI) vwCl [(t0, .inr (7, [.ref tb, .int 0])), (tb, .inl (cT, 400, .inl (fun _ => 0))), (q0, .inr (7, [.ref b0, .int 0])), (q1, .inr (7, [.ref b1, .int 0])), (q2, .inr (7, [.ref b2, .int 0])), (q3, .inr (7, [.ref b3, .int 0])), (x0, .inr (8, [.ref t0, .ref m0, .ref sb, .int 0, .int 0, .int ((-1))])), (hm, .inr (11, fs)), (a0, .inl (cZ, 8, .inl (fun _ => 0))), (a8, .inl (c8, 248, .inl (fun _ => 0))), (a9, .inl (c9, 400, .inl (fun _ => 0))), (a29, .inl (c29, 4, .inl (fun _ => 0)))] H := hP
  have hD : va_D A [(t0, .inr (7, [.ref tb, .int 0])), (tb, .inl (cT, 400, .inl (fun _ => 0))), (q0, .inr (7, [.ref b0, .int 0])), (q1, .inr (7, [.ref b1, .int 0])), (q2, .inr (7, [.ref b2, .int 0])), (q3, .inr (7, [.ref b3, .int 0])), (x0, .inr (8, [.ref t0, .ref m0, .ref sb, .int 0, .int 0, .int ((-1))])), (hm, .inr (11, fs)), (a0, .inl (cZ, 8, .inl (fun _ => 0))), (a8, .inl (c8, 248, .inl (fun _ => 0))), (a9, .inl (c9, 400, .inl (fun _ => 0))), (a29, .inl (c29, 4, .inl (fun _ => 0)))] := hD
  have hK : va_K (dC, dI) vwCl [(cT, .int), (cR, .object RX5), (cM, .object RX1), (cZ, .boolean), (c8, .boolean), (c9, .int), (c29, .int)] s := hK
  try dsimp only at hw_2
  have k_3 := hw_2
  refine W_toi (y := -1) k_3 ?_
  refine lv_aload_n hx hb dL_law_589 rfl (lv_at hl 1 rfl) ?_
  refine lv_aload_n hx hb dL_law_590 rfl (lv_at hl 3 rfl) ?_
  refine lv_iload_n hx hb dL_law_591 rfl (lv_at hl 0 rfl) ?_
  refine lv_iconst (v := 1) hx hb dL_law_592 (by decide) ?_
  refine lv_iadd hx hb dL_law_593 ?_
  refine W_toi (y := 1) (by decide) ?_
  refine va_sld hx hb hX hbl hbA hS (by unfold vp_in; decide) dL_law_594 ?_
  refine W_toi (y := xs 1) rfl ?_
  refine lv_aload_n hx hb dL_law_595 rfl (lv_at hl 3 rfl) ?_
  refine lv_iload_n hx hb dL_law_596 rfl (lv_at hl 0 rfl) ?_
  refine lv_iconst (v := 2) hx hb dL_law_597 (by decide) ?_
  refine lv_iadd hx hb dL_law_598 ?_
  refine W_toi (y := 2) (by decide) ?_
  refine va_sld hx hb hX hbl hbA hS (by unfold vp_in; decide) dL_law_599 ?_
  refine W_toi (y := xs 2) rfl ?_
  refine lv_aload_n hx hb dL_law_600 rfl (lv_at hl 3 rfl) ?_
  refine lv_iload_n hx hb dL_law_601 rfl (lv_at hl 0 rfl) ?_
  refine lv_iconst (v := 3) hx hb dL_law_602 (by decide) ?_
  refine lv_iadd hx hb dL_law_603 ?_
  refine W_toi (y := 3) (by decide) ?_
  refine va_sld hx hb hX hbl hbA hS (by unfold vp_in; decide) dL_law_604 ?_
  refine W_toi (y := xs 3) rfl ?_
  have hFc := va_free (wc := [(hm, .inr (11, fs)), (a0, .inl (cZ, 8, .inl (fun _ => 0)))]) hD hS hA [7, 8] rfl
  refine va_calli (va_runV (As := [.int (xs 1), .int (xs 2), .int (xs 3)]) (rest := [.int (-1)]) ⟨hx, hb, hml, hown, hts⟩ (c_X9_drop l dC dI hm fs hfs a0 cZ fh0 (xs 1) (xs 2) (xs 3) H.size) (cwV 3 hts gp_law_11_X9_drop_69 rfl rfl rfl (by decide +kernel) ⟨Nat.le_of_ble_eq_true rfl, Nat.le_of_ble_eq_true rfl⟩) ⟨Pr.blind _, va_recv hK hP (ci := 11) (q0 := 7) rfl rfl, fun U hU hW => ⟨rfl, Pr.at (hP.sub (ws' := [(hm, .inr (11, fs)), (a0, .inl (cZ, 8, .inl (fun _ => 0)))]) [7, 8] rfl) (hK.sub (tys' := [(cZ, .boolean)]) [3] rfl) (hD.sub (ws' := [(hm, .inr (11, fs)), (a0, .inl (cZ, 8, .inl (fun _ => 0)))]) [7, 8] (by decide) rfl) hN hZ hS hFc hU hW⟩⟩ rfl rfl hl.1 rfl (lv_room (Nat.le_of_ble_eq_true rfl)) dL_law_605 ⟨Nat.le_of_ble_eq_true rfl, Nat.le_of_ble_eq_true rfl⟩) hS (fun q _ h => hFc q h) hFc (fun r_4 u t H1 locs ht hvm hw_5 hB hz1 hk1 hS => ?_)
  obtain ⟨hP, hD, hK⟩ := Bq.join (wr := [(t0, .inr (7, [.ref tb, .int 0])), (tb, .inl (cT, 400, .inl (fun _ => 0))), (q0, .inr (7, [.ref b0, .int 0])), (q1, .inr (7, [.ref b1, .int 0])), (q2, .inr (7, [.ref b2, .int 0])), (q3, .inr (7, [.ref b3, .int 0])), (x0, .inr (8, [.ref t0, .ref m0, .ref sb, .int 0, .int 0, .int ((-1))])), (a8, .inl (c8, 248, .inl (fun _ => 0))), (a9, .inl (c9, 400, .inl (fun _ => 0))), (a29, .inl (c29, 4, .inl (fun _ => 0)))]) hB ht hvm hP hD [7, 8] [0, 1, 2, 3, 4, 5, 6, 9, 10, 11] rfl rfl (by decide) (by decide) hk1 hFc hK
  generalize H1 = H at hP hS ⊢
  have hP : va_P (dC, dI) vwCl [(t0, .inr (7, [.ref tb, .int 0])), (tb, .inl (cT, 400, .inl (fun _ => 0))), (q0, .inr (7, [.ref b0, .int 0])), (q1, .inr (7, [.ref b1, .int 0])), (q2, .inr (7, [.ref b2, .int 0])), (q3, .inr (7, [.ref b3, .int 0])), (x0, .inr (8, [.ref t0, .ref m0, .ref sb, .int 0, .int 0, .int ((-1))])), (a8, .inl (c8, 248, .inl (fun _ => 0))), (a9, .inl (c9, 400, .inl (fun _ => 0))), (a29, .inl (c29, 4, .inl (fun _ => 0)))] H := hP
  have hD : va_D A [(t0, .inr (7, [.ref tb, .int 0])), (tb, .inl (cT, 400, .inl (fun _ => 0))), (q0, .inr (7, [.ref b0, .int 0])), (q1, .inr (7, [.ref b1, .int 0])), (q2, .inr (7, [.ref b2, .int 0])), (q3, .inr (7, [.ref b3, .int 0])), (x0, .inr (8, [.ref t0, .ref m0, .ref sb, .int 0, .int 0, .int ((-1))])), (a8, .inl (c8, 248, .inl (fun _ => 0))), (a9, .inl (c9, 400, .inl (fun _ => 0))), (a29, .inl (c29, 4, .inl (fun _ => 0)))] := hD
  have hK : va_K (dC, dI) vwCl [(cT, .int), (cR, .object RX5), (cM, .object RX1), (cZ, .boolean), (c8, .boolean), (c9, .int), (c29, .int)] s := hK
  try dsimp only at hw_5
  have k_6 := hw_5
  refine W_toi (y := -1) k_6 ?_
  refine lv_icmp_eq (tgt := 974) hx hb dL_law_608 (by decide) (fun c_7 => ?_) (fun c_7 => absurd (by decide) c_7)
  refine lv_iinc (v := 6) (lv' := [(3, .int 6), (2, .ref hm), (1, .ref ho), (0, .ref b)]) hx hb dL_law_974 hl (k := 0) rfl (by decide) (by decide) rfl (fun ls hl => ?_)
  refine lv_goto (tgt := 18) hx hb dL_law_977 (by decide) ?_
  refine lv_iload_n hx hb dL_law_18 rfl (lv_at hl 0 rfl) ?_
  refine lv_aload_n hx hb dL_law_19 rfl (lv_at hl 3 rfl) ?_
  refine va_slen hx hb hX hbl hbA hS dL_law_20 ?_
  refine W_toi (y := 6) rfl ?_
  refine lv_bipush (v := 6) hx hb dL_law_21 (by decide) ?_
  refine lv_isub hx hb dL_law_23 ?_
  refine W_toi (y := 0) (by decide) ?_
  refine lv_icmp_gt (tgt := 980) hx hb dL_law_24 (by decide) (fun c_8 => ?_) (fun c_8 => absurd (by decide) c_8)
  refine lv_iconst (v := 1) hx hb dL_law_980 (by decide) ?_
  refine va_forget (fun q hq => hA2 _ (hS.2.2 q hq)) ?_
  refine W.widen (k := 600000) (n := 7302250) (by omega) (by omega) ?_
  exact lw_ret hx hb hr hlocks dL_law_981
set_option maxHeartbeats 4000000 in
set_option maxRecDepth 100000 in
theorem law_12 {p : Program} {e : Env} {s : State} {m : MethodId} {below : List Frame} {meth : Method} {c : Code} (l : Launch) {b : Nat} {xs : Nat → Int32} {A : Nat → Prop} (C0 : lw_At p s m meth c b 6 xs) (hA : ∀ q : Nat, s.heap.size ≤ q → A q) (hA2 : ∀ q : Nat, A q → s.heap.size ≤ q) (hbA : ¬ A b) (dC : Nat → ClassId) (dI : Nat → Nat → Nat) (hN : NX s) (hZ : cz A s s.heap) (ho : Nat) (t0 : Nat) (r0 : Nat) (m0 : Nat) (x0 : Nat) (v4 : Value) (v5 : Value) (v6 : Value) (v7 : Value) (v8 : Value) (tb : Nat) (cT : ClassId) (cR : ClassId) (fR : Nat → Option Nat) (q0 : Nat) (q1 : Nat) (q2 : Nat) (q3 : Nat) (b0 : Nat) (b1 : Nat) (b2 : Nat) (b3 : Nat) (cM : ClassId) (sb : Nat) (hq0 : fR 0 = some q0) (hq1 : fR 1 = some q1) (hq2 : fR 2 = some q2) (hq3 : fR 3 = some q3) (hm : Nat) (a0 : Nat) (cZ : ClassId) (a8 : Nat) (c8 : ClassId) (a9 : Nat) (c9 : ClassId) (a29 : Nat) (c29 : ClassId) (fs : List Value) (hfs : fs.length = 60) (fh0 : fs[0]? = some (.ref a0)) (fh8 : fs[8]? = some (.ref a8)) (fh9 : fs[9]? = some (.ref a9)) (fh10 : fs[10]? = some (.int 0)) (fh15 : fs[15]? = some (.int 0)) (fh16 : fs[16]? = some (.int ((-1)))) (fh29 : fs[29]? = some (.ref a29)) (fh59 : fs[59]? = some (.int 0)) (H : Heap) (locs : List Loc) (hK : va_K (dC, dI) vwCl [(cT, .int), (cR, .object RX5), (cM, .object RX1), (cZ, .boolean), (c8, .boolean), (c9, .int), (c29, .int)] s) (hP : va_P (dC, dI) vwCl [(ho, .inr (10, [.ref t0, .ref r0, .ref m0, .ref x0, v4, v5, v6, v7, v8, .int 0, .int ((-1)), .int 0])), (t0, .inr (7, [.ref tb, .int 0])), (tb, .inl (cT, 400, .inl (fun _ => 0))), (r0, .inl (cR, 4, .inr (.inr (.inr (.inr fR))))), (q0, .inr (7, [.ref b0, .int 0])), (q1, .inr (7, [.ref b1, .int 0])), (q2, .inr (7, [.ref b2, .int 0])), (q3, .inr (7, [.ref b3, .int 0])), (m0, .inl (cM, 8, .inr (.inr (.inr (.inr (fun _ => none)))))), (x0, .inr (8, [.ref t0, .ref m0, .ref sb, .int 0, .int 0, .int ((-1))])), (hm, .inr (11, fs)), (a0, .inl (cZ, 8, .inl (fun _ => 0))), (a8, .inl (c8, 248, .inl (fun _ => 0))), (a9, .inl (c9, 400, .inl (fun _ => 0))), (a29, .inl (c29, 4, .inl (fun _ => 0)))] H) (hD : va_D A [(ho, .inr (10, [.ref t0, .ref r0, .ref m0, .ref x0, v4, v5, v6, v7, v8, .int 0, .int ((-1)), .int 0])), (t0, .inr (7, [.ref tb, .int 0])), (tb, .inl (cT, 400, .inl (fun _ => 0))), (r0, .inl (cR, 4, .inr (.inr (.inr (.inr fR))))), (q0, .inr (7, [.ref b0, .int 0])), (q1, .inr (7, [.ref b1, .int 0])), (q2, .inr (7, [.ref b2, .int 0])), (q3, .inr (7, [.ref b3, .int 0])), (m0, .inl (cM, 8, .inr (.inr (.inr (.inr (fun _ => none)))))), (x0, .inr (8, [.ref t0, .ref m0, .ref sb, .int 0, .int 0, .int ((-1))])), (hm, .inr (11, fs)), (a0, .inl (cZ, 8, .inl (fun _ => 0))), (a8, .inl (c8, 248, .inl (fun _ => 0))), (a9, .inl (c9, 400, .inl (fun _ => 0))), (a29, .inl (c29, 4, .inl (fun _ => 0)))]) (hS : va_S A s.heap H locs) (ls : Array Slot) (hl : lv_has ls 4 [(3, .int 0), (2, .ref hm), (1, .ref ho), (0, .ref b)]) : W p l e room_1 s m #[Value.ref b] below meth c H locs 74 12530 (lw_Z below #[Value.ref b] s) (F0 m 613 ls []) := by
  obtain ⟨hx, hb, hr, hml, hown, hts, hX, hbl, hlocks, hgv⟩ := C0
  refine lv_aload_n hx hb dL_law_613 rfl (lv_at hl 2 rfl) ?_
  refine lv_aload_n hx hb dL_law_614 rfl (lv_at hl 3 rfl) ?_
  refine lv_iload_n hx hb dL_law_615 rfl (lv_at hl 0 rfl) ?_
  refine lv_iconst (v := 1) hx hb dL_law_616 (by decide) ?_
  refine lv_iadd hx hb dL_law_617 ?_
  refine W_toi (y := 1) (by decide) ?_
  refine va_sld hx hb hX hbl hbA hS (by unfold vp_in; decide) dL_law_618 ?_
  refine W_toi (y := xs 1) rfl ?_
  refine lv_aload_n hx hb dL_law_619 rfl (lv_at hl 3 rfl) ?_
  refine lv_iload_n hx hb dL_law_620 rfl (lv_at hl 0 rfl) ?_
  refine lv_iconst (v := 2) hx hb dL_law_621 (by decide) ?_
  refine lv_iadd hx hb dL_law_622 ?_
  refine W_toi (y := 2) (by decide) ?_
  refine va_sld hx hb hX hbl hbA hS (by unfold vp_in; decide) dL_law_623 ?_
  refine W_toi (y := xs 2) rfl ?_
  have hFc := va_free (wc := [(ho, .inr (10, [.ref t0, .ref r0, .ref m0, .ref x0, v4, v5, v6, v7, v8, .int 0, .int ((-1)), .int 0])), (m0, .inl (cM, 8, .inr (.inr (.inr (.inr (fun _ => none)))))), (r0, .inl (cR, 4, .inr (.inr (.inr (.inr fR)))))]) hD hS hA [0, 8, 3] rfl
  refine va_calli (va_runV (As := [.int (xs 1), .int (xs 2)]) (rest := []) ⟨hx, hb, hml, hown, hts⟩ (c_X8_read l dC dI ho t0 r0 m0 x0 (v4) (v5) (v6) (v7) (v8) cM cR fR (xs 1) (xs 2) H.size) (cwV 2 hts gp_law_12_X8_read_70 rfl rfl rfl (by decide +kernel) ⟨Nat.le_of_ble_eq_true rfl, Nat.le_of_ble_eq_true rfl⟩) ⟨Pr.blind _, va_recv hK hP (ci := 10) (q0 := 0) rfl rfl, fun U hU hW => ⟨rfl, Pr.at (hP.sub (ws' := [(ho, .inr (10, [.ref t0, .ref r0, .ref m0, .ref x0, v4, v5, v6, v7, v8, .int 0, .int ((-1)), .int 0])), (m0, .inl (cM, 8, .inr (.inr (.inr (.inr (fun _ => none)))))), (r0, .inl (cR, 4, .inr (.inr (.inr (.inr fR)))))]) [0, 8, 3] rfl) (hK.sub (tys' := [(cM, .object RX1), (cR, .object RX5)]) [2, 1] rfl) (hD.sub (ws' := [(ho, .inr (10, [.ref t0, .ref r0, .ref m0, .ref x0, v4, v5, v6, v7, v8, .int 0, .int ((-1)), .int 0])), (m0, .inl (cM, 8, .inr (.inr (.inr (.inr (fun _ => none)))))), (r0, .inl (cR, 4, .inr (.inr (.inr (.inr fR)))))]) [0, 8, 3] (by decide) rfl) hN hZ hS hFc hU hW⟩⟩ rfl rfl hl.1 rfl (lv_room (Nat.le_of_ble_eq_true rfl)) dL_law_624 ⟨Nat.le_of_ble_eq_true rfl, Nat.le_of_ble_eq_true rfl⟩) hS (fun q _ h => hFc q h) hFc (fun r_1 u t H1 locs ht hvm hw_2 hB hz1 hk1 hS => ?_)
  obtain ⟨hP, hD, hK⟩ := Bq.join (wr := [(t0, .inr (7, [.ref tb, .int 0])), (tb, .inl (cT, 400, .inl (fun _ => 0))), (q0, .inr (7, [.ref b0, .int 0])), (q1, .inr (7, [.ref b1, .int 0])), (q2, .inr (7, [.ref b2, .int 0])), (q3, .inr (7, [.ref b3, .int 0])), (x0, .inr (8, [.ref t0, .ref m0, .ref sb, .int 0, .int 0, .int ((-1))])), (hm, .inr (11, fs)), (a0, .inl (cZ, 8, .inl (fun _ => 0))), (a8, .inl (c8, 248, .inl (fun _ => 0))), (a9, .inl (c9, 400, .inl (fun _ => 0))), (a29, .inl (c29, 4, .inl (fun _ => 0)))]) hB ht hvm hP hD [0, 8, 3] [1, 2, 4, 5, 6, 7, 9, 10, 11, 12, 13, 14] rfl rfl (by decide) (by decide) hk1 hFc hK
  generalize H1 = H at hP hS ⊢
  have hP : va_P (dC, dI) vwCl [(t0, .inr (7, [.ref tb, .int 0])), (tb, .inl (cT, 400, .inl (fun _ => 0))), (q0, .inr (7, [.ref b0, .int 0])), (q1, .inr (7, [.ref b1, .int 0])), (q2, .inr (7, [.ref b2, .int 0])), (q3, .inr (7, [.ref b3, .int 0])), (x0, .inr (8, [.ref t0, .ref m0, .ref sb, .int 0, .int 0, .int ((-1))])), (hm, .inr (11, fs)), (a0, .inl (cZ, 8, .inl (fun _ => 0))), (a8, .inl (c8, 248, .inl (fun _ => 0))), (a9, .inl (c9, 400, .inl (fun _ => 0))), (a29, .inl (c29, 4, .inl (fun _ => 0)))] H := hP
  have hD : va_D A [(t0, .inr (7, [.ref tb, .int 0])), (tb, .inl (cT, 400, .inl (fun _ => 0))), (q0, .inr (7, [.ref b0, .int 0])), (q1, .inr (7, [.ref b1, .int 0])), (q2, .inr (7, [.ref b2, .int 0])), (q3, .inr (7, [.ref b3, .int 0])), (x0, .inr (8, [.ref t0, .ref m0, .ref sb, .int 0, .int 0, .int ((-1))])), (hm, .inr (11, fs)), (a0, .inl (cZ, 8, .inl (fun _ => 0))), (a8, .inl (c8, 248, .inl (fun _ => 0))), (a9, .inl (c9, 400, .inl (fun _ => 0))), (a29, .inl (c29, 4, .inl (fun _ => 0)))] := hD
  have hK : va_K (dC, dI) vwCl [(cT, .int), (cR, .object RX5), (cM, .object RX1), (cZ, .boolean), (c8, .boolean), (c9, .int), (c29, .int)] s := hK
  try dsimp only at hw_2
  have k_3 := hw_2
  refine W_toi (y := -2) k_3 ?_
  refine lv_aload_n hx hb dL_law_627 rfl (lv_at hl 1 rfl) ?_
  refine lv_aload_n hx hb dL_law_628 rfl (lv_at hl 3 rfl) ?_
  refine lv_iload_n hx hb dL_law_629 rfl (lv_at hl 0 rfl) ?_
  refine lv_iconst (v := 1) hx hb dL_law_630 (by decide) ?_
  refine lv_iadd hx hb dL_law_631 ?_
  refine W_toi (y := 1) (by decide) ?_
  refine va_sld hx hb hX hbl hbA hS (by unfold vp_in; decide) dL_law_632 ?_
  refine W_toi (y := xs 1) rfl ?_
  refine lv_aload_n hx hb dL_law_633 rfl (lv_at hl 3 rfl) ?_
  refine lv_iload_n hx hb dL_law_634 rfl (lv_at hl 0 rfl) ?_
  refine lv_iconst (v := 2) hx hb dL_law_635 (by decide) ?_
  refine lv_iadd hx hb dL_law_636 ?_
  refine W_toi (y := 2) (by decide) ?_
  refine va_sld hx hb hX hbl hbA hS (by unfold vp_in; decide) dL_law_637 ?_
  refine W_toi (y := xs 2) rfl ?_
  have hFc := va_free (wc := [(hm, .inr (11, fs)), (a0, .inl (cZ, 8, .inl (fun _ => 0)))]) hD hS hA [7, 8] rfl
  refine va_calli (va_runV (As := [.int (xs 1), .int (xs 2)]) (rest := [.int (-2)]) ⟨hx, hb, hml, hown, hts⟩ (c_X9_read l dC dI hm fs hfs a0 cZ fh0 (xs 1) (xs 2) H.size) (cwV 2 hts gp_law_12_X9_read_74 rfl rfl rfl (by decide +kernel) ⟨Nat.le_of_ble_eq_true rfl, Nat.le_of_ble_eq_true rfl⟩) ⟨Pr.blind _, va_recv hK hP (ci := 11) (q0 := 7) rfl rfl, fun U hU hW => ⟨rfl, Pr.at (hP.sub (ws' := [(hm, .inr (11, fs)), (a0, .inl (cZ, 8, .inl (fun _ => 0)))]) [7, 8] rfl) (hK.sub (tys' := [(cZ, .boolean)]) [3] rfl) (hD.sub (ws' := [(hm, .inr (11, fs)), (a0, .inl (cZ, 8, .inl (fun _ => 0)))]) [7, 8] (by decide) rfl) hN hZ hS hFc hU hW⟩⟩ rfl rfl hl.1 rfl (lv_room (Nat.le_of_ble_eq_true rfl)) dL_law_638 ⟨Nat.le_of_ble_eq_true rfl, Nat.le_of_ble_eq_true rfl⟩) hS (fun q _ h => hFc q h) hFc (fun r_4 u t H1 locs ht hvm hw_5 hB hz1 hk1 hS => ?_)
  obtain ⟨hP, hD, hK⟩ := Bq.join (wr := [(t0, .inr (7, [.ref tb, .int 0])), (tb, .inl (cT, 400, .inl (fun _ => 0))), (q0, .inr (7, [.ref b0, .int 0])), (q1, .inr (7, [.ref b1, .int 0])), (q2, .inr (7, [.ref b2, .int 0])), (q3, .inr (7, [.ref b3, .int 0])), (x0, .inr (8, [.ref t0, .ref m0, .ref sb, .int 0, .int 0, .int ((-1))])), (a8, .inl (c8, 248, .inl (fun _ => 0))), (a9, .inl (c9, 400, .inl (fun _ => 0))), (a29, .inl (c29, 4, .inl (fun _ => 0)))]) hB ht hvm hP hD [7, 8] [0, 1, 2, 3, 4, 5, 6, 9, 10, 11] rfl rfl (by decide) (by decide) hk1 hFc hK
  generalize H1 = H at hP hS ⊢
  have hP : va_P (dC, dI) vwCl [(t0, .inr (7, [.ref tb, .int 0])), (tb, .inl (cT, 400, .inl (fun _ => 0))), (q0, .inr (7, [.ref b0, .int 0])), (q1, .inr (7, [.ref b1, .int 0])), (q2, .inr (7, [.ref b2, .int 0])), (q3, .inr (7, [.ref b3, .int 0])), (x0, .inr (8, [.ref t0, .ref m0, .ref sb, .int 0, .int 0, .int ((-1))])), (a8, .inl (c8, 248, .inl (fun _ => 0))), (a9, .inl (c9, 400, .inl (fun _ => 0))), (a29, .inl (c29, 4, .inl (fun _ => 0)))] H := hP
  have hD : va_D A [(t0, .inr (7, [.ref tb, .int 0])), (tb, .inl (cT, 400, .inl (fun _ => 0))), (q0, .inr (7, [.ref b0, .int 0])), (q1, .inr (7, [.ref b1, .int 0])), (q2, .inr (7, [.ref b2, .int 0])), (q3, .inr (7, [.ref b3, .int 0])), (x0, .inr (8, [.ref t0, .ref m0, .ref sb, .int 0, .int 0, .int ((-1))])), (a8, .inl (c8, 248, .inl (fun _ => 0))), (a9, .inl (c9, 400, .inl (fun _ => 0))), (a29, .inl (c29, 4, .inl (fun _ => 0)))] := hD
  have hK : va_K (dC, dI) vwCl [(cT, .int), (cR, .object RX5), (cM, .object RX1), (cZ, .boolean), (c8, .boolean), (c9, .int), (c29, .int)] s := hK
  try dsimp only at hw_5
  have k_6 := hw_5
  refine W_toi (y := -2) k_6 ?_
  refine lv_icmp_eq (tgt := 974) hx hb dL_law_641 (by decide) (fun c_7 => ?_) (fun c_7 => absurd (by decide) c_7)
  refine lv_iinc (v := 6) (lv' := [(3, .int 6), (2, .ref hm), (1, .ref ho), (0, .ref b)]) hx hb dL_law_974 hl (k := 0) rfl (by decide) (by decide) rfl (fun ls hl => ?_)
  refine lv_goto (tgt := 18) hx hb dL_law_977 (by decide) ?_
  refine lv_iload_n hx hb dL_law_18 rfl (lv_at hl 0 rfl) ?_
  refine lv_aload_n hx hb dL_law_19 rfl (lv_at hl 3 rfl) ?_
  refine va_slen hx hb hX hbl hbA hS dL_law_20 ?_
  refine W_toi (y := 6) rfl ?_
  refine lv_bipush (v := 6) hx hb dL_law_21 (by decide) ?_
  refine lv_isub hx hb dL_law_23 ?_
  refine W_toi (y := 0) (by decide) ?_
  refine lv_icmp_gt (tgt := 980) hx hb dL_law_24 (by decide) (fun c_8 => ?_) (fun c_8 => absurd (by decide) c_8)
  refine lv_iconst (v := 1) hx hb dL_law_980 (by decide) ?_
  refine va_forget (fun q hq => hA2 _ (hS.2.2 q hq)) ?_
  refine W.widen (k := 600000) (n := 7302250) (by omega) (by omega) ?_
  exact lw_ret hx hb hr hlocks dL_law_981
set_option maxHeartbeats 4000000 in
set_option maxRecDepth 100000 in
theorem law_13 {p : Program} {e : Env} {s : State} {m : MethodId} {below : List Frame} {meth : Method} {c : Code} (l : Launch) {b : Nat} {xs : Nat → Int32} {A : Nat → Prop} (C0 : lw_At p s m meth c b 6 xs) (hA : ∀ q : Nat, s.heap.size ≤ q → A q) (hA2 : ∀ q : Nat, A q → s.heap.size ≤ q) (hbA : ¬ A b) (dC : Nat → ClassId) (dI : Nat → Nat → Nat) (hN : NX s) (hZ : cz A s s.heap) (ho : Nat) (t0 : Nat) (r0 : Nat) (m0 : Nat) (x0 : Nat) (v4 : Value) (v5 : Value) (v6 : Value) (v7 : Value) (v8 : Value) (tb : Nat) (cT : ClassId) (cR : ClassId) (fR : Nat → Option Nat) (q0 : Nat) (q1 : Nat) (q2 : Nat) (q3 : Nat) (b0 : Nat) (b1 : Nat) (b2 : Nat) (b3 : Nat) (cM : ClassId) (sb : Nat) (hq0 : fR 0 = some q0) (hq1 : fR 1 = some q1) (hq2 : fR 2 = some q2) (hq3 : fR 3 = some q3) (hm : Nat) (a0 : Nat) (cZ : ClassId) (a8 : Nat) (c8 : ClassId) (a9 : Nat) (c9 : ClassId) (a29 : Nat) (c29 : ClassId) (fs : List Value) (hfs : fs.length = 60) (fh0 : fs[0]? = some (.ref a0)) (fh8 : fs[8]? = some (.ref a8)) (fh9 : fs[9]? = some (.ref a9)) (fh10 : fs[10]? = some (.int 0)) (fh15 : fs[15]? = some (.int 0)) (fh16 : fs[16]? = some (.int ((-1)))) (fh29 : fs[29]? = some (.ref a29)) (fh59 : fs[59]? = some (.int 0)) (H : Heap) (locs : List Loc) (hK : va_K (dC, dI) vwCl [(cT, .int), (cR, .object RX5), (cM, .object RX1), (cZ, .boolean), (c8, .boolean), (c9, .int), (c29, .int)] s) (hP : va_P (dC, dI) vwCl [(ho, .inr (10, [.ref t0, .ref r0, .ref m0, .ref x0, v4, v5, v6, v7, v8, .int 0, .int ((-1)), .int 0])), (t0, .inr (7, [.ref tb, .int 0])), (tb, .inl (cT, 400, .inl (fun _ => 0))), (r0, .inl (cR, 4, .inr (.inr (.inr (.inr fR))))), (q0, .inr (7, [.ref b0, .int 0])), (q1, .inr (7, [.ref b1, .int 0])), (q2, .inr (7, [.ref b2, .int 0])), (q3, .inr (7, [.ref b3, .int 0])), (m0, .inl (cM, 8, .inr (.inr (.inr (.inr (fun _ => none)))))), (x0, .inr (8, [.ref t0, .ref m0, .ref sb, .int 0, .int 0, .int ((-1))])), (hm, .inr (11, fs)), (a0, .inl (cZ, 8, .inl (fun _ => 0))), (a8, .inl (c8, 248, .inl (fun _ => 0))), (a9, .inl (c9, 400, .inl (fun _ => 0))), (a29, .inl (c29, 4, .inl (fun _ => 0)))] H) (hD : va_D A [(ho, .inr (10, [.ref t0, .ref r0, .ref m0, .ref x0, v4, v5, v6, v7, v8, .int 0, .int ((-1)), .int 0])), (t0, .inr (7, [.ref tb, .int 0])), (tb, .inl (cT, 400, .inl (fun _ => 0))), (r0, .inl (cR, 4, .inr (.inr (.inr (.inr fR))))), (q0, .inr (7, [.ref b0, .int 0])), (q1, .inr (7, [.ref b1, .int 0])), (q2, .inr (7, [.ref b2, .int 0])), (q3, .inr (7, [.ref b3, .int 0])), (m0, .inl (cM, 8, .inr (.inr (.inr (.inr (fun _ => none)))))), (x0, .inr (8, [.ref t0, .ref m0, .ref sb, .int 0, .int 0, .int ((-1))])), (hm, .inr (11, fs)), (a0, .inl (cZ, 8, .inl (fun _ => 0))), (a8, .inl (c8, 248, .inl (fun _ => 0))), (a9, .inl (c9, 400, .inl (fun _ => 0))), (a29, .inl (c29, 4, .inl (fun _ => 0)))]) (hS : va_S A s.heap H locs) (ls : Array Slot) (hl : lv_has ls 4 [(3, .int 0), (2, .ref hm), (1, .ref ho), (0, .ref b)]) : W p l e room_1 s m #[Value.ref b] below meth c H locs 74 12530 (lw_Z below #[Value.ref b] s) (F0 m 646 ls []) := by
  obtain ⟨hx, hb, hr, hml, hown, hts, hX, hbl, hlocks, hgv⟩ := C0
  refine lv_aload_n hx hb dL_law_646 rfl (lv_at hl 2 rfl) ?_
  refine lv_aload_n hx hb dL_law_647 rfl (lv_at hl 3 rfl) ?_
  refine lv_iload_n hx hb dL_law_648 rfl (lv_at hl 0 rfl) ?_
  refine lv_iconst (v := 1) hx hb dL_law_649 (by decide) ?_
  refine lv_iadd hx hb dL_law_650 ?_
  refine W_toi (y := 1) (by decide) ?_
  refine va_sld hx hb hX hbl hbA hS (by unfold vp_in; decide) dL_law_651 ?_
  refine W_toi (y := xs 1) rfl ?_
  refine lv_aload_n hx hb dL_law_652 rfl (lv_at hl 3 rfl) ?_
  refine lv_iload_n hx hb dL_law_653 rfl (lv_at hl 0 rfl) ?_
  refine lv_iconst (v := 2) hx hb dL_law_654 (by decide) ?_
  refine lv_iadd hx hb dL_law_655 ?_
  refine W_toi (y := 2) (by decide) ?_
  refine va_sld hx hb hX hbl hbA hS (by unfold vp_in; decide) dL_law_656 ?_
  refine W_toi (y := xs 2) rfl ?_
  refine lv_aload_n hx hb dL_law_657 rfl (lv_at hl 3 rfl) ?_
  refine lv_iload_n hx hb dL_law_658 rfl (lv_at hl 0 rfl) ?_
  refine lv_iconst (v := 3) hx hb dL_law_659 (by decide) ?_
  refine lv_iadd hx hb dL_law_660 ?_
  refine W_toi (y := 3) (by decide) ?_
  refine va_sld hx hb hX hbl hbA hS (by unfold vp_in; decide) dL_law_661 ?_
  refine W_toi (y := xs 3) rfl ?_
  refine lv_aload_n hx hb dL_law_662 rfl (lv_at hl 3 rfl) ?_
  refine lv_iload_n hx hb dL_law_663 rfl (lv_at hl 0 rfl) ?_
  refine lv_iconst (v := 4) hx hb dL_law_664 (by decide) ?_
  refine lv_iadd hx hb dL_law_665 ?_
  refine W_toi (y := 4) (by decide) ?_
  refine va_sld hx hb hX hbl hbA hS (by unfold vp_in; decide) dL_law_666 ?_
  refine W_toi (y := xs 4) rfl ?_
  have hFc := va_free (wc := [(ho, .inr (10, [.ref t0, .ref r0, .ref m0, .ref x0, v4, v5, v6, v7, v8, .int 0, .int ((-1)), .int 0])), (m0, .inl (cM, 8, .inr (.inr (.inr (.inr (fun _ => none)))))), (r0, .inl (cR, 4, .inr (.inr (.inr (.inr fR)))))]) hD hS hA [0, 8, 3] rfl
  refine va_calll (va_runV (As := [.int (xs 1), .int (xs 2), .int (xs 3), .int (xs 4)]) (rest := []) ⟨hx, hb, hml, hown, hts⟩ (c_X8_get l dC dI ho t0 r0 m0 x0 (v4) (v5) (v6) (v7) (v8) cM cR fR (xs 1) (xs 2) (xs 3) (xs 4) H.size) (cwV 4 hts gp_law_13_X8_get_75 rfl rfl rfl (by decide +kernel) ⟨Nat.le_of_ble_eq_true rfl, Nat.le_of_ble_eq_true rfl⟩) ⟨Pr.blind _, va_recv hK hP (ci := 10) (q0 := 0) rfl rfl, fun U hU hW => ⟨rfl, Pr.at (hP.sub (ws' := [(ho, .inr (10, [.ref t0, .ref r0, .ref m0, .ref x0, v4, v5, v6, v7, v8, .int 0, .int ((-1)), .int 0])), (m0, .inl (cM, 8, .inr (.inr (.inr (.inr (fun _ => none)))))), (r0, .inl (cR, 4, .inr (.inr (.inr (.inr fR)))))]) [0, 8, 3] rfl) (hK.sub (tys' := [(cM, .object RX1), (cR, .object RX5)]) [2, 1] rfl) (hD.sub (ws' := [(ho, .inr (10, [.ref t0, .ref r0, .ref m0, .ref x0, v4, v5, v6, v7, v8, .int 0, .int ((-1)), .int 0])), (m0, .inl (cM, 8, .inr (.inr (.inr (.inr (fun _ => none)))))), (r0, .inl (cR, 4, .inr (.inr (.inr (.inr fR)))))]) [0, 8, 3] (by decide) rfl) hN hZ hS hFc hU hW⟩⟩ rfl rfl hl.1 rfl (lv_room (Nat.le_of_ble_eq_true rfl)) dL_law_667 ⟨Nat.le_of_ble_eq_true rfl, Nat.le_of_ble_eq_true rfl⟩) hS (fun q _ h => hFc q h) hFc (fun r_1 u t H1 locs ht hvm hw_2 hB hz1 hk1 hS => ?_)
  obtain ⟨hP, hD, hK⟩ := Bq.join (wr := [(t0, .inr (7, [.ref tb, .int 0])), (tb, .inl (cT, 400, .inl (fun _ => 0))), (q0, .inr (7, [.ref b0, .int 0])), (q1, .inr (7, [.ref b1, .int 0])), (q2, .inr (7, [.ref b2, .int 0])), (q3, .inr (7, [.ref b3, .int 0])), (x0, .inr (8, [.ref t0, .ref m0, .ref sb, .int 0, .int 0, .int ((-1))])), (hm, .inr (11, fs)), (a0, .inl (cZ, 8, .inl (fun _ => 0))), (a8, .inl (c8, 248, .inl (fun _ => 0))), (a9, .inl (c9, 400, .inl (fun _ => 0))), (a29, .inl (c29, 4, .inl (fun _ => 0)))]) hB ht hvm hP hD [0, 8, 3] [1, 2, 4, 5, 6, 7, 9, 10, 11, 12, 13, 14] rfl rfl (by decide) (by decide) hk1 hFc hK
  generalize H1 = H at hP hS ⊢
  have hP : va_P (dC, dI) vwCl [(t0, .inr (7, [.ref tb, .int 0])), (tb, .inl (cT, 400, .inl (fun _ => 0))), (q0, .inr (7, [.ref b0, .int 0])), (q1, .inr (7, [.ref b1, .int 0])), (q2, .inr (7, [.ref b2, .int 0])), (q3, .inr (7, [.ref b3, .int 0])), (x0, .inr (8, [.ref t0, .ref m0, .ref sb, .int 0, .int 0, .int ((-1))])), (hm, .inr (11, fs)), (a0, .inl (cZ, 8, .inl (fun _ => 0))), (a8, .inl (c8, 248, .inl (fun _ => 0))), (a9, .inl (c9, 400, .inl (fun _ => 0))), (a29, .inl (c29, 4, .inl (fun _ => 0)))] H := hP
  have hD : va_D A [(t0, .inr (7, [.ref tb, .int 0])), (tb, .inl (cT, 400, .inl (fun _ => 0))), (q0, .inr (7, [.ref b0, .int 0])), (q1, .inr (7, [.ref b1, .int 0])), (q2, .inr (7, [.ref b2, .int 0])), (q3, .inr (7, [.ref b3, .int 0])), (x0, .inr (8, [.ref t0, .ref m0, .ref sb, .int 0, .int 0, .int ((-1))])), (hm, .inr (11, fs)), (a0, .inl (cZ, 8, .inl (fun _ => 0))), (a8, .inl (c8, 248, .inl (fun _ => 0))), (a9, .inl (c9, 400, .inl (fun _ => 0))), (a29, .inl (c29, 4, .inl (fun _ => 0)))] := hD
  have hK : va_K (dC, dI) vwCl [(cT, .int), (cR, .object RX5), (cM, .object RX1), (cZ, .boolean), (c8, .boolean), (c9, .int), (c29, .int)] s := hK
  try dsimp only at hw_2
  have k_3 := hw_2
  refine W_tol (y := -9000000000000000000) k_3 ?_
  refine lv_aload_n hx hb dL_law_670 rfl (lv_at hl 1 rfl) ?_
  refine lv_aload_n hx hb dL_law_671 rfl (lv_at hl 3 rfl) ?_
  refine lv_iload_n hx hb dL_law_672 rfl (lv_at hl 0 rfl) ?_
  refine lv_iconst (v := 1) hx hb dL_law_673 (by decide) ?_
  refine lv_iadd hx hb dL_law_674 ?_
  refine W_toi (y := 1) (by decide) ?_
  refine va_sld hx hb hX hbl hbA hS (by unfold vp_in; decide) dL_law_675 ?_
  refine W_toi (y := xs 1) rfl ?_
  refine lv_aload_n hx hb dL_law_676 rfl (lv_at hl 3 rfl) ?_
  refine lv_iload_n hx hb dL_law_677 rfl (lv_at hl 0 rfl) ?_
  refine lv_iconst (v := 2) hx hb dL_law_678 (by decide) ?_
  refine lv_iadd hx hb dL_law_679 ?_
  refine W_toi (y := 2) (by decide) ?_
  refine va_sld hx hb hX hbl hbA hS (by unfold vp_in; decide) dL_law_680 ?_
  refine W_toi (y := xs 2) rfl ?_
  refine lv_aload_n hx hb dL_law_681 rfl (lv_at hl 3 rfl) ?_
  refine lv_iload_n hx hb dL_law_682 rfl (lv_at hl 0 rfl) ?_
  refine lv_iconst (v := 3) hx hb dL_law_683 (by decide) ?_
  refine lv_iadd hx hb dL_law_684 ?_
  refine W_toi (y := 3) (by decide) ?_
  refine va_sld hx hb hX hbl hbA hS (by unfold vp_in; decide) dL_law_685 ?_
  refine W_toi (y := xs 3) rfl ?_
  refine lv_aload_n hx hb dL_law_686 rfl (lv_at hl 3 rfl) ?_
  refine lv_iload_n hx hb dL_law_687 rfl (lv_at hl 0 rfl) ?_
  refine lv_iconst (v := 4) hx hb dL_law_688 (by decide) ?_
  refine lv_iadd hx hb dL_law_689 ?_
  refine W_toi (y := 4) (by decide) ?_
  refine va_sld hx hb hX hbl hbA hS (by unfold vp_in; decide) dL_law_690 ?_
  refine W_toi (y := xs 4) rfl ?_
  have hFc := va_free (wc := [(hm, .inr (11, fs)), (a0, .inl (cZ, 8, .inl (fun _ => 0)))]) hD hS hA [7, 8] rfl
  refine va_calll (va_runV (As := [.int (xs 1), .int (xs 2), .int (xs 3), .int (xs 4)]) (rest := [.long (-9000000000000000000)]) ⟨hx, hb, hml, hown, hts⟩ (c_X9_get l dC dI hm fs hfs a0 cZ fh0 (xs 1) (xs 2) (xs 3) (xs 4) H.size) (cwV 4 hts gp_law_13_X9_get_79 rfl rfl rfl (by decide +kernel) ⟨Nat.le_of_ble_eq_true rfl, Nat.le_of_ble_eq_true rfl⟩) ⟨Pr.blind _, va_recv hK hP (ci := 11) (q0 := 7) rfl rfl, fun U hU hW => ⟨rfl, Pr.at (hP.sub (ws' := [(hm, .inr (11, fs)), (a0, .inl (cZ, 8, .inl (fun _ => 0)))]) [7, 8] rfl) (hK.sub (tys' := [(cZ, .boolean)]) [3] rfl) (hD.sub (ws' := [(hm, .inr (11, fs)), (a0, .inl (cZ, 8, .inl (fun _ => 0)))]) [7, 8] (by decide) rfl) hN hZ hS hFc hU hW⟩⟩ rfl rfl hl.1 rfl (lv_room (Nat.le_of_ble_eq_true rfl)) dL_law_691 ⟨Nat.le_of_ble_eq_true rfl, Nat.le_of_ble_eq_true rfl⟩) hS (fun q _ h => hFc q h) hFc (fun r_4 u t H1 locs ht hvm hw_5 hB hz1 hk1 hS => ?_)
  obtain ⟨hP, hD, hK⟩ := Bq.join (wr := [(t0, .inr (7, [.ref tb, .int 0])), (tb, .inl (cT, 400, .inl (fun _ => 0))), (q0, .inr (7, [.ref b0, .int 0])), (q1, .inr (7, [.ref b1, .int 0])), (q2, .inr (7, [.ref b2, .int 0])), (q3, .inr (7, [.ref b3, .int 0])), (x0, .inr (8, [.ref t0, .ref m0, .ref sb, .int 0, .int 0, .int ((-1))])), (a8, .inl (c8, 248, .inl (fun _ => 0))), (a9, .inl (c9, 400, .inl (fun _ => 0))), (a29, .inl (c29, 4, .inl (fun _ => 0)))]) hB ht hvm hP hD [7, 8] [0, 1, 2, 3, 4, 5, 6, 9, 10, 11] rfl rfl (by decide) (by decide) hk1 hFc hK
  generalize H1 = H at hP hS ⊢
  have hP : va_P (dC, dI) vwCl [(t0, .inr (7, [.ref tb, .int 0])), (tb, .inl (cT, 400, .inl (fun _ => 0))), (q0, .inr (7, [.ref b0, .int 0])), (q1, .inr (7, [.ref b1, .int 0])), (q2, .inr (7, [.ref b2, .int 0])), (q3, .inr (7, [.ref b3, .int 0])), (x0, .inr (8, [.ref t0, .ref m0, .ref sb, .int 0, .int 0, .int ((-1))])), (a8, .inl (c8, 248, .inl (fun _ => 0))), (a9, .inl (c9, 400, .inl (fun _ => 0))), (a29, .inl (c29, 4, .inl (fun _ => 0)))] H := hP
  have hD : va_D A [(t0, .inr (7, [.ref tb, .int 0])), (tb, .inl (cT, 400, .inl (fun _ => 0))), (q0, .inr (7, [.ref b0, .int 0])), (q1, .inr (7, [.ref b1, .int 0])), (q2, .inr (7, [.ref b2, .int 0])), (q3, .inr (7, [.ref b3, .int 0])), (x0, .inr (8, [.ref t0, .ref m0, .ref sb, .int 0, .int 0, .int ((-1))])), (a8, .inl (c8, 248, .inl (fun _ => 0))), (a9, .inl (c9, 400, .inl (fun _ => 0))), (a29, .inl (c29, 4, .inl (fun _ => 0)))] := hD
  have hK : va_K (dC, dI) vwCl [(cT, .int), (cR, .object RX5), (cM, .object RX1), (cZ, .boolean), (c8, .boolean), (c9, .int), (c29, .int)] s := hK
  try dsimp only at hw_5
  have k_6 := hw_5
  refine W_tol (y := -9000000000000000000) k_6 ?_
  refine W.lcmp hx hb dL_law_694 ?_
  refine W_toi (y := 0) (by decide) ?_
  refine lv_if_eq (tgt := 974) hx hb dL_law_695 (by decide) (fun c_7 => ?_) (fun c_7 => absurd (by decide) c_7)
  refine lv_iinc (v := 6) (lv' := [(3, .int 6), (2, .ref hm), (1, .ref ho), (0, .ref b)]) hx hb dL_law_974 hl (k := 0) rfl (by decide) (by decide) rfl (fun ls hl => ?_)
  refine lv_goto (tgt := 18) hx hb dL_law_977 (by decide) ?_
  refine lv_iload_n hx hb dL_law_18 rfl (lv_at hl 0 rfl) ?_
  refine lv_aload_n hx hb dL_law_19 rfl (lv_at hl 3 rfl) ?_
  refine va_slen hx hb hX hbl hbA hS dL_law_20 ?_
  refine W_toi (y := 6) rfl ?_
  refine lv_bipush (v := 6) hx hb dL_law_21 (by decide) ?_
  refine lv_isub hx hb dL_law_23 ?_
  refine W_toi (y := 0) (by decide) ?_
  refine lv_icmp_gt (tgt := 980) hx hb dL_law_24 (by decide) (fun c_8 => ?_) (fun c_8 => absurd (by decide) c_8)
  refine lv_iconst (v := 1) hx hb dL_law_980 (by decide) ?_
  refine va_forget (fun q hq => hA2 _ (hS.2.2 q hq)) ?_
  refine W.widen (k := 600000) (n := 7302250) (by omega) (by omega) ?_
  exact lw_ret hx hb hr hlocks dL_law_981
set_option maxHeartbeats 4000000 in
set_option maxRecDepth 100000 in
theorem law_14 {p : Program} {e : Env} {s : State} {m : MethodId} {below : List Frame} {meth : Method} {c : Code} (l : Launch) {b : Nat} {xs : Nat → Int32} {A : Nat → Prop} (C0 : lw_At p s m meth c b 6 xs) (hA : ∀ q : Nat, s.heap.size ≤ q → A q) (hA2 : ∀ q : Nat, A q → s.heap.size ≤ q) (hbA : ¬ A b) (dC : Nat → ClassId) (dI : Nat → Nat → Nat) (hN : NX s) (hZ : cz A s s.heap) (ho : Nat) (t0 : Nat) (r0 : Nat) (m0 : Nat) (x0 : Nat) (v4 : Value) (v5 : Value) (v6 : Value) (v7 : Value) (v8 : Value) (tb : Nat) (cT : ClassId) (cR : ClassId) (fR : Nat → Option Nat) (q0 : Nat) (q1 : Nat) (q2 : Nat) (q3 : Nat) (b0 : Nat) (b1 : Nat) (b2 : Nat) (b3 : Nat) (cM : ClassId) (sb : Nat) (hq0 : fR 0 = some q0) (hq1 : fR 1 = some q1) (hq2 : fR 2 = some q2) (hq3 : fR 3 = some q3) (hm : Nat) (a0 : Nat) (cZ : ClassId) (a8 : Nat) (c8 : ClassId) (a9 : Nat) (c9 : ClassId) (a29 : Nat) (c29 : ClassId) (fs : List Value) (hfs : fs.length = 60) (fh0 : fs[0]? = some (.ref a0)) (fh8 : fs[8]? = some (.ref a8)) (fh9 : fs[9]? = some (.ref a9)) (fh10 : fs[10]? = some (.int 0)) (fh15 : fs[15]? = some (.int 0)) (fh16 : fs[16]? = some (.int ((-1)))) (fh29 : fs[29]? = some (.ref a29)) (fh59 : fs[59]? = some (.int 0)) (H : Heap) (locs : List Loc) (hK : va_K (dC, dI) vwCl [(cT, .int), (cR, .object RX5), (cM, .object RX1), (cZ, .boolean), (c8, .boolean), (c9, .int), (c29, .int)] s) (hP : va_P (dC, dI) vwCl [(ho, .inr (10, [.ref t0, .ref r0, .ref m0, .ref x0, v4, v5, v6, v7, v8, .int 0, .int ((-1)), .int 0])), (t0, .inr (7, [.ref tb, .int 0])), (tb, .inl (cT, 400, .inl (fun _ => 0))), (r0, .inl (cR, 4, .inr (.inr (.inr (.inr fR))))), (q0, .inr (7, [.ref b0, .int 0])), (q1, .inr (7, [.ref b1, .int 0])), (q2, .inr (7, [.ref b2, .int 0])), (q3, .inr (7, [.ref b3, .int 0])), (m0, .inl (cM, 8, .inr (.inr (.inr (.inr (fun _ => none)))))), (x0, .inr (8, [.ref t0, .ref m0, .ref sb, .int 0, .int 0, .int ((-1))])), (hm, .inr (11, fs)), (a0, .inl (cZ, 8, .inl (fun _ => 0))), (a8, .inl (c8, 248, .inl (fun _ => 0))), (a9, .inl (c9, 400, .inl (fun _ => 0))), (a29, .inl (c29, 4, .inl (fun _ => 0)))] H) (hD : va_D A [(ho, .inr (10, [.ref t0, .ref r0, .ref m0, .ref x0, v4, v5, v6, v7, v8, .int 0, .int ((-1)), .int 0])), (t0, .inr (7, [.ref tb, .int 0])), (tb, .inl (cT, 400, .inl (fun _ => 0))), (r0, .inl (cR, 4, .inr (.inr (.inr (.inr fR))))), (q0, .inr (7, [.ref b0, .int 0])), (q1, .inr (7, [.ref b1, .int 0])), (q2, .inr (7, [.ref b2, .int 0])), (q3, .inr (7, [.ref b3, .int 0])), (m0, .inl (cM, 8, .inr (.inr (.inr (.inr (fun _ => none)))))), (x0, .inr (8, [.ref t0, .ref m0, .ref sb, .int 0, .int 0, .int ((-1))])), (hm, .inr (11, fs)), (a0, .inl (cZ, 8, .inl (fun _ => 0))), (a8, .inl (c8, 248, .inl (fun _ => 0))), (a9, .inl (c9, 400, .inl (fun _ => 0))), (a29, .inl (c29, 4, .inl (fun _ => 0)))]) (hS : va_S A s.heap H locs) (ls : Array Slot) (hl : lv_has ls 4 [(3, .int 0), (2, .ref hm), (1, .ref ho), (0, .ref b)]) : W p l e room_1 s m #[Value.ref b] below meth c H locs 74 12530 (lw_Z below #[Value.ref b] s) (F0 m 700 ls []) := by
  obtain ⟨hx, hb, hr, hml, hown, hts, hX, hbl, hlocks, hgv⟩ := C0
  refine lv_aload_n hx hb dL_law_700 rfl (lv_at hl 2 rfl) ?_
  refine lv_aload_n hx hb dL_law_701 rfl (lv_at hl 3 rfl) ?_
  refine lv_iload_n hx hb dL_law_702 rfl (lv_at hl 0 rfl) ?_
  refine lv_iconst (v := 1) hx hb dL_law_703 (by decide) ?_
  refine lv_iadd hx hb dL_law_704 ?_
  refine W_toi (y := 1) (by decide) ?_
  refine va_sld hx hb hX hbl hbA hS (by unfold vp_in; decide) dL_law_705 ?_
  refine W_toi (y := xs 1) rfl ?_
  refine lv_aload_n hx hb dL_law_706 rfl (lv_at hl 3 rfl) ?_
  refine lv_iload_n hx hb dL_law_707 rfl (lv_at hl 0 rfl) ?_
  refine lv_iconst (v := 2) hx hb dL_law_708 (by decide) ?_
  refine lv_iadd hx hb dL_law_709 ?_
  refine W_toi (y := 2) (by decide) ?_
  refine va_sld hx hb hX hbl hbA hS (by unfold vp_in; decide) dL_law_710 ?_
  refine W_toi (y := xs 2) rfl ?_
  have hFc := va_free (wc := [(ho, .inr (10, [.ref t0, .ref r0, .ref m0, .ref x0, v4, v5, v6, v7, v8, .int 0, .int ((-1)), .int 0])), (m0, .inl (cM, 8, .inr (.inr (.inr (.inr (fun _ => none)))))), (r0, .inl (cR, 4, .inr (.inr (.inr (.inr fR)))))]) hD hS hA [0, 8, 3] rfl
  refine va_calli (va_runV (As := [.int (xs 1), .int (xs 2)]) (rest := []) ⟨hx, hb, hml, hown, hts⟩ (c_X8_kept l dC dI ho t0 r0 m0 x0 (v4) (v5) (v6) (v7) (v8) cM cR fR (xs 1) (xs 2) H.size) (cwV 2 hts gp_law_14_X8_kept_80 rfl rfl rfl (by decide +kernel) ⟨Nat.le_of_ble_eq_true rfl, Nat.le_of_ble_eq_true rfl⟩) ⟨Pr.blind _, va_recv hK hP (ci := 10) (q0 := 0) rfl rfl, fun U hU hW => ⟨rfl, Pr.at (hP.sub (ws' := [(ho, .inr (10, [.ref t0, .ref r0, .ref m0, .ref x0, v4, v5, v6, v7, v8, .int 0, .int ((-1)), .int 0])), (m0, .inl (cM, 8, .inr (.inr (.inr (.inr (fun _ => none)))))), (r0, .inl (cR, 4, .inr (.inr (.inr (.inr fR)))))]) [0, 8, 3] rfl) (hK.sub (tys' := [(cM, .object RX1), (cR, .object RX5)]) [2, 1] rfl) (hD.sub (ws' := [(ho, .inr (10, [.ref t0, .ref r0, .ref m0, .ref x0, v4, v5, v6, v7, v8, .int 0, .int ((-1)), .int 0])), (m0, .inl (cM, 8, .inr (.inr (.inr (.inr (fun _ => none)))))), (r0, .inl (cR, 4, .inr (.inr (.inr (.inr fR)))))]) [0, 8, 3] (by decide) rfl) hN hZ hS hFc hU hW⟩⟩ rfl rfl hl.1 rfl (lv_room (Nat.le_of_ble_eq_true rfl)) dL_law_711 ⟨Nat.le_of_ble_eq_true rfl, Nat.le_of_ble_eq_true rfl⟩) hS (fun q _ h => hFc q h) hFc (fun r_1 u t H1 locs ht hvm hw_2 hB hz1 hk1 hS => ?_)
  obtain ⟨hP, hD, hK⟩ := Bq.join (wr := [(t0, .inr (7, [.ref tb, .int 0])), (tb, .inl (cT, 400, .inl (fun _ => 0))), (q0, .inr (7, [.ref b0, .int 0])), (q1, .inr (7, [.ref b1, .int 0])), (q2, .inr (7, [.ref b2, .int 0])), (q3, .inr (7, [.ref b3, .int 0])), (x0, .inr (8, [.ref t0, .ref m0, .ref sb, .int 0, .int 0, .int ((-1))])), (hm, .inr (11, fs)), (a0, .inl (cZ, 8, .inl (fun _ => 0))), (a8, .inl (c8, 248, .inl (fun _ => 0))), (a9, .inl (c9, 400, .inl (fun _ => 0))), (a29, .inl (c29, 4, .inl (fun _ => 0)))]) hB ht hvm hP hD [0, 8, 3] [1, 2, 4, 5, 6, 7, 9, 10, 11, 12, 13, 14] rfl rfl (by decide) (by decide) hk1 hFc hK
  generalize H1 = H at hP hS ⊢
  have hP : va_P (dC, dI) vwCl [(t0, .inr (7, [.ref tb, .int 0])), (tb, .inl (cT, 400, .inl (fun _ => 0))), (q0, .inr (7, [.ref b0, .int 0])), (q1, .inr (7, [.ref b1, .int 0])), (q2, .inr (7, [.ref b2, .int 0])), (q3, .inr (7, [.ref b3, .int 0])), (x0, .inr (8, [.ref t0, .ref m0, .ref sb, .int 0, .int 0, .int ((-1))])), (hm, .inr (11, fs)), (a0, .inl (cZ, 8, .inl (fun _ => 0))), (a8, .inl (c8, 248, .inl (fun _ => 0))), (a9, .inl (c9, 400, .inl (fun _ => 0))), (a29, .inl (c29, 4, .inl (fun _ => 0)))] H := hP
  have hD : va_D A [(t0, .inr (7, [.ref tb, .int 0])), (tb, .inl (cT, 400, .inl (fun _ => 0))), (q0, .inr (7, [.ref b0, .int 0])), (q1, .inr (7, [.ref b1, .int 0])), (q2, .inr (7, [.ref b2, .int 0])), (q3, .inr (7, [.ref b3, .int 0])), (x0, .inr (8, [.ref t0, .ref m0, .ref sb, .int 0, .int 0, .int ((-1))])), (hm, .inr (11, fs)), (a0, .inl (cZ, 8, .inl (fun _ => 0))), (a8, .inl (c8, 248, .inl (fun _ => 0))), (a9, .inl (c9, 400, .inl (fun _ => 0))), (a29, .inl (c29, 4, .inl (fun _ => 0)))] := hD
  have hK : va_K (dC, dI) vwCl [(cT, .int), (cR, .object RX5), (cM, .object RX1), (cZ, .boolean), (c8, .boolean), (c9, .int), (c29, .int)] s := hK
  try dsimp only at hw_2
  have k_3 := hw_2
  refine W_toi (y := -1) k_3 ?_
  refine lv_aload_n hx hb dL_law_714 rfl (lv_at hl 1 rfl) ?_
  refine lv_aload_n hx hb dL_law_715 rfl (lv_at hl 3 rfl) ?_
  refine lv_iload_n hx hb dL_law_716 rfl (lv_at hl 0 rfl) ?_
  refine lv_iconst (v := 1) hx hb dL_law_717 (by decide) ?_
  refine lv_iadd hx hb dL_law_718 ?_
  refine W_toi (y := 1) (by decide) ?_
  refine va_sld hx hb hX hbl hbA hS (by unfold vp_in; decide) dL_law_719 ?_
  refine W_toi (y := xs 1) rfl ?_
  refine lv_aload_n hx hb dL_law_720 rfl (lv_at hl 3 rfl) ?_
  refine lv_iload_n hx hb dL_law_721 rfl (lv_at hl 0 rfl) ?_
  refine lv_iconst (v := 2) hx hb dL_law_722 (by decide) ?_
  refine lv_iadd hx hb dL_law_723 ?_
  refine W_toi (y := 2) (by decide) ?_
  refine va_sld hx hb hX hbl hbA hS (by unfold vp_in; decide) dL_law_724 ?_
  refine W_toi (y := xs 2) rfl ?_
  have hFc := va_free (wc := [(hm, .inr (11, fs)), (a0, .inl (cZ, 8, .inl (fun _ => 0)))]) hD hS hA [7, 8] rfl
  refine va_calli (va_runV (As := [.int (xs 1), .int (xs 2)]) (rest := [.int (-1)]) ⟨hx, hb, hml, hown, hts⟩ (c_X9_kept l dC dI hm fs hfs a0 cZ fh0 (xs 1) (xs 2) H.size) (cwV 2 hts gp_law_14_X9_kept_83 rfl rfl rfl (by decide +kernel) ⟨Nat.le_of_ble_eq_true rfl, Nat.le_of_ble_eq_true rfl⟩) ⟨Pr.blind _, va_recv hK hP (ci := 11) (q0 := 7) rfl rfl, fun U hU hW => ⟨rfl, Pr.at (hP.sub (ws' := [(hm, .inr (11, fs)), (a0, .inl (cZ, 8, .inl (fun _ => 0)))]) [7, 8] rfl) (hK.sub (tys' := [(cZ, .boolean)]) [3] rfl) (hD.sub (ws' := [(hm, .inr (11, fs)), (a0, .inl (cZ, 8, .inl (fun _ => 0)))]) [7, 8] (by decide) rfl) hN hZ hS hFc hU hW⟩⟩ rfl rfl hl.1 rfl (lv_room (Nat.le_of_ble_eq_true rfl)) dL_law_725 ⟨Nat.le_of_ble_eq_true rfl, Nat.le_of_ble_eq_true rfl⟩) hS (fun q _ h => hFc q h) hFc (fun r_4 u t H1 locs ht hvm hw_5 hB hz1 hk1 hS => ?_)
  obtain ⟨hP, hD, hK⟩ := Bq.join (wr := [(t0, .inr (7, [.ref tb, .int 0])), (tb, .inl (cT, 400, .inl (fun _ => 0))), (q0, .inr (7, [.ref b0, .int 0])), (q1, .inr (7, [.ref b1, .int 0])), (q2, .inr (7, [.ref b2, .int 0])), (q3, .inr (7, [.ref b3, .int 0])), (x0, .inr (8, [.ref t0, .ref m0, .ref sb, .int 0, .int 0, .int ((-1))])), (a8, .inl (c8, 248, .inl (fun _ => 0))), (a9, .inl (c9, 400, .inl (fun _ => 0))), (a29, .inl (c29, 4, .inl (fun _ => 0)))]) hB ht hvm hP hD [7, 8] [0, 1, 2, 3, 4, 5, 6, 9, 10, 11] rfl rfl (by decide) (by decide) hk1 hFc hK
  generalize H1 = H at hP hS ⊢
  have hP : va_P (dC, dI) vwCl [(t0, .inr (7, [.ref tb, .int 0])), (tb, .inl (cT, 400, .inl (fun _ => 0))), (q0, .inr (7, [.ref b0, .int 0])), (q1, .inr (7, [.ref b1, .int 0])), (q2, .inr (7, [.ref b2, .int 0])), (q3, .inr (7, [.ref b3, .int 0])), (x0, .inr (8, [.ref t0, .ref m0, .ref sb, .int 0, .int 0, .int ((-1))])), (a8, .inl (c8, 248, .inl (fun _ => 0))), (a9, .inl (c9, 400, .inl (fun _ => 0))), (a29, .inl (c29, 4, .inl (fun _ => 0)))] H := hP
  have hD : va_D A [(t0, .inr (7, [.ref tb, .int 0])), (tb, .inl (cT, 400, .inl (fun _ => 0))), (q0, .inr (7, [.ref b0, .int 0])), (q1, .inr (7, [.ref b1, .int 0])), (q2, .inr (7, [.ref b2, .int 0])), (q3, .inr (7, [.ref b3, .int 0])), (x0, .inr (8, [.ref t0, .ref m0, .ref sb, .int 0, .int 0, .int ((-1))])), (a8, .inl (c8, 248, .inl (fun _ => 0))), (a9, .inl (c9, 400, .inl (fun _ => 0))), (a29, .inl (c29, 4, .inl (fun _ => 0)))] := hD
  have hK : va_K (dC, dI) vwCl [(cT, .int), (cR, .object RX5), (cM, .object RX1), (cZ, .boolean), (c8, .boolean), (c9, .int), (c29, .int)] s := hK
  try dsimp only at hw_5
  have k_6 := hw_5
  refine W_toi (y := -1) k_6 ?_
  refine lv_icmp_eq (tgt := 974) hx hb dL_law_728 (by decide) (fun c_7 => ?_) (fun c_7 => absurd (by decide) c_7)
  refine lv_iinc (v := 6) (lv' := [(3, .int 6), (2, .ref hm), (1, .ref ho), (0, .ref b)]) hx hb dL_law_974 hl (k := 0) rfl (by decide) (by decide) rfl (fun ls hl => ?_)
  refine lv_goto (tgt := 18) hx hb dL_law_977 (by decide) ?_
  refine lv_iload_n hx hb dL_law_18 rfl (lv_at hl 0 rfl) ?_
  refine lv_aload_n hx hb dL_law_19 rfl (lv_at hl 3 rfl) ?_
  refine va_slen hx hb hX hbl hbA hS dL_law_20 ?_
  refine W_toi (y := 6) rfl ?_
  refine lv_bipush (v := 6) hx hb dL_law_21 (by decide) ?_
  refine lv_isub hx hb dL_law_23 ?_
  refine W_toi (y := 0) (by decide) ?_
  refine lv_icmp_gt (tgt := 980) hx hb dL_law_24 (by decide) (fun c_8 => ?_) (fun c_8 => absurd (by decide) c_8)
  refine lv_iconst (v := 1) hx hb dL_law_980 (by decide) ?_
  refine va_forget (fun q hq => hA2 _ (hS.2.2 q hq)) ?_
  refine W.widen (k := 600000) (n := 7302250) (by omega) (by omega) ?_
  exact lw_ret hx hb hr hlocks dL_law_981
set_option maxHeartbeats 4000000 in
set_option maxRecDepth 100000 in
theorem law_15 {p : Program} {e : Env} {s : State} {m : MethodId} {below : List Frame} {meth : Method} {c : Code} (l : Launch) {b : Nat} {xs : Nat → Int32} {A : Nat → Prop} (C0 : lw_At p s m meth c b 6 xs) (hA : ∀ q : Nat, s.heap.size ≤ q → A q) (hA2 : ∀ q : Nat, A q → s.heap.size ≤ q) (hbA : ¬ A b) (dC : Nat → ClassId) (dI : Nat → Nat → Nat) (hN : NX s) (hZ : cz A s s.heap) (ho : Nat) (t0 : Nat) (r0 : Nat) (m0 : Nat) (x0 : Nat) (v4 : Value) (v5 : Value) (v6 : Value) (v7 : Value) (v8 : Value) (tb : Nat) (cT : ClassId) (cR : ClassId) (fR : Nat → Option Nat) (q0 : Nat) (q1 : Nat) (q2 : Nat) (q3 : Nat) (b0 : Nat) (b1 : Nat) (b2 : Nat) (b3 : Nat) (cM : ClassId) (sb : Nat) (hq0 : fR 0 = some q0) (hq1 : fR 1 = some q1) (hq2 : fR 2 = some q2) (hq3 : fR 3 = some q3) (hm : Nat) (a0 : Nat) (cZ : ClassId) (a8 : Nat) (c8 : ClassId) (a9 : Nat) (c9 : ClassId) (a29 : Nat) (c29 : ClassId) (fs : List Value) (hfs : fs.length = 60) (fh0 : fs[0]? = some (.ref a0)) (fh8 : fs[8]? = some (.ref a8)) (fh9 : fs[9]? = some (.ref a9)) (fh10 : fs[10]? = some (.int 0)) (fh15 : fs[15]? = some (.int 0)) (fh16 : fs[16]? = some (.int ((-1)))) (fh29 : fs[29]? = some (.ref a29)) (fh59 : fs[59]? = some (.int 0)) (H : Heap) (locs : List Loc) (hK : va_K (dC, dI) vwCl [(cT, .int), (cR, .object RX5), (cM, .object RX1), (cZ, .boolean), (c8, .boolean), (c9, .int), (c29, .int)] s) (hP : va_P (dC, dI) vwCl [(ho, .inr (10, [.ref t0, .ref r0, .ref m0, .ref x0, v4, v5, v6, v7, v8, .int 0, .int ((-1)), .int 0])), (t0, .inr (7, [.ref tb, .int 0])), (tb, .inl (cT, 400, .inl (fun _ => 0))), (r0, .inl (cR, 4, .inr (.inr (.inr (.inr fR))))), (q0, .inr (7, [.ref b0, .int 0])), (q1, .inr (7, [.ref b1, .int 0])), (q2, .inr (7, [.ref b2, .int 0])), (q3, .inr (7, [.ref b3, .int 0])), (m0, .inl (cM, 8, .inr (.inr (.inr (.inr (fun _ => none)))))), (x0, .inr (8, [.ref t0, .ref m0, .ref sb, .int 0, .int 0, .int ((-1))])), (hm, .inr (11, fs)), (a0, .inl (cZ, 8, .inl (fun _ => 0))), (a8, .inl (c8, 248, .inl (fun _ => 0))), (a9, .inl (c9, 400, .inl (fun _ => 0))), (a29, .inl (c29, 4, .inl (fun _ => 0)))] H) (hD : va_D A [(ho, .inr (10, [.ref t0, .ref r0, .ref m0, .ref x0, v4, v5, v6, v7, v8, .int 0, .int ((-1)), .int 0])), (t0, .inr (7, [.ref tb, .int 0])), (tb, .inl (cT, 400, .inl (fun _ => 0))), (r0, .inl (cR, 4, .inr (.inr (.inr (.inr fR))))), (q0, .inr (7, [.ref b0, .int 0])), (q1, .inr (7, [.ref b1, .int 0])), (q2, .inr (7, [.ref b2, .int 0])), (q3, .inr (7, [.ref b3, .int 0])), (m0, .inl (cM, 8, .inr (.inr (.inr (.inr (fun _ => none)))))), (x0, .inr (8, [.ref t0, .ref m0, .ref sb, .int 0, .int 0, .int ((-1))])), (hm, .inr (11, fs)), (a0, .inl (cZ, 8, .inl (fun _ => 0))), (a8, .inl (c8, 248, .inl (fun _ => 0))), (a9, .inl (c9, 400, .inl (fun _ => 0))), (a29, .inl (c29, 4, .inl (fun _ => 0)))]) (hS : va_S A s.heap H locs) (ls : Array Slot) (hl : lv_has ls 4 [(3, .int 0), (2, .ref hm), (1, .ref ho), (0, .ref b)]) : W p l e room_1 s m #[Value.ref b] below meth c H locs 74 12530 (lw_Z below #[Value.ref b] s) (F0 m 733 ls []) := by
  obtain ⟨hx, hb, hr, hml, hown, hts, hX, hbl, hlocks, hgv⟩ := C0
  refine lv_aload_n hx hb dL_law_733 rfl (lv_at hl 2 rfl) ?_
  refine lv_aload_n hx hb dL_law_734 rfl (lv_at hl 3 rfl) ?_
  refine lv_iload_n hx hb dL_law_735 rfl (lv_at hl 0 rfl) ?_
  refine lv_iconst (v := 1) hx hb dL_law_736 (by decide) ?_
  refine lv_iadd hx hb dL_law_737 ?_
  refine W_toi (y := 1) (by decide) ?_
  refine va_sld hx hb hX hbl hbA hS (by unfold vp_in; decide) dL_law_738 ?_
  refine W_toi (y := xs 1) rfl ?_
  refine lv_aload_n hx hb dL_law_739 rfl (lv_at hl 3 rfl) ?_
  refine lv_iload_n hx hb dL_law_740 rfl (lv_at hl 0 rfl) ?_
  refine lv_iconst (v := 2) hx hb dL_law_741 (by decide) ?_
  refine lv_iadd hx hb dL_law_742 ?_
  refine W_toi (y := 2) (by decide) ?_
  refine va_sld hx hb hX hbl hbA hS (by unfold vp_in; decide) dL_law_743 ?_
  refine W_toi (y := xs 2) rfl ?_
  refine lv_aload_n hx hb dL_law_744 rfl (lv_at hl 3 rfl) ?_
  refine lv_iload_n hx hb dL_law_745 rfl (lv_at hl 0 rfl) ?_
  refine lv_iconst (v := 3) hx hb dL_law_746 (by decide) ?_
  refine lv_iadd hx hb dL_law_747 ?_
  refine W_toi (y := 3) (by decide) ?_
  refine va_sld hx hb hX hbl hbA hS (by unfold vp_in; decide) dL_law_748 ?_
  refine W_toi (y := xs 3) rfl ?_
  have hFc := va_free (wc := [(ho, .inr (10, [.ref t0, .ref r0, .ref m0, .ref x0, v4, v5, v6, v7, v8, .int 0, .int ((-1)), .int 0])), (m0, .inl (cM, 8, .inr (.inr (.inr (.inr (fun _ => none)))))), (r0, .inl (cR, 4, .inr (.inr (.inr (.inr fR)))))]) hD hS hA [0, 8, 3] rfl
  refine va_calli (va_runV (As := [.int (xs 1), .int (xs 2), .int (xs 3)]) (rest := []) ⟨hx, hb, hml, hown, hts⟩ (c_X8_write l dC dI ho t0 r0 m0 x0 (v4) (v5) (v6) (v7) (v8) cM cR fR (xs 1) (xs 2) (xs 3) H.size) (cwV 3 hts gp_law_15_X8_write_84 rfl rfl rfl (by decide +kernel) ⟨Nat.le_of_ble_eq_true rfl, Nat.le_of_ble_eq_true rfl⟩) ⟨Pr.blind _, va_recv hK hP (ci := 10) (q0 := 0) rfl rfl, fun U hU hW => ⟨rfl, Pr.at (hP.sub (ws' := [(ho, .inr (10, [.ref t0, .ref r0, .ref m0, .ref x0, v4, v5, v6, v7, v8, .int 0, .int ((-1)), .int 0])), (m0, .inl (cM, 8, .inr (.inr (.inr (.inr (fun _ => none)))))), (r0, .inl (cR, 4, .inr (.inr (.inr (.inr fR)))))]) [0, 8, 3] rfl) (hK.sub (tys' := [(cM, .object RX1), (cR, .object RX5)]) [2, 1] rfl) (hD.sub (ws' := [(ho, .inr (10, [.ref t0, .ref r0, .ref m0, .ref x0, v4, v5, v6, v7, v8, .int 0, .int ((-1)), .int 0])), (m0, .inl (cM, 8, .inr (.inr (.inr (.inr (fun _ => none)))))), (r0, .inl (cR, 4, .inr (.inr (.inr (.inr fR)))))]) [0, 8, 3] (by decide) rfl) hN hZ hS hFc hU hW⟩⟩ rfl rfl hl.1 rfl (lv_room (Nat.le_of_ble_eq_true rfl)) dL_law_749 ⟨Nat.le_of_ble_eq_true rfl, Nat.le_of_ble_eq_true rfl⟩) hS (fun q _ h => hFc q h) hFc (fun r_1 u t H1 locs ht hvm hw_2 hB hz1 hk1 hS => ?_)
  obtain ⟨hP, hD, hK⟩ := Bq.join (wr := [(t0, .inr (7, [.ref tb, .int 0])), (tb, .inl (cT, 400, .inl (fun _ => 0))), (q0, .inr (7, [.ref b0, .int 0])), (q1, .inr (7, [.ref b1, .int 0])), (q2, .inr (7, [.ref b2, .int 0])), (q3, .inr (7, [.ref b3, .int 0])), (x0, .inr (8, [.ref t0, .ref m0, .ref sb, .int 0, .int 0, .int ((-1))])), (hm, .inr (11, fs)), (a0, .inl (cZ, 8, .inl (fun _ => 0))), (a8, .inl (c8, 248, .inl (fun _ => 0))), (a9, .inl (c9, 400, .inl (fun _ => 0))), (a29, .inl (c29, 4, .inl (fun _ => 0)))]) hB ht hvm hP hD [0, 8, 3] [1, 2, 4, 5, 6, 7, 9, 10, 11, 12, 13, 14] rfl rfl (by decide) (by decide) hk1 hFc hK
  generalize H1 = H at hP hS ⊢
  have hP : va_P (dC, dI) vwCl [(t0, .inr (7, [.ref tb, .int 0])), (tb, .inl (cT, 400, .inl (fun _ => 0))), (q0, .inr (7, [.ref b0, .int 0])), (q1, .inr (7, [.ref b1, .int 0])), (q2, .inr (7, [.ref b2, .int 0])), (q3, .inr (7, [.ref b3, .int 0])), (x0, .inr (8, [.ref t0, .ref m0, .ref sb, .int 0, .int 0, .int ((-1))])), (hm, .inr (11, fs)), (a0, .inl (cZ, 8, .inl (fun _ => 0))), (a8, .inl (c8, 248, .inl (fun _ => 0))), (a9, .inl (c9, 400, .inl (fun _ => 0))), (a29, .inl (c29, 4, .inl (fun _ => 0)))] H := hP
  have hD : va_D A [(t0, .inr (7, [.ref tb, .int 0])), (tb, .inl (cT, 400, .inl (fun _ => 0))), (q0, .inr (7, [.ref b0, .int 0])), (q1, .inr (7, [.ref b1, .int 0])), (q2, .inr (7, [.ref b2, .int 0])), (q3, .inr (7, [.ref b3, .int 0])), (x0, .inr (8, [.ref t0, .ref m0, .ref sb, .int 0, .int 0, .int ((-1))])), (hm, .inr (11, fs)), (a0, .inl (cZ, 8, .inl (fun _ => 0))), (a8, .inl (c8, 248, .inl (fun _ => 0))), (a9, .inl (c9, 400, .inl (fun _ => 0))), (a29, .inl (c29, 4, .inl (fun _ => 0)))] := hD
  have hK : va_K (dC, dI) vwCl [(cT, .int), (cR, .object RX5), (cM, .object RX1), (cZ, .boolean), (c8, .boolean), (c9, .int), (c29, .int)] s := hK
  try dsimp only at hw_2
  have k_3 := hw_2
  refine W_toi (y := -1) k_3 ?_
  refine lv_aload_n hx hb dL_law_752 rfl (lv_at hl 1 rfl) ?_
  refine lv_aload_n hx hb dL_law_753 rfl (lv_at hl 3 rfl) ?_
  refine lv_iload_n hx hb dL_law_754 rfl (lv_at hl 0 rfl) ?_
  refine lv_iconst (v := 1) hx hb dL_law_755 (by decide) ?_
  refine lv_iadd hx hb dL_law_756 ?_
  refine W_toi (y := 1) (by decide) ?_
  refine va_sld hx hb hX hbl hbA hS (by unfold vp_in; decide) dL_law_757 ?_
  refine W_toi (y := xs 1) rfl ?_
  refine lv_aload_n hx hb dL_law_758 rfl (lv_at hl 3 rfl) ?_
  refine lv_iload_n hx hb dL_law_759 rfl (lv_at hl 0 rfl) ?_
  refine lv_iconst (v := 2) hx hb dL_law_760 (by decide) ?_
  refine lv_iadd hx hb dL_law_761 ?_
  refine W_toi (y := 2) (by decide) ?_
  refine va_sld hx hb hX hbl hbA hS (by unfold vp_in; decide) dL_law_762 ?_
  refine W_toi (y := xs 2) rfl ?_
  refine lv_aload_n hx hb dL_law_763 rfl (lv_at hl 3 rfl) ?_
  refine lv_iload_n hx hb dL_law_764 rfl (lv_at hl 0 rfl) ?_
  refine lv_iconst (v := 3) hx hb dL_law_765 (by decide) ?_
  refine lv_iadd hx hb dL_law_766 ?_
  refine W_toi (y := 3) (by decide) ?_
  refine va_sld hx hb hX hbl hbA hS (by unfold vp_in; decide) dL_law_767 ?_
  refine W_toi (y := xs 3) rfl ?_
  have hFc := va_free (wc := [(hm, .inr (11, fs)), (a0, .inl (cZ, 8, .inl (fun _ => 0)))]) hD hS hA [7, 8] rfl
  refine va_calli (va_runV (As := [.int (xs 1), .int (xs 2), .int (xs 3)]) (rest := [.int (-1)]) ⟨hx, hb, hml, hown, hts⟩ (c_X9_write l dC dI hm fs hfs a0 cZ fh0 (xs 1) (xs 2) (xs 3) H.size) (cwV 3 hts gp_law_15_X9_write_87 rfl rfl rfl (by decide +kernel) ⟨Nat.le_of_ble_eq_true rfl, Nat.le_of_ble_eq_true rfl⟩) ⟨Pr.blind _, va_recv hK hP (ci := 11) (q0 := 7) rfl rfl, fun U hU hW => ⟨rfl, Pr.at (hP.sub (ws' := [(hm, .inr (11, fs)), (a0, .inl (cZ, 8, .inl (fun _ => 0)))]) [7, 8] rfl) (hK.sub (tys' := [(cZ, .boolean)]) [3] rfl) (hD.sub (ws' := [(hm, .inr (11, fs)), (a0, .inl (cZ, 8, .inl (fun _ => 0)))]) [7, 8] (by decide) rfl) hN hZ hS hFc hU hW⟩⟩ rfl rfl hl.1 rfl (lv_room (Nat.le_of_ble_eq_true rfl)) dL_law_768 ⟨Nat.le_of_ble_eq_true rfl, Nat.le_of_ble_eq_true rfl⟩) hS (fun q _ h => hFc q h) hFc (fun r_4 u t H1 locs ht hvm hw_5 hB hz1 hk1 hS => ?_)
  obtain ⟨hP, hD, hK⟩ := Bq.join (wr := [(t0, .inr (7, [.ref tb, .int 0])), (tb, .inl (cT, 400, .inl (fun _ => 0))), (q0, .inr (7, [.ref b0, .int 0])), (q1, .inr (7, [.ref b1, .int 0])), (q2, .inr (7, [.ref b2, .int 0])), (q3, .inr (7, [.ref b3, .int 0])), (x0, .inr (8, [.ref t0, .ref m0, .ref sb, .int 0, .int 0, .int ((-1))])), (a8, .inl (c8, 248, .inl (fun _ => 0))), (a9, .inl (c9, 400, .inl (fun _ => 0))), (a29, .inl (c29, 4, .inl (fun _ => 0)))]) hB ht hvm hP hD [7, 8] [0, 1, 2, 3, 4, 5, 6, 9, 10, 11] rfl rfl (by decide) (by decide) hk1 hFc hK
  generalize H1 = H at hP hS ⊢
  have hP : va_P (dC, dI) vwCl [(t0, .inr (7, [.ref tb, .int 0])), (tb, .inl (cT, 400, .inl (fun _ => 0))), (q0, .inr (7, [.ref b0, .int 0])), (q1, .inr (7, [.ref b1, .int 0])), (q2, .inr (7, [.ref b2, .int 0])), (q3, .inr (7, [.ref b3, .int 0])), (x0, .inr (8, [.ref t0, .ref m0, .ref sb, .int 0, .int 0, .int ((-1))])), (a8, .inl (c8, 248, .inl (fun _ => 0))), (a9, .inl (c9, 400, .inl (fun _ => 0))), (a29, .inl (c29, 4, .inl (fun _ => 0)))] H := hP
  have hD : va_D A [(t0, .inr (7, [.ref tb, .int 0])), (tb, .inl (cT, 400, .inl (fun _ => 0))), (q0, .inr (7, [.ref b0, .int 0])), (q1, .inr (7, [.ref b1, .int 0])), (q2, .inr (7, [.ref b2, .int 0])), (q3, .inr (7, [.ref b3, .int 0])), (x0, .inr (8, [.ref t0, .ref m0, .ref sb, .int 0, .int 0, .int ((-1))])), (a8, .inl (c8, 248, .inl (fun _ => 0))), (a9, .inl (c9, 400, .inl (fun _ => 0))), (a29, .inl (c29, 4, .inl (fun _ => 0)))] := hD
  have hK : va_K (dC, dI) vwCl [(cT, .int), (cR, .object RX5), (cM, .object RX1), (cZ, .boolean), (c8, .boolean), (c9, .int), (c29, .int)] s := hK
  try dsimp only at hw_5
  have k_6 := hw_5
  refine W_toi (y := -1) k_6 ?_
  refine lv_icmp_eq (tgt := 974) hx hb dL_law_771 (by decide) (fun c_7 => ?_) (fun c_7 => absurd (by decide) c_7)
  refine lv_iinc (v := 6) (lv' := [(3, .int 6), (2, .ref hm), (1, .ref ho), (0, .ref b)]) hx hb dL_law_974 hl (k := 0) rfl (by decide) (by decide) rfl (fun ls hl => ?_)
  refine lv_goto (tgt := 18) hx hb dL_law_977 (by decide) ?_
  refine lv_iload_n hx hb dL_law_18 rfl (lv_at hl 0 rfl) ?_
  refine lv_aload_n hx hb dL_law_19 rfl (lv_at hl 3 rfl) ?_
  refine va_slen hx hb hX hbl hbA hS dL_law_20 ?_
  refine W_toi (y := 6) rfl ?_
  refine lv_bipush (v := 6) hx hb dL_law_21 (by decide) ?_
  refine lv_isub hx hb dL_law_23 ?_
  refine W_toi (y := 0) (by decide) ?_
  refine lv_icmp_gt (tgt := 980) hx hb dL_law_24 (by decide) (fun c_8 => ?_) (fun c_8 => absurd (by decide) c_8)
  refine lv_iconst (v := 1) hx hb dL_law_980 (by decide) ?_
  refine va_forget (fun q hq => hA2 _ (hS.2.2 q hq)) ?_
  refine W.widen (k := 600000) (n := 7302250) (by omega) (by omega) ?_
  exact lw_ret hx hb hr hlocks dL_law_981
set_option maxHeartbeats 4000000 in
set_option maxRecDepth 100000 in
theorem law_16 {p : Program} {e : Env} {s : State} {m : MethodId} {below : List Frame} {meth : Method} {c : Code} (l : Launch) {b : Nat} {xs : Nat → Int32} {A : Nat → Prop} (C0 : lw_At p s m meth c b 6 xs) (hA : ∀ q : Nat, s.heap.size ≤ q → A q) (hA2 : ∀ q : Nat, A q → s.heap.size ≤ q) (hbA : ¬ A b) (dC : Nat → ClassId) (dI : Nat → Nat → Nat) (hN : NX s) (hZ : cz A s s.heap) (ho : Nat) (t0 : Nat) (r0 : Nat) (m0 : Nat) (x0 : Nat) (v4 : Value) (v5 : Value) (v6 : Value) (v7 : Value) (v8 : Value) (tb : Nat) (cT : ClassId) (cR : ClassId) (fR : Nat → Option Nat) (q0 : Nat) (q1 : Nat) (q2 : Nat) (q3 : Nat) (b0 : Nat) (b1 : Nat) (b2 : Nat) (b3 : Nat) (cM : ClassId) (sb : Nat) (hq0 : fR 0 = some q0) (hq1 : fR 1 = some q1) (hq2 : fR 2 = some q2) (hq3 : fR 3 = some q3) (hm : Nat) (a0 : Nat) (cZ : ClassId) (a8 : Nat) (c8 : ClassId) (a9 : Nat) (c9 : ClassId) (a29 : Nat) (c29 : ClassId) (fs : List Value) (hfs : fs.length = 60) (fh0 : fs[0]? = some (.ref a0)) (fh8 : fs[8]? = some (.ref a8)) (fh9 : fs[9]? = some (.ref a9)) (fh10 : fs[10]? = some (.int 0)) (fh15 : fs[15]? = some (.int 0)) (fh16 : fs[16]? = some (.int ((-1)))) (fh29 : fs[29]? = some (.ref a29)) (fh59 : fs[59]? = some (.int 0)) (H : Heap) (locs : List Loc) (hK : va_K (dC, dI) vwCl [(cT, .int), (cR, .object RX5), (cM, .object RX1), (cZ, .boolean), (c8, .boolean), (c9, .int), (c29, .int)] s) (hP : va_P (dC, dI) vwCl [(ho, .inr (10, [.ref t0, .ref r0, .ref m0, .ref x0, v4, v5, v6, v7, v8, .int 0, .int ((-1)), .int 0])), (t0, .inr (7, [.ref tb, .int 0])), (tb, .inl (cT, 400, .inl (fun _ => 0))), (r0, .inl (cR, 4, .inr (.inr (.inr (.inr fR))))), (q0, .inr (7, [.ref b0, .int 0])), (q1, .inr (7, [.ref b1, .int 0])), (q2, .inr (7, [.ref b2, .int 0])), (q3, .inr (7, [.ref b3, .int 0])), (m0, .inl (cM, 8, .inr (.inr (.inr (.inr (fun _ => none)))))), (x0, .inr (8, [.ref t0, .ref m0, .ref sb, .int 0, .int 0, .int ((-1))])), (hm, .inr (11, fs)), (a0, .inl (cZ, 8, .inl (fun _ => 0))), (a8, .inl (c8, 248, .inl (fun _ => 0))), (a9, .inl (c9, 400, .inl (fun _ => 0))), (a29, .inl (c29, 4, .inl (fun _ => 0)))] H) (hD : va_D A [(ho, .inr (10, [.ref t0, .ref r0, .ref m0, .ref x0, v4, v5, v6, v7, v8, .int 0, .int ((-1)), .int 0])), (t0, .inr (7, [.ref tb, .int 0])), (tb, .inl (cT, 400, .inl (fun _ => 0))), (r0, .inl (cR, 4, .inr (.inr (.inr (.inr fR))))), (q0, .inr (7, [.ref b0, .int 0])), (q1, .inr (7, [.ref b1, .int 0])), (q2, .inr (7, [.ref b2, .int 0])), (q3, .inr (7, [.ref b3, .int 0])), (m0, .inl (cM, 8, .inr (.inr (.inr (.inr (fun _ => none)))))), (x0, .inr (8, [.ref t0, .ref m0, .ref sb, .int 0, .int 0, .int ((-1))])), (hm, .inr (11, fs)), (a0, .inl (cZ, 8, .inl (fun _ => 0))), (a8, .inl (c8, 248, .inl (fun _ => 0))), (a9, .inl (c9, 400, .inl (fun _ => 0))), (a29, .inl (c29, 4, .inl (fun _ => 0)))]) (hS : va_S A s.heap H locs) (ls : Array Slot) (hl : lv_has ls 4 [(3, .int 0), (2, .ref hm), (1, .ref ho), (0, .ref b)]) : W p l e room_1 s m #[Value.ref b] below meth c H locs 74 12530 (lw_Z below #[Value.ref b] s) (F0 m 776 ls []) := by
  obtain ⟨hx, hb, hr, hml, hown, hts, hX, hbl, hlocks, hgv⟩ := C0
  refine lv_aload_n hx hb dL_law_776 rfl (lv_at hl 2 rfl) ?_
  refine lv_aload_n hx hb dL_law_777 rfl (lv_at hl 3 rfl) ?_
  refine lv_iload_n hx hb dL_law_778 rfl (lv_at hl 0 rfl) ?_
  refine lv_iconst (v := 1) hx hb dL_law_779 (by decide) ?_
  refine lv_iadd hx hb dL_law_780 ?_
  refine W_toi (y := 1) (by decide) ?_
  refine va_sld hx hb hX hbl hbA hS (by unfold vp_in; decide) dL_law_781 ?_
  refine W_toi (y := xs 1) rfl ?_
  refine lv_aload_n hx hb dL_law_782 rfl (lv_at hl 3 rfl) ?_
  refine lv_iload_n hx hb dL_law_783 rfl (lv_at hl 0 rfl) ?_
  refine lv_iconst (v := 2) hx hb dL_law_784 (by decide) ?_
  refine lv_iadd hx hb dL_law_785 ?_
  refine W_toi (y := 2) (by decide) ?_
  refine va_sld hx hb hX hbl hbA hS (by unfold vp_in; decide) dL_law_786 ?_
  refine W_toi (y := xs 2) rfl ?_
  have hFc := va_free (wc := [(ho, .inr (10, [.ref t0, .ref r0, .ref m0, .ref x0, v4, v5, v6, v7, v8, .int 0, .int ((-1)), .int 0])), (r0, .inl (cR, 4, .inr (.inr (.inr (.inr fR))))), (q0, .inr (7, [.ref b0, .int 0])), (q1, .inr (7, [.ref b1, .int 0])), (q2, .inr (7, [.ref b2, .int 0])), (q3, .inr (7, [.ref b3, .int 0]))]) hD hS hA [0, 3, 4, 5, 6, 7] rfl
  refine va_calli (va_runV (As := [.int (xs 1), .int (xs 2)]) (rest := []) ⟨hx, hb, hml, hown, hts⟩ (c_X8_at l dC dI ho t0 r0 m0 x0 (v4) (v5) (v6) (v7) (v8) cR fR q0 q1 q2 q3 b0 b1 b2 b3 (hq0) (hq1) (hq2) (hq3) (xs 1) (xs 2) H.size) (cwV 2 hts gp_law_16_X8_at_88 rfl rfl rfl (by decide +kernel) ⟨Nat.le_of_ble_eq_true rfl, Nat.le_of_ble_eq_true rfl⟩) ⟨Pr.blind _, va_recv hK hP (ci := 10) (q0 := 0) rfl rfl, fun U hU hW => ⟨rfl, Pr.at (hP.sub (ws' := [(ho, .inr (10, [.ref t0, .ref r0, .ref m0, .ref x0, v4, v5, v6, v7, v8, .int 0, .int ((-1)), .int 0])), (r0, .inl (cR, 4, .inr (.inr (.inr (.inr fR))))), (q0, .inr (7, [.ref b0, .int 0])), (q1, .inr (7, [.ref b1, .int 0])), (q2, .inr (7, [.ref b2, .int 0])), (q3, .inr (7, [.ref b3, .int 0]))]) [0, 3, 4, 5, 6, 7] rfl) (hK.sub (tys' := [(cR, .object RX5)]) [1] rfl) (hD.sub (ws' := [(ho, .inr (10, [.ref t0, .ref r0, .ref m0, .ref x0, v4, v5, v6, v7, v8, .int 0, .int ((-1)), .int 0])), (r0, .inl (cR, 4, .inr (.inr (.inr (.inr fR))))), (q0, .inr (7, [.ref b0, .int 0])), (q1, .inr (7, [.ref b1, .int 0])), (q2, .inr (7, [.ref b2, .int 0])), (q3, .inr (7, [.ref b3, .int 0]))]) [0, 3, 4, 5, 6, 7] (by decide) rfl) hN hZ hS hFc hU hW⟩⟩ rfl rfl hl.1 rfl (lv_room (Nat.le_of_ble_eq_true rfl)) dL_law_787 ⟨Nat.le_of_ble_eq_true rfl, Nat.le_of_ble_eq_true rfl⟩) hS (fun q _ h => hFc q h) hFc (fun r_1 u t H1 locs ht hvm hw_2 hB hz1 hk1 hS => ?_)
  obtain ⟨hP, hD, hK⟩ := Bq.join (wr := [(t0, .inr (7, [.ref tb, .int 0])), (tb, .inl (cT, 400, .inl (fun _ => 0))), (m0, .inl (cM, 8, .inr (.inr (.inr (.inr (fun _ => none)))))), (x0, .inr (8, [.ref t0, .ref m0, .ref sb, .int 0, .int 0, .int ((-1))])), (hm, .inr (11, fs)), (a0, .inl (cZ, 8, .inl (fun _ => 0))), (a8, .inl (c8, 248, .inl (fun _ => 0))), (a9, .inl (c9, 400, .inl (fun _ => 0))), (a29, .inl (c29, 4, .inl (fun _ => 0)))]) hB ht hvm hP hD [0, 3, 4, 5, 6, 7] [1, 2, 8, 9, 10, 11, 12, 13, 14] rfl rfl (by decide) (by decide) hk1 hFc hK
  generalize H1 = H at hP hS ⊢
  have hP : va_P (dC, dI) vwCl [(t0, .inr (7, [.ref tb, .int 0])), (tb, .inl (cT, 400, .inl (fun _ => 0))), (m0, .inl (cM, 8, .inr (.inr (.inr (.inr (fun _ => none)))))), (x0, .inr (8, [.ref t0, .ref m0, .ref sb, .int 0, .int 0, .int ((-1))])), (hm, .inr (11, fs)), (a0, .inl (cZ, 8, .inl (fun _ => 0))), (a8, .inl (c8, 248, .inl (fun _ => 0))), (a9, .inl (c9, 400, .inl (fun _ => 0))), (a29, .inl (c29, 4, .inl (fun _ => 0)))] H := hP
  have hD : va_D A [(t0, .inr (7, [.ref tb, .int 0])), (tb, .inl (cT, 400, .inl (fun _ => 0))), (m0, .inl (cM, 8, .inr (.inr (.inr (.inr (fun _ => none)))))), (x0, .inr (8, [.ref t0, .ref m0, .ref sb, .int 0, .int 0, .int ((-1))])), (hm, .inr (11, fs)), (a0, .inl (cZ, 8, .inl (fun _ => 0))), (a8, .inl (c8, 248, .inl (fun _ => 0))), (a9, .inl (c9, 400, .inl (fun _ => 0))), (a29, .inl (c29, 4, .inl (fun _ => 0)))] := hD
  have hK : va_K (dC, dI) vwCl [(cT, .int), (cR, .object RX5), (cM, .object RX1), (cZ, .boolean), (c8, .boolean), (c9, .int), (c29, .int)] s := hK
  try dsimp only at hw_2
  have k_3 := hw_2
  refine W_toi (y := -1) k_3 ?_
  refine lv_aload_n hx hb dL_law_790 rfl (lv_at hl 1 rfl) ?_
  refine lv_aload_n hx hb dL_law_791 rfl (lv_at hl 3 rfl) ?_
  refine lv_iload_n hx hb dL_law_792 rfl (lv_at hl 0 rfl) ?_
  refine lv_iconst (v := 1) hx hb dL_law_793 (by decide) ?_
  refine lv_iadd hx hb dL_law_794 ?_
  refine W_toi (y := 1) (by decide) ?_
  refine va_sld hx hb hX hbl hbA hS (by unfold vp_in; decide) dL_law_795 ?_
  refine W_toi (y := xs 1) rfl ?_
  refine lv_aload_n hx hb dL_law_796 rfl (lv_at hl 3 rfl) ?_
  refine lv_iload_n hx hb dL_law_797 rfl (lv_at hl 0 rfl) ?_
  refine lv_iconst (v := 2) hx hb dL_law_798 (by decide) ?_
  refine lv_iadd hx hb dL_law_799 ?_
  refine W_toi (y := 2) (by decide) ?_
  refine va_sld hx hb hX hbl hbA hS (by unfold vp_in; decide) dL_law_800 ?_
  refine W_toi (y := xs 2) rfl ?_
  have hFc := va_free (wc := [(hm, .inr (11, fs)), (a29, .inl (c29, 4, .inl (fun _ => 0)))]) hD hS hA [4, 8] rfl
  refine va_calli (va_runV (As := [.int (xs 1), .int (xs 2)]) (rest := [.int (-1)]) ⟨hx, hb, hml, hown, hts⟩ (c_X9_at l dC dI hm fs hfs a29 c29 fh29 (xs 1) (xs 2) H.size) (cwV 2 hts gp_law_16_X9_at_91 rfl rfl rfl (by decide +kernel) ⟨Nat.le_of_ble_eq_true rfl, Nat.le_of_ble_eq_true rfl⟩) ⟨Pr.blind _, va_recv hK hP (ci := 11) (q0 := 4) rfl rfl, fun U hU hW => ⟨rfl, Pr.at (hP.sub (ws' := [(hm, .inr (11, fs)), (a29, .inl (c29, 4, .inl (fun _ => 0)))]) [4, 8] rfl) (hK.sub (tys' := [(c29, .int)]) [6] rfl) (hD.sub (ws' := [(hm, .inr (11, fs)), (a29, .inl (c29, 4, .inl (fun _ => 0)))]) [4, 8] (by decide) rfl) hN hZ hS hFc hU hW⟩⟩ rfl rfl hl.1 rfl (lv_room (Nat.le_of_ble_eq_true rfl)) dL_law_801 ⟨Nat.le_of_ble_eq_true rfl, Nat.le_of_ble_eq_true rfl⟩) hS (fun q _ h => hFc q h) hFc (fun r_4 u t H1 locs ht hvm hw_5 hB hz1 hk1 hS => ?_)
  obtain ⟨hP, hD, hK⟩ := Bq.join (wr := [(t0, .inr (7, [.ref tb, .int 0])), (tb, .inl (cT, 400, .inl (fun _ => 0))), (m0, .inl (cM, 8, .inr (.inr (.inr (.inr (fun _ => none)))))), (x0, .inr (8, [.ref t0, .ref m0, .ref sb, .int 0, .int 0, .int ((-1))])), (a0, .inl (cZ, 8, .inl (fun _ => 0))), (a8, .inl (c8, 248, .inl (fun _ => 0))), (a9, .inl (c9, 400, .inl (fun _ => 0)))]) hB ht hvm hP hD [4, 8] [0, 1, 2, 3, 5, 6, 7] rfl rfl (by decide) (by decide) hk1 hFc hK
  generalize H1 = H at hP hS ⊢
  have hP : va_P (dC, dI) vwCl [(t0, .inr (7, [.ref tb, .int 0])), (tb, .inl (cT, 400, .inl (fun _ => 0))), (m0, .inl (cM, 8, .inr (.inr (.inr (.inr (fun _ => none)))))), (x0, .inr (8, [.ref t0, .ref m0, .ref sb, .int 0, .int 0, .int ((-1))])), (a0, .inl (cZ, 8, .inl (fun _ => 0))), (a8, .inl (c8, 248, .inl (fun _ => 0))), (a9, .inl (c9, 400, .inl (fun _ => 0)))] H := hP
  have hD : va_D A [(t0, .inr (7, [.ref tb, .int 0])), (tb, .inl (cT, 400, .inl (fun _ => 0))), (m0, .inl (cM, 8, .inr (.inr (.inr (.inr (fun _ => none)))))), (x0, .inr (8, [.ref t0, .ref m0, .ref sb, .int 0, .int 0, .int ((-1))])), (a0, .inl (cZ, 8, .inl (fun _ => 0))), (a8, .inl (c8, 248, .inl (fun _ => 0))), (a9, .inl (c9, 400, .inl (fun _ => 0)))] := hD
  have hK : va_K (dC, dI) vwCl [(cT, .int), (cR, .object RX5), (cM, .object RX1), (cZ, .boolean), (c8, .boolean), (c9, .int), (c29, .int)] s := hK
  try dsimp only at hw_5
  have k_6 := hw_5
  refine W_toi (y := -1) k_6 ?_
  refine lv_icmp_eq (tgt := 974) hx hb dL_law_804 (by decide) (fun c_7 => ?_) (fun c_7 => absurd (by decide) c_7)
  refine lv_iinc (v := 6) (lv' := [(3, .int 6), (2, .ref hm), (1, .ref ho), (0, .ref b)]) hx hb dL_law_974 hl (k := 0) rfl (by decide) (by decide) rfl (fun ls hl => ?_)
  refine lv_goto (tgt := 18) hx hb dL_law_977 (by decide) ?_
  refine lv_iload_n hx hb dL_law_18 rfl (lv_at hl 0 rfl) ?_
  refine lv_aload_n hx hb dL_law_19 rfl (lv_at hl 3 rfl) ?_
  refine va_slen hx hb hX hbl hbA hS dL_law_20 ?_
  refine W_toi (y := 6) rfl ?_
  refine lv_bipush (v := 6) hx hb dL_law_21 (by decide) ?_
  refine lv_isub hx hb dL_law_23 ?_
  refine W_toi (y := 0) (by decide) ?_
  refine lv_icmp_gt (tgt := 980) hx hb dL_law_24 (by decide) (fun c_8 => ?_) (fun c_8 => absurd (by decide) c_8)
  refine lv_iconst (v := 1) hx hb dL_law_980 (by decide) ?_
  refine va_forget (fun q hq => hA2 _ (hS.2.2 q hq)) ?_
  refine W.widen (k := 600000) (n := 7302250) (by omega) (by omega) ?_
  exact lw_ret hx hb hr hlocks dL_law_981
set_option maxHeartbeats 4000000 in
set_option maxRecDepth 100000 in
theorem law_17 {p : Program} {e : Env} {s : State} {m : MethodId} {below : List Frame} {meth : Method} {c : Code} (l : Launch) {b : Nat} {xs : Nat → Int32} {A : Nat → Prop} (C0 : lw_At p s m meth c b 6 xs) (hA : ∀ q : Nat, s.heap.size ≤ q → A q) (hA2 : ∀ q : Nat, A q → s.heap.size ≤ q) (hbA : ¬ A b) (dC : Nat → ClassId) (dI : Nat → Nat → Nat) (hN : NX s) (hZ : cz A s s.heap) (ho : Nat) (t0 : Nat) (r0 : Nat) (m0 : Nat) (x0 : Nat) (v4 : Value) (v5 : Value) (v6 : Value) (v7 : Value) (v8 : Value) (tb : Nat) (cT : ClassId) (cR : ClassId) (fR : Nat → Option Nat) (q0 : Nat) (q1 : Nat) (q2 : Nat) (q3 : Nat) (b0 : Nat) (b1 : Nat) (b2 : Nat) (b3 : Nat) (cM : ClassId) (sb : Nat) (hq0 : fR 0 = some q0) (hq1 : fR 1 = some q1) (hq2 : fR 2 = some q2) (hq3 : fR 3 = some q3) (hm : Nat) (a0 : Nat) (cZ : ClassId) (a8 : Nat) (c8 : ClassId) (a9 : Nat) (c9 : ClassId) (a29 : Nat) (c29 : ClassId) (fs : List Value) (hfs : fs.length = 60) (fh0 : fs[0]? = some (.ref a0)) (fh8 : fs[8]? = some (.ref a8)) (fh9 : fs[9]? = some (.ref a9)) (fh10 : fs[10]? = some (.int 0)) (fh15 : fs[15]? = some (.int 0)) (fh16 : fs[16]? = some (.int ((-1)))) (fh29 : fs[29]? = some (.ref a29)) (fh59 : fs[59]? = some (.int 0)) (H : Heap) (locs : List Loc) (hK : va_K (dC, dI) vwCl [(cT, .int), (cR, .object RX5), (cM, .object RX1), (cZ, .boolean), (c8, .boolean), (c9, .int), (c29, .int)] s) (hP : va_P (dC, dI) vwCl [(ho, .inr (10, [.ref t0, .ref r0, .ref m0, .ref x0, v4, v5, v6, v7, v8, .int 0, .int ((-1)), .int 0])), (t0, .inr (7, [.ref tb, .int 0])), (tb, .inl (cT, 400, .inl (fun _ => 0))), (r0, .inl (cR, 4, .inr (.inr (.inr (.inr fR))))), (q0, .inr (7, [.ref b0, .int 0])), (q1, .inr (7, [.ref b1, .int 0])), (q2, .inr (7, [.ref b2, .int 0])), (q3, .inr (7, [.ref b3, .int 0])), (m0, .inl (cM, 8, .inr (.inr (.inr (.inr (fun _ => none)))))), (x0, .inr (8, [.ref t0, .ref m0, .ref sb, .int 0, .int 0, .int ((-1))])), (hm, .inr (11, fs)), (a0, .inl (cZ, 8, .inl (fun _ => 0))), (a8, .inl (c8, 248, .inl (fun _ => 0))), (a9, .inl (c9, 400, .inl (fun _ => 0))), (a29, .inl (c29, 4, .inl (fun _ => 0)))] H) (hD : va_D A [(ho, .inr (10, [.ref t0, .ref r0, .ref m0, .ref x0, v4, v5, v6, v7, v8, .int 0, .int ((-1)), .int 0])), (t0, .inr (7, [.ref tb, .int 0])), (tb, .inl (cT, 400, .inl (fun _ => 0))), (r0, .inl (cR, 4, .inr (.inr (.inr (.inr fR))))), (q0, .inr (7, [.ref b0, .int 0])), (q1, .inr (7, [.ref b1, .int 0])), (q2, .inr (7, [.ref b2, .int 0])), (q3, .inr (7, [.ref b3, .int 0])), (m0, .inl (cM, 8, .inr (.inr (.inr (.inr (fun _ => none)))))), (x0, .inr (8, [.ref t0, .ref m0, .ref sb, .int 0, .int 0, .int ((-1))])), (hm, .inr (11, fs)), (a0, .inl (cZ, 8, .inl (fun _ => 0))), (a8, .inl (c8, 248, .inl (fun _ => 0))), (a9, .inl (c9, 400, .inl (fun _ => 0))), (a29, .inl (c29, 4, .inl (fun _ => 0)))]) (hS : va_S A s.heap H locs) (ls : Array Slot) (hl : lv_has ls 4 [(3, .int 0), (2, .ref hm), (1, .ref ho), (0, .ref b)]) : W p l e room_1 s m #[Value.ref b] below meth c H locs 74 12530 (lw_Z below #[Value.ref b] s) (F0 m 809 ls []) := by
  obtain ⟨hx, hb, hr, hml, hown, hts, hX, hbl, hlocks, hgv⟩ := C0
  refine lv_aload_n hx hb dL_law_809 rfl (lv_at hl 2 rfl) ?_
  refine lv_aload_n hx hb dL_law_810 rfl (lv_at hl 3 rfl) ?_
  refine lv_iload_n hx hb dL_law_811 rfl (lv_at hl 0 rfl) ?_
  refine lv_iconst (v := 1) hx hb dL_law_812 (by decide) ?_
  refine lv_iadd hx hb dL_law_813 ?_
  refine W_toi (y := 1) (by decide) ?_
  refine va_sld hx hb hX hbl hbA hS (by unfold vp_in; decide) dL_law_814 ?_
  refine W_toi (y := xs 1) rfl ?_
  refine lv_aload_n hx hb dL_law_815 rfl (lv_at hl 3 rfl) ?_
  refine lv_iload_n hx hb dL_law_816 rfl (lv_at hl 0 rfl) ?_
  refine lv_iconst (v := 2) hx hb dL_law_817 (by decide) ?_
  refine lv_iadd hx hb dL_law_818 ?_
  refine W_toi (y := 2) (by decide) ?_
  refine va_sld hx hb hX hbl hbA hS (by unfold vp_in; decide) dL_law_819 ?_
  refine W_toi (y := xs 2) rfl ?_
  refine lv_aload_n hx hb dL_law_820 rfl (lv_at hl 3 rfl) ?_
  refine lv_iload_n hx hb dL_law_821 rfl (lv_at hl 0 rfl) ?_
  refine lv_iconst (v := 3) hx hb dL_law_822 (by decide) ?_
  refine lv_iadd hx hb dL_law_823 ?_
  refine W_toi (y := 3) (by decide) ?_
  refine va_sld hx hb hX hbl hbA hS (by unfold vp_in; decide) dL_law_824 ?_
  refine W_toi (y := xs 3) rfl ?_
  refine lv_aload_n hx hb dL_law_825 rfl (lv_at hl 3 rfl) ?_
  refine lv_iload_n hx hb dL_law_826 rfl (lv_at hl 0 rfl) ?_
  refine lv_iconst (v := 4) hx hb dL_law_827 (by decide) ?_
  refine lv_iadd hx hb dL_law_828 ?_
  refine W_toi (y := 4) (by decide) ?_
  refine va_sld hx hb hX hbl hbA hS (by unfold vp_in; decide) dL_law_829 ?_
  refine W_toi (y := xs 4) rfl ?_
  have hFc := va_free (wc := [(ho, .inr (10, [.ref t0, .ref r0, .ref m0, .ref x0, v4, v5, v6, v7, v8, .int 0, .int ((-1)), .int 0])), (m0, .inl (cM, 8, .inr (.inr (.inr (.inr (fun _ => none)))))), (r0, .inl (cR, 4, .inr (.inr (.inr (.inr fR)))))]) hD hS hA [0, 8, 3] rfl
  refine va_calli (va_runV (As := [.int (xs 1), .int (xs 2), .int (xs 3), .int (xs 4)]) (rest := []) ⟨hx, hb, hml, hown, hts⟩ (c_X8_open l dC dI ho t0 r0 m0 x0 (v4) (v5) (v6) (v7) (v8) cM cR fR (xs 1) (xs 2) (xs 3) (xs 4) H.size) (cwV 4 hts gp_law_17_X8_open_92 rfl rfl rfl (by decide +kernel) ⟨Nat.le_of_ble_eq_true rfl, Nat.le_of_ble_eq_true rfl⟩) ⟨Pr.blind _, va_recv hK hP (ci := 10) (q0 := 0) rfl rfl, fun U hU hW => ⟨rfl, Pr.at (hP.sub (ws' := [(ho, .inr (10, [.ref t0, .ref r0, .ref m0, .ref x0, v4, v5, v6, v7, v8, .int 0, .int ((-1)), .int 0])), (m0, .inl (cM, 8, .inr (.inr (.inr (.inr (fun _ => none)))))), (r0, .inl (cR, 4, .inr (.inr (.inr (.inr fR)))))]) [0, 8, 3] rfl) (hK.sub (tys' := [(cM, .object RX1), (cR, .object RX5)]) [2, 1] rfl) (hD.sub (ws' := [(ho, .inr (10, [.ref t0, .ref r0, .ref m0, .ref x0, v4, v5, v6, v7, v8, .int 0, .int ((-1)), .int 0])), (m0, .inl (cM, 8, .inr (.inr (.inr (.inr (fun _ => none)))))), (r0, .inl (cR, 4, .inr (.inr (.inr (.inr fR)))))]) [0, 8, 3] (by decide) rfl) hN hZ hS hFc hU hW⟩⟩ rfl rfl hl.1 rfl (lv_room (Nat.le_of_ble_eq_true rfl)) dL_law_830 ⟨Nat.le_of_ble_eq_true rfl, Nat.le_of_ble_eq_true rfl⟩) hS (fun q _ h => hFc q h) hFc (fun r_1 u t H1 locs ht hvm hw_2 hB hz1 hk1 hS => ?_)
  obtain ⟨hP, hD, hK⟩ := Bq.join (wr := [(t0, .inr (7, [.ref tb, .int 0])), (tb, .inl (cT, 400, .inl (fun _ => 0))), (q0, .inr (7, [.ref b0, .int 0])), (q1, .inr (7, [.ref b1, .int 0])), (q2, .inr (7, [.ref b2, .int 0])), (q3, .inr (7, [.ref b3, .int 0])), (x0, .inr (8, [.ref t0, .ref m0, .ref sb, .int 0, .int 0, .int ((-1))])), (hm, .inr (11, fs)), (a0, .inl (cZ, 8, .inl (fun _ => 0))), (a8, .inl (c8, 248, .inl (fun _ => 0))), (a9, .inl (c9, 400, .inl (fun _ => 0))), (a29, .inl (c29, 4, .inl (fun _ => 0)))]) hB ht hvm hP hD [0, 8, 3] [1, 2, 4, 5, 6, 7, 9, 10, 11, 12, 13, 14] rfl rfl (by decide) (by decide) hk1 hFc hK
  generalize H1 = H at hP hS ⊢
  have hP : va_P (dC, dI) vwCl [(t0, .inr (7, [.ref tb, .int 0])), (tb, .inl (cT, 400, .inl (fun _ => 0))), (q0, .inr (7, [.ref b0, .int 0])), (q1, .inr (7, [.ref b1, .int 0])), (q2, .inr (7, [.ref b2, .int 0])), (q3, .inr (7, [.ref b3, .int 0])), (x0, .inr (8, [.ref t0, .ref m0, .ref sb, .int 0, .int 0, .int ((-1))])), (hm, .inr (11, fs)), (a0, .inl (cZ, 8, .inl (fun _ => 0))), (a8, .inl (c8, 248, .inl (fun _ => 0))), (a9, .inl (c9, 400, .inl (fun _ => 0))), (a29, .inl (c29, 4, .inl (fun _ => 0)))] H := hP
  have hD : va_D A [(t0, .inr (7, [.ref tb, .int 0])), (tb, .inl (cT, 400, .inl (fun _ => 0))), (q0, .inr (7, [.ref b0, .int 0])), (q1, .inr (7, [.ref b1, .int 0])), (q2, .inr (7, [.ref b2, .int 0])), (q3, .inr (7, [.ref b3, .int 0])), (x0, .inr (8, [.ref t0, .ref m0, .ref sb, .int 0, .int 0, .int ((-1))])), (hm, .inr (11, fs)), (a0, .inl (cZ, 8, .inl (fun _ => 0))), (a8, .inl (c8, 248, .inl (fun _ => 0))), (a9, .inl (c9, 400, .inl (fun _ => 0))), (a29, .inl (c29, 4, .inl (fun _ => 0)))] := hD
  have hK : va_K (dC, dI) vwCl [(cT, .int), (cR, .object RX5), (cM, .object RX1), (cZ, .boolean), (c8, .boolean), (c9, .int), (c29, .int)] s := hK
  try dsimp only at hw_2
  have k_3 := hw_2
  refine W_toi (y := -1) k_3 ?_
  refine lv_aload_n hx hb dL_law_833 rfl (lv_at hl 1 rfl) ?_
  refine lv_aload_n hx hb dL_law_834 rfl (lv_at hl 3 rfl) ?_
  refine lv_iload_n hx hb dL_law_835 rfl (lv_at hl 0 rfl) ?_
  refine lv_iconst (v := 1) hx hb dL_law_836 (by decide) ?_
  refine lv_iadd hx hb dL_law_837 ?_
  refine W_toi (y := 1) (by decide) ?_
  refine va_sld hx hb hX hbl hbA hS (by unfold vp_in; decide) dL_law_838 ?_
  refine W_toi (y := xs 1) rfl ?_
  refine lv_aload_n hx hb dL_law_839 rfl (lv_at hl 3 rfl) ?_
  refine lv_iload_n hx hb dL_law_840 rfl (lv_at hl 0 rfl) ?_
  refine lv_iconst (v := 2) hx hb dL_law_841 (by decide) ?_
  refine lv_iadd hx hb dL_law_842 ?_
  refine W_toi (y := 2) (by decide) ?_
  refine va_sld hx hb hX hbl hbA hS (by unfold vp_in; decide) dL_law_843 ?_
  refine W_toi (y := xs 2) rfl ?_
  refine lv_aload_n hx hb dL_law_844 rfl (lv_at hl 3 rfl) ?_
  refine lv_iload_n hx hb dL_law_845 rfl (lv_at hl 0 rfl) ?_
  refine lv_iconst (v := 3) hx hb dL_law_846 (by decide) ?_
  refine lv_iadd hx hb dL_law_847 ?_
  refine W_toi (y := 3) (by decide) ?_
  refine va_sld hx hb hX hbl hbA hS (by unfold vp_in; decide) dL_law_848 ?_
  refine W_toi (y := xs 3) rfl ?_
  refine lv_aload_n hx hb dL_law_849 rfl (lv_at hl 3 rfl) ?_
  refine lv_iload_n hx hb dL_law_850 rfl (lv_at hl 0 rfl) ?_
  refine lv_iconst (v := 4) hx hb dL_law_851 (by decide) ?_
  refine lv_iadd hx hb dL_law_852 ?_
  refine W_toi (y := 4) (by decide) ?_
  refine va_sld hx hb hX hbl hbA hS (by unfold vp_in; decide) dL_law_853 ?_
  refine W_toi (y := xs 4) rfl ?_
  have hFc := va_free (wc := [(hm, .inr (11, fs)), (a0, .inl (cZ, 8, .inl (fun _ => 0)))]) hD hS hA [7, 8] rfl
  refine va_calli (va_runV (As := [.int (xs 1), .int (xs 2), .int (xs 3), .int (xs 4)]) (rest := [.int (-1)]) ⟨hx, hb, hml, hown, hts⟩ (c_X9_open l dC dI hm fs hfs a0 cZ fh0 (xs 1) (xs 2) (xs 3) (xs 4) H.size) (cwV 4 hts gp_law_17_X9_open_95 rfl rfl rfl (by decide +kernel) ⟨Nat.le_of_ble_eq_true rfl, Nat.le_of_ble_eq_true rfl⟩) ⟨Pr.blind _, va_recv hK hP (ci := 11) (q0 := 7) rfl rfl, fun U hU hW => ⟨rfl, Pr.at (hP.sub (ws' := [(hm, .inr (11, fs)), (a0, .inl (cZ, 8, .inl (fun _ => 0)))]) [7, 8] rfl) (hK.sub (tys' := [(cZ, .boolean)]) [3] rfl) (hD.sub (ws' := [(hm, .inr (11, fs)), (a0, .inl (cZ, 8, .inl (fun _ => 0)))]) [7, 8] (by decide) rfl) hN hZ hS hFc hU hW⟩⟩ rfl rfl hl.1 rfl (lv_room (Nat.le_of_ble_eq_true rfl)) dL_law_854 ⟨Nat.le_of_ble_eq_true rfl, Nat.le_of_ble_eq_true rfl⟩) hS (fun q _ h => hFc q h) hFc (fun r_4 u t H1 locs ht hvm hw_5 hB hz1 hk1 hS => ?_)
  obtain ⟨hP, hD, hK⟩ := Bq.join (wr := [(t0, .inr (7, [.ref tb, .int 0])), (tb, .inl (cT, 400, .inl (fun _ => 0))), (q0, .inr (7, [.ref b0, .int 0])), (q1, .inr (7, [.ref b1, .int 0])), (q2, .inr (7, [.ref b2, .int 0])), (q3, .inr (7, [.ref b3, .int 0])), (x0, .inr (8, [.ref t0, .ref m0, .ref sb, .int 0, .int 0, .int ((-1))])), (a8, .inl (c8, 248, .inl (fun _ => 0))), (a9, .inl (c9, 400, .inl (fun _ => 0))), (a29, .inl (c29, 4, .inl (fun _ => 0)))]) hB ht hvm hP hD [7, 8] [0, 1, 2, 3, 4, 5, 6, 9, 10, 11] rfl rfl (by decide) (by decide) hk1 hFc hK
  generalize H1 = H at hP hS ⊢
  have hP : va_P (dC, dI) vwCl [(t0, .inr (7, [.ref tb, .int 0])), (tb, .inl (cT, 400, .inl (fun _ => 0))), (q0, .inr (7, [.ref b0, .int 0])), (q1, .inr (7, [.ref b1, .int 0])), (q2, .inr (7, [.ref b2, .int 0])), (q3, .inr (7, [.ref b3, .int 0])), (x0, .inr (8, [.ref t0, .ref m0, .ref sb, .int 0, .int 0, .int ((-1))])), (a8, .inl (c8, 248, .inl (fun _ => 0))), (a9, .inl (c9, 400, .inl (fun _ => 0))), (a29, .inl (c29, 4, .inl (fun _ => 0)))] H := hP
  have hD : va_D A [(t0, .inr (7, [.ref tb, .int 0])), (tb, .inl (cT, 400, .inl (fun _ => 0))), (q0, .inr (7, [.ref b0, .int 0])), (q1, .inr (7, [.ref b1, .int 0])), (q2, .inr (7, [.ref b2, .int 0])), (q3, .inr (7, [.ref b3, .int 0])), (x0, .inr (8, [.ref t0, .ref m0, .ref sb, .int 0, .int 0, .int ((-1))])), (a8, .inl (c8, 248, .inl (fun _ => 0))), (a9, .inl (c9, 400, .inl (fun _ => 0))), (a29, .inl (c29, 4, .inl (fun _ => 0)))] := hD
  have hK : va_K (dC, dI) vwCl [(cT, .int), (cR, .object RX5), (cM, .object RX1), (cZ, .boolean), (c8, .boolean), (c9, .int), (c29, .int)] s := hK
  try dsimp only at hw_5
  have k_6 := hw_5
  refine W_toi (y := -1) k_6 ?_
  refine lv_icmp_eq (tgt := 974) hx hb dL_law_857 (by decide) (fun c_7 => ?_) (fun c_7 => absurd (by decide) c_7)
  refine lv_iinc (v := 6) (lv' := [(3, .int 6), (2, .ref hm), (1, .ref ho), (0, .ref b)]) hx hb dL_law_974 hl (k := 0) rfl (by decide) (by decide) rfl (fun ls hl => ?_)
  refine lv_goto (tgt := 18) hx hb dL_law_977 (by decide) ?_
  refine lv_iload_n hx hb dL_law_18 rfl (lv_at hl 0 rfl) ?_
  refine lv_aload_n hx hb dL_law_19 rfl (lv_at hl 3 rfl) ?_
  refine va_slen hx hb hX hbl hbA hS dL_law_20 ?_
  refine W_toi (y := 6) rfl ?_
  refine lv_bipush (v := 6) hx hb dL_law_21 (by decide) ?_
  refine lv_isub hx hb dL_law_23 ?_
  refine W_toi (y := 0) (by decide) ?_
  refine lv_icmp_gt (tgt := 980) hx hb dL_law_24 (by decide) (fun c_8 => ?_) (fun c_8 => absurd (by decide) c_8)
  refine lv_iconst (v := 1) hx hb dL_law_980 (by decide) ?_
  refine va_forget (fun q hq => hA2 _ (hS.2.2 q hq)) ?_
  refine W.widen (k := 600000) (n := 7302250) (by omega) (by omega) ?_
  exact lw_ret hx hb hr hlocks dL_law_981
set_option maxHeartbeats 4000000 in
set_option maxRecDepth 100000 in
theorem law_18 {p : Program} {e : Env} {s : State} {m : MethodId} {below : List Frame} {meth : Method} {c : Code} (l : Launch) {b : Nat} {xs : Nat → Int32} {A : Nat → Prop} (C0 : lw_At p s m meth c b 6 xs) (hA : ∀ q : Nat, s.heap.size ≤ q → A q) (hA2 : ∀ q : Nat, A q → s.heap.size ≤ q) (hbA : ¬ A b) (dC : Nat → ClassId) (dI : Nat → Nat → Nat) (hN : NX s) (hZ : cz A s s.heap) (ho : Nat) (t0 : Nat) (r0 : Nat) (m0 : Nat) (x0 : Nat) (v4 : Value) (v5 : Value) (v6 : Value) (v7 : Value) (v8 : Value) (tb : Nat) (cT : ClassId) (cR : ClassId) (fR : Nat → Option Nat) (q0 : Nat) (q1 : Nat) (q2 : Nat) (q3 : Nat) (b0 : Nat) (b1 : Nat) (b2 : Nat) (b3 : Nat) (cM : ClassId) (sb : Nat) (hq0 : fR 0 = some q0) (hq1 : fR 1 = some q1) (hq2 : fR 2 = some q2) (hq3 : fR 3 = some q3) (hm : Nat) (a0 : Nat) (cZ : ClassId) (a8 : Nat) (c8 : ClassId) (a9 : Nat) (c9 : ClassId) (a29 : Nat) (c29 : ClassId) (fs : List Value) (hfs : fs.length = 60) (fh0 : fs[0]? = some (.ref a0)) (fh8 : fs[8]? = some (.ref a8)) (fh9 : fs[9]? = some (.ref a9)) (fh10 : fs[10]? = some (.int 0)) (fh15 : fs[15]? = some (.int 0)) (fh16 : fs[16]? = some (.int ((-1)))) (fh29 : fs[29]? = some (.ref a29)) (fh59 : fs[59]? = some (.int 0)) (H : Heap) (locs : List Loc) (hK : va_K (dC, dI) vwCl [(cT, .int), (cR, .object RX5), (cM, .object RX1), (cZ, .boolean), (c8, .boolean), (c9, .int), (c29, .int)] s) (hP : va_P (dC, dI) vwCl [(ho, .inr (10, [.ref t0, .ref r0, .ref m0, .ref x0, v4, v5, v6, v7, v8, .int 0, .int ((-1)), .int 0])), (t0, .inr (7, [.ref tb, .int 0])), (tb, .inl (cT, 400, .inl (fun _ => 0))), (r0, .inl (cR, 4, .inr (.inr (.inr (.inr fR))))), (q0, .inr (7, [.ref b0, .int 0])), (q1, .inr (7, [.ref b1, .int 0])), (q2, .inr (7, [.ref b2, .int 0])), (q3, .inr (7, [.ref b3, .int 0])), (m0, .inl (cM, 8, .inr (.inr (.inr (.inr (fun _ => none)))))), (x0, .inr (8, [.ref t0, .ref m0, .ref sb, .int 0, .int 0, .int ((-1))])), (hm, .inr (11, fs)), (a0, .inl (cZ, 8, .inl (fun _ => 0))), (a8, .inl (c8, 248, .inl (fun _ => 0))), (a9, .inl (c9, 400, .inl (fun _ => 0))), (a29, .inl (c29, 4, .inl (fun _ => 0)))] H) (hD : va_D A [(ho, .inr (10, [.ref t0, .ref r0, .ref m0, .ref x0, v4, v5, v6, v7, v8, .int 0, .int ((-1)), .int 0])), (t0, .inr (7, [.ref tb, .int 0])), (tb, .inl (cT, 400, .inl (fun _ => 0))), (r0, .inl (cR, 4, .inr (.inr (.inr (.inr fR))))), (q0, .inr (7, [.ref b0, .int 0])), (q1, .inr (7, [.ref b1, .int 0])), (q2, .inr (7, [.ref b2, .int 0])), (q3, .inr (7, [.ref b3, .int 0])), (m0, .inl (cM, 8, .inr (.inr (.inr (.inr (fun _ => none)))))), (x0, .inr (8, [.ref t0, .ref m0, .ref sb, .int 0, .int 0, .int ((-1))])), (hm, .inr (11, fs)), (a0, .inl (cZ, 8, .inl (fun _ => 0))), (a8, .inl (c8, 248, .inl (fun _ => 0))), (a9, .inl (c9, 400, .inl (fun _ => 0))), (a29, .inl (c29, 4, .inl (fun _ => 0)))]) (hS : va_S A s.heap H locs) (ls : Array Slot) (hl : lv_has ls 4 [(3, .int 0), (2, .ref hm), (1, .ref ho), (0, .ref b)]) : W p l e room_1 s m #[Value.ref b] below meth c H locs 74 12530 (lw_Z below #[Value.ref b] s) (F0 m 862 ls []) := by
  obtain ⟨hx, hb, hr, hml, hown, hts, hX, hbl, hlocks, hgv⟩ := C0
  refine lv_aload_n hx hb dL_law_862 rfl (lv_at hl 2 rfl) ?_
  refine lv_aload_n hx hb dL_law_863 rfl (lv_at hl 3 rfl) ?_
  refine lv_iload_n hx hb dL_law_864 rfl (lv_at hl 0 rfl) ?_
  refine lv_iconst (v := 1) hx hb dL_law_865 (by decide) ?_
  refine lv_iadd hx hb dL_law_866 ?_
  refine W_toi (y := 1) (by decide) ?_
  refine va_sld hx hb hX hbl hbA hS (by unfold vp_in; decide) dL_law_867 ?_
  refine W_toi (y := xs 1) rfl ?_
  refine lv_aload_n hx hb dL_law_868 rfl (lv_at hl 3 rfl) ?_
  refine lv_iload_n hx hb dL_law_869 rfl (lv_at hl 0 rfl) ?_
  refine lv_iconst (v := 2) hx hb dL_law_870 (by decide) ?_
  refine lv_iadd hx hb dL_law_871 ?_
  refine W_toi (y := 2) (by decide) ?_
  refine va_sld hx hb hX hbl hbA hS (by unfold vp_in; decide) dL_law_872 ?_
  refine W_toi (y := xs 2) rfl ?_
  have hFc := va_free (wc := [(ho, .inr (10, [.ref t0, .ref r0, .ref m0, .ref x0, v4, v5, v6, v7, v8, .int 0, .int ((-1)), .int 0])), (m0, .inl (cM, 8, .inr (.inr (.inr (.inr (fun _ => none))))))]) hD hS hA [0, 8] rfl
  refine va_calli (va_runV (As := [.int (xs 1), .int (xs 2)]) (rest := []) ⟨hx, hb, hml, hown, hts⟩ (c_X8_step l dC dI ho t0 r0 m0 x0 (v4) (v5) (v6) (v7) (v8) cM (xs 1) (xs 2) H.size) (cwV 2 hts gp_law_18_X8_step_96 rfl rfl rfl (by decide +kernel) ⟨Nat.le_of_ble_eq_true rfl, Nat.le_of_ble_eq_true rfl⟩) ⟨Pr.blind _, va_recv hK hP (ci := 10) (q0 := 0) rfl rfl, fun U hU hW => ⟨rfl, Pr.at (hP.sub (ws' := [(ho, .inr (10, [.ref t0, .ref r0, .ref m0, .ref x0, v4, v5, v6, v7, v8, .int 0, .int ((-1)), .int 0])), (m0, .inl (cM, 8, .inr (.inr (.inr (.inr (fun _ => none))))))]) [0, 8] rfl) (hK.sub (tys' := [(cM, .object RX1)]) [2] rfl) (hD.sub (ws' := [(ho, .inr (10, [.ref t0, .ref r0, .ref m0, .ref x0, v4, v5, v6, v7, v8, .int 0, .int ((-1)), .int 0])), (m0, .inl (cM, 8, .inr (.inr (.inr (.inr (fun _ => none))))))]) [0, 8] (by decide) rfl) hN hZ hS hFc hU hW⟩⟩ rfl rfl hl.1 rfl (lv_room (Nat.le_of_ble_eq_true rfl)) dL_law_873 ⟨Nat.le_of_ble_eq_true rfl, Nat.le_of_ble_eq_true rfl⟩) hS (fun q _ h => hFc q h) hFc (fun r_1 u t H1 locs ht hvm hw_2 hB hz1 hk1 hS => ?_)
  obtain ⟨hP, hD, hK⟩ := Bq.join (wr := [(t0, .inr (7, [.ref tb, .int 0])), (tb, .inl (cT, 400, .inl (fun _ => 0))), (r0, .inl (cR, 4, .inr (.inr (.inr (.inr fR))))), (q0, .inr (7, [.ref b0, .int 0])), (q1, .inr (7, [.ref b1, .int 0])), (q2, .inr (7, [.ref b2, .int 0])), (q3, .inr (7, [.ref b3, .int 0])), (x0, .inr (8, [.ref t0, .ref m0, .ref sb, .int 0, .int 0, .int ((-1))])), (hm, .inr (11, fs)), (a0, .inl (cZ, 8, .inl (fun _ => 0))), (a8, .inl (c8, 248, .inl (fun _ => 0))), (a9, .inl (c9, 400, .inl (fun _ => 0))), (a29, .inl (c29, 4, .inl (fun _ => 0)))]) hB ht hvm hP hD [0, 8] [1, 2, 3, 4, 5, 6, 7, 9, 10, 11, 12, 13, 14] rfl rfl (by decide) (by decide) hk1 hFc hK
  generalize H1 = H at hP hS ⊢
  have hP : va_P (dC, dI) vwCl [(t0, .inr (7, [.ref tb, .int 0])), (tb, .inl (cT, 400, .inl (fun _ => 0))), (r0, .inl (cR, 4, .inr (.inr (.inr (.inr fR))))), (q0, .inr (7, [.ref b0, .int 0])), (q1, .inr (7, [.ref b1, .int 0])), (q2, .inr (7, [.ref b2, .int 0])), (q3, .inr (7, [.ref b3, .int 0])), (x0, .inr (8, [.ref t0, .ref m0, .ref sb, .int 0, .int 0, .int ((-1))])), (hm, .inr (11, fs)), (a0, .inl (cZ, 8, .inl (fun _ => 0))), (a8, .inl (c8, 248, .inl (fun _ => 0))), (a9, .inl (c9, 400, .inl (fun _ => 0))), (a29, .inl (c29, 4, .inl (fun _ => 0)))] H := hP
  have hD : va_D A [(t0, .inr (7, [.ref tb, .int 0])), (tb, .inl (cT, 400, .inl (fun _ => 0))), (r0, .inl (cR, 4, .inr (.inr (.inr (.inr fR))))), (q0, .inr (7, [.ref b0, .int 0])), (q1, .inr (7, [.ref b1, .int 0])), (q2, .inr (7, [.ref b2, .int 0])), (q3, .inr (7, [.ref b3, .int 0])), (x0, .inr (8, [.ref t0, .ref m0, .ref sb, .int 0, .int 0, .int ((-1))])), (hm, .inr (11, fs)), (a0, .inl (cZ, 8, .inl (fun _ => 0))), (a8, .inl (c8, 248, .inl (fun _ => 0))), (a9, .inl (c9, 400, .inl (fun _ => 0))), (a29, .inl (c29, 4, .inl (fun _ => 0)))] := hD
  have hK : va_K (dC, dI) vwCl [(cT, .int), (cR, .object RX5), (cM, .object RX1), (cZ, .boolean), (c8, .boolean), (c9, .int), (c29, .int)] s := hK
  try dsimp only at hw_2
  have k_3 := hw_2
  refine W_toi (y := -1) k_3 ?_
  refine lv_aload_n hx hb dL_law_876 rfl (lv_at hl 1 rfl) ?_
  refine lv_aload_n hx hb dL_law_877 rfl (lv_at hl 3 rfl) ?_
  refine lv_iload_n hx hb dL_law_878 rfl (lv_at hl 0 rfl) ?_
  refine lv_iconst (v := 1) hx hb dL_law_879 (by decide) ?_
  refine lv_iadd hx hb dL_law_880 ?_
  refine W_toi (y := 1) (by decide) ?_
  refine va_sld hx hb hX hbl hbA hS (by unfold vp_in; decide) dL_law_881 ?_
  refine W_toi (y := xs 1) rfl ?_
  refine lv_aload_n hx hb dL_law_882 rfl (lv_at hl 3 rfl) ?_
  refine lv_iload_n hx hb dL_law_883 rfl (lv_at hl 0 rfl) ?_
  refine lv_iconst (v := 2) hx hb dL_law_884 (by decide) ?_
  refine lv_iadd hx hb dL_law_885 ?_
  refine W_toi (y := 2) (by decide) ?_
  refine va_sld hx hb hX hbl hbA hS (by unfold vp_in; decide) dL_law_886 ?_
  refine W_toi (y := xs 2) rfl ?_
  have hFc := va_free (wc := [(hm, .inr (11, fs)), (a0, .inl (cZ, 8, .inl (fun _ => 0)))]) hD hS hA [8, 9] rfl
  refine va_calli (va_runV (As := [.int (xs 1), .int (xs 2)]) (rest := [.int (-1)]) ⟨hx, hb, hml, hown, hts⟩ (c_X9_step l dC dI hm fs hfs a0 cZ fh0 (xs 1) (xs 2) H.size) (cwV 2 hts gp_law_18_X9_step_99 rfl rfl rfl (by decide +kernel) ⟨Nat.le_of_ble_eq_true rfl, Nat.le_of_ble_eq_true rfl⟩) ⟨Pr.blind _, va_recv hK hP (ci := 11) (q0 := 8) rfl rfl, fun U hU hW => ⟨rfl, Pr.at (hP.sub (ws' := [(hm, .inr (11, fs)), (a0, .inl (cZ, 8, .inl (fun _ => 0)))]) [8, 9] rfl) (hK.sub (tys' := [(cZ, .boolean)]) [3] rfl) (hD.sub (ws' := [(hm, .inr (11, fs)), (a0, .inl (cZ, 8, .inl (fun _ => 0)))]) [8, 9] (by decide) rfl) hN hZ hS hFc hU hW⟩⟩ rfl rfl hl.1 rfl (lv_room (Nat.le_of_ble_eq_true rfl)) dL_law_887 ⟨Nat.le_of_ble_eq_true rfl, Nat.le_of_ble_eq_true rfl⟩) hS (fun q _ h => hFc q h) hFc (fun r_4 u t H1 locs ht hvm hw_5 hB hz1 hk1 hS => ?_)
  obtain ⟨hP, hD, hK⟩ := Bq.join (wr := [(t0, .inr (7, [.ref tb, .int 0])), (tb, .inl (cT, 400, .inl (fun _ => 0))), (r0, .inl (cR, 4, .inr (.inr (.inr (.inr fR))))), (q0, .inr (7, [.ref b0, .int 0])), (q1, .inr (7, [.ref b1, .int 0])), (q2, .inr (7, [.ref b2, .int 0])), (q3, .inr (7, [.ref b3, .int 0])), (x0, .inr (8, [.ref t0, .ref m0, .ref sb, .int 0, .int 0, .int ((-1))])), (a8, .inl (c8, 248, .inl (fun _ => 0))), (a9, .inl (c9, 400, .inl (fun _ => 0))), (a29, .inl (c29, 4, .inl (fun _ => 0)))]) hB ht hvm hP hD [8, 9] [0, 1, 2, 3, 4, 5, 6, 7, 10, 11, 12] rfl rfl (by decide) (by decide) hk1 hFc hK
  generalize H1 = H at hP hS ⊢
  have hP : va_P (dC, dI) vwCl [(t0, .inr (7, [.ref tb, .int 0])), (tb, .inl (cT, 400, .inl (fun _ => 0))), (r0, .inl (cR, 4, .inr (.inr (.inr (.inr fR))))), (q0, .inr (7, [.ref b0, .int 0])), (q1, .inr (7, [.ref b1, .int 0])), (q2, .inr (7, [.ref b2, .int 0])), (q3, .inr (7, [.ref b3, .int 0])), (x0, .inr (8, [.ref t0, .ref m0, .ref sb, .int 0, .int 0, .int ((-1))])), (a8, .inl (c8, 248, .inl (fun _ => 0))), (a9, .inl (c9, 400, .inl (fun _ => 0))), (a29, .inl (c29, 4, .inl (fun _ => 0)))] H := hP
  have hD : va_D A [(t0, .inr (7, [.ref tb, .int 0])), (tb, .inl (cT, 400, .inl (fun _ => 0))), (r0, .inl (cR, 4, .inr (.inr (.inr (.inr fR))))), (q0, .inr (7, [.ref b0, .int 0])), (q1, .inr (7, [.ref b1, .int 0])), (q2, .inr (7, [.ref b2, .int 0])), (q3, .inr (7, [.ref b3, .int 0])), (x0, .inr (8, [.ref t0, .ref m0, .ref sb, .int 0, .int 0, .int ((-1))])), (a8, .inl (c8, 248, .inl (fun _ => 0))), (a9, .inl (c9, 400, .inl (fun _ => 0))), (a29, .inl (c29, 4, .inl (fun _ => 0)))] := hD
  have hK : va_K (dC, dI) vwCl [(cT, .int), (cR, .object RX5), (cM, .object RX1), (cZ, .boolean), (c8, .boolean), (c9, .int), (c29, .int)] s := hK
  try dsimp only at hw_5
  have k_6 := hw_5
  refine W_toi (y := -1) k_6 ?_
  refine lv_icmp_eq (tgt := 974) hx hb dL_law_890 (by decide) (fun c_7 => ?_) (fun c_7 => absurd (by decide) c_7)
  refine lv_iinc (v := 6) (lv' := [(3, .int 6), (2, .ref hm), (1, .ref ho), (0, .ref b)]) hx hb dL_law_974 hl (k := 0) rfl (by decide) (by decide) rfl (fun ls hl => ?_)
  refine lv_goto (tgt := 18) hx hb dL_law_977 (by decide) ?_
  refine lv_iload_n hx hb dL_law_18 rfl (lv_at hl 0 rfl) ?_
  refine lv_aload_n hx hb dL_law_19 rfl (lv_at hl 3 rfl) ?_
  refine va_slen hx hb hX hbl hbA hS dL_law_20 ?_
  refine W_toi (y := 6) rfl ?_
  refine lv_bipush (v := 6) hx hb dL_law_21 (by decide) ?_
  refine lv_isub hx hb dL_law_23 ?_
  refine W_toi (y := 0) (by decide) ?_
  refine lv_icmp_gt (tgt := 980) hx hb dL_law_24 (by decide) (fun c_8 => ?_) (fun c_8 => absurd (by decide) c_8)
  refine lv_iconst (v := 1) hx hb dL_law_980 (by decide) ?_
  refine va_forget (fun q hq => hA2 _ (hS.2.2 q hq)) ?_
  refine W.widen (k := 600000) (n := 7302250) (by omega) (by omega) ?_
  exact lw_ret hx hb hr hlocks dL_law_981
set_option maxHeartbeats 4000000 in
set_option maxRecDepth 100000 in
theorem law_19 {p : Program} {e : Env} {s : State} {m : MethodId} {below : List Frame} {meth : Method} {c : Code} (l : Launch) {b : Nat} {xs : Nat → Int32} {A : Nat → Prop} (C0 : lw_At p s m meth c b 6 xs) (hA : ∀ q : Nat, s.heap.size ≤ q → A q) (hA2 : ∀ q : Nat, A q → s.heap.size ≤ q) (hbA : ¬ A b) (dC : Nat → ClassId) (dI : Nat → Nat → Nat) (hN : NX s) (hZ : cz A s s.heap) (ho : Nat) (t0 : Nat) (r0 : Nat) (m0 : Nat) (x0 : Nat) (v4 : Value) (v5 : Value) (v6 : Value) (v7 : Value) (v8 : Value) (tb : Nat) (cT : ClassId) (cR : ClassId) (fR : Nat → Option Nat) (q0 : Nat) (q1 : Nat) (q2 : Nat) (q3 : Nat) (b0 : Nat) (b1 : Nat) (b2 : Nat) (b3 : Nat) (cM : ClassId) (sb : Nat) (hq0 : fR 0 = some q0) (hq1 : fR 1 = some q1) (hq2 : fR 2 = some q2) (hq3 : fR 3 = some q3) (hm : Nat) (a0 : Nat) (cZ : ClassId) (a8 : Nat) (c8 : ClassId) (a9 : Nat) (c9 : ClassId) (a29 : Nat) (c29 : ClassId) (fs : List Value) (hfs : fs.length = 60) (fh0 : fs[0]? = some (.ref a0)) (fh8 : fs[8]? = some (.ref a8)) (fh9 : fs[9]? = some (.ref a9)) (fh10 : fs[10]? = some (.int 0)) (fh15 : fs[15]? = some (.int 0)) (fh16 : fs[16]? = some (.int ((-1)))) (fh29 : fs[29]? = some (.ref a29)) (fh59 : fs[59]? = some (.int 0)) (H : Heap) (locs : List Loc) (hK : va_K (dC, dI) vwCl [(cT, .int), (cR, .object RX5), (cM, .object RX1), (cZ, .boolean), (c8, .boolean), (c9, .int), (c29, .int)] s) (hP : va_P (dC, dI) vwCl [(ho, .inr (10, [.ref t0, .ref r0, .ref m0, .ref x0, v4, v5, v6, v7, v8, .int 0, .int ((-1)), .int 0])), (t0, .inr (7, [.ref tb, .int 0])), (tb, .inl (cT, 400, .inl (fun _ => 0))), (r0, .inl (cR, 4, .inr (.inr (.inr (.inr fR))))), (q0, .inr (7, [.ref b0, .int 0])), (q1, .inr (7, [.ref b1, .int 0])), (q2, .inr (7, [.ref b2, .int 0])), (q3, .inr (7, [.ref b3, .int 0])), (m0, .inl (cM, 8, .inr (.inr (.inr (.inr (fun _ => none)))))), (x0, .inr (8, [.ref t0, .ref m0, .ref sb, .int 0, .int 0, .int ((-1))])), (hm, .inr (11, fs)), (a0, .inl (cZ, 8, .inl (fun _ => 0))), (a8, .inl (c8, 248, .inl (fun _ => 0))), (a9, .inl (c9, 400, .inl (fun _ => 0))), (a29, .inl (c29, 4, .inl (fun _ => 0)))] H) (hD : va_D A [(ho, .inr (10, [.ref t0, .ref r0, .ref m0, .ref x0, v4, v5, v6, v7, v8, .int 0, .int ((-1)), .int 0])), (t0, .inr (7, [.ref tb, .int 0])), (tb, .inl (cT, 400, .inl (fun _ => 0))), (r0, .inl (cR, 4, .inr (.inr (.inr (.inr fR))))), (q0, .inr (7, [.ref b0, .int 0])), (q1, .inr (7, [.ref b1, .int 0])), (q2, .inr (7, [.ref b2, .int 0])), (q3, .inr (7, [.ref b3, .int 0])), (m0, .inl (cM, 8, .inr (.inr (.inr (.inr (fun _ => none)))))), (x0, .inr (8, [.ref t0, .ref m0, .ref sb, .int 0, .int 0, .int ((-1))])), (hm, .inr (11, fs)), (a0, .inl (cZ, 8, .inl (fun _ => 0))), (a8, .inl (c8, 248, .inl (fun _ => 0))), (a9, .inl (c9, 400, .inl (fun _ => 0))), (a29, .inl (c29, 4, .inl (fun _ => 0)))]) (hS : va_S A s.heap H locs) (ls : Array Slot) (hl : lv_has ls 4 [(3, .int 0), (2, .ref hm), (1, .ref ho), (0, .ref b)]) : W p l e room_1 s m #[Value.ref b] below meth c H locs 74 12530 (lw_Z below #[Value.ref b] s) (F0 m 895 ls []) := by
  obtain ⟨hx, hb, hr, hml, hown, hts, hX, hbl, hlocks, hgv⟩ := C0
  refine lv_aload_n hx hb dL_law_895 rfl (lv_at hl 2 rfl) ?_
  refine lv_aload_n hx hb dL_law_896 rfl (lv_at hl 3 rfl) ?_
  refine lv_iload_n hx hb dL_law_897 rfl (lv_at hl 0 rfl) ?_
  refine lv_iconst (v := 1) hx hb dL_law_898 (by decide) ?_
  refine lv_iadd hx hb dL_law_899 ?_
  refine W_toi (y := 1) (by decide) ?_
  refine va_sld hx hb hX hbl hbA hS (by unfold vp_in; decide) dL_law_900 ?_
  refine W_toi (y := xs 1) rfl ?_
  refine lv_aload_n hx hb dL_law_901 rfl (lv_at hl 3 rfl) ?_
  refine lv_iload_n hx hb dL_law_902 rfl (lv_at hl 0 rfl) ?_
  refine lv_iconst (v := 2) hx hb dL_law_903 (by decide) ?_
  refine lv_iadd hx hb dL_law_904 ?_
  refine W_toi (y := 2) (by decide) ?_
  refine va_sld hx hb hX hbl hbA hS (by unfold vp_in; decide) dL_law_905 ?_
  refine W_toi (y := xs 2) rfl ?_
  refine lv_aload_n hx hb dL_law_906 rfl (lv_at hl 3 rfl) ?_
  refine lv_iload_n hx hb dL_law_907 rfl (lv_at hl 0 rfl) ?_
  refine lv_iconst (v := 3) hx hb dL_law_908 (by decide) ?_
  refine lv_iadd hx hb dL_law_909 ?_
  refine W_toi (y := 3) (by decide) ?_
  refine va_sld hx hb hX hbl hbA hS (by unfold vp_in; decide) dL_law_910 ?_
  refine W_toi (y := xs 3) rfl ?_
  have hFc := va_free (wc := [(ho, .inr (10, [.ref t0, .ref r0, .ref m0, .ref x0, v4, v5, v6, v7, v8, .int 0, .int ((-1)), .int 0])), (m0, .inl (cM, 8, .inr (.inr (.inr (.inr (fun _ => none))))))]) hD hS hA [0, 8] rfl
  refine va_calli (va_runV (As := [.int (xs 1), .int (xs 2), .int (xs 3)]) (rest := []) ⟨hx, hb, hml, hown, hts⟩ (c_X8_walk l dC dI ho t0 r0 m0 x0 (v4) (v5) (v6) (v7) (v8) cM (xs 1) (xs 2) (xs 3) H.size) (cwV 3 hts gp_law_19_X8_walk_100 rfl rfl rfl (by decide +kernel) ⟨Nat.le_of_ble_eq_true rfl, Nat.le_of_ble_eq_true rfl⟩) ⟨Pr.blind _, va_recv hK hP (ci := 10) (q0 := 0) rfl rfl, fun U hU hW => ⟨rfl, Pr.at (hP.sub (ws' := [(ho, .inr (10, [.ref t0, .ref r0, .ref m0, .ref x0, v4, v5, v6, v7, v8, .int 0, .int ((-1)), .int 0])), (m0, .inl (cM, 8, .inr (.inr (.inr (.inr (fun _ => none))))))]) [0, 8] rfl) (hK.sub (tys' := [(cM, .object RX1)]) [2] rfl) (hD.sub (ws' := [(ho, .inr (10, [.ref t0, .ref r0, .ref m0, .ref x0, v4, v5, v6, v7, v8, .int 0, .int ((-1)), .int 0])), (m0, .inl (cM, 8, .inr (.inr (.inr (.inr (fun _ => none))))))]) [0, 8] (by decide) rfl) hN hZ hS hFc hU hW⟩⟩ rfl rfl hl.1 rfl (lv_room (Nat.le_of_ble_eq_true rfl)) dL_law_911 ⟨Nat.le_of_ble_eq_true rfl, Nat.le_of_ble_eq_true rfl⟩) hS (fun q _ h => hFc q h) hFc (fun r_1 u t H1 locs ht hvm hw_2 hB hz1 hk1 hS => ?_)
  obtain ⟨hP, hD, hK⟩ := Bq.join (wr := [(t0, .inr (7, [.ref tb, .int 0])), (tb, .inl (cT, 400, .inl (fun _ => 0))), (r0, .inl (cR, 4, .inr (.inr (.inr (.inr fR))))), (q0, .inr (7, [.ref b0, .int 0])), (q1, .inr (7, [.ref b1, .int 0])), (q2, .inr (7, [.ref b2, .int 0])), (q3, .inr (7, [.ref b3, .int 0])), (x0, .inr (8, [.ref t0, .ref m0, .ref sb, .int 0, .int 0, .int ((-1))])), (hm, .inr (11, fs)), (a0, .inl (cZ, 8, .inl (fun _ => 0))), (a8, .inl (c8, 248, .inl (fun _ => 0))), (a9, .inl (c9, 400, .inl (fun _ => 0))), (a29, .inl (c29, 4, .inl (fun _ => 0)))]) hB ht hvm hP hD [0, 8] [1, 2, 3, 4, 5, 6, 7, 9, 10, 11, 12, 13, 14] rfl rfl (by decide) (by decide) hk1 hFc hK
  generalize H1 = H at hP hS ⊢
  have hP : va_P (dC, dI) vwCl [(t0, .inr (7, [.ref tb, .int 0])), (tb, .inl (cT, 400, .inl (fun _ => 0))), (r0, .inl (cR, 4, .inr (.inr (.inr (.inr fR))))), (q0, .inr (7, [.ref b0, .int 0])), (q1, .inr (7, [.ref b1, .int 0])), (q2, .inr (7, [.ref b2, .int 0])), (q3, .inr (7, [.ref b3, .int 0])), (x0, .inr (8, [.ref t0, .ref m0, .ref sb, .int 0, .int 0, .int ((-1))])), (hm, .inr (11, fs)), (a0, .inl (cZ, 8, .inl (fun _ => 0))), (a8, .inl (c8, 248, .inl (fun _ => 0))), (a9, .inl (c9, 400, .inl (fun _ => 0))), (a29, .inl (c29, 4, .inl (fun _ => 0)))] H := hP
  have hD : va_D A [(t0, .inr (7, [.ref tb, .int 0])), (tb, .inl (cT, 400, .inl (fun _ => 0))), (r0, .inl (cR, 4, .inr (.inr (.inr (.inr fR))))), (q0, .inr (7, [.ref b0, .int 0])), (q1, .inr (7, [.ref b1, .int 0])), (q2, .inr (7, [.ref b2, .int 0])), (q3, .inr (7, [.ref b3, .int 0])), (x0, .inr (8, [.ref t0, .ref m0, .ref sb, .int 0, .int 0, .int ((-1))])), (hm, .inr (11, fs)), (a0, .inl (cZ, 8, .inl (fun _ => 0))), (a8, .inl (c8, 248, .inl (fun _ => 0))), (a9, .inl (c9, 400, .inl (fun _ => 0))), (a29, .inl (c29, 4, .inl (fun _ => 0)))] := hD
  have hK : va_K (dC, dI) vwCl [(cT, .int), (cR, .object RX5), (cM, .object RX1), (cZ, .boolean), (c8, .boolean), (c9, .int), (c29, .int)] s := hK
  try dsimp only at hw_2
  have k_3 := hw_2
  refine W_toi (y := -1) k_3 ?_
  refine lv_aload_n hx hb dL_law_914 rfl (lv_at hl 1 rfl) ?_
  refine lv_aload_n hx hb dL_law_915 rfl (lv_at hl 3 rfl) ?_
  refine lv_iload_n hx hb dL_law_916 rfl (lv_at hl 0 rfl) ?_
  refine lv_iconst (v := 1) hx hb dL_law_917 (by decide) ?_
  refine lv_iadd hx hb dL_law_918 ?_
  refine W_toi (y := 1) (by decide) ?_
  refine va_sld hx hb hX hbl hbA hS (by unfold vp_in; decide) dL_law_919 ?_
  refine W_toi (y := xs 1) rfl ?_
  refine lv_aload_n hx hb dL_law_920 rfl (lv_at hl 3 rfl) ?_
  refine lv_iload_n hx hb dL_law_921 rfl (lv_at hl 0 rfl) ?_
  refine lv_iconst (v := 2) hx hb dL_law_922 (by decide) ?_
  refine lv_iadd hx hb dL_law_923 ?_
  refine W_toi (y := 2) (by decide) ?_
  refine va_sld hx hb hX hbl hbA hS (by unfold vp_in; decide) dL_law_924 ?_
  refine W_toi (y := xs 2) rfl ?_
  refine lv_aload_n hx hb dL_law_925 rfl (lv_at hl 3 rfl) ?_
  refine lv_iload_n hx hb dL_law_926 rfl (lv_at hl 0 rfl) ?_
  refine lv_iconst (v := 3) hx hb dL_law_927 (by decide) ?_
  refine lv_iadd hx hb dL_law_928 ?_
  refine W_toi (y := 3) (by decide) ?_
  refine va_sld hx hb hX hbl hbA hS (by unfold vp_in; decide) dL_law_929 ?_
  refine W_toi (y := xs 3) rfl ?_
  have hFc := va_free (wc := [(hm, .inr (11, fs)), (a0, .inl (cZ, 8, .inl (fun _ => 0)))]) hD hS hA [8, 9] rfl
  refine va_calli (va_runV (As := [.int (xs 1), .int (xs 2), .int (xs 3)]) (rest := [.int (-1)]) ⟨hx, hb, hml, hown, hts⟩ (c_X9_walk l dC dI hm fs hfs a0 cZ fh0 (xs 1) (xs 2) (xs 3) H.size) (cwV 3 hts gp_law_19_X9_walk_103 rfl rfl rfl (by decide +kernel) ⟨Nat.le_of_ble_eq_true rfl, Nat.le_of_ble_eq_true rfl⟩) ⟨Pr.blind _, va_recv hK hP (ci := 11) (q0 := 8) rfl rfl, fun U hU hW => ⟨rfl, Pr.at (hP.sub (ws' := [(hm, .inr (11, fs)), (a0, .inl (cZ, 8, .inl (fun _ => 0)))]) [8, 9] rfl) (hK.sub (tys' := [(cZ, .boolean)]) [3] rfl) (hD.sub (ws' := [(hm, .inr (11, fs)), (a0, .inl (cZ, 8, .inl (fun _ => 0)))]) [8, 9] (by decide) rfl) hN hZ hS hFc hU hW⟩⟩ rfl rfl hl.1 rfl (lv_room (Nat.le_of_ble_eq_true rfl)) dL_law_930 ⟨Nat.le_of_ble_eq_true rfl, Nat.le_of_ble_eq_true rfl⟩) hS (fun q _ h => hFc q h) hFc (fun r_4 u t H1 locs ht hvm hw_5 hB hz1 hk1 hS => ?_)
  obtain ⟨hP, hD, hK⟩ := Bq.join (wr := [(t0, .inr (7, [.ref tb, .int 0])), (tb, .inl (cT, 400, .inl (fun _ => 0))), (r0, .inl (cR, 4, .inr (.inr (.inr (.inr fR))))), (q0, .inr (7, [.ref b0, .int 0])), (q1, .inr (7, [.ref b1, .int 0])), (q2, .inr (7, [.ref b2, .int 0])), (q3, .inr (7, [.ref b3, .int 0])), (x0, .inr (8, [.ref t0, .ref m0, .ref sb, .int 0, .int 0, .int ((-1))])), (a8, .inl (c8, 248, .inl (fun _ => 0))), (a9, .inl (c9, 400, .inl (fun _ => 0))), (a29, .inl (c29, 4, .inl (fun _ => 0)))]) hB ht hvm hP hD [8, 9] [0, 1, 2, 3, 4, 5, 6, 7, 10, 11, 12] rfl rfl (by decide) (by decide) hk1 hFc hK
  generalize H1 = H at hP hS ⊢
  have hP : va_P (dC, dI) vwCl [(t0, .inr (7, [.ref tb, .int 0])), (tb, .inl (cT, 400, .inl (fun _ => 0))), (r0, .inl (cR, 4, .inr (.inr (.inr (.inr fR))))), (q0, .inr (7, [.ref b0, .int 0])), (q1, .inr (7, [.ref b1, .int 0])), (q2, .inr (7, [.ref b2, .int 0])), (q3, .inr (7, [.ref b3, .int 0])), (x0, .inr (8, [.ref t0, .ref m0, .ref sb, .int 0, .int 0, .int ((-1))])), (a8, .inl (c8, 248, .inl (fun _ => 0))), (a9, .inl (c9, 400, .inl (fun _ => 0))), (a29, .inl (c29, 4, .inl (fun _ => 0)))] H := hP
  have hD : va_D A [(t0, .inr (7, [.ref tb, .int 0])), (tb, .inl (cT, 400, .inl (fun _ => 0))), (r0, .inl (cR, 4, .inr (.inr (.inr (.inr fR))))), (q0, .inr (7, [.ref b0, .int 0])), (q1, .inr (7, [.ref b1, .int 0])), (q2, .inr (7, [.ref b2, .int 0])), (q3, .inr (7, [.ref b3, .int 0])), (x0, .inr (8, [.ref t0, .ref m0, .ref sb, .int 0, .int 0, .int ((-1))])), (a8, .inl (c8, 248, .inl (fun _ => 0))), (a9, .inl (c9, 400, .inl (fun _ => 0))), (a29, .inl (c29, 4, .inl (fun _ => 0)))] := hD
  have hK : va_K (dC, dI) vwCl [(cT, .int), (cR, .object RX5), (cM, .object RX1), (cZ, .boolean), (c8, .boolean), (c9, .int), (c29, .int)] s := hK
  try dsimp only at hw_5
  have k_6 := hw_5
  refine W_toi (y := -1) k_6 ?_
  refine lv_icmp_eq (tgt := 974) hx hb dL_law_933 (by decide) (fun c_7 => ?_) (fun c_7 => absurd (by decide) c_7)
  refine lv_iinc (v := 6) (lv' := [(3, .int 6), (2, .ref hm), (1, .ref ho), (0, .ref b)]) hx hb dL_law_974 hl (k := 0) rfl (by decide) (by decide) rfl (fun ls hl => ?_)
  refine lv_goto (tgt := 18) hx hb dL_law_977 (by decide) ?_
  refine lv_iload_n hx hb dL_law_18 rfl (lv_at hl 0 rfl) ?_
  refine lv_aload_n hx hb dL_law_19 rfl (lv_at hl 3 rfl) ?_
  refine va_slen hx hb hX hbl hbA hS dL_law_20 ?_
  refine W_toi (y := 6) rfl ?_
  refine lv_bipush (v := 6) hx hb dL_law_21 (by decide) ?_
  refine lv_isub hx hb dL_law_23 ?_
  refine W_toi (y := 0) (by decide) ?_
  refine lv_icmp_gt (tgt := 980) hx hb dL_law_24 (by decide) (fun c_8 => ?_) (fun c_8 => absurd (by decide) c_8)
  refine lv_iconst (v := 1) hx hb dL_law_980 (by decide) ?_
  refine va_forget (fun q hq => hA2 _ (hS.2.2 q hq)) ?_
  refine W.widen (k := 600000) (n := 7302250) (by omega) (by omega) ?_
  exact lw_ret hx hb hr hlocks dL_law_981
set_option maxHeartbeats 4000000 in
set_option maxRecDepth 100000 in
theorem law_20 {p : Program} {e : Env} {s : State} {m : MethodId} {below : List Frame} {meth : Method} {c : Code} (l : Launch) {b : Nat} {xs : Nat → Int32} {A : Nat → Prop} (C0 : lw_At p s m meth c b 6 xs) (hA : ∀ q : Nat, s.heap.size ≤ q → A q) (hA2 : ∀ q : Nat, A q → s.heap.size ≤ q) (hbA : ¬ A b) (dC : Nat → ClassId) (dI : Nat → Nat → Nat) (hN : NX s) (hZ : cz A s s.heap) (ho : Nat) (t0 : Nat) (r0 : Nat) (m0 : Nat) (x0 : Nat) (v4 : Value) (v5 : Value) (v6 : Value) (v7 : Value) (v8 : Value) (tb : Nat) (cT : ClassId) (cR : ClassId) (fR : Nat → Option Nat) (q0 : Nat) (q1 : Nat) (q2 : Nat) (q3 : Nat) (b0 : Nat) (b1 : Nat) (b2 : Nat) (b3 : Nat) (cM : ClassId) (sb : Nat) (hq0 : fR 0 = some q0) (hq1 : fR 1 = some q1) (hq2 : fR 2 = some q2) (hq3 : fR 3 = some q3) (hm : Nat) (a0 : Nat) (cZ : ClassId) (a8 : Nat) (c8 : ClassId) (a9 : Nat) (c9 : ClassId) (a29 : Nat) (c29 : ClassId) (fs : List Value) (hfs : fs.length = 60) (fh0 : fs[0]? = some (.ref a0)) (fh8 : fs[8]? = some (.ref a8)) (fh9 : fs[9]? = some (.ref a9)) (fh10 : fs[10]? = some (.int 0)) (fh15 : fs[15]? = some (.int 0)) (fh16 : fs[16]? = some (.int ((-1)))) (fh29 : fs[29]? = some (.ref a29)) (fh59 : fs[59]? = some (.int 0)) (H : Heap) (locs : List Loc) (hK : va_K (dC, dI) vwCl [(cT, .int), (cR, .object RX5), (cM, .object RX1), (cZ, .boolean), (c8, .boolean), (c9, .int), (c29, .int)] s) (hP : va_P (dC, dI) vwCl [(ho, .inr (10, [.ref t0, .ref r0, .ref m0, .ref x0, v4, v5, v6, v7, v8, .int 0, .int ((-1)), .int 0])), (t0, .inr (7, [.ref tb, .int 0])), (tb, .inl (cT, 400, .inl (fun _ => 0))), (r0, .inl (cR, 4, .inr (.inr (.inr (.inr fR))))), (q0, .inr (7, [.ref b0, .int 0])), (q1, .inr (7, [.ref b1, .int 0])), (q2, .inr (7, [.ref b2, .int 0])), (q3, .inr (7, [.ref b3, .int 0])), (m0, .inl (cM, 8, .inr (.inr (.inr (.inr (fun _ => none)))))), (x0, .inr (8, [.ref t0, .ref m0, .ref sb, .int 0, .int 0, .int ((-1))])), (hm, .inr (11, fs)), (a0, .inl (cZ, 8, .inl (fun _ => 0))), (a8, .inl (c8, 248, .inl (fun _ => 0))), (a9, .inl (c9, 400, .inl (fun _ => 0))), (a29, .inl (c29, 4, .inl (fun _ => 0)))] H) (hD : va_D A [(ho, .inr (10, [.ref t0, .ref r0, .ref m0, .ref x0, v4, v5, v6, v7, v8, .int 0, .int ((-1)), .int 0])), (t0, .inr (7, [.ref tb, .int 0])), (tb, .inl (cT, 400, .inl (fun _ => 0))), (r0, .inl (cR, 4, .inr (.inr (.inr (.inr fR))))), (q0, .inr (7, [.ref b0, .int 0])), (q1, .inr (7, [.ref b1, .int 0])), (q2, .inr (7, [.ref b2, .int 0])), (q3, .inr (7, [.ref b3, .int 0])), (m0, .inl (cM, 8, .inr (.inr (.inr (.inr (fun _ => none)))))), (x0, .inr (8, [.ref t0, .ref m0, .ref sb, .int 0, .int 0, .int ((-1))])), (hm, .inr (11, fs)), (a0, .inl (cZ, 8, .inl (fun _ => 0))), (a8, .inl (c8, 248, .inl (fun _ => 0))), (a9, .inl (c9, 400, .inl (fun _ => 0))), (a29, .inl (c29, 4, .inl (fun _ => 0)))]) (hS : va_S A s.heap H locs) (ls : Array Slot) (hl : lv_has ls 4 [(3, .int 0), (2, .ref hm), (1, .ref ho), (0, .ref b)]) : W p l e room_1 s m #[Value.ref b] below meth c H locs 74 12530 (lw_Z below #[Value.ref b] s) (F0 m 938 ls []) := by
  obtain ⟨hx, hb, hr, hml, hown, hts, hX, hbl, hlocks, hgv⟩ := C0
  refine lv_aload_n hx hb dL_law_938 rfl (lv_at hl 2 rfl) ?_
  have hFc := va_free (wc := [(ho, .inr (10, [.ref t0, .ref r0, .ref m0, .ref x0, v4, v5, v6, v7, v8, .int 0, .int ((-1)), .int 0]))]) hD hS hA [0] rfl
  refine va_calli (va_runV (As := []) (rest := []) ⟨hx, hb, hml, hown, hts⟩ (c_X8_by l dC dI ho t0 r0 m0 x0 (v4) (v5) (v6) (v7) (v8) H.size) (cwV 0 hts gp_law_20_X8_by_104 rfl rfl rfl (by decide +kernel) ⟨Nat.le_of_ble_eq_true rfl, Nat.le_of_ble_eq_true rfl⟩) ⟨Pr.blind _, va_recv hK hP (ci := 10) (q0 := 0) rfl rfl, fun U hU hW => ⟨rfl, Pr.at (hP.sub (ws' := [(ho, .inr (10, [.ref t0, .ref r0, .ref m0, .ref x0, v4, v5, v6, v7, v8, .int 0, .int ((-1)), .int 0]))]) [0] rfl) (hK.sub (tys' := []) [] rfl) (hD.sub (ws' := [(ho, .inr (10, [.ref t0, .ref r0, .ref m0, .ref x0, v4, v5, v6, v7, v8, .int 0, .int ((-1)), .int 0]))]) [0] (by decide) rfl) hN hZ hS hFc hU hW⟩⟩ rfl rfl hl.1 rfl (lv_room (Nat.le_of_ble_eq_true rfl)) dL_law_939 ⟨Nat.le_of_ble_eq_true rfl, Nat.le_of_ble_eq_true rfl⟩) hS (fun q _ h => hFc q h) hFc (fun r_1 u t H1 locs ht hvm hw_2 hB hz1 hk1 hS => ?_)
  obtain ⟨hP, hD, hK⟩ := Bq.join (wr := [(t0, .inr (7, [.ref tb, .int 0])), (tb, .inl (cT, 400, .inl (fun _ => 0))), (r0, .inl (cR, 4, .inr (.inr (.inr (.inr fR))))), (q0, .inr (7, [.ref b0, .int 0])), (q1, .inr (7, [.ref b1, .int 0])), (q2, .inr (7, [.ref b2, .int 0])), (q3, .inr (7, [.ref b3, .int 0])), (m0, .inl (cM, 8, .inr (.inr (.inr (.inr (fun _ => none)))))), (x0, .inr (8, [.ref t0, .ref m0, .ref sb, .int 0, .int 0, .int ((-1))])), (hm, .inr (11, fs)), (a0, .inl (cZ, 8, .inl (fun _ => 0))), (a8, .inl (c8, 248, .inl (fun _ => 0))), (a9, .inl (c9, 400, .inl (fun _ => 0))), (a29, .inl (c29, 4, .inl (fun _ => 0)))]) hB ht hvm hP hD [0] [1, 2, 3, 4, 5, 6, 7, 8, 9, 10, 11, 12, 13, 14] rfl rfl (by decide) (by decide) hk1 hFc hK
  generalize H1 = H at hP hS ⊢
  have hP : va_P (dC, dI) vwCl [(t0, .inr (7, [.ref tb, .int 0])), (tb, .inl (cT, 400, .inl (fun _ => 0))), (r0, .inl (cR, 4, .inr (.inr (.inr (.inr fR))))), (q0, .inr (7, [.ref b0, .int 0])), (q1, .inr (7, [.ref b1, .int 0])), (q2, .inr (7, [.ref b2, .int 0])), (q3, .inr (7, [.ref b3, .int 0])), (m0, .inl (cM, 8, .inr (.inr (.inr (.inr (fun _ => none)))))), (x0, .inr (8, [.ref t0, .ref m0, .ref sb, .int 0, .int 0, .int ((-1))])), (hm, .inr (11, fs)), (a0, .inl (cZ, 8, .inl (fun _ => 0))), (a8, .inl (c8, 248, .inl (fun _ => 0))), (a9, .inl (c9, 400, .inl (fun _ => 0))), (a29, .inl (c29, 4, .inl (fun _ => 0)))] H := hP
  have hD : va_D A [(t0, .inr (7, [.ref tb, .int 0])), (tb, .inl (cT, 400, .inl (fun _ => 0))), (r0, .inl (cR, 4, .inr (.inr (.inr (.inr fR))))), (q0, .inr (7, [.ref b0, .int 0])), (q1, .inr (7, [.ref b1, .int 0])), (q2, .inr (7, [.ref b2, .int 0])), (q3, .inr (7, [.ref b3, .int 0])), (m0, .inl (cM, 8, .inr (.inr (.inr (.inr (fun _ => none)))))), (x0, .inr (8, [.ref t0, .ref m0, .ref sb, .int 0, .int 0, .int ((-1))])), (hm, .inr (11, fs)), (a0, .inl (cZ, 8, .inl (fun _ => 0))), (a8, .inl (c8, 248, .inl (fun _ => 0))), (a9, .inl (c9, 400, .inl (fun _ => 0))), (a29, .inl (c29, 4, .inl (fun _ => 0)))] := hD
  have hK : va_K (dC, dI) vwCl [(cT, .int), (cR, .object RX5), (cM, .object RX1), (cZ, .boolean), (c8, .boolean), (c9, .int), (c29, .int)] s := hK
  try dsimp only at hw_2
  have k_3 := hw_2
  refine W_toi (y := 0) k_3 ?_
  refine lv_aload_n hx hb dL_law_942 rfl (lv_at hl 1 rfl) ?_
  have hFc := va_free (wc := [(hm, .inr (11, fs))]) hD hS hA [9] rfl
  refine va_calli (va_runV (As := []) (rest := [.int 0]) ⟨hx, hb, hml, hown, hts⟩ (c_X9_by l dC dI hm fs hfs fh59 H.size) (cwV 0 hts gp_law_20_X9_by_108 rfl rfl rfl (by decide +kernel) ⟨Nat.le_of_ble_eq_true rfl, Nat.le_of_ble_eq_true rfl⟩) ⟨Pr.blind _, va_recv hK hP (ci := 11) (q0 := 9) rfl rfl, fun U hU hW => ⟨rfl, Pr.at (hP.sub (ws' := [(hm, .inr (11, fs))]) [9] rfl) (hK.sub (tys' := []) [] rfl) (hD.sub (ws' := [(hm, .inr (11, fs))]) [9] (by decide) rfl) hN hZ hS hFc hU hW⟩⟩ rfl rfl hl.1 rfl (lv_room (Nat.le_of_ble_eq_true rfl)) dL_law_943 ⟨Nat.le_of_ble_eq_true rfl, Nat.le_of_ble_eq_true rfl⟩) hS (fun q _ h => hFc q h) hFc (fun r_4 u t H1 locs ht hvm hw_5 hB hz1 hk1 hS => ?_)
  obtain ⟨hP, hD, hK⟩ := Bq.join (wr := [(t0, .inr (7, [.ref tb, .int 0])), (tb, .inl (cT, 400, .inl (fun _ => 0))), (r0, .inl (cR, 4, .inr (.inr (.inr (.inr fR))))), (q0, .inr (7, [.ref b0, .int 0])), (q1, .inr (7, [.ref b1, .int 0])), (q2, .inr (7, [.ref b2, .int 0])), (q3, .inr (7, [.ref b3, .int 0])), (m0, .inl (cM, 8, .inr (.inr (.inr (.inr (fun _ => none)))))), (x0, .inr (8, [.ref t0, .ref m0, .ref sb, .int 0, .int 0, .int ((-1))])), (a0, .inl (cZ, 8, .inl (fun _ => 0))), (a8, .inl (c8, 248, .inl (fun _ => 0))), (a9, .inl (c9, 400, .inl (fun _ => 0))), (a29, .inl (c29, 4, .inl (fun _ => 0)))]) hB ht hvm hP hD [9] [0, 1, 2, 3, 4, 5, 6, 7, 8, 10, 11, 12, 13] rfl rfl (by decide) (by decide) hk1 hFc hK
  generalize H1 = H at hP hS ⊢
  have hP : va_P (dC, dI) vwCl [(t0, .inr (7, [.ref tb, .int 0])), (tb, .inl (cT, 400, .inl (fun _ => 0))), (r0, .inl (cR, 4, .inr (.inr (.inr (.inr fR))))), (q0, .inr (7, [.ref b0, .int 0])), (q1, .inr (7, [.ref b1, .int 0])), (q2, .inr (7, [.ref b2, .int 0])), (q3, .inr (7, [.ref b3, .int 0])), (m0, .inl (cM, 8, .inr (.inr (.inr (.inr (fun _ => none)))))), (x0, .inr (8, [.ref t0, .ref m0, .ref sb, .int 0, .int 0, .int ((-1))])), (a0, .inl (cZ, 8, .inl (fun _ => 0))), (a8, .inl (c8, 248, .inl (fun _ => 0))), (a9, .inl (c9, 400, .inl (fun _ => 0))), (a29, .inl (c29, 4, .inl (fun _ => 0)))] H := hP
  have hD : va_D A [(t0, .inr (7, [.ref tb, .int 0])), (tb, .inl (cT, 400, .inl (fun _ => 0))), (r0, .inl (cR, 4, .inr (.inr (.inr (.inr fR))))), (q0, .inr (7, [.ref b0, .int 0])), (q1, .inr (7, [.ref b1, .int 0])), (q2, .inr (7, [.ref b2, .int 0])), (q3, .inr (7, [.ref b3, .int 0])), (m0, .inl (cM, 8, .inr (.inr (.inr (.inr (fun _ => none)))))), (x0, .inr (8, [.ref t0, .ref m0, .ref sb, .int 0, .int 0, .int ((-1))])), (a0, .inl (cZ, 8, .inl (fun _ => 0))), (a8, .inl (c8, 248, .inl (fun _ => 0))), (a9, .inl (c9, 400, .inl (fun _ => 0))), (a29, .inl (c29, 4, .inl (fun _ => 0)))] := hD
  have hK : va_K (dC, dI) vwCl [(cT, .int), (cR, .object RX5), (cM, .object RX1), (cZ, .boolean), (c8, .boolean), (c9, .int), (c29, .int)] s := hK
  try dsimp only at hw_5
  have k_6 := hw_5
  refine W_toi (y := 0) k_6 ?_
  refine lv_icmp_eq (tgt := 974) hx hb dL_law_946 (by decide) (fun c_7 => ?_) (fun c_7 => absurd (by decide) c_7)
  refine lv_iinc (v := 6) (lv' := [(3, .int 6), (2, .ref hm), (1, .ref ho), (0, .ref b)]) hx hb dL_law_974 hl (k := 0) rfl (by decide) (by decide) rfl (fun ls hl => ?_)
  refine lv_goto (tgt := 18) hx hb dL_law_977 (by decide) ?_
  refine lv_iload_n hx hb dL_law_18 rfl (lv_at hl 0 rfl) ?_
  refine lv_aload_n hx hb dL_law_19 rfl (lv_at hl 3 rfl) ?_
  refine va_slen hx hb hX hbl hbA hS dL_law_20 ?_
  refine W_toi (y := 6) rfl ?_
  refine lv_bipush (v := 6) hx hb dL_law_21 (by decide) ?_
  refine lv_isub hx hb dL_law_23 ?_
  refine W_toi (y := 0) (by decide) ?_
  refine lv_icmp_gt (tgt := 980) hx hb dL_law_24 (by decide) (fun c_8 => ?_) (fun c_8 => absurd (by decide) c_8)
  refine lv_iconst (v := 1) hx hb dL_law_980 (by decide) ?_
  refine va_forget (fun q hq => hA2 _ (hS.2.2 q hq)) ?_
  refine W.widen (k := 600000) (n := 7302250) (by omega) (by omega) ?_
  exact lw_ret hx hb hr hlocks dL_law_981
set_option maxHeartbeats 4000000 in
set_option maxRecDepth 100000 in
theorem law_21 {p : Program} {e : Env} {s : State} {m : MethodId} {below : List Frame} {meth : Method} {c : Code} (l : Launch) {b : Nat} {xs : Nat → Int32} {A : Nat → Prop} (C0 : lw_At p s m meth c b 6 xs) (hA : ∀ q : Nat, s.heap.size ≤ q → A q) (hA2 : ∀ q : Nat, A q → s.heap.size ≤ q) (hbA : ¬ A b) (dC : Nat → ClassId) (dI : Nat → Nat → Nat) (hN : NX s) (hZ : cz A s s.heap) (ho : Nat) (t0 : Nat) (r0 : Nat) (m0 : Nat) (x0 : Nat) (v4 : Value) (v5 : Value) (v6 : Value) (v7 : Value) (v8 : Value) (tb : Nat) (cT : ClassId) (cR : ClassId) (fR : Nat → Option Nat) (q0 : Nat) (q1 : Nat) (q2 : Nat) (q3 : Nat) (b0 : Nat) (b1 : Nat) (b2 : Nat) (b3 : Nat) (cM : ClassId) (sb : Nat) (hq0 : fR 0 = some q0) (hq1 : fR 1 = some q1) (hq2 : fR 2 = some q2) (hq3 : fR 3 = some q3) (hm : Nat) (a0 : Nat) (cZ : ClassId) (a8 : Nat) (c8 : ClassId) (a9 : Nat) (c9 : ClassId) (a29 : Nat) (c29 : ClassId) (fs : List Value) (hfs : fs.length = 60) (fh0 : fs[0]? = some (.ref a0)) (fh8 : fs[8]? = some (.ref a8)) (fh9 : fs[9]? = some (.ref a9)) (fh10 : fs[10]? = some (.int 0)) (fh15 : fs[15]? = some (.int 0)) (fh16 : fs[16]? = some (.int ((-1)))) (fh29 : fs[29]? = some (.ref a29)) (fh59 : fs[59]? = some (.int 0)) (H : Heap) (locs : List Loc) (hK : va_K (dC, dI) vwCl [(cT, .int), (cR, .object RX5), (cM, .object RX1), (cZ, .boolean), (c8, .boolean), (c9, .int), (c29, .int)] s) (hP : va_P (dC, dI) vwCl [(ho, .inr (10, [.ref t0, .ref r0, .ref m0, .ref x0, v4, v5, v6, v7, v8, .int 0, .int ((-1)), .int 0])), (t0, .inr (7, [.ref tb, .int 0])), (tb, .inl (cT, 400, .inl (fun _ => 0))), (r0, .inl (cR, 4, .inr (.inr (.inr (.inr fR))))), (q0, .inr (7, [.ref b0, .int 0])), (q1, .inr (7, [.ref b1, .int 0])), (q2, .inr (7, [.ref b2, .int 0])), (q3, .inr (7, [.ref b3, .int 0])), (m0, .inl (cM, 8, .inr (.inr (.inr (.inr (fun _ => none)))))), (x0, .inr (8, [.ref t0, .ref m0, .ref sb, .int 0, .int 0, .int ((-1))])), (hm, .inr (11, fs)), (a0, .inl (cZ, 8, .inl (fun _ => 0))), (a8, .inl (c8, 248, .inl (fun _ => 0))), (a9, .inl (c9, 400, .inl (fun _ => 0))), (a29, .inl (c29, 4, .inl (fun _ => 0)))] H) (hD : va_D A [(ho, .inr (10, [.ref t0, .ref r0, .ref m0, .ref x0, v4, v5, v6, v7, v8, .int 0, .int ((-1)), .int 0])), (t0, .inr (7, [.ref tb, .int 0])), (tb, .inl (cT, 400, .inl (fun _ => 0))), (r0, .inl (cR, 4, .inr (.inr (.inr (.inr fR))))), (q0, .inr (7, [.ref b0, .int 0])), (q1, .inr (7, [.ref b1, .int 0])), (q2, .inr (7, [.ref b2, .int 0])), (q3, .inr (7, [.ref b3, .int 0])), (m0, .inl (cM, 8, .inr (.inr (.inr (.inr (fun _ => none)))))), (x0, .inr (8, [.ref t0, .ref m0, .ref sb, .int 0, .int 0, .int ((-1))])), (hm, .inr (11, fs)), (a0, .inl (cZ, 8, .inl (fun _ => 0))), (a8, .inl (c8, 248, .inl (fun _ => 0))), (a9, .inl (c9, 400, .inl (fun _ => 0))), (a29, .inl (c29, 4, .inl (fun _ => 0)))]) (hS : va_S A s.heap H locs) (ls : Array Slot) (hl : lv_has ls 4 [(3, .int 0), (2, .ref hm), (1, .ref ho), (0, .ref b)]) : W p l e room_1 s m #[Value.ref b] below meth c H locs 74 12530 (lw_Z below #[Value.ref b] s) (F0 m 951 ls []) := by
  obtain ⟨hx, hb, hr, hml, hown, hts, hX, hbl, hlocks, hgv⟩ := C0
  refine lv_aload_n hx hb dL_law_951 rfl (lv_at hl 2 rfl) ?_
  refine lv_aload_n hx hb dL_law_952 rfl (lv_at hl 3 rfl) ?_
  refine lv_iload_n hx hb dL_law_953 rfl (lv_at hl 0 rfl) ?_
  refine lv_iconst (v := 1) hx hb dL_law_954 (by decide) ?_
  refine lv_iadd hx hb dL_law_955 ?_
  refine W_toi (y := 1) (by decide) ?_
  refine va_sld hx hb hX hbl hbA hS (by unfold vp_in; decide) dL_law_956 ?_
  refine W_toi (y := xs 1) rfl ?_
  have hFc := va_free (wc := [(ho, .inr (10, [.ref t0, .ref r0, .ref m0, .ref x0, v4, v5, v6, v7, v8, .int 0, .int ((-1)), .int 0])), (m0, .inl (cM, 8, .inr (.inr (.inr (.inr (fun _ => none))))))]) hD hS hA [0, 8] rfl
  refine va_calli (va_runV (As := [.int (xs 1)]) (rest := []) ⟨hx, hb, hml, hown, hts⟩ (c_X8_readers l dC dI ho t0 r0 m0 x0 (v4) (v5) (v6) (v7) (v8) cM (xs 1) H.size) (cwV 1 hts gp_law_21_X8_readers_109 rfl rfl rfl (by decide +kernel) ⟨Nat.le_of_ble_eq_true rfl, Nat.le_of_ble_eq_true rfl⟩) ⟨Pr.blind _, va_recv hK hP (ci := 10) (q0 := 0) rfl rfl, fun U hU hW => ⟨rfl, Pr.at (hP.sub (ws' := [(ho, .inr (10, [.ref t0, .ref r0, .ref m0, .ref x0, v4, v5, v6, v7, v8, .int 0, .int ((-1)), .int 0])), (m0, .inl (cM, 8, .inr (.inr (.inr (.inr (fun _ => none))))))]) [0, 8] rfl) (hK.sub (tys' := [(cM, .object RX1)]) [2] rfl) (hD.sub (ws' := [(ho, .inr (10, [.ref t0, .ref r0, .ref m0, .ref x0, v4, v5, v6, v7, v8, .int 0, .int ((-1)), .int 0])), (m0, .inl (cM, 8, .inr (.inr (.inr (.inr (fun _ => none))))))]) [0, 8] (by decide) rfl) hN hZ hS hFc hU hW⟩⟩ rfl rfl hl.1 rfl (lv_room (Nat.le_of_ble_eq_true rfl)) dL_law_957 ⟨Nat.le_of_ble_eq_true rfl, Nat.le_of_ble_eq_true rfl⟩) hS (fun q _ h => hFc q h) hFc (fun r_1 u t H1 locs ht hvm hw_2 hB hz1 hk1 hS => ?_)
  obtain ⟨hP, hD, hK⟩ := Bq.join (wr := [(t0, .inr (7, [.ref tb, .int 0])), (tb, .inl (cT, 400, .inl (fun _ => 0))), (r0, .inl (cR, 4, .inr (.inr (.inr (.inr fR))))), (q0, .inr (7, [.ref b0, .int 0])), (q1, .inr (7, [.ref b1, .int 0])), (q2, .inr (7, [.ref b2, .int 0])), (q3, .inr (7, [.ref b3, .int 0])), (x0, .inr (8, [.ref t0, .ref m0, .ref sb, .int 0, .int 0, .int ((-1))])), (hm, .inr (11, fs)), (a0, .inl (cZ, 8, .inl (fun _ => 0))), (a8, .inl (c8, 248, .inl (fun _ => 0))), (a9, .inl (c9, 400, .inl (fun _ => 0))), (a29, .inl (c29, 4, .inl (fun _ => 0)))]) hB ht hvm hP hD [0, 8] [1, 2, 3, 4, 5, 6, 7, 9, 10, 11, 12, 13, 14] rfl rfl (by decide) (by decide) hk1 hFc hK
  generalize H1 = H at hP hS ⊢
  have hP : va_P (dC, dI) vwCl [(t0, .inr (7, [.ref tb, .int 0])), (tb, .inl (cT, 400, .inl (fun _ => 0))), (r0, .inl (cR, 4, .inr (.inr (.inr (.inr fR))))), (q0, .inr (7, [.ref b0, .int 0])), (q1, .inr (7, [.ref b1, .int 0])), (q2, .inr (7, [.ref b2, .int 0])), (q3, .inr (7, [.ref b3, .int 0])), (x0, .inr (8, [.ref t0, .ref m0, .ref sb, .int 0, .int 0, .int ((-1))])), (hm, .inr (11, fs)), (a0, .inl (cZ, 8, .inl (fun _ => 0))), (a8, .inl (c8, 248, .inl (fun _ => 0))), (a9, .inl (c9, 400, .inl (fun _ => 0))), (a29, .inl (c29, 4, .inl (fun _ => 0)))] H := hP
  have hD : va_D A [(t0, .inr (7, [.ref tb, .int 0])), (tb, .inl (cT, 400, .inl (fun _ => 0))), (r0, .inl (cR, 4, .inr (.inr (.inr (.inr fR))))), (q0, .inr (7, [.ref b0, .int 0])), (q1, .inr (7, [.ref b1, .int 0])), (q2, .inr (7, [.ref b2, .int 0])), (q3, .inr (7, [.ref b3, .int 0])), (x0, .inr (8, [.ref t0, .ref m0, .ref sb, .int 0, .int 0, .int ((-1))])), (hm, .inr (11, fs)), (a0, .inl (cZ, 8, .inl (fun _ => 0))), (a8, .inl (c8, 248, .inl (fun _ => 0))), (a9, .inl (c9, 400, .inl (fun _ => 0))), (a29, .inl (c29, 4, .inl (fun _ => 0)))] := hD
  have hK : va_K (dC, dI) vwCl [(cT, .int), (cR, .object RX5), (cM, .object RX1), (cZ, .boolean), (c8, .boolean), (c9, .int), (c29, .int)] s := hK
  try dsimp only at hw_2
  have k_3 := hw_2
  refine W_toi (y := -1) k_3 ?_
  refine lv_aload_n hx hb dL_law_960 rfl (lv_at hl 1 rfl) ?_
  refine lv_aload_n hx hb dL_law_961 rfl (lv_at hl 3 rfl) ?_
  refine lv_iload_n hx hb dL_law_962 rfl (lv_at hl 0 rfl) ?_
  refine lv_iconst (v := 1) hx hb dL_law_963 (by decide) ?_
  refine lv_iadd hx hb dL_law_964 ?_
  refine W_toi (y := 1) (by decide) ?_
  refine va_sld hx hb hX hbl hbA hS (by unfold vp_in; decide) dL_law_965 ?_
  refine W_toi (y := xs 1) rfl ?_
  have hFc := va_free (wc := [(hm, .inr (11, fs)), (a0, .inl (cZ, 8, .inl (fun _ => 0)))]) hD hS hA [8, 9] rfl
  refine va_calli (va_runV (As := [.int (xs 1)]) (rest := [.int (-1)]) ⟨hx, hb, hml, hown, hts⟩ (c_X9_readers l dC dI hm fs hfs a0 cZ fh0 (xs 1) H.size) (cwV 1 hts gp_law_21_X9_readers_112 rfl rfl rfl (by decide +kernel) ⟨Nat.le_of_ble_eq_true rfl, Nat.le_of_ble_eq_true rfl⟩) ⟨Pr.blind _, va_recv hK hP (ci := 11) (q0 := 8) rfl rfl, fun U hU hW => ⟨rfl, Pr.at (hP.sub (ws' := [(hm, .inr (11, fs)), (a0, .inl (cZ, 8, .inl (fun _ => 0)))]) [8, 9] rfl) (hK.sub (tys' := [(cZ, .boolean)]) [3] rfl) (hD.sub (ws' := [(hm, .inr (11, fs)), (a0, .inl (cZ, 8, .inl (fun _ => 0)))]) [8, 9] (by decide) rfl) hN hZ hS hFc hU hW⟩⟩ rfl rfl hl.1 rfl (lv_room (Nat.le_of_ble_eq_true rfl)) dL_law_966 ⟨Nat.le_of_ble_eq_true rfl, Nat.le_of_ble_eq_true rfl⟩) hS (fun q _ h => hFc q h) hFc (fun r_4 u t H1 locs ht hvm hw_5 hB hz1 hk1 hS => ?_)
  obtain ⟨hP, hD, hK⟩ := Bq.join (wr := [(t0, .inr (7, [.ref tb, .int 0])), (tb, .inl (cT, 400, .inl (fun _ => 0))), (r0, .inl (cR, 4, .inr (.inr (.inr (.inr fR))))), (q0, .inr (7, [.ref b0, .int 0])), (q1, .inr (7, [.ref b1, .int 0])), (q2, .inr (7, [.ref b2, .int 0])), (q3, .inr (7, [.ref b3, .int 0])), (x0, .inr (8, [.ref t0, .ref m0, .ref sb, .int 0, .int 0, .int ((-1))])), (a8, .inl (c8, 248, .inl (fun _ => 0))), (a9, .inl (c9, 400, .inl (fun _ => 0))), (a29, .inl (c29, 4, .inl (fun _ => 0)))]) hB ht hvm hP hD [8, 9] [0, 1, 2, 3, 4, 5, 6, 7, 10, 11, 12] rfl rfl (by decide) (by decide) hk1 hFc hK
  generalize H1 = H at hP hS ⊢
  have hP : va_P (dC, dI) vwCl [(t0, .inr (7, [.ref tb, .int 0])), (tb, .inl (cT, 400, .inl (fun _ => 0))), (r0, .inl (cR, 4, .inr (.inr (.inr (.inr fR))))), (q0, .inr (7, [.ref b0, .int 0])), (q1, .inr (7, [.ref b1, .int 0])), (q2, .inr (7, [.ref b2, .int 0])), (q3, .inr (7, [.ref b3, .int 0])), (x0, .inr (8, [.ref t0, .ref m0, .ref sb, .int 0, .int 0, .int ((-1))])), (a8, .inl (c8, 248, .inl (fun _ => 0))), (a9, .inl (c9, 400, .inl (fun _ => 0))), (a29, .inl (c29, 4, .inl (fun _ => 0)))] H := hP
  have hD : va_D A [(t0, .inr (7, [.ref tb, .int 0])), (tb, .inl (cT, 400, .inl (fun _ => 0))), (r0, .inl (cR, 4, .inr (.inr (.inr (.inr fR))))), (q0, .inr (7, [.ref b0, .int 0])), (q1, .inr (7, [.ref b1, .int 0])), (q2, .inr (7, [.ref b2, .int 0])), (q3, .inr (7, [.ref b3, .int 0])), (x0, .inr (8, [.ref t0, .ref m0, .ref sb, .int 0, .int 0, .int ((-1))])), (a8, .inl (c8, 248, .inl (fun _ => 0))), (a9, .inl (c9, 400, .inl (fun _ => 0))), (a29, .inl (c29, 4, .inl (fun _ => 0)))] := hD
  have hK : va_K (dC, dI) vwCl [(cT, .int), (cR, .object RX5), (cM, .object RX1), (cZ, .boolean), (c8, .boolean), (c9, .int), (c29, .int)] s := hK
  try dsimp only at hw_5
  have k_6 := hw_5
  refine W_toi (y := -1) k_6 ?_
  refine lv_icmp_eq (tgt := 974) hx hb dL_law_969 (by decide) (fun c_7 => ?_) (fun c_7 => absurd (by decide) c_7)
  refine lv_iinc (v := 6) (lv' := [(3, .int 6), (2, .ref hm), (1, .ref ho), (0, .ref b)]) hx hb dL_law_974 hl (k := 0) rfl (by decide) (by decide) rfl (fun ls hl => ?_)
  refine lv_goto (tgt := 18) hx hb dL_law_977 (by decide) ?_
  refine lv_iload_n hx hb dL_law_18 rfl (lv_at hl 0 rfl) ?_
  refine lv_aload_n hx hb dL_law_19 rfl (lv_at hl 3 rfl) ?_
  refine va_slen hx hb hX hbl hbA hS dL_law_20 ?_
  refine W_toi (y := 6) rfl ?_
  refine lv_bipush (v := 6) hx hb dL_law_21 (by decide) ?_
  refine lv_isub hx hb dL_law_23 ?_
  refine W_toi (y := 0) (by decide) ?_
  refine lv_icmp_gt (tgt := 980) hx hb dL_law_24 (by decide) (fun c_8 => ?_) (fun c_8 => absurd (by decide) c_8)
  refine lv_iconst (v := 1) hx hb dL_law_980 (by decide) ?_
  refine va_forget (fun q hq => hA2 _ (hS.2.2 q hq)) ?_
  refine W.widen (k := 600000) (n := 7302250) (by omega) (by omega) ?_
  exact lw_ret hx hb hr hlocks dL_law_981
set_option maxHeartbeats 4000000 in
set_option maxRecDepth 100000 in
theorem law_22 {p : Program} {e : Env} {s : State} {m : MethodId} {below : List Frame} {meth : Method} {c : Code} (l : Launch) {b : Nat} {xs : Nat → Int32} {A : Nat → Prop} (C0 : lw_At p s m meth c b 6 xs) (hA : ∀ q : Nat, s.heap.size ≤ q → A q) (hA2 : ∀ q : Nat, A q → s.heap.size ≤ q) (hbA : ¬ A b) (dC : Nat → ClassId) (dI : Nat → Nat → Nat) (hN : NX s) (hZ : cz A s s.heap) (ho : Nat) (t0 : Nat) (r0 : Nat) (m0 : Nat) (x0 : Nat) (v4 : Value) (v5 : Value) (v6 : Value) (v7 : Value) (v8 : Value) (tb : Nat) (cT : ClassId) (cR : ClassId) (fR : Nat → Option Nat) (q0 : Nat) (q1 : Nat) (q2 : Nat) (q3 : Nat) (b0 : Nat) (b1 : Nat) (b2 : Nat) (b3 : Nat) (cM : ClassId) (sb : Nat) (hq0 : fR 0 = some q0) (hq1 : fR 1 = some q1) (hq2 : fR 2 = some q2) (hq3 : fR 3 = some q3) (hm : Nat) (a0 : Nat) (cZ : ClassId) (a8 : Nat) (c8 : ClassId) (a9 : Nat) (c9 : ClassId) (a29 : Nat) (c29 : ClassId) (fs : List Value) (hfs : fs.length = 60) (fh0 : fs[0]? = some (.ref a0)) (fh8 : fs[8]? = some (.ref a8)) (fh9 : fs[9]? = some (.ref a9)) (fh10 : fs[10]? = some (.int 0)) (fh15 : fs[15]? = some (.int 0)) (fh16 : fs[16]? = some (.int ((-1)))) (fh29 : fs[29]? = some (.ref a29)) (fh59 : fs[59]? = some (.int 0)) (H : Heap) (locs : List Loc) (hK : va_K (dC, dI) vwCl [(cT, .int), (cR, .object RX5), (cM, .object RX1), (cZ, .boolean), (c8, .boolean), (c9, .int), (c29, .int)] s) (hP : va_P (dC, dI) vwCl [(ho, .inr (10, [.ref t0, .ref r0, .ref m0, .ref x0, v4, v5, v6, v7, v8, .int 0, .int ((-1)), .int 0])), (t0, .inr (7, [.ref tb, .int 0])), (tb, .inl (cT, 400, .inl (fun _ => 0))), (r0, .inl (cR, 4, .inr (.inr (.inr (.inr fR))))), (q0, .inr (7, [.ref b0, .int 0])), (q1, .inr (7, [.ref b1, .int 0])), (q2, .inr (7, [.ref b2, .int 0])), (q3, .inr (7, [.ref b3, .int 0])), (m0, .inl (cM, 8, .inr (.inr (.inr (.inr (fun _ => none)))))), (x0, .inr (8, [.ref t0, .ref m0, .ref sb, .int 0, .int 0, .int ((-1))])), (hm, .inr (11, fs)), (a0, .inl (cZ, 8, .inl (fun _ => 0))), (a8, .inl (c8, 248, .inl (fun _ => 0))), (a9, .inl (c9, 400, .inl (fun _ => 0))), (a29, .inl (c29, 4, .inl (fun _ => 0)))] H) (hD : va_D A [(ho, .inr (10, [.ref t0, .ref r0, .ref m0, .ref x0, v4, v5, v6, v7, v8, .int 0, .int ((-1)), .int 0])), (t0, .inr (7, [.ref tb, .int 0])), (tb, .inl (cT, 400, .inl (fun _ => 0))), (r0, .inl (cR, 4, .inr (.inr (.inr (.inr fR))))), (q0, .inr (7, [.ref b0, .int 0])), (q1, .inr (7, [.ref b1, .int 0])), (q2, .inr (7, [.ref b2, .int 0])), (q3, .inr (7, [.ref b3, .int 0])), (m0, .inl (cM, 8, .inr (.inr (.inr (.inr (fun _ => none)))))), (x0, .inr (8, [.ref t0, .ref m0, .ref sb, .int 0, .int 0, .int ((-1))])), (hm, .inr (11, fs)), (a0, .inl (cZ, 8, .inl (fun _ => 0))), (a8, .inl (c8, 248, .inl (fun _ => 0))), (a9, .inl (c9, 400, .inl (fun _ => 0))), (a29, .inl (c29, 4, .inl (fun _ => 0)))]) (hS : va_S A s.heap H locs) (ls : Array Slot) (hl : lv_has ls 4 [(3, .int 0), (2, .ref hm), (1, .ref ho), (0, .ref b)]) : W p l e room_1 s m #[Value.ref b] below meth c H locs 74 12530 (lw_Z below #[Value.ref b] s) (F0 m 974 ls []) := by
  obtain ⟨hx, hb, hr, hml, hown, hts, hX, hbl, hlocks, hgv⟩ := C0
  refine lv_iinc (v := 6) (lv' := [(3, .int 6), (2, .ref hm), (1, .ref ho), (0, .ref b)]) hx hb dL_law_974 hl (k := 0) rfl (by decide) (by decide) rfl (fun ls hl => ?_)
  refine lv_goto (tgt := 18) hx hb dL_law_977 (by decide) ?_
  refine lv_iload_n hx hb dL_law_18 rfl (lv_at hl 0 rfl) ?_
  refine lv_aload_n hx hb dL_law_19 rfl (lv_at hl 3 rfl) ?_
  refine va_slen hx hb hX hbl hbA hS dL_law_20 ?_
  refine W_toi (y := 6) rfl ?_
  refine lv_bipush (v := 6) hx hb dL_law_21 (by decide) ?_
  refine lv_isub hx hb dL_law_23 ?_
  refine W_toi (y := 0) (by decide) ?_
  refine lv_icmp_gt (tgt := 980) hx hb dL_law_24 (by decide) (fun c_1 => ?_) (fun c_1 => absurd (by decide) c_1)
  refine lv_iconst (v := 1) hx hb dL_law_980 (by decide) ?_
  refine va_forget (fun q hq => hA2 _ (hS.2.2 q hq)) ?_
  refine W.widen (k := 600000) (n := 7302250) (by omega) (by omega) ?_
  exact lw_ret hx hb hr hlocks dL_law_981
