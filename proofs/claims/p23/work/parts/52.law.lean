theorem dL_law_136 : decode cL_law 136 = .ok (.aload_n 1, 1) := by decide +kernel
theorem dL_law_137 : decode cL_law 137 = .ok (.aload_n 0, 1) := by decide +kernel
theorem dL_law_138 : decode cL_law 138 = .ok (.iload_n 3, 1) := by decide +kernel
theorem dL_law_139 : decode cL_law 139 = .ok (.iconst 1, 1) := by decide +kernel
theorem dL_law_140 : decode cL_law 140 = .ok (.iadd, 1) := by decide +kernel
theorem dL_law_141 : decode cL_law 141 = .ok (.iaload, 1) := by decide +kernel
theorem dL_law_142 : decode cL_law 142 = .ok (.aload_n 0, 1) := by decide +kernel
theorem dL_law_143 : decode cL_law 143 = .ok (.iload_n 3, 1) := by decide +kernel
theorem dL_law_144 : decode cL_law 144 = .ok (.iconst 2, 1) := by decide +kernel
theorem dL_law_145 : decode cL_law 145 = .ok (.iadd, 1) := by decide +kernel
theorem dL_law_146 : decode cL_law 146 = .ok (.iaload, 1) := by decide +kernel
theorem dL_law_147 : decode cL_law 147 = .ok (.aload_n 0, 1) := by decide +kernel
theorem dL_law_148 : decode cL_law 148 = .ok (.iload_n 3, 1) := by decide +kernel
theorem dL_law_149 : decode cL_law 149 = .ok (.iconst 3, 1) := by decide +kernel
theorem dL_law_150 : decode cL_law 150 = .ok (.iadd, 1) := by decide +kernel
theorem dL_law_151 : decode cL_law 151 = .ok (.iaload, 1) := by decide +kernel
theorem dL_law_152 : decode cL_law 152 = .ok (.aload_n 0, 1) := by decide +kernel
theorem dL_law_153 : decode cL_law 153 = .ok (.iload_n 3, 1) := by decide +kernel
theorem dL_law_154 : decode cL_law 154 = .ok (.iconst 4, 1) := by decide +kernel
theorem dL_law_155 : decode cL_law 155 = .ok (.iadd, 1) := by decide +kernel
theorem dL_law_156 : decode cL_law 156 = .ok (.iaload, 1) := by decide +kernel
theorem dL_law_157 : decode cL_law 157 = .ok (.aload_n 0, 1) := by decide +kernel
theorem dL_law_158 : decode cL_law 158 = .ok (.iload_n 3, 1) := by decide +kernel
theorem dL_law_159 : decode cL_law 159 = .ok (.iconst 5, 1) := by decide +kernel
theorem dL_law_160 : decode cL_law 160 = .ok (.iadd, 1) := by decide +kernel
theorem dL_law_161 : decode cL_law 161 = .ok (.iaload, 1) := by decide +kernel
theorem dL_law_162 : decode cL_law 162 = .ok (.invokevirtual 13, 3) := by decide +kernel
theorem dL_law_165 : decode cL_law 165 = .ok (.pop, 1) := by decide +kernel
theorem dL_law_166 : decode cL_law 166 = .ok (.aload_n 2, 1) := by decide +kernel
theorem dL_law_167 : decode cL_law 167 = .ok (.aload_n 0, 1) := by decide +kernel
theorem dL_law_168 : decode cL_law 168 = .ok (.iload_n 3, 1) := by decide +kernel
theorem dL_law_169 : decode cL_law 169 = .ok (.iconst 1, 1) := by decide +kernel
theorem dL_law_170 : decode cL_law 170 = .ok (.iadd, 1) := by decide +kernel
theorem dL_law_171 : decode cL_law 171 = .ok (.iaload, 1) := by decide +kernel
theorem dL_law_172 : decode cL_law 172 = .ok (.aload_n 0, 1) := by decide +kernel
theorem dL_law_173 : decode cL_law 173 = .ok (.iload_n 3, 1) := by decide +kernel
theorem dL_law_174 : decode cL_law 174 = .ok (.iconst 2, 1) := by decide +kernel
theorem dL_law_175 : decode cL_law 175 = .ok (.iadd, 1) := by decide +kernel
theorem dL_law_176 : decode cL_law 176 = .ok (.iaload, 1) := by decide +kernel
theorem dL_law_177 : decode cL_law 177 = .ok (.aload_n 0, 1) := by decide +kernel
theorem dL_law_178 : decode cL_law 178 = .ok (.iload_n 3, 1) := by decide +kernel
theorem dL_law_179 : decode cL_law 179 = .ok (.iconst 3, 1) := by decide +kernel
theorem dL_law_180 : decode cL_law 180 = .ok (.iadd, 1) := by decide +kernel
theorem dL_law_181 : decode cL_law 181 = .ok (.iaload, 1) := by decide +kernel
theorem dL_law_182 : decode cL_law 182 = .ok (.aload_n 0, 1) := by decide +kernel
theorem dL_law_183 : decode cL_law 183 = .ok (.iload_n 3, 1) := by decide +kernel
theorem dL_law_184 : decode cL_law 184 = .ok (.iconst 4, 1) := by decide +kernel
theorem dL_law_185 : decode cL_law 185 = .ok (.iadd, 1) := by decide +kernel
theorem dL_law_186 : decode cL_law 186 = .ok (.iaload, 1) := by decide +kernel
theorem dL_law_187 : decode cL_law 187 = .ok (.aload_n 0, 1) := by decide +kernel
theorem dL_law_188 : decode cL_law 188 = .ok (.iload_n 3, 1) := by decide +kernel
theorem dL_law_189 : decode cL_law 189 = .ok (.iconst 5, 1) := by decide +kernel
theorem dL_law_190 : decode cL_law 190 = .ok (.iadd, 1) := by decide +kernel
theorem dL_law_191 : decode cL_law 191 = .ok (.iaload, 1) := by decide +kernel
theorem dL_law_192 : decode cL_law 192 = .ok (.invokevirtual 17, 3) := by decide +kernel
theorem dL_law_195 : decode cL_law 195 = .ok (.pop, 1) := by decide +kernel
theorem dL_law_196 : decode cL_law 196 = .ok (.goto 776, 3) := by decide +kernel
theorem dL_law_199 : decode cL_law 199 = .ok (.aload_n 1, 1) := by decide +kernel
theorem dL_law_200 : decode cL_law 200 = .ok (.aload_n 0, 1) := by decide +kernel
theorem dL_law_201 : decode cL_law 201 = .ok (.iload_n 3, 1) := by decide +kernel
theorem dL_law_202 : decode cL_law 202 = .ok (.iconst 1, 1) := by decide +kernel
theorem dL_law_203 : decode cL_law 203 = .ok (.iadd, 1) := by decide +kernel
theorem dL_law_204 : decode cL_law 204 = .ok (.iaload, 1) := by decide +kernel
theorem dL_law_205 : decode cL_law 205 = .ok (.invokevirtual 18, 3) := by decide +kernel
theorem dL_law_208 : decode cL_law 208 = .ok (.pop, 1) := by decide +kernel
theorem dL_law_209 : decode cL_law 209 = .ok (.aload_n 2, 1) := by decide +kernel
theorem dL_law_210 : decode cL_law 210 = .ok (.aload_n 0, 1) := by decide +kernel
theorem dL_law_211 : decode cL_law 211 = .ok (.iload_n 3, 1) := by decide +kernel
theorem dL_law_212 : decode cL_law 212 = .ok (.iconst 1, 1) := by decide +kernel
theorem dL_law_213 : decode cL_law 213 = .ok (.iadd, 1) := by decide +kernel
theorem dL_law_214 : decode cL_law 214 = .ok (.iaload, 1) := by decide +kernel
theorem dL_law_215 : decode cL_law 215 = .ok (.invokevirtual 22, 3) := by decide +kernel
theorem dL_law_218 : decode cL_law 218 = .ok (.pop, 1) := by decide +kernel
theorem dL_law_219 : decode cL_law 219 = .ok (.goto 753, 3) := by decide +kernel
theorem dL_law_222 : decode cL_law 222 = .ok (.aload_n 1, 1) := by decide +kernel
theorem dL_law_223 : decode cL_law 223 = .ok (.aload_n 0, 1) := by decide +kernel
theorem dL_law_224 : decode cL_law 224 = .ok (.iload_n 3, 1) := by decide +kernel
theorem dL_law_225 : decode cL_law 225 = .ok (.iconst 1, 1) := by decide +kernel
theorem dL_law_226 : decode cL_law 226 = .ok (.iadd, 1) := by decide +kernel
theorem dL_law_227 : decode cL_law 227 = .ok (.iaload, 1) := by decide +kernel
theorem dL_law_228 : decode cL_law 228 = .ok (.invokevirtual 23, 3) := by decide +kernel
theorem dL_law_231 : decode cL_law 231 = .ok (.pop, 1) := by decide +kernel
theorem dL_law_232 : decode cL_law 232 = .ok (.aload_n 2, 1) := by decide +kernel
theorem dL_law_233 : decode cL_law 233 = .ok (.aload_n 0, 1) := by decide +kernel
theorem dL_law_234 : decode cL_law 234 = .ok (.iload_n 3, 1) := by decide +kernel
theorem dL_law_235 : decode cL_law 235 = .ok (.iconst 1, 1) := by decide +kernel
theorem dL_law_236 : decode cL_law 236 = .ok (.iadd, 1) := by decide +kernel
theorem dL_law_237 : decode cL_law 237 = .ok (.iaload, 1) := by decide +kernel
theorem dL_law_238 : decode cL_law 238 = .ok (.invokevirtual 27, 3) := by decide +kernel
theorem dL_law_241 : decode cL_law 241 = .ok (.pop, 1) := by decide +kernel
theorem dL_law_242 : decode cL_law 242 = .ok (.goto 730, 3) := by decide +kernel
theorem dL_law_245 : decode cL_law 245 = .ok (.aload_n 1, 1) := by decide +kernel
theorem dL_law_246 : decode cL_law 246 = .ok (.aload_n 0, 1) := by decide +kernel
theorem dL_law_247 : decode cL_law 247 = .ok (.iload_n 3, 1) := by decide +kernel
theorem dL_law_248 : decode cL_law 248 = .ok (.iconst 1, 1) := by decide +kernel
theorem dL_law_249 : decode cL_law 249 = .ok (.iadd, 1) := by decide +kernel
theorem dL_law_250 : decode cL_law 250 = .ok (.iaload, 1) := by decide +kernel
theorem dL_law_251 : decode cL_law 251 = .ok (.invokevirtual 28, 3) := by decide +kernel
theorem dL_law_254 : decode cL_law 254 = .ok (.pop, 1) := by decide +kernel
theorem dL_law_255 : decode cL_law 255 = .ok (.aload_n 2, 1) := by decide +kernel
theorem dL_law_256 : decode cL_law 256 = .ok (.aload_n 0, 1) := by decide +kernel
theorem dL_law_257 : decode cL_law 257 = .ok (.iload_n 3, 1) := by decide +kernel
theorem dL_law_258 : decode cL_law 258 = .ok (.iconst 1, 1) := by decide +kernel
theorem dL_law_259 : decode cL_law 259 = .ok (.iadd, 1) := by decide +kernel
theorem dL_law_260 : decode cL_law 260 = .ok (.iaload, 1) := by decide +kernel
theorem dL_law_261 : decode cL_law 261 = .ok (.invokevirtual 31, 3) := by decide +kernel
theorem dL_law_264 : decode cL_law 264 = .ok (.pop, 1) := by decide +kernel
theorem dL_law_265 : decode cL_law 265 = .ok (.goto 707, 3) := by decide +kernel
theorem dL_law_268 : decode cL_law 268 = .ok (.aload_n 1, 1) := by decide +kernel
theorem dL_law_269 : decode cL_law 269 = .ok (.aload_n 0, 1) := by decide +kernel
theorem dL_law_270 : decode cL_law 270 = .ok (.iload_n 3, 1) := by decide +kernel
theorem dL_law_271 : decode cL_law 271 = .ok (.iconst 1, 1) := by decide +kernel
theorem dL_law_272 : decode cL_law 272 = .ok (.iadd, 1) := by decide +kernel
theorem dL_law_273 : decode cL_law 273 = .ok (.iaload, 1) := by decide +kernel
theorem dL_law_274 : decode cL_law 274 = .ok (.aload_n 0, 1) := by decide +kernel
theorem dL_law_275 : decode cL_law 275 = .ok (.iload_n 3, 1) := by decide +kernel
theorem dL_law_276 : decode cL_law 276 = .ok (.iconst 2, 1) := by decide +kernel
theorem dL_law_277 : decode cL_law 277 = .ok (.iadd, 1) := by decide +kernel
theorem dL_law_278 : decode cL_law 278 = .ok (.iaload, 1) := by decide +kernel
theorem dL_law_279 : decode cL_law 279 = .ok (.aload_n 0, 1) := by decide +kernel
theorem dL_law_280 : decode cL_law 280 = .ok (.iload_n 3, 1) := by decide +kernel
theorem dL_law_281 : decode cL_law 281 = .ok (.iconst 3, 1) := by decide +kernel
theorem dL_law_282 : decode cL_law 282 = .ok (.iadd, 1) := by decide +kernel
theorem dL_law_283 : decode cL_law 283 = .ok (.iaload, 1) := by decide +kernel
theorem dL_law_284 : decode cL_law 284 = .ok (.invokevirtual 32, 3) := by decide +kernel
theorem dL_law_287 : decode cL_law 287 = .ok (.pop, 1) := by decide +kernel
theorem dL_law_288 : decode cL_law 288 = .ok (.aload_n 2, 1) := by decide +kernel
theorem dL_law_289 : decode cL_law 289 = .ok (.aload_n 0, 1) := by decide +kernel
theorem dL_law_290 : decode cL_law 290 = .ok (.iload_n 3, 1) := by decide +kernel
theorem dL_law_291 : decode cL_law 291 = .ok (.iconst 1, 1) := by decide +kernel
theorem dL_law_292 : decode cL_law 292 = .ok (.iadd, 1) := by decide +kernel
theorem dL_law_293 : decode cL_law 293 = .ok (.iaload, 1) := by decide +kernel
theorem dL_law_294 : decode cL_law 294 = .ok (.aload_n 0, 1) := by decide +kernel
theorem dL_law_295 : decode cL_law 295 = .ok (.iload_n 3, 1) := by decide +kernel
theorem dL_law_296 : decode cL_law 296 = .ok (.iconst 2, 1) := by decide +kernel
theorem dL_law_297 : decode cL_law 297 = .ok (.iadd, 1) := by decide +kernel
theorem dL_law_298 : decode cL_law 298 = .ok (.iaload, 1) := by decide +kernel
theorem dL_law_299 : decode cL_law 299 = .ok (.aload_n 0, 1) := by decide +kernel
theorem dL_law_300 : decode cL_law 300 = .ok (.iload_n 3, 1) := by decide +kernel
theorem dL_law_301 : decode cL_law 301 = .ok (.iconst 3, 1) := by decide +kernel
theorem dL_law_302 : decode cL_law 302 = .ok (.iadd, 1) := by decide +kernel
theorem dL_law_303 : decode cL_law 303 = .ok (.iaload, 1) := by decide +kernel
theorem dL_law_304 : decode cL_law 304 = .ok (.invokevirtual 36, 3) := by decide +kernel
theorem dL_law_307 : decode cL_law 307 = .ok (.pop, 1) := by decide +kernel
theorem dL_law_308 : decode cL_law 308 = .ok (.goto 664, 3) := by decide +kernel
theorem dL_law_311 : decode cL_law 311 = .ok (.aload_n 1, 1) := by decide +kernel
theorem dL_law_312 : decode cL_law 312 = .ok (.aload_n 0, 1) := by decide +kernel
theorem dL_law_313 : decode cL_law 313 = .ok (.iload_n 3, 1) := by decide +kernel
theorem dL_law_314 : decode cL_law 314 = .ok (.iconst 1, 1) := by decide +kernel
theorem dL_law_315 : decode cL_law 315 = .ok (.iadd, 1) := by decide +kernel
theorem dL_law_316 : decode cL_law 316 = .ok (.iaload, 1) := by decide +kernel
theorem dL_law_317 : decode cL_law 317 = .ok (.aload_n 0, 1) := by decide +kernel
theorem dL_law_318 : decode cL_law 318 = .ok (.iload_n 3, 1) := by decide +kernel
theorem dL_law_319 : decode cL_law 319 = .ok (.iconst 2, 1) := by decide +kernel
theorem dL_law_320 : decode cL_law 320 = .ok (.iadd, 1) := by decide +kernel
theorem dL_law_321 : decode cL_law 321 = .ok (.iaload, 1) := by decide +kernel
theorem dL_law_322 : decode cL_law 322 = .ok (.invokevirtual 37, 3) := by decide +kernel
theorem dL_law_325 : decode cL_law 325 = .ok (.pop2, 1) := by decide +kernel
theorem dL_law_326 : decode cL_law 326 = .ok (.aload_n 2, 1) := by decide +kernel
theorem dL_law_327 : decode cL_law 327 = .ok (.aload_n 0, 1) := by decide +kernel
theorem dL_law_328 : decode cL_law 328 = .ok (.iload_n 3, 1) := by decide +kernel
theorem dL_law_329 : decode cL_law 329 = .ok (.iconst 1, 1) := by decide +kernel
theorem dL_law_330 : decode cL_law 330 = .ok (.iadd, 1) := by decide +kernel
theorem dL_law_331 : decode cL_law 331 = .ok (.iaload, 1) := by decide +kernel
theorem dL_law_332 : decode cL_law 332 = .ok (.aload_n 0, 1) := by decide +kernel
theorem dL_law_333 : decode cL_law 333 = .ok (.iload_n 3, 1) := by decide +kernel
theorem dL_law_334 : decode cL_law 334 = .ok (.iconst 2, 1) := by decide +kernel
theorem dL_law_335 : decode cL_law 335 = .ok (.iadd, 1) := by decide +kernel
theorem dL_law_336 : decode cL_law 336 = .ok (.iaload, 1) := by decide +kernel
theorem dL_law_337 : decode cL_law 337 = .ok (.invokevirtual 41, 3) := by decide +kernel
theorem dL_law_340 : decode cL_law 340 = .ok (.pop2, 1) := by decide +kernel
theorem dL_law_341 : decode cL_law 341 = .ok (.goto 631, 3) := by decide +kernel
theorem dL_law_344 : decode cL_law 344 = .ok (.aload_n 1, 1) := by decide +kernel
theorem dL_law_345 : decode cL_law 345 = .ok (.aload_n 0, 1) := by decide +kernel
theorem dL_law_346 : decode cL_law 346 = .ok (.iload_n 3, 1) := by decide +kernel
theorem dL_law_347 : decode cL_law 347 = .ok (.iconst 1, 1) := by decide +kernel
theorem dL_law_348 : decode cL_law 348 = .ok (.iadd, 1) := by decide +kernel
theorem dL_law_349 : decode cL_law 349 = .ok (.iaload, 1) := by decide +kernel
theorem dL_law_350 : decode cL_law 350 = .ok (.invokevirtual 42, 3) := by decide +kernel
theorem dL_law_353 : decode cL_law 353 = .ok (.pop, 1) := by decide +kernel
theorem dL_law_354 : decode cL_law 354 = .ok (.aload_n 2, 1) := by decide +kernel
theorem dL_law_355 : decode cL_law 355 = .ok (.aload_n 0, 1) := by decide +kernel
theorem dL_law_356 : decode cL_law 356 = .ok (.iload_n 3, 1) := by decide +kernel
theorem dL_law_357 : decode cL_law 357 = .ok (.iconst 1, 1) := by decide +kernel
theorem dL_law_358 : decode cL_law 358 = .ok (.iadd, 1) := by decide +kernel
theorem dL_law_359 : decode cL_law 359 = .ok (.iaload, 1) := by decide +kernel
theorem dL_law_360 : decode cL_law 360 = .ok (.invokevirtual 45, 3) := by decide +kernel
theorem dL_law_363 : decode cL_law 363 = .ok (.pop, 1) := by decide +kernel
theorem dL_law_364 : decode cL_law 364 = .ok (.goto 608, 3) := by decide +kernel
theorem dL_law_367 : decode cL_law 367 = .ok (.aload_n 1, 1) := by decide +kernel
theorem dL_law_368 : decode cL_law 368 = .ok (.aload_n 0, 1) := by decide +kernel
theorem dL_law_369 : decode cL_law 369 = .ok (.iload_n 3, 1) := by decide +kernel
theorem dL_law_370 : decode cL_law 370 = .ok (.iconst 1, 1) := by decide +kernel
theorem dL_law_371 : decode cL_law 371 = .ok (.iadd, 1) := by decide +kernel
theorem dL_law_372 : decode cL_law 372 = .ok (.iaload, 1) := by decide +kernel
theorem dL_law_373 : decode cL_law 373 = .ok (.invokevirtual 46, 3) := by decide +kernel
theorem dL_law_376 : decode cL_law 376 = .ok (.pop, 1) := by decide +kernel
theorem dL_law_377 : decode cL_law 377 = .ok (.aload_n 2, 1) := by decide +kernel
theorem dL_law_378 : decode cL_law 378 = .ok (.aload_n 0, 1) := by decide +kernel
theorem dL_law_379 : decode cL_law 379 = .ok (.iload_n 3, 1) := by decide +kernel
theorem dL_law_380 : decode cL_law 380 = .ok (.iconst 1, 1) := by decide +kernel
theorem dL_law_381 : decode cL_law 381 = .ok (.iadd, 1) := by decide +kernel
theorem dL_law_382 : decode cL_law 382 = .ok (.iaload, 1) := by decide +kernel
theorem dL_law_383 : decode cL_law 383 = .ok (.invokevirtual 49, 3) := by decide +kernel
theorem dL_law_386 : decode cL_law 386 = .ok (.pop, 1) := by decide +kernel
theorem dL_law_387 : decode cL_law 387 = .ok (.goto 585, 3) := by decide +kernel
theorem dL_law_390 : decode cL_law 390 = .ok (.aload_n 1, 1) := by decide +kernel
theorem dL_law_391 : decode cL_law 391 = .ok (.aload_n 0, 1) := by decide +kernel
theorem dL_law_392 : decode cL_law 392 = .ok (.iload_n 3, 1) := by decide +kernel
theorem dL_law_393 : decode cL_law 393 = .ok (.iconst 1, 1) := by decide +kernel
theorem dL_law_394 : decode cL_law 394 = .ok (.iadd, 1) := by decide +kernel
theorem dL_law_395 : decode cL_law 395 = .ok (.iaload, 1) := by decide +kernel
theorem dL_law_396 : decode cL_law 396 = .ok (.aload_n 0, 1) := by decide +kernel
theorem dL_law_397 : decode cL_law 397 = .ok (.iload_n 3, 1) := by decide +kernel
theorem dL_law_398 : decode cL_law 398 = .ok (.iconst 2, 1) := by decide +kernel
theorem dL_law_399 : decode cL_law 399 = .ok (.iadd, 1) := by decide +kernel
theorem dL_law_400 : decode cL_law 400 = .ok (.iaload, 1) := by decide +kernel
theorem dL_law_401 : decode cL_law 401 = .ok (.aload_n 0, 1) := by decide +kernel
theorem dL_law_402 : decode cL_law 402 = .ok (.iload_n 3, 1) := by decide +kernel
theorem dL_law_403 : decode cL_law 403 = .ok (.iconst 3, 1) := by decide +kernel
theorem dL_law_404 : decode cL_law 404 = .ok (.iadd, 1) := by decide +kernel
theorem dL_law_405 : decode cL_law 405 = .ok (.iaload, 1) := by decide +kernel
theorem dL_law_406 : decode cL_law 406 = .ok (.aload_n 0, 1) := by decide +kernel
theorem dL_law_407 : decode cL_law 407 = .ok (.iload_n 3, 1) := by decide +kernel
theorem dL_law_408 : decode cL_law 408 = .ok (.iconst 4, 1) := by decide +kernel
theorem dL_law_409 : decode cL_law 409 = .ok (.iadd, 1) := by decide +kernel
theorem dL_law_410 : decode cL_law 410 = .ok (.iaload, 1) := by decide +kernel
theorem dL_law_411 : decode cL_law 411 = .ok (.i2l, 1) := by decide +kernel
theorem dL_law_412 : decode cL_law 412 = .ok (.bipush 32, 2) := by decide +kernel
theorem dL_law_414 : decode cL_law 414 = .ok (.lshl, 1) := by decide +kernel
theorem dL_law_415 : decode cL_law 415 = .ok (.aload_n 0, 1) := by decide +kernel
theorem dL_law_416 : decode cL_law 416 = .ok (.iload_n 3, 1) := by decide +kernel
theorem dL_law_417 : decode cL_law 417 = .ok (.iconst 5, 1) := by decide +kernel
theorem dL_law_418 : decode cL_law 418 = .ok (.iadd, 1) := by decide +kernel
theorem dL_law_419 : decode cL_law 419 = .ok (.iaload, 1) := by decide +kernel
theorem dL_law_420 : decode cL_law 420 = .ok (.i2l, 1) := by decide +kernel
theorem dL_law_421 : decode cL_law 421 = .ok (.ldc2_w 50, 3) := by decide +kernel
theorem dL_law_424 : decode cL_law 424 = .ok (.land, 1) := by decide +kernel
theorem dL_law_425 : decode cL_law 425 = .ok (.lor, 1) := by decide +kernel
theorem dL_law_426 : decode cL_law 426 = .ok (.invokevirtual 52, 3) := by decide +kernel
theorem dL_law_429 : decode cL_law 429 = .ok (.pop, 1) := by decide +kernel
theorem dL_law_430 : decode cL_law 430 = .ok (.aload_n 2, 1) := by decide +kernel
theorem dL_law_431 : decode cL_law 431 = .ok (.aload_n 0, 1) := by decide +kernel
theorem dL_law_432 : decode cL_law 432 = .ok (.iload_n 3, 1) := by decide +kernel
theorem dL_law_433 : decode cL_law 433 = .ok (.iconst 1, 1) := by decide +kernel
theorem dL_law_434 : decode cL_law 434 = .ok (.iadd, 1) := by decide +kernel
theorem dL_law_435 : decode cL_law 435 = .ok (.iaload, 1) := by decide +kernel
theorem dL_law_436 : decode cL_law 436 = .ok (.aload_n 0, 1) := by decide +kernel
theorem dL_law_437 : decode cL_law 437 = .ok (.iload_n 3, 1) := by decide +kernel
theorem dL_law_438 : decode cL_law 438 = .ok (.iconst 2, 1) := by decide +kernel
theorem dL_law_439 : decode cL_law 439 = .ok (.iadd, 1) := by decide +kernel
theorem dL_law_440 : decode cL_law 440 = .ok (.iaload, 1) := by decide +kernel
theorem dL_law_441 : decode cL_law 441 = .ok (.aload_n 0, 1) := by decide +kernel
theorem dL_law_442 : decode cL_law 442 = .ok (.iload_n 3, 1) := by decide +kernel
theorem dL_law_443 : decode cL_law 443 = .ok (.iconst 3, 1) := by decide +kernel
theorem dL_law_444 : decode cL_law 444 = .ok (.iadd, 1) := by decide +kernel
theorem dL_law_445 : decode cL_law 445 = .ok (.iaload, 1) := by decide +kernel
theorem dL_law_446 : decode cL_law 446 = .ok (.aload_n 0, 1) := by decide +kernel
theorem dL_law_447 : decode cL_law 447 = .ok (.iload_n 3, 1) := by decide +kernel
theorem dL_law_448 : decode cL_law 448 = .ok (.iconst 4, 1) := by decide +kernel
theorem dL_law_449 : decode cL_law 449 = .ok (.iadd, 1) := by decide +kernel
theorem dL_law_450 : decode cL_law 450 = .ok (.iaload, 1) := by decide +kernel
theorem dL_law_451 : decode cL_law 451 = .ok (.i2l, 1) := by decide +kernel
theorem dL_law_452 : decode cL_law 452 = .ok (.bipush 32, 2) := by decide +kernel
theorem dL_law_454 : decode cL_law 454 = .ok (.lshl, 1) := by decide +kernel
theorem dL_law_455 : decode cL_law 455 = .ok (.aload_n 0, 1) := by decide +kernel
theorem dL_law_456 : decode cL_law 456 = .ok (.iload_n 3, 1) := by decide +kernel
theorem dL_law_457 : decode cL_law 457 = .ok (.iconst 5, 1) := by decide +kernel
theorem dL_law_458 : decode cL_law 458 = .ok (.iadd, 1) := by decide +kernel
theorem dL_law_459 : decode cL_law 459 = .ok (.iaload, 1) := by decide +kernel
theorem dL_law_460 : decode cL_law 460 = .ok (.i2l, 1) := by decide +kernel
theorem dL_law_461 : decode cL_law 461 = .ok (.ldc2_w 50, 3) := by decide +kernel
theorem dL_law_464 : decode cL_law 464 = .ok (.land, 1) := by decide +kernel
theorem dL_law_465 : decode cL_law 465 = .ok (.lor, 1) := by decide +kernel
theorem dL_law_466 : decode cL_law 466 = .ok (.invokevirtual 56, 3) := by decide +kernel
theorem dL_law_469 : decode cL_law 469 = .ok (.pop, 1) := by decide +kernel
theorem dL_law_470 : decode cL_law 470 = .ok (.goto 502, 3) := by decide +kernel
theorem dL_law_473 : decode cL_law 473 = .ok (.aload_n 1, 1) := by decide +kernel
theorem dL_law_474 : decode cL_law 474 = .ok (.aload_n 0, 1) := by decide +kernel
theorem dL_law_475 : decode cL_law 475 = .ok (.iload_n 3, 1) := by decide +kernel
theorem dL_law_476 : decode cL_law 476 = .ok (.iconst 1, 1) := by decide +kernel
theorem dL_law_477 : decode cL_law 477 = .ok (.iadd, 1) := by decide +kernel
theorem dL_law_478 : decode cL_law 478 = .ok (.iaload, 1) := by decide +kernel
theorem dL_law_479 : decode cL_law 479 = .ok (.aload_n 0, 1) := by decide +kernel
theorem dL_law_480 : decode cL_law 480 = .ok (.iload_n 3, 1) := by decide +kernel
theorem dL_law_481 : decode cL_law 481 = .ok (.iconst 2, 1) := by decide +kernel
theorem dL_law_482 : decode cL_law 482 = .ok (.iadd, 1) := by decide +kernel
theorem dL_law_483 : decode cL_law 483 = .ok (.iaload, 1) := by decide +kernel
theorem dL_law_484 : decode cL_law 484 = .ok (.aload_n 0, 1) := by decide +kernel
theorem dL_law_485 : decode cL_law 485 = .ok (.iload_n 3, 1) := by decide +kernel
theorem dL_law_486 : decode cL_law 486 = .ok (.iconst 3, 1) := by decide +kernel
theorem dL_law_487 : decode cL_law 487 = .ok (.iadd, 1) := by decide +kernel
theorem dL_law_488 : decode cL_law 488 = .ok (.iaload, 1) := by decide +kernel
theorem dL_law_489 : decode cL_law 489 = .ok (.invokevirtual 57, 3) := by decide +kernel
theorem dL_law_492 : decode cL_law 492 = .ok (.pop, 1) := by decide +kernel
theorem dL_law_493 : decode cL_law 493 = .ok (.aload_n 2, 1) := by decide +kernel
theorem dL_law_494 : decode cL_law 494 = .ok (.aload_n 0, 1) := by decide +kernel
theorem dL_law_495 : decode cL_law 495 = .ok (.iload_n 3, 1) := by decide +kernel
theorem dL_law_496 : decode cL_law 496 = .ok (.iconst 1, 1) := by decide +kernel
theorem dL_law_497 : decode cL_law 497 = .ok (.iadd, 1) := by decide +kernel
theorem dL_law_498 : decode cL_law 498 = .ok (.iaload, 1) := by decide +kernel
theorem dL_law_499 : decode cL_law 499 = .ok (.aload_n 0, 1) := by decide +kernel
theorem dL_law_500 : decode cL_law 500 = .ok (.iload_n 3, 1) := by decide +kernel
theorem dL_law_501 : decode cL_law 501 = .ok (.iconst 2, 1) := by decide +kernel
theorem dL_law_502 : decode cL_law 502 = .ok (.iadd, 1) := by decide +kernel
theorem dL_law_503 : decode cL_law 503 = .ok (.iaload, 1) := by decide +kernel
theorem dL_law_504 : decode cL_law 504 = .ok (.aload_n 0, 1) := by decide +kernel
theorem dL_law_505 : decode cL_law 505 = .ok (.iload_n 3, 1) := by decide +kernel
theorem dL_law_506 : decode cL_law 506 = .ok (.iconst 3, 1) := by decide +kernel
theorem dL_law_507 : decode cL_law 507 = .ok (.iadd, 1) := by decide +kernel
theorem dL_law_508 : decode cL_law 508 = .ok (.iaload, 1) := by decide +kernel
theorem dL_law_509 : decode cL_law 509 = .ok (.invokevirtual 60, 3) := by decide +kernel
theorem dL_law_512 : decode cL_law 512 = .ok (.pop, 1) := by decide +kernel
theorem dL_law_513 : decode cL_law 513 = .ok (.goto 459, 3) := by decide +kernel
theorem dL_law_516 : decode cL_law 516 = .ok (.aload_n 1, 1) := by decide +kernel
theorem dL_law_517 : decode cL_law 517 = .ok (.aload_n 0, 1) := by decide +kernel
theorem dL_law_518 : decode cL_law 518 = .ok (.iload_n 3, 1) := by decide +kernel
theorem dL_law_519 : decode cL_law 519 = .ok (.iconst 1, 1) := by decide +kernel
theorem dL_law_520 : decode cL_law 520 = .ok (.iadd, 1) := by decide +kernel
theorem dL_law_521 : decode cL_law 521 = .ok (.iaload, 1) := by decide +kernel
theorem dL_law_522 : decode cL_law 522 = .ok (.aload_n 0, 1) := by decide +kernel
theorem dL_law_523 : decode cL_law 523 = .ok (.iload_n 3, 1) := by decide +kernel
theorem dL_law_524 : decode cL_law 524 = .ok (.iconst 2, 1) := by decide +kernel
theorem dL_law_525 : decode cL_law 525 = .ok (.iadd, 1) := by decide +kernel
theorem dL_law_526 : decode cL_law 526 = .ok (.iaload, 1) := by decide +kernel
theorem dL_law_527 : decode cL_law 527 = .ok (.aload_n 0, 1) := by decide +kernel
theorem dL_law_528 : decode cL_law 528 = .ok (.iload_n 3, 1) := by decide +kernel
theorem dL_law_529 : decode cL_law 529 = .ok (.iconst 3, 1) := by decide +kernel
theorem dL_law_530 : decode cL_law 530 = .ok (.iadd, 1) := by decide +kernel
theorem dL_law_531 : decode cL_law 531 = .ok (.iaload, 1) := by decide +kernel
theorem dL_law_532 : decode cL_law 532 = .ok (.aload_n 0, 1) := by decide +kernel
theorem dL_law_533 : decode cL_law 533 = .ok (.iload_n 3, 1) := by decide +kernel
theorem dL_law_534 : decode cL_law 534 = .ok (.iconst 4, 1) := by decide +kernel
theorem dL_law_535 : decode cL_law 535 = .ok (.iadd, 1) := by decide +kernel
theorem dL_law_536 : decode cL_law 536 = .ok (.iaload, 1) := by decide +kernel
theorem dL_law_537 : decode cL_law 537 = .ok (.invokevirtual 61, 3) := by decide +kernel
theorem dL_law_540 : decode cL_law 540 = .ok (.pop, 1) := by decide +kernel
theorem dL_law_541 : decode cL_law 541 = .ok (.aload_n 2, 1) := by decide +kernel
theorem dL_law_542 : decode cL_law 542 = .ok (.aload_n 0, 1) := by decide +kernel
theorem dL_law_543 : decode cL_law 543 = .ok (.iload_n 3, 1) := by decide +kernel
theorem dL_law_544 : decode cL_law 544 = .ok (.iconst 1, 1) := by decide +kernel
theorem dL_law_545 : decode cL_law 545 = .ok (.iadd, 1) := by decide +kernel
theorem dL_law_546 : decode cL_law 546 = .ok (.iaload, 1) := by decide +kernel
theorem dL_law_547 : decode cL_law 547 = .ok (.aload_n 0, 1) := by decide +kernel
theorem dL_law_548 : decode cL_law 548 = .ok (.iload_n 3, 1) := by decide +kernel
theorem dL_law_549 : decode cL_law 549 = .ok (.iconst 2, 1) := by decide +kernel
theorem dL_law_550 : decode cL_law 550 = .ok (.iadd, 1) := by decide +kernel
theorem dL_law_551 : decode cL_law 551 = .ok (.iaload, 1) := by decide +kernel
theorem dL_law_552 : decode cL_law 552 = .ok (.aload_n 0, 1) := by decide +kernel
theorem dL_law_553 : decode cL_law 553 = .ok (.iload_n 3, 1) := by decide +kernel
theorem dL_law_554 : decode cL_law 554 = .ok (.iconst 3, 1) := by decide +kernel
theorem dL_law_555 : decode cL_law 555 = .ok (.iadd, 1) := by decide +kernel
theorem dL_law_556 : decode cL_law 556 = .ok (.iaload, 1) := by decide +kernel
theorem dL_law_557 : decode cL_law 557 = .ok (.aload_n 0, 1) := by decide +kernel
theorem dL_law_558 : decode cL_law 558 = .ok (.iload_n 3, 1) := by decide +kernel
theorem dL_law_559 : decode cL_law 559 = .ok (.iconst 4, 1) := by decide +kernel
theorem dL_law_560 : decode cL_law 560 = .ok (.iadd, 1) := by decide +kernel
theorem dL_law_561 : decode cL_law 561 = .ok (.iaload, 1) := by decide +kernel
theorem dL_law_562 : decode cL_law 562 = .ok (.invokevirtual 65, 3) := by decide +kernel
theorem dL_law_565 : decode cL_law 565 = .ok (.pop, 1) := by decide +kernel
theorem dL_law_566 : decode cL_law 566 = .ok (.goto 406, 3) := by decide +kernel
theorem dL_law_569 : decode cL_law 569 = .ok (.aload_n 1, 1) := by decide +kernel
theorem dL_law_570 : decode cL_law 570 = .ok (.aload_n 0, 1) := by decide +kernel
theorem dL_law_571 : decode cL_law 571 = .ok (.iload_n 3, 1) := by decide +kernel
theorem dL_law_572 : decode cL_law 572 = .ok (.iconst 1, 1) := by decide +kernel
theorem dL_law_573 : decode cL_law 573 = .ok (.iadd, 1) := by decide +kernel
theorem dL_law_574 : decode cL_law 574 = .ok (.iaload, 1) := by decide +kernel
theorem dL_law_575 : decode cL_law 575 = .ok (.aload_n 0, 1) := by decide +kernel
theorem dL_law_576 : decode cL_law 576 = .ok (.iload_n 3, 1) := by decide +kernel
theorem dL_law_577 : decode cL_law 577 = .ok (.iconst 2, 1) := by decide +kernel
theorem dL_law_578 : decode cL_law 578 = .ok (.iadd, 1) := by decide +kernel
theorem dL_law_579 : decode cL_law 579 = .ok (.iaload, 1) := by decide +kernel
theorem dL_law_580 : decode cL_law 580 = .ok (.aload_n 0, 1) := by decide +kernel
theorem dL_law_581 : decode cL_law 581 = .ok (.iload_n 3, 1) := by decide +kernel
theorem dL_law_582 : decode cL_law 582 = .ok (.iconst 3, 1) := by decide +kernel
theorem dL_law_583 : decode cL_law 583 = .ok (.iadd, 1) := by decide +kernel
theorem dL_law_584 : decode cL_law 584 = .ok (.iaload, 1) := by decide +kernel
theorem dL_law_585 : decode cL_law 585 = .ok (.invokevirtual 66, 3) := by decide +kernel
theorem dL_law_588 : decode cL_law 588 = .ok (.pop, 1) := by decide +kernel
theorem dL_law_589 : decode cL_law 589 = .ok (.aload_n 2, 1) := by decide +kernel
theorem dL_law_590 : decode cL_law 590 = .ok (.aload_n 0, 1) := by decide +kernel
theorem dL_law_591 : decode cL_law 591 = .ok (.iload_n 3, 1) := by decide +kernel
theorem dL_law_592 : decode cL_law 592 = .ok (.iconst 1, 1) := by decide +kernel
theorem dL_law_593 : decode cL_law 593 = .ok (.iadd, 1) := by decide +kernel
theorem dL_law_594 : decode cL_law 594 = .ok (.iaload, 1) := by decide +kernel
theorem dL_law_595 : decode cL_law 595 = .ok (.aload_n 0, 1) := by decide +kernel
theorem dL_law_596 : decode cL_law 596 = .ok (.iload_n 3, 1) := by decide +kernel
theorem dL_law_597 : decode cL_law 597 = .ok (.iconst 2, 1) := by decide +kernel
theorem dL_law_598 : decode cL_law 598 = .ok (.iadd, 1) := by decide +kernel
theorem dL_law_599 : decode cL_law 599 = .ok (.iaload, 1) := by decide +kernel
theorem dL_law_600 : decode cL_law 600 = .ok (.aload_n 0, 1) := by decide +kernel
theorem dL_law_601 : decode cL_law 601 = .ok (.iload_n 3, 1) := by decide +kernel
theorem dL_law_602 : decode cL_law 602 = .ok (.iconst 3, 1) := by decide +kernel
theorem dL_law_603 : decode cL_law 603 = .ok (.iadd, 1) := by decide +kernel
theorem dL_law_604 : decode cL_law 604 = .ok (.iaload, 1) := by decide +kernel
theorem dL_law_605 : decode cL_law 605 = .ok (.invokevirtual 69, 3) := by decide +kernel
theorem dL_law_608 : decode cL_law 608 = .ok (.pop, 1) := by decide +kernel
theorem dL_law_609 : decode cL_law 609 = .ok (.goto 363, 3) := by decide +kernel
theorem dL_law_612 : decode cL_law 612 = .ok (.aload_n 1, 1) := by decide +kernel
theorem dL_law_613 : decode cL_law 613 = .ok (.aload_n 0, 1) := by decide +kernel
theorem dL_law_614 : decode cL_law 614 = .ok (.iload_n 3, 1) := by decide +kernel
theorem dL_law_615 : decode cL_law 615 = .ok (.iconst 1, 1) := by decide +kernel
theorem dL_law_616 : decode cL_law 616 = .ok (.iadd, 1) := by decide +kernel
theorem dL_law_617 : decode cL_law 617 = .ok (.iaload, 1) := by decide +kernel
theorem dL_law_618 : decode cL_law 618 = .ok (.aload_n 0, 1) := by decide +kernel
theorem dL_law_619 : decode cL_law 619 = .ok (.iload_n 3, 1) := by decide +kernel
theorem dL_law_620 : decode cL_law 620 = .ok (.iconst 2, 1) := by decide +kernel
theorem dL_law_621 : decode cL_law 621 = .ok (.iadd, 1) := by decide +kernel
theorem dL_law_622 : decode cL_law 622 = .ok (.iaload, 1) := by decide +kernel
theorem dL_law_623 : decode cL_law 623 = .ok (.invokevirtual 70, 3) := by decide +kernel
theorem dL_law_626 : decode cL_law 626 = .ok (.pop, 1) := by decide +kernel
theorem dL_law_627 : decode cL_law 627 = .ok (.aload_n 2, 1) := by decide +kernel
theorem dL_law_628 : decode cL_law 628 = .ok (.aload_n 0, 1) := by decide +kernel
theorem dL_law_629 : decode cL_law 629 = .ok (.iload_n 3, 1) := by decide +kernel
theorem dL_law_630 : decode cL_law 630 = .ok (.iconst 1, 1) := by decide +kernel
theorem dL_law_631 : decode cL_law 631 = .ok (.iadd, 1) := by decide +kernel
theorem dL_law_632 : decode cL_law 632 = .ok (.iaload, 1) := by decide +kernel
theorem dL_law_633 : decode cL_law 633 = .ok (.aload_n 0, 1) := by decide +kernel
theorem dL_law_634 : decode cL_law 634 = .ok (.iload_n 3, 1) := by decide +kernel
theorem dL_law_635 : decode cL_law 635 = .ok (.iconst 2, 1) := by decide +kernel
theorem dL_law_636 : decode cL_law 636 = .ok (.iadd, 1) := by decide +kernel
theorem dL_law_637 : decode cL_law 637 = .ok (.iaload, 1) := by decide +kernel
theorem dL_law_638 : decode cL_law 638 = .ok (.invokevirtual 74, 3) := by decide +kernel
theorem dL_law_641 : decode cL_law 641 = .ok (.pop, 1) := by decide +kernel
theorem dL_law_642 : decode cL_law 642 = .ok (.goto 330, 3) := by decide +kernel
theorem dL_law_645 : decode cL_law 645 = .ok (.aload_n 1, 1) := by decide +kernel
theorem dL_law_646 : decode cL_law 646 = .ok (.aload_n 0, 1) := by decide +kernel
theorem dL_law_647 : decode cL_law 647 = .ok (.iload_n 3, 1) := by decide +kernel
theorem dL_law_648 : decode cL_law 648 = .ok (.iconst 1, 1) := by decide +kernel
theorem dL_law_649 : decode cL_law 649 = .ok (.iadd, 1) := by decide +kernel
theorem dL_law_650 : decode cL_law 650 = .ok (.iaload, 1) := by decide +kernel
theorem dL_law_651 : decode cL_law 651 = .ok (.aload_n 0, 1) := by decide +kernel
theorem dL_law_652 : decode cL_law 652 = .ok (.iload_n 3, 1) := by decide +kernel
theorem dL_law_653 : decode cL_law 653 = .ok (.iconst 2, 1) := by decide +kernel
theorem dL_law_654 : decode cL_law 654 = .ok (.iadd, 1) := by decide +kernel
theorem dL_law_655 : decode cL_law 655 = .ok (.iaload, 1) := by decide +kernel
theorem dL_law_656 : decode cL_law 656 = .ok (.aload_n 0, 1) := by decide +kernel
theorem dL_law_657 : decode cL_law 657 = .ok (.iload_n 3, 1) := by decide +kernel
theorem dL_law_658 : decode cL_law 658 = .ok (.iconst 3, 1) := by decide +kernel
theorem dL_law_659 : decode cL_law 659 = .ok (.iadd, 1) := by decide +kernel
theorem dL_law_660 : decode cL_law 660 = .ok (.iaload, 1) := by decide +kernel
theorem dL_law_661 : decode cL_law 661 = .ok (.aload_n 0, 1) := by decide +kernel
theorem dL_law_662 : decode cL_law 662 = .ok (.iload_n 3, 1) := by decide +kernel
theorem dL_law_663 : decode cL_law 663 = .ok (.iconst 4, 1) := by decide +kernel
theorem dL_law_664 : decode cL_law 664 = .ok (.iadd, 1) := by decide +kernel
theorem dL_law_665 : decode cL_law 665 = .ok (.iaload, 1) := by decide +kernel
theorem dL_law_666 : decode cL_law 666 = .ok (.invokevirtual 75, 3) := by decide +kernel
theorem dL_law_669 : decode cL_law 669 = .ok (.pop2, 1) := by decide +kernel
theorem dL_law_670 : decode cL_law 670 = .ok (.aload_n 2, 1) := by decide +kernel
theorem dL_law_671 : decode cL_law 671 = .ok (.aload_n 0, 1) := by decide +kernel
theorem dL_law_672 : decode cL_law 672 = .ok (.iload_n 3, 1) := by decide +kernel
theorem dL_law_673 : decode cL_law 673 = .ok (.iconst 1, 1) := by decide +kernel
theorem dL_law_674 : decode cL_law 674 = .ok (.iadd, 1) := by decide +kernel
theorem dL_law_675 : decode cL_law 675 = .ok (.iaload, 1) := by decide +kernel
theorem dL_law_676 : decode cL_law 676 = .ok (.aload_n 0, 1) := by decide +kernel
theorem dL_law_677 : decode cL_law 677 = .ok (.iload_n 3, 1) := by decide +kernel
theorem dL_law_678 : decode cL_law 678 = .ok (.iconst 2, 1) := by decide +kernel
theorem dL_law_679 : decode cL_law 679 = .ok (.iadd, 1) := by decide +kernel
theorem dL_law_680 : decode cL_law 680 = .ok (.iaload, 1) := by decide +kernel
theorem dL_law_681 : decode cL_law 681 = .ok (.aload_n 0, 1) := by decide +kernel
theorem dL_law_682 : decode cL_law 682 = .ok (.iload_n 3, 1) := by decide +kernel
theorem dL_law_683 : decode cL_law 683 = .ok (.iconst 3, 1) := by decide +kernel
theorem dL_law_684 : decode cL_law 684 = .ok (.iadd, 1) := by decide +kernel
theorem dL_law_685 : decode cL_law 685 = .ok (.iaload, 1) := by decide +kernel
theorem dL_law_686 : decode cL_law 686 = .ok (.aload_n 0, 1) := by decide +kernel
theorem dL_law_687 : decode cL_law 687 = .ok (.iload_n 3, 1) := by decide +kernel
theorem dL_law_688 : decode cL_law 688 = .ok (.iconst 4, 1) := by decide +kernel
theorem dL_law_689 : decode cL_law 689 = .ok (.iadd, 1) := by decide +kernel
theorem dL_law_690 : decode cL_law 690 = .ok (.iaload, 1) := by decide +kernel
theorem dL_law_691 : decode cL_law 691 = .ok (.invokevirtual 79, 3) := by decide +kernel
theorem dL_law_694 : decode cL_law 694 = .ok (.pop2, 1) := by decide +kernel
theorem dL_law_695 : decode cL_law 695 = .ok (.goto 277, 3) := by decide +kernel
theorem dL_law_698 : decode cL_law 698 = .ok (.aload_n 1, 1) := by decide +kernel
theorem dL_law_699 : decode cL_law 699 = .ok (.aload_n 0, 1) := by decide +kernel
theorem dL_law_700 : decode cL_law 700 = .ok (.iload_n 3, 1) := by decide +kernel
theorem dL_law_701 : decode cL_law 701 = .ok (.iconst 1, 1) := by decide +kernel
theorem dL_law_702 : decode cL_law 702 = .ok (.iadd, 1) := by decide +kernel
theorem dL_law_703 : decode cL_law 703 = .ok (.iaload, 1) := by decide +kernel
theorem dL_law_704 : decode cL_law 704 = .ok (.aload_n 0, 1) := by decide +kernel
theorem dL_law_705 : decode cL_law 705 = .ok (.iload_n 3, 1) := by decide +kernel
theorem dL_law_706 : decode cL_law 706 = .ok (.iconst 2, 1) := by decide +kernel
theorem dL_law_707 : decode cL_law 707 = .ok (.iadd, 1) := by decide +kernel
theorem dL_law_708 : decode cL_law 708 = .ok (.iaload, 1) := by decide +kernel
theorem dL_law_709 : decode cL_law 709 = .ok (.invokevirtual 80, 3) := by decide +kernel
theorem dL_law_712 : decode cL_law 712 = .ok (.pop, 1) := by decide +kernel
theorem dL_law_713 : decode cL_law 713 = .ok (.aload_n 2, 1) := by decide +kernel
theorem dL_law_714 : decode cL_law 714 = .ok (.aload_n 0, 1) := by decide +kernel
theorem dL_law_715 : decode cL_law 715 = .ok (.iload_n 3, 1) := by decide +kernel
theorem dL_law_716 : decode cL_law 716 = .ok (.iconst 1, 1) := by decide +kernel
theorem dL_law_717 : decode cL_law 717 = .ok (.iadd, 1) := by decide +kernel
theorem dL_law_718 : decode cL_law 718 = .ok (.iaload, 1) := by decide +kernel
theorem dL_law_719 : decode cL_law 719 = .ok (.aload_n 0, 1) := by decide +kernel
theorem dL_law_720 : decode cL_law 720 = .ok (.iload_n 3, 1) := by decide +kernel
theorem dL_law_721 : decode cL_law 721 = .ok (.iconst 2, 1) := by decide +kernel
theorem dL_law_722 : decode cL_law 722 = .ok (.iadd, 1) := by decide +kernel
theorem dL_law_723 : decode cL_law 723 = .ok (.iaload, 1) := by decide +kernel
theorem dL_law_724 : decode cL_law 724 = .ok (.invokevirtual 83, 3) := by decide +kernel
theorem dL_law_727 : decode cL_law 727 = .ok (.pop, 1) := by decide +kernel
theorem dL_law_728 : decode cL_law 728 = .ok (.goto 244, 3) := by decide +kernel
theorem dL_law_731 : decode cL_law 731 = .ok (.aload_n 1, 1) := by decide +kernel
theorem dL_law_732 : decode cL_law 732 = .ok (.aload_n 0, 1) := by decide +kernel
theorem dL_law_733 : decode cL_law 733 = .ok (.iload_n 3, 1) := by decide +kernel
theorem dL_law_734 : decode cL_law 734 = .ok (.iconst 1, 1) := by decide +kernel
theorem dL_law_735 : decode cL_law 735 = .ok (.iadd, 1) := by decide +kernel
theorem dL_law_736 : decode cL_law 736 = .ok (.iaload, 1) := by decide +kernel
theorem dL_law_737 : decode cL_law 737 = .ok (.aload_n 0, 1) := by decide +kernel
theorem dL_law_738 : decode cL_law 738 = .ok (.iload_n 3, 1) := by decide +kernel
theorem dL_law_739 : decode cL_law 739 = .ok (.iconst 2, 1) := by decide +kernel
theorem dL_law_740 : decode cL_law 740 = .ok (.iadd, 1) := by decide +kernel
theorem dL_law_741 : decode cL_law 741 = .ok (.iaload, 1) := by decide +kernel
theorem dL_law_742 : decode cL_law 742 = .ok (.aload_n 0, 1) := by decide +kernel
theorem dL_law_743 : decode cL_law 743 = .ok (.iload_n 3, 1) := by decide +kernel
theorem dL_law_744 : decode cL_law 744 = .ok (.iconst 3, 1) := by decide +kernel
theorem dL_law_745 : decode cL_law 745 = .ok (.iadd, 1) := by decide +kernel
theorem dL_law_746 : decode cL_law 746 = .ok (.iaload, 1) := by decide +kernel
theorem dL_law_747 : decode cL_law 747 = .ok (.invokevirtual 84, 3) := by decide +kernel
theorem dL_law_750 : decode cL_law 750 = .ok (.pop, 1) := by decide +kernel
theorem dL_law_751 : decode cL_law 751 = .ok (.aload_n 2, 1) := by decide +kernel
theorem dL_law_752 : decode cL_law 752 = .ok (.aload_n 0, 1) := by decide +kernel
theorem dL_law_753 : decode cL_law 753 = .ok (.iload_n 3, 1) := by decide +kernel
theorem dL_law_754 : decode cL_law 754 = .ok (.iconst 1, 1) := by decide +kernel
theorem dL_law_755 : decode cL_law 755 = .ok (.iadd, 1) := by decide +kernel
theorem dL_law_756 : decode cL_law 756 = .ok (.iaload, 1) := by decide +kernel
theorem dL_law_757 : decode cL_law 757 = .ok (.aload_n 0, 1) := by decide +kernel
theorem dL_law_758 : decode cL_law 758 = .ok (.iload_n 3, 1) := by decide +kernel
theorem dL_law_759 : decode cL_law 759 = .ok (.iconst 2, 1) := by decide +kernel
theorem dL_law_760 : decode cL_law 760 = .ok (.iadd, 1) := by decide +kernel
theorem dL_law_761 : decode cL_law 761 = .ok (.iaload, 1) := by decide +kernel
theorem dL_law_762 : decode cL_law 762 = .ok (.aload_n 0, 1) := by decide +kernel
theorem dL_law_763 : decode cL_law 763 = .ok (.iload_n 3, 1) := by decide +kernel
theorem dL_law_764 : decode cL_law 764 = .ok (.iconst 3, 1) := by decide +kernel
theorem dL_law_765 : decode cL_law 765 = .ok (.iadd, 1) := by decide +kernel
theorem dL_law_766 : decode cL_law 766 = .ok (.iaload, 1) := by decide +kernel
theorem dL_law_767 : decode cL_law 767 = .ok (.invokevirtual 87, 3) := by decide +kernel
theorem dL_law_770 : decode cL_law 770 = .ok (.pop, 1) := by decide +kernel
theorem dL_law_771 : decode cL_law 771 = .ok (.goto 201, 3) := by decide +kernel
theorem dL_law_774 : decode cL_law 774 = .ok (.aload_n 1, 1) := by decide +kernel
theorem dL_law_775 : decode cL_law 775 = .ok (.aload_n 0, 1) := by decide +kernel
theorem dL_law_776 : decode cL_law 776 = .ok (.iload_n 3, 1) := by decide +kernel
theorem dL_law_777 : decode cL_law 777 = .ok (.iconst 1, 1) := by decide +kernel
theorem dL_law_778 : decode cL_law 778 = .ok (.iadd, 1) := by decide +kernel
theorem dL_law_779 : decode cL_law 779 = .ok (.iaload, 1) := by decide +kernel
theorem dL_law_780 : decode cL_law 780 = .ok (.aload_n 0, 1) := by decide +kernel
theorem dL_law_781 : decode cL_law 781 = .ok (.iload_n 3, 1) := by decide +kernel
theorem dL_law_782 : decode cL_law 782 = .ok (.iconst 2, 1) := by decide +kernel
theorem dL_law_783 : decode cL_law 783 = .ok (.iadd, 1) := by decide +kernel
theorem dL_law_784 : decode cL_law 784 = .ok (.iaload, 1) := by decide +kernel
theorem dL_law_785 : decode cL_law 785 = .ok (.invokevirtual 88, 3) := by decide +kernel
theorem dL_law_788 : decode cL_law 788 = .ok (.pop, 1) := by decide +kernel
theorem dL_law_789 : decode cL_law 789 = .ok (.aload_n 2, 1) := by decide +kernel
theorem dL_law_790 : decode cL_law 790 = .ok (.aload_n 0, 1) := by decide +kernel
theorem dL_law_791 : decode cL_law 791 = .ok (.iload_n 3, 1) := by decide +kernel
theorem dL_law_792 : decode cL_law 792 = .ok (.iconst 1, 1) := by decide +kernel
theorem dL_law_793 : decode cL_law 793 = .ok (.iadd, 1) := by decide +kernel
theorem dL_law_794 : decode cL_law 794 = .ok (.iaload, 1) := by decide +kernel
theorem dL_law_795 : decode cL_law 795 = .ok (.aload_n 0, 1) := by decide +kernel
theorem dL_law_796 : decode cL_law 796 = .ok (.iload_n 3, 1) := by decide +kernel
theorem dL_law_797 : decode cL_law 797 = .ok (.iconst 2, 1) := by decide +kernel
theorem dL_law_798 : decode cL_law 798 = .ok (.iadd, 1) := by decide +kernel
theorem dL_law_799 : decode cL_law 799 = .ok (.iaload, 1) := by decide +kernel
theorem dL_law_800 : decode cL_law 800 = .ok (.invokevirtual 91, 3) := by decide +kernel
theorem dL_law_803 : decode cL_law 803 = .ok (.pop, 1) := by decide +kernel
theorem dL_law_804 : decode cL_law 804 = .ok (.goto 168, 3) := by decide +kernel
theorem dL_law_807 : decode cL_law 807 = .ok (.aload_n 1, 1) := by decide +kernel
theorem dL_law_808 : decode cL_law 808 = .ok (.aload_n 0, 1) := by decide +kernel
theorem dL_law_809 : decode cL_law 809 = .ok (.iload_n 3, 1) := by decide +kernel
theorem dL_law_810 : decode cL_law 810 = .ok (.iconst 1, 1) := by decide +kernel
theorem dL_law_811 : decode cL_law 811 = .ok (.iadd, 1) := by decide +kernel
theorem dL_law_812 : decode cL_law 812 = .ok (.iaload, 1) := by decide +kernel
theorem dL_law_813 : decode cL_law 813 = .ok (.aload_n 0, 1) := by decide +kernel
theorem dL_law_814 : decode cL_law 814 = .ok (.iload_n 3, 1) := by decide +kernel
theorem dL_law_815 : decode cL_law 815 = .ok (.iconst 2, 1) := by decide +kernel
theorem dL_law_816 : decode cL_law 816 = .ok (.iadd, 1) := by decide +kernel
theorem dL_law_817 : decode cL_law 817 = .ok (.iaload, 1) := by decide +kernel
theorem dL_law_818 : decode cL_law 818 = .ok (.aload_n 0, 1) := by decide +kernel
theorem dL_law_819 : decode cL_law 819 = .ok (.iload_n 3, 1) := by decide +kernel
theorem dL_law_820 : decode cL_law 820 = .ok (.iconst 3, 1) := by decide +kernel
theorem dL_law_821 : decode cL_law 821 = .ok (.iadd, 1) := by decide +kernel
theorem dL_law_822 : decode cL_law 822 = .ok (.iaload, 1) := by decide +kernel
theorem dL_law_823 : decode cL_law 823 = .ok (.aload_n 0, 1) := by decide +kernel
theorem dL_law_824 : decode cL_law 824 = .ok (.iload_n 3, 1) := by decide +kernel
theorem dL_law_825 : decode cL_law 825 = .ok (.iconst 4, 1) := by decide +kernel
theorem dL_law_826 : decode cL_law 826 = .ok (.iadd, 1) := by decide +kernel
theorem dL_law_827 : decode cL_law 827 = .ok (.iaload, 1) := by decide +kernel
theorem dL_law_828 : decode cL_law 828 = .ok (.invokevirtual 92, 3) := by decide +kernel
theorem dL_law_831 : decode cL_law 831 = .ok (.pop, 1) := by decide +kernel
theorem dL_law_832 : decode cL_law 832 = .ok (.aload_n 2, 1) := by decide +kernel
theorem dL_law_833 : decode cL_law 833 = .ok (.aload_n 0, 1) := by decide +kernel
theorem dL_law_834 : decode cL_law 834 = .ok (.iload_n 3, 1) := by decide +kernel
theorem dL_law_835 : decode cL_law 835 = .ok (.iconst 1, 1) := by decide +kernel
theorem dL_law_836 : decode cL_law 836 = .ok (.iadd, 1) := by decide +kernel
theorem dL_law_837 : decode cL_law 837 = .ok (.iaload, 1) := by decide +kernel
theorem dL_law_838 : decode cL_law 838 = .ok (.aload_n 0, 1) := by decide +kernel
theorem dL_law_839 : decode cL_law 839 = .ok (.iload_n 3, 1) := by decide +kernel
theorem dL_law_840 : decode cL_law 840 = .ok (.iconst 2, 1) := by decide +kernel
theorem dL_law_841 : decode cL_law 841 = .ok (.iadd, 1) := by decide +kernel
theorem dL_law_842 : decode cL_law 842 = .ok (.iaload, 1) := by decide +kernel
theorem dL_law_843 : decode cL_law 843 = .ok (.aload_n 0, 1) := by decide +kernel
theorem dL_law_844 : decode cL_law 844 = .ok (.iload_n 3, 1) := by decide +kernel
theorem dL_law_845 : decode cL_law 845 = .ok (.iconst 3, 1) := by decide +kernel
theorem dL_law_846 : decode cL_law 846 = .ok (.iadd, 1) := by decide +kernel
theorem dL_law_847 : decode cL_law 847 = .ok (.iaload, 1) := by decide +kernel
theorem dL_law_848 : decode cL_law 848 = .ok (.aload_n 0, 1) := by decide +kernel
theorem dL_law_849 : decode cL_law 849 = .ok (.iload_n 3, 1) := by decide +kernel
theorem dL_law_850 : decode cL_law 850 = .ok (.iconst 4, 1) := by decide +kernel
theorem dL_law_851 : decode cL_law 851 = .ok (.iadd, 1) := by decide +kernel
theorem dL_law_852 : decode cL_law 852 = .ok (.iaload, 1) := by decide +kernel
theorem dL_law_853 : decode cL_law 853 = .ok (.invokevirtual 95, 3) := by decide +kernel
theorem dL_law_856 : decode cL_law 856 = .ok (.pop, 1) := by decide +kernel
theorem dL_law_857 : decode cL_law 857 = .ok (.goto 115, 3) := by decide +kernel
theorem dL_law_860 : decode cL_law 860 = .ok (.aload_n 1, 1) := by decide +kernel
theorem dL_law_861 : decode cL_law 861 = .ok (.aload_n 0, 1) := by decide +kernel
theorem dL_law_862 : decode cL_law 862 = .ok (.iload_n 3, 1) := by decide +kernel
theorem dL_law_863 : decode cL_law 863 = .ok (.iconst 1, 1) := by decide +kernel
theorem dL_law_864 : decode cL_law 864 = .ok (.iadd, 1) := by decide +kernel
theorem dL_law_865 : decode cL_law 865 = .ok (.iaload, 1) := by decide +kernel
theorem dL_law_866 : decode cL_law 866 = .ok (.aload_n 0, 1) := by decide +kernel
theorem dL_law_867 : decode cL_law 867 = .ok (.iload_n 3, 1) := by decide +kernel
theorem dL_law_868 : decode cL_law 868 = .ok (.iconst 2, 1) := by decide +kernel
theorem dL_law_869 : decode cL_law 869 = .ok (.iadd, 1) := by decide +kernel
theorem dL_law_870 : decode cL_law 870 = .ok (.iaload, 1) := by decide +kernel
theorem dL_law_871 : decode cL_law 871 = .ok (.invokevirtual 96, 3) := by decide +kernel
theorem dL_law_874 : decode cL_law 874 = .ok (.pop, 1) := by decide +kernel
theorem dL_law_875 : decode cL_law 875 = .ok (.aload_n 2, 1) := by decide +kernel
theorem dL_law_876 : decode cL_law 876 = .ok (.aload_n 0, 1) := by decide +kernel
theorem dL_law_877 : decode cL_law 877 = .ok (.iload_n 3, 1) := by decide +kernel
theorem dL_law_878 : decode cL_law 878 = .ok (.iconst 1, 1) := by decide +kernel
theorem dL_law_879 : decode cL_law 879 = .ok (.iadd, 1) := by decide +kernel
theorem dL_law_880 : decode cL_law 880 = .ok (.iaload, 1) := by decide +kernel
theorem dL_law_881 : decode cL_law 881 = .ok (.aload_n 0, 1) := by decide +kernel
theorem dL_law_882 : decode cL_law 882 = .ok (.iload_n 3, 1) := by decide +kernel
theorem dL_law_883 : decode cL_law 883 = .ok (.iconst 2, 1) := by decide +kernel
theorem dL_law_884 : decode cL_law 884 = .ok (.iadd, 1) := by decide +kernel
theorem dL_law_885 : decode cL_law 885 = .ok (.iaload, 1) := by decide +kernel
theorem dL_law_886 : decode cL_law 886 = .ok (.invokevirtual 99, 3) := by decide +kernel
theorem dL_law_889 : decode cL_law 889 = .ok (.pop, 1) := by decide +kernel
theorem dL_law_890 : decode cL_law 890 = .ok (.goto 82, 3) := by decide +kernel
theorem dL_law_893 : decode cL_law 893 = .ok (.aload_n 1, 1) := by decide +kernel
theorem dL_law_894 : decode cL_law 894 = .ok (.aload_n 0, 1) := by decide +kernel
theorem dL_law_895 : decode cL_law 895 = .ok (.iload_n 3, 1) := by decide +kernel
theorem dL_law_896 : decode cL_law 896 = .ok (.iconst 1, 1) := by decide +kernel
theorem dL_law_897 : decode cL_law 897 = .ok (.iadd, 1) := by decide +kernel
theorem dL_law_898 : decode cL_law 898 = .ok (.iaload, 1) := by decide +kernel
theorem dL_law_899 : decode cL_law 899 = .ok (.aload_n 0, 1) := by decide +kernel
theorem dL_law_900 : decode cL_law 900 = .ok (.iload_n 3, 1) := by decide +kernel
theorem dL_law_901 : decode cL_law 901 = .ok (.iconst 2, 1) := by decide +kernel
theorem dL_law_902 : decode cL_law 902 = .ok (.iadd, 1) := by decide +kernel
theorem dL_law_903 : decode cL_law 903 = .ok (.iaload, 1) := by decide +kernel
theorem dL_law_904 : decode cL_law 904 = .ok (.aload_n 0, 1) := by decide +kernel
theorem dL_law_905 : decode cL_law 905 = .ok (.iload_n 3, 1) := by decide +kernel
theorem dL_law_906 : decode cL_law 906 = .ok (.iconst 3, 1) := by decide +kernel
theorem dL_law_907 : decode cL_law 907 = .ok (.iadd, 1) := by decide +kernel
theorem dL_law_908 : decode cL_law 908 = .ok (.iaload, 1) := by decide +kernel
theorem dL_law_909 : decode cL_law 909 = .ok (.invokevirtual 100, 3) := by decide +kernel
theorem dL_law_912 : decode cL_law 912 = .ok (.pop, 1) := by decide +kernel
theorem dL_law_913 : decode cL_law 913 = .ok (.aload_n 2, 1) := by decide +kernel
theorem dL_law_914 : decode cL_law 914 = .ok (.aload_n 0, 1) := by decide +kernel
theorem dL_law_915 : decode cL_law 915 = .ok (.iload_n 3, 1) := by decide +kernel
theorem dL_law_916 : decode cL_law 916 = .ok (.iconst 1, 1) := by decide +kernel
theorem dL_law_917 : decode cL_law 917 = .ok (.iadd, 1) := by decide +kernel
theorem dL_law_918 : decode cL_law 918 = .ok (.iaload, 1) := by decide +kernel
theorem dL_law_919 : decode cL_law 919 = .ok (.aload_n 0, 1) := by decide +kernel
theorem dL_law_920 : decode cL_law 920 = .ok (.iload_n 3, 1) := by decide +kernel
theorem dL_law_921 : decode cL_law 921 = .ok (.iconst 2, 1) := by decide +kernel
theorem dL_law_922 : decode cL_law 922 = .ok (.iadd, 1) := by decide +kernel
theorem dL_law_923 : decode cL_law 923 = .ok (.iaload, 1) := by decide +kernel
theorem dL_law_924 : decode cL_law 924 = .ok (.aload_n 0, 1) := by decide +kernel
theorem dL_law_925 : decode cL_law 925 = .ok (.iload_n 3, 1) := by decide +kernel
theorem dL_law_926 : decode cL_law 926 = .ok (.iconst 3, 1) := by decide +kernel
theorem dL_law_927 : decode cL_law 927 = .ok (.iadd, 1) := by decide +kernel
theorem dL_law_928 : decode cL_law 928 = .ok (.iaload, 1) := by decide +kernel
theorem dL_law_929 : decode cL_law 929 = .ok (.invokevirtual 103, 3) := by decide +kernel
theorem dL_law_932 : decode cL_law 932 = .ok (.pop, 1) := by decide +kernel
theorem dL_law_933 : decode cL_law 933 = .ok (.goto 39, 3) := by decide +kernel
theorem dL_law_936 : decode cL_law 936 = .ok (.aload_n 1, 1) := by decide +kernel
theorem dL_law_937 : decode cL_law 937 = .ok (.invokevirtual 104, 3) := by decide +kernel
theorem dL_law_940 : decode cL_law 940 = .ok (.pop, 1) := by decide +kernel
theorem dL_law_941 : decode cL_law 941 = .ok (.aload_n 2, 1) := by decide +kernel
theorem dL_law_942 : decode cL_law 942 = .ok (.invokevirtual 108, 3) := by decide +kernel
theorem dL_law_945 : decode cL_law 945 = .ok (.pop, 1) := by decide +kernel
theorem dL_law_946 : decode cL_law 946 = .ok (.goto 26, 3) := by decide +kernel
theorem dL_law_949 : decode cL_law 949 = .ok (.aload_n 1, 1) := by decide +kernel
theorem dL_law_950 : decode cL_law 950 = .ok (.aload_n 0, 1) := by decide +kernel
theorem dL_law_951 : decode cL_law 951 = .ok (.iload_n 3, 1) := by decide +kernel
theorem dL_law_952 : decode cL_law 952 = .ok (.iconst 1, 1) := by decide +kernel
theorem dL_law_953 : decode cL_law 953 = .ok (.iadd, 1) := by decide +kernel
theorem dL_law_954 : decode cL_law 954 = .ok (.iaload, 1) := by decide +kernel
theorem dL_law_955 : decode cL_law 955 = .ok (.invokevirtual 109, 3) := by decide +kernel
theorem dL_law_958 : decode cL_law 958 = .ok (.aload_n 2, 1) := by decide +kernel
theorem dL_law_959 : decode cL_law 959 = .ok (.aload_n 0, 1) := by decide +kernel
theorem dL_law_960 : decode cL_law 960 = .ok (.iload_n 3, 1) := by decide +kernel
theorem dL_law_961 : decode cL_law 961 = .ok (.iconst 1, 1) := by decide +kernel
theorem dL_law_962 : decode cL_law 962 = .ok (.iadd, 1) := by decide +kernel
theorem dL_law_963 : decode cL_law 963 = .ok (.iaload, 1) := by decide +kernel
theorem dL_law_964 : decode cL_law 964 = .ok (.invokevirtual 112, 3) := by decide +kernel
theorem dL_law_967 : decode cL_law 967 = .ok (.if_icmp .eq 5, 3) := by decide +kernel
theorem dL_law_970 : decode cL_law 970 = .ok (.iconst 0, 1) := by decide +kernel
theorem dL_law_971 : decode cL_law 971 = .ok (.ireturn, 1) := by decide +kernel
theorem dL_law_972 : decode cL_law 972 = .ok (.iinc 3 6, 3) := by decide +kernel
theorem dL_law_975 : decode cL_law 975 = .ok (.goto (-957), 3) := by decide +kernel
noncomputable def lawF_0 (L : Nat) (xs : Nat → Int32) (K : Int32 → CS → RS → Option Int32) (i : Int32) (c0 : CS) (r0 : RS) : Option Int32 := gd (vp_in (i + 1) L) (gd (vp_in (i + 2) L) (gd (vp_in (i + 3) L) (gd (vp_in (i + 4) L) (gd (vp_in (i + 5) L) (gd (qk c0 32 = 11) (bnd (fX8_feed 32 (xs (i + 1).toNatClampNeg) (xs (i + 2).toNatClampNeg) (xs (i + 3).toNatClampNeg) (xs (i + 4).toNatClampNeg) (xs (i + 5).toNatClampNeg) c0) (fun r_7 c_8 => gd (vp_in (i + 1) L) (gd (vp_in (i + 2) L) (gd (vp_in (i + 3) L) (gd (vp_in (i + 4) L) (gd (vp_in (i + 5) L) (bnd (x9_feed (xs (i + 1).toNatClampNeg) (xs (i + 2).toNatClampNeg) (xs (i + 3).toNatClampNeg) (xs (i + 4).toNatClampNeg) (xs (i + 5).toNatClampNeg) r0) (fun r_16 q_17 => nam (i + 6) (fun v_18 => K v_18 c_8 q_17))))))))))))))
set_option maxHeartbeats 4000000 in
set_option maxRecDepth 100000 in
theorem law_0 (l : Launch) {p : Program} {e : Env} {s : State} {m : MethodId} {below : List Frame} {meth : Method} {c : Code} {b L : Nat} {xs : Nat → Int32} {A : Nat → Prop} (C0 : lw_At p s m meth c b L xs) (hts : ∀ w ∈ lwT, w.before #[Value.ref b] s = true) (hA : ∀ q : Nat, s.heap.size ≤ q → A q) (hbA : ¬ A b) (dC : Nat → ClassId) (dI : Nat → Nat → Nat) (ka ad : Nat → Nat) (ct : Nat → ClassId) (h : Nat) (a : Nat → Nat) (ca : Nat → ClassId) (had : ∀ i, 32 ≤ i → ad i = s.heap.size + (i - 32)) (hK1 : va_K (dC, dI) vwCl (cT ct) s) (hK2 : va_K (dC, dI) vwCl (rT ca) s) (hN : NX s) (hZ : cz A s s.heap) (hC : kS ka A s s.heap) (hR : kR ka s) (hL : kL s) (K : Int32 → CS → RS → Option Int32) (hKW : ∀ (i : Int32) (c0 : CS) (r0 : RS), K i c0 r0 = some 1 → ∀ (H : Heap) (locs : List Loc) (ls : Array Slot), Lp (dC, dI) ka ad ct h a ca A s.heap c0 r0 H locs → (qn c0 ≤ 600000 ∧ qs c0 ≤ 7000000) → lv_has ls 4 [(0, .ref b), (1, .ref (ad 32)), (2, .ref h), (3, .int i)] → W p l e room_1 s m #[Value.ref b] below meth c H locs (qn c0 - 32) (qs c0 + 9895) (lw_Z below #[Value.ref b] s) (F0 m 18 ls [])) (i : Int32) (c0 : CS) (r0 : RS) (hf : lawF_0 L xs K i c0 r0 = some 1) (H : Heap) (locs : List Loc) (ls : Array Slot) (hp : Lp (dC, dI) ka ad ct h a ca A s.heap c0 r0 H locs) (hbd : qn c0 ≤ 600000 ∧ qs c0 ≤ 7000000) (hl : lv_has ls 4 [(0, .ref b), (1, .ref (ad 32)), (2, .ref h), (3, .int i)]) : W p l e room_1 s m #[Value.ref b] below meth c H locs (qn c0 - 32) (qs c0 + 9895) (lw_Z below #[Value.ref b] s) (F0 m 136 ls []) := by
  obtain ⟨hx, hb, hr, hml, hown, -, hX, hbl, hlocks, hgv⟩ := C0
  unfold lawF_0 at hf
  refine lv_aload_n hx hb dL_law_136 rfl (lv_at hl 1 rfl) ?_
  refine lv_aload_n hx hb dL_law_137 rfl (lv_at hl 0 rfl) ?_
  refine lv_iload_n hx hb dL_law_138 rfl (lv_at hl 3 rfl) ?_
  refine lv_iconst (v := 1) hx hb dL_law_139 (by decide) ?_
  refine lv_iadd hx hb dL_law_140 ?_
  obtain ⟨g_1, hf⟩ := gd_some hf
  refine va_sld hx hb hX hbl hbA hp.1.2.1 g_1 dL_law_141 ?_
  refine lv_aload_n hx hb dL_law_142 rfl (lv_at hl 0 rfl) ?_
  refine lv_iload_n hx hb dL_law_143 rfl (lv_at hl 3 rfl) ?_
  refine lv_iconst (v := 2) hx hb dL_law_144 (by decide) ?_
  refine lv_iadd hx hb dL_law_145 ?_
  obtain ⟨g_2, hf⟩ := gd_some hf
  refine va_sld hx hb hX hbl hbA hp.1.2.1 g_2 dL_law_146 ?_
  refine lv_aload_n hx hb dL_law_147 rfl (lv_at hl 0 rfl) ?_
  refine lv_iload_n hx hb dL_law_148 rfl (lv_at hl 3 rfl) ?_
  refine lv_iconst (v := 3) hx hb dL_law_149 (by decide) ?_
  refine lv_iadd hx hb dL_law_150 ?_
  obtain ⟨g_3, hf⟩ := gd_some hf
  refine va_sld hx hb hX hbl hbA hp.1.2.1 g_3 dL_law_151 ?_
  refine lv_aload_n hx hb dL_law_152 rfl (lv_at hl 0 rfl) ?_
  refine lv_iload_n hx hb dL_law_153 rfl (lv_at hl 3 rfl) ?_
  refine lv_iconst (v := 4) hx hb dL_law_154 (by decide) ?_
  refine lv_iadd hx hb dL_law_155 ?_
  obtain ⟨g_4, hf⟩ := gd_some hf
  refine va_sld hx hb hX hbl hbA hp.1.2.1 g_4 dL_law_156 ?_
  refine lv_aload_n hx hb dL_law_157 rfl (lv_at hl 0 rfl) ?_
  refine lv_iload_n hx hb dL_law_158 rfl (lv_at hl 3 rfl) ?_
  refine lv_iconst (v := 5) hx hb dL_law_159 (by decide) ?_
  refine lv_iadd hx hb dL_law_160 ?_
  obtain ⟨g_5, hf⟩ := gd_some hf
  refine va_sld hx hb hX hbl hbA hp.1.2.1 g_5 dL_law_161 ?_
  obtain ⟨hk_9, hf⟩ := gd_some hf
  obtain ⟨r_7, c_8, hc_6, hf⟩ := bnd_some hf
  have h32 := hp.1.2.2.1.1
  refine l_ci hp hA (mo_X8_feed 32 (xs (i + 1).toNatClampNeg) (xs (i + 2).toNatClampNeg) (xs (i + 3).toNatClampNeg) (xs (i + 4).toNatClampNeg) (xs (i + 5).toNatClampNeg) _ _ _ hc_6).mo (va_runV (As := [.int (xs (i + 1).toNatClampNeg), .int (xs (i + 2).toNatClampNeg), .int (xs (i + 3).toNatClampNeg), .int (xs (i + 4).toNatClampNeg), .int (xs (i + 5).toNatClampNeg)]) (rest := []) ⟨hx, hb, hml, hown, hts⟩ (c_X8_feed l dC dI ka ad ct 32 (xs (i + 1).toNatClampNeg) (xs (i + 2).toNatClampNeg) (xs (i + 3).toNatClampNeg) (xs (i + 4).toNatClampNeg) (xs (i + 5).toNatClampNeg) _ _ _ hc_6 _) (cwV 5 hts gl_X8_feed_13 rfl rfl rfl (by decide +kernel) ⟨Nat.le_of_ble_eq_true rfl, Nat.le_of_ble_eq_true rfl⟩) ⟨PrC.blind _, q_recv (ci := 10) hK1 hp.1 hC hk_9 (by decide) rfl (fun h => absurd h (by decide)), q_pre hp.1 hK1 hN hZ hC hR hL hA⟩ rfl rfl hl.1 rfl (lv_room (Nat.le_of_ble_eq_true rfl)) dL_law_162 ⟨by show qn c0 - 32 + 0 ≤ 600000; have := hbd.1; omega, by show qs c0 + 9895 + 0 ≤ 7302250; have := hbd.2; omega⟩) (fun H locs hp => ?_)
  refine W.widen (k := qn c_8 - 32) (n := qs c_8 + 9895) (by have := (mo_X8_feed 32 (xs (i + 1).toNatClampNeg) (xs (i + 2).toNatClampNeg) (xs (i + 3).toNatClampNeg) (xs (i + 4).toNatClampNeg) (xs (i + 5).toNatClampNeg) _ _ _ hc_6).1; omega) (by have := (mo_X8_feed 32 (xs (i + 1).toNatClampNeg) (xs (i + 2).toNatClampNeg) (xs (i + 3).toNatClampNeg) (xs (i + 4).toNatClampNeg) (xs (i + 5).toNatClampNeg) _ _ _ hc_6).2.1; omega) ?_
  have hbd : qn c_8 ≤ 600000 ∧ qs c_8 ≤ 7000000 := by rw [(mo_X8_feed 32 (xs (i + 1).toNatClampNeg) (xs (i + 2).toNatClampNeg) (xs (i + 3).toNatClampNeg) (xs (i + 4).toNatClampNeg) (xs (i + 5).toNatClampNeg) _ _ _ hc_6).1, (mo_X8_feed 32 (xs (i + 1).toNatClampNeg) (xs (i + 2).toNatClampNeg) (xs (i + 3).toNatClampNeg) (xs (i + 4).toNatClampNeg) (xs (i + 5).toNatClampNeg) _ _ _ hc_6).2.1]; exact hbd
  refine lv_pop hx hb dL_law_165 rfl ?_
  refine lv_aload_n hx hb dL_law_166 rfl (lv_at hl 2 rfl) ?_
  refine lv_aload_n hx hb dL_law_167 rfl (lv_at hl 0 rfl) ?_
  refine lv_iload_n hx hb dL_law_168 rfl (lv_at hl 3 rfl) ?_
  refine lv_iconst (v := 1) hx hb dL_law_169 (by decide) ?_
  refine lv_iadd hx hb dL_law_170 ?_
  obtain ⟨g_10, hf⟩ := gd_some hf
  refine va_sld hx hb hX hbl hbA hp.1.2.1 g_10 dL_law_171 ?_
  refine lv_aload_n hx hb dL_law_172 rfl (lv_at hl 0 rfl) ?_
  refine lv_iload_n hx hb dL_law_173 rfl (lv_at hl 3 rfl) ?_
  refine lv_iconst (v := 2) hx hb dL_law_174 (by decide) ?_
  refine lv_iadd hx hb dL_law_175 ?_
  obtain ⟨g_11, hf⟩ := gd_some hf
  refine va_sld hx hb hX hbl hbA hp.1.2.1 g_11 dL_law_176 ?_
  refine lv_aload_n hx hb dL_law_177 rfl (lv_at hl 0 rfl) ?_
  refine lv_iload_n hx hb dL_law_178 rfl (lv_at hl 3 rfl) ?_
  refine lv_iconst (v := 3) hx hb dL_law_179 (by decide) ?_
  refine lv_iadd hx hb dL_law_180 ?_
  obtain ⟨g_12, hf⟩ := gd_some hf
  refine va_sld hx hb hX hbl hbA hp.1.2.1 g_12 dL_law_181 ?_
  refine lv_aload_n hx hb dL_law_182 rfl (lv_at hl 0 rfl) ?_
  refine lv_iload_n hx hb dL_law_183 rfl (lv_at hl 3 rfl) ?_
  refine lv_iconst (v := 4) hx hb dL_law_184 (by decide) ?_
  refine lv_iadd hx hb dL_law_185 ?_
  obtain ⟨g_13, hf⟩ := gd_some hf
  refine va_sld hx hb hX hbl hbA hp.1.2.1 g_13 dL_law_186 ?_
  refine lv_aload_n hx hb dL_law_187 rfl (lv_at hl 0 rfl) ?_
  refine lv_iload_n hx hb dL_law_188 rfl (lv_at hl 3 rfl) ?_
  refine lv_iconst (v := 5) hx hb dL_law_189 (by decide) ?_
  refine lv_iadd hx hb dL_law_190 ?_
  obtain ⟨g_14, hf⟩ := gd_some hf
  refine va_sld hx hb hX hbl hbA hp.1.2.1 g_14 dL_law_191 ?_
  obtain ⟨r_16, q_17, hc_15, hf⟩ := bnd_some hf
  refine l_ri hp hA (Lp.sz had hp) (va_runV (As := [.int (xs (i + 1).toNatClampNeg), .int (xs (i + 2).toNatClampNeg), .int (xs (i + 3).toNatClampNeg), .int (xs (i + 4).toNatClampNeg), .int (xs (i + 5).toNatClampNeg)]) (rest := []) ⟨hx, hb, hml, hown, hts⟩ (c_X9_feed l dC dI h a ca (xs (i + 1).toNatClampNeg) (xs (i + 2).toNatClampNeg) (xs (i + 3).toNatClampNeg) (xs (i + 4).toNatClampNeg) (xs (i + 5).toNatClampNeg) _ _ _ hc_15 _) (cwV 5 hts gl_X9_feed_17 rfl rfl rfl (by decide +kernel) ⟨Nat.le_of_ble_eq_true rfl, Nat.le_of_ble_eq_true rfl⟩) ⟨Pr.blind _, va_recv hK2 hp.2.1.1 (ci := 11) (q0 := 0) rfl rfl, r_pre hp.2.1 hK2 hN hZ hA⟩ rfl rfl hl.1 rfl (lv_room (Nat.le_of_ble_eq_true rfl)) dL_law_192 ⟨by show qn c_8 - 32 + 0 ≤ 600000; have := hbd.1; omega, by show qs c_8 + 9895 + 0 ≤ 7302250; have := hbd.2; omega⟩) (fun H locs hsz hp => ?_)
  refine lv_pop hx hb dL_law_195 rfl ?_
  refine lv_goto (tgt := 972) hx hb dL_law_196 (by decide) ?_
  obtain ⟨v_18, ev_18, hf⟩ := nam_some hf
  refine lv_iinc (v := v_18) (lv' := [(3, .int v_18), (0, .ref b), (1, .ref (ad 32)), (2, .ref h)]) hx hb dL_law_972 hl (k := 3) rfl ev_18.symm (by decide) rfl (fun ls hl => ?_)
  refine lv_goto (tgt := 18) hx hb dL_law_975 (by decide) ?_
  exact hKW v_18 c_8 q_17 hf _ _ _ hp hbd (lv_sub hl [1, 2, 3, 0] rfl)
noncomputable def lawF_1 (L : Nat) (xs : Nat → Int32) (K : Int32 → CS → RS → Option Int32) (i : Int32) (c0 : CS) (r0 : RS) : Option Int32 := gd (vp_in (i + 1) L) (gd (qk c0 32 = 11) (bnd (fX8_end 32 (xs (i + 1).toNatClampNeg) c0) (fun r_21 c_22 => gd (vp_in (i + 1) L) (bnd (x9_end (xs (i + 1).toNatClampNeg) r0) (fun r_26 q_27 => nam (i + 6) (fun v_28 => K v_28 c_22 q_27))))))
set_option maxHeartbeats 4000000 in
set_option maxRecDepth 100000 in
theorem law_1 (l : Launch) {p : Program} {e : Env} {s : State} {m : MethodId} {below : List Frame} {meth : Method} {c : Code} {b L : Nat} {xs : Nat → Int32} {A : Nat → Prop} (C0 : lw_At p s m meth c b L xs) (hts : ∀ w ∈ lwT, w.before #[Value.ref b] s = true) (hA : ∀ q : Nat, s.heap.size ≤ q → A q) (hbA : ¬ A b) (dC : Nat → ClassId) (dI : Nat → Nat → Nat) (ka ad : Nat → Nat) (ct : Nat → ClassId) (h : Nat) (a : Nat → Nat) (ca : Nat → ClassId) (had : ∀ i, 32 ≤ i → ad i = s.heap.size + (i - 32)) (hK1 : va_K (dC, dI) vwCl (cT ct) s) (hK2 : va_K (dC, dI) vwCl (rT ca) s) (hN : NX s) (hZ : cz A s s.heap) (hC : kS ka A s s.heap) (hR : kR ka s) (hL : kL s) (K : Int32 → CS → RS → Option Int32) (hKW : ∀ (i : Int32) (c0 : CS) (r0 : RS), K i c0 r0 = some 1 → ∀ (H : Heap) (locs : List Loc) (ls : Array Slot), Lp (dC, dI) ka ad ct h a ca A s.heap c0 r0 H locs → (qn c0 ≤ 600000 ∧ qs c0 ≤ 7000000) → lv_has ls 4 [(0, .ref b), (1, .ref (ad 32)), (2, .ref h), (3, .int i)] → W p l e room_1 s m #[Value.ref b] below meth c H locs (qn c0 - 32) (qs c0 + 9895) (lw_Z below #[Value.ref b] s) (F0 m 18 ls [])) (i : Int32) (c0 : CS) (r0 : RS) (hf : lawF_1 L xs K i c0 r0 = some 1) (H : Heap) (locs : List Loc) (ls : Array Slot) (hp : Lp (dC, dI) ka ad ct h a ca A s.heap c0 r0 H locs) (hbd : qn c0 ≤ 600000 ∧ qs c0 ≤ 7000000) (hl : lv_has ls 4 [(0, .ref b), (1, .ref (ad 32)), (2, .ref h), (3, .int i)]) : W p l e room_1 s m #[Value.ref b] below meth c H locs (qn c0 - 32) (qs c0 + 9895) (lw_Z below #[Value.ref b] s) (F0 m 199 ls []) := by
  obtain ⟨hx, hb, hr, hml, hown, -, hX, hbl, hlocks, hgv⟩ := C0
  unfold lawF_1 at hf
  refine lv_aload_n hx hb dL_law_199 rfl (lv_at hl 1 rfl) ?_
  refine lv_aload_n hx hb dL_law_200 rfl (lv_at hl 0 rfl) ?_
  refine lv_iload_n hx hb dL_law_201 rfl (lv_at hl 3 rfl) ?_
  refine lv_iconst (v := 1) hx hb dL_law_202 (by decide) ?_
  refine lv_iadd hx hb dL_law_203 ?_
  obtain ⟨g_19, hf⟩ := gd_some hf
  refine va_sld hx hb hX hbl hbA hp.1.2.1 g_19 dL_law_204 ?_
  obtain ⟨hk_23, hf⟩ := gd_some hf
  obtain ⟨r_21, c_22, hc_20, hf⟩ := bnd_some hf
  have h32 := hp.1.2.2.1.1
  refine l_ci hp hA (mo_X8_end 32 (xs (i + 1).toNatClampNeg) _ _ _ hc_20).mo (va_runV (As := [.int (xs (i + 1).toNatClampNeg)]) (rest := []) ⟨hx, hb, hml, hown, hts⟩ (c_X8_end l dC dI ka ad ct 32 (xs (i + 1).toNatClampNeg) _ _ _ hc_20 _) (cwV 1 hts gl_X8_end_18 rfl rfl rfl (by decide +kernel) ⟨Nat.le_of_ble_eq_true rfl, Nat.le_of_ble_eq_true rfl⟩) ⟨PrC.blind _, q_recv (ci := 10) hK1 hp.1 hC hk_23 (by decide) rfl (fun h => absurd h (by decide)), q_pre hp.1 hK1 hN hZ hC hR hL hA⟩ rfl rfl hl.1 rfl (lv_room (Nat.le_of_ble_eq_true rfl)) dL_law_205 ⟨by show qn c0 - 32 + 0 ≤ 600000; have := hbd.1; omega, by show qs c0 + 9895 + 0 ≤ 7302250; have := hbd.2; omega⟩) (fun H locs hp => ?_)
  refine W.widen (k := qn c_22 - 32) (n := qs c_22 + 9895) (by have := (mo_X8_end 32 (xs (i + 1).toNatClampNeg) _ _ _ hc_20).1; omega) (by have := (mo_X8_end 32 (xs (i + 1).toNatClampNeg) _ _ _ hc_20).2.1; omega) ?_
  have hbd : qn c_22 ≤ 600000 ∧ qs c_22 ≤ 7000000 := by rw [(mo_X8_end 32 (xs (i + 1).toNatClampNeg) _ _ _ hc_20).1, (mo_X8_end 32 (xs (i + 1).toNatClampNeg) _ _ _ hc_20).2.1]; exact hbd
  refine lv_pop hx hb dL_law_208 rfl ?_
  refine lv_aload_n hx hb dL_law_209 rfl (lv_at hl 2 rfl) ?_
  refine lv_aload_n hx hb dL_law_210 rfl (lv_at hl 0 rfl) ?_
  refine lv_iload_n hx hb dL_law_211 rfl (lv_at hl 3 rfl) ?_
  refine lv_iconst (v := 1) hx hb dL_law_212 (by decide) ?_
  refine lv_iadd hx hb dL_law_213 ?_
  obtain ⟨g_24, hf⟩ := gd_some hf
  refine va_sld hx hb hX hbl hbA hp.1.2.1 g_24 dL_law_214 ?_
  obtain ⟨r_26, q_27, hc_25, hf⟩ := bnd_some hf
  refine l_ri hp hA (Lp.sz had hp) (va_runV (As := [.int (xs (i + 1).toNatClampNeg)]) (rest := []) ⟨hx, hb, hml, hown, hts⟩ (c_X9_end l dC dI h a ca (xs (i + 1).toNatClampNeg) _ _ _ hc_25 _) (cwV 1 hts gl_X9_end_22 rfl rfl rfl (by decide +kernel) ⟨Nat.le_of_ble_eq_true rfl, Nat.le_of_ble_eq_true rfl⟩) ⟨Pr.blind _, va_recv hK2 hp.2.1.1 (ci := 11) (q0 := 0) rfl rfl, r_pre hp.2.1 hK2 hN hZ hA⟩ rfl rfl hl.1 rfl (lv_room (Nat.le_of_ble_eq_true rfl)) dL_law_215 ⟨by show qn c_22 - 32 + 0 ≤ 600000; have := hbd.1; omega, by show qs c_22 + 9895 + 0 ≤ 7302250; have := hbd.2; omega⟩) (fun H locs hsz hp => ?_)
  refine lv_pop hx hb dL_law_218 rfl ?_
  refine lv_goto (tgt := 972) hx hb dL_law_219 (by decide) ?_
  obtain ⟨v_28, ev_28, hf⟩ := nam_some hf
  refine lv_iinc (v := v_28) (lv' := [(3, .int v_28), (0, .ref b), (1, .ref (ad 32)), (2, .ref h)]) hx hb dL_law_972 hl (k := 3) rfl ev_28.symm (by decide) rfl (fun ls hl => ?_)
  refine lv_goto (tgt := 18) hx hb dL_law_975 (by decide) ?_
  exact hKW v_28 c_22 q_27 hf _ _ _ hp hbd (lv_sub hl [1, 2, 3, 0] rfl)
noncomputable def lawF_2 (L : Nat) (xs : Nat → Int32) (K : Int32 → CS → RS → Option Int32) (i : Int32) (c0 : CS) (r0 : RS) : Option Int32 := gd (vp_in (i + 1) L) (gd (qk c0 32 = 11) (bnd (fX8_make 32 (xs (i + 1).toNatClampNeg) c0) (fun r_31 c_32 => gd (qn c_32 ≤ 600000 ∧ qs c_32 ≤ 7000000) (gd (vp_in (i + 1) L) (bnd (x9_make (xs (i + 1).toNatClampNeg) r0) (fun r_37 q_38 => nam (i + 6) (fun v_39 => K v_39 c_32 q_38)))))))
set_option maxHeartbeats 4000000 in
set_option maxRecDepth 100000 in
theorem law_2 (l : Launch) {p : Program} {e : Env} {s : State} {m : MethodId} {below : List Frame} {meth : Method} {c : Code} {b L : Nat} {xs : Nat → Int32} {A : Nat → Prop} (C0 : lw_At p s m meth c b L xs) (hts : ∀ w ∈ lwT, w.before #[Value.ref b] s = true) (hA : ∀ q : Nat, s.heap.size ≤ q → A q) (hbA : ¬ A b) (dC : Nat → ClassId) (dI : Nat → Nat → Nat) (ka ad : Nat → Nat) (ct : Nat → ClassId) (h : Nat) (a : Nat → Nat) (ca : Nat → ClassId) (had : ∀ i, 32 ≤ i → ad i = s.heap.size + (i - 32)) (hK1 : va_K (dC, dI) vwCl (cT ct) s) (hK2 : va_K (dC, dI) vwCl (rT ca) s) (hN : NX s) (hZ : cz A s s.heap) (hC : kS ka A s s.heap) (hR : kR ka s) (hL : kL s) (K : Int32 → CS → RS → Option Int32) (hKW : ∀ (i : Int32) (c0 : CS) (r0 : RS), K i c0 r0 = some 1 → ∀ (H : Heap) (locs : List Loc) (ls : Array Slot), Lp (dC, dI) ka ad ct h a ca A s.heap c0 r0 H locs → (qn c0 ≤ 600000 ∧ qs c0 ≤ 7000000) → lv_has ls 4 [(0, .ref b), (1, .ref (ad 32)), (2, .ref h), (3, .int i)] → W p l e room_1 s m #[Value.ref b] below meth c H locs (qn c0 - 32) (qs c0 + 9895) (lw_Z below #[Value.ref b] s) (F0 m 18 ls [])) (i : Int32) (c0 : CS) (r0 : RS) (hf : lawF_2 L xs K i c0 r0 = some 1) (H : Heap) (locs : List Loc) (ls : Array Slot) (hp : Lp (dC, dI) ka ad ct h a ca A s.heap c0 r0 H locs) (hbd : qn c0 ≤ 600000 ∧ qs c0 ≤ 7000000) (hl : lv_has ls 4 [(0, .ref b), (1, .ref (ad 32)), (2, .ref h), (3, .int i)]) : W p l e room_1 s m #[Value.ref b] below meth c H locs (qn c0 - 32) (qs c0 + 9895) (lw_Z below #[Value.ref b] s) (F0 m 222 ls []) := by
  obtain ⟨hx, hb, hr, hml, hown, -, hX, hbl, hlocks, hgv⟩ := C0
  unfold lawF_2 at hf
  refine lv_aload_n hx hb dL_law_222 rfl (lv_at hl 1 rfl) ?_
  refine lv_aload_n hx hb dL_law_223 rfl (lv_at hl 0 rfl) ?_
  refine lv_iload_n hx hb dL_law_224 rfl (lv_at hl 3 rfl) ?_
  refine lv_iconst (v := 1) hx hb dL_law_225 (by decide) ?_
  refine lv_iadd hx hb dL_law_226 ?_
  obtain ⟨g_29, hf⟩ := gd_some hf
  refine va_sld hx hb hX hbl hbA hp.1.2.1 g_29 dL_law_227 ?_
  obtain ⟨hk_33, hf⟩ := gd_some hf
  obtain ⟨r_31, c_32, hc_30, hf⟩ := bnd_some hf
  obtain ⟨hb_34, hf⟩ := gd_some hf
  have h32 := hp.1.2.2.1.1
  refine l_ci hp hA (mo_X8_make 32 (xs (i + 1).toNatClampNeg) _ _ _ hc_30) (va_runV (As := [.int (xs (i + 1).toNatClampNeg)]) (rest := []) ⟨hx, hb, hml, hown, hts⟩ (c_X8_make l dC dI ka ad ct 32 (xs (i + 1).toNatClampNeg) _ _ _ hc_30 _) (cwV 1 hts gl_X8_make_23 rfl rfl rfl (by decide +kernel) ⟨Nat.le_of_ble_eq_true rfl, Nat.le_of_ble_eq_true rfl⟩) ⟨PrC.blind _, q_recv (ci := 10) hK1 hp.1 hC hk_33 (by decide) rfl (fun h => absurd h (by decide)), q_pre hp.1 hK1 hN hZ hC hR hL hA⟩ rfl rfl hl.1 rfl (lv_room (Nat.le_of_ble_eq_true rfl)) dL_law_228 ⟨by show qn c0 - 32 + (qn c_32 - qn c0) ≤ 600000; have := (mo_X8_make 32 (xs (i + 1).toNatClampNeg) _ _ _ hc_30).1; have := hb_34.1; have := hp.1.2.2.1.1; omega, by show qs c0 + 9895 + (qs c_32 - qs c0) ≤ 7302250; have := (mo_X8_make 32 (xs (i + 1).toNatClampNeg) _ _ _ hc_30).2.1; have := hb_34.2; omega⟩) (fun H locs hp => ?_)
  refine W.widen (k := qn c_32 - 32) (n := qs c_32 + 9895) (by have := (mo_X8_make 32 (xs (i + 1).toNatClampNeg) _ _ _ hc_30).1; omega) (by have := (mo_X8_make 32 (xs (i + 1).toNatClampNeg) _ _ _ hc_30).2.1; omega) ?_
  have hbd : qn c_32 ≤ 600000 ∧ qs c_32 ≤ 7000000 := hb_34
  refine lv_pop hx hb dL_law_231 rfl ?_
  refine lv_aload_n hx hb dL_law_232 rfl (lv_at hl 2 rfl) ?_
  refine lv_aload_n hx hb dL_law_233 rfl (lv_at hl 0 rfl) ?_
  refine lv_iload_n hx hb dL_law_234 rfl (lv_at hl 3 rfl) ?_
  refine lv_iconst (v := 1) hx hb dL_law_235 (by decide) ?_
  refine lv_iadd hx hb dL_law_236 ?_
  obtain ⟨g_35, hf⟩ := gd_some hf
  refine va_sld hx hb hX hbl hbA hp.1.2.1 g_35 dL_law_237 ?_
  obtain ⟨r_37, q_38, hc_36, hf⟩ := bnd_some hf
  refine l_ri hp hA (Lp.sz had hp) (va_runV (As := [.int (xs (i + 1).toNatClampNeg)]) (rest := []) ⟨hx, hb, hml, hown, hts⟩ (c_X9_make l dC dI h a ca (xs (i + 1).toNatClampNeg) _ _ _ hc_36 _) (cwV 1 hts gl_X9_make_27 rfl rfl rfl (by decide +kernel) ⟨Nat.le_of_ble_eq_true rfl, Nat.le_of_ble_eq_true rfl⟩) ⟨Pr.blind _, va_recv hK2 hp.2.1.1 (ci := 11) (q0 := 0) rfl rfl, r_pre hp.2.1 hK2 hN hZ hA⟩ rfl rfl hl.1 rfl (lv_room (Nat.le_of_ble_eq_true rfl)) dL_law_238 ⟨by show qn c_32 - 32 + 0 ≤ 600000; have := hbd.1; omega, by show qs c_32 + 9895 + 0 ≤ 7302250; have := hbd.2; omega⟩) (fun H locs hsz hp => ?_)
  refine lv_pop hx hb dL_law_241 rfl ?_
  refine lv_goto (tgt := 972) hx hb dL_law_242 (by decide) ?_
  obtain ⟨v_39, ev_39, hf⟩ := nam_some hf
  refine lv_iinc (v := v_39) (lv' := [(3, .int v_39), (0, .ref b), (1, .ref (ad 32)), (2, .ref h)]) hx hb dL_law_972 hl (k := 3) rfl ev_39.symm (by decide) rfl (fun ls hl => ?_)
  refine lv_goto (tgt := 18) hx hb dL_law_975 (by decide) ?_
  exact hKW v_39 c_32 q_38 hf _ _ _ hp hbd (lv_sub hl [1, 2, 3, 0] rfl)
noncomputable def lawF_3 (L : Nat) (xs : Nat → Int32) (K : Int32 → CS → RS → Option Int32) (i : Int32) (c0 : CS) (r0 : RS) : Option Int32 := gd (vp_in (i + 1) L) (gd (qk c0 32 = 11) (bnd (fX8_fault 32 (xs (i + 1).toNatClampNeg) c0) (fun r_42 c_43 => gd (vp_in (i + 1) L) (bnd (x9_fault (xs (i + 1).toNatClampNeg) r0) (fun r_47 q_48 => nam (i + 6) (fun v_49 => K v_49 c_43 q_48))))))
set_option maxHeartbeats 4000000 in
set_option maxRecDepth 100000 in
theorem law_3 (l : Launch) {p : Program} {e : Env} {s : State} {m : MethodId} {below : List Frame} {meth : Method} {c : Code} {b L : Nat} {xs : Nat → Int32} {A : Nat → Prop} (C0 : lw_At p s m meth c b L xs) (hts : ∀ w ∈ lwT, w.before #[Value.ref b] s = true) (hA : ∀ q : Nat, s.heap.size ≤ q → A q) (hbA : ¬ A b) (dC : Nat → ClassId) (dI : Nat → Nat → Nat) (ka ad : Nat → Nat) (ct : Nat → ClassId) (h : Nat) (a : Nat → Nat) (ca : Nat → ClassId) (had : ∀ i, 32 ≤ i → ad i = s.heap.size + (i - 32)) (hK1 : va_K (dC, dI) vwCl (cT ct) s) (hK2 : va_K (dC, dI) vwCl (rT ca) s) (hN : NX s) (hZ : cz A s s.heap) (hC : kS ka A s s.heap) (hR : kR ka s) (hL : kL s) (K : Int32 → CS → RS → Option Int32) (hKW : ∀ (i : Int32) (c0 : CS) (r0 : RS), K i c0 r0 = some 1 → ∀ (H : Heap) (locs : List Loc) (ls : Array Slot), Lp (dC, dI) ka ad ct h a ca A s.heap c0 r0 H locs → (qn c0 ≤ 600000 ∧ qs c0 ≤ 7000000) → lv_has ls 4 [(0, .ref b), (1, .ref (ad 32)), (2, .ref h), (3, .int i)] → W p l e room_1 s m #[Value.ref b] below meth c H locs (qn c0 - 32) (qs c0 + 9895) (lw_Z below #[Value.ref b] s) (F0 m 18 ls [])) (i : Int32) (c0 : CS) (r0 : RS) (hf : lawF_3 L xs K i c0 r0 = some 1) (H : Heap) (locs : List Loc) (ls : Array Slot) (hp : Lp (dC, dI) ka ad ct h a ca A s.heap c0 r0 H locs) (hbd : qn c0 ≤ 600000 ∧ qs c0 ≤ 7000000) (hl : lv_has ls 4 [(0, .ref b), (1, .ref (ad 32)), (2, .ref h), (3, .int i)]) : W p l e room_1 s m #[Value.ref b] below meth c H locs (qn c0 - 32) (qs c0 + 9895) (lw_Z below #[Value.ref b] s) (F0 m 245 ls []) := by
  obtain ⟨hx, hb, hr, hml, hown, -, hX, hbl, hlocks, hgv⟩ := C0
  unfold lawF_3 at hf
  refine lv_aload_n hx hb dL_law_245 rfl (lv_at hl 1 rfl) ?_
  refine lv_aload_n hx hb dL_law_246 rfl (lv_at hl 0 rfl) ?_
  refine lv_iload_n hx hb dL_law_247 rfl (lv_at hl 3 rfl) ?_
  refine lv_iconst (v := 1) hx hb dL_law_248 (by decide) ?_
  refine lv_iadd hx hb dL_law_249 ?_
  obtain ⟨g_40, hf⟩ := gd_some hf
  refine va_sld hx hb hX hbl hbA hp.1.2.1 g_40 dL_law_250 ?_
  obtain ⟨hk_44, hf⟩ := gd_some hf
  obtain ⟨r_42, c_43, hc_41, hf⟩ := bnd_some hf
  have h32 := hp.1.2.2.1.1
  refine l_ci hp hA (mo_X8_fault 32 (xs (i + 1).toNatClampNeg) _ _ _ hc_41).mo (va_runV (As := [.int (xs (i + 1).toNatClampNeg)]) (rest := []) ⟨hx, hb, hml, hown, hts⟩ (c_X8_fault l dC dI ka ad ct 32 (xs (i + 1).toNatClampNeg) _ _ _ hc_41 _) (cwV 1 hts gl_X8_fault_28 rfl rfl rfl (by decide +kernel) ⟨Nat.le_of_ble_eq_true rfl, Nat.le_of_ble_eq_true rfl⟩) ⟨PrC.blind _, q_recv (ci := 10) hK1 hp.1 hC hk_44 (by decide) rfl (fun h => absurd h (by decide)), q_pre hp.1 hK1 hN hZ hC hR hL hA⟩ rfl rfl hl.1 rfl (lv_room (Nat.le_of_ble_eq_true rfl)) dL_law_251 ⟨by show qn c0 - 32 + 0 ≤ 600000; have := hbd.1; omega, by show qs c0 + 9895 + 0 ≤ 7302250; have := hbd.2; omega⟩) (fun H locs hp => ?_)
  refine W.widen (k := qn c_43 - 32) (n := qs c_43 + 9895) (by have := (mo_X8_fault 32 (xs (i + 1).toNatClampNeg) _ _ _ hc_41).1; omega) (by have := (mo_X8_fault 32 (xs (i + 1).toNatClampNeg) _ _ _ hc_41).2.1; omega) ?_
  have hbd : qn c_43 ≤ 600000 ∧ qs c_43 ≤ 7000000 := by rw [(mo_X8_fault 32 (xs (i + 1).toNatClampNeg) _ _ _ hc_41).1, (mo_X8_fault 32 (xs (i + 1).toNatClampNeg) _ _ _ hc_41).2.1]; exact hbd
  refine lv_pop hx hb dL_law_254 rfl ?_
  refine lv_aload_n hx hb dL_law_255 rfl (lv_at hl 2 rfl) ?_
  refine lv_aload_n hx hb dL_law_256 rfl (lv_at hl 0 rfl) ?_
  refine lv_iload_n hx hb dL_law_257 rfl (lv_at hl 3 rfl) ?_
  refine lv_iconst (v := 1) hx hb dL_law_258 (by decide) ?_
  refine lv_iadd hx hb dL_law_259 ?_
  obtain ⟨g_45, hf⟩ := gd_some hf
  refine va_sld hx hb hX hbl hbA hp.1.2.1 g_45 dL_law_260 ?_
  obtain ⟨r_47, q_48, hc_46, hf⟩ := bnd_some hf
  refine l_ri hp hA (Lp.sz had hp) (va_runV (As := [.int (xs (i + 1).toNatClampNeg)]) (rest := []) ⟨hx, hb, hml, hown, hts⟩ (c_X9_fault l dC dI h a ca (xs (i + 1).toNatClampNeg) _ _ _ hc_46 _) (cwV 1 hts gl_X9_fault_31 rfl rfl rfl (by decide +kernel) ⟨Nat.le_of_ble_eq_true rfl, Nat.le_of_ble_eq_true rfl⟩) ⟨Pr.blind _, va_recv hK2 hp.2.1.1 (ci := 11) (q0 := 0) rfl rfl, r_pre hp.2.1 hK2 hN hZ hA⟩ rfl rfl hl.1 rfl (lv_room (Nat.le_of_ble_eq_true rfl)) dL_law_261 ⟨by show qn c_43 - 32 + 0 ≤ 600000; have := hbd.1; omega, by show qs c_43 + 9895 + 0 ≤ 7302250; have := hbd.2; omega⟩) (fun H locs hsz hp => ?_)
  refine lv_pop hx hb dL_law_264 rfl ?_
  refine lv_goto (tgt := 972) hx hb dL_law_265 (by decide) ?_
  obtain ⟨v_49, ev_49, hf⟩ := nam_some hf
  refine lv_iinc (v := v_49) (lv' := [(3, .int v_49), (0, .ref b), (1, .ref (ad 32)), (2, .ref h)]) hx hb dL_law_972 hl (k := 3) rfl ev_49.symm (by decide) rfl (fun ls hl => ?_)
  refine lv_goto (tgt := 18) hx hb dL_law_975 (by decide) ?_
  exact hKW v_49 c_43 q_48 hf _ _ _ hp hbd (lv_sub hl [1, 2, 3, 0] rfl)
noncomputable def lawF_4 (L : Nat) (xs : Nat → Int32) (K : Int32 → CS → RS → Option Int32) (i : Int32) (c0 : CS) (r0 : RS) : Option Int32 := gd (vp_in (i + 1) L) (gd (vp_in (i + 2) L) (gd (vp_in (i + 3) L) (gd (qk c0 32 = 11) (bnd (fX8_field 32 (xs (i + 1).toNatClampNeg) (xs (i + 2).toNatClampNeg) (xs (i + 3).toNatClampNeg) c0) (fun r_54 c_55 => gd (vp_in (i + 1) L) (gd (vp_in (i + 2) L) (gd (vp_in (i + 3) L) (bnd (x9_field_ (xs (i + 1).toNatClampNeg) (xs (i + 2).toNatClampNeg) (xs (i + 3).toNatClampNeg) r0) (fun r_61 q_62 => nam (i + 6) (fun v_63 => K v_63 c_55 q_62))))))))))
set_option maxHeartbeats 4000000 in
set_option maxRecDepth 100000 in
theorem law_4 (l : Launch) {p : Program} {e : Env} {s : State} {m : MethodId} {below : List Frame} {meth : Method} {c : Code} {b L : Nat} {xs : Nat → Int32} {A : Nat → Prop} (C0 : lw_At p s m meth c b L xs) (hts : ∀ w ∈ lwT, w.before #[Value.ref b] s = true) (hA : ∀ q : Nat, s.heap.size ≤ q → A q) (hbA : ¬ A b) (dC : Nat → ClassId) (dI : Nat → Nat → Nat) (ka ad : Nat → Nat) (ct : Nat → ClassId) (h : Nat) (a : Nat → Nat) (ca : Nat → ClassId) (had : ∀ i, 32 ≤ i → ad i = s.heap.size + (i - 32)) (hK1 : va_K (dC, dI) vwCl (cT ct) s) (hK2 : va_K (dC, dI) vwCl (rT ca) s) (hN : NX s) (hZ : cz A s s.heap) (hC : kS ka A s s.heap) (hR : kR ka s) (hL : kL s) (K : Int32 → CS → RS → Option Int32) (hKW : ∀ (i : Int32) (c0 : CS) (r0 : RS), K i c0 r0 = some 1 → ∀ (H : Heap) (locs : List Loc) (ls : Array Slot), Lp (dC, dI) ka ad ct h a ca A s.heap c0 r0 H locs → (qn c0 ≤ 600000 ∧ qs c0 ≤ 7000000) → lv_has ls 4 [(0, .ref b), (1, .ref (ad 32)), (2, .ref h), (3, .int i)] → W p l e room_1 s m #[Value.ref b] below meth c H locs (qn c0 - 32) (qs c0 + 9895) (lw_Z below #[Value.ref b] s) (F0 m 18 ls [])) (i : Int32) (c0 : CS) (r0 : RS) (hf : lawF_4 L xs K i c0 r0 = some 1) (H : Heap) (locs : List Loc) (ls : Array Slot) (hp : Lp (dC, dI) ka ad ct h a ca A s.heap c0 r0 H locs) (hbd : qn c0 ≤ 600000 ∧ qs c0 ≤ 7000000) (hl : lv_has ls 4 [(0, .ref b), (1, .ref (ad 32)), (2, .ref h), (3, .int i)]) : W p l e room_1 s m #[Value.ref b] below meth c H locs (qn c0 - 32) (qs c0 + 9895) (lw_Z below #[Value.ref b] s) (F0 m 268 ls []) := by
  obtain ⟨hx, hb, hr, hml, hown, -, hX, hbl, hlocks, hgv⟩ := C0
  unfold lawF_4 at hf
  refine lv_aload_n hx hb dL_law_268 rfl (lv_at hl 1 rfl) ?_
  refine lv_aload_n hx hb dL_law_269 rfl (lv_at hl 0 rfl) ?_
  refine lv_iload_n hx hb dL_law_270 rfl (lv_at hl 3 rfl) ?_
  refine lv_iconst (v := 1) hx hb dL_law_271 (by decide) ?_
  refine lv_iadd hx hb dL_law_272 ?_
  obtain ⟨g_50, hf⟩ := gd_some hf
  refine va_sld hx hb hX hbl hbA hp.1.2.1 g_50 dL_law_273 ?_
  refine lv_aload_n hx hb dL_law_274 rfl (lv_at hl 0 rfl) ?_
  refine lv_iload_n hx hb dL_law_275 rfl (lv_at hl 3 rfl) ?_
  refine lv_iconst (v := 2) hx hb dL_law_276 (by decide) ?_
  refine lv_iadd hx hb dL_law_277 ?_
  obtain ⟨g_51, hf⟩ := gd_some hf
  refine va_sld hx hb hX hbl hbA hp.1.2.1 g_51 dL_law_278 ?_
  refine lv_aload_n hx hb dL_law_279 rfl (lv_at hl 0 rfl) ?_
  refine lv_iload_n hx hb dL_law_280 rfl (lv_at hl 3 rfl) ?_
  refine lv_iconst (v := 3) hx hb dL_law_281 (by decide) ?_
  refine lv_iadd hx hb dL_law_282 ?_
  obtain ⟨g_52, hf⟩ := gd_some hf
  refine va_sld hx hb hX hbl hbA hp.1.2.1 g_52 dL_law_283 ?_
  obtain ⟨hk_56, hf⟩ := gd_some hf
  obtain ⟨r_54, c_55, hc_53, hf⟩ := bnd_some hf
  have h32 := hp.1.2.2.1.1
  refine l_ci hp hA (mo_X8_field 32 (xs (i + 1).toNatClampNeg) (xs (i + 2).toNatClampNeg) (xs (i + 3).toNatClampNeg) _ _ _ hc_53).mo (va_runV (As := [.int (xs (i + 1).toNatClampNeg), .int (xs (i + 2).toNatClampNeg), .int (xs (i + 3).toNatClampNeg)]) (rest := []) ⟨hx, hb, hml, hown, hts⟩ (c_X8_field l dC dI ka ad ct 32 (xs (i + 1).toNatClampNeg) (xs (i + 2).toNatClampNeg) (xs (i + 3).toNatClampNeg) _ _ _ hc_53 _) (cwV 3 hts gl_X8_field_32 rfl rfl rfl (by decide +kernel) ⟨Nat.le_of_ble_eq_true rfl, Nat.le_of_ble_eq_true rfl⟩) ⟨PrC.blind _, q_recv (ci := 10) hK1 hp.1 hC hk_56 (by decide) rfl (fun h => absurd h (by decide)), q_pre hp.1 hK1 hN hZ hC hR hL hA⟩ rfl rfl hl.1 rfl (lv_room (Nat.le_of_ble_eq_true rfl)) dL_law_284 ⟨by show qn c0 - 32 + 0 ≤ 600000; have := hbd.1; omega, by show qs c0 + 9895 + 0 ≤ 7302250; have := hbd.2; omega⟩) (fun H locs hp => ?_)
  refine W.widen (k := qn c_55 - 32) (n := qs c_55 + 9895) (by have := (mo_X8_field 32 (xs (i + 1).toNatClampNeg) (xs (i + 2).toNatClampNeg) (xs (i + 3).toNatClampNeg) _ _ _ hc_53).1; omega) (by have := (mo_X8_field 32 (xs (i + 1).toNatClampNeg) (xs (i + 2).toNatClampNeg) (xs (i + 3).toNatClampNeg) _ _ _ hc_53).2.1; omega) ?_
  have hbd : qn c_55 ≤ 600000 ∧ qs c_55 ≤ 7000000 := by rw [(mo_X8_field 32 (xs (i + 1).toNatClampNeg) (xs (i + 2).toNatClampNeg) (xs (i + 3).toNatClampNeg) _ _ _ hc_53).1, (mo_X8_field 32 (xs (i + 1).toNatClampNeg) (xs (i + 2).toNatClampNeg) (xs (i + 3).toNatClampNeg) _ _ _ hc_53).2.1]; exact hbd
  refine lv_pop hx hb dL_law_287 rfl ?_
  refine lv_aload_n hx hb dL_law_288 rfl (lv_at hl 2 rfl) ?_
  refine lv_aload_n hx hb dL_law_289 rfl (lv_at hl 0 rfl) ?_
  refine lv_iload_n hx hb dL_law_290 rfl (lv_at hl 3 rfl) ?_
  refine lv_iconst (v := 1) hx hb dL_law_291 (by decide) ?_
  refine lv_iadd hx hb dL_law_292 ?_
  obtain ⟨g_57, hf⟩ := gd_some hf
  refine va_sld hx hb hX hbl hbA hp.1.2.1 g_57 dL_law_293 ?_
  refine lv_aload_n hx hb dL_law_294 rfl (lv_at hl 0 rfl) ?_
  refine lv_iload_n hx hb dL_law_295 rfl (lv_at hl 3 rfl) ?_
  refine lv_iconst (v := 2) hx hb dL_law_296 (by decide) ?_
  refine lv_iadd hx hb dL_law_297 ?_
  obtain ⟨g_58, hf⟩ := gd_some hf
  refine va_sld hx hb hX hbl hbA hp.1.2.1 g_58 dL_law_298 ?_
  refine lv_aload_n hx hb dL_law_299 rfl (lv_at hl 0 rfl) ?_
  refine lv_iload_n hx hb dL_law_300 rfl (lv_at hl 3 rfl) ?_
  refine lv_iconst (v := 3) hx hb dL_law_301 (by decide) ?_
  refine lv_iadd hx hb dL_law_302 ?_
  obtain ⟨g_59, hf⟩ := gd_some hf
  refine va_sld hx hb hX hbl hbA hp.1.2.1 g_59 dL_law_303 ?_
  obtain ⟨r_61, q_62, hc_60, hf⟩ := bnd_some hf
  refine l_ri hp hA (Lp.sz had hp) (va_runV (As := [.int (xs (i + 1).toNatClampNeg), .int (xs (i + 2).toNatClampNeg), .int (xs (i + 3).toNatClampNeg)]) (rest := []) ⟨hx, hb, hml, hown, hts⟩ (c_X9_field_ l dC dI h a ca (xs (i + 1).toNatClampNeg) (xs (i + 2).toNatClampNeg) (xs (i + 3).toNatClampNeg) _ _ _ hc_60 _) (cwV 3 hts gl_X9_field__36 rfl rfl rfl (by decide +kernel) ⟨Nat.le_of_ble_eq_true rfl, Nat.le_of_ble_eq_true rfl⟩) ⟨Pr.blind _, va_recv hK2 hp.2.1.1 (ci := 11) (q0 := 0) rfl rfl, r_pre hp.2.1 hK2 hN hZ hA⟩ rfl rfl hl.1 rfl (lv_room (Nat.le_of_ble_eq_true rfl)) dL_law_304 ⟨by show qn c_55 - 32 + 0 ≤ 600000; have := hbd.1; omega, by show qs c_55 + 9895 + 0 ≤ 7302250; have := hbd.2; omega⟩) (fun H locs hsz hp => ?_)
  refine lv_pop hx hb dL_law_307 rfl ?_
  refine lv_goto (tgt := 972) hx hb dL_law_308 (by decide) ?_
  obtain ⟨v_63, ev_63, hf⟩ := nam_some hf
  refine lv_iinc (v := v_63) (lv' := [(3, .int v_63), (0, .ref b), (1, .ref (ad 32)), (2, .ref h)]) hx hb dL_law_972 hl (k := 3) rfl ev_63.symm (by decide) rfl (fun ls hl => ?_)
  refine lv_goto (tgt := 18) hx hb dL_law_975 (by decide) ?_
  exact hKW v_63 c_55 q_62 hf _ _ _ hp hbd (lv_sub hl [1, 2, 3, 0] rfl)
noncomputable def lawF_5 (L : Nat) (xs : Nat → Int32) (K : Int32 → CS → RS → Option Int32) (i : Int32) (c0 : CS) (r0 : RS) : Option Int32 := gd (vp_in (i + 1) L) (gd (vp_in (i + 2) L) (gd (qk c0 32 = 11) (bnd (fX8_plain 32 (xs (i + 1).toNatClampNeg) (xs (i + 2).toNatClampNeg) c0) (fun r_67 c_68 => gd (vp_in (i + 1) L) (gd (vp_in (i + 2) L) (bnd (x9_plain (xs (i + 1).toNatClampNeg) (xs (i + 2).toNatClampNeg) r0) (fun r_73 q_74 => nam (i + 6) (fun v_75 => K v_75 c_68 q_74))))))))
set_option maxHeartbeats 4000000 in
set_option maxRecDepth 100000 in
theorem law_5 (l : Launch) {p : Program} {e : Env} {s : State} {m : MethodId} {below : List Frame} {meth : Method} {c : Code} {b L : Nat} {xs : Nat → Int32} {A : Nat → Prop} (C0 : lw_At p s m meth c b L xs) (hts : ∀ w ∈ lwT, w.before #[Value.ref b] s = true) (hA : ∀ q : Nat, s.heap.size ≤ q → A q) (hbA : ¬ A b) (dC : Nat → ClassId) (dI : Nat → Nat → Nat) (ka ad : Nat → Nat) (ct : Nat → ClassId) (h : Nat) (a : Nat → Nat) (ca : Nat → ClassId) (had : ∀ i, 32 ≤ i → ad i = s.heap.size + (i - 32)) (hK1 : va_K (dC, dI) vwCl (cT ct) s) (hK2 : va_K (dC, dI) vwCl (rT ca) s) (hN : NX s) (hZ : cz A s s.heap) (hC : kS ka A s s.heap) (hR : kR ka s) (hL : kL s) (K : Int32 → CS → RS → Option Int32) (hKW : ∀ (i : Int32) (c0 : CS) (r0 : RS), K i c0 r0 = some 1 → ∀ (H : Heap) (locs : List Loc) (ls : Array Slot), Lp (dC, dI) ka ad ct h a ca A s.heap c0 r0 H locs → (qn c0 ≤ 600000 ∧ qs c0 ≤ 7000000) → lv_has ls 4 [(0, .ref b), (1, .ref (ad 32)), (2, .ref h), (3, .int i)] → W p l e room_1 s m #[Value.ref b] below meth c H locs (qn c0 - 32) (qs c0 + 9895) (lw_Z below #[Value.ref b] s) (F0 m 18 ls [])) (i : Int32) (c0 : CS) (r0 : RS) (hf : lawF_5 L xs K i c0 r0 = some 1) (H : Heap) (locs : List Loc) (ls : Array Slot) (hp : Lp (dC, dI) ka ad ct h a ca A s.heap c0 r0 H locs) (hbd : qn c0 ≤ 600000 ∧ qs c0 ≤ 7000000) (hl : lv_has ls 4 [(0, .ref b), (1, .ref (ad 32)), (2, .ref h), (3, .int i)]) : W p l e room_1 s m #[Value.ref b] below meth c H locs (qn c0 - 32) (qs c0 + 9895) (lw_Z below #[Value.ref b] s) (F0 m 311 ls []) := by
  obtain ⟨hx, hb, hr, hml, hown, -, hX, hbl, hlocks, hgv⟩ := C0
  unfold lawF_5 at hf
  refine lv_aload_n hx hb dL_law_311 rfl (lv_at hl 1 rfl) ?_
  refine lv_aload_n hx hb dL_law_312 rfl (lv_at hl 0 rfl) ?_
  refine lv_iload_n hx hb dL_law_313 rfl (lv_at hl 3 rfl) ?_
  refine lv_iconst (v := 1) hx hb dL_law_314 (by decide) ?_
  refine lv_iadd hx hb dL_law_315 ?_
  obtain ⟨g_64, hf⟩ := gd_some hf
  refine va_sld hx hb hX hbl hbA hp.1.2.1 g_64 dL_law_316 ?_
  refine lv_aload_n hx hb dL_law_317 rfl (lv_at hl 0 rfl) ?_
  refine lv_iload_n hx hb dL_law_318 rfl (lv_at hl 3 rfl) ?_
  refine lv_iconst (v := 2) hx hb dL_law_319 (by decide) ?_
  refine lv_iadd hx hb dL_law_320 ?_
  obtain ⟨g_65, hf⟩ := gd_some hf
  refine va_sld hx hb hX hbl hbA hp.1.2.1 g_65 dL_law_321 ?_
  obtain ⟨hk_69, hf⟩ := gd_some hf
  obtain ⟨r_67, c_68, hc_66, hf⟩ := bnd_some hf
  have h32 := hp.1.2.2.1.1
  refine l_cl hp hA (mo_X8_plain 32 (xs (i + 1).toNatClampNeg) (xs (i + 2).toNatClampNeg) _ _ _ hc_66).mo (va_runV (As := [.int (xs (i + 1).toNatClampNeg), .int (xs (i + 2).toNatClampNeg)]) (rest := []) ⟨hx, hb, hml, hown, hts⟩ (c_X8_plain l dC dI ka ad ct 32 (xs (i + 1).toNatClampNeg) (xs (i + 2).toNatClampNeg) _ _ _ hc_66 _) (cwV 2 hts gl_X8_plain_37 rfl rfl rfl (by decide +kernel) ⟨Nat.le_of_ble_eq_true rfl, Nat.le_of_ble_eq_true rfl⟩) ⟨PrC.blind _, q_recv (ci := 10) hK1 hp.1 hC hk_69 (by decide) rfl (fun h => absurd h (by decide)), q_pre hp.1 hK1 hN hZ hC hR hL hA⟩ rfl rfl hl.1 rfl (lv_room (Nat.le_of_ble_eq_true rfl)) dL_law_322 ⟨by show qn c0 - 32 + 0 ≤ 600000; have := hbd.1; omega, by show qs c0 + 9895 + 0 ≤ 7302250; have := hbd.2; omega⟩) (fun H locs hp => ?_)
  refine W.widen (k := qn c_68 - 32) (n := qs c_68 + 9895) (by have := (mo_X8_plain 32 (xs (i + 1).toNatClampNeg) (xs (i + 2).toNatClampNeg) _ _ _ hc_66).1; omega) (by have := (mo_X8_plain 32 (xs (i + 1).toNatClampNeg) (xs (i + 2).toNatClampNeg) _ _ _ hc_66).2.1; omega) ?_
  have hbd : qn c_68 ≤ 600000 ∧ qs c_68 ≤ 7000000 := by rw [(mo_X8_plain 32 (xs (i + 1).toNatClampNeg) (xs (i + 2).toNatClampNeg) _ _ _ hc_66).1, (mo_X8_plain 32 (xs (i + 1).toNatClampNeg) (xs (i + 2).toNatClampNeg) _ _ _ hc_66).2.1]; exact hbd
  refine lv_pop2_2 hx hb dL_law_325 rfl ?_
  refine lv_aload_n hx hb dL_law_326 rfl (lv_at hl 2 rfl) ?_
  refine lv_aload_n hx hb dL_law_327 rfl (lv_at hl 0 rfl) ?_
  refine lv_iload_n hx hb dL_law_328 rfl (lv_at hl 3 rfl) ?_
  refine lv_iconst (v := 1) hx hb dL_law_329 (by decide) ?_
  refine lv_iadd hx hb dL_law_330 ?_
  obtain ⟨g_70, hf⟩ := gd_some hf
  refine va_sld hx hb hX hbl hbA hp.1.2.1 g_70 dL_law_331 ?_
  refine lv_aload_n hx hb dL_law_332 rfl (lv_at hl 0 rfl) ?_
  refine lv_iload_n hx hb dL_law_333 rfl (lv_at hl 3 rfl) ?_
  refine lv_iconst (v := 2) hx hb dL_law_334 (by decide) ?_
  refine lv_iadd hx hb dL_law_335 ?_
  obtain ⟨g_71, hf⟩ := gd_some hf
  refine va_sld hx hb hX hbl hbA hp.1.2.1 g_71 dL_law_336 ?_
  obtain ⟨r_73, q_74, hc_72, hf⟩ := bnd_some hf
  refine l_rl hp hA (Lp.sz had hp) (va_runV (As := [.int (xs (i + 1).toNatClampNeg), .int (xs (i + 2).toNatClampNeg)]) (rest := []) ⟨hx, hb, hml, hown, hts⟩ (c_X9_plain l dC dI h a ca (xs (i + 1).toNatClampNeg) (xs (i + 2).toNatClampNeg) _ _ _ hc_72 _) (cwV 2 hts gl_X9_plain_41 rfl rfl rfl (by decide +kernel) ⟨Nat.le_of_ble_eq_true rfl, Nat.le_of_ble_eq_true rfl⟩) ⟨Pr.blind _, va_recv hK2 hp.2.1.1 (ci := 11) (q0 := 0) rfl rfl, r_pre hp.2.1 hK2 hN hZ hA⟩ rfl rfl hl.1 rfl (lv_room (Nat.le_of_ble_eq_true rfl)) dL_law_337 ⟨by show qn c_68 - 32 + 0 ≤ 600000; have := hbd.1; omega, by show qs c_68 + 9895 + 0 ≤ 7302250; have := hbd.2; omega⟩) (fun H locs hsz hp => ?_)
  refine lv_pop2_2 hx hb dL_law_340 rfl ?_
  refine lv_goto (tgt := 972) hx hb dL_law_341 (by decide) ?_
  obtain ⟨v_75, ev_75, hf⟩ := nam_some hf
  refine lv_iinc (v := v_75) (lv' := [(3, .int v_75), (0, .ref b), (1, .ref (ad 32)), (2, .ref h)]) hx hb dL_law_972 hl (k := 3) rfl ev_75.symm (by decide) rfl (fun ls hl => ?_)
  refine lv_goto (tgt := 18) hx hb dL_law_975 (by decide) ?_
  exact hKW v_75 c_68 q_74 hf _ _ _ hp hbd (lv_sub hl [1, 2, 3, 0] rfl)
noncomputable def lawF_6 (L : Nat) (xs : Nat → Int32) (K : Int32 → CS → RS → Option Int32) (i : Int32) (c0 : CS) (r0 : RS) : Option Int32 := gd (vp_in (i + 1) L) (gd (qk c0 32 = 11) (bnd (fX8_clear 32 (xs (i + 1).toNatClampNeg) c0) (fun r_78 c_79 => gd (vp_in (i + 1) L) (bnd (x9_clear (xs (i + 1).toNatClampNeg) r0) (fun r_83 q_84 => nam (i + 6) (fun v_85 => K v_85 c_79 q_84))))))
set_option maxHeartbeats 4000000 in
set_option maxRecDepth 100000 in
theorem law_6 (l : Launch) {p : Program} {e : Env} {s : State} {m : MethodId} {below : List Frame} {meth : Method} {c : Code} {b L : Nat} {xs : Nat → Int32} {A : Nat → Prop} (C0 : lw_At p s m meth c b L xs) (hts : ∀ w ∈ lwT, w.before #[Value.ref b] s = true) (hA : ∀ q : Nat, s.heap.size ≤ q → A q) (hbA : ¬ A b) (dC : Nat → ClassId) (dI : Nat → Nat → Nat) (ka ad : Nat → Nat) (ct : Nat → ClassId) (h : Nat) (a : Nat → Nat) (ca : Nat → ClassId) (had : ∀ i, 32 ≤ i → ad i = s.heap.size + (i - 32)) (hK1 : va_K (dC, dI) vwCl (cT ct) s) (hK2 : va_K (dC, dI) vwCl (rT ca) s) (hN : NX s) (hZ : cz A s s.heap) (hC : kS ka A s s.heap) (hR : kR ka s) (hL : kL s) (K : Int32 → CS → RS → Option Int32) (hKW : ∀ (i : Int32) (c0 : CS) (r0 : RS), K i c0 r0 = some 1 → ∀ (H : Heap) (locs : List Loc) (ls : Array Slot), Lp (dC, dI) ka ad ct h a ca A s.heap c0 r0 H locs → (qn c0 ≤ 600000 ∧ qs c0 ≤ 7000000) → lv_has ls 4 [(0, .ref b), (1, .ref (ad 32)), (2, .ref h), (3, .int i)] → W p l e room_1 s m #[Value.ref b] below meth c H locs (qn c0 - 32) (qs c0 + 9895) (lw_Z below #[Value.ref b] s) (F0 m 18 ls [])) (i : Int32) (c0 : CS) (r0 : RS) (hf : lawF_6 L xs K i c0 r0 = some 1) (H : Heap) (locs : List Loc) (ls : Array Slot) (hp : Lp (dC, dI) ka ad ct h a ca A s.heap c0 r0 H locs) (hbd : qn c0 ≤ 600000 ∧ qs c0 ≤ 7000000) (hl : lv_has ls 4 [(0, .ref b), (1, .ref (ad 32)), (2, .ref h), (3, .int i)]) : W p l e room_1 s m #[Value.ref b] below meth c H locs (qn c0 - 32) (qs c0 + 9895) (lw_Z below #[Value.ref b] s) (F0 m 344 ls []) := by
  obtain ⟨hx, hb, hr, hml, hown, -, hX, hbl, hlocks, hgv⟩ := C0
  unfold lawF_6 at hf
  refine lv_aload_n hx hb dL_law_344 rfl (lv_at hl 1 rfl) ?_
  refine lv_aload_n hx hb dL_law_345 rfl (lv_at hl 0 rfl) ?_
  refine lv_iload_n hx hb dL_law_346 rfl (lv_at hl 3 rfl) ?_
  refine lv_iconst (v := 1) hx hb dL_law_347 (by decide) ?_
  refine lv_iadd hx hb dL_law_348 ?_
  obtain ⟨g_76, hf⟩ := gd_some hf
  refine va_sld hx hb hX hbl hbA hp.1.2.1 g_76 dL_law_349 ?_
  obtain ⟨hk_80, hf⟩ := gd_some hf
  obtain ⟨r_78, c_79, hc_77, hf⟩ := bnd_some hf
  have h32 := hp.1.2.2.1.1
  refine l_ci hp hA (mo_X8_clear 32 (xs (i + 1).toNatClampNeg) _ _ _ hc_77).mo (va_runV (As := [.int (xs (i + 1).toNatClampNeg)]) (rest := []) ⟨hx, hb, hml, hown, hts⟩ (c_X8_clear l dC dI ka ad ct 32 (xs (i + 1).toNatClampNeg) _ _ _ hc_77 _) (cwV 1 hts gl_X8_clear_42 rfl rfl rfl (by decide +kernel) ⟨Nat.le_of_ble_eq_true rfl, Nat.le_of_ble_eq_true rfl⟩) ⟨PrC.blind _, q_recv (ci := 10) hK1 hp.1 hC hk_80 (by decide) rfl (fun h => absurd h (by decide)), q_pre hp.1 hK1 hN hZ hC hR hL hA⟩ rfl rfl hl.1 rfl (lv_room (Nat.le_of_ble_eq_true rfl)) dL_law_350 ⟨by show qn c0 - 32 + 0 ≤ 600000; have := hbd.1; omega, by show qs c0 + 9895 + 0 ≤ 7302250; have := hbd.2; omega⟩) (fun H locs hp => ?_)
  refine W.widen (k := qn c_79 - 32) (n := qs c_79 + 9895) (by have := (mo_X8_clear 32 (xs (i + 1).toNatClampNeg) _ _ _ hc_77).1; omega) (by have := (mo_X8_clear 32 (xs (i + 1).toNatClampNeg) _ _ _ hc_77).2.1; omega) ?_
  have hbd : qn c_79 ≤ 600000 ∧ qs c_79 ≤ 7000000 := by rw [(mo_X8_clear 32 (xs (i + 1).toNatClampNeg) _ _ _ hc_77).1, (mo_X8_clear 32 (xs (i + 1).toNatClampNeg) _ _ _ hc_77).2.1]; exact hbd
  refine lv_pop hx hb dL_law_353 rfl ?_
  refine lv_aload_n hx hb dL_law_354 rfl (lv_at hl 2 rfl) ?_
  refine lv_aload_n hx hb dL_law_355 rfl (lv_at hl 0 rfl) ?_
  refine lv_iload_n hx hb dL_law_356 rfl (lv_at hl 3 rfl) ?_
  refine lv_iconst (v := 1) hx hb dL_law_357 (by decide) ?_
  refine lv_iadd hx hb dL_law_358 ?_
  obtain ⟨g_81, hf⟩ := gd_some hf
  refine va_sld hx hb hX hbl hbA hp.1.2.1 g_81 dL_law_359 ?_
  obtain ⟨r_83, q_84, hc_82, hf⟩ := bnd_some hf
  refine l_ri hp hA (Lp.sz had hp) (va_runV (As := [.int (xs (i + 1).toNatClampNeg)]) (rest := []) ⟨hx, hb, hml, hown, hts⟩ (c_X9_clear l dC dI h a ca (xs (i + 1).toNatClampNeg) _ _ _ hc_82 _) (cwV 1 hts gl_X9_clear_45 rfl rfl rfl (by decide +kernel) ⟨Nat.le_of_ble_eq_true rfl, Nat.le_of_ble_eq_true rfl⟩) ⟨Pr.blind _, va_recv hK2 hp.2.1.1 (ci := 11) (q0 := 0) rfl rfl, r_pre hp.2.1 hK2 hN hZ hA⟩ rfl rfl hl.1 rfl (lv_room (Nat.le_of_ble_eq_true rfl)) dL_law_360 ⟨by show qn c_79 - 32 + 0 ≤ 600000; have := hbd.1; omega, by show qs c_79 + 9895 + 0 ≤ 7302250; have := hbd.2; omega⟩) (fun H locs hsz hp => ?_)
  refine lv_pop hx hb dL_law_363 rfl ?_
  refine lv_goto (tgt := 972) hx hb dL_law_364 (by decide) ?_
  obtain ⟨v_85, ev_85, hf⟩ := nam_some hf
  refine lv_iinc (v := v_85) (lv' := [(3, .int v_85), (0, .ref b), (1, .ref (ad 32)), (2, .ref h)]) hx hb dL_law_972 hl (k := 3) rfl ev_85.symm (by decide) rfl (fun ls hl => ?_)
  refine lv_goto (tgt := 18) hx hb dL_law_975 (by decide) ?_
  exact hKW v_85 c_79 q_84 hf _ _ _ hp hbd (lv_sub hl [1, 2, 3, 0] rfl)
noncomputable def lawF_7 (L : Nat) (xs : Nat → Int32) (K : Int32 → CS → RS → Option Int32) (i : Int32) (c0 : CS) (r0 : RS) : Option Int32 := gd (vp_in (i + 1) L) (gd (qk c0 32 = 11) (bnd (fX8_load 32 (xs (i + 1).toNatClampNeg) c0) (fun r_88 c_89 => gd (vp_in (i + 1) L) (bnd (x9_load (xs (i + 1).toNatClampNeg) r0) (fun r_93 q_94 => nam (i + 6) (fun v_95 => K v_95 c_89 q_94))))))
set_option maxHeartbeats 4000000 in
set_option maxRecDepth 100000 in
theorem law_7 (l : Launch) {p : Program} {e : Env} {s : State} {m : MethodId} {below : List Frame} {meth : Method} {c : Code} {b L : Nat} {xs : Nat → Int32} {A : Nat → Prop} (C0 : lw_At p s m meth c b L xs) (hts : ∀ w ∈ lwT, w.before #[Value.ref b] s = true) (hA : ∀ q : Nat, s.heap.size ≤ q → A q) (hbA : ¬ A b) (dC : Nat → ClassId) (dI : Nat → Nat → Nat) (ka ad : Nat → Nat) (ct : Nat → ClassId) (h : Nat) (a : Nat → Nat) (ca : Nat → ClassId) (had : ∀ i, 32 ≤ i → ad i = s.heap.size + (i - 32)) (hK1 : va_K (dC, dI) vwCl (cT ct) s) (hK2 : va_K (dC, dI) vwCl (rT ca) s) (hN : NX s) (hZ : cz A s s.heap) (hC : kS ka A s s.heap) (hR : kR ka s) (hL : kL s) (K : Int32 → CS → RS → Option Int32) (hKW : ∀ (i : Int32) (c0 : CS) (r0 : RS), K i c0 r0 = some 1 → ∀ (H : Heap) (locs : List Loc) (ls : Array Slot), Lp (dC, dI) ka ad ct h a ca A s.heap c0 r0 H locs → (qn c0 ≤ 600000 ∧ qs c0 ≤ 7000000) → lv_has ls 4 [(0, .ref b), (1, .ref (ad 32)), (2, .ref h), (3, .int i)] → W p l e room_1 s m #[Value.ref b] below meth c H locs (qn c0 - 32) (qs c0 + 9895) (lw_Z below #[Value.ref b] s) (F0 m 18 ls [])) (i : Int32) (c0 : CS) (r0 : RS) (hf : lawF_7 L xs K i c0 r0 = some 1) (H : Heap) (locs : List Loc) (ls : Array Slot) (hp : Lp (dC, dI) ka ad ct h a ca A s.heap c0 r0 H locs) (hbd : qn c0 ≤ 600000 ∧ qs c0 ≤ 7000000) (hl : lv_has ls 4 [(0, .ref b), (1, .ref (ad 32)), (2, .ref h), (3, .int i)]) : W p l e room_1 s m #[Value.ref b] below meth c H locs (qn c0 - 32) (qs c0 + 9895) (lw_Z below #[Value.ref b] s) (F0 m 367 ls []) := by
  obtain ⟨hx, hb, hr, hml, hown, -, hX, hbl, hlocks, hgv⟩ := C0
  unfold lawF_7 at hf
  refine lv_aload_n hx hb dL_law_367 rfl (lv_at hl 1 rfl) ?_
  refine lv_aload_n hx hb dL_law_368 rfl (lv_at hl 0 rfl) ?_
  refine lv_iload_n hx hb dL_law_369 rfl (lv_at hl 3 rfl) ?_
  refine lv_iconst (v := 1) hx hb dL_law_370 (by decide) ?_
  refine lv_iadd hx hb dL_law_371 ?_
  obtain ⟨g_86, hf⟩ := gd_some hf
  refine va_sld hx hb hX hbl hbA hp.1.2.1 g_86 dL_law_372 ?_
  obtain ⟨hk_90, hf⟩ := gd_some hf
  obtain ⟨r_88, c_89, hc_87, hf⟩ := bnd_some hf
  have h32 := hp.1.2.2.1.1
  refine l_ci hp hA (mo_X8_load 32 (xs (i + 1).toNatClampNeg) _ _ _ hc_87).mo (va_runV (As := [.int (xs (i + 1).toNatClampNeg)]) (rest := []) ⟨hx, hb, hml, hown, hts⟩ (c_X8_load l dC dI ka ad ct 32 (xs (i + 1).toNatClampNeg) _ _ _ hc_87 _) (cwV 1 hts gl_X8_load_46 rfl rfl rfl (by decide +kernel) ⟨Nat.le_of_ble_eq_true rfl, Nat.le_of_ble_eq_true rfl⟩) ⟨PrC.blind _, q_recv (ci := 10) hK1 hp.1 hC hk_90 (by decide) rfl (fun h => absurd h (by decide)), q_pre hp.1 hK1 hN hZ hC hR hL hA⟩ rfl rfl hl.1 rfl (lv_room (Nat.le_of_ble_eq_true rfl)) dL_law_373 ⟨by show qn c0 - 32 + 0 ≤ 600000; have := hbd.1; omega, by show qs c0 + 9895 + 0 ≤ 7302250; have := hbd.2; omega⟩) (fun H locs hp => ?_)
  refine W.widen (k := qn c_89 - 32) (n := qs c_89 + 9895) (by have := (mo_X8_load 32 (xs (i + 1).toNatClampNeg) _ _ _ hc_87).1; omega) (by have := (mo_X8_load 32 (xs (i + 1).toNatClampNeg) _ _ _ hc_87).2.1; omega) ?_
  have hbd : qn c_89 ≤ 600000 ∧ qs c_89 ≤ 7000000 := by rw [(mo_X8_load 32 (xs (i + 1).toNatClampNeg) _ _ _ hc_87).1, (mo_X8_load 32 (xs (i + 1).toNatClampNeg) _ _ _ hc_87).2.1]; exact hbd
  refine lv_pop hx hb dL_law_376 rfl ?_
  refine lv_aload_n hx hb dL_law_377 rfl (lv_at hl 2 rfl) ?_
  refine lv_aload_n hx hb dL_law_378 rfl (lv_at hl 0 rfl) ?_
  refine lv_iload_n hx hb dL_law_379 rfl (lv_at hl 3 rfl) ?_
  refine lv_iconst (v := 1) hx hb dL_law_380 (by decide) ?_
  refine lv_iadd hx hb dL_law_381 ?_
  obtain ⟨g_91, hf⟩ := gd_some hf
  refine va_sld hx hb hX hbl hbA hp.1.2.1 g_91 dL_law_382 ?_
  obtain ⟨r_93, q_94, hc_92, hf⟩ := bnd_some hf
  refine l_ri hp hA (Lp.sz had hp) (va_runV (As := [.int (xs (i + 1).toNatClampNeg)]) (rest := []) ⟨hx, hb, hml, hown, hts⟩ (c_X9_load l dC dI h a ca (xs (i + 1).toNatClampNeg) _ _ _ hc_92 _) (cwV 1 hts gl_X9_load_49 rfl rfl rfl (by decide +kernel) ⟨Nat.le_of_ble_eq_true rfl, Nat.le_of_ble_eq_true rfl⟩) ⟨Pr.blind _, va_recv hK2 hp.2.1.1 (ci := 11) (q0 := 0) rfl rfl, r_pre hp.2.1 hK2 hN hZ hA⟩ rfl rfl hl.1 rfl (lv_room (Nat.le_of_ble_eq_true rfl)) dL_law_383 ⟨by show qn c_89 - 32 + 0 ≤ 600000; have := hbd.1; omega, by show qs c_89 + 9895 + 0 ≤ 7302250; have := hbd.2; omega⟩) (fun H locs hsz hp => ?_)
  refine lv_pop hx hb dL_law_386 rfl ?_
  refine lv_goto (tgt := 972) hx hb dL_law_387 (by decide) ?_
  obtain ⟨v_95, ev_95, hf⟩ := nam_some hf
  refine lv_iinc (v := v_95) (lv' := [(3, .int v_95), (0, .ref b), (1, .ref (ad 32)), (2, .ref h)]) hx hb dL_law_972 hl (k := 3) rfl ev_95.symm (by decide) rfl (fun ls hl => ?_)
  refine lv_goto (tgt := 18) hx hb dL_law_975 (by decide) ?_
  exact hKW v_95 c_89 q_94 hf _ _ _ hp hbd (lv_sub hl [1, 2, 3, 0] rfl)
noncomputable def lawF_8 (L : Nat) (xs : Nat → Int32) (K : Int32 → CS → RS → Option Int32) (i : Int32) (c0 : CS) (r0 : RS) : Option Int32 := gd (vp_in (i + 1) L) (gd (vp_in (i + 2) L) (gd (vp_in (i + 3) L) (gd (vp_in (i + 4) L) (gd (vp_in (i + 5) L) (gd (qk c0 32 = 11) (bnd (fX8_set 32 (xs (i + 1).toNatClampNeg) (xs (i + 2).toNatClampNeg) (xs (i + 3).toNatClampNeg) ((((xs (i + 4).toNatClampNeg).toInt64) <<< ((32 : Int32).toInt64 &&& 63)) ||| (((xs (i + 5).toNatClampNeg).toInt64) &&& 4294967295)) c0) (fun r_102 c_103 => gd (vp_in (i + 1) L) (gd (vp_in (i + 2) L) (gd (vp_in (i + 3) L) (gd (vp_in (i + 4) L) (gd (vp_in (i + 5) L) (bnd (x9_set (xs (i + 1).toNatClampNeg) (xs (i + 2).toNatClampNeg) (xs (i + 3).toNatClampNeg) ((((xs (i + 4).toNatClampNeg).toInt64) <<< ((32 : Int32).toInt64 &&& 63)) ||| (((xs (i + 5).toNatClampNeg).toInt64) &&& 4294967295)) r0) (fun r_111 q_112 => nam (i + 6) (fun v_113 => K v_113 c_103 q_112))))))))))))))
set_option maxHeartbeats 4000000 in
set_option maxRecDepth 100000 in
theorem law_8 (l : Launch) {p : Program} {e : Env} {s : State} {m : MethodId} {below : List Frame} {meth : Method} {c : Code} {b L : Nat} {xs : Nat → Int32} {A : Nat → Prop} (C0 : lw_At p s m meth c b L xs) (hts : ∀ w ∈ lwT, w.before #[Value.ref b] s = true) (hA : ∀ q : Nat, s.heap.size ≤ q → A q) (hbA : ¬ A b) (dC : Nat → ClassId) (dI : Nat → Nat → Nat) (ka ad : Nat → Nat) (ct : Nat → ClassId) (h : Nat) (a : Nat → Nat) (ca : Nat → ClassId) (had : ∀ i, 32 ≤ i → ad i = s.heap.size + (i - 32)) (hK1 : va_K (dC, dI) vwCl (cT ct) s) (hK2 : va_K (dC, dI) vwCl (rT ca) s) (hN : NX s) (hZ : cz A s s.heap) (hC : kS ka A s s.heap) (hR : kR ka s) (hL : kL s) (K : Int32 → CS → RS → Option Int32) (hKW : ∀ (i : Int32) (c0 : CS) (r0 : RS), K i c0 r0 = some 1 → ∀ (H : Heap) (locs : List Loc) (ls : Array Slot), Lp (dC, dI) ka ad ct h a ca A s.heap c0 r0 H locs → (qn c0 ≤ 600000 ∧ qs c0 ≤ 7000000) → lv_has ls 4 [(0, .ref b), (1, .ref (ad 32)), (2, .ref h), (3, .int i)] → W p l e room_1 s m #[Value.ref b] below meth c H locs (qn c0 - 32) (qs c0 + 9895) (lw_Z below #[Value.ref b] s) (F0 m 18 ls [])) (i : Int32) (c0 : CS) (r0 : RS) (hf : lawF_8 L xs K i c0 r0 = some 1) (H : Heap) (locs : List Loc) (ls : Array Slot) (hp : Lp (dC, dI) ka ad ct h a ca A s.heap c0 r0 H locs) (hbd : qn c0 ≤ 600000 ∧ qs c0 ≤ 7000000) (hl : lv_has ls 4 [(0, .ref b), (1, .ref (ad 32)), (2, .ref h), (3, .int i)]) : W p l e room_1 s m #[Value.ref b] below meth c H locs (qn c0 - 32) (qs c0 + 9895) (lw_Z below #[Value.ref b] s) (F0 m 390 ls []) := by
  obtain ⟨hx, hb, hr, hml, hown, -, hX, hbl, hlocks, hgv⟩ := C0
  unfold lawF_8 at hf
  refine lv_aload_n hx hb dL_law_390 rfl (lv_at hl 1 rfl) ?_
  refine lv_aload_n hx hb dL_law_391 rfl (lv_at hl 0 rfl) ?_
  refine lv_iload_n hx hb dL_law_392 rfl (lv_at hl 3 rfl) ?_
  refine lv_iconst (v := 1) hx hb dL_law_393 (by decide) ?_
  refine lv_iadd hx hb dL_law_394 ?_
  obtain ⟨g_96, hf⟩ := gd_some hf
  refine va_sld hx hb hX hbl hbA hp.1.2.1 g_96 dL_law_395 ?_
  refine lv_aload_n hx hb dL_law_396 rfl (lv_at hl 0 rfl) ?_
  refine lv_iload_n hx hb dL_law_397 rfl (lv_at hl 3 rfl) ?_
  refine lv_iconst (v := 2) hx hb dL_law_398 (by decide) ?_
  refine lv_iadd hx hb dL_law_399 ?_
  obtain ⟨g_97, hf⟩ := gd_some hf
  refine va_sld hx hb hX hbl hbA hp.1.2.1 g_97 dL_law_400 ?_
  refine lv_aload_n hx hb dL_law_401 rfl (lv_at hl 0 rfl) ?_
  refine lv_iload_n hx hb dL_law_402 rfl (lv_at hl 3 rfl) ?_
  refine lv_iconst (v := 3) hx hb dL_law_403 (by decide) ?_
  refine lv_iadd hx hb dL_law_404 ?_
  obtain ⟨g_98, hf⟩ := gd_some hf
  refine va_sld hx hb hX hbl hbA hp.1.2.1 g_98 dL_law_405 ?_
  refine lv_aload_n hx hb dL_law_406 rfl (lv_at hl 0 rfl) ?_
  refine lv_iload_n hx hb dL_law_407 rfl (lv_at hl 3 rfl) ?_
  refine lv_iconst (v := 4) hx hb dL_law_408 (by decide) ?_
  refine lv_iadd hx hb dL_law_409 ?_
  obtain ⟨g_99, hf⟩ := gd_some hf
  refine va_sld hx hb hX hbl hbA hp.1.2.1 g_99 dL_law_410 ?_
  refine lv_i2l (v := (xs (i + 4).toNatClampNeg).toInt64) hx hb dL_law_411 rfl ?_
  refine lv_bipush (v := 32) hx hb dL_law_412 (by decide) ?_
  refine lv_lshl (v := ((xs (i + 4).toNatClampNeg).toInt64) <<< ((32 : Int32).toInt64 &&& 63)) hx hb dL_law_414 rfl ?_
  refine lv_aload_n hx hb dL_law_415 rfl (lv_at hl 0 rfl) ?_
  refine lv_iload_n hx hb dL_law_416 rfl (lv_at hl 3 rfl) ?_
  refine lv_iconst (v := 5) hx hb dL_law_417 (by decide) ?_
  refine lv_iadd hx hb dL_law_418 ?_
  obtain ⟨g_100, hf⟩ := gd_some hf
  refine va_sld hx hb hX hbl hbA hp.1.2.1 g_100 dL_law_419 ?_
  refine lv_i2l (v := (xs (i + 5).toNatClampNeg).toInt64) hx hb dL_law_420 rfl ?_
  refine lv_ldc2 hx hb hown (hts (.constantLong RL 50 (4294967295)) (by decide +kernel)) dL_law_421 ?_
  refine lv_land hx hb dL_law_424 ?_
  refine lv_lor hx hb dL_law_425 ?_
  obtain ⟨hk_104, hf⟩ := gd_some hf
  obtain ⟨r_102, c_103, hc_101, hf⟩ := bnd_some hf
  have h32 := hp.1.2.2.1.1
  refine l_ci hp hA (mo_X8_set 32 (xs (i + 1).toNatClampNeg) (xs (i + 2).toNatClampNeg) (xs (i + 3).toNatClampNeg) ((((xs (i + 4).toNatClampNeg).toInt64) <<< ((32 : Int32).toInt64 &&& 63)) ||| (((xs (i + 5).toNatClampNeg).toInt64) &&& 4294967295)) _ _ _ hc_101).mo (va_runV (As := [.int (xs (i + 1).toNatClampNeg), .int (xs (i + 2).toNatClampNeg), .int (xs (i + 3).toNatClampNeg), .long ((((xs (i + 4).toNatClampNeg).toInt64) <<< ((32 : Int32).toInt64 &&& 63)) ||| (((xs (i + 5).toNatClampNeg).toInt64) &&& 4294967295))]) (rest := []) ⟨hx, hb, hml, hown, hts⟩ (c_X8_set l dC dI ka ad ct 32 (xs (i + 1).toNatClampNeg) (xs (i + 2).toNatClampNeg) (xs (i + 3).toNatClampNeg) ((((xs (i + 4).toNatClampNeg).toInt64) <<< ((32 : Int32).toInt64 &&& 63)) ||| (((xs (i + 5).toNatClampNeg).toInt64) &&& 4294967295)) _ _ _ hc_101 _) (cwV 4 hts gl_X8_set_52 rfl rfl rfl (by decide +kernel) ⟨Nat.le_of_ble_eq_true rfl, Nat.le_of_ble_eq_true rfl⟩) ⟨PrC.blind _, q_recv (ci := 10) hK1 hp.1 hC hk_104 (by decide) rfl (fun h => absurd h (by decide)), q_pre hp.1 hK1 hN hZ hC hR hL hA⟩ rfl rfl hl.1 rfl (lv_room (Nat.le_of_ble_eq_true rfl)) dL_law_426 ⟨by show qn c0 - 32 + 0 ≤ 600000; have := hbd.1; omega, by show qs c0 + 9895 + 0 ≤ 7302250; have := hbd.2; omega⟩) (fun H locs hp => ?_)
  refine W.widen (k := qn c_103 - 32) (n := qs c_103 + 9895) (by have := (mo_X8_set 32 (xs (i + 1).toNatClampNeg) (xs (i + 2).toNatClampNeg) (xs (i + 3).toNatClampNeg) ((((xs (i + 4).toNatClampNeg).toInt64) <<< ((32 : Int32).toInt64 &&& 63)) ||| (((xs (i + 5).toNatClampNeg).toInt64) &&& 4294967295)) _ _ _ hc_101).1; omega) (by have := (mo_X8_set 32 (xs (i + 1).toNatClampNeg) (xs (i + 2).toNatClampNeg) (xs (i + 3).toNatClampNeg) ((((xs (i + 4).toNatClampNeg).toInt64) <<< ((32 : Int32).toInt64 &&& 63)) ||| (((xs (i + 5).toNatClampNeg).toInt64) &&& 4294967295)) _ _ _ hc_101).2.1; omega) ?_
  have hbd : qn c_103 ≤ 600000 ∧ qs c_103 ≤ 7000000 := by rw [(mo_X8_set 32 (xs (i + 1).toNatClampNeg) (xs (i + 2).toNatClampNeg) (xs (i + 3).toNatClampNeg) ((((xs (i + 4).toNatClampNeg).toInt64) <<< ((32 : Int32).toInt64 &&& 63)) ||| (((xs (i + 5).toNatClampNeg).toInt64) &&& 4294967295)) _ _ _ hc_101).1, (mo_X8_set 32 (xs (i + 1).toNatClampNeg) (xs (i + 2).toNatClampNeg) (xs (i + 3).toNatClampNeg) ((((xs (i + 4).toNatClampNeg).toInt64) <<< ((32 : Int32).toInt64 &&& 63)) ||| (((xs (i + 5).toNatClampNeg).toInt64) &&& 4294967295)) _ _ _ hc_101).2.1]; exact hbd
  refine lv_pop hx hb dL_law_429 rfl ?_
  refine lv_aload_n hx hb dL_law_430 rfl (lv_at hl 2 rfl) ?_
  refine lv_aload_n hx hb dL_law_431 rfl (lv_at hl 0 rfl) ?_
  refine lv_iload_n hx hb dL_law_432 rfl (lv_at hl 3 rfl) ?_
  refine lv_iconst (v := 1) hx hb dL_law_433 (by decide) ?_
  refine lv_iadd hx hb dL_law_434 ?_
  obtain ⟨g_105, hf⟩ := gd_some hf
  refine va_sld hx hb hX hbl hbA hp.1.2.1 g_105 dL_law_435 ?_
  refine lv_aload_n hx hb dL_law_436 rfl (lv_at hl 0 rfl) ?_
  refine lv_iload_n hx hb dL_law_437 rfl (lv_at hl 3 rfl) ?_
  refine lv_iconst (v := 2) hx hb dL_law_438 (by decide) ?_
  refine lv_iadd hx hb dL_law_439 ?_
  obtain ⟨g_106, hf⟩ := gd_some hf
  refine va_sld hx hb hX hbl hbA hp.1.2.1 g_106 dL_law_440 ?_
  refine lv_aload_n hx hb dL_law_441 rfl (lv_at hl 0 rfl) ?_
  refine lv_iload_n hx hb dL_law_442 rfl (lv_at hl 3 rfl) ?_
  refine lv_iconst (v := 3) hx hb dL_law_443 (by decide) ?_
  refine lv_iadd hx hb dL_law_444 ?_
  obtain ⟨g_107, hf⟩ := gd_some hf
  refine va_sld hx hb hX hbl hbA hp.1.2.1 g_107 dL_law_445 ?_
  refine lv_aload_n hx hb dL_law_446 rfl (lv_at hl 0 rfl) ?_
  refine lv_iload_n hx hb dL_law_447 rfl (lv_at hl 3 rfl) ?_
  refine lv_iconst (v := 4) hx hb dL_law_448 (by decide) ?_
  refine lv_iadd hx hb dL_law_449 ?_
  obtain ⟨g_108, hf⟩ := gd_some hf
  refine va_sld hx hb hX hbl hbA hp.1.2.1 g_108 dL_law_450 ?_
  refine lv_i2l (v := (xs (i + 4).toNatClampNeg).toInt64) hx hb dL_law_451 rfl ?_
  refine lv_bipush (v := 32) hx hb dL_law_452 (by decide) ?_
  refine lv_lshl (v := ((xs (i + 4).toNatClampNeg).toInt64) <<< ((32 : Int32).toInt64 &&& 63)) hx hb dL_law_454 rfl ?_
  refine lv_aload_n hx hb dL_law_455 rfl (lv_at hl 0 rfl) ?_
  refine lv_iload_n hx hb dL_law_456 rfl (lv_at hl 3 rfl) ?_
  refine lv_iconst (v := 5) hx hb dL_law_457 (by decide) ?_
  refine lv_iadd hx hb dL_law_458 ?_
  obtain ⟨g_109, hf⟩ := gd_some hf
  refine va_sld hx hb hX hbl hbA hp.1.2.1 g_109 dL_law_459 ?_
  refine lv_i2l (v := (xs (i + 5).toNatClampNeg).toInt64) hx hb dL_law_460 rfl ?_
  refine lv_ldc2 hx hb hown (hts (.constantLong RL 50 (4294967295)) (by decide +kernel)) dL_law_461 ?_
  refine lv_land hx hb dL_law_464 ?_
  refine lv_lor hx hb dL_law_465 ?_
  obtain ⟨r_111, q_112, hc_110, hf⟩ := bnd_some hf
  refine l_ri hp hA (Lp.sz had hp) (va_runV (As := [.int (xs (i + 1).toNatClampNeg), .int (xs (i + 2).toNatClampNeg), .int (xs (i + 3).toNatClampNeg), .long ((((xs (i + 4).toNatClampNeg).toInt64) <<< ((32 : Int32).toInt64 &&& 63)) ||| (((xs (i + 5).toNatClampNeg).toInt64) &&& 4294967295))]) (rest := []) ⟨hx, hb, hml, hown, hts⟩ (c_X9_set l dC dI h a ca (xs (i + 1).toNatClampNeg) (xs (i + 2).toNatClampNeg) (xs (i + 3).toNatClampNeg) ((((xs (i + 4).toNatClampNeg).toInt64) <<< ((32 : Int32).toInt64 &&& 63)) ||| (((xs (i + 5).toNatClampNeg).toInt64) &&& 4294967295)) _ _ _ hc_110 _) (cwV 4 hts gl_X9_set_56 rfl rfl rfl (by decide +kernel) ⟨Nat.le_of_ble_eq_true rfl, Nat.le_of_ble_eq_true rfl⟩) ⟨Pr.blind _, va_recv hK2 hp.2.1.1 (ci := 11) (q0 := 0) rfl rfl, r_pre hp.2.1 hK2 hN hZ hA⟩ rfl rfl hl.1 rfl (lv_room (Nat.le_of_ble_eq_true rfl)) dL_law_466 ⟨by show qn c_103 - 32 + 0 ≤ 600000; have := hbd.1; omega, by show qs c_103 + 9895 + 0 ≤ 7302250; have := hbd.2; omega⟩) (fun H locs hsz hp => ?_)
  refine lv_pop hx hb dL_law_469 rfl ?_
  refine lv_goto (tgt := 972) hx hb dL_law_470 (by decide) ?_
  obtain ⟨v_113, ev_113, hf⟩ := nam_some hf
  refine lv_iinc (v := v_113) (lv' := [(3, .int v_113), (0, .ref b), (1, .ref (ad 32)), (2, .ref h)]) hx hb dL_law_972 hl (k := 3) rfl ev_113.symm (by decide) rfl (fun ls hl => ?_)
  refine lv_goto (tgt := 18) hx hb dL_law_975 (by decide) ?_
  exact hKW v_113 c_103 q_112 hf _ _ _ hp hbd (lv_sub hl [1, 2, 3, 0] rfl)
noncomputable def lawF_9 (L : Nat) (xs : Nat → Int32) (K : Int32 → CS → RS → Option Int32) (i : Int32) (c0 : CS) (r0 : RS) : Option Int32 := gd (vp_in (i + 1) L) (gd (vp_in (i + 2) L) (gd (vp_in (i + 3) L) (gd (qk c0 32 = 11) (bnd (fX8_say 32 (xs (i + 1).toNatClampNeg) (xs (i + 2).toNatClampNeg) (xs (i + 3).toNatClampNeg) c0) (fun r_118 c_119 => gd (vp_in (i + 1) L) (gd (vp_in (i + 2) L) (gd (vp_in (i + 3) L) (bnd (x9_say (xs (i + 1).toNatClampNeg) (xs (i + 2).toNatClampNeg) (xs (i + 3).toNatClampNeg) r0) (fun r_125 q_126 => nam (i + 6) (fun v_127 => K v_127 c_119 q_126))))))))))
set_option maxHeartbeats 4000000 in
set_option maxRecDepth 100000 in
theorem law_9 (l : Launch) {p : Program} {e : Env} {s : State} {m : MethodId} {below : List Frame} {meth : Method} {c : Code} {b L : Nat} {xs : Nat → Int32} {A : Nat → Prop} (C0 : lw_At p s m meth c b L xs) (hts : ∀ w ∈ lwT, w.before #[Value.ref b] s = true) (hA : ∀ q : Nat, s.heap.size ≤ q → A q) (hbA : ¬ A b) (dC : Nat → ClassId) (dI : Nat → Nat → Nat) (ka ad : Nat → Nat) (ct : Nat → ClassId) (h : Nat) (a : Nat → Nat) (ca : Nat → ClassId) (had : ∀ i, 32 ≤ i → ad i = s.heap.size + (i - 32)) (hK1 : va_K (dC, dI) vwCl (cT ct) s) (hK2 : va_K (dC, dI) vwCl (rT ca) s) (hN : NX s) (hZ : cz A s s.heap) (hC : kS ka A s s.heap) (hR : kR ka s) (hL : kL s) (K : Int32 → CS → RS → Option Int32) (hKW : ∀ (i : Int32) (c0 : CS) (r0 : RS), K i c0 r0 = some 1 → ∀ (H : Heap) (locs : List Loc) (ls : Array Slot), Lp (dC, dI) ka ad ct h a ca A s.heap c0 r0 H locs → (qn c0 ≤ 600000 ∧ qs c0 ≤ 7000000) → lv_has ls 4 [(0, .ref b), (1, .ref (ad 32)), (2, .ref h), (3, .int i)] → W p l e room_1 s m #[Value.ref b] below meth c H locs (qn c0 - 32) (qs c0 + 9895) (lw_Z below #[Value.ref b] s) (F0 m 18 ls [])) (i : Int32) (c0 : CS) (r0 : RS) (hf : lawF_9 L xs K i c0 r0 = some 1) (H : Heap) (locs : List Loc) (ls : Array Slot) (hp : Lp (dC, dI) ka ad ct h a ca A s.heap c0 r0 H locs) (hbd : qn c0 ≤ 600000 ∧ qs c0 ≤ 7000000) (hl : lv_has ls 4 [(0, .ref b), (1, .ref (ad 32)), (2, .ref h), (3, .int i)]) : W p l e room_1 s m #[Value.ref b] below meth c H locs (qn c0 - 32) (qs c0 + 9895) (lw_Z below #[Value.ref b] s) (F0 m 473 ls []) := by
  obtain ⟨hx, hb, hr, hml, hown, -, hX, hbl, hlocks, hgv⟩ := C0
  unfold lawF_9 at hf
  refine lv_aload_n hx hb dL_law_473 rfl (lv_at hl 1 rfl) ?_
  refine lv_aload_n hx hb dL_law_474 rfl (lv_at hl 0 rfl) ?_
  refine lv_iload_n hx hb dL_law_475 rfl (lv_at hl 3 rfl) ?_
  refine lv_iconst (v := 1) hx hb dL_law_476 (by decide) ?_
  refine lv_iadd hx hb dL_law_477 ?_
  obtain ⟨g_114, hf⟩ := gd_some hf
  refine va_sld hx hb hX hbl hbA hp.1.2.1 g_114 dL_law_478 ?_
  refine lv_aload_n hx hb dL_law_479 rfl (lv_at hl 0 rfl) ?_
  refine lv_iload_n hx hb dL_law_480 rfl (lv_at hl 3 rfl) ?_
  refine lv_iconst (v := 2) hx hb dL_law_481 (by decide) ?_
  refine lv_iadd hx hb dL_law_482 ?_
  obtain ⟨g_115, hf⟩ := gd_some hf
  refine va_sld hx hb hX hbl hbA hp.1.2.1 g_115 dL_law_483 ?_
  refine lv_aload_n hx hb dL_law_484 rfl (lv_at hl 0 rfl) ?_
  refine lv_iload_n hx hb dL_law_485 rfl (lv_at hl 3 rfl) ?_
  refine lv_iconst (v := 3) hx hb dL_law_486 (by decide) ?_
  refine lv_iadd hx hb dL_law_487 ?_
  obtain ⟨g_116, hf⟩ := gd_some hf
  refine va_sld hx hb hX hbl hbA hp.1.2.1 g_116 dL_law_488 ?_
  obtain ⟨hk_120, hf⟩ := gd_some hf
  obtain ⟨r_118, c_119, hc_117, hf⟩ := bnd_some hf
  have h32 := hp.1.2.2.1.1
  refine l_ci hp hA (mo_X8_say 32 (xs (i + 1).toNatClampNeg) (xs (i + 2).toNatClampNeg) (xs (i + 3).toNatClampNeg) _ _ _ hc_117).mo (va_runV (As := [.int (xs (i + 1).toNatClampNeg), .int (xs (i + 2).toNatClampNeg), .int (xs (i + 3).toNatClampNeg)]) (rest := []) ⟨hx, hb, hml, hown, hts⟩ (c_X8_say l dC dI ka ad ct 32 (xs (i + 1).toNatClampNeg) (xs (i + 2).toNatClampNeg) (xs (i + 3).toNatClampNeg) _ _ _ hc_117 _) (cwV 3 hts gl_X8_say_57 rfl rfl rfl (by decide +kernel) ⟨Nat.le_of_ble_eq_true rfl, Nat.le_of_ble_eq_true rfl⟩) ⟨PrC.blind _, q_recv (ci := 10) hK1 hp.1 hC hk_120 (by decide) rfl (fun h => absurd h (by decide)), q_pre hp.1 hK1 hN hZ hC hR hL hA⟩ rfl rfl hl.1 rfl (lv_room (Nat.le_of_ble_eq_true rfl)) dL_law_489 ⟨by show qn c0 - 32 + 0 ≤ 600000; have := hbd.1; omega, by show qs c0 + 9895 + 0 ≤ 7302250; have := hbd.2; omega⟩) (fun H locs hp => ?_)
  refine W.widen (k := qn c_119 - 32) (n := qs c_119 + 9895) (by have := (mo_X8_say 32 (xs (i + 1).toNatClampNeg) (xs (i + 2).toNatClampNeg) (xs (i + 3).toNatClampNeg) _ _ _ hc_117).1; omega) (by have := (mo_X8_say 32 (xs (i + 1).toNatClampNeg) (xs (i + 2).toNatClampNeg) (xs (i + 3).toNatClampNeg) _ _ _ hc_117).2.1; omega) ?_
  have hbd : qn c_119 ≤ 600000 ∧ qs c_119 ≤ 7000000 := by rw [(mo_X8_say 32 (xs (i + 1).toNatClampNeg) (xs (i + 2).toNatClampNeg) (xs (i + 3).toNatClampNeg) _ _ _ hc_117).1, (mo_X8_say 32 (xs (i + 1).toNatClampNeg) (xs (i + 2).toNatClampNeg) (xs (i + 3).toNatClampNeg) _ _ _ hc_117).2.1]; exact hbd
  refine lv_pop hx hb dL_law_492 rfl ?_
  refine lv_aload_n hx hb dL_law_493 rfl (lv_at hl 2 rfl) ?_
  refine lv_aload_n hx hb dL_law_494 rfl (lv_at hl 0 rfl) ?_
  refine lv_iload_n hx hb dL_law_495 rfl (lv_at hl 3 rfl) ?_
  refine lv_iconst (v := 1) hx hb dL_law_496 (by decide) ?_
  refine lv_iadd hx hb dL_law_497 ?_
  obtain ⟨g_121, hf⟩ := gd_some hf
  refine va_sld hx hb hX hbl hbA hp.1.2.1 g_121 dL_law_498 ?_
  refine lv_aload_n hx hb dL_law_499 rfl (lv_at hl 0 rfl) ?_
  refine lv_iload_n hx hb dL_law_500 rfl (lv_at hl 3 rfl) ?_
  refine lv_iconst (v := 2) hx hb dL_law_501 (by decide) ?_
  refine lv_iadd hx hb dL_law_502 ?_
  obtain ⟨g_122, hf⟩ := gd_some hf
  refine va_sld hx hb hX hbl hbA hp.1.2.1 g_122 dL_law_503 ?_
  refine lv_aload_n hx hb dL_law_504 rfl (lv_at hl 0 rfl) ?_
  refine lv_iload_n hx hb dL_law_505 rfl (lv_at hl 3 rfl) ?_
  refine lv_iconst (v := 3) hx hb dL_law_506 (by decide) ?_
  refine lv_iadd hx hb dL_law_507 ?_
  obtain ⟨g_123, hf⟩ := gd_some hf
  refine va_sld hx hb hX hbl hbA hp.1.2.1 g_123 dL_law_508 ?_
  obtain ⟨r_125, q_126, hc_124, hf⟩ := bnd_some hf
  refine l_ri hp hA (Lp.sz had hp) (va_runV (As := [.int (xs (i + 1).toNatClampNeg), .int (xs (i + 2).toNatClampNeg), .int (xs (i + 3).toNatClampNeg)]) (rest := []) ⟨hx, hb, hml, hown, hts⟩ (c_X9_say l dC dI h a ca (xs (i + 1).toNatClampNeg) (xs (i + 2).toNatClampNeg) (xs (i + 3).toNatClampNeg) _ _ _ hc_124 _) (cwV 3 hts gl_X9_say_60 rfl rfl rfl (by decide +kernel) ⟨Nat.le_of_ble_eq_true rfl, Nat.le_of_ble_eq_true rfl⟩) ⟨Pr.blind _, va_recv hK2 hp.2.1.1 (ci := 11) (q0 := 0) rfl rfl, r_pre hp.2.1 hK2 hN hZ hA⟩ rfl rfl hl.1 rfl (lv_room (Nat.le_of_ble_eq_true rfl)) dL_law_509 ⟨by show qn c_119 - 32 + 0 ≤ 600000; have := hbd.1; omega, by show qs c_119 + 9895 + 0 ≤ 7302250; have := hbd.2; omega⟩) (fun H locs hsz hp => ?_)
  refine lv_pop hx hb dL_law_512 rfl ?_
  refine lv_goto (tgt := 972) hx hb dL_law_513 (by decide) ?_
  obtain ⟨v_127, ev_127, hf⟩ := nam_some hf
  refine lv_iinc (v := v_127) (lv' := [(3, .int v_127), (0, .ref b), (1, .ref (ad 32)), (2, .ref h)]) hx hb dL_law_972 hl (k := 3) rfl ev_127.symm (by decide) rfl (fun ls hl => ?_)
  refine lv_goto (tgt := 18) hx hb dL_law_975 (by decide) ?_
  exact hKW v_127 c_119 q_126 hf _ _ _ hp hbd (lv_sub hl [1, 2, 3, 0] rfl)
noncomputable def lawF_10 (L : Nat) (xs : Nat → Int32) (K : Int32 → CS → RS → Option Int32) (i : Int32) (c0 : CS) (r0 : RS) : Option Int32 := gd (vp_in (i + 1) L) (gd (vp_in (i + 2) L) (gd (vp_in (i + 3) L) (gd (vp_in (i + 4) L) (gd (qk c0 32 = 11) (bnd (fX8_nest 32 (xs (i + 1).toNatClampNeg) (xs (i + 2).toNatClampNeg) (xs (i + 3).toNatClampNeg) (xs (i + 4).toNatClampNeg) c0) (fun r_133 c_134 => gd (vp_in (i + 1) L) (gd (vp_in (i + 2) L) (gd (vp_in (i + 3) L) (gd (vp_in (i + 4) L) (bnd (x9_nest (xs (i + 1).toNatClampNeg) (xs (i + 2).toNatClampNeg) (xs (i + 3).toNatClampNeg) (xs (i + 4).toNatClampNeg) r0) (fun r_141 q_142 => nam (i + 6) (fun v_143 => K v_143 c_134 q_142))))))))))))
set_option maxHeartbeats 4000000 in
set_option maxRecDepth 100000 in
theorem law_10 (l : Launch) {p : Program} {e : Env} {s : State} {m : MethodId} {below : List Frame} {meth : Method} {c : Code} {b L : Nat} {xs : Nat → Int32} {A : Nat → Prop} (C0 : lw_At p s m meth c b L xs) (hts : ∀ w ∈ lwT, w.before #[Value.ref b] s = true) (hA : ∀ q : Nat, s.heap.size ≤ q → A q) (hbA : ¬ A b) (dC : Nat → ClassId) (dI : Nat → Nat → Nat) (ka ad : Nat → Nat) (ct : Nat → ClassId) (h : Nat) (a : Nat → Nat) (ca : Nat → ClassId) (had : ∀ i, 32 ≤ i → ad i = s.heap.size + (i - 32)) (hK1 : va_K (dC, dI) vwCl (cT ct) s) (hK2 : va_K (dC, dI) vwCl (rT ca) s) (hN : NX s) (hZ : cz A s s.heap) (hC : kS ka A s s.heap) (hR : kR ka s) (hL : kL s) (K : Int32 → CS → RS → Option Int32) (hKW : ∀ (i : Int32) (c0 : CS) (r0 : RS), K i c0 r0 = some 1 → ∀ (H : Heap) (locs : List Loc) (ls : Array Slot), Lp (dC, dI) ka ad ct h a ca A s.heap c0 r0 H locs → (qn c0 ≤ 600000 ∧ qs c0 ≤ 7000000) → lv_has ls 4 [(0, .ref b), (1, .ref (ad 32)), (2, .ref h), (3, .int i)] → W p l e room_1 s m #[Value.ref b] below meth c H locs (qn c0 - 32) (qs c0 + 9895) (lw_Z below #[Value.ref b] s) (F0 m 18 ls [])) (i : Int32) (c0 : CS) (r0 : RS) (hf : lawF_10 L xs K i c0 r0 = some 1) (H : Heap) (locs : List Loc) (ls : Array Slot) (hp : Lp (dC, dI) ka ad ct h a ca A s.heap c0 r0 H locs) (hbd : qn c0 ≤ 600000 ∧ qs c0 ≤ 7000000) (hl : lv_has ls 4 [(0, .ref b), (1, .ref (ad 32)), (2, .ref h), (3, .int i)]) : W p l e room_1 s m #[Value.ref b] below meth c H locs (qn c0 - 32) (qs c0 + 9895) (lw_Z below #[Value.ref b] s) (F0 m 516 ls []) := by
  obtain ⟨hx, hb, hr, hml, hown, -, hX, hbl, hlocks, hgv⟩ := C0
  unfold lawF_10 at hf
  refine lv_aload_n hx hb dL_law_516 rfl (lv_at hl 1 rfl) ?_
  refine lv_aload_n hx hb dL_law_517 rfl (lv_at hl 0 rfl) ?_
  refine lv_iload_n hx hb dL_law_518 rfl (lv_at hl 3 rfl) ?_
  refine lv_iconst (v := 1) hx hb dL_law_519 (by decide) ?_
  refine lv_iadd hx hb dL_law_520 ?_
  obtain ⟨g_128, hf⟩ := gd_some hf
  refine va_sld hx hb hX hbl hbA hp.1.2.1 g_128 dL_law_521 ?_
  refine lv_aload_n hx hb dL_law_522 rfl (lv_at hl 0 rfl) ?_
  refine lv_iload_n hx hb dL_law_523 rfl (lv_at hl 3 rfl) ?_
  refine lv_iconst (v := 2) hx hb dL_law_524 (by decide) ?_
  refine lv_iadd hx hb dL_law_525 ?_
  obtain ⟨g_129, hf⟩ := gd_some hf
  refine va_sld hx hb hX hbl hbA hp.1.2.1 g_129 dL_law_526 ?_
  refine lv_aload_n hx hb dL_law_527 rfl (lv_at hl 0 rfl) ?_
  refine lv_iload_n hx hb dL_law_528 rfl (lv_at hl 3 rfl) ?_
  refine lv_iconst (v := 3) hx hb dL_law_529 (by decide) ?_
  refine lv_iadd hx hb dL_law_530 ?_
  obtain ⟨g_130, hf⟩ := gd_some hf
  refine va_sld hx hb hX hbl hbA hp.1.2.1 g_130 dL_law_531 ?_
  refine lv_aload_n hx hb dL_law_532 rfl (lv_at hl 0 rfl) ?_
  refine lv_iload_n hx hb dL_law_533 rfl (lv_at hl 3 rfl) ?_
  refine lv_iconst (v := 4) hx hb dL_law_534 (by decide) ?_
  refine lv_iadd hx hb dL_law_535 ?_
  obtain ⟨g_131, hf⟩ := gd_some hf
  refine va_sld hx hb hX hbl hbA hp.1.2.1 g_131 dL_law_536 ?_
  obtain ⟨hk_135, hf⟩ := gd_some hf
  obtain ⟨r_133, c_134, hc_132, hf⟩ := bnd_some hf
  have h32 := hp.1.2.2.1.1
  refine l_ci hp hA (mo_X8_nest 32 (xs (i + 1).toNatClampNeg) (xs (i + 2).toNatClampNeg) (xs (i + 3).toNatClampNeg) (xs (i + 4).toNatClampNeg) _ _ _ hc_132).mo (va_runV (As := [.int (xs (i + 1).toNatClampNeg), .int (xs (i + 2).toNatClampNeg), .int (xs (i + 3).toNatClampNeg), .int (xs (i + 4).toNatClampNeg)]) (rest := []) ⟨hx, hb, hml, hown, hts⟩ (c_X8_nest l dC dI ka ad ct 32 (xs (i + 1).toNatClampNeg) (xs (i + 2).toNatClampNeg) (xs (i + 3).toNatClampNeg) (xs (i + 4).toNatClampNeg) _ _ _ hc_132 _) (cwV 4 hts gl_X8_nest_61 rfl rfl rfl (by decide +kernel) ⟨Nat.le_of_ble_eq_true rfl, Nat.le_of_ble_eq_true rfl⟩) ⟨PrC.blind _, q_recv (ci := 10) hK1 hp.1 hC hk_135 (by decide) rfl (fun h => absurd h (by decide)), q_pre hp.1 hK1 hN hZ hC hR hL hA⟩ rfl rfl hl.1 rfl (lv_room (Nat.le_of_ble_eq_true rfl)) dL_law_537 ⟨by show qn c0 - 32 + 0 ≤ 600000; have := hbd.1; omega, by show qs c0 + 9895 + 0 ≤ 7302250; have := hbd.2; omega⟩) (fun H locs hp => ?_)
  refine W.widen (k := qn c_134 - 32) (n := qs c_134 + 9895) (by have := (mo_X8_nest 32 (xs (i + 1).toNatClampNeg) (xs (i + 2).toNatClampNeg) (xs (i + 3).toNatClampNeg) (xs (i + 4).toNatClampNeg) _ _ _ hc_132).1; omega) (by have := (mo_X8_nest 32 (xs (i + 1).toNatClampNeg) (xs (i + 2).toNatClampNeg) (xs (i + 3).toNatClampNeg) (xs (i + 4).toNatClampNeg) _ _ _ hc_132).2.1; omega) ?_
  have hbd : qn c_134 ≤ 600000 ∧ qs c_134 ≤ 7000000 := by rw [(mo_X8_nest 32 (xs (i + 1).toNatClampNeg) (xs (i + 2).toNatClampNeg) (xs (i + 3).toNatClampNeg) (xs (i + 4).toNatClampNeg) _ _ _ hc_132).1, (mo_X8_nest 32 (xs (i + 1).toNatClampNeg) (xs (i + 2).toNatClampNeg) (xs (i + 3).toNatClampNeg) (xs (i + 4).toNatClampNeg) _ _ _ hc_132).2.1]; exact hbd
  refine lv_pop hx hb dL_law_540 rfl ?_
  refine lv_aload_n hx hb dL_law_541 rfl (lv_at hl 2 rfl) ?_
  refine lv_aload_n hx hb dL_law_542 rfl (lv_at hl 0 rfl) ?_
  refine lv_iload_n hx hb dL_law_543 rfl (lv_at hl 3 rfl) ?_
  refine lv_iconst (v := 1) hx hb dL_law_544 (by decide) ?_
  refine lv_iadd hx hb dL_law_545 ?_
  obtain ⟨g_136, hf⟩ := gd_some hf
  refine va_sld hx hb hX hbl hbA hp.1.2.1 g_136 dL_law_546 ?_
  refine lv_aload_n hx hb dL_law_547 rfl (lv_at hl 0 rfl) ?_
  refine lv_iload_n hx hb dL_law_548 rfl (lv_at hl 3 rfl) ?_
  refine lv_iconst (v := 2) hx hb dL_law_549 (by decide) ?_
  refine lv_iadd hx hb dL_law_550 ?_
  obtain ⟨g_137, hf⟩ := gd_some hf
  refine va_sld hx hb hX hbl hbA hp.1.2.1 g_137 dL_law_551 ?_
  refine lv_aload_n hx hb dL_law_552 rfl (lv_at hl 0 rfl) ?_
  refine lv_iload_n hx hb dL_law_553 rfl (lv_at hl 3 rfl) ?_
  refine lv_iconst (v := 3) hx hb dL_law_554 (by decide) ?_
  refine lv_iadd hx hb dL_law_555 ?_
  obtain ⟨g_138, hf⟩ := gd_some hf
  refine va_sld hx hb hX hbl hbA hp.1.2.1 g_138 dL_law_556 ?_
  refine lv_aload_n hx hb dL_law_557 rfl (lv_at hl 0 rfl) ?_
  refine lv_iload_n hx hb dL_law_558 rfl (lv_at hl 3 rfl) ?_
  refine lv_iconst (v := 4) hx hb dL_law_559 (by decide) ?_
  refine lv_iadd hx hb dL_law_560 ?_
  obtain ⟨g_139, hf⟩ := gd_some hf
  refine va_sld hx hb hX hbl hbA hp.1.2.1 g_139 dL_law_561 ?_
  obtain ⟨r_141, q_142, hc_140, hf⟩ := bnd_some hf
  refine l_ri hp hA (Lp.sz had hp) (va_runV (As := [.int (xs (i + 1).toNatClampNeg), .int (xs (i + 2).toNatClampNeg), .int (xs (i + 3).toNatClampNeg), .int (xs (i + 4).toNatClampNeg)]) (rest := []) ⟨hx, hb, hml, hown, hts⟩ (c_X9_nest l dC dI h a ca (xs (i + 1).toNatClampNeg) (xs (i + 2).toNatClampNeg) (xs (i + 3).toNatClampNeg) (xs (i + 4).toNatClampNeg) _ _ _ hc_140 _) (cwV 4 hts gl_X9_nest_65 rfl rfl rfl (by decide +kernel) ⟨Nat.le_of_ble_eq_true rfl, Nat.le_of_ble_eq_true rfl⟩) ⟨Pr.blind _, va_recv hK2 hp.2.1.1 (ci := 11) (q0 := 0) rfl rfl, r_pre hp.2.1 hK2 hN hZ hA⟩ rfl rfl hl.1 rfl (lv_room (Nat.le_of_ble_eq_true rfl)) dL_law_562 ⟨by show qn c_134 - 32 + 0 ≤ 600000; have := hbd.1; omega, by show qs c_134 + 9895 + 0 ≤ 7302250; have := hbd.2; omega⟩) (fun H locs hsz hp => ?_)
  refine lv_pop hx hb dL_law_565 rfl ?_
  refine lv_goto (tgt := 972) hx hb dL_law_566 (by decide) ?_
  obtain ⟨v_143, ev_143, hf⟩ := nam_some hf
  refine lv_iinc (v := v_143) (lv' := [(3, .int v_143), (0, .ref b), (1, .ref (ad 32)), (2, .ref h)]) hx hb dL_law_972 hl (k := 3) rfl ev_143.symm (by decide) rfl (fun ls hl => ?_)
  refine lv_goto (tgt := 18) hx hb dL_law_975 (by decide) ?_
  exact hKW v_143 c_134 q_142 hf _ _ _ hp hbd (lv_sub hl [1, 2, 3, 0] rfl)
noncomputable def lawF_11 (L : Nat) (xs : Nat → Int32) (K : Int32 → CS → RS → Option Int32) (i : Int32) (c0 : CS) (r0 : RS) : Option Int32 := gd (vp_in (i + 1) L) (gd (vp_in (i + 2) L) (gd (vp_in (i + 3) L) (gd (qk c0 32 = 11) (bnd (fX8_drop 32 (xs (i + 1).toNatClampNeg) (xs (i + 2).toNatClampNeg) (xs (i + 3).toNatClampNeg) c0) (fun r_148 c_149 => gd (vp_in (i + 1) L) (gd (vp_in (i + 2) L) (gd (vp_in (i + 3) L) (bnd (x9_drop (xs (i + 1).toNatClampNeg) (xs (i + 2).toNatClampNeg) (xs (i + 3).toNatClampNeg) r0) (fun r_155 q_156 => nam (i + 6) (fun v_157 => K v_157 c_149 q_156))))))))))
set_option maxHeartbeats 4000000 in
set_option maxRecDepth 100000 in
theorem law_11 (l : Launch) {p : Program} {e : Env} {s : State} {m : MethodId} {below : List Frame} {meth : Method} {c : Code} {b L : Nat} {xs : Nat → Int32} {A : Nat → Prop} (C0 : lw_At p s m meth c b L xs) (hts : ∀ w ∈ lwT, w.before #[Value.ref b] s = true) (hA : ∀ q : Nat, s.heap.size ≤ q → A q) (hbA : ¬ A b) (dC : Nat → ClassId) (dI : Nat → Nat → Nat) (ka ad : Nat → Nat) (ct : Nat → ClassId) (h : Nat) (a : Nat → Nat) (ca : Nat → ClassId) (had : ∀ i, 32 ≤ i → ad i = s.heap.size + (i - 32)) (hK1 : va_K (dC, dI) vwCl (cT ct) s) (hK2 : va_K (dC, dI) vwCl (rT ca) s) (hN : NX s) (hZ : cz A s s.heap) (hC : kS ka A s s.heap) (hR : kR ka s) (hL : kL s) (K : Int32 → CS → RS → Option Int32) (hKW : ∀ (i : Int32) (c0 : CS) (r0 : RS), K i c0 r0 = some 1 → ∀ (H : Heap) (locs : List Loc) (ls : Array Slot), Lp (dC, dI) ka ad ct h a ca A s.heap c0 r0 H locs → (qn c0 ≤ 600000 ∧ qs c0 ≤ 7000000) → lv_has ls 4 [(0, .ref b), (1, .ref (ad 32)), (2, .ref h), (3, .int i)] → W p l e room_1 s m #[Value.ref b] below meth c H locs (qn c0 - 32) (qs c0 + 9895) (lw_Z below #[Value.ref b] s) (F0 m 18 ls [])) (i : Int32) (c0 : CS) (r0 : RS) (hf : lawF_11 L xs K i c0 r0 = some 1) (H : Heap) (locs : List Loc) (ls : Array Slot) (hp : Lp (dC, dI) ka ad ct h a ca A s.heap c0 r0 H locs) (hbd : qn c0 ≤ 600000 ∧ qs c0 ≤ 7000000) (hl : lv_has ls 4 [(0, .ref b), (1, .ref (ad 32)), (2, .ref h), (3, .int i)]) : W p l e room_1 s m #[Value.ref b] below meth c H locs (qn c0 - 32) (qs c0 + 9895) (lw_Z below #[Value.ref b] s) (F0 m 569 ls []) := by
  obtain ⟨hx, hb, hr, hml, hown, -, hX, hbl, hlocks, hgv⟩ := C0
  unfold lawF_11 at hf
  refine lv_aload_n hx hb dL_law_569 rfl (lv_at hl 1 rfl) ?_
  refine lv_aload_n hx hb dL_law_570 rfl (lv_at hl 0 rfl) ?_
  refine lv_iload_n hx hb dL_law_571 rfl (lv_at hl 3 rfl) ?_
  refine lv_iconst (v := 1) hx hb dL_law_572 (by decide) ?_
  refine lv_iadd hx hb dL_law_573 ?_
  obtain ⟨g_144, hf⟩ := gd_some hf
  refine va_sld hx hb hX hbl hbA hp.1.2.1 g_144 dL_law_574 ?_
  refine lv_aload_n hx hb dL_law_575 rfl (lv_at hl 0 rfl) ?_
  refine lv_iload_n hx hb dL_law_576 rfl (lv_at hl 3 rfl) ?_
  refine lv_iconst (v := 2) hx hb dL_law_577 (by decide) ?_
  refine lv_iadd hx hb dL_law_578 ?_
  obtain ⟨g_145, hf⟩ := gd_some hf
  refine va_sld hx hb hX hbl hbA hp.1.2.1 g_145 dL_law_579 ?_
  refine lv_aload_n hx hb dL_law_580 rfl (lv_at hl 0 rfl) ?_
  refine lv_iload_n hx hb dL_law_581 rfl (lv_at hl 3 rfl) ?_
  refine lv_iconst (v := 3) hx hb dL_law_582 (by decide) ?_
  refine lv_iadd hx hb dL_law_583 ?_
  obtain ⟨g_146, hf⟩ := gd_some hf
  refine va_sld hx hb hX hbl hbA hp.1.2.1 g_146 dL_law_584 ?_
  obtain ⟨hk_150, hf⟩ := gd_some hf
  obtain ⟨r_148, c_149, hc_147, hf⟩ := bnd_some hf
  have h32 := hp.1.2.2.1.1
  refine l_ci hp hA (mo_X8_drop 32 (xs (i + 1).toNatClampNeg) (xs (i + 2).toNatClampNeg) (xs (i + 3).toNatClampNeg) _ _ _ hc_147).mo (va_runV (As := [.int (xs (i + 1).toNatClampNeg), .int (xs (i + 2).toNatClampNeg), .int (xs (i + 3).toNatClampNeg)]) (rest := []) ⟨hx, hb, hml, hown, hts⟩ (c_X8_drop l dC dI ka ad ct 32 (xs (i + 1).toNatClampNeg) (xs (i + 2).toNatClampNeg) (xs (i + 3).toNatClampNeg) _ _ _ hc_147 _) (cwV 3 hts gl_X8_drop_66 rfl rfl rfl (by decide +kernel) ⟨Nat.le_of_ble_eq_true rfl, Nat.le_of_ble_eq_true rfl⟩) ⟨PrC.blind _, q_recv (ci := 10) hK1 hp.1 hC hk_150 (by decide) rfl (fun h => absurd h (by decide)), q_pre hp.1 hK1 hN hZ hC hR hL hA⟩ rfl rfl hl.1 rfl (lv_room (Nat.le_of_ble_eq_true rfl)) dL_law_585 ⟨by show qn c0 - 32 + 0 ≤ 600000; have := hbd.1; omega, by show qs c0 + 9895 + 0 ≤ 7302250; have := hbd.2; omega⟩) (fun H locs hp => ?_)
  refine W.widen (k := qn c_149 - 32) (n := qs c_149 + 9895) (by have := (mo_X8_drop 32 (xs (i + 1).toNatClampNeg) (xs (i + 2).toNatClampNeg) (xs (i + 3).toNatClampNeg) _ _ _ hc_147).1; omega) (by have := (mo_X8_drop 32 (xs (i + 1).toNatClampNeg) (xs (i + 2).toNatClampNeg) (xs (i + 3).toNatClampNeg) _ _ _ hc_147).2.1; omega) ?_
  have hbd : qn c_149 ≤ 600000 ∧ qs c_149 ≤ 7000000 := by rw [(mo_X8_drop 32 (xs (i + 1).toNatClampNeg) (xs (i + 2).toNatClampNeg) (xs (i + 3).toNatClampNeg) _ _ _ hc_147).1, (mo_X8_drop 32 (xs (i + 1).toNatClampNeg) (xs (i + 2).toNatClampNeg) (xs (i + 3).toNatClampNeg) _ _ _ hc_147).2.1]; exact hbd
  refine lv_pop hx hb dL_law_588 rfl ?_
  refine lv_aload_n hx hb dL_law_589 rfl (lv_at hl 2 rfl) ?_
  refine lv_aload_n hx hb dL_law_590 rfl (lv_at hl 0 rfl) ?_
  refine lv_iload_n hx hb dL_law_591 rfl (lv_at hl 3 rfl) ?_
  refine lv_iconst (v := 1) hx hb dL_law_592 (by decide) ?_
  refine lv_iadd hx hb dL_law_593 ?_
  obtain ⟨g_151, hf⟩ := gd_some hf
  refine va_sld hx hb hX hbl hbA hp.1.2.1 g_151 dL_law_594 ?_
  refine lv_aload_n hx hb dL_law_595 rfl (lv_at hl 0 rfl) ?_
  refine lv_iload_n hx hb dL_law_596 rfl (lv_at hl 3 rfl) ?_
  refine lv_iconst (v := 2) hx hb dL_law_597 (by decide) ?_
  refine lv_iadd hx hb dL_law_598 ?_
  obtain ⟨g_152, hf⟩ := gd_some hf
  refine va_sld hx hb hX hbl hbA hp.1.2.1 g_152 dL_law_599 ?_
  refine lv_aload_n hx hb dL_law_600 rfl (lv_at hl 0 rfl) ?_
  refine lv_iload_n hx hb dL_law_601 rfl (lv_at hl 3 rfl) ?_
  refine lv_iconst (v := 3) hx hb dL_law_602 (by decide) ?_
  refine lv_iadd hx hb dL_law_603 ?_
  obtain ⟨g_153, hf⟩ := gd_some hf
  refine va_sld hx hb hX hbl hbA hp.1.2.1 g_153 dL_law_604 ?_
  obtain ⟨r_155, q_156, hc_154, hf⟩ := bnd_some hf
  refine l_ri hp hA (Lp.sz had hp) (va_runV (As := [.int (xs (i + 1).toNatClampNeg), .int (xs (i + 2).toNatClampNeg), .int (xs (i + 3).toNatClampNeg)]) (rest := []) ⟨hx, hb, hml, hown, hts⟩ (c_X9_drop l dC dI h a ca (xs (i + 1).toNatClampNeg) (xs (i + 2).toNatClampNeg) (xs (i + 3).toNatClampNeg) _ _ _ hc_154 _) (cwV 3 hts gl_X9_drop_69 rfl rfl rfl (by decide +kernel) ⟨Nat.le_of_ble_eq_true rfl, Nat.le_of_ble_eq_true rfl⟩) ⟨Pr.blind _, va_recv hK2 hp.2.1.1 (ci := 11) (q0 := 0) rfl rfl, r_pre hp.2.1 hK2 hN hZ hA⟩ rfl rfl hl.1 rfl (lv_room (Nat.le_of_ble_eq_true rfl)) dL_law_605 ⟨by show qn c_149 - 32 + 0 ≤ 600000; have := hbd.1; omega, by show qs c_149 + 9895 + 0 ≤ 7302250; have := hbd.2; omega⟩) (fun H locs hsz hp => ?_)
  refine lv_pop hx hb dL_law_608 rfl ?_
  refine lv_goto (tgt := 972) hx hb dL_law_609 (by decide) ?_
  obtain ⟨v_157, ev_157, hf⟩ := nam_some hf
  refine lv_iinc (v := v_157) (lv' := [(3, .int v_157), (0, .ref b), (1, .ref (ad 32)), (2, .ref h)]) hx hb dL_law_972 hl (k := 3) rfl ev_157.symm (by decide) rfl (fun ls hl => ?_)
  refine lv_goto (tgt := 18) hx hb dL_law_975 (by decide) ?_
  exact hKW v_157 c_149 q_156 hf _ _ _ hp hbd (lv_sub hl [1, 2, 3, 0] rfl)
noncomputable def lawF_12 (L : Nat) (xs : Nat → Int32) (K : Int32 → CS → RS → Option Int32) (i : Int32) (c0 : CS) (r0 : RS) : Option Int32 := gd (vp_in (i + 1) L) (gd (vp_in (i + 2) L) (gd (qk c0 32 = 11) (bnd (fX8_read 32 (xs (i + 1).toNatClampNeg) (xs (i + 2).toNatClampNeg) c0) (fun r_161 c_162 => gd (vp_in (i + 1) L) (gd (vp_in (i + 2) L) (bnd (x9_read (xs (i + 1).toNatClampNeg) (xs (i + 2).toNatClampNeg) r0) (fun r_167 q_168 => nam (i + 6) (fun v_169 => K v_169 c_162 q_168))))))))
set_option maxHeartbeats 4000000 in
set_option maxRecDepth 100000 in
theorem law_12 (l : Launch) {p : Program} {e : Env} {s : State} {m : MethodId} {below : List Frame} {meth : Method} {c : Code} {b L : Nat} {xs : Nat → Int32} {A : Nat → Prop} (C0 : lw_At p s m meth c b L xs) (hts : ∀ w ∈ lwT, w.before #[Value.ref b] s = true) (hA : ∀ q : Nat, s.heap.size ≤ q → A q) (hbA : ¬ A b) (dC : Nat → ClassId) (dI : Nat → Nat → Nat) (ka ad : Nat → Nat) (ct : Nat → ClassId) (h : Nat) (a : Nat → Nat) (ca : Nat → ClassId) (had : ∀ i, 32 ≤ i → ad i = s.heap.size + (i - 32)) (hK1 : va_K (dC, dI) vwCl (cT ct) s) (hK2 : va_K (dC, dI) vwCl (rT ca) s) (hN : NX s) (hZ : cz A s s.heap) (hC : kS ka A s s.heap) (hR : kR ka s) (hL : kL s) (K : Int32 → CS → RS → Option Int32) (hKW : ∀ (i : Int32) (c0 : CS) (r0 : RS), K i c0 r0 = some 1 → ∀ (H : Heap) (locs : List Loc) (ls : Array Slot), Lp (dC, dI) ka ad ct h a ca A s.heap c0 r0 H locs → (qn c0 ≤ 600000 ∧ qs c0 ≤ 7000000) → lv_has ls 4 [(0, .ref b), (1, .ref (ad 32)), (2, .ref h), (3, .int i)] → W p l e room_1 s m #[Value.ref b] below meth c H locs (qn c0 - 32) (qs c0 + 9895) (lw_Z below #[Value.ref b] s) (F0 m 18 ls [])) (i : Int32) (c0 : CS) (r0 : RS) (hf : lawF_12 L xs K i c0 r0 = some 1) (H : Heap) (locs : List Loc) (ls : Array Slot) (hp : Lp (dC, dI) ka ad ct h a ca A s.heap c0 r0 H locs) (hbd : qn c0 ≤ 600000 ∧ qs c0 ≤ 7000000) (hl : lv_has ls 4 [(0, .ref b), (1, .ref (ad 32)), (2, .ref h), (3, .int i)]) : W p l e room_1 s m #[Value.ref b] below meth c H locs (qn c0 - 32) (qs c0 + 9895) (lw_Z below #[Value.ref b] s) (F0 m 612 ls []) := by
  obtain ⟨hx, hb, hr, hml, hown, -, hX, hbl, hlocks, hgv⟩ := C0
  unfold lawF_12 at hf
  refine lv_aload_n hx hb dL_law_612 rfl (lv_at hl 1 rfl) ?_
  refine lv_aload_n hx hb dL_law_613 rfl (lv_at hl 0 rfl) ?_
  refine lv_iload_n hx hb dL_law_614 rfl (lv_at hl 3 rfl) ?_
  refine lv_iconst (v := 1) hx hb dL_law_615 (by decide) ?_
  refine lv_iadd hx hb dL_law_616 ?_
  obtain ⟨g_158, hf⟩ := gd_some hf
  refine va_sld hx hb hX hbl hbA hp.1.2.1 g_158 dL_law_617 ?_
  refine lv_aload_n hx hb dL_law_618 rfl (lv_at hl 0 rfl) ?_
  refine lv_iload_n hx hb dL_law_619 rfl (lv_at hl 3 rfl) ?_
  refine lv_iconst (v := 2) hx hb dL_law_620 (by decide) ?_
  refine lv_iadd hx hb dL_law_621 ?_
  obtain ⟨g_159, hf⟩ := gd_some hf
  refine va_sld hx hb hX hbl hbA hp.1.2.1 g_159 dL_law_622 ?_
  obtain ⟨hk_163, hf⟩ := gd_some hf
  obtain ⟨r_161, c_162, hc_160, hf⟩ := bnd_some hf
  have h32 := hp.1.2.2.1.1
  refine l_ci hp hA (mo_X8_read 32 (xs (i + 1).toNatClampNeg) (xs (i + 2).toNatClampNeg) _ _ _ hc_160).mo (va_runV (As := [.int (xs (i + 1).toNatClampNeg), .int (xs (i + 2).toNatClampNeg)]) (rest := []) ⟨hx, hb, hml, hown, hts⟩ (c_X8_read l dC dI ka ad ct 32 (xs (i + 1).toNatClampNeg) (xs (i + 2).toNatClampNeg) _ _ _ hc_160 _) (cwV 2 hts gl_X8_read_70 rfl rfl rfl (by decide +kernel) ⟨Nat.le_of_ble_eq_true rfl, Nat.le_of_ble_eq_true rfl⟩) ⟨PrC.blind _, q_recv (ci := 10) hK1 hp.1 hC hk_163 (by decide) rfl (fun h => absurd h (by decide)), q_pre hp.1 hK1 hN hZ hC hR hL hA⟩ rfl rfl hl.1 rfl (lv_room (Nat.le_of_ble_eq_true rfl)) dL_law_623 ⟨by show qn c0 - 32 + 0 ≤ 600000; have := hbd.1; omega, by show qs c0 + 9895 + 0 ≤ 7302250; have := hbd.2; omega⟩) (fun H locs hp => ?_)
  refine W.widen (k := qn c_162 - 32) (n := qs c_162 + 9895) (by have := (mo_X8_read 32 (xs (i + 1).toNatClampNeg) (xs (i + 2).toNatClampNeg) _ _ _ hc_160).1; omega) (by have := (mo_X8_read 32 (xs (i + 1).toNatClampNeg) (xs (i + 2).toNatClampNeg) _ _ _ hc_160).2.1; omega) ?_
  have hbd : qn c_162 ≤ 600000 ∧ qs c_162 ≤ 7000000 := by rw [(mo_X8_read 32 (xs (i + 1).toNatClampNeg) (xs (i + 2).toNatClampNeg) _ _ _ hc_160).1, (mo_X8_read 32 (xs (i + 1).toNatClampNeg) (xs (i + 2).toNatClampNeg) _ _ _ hc_160).2.1]; exact hbd
  refine lv_pop hx hb dL_law_626 rfl ?_
  refine lv_aload_n hx hb dL_law_627 rfl (lv_at hl 2 rfl) ?_
  refine lv_aload_n hx hb dL_law_628 rfl (lv_at hl 0 rfl) ?_
  refine lv_iload_n hx hb dL_law_629 rfl (lv_at hl 3 rfl) ?_
  refine lv_iconst (v := 1) hx hb dL_law_630 (by decide) ?_
  refine lv_iadd hx hb dL_law_631 ?_
  obtain ⟨g_164, hf⟩ := gd_some hf
  refine va_sld hx hb hX hbl hbA hp.1.2.1 g_164 dL_law_632 ?_
  refine lv_aload_n hx hb dL_law_633 rfl (lv_at hl 0 rfl) ?_
  refine lv_iload_n hx hb dL_law_634 rfl (lv_at hl 3 rfl) ?_
  refine lv_iconst (v := 2) hx hb dL_law_635 (by decide) ?_
  refine lv_iadd hx hb dL_law_636 ?_
  obtain ⟨g_165, hf⟩ := gd_some hf
  refine va_sld hx hb hX hbl hbA hp.1.2.1 g_165 dL_law_637 ?_
  obtain ⟨r_167, q_168, hc_166, hf⟩ := bnd_some hf
  refine l_ri hp hA (Lp.sz had hp) (va_runV (As := [.int (xs (i + 1).toNatClampNeg), .int (xs (i + 2).toNatClampNeg)]) (rest := []) ⟨hx, hb, hml, hown, hts⟩ (c_X9_read l dC dI h a ca (xs (i + 1).toNatClampNeg) (xs (i + 2).toNatClampNeg) _ _ _ hc_166 _) (cwV 2 hts gl_X9_read_74 rfl rfl rfl (by decide +kernel) ⟨Nat.le_of_ble_eq_true rfl, Nat.le_of_ble_eq_true rfl⟩) ⟨Pr.blind _, va_recv hK2 hp.2.1.1 (ci := 11) (q0 := 0) rfl rfl, r_pre hp.2.1 hK2 hN hZ hA⟩ rfl rfl hl.1 rfl (lv_room (Nat.le_of_ble_eq_true rfl)) dL_law_638 ⟨by show qn c_162 - 32 + 0 ≤ 600000; have := hbd.1; omega, by show qs c_162 + 9895 + 0 ≤ 7302250; have := hbd.2; omega⟩) (fun H locs hsz hp => ?_)
  refine lv_pop hx hb dL_law_641 rfl ?_
  refine lv_goto (tgt := 972) hx hb dL_law_642 (by decide) ?_
  obtain ⟨v_169, ev_169, hf⟩ := nam_some hf
  refine lv_iinc (v := v_169) (lv' := [(3, .int v_169), (0, .ref b), (1, .ref (ad 32)), (2, .ref h)]) hx hb dL_law_972 hl (k := 3) rfl ev_169.symm (by decide) rfl (fun ls hl => ?_)
  refine lv_goto (tgt := 18) hx hb dL_law_975 (by decide) ?_
  exact hKW v_169 c_162 q_168 hf _ _ _ hp hbd (lv_sub hl [1, 2, 3, 0] rfl)
noncomputable def lawF_13 (L : Nat) (xs : Nat → Int32) (K : Int32 → CS → RS → Option Int32) (i : Int32) (c0 : CS) (r0 : RS) : Option Int32 := gd (vp_in (i + 1) L) (gd (vp_in (i + 2) L) (gd (vp_in (i + 3) L) (gd (vp_in (i + 4) L) (gd (qk c0 32 = 11) (bnd (fX8_get 32 (xs (i + 1).toNatClampNeg) (xs (i + 2).toNatClampNeg) (xs (i + 3).toNatClampNeg) (xs (i + 4).toNatClampNeg) c0) (fun r_175 c_176 => gd (vp_in (i + 1) L) (gd (vp_in (i + 2) L) (gd (vp_in (i + 3) L) (gd (vp_in (i + 4) L) (bnd (x9_get (xs (i + 1).toNatClampNeg) (xs (i + 2).toNatClampNeg) (xs (i + 3).toNatClampNeg) (xs (i + 4).toNatClampNeg) r0) (fun r_183 q_184 => nam (i + 6) (fun v_185 => K v_185 c_176 q_184))))))))))))
set_option maxHeartbeats 4000000 in
set_option maxRecDepth 100000 in
theorem law_13 (l : Launch) {p : Program} {e : Env} {s : State} {m : MethodId} {below : List Frame} {meth : Method} {c : Code} {b L : Nat} {xs : Nat → Int32} {A : Nat → Prop} (C0 : lw_At p s m meth c b L xs) (hts : ∀ w ∈ lwT, w.before #[Value.ref b] s = true) (hA : ∀ q : Nat, s.heap.size ≤ q → A q) (hbA : ¬ A b) (dC : Nat → ClassId) (dI : Nat → Nat → Nat) (ka ad : Nat → Nat) (ct : Nat → ClassId) (h : Nat) (a : Nat → Nat) (ca : Nat → ClassId) (had : ∀ i, 32 ≤ i → ad i = s.heap.size + (i - 32)) (hK1 : va_K (dC, dI) vwCl (cT ct) s) (hK2 : va_K (dC, dI) vwCl (rT ca) s) (hN : NX s) (hZ : cz A s s.heap) (hC : kS ka A s s.heap) (hR : kR ka s) (hL : kL s) (K : Int32 → CS → RS → Option Int32) (hKW : ∀ (i : Int32) (c0 : CS) (r0 : RS), K i c0 r0 = some 1 → ∀ (H : Heap) (locs : List Loc) (ls : Array Slot), Lp (dC, dI) ka ad ct h a ca A s.heap c0 r0 H locs → (qn c0 ≤ 600000 ∧ qs c0 ≤ 7000000) → lv_has ls 4 [(0, .ref b), (1, .ref (ad 32)), (2, .ref h), (3, .int i)] → W p l e room_1 s m #[Value.ref b] below meth c H locs (qn c0 - 32) (qs c0 + 9895) (lw_Z below #[Value.ref b] s) (F0 m 18 ls [])) (i : Int32) (c0 : CS) (r0 : RS) (hf : lawF_13 L xs K i c0 r0 = some 1) (H : Heap) (locs : List Loc) (ls : Array Slot) (hp : Lp (dC, dI) ka ad ct h a ca A s.heap c0 r0 H locs) (hbd : qn c0 ≤ 600000 ∧ qs c0 ≤ 7000000) (hl : lv_has ls 4 [(0, .ref b), (1, .ref (ad 32)), (2, .ref h), (3, .int i)]) : W p l e room_1 s m #[Value.ref b] below meth c H locs (qn c0 - 32) (qs c0 + 9895) (lw_Z below #[Value.ref b] s) (F0 m 645 ls []) := by
  obtain ⟨hx, hb, hr, hml, hown, -, hX, hbl, hlocks, hgv⟩ := C0
  unfold lawF_13 at hf
  refine lv_aload_n hx hb dL_law_645 rfl (lv_at hl 1 rfl) ?_
  refine lv_aload_n hx hb dL_law_646 rfl (lv_at hl 0 rfl) ?_
  refine lv_iload_n hx hb dL_law_647 rfl (lv_at hl 3 rfl) ?_
  refine lv_iconst (v := 1) hx hb dL_law_648 (by decide) ?_
  refine lv_iadd hx hb dL_law_649 ?_
  obtain ⟨g_170, hf⟩ := gd_some hf
  refine va_sld hx hb hX hbl hbA hp.1.2.1 g_170 dL_law_650 ?_
  refine lv_aload_n hx hb dL_law_651 rfl (lv_at hl 0 rfl) ?_
  refine lv_iload_n hx hb dL_law_652 rfl (lv_at hl 3 rfl) ?_
  refine lv_iconst (v := 2) hx hb dL_law_653 (by decide) ?_
  refine lv_iadd hx hb dL_law_654 ?_
  obtain ⟨g_171, hf⟩ := gd_some hf
  refine va_sld hx hb hX hbl hbA hp.1.2.1 g_171 dL_law_655 ?_
  refine lv_aload_n hx hb dL_law_656 rfl (lv_at hl 0 rfl) ?_
  refine lv_iload_n hx hb dL_law_657 rfl (lv_at hl 3 rfl) ?_
  refine lv_iconst (v := 3) hx hb dL_law_658 (by decide) ?_
  refine lv_iadd hx hb dL_law_659 ?_
  obtain ⟨g_172, hf⟩ := gd_some hf
  refine va_sld hx hb hX hbl hbA hp.1.2.1 g_172 dL_law_660 ?_
  refine lv_aload_n hx hb dL_law_661 rfl (lv_at hl 0 rfl) ?_
  refine lv_iload_n hx hb dL_law_662 rfl (lv_at hl 3 rfl) ?_
  refine lv_iconst (v := 4) hx hb dL_law_663 (by decide) ?_
  refine lv_iadd hx hb dL_law_664 ?_
  obtain ⟨g_173, hf⟩ := gd_some hf
  refine va_sld hx hb hX hbl hbA hp.1.2.1 g_173 dL_law_665 ?_
  obtain ⟨hk_177, hf⟩ := gd_some hf
  obtain ⟨r_175, c_176, hc_174, hf⟩ := bnd_some hf
  have h32 := hp.1.2.2.1.1
  refine l_cl hp hA (mo_X8_get 32 (xs (i + 1).toNatClampNeg) (xs (i + 2).toNatClampNeg) (xs (i + 3).toNatClampNeg) (xs (i + 4).toNatClampNeg) _ _ _ hc_174).mo (va_runV (As := [.int (xs (i + 1).toNatClampNeg), .int (xs (i + 2).toNatClampNeg), .int (xs (i + 3).toNatClampNeg), .int (xs (i + 4).toNatClampNeg)]) (rest := []) ⟨hx, hb, hml, hown, hts⟩ (c_X8_get l dC dI ka ad ct 32 (xs (i + 1).toNatClampNeg) (xs (i + 2).toNatClampNeg) (xs (i + 3).toNatClampNeg) (xs (i + 4).toNatClampNeg) _ _ _ hc_174 _) (cwV 4 hts gl_X8_get_75 rfl rfl rfl (by decide +kernel) ⟨Nat.le_of_ble_eq_true rfl, Nat.le_of_ble_eq_true rfl⟩) ⟨PrC.blind _, q_recv (ci := 10) hK1 hp.1 hC hk_177 (by decide) rfl (fun h => absurd h (by decide)), q_pre hp.1 hK1 hN hZ hC hR hL hA⟩ rfl rfl hl.1 rfl (lv_room (Nat.le_of_ble_eq_true rfl)) dL_law_666 ⟨by show qn c0 - 32 + 0 ≤ 600000; have := hbd.1; omega, by show qs c0 + 9895 + 0 ≤ 7302250; have := hbd.2; omega⟩) (fun H locs hp => ?_)
  refine W.widen (k := qn c_176 - 32) (n := qs c_176 + 9895) (by have := (mo_X8_get 32 (xs (i + 1).toNatClampNeg) (xs (i + 2).toNatClampNeg) (xs (i + 3).toNatClampNeg) (xs (i + 4).toNatClampNeg) _ _ _ hc_174).1; omega) (by have := (mo_X8_get 32 (xs (i + 1).toNatClampNeg) (xs (i + 2).toNatClampNeg) (xs (i + 3).toNatClampNeg) (xs (i + 4).toNatClampNeg) _ _ _ hc_174).2.1; omega) ?_
  have hbd : qn c_176 ≤ 600000 ∧ qs c_176 ≤ 7000000 := by rw [(mo_X8_get 32 (xs (i + 1).toNatClampNeg) (xs (i + 2).toNatClampNeg) (xs (i + 3).toNatClampNeg) (xs (i + 4).toNatClampNeg) _ _ _ hc_174).1, (mo_X8_get 32 (xs (i + 1).toNatClampNeg) (xs (i + 2).toNatClampNeg) (xs (i + 3).toNatClampNeg) (xs (i + 4).toNatClampNeg) _ _ _ hc_174).2.1]; exact hbd
  refine lv_pop2_2 hx hb dL_law_669 rfl ?_
  refine lv_aload_n hx hb dL_law_670 rfl (lv_at hl 2 rfl) ?_
  refine lv_aload_n hx hb dL_law_671 rfl (lv_at hl 0 rfl) ?_
  refine lv_iload_n hx hb dL_law_672 rfl (lv_at hl 3 rfl) ?_
  refine lv_iconst (v := 1) hx hb dL_law_673 (by decide) ?_
  refine lv_iadd hx hb dL_law_674 ?_
  obtain ⟨g_178, hf⟩ := gd_some hf
  refine va_sld hx hb hX hbl hbA hp.1.2.1 g_178 dL_law_675 ?_
  refine lv_aload_n hx hb dL_law_676 rfl (lv_at hl 0 rfl) ?_
  refine lv_iload_n hx hb dL_law_677 rfl (lv_at hl 3 rfl) ?_
  refine lv_iconst (v := 2) hx hb dL_law_678 (by decide) ?_
  refine lv_iadd hx hb dL_law_679 ?_
  obtain ⟨g_179, hf⟩ := gd_some hf
  refine va_sld hx hb hX hbl hbA hp.1.2.1 g_179 dL_law_680 ?_
  refine lv_aload_n hx hb dL_law_681 rfl (lv_at hl 0 rfl) ?_
  refine lv_iload_n hx hb dL_law_682 rfl (lv_at hl 3 rfl) ?_
  refine lv_iconst (v := 3) hx hb dL_law_683 (by decide) ?_
  refine lv_iadd hx hb dL_law_684 ?_
  obtain ⟨g_180, hf⟩ := gd_some hf
  refine va_sld hx hb hX hbl hbA hp.1.2.1 g_180 dL_law_685 ?_
  refine lv_aload_n hx hb dL_law_686 rfl (lv_at hl 0 rfl) ?_
  refine lv_iload_n hx hb dL_law_687 rfl (lv_at hl 3 rfl) ?_
  refine lv_iconst (v := 4) hx hb dL_law_688 (by decide) ?_
  refine lv_iadd hx hb dL_law_689 ?_
  obtain ⟨g_181, hf⟩ := gd_some hf
  refine va_sld hx hb hX hbl hbA hp.1.2.1 g_181 dL_law_690 ?_
  obtain ⟨r_183, q_184, hc_182, hf⟩ := bnd_some hf
  refine l_rl hp hA (Lp.sz had hp) (va_runV (As := [.int (xs (i + 1).toNatClampNeg), .int (xs (i + 2).toNatClampNeg), .int (xs (i + 3).toNatClampNeg), .int (xs (i + 4).toNatClampNeg)]) (rest := []) ⟨hx, hb, hml, hown, hts⟩ (c_X9_get l dC dI h a ca (xs (i + 1).toNatClampNeg) (xs (i + 2).toNatClampNeg) (xs (i + 3).toNatClampNeg) (xs (i + 4).toNatClampNeg) _ _ _ hc_182 _) (cwV 4 hts gl_X9_get_79 rfl rfl rfl (by decide +kernel) ⟨Nat.le_of_ble_eq_true rfl, Nat.le_of_ble_eq_true rfl⟩) ⟨Pr.blind _, va_recv hK2 hp.2.1.1 (ci := 11) (q0 := 0) rfl rfl, r_pre hp.2.1 hK2 hN hZ hA⟩ rfl rfl hl.1 rfl (lv_room (Nat.le_of_ble_eq_true rfl)) dL_law_691 ⟨by show qn c_176 - 32 + 0 ≤ 600000; have := hbd.1; omega, by show qs c_176 + 9895 + 0 ≤ 7302250; have := hbd.2; omega⟩) (fun H locs hsz hp => ?_)
  refine lv_pop2_2 hx hb dL_law_694 rfl ?_
  refine lv_goto (tgt := 972) hx hb dL_law_695 (by decide) ?_
  obtain ⟨v_185, ev_185, hf⟩ := nam_some hf
  refine lv_iinc (v := v_185) (lv' := [(3, .int v_185), (0, .ref b), (1, .ref (ad 32)), (2, .ref h)]) hx hb dL_law_972 hl (k := 3) rfl ev_185.symm (by decide) rfl (fun ls hl => ?_)
  refine lv_goto (tgt := 18) hx hb dL_law_975 (by decide) ?_
  exact hKW v_185 c_176 q_184 hf _ _ _ hp hbd (lv_sub hl [1, 2, 3, 0] rfl)
noncomputable def lawF_14 (L : Nat) (xs : Nat → Int32) (K : Int32 → CS → RS → Option Int32) (i : Int32) (c0 : CS) (r0 : RS) : Option Int32 := gd (vp_in (i + 1) L) (gd (vp_in (i + 2) L) (gd (qk c0 32 = 11) (bnd (fX8_kept 32 (xs (i + 1).toNatClampNeg) (xs (i + 2).toNatClampNeg) c0) (fun r_189 c_190 => gd (vp_in (i + 1) L) (gd (vp_in (i + 2) L) (bnd (x9_kept (xs (i + 1).toNatClampNeg) (xs (i + 2).toNatClampNeg) r0) (fun r_195 q_196 => nam (i + 6) (fun v_197 => K v_197 c_190 q_196))))))))
set_option maxHeartbeats 4000000 in
set_option maxRecDepth 100000 in
theorem law_14 (l : Launch) {p : Program} {e : Env} {s : State} {m : MethodId} {below : List Frame} {meth : Method} {c : Code} {b L : Nat} {xs : Nat → Int32} {A : Nat → Prop} (C0 : lw_At p s m meth c b L xs) (hts : ∀ w ∈ lwT, w.before #[Value.ref b] s = true) (hA : ∀ q : Nat, s.heap.size ≤ q → A q) (hbA : ¬ A b) (dC : Nat → ClassId) (dI : Nat → Nat → Nat) (ka ad : Nat → Nat) (ct : Nat → ClassId) (h : Nat) (a : Nat → Nat) (ca : Nat → ClassId) (had : ∀ i, 32 ≤ i → ad i = s.heap.size + (i - 32)) (hK1 : va_K (dC, dI) vwCl (cT ct) s) (hK2 : va_K (dC, dI) vwCl (rT ca) s) (hN : NX s) (hZ : cz A s s.heap) (hC : kS ka A s s.heap) (hR : kR ka s) (hL : kL s) (K : Int32 → CS → RS → Option Int32) (hKW : ∀ (i : Int32) (c0 : CS) (r0 : RS), K i c0 r0 = some 1 → ∀ (H : Heap) (locs : List Loc) (ls : Array Slot), Lp (dC, dI) ka ad ct h a ca A s.heap c0 r0 H locs → (qn c0 ≤ 600000 ∧ qs c0 ≤ 7000000) → lv_has ls 4 [(0, .ref b), (1, .ref (ad 32)), (2, .ref h), (3, .int i)] → W p l e room_1 s m #[Value.ref b] below meth c H locs (qn c0 - 32) (qs c0 + 9895) (lw_Z below #[Value.ref b] s) (F0 m 18 ls [])) (i : Int32) (c0 : CS) (r0 : RS) (hf : lawF_14 L xs K i c0 r0 = some 1) (H : Heap) (locs : List Loc) (ls : Array Slot) (hp : Lp (dC, dI) ka ad ct h a ca A s.heap c0 r0 H locs) (hbd : qn c0 ≤ 600000 ∧ qs c0 ≤ 7000000) (hl : lv_has ls 4 [(0, .ref b), (1, .ref (ad 32)), (2, .ref h), (3, .int i)]) : W p l e room_1 s m #[Value.ref b] below meth c H locs (qn c0 - 32) (qs c0 + 9895) (lw_Z below #[Value.ref b] s) (F0 m 698 ls []) := by
  obtain ⟨hx, hb, hr, hml, hown, -, hX, hbl, hlocks, hgv⟩ := C0
  unfold lawF_14 at hf
  refine lv_aload_n hx hb dL_law_698 rfl (lv_at hl 1 rfl) ?_
  refine lv_aload_n hx hb dL_law_699 rfl (lv_at hl 0 rfl) ?_
  refine lv_iload_n hx hb dL_law_700 rfl (lv_at hl 3 rfl) ?_
  refine lv_iconst (v := 1) hx hb dL_law_701 (by decide) ?_
  refine lv_iadd hx hb dL_law_702 ?_
  obtain ⟨g_186, hf⟩ := gd_some hf
  refine va_sld hx hb hX hbl hbA hp.1.2.1 g_186 dL_law_703 ?_
  refine lv_aload_n hx hb dL_law_704 rfl (lv_at hl 0 rfl) ?_
  refine lv_iload_n hx hb dL_law_705 rfl (lv_at hl 3 rfl) ?_
  refine lv_iconst (v := 2) hx hb dL_law_706 (by decide) ?_
  refine lv_iadd hx hb dL_law_707 ?_
  obtain ⟨g_187, hf⟩ := gd_some hf
  refine va_sld hx hb hX hbl hbA hp.1.2.1 g_187 dL_law_708 ?_
  obtain ⟨hk_191, hf⟩ := gd_some hf
  obtain ⟨r_189, c_190, hc_188, hf⟩ := bnd_some hf
  have h32 := hp.1.2.2.1.1
  refine l_ci hp hA (mo_X8_kept 32 (xs (i + 1).toNatClampNeg) (xs (i + 2).toNatClampNeg) _ _ _ hc_188).mo (va_runV (As := [.int (xs (i + 1).toNatClampNeg), .int (xs (i + 2).toNatClampNeg)]) (rest := []) ⟨hx, hb, hml, hown, hts⟩ (c_X8_kept l dC dI ka ad ct 32 (xs (i + 1).toNatClampNeg) (xs (i + 2).toNatClampNeg) _ _ _ hc_188 _) (cwV 2 hts gl_X8_kept_80 rfl rfl rfl (by decide +kernel) ⟨Nat.le_of_ble_eq_true rfl, Nat.le_of_ble_eq_true rfl⟩) ⟨PrC.blind _, q_recv (ci := 10) hK1 hp.1 hC hk_191 (by decide) rfl (fun h => absurd h (by decide)), q_pre hp.1 hK1 hN hZ hC hR hL hA⟩ rfl rfl hl.1 rfl (lv_room (Nat.le_of_ble_eq_true rfl)) dL_law_709 ⟨by show qn c0 - 32 + 0 ≤ 600000; have := hbd.1; omega, by show qs c0 + 9895 + 0 ≤ 7302250; have := hbd.2; omega⟩) (fun H locs hp => ?_)
  refine W.widen (k := qn c_190 - 32) (n := qs c_190 + 9895) (by have := (mo_X8_kept 32 (xs (i + 1).toNatClampNeg) (xs (i + 2).toNatClampNeg) _ _ _ hc_188).1; omega) (by have := (mo_X8_kept 32 (xs (i + 1).toNatClampNeg) (xs (i + 2).toNatClampNeg) _ _ _ hc_188).2.1; omega) ?_
  have hbd : qn c_190 ≤ 600000 ∧ qs c_190 ≤ 7000000 := by rw [(mo_X8_kept 32 (xs (i + 1).toNatClampNeg) (xs (i + 2).toNatClampNeg) _ _ _ hc_188).1, (mo_X8_kept 32 (xs (i + 1).toNatClampNeg) (xs (i + 2).toNatClampNeg) _ _ _ hc_188).2.1]; exact hbd
  refine lv_pop hx hb dL_law_712 rfl ?_
  refine lv_aload_n hx hb dL_law_713 rfl (lv_at hl 2 rfl) ?_
  refine lv_aload_n hx hb dL_law_714 rfl (lv_at hl 0 rfl) ?_
  refine lv_iload_n hx hb dL_law_715 rfl (lv_at hl 3 rfl) ?_
  refine lv_iconst (v := 1) hx hb dL_law_716 (by decide) ?_
  refine lv_iadd hx hb dL_law_717 ?_
  obtain ⟨g_192, hf⟩ := gd_some hf
  refine va_sld hx hb hX hbl hbA hp.1.2.1 g_192 dL_law_718 ?_
  refine lv_aload_n hx hb dL_law_719 rfl (lv_at hl 0 rfl) ?_
  refine lv_iload_n hx hb dL_law_720 rfl (lv_at hl 3 rfl) ?_
  refine lv_iconst (v := 2) hx hb dL_law_721 (by decide) ?_
  refine lv_iadd hx hb dL_law_722 ?_
  obtain ⟨g_193, hf⟩ := gd_some hf
  refine va_sld hx hb hX hbl hbA hp.1.2.1 g_193 dL_law_723 ?_
  obtain ⟨r_195, q_196, hc_194, hf⟩ := bnd_some hf
  refine l_ri hp hA (Lp.sz had hp) (va_runV (As := [.int (xs (i + 1).toNatClampNeg), .int (xs (i + 2).toNatClampNeg)]) (rest := []) ⟨hx, hb, hml, hown, hts⟩ (c_X9_kept l dC dI h a ca (xs (i + 1).toNatClampNeg) (xs (i + 2).toNatClampNeg) _ _ _ hc_194 _) (cwV 2 hts gl_X9_kept_83 rfl rfl rfl (by decide +kernel) ⟨Nat.le_of_ble_eq_true rfl, Nat.le_of_ble_eq_true rfl⟩) ⟨Pr.blind _, va_recv hK2 hp.2.1.1 (ci := 11) (q0 := 0) rfl rfl, r_pre hp.2.1 hK2 hN hZ hA⟩ rfl rfl hl.1 rfl (lv_room (Nat.le_of_ble_eq_true rfl)) dL_law_724 ⟨by show qn c_190 - 32 + 0 ≤ 600000; have := hbd.1; omega, by show qs c_190 + 9895 + 0 ≤ 7302250; have := hbd.2; omega⟩) (fun H locs hsz hp => ?_)
  refine lv_pop hx hb dL_law_727 rfl ?_
  refine lv_goto (tgt := 972) hx hb dL_law_728 (by decide) ?_
  obtain ⟨v_197, ev_197, hf⟩ := nam_some hf
  refine lv_iinc (v := v_197) (lv' := [(3, .int v_197), (0, .ref b), (1, .ref (ad 32)), (2, .ref h)]) hx hb dL_law_972 hl (k := 3) rfl ev_197.symm (by decide) rfl (fun ls hl => ?_)
  refine lv_goto (tgt := 18) hx hb dL_law_975 (by decide) ?_
  exact hKW v_197 c_190 q_196 hf _ _ _ hp hbd (lv_sub hl [1, 2, 3, 0] rfl)
noncomputable def lawF_15 (L : Nat) (xs : Nat → Int32) (K : Int32 → CS → RS → Option Int32) (i : Int32) (c0 : CS) (r0 : RS) : Option Int32 := gd (vp_in (i + 1) L) (gd (vp_in (i + 2) L) (gd (vp_in (i + 3) L) (gd (qk c0 32 = 11) (bnd (fX8_write 32 (xs (i + 1).toNatClampNeg) (xs (i + 2).toNatClampNeg) (xs (i + 3).toNatClampNeg) c0) (fun r_202 c_203 => gd (vp_in (i + 1) L) (gd (vp_in (i + 2) L) (gd (vp_in (i + 3) L) (bnd (x9_write (xs (i + 1).toNatClampNeg) (xs (i + 2).toNatClampNeg) (xs (i + 3).toNatClampNeg) r0) (fun r_209 q_210 => nam (i + 6) (fun v_211 => K v_211 c_203 q_210))))))))))
set_option maxHeartbeats 4000000 in
set_option maxRecDepth 100000 in
theorem law_15 (l : Launch) {p : Program} {e : Env} {s : State} {m : MethodId} {below : List Frame} {meth : Method} {c : Code} {b L : Nat} {xs : Nat → Int32} {A : Nat → Prop} (C0 : lw_At p s m meth c b L xs) (hts : ∀ w ∈ lwT, w.before #[Value.ref b] s = true) (hA : ∀ q : Nat, s.heap.size ≤ q → A q) (hbA : ¬ A b) (dC : Nat → ClassId) (dI : Nat → Nat → Nat) (ka ad : Nat → Nat) (ct : Nat → ClassId) (h : Nat) (a : Nat → Nat) (ca : Nat → ClassId) (had : ∀ i, 32 ≤ i → ad i = s.heap.size + (i - 32)) (hK1 : va_K (dC, dI) vwCl (cT ct) s) (hK2 : va_K (dC, dI) vwCl (rT ca) s) (hN : NX s) (hZ : cz A s s.heap) (hC : kS ka A s s.heap) (hR : kR ka s) (hL : kL s) (K : Int32 → CS → RS → Option Int32) (hKW : ∀ (i : Int32) (c0 : CS) (r0 : RS), K i c0 r0 = some 1 → ∀ (H : Heap) (locs : List Loc) (ls : Array Slot), Lp (dC, dI) ka ad ct h a ca A s.heap c0 r0 H locs → (qn c0 ≤ 600000 ∧ qs c0 ≤ 7000000) → lv_has ls 4 [(0, .ref b), (1, .ref (ad 32)), (2, .ref h), (3, .int i)] → W p l e room_1 s m #[Value.ref b] below meth c H locs (qn c0 - 32) (qs c0 + 9895) (lw_Z below #[Value.ref b] s) (F0 m 18 ls [])) (i : Int32) (c0 : CS) (r0 : RS) (hf : lawF_15 L xs K i c0 r0 = some 1) (H : Heap) (locs : List Loc) (ls : Array Slot) (hp : Lp (dC, dI) ka ad ct h a ca A s.heap c0 r0 H locs) (hbd : qn c0 ≤ 600000 ∧ qs c0 ≤ 7000000) (hl : lv_has ls 4 [(0, .ref b), (1, .ref (ad 32)), (2, .ref h), (3, .int i)]) : W p l e room_1 s m #[Value.ref b] below meth c H locs (qn c0 - 32) (qs c0 + 9895) (lw_Z below #[Value.ref b] s) (F0 m 731 ls []) := by
  obtain ⟨hx, hb, hr, hml, hown, -, hX, hbl, hlocks, hgv⟩ := C0
  unfold lawF_15 at hf
  refine lv_aload_n hx hb dL_law_731 rfl (lv_at hl 1 rfl) ?_
  refine lv_aload_n hx hb dL_law_732 rfl (lv_at hl 0 rfl) ?_
  refine lv_iload_n hx hb dL_law_733 rfl (lv_at hl 3 rfl) ?_
  refine lv_iconst (v := 1) hx hb dL_law_734 (by decide) ?_
  refine lv_iadd hx hb dL_law_735 ?_
  obtain ⟨g_198, hf⟩ := gd_some hf
  refine va_sld hx hb hX hbl hbA hp.1.2.1 g_198 dL_law_736 ?_
  refine lv_aload_n hx hb dL_law_737 rfl (lv_at hl 0 rfl) ?_
  refine lv_iload_n hx hb dL_law_738 rfl (lv_at hl 3 rfl) ?_
  refine lv_iconst (v := 2) hx hb dL_law_739 (by decide) ?_
  refine lv_iadd hx hb dL_law_740 ?_
  obtain ⟨g_199, hf⟩ := gd_some hf
  refine va_sld hx hb hX hbl hbA hp.1.2.1 g_199 dL_law_741 ?_
  refine lv_aload_n hx hb dL_law_742 rfl (lv_at hl 0 rfl) ?_
  refine lv_iload_n hx hb dL_law_743 rfl (lv_at hl 3 rfl) ?_
  refine lv_iconst (v := 3) hx hb dL_law_744 (by decide) ?_
  refine lv_iadd hx hb dL_law_745 ?_
  obtain ⟨g_200, hf⟩ := gd_some hf
  refine va_sld hx hb hX hbl hbA hp.1.2.1 g_200 dL_law_746 ?_
  obtain ⟨hk_204, hf⟩ := gd_some hf
  obtain ⟨r_202, c_203, hc_201, hf⟩ := bnd_some hf
  have h32 := hp.1.2.2.1.1
  refine l_ci hp hA (mo_X8_write 32 (xs (i + 1).toNatClampNeg) (xs (i + 2).toNatClampNeg) (xs (i + 3).toNatClampNeg) _ _ _ hc_201).mo (va_runV (As := [.int (xs (i + 1).toNatClampNeg), .int (xs (i + 2).toNatClampNeg), .int (xs (i + 3).toNatClampNeg)]) (rest := []) ⟨hx, hb, hml, hown, hts⟩ (c_X8_write l dC dI ka ad ct 32 (xs (i + 1).toNatClampNeg) (xs (i + 2).toNatClampNeg) (xs (i + 3).toNatClampNeg) _ _ _ hc_201 _) (cwV 3 hts gl_X8_write_84 rfl rfl rfl (by decide +kernel) ⟨Nat.le_of_ble_eq_true rfl, Nat.le_of_ble_eq_true rfl⟩) ⟨PrC.blind _, q_recv (ci := 10) hK1 hp.1 hC hk_204 (by decide) rfl (fun h => absurd h (by decide)), q_pre hp.1 hK1 hN hZ hC hR hL hA⟩ rfl rfl hl.1 rfl (lv_room (Nat.le_of_ble_eq_true rfl)) dL_law_747 ⟨by show qn c0 - 32 + 0 ≤ 600000; have := hbd.1; omega, by show qs c0 + 9895 + 0 ≤ 7302250; have := hbd.2; omega⟩) (fun H locs hp => ?_)
  refine W.widen (k := qn c_203 - 32) (n := qs c_203 + 9895) (by have := (mo_X8_write 32 (xs (i + 1).toNatClampNeg) (xs (i + 2).toNatClampNeg) (xs (i + 3).toNatClampNeg) _ _ _ hc_201).1; omega) (by have := (mo_X8_write 32 (xs (i + 1).toNatClampNeg) (xs (i + 2).toNatClampNeg) (xs (i + 3).toNatClampNeg) _ _ _ hc_201).2.1; omega) ?_
  have hbd : qn c_203 ≤ 600000 ∧ qs c_203 ≤ 7000000 := by rw [(mo_X8_write 32 (xs (i + 1).toNatClampNeg) (xs (i + 2).toNatClampNeg) (xs (i + 3).toNatClampNeg) _ _ _ hc_201).1, (mo_X8_write 32 (xs (i + 1).toNatClampNeg) (xs (i + 2).toNatClampNeg) (xs (i + 3).toNatClampNeg) _ _ _ hc_201).2.1]; exact hbd
  refine lv_pop hx hb dL_law_750 rfl ?_
  refine lv_aload_n hx hb dL_law_751 rfl (lv_at hl 2 rfl) ?_
  refine lv_aload_n hx hb dL_law_752 rfl (lv_at hl 0 rfl) ?_
  refine lv_iload_n hx hb dL_law_753 rfl (lv_at hl 3 rfl) ?_
  refine lv_iconst (v := 1) hx hb dL_law_754 (by decide) ?_
  refine lv_iadd hx hb dL_law_755 ?_
  obtain ⟨g_205, hf⟩ := gd_some hf
  refine va_sld hx hb hX hbl hbA hp.1.2.1 g_205 dL_law_756 ?_
  refine lv_aload_n hx hb dL_law_757 rfl (lv_at hl 0 rfl) ?_
  refine lv_iload_n hx hb dL_law_758 rfl (lv_at hl 3 rfl) ?_
  refine lv_iconst (v := 2) hx hb dL_law_759 (by decide) ?_
  refine lv_iadd hx hb dL_law_760 ?_
  obtain ⟨g_206, hf⟩ := gd_some hf
  refine va_sld hx hb hX hbl hbA hp.1.2.1 g_206 dL_law_761 ?_
  refine lv_aload_n hx hb dL_law_762 rfl (lv_at hl 0 rfl) ?_
  refine lv_iload_n hx hb dL_law_763 rfl (lv_at hl 3 rfl) ?_
  refine lv_iconst (v := 3) hx hb dL_law_764 (by decide) ?_
  refine lv_iadd hx hb dL_law_765 ?_
  obtain ⟨g_207, hf⟩ := gd_some hf
  refine va_sld hx hb hX hbl hbA hp.1.2.1 g_207 dL_law_766 ?_
  obtain ⟨r_209, q_210, hc_208, hf⟩ := bnd_some hf
  refine l_ri hp hA (Lp.sz had hp) (va_runV (As := [.int (xs (i + 1).toNatClampNeg), .int (xs (i + 2).toNatClampNeg), .int (xs (i + 3).toNatClampNeg)]) (rest := []) ⟨hx, hb, hml, hown, hts⟩ (c_X9_write l dC dI h a ca (xs (i + 1).toNatClampNeg) (xs (i + 2).toNatClampNeg) (xs (i + 3).toNatClampNeg) _ _ _ hc_208 _) (cwV 3 hts gl_X9_write_87 rfl rfl rfl (by decide +kernel) ⟨Nat.le_of_ble_eq_true rfl, Nat.le_of_ble_eq_true rfl⟩) ⟨Pr.blind _, va_recv hK2 hp.2.1.1 (ci := 11) (q0 := 0) rfl rfl, r_pre hp.2.1 hK2 hN hZ hA⟩ rfl rfl hl.1 rfl (lv_room (Nat.le_of_ble_eq_true rfl)) dL_law_767 ⟨by show qn c_203 - 32 + 0 ≤ 600000; have := hbd.1; omega, by show qs c_203 + 9895 + 0 ≤ 7302250; have := hbd.2; omega⟩) (fun H locs hsz hp => ?_)
  refine lv_pop hx hb dL_law_770 rfl ?_
  refine lv_goto (tgt := 972) hx hb dL_law_771 (by decide) ?_
  obtain ⟨v_211, ev_211, hf⟩ := nam_some hf
  refine lv_iinc (v := v_211) (lv' := [(3, .int v_211), (0, .ref b), (1, .ref (ad 32)), (2, .ref h)]) hx hb dL_law_972 hl (k := 3) rfl ev_211.symm (by decide) rfl (fun ls hl => ?_)
  refine lv_goto (tgt := 18) hx hb dL_law_975 (by decide) ?_
  exact hKW v_211 c_203 q_210 hf _ _ _ hp hbd (lv_sub hl [1, 2, 3, 0] rfl)
noncomputable def lawF_16 (L : Nat) (xs : Nat → Int32) (K : Int32 → CS → RS → Option Int32) (i : Int32) (c0 : CS) (r0 : RS) : Option Int32 := gd (vp_in (i + 1) L) (gd (vp_in (i + 2) L) (gd (qk c0 32 = 11) (bnd (fX8_at 32 (xs (i + 1).toNatClampNeg) (xs (i + 2).toNatClampNeg) c0) (fun r_215 c_216 => gd (vp_in (i + 1) L) (gd (vp_in (i + 2) L) (bnd (x9_at (xs (i + 1).toNatClampNeg) (xs (i + 2).toNatClampNeg) r0) (fun r_221 q_222 => nam (i + 6) (fun v_223 => K v_223 c_216 q_222))))))))
set_option maxHeartbeats 4000000 in
set_option maxRecDepth 100000 in
theorem law_16 (l : Launch) {p : Program} {e : Env} {s : State} {m : MethodId} {below : List Frame} {meth : Method} {c : Code} {b L : Nat} {xs : Nat → Int32} {A : Nat → Prop} (C0 : lw_At p s m meth c b L xs) (hts : ∀ w ∈ lwT, w.before #[Value.ref b] s = true) (hA : ∀ q : Nat, s.heap.size ≤ q → A q) (hbA : ¬ A b) (dC : Nat → ClassId) (dI : Nat → Nat → Nat) (ka ad : Nat → Nat) (ct : Nat → ClassId) (h : Nat) (a : Nat → Nat) (ca : Nat → ClassId) (had : ∀ i, 32 ≤ i → ad i = s.heap.size + (i - 32)) (hK1 : va_K (dC, dI) vwCl (cT ct) s) (hK2 : va_K (dC, dI) vwCl (rT ca) s) (hN : NX s) (hZ : cz A s s.heap) (hC : kS ka A s s.heap) (hR : kR ka s) (hL : kL s) (K : Int32 → CS → RS → Option Int32) (hKW : ∀ (i : Int32) (c0 : CS) (r0 : RS), K i c0 r0 = some 1 → ∀ (H : Heap) (locs : List Loc) (ls : Array Slot), Lp (dC, dI) ka ad ct h a ca A s.heap c0 r0 H locs → (qn c0 ≤ 600000 ∧ qs c0 ≤ 7000000) → lv_has ls 4 [(0, .ref b), (1, .ref (ad 32)), (2, .ref h), (3, .int i)] → W p l e room_1 s m #[Value.ref b] below meth c H locs (qn c0 - 32) (qs c0 + 9895) (lw_Z below #[Value.ref b] s) (F0 m 18 ls [])) (i : Int32) (c0 : CS) (r0 : RS) (hf : lawF_16 L xs K i c0 r0 = some 1) (H : Heap) (locs : List Loc) (ls : Array Slot) (hp : Lp (dC, dI) ka ad ct h a ca A s.heap c0 r0 H locs) (hbd : qn c0 ≤ 600000 ∧ qs c0 ≤ 7000000) (hl : lv_has ls 4 [(0, .ref b), (1, .ref (ad 32)), (2, .ref h), (3, .int i)]) : W p l e room_1 s m #[Value.ref b] below meth c H locs (qn c0 - 32) (qs c0 + 9895) (lw_Z below #[Value.ref b] s) (F0 m 774 ls []) := by
  obtain ⟨hx, hb, hr, hml, hown, -, hX, hbl, hlocks, hgv⟩ := C0
  unfold lawF_16 at hf
  refine lv_aload_n hx hb dL_law_774 rfl (lv_at hl 1 rfl) ?_
  refine lv_aload_n hx hb dL_law_775 rfl (lv_at hl 0 rfl) ?_
  refine lv_iload_n hx hb dL_law_776 rfl (lv_at hl 3 rfl) ?_
  refine lv_iconst (v := 1) hx hb dL_law_777 (by decide) ?_
  refine lv_iadd hx hb dL_law_778 ?_
  obtain ⟨g_212, hf⟩ := gd_some hf
  refine va_sld hx hb hX hbl hbA hp.1.2.1 g_212 dL_law_779 ?_
  refine lv_aload_n hx hb dL_law_780 rfl (lv_at hl 0 rfl) ?_
  refine lv_iload_n hx hb dL_law_781 rfl (lv_at hl 3 rfl) ?_
  refine lv_iconst (v := 2) hx hb dL_law_782 (by decide) ?_
  refine lv_iadd hx hb dL_law_783 ?_
  obtain ⟨g_213, hf⟩ := gd_some hf
  refine va_sld hx hb hX hbl hbA hp.1.2.1 g_213 dL_law_784 ?_
  obtain ⟨hk_217, hf⟩ := gd_some hf
  obtain ⟨r_215, c_216, hc_214, hf⟩ := bnd_some hf
  have h32 := hp.1.2.2.1.1
  refine l_ci hp hA (mo_X8_at 32 (xs (i + 1).toNatClampNeg) (xs (i + 2).toNatClampNeg) _ _ _ hc_214).mo (va_runV (As := [.int (xs (i + 1).toNatClampNeg), .int (xs (i + 2).toNatClampNeg)]) (rest := []) ⟨hx, hb, hml, hown, hts⟩ (c_X8_at l dC dI ka ad ct 32 (xs (i + 1).toNatClampNeg) (xs (i + 2).toNatClampNeg) _ _ _ hc_214 _) (cwV 2 hts gl_X8_at_88 rfl rfl rfl (by decide +kernel) ⟨Nat.le_of_ble_eq_true rfl, Nat.le_of_ble_eq_true rfl⟩) ⟨PrC.blind _, q_recv (ci := 10) hK1 hp.1 hC hk_217 (by decide) rfl (fun h => absurd h (by decide)), q_pre hp.1 hK1 hN hZ hC hR hL hA⟩ rfl rfl hl.1 rfl (lv_room (Nat.le_of_ble_eq_true rfl)) dL_law_785 ⟨by show qn c0 - 32 + 0 ≤ 600000; have := hbd.1; omega, by show qs c0 + 9895 + 0 ≤ 7302250; have := hbd.2; omega⟩) (fun H locs hp => ?_)
  refine W.widen (k := qn c_216 - 32) (n := qs c_216 + 9895) (by have := (mo_X8_at 32 (xs (i + 1).toNatClampNeg) (xs (i + 2).toNatClampNeg) _ _ _ hc_214).1; omega) (by have := (mo_X8_at 32 (xs (i + 1).toNatClampNeg) (xs (i + 2).toNatClampNeg) _ _ _ hc_214).2.1; omega) ?_
  have hbd : qn c_216 ≤ 600000 ∧ qs c_216 ≤ 7000000 := by rw [(mo_X8_at 32 (xs (i + 1).toNatClampNeg) (xs (i + 2).toNatClampNeg) _ _ _ hc_214).1, (mo_X8_at 32 (xs (i + 1).toNatClampNeg) (xs (i + 2).toNatClampNeg) _ _ _ hc_214).2.1]; exact hbd
  refine lv_pop hx hb dL_law_788 rfl ?_
  refine lv_aload_n hx hb dL_law_789 rfl (lv_at hl 2 rfl) ?_
  refine lv_aload_n hx hb dL_law_790 rfl (lv_at hl 0 rfl) ?_
  refine lv_iload_n hx hb dL_law_791 rfl (lv_at hl 3 rfl) ?_
  refine lv_iconst (v := 1) hx hb dL_law_792 (by decide) ?_
  refine lv_iadd hx hb dL_law_793 ?_
  obtain ⟨g_218, hf⟩ := gd_some hf
  refine va_sld hx hb hX hbl hbA hp.1.2.1 g_218 dL_law_794 ?_
  refine lv_aload_n hx hb dL_law_795 rfl (lv_at hl 0 rfl) ?_
  refine lv_iload_n hx hb dL_law_796 rfl (lv_at hl 3 rfl) ?_
  refine lv_iconst (v := 2) hx hb dL_law_797 (by decide) ?_
  refine lv_iadd hx hb dL_law_798 ?_
  obtain ⟨g_219, hf⟩ := gd_some hf
  refine va_sld hx hb hX hbl hbA hp.1.2.1 g_219 dL_law_799 ?_
  obtain ⟨r_221, q_222, hc_220, hf⟩ := bnd_some hf
  refine l_ri hp hA (Lp.sz had hp) (va_runV (As := [.int (xs (i + 1).toNatClampNeg), .int (xs (i + 2).toNatClampNeg)]) (rest := []) ⟨hx, hb, hml, hown, hts⟩ (c_X9_at l dC dI h a ca (xs (i + 1).toNatClampNeg) (xs (i + 2).toNatClampNeg) _ _ _ hc_220 _) (cwV 2 hts gl_X9_at_91 rfl rfl rfl (by decide +kernel) ⟨Nat.le_of_ble_eq_true rfl, Nat.le_of_ble_eq_true rfl⟩) ⟨Pr.blind _, va_recv hK2 hp.2.1.1 (ci := 11) (q0 := 0) rfl rfl, r_pre hp.2.1 hK2 hN hZ hA⟩ rfl rfl hl.1 rfl (lv_room (Nat.le_of_ble_eq_true rfl)) dL_law_800 ⟨by show qn c_216 - 32 + 0 ≤ 600000; have := hbd.1; omega, by show qs c_216 + 9895 + 0 ≤ 7302250; have := hbd.2; omega⟩) (fun H locs hsz hp => ?_)
  refine lv_pop hx hb dL_law_803 rfl ?_
  refine lv_goto (tgt := 972) hx hb dL_law_804 (by decide) ?_
  obtain ⟨v_223, ev_223, hf⟩ := nam_some hf
  refine lv_iinc (v := v_223) (lv' := [(3, .int v_223), (0, .ref b), (1, .ref (ad 32)), (2, .ref h)]) hx hb dL_law_972 hl (k := 3) rfl ev_223.symm (by decide) rfl (fun ls hl => ?_)
  refine lv_goto (tgt := 18) hx hb dL_law_975 (by decide) ?_
  exact hKW v_223 c_216 q_222 hf _ _ _ hp hbd (lv_sub hl [1, 2, 3, 0] rfl)
noncomputable def lawF_17 (L : Nat) (xs : Nat → Int32) (K : Int32 → CS → RS → Option Int32) (i : Int32) (c0 : CS) (r0 : RS) : Option Int32 := gd (vp_in (i + 1) L) (gd (vp_in (i + 2) L) (gd (vp_in (i + 3) L) (gd (vp_in (i + 4) L) (gd (qk c0 32 = 11) (bnd (fX8_open 32 (xs (i + 1).toNatClampNeg) (xs (i + 2).toNatClampNeg) (xs (i + 3).toNatClampNeg) (xs (i + 4).toNatClampNeg) c0) (fun r_229 c_230 => gd (vp_in (i + 1) L) (gd (vp_in (i + 2) L) (gd (vp_in (i + 3) L) (gd (vp_in (i + 4) L) (bnd (x9_open (xs (i + 1).toNatClampNeg) (xs (i + 2).toNatClampNeg) (xs (i + 3).toNatClampNeg) (xs (i + 4).toNatClampNeg) r0) (fun r_237 q_238 => nam (i + 6) (fun v_239 => K v_239 c_230 q_238))))))))))))
set_option maxHeartbeats 4000000 in
set_option maxRecDepth 100000 in
theorem law_17 (l : Launch) {p : Program} {e : Env} {s : State} {m : MethodId} {below : List Frame} {meth : Method} {c : Code} {b L : Nat} {xs : Nat → Int32} {A : Nat → Prop} (C0 : lw_At p s m meth c b L xs) (hts : ∀ w ∈ lwT, w.before #[Value.ref b] s = true) (hA : ∀ q : Nat, s.heap.size ≤ q → A q) (hbA : ¬ A b) (dC : Nat → ClassId) (dI : Nat → Nat → Nat) (ka ad : Nat → Nat) (ct : Nat → ClassId) (h : Nat) (a : Nat → Nat) (ca : Nat → ClassId) (had : ∀ i, 32 ≤ i → ad i = s.heap.size + (i - 32)) (hK1 : va_K (dC, dI) vwCl (cT ct) s) (hK2 : va_K (dC, dI) vwCl (rT ca) s) (hN : NX s) (hZ : cz A s s.heap) (hC : kS ka A s s.heap) (hR : kR ka s) (hL : kL s) (K : Int32 → CS → RS → Option Int32) (hKW : ∀ (i : Int32) (c0 : CS) (r0 : RS), K i c0 r0 = some 1 → ∀ (H : Heap) (locs : List Loc) (ls : Array Slot), Lp (dC, dI) ka ad ct h a ca A s.heap c0 r0 H locs → (qn c0 ≤ 600000 ∧ qs c0 ≤ 7000000) → lv_has ls 4 [(0, .ref b), (1, .ref (ad 32)), (2, .ref h), (3, .int i)] → W p l e room_1 s m #[Value.ref b] below meth c H locs (qn c0 - 32) (qs c0 + 9895) (lw_Z below #[Value.ref b] s) (F0 m 18 ls [])) (i : Int32) (c0 : CS) (r0 : RS) (hf : lawF_17 L xs K i c0 r0 = some 1) (H : Heap) (locs : List Loc) (ls : Array Slot) (hp : Lp (dC, dI) ka ad ct h a ca A s.heap c0 r0 H locs) (hbd : qn c0 ≤ 600000 ∧ qs c0 ≤ 7000000) (hl : lv_has ls 4 [(0, .ref b), (1, .ref (ad 32)), (2, .ref h), (3, .int i)]) : W p l e room_1 s m #[Value.ref b] below meth c H locs (qn c0 - 32) (qs c0 + 9895) (lw_Z below #[Value.ref b] s) (F0 m 807 ls []) := by
  obtain ⟨hx, hb, hr, hml, hown, -, hX, hbl, hlocks, hgv⟩ := C0
  unfold lawF_17 at hf
  refine lv_aload_n hx hb dL_law_807 rfl (lv_at hl 1 rfl) ?_
  refine lv_aload_n hx hb dL_law_808 rfl (lv_at hl 0 rfl) ?_
  refine lv_iload_n hx hb dL_law_809 rfl (lv_at hl 3 rfl) ?_
  refine lv_iconst (v := 1) hx hb dL_law_810 (by decide) ?_
  refine lv_iadd hx hb dL_law_811 ?_
  obtain ⟨g_224, hf⟩ := gd_some hf
  refine va_sld hx hb hX hbl hbA hp.1.2.1 g_224 dL_law_812 ?_
  refine lv_aload_n hx hb dL_law_813 rfl (lv_at hl 0 rfl) ?_
  refine lv_iload_n hx hb dL_law_814 rfl (lv_at hl 3 rfl) ?_
  refine lv_iconst (v := 2) hx hb dL_law_815 (by decide) ?_
  refine lv_iadd hx hb dL_law_816 ?_
  obtain ⟨g_225, hf⟩ := gd_some hf
  refine va_sld hx hb hX hbl hbA hp.1.2.1 g_225 dL_law_817 ?_
  refine lv_aload_n hx hb dL_law_818 rfl (lv_at hl 0 rfl) ?_
  refine lv_iload_n hx hb dL_law_819 rfl (lv_at hl 3 rfl) ?_
  refine lv_iconst (v := 3) hx hb dL_law_820 (by decide) ?_
  refine lv_iadd hx hb dL_law_821 ?_
  obtain ⟨g_226, hf⟩ := gd_some hf
  refine va_sld hx hb hX hbl hbA hp.1.2.1 g_226 dL_law_822 ?_
  refine lv_aload_n hx hb dL_law_823 rfl (lv_at hl 0 rfl) ?_
  refine lv_iload_n hx hb dL_law_824 rfl (lv_at hl 3 rfl) ?_
  refine lv_iconst (v := 4) hx hb dL_law_825 (by decide) ?_
  refine lv_iadd hx hb dL_law_826 ?_
  obtain ⟨g_227, hf⟩ := gd_some hf
  refine va_sld hx hb hX hbl hbA hp.1.2.1 g_227 dL_law_827 ?_
  obtain ⟨hk_231, hf⟩ := gd_some hf
  obtain ⟨r_229, c_230, hc_228, hf⟩ := bnd_some hf
  have h32 := hp.1.2.2.1.1
  refine l_ci hp hA (mo_X8_open 32 (xs (i + 1).toNatClampNeg) (xs (i + 2).toNatClampNeg) (xs (i + 3).toNatClampNeg) (xs (i + 4).toNatClampNeg) _ _ _ hc_228).mo (va_runV (As := [.int (xs (i + 1).toNatClampNeg), .int (xs (i + 2).toNatClampNeg), .int (xs (i + 3).toNatClampNeg), .int (xs (i + 4).toNatClampNeg)]) (rest := []) ⟨hx, hb, hml, hown, hts⟩ (c_X8_open l dC dI ka ad ct 32 (xs (i + 1).toNatClampNeg) (xs (i + 2).toNatClampNeg) (xs (i + 3).toNatClampNeg) (xs (i + 4).toNatClampNeg) _ _ _ hc_228 _) (cwV 4 hts gl_X8_open_92 rfl rfl rfl (by decide +kernel) ⟨Nat.le_of_ble_eq_true rfl, Nat.le_of_ble_eq_true rfl⟩) ⟨PrC.blind _, q_recv (ci := 10) hK1 hp.1 hC hk_231 (by decide) rfl (fun h => absurd h (by decide)), q_pre hp.1 hK1 hN hZ hC hR hL hA⟩ rfl rfl hl.1 rfl (lv_room (Nat.le_of_ble_eq_true rfl)) dL_law_828 ⟨by show qn c0 - 32 + 0 ≤ 600000; have := hbd.1; omega, by show qs c0 + 9895 + 0 ≤ 7302250; have := hbd.2; omega⟩) (fun H locs hp => ?_)
  refine W.widen (k := qn c_230 - 32) (n := qs c_230 + 9895) (by have := (mo_X8_open 32 (xs (i + 1).toNatClampNeg) (xs (i + 2).toNatClampNeg) (xs (i + 3).toNatClampNeg) (xs (i + 4).toNatClampNeg) _ _ _ hc_228).1; omega) (by have := (mo_X8_open 32 (xs (i + 1).toNatClampNeg) (xs (i + 2).toNatClampNeg) (xs (i + 3).toNatClampNeg) (xs (i + 4).toNatClampNeg) _ _ _ hc_228).2.1; omega) ?_
  have hbd : qn c_230 ≤ 600000 ∧ qs c_230 ≤ 7000000 := by rw [(mo_X8_open 32 (xs (i + 1).toNatClampNeg) (xs (i + 2).toNatClampNeg) (xs (i + 3).toNatClampNeg) (xs (i + 4).toNatClampNeg) _ _ _ hc_228).1, (mo_X8_open 32 (xs (i + 1).toNatClampNeg) (xs (i + 2).toNatClampNeg) (xs (i + 3).toNatClampNeg) (xs (i + 4).toNatClampNeg) _ _ _ hc_228).2.1]; exact hbd
  refine lv_pop hx hb dL_law_831 rfl ?_
  refine lv_aload_n hx hb dL_law_832 rfl (lv_at hl 2 rfl) ?_
  refine lv_aload_n hx hb dL_law_833 rfl (lv_at hl 0 rfl) ?_
  refine lv_iload_n hx hb dL_law_834 rfl (lv_at hl 3 rfl) ?_
  refine lv_iconst (v := 1) hx hb dL_law_835 (by decide) ?_
  refine lv_iadd hx hb dL_law_836 ?_
  obtain ⟨g_232, hf⟩ := gd_some hf
  refine va_sld hx hb hX hbl hbA hp.1.2.1 g_232 dL_law_837 ?_
  refine lv_aload_n hx hb dL_law_838 rfl (lv_at hl 0 rfl) ?_
  refine lv_iload_n hx hb dL_law_839 rfl (lv_at hl 3 rfl) ?_
  refine lv_iconst (v := 2) hx hb dL_law_840 (by decide) ?_
  refine lv_iadd hx hb dL_law_841 ?_
  obtain ⟨g_233, hf⟩ := gd_some hf
  refine va_sld hx hb hX hbl hbA hp.1.2.1 g_233 dL_law_842 ?_
  refine lv_aload_n hx hb dL_law_843 rfl (lv_at hl 0 rfl) ?_
  refine lv_iload_n hx hb dL_law_844 rfl (lv_at hl 3 rfl) ?_
  refine lv_iconst (v := 3) hx hb dL_law_845 (by decide) ?_
  refine lv_iadd hx hb dL_law_846 ?_
  obtain ⟨g_234, hf⟩ := gd_some hf
  refine va_sld hx hb hX hbl hbA hp.1.2.1 g_234 dL_law_847 ?_
  refine lv_aload_n hx hb dL_law_848 rfl (lv_at hl 0 rfl) ?_
  refine lv_iload_n hx hb dL_law_849 rfl (lv_at hl 3 rfl) ?_
  refine lv_iconst (v := 4) hx hb dL_law_850 (by decide) ?_
  refine lv_iadd hx hb dL_law_851 ?_
  obtain ⟨g_235, hf⟩ := gd_some hf
  refine va_sld hx hb hX hbl hbA hp.1.2.1 g_235 dL_law_852 ?_
  obtain ⟨r_237, q_238, hc_236, hf⟩ := bnd_some hf
  refine l_ri hp hA (Lp.sz had hp) (va_runV (As := [.int (xs (i + 1).toNatClampNeg), .int (xs (i + 2).toNatClampNeg), .int (xs (i + 3).toNatClampNeg), .int (xs (i + 4).toNatClampNeg)]) (rest := []) ⟨hx, hb, hml, hown, hts⟩ (c_X9_open l dC dI h a ca (xs (i + 1).toNatClampNeg) (xs (i + 2).toNatClampNeg) (xs (i + 3).toNatClampNeg) (xs (i + 4).toNatClampNeg) _ _ _ hc_236 _) (cwV 4 hts gl_X9_open_95 rfl rfl rfl (by decide +kernel) ⟨Nat.le_of_ble_eq_true rfl, Nat.le_of_ble_eq_true rfl⟩) ⟨Pr.blind _, va_recv hK2 hp.2.1.1 (ci := 11) (q0 := 0) rfl rfl, r_pre hp.2.1 hK2 hN hZ hA⟩ rfl rfl hl.1 rfl (lv_room (Nat.le_of_ble_eq_true rfl)) dL_law_853 ⟨by show qn c_230 - 32 + 0 ≤ 600000; have := hbd.1; omega, by show qs c_230 + 9895 + 0 ≤ 7302250; have := hbd.2; omega⟩) (fun H locs hsz hp => ?_)
  refine lv_pop hx hb dL_law_856 rfl ?_
  refine lv_goto (tgt := 972) hx hb dL_law_857 (by decide) ?_
  obtain ⟨v_239, ev_239, hf⟩ := nam_some hf
  refine lv_iinc (v := v_239) (lv' := [(3, .int v_239), (0, .ref b), (1, .ref (ad 32)), (2, .ref h)]) hx hb dL_law_972 hl (k := 3) rfl ev_239.symm (by decide) rfl (fun ls hl => ?_)
  refine lv_goto (tgt := 18) hx hb dL_law_975 (by decide) ?_
  exact hKW v_239 c_230 q_238 hf _ _ _ hp hbd (lv_sub hl [1, 2, 3, 0] rfl)
noncomputable def lawF_18 (L : Nat) (xs : Nat → Int32) (K : Int32 → CS → RS → Option Int32) (i : Int32) (c0 : CS) (r0 : RS) : Option Int32 := gd (vp_in (i + 1) L) (gd (vp_in (i + 2) L) (gd (qk c0 32 = 11) (bnd (fX8_step 32 (xs (i + 1).toNatClampNeg) (xs (i + 2).toNatClampNeg) c0) (fun r_243 c_244 => gd (vp_in (i + 1) L) (gd (vp_in (i + 2) L) (bnd (x9_step (xs (i + 1).toNatClampNeg) (xs (i + 2).toNatClampNeg) r0) (fun r_249 q_250 => nam (i + 6) (fun v_251 => K v_251 c_244 q_250))))))))
set_option maxHeartbeats 4000000 in
set_option maxRecDepth 100000 in
theorem law_18 (l : Launch) {p : Program} {e : Env} {s : State} {m : MethodId} {below : List Frame} {meth : Method} {c : Code} {b L : Nat} {xs : Nat → Int32} {A : Nat → Prop} (C0 : lw_At p s m meth c b L xs) (hts : ∀ w ∈ lwT, w.before #[Value.ref b] s = true) (hA : ∀ q : Nat, s.heap.size ≤ q → A q) (hbA : ¬ A b) (dC : Nat → ClassId) (dI : Nat → Nat → Nat) (ka ad : Nat → Nat) (ct : Nat → ClassId) (h : Nat) (a : Nat → Nat) (ca : Nat → ClassId) (had : ∀ i, 32 ≤ i → ad i = s.heap.size + (i - 32)) (hK1 : va_K (dC, dI) vwCl (cT ct) s) (hK2 : va_K (dC, dI) vwCl (rT ca) s) (hN : NX s) (hZ : cz A s s.heap) (hC : kS ka A s s.heap) (hR : kR ka s) (hL : kL s) (K : Int32 → CS → RS → Option Int32) (hKW : ∀ (i : Int32) (c0 : CS) (r0 : RS), K i c0 r0 = some 1 → ∀ (H : Heap) (locs : List Loc) (ls : Array Slot), Lp (dC, dI) ka ad ct h a ca A s.heap c0 r0 H locs → (qn c0 ≤ 600000 ∧ qs c0 ≤ 7000000) → lv_has ls 4 [(0, .ref b), (1, .ref (ad 32)), (2, .ref h), (3, .int i)] → W p l e room_1 s m #[Value.ref b] below meth c H locs (qn c0 - 32) (qs c0 + 9895) (lw_Z below #[Value.ref b] s) (F0 m 18 ls [])) (i : Int32) (c0 : CS) (r0 : RS) (hf : lawF_18 L xs K i c0 r0 = some 1) (H : Heap) (locs : List Loc) (ls : Array Slot) (hp : Lp (dC, dI) ka ad ct h a ca A s.heap c0 r0 H locs) (hbd : qn c0 ≤ 600000 ∧ qs c0 ≤ 7000000) (hl : lv_has ls 4 [(0, .ref b), (1, .ref (ad 32)), (2, .ref h), (3, .int i)]) : W p l e room_1 s m #[Value.ref b] below meth c H locs (qn c0 - 32) (qs c0 + 9895) (lw_Z below #[Value.ref b] s) (F0 m 860 ls []) := by
  obtain ⟨hx, hb, hr, hml, hown, -, hX, hbl, hlocks, hgv⟩ := C0
  unfold lawF_18 at hf
  refine lv_aload_n hx hb dL_law_860 rfl (lv_at hl 1 rfl) ?_
  refine lv_aload_n hx hb dL_law_861 rfl (lv_at hl 0 rfl) ?_
  refine lv_iload_n hx hb dL_law_862 rfl (lv_at hl 3 rfl) ?_
  refine lv_iconst (v := 1) hx hb dL_law_863 (by decide) ?_
  refine lv_iadd hx hb dL_law_864 ?_
  obtain ⟨g_240, hf⟩ := gd_some hf
  refine va_sld hx hb hX hbl hbA hp.1.2.1 g_240 dL_law_865 ?_
  refine lv_aload_n hx hb dL_law_866 rfl (lv_at hl 0 rfl) ?_
  refine lv_iload_n hx hb dL_law_867 rfl (lv_at hl 3 rfl) ?_
  refine lv_iconst (v := 2) hx hb dL_law_868 (by decide) ?_
  refine lv_iadd hx hb dL_law_869 ?_
  obtain ⟨g_241, hf⟩ := gd_some hf
  refine va_sld hx hb hX hbl hbA hp.1.2.1 g_241 dL_law_870 ?_
  obtain ⟨hk_245, hf⟩ := gd_some hf
  obtain ⟨r_243, c_244, hc_242, hf⟩ := bnd_some hf
  have h32 := hp.1.2.2.1.1
  refine l_ci hp hA (mo_X8_step 32 (xs (i + 1).toNatClampNeg) (xs (i + 2).toNatClampNeg) _ _ _ hc_242).mo (va_runV (As := [.int (xs (i + 1).toNatClampNeg), .int (xs (i + 2).toNatClampNeg)]) (rest := []) ⟨hx, hb, hml, hown, hts⟩ (c_X8_step l dC dI ka ad ct 32 (xs (i + 1).toNatClampNeg) (xs (i + 2).toNatClampNeg) _ _ _ hc_242 _) (cwV 2 hts gl_X8_step_96 rfl rfl rfl (by decide +kernel) ⟨Nat.le_of_ble_eq_true rfl, Nat.le_of_ble_eq_true rfl⟩) ⟨PrC.blind _, q_recv (ci := 10) hK1 hp.1 hC hk_245 (by decide) rfl (fun h => absurd h (by decide)), q_pre hp.1 hK1 hN hZ hC hR hL hA⟩ rfl rfl hl.1 rfl (lv_room (Nat.le_of_ble_eq_true rfl)) dL_law_871 ⟨by show qn c0 - 32 + 0 ≤ 600000; have := hbd.1; omega, by show qs c0 + 9895 + 0 ≤ 7302250; have := hbd.2; omega⟩) (fun H locs hp => ?_)
  refine W.widen (k := qn c_244 - 32) (n := qs c_244 + 9895) (by have := (mo_X8_step 32 (xs (i + 1).toNatClampNeg) (xs (i + 2).toNatClampNeg) _ _ _ hc_242).1; omega) (by have := (mo_X8_step 32 (xs (i + 1).toNatClampNeg) (xs (i + 2).toNatClampNeg) _ _ _ hc_242).2.1; omega) ?_
  have hbd : qn c_244 ≤ 600000 ∧ qs c_244 ≤ 7000000 := by rw [(mo_X8_step 32 (xs (i + 1).toNatClampNeg) (xs (i + 2).toNatClampNeg) _ _ _ hc_242).1, (mo_X8_step 32 (xs (i + 1).toNatClampNeg) (xs (i + 2).toNatClampNeg) _ _ _ hc_242).2.1]; exact hbd
  refine lv_pop hx hb dL_law_874 rfl ?_
  refine lv_aload_n hx hb dL_law_875 rfl (lv_at hl 2 rfl) ?_
  refine lv_aload_n hx hb dL_law_876 rfl (lv_at hl 0 rfl) ?_
  refine lv_iload_n hx hb dL_law_877 rfl (lv_at hl 3 rfl) ?_
  refine lv_iconst (v := 1) hx hb dL_law_878 (by decide) ?_
  refine lv_iadd hx hb dL_law_879 ?_
  obtain ⟨g_246, hf⟩ := gd_some hf
  refine va_sld hx hb hX hbl hbA hp.1.2.1 g_246 dL_law_880 ?_
  refine lv_aload_n hx hb dL_law_881 rfl (lv_at hl 0 rfl) ?_
  refine lv_iload_n hx hb dL_law_882 rfl (lv_at hl 3 rfl) ?_
  refine lv_iconst (v := 2) hx hb dL_law_883 (by decide) ?_
  refine lv_iadd hx hb dL_law_884 ?_
  obtain ⟨g_247, hf⟩ := gd_some hf
  refine va_sld hx hb hX hbl hbA hp.1.2.1 g_247 dL_law_885 ?_
  obtain ⟨r_249, q_250, hc_248, hf⟩ := bnd_some hf
  refine l_ri hp hA (Lp.sz had hp) (va_runV (As := [.int (xs (i + 1).toNatClampNeg), .int (xs (i + 2).toNatClampNeg)]) (rest := []) ⟨hx, hb, hml, hown, hts⟩ (c_X9_step l dC dI h a ca (xs (i + 1).toNatClampNeg) (xs (i + 2).toNatClampNeg) _ _ _ hc_248 _) (cwV 2 hts gl_X9_step_99 rfl rfl rfl (by decide +kernel) ⟨Nat.le_of_ble_eq_true rfl, Nat.le_of_ble_eq_true rfl⟩) ⟨Pr.blind _, va_recv hK2 hp.2.1.1 (ci := 11) (q0 := 0) rfl rfl, r_pre hp.2.1 hK2 hN hZ hA⟩ rfl rfl hl.1 rfl (lv_room (Nat.le_of_ble_eq_true rfl)) dL_law_886 ⟨by show qn c_244 - 32 + 0 ≤ 600000; have := hbd.1; omega, by show qs c_244 + 9895 + 0 ≤ 7302250; have := hbd.2; omega⟩) (fun H locs hsz hp => ?_)
  refine lv_pop hx hb dL_law_889 rfl ?_
  refine lv_goto (tgt := 972) hx hb dL_law_890 (by decide) ?_
  obtain ⟨v_251, ev_251, hf⟩ := nam_some hf
  refine lv_iinc (v := v_251) (lv' := [(3, .int v_251), (0, .ref b), (1, .ref (ad 32)), (2, .ref h)]) hx hb dL_law_972 hl (k := 3) rfl ev_251.symm (by decide) rfl (fun ls hl => ?_)
  refine lv_goto (tgt := 18) hx hb dL_law_975 (by decide) ?_
  exact hKW v_251 c_244 q_250 hf _ _ _ hp hbd (lv_sub hl [1, 2, 3, 0] rfl)
noncomputable def lawF_19 (L : Nat) (xs : Nat → Int32) (K : Int32 → CS → RS → Option Int32) (i : Int32) (c0 : CS) (r0 : RS) : Option Int32 := gd (vp_in (i + 1) L) (gd (vp_in (i + 2) L) (gd (vp_in (i + 3) L) (gd (qk c0 32 = 11) (bnd (fX8_walk 32 (xs (i + 1).toNatClampNeg) (xs (i + 2).toNatClampNeg) (xs (i + 3).toNatClampNeg) c0) (fun r_256 c_257 => gd (vp_in (i + 1) L) (gd (vp_in (i + 2) L) (gd (vp_in (i + 3) L) (bnd (x9_walk (xs (i + 1).toNatClampNeg) (xs (i + 2).toNatClampNeg) (xs (i + 3).toNatClampNeg) r0) (fun r_263 q_264 => nam (i + 6) (fun v_265 => K v_265 c_257 q_264))))))))))
set_option maxHeartbeats 4000000 in
set_option maxRecDepth 100000 in
theorem law_19 (l : Launch) {p : Program} {e : Env} {s : State} {m : MethodId} {below : List Frame} {meth : Method} {c : Code} {b L : Nat} {xs : Nat → Int32} {A : Nat → Prop} (C0 : lw_At p s m meth c b L xs) (hts : ∀ w ∈ lwT, w.before #[Value.ref b] s = true) (hA : ∀ q : Nat, s.heap.size ≤ q → A q) (hbA : ¬ A b) (dC : Nat → ClassId) (dI : Nat → Nat → Nat) (ka ad : Nat → Nat) (ct : Nat → ClassId) (h : Nat) (a : Nat → Nat) (ca : Nat → ClassId) (had : ∀ i, 32 ≤ i → ad i = s.heap.size + (i - 32)) (hK1 : va_K (dC, dI) vwCl (cT ct) s) (hK2 : va_K (dC, dI) vwCl (rT ca) s) (hN : NX s) (hZ : cz A s s.heap) (hC : kS ka A s s.heap) (hR : kR ka s) (hL : kL s) (K : Int32 → CS → RS → Option Int32) (hKW : ∀ (i : Int32) (c0 : CS) (r0 : RS), K i c0 r0 = some 1 → ∀ (H : Heap) (locs : List Loc) (ls : Array Slot), Lp (dC, dI) ka ad ct h a ca A s.heap c0 r0 H locs → (qn c0 ≤ 600000 ∧ qs c0 ≤ 7000000) → lv_has ls 4 [(0, .ref b), (1, .ref (ad 32)), (2, .ref h), (3, .int i)] → W p l e room_1 s m #[Value.ref b] below meth c H locs (qn c0 - 32) (qs c0 + 9895) (lw_Z below #[Value.ref b] s) (F0 m 18 ls [])) (i : Int32) (c0 : CS) (r0 : RS) (hf : lawF_19 L xs K i c0 r0 = some 1) (H : Heap) (locs : List Loc) (ls : Array Slot) (hp : Lp (dC, dI) ka ad ct h a ca A s.heap c0 r0 H locs) (hbd : qn c0 ≤ 600000 ∧ qs c0 ≤ 7000000) (hl : lv_has ls 4 [(0, .ref b), (1, .ref (ad 32)), (2, .ref h), (3, .int i)]) : W p l e room_1 s m #[Value.ref b] below meth c H locs (qn c0 - 32) (qs c0 + 9895) (lw_Z below #[Value.ref b] s) (F0 m 893 ls []) := by
  obtain ⟨hx, hb, hr, hml, hown, -, hX, hbl, hlocks, hgv⟩ := C0
  unfold lawF_19 at hf
  refine lv_aload_n hx hb dL_law_893 rfl (lv_at hl 1 rfl) ?_
  refine lv_aload_n hx hb dL_law_894 rfl (lv_at hl 0 rfl) ?_
  refine lv_iload_n hx hb dL_law_895 rfl (lv_at hl 3 rfl) ?_
  refine lv_iconst (v := 1) hx hb dL_law_896 (by decide) ?_
  refine lv_iadd hx hb dL_law_897 ?_
  obtain ⟨g_252, hf⟩ := gd_some hf
  refine va_sld hx hb hX hbl hbA hp.1.2.1 g_252 dL_law_898 ?_
  refine lv_aload_n hx hb dL_law_899 rfl (lv_at hl 0 rfl) ?_
  refine lv_iload_n hx hb dL_law_900 rfl (lv_at hl 3 rfl) ?_
  refine lv_iconst (v := 2) hx hb dL_law_901 (by decide) ?_
  refine lv_iadd hx hb dL_law_902 ?_
  obtain ⟨g_253, hf⟩ := gd_some hf
  refine va_sld hx hb hX hbl hbA hp.1.2.1 g_253 dL_law_903 ?_
  refine lv_aload_n hx hb dL_law_904 rfl (lv_at hl 0 rfl) ?_
  refine lv_iload_n hx hb dL_law_905 rfl (lv_at hl 3 rfl) ?_
  refine lv_iconst (v := 3) hx hb dL_law_906 (by decide) ?_
  refine lv_iadd hx hb dL_law_907 ?_
  obtain ⟨g_254, hf⟩ := gd_some hf
  refine va_sld hx hb hX hbl hbA hp.1.2.1 g_254 dL_law_908 ?_
  obtain ⟨hk_258, hf⟩ := gd_some hf
  obtain ⟨r_256, c_257, hc_255, hf⟩ := bnd_some hf
  have h32 := hp.1.2.2.1.1
  refine l_ci hp hA (mo_X8_walk 32 (xs (i + 1).toNatClampNeg) (xs (i + 2).toNatClampNeg) (xs (i + 3).toNatClampNeg) _ _ _ hc_255).mo (va_runV (As := [.int (xs (i + 1).toNatClampNeg), .int (xs (i + 2).toNatClampNeg), .int (xs (i + 3).toNatClampNeg)]) (rest := []) ⟨hx, hb, hml, hown, hts⟩ (c_X8_walk l dC dI ka ad ct 32 (xs (i + 1).toNatClampNeg) (xs (i + 2).toNatClampNeg) (xs (i + 3).toNatClampNeg) _ _ _ hc_255 _) (cwV 3 hts gl_X8_walk_100 rfl rfl rfl (by decide +kernel) ⟨Nat.le_of_ble_eq_true rfl, Nat.le_of_ble_eq_true rfl⟩) ⟨PrC.blind _, q_recv (ci := 10) hK1 hp.1 hC hk_258 (by decide) rfl (fun h => absurd h (by decide)), q_pre hp.1 hK1 hN hZ hC hR hL hA⟩ rfl rfl hl.1 rfl (lv_room (Nat.le_of_ble_eq_true rfl)) dL_law_909 ⟨by show qn c0 - 32 + 0 ≤ 600000; have := hbd.1; omega, by show qs c0 + 9895 + 0 ≤ 7302250; have := hbd.2; omega⟩) (fun H locs hp => ?_)
  refine W.widen (k := qn c_257 - 32) (n := qs c_257 + 9895) (by have := (mo_X8_walk 32 (xs (i + 1).toNatClampNeg) (xs (i + 2).toNatClampNeg) (xs (i + 3).toNatClampNeg) _ _ _ hc_255).1; omega) (by have := (mo_X8_walk 32 (xs (i + 1).toNatClampNeg) (xs (i + 2).toNatClampNeg) (xs (i + 3).toNatClampNeg) _ _ _ hc_255).2.1; omega) ?_
  have hbd : qn c_257 ≤ 600000 ∧ qs c_257 ≤ 7000000 := by rw [(mo_X8_walk 32 (xs (i + 1).toNatClampNeg) (xs (i + 2).toNatClampNeg) (xs (i + 3).toNatClampNeg) _ _ _ hc_255).1, (mo_X8_walk 32 (xs (i + 1).toNatClampNeg) (xs (i + 2).toNatClampNeg) (xs (i + 3).toNatClampNeg) _ _ _ hc_255).2.1]; exact hbd
  refine lv_pop hx hb dL_law_912 rfl ?_
  refine lv_aload_n hx hb dL_law_913 rfl (lv_at hl 2 rfl) ?_
  refine lv_aload_n hx hb dL_law_914 rfl (lv_at hl 0 rfl) ?_
  refine lv_iload_n hx hb dL_law_915 rfl (lv_at hl 3 rfl) ?_
  refine lv_iconst (v := 1) hx hb dL_law_916 (by decide) ?_
  refine lv_iadd hx hb dL_law_917 ?_
  obtain ⟨g_259, hf⟩ := gd_some hf
  refine va_sld hx hb hX hbl hbA hp.1.2.1 g_259 dL_law_918 ?_
  refine lv_aload_n hx hb dL_law_919 rfl (lv_at hl 0 rfl) ?_
  refine lv_iload_n hx hb dL_law_920 rfl (lv_at hl 3 rfl) ?_
  refine lv_iconst (v := 2) hx hb dL_law_921 (by decide) ?_
  refine lv_iadd hx hb dL_law_922 ?_
  obtain ⟨g_260, hf⟩ := gd_some hf
  refine va_sld hx hb hX hbl hbA hp.1.2.1 g_260 dL_law_923 ?_
  refine lv_aload_n hx hb dL_law_924 rfl (lv_at hl 0 rfl) ?_
  refine lv_iload_n hx hb dL_law_925 rfl (lv_at hl 3 rfl) ?_
  refine lv_iconst (v := 3) hx hb dL_law_926 (by decide) ?_
  refine lv_iadd hx hb dL_law_927 ?_
  obtain ⟨g_261, hf⟩ := gd_some hf
  refine va_sld hx hb hX hbl hbA hp.1.2.1 g_261 dL_law_928 ?_
  obtain ⟨r_263, q_264, hc_262, hf⟩ := bnd_some hf
  refine l_ri hp hA (Lp.sz had hp) (va_runV (As := [.int (xs (i + 1).toNatClampNeg), .int (xs (i + 2).toNatClampNeg), .int (xs (i + 3).toNatClampNeg)]) (rest := []) ⟨hx, hb, hml, hown, hts⟩ (c_X9_walk l dC dI h a ca (xs (i + 1).toNatClampNeg) (xs (i + 2).toNatClampNeg) (xs (i + 3).toNatClampNeg) _ _ _ hc_262 _) (cwV 3 hts gl_X9_walk_103 rfl rfl rfl (by decide +kernel) ⟨Nat.le_of_ble_eq_true rfl, Nat.le_of_ble_eq_true rfl⟩) ⟨Pr.blind _, va_recv hK2 hp.2.1.1 (ci := 11) (q0 := 0) rfl rfl, r_pre hp.2.1 hK2 hN hZ hA⟩ rfl rfl hl.1 rfl (lv_room (Nat.le_of_ble_eq_true rfl)) dL_law_929 ⟨by show qn c_257 - 32 + 0 ≤ 600000; have := hbd.1; omega, by show qs c_257 + 9895 + 0 ≤ 7302250; have := hbd.2; omega⟩) (fun H locs hsz hp => ?_)
  refine lv_pop hx hb dL_law_932 rfl ?_
  refine lv_goto (tgt := 972) hx hb dL_law_933 (by decide) ?_
  obtain ⟨v_265, ev_265, hf⟩ := nam_some hf
  refine lv_iinc (v := v_265) (lv' := [(3, .int v_265), (0, .ref b), (1, .ref (ad 32)), (2, .ref h)]) hx hb dL_law_972 hl (k := 3) rfl ev_265.symm (by decide) rfl (fun ls hl => ?_)
  refine lv_goto (tgt := 18) hx hb dL_law_975 (by decide) ?_
  exact hKW v_265 c_257 q_264 hf _ _ _ hp hbd (lv_sub hl [1, 2, 3, 0] rfl)
noncomputable def lawF_20 (L : Nat) (xs : Nat → Int32) (K : Int32 → CS → RS → Option Int32) (i : Int32) (c0 : CS) (r0 : RS) : Option Int32 := gd (qk c0 32 = 11) (bnd (fX8_by 32  c0) (fun r_267 c_268 => bnd (x9_by  r0) (fun r_271 q_272 => nam (i + 6) (fun v_273 => K v_273 c_268 q_272))))
set_option maxHeartbeats 4000000 in
set_option maxRecDepth 100000 in
theorem law_20 (l : Launch) {p : Program} {e : Env} {s : State} {m : MethodId} {below : List Frame} {meth : Method} {c : Code} {b L : Nat} {xs : Nat → Int32} {A : Nat → Prop} (C0 : lw_At p s m meth c b L xs) (hts : ∀ w ∈ lwT, w.before #[Value.ref b] s = true) (hA : ∀ q : Nat, s.heap.size ≤ q → A q) (hbA : ¬ A b) (dC : Nat → ClassId) (dI : Nat → Nat → Nat) (ka ad : Nat → Nat) (ct : Nat → ClassId) (h : Nat) (a : Nat → Nat) (ca : Nat → ClassId) (had : ∀ i, 32 ≤ i → ad i = s.heap.size + (i - 32)) (hK1 : va_K (dC, dI) vwCl (cT ct) s) (hK2 : va_K (dC, dI) vwCl (rT ca) s) (hN : NX s) (hZ : cz A s s.heap) (hC : kS ka A s s.heap) (hR : kR ka s) (hL : kL s) (K : Int32 → CS → RS → Option Int32) (hKW : ∀ (i : Int32) (c0 : CS) (r0 : RS), K i c0 r0 = some 1 → ∀ (H : Heap) (locs : List Loc) (ls : Array Slot), Lp (dC, dI) ka ad ct h a ca A s.heap c0 r0 H locs → (qn c0 ≤ 600000 ∧ qs c0 ≤ 7000000) → lv_has ls 4 [(0, .ref b), (1, .ref (ad 32)), (2, .ref h), (3, .int i)] → W p l e room_1 s m #[Value.ref b] below meth c H locs (qn c0 - 32) (qs c0 + 9895) (lw_Z below #[Value.ref b] s) (F0 m 18 ls [])) (i : Int32) (c0 : CS) (r0 : RS) (hf : lawF_20 L xs K i c0 r0 = some 1) (H : Heap) (locs : List Loc) (ls : Array Slot) (hp : Lp (dC, dI) ka ad ct h a ca A s.heap c0 r0 H locs) (hbd : qn c0 ≤ 600000 ∧ qs c0 ≤ 7000000) (hl : lv_has ls 4 [(0, .ref b), (1, .ref (ad 32)), (2, .ref h), (3, .int i)]) : W p l e room_1 s m #[Value.ref b] below meth c H locs (qn c0 - 32) (qs c0 + 9895) (lw_Z below #[Value.ref b] s) (F0 m 936 ls []) := by
  obtain ⟨hx, hb, hr, hml, hown, -, hX, hbl, hlocks, hgv⟩ := C0
  unfold lawF_20 at hf
  refine lv_aload_n hx hb dL_law_936 rfl (lv_at hl 1 rfl) ?_
  obtain ⟨hk_269, hf⟩ := gd_some hf
  obtain ⟨r_267, c_268, hc_266, hf⟩ := bnd_some hf
  have h32 := hp.1.2.2.1.1
  refine l_ci hp hA (mo_X8_by 32  _ _ _ hc_266).mo (va_runV (As := []) (rest := []) ⟨hx, hb, hml, hown, hts⟩ (c_X8_by l dC dI ka ad ct 32  _ _ _ hc_266 _) (cwV 0 hts gl_X8_by_104 rfl rfl rfl (by decide +kernel) ⟨Nat.le_of_ble_eq_true rfl, Nat.le_of_ble_eq_true rfl⟩) ⟨PrC.blind _, q_recv (ci := 10) hK1 hp.1 hC hk_269 (by decide) rfl (fun h => absurd h (by decide)), q_pre hp.1 hK1 hN hZ hC hR hL hA⟩ rfl rfl hl.1 rfl (lv_room (Nat.le_of_ble_eq_true rfl)) dL_law_937 ⟨by show qn c0 - 32 + 0 ≤ 600000; have := hbd.1; omega, by show qs c0 + 9895 + 0 ≤ 7302250; have := hbd.2; omega⟩) (fun H locs hp => ?_)
  refine W.widen (k := qn c_268 - 32) (n := qs c_268 + 9895) (by have := (mo_X8_by 32  _ _ _ hc_266).1; omega) (by have := (mo_X8_by 32  _ _ _ hc_266).2.1; omega) ?_
  have hbd : qn c_268 ≤ 600000 ∧ qs c_268 ≤ 7000000 := by rw [(mo_X8_by 32  _ _ _ hc_266).1, (mo_X8_by 32  _ _ _ hc_266).2.1]; exact hbd
  refine lv_pop hx hb dL_law_940 rfl ?_
  refine lv_aload_n hx hb dL_law_941 rfl (lv_at hl 2 rfl) ?_
  obtain ⟨r_271, q_272, hc_270, hf⟩ := bnd_some hf
  refine l_ri hp hA (Lp.sz had hp) (va_runV (As := []) (rest := []) ⟨hx, hb, hml, hown, hts⟩ (c_X9_by l dC dI h a ca  _ _ _ hc_270 _) (cwV 0 hts gl_X9_by_108 rfl rfl rfl (by decide +kernel) ⟨Nat.le_of_ble_eq_true rfl, Nat.le_of_ble_eq_true rfl⟩) ⟨Pr.blind _, va_recv hK2 hp.2.1.1 (ci := 11) (q0 := 0) rfl rfl, r_pre hp.2.1 hK2 hN hZ hA⟩ rfl rfl hl.1 rfl (lv_room (Nat.le_of_ble_eq_true rfl)) dL_law_942 ⟨by show qn c_268 - 32 + 0 ≤ 600000; have := hbd.1; omega, by show qs c_268 + 9895 + 0 ≤ 7302250; have := hbd.2; omega⟩) (fun H locs hsz hp => ?_)
  refine lv_pop hx hb dL_law_945 rfl ?_
  refine lv_goto (tgt := 972) hx hb dL_law_946 (by decide) ?_
  obtain ⟨v_273, ev_273, hf⟩ := nam_some hf
  refine lv_iinc (v := v_273) (lv' := [(3, .int v_273), (0, .ref b), (1, .ref (ad 32)), (2, .ref h)]) hx hb dL_law_972 hl (k := 3) rfl ev_273.symm (by decide) rfl (fun ls hl => ?_)
  refine lv_goto (tgt := 18) hx hb dL_law_975 (by decide) ?_
  exact hKW v_273 c_268 q_272 hf _ _ _ hp hbd (lv_sub hl [1, 2, 3, 0] rfl)
noncomputable def lawF_21 (L : Nat) (xs : Nat → Int32) (K : Int32 → CS → RS → Option Int32) (i : Int32) (c0 : CS) (r0 : RS) : Option Int32 := gd (vp_in (i + 1) L) (gd (qk c0 32 = 11) (bnd (fX8_readers 32 (xs (i + 1).toNatClampNeg) c0) (fun r_276 c_277 => gd (vp_in (i + 1) L) (bnd (x9_readers (xs (i + 1).toNatClampNeg) r0) (fun r_281 q_282 => pif (r_276 = r_281) (nam (i + 6) (fun v_284 => K v_284 c_277 q_282)) (some (0 : Int32)))))))
set_option maxHeartbeats 4000000 in
set_option maxRecDepth 100000 in
theorem law_21 (l : Launch) {p : Program} {e : Env} {s : State} {m : MethodId} {below : List Frame} {meth : Method} {c : Code} {b L : Nat} {xs : Nat → Int32} {A : Nat → Prop} (C0 : lw_At p s m meth c b L xs) (hts : ∀ w ∈ lwT, w.before #[Value.ref b] s = true) (hA : ∀ q : Nat, s.heap.size ≤ q → A q) (hbA : ¬ A b) (dC : Nat → ClassId) (dI : Nat → Nat → Nat) (ka ad : Nat → Nat) (ct : Nat → ClassId) (h : Nat) (a : Nat → Nat) (ca : Nat → ClassId) (had : ∀ i, 32 ≤ i → ad i = s.heap.size + (i - 32)) (hK1 : va_K (dC, dI) vwCl (cT ct) s) (hK2 : va_K (dC, dI) vwCl (rT ca) s) (hN : NX s) (hZ : cz A s s.heap) (hC : kS ka A s s.heap) (hR : kR ka s) (hL : kL s) (K : Int32 → CS → RS → Option Int32) (hKW : ∀ (i : Int32) (c0 : CS) (r0 : RS), K i c0 r0 = some 1 → ∀ (H : Heap) (locs : List Loc) (ls : Array Slot), Lp (dC, dI) ka ad ct h a ca A s.heap c0 r0 H locs → (qn c0 ≤ 600000 ∧ qs c0 ≤ 7000000) → lv_has ls 4 [(0, .ref b), (1, .ref (ad 32)), (2, .ref h), (3, .int i)] → W p l e room_1 s m #[Value.ref b] below meth c H locs (qn c0 - 32) (qs c0 + 9895) (lw_Z below #[Value.ref b] s) (F0 m 18 ls [])) (i : Int32) (c0 : CS) (r0 : RS) (hf : lawF_21 L xs K i c0 r0 = some 1) (H : Heap) (locs : List Loc) (ls : Array Slot) (hp : Lp (dC, dI) ka ad ct h a ca A s.heap c0 r0 H locs) (hbd : qn c0 ≤ 600000 ∧ qs c0 ≤ 7000000) (hl : lv_has ls 4 [(0, .ref b), (1, .ref (ad 32)), (2, .ref h), (3, .int i)]) : W p l e room_1 s m #[Value.ref b] below meth c H locs (qn c0 - 32) (qs c0 + 9895) (lw_Z below #[Value.ref b] s) (F0 m 949 ls []) := by
  obtain ⟨hx, hb, hr, hml, hown, -, hX, hbl, hlocks, hgv⟩ := C0
  unfold lawF_21 at hf
  refine lv_aload_n hx hb dL_law_949 rfl (lv_at hl 1 rfl) ?_
  refine lv_aload_n hx hb dL_law_950 rfl (lv_at hl 0 rfl) ?_
  refine lv_iload_n hx hb dL_law_951 rfl (lv_at hl 3 rfl) ?_
  refine lv_iconst (v := 1) hx hb dL_law_952 (by decide) ?_
  refine lv_iadd hx hb dL_law_953 ?_
  obtain ⟨g_274, hf⟩ := gd_some hf
  refine va_sld hx hb hX hbl hbA hp.1.2.1 g_274 dL_law_954 ?_
  obtain ⟨hk_278, hf⟩ := gd_some hf
  obtain ⟨r_276, c_277, hc_275, hf⟩ := bnd_some hf
  have h32 := hp.1.2.2.1.1
  refine l_ci hp hA (mo_X8_readers 32 (xs (i + 1).toNatClampNeg) _ _ _ hc_275).mo (va_runV (As := [.int (xs (i + 1).toNatClampNeg)]) (rest := []) ⟨hx, hb, hml, hown, hts⟩ (c_X8_readers l dC dI ka ad ct 32 (xs (i + 1).toNatClampNeg) _ _ _ hc_275 _) (cwV 1 hts gl_X8_readers_109 rfl rfl rfl (by decide +kernel) ⟨Nat.le_of_ble_eq_true rfl, Nat.le_of_ble_eq_true rfl⟩) ⟨PrC.blind _, q_recv (ci := 10) hK1 hp.1 hC hk_278 (by decide) rfl (fun h => absurd h (by decide)), q_pre hp.1 hK1 hN hZ hC hR hL hA⟩ rfl rfl hl.1 rfl (lv_room (Nat.le_of_ble_eq_true rfl)) dL_law_955 ⟨by show qn c0 - 32 + 0 ≤ 600000; have := hbd.1; omega, by show qs c0 + 9895 + 0 ≤ 7302250; have := hbd.2; omega⟩) (fun H locs hp => ?_)
  refine W.widen (k := qn c_277 - 32) (n := qs c_277 + 9895) (by have := (mo_X8_readers 32 (xs (i + 1).toNatClampNeg) _ _ _ hc_275).1; omega) (by have := (mo_X8_readers 32 (xs (i + 1).toNatClampNeg) _ _ _ hc_275).2.1; omega) ?_
  have hbd : qn c_277 ≤ 600000 ∧ qs c_277 ≤ 7000000 := by rw [(mo_X8_readers 32 (xs (i + 1).toNatClampNeg) _ _ _ hc_275).1, (mo_X8_readers 32 (xs (i + 1).toNatClampNeg) _ _ _ hc_275).2.1]; exact hbd
  refine lv_aload_n hx hb dL_law_958 rfl (lv_at hl 2 rfl) ?_
  refine lv_aload_n hx hb dL_law_959 rfl (lv_at hl 0 rfl) ?_
  refine lv_iload_n hx hb dL_law_960 rfl (lv_at hl 3 rfl) ?_
  refine lv_iconst (v := 1) hx hb dL_law_961 (by decide) ?_
  refine lv_iadd hx hb dL_law_962 ?_
  obtain ⟨g_279, hf⟩ := gd_some hf
  refine va_sld hx hb hX hbl hbA hp.1.2.1 g_279 dL_law_963 ?_
  obtain ⟨r_281, q_282, hc_280, hf⟩ := bnd_some hf
  refine l_ri hp hA (Lp.sz had hp) (va_runV (As := [.int (xs (i + 1).toNatClampNeg)]) (rest := [.int r_276]) ⟨hx, hb, hml, hown, hts⟩ (c_X9_readers l dC dI h a ca (xs (i + 1).toNatClampNeg) _ _ _ hc_280 _) (cwV 1 hts gl_X9_readers_112 rfl rfl rfl (by decide +kernel) ⟨Nat.le_of_ble_eq_true rfl, Nat.le_of_ble_eq_true rfl⟩) ⟨Pr.blind _, va_recv hK2 hp.2.1.1 (ci := 11) (q0 := 0) rfl rfl, r_pre hp.2.1 hK2 hN hZ hA⟩ rfl rfl hl.1 rfl (lv_room (Nat.le_of_ble_eq_true rfl)) dL_law_964 ⟨by show qn c_277 - 32 + 0 ≤ 600000; have := hbd.1; omega, by show qs c_277 + 9895 + 0 ≤ 7302250; have := hbd.2; omega⟩) (fun H locs hsz hp => ?_)
  refine lv_icmp_eq (tgt := 972) hx hb dL_law_967 (by decide) (fun k_283 => ?_) (fun k_283 => ?_)
  · have hf := pif_t k_283 hf
    obtain ⟨v_284, ev_284, hf⟩ := nam_some hf
    refine lv_iinc (v := v_284) (lv' := [(3, .int v_284), (0, .ref b), (1, .ref (ad 32)), (2, .ref h)]) hx hb dL_law_972 hl (k := 3) rfl ev_284.symm (by decide) rfl (fun ls hl => ?_)
    refine lv_goto (tgt := 18) hx hb dL_law_975 (by decide) ?_
    exact hKW v_284 c_277 q_282 hf _ _ _ hp hbd (lv_sub hl [1, 2, 3, 0] rfl)
  · have hf := pif_f k_283 hf
    refine lv_iconst (v := 0) hx hb dL_law_970 (by decide) ?_
    exact absurd (Option.some.inj hf) (by decide)
noncomputable def lawF_22 (L : Nat) (xs : Nat → Int32) (K : Int32 → CS → RS → Option Int32) (i : Int32) (c0 : CS) (r0 : RS) : Option Int32 := nam (i + 6) (fun v_285 => K v_285 c0 r0)
set_option maxHeartbeats 4000000 in
set_option maxRecDepth 100000 in
theorem law_22 (l : Launch) {p : Program} {e : Env} {s : State} {m : MethodId} {below : List Frame} {meth : Method} {c : Code} {b L : Nat} {xs : Nat → Int32} {A : Nat → Prop} (C0 : lw_At p s m meth c b L xs) (hts : ∀ w ∈ lwT, w.before #[Value.ref b] s = true) (hA : ∀ q : Nat, s.heap.size ≤ q → A q) (hbA : ¬ A b) (dC : Nat → ClassId) (dI : Nat → Nat → Nat) (ka ad : Nat → Nat) (ct : Nat → ClassId) (h : Nat) (a : Nat → Nat) (ca : Nat → ClassId) (had : ∀ i, 32 ≤ i → ad i = s.heap.size + (i - 32)) (hK1 : va_K (dC, dI) vwCl (cT ct) s) (hK2 : va_K (dC, dI) vwCl (rT ca) s) (hN : NX s) (hZ : cz A s s.heap) (hC : kS ka A s s.heap) (hR : kR ka s) (hL : kL s) (K : Int32 → CS → RS → Option Int32) (hKW : ∀ (i : Int32) (c0 : CS) (r0 : RS), K i c0 r0 = some 1 → ∀ (H : Heap) (locs : List Loc) (ls : Array Slot), Lp (dC, dI) ka ad ct h a ca A s.heap c0 r0 H locs → (qn c0 ≤ 600000 ∧ qs c0 ≤ 7000000) → lv_has ls 4 [(0, .ref b), (1, .ref (ad 32)), (2, .ref h), (3, .int i)] → W p l e room_1 s m #[Value.ref b] below meth c H locs (qn c0 - 32) (qs c0 + 9895) (lw_Z below #[Value.ref b] s) (F0 m 18 ls [])) (i : Int32) (c0 : CS) (r0 : RS) (hf : lawF_22 L xs K i c0 r0 = some 1) (H : Heap) (locs : List Loc) (ls : Array Slot) (hp : Lp (dC, dI) ka ad ct h a ca A s.heap c0 r0 H locs) (hbd : qn c0 ≤ 600000 ∧ qs c0 ≤ 7000000) (hl : lv_has ls 4 [(0, .ref b), (1, .ref (ad 32)), (2, .ref h), (3, .int i)]) : W p l e room_1 s m #[Value.ref b] below meth c H locs (qn c0 - 32) (qs c0 + 9895) (lw_Z below #[Value.ref b] s) (F0 m 972 ls []) := by
  obtain ⟨hx, hb, hr, hml, hown, -, hX, hbl, hlocks, hgv⟩ := C0
  unfold lawF_22 at hf
  obtain ⟨v_285, ev_285, hf⟩ := nam_some hf
  refine lv_iinc (v := v_285) (lv' := [(3, .int v_285), (0, .ref b), (1, .ref (ad 32)), (2, .ref h)]) hx hb dL_law_972 hl (k := 3) rfl ev_285.symm (by decide) rfl (fun ls hl => ?_)
  refine lv_goto (tgt := 18) hx hb dL_law_975 (by decide) ?_
  exact hKW v_285 c0 r0 hf _ _ _ hp hbd (lv_sub hl [1, 2, 3, 0] rfl)
