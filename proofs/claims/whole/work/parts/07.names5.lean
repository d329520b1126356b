theorem dX7_both_123 : decode cX7_both 123 = .ok (.aload_n 0, 1) := by decide +kernel
theorem dX7_both_124 : decode cX7_both 124 = .ok (.getfield 27, 3) := by decide +kernel
theorem dX7_both_127 : decode cX7_both 127 = .ok (.iconst 0, 1) := by decide +kernel
theorem dX7_both_128 : decode cX7_both 128 = .ok (.lconst 0, 1) := by decide +kernel
theorem dX7_both_129 : decode cX7_both 129 = .ok (.lastore, 1) := by decide +kernel
theorem dX7_both_130 : decode cX7_both 130 = .ok (.iconst 1, 1) := by decide +kernel
theorem dX7_both_131 : decode cX7_both 131 = .ok (.istore 4, 2) := by decide +kernel
theorem dX7_both_133 : decode cX7_both 133 = .ok (.iload 4, 2) := by decide +kernel
theorem dX7_both_135 : decode cX7_both 135 = .ok (.iconst 1, 1) := by decide +kernel
theorem dX7_both_136 : decode cX7_both 136 = .ok (.aload_n 0, 1) := by decide +kernel
theorem dX7_both_137 : decode cX7_both 137 = .ok (.getfield 48, 3) := by decide +kernel
theorem dX7_both_140 : decode cX7_both 140 = .ok (.ishl, 1) := by decide +kernel
theorem dX7_both_141 : decode cX7_both 141 = .ok (.if_icmp .ge 148, 3) := by decide +kernel
theorem dX7_both_144 : decode cX7_both 144 = .ok (.aload_n 0, 1) := by decide +kernel
theorem dX7_both_145 : decode cX7_both 145 = .ok (.getfield 27, 3) := by decide +kernel
theorem dX7_both_148 : decode cX7_both 148 = .ok (.iload 4, 2) := by decide +kernel
theorem dX7_both_150 : decode cX7_both 150 = .ok (.ldc2_w 52, 3) := by decide +kernel
theorem dX7_both_153 : decode cX7_both 153 = .ok (.lastore, 1) := by decide +kernel
theorem dX7_both_154 : decode cX7_both 154 = .ok (.aload_n 0, 1) := by decide +kernel
theorem dX7_both_155 : decode cX7_both 155 = .ok (.iload 4, 2) := by decide +kernel
theorem dX7_both_157 : decode cX7_both 157 = .ok (.invokevirtual 114, 3) := by decide +kernel
theorem dX7_both_160 : decode cX7_both 160 = .ok (.istore 5, 2) := by decide +kernel
theorem dX7_both_162 : decode cX7_both 162 = .ok (.iload 5, 2) := by decide +kernel
theorem dX7_both_164 : decode cX7_both 164 = .ok (.iconst 1, 1) := by decide +kernel
theorem dX7_both_165 : decode cX7_both 165 = .ok (.iadd, 1) := by decide +kernel
theorem dX7_both_166 : decode cX7_both 166 = .ok (.istore 6, 2) := by decide +kernel
theorem dX7_both_168 : decode cX7_both 168 = .ok (.iload 6, 2) := by decide +kernel
theorem dX7_both_170 : decode cX7_both 170 = .ok (.aload_n 0, 1) := by decide +kernel
theorem dX7_both_171 : decode cX7_both 171 = .ok (.getfield 48, 3) := by decide +kernel
theorem dX7_both_174 : decode cX7_both 174 = .ok (.if_icmp .ge 109, 3) := by decide +kernel
theorem dX7_both_177 : decode cX7_both 177 = .ok (.iload 4, 2) := by decide +kernel
theorem dX7_both_179 : decode cX7_both 179 = .ok (.iload_n 3, 1) := by decide +kernel
theorem dX7_both_180 : decode cX7_both 180 = .ok (.iconst (-1), 1) := by decide +kernel
theorem dX7_both_181 : decode cX7_both 181 = .ok (.ixor, 1) := by decide +kernel
theorem dX7_both_182 : decode cX7_both 182 = .ok (.iand, 1) := by decide +kernel
theorem dX7_both_183 : decode cX7_both 183 = .ok (.ifCond .ne 100, 3) := by decide +kernel
theorem dX7_both_186 : decode cX7_both 186 = .ok (.iload 4, 2) := by decide +kernel
theorem dX7_both_188 : decode cX7_both 188 = .ok (.iload 6, 2) := by decide +kernel
theorem dX7_both_190 : decode cX7_both 190 = .ok (.ishr, 1) := by decide +kernel
theorem dX7_both_191 : decode cX7_both 191 = .ok (.iconst 1, 1) := by decide +kernel
theorem dX7_both_192 : decode cX7_both 192 = .ok (.iand, 1) := by decide +kernel
theorem dX7_both_193 : decode cX7_both 193 = .ok (.iconst 1, 1) := by decide +kernel
theorem dX7_both_194 : decode cX7_both 194 = .ok (.if_icmp .ne 83, 3) := by decide +kernel
theorem dX7_both_197 : decode cX7_both 197 = .ok (.aload_n 0, 1) := by decide +kernel
theorem dX7_both_198 : decode cX7_both 198 = .ok (.getfield 27, 3) := by decide +kernel
theorem dX7_both_201 : decode cX7_both 201 = .ok (.iload 4, 2) := by decide +kernel
theorem dX7_both_203 : decode cX7_both 203 = .ok (.iconst 1, 1) := by decide +kernel
theorem dX7_both_204 : decode cX7_both 204 = .ok (.iload 5, 2) := by decide +kernel
theorem dX7_both_206 : decode cX7_both 206 = .ok (.ishl, 1) := by decide +kernel
theorem dX7_both_207 : decode cX7_both 207 = .ok (.ixor, 1) := by decide +kernel
theorem dX7_both_208 : decode cX7_both 208 = .ok (.iconst 1, 1) := by decide +kernel
theorem dX7_both_209 : decode cX7_both 209 = .ok (.iload 6, 2) := by decide +kernel
theorem dX7_both_211 : decode cX7_both 211 = .ok (.ishl, 1) := by decide +kernel
theorem dX7_both_212 : decode cX7_both 212 = .ok (.ixor, 1) := by decide +kernel
theorem dX7_both_213 : decode cX7_both 213 = .ok (.laload, 1) := by decide +kernel
theorem dX7_both_214 : decode cX7_both 214 = .ok (.aload_n 0, 1) := by decide +kernel
theorem dX7_both_215 : decode cX7_both 215 = .ok (.getfield 30, 3) := by decide +kernel
theorem dX7_both_218 : decode cX7_both 218 = .ok (.bipush 12, 2) := by decide +kernel
theorem dX7_both_220 : decode cX7_both 220 = .ok (.iload 5, 2) := by decide +kernel
theorem dX7_both_222 : decode cX7_both 222 = .ok (.imul, 1) := by decide +kernel
theorem dX7_both_223 : decode cX7_both 223 = .ok (.iload 6, 2) := by decide +kernel
theorem dX7_both_225 : decode cX7_both 225 = .ok (.iadd, 1) := by decide +kernel
theorem dX7_both_226 : decode cX7_both 226 = .ok (.laload, 1) := by decide +kernel
theorem dX7_both_227 : decode cX7_both 227 = .ok (.ladd, 1) := by decide +kernel
theorem dX7_both_228 : decode cX7_both 228 = .ok (.aload_n 0, 1) := by decide +kernel
theorem dX7_both_229 : decode cX7_both 229 = .ok (.getfield 27, 3) := by decide +kernel
theorem dX7_both_232 : decode cX7_both 232 = .ok (.iload 4, 2) := by decide +kernel
theorem dX7_both_234 : decode cX7_both 234 = .ok (.laload, 1) := by decide +kernel
theorem dX7_both_235 : decode cX7_both 235 = .ok (.lcmp, 1) := by decide +kernel
theorem dX7_both_236 : decode cX7_both 236 = .ok (.ifCond .ge 41, 3) := by decide +kernel
theorem dX7_both_239 : decode cX7_both 239 = .ok (.aload_n 0, 1) := by decide +kernel
theorem dX7_both_240 : decode cX7_both 240 = .ok (.getfield 27, 3) := by decide +kernel
theorem dX7_both_243 : decode cX7_both 243 = .ok (.iload 4, 2) := by decide +kernel
theorem dX7_both_245 : decode cX7_both 245 = .ok (.aload_n 0, 1) := by decide +kernel
theorem dX7_both_246 : decode cX7_both 246 = .ok (.getfield 27, 3) := by decide +kernel
theorem dX7_both_249 : decode cX7_both 249 = .ok (.iload 4, 2) := by decide +kernel
theorem dX7_both_251 : decode cX7_both 251 = .ok (.iconst 1, 1) := by decide +kernel
theorem dX7_both_252 : decode cX7_both 252 = .ok (.iload 5, 2) := by decide +kernel
theorem dX7_both_254 : decode cX7_both 254 = .ok (.ishl, 1) := by decide +kernel
theorem dX7_both_255 : decode cX7_both 255 = .ok (.ixor, 1) := by decide +kernel
theorem dX7_both_256 : decode cX7_both 256 = .ok (.iconst 1, 1) := by decide +kernel
theorem dX7_both_257 : decode cX7_both 257 = .ok (.iload 6, 2) := by decide +kernel
theorem dX7_both_259 : decode cX7_both 259 = .ok (.ishl, 1) := by decide +kernel
theorem dX7_both_260 : decode cX7_both 260 = .ok (.ixor, 1) := by decide +kernel
theorem dX7_both_261 : decode cX7_both 261 = .ok (.laload, 1) := by decide +kernel
theorem dX7_both_262 : decode cX7_both 262 = .ok (.aload_n 0, 1) := by decide +kernel
theorem dX7_both_263 : decode cX7_both 263 = .ok (.getfield 30, 3) := by decide +kernel
theorem dX7_both_266 : decode cX7_both 266 = .ok (.bipush 12, 2) := by decide +kernel
theorem dX7_both_268 : decode cX7_both 268 = .ok (.iload 5, 2) := by decide +kernel
theorem dX7_both_270 : decode cX7_both 270 = .ok (.imul, 1) := by decide +kernel
theorem dX7_both_271 : decode cX7_both 271 = .ok (.iload 6, 2) := by decide +kernel
theorem dX7_both_273 : decode cX7_both 273 = .ok (.iadd, 1) := by decide +kernel
theorem dX7_both_274 : decode cX7_both 274 = .ok (.laload, 1) := by decide +kernel
theorem dX7_both_275 : decode cX7_both 275 = .ok (.ladd, 1) := by decide +kernel
theorem dX7_both_276 : decode cX7_both 276 = .ok (.lastore, 1) := by decide +kernel
theorem dX7_both_277 : decode cX7_both 277 = .ok (.iinc 6 1, 3) := by decide +kernel
theorem dX7_both_280 : decode cX7_both 280 = .ok (.goto (-112), 3) := by decide +kernel
theorem dX7_both_283 : decode cX7_both 283 = .ok (.iinc 4 1, 3) := by decide +kernel
theorem dX7_both_286 : decode cX7_both 286 = .ok (.goto (-153), 3) := by decide +kernel
theorem dX7_both_289 : decode cX7_both 289 = .ok (.aload_n 0, 1) := by decide +kernel
theorem dX7_both_290 : decode cX7_both 290 = .ok (.iconst 0, 1) := by decide +kernel
theorem dX7_both_291 : decode cX7_both 291 = .ok (.putfield 118, 3) := by decide +kernel
theorem dX7_both_294 : decode cX7_both 294 = .ok (.iload_n 3, 1) := by decide +kernel
theorem dX7_both_295 : decode cX7_both 295 = .ok (.istore 4, 2) := by decide +kernel
theorem dX7_both_297 : decode cX7_both 297 = .ok (.iload 4, 2) := by decide +kernel
theorem dX7_both_299 : decode cX7_both 299 = .ok (.ifCond .eq 130, 3) := by decide +kernel
theorem dX7_both_302 : decode cX7_both 302 = .ok (.aload_n 0, 1) := by decide +kernel
theorem dX7_both_303 : decode cX7_both 303 = .ok (.iload 4, 2) := by decide +kernel
theorem dX7_both_305 : decode cX7_both 305 = .ok (.invokevirtual 114, 3) := by decide +kernel
theorem dX7_both_308 : decode cX7_both 308 = .ok (.istore 5, 2) := by decide +kernel
theorem dX7_both_310 : decode cX7_both 310 = .ok (.iload 5, 2) := by decide +kernel
theorem dX7_both_312 : decode cX7_both 312 = .ok (.iconst 1, 1) := by decide +kernel
theorem dX7_both_313 : decode cX7_both 313 = .ok (.iadd, 1) := by decide +kernel
theorem dX7_both_314 : decode cX7_both 314 = .ok (.istore 6, 2) := by decide +kernel
theorem dX7_both_316 : decode cX7_both 316 = .ok (.iload 4, 2) := by decide +kernel
theorem dX7_both_318 : decode cX7_both 318 = .ok (.iload 6, 2) := by decide +kernel
theorem dX7_both_320 : decode cX7_both 320 = .ok (.ishr, 1) := by decide +kernel
theorem dX7_both_321 : decode cX7_both 321 = .ok (.iconst 1, 1) := by decide +kernel
theorem dX7_both_322 : decode cX7_both 322 = .ok (.iand, 1) := by decide +kernel
theorem dX7_both_323 : decode cX7_both 323 = .ok (.ifCond .eq 45, 3) := by decide +kernel
theorem dX7_both_326 : decode cX7_both 326 = .ok (.aload_n 0, 1) := by decide +kernel
theorem dX7_both_327 : decode cX7_both 327 = .ok (.getfield 27, 3) := by decide +kernel
theorem dX7_both_330 : decode cX7_both 330 = .ok (.iload 4, 2) := by decide +kernel
theorem dX7_both_332 : decode cX7_both 332 = .ok (.iconst 1, 1) := by decide +kernel
theorem dX7_both_333 : decode cX7_both 333 = .ok (.iload 5, 2) := by decide +kernel
theorem dX7_both_335 : decode cX7_both 335 = .ok (.ishl, 1) := by decide +kernel
theorem dX7_both_336 : decode cX7_both 336 = .ok (.ixor, 1) := by decide +kernel
theorem dX7_both_337 : decode cX7_both 337 = .ok (.iconst 1, 1) := by decide +kernel
theorem dX7_both_338 : decode cX7_both 338 = .ok (.iload 6, 2) := by decide +kernel
theorem dX7_both_340 : decode cX7_both 340 = .ok (.ishl, 1) := by decide +kernel
theorem dX7_both_341 : decode cX7_both 341 = .ok (.ixor, 1) := by decide +kernel
theorem dX7_both_342 : decode cX7_both 342 = .ok (.laload, 1) := by decide +kernel
theorem dX7_both_343 : decode cX7_both 343 = .ok (.aload_n 0, 1) := by decide +kernel
theorem dX7_both_344 : decode cX7_both 344 = .ok (.getfield 30, 3) := by decide +kernel
theorem dX7_both_347 : decode cX7_both 347 = .ok (.bipush 12, 2) := by decide +kernel
theorem dX7_both_349 : decode cX7_both 349 = .ok (.iload 5, 2) := by decide +kernel
theorem dX7_both_351 : decode cX7_both 351 = .ok (.imul, 1) := by decide +kernel
theorem dX7_both_352 : decode cX7_both 352 = .ok (.iload 6, 2) := by decide +kernel
theorem dX7_both_354 : decode cX7_both 354 = .ok (.iadd, 1) := by decide +kernel
theorem dX7_both_355 : decode cX7_both 355 = .ok (.laload, 1) := by decide +kernel
theorem dX7_both_356 : decode cX7_both 356 = .ok (.ladd, 1) := by decide +kernel
theorem dX7_both_357 : decode cX7_both 357 = .ok (.aload_n 0, 1) := by decide +kernel
theorem dX7_both_358 : decode cX7_both 358 = .ok (.getfield 27, 3) := by decide +kernel
theorem dX7_both_361 : decode cX7_both 361 = .ok (.iload 4, 2) := by decide +kernel
theorem dX7_both_363 : decode cX7_both 363 = .ok (.laload, 1) := by decide +kernel
theorem dX7_both_364 : decode cX7_both 364 = .ok (.lcmp, 1) := by decide +kernel
theorem dX7_both_365 : decode cX7_both 365 = .ok (.ifCond .eq 9, 3) := by decide +kernel
theorem dX7_both_368 : decode cX7_both 368 = .ok (.iinc 6 1, 3) := by decide +kernel
theorem dX7_both_371 : decode cX7_both 371 = .ok (.goto (-55), 3) := by decide +kernel
theorem dX7_both_374 : decode cX7_both 374 = .ok (.aload_n 0, 1) := by decide +kernel
theorem dX7_both_375 : decode cX7_both 375 = .ok (.getfield 13, 3) := by decide +kernel
theorem dX7_both_378 : decode cX7_both 378 = .ok (.iconst 2, 1) := by decide +kernel
theorem dX7_both_379 : decode cX7_both 379 = .ok (.aload_n 0, 1) := by decide +kernel
theorem dX7_both_380 : decode cX7_both 380 = .ok (.getfield 118, 3) := by decide +kernel
theorem dX7_both_383 : decode cX7_both 383 = .ok (.imul, 1) := by decide +kernel
theorem dX7_both_384 : decode cX7_both 384 = .ok (.iload 5, 2) := by decide +kernel
theorem dX7_both_386 : decode cX7_both 386 = .ok (.iastore, 1) := by decide +kernel
theorem dX7_both_387 : decode cX7_both 387 = .ok (.aload_n 0, 1) := by decide +kernel
theorem dX7_both_388 : decode cX7_both 388 = .ok (.getfield 13, 3) := by decide +kernel
theorem dX7_both_391 : decode cX7_both 391 = .ok (.iconst 2, 1) := by decide +kernel
theorem dX7_both_392 : decode cX7_both 392 = .ok (.aload_n 0, 1) := by decide +kernel
theorem dX7_both_393 : decode cX7_both 393 = .ok (.getfield 118, 3) := by decide +kernel
theorem dX7_both_396 : decode cX7_both 396 = .ok (.imul, 1) := by decide +kernel
theorem dX7_both_397 : decode cX7_both 397 = .ok (.iconst 1, 1) := by decide +kernel
theorem dX7_both_398 : decode cX7_both 398 = .ok (.iadd, 1) := by decide +kernel
theorem dX7_both_399 : decode cX7_both 399 = .ok (.iload 6, 2) := by decide +kernel
theorem dX7_both_401 : decode cX7_both 401 = .ok (.iastore, 1) := by decide +kernel
theorem dX7_both_402 : decode cX7_both 402 = .ok (.aload_n 0, 1) := by decide +kernel
theorem dX7_both_403 : decode cX7_both 403 = .ok (.dup, 1) := by decide +kernel
theorem dX7_both_404 : decode cX7_both 404 = .ok (.getfield 118, 3) := by decide +kernel
theorem dX7_both_407 : decode cX7_both 407 = .ok (.iconst 1, 1) := by decide +kernel
theorem dX7_both_408 : decode cX7_both 408 = .ok (.iadd, 1) := by decide +kernel
theorem dX7_both_409 : decode cX7_both 409 = .ok (.putfield 118, 3) := by decide +kernel
theorem dX7_both_412 : decode cX7_both 412 = .ok (.iload 4, 2) := by decide +kernel
theorem dX7_both_414 : decode cX7_both 414 = .ok (.iconst 1, 1) := by decide +kernel
theorem dX7_both_415 : decode cX7_both 415 = .ok (.iload 5, 2) := by decide +kernel
theorem dX7_both_417 : decode cX7_both 417 = .ok (.ishl, 1) := by decide +kernel
theorem dX7_both_418 : decode cX7_both 418 = .ok (.ixor, 1) := by decide +kernel
theorem dX7_both_419 : decode cX7_both 419 = .ok (.iconst 1, 1) := by decide +kernel
theorem dX7_both_420 : decode cX7_both 420 = .ok (.iload 6, 2) := by decide +kernel
theorem dX7_both_422 : decode cX7_both 422 = .ok (.ishl, 1) := by decide +kernel
theorem dX7_both_423 : decode cX7_both 423 = .ok (.ixor, 1) := by decide +kernel
theorem dX7_both_424 : decode cX7_both 424 = .ok (.istore 4, 2) := by decide +kernel
theorem dX7_both_426 : decode cX7_both 426 = .ok (.goto (-129), 3) := by decide +kernel
theorem dX7_both_429 : decode cX7_both 429 = .ok (.lload_n 1, 1) := by decide +kernel
theorem dX7_both_430 : decode cX7_both 430 = .ok (.aload_n 0, 1) := by decide +kernel
theorem dX7_both_431 : decode cX7_both 431 = .ok (.getfield 27, 3) := by decide +kernel
theorem dX7_both_434 : decode cX7_both 434 = .ok (.iload_n 3, 1) := by decide +kernel
theorem dX7_both_435 : decode cX7_both 435 = .ok (.laload, 1) := by decide +kernel
theorem dX7_both_436 : decode cX7_both 436 = .ok (.ladd, 1) := by decide +kernel
theorem dX7_both_437 : decode cX7_both 437 = .ok (.lreturn, 1) := by decide +kernel
set_option maxRecDepth 20000 in
theorem ggX7_one_X7_way_ : GoodIn wsX7_one wsX7_way_ := goodIn_r _ [10, 11, 30, 31, 32, 33, 34, 35, 36, 37, 38, 39, 40, 41, 42, 43, 44, 45, 46] (by decide +kernel) (by decide +kernel)
set_option maxRecDepth 20000 in
theorem gX7_one_X7_way_ : GoodIn wsX7_one (wsV RX7 63 RX7 yX7_way_ wsX7_way_) := goodIn_app (goodIn_of _ (by decide +kernel)) ggX7_one_X7_way_
set_option maxRecDepth 20000 in
theorem ggX7_one_X7_cheaper : GoodIn wsX7_one wsX7_cheaper := goodIn_r _ [15, 16, 17, 4, 3, 18, 19, 20, 9, 21, 5, 22, 23, 24, 25, 1, 26, 27, 28, 29, 30, 31, 32, 33, 34, 35, 36, 37, 38, 39, 40, 41, 42, 43, 44, 45, 46] (by decide +kernel) (by decide +kernel)
set_option maxRecDepth 20000 in
theorem gX7_one_X7_cheaper : GoodIn wsX7_one (wsV RX7 121 RX7 yX7_cheaper wsX7_cheaper) := goodIn_app (goodIn_of _ (by decide +kernel)) ggX7_one_X7_cheaper
theorem dX7_one_0 : decode cX7_one 0 = .ok (.lconst 0, 1) := by decide +kernel
theorem dX7_one_1 : decode cX7_one 1 = .ok (.lstore_n 1, 1) := by decide +kernel
theorem dX7_one_2 : decode cX7_one 2 = .ok (.iconst 0, 1) := by decide +kernel
theorem dX7_one_3 : decode cX7_one 3 = .ok (.istore_n 3, 1) := by decide +kernel
theorem dX7_one_4 : decode cX7_one 4 = .ok (.iload_n 3, 1) := by decide +kernel
theorem dX7_one_5 : decode cX7_one 5 = .ok (.aload_n 0, 1) := by decide +kernel
theorem dX7_one_6 : decode cX7_one 6 = .ok (.getfield 48, 3) := by decide +kernel
theorem dX7_one_9 : decode cX7_one 9 = .ok (.if_icmp .ge 117, 3) := by decide +kernel
theorem dX7_one_12 : decode cX7_one 12 = .ok (.aload_n 0, 1) := by decide +kernel
theorem dX7_one_13 : decode cX7_one 13 = .ok (.getfield 36, 3) := by decide +kernel
theorem dX7_one_16 : decode cX7_one 16 = .ok (.iload_n 3, 1) := by decide +kernel
theorem dX7_one_17 : decode cX7_one 17 = .ok (.iconst 0, 1) := by decide +kernel
theorem dX7_one_18 : decode cX7_one 18 = .ok (.iastore, 1) := by decide +kernel
theorem dX7_one_19 : decode cX7_one 19 = .ok (.iconst 0, 1) := by decide +kernel
theorem dX7_one_20 : decode cX7_one 20 = .ok (.istore 4, 2) := by decide +kernel
theorem dX7_one_22 : decode cX7_one 22 = .ok (.iload 4, 2) := by decide +kernel
theorem dX7_one_24 : decode cX7_one 24 = .ok (.aload_n 0, 1) := by decide +kernel
theorem dX7_one_25 : decode cX7_one 25 = .ok (.getfield 48, 3) := by decide +kernel
theorem dX7_one_28 : decode cX7_one 28 = .ok (.if_icmp .ge 92, 3) := by decide +kernel
theorem dX7_one_31 : decode cX7_one 31 = .ok (.aload_n 0, 1) := by decide +kernel
theorem dX7_one_32 : decode cX7_one 32 = .ok (.getfield 33, 3) := by decide +kernel
theorem dX7_one_35 : decode cX7_one 35 = .ok (.bipush 12, 2) := by decide +kernel
theorem dX7_one_37 : decode cX7_one 37 = .ok (.iload_n 3, 1) := by decide +kernel
theorem dX7_one_38 : decode cX7_one 38 = .ok (.imul, 1) := by decide +kernel
theorem dX7_one_39 : decode cX7_one 39 = .ok (.iload 4, 2) := by decide +kernel
theorem dX7_one_41 : decode cX7_one 41 = .ok (.iadd, 1) := by decide +kernel
theorem dX7_one_42 : decode cX7_one 42 = .ok (.iconst 0, 1) := by decide +kernel
theorem dX7_one_43 : decode cX7_one 43 = .ok (.iastore, 1) := by decide +kernel
theorem dX7_one_44 : decode cX7_one 44 = .ok (.iload_n 3, 1) := by decide +kernel
theorem dX7_one_45 : decode cX7_one 45 = .ok (.iload 4, 2) := by decide +kernel
theorem dX7_one_47 : decode cX7_one 47 = .ok (.if_icmp .eq 27, 3) := by decide +kernel
theorem dX7_one_50 : decode cX7_one 50 = .ok (.aload_n 0, 1) := by decide +kernel
theorem dX7_one_51 : decode cX7_one 51 = .ok (.iload 4, 2) := by decide +kernel
theorem dX7_one_53 : decode cX7_one 53 = .ok (.iload_n 3, 1) := by decide +kernel
theorem dX7_one_54 : decode cX7_one 54 = .ok (.invokevirtual 63, 3) := by decide +kernel
theorem dX7_one_57 : decode cX7_one 57 = .ok (.ldc2_w 52, 3) := by decide +kernel
theorem dX7_one_60 : decode cX7_one 60 = .ok (.lcmp, 1) := by decide +kernel
theorem dX7_one_61 : decode cX7_one 61 = .ok (.ifCond .ge 13, 3) := by decide +kernel
theorem dX7_one_64 : decode cX7_one 64 = .ok (.aload_n 0, 1) := by decide +kernel
theorem dX7_one_65 : decode cX7_one 65 = .ok (.getfield 36, 3) := by decide +kernel
theorem dX7_one_68 : decode cX7_one 68 = .ok (.iload_n 3, 1) := by decide +kernel
theorem dX7_one_69 : decode cX7_one 69 = .ok (.dup2, 1) := by decide +kernel
theorem dX7_one_70 : decode cX7_one 70 = .ok (.iaload, 1) := by decide +kernel
theorem dX7_one_71 : decode cX7_one 71 = .ok (.iconst 1, 1) := by decide +kernel
theorem dX7_one_72 : decode cX7_one 72 = .ok (.iadd, 1) := by decide +kernel
theorem dX7_one_73 : decode cX7_one 73 = .ok (.iastore, 1) := by decide +kernel
theorem dX7_one_74 : decode cX7_one 74 = .ok (.iload_n 3, 1) := by decide +kernel
theorem dX7_one_75 : decode cX7_one 75 = .ok (.iload 4, 2) := by decide +kernel
theorem dX7_one_77 : decode cX7_one 77 = .ok (.if_icmp .eq 37, 3) := by decide +kernel
theorem dX7_one_80 : decode cX7_one 80 = .ok (.aload_n 0, 1) := by decide +kernel
theorem dX7_one_81 : decode cX7_one 81 = .ok (.iload_n 3, 1) := by decide +kernel
theorem dX7_one_82 : decode cX7_one 82 = .ok (.iload 4, 2) := by decide +kernel
theorem dX7_one_84 : decode cX7_one 84 = .ok (.invokevirtual 63, 3) := by decide +kernel
theorem dX7_one_87 : decode cX7_one 87 = .ok (.ldc2_w 52, 3) := by decide +kernel
theorem dX7_one_90 : decode cX7_one 90 = .ok (.lcmp, 1) := by decide +kernel
theorem dX7_one_91 : decode cX7_one 91 = .ok (.ifCond .ge 23, 3) := by decide +kernel
theorem dX7_one_94 : decode cX7_one 94 = .ok (.aload_n 0, 1) := by decide +kernel
theorem dX7_one_95 : decode cX7_one 95 = .ok (.getfield 36, 3) := by decide +kernel
theorem dX7_one_98 : decode cX7_one 98 = .ok (.iload_n 3, 1) := by decide +kernel
theorem dX7_one_99 : decode cX7_one 99 = .ok (.dup2, 1) := by decide +kernel
theorem dX7_one_100 : decode cX7_one 100 = .ok (.iaload, 1) := by decide +kernel
theorem dX7_one_101 : decode cX7_one 101 = .ok (.iconst 1, 1) := by decide +kernel
theorem dX7_one_102 : decode cX7_one 102 = .ok (.isub, 1) := by decide +kernel
theorem dX7_one_103 : decode cX7_one 103 = .ok (.iastore, 1) := by decide +kernel
theorem dX7_one_104 : decode cX7_one 104 = .ok (.lload_n 1, 1) := by decide +kernel
theorem dX7_one_105 : decode cX7_one 105 = .ok (.aload_n 0, 1) := by decide +kernel
theorem dX7_one_106 : decode cX7_one 106 = .ok (.iload_n 3, 1) := by decide +kernel
theorem dX7_one_107 : decode cX7_one 107 = .ok (.iload 4, 2) := by decide +kernel
theorem dX7_one_109 : decode cX7_one 109 = .ok (.invokevirtual 63, 3) := by decide +kernel
theorem dX7_one_112 : decode cX7_one 112 = .ok (.ladd, 1) := by decide +kernel
theorem dX7_one_113 : decode cX7_one 113 = .ok (.lstore_n 1, 1) := by decide +kernel
theorem dX7_one_114 : decode cX7_one 114 = .ok (.iinc 4 1, 3) := by decide +kernel
theorem dX7_one_117 : decode cX7_one 117 = .ok (.goto (-95), 3) := by decide +kernel
theorem dX7_one_120 : decode cX7_one 120 = .ok (.iinc 3 1, 3) := by decide +kernel
theorem dX7_one_123 : decode cX7_one 123 = .ok (.goto (-119), 3) := by decide +kernel
theorem dX7_one_126 : decode cX7_one 126 = .ok (.iconst 0, 1) := by decide +kernel
theorem dX7_one_127 : decode cX7_one 127 = .ok (.istore_n 3, 1) := by decide +kernel
theorem dX7_one_128 : decode cX7_one 128 = .ok (.iload_n 3, 1) := by decide +kernel
theorem dX7_one_129 : decode cX7_one 129 = .ok (.aload_n 0, 1) := by decide +kernel
theorem dX7_one_130 : decode cX7_one 130 = .ok (.getfield 48, 3) := by decide +kernel
theorem dX7_one_133 : decode cX7_one 133 = .ok (.if_icmp .ge 86, 3) := by decide +kernel
theorem dX7_one_136 : decode cX7_one 136 = .ok (.iconst 0, 1) := by decide +kernel
theorem dX7_one_137 : decode cX7_one 137 = .ok (.istore 4, 2) := by decide +kernel
theorem dX7_one_139 : decode cX7_one 139 = .ok (.iload 4, 2) := by decide +kernel
theorem dX7_one_141 : decode cX7_one 141 = .ok (.aload_n 0, 1) := by decide +kernel
theorem dX7_one_142 : decode cX7_one 142 = .ok (.getfield 48, 3) := by decide +kernel
theorem dX7_one_145 : decode cX7_one 145 = .ok (.if_icmp .ge 68, 3) := by decide +kernel
theorem dX7_one_148 : decode cX7_one 148 = .ok (.aload_n 0, 1) := by decide +kernel
theorem dX7_one_149 : decode cX7_one 149 = .ok (.getfield 36, 3) := by decide +kernel
theorem dX7_one_152 : decode cX7_one 152 = .ok (.iload_n 3, 1) := by decide +kernel
theorem dX7_one_153 : decode cX7_one 153 = .ok (.iaload, 1) := by decide +kernel
theorem dX7_one_154 : decode cX7_one 154 = .ok (.ifCond .le 53, 3) := by decide +kernel
theorem dX7_one_157 : decode cX7_one 157 = .ok (.aload_n 0, 1) := by decide +kernel
theorem dX7_one_158 : decode cX7_one 158 = .ok (.getfield 36, 3) := by decide +kernel
theorem dX7_one_161 : decode cX7_one 161 = .ok (.iload 4, 2) := by decide +kernel
theorem dX7_one_163 : decode cX7_one 163 = .ok (.iaload, 1) := by decide +kernel
theorem dX7_one_164 : decode cX7_one 164 = .ok (.ifCond .ge 43, 3) := by decide +kernel
theorem dX7_one_167 : decode cX7_one 167 = .ok (.aload_n 0, 1) := by decide +kernel
theorem dX7_one_168 : decode cX7_one 168 = .ok (.getfield 33, 3) := by decide +kernel
theorem dX7_one_171 : decode cX7_one 171 = .ok (.bipush 12, 2) := by decide +kernel
theorem dX7_one_173 : decode cX7_one 173 = .ok (.iload_n 3, 1) := by decide +kernel
theorem dX7_one_174 : decode cX7_one 174 = .ok (.imul, 1) := by decide +kernel
theorem dX7_one_175 : decode cX7_one 175 = .ok (.iload 4, 2) := by decide +kernel
theorem dX7_one_177 : decode cX7_one 177 = .ok (.iadd, 1) := by decide +kernel
theorem dX7_one_178 : decode cX7_one 178 = .ok (.dup2, 1) := by decide +kernel
theorem dX7_one_179 : decode cX7_one 179 = .ok (.iaload, 1) := by decide +kernel
theorem dX7_one_180 : decode cX7_one 180 = .ok (.iconst 1, 1) := by decide +kernel
theorem dX7_one_181 : decode cX7_one 181 = .ok (.iadd, 1) := by decide +kernel
theorem dX7_one_182 : decode cX7_one 182 = .ok (.iastore, 1) := by decide +kernel
theorem dX7_one_183 : decode cX7_one 183 = .ok (.aload_n 0, 1) := by decide +kernel
theorem dX7_one_184 : decode cX7_one 184 = .ok (.getfield 36, 3) := by decide +kernel
theorem dX7_one_187 : decode cX7_one 187 = .ok (.iload_n 3, 1) := by decide +kernel
theorem dX7_one_188 : decode cX7_one 188 = .ok (.dup2, 1) := by decide +kernel
theorem dX7_one_189 : decode cX7_one 189 = .ok (.iaload, 1) := by decide +kernel
theorem dX7_one_190 : decode cX7_one 190 = .ok (.iconst 1, 1) := by decide +kernel
theorem dX7_one_191 : decode cX7_one 191 = .ok (.isub, 1) := by decide +kernel
theorem dX7_one_192 : decode cX7_one 192 = .ok (.iastore, 1) := by decide +kernel
theorem dX7_one_193 : decode cX7_one 193 = .ok (.aload_n 0, 1) := by decide +kernel
theorem dX7_one_194 : decode cX7_one 194 = .ok (.getfield 36, 3) := by decide +kernel
theorem dX7_one_197 : decode cX7_one 197 = .ok (.iload 4, 2) := by decide +kernel
theorem dX7_one_199 : decode cX7_one 199 = .ok (.dup2, 1) := by decide +kernel
theorem dX7_one_200 : decode cX7_one 200 = .ok (.iaload, 1) := by decide +kernel
theorem dX7_one_201 : decode cX7_one 201 = .ok (.iconst 1, 1) := by decide +kernel
theorem dX7_one_202 : decode cX7_one 202 = .ok (.iadd, 1) := by decide +kernel
theorem dX7_one_203 : decode cX7_one 203 = .ok (.iastore, 1) := by decide +kernel
theorem dX7_one_204 : decode cX7_one 204 = .ok (.goto (-56), 3) := by decide +kernel
theorem dX7_one_207 : decode cX7_one 207 = .ok (.iinc 4 1, 3) := by decide +kernel
theorem dX7_one_210 : decode cX7_one 210 = .ok (.goto (-71), 3) := by decide +kernel
theorem dX7_one_213 : decode cX7_one 213 = .ok (.iinc 3 1, 3) := by decide +kernel
theorem dX7_one_216 : decode cX7_one 216 = .ok (.goto (-88), 3) := by decide +kernel
theorem dX7_one_219 : decode cX7_one 219 = .ok (.iconst 1, 1) := by decide +kernel
theorem dX7_one_220 : decode cX7_one 220 = .ok (.istore_n 3, 1) := by decide +kernel
theorem dX7_one_221 : decode cX7_one 221 = .ok (.iload_n 3, 1) := by decide +kernel
theorem dX7_one_222 : decode cX7_one 222 = .ok (.ifCond .eq 11, 3) := by decide +kernel
theorem dX7_one_225 : decode cX7_one 225 = .ok (.aload_n 0, 1) := by decide +kernel
theorem dX7_one_226 : decode cX7_one 226 = .ok (.invokevirtual 121, 3) := by decide +kernel
theorem dX7_one_229 : decode cX7_one 229 = .ok (.istore_n 3, 1) := by decide +kernel
theorem dX7_one_230 : decode cX7_one 230 = .ok (.goto (-9), 3) := by decide +kernel
theorem dX7_one_233 : decode cX7_one 233 = .ok (.iconst 0, 1) := by decide +kernel
theorem dX7_one_234 : decode cX7_one 234 = .ok (.istore 4, 2) := by decide +kernel
theorem dX7_one_236 : decode cX7_one 236 = .ok (.iload 4, 2) := by decide +kernel
theorem dX7_one_238 : decode cX7_one 238 = .ok (.sipush 144, 3) := by decide +kernel
theorem dX7_one_241 : decode cX7_one 241 = .ok (.if_icmp .ge 42, 3) := by decide +kernel
theorem dX7_one_244 : decode cX7_one 244 = .ok (.aload_n 0, 1) := by decide +kernel
theorem dX7_one_245 : decode cX7_one 245 = .ok (.getfield 33, 3) := by decide +kernel
theorem dX7_one_248 : decode cX7_one 248 = .ok (.iload 4, 2) := by decide +kernel
theorem dX7_one_250 : decode cX7_one 250 = .ok (.iaload, 1) := by decide +kernel
theorem dX7_one_251 : decode cX7_one 251 = .ok (.ifCond .le 24, 3) := by decide +kernel
theorem dX7_one_254 : decode cX7_one 254 = .ok (.lload_n 1, 1) := by decide +kernel
theorem dX7_one_255 : decode cX7_one 255 = .ok (.aload_n 0, 1) := by decide +kernel
theorem dX7_one_256 : decode cX7_one 256 = .ok (.getfield 33, 3) := by decide +kernel
theorem dX7_one_259 : decode cX7_one 259 = .ok (.iload 4, 2) := by decide +kernel
theorem dX7_one_261 : decode cX7_one 261 = .ok (.iaload, 1) := by decide +kernel
theorem dX7_one_262 : decode cX7_one 262 = .ok (.i2l, 1) := by decide +kernel
theorem dX7_one_263 : decode cX7_one 263 = .ok (.aload_n 0, 1) := by decide +kernel
theorem dX7_one_264 : decode cX7_one 264 = .ok (.getfield 30, 3) := by decide +kernel
theorem dX7_one_267 : decode cX7_one 267 = .ok (.iload 4, 2) := by decide +kernel
theorem dX7_one_269 : decode cX7_one 269 = .ok (.laload, 1) := by decide +kernel
theorem dX7_one_270 : decode cX7_one 270 = .ok (.lmul, 1) := by decide +kernel
theorem dX7_one_271 : decode cX7_one 271 = .ok (.ladd, 1) := by decide +kernel
theorem dX7_one_272 : decode cX7_one 272 = .ok (.goto 4, 3) := by decide +kernel
theorem dX7_one_275 : decode cX7_one 275 = .ok (.lload_n 1, 1) := by decide +kernel
theorem dX7_one_276 : decode cX7_one 276 = .ok (.lstore_n 1, 1) := by decide +kernel
theorem dX7_one_277 : decode cX7_one 277 = .ok (.iinc 4 1, 3) := by decide +kernel
theorem dX7_one_280 : decode cX7_one 280 = .ok (.goto (-44), 3) := by decide +kernel
theorem dX7_one_283 : decode cX7_one 283 = .ok (.lload_n 1, 1) := by decide +kernel
theorem dX7_one_284 : decode cX7_one 284 = .ok (.lreturn, 1) := by decide +kernel
theorem dX7_sends_0 : decode cX7_sends 0 = .ok (.iconst 0, 1) := by decide +kernel
theorem dX7_sends_1 : decode cX7_sends 1 = .ok (.istore_n 2, 1) := by decide +kernel
theorem dX7_sends_2 : decode cX7_sends 2 = .ok (.iconst 0, 1) := by decide +kernel
theorem dX7_sends_3 : decode cX7_sends 3 = .ok (.istore_n 3, 1) := by decide +kernel
theorem dX7_sends_4 : decode cX7_sends 4 = .ok (.iload_n 3, 1) := by decide +kernel
theorem dX7_sends_5 : decode cX7_sends 5 = .ok (.aload_n 0, 1) := by decide +kernel
theorem dX7_sends_6 : decode cX7_sends 6 = .ok (.getfield 48, 3) := by decide +kernel
theorem dX7_sends_9 : decode cX7_sends 9 = .ok (.if_icmp .ge 33, 3) := by decide +kernel
theorem dX7_sends_12 : decode cX7_sends 12 = .ok (.iload_n 2, 1) := by decide +kernel
theorem dX7_sends_13 : decode cX7_sends 13 = .ok (.ifCond .ne 17, 3) := by decide +kernel
theorem dX7_sends_16 : decode cX7_sends 16 = .ok (.aload_n 0, 1) := by decide +kernel
theorem dX7_sends_17 : decode cX7_sends 17 = .ok (.getfield 33, 3) := by decide +kernel
theorem dX7_sends_20 : decode cX7_sends 20 = .ok (.bipush 12, 2) := by decide +kernel
theorem dX7_sends_22 : decode cX7_sends 22 = .ok (.iload_n 1, 1) := by decide +kernel
theorem dX7_sends_23 : decode cX7_sends 23 = .ok (.imul, 1) := by decide +kernel
theorem dX7_sends_24 : decode cX7_sends 24 = .ok (.iload_n 3, 1) := by decide +kernel
theorem dX7_sends_25 : decode cX7_sends 25 = .ok (.iadd, 1) := by decide +kernel
theorem dX7_sends_26 : decode cX7_sends 26 = .ok (.iaload, 1) := by decide +kernel
theorem dX7_sends_27 : decode cX7_sends 27 = .ok (.ifCond .le 7, 3) := by decide +kernel
theorem dX7_sends_30 : decode cX7_sends 30 = .ok (.iconst 1, 1) := by decide +kernel
theorem dX7_sends_31 : decode cX7_sends 31 = .ok (.goto 4, 3) := by decide +kernel
theorem dX7_sends_34 : decode cX7_sends 34 = .ok (.iconst 0, 1) := by decide +kernel
theorem dX7_sends_35 : decode cX7_sends 35 = .ok (.istore_n 2, 1) := by decide +kernel
theorem dX7_sends_36 : decode cX7_sends 36 = .ok (.iinc 3 1, 3) := by decide +kernel
theorem dX7_sends_39 : decode cX7_sends 39 = .ok (.goto (-35), 3) := by decide +kernel
theorem dX7_sends_42 : decode cX7_sends 42 = .ok (.iload_n 2, 1) := by decide +kernel
theorem dX7_sends_43 : decode cX7_sends 43 = .ok (.ireturn, 1) := by decide +kernel
theorem dX7_gets_0 : decode cX7_gets 0 = .ok (.iconst 0, 1) := by decide +kernel
theorem dX7_gets_1 : decode cX7_gets 1 = .ok (.istore_n 2, 1) := by decide +kernel
theorem dX7_gets_2 : decode cX7_gets 2 = .ok (.iconst 0, 1) := by decide +kernel
theorem dX7_gets_3 : decode cX7_gets 3 = .ok (.istore_n 3, 1) := by decide +kernel
theorem dX7_gets_4 : decode cX7_gets 4 = .ok (.iload_n 3, 1) := by decide +kernel
theorem dX7_gets_5 : decode cX7_gets 5 = .ok (.aload_n 0, 1) := by decide +kernel
theorem dX7_gets_6 : decode cX7_gets 6 = .ok (.getfield 48, 3) := by decide +kernel
theorem dX7_gets_9 : decode cX7_gets 9 = .ok (.if_icmp .ge 33, 3) := by decide +kernel
theorem dX7_gets_12 : decode cX7_gets 12 = .ok (.iload_n 2, 1) := by decide +kernel
theorem dX7_gets_13 : decode cX7_gets 13 = .ok (.ifCond .ne 17, 3) := by decide +kernel
theorem dX7_gets_16 : decode cX7_gets 16 = .ok (.aload_n 0, 1) := by decide +kernel
theorem dX7_gets_17 : decode cX7_gets 17 = .ok (.getfield 33, 3) := by decide +kernel
theorem dX7_gets_20 : decode cX7_gets 20 = .ok (.bipush 12, 2) := by decide +kernel
theorem dX7_gets_22 : decode cX7_gets 22 = .ok (.iload_n 3, 1) := by decide +kernel
theorem dX7_gets_23 : decode cX7_gets 23 = .ok (.imul, 1) := by decide +kernel
theorem dX7_gets_24 : decode cX7_gets 24 = .ok (.iload_n 1, 1) := by decide +kernel
theorem dX7_gets_25 : decode cX7_gets 25 = .ok (.iadd, 1) := by decide +kernel
theorem dX7_gets_26 : decode cX7_gets 26 = .ok (.iaload, 1) := by decide +kernel
theorem dX7_gets_27 : decode cX7_gets 27 = .ok (.ifCond .le 7, 3) := by decide +kernel
theorem dX7_gets_30 : decode cX7_gets 30 = .ok (.iconst 1, 1) := by decide +kernel
theorem dX7_gets_31 : decode cX7_gets 31 = .ok (.goto 4, 3) := by decide +kernel
theorem dX7_gets_34 : decode cX7_gets 34 = .ok (.iconst 0, 1) := by decide +kernel
theorem dX7_gets_35 : decode cX7_gets 35 = .ok (.istore_n 2, 1) := by decide +kernel
theorem dX7_gets_36 : decode cX7_gets 36 = .ok (.iinc 3 1, 3) := by decide +kernel
theorem dX7_gets_39 : decode cX7_gets 39 = .ok (.goto (-35), 3) := by decide +kernel
theorem dX7_gets_42 : decode cX7_gets 42 = .ok (.iload_n 2, 1) := by decide +kernel
theorem dX7_gets_43 : decode cX7_gets 43 = .ok (.ireturn, 1) := by decide +kernel
set_option maxRecDepth 20000 in
theorem ggX7_step_X7_sends : GoodIn wsX7_step wsX7_sends := goodIn_r _ [8, 9, 2, 14, 15, 16, 17, 18, 19, 20, 21, 22, 23, 24, 25, 26, 27, 28, 29, 30] (by decide +kernel) (by decide +kernel)
set_option maxRecDepth 20000 in
theorem gX7_step_X7_sends : GoodIn wsX7_step (wsV RX7 124 RX7 yX7_sends wsX7_sends) := goodIn_app (goodIn_of _ (by decide +kernel)) ggX7_step_X7_sends
set_option maxRecDepth 20000 in
theorem ggX7_step_X7_gets : GoodIn wsX7_step wsX7_gets := goodIn_r _ [13, 9, 2, 14, 15, 16, 17, 18, 19, 20, 21, 22, 23, 24, 25, 26, 27, 28, 29, 30] (by decide +kernel) (by decide +kernel)
set_option maxRecDepth 20000 in
theorem gX7_step_X7_gets : GoodIn wsX7_step (wsV RX7 127 RX7 yX7_gets wsX7_gets) := goodIn_app (goodIn_of _ (by decide +kernel)) ggX7_step_X7_gets
theorem dX7_step_0 : decode cX7_step 0 = .ok (.iload_n 1, 1) := by decide +kernel
theorem dX7_step_1 : decode cX7_step 1 = .ok (.bipush 12, 2) := by decide +kernel
theorem dX7_step_3 : decode cX7_step 3 = .ok (.if_icmp .ge 43, 3) := by decide +kernel
theorem dX7_step_6 : decode cX7_step 6 = .ok (.iload_n 2, 1) := by decide +kernel
theorem dX7_step_7 : decode cX7_step 7 = .ok (.bipush 11, 2) := by decide +kernel
theorem dX7_step_9 : decode cX7_step 9 = .ok (.if_icmp .le 37, 3) := by decide +kernel
theorem dX7_step_12 : decode cX7_step 12 = .ok (.aload_n 0, 1) := by decide +kernel
theorem dX7_step_13 : decode cX7_step 13 = .ok (.iload_n 1, 1) := by decide +kernel
theorem dX7_step_14 : decode cX7_step 14 = .ok (.invokevirtual 124, 3) := by decide +kernel
theorem dX7_step_17 : decode cX7_step 17 = .ok (.ifCond .eq 29, 3) := by decide +kernel
theorem dX7_step_20 : decode cX7_step 20 = .ok (.aload_n 0, 1) := by decide +kernel
theorem dX7_step_21 : decode cX7_step 21 = .ok (.iload_n 2, 1) := by decide +kernel
theorem dX7_step_22 : decode cX7_step 22 = .ok (.bipush 12, 2) := by decide +kernel
theorem dX7_step_24 : decode cX7_step 24 = .ok (.isub, 1) := by decide +kernel
theorem dX7_step_25 : decode cX7_step 25 = .ok (.invokevirtual 127, 3) := by decide +kernel
theorem dX7_step_28 : decode cX7_step 28 = .ok (.ifCond .eq 18, 3) := by decide +kernel
theorem dX7_step_31 : decode cX7_step 31 = .ok (.aload_n 0, 1) := by decide +kernel
theorem dX7_step_32 : decode cX7_step 32 = .ok (.getfield 30, 3) := by decide +kernel
theorem dX7_step_35 : decode cX7_step 35 = .ok (.bipush 12, 2) := by decide +kernel
theorem dX7_step_37 : decode cX7_step 37 = .ok (.iload_n 1, 1) := by decide +kernel
theorem dX7_step_38 : decode cX7_step 38 = .ok (.imul, 1) := by decide +kernel
theorem dX7_step_39 : decode cX7_step 39 = .ok (.iload_n 2, 1) := by decide +kernel
theorem dX7_step_40 : decode cX7_step 40 = .ok (.iadd, 1) := by decide +kernel
theorem dX7_step_41 : decode cX7_step 41 = .ok (.bipush 12, 2) := by decide +kernel
theorem dX7_step_43 : decode cX7_step 43 = .ok (.isub, 1) := by decide +kernel
theorem dX7_step_44 : decode cX7_step 44 = .ok (.laload, 1) := by decide +kernel
theorem dX7_step_45 : decode cX7_step 45 = .ok (.lreturn, 1) := by decide +kernel
theorem dX7_step_46 : decode cX7_step 46 = .ok (.iload_n 1, 1) := by decide +kernel
theorem dX7_step_47 : decode cX7_step 47 = .ok (.bipush 11, 2) := by decide +kernel
theorem dX7_step_49 : decode cX7_step 49 = .ok (.if_icmp .le 44, 3) := by decide +kernel
theorem dX7_step_52 : decode cX7_step 52 = .ok (.iload_n 2, 1) := by decide +kernel
theorem dX7_step_53 : decode cX7_step 53 = .ok (.bipush 12, 2) := by decide +kernel
theorem dX7_step_55 : decode cX7_step 55 = .ok (.if_icmp .ge 38, 3) := by decide +kernel
theorem dX7_step_58 : decode cX7_step 58 = .ok (.aload_n 0, 1) := by decide +kernel
theorem dX7_step_59 : decode cX7_step 59 = .ok (.getfield 33, 3) := by decide +kernel
theorem dX7_step_62 : decode cX7_step 62 = .ok (.bipush 12, 2) := by decide +kernel
theorem dX7_step_64 : decode cX7_step 64 = .ok (.iload_n 2, 1) := by decide +kernel
theorem dX7_step_65 : decode cX7_step 65 = .ok (.imul, 1) := by decide +kernel
theorem dX7_step_66 : decode cX7_step 66 = .ok (.iload_n 1, 1) := by decide +kernel
theorem dX7_step_67 : decode cX7_step 67 = .ok (.iadd, 1) := by decide +kernel
theorem dX7_step_68 : decode cX7_step 68 = .ok (.bipush 12, 2) := by decide +kernel
theorem dX7_step_70 : decode cX7_step 70 = .ok (.isub, 1) := by decide +kernel
theorem dX7_step_71 : decode cX7_step 71 = .ok (.iaload, 1) := by decide +kernel
theorem dX7_step_72 : decode cX7_step 72 = .ok (.ifCond .le 21, 3) := by decide +kernel
theorem dX7_step_75 : decode cX7_step 75 = .ok (.aload_n 0, 1) := by decide +kernel
theorem dX7_step_76 : decode cX7_step 76 = .ok (.getfield 30, 3) := by decide +kernel
theorem dX7_step_79 : decode cX7_step 79 = .ok (.bipush 12, 2) := by decide +kernel
theorem dX7_step_81 : decode cX7_step 81 = .ok (.iload_n 2, 1) := by decide +kernel
theorem dX7_step_82 : decode cX7_step 82 = .ok (.imul, 1) := by decide +kernel
theorem dX7_step_83 : decode cX7_step 83 = .ok (.iload_n 1, 1) := by decide +kernel
theorem dX7_step_84 : decode cX7_step 84 = .ok (.iadd, 1) := by decide +kernel
theorem dX7_step_85 : decode cX7_step 85 = .ok (.bipush 12, 2) := by decide +kernel
theorem dX7_step_87 : decode cX7_step 87 = .ok (.isub, 1) := by decide +kernel
theorem dX7_step_88 : decode cX7_step 88 = .ok (.laload, 1) := by decide +kernel
theorem dX7_step_89 : decode cX7_step 89 = .ok (.lneg, 1) := by decide +kernel
theorem dX7_step_90 : decode cX7_step 90 = .ok (.goto 6, 3) := by decide +kernel
theorem dX7_step_93 : decode cX7_step 93 = .ok (.ldc2_w 52, 3) := by decide +kernel
theorem dX7_step_96 : decode cX7_step 96 = .ok (.lreturn, 1) := by decide +kernel
set_option maxRecDepth 20000 in
theorem ggX7_cheaper_X7_step : GoodIn wsX7_cheaper wsX7_step := goodIn_r _ [9, 10, 4, 3, 11, 12, 13, 8, 14, 15, 16, 17, 18, 19, 20, 21, 22, 23, 24, 25, 26, 27, 28, 29, 30, 31, 32, 33, 34, 35, 36] (by decide +kernel) (by decide +kernel)
set_option maxRecDepth 20000 in
theorem gX7_cheaper_X7_step : GoodIn wsX7_cheaper (wsV RX7 130 RX7 yX7_step wsX7_step) := goodIn_app (goodIn_of _ (by decide +kernel)) ggX7_cheaper_X7_step
theorem dX7_cheaper_0 : decode cX7_cheaper 0 = .ok (.iconst 0, 1) := by decide +kernel
theorem dX7_cheaper_1 : decode cX7_cheaper 1 = .ok (.istore_n 1, 1) := by decide +kernel
theorem dX7_cheaper_2 : decode cX7_cheaper 2 = .ok (.iload_n 1, 1) := by decide +kernel
theorem dX7_cheaper_3 : decode cX7_cheaper 3 = .ok (.bipush 24, 2) := by decide +kernel
theorem dX7_cheaper_5 : decode cX7_cheaper 5 = .ok (.if_icmp .ge 23, 3) := by decide +kernel
theorem dX7_cheaper_8 : decode cX7_cheaper 8 = .ok (.aload_n 0, 1) := by decide +kernel
theorem dX7_cheaper_9 : decode cX7_cheaper 9 = .ok (.getfield 42, 3) := by decide +kernel
theorem dX7_cheaper_12 : decode cX7_cheaper 12 = .ok (.iload_n 1, 1) := by decide +kernel
theorem dX7_cheaper_13 : decode cX7_cheaper 13 = .ok (.lconst 0, 1) := by decide +kernel
theorem dX7_cheaper_14 : decode cX7_cheaper 14 = .ok (.lastore, 1) := by decide +kernel
theorem dX7_cheaper_15 : decode cX7_cheaper 15 = .ok (.aload_n 0, 1) := by decide +kernel
theorem dX7_cheaper_16 : decode cX7_cheaper 16 = .ok (.getfield 45, 3) := by decide +kernel
theorem dX7_cheaper_19 : decode cX7_cheaper 19 = .ok (.iload_n 1, 1) := by decide +kernel
theorem dX7_cheaper_20 : decode cX7_cheaper 20 = .ok (.iconst (-1), 1) := by decide +kernel
theorem dX7_cheaper_21 : decode cX7_cheaper 21 = .ok (.iastore, 1) := by decide +kernel
theorem dX7_cheaper_22 : decode cX7_cheaper 22 = .ok (.iinc 1 1, 3) := by decide +kernel
theorem dX7_cheaper_25 : decode cX7_cheaper 25 = .ok (.goto (-23), 3) := by decide +kernel
theorem dX7_cheaper_28 : decode cX7_cheaper 28 = .ok (.iconst (-1), 1) := by decide +kernel
theorem dX7_cheaper_29 : decode cX7_cheaper 29 = .ok (.istore_n 1, 1) := by decide +kernel
theorem dX7_cheaper_30 : decode cX7_cheaper 30 = .ok (.iconst 0, 1) := by decide +kernel
theorem dX7_cheaper_31 : decode cX7_cheaper 31 = .ok (.istore_n 2, 1) := by decide +kernel
theorem dX7_cheaper_32 : decode cX7_cheaper 32 = .ok (.iload_n 2, 1) := by decide +kernel
theorem dX7_cheaper_33 : decode cX7_cheaper 33 = .ok (.bipush 25, 2) := by decide +kernel
theorem dX7_cheaper_35 : decode cX7_cheaper 35 = .ok (.if_icmp .ge 113, 3) := by decide +kernel
theorem dX7_cheaper_38 : decode cX7_cheaper 38 = .ok (.iconst (-1), 1) := by decide +kernel
theorem dX7_cheaper_39 : decode cX7_cheaper 39 = .ok (.istore_n 1, 1) := by decide +kernel
theorem dX7_cheaper_40 : decode cX7_cheaper 40 = .ok (.iconst 0, 1) := by decide +kernel
theorem dX7_cheaper_41 : decode cX7_cheaper 41 = .ok (.istore_n 3, 1) := by decide +kernel
theorem dX7_cheaper_42 : decode cX7_cheaper 42 = .ok (.iload_n 3, 1) := by decide +kernel
theorem dX7_cheaper_43 : decode cX7_cheaper 43 = .ok (.sipush 576, 3) := by decide +kernel
theorem dX7_cheaper_46 : decode cX7_cheaper 46 = .ok (.if_icmp .ge 96, 3) := by decide +kernel
theorem dX7_cheaper_49 : decode cX7_cheaper 49 = .ok (.aload_n 0, 1) := by decide +kernel
theorem dX7_cheaper_50 : decode cX7_cheaper 50 = .ok (.iload_n 3, 1) := by decide +kernel
theorem dX7_cheaper_51 : decode cX7_cheaper 51 = .ok (.bipush 24, 2) := by decide +kernel
theorem dX7_cheaper_53 : decode cX7_cheaper 53 = .ok (.idiv, 1) := by decide +kernel
theorem dX7_cheaper_54 : decode cX7_cheaper 54 = .ok (.iload_n 3, 1) := by decide +kernel
theorem dX7_cheaper_55 : decode cX7_cheaper 55 = .ok (.bipush 24, 2) := by decide +kernel
theorem dX7_cheaper_57 : decode cX7_cheaper 57 = .ok (.irem, 1) := by decide +kernel
theorem dX7_cheaper_58 : decode cX7_cheaper 58 = .ok (.invokevirtual 130, 3) := by decide +kernel
theorem dX7_cheaper_61 : decode cX7_cheaper 61 = .ok (.lstore 4, 2) := by decide +kernel
theorem dX7_cheaper_63 : decode cX7_cheaper 63 = .ok (.lload 4, 2) := by decide +kernel
theorem dX7_cheaper_65 : decode cX7_cheaper 65 = .ok (.ldc2_w 52, 3) := by decide +kernel
theorem dX7_cheaper_68 : decode cX7_cheaper 68 = .ok (.lcmp, 1) := by decide +kernel
theorem dX7_cheaper_69 : decode cX7_cheaper 69 = .ok (.ifCond .ge 67, 3) := by decide +kernel
theorem dX7_cheaper_72 : decode cX7_cheaper 72 = .ok (.aload_n 0, 1) := by decide +kernel
theorem dX7_cheaper_73 : decode cX7_cheaper 73 = .ok (.getfield 42, 3) := by decide +kernel
theorem dX7_cheaper_76 : decode cX7_cheaper 76 = .ok (.iload_n 3, 1) := by decide +kernel
theorem dX7_cheaper_77 : decode cX7_cheaper 77 = .ok (.bipush 24, 2) := by decide +kernel
theorem dX7_cheaper_79 : decode cX7_cheaper 79 = .ok (.idiv, 1) := by decide +kernel
theorem dX7_cheaper_80 : decode cX7_cheaper 80 = .ok (.laload, 1) := by decide +kernel
theorem dX7_cheaper_81 : decode cX7_cheaper 81 = .ok (.lload 4, 2) := by decide +kernel
theorem dX7_cheaper_83 : decode cX7_cheaper 83 = .ok (.ladd, 1) := by decide +kernel
theorem dX7_cheaper_84 : decode cX7_cheaper 84 = .ok (.aload_n 0, 1) := by decide +kernel
theorem dX7_cheaper_85 : decode cX7_cheaper 85 = .ok (.getfield 42, 3) := by decide +kernel
theorem dX7_cheaper_88 : decode cX7_cheaper 88 = .ok (.iload_n 3, 1) := by decide +kernel
theorem dX7_cheaper_89 : decode cX7_cheaper 89 = .ok (.bipush 24, 2) := by decide +kernel
theorem dX7_cheaper_91 : decode cX7_cheaper 91 = .ok (.irem, 1) := by decide +kernel
theorem dX7_cheaper_92 : decode cX7_cheaper 92 = .ok (.laload, 1) := by decide +kernel
theorem dX7_cheaper_93 : decode cX7_cheaper 93 = .ok (.lcmp, 1) := by decide +kernel
theorem dX7_cheaper_94 : decode cX7_cheaper 94 = .ok (.ifCond .ge 42, 3) := by decide +kernel
theorem dX7_cheaper_97 : decode cX7_cheaper 97 = .ok (.aload_n 0, 1) := by decide +kernel
theorem dX7_cheaper_98 : decode cX7_cheaper 98 = .ok (.getfield 42, 3) := by decide +kernel
theorem dX7_cheaper_101 : decode cX7_cheaper 101 = .ok (.iload_n 3, 1) := by decide +kernel
theorem dX7_cheaper_102 : decode cX7_cheaper 102 = .ok (.bipush 24, 2) := by decide +kernel
theorem dX7_cheaper_104 : decode cX7_cheaper 104 = .ok (.irem, 1) := by decide +kernel
theorem dX7_cheaper_105 : decode cX7_cheaper 105 = .ok (.aload_n 0, 1) := by decide +kernel
theorem dX7_cheaper_106 : decode cX7_cheaper 106 = .ok (.getfield 42, 3) := by decide +kernel
theorem dX7_cheaper_109 : decode cX7_cheaper 109 = .ok (.iload_n 3, 1) := by decide +kernel
theorem dX7_cheaper_110 : decode cX7_cheaper 110 = .ok (.bipush 24, 2) := by decide +kernel
theorem dX7_cheaper_112 : decode cX7_cheaper 112 = .ok (.idiv, 1) := by decide +kernel
theorem dX7_cheaper_113 : decode cX7_cheaper 113 = .ok (.laload, 1) := by decide +kernel
theorem dX7_cheaper_114 : decode cX7_cheaper 114 = .ok (.lload 4, 2) := by decide +kernel
theorem dX7_cheaper_116 : decode cX7_cheaper 116 = .ok (.ladd, 1) := by decide +kernel
theorem dX7_cheaper_117 : decode cX7_cheaper 117 = .ok (.lastore, 1) := by decide +kernel
theorem dX7_cheaper_118 : decode cX7_cheaper 118 = .ok (.aload_n 0, 1) := by decide +kernel
theorem dX7_cheaper_119 : decode cX7_cheaper 119 = .ok (.getfield 45, 3) := by decide +kernel
theorem dX7_cheaper_122 : decode cX7_cheaper 122 = .ok (.iload_n 3, 1) := by decide +kernel
theorem dX7_cheaper_123 : decode cX7_cheaper 123 = .ok (.bipush 24, 2) := by decide +kernel
theorem dX7_cheaper_125 : decode cX7_cheaper 125 = .ok (.irem, 1) := by decide +kernel
theorem dX7_cheaper_126 : decode cX7_cheaper 126 = .ok (.iload_n 3, 1) := by decide +kernel
theorem dX7_cheaper_127 : decode cX7_cheaper 127 = .ok (.bipush 24, 2) := by decide +kernel
theorem dX7_cheaper_129 : decode cX7_cheaper 129 = .ok (.idiv, 1) := by decide +kernel
theorem dX7_cheaper_130 : decode cX7_cheaper 130 = .ok (.iastore, 1) := by decide +kernel
theorem dX7_cheaper_131 : decode cX7_cheaper 131 = .ok (.iload_n 3, 1) := by decide +kernel
theorem dX7_cheaper_132 : decode cX7_cheaper 132 = .ok (.bipush 24, 2) := by decide +kernel
theorem dX7_cheaper_134 : decode cX7_cheaper 134 = .ok (.irem, 1) := by decide +kernel
theorem dX7_cheaper_135 : decode cX7_cheaper 135 = .ok (.istore_n 1, 1) := by decide +kernel
theorem dX7_cheaper_136 : decode cX7_cheaper 136 = .ok (.iinc 3 1, 3) := by decide +kernel
theorem dX7_cheaper_139 : decode cX7_cheaper 139 = .ok (.goto (-97), 3) := by decide +kernel
theorem dX7_cheaper_142 : decode cX7_cheaper 142 = .ok (.iinc 2 1, 3) := by decide +kernel
theorem dX7_cheaper_145 : decode cX7_cheaper 145 = .ok (.goto (-113), 3) := by decide +kernel
theorem dX7_cheaper_148 : decode cX7_cheaper 148 = .ok (.iload_n 1, 1) := by decide +kernel
theorem dX7_cheaper_149 : decode cX7_cheaper 149 = .ok (.ifCond .ge 5, 3) := by decide +kernel
theorem dX7_cheaper_152 : decode cX7_cheaper 152 = .ok (.iconst 0, 1) := by decide +kernel
theorem dX7_cheaper_153 : decode cX7_cheaper 153 = .ok (.ireturn, 1) := by decide +kernel
theorem dX7_cheaper_154 : decode cX7_cheaper 154 = .ok (.iload_n 1, 1) := by decide +kernel
theorem dX7_cheaper_155 : decode cX7_cheaper 155 = .ok (.istore_n 2, 1) := by decide +kernel
theorem dX7_cheaper_156 : decode cX7_cheaper 156 = .ok (.iconst 0, 1) := by decide +kernel
theorem dX7_cheaper_157 : decode cX7_cheaper 157 = .ok (.istore_n 3, 1) := by decide +kernel
theorem dX7_cheaper_158 : decode cX7_cheaper 158 = .ok (.iload_n 3, 1) := by decide +kernel
theorem dX7_cheaper_159 : decode cX7_cheaper 159 = .ok (.bipush 24, 2) := by decide +kernel
theorem dX7_cheaper_161 : decode cX7_cheaper 161 = .ok (.if_icmp .ge 16, 3) := by decide +kernel
theorem dX7_cheaper_164 : decode cX7_cheaper 164 = .ok (.aload_n 0, 1) := by decide +kernel
theorem dX7_cheaper_165 : decode cX7_cheaper 165 = .ok (.getfield 45, 3) := by decide +kernel
theorem dX7_cheaper_168 : decode cX7_cheaper 168 = .ok (.iload_n 2, 1) := by decide +kernel
theorem dX7_cheaper_169 : decode cX7_cheaper 169 = .ok (.iaload, 1) := by decide +kernel
theorem dX7_cheaper_170 : decode cX7_cheaper 170 = .ok (.istore_n 2, 1) := by decide +kernel
theorem dX7_cheaper_171 : decode cX7_cheaper 171 = .ok (.iinc 3 1, 3) := by decide +kernel
theorem dX7_cheaper_174 : decode cX7_cheaper 174 = .ok (.goto (-16), 3) := by decide +kernel
theorem dX7_cheaper_177 : decode cX7_cheaper 177 = .ok (.iload_n 2, 1) := by decide +kernel
theorem dX7_cheaper_178 : decode cX7_cheaper 178 = .ok (.istore_n 3, 1) := by decide +kernel
theorem dX7_cheaper_179 : decode cX7_cheaper 179 = .ok (.iconst 1, 1) := by decide +kernel
theorem dX7_cheaper_180 : decode cX7_cheaper 180 = .ok (.istore 4, 2) := by decide +kernel
theorem dX7_cheaper_182 : decode cX7_cheaper 182 = .ok (.iload 4, 2) := by decide +kernel
theorem dX7_cheaper_184 : decode cX7_cheaper 184 = .ok (.ifCond .eq 77, 3) := by decide +kernel
theorem dX7_cheaper_187 : decode cX7_cheaper 187 = .ok (.aload_n 0, 1) := by decide +kernel
theorem dX7_cheaper_188 : decode cX7_cheaper 188 = .ok (.getfield 45, 3) := by decide +kernel
theorem dX7_cheaper_191 : decode cX7_cheaper 191 = .ok (.iload_n 2, 1) := by decide +kernel
theorem dX7_cheaper_192 : decode cX7_cheaper 192 = .ok (.iaload, 1) := by decide +kernel
theorem dX7_cheaper_193 : decode cX7_cheaper 193 = .ok (.istore 5, 2) := by decide +kernel
theorem dX7_cheaper_195 : decode cX7_cheaper 195 = .ok (.iload 5, 2) := by decide +kernel
theorem dX7_cheaper_197 : decode cX7_cheaper 197 = .ok (.bipush 12, 2) := by decide +kernel
theorem dX7_cheaper_199 : decode cX7_cheaper 199 = .ok (.if_icmp .ge 25, 3) := by decide +kernel
theorem dX7_cheaper_202 : decode cX7_cheaper 202 = .ok (.aload_n 0, 1) := by decide +kernel
theorem dX7_cheaper_203 : decode cX7_cheaper 203 = .ok (.getfield 33, 3) := by decide +kernel
theorem dX7_cheaper_206 : decode cX7_cheaper 206 = .ok (.bipush 12, 2) := by decide +kernel
theorem dX7_cheaper_208 : decode cX7_cheaper 208 = .ok (.iload 5, 2) := by decide +kernel
theorem dX7_cheaper_210 : decode cX7_cheaper 210 = .ok (.imul, 1) := by decide +kernel
theorem dX7_cheaper_211 : decode cX7_cheaper 211 = .ok (.iload_n 2, 1) := by decide +kernel
theorem dX7_cheaper_212 : decode cX7_cheaper 212 = .ok (.iadd, 1) := by decide +kernel
theorem dX7_cheaper_213 : decode cX7_cheaper 213 = .ok (.bipush 12, 2) := by decide +kernel
theorem dX7_cheaper_215 : decode cX7_cheaper 215 = .ok (.isub, 1) := by decide +kernel
theorem dX7_cheaper_216 : decode cX7_cheaper 216 = .ok (.dup2, 1) := by decide +kernel
theorem dX7_cheaper_217 : decode cX7_cheaper 217 = .ok (.iaload, 1) := by decide +kernel
theorem dX7_cheaper_218 : decode cX7_cheaper 218 = .ok (.iconst 1, 1) := by decide +kernel
theorem dX7_cheaper_219 : decode cX7_cheaper 219 = .ok (.iadd, 1) := by decide +kernel
theorem dX7_cheaper_220 : decode cX7_cheaper 220 = .ok (.iastore, 1) := by decide +kernel
theorem dX7_cheaper_221 : decode cX7_cheaper 221 = .ok (.goto 22, 3) := by decide +kernel
theorem dX7_cheaper_224 : decode cX7_cheaper 224 = .ok (.aload_n 0, 1) := by decide +kernel
theorem dX7_cheaper_225 : decode cX7_cheaper 225 = .ok (.getfield 33, 3) := by decide +kernel
theorem dX7_cheaper_228 : decode cX7_cheaper 228 = .ok (.bipush 12, 2) := by decide +kernel
theorem dX7_cheaper_230 : decode cX7_cheaper 230 = .ok (.iload_n 2, 1) := by decide +kernel
theorem dX7_cheaper_231 : decode cX7_cheaper 231 = .ok (.imul, 1) := by decide +kernel
theorem dX7_cheaper_232 : decode cX7_cheaper 232 = .ok (.iload 5, 2) := by decide +kernel
theorem dX7_cheaper_234 : decode cX7_cheaper 234 = .ok (.iadd, 1) := by decide +kernel
theorem dX7_cheaper_235 : decode cX7_cheaper 235 = .ok (.bipush 12, 2) := by decide +kernel
theorem dX7_cheaper_237 : decode cX7_cheaper 237 = .ok (.isub, 1) := by decide +kernel
theorem dX7_cheaper_238 : decode cX7_cheaper 238 = .ok (.dup2, 1) := by decide +kernel
theorem dX7_cheaper_239 : decode cX7_cheaper 239 = .ok (.iaload, 1) := by decide +kernel
theorem dX7_cheaper_240 : decode cX7_cheaper 240 = .ok (.iconst 1, 1) := by decide +kernel
theorem dX7_cheaper_241 : decode cX7_cheaper 241 = .ok (.isub, 1) := by decide +kernel
theorem dX7_cheaper_242 : decode cX7_cheaper 242 = .ok (.iastore, 1) := by decide +kernel
theorem dX7_cheaper_243 : decode cX7_cheaper 243 = .ok (.iload 5, 2) := by decide +kernel
theorem dX7_cheaper_245 : decode cX7_cheaper 245 = .ok (.istore_n 2, 1) := by decide +kernel
theorem dX7_cheaper_246 : decode cX7_cheaper 246 = .ok (.iload_n 2, 1) := by decide +kernel
theorem dX7_cheaper_247 : decode cX7_cheaper 247 = .ok (.iload_n 3, 1) := by decide +kernel
theorem dX7_cheaper_248 : decode cX7_cheaper 248 = .ok (.if_icmp .eq 7, 3) := by decide +kernel
theorem dX7_cheaper_251 : decode cX7_cheaper 251 = .ok (.iconst 1, 1) := by decide +kernel
theorem dX7_cheaper_252 : decode cX7_cheaper 252 = .ok (.goto 4, 3) := by decide +kernel
theorem dX7_cheaper_255 : decode cX7_cheaper 255 = .ok (.iconst 0, 1) := by decide +kernel
theorem dX7_cheaper_256 : decode cX7_cheaper 256 = .ok (.istore 4, 2) := by decide +kernel
theorem dX7_cheaper_258 : decode cX7_cheaper 258 = .ok (.goto (-76), 3) := by decide +kernel
theorem dX7_cheaper_261 : decode cX7_cheaper 261 = .ok (.iconst 1, 1) := by decide +kernel
theorem dX7_cheaper_262 : decode cX7_cheaper 262 = .ok (.ireturn, 1) := by decide +kernel
set_option maxRecDepth 20000 in
theorem ggX7_postman_X7_shorten : GoodIn wsX7_postman wsX7_shorten := goodIn_r _ [7, 8, 9, 10, 11, 12, 13, 6, 14, 15, 16, 17, 18, 19, 20, 21, 22, 23, 59, 60, 61, 62, 63, 64, 65, 66, 67, 68, 69, 70, 71, 72, 73, 74, 75] (by decide +kernel) (by decide +kernel)
set_option maxRecDepth 20000 in
theorem gX7_postman_X7_shorten : GoodIn wsX7_postman (wsV RX7 133 RX7 yX7_shorten wsX7_shorten) := goodIn_app (goodIn_of _ (by decide +kernel)) ggX7_postman_X7_shorten
set_option maxRecDepth 20000 in
theorem ggX7_postman_X7_one : GoodIn wsX7_postman wsX7_one := goodIn_r _ [27, 9, 28, 29, 10, 8, 11, 12, 13, 6, 14, 15, 30, 31, 32, 33, 34, 35, 36, 37, 38, 39, 40, 41, 42, 43, 44, 45, 46, 47, 59, 60, 61, 62, 63, 64, 65, 66, 67, 68, 69, 70, 71, 72, 73, 74, 75] (by decide +kernel) (by decide +kernel)
set_option maxRecDepth 20000 in
theorem gX7_postman_X7_one : GoodIn wsX7_postman (wsV RX7 137 RX7 yX7_one wsX7_one) := goodIn_app (goodIn_of _ (by decide +kernel)) ggX7_postman_X7_one
set_option maxRecDepth 20000 in
theorem ggX7_postman_X7_both : GoodIn wsX7_postman wsX7_both := goodIn_r _ [51, 9, 10, 52, 8, 53, 54, 16, 17, 18, 6, 19, 11, 12, 13, 14, 15, 55, 56, 57, 58, 59, 60, 61, 62, 63, 64, 65, 66, 67, 68, 69, 70, 71, 72, 73, 74, 75] (by decide +kernel) (by decide +kernel)
set_option maxRecDepth 20000 in
theorem gX7_postman_X7_both : GoodIn wsX7_postman (wsV RX7 140 RX7 yX7_both wsX7_both) := goodIn_app (goodIn_of _ (by decide +kernel)) ggX7_postman_X7_both
theorem dX7_postman_0 : decode cX7_postman 0 = .ok (.aload_n 0, 1) := by decide +kernel
theorem dX7_postman_1 : decode cX7_postman 1 = .ok (.iconst 0, 1) := by decide +kernel
theorem dX7_postman_2 : decode cX7_postman 2 = .ok (.putfield 54, 3) := by decide +kernel
theorem dX7_postman_5 : decode cX7_postman 5 = .ok (.aload_n 0, 1) := by decide +kernel
theorem dX7_postman_6 : decode cX7_postman 6 = .ok (.iload_n 1, 1) := by decide +kernel
theorem dX7_postman_7 : decode cX7_postman 7 = .ok (.invokevirtual 133, 3) := by decide +kernel
theorem dX7_postman_10 : decode cX7_postman 10 = .ok (.ifCond .ne 7, 3) := by decide +kernel
theorem dX7_postman_13 : decode cX7_postman 13 = .ok (.ldc2_w 96, 3) := by decide +kernel
theorem dX7_postman_16 : decode cX7_postman 16 = .ok (.lreturn, 1) := by decide +kernel
theorem dX7_postman_17 : decode cX7_postman 17 = .ok (.iload_n 1, 1) := by decide +kernel
theorem dX7_postman_18 : decode cX7_postman 18 = .ok (.ifCond .eq 10, 3) := by decide +kernel
theorem dX7_postman_21 : decode cX7_postman 21 = .ok (.aload_n 0, 1) := by decide +kernel
theorem dX7_postman_22 : decode cX7_postman 22 = .ok (.invokevirtual 137, 3) := by decide +kernel
theorem dX7_postman_25 : decode cX7_postman 25 = .ok (.goto 7, 3) := by decide +kernel
theorem dX7_postman_28 : decode cX7_postman 28 = .ok (.aload_n 0, 1) := by decide +kernel
theorem dX7_postman_29 : decode cX7_postman 29 = .ok (.invokevirtual 140, 3) := by decide +kernel
theorem dX7_postman_32 : decode cX7_postman 32 = .ok (.lreturn, 1) := by decide +kernel
theorem dX7_pair_0 : decode cX7_pair 0 = .ok (.aload_n 0, 1) := by decide +kernel
theorem dX7_pair_1 : decode cX7_pair 1 = .ok (.iconst 0, 1) := by decide +kernel
theorem dX7_pair_2 : decode cX7_pair 2 = .ok (.putfield 54, 3) := by decide +kernel
theorem dX7_pair_5 : decode cX7_pair 5 = .ok (.iload_n 1, 1) := by decide +kernel
theorem dX7_pair_6 : decode cX7_pair 6 = .ok (.ifCond .lt 20, 3) := by decide +kernel
theorem dX7_pair_9 : decode cX7_pair 9 = .ok (.iload_n 1, 1) := by decide +kernel
theorem dX7_pair_10 : decode cX7_pair 10 = .ok (.aload_n 0, 1) := by decide +kernel
theorem dX7_pair_11 : decode cX7_pair 11 = .ok (.getfield 118, 3) := by decide +kernel
theorem dX7_pair_14 : decode cX7_pair 14 = .ok (.if_icmp .ge 12, 3) := by decide +kernel
theorem dX7_pair_17 : decode cX7_pair 17 = .ok (.iload_n 2, 1) := by decide +kernel
theorem dX7_pair_18 : decode cX7_pair 18 = .ok (.ifCond .lt 8, 3) := by decide +kernel
theorem dX7_pair_21 : decode cX7_pair 21 = .ok (.iload_n 2, 1) := by decide +kernel
theorem dX7_pair_22 : decode cX7_pair 22 = .ok (.iconst 1, 1) := by decide +kernel
theorem dX7_pair_23 : decode cX7_pair 23 = .ok (.if_icmp .le 7, 3) := by decide +kernel
theorem dX7_pair_26 : decode cX7_pair 26 = .ok (.iconst (-1), 1) := by decide +kernel
theorem dX7_pair_27 : decode cX7_pair 27 = .ok (.goto 13, 3) := by decide +kernel
theorem dX7_pair_30 : decode cX7_pair 30 = .ok (.aload_n 0, 1) := by decide +kernel
theorem dX7_pair_31 : decode cX7_pair 31 = .ok (.getfield 13, 3) := by decide +kernel
theorem dX7_pair_34 : decode cX7_pair 34 = .ok (.iconst 2, 1) := by decide +kernel
theorem dX7_pair_35 : decode cX7_pair 35 = .ok (.iload_n 1, 1) := by decide +kernel
theorem dX7_pair_36 : decode cX7_pair 36 = .ok (.imul, 1) := by decide +kernel
theorem dX7_pair_37 : decode cX7_pair 37 = .ok (.iload_n 2, 1) := by decide +kernel
theorem dX7_pair_38 : decode cX7_pair 38 = .ok (.iadd, 1) := by decide +kernel
theorem dX7_pair_39 : decode cX7_pair 39 = .ok (.iaload, 1) := by decide +kernel
theorem dX7_pair_40 : decode cX7_pair 40 = .ok (.ireturn, 1) := by decide +kernel
set_option maxRecDepth 20000 in
theorem ggX7_greatestNow_X7_grow : GoodIn wsX7_greatestNow wsX7_grow := goodIn_r _ [7, 8, 9, 10, 1, 11, 12, 13, 14, 15, 16, 6, 17, 18, 19, 20, 21, 22, 23, 24, 25, 26, 27, 28, 29, 30, 31, 32, 33, 34, 35, 36, 37, 38, 39, 40, 49, 50, 51, 52, 53, 54, 55, 56, 57, 58, 59, 60, 61, 62, 63, 64, 65] (by decide +kernel) (by decide +kernel)
set_option maxRecDepth 20000 in
theorem gX7_greatestNow_X7_grow : GoodIn wsX7_greatestNow (wsV RX7 98 RX7 yX7_grow wsX7_grow) := goodIn_app (goodIn_of _ (by decide +kernel)) ggX7_greatestNow_X7_grow
set_option maxRecDepth 20000 in
theorem ggX7_greatestNow_X7_half : GoodIn wsX7_greatestNow wsX7_half := goodIn_r _ [43, 11, 2, 19] (by decide +kernel) (by decide +kernel)
set_option maxRecDepth 20000 in
theorem gX7_greatestNow_X7_half : GoodIn wsX7_greatestNow (va_wsS RX7 102 yX7_half wsX7_half) := goodIn_app (goodIn_of _ (by decide +kernel)) ggX7_greatestNow_X7_half
set_option maxRecDepth 20000 in
theorem ggX7_greatestNow_X7_assignNow : GoodIn wsX7_greatestNow wsX7_assignNow := goodIn_r _ [47, 8, 48, 11, 2, 24, 25, 26, 6, 27, 28, 49, 50, 51, 52, 53, 54, 55, 56, 57, 58, 59, 60, 61, 62, 63, 64, 65] (by decide +kernel) (by decide +kernel)
set_option maxRecDepth 20000 in
theorem gX7_greatestNow_X7_assignNow : GoodIn wsX7_greatestNow (wsV RX7 106 RX7 yX7_assignNow wsX7_assignNow) := goodIn_app (goodIn_of _ (by decide +kernel)) ggX7_greatestNow_X7_assignNow
theorem dX7_greatestNow_0 : decode cX7_greatestNow 0 = .ok (.aload_n 0, 1) := by decide +kernel
theorem dX7_greatestNow_1 : decode cX7_greatestNow 1 = .ok (.getfield 89, 3) := by decide +kernel
theorem dX7_greatestNow_4 : decode cX7_greatestNow 4 = .ok (.istore_n 1, 1) := by decide +kernel
theorem dX7_greatestNow_5 : decode cX7_greatestNow 5 = .ok (.aload_n 0, 1) := by decide +kernel
theorem dX7_greatestNow_6 : decode cX7_greatestNow 6 = .ok (.bipush 50, 2) := by decide +kernel
theorem dX7_greatestNow_8 : decode cX7_greatestNow 8 = .ok (.invokevirtual 98, 3) := by decide +kernel
theorem dX7_greatestNow_11 : decode cX7_greatestNow 11 = .ok (.invokestatic 102, 3) := by decide +kernel
theorem dX7_greatestNow_14 : decode cX7_greatestNow 14 = .ok (.lstore_n 2, 1) := by decide +kernel
theorem dX7_greatestNow_15 : decode cX7_greatestNow 15 = .ok (.aload_n 0, 1) := by decide +kernel
theorem dX7_greatestNow_16 : decode cX7_greatestNow 16 = .ok (.iload_n 1, 1) := by decide +kernel
theorem dX7_greatestNow_17 : decode cX7_greatestNow 17 = .ok (.putfield 89, 3) := by decide +kernel
theorem dX7_greatestNow_20 : decode cX7_greatestNow 20 = .ok (.aload_n 0, 1) := by decide +kernel
theorem dX7_greatestNow_21 : decode cX7_greatestNow 21 = .ok (.invokevirtual 106, 3) := by decide +kernel
theorem dX7_greatestNow_24 : decode cX7_greatestNow 24 = .ok (.lstore 4, 2) := by decide +kernel
theorem dX7_greatestNow_26 : decode cX7_greatestNow 26 = .ok (.lload_n 2, 1) := by decide +kernel
theorem dX7_greatestNow_27 : decode cX7_greatestNow 27 = .ok (.ldc2_w 96, 3) := by decide +kernel
theorem dX7_greatestNow_30 : decode cX7_greatestNow 30 = .ok (.lcmp, 1) := by decide +kernel
theorem dX7_greatestNow_31 : decode cX7_greatestNow 31 = .ok (.ifCond .eq 12, 3) := by decide +kernel
theorem dX7_greatestNow_34 : decode cX7_greatestNow 34 = .ok (.lload 4, 2) := by decide +kernel
theorem dX7_greatestNow_36 : decode cX7_greatestNow 36 = .ok (.ldc2_w 96, 3) := by decide +kernel
theorem dX7_greatestNow_39 : decode cX7_greatestNow 39 = .ok (.lcmp, 1) := by decide +kernel
theorem dX7_greatestNow_40 : decode cX7_greatestNow 40 = .ok (.ifCond .ne 9, 3) := by decide +kernel
theorem dX7_greatestNow_43 : decode cX7_greatestNow 43 = .ok (.ldc2_w 96, 3) := by decide +kernel
theorem dX7_greatestNow_46 : decode cX7_greatestNow 46 = .ok (.goto 16, 3) := by decide +kernel
theorem dX7_greatestNow_49 : decode cX7_greatestNow 49 = .ok (.lload_n 2, 1) := by decide +kernel
theorem dX7_greatestNow_50 : decode cX7_greatestNow 50 = .ok (.lload 4, 2) := by decide +kernel
theorem dX7_greatestNow_52 : decode cX7_greatestNow 52 = .ok (.lcmp, 1) := by decide +kernel
theorem dX7_greatestNow_53 : decode cX7_greatestNow 53 = .ok (.ifCond .le 7, 3) := by decide +kernel
theorem dX7_greatestNow_56 : decode cX7_greatestNow 56 = .ok (.lload_n 2, 1) := by decide +kernel
theorem dX7_greatestNow_57 : decode cX7_greatestNow 57 = .ok (.goto 5, 3) := by decide +kernel
theorem dX7_greatestNow_60 : decode cX7_greatestNow 60 = .ok (.lload 4, 2) := by decide +kernel
theorem dX7_greatestNow_62 : decode cX7_greatestNow 62 = .ok (.lreturn, 1) := by decide +kernel
set_option maxRecDepth 20000 in
theorem ggX7_greatest_X7_greatestNow : GoodIn wsX7_greatest wsX7_greatestNow := goodIn_r _ [6, 7, 8, 9, 10, 11, 5, 12, 13, 14, 15, 16, 17, 18, 19, 20, 21, 22, 23, 24, 25, 26, 27, 28, 29, 30, 31, 32, 33, 34, 35, 36, 37, 38, 39, 40, 41, 42, 43, 44, 45, 46, 47, 48, 49, 50, 51, 52, 53, 54, 55, 56, 57, 58, 59, 60, 61, 62, 63, 64, 65, 66, 67, 68, 69, 70] (by decide +kernel) (by decide +kernel)
set_option maxRecDepth 20000 in
theorem gX7_greatest_X7_greatestNow : GoodIn wsX7_greatest (wsV RX7 143 RX7 yX7_greatestNow wsX7_greatestNow) := goodIn_app (goodIn_of _ (by decide +kernel)) ggX7_greatest_X7_greatestNow
theorem dX7_greatest_0 : decode cX7_greatest 0 = .ok (.aload_n 0, 1) := by decide +kernel
theorem dX7_greatest_1 : decode cX7_greatest 1 = .ok (.iconst 0, 1) := by decide +kernel
theorem dX7_greatest_2 : decode cX7_greatest 2 = .ok (.putfield 54, 3) := by decide +kernel
theorem dX7_greatest_5 : decode cX7_greatest 5 = .ok (.aload_n 0, 1) := by decide +kernel
theorem dX7_greatest_6 : decode cX7_greatest 6 = .ok (.invokevirtual 143, 3) := by decide +kernel
theorem dX7_greatest_9 : decode cX7_greatest 9 = .ok (.lreturn, 1) := by decide +kernel
set_option maxRecDepth 20000 in
theorem ggX7_linear_X7_greatestNow : GoodIn wsX7_linear wsX7_greatestNow := goodIn_r _ [8, 9, 1, 10, 11, 12, 7, 13, 14, 15, 16, 17, 18, 19, 20, 21, 22, 23, 24, 25, 26, 27, 28, 29, 30, 31, 32, 33, 34, 35, 36, 37, 38, 39, 40, 41, 42, 43, 44, 45, 46, 47, 48, 49, 50, 51, 52, 53, 54, 55, 56, 57, 58, 59, 60, 61, 62, 63, 64, 65, 66, 67, 68, 69, 70, 71] (by decide +kernel) (by decide +kernel)
set_option maxRecDepth 20000 in
theorem gX7_linear_X7_greatestNow : GoodIn wsX7_linear (wsV RX7 143 RX7 yX7_greatestNow wsX7_greatestNow) := goodIn_app (goodIn_of _ (by decide +kernel)) ggX7_linear_X7_greatestNow
theorem dX7_linear_0 : decode cX7_linear 0 = .ok (.aload_n 0, 1) := by decide +kernel
theorem dX7_linear_1 : decode cX7_linear 1 = .ok (.invokevirtual 143, 3) := by decide +kernel
theorem dX7_linear_4 : decode cX7_linear 4 = .ok (.lstore_n 2, 1) := by decide +kernel
theorem dX7_linear_5 : decode cX7_linear 5 = .ok (.aload_n 0, 1) := by decide +kernel
theorem dX7_linear_6 : decode cX7_linear 6 = .ok (.lload_n 2, 1) := by decide +kernel
theorem dX7_linear_7 : decode cX7_linear 7 = .ok (.ldc2_w 96, 3) := by decide +kernel
theorem dX7_linear_10 : decode cX7_linear 10 = .ok (.lcmp, 1) := by decide +kernel
theorem dX7_linear_11 : decode cX7_linear 11 = .ok (.ifCond .eq 11, 3) := by decide +kernel
theorem dX7_linear_14 : decode cX7_linear 14 = .ok (.iload_n 1, 1) := by decide +kernel
theorem dX7_linear_15 : decode cX7_linear 15 = .ok (.ifCond .ne 7, 3) := by decide +kernel
theorem dX7_linear_18 : decode cX7_linear 18 = .ok (.iconst 1, 1) := by decide +kernel
theorem dX7_linear_19 : decode cX7_linear 19 = .ok (.goto 4, 3) := by decide +kernel
theorem dX7_linear_22 : decode cX7_linear 22 = .ok (.iconst 0, 1) := by decide +kernel
theorem dX7_linear_23 : decode cX7_linear 23 = .ok (.putfield 54, 3) := by decide +kernel
theorem dX7_linear_26 : decode cX7_linear 26 = .ok (.aload_n 0, 1) := by decide +kernel
theorem dX7_linear_27 : decode cX7_linear 27 = .ok (.getfield 54, 3) := by decide +kernel
theorem dX7_linear_30 : decode cX7_linear 30 = .ok (.ifCond .le 7, 3) := by decide +kernel
theorem dX7_linear_33 : decode cX7_linear 33 = .ok (.lconst 0, 1) := by decide +kernel
theorem dX7_linear_34 : decode cX7_linear 34 = .ok (.goto 25, 3) := by decide +kernel
theorem dX7_linear_37 : decode cX7_linear 37 = .ok (.lload_n 2, 1) := by decide +kernel
theorem dX7_linear_38 : decode cX7_linear 38 = .ok (.ldc2_w 96, 3) := by decide +kernel
theorem dX7_linear_41 : decode cX7_linear 41 = .ok (.lcmp, 1) := by decide +kernel
theorem dX7_linear_42 : decode cX7_linear 42 = .ok (.ifCond .ne 9, 3) := by decide +kernel
theorem dX7_linear_45 : decode cX7_linear 45 = .ok (.ldc2_w 96, 3) := by decide +kernel
theorem dX7_linear_48 : decode cX7_linear 48 = .ok (.goto 11, 3) := by decide +kernel
theorem dX7_linear_51 : decode cX7_linear 51 = .ok (.ldc2_w 146, 3) := by decide +kernel
theorem dX7_linear_54 : decode cX7_linear 54 = .ok (.lload_n 2, 1) := by decide +kernel
theorem dX7_linear_55 : decode cX7_linear 55 = .ok (.lmul, 1) := by decide +kernel
theorem dX7_linear_56 : decode cX7_linear 56 = .ok (.iload_n 1, 1) := by decide +kernel
theorem dX7_linear_57 : decode cX7_linear 57 = .ok (.i2l, 1) := by decide +kernel
theorem dX7_linear_58 : decode cX7_linear 58 = .ok (.ldiv, 1) := by decide +kernel
theorem dX7_linear_59 : decode cX7_linear 59 = .ok (.lreturn, 1) := by decide +kernel
set_option maxRecDepth 20000 in
theorem ggX7_certificate_X7_way_ : GoodIn wsX7_certificate wsX7_way_ := goodIn_r _ [10, 11, 56, 57, 58, 59, 60, 61, 62, 63, 64, 65, 66, 67, 68, 69, 70, 71, 72] (by decide +kernel) (by decide +kernel)
set_option maxRecDepth 20000 in
theorem gX7_certificate_X7_way_ : GoodIn wsX7_certificate (wsV RX7 63 RX7 yX7_way_ wsX7_way_) := goodIn_app (goodIn_of _ (by decide +kernel)) ggX7_certificate_X7_way_
set_option maxRecDepth 20000 in
theorem ggX7_certificate_X7_greatestNow : GoodIn wsX7_certificate wsX7_greatestNow := goodIn_r _ [15, 16, 17, 18, 19, 20, 9, 21, 2, 22, 23, 5, 24, 25, 26, 27, 28, 29, 30, 31, 32, 33, 34, 35, 6, 7, 8, 10, 11, 36, 37, 38, 39, 40, 41, 42, 43, 44, 45, 46, 47, 48, 49, 50, 51, 52, 53, 54, 55, 56, 57, 58, 59, 60, 61, 62, 63, 64, 65, 66, 67, 68, 69, 70, 71, 72] (by decide +kernel) (by decide +kernel)
set_option maxRecDepth 20000 in
theorem gX7_certificate_X7_greatestNow : GoodIn wsX7_certificate (wsV RX7 143 RX7 yX7_greatestNow wsX7_greatestNow) := goodIn_app (goodIn_of _ (by decide +kernel)) ggX7_certificate_X7_greatestNow
theorem dX7_certificate_0 : decode cX7_certificate 0 = .ok (.aload_n 0, 1) := by decide +kernel
theorem dX7_certificate_1 : decode cX7_certificate 1 = .ok (.iconst 0, 1) := by decide +kernel
theorem dX7_certificate_2 : decode cX7_certificate 2 = .ok (.putfield 54, 3) := by decide +kernel
theorem dX7_certificate_5 : decode cX7_certificate 5 = .ok (.iconst 1, 1) := by decide +kernel
theorem dX7_certificate_6 : decode cX7_certificate 6 = .ok (.istore_n 2, 1) := by decide +kernel
theorem dX7_certificate_7 : decode cX7_certificate 7 = .ok (.iconst 2, 1) := by decide +kernel
theorem dX7_certificate_8 : decode cX7_certificate 8 = .ok (.istore_n 3, 1) := by decide +kernel
theorem dX7_certificate_9 : decode cX7_certificate 9 = .ok (.iload_n 3, 1) := by decide +kernel
theorem dX7_certificate_10 : decode cX7_certificate 10 = .ok (.aload_n 0, 1) := by decide +kernel
theorem dX7_certificate_11 : decode cX7_certificate 11 = .ok (.getfield 48, 3) := by decide +kernel
theorem dX7_certificate_14 : decode cX7_certificate 14 = .ok (.if_icmp .ge 13, 3) := by decide +kernel
theorem dX7_certificate_17 : decode cX7_certificate 17 = .ok (.iload_n 2, 1) := by decide +kernel
theorem dX7_certificate_18 : decode cX7_certificate 18 = .ok (.iload_n 3, 1) := by decide +kernel
theorem dX7_certificate_19 : decode cX7_certificate 19 = .ok (.imul, 1) := by decide +kernel
theorem dX7_certificate_20 : decode cX7_certificate 20 = .ok (.istore_n 2, 1) := by decide +kernel
theorem dX7_certificate_21 : decode cX7_certificate 21 = .ok (.iinc 3 1, 3) := by decide +kernel
theorem dX7_certificate_24 : decode cX7_certificate 24 = .ok (.goto (-15), 3) := by decide +kernel
theorem dX7_certificate_27 : decode cX7_certificate 27 = .ok (.iload_n 1, 1) := by decide +kernel
theorem dX7_certificate_28 : decode cX7_certificate 28 = .ok (.ldc 148, 2) := by decide +kernel
theorem dX7_certificate_30 : decode cX7_certificate 30 = .ok (.iand, 1) := by decide +kernel
theorem dX7_certificate_31 : decode cX7_certificate 31 = .ok (.iload_n 2, 1) := by decide +kernel
theorem dX7_certificate_32 : decode cX7_certificate 32 = .ok (.irem, 1) := by decide +kernel
theorem dX7_certificate_33 : decode cX7_certificate 33 = .ok (.istore_n 3, 1) := by decide +kernel
theorem dX7_certificate_34 : decode cX7_certificate 34 = .ok (.iconst 1, 1) := by decide +kernel
theorem dX7_certificate_35 : decode cX7_certificate 35 = .ok (.aload_n 0, 1) := by decide +kernel
theorem dX7_certificate_36 : decode cX7_certificate 36 = .ok (.getfield 48, 3) := by decide +kernel
theorem dX7_certificate_39 : decode cX7_certificate 39 = .ok (.ishl, 1) := by decide +kernel
theorem dX7_certificate_40 : decode cX7_certificate 40 = .ok (.iconst 2, 1) := by decide +kernel
theorem dX7_certificate_41 : decode cX7_certificate 41 = .ok (.isub, 1) := by decide +kernel
theorem dX7_certificate_42 : decode cX7_certificate 42 = .ok (.istore 4, 2) := by decide +kernel
theorem dX7_certificate_44 : decode cX7_certificate 44 = .ok (.aload_n 0, 1) := by decide +kernel
theorem dX7_certificate_45 : decode cX7_certificate 45 = .ok (.getfield 39, 3) := by decide +kernel
theorem dX7_certificate_48 : decode cX7_certificate 48 = .ok (.iconst 0, 1) := by decide +kernel
theorem dX7_certificate_49 : decode cX7_certificate 49 = .ok (.iconst 0, 1) := by decide +kernel
theorem dX7_certificate_50 : decode cX7_certificate 50 = .ok (.iastore, 1) := by decide +kernel
theorem dX7_certificate_51 : decode cX7_certificate 51 = .ok (.iconst 1, 1) := by decide +kernel
theorem dX7_certificate_52 : decode cX7_certificate 52 = .ok (.istore 5, 2) := by decide +kernel
theorem dX7_certificate_54 : decode cX7_certificate 54 = .ok (.iload 5, 2) := by decide +kernel
theorem dX7_certificate_56 : decode cX7_certificate 56 = .ok (.aload_n 0, 1) := by decide +kernel
theorem dX7_certificate_57 : decode cX7_certificate 57 = .ok (.getfield 48, 3) := by decide +kernel
theorem dX7_certificate_60 : decode cX7_certificate 60 = .ok (.if_icmp .ge 82, 3) := by decide +kernel
theorem dX7_certificate_63 : decode cX7_certificate 63 = .ok (.iload_n 2, 1) := by decide +kernel
theorem dX7_certificate_64 : decode cX7_certificate 64 = .ok (.aload_n 0, 1) := by decide +kernel
theorem dX7_certificate_65 : decode cX7_certificate 65 = .ok (.getfield 48, 3) := by decide +kernel
theorem dX7_certificate_68 : decode cX7_certificate 68 = .ok (.iload 5, 2) := by decide +kernel
theorem dX7_certificate_70 : decode cX7_certificate 70 = .ok (.isub, 1) := by decide +kernel
theorem dX7_certificate_71 : decode cX7_certificate 71 = .ok (.idiv, 1) := by decide +kernel
theorem dX7_certificate_72 : decode cX7_certificate 72 = .ok (.istore_n 2, 1) := by decide +kernel
theorem dX7_certificate_73 : decode cX7_certificate 73 = .ok (.iload_n 3, 1) := by decide +kernel
theorem dX7_certificate_74 : decode cX7_certificate 74 = .ok (.iload_n 2, 1) := by decide +kernel
theorem dX7_certificate_75 : decode cX7_certificate 75 = .ok (.idiv, 1) := by decide +kernel
theorem dX7_certificate_76 : decode cX7_certificate 76 = .ok (.istore 6, 2) := by decide +kernel
theorem dX7_certificate_78 : decode cX7_certificate 78 = .ok (.iload_n 3, 1) := by decide +kernel
theorem dX7_certificate_79 : decode cX7_certificate 79 = .ok (.iload_n 2, 1) := by decide +kernel
theorem dX7_certificate_80 : decode cX7_certificate 80 = .ok (.irem, 1) := by decide +kernel
theorem dX7_certificate_81 : decode cX7_certificate 81 = .ok (.istore_n 3, 1) := by decide +kernel
theorem dX7_certificate_82 : decode cX7_certificate 82 = .ok (.iconst 0, 1) := by decide +kernel
theorem dX7_certificate_83 : decode cX7_certificate 83 = .ok (.istore 7, 2) := by decide +kernel
theorem dX7_certificate_85 : decode cX7_certificate 85 = .ok (.iload 4, 2) := by decide +kernel
theorem dX7_certificate_87 : decode cX7_certificate 87 = .ok (.iload 7, 2) := by decide +kernel
theorem dX7_certificate_89 : decode cX7_certificate 89 = .ok (.ishr, 1) := by decide +kernel
theorem dX7_certificate_90 : decode cX7_certificate 90 = .ok (.iconst 1, 1) := by decide +kernel
theorem dX7_certificate_91 : decode cX7_certificate 91 = .ok (.iand, 1) := by decide +kernel
theorem dX7_certificate_92 : decode cX7_certificate 92 = .ok (.ifCond .eq 8, 3) := by decide +kernel
theorem dX7_certificate_95 : decode cX7_certificate 95 = .ok (.iload 6, 2) := by decide +kernel
theorem dX7_certificate_97 : decode cX7_certificate 97 = .ok (.ifCond .le 21, 3) := by decide +kernel
theorem dX7_certificate_100 : decode cX7_certificate 100 = .ok (.iload 6, 2) := by decide +kernel
theorem dX7_certificate_102 : decode cX7_certificate 102 = .ok (.iload 4, 2) := by decide +kernel
theorem dX7_certificate_104 : decode cX7_certificate 104 = .ok (.iload 7, 2) := by decide +kernel
theorem dX7_certificate_106 : decode cX7_certificate 106 = .ok (.ishr, 1) := by decide +kernel
theorem dX7_certificate_107 : decode cX7_certificate 107 = .ok (.iconst 1, 1) := by decide +kernel
theorem dX7_certificate_108 : decode cX7_certificate 108 = .ok (.iand, 1) := by decide +kernel
theorem dX7_certificate_109 : decode cX7_certificate 109 = .ok (.isub, 1) := by decide +kernel
theorem dX7_certificate_110 : decode cX7_certificate 110 = .ok (.istore 6, 2) := by decide +kernel
theorem dX7_certificate_112 : decode cX7_certificate 112 = .ok (.iinc 7 1, 3) := by decide +kernel
theorem dX7_certificate_115 : decode cX7_certificate 115 = .ok (.goto (-30), 3) := by decide +kernel
theorem dX7_certificate_118 : decode cX7_certificate 118 = .ok (.aload_n 0, 1) := by decide +kernel
theorem dX7_certificate_119 : decode cX7_certificate 119 = .ok (.getfield 39, 3) := by decide +kernel
theorem dX7_certificate_122 : decode cX7_certificate 122 = .ok (.iload 5, 2) := by decide +kernel
theorem dX7_certificate_124 : decode cX7_certificate 124 = .ok (.iload 7, 2) := by decide +kernel
theorem dX7_certificate_126 : decode cX7_certificate 126 = .ok (.iastore, 1) := by decide +kernel
theorem dX7_certificate_127 : decode cX7_certificate 127 = .ok (.iload 4, 2) := by decide +kernel
theorem dX7_certificate_129 : decode cX7_certificate 129 = .ok (.iconst 1, 1) := by decide +kernel
theorem dX7_certificate_130 : decode cX7_certificate 130 = .ok (.iload 7, 2) := by decide +kernel
theorem dX7_certificate_132 : decode cX7_certificate 132 = .ok (.ishl, 1) := by decide +kernel
theorem dX7_certificate_133 : decode cX7_certificate 133 = .ok (.ixor, 1) := by decide +kernel
theorem dX7_certificate_134 : decode cX7_certificate 134 = .ok (.istore 4, 2) := by decide +kernel
theorem dX7_certificate_136 : decode cX7_certificate 136 = .ok (.iinc 5 1, 3) := by decide +kernel
theorem dX7_certificate_139 : decode cX7_certificate 139 = .ok (.goto (-85), 3) := by decide +kernel
theorem dX7_certificate_142 : decode cX7_certificate 142 = .ok (.lconst 0, 1) := by decide +kernel
theorem dX7_certificate_143 : decode cX7_certificate 143 = .ok (.lstore 5, 2) := by decide +kernel
theorem dX7_certificate_145 : decode cX7_certificate 145 = .ok (.iconst 0, 1) := by decide +kernel
theorem dX7_certificate_146 : decode cX7_certificate 146 = .ok (.istore 7, 2) := by decide +kernel
theorem dX7_certificate_148 : decode cX7_certificate 148 = .ok (.iload 7, 2) := by decide +kernel
theorem dX7_certificate_150 : decode cX7_certificate 150 = .ok (.aload_n 0, 1) := by decide +kernel
theorem dX7_certificate_151 : decode cX7_certificate 151 = .ok (.getfield 48, 3) := by decide +kernel
theorem dX7_certificate_154 : decode cX7_certificate 154 = .ok (.if_icmp .ge 39, 3) := by decide +kernel
theorem dX7_certificate_157 : decode cX7_certificate 157 = .ok (.lload 5, 2) := by decide +kernel
theorem dX7_certificate_159 : decode cX7_certificate 159 = .ok (.aload_n 0, 1) := by decide +kernel
theorem dX7_certificate_160 : decode cX7_certificate 160 = .ok (.aload_n 0, 1) := by decide +kernel
theorem dX7_certificate_161 : decode cX7_certificate 161 = .ok (.getfield 39, 3) := by decide +kernel
theorem dX7_certificate_164 : decode cX7_certificate 164 = .ok (.iload 7, 2) := by decide +kernel
theorem dX7_certificate_166 : decode cX7_certificate 166 = .ok (.iaload, 1) := by decide +kernel
theorem dX7_certificate_167 : decode cX7_certificate 167 = .ok (.aload_n 0, 1) := by decide +kernel
theorem dX7_certificate_168 : decode cX7_certificate 168 = .ok (.getfield 39, 3) := by decide +kernel
theorem dX7_certificate_171 : decode cX7_certificate 171 = .ok (.iload 7, 2) := by decide +kernel
theorem dX7_certificate_173 : decode cX7_certificate 173 = .ok (.iconst 1, 1) := by decide +kernel
theorem dX7_certificate_174 : decode cX7_certificate 174 = .ok (.iadd, 1) := by decide +kernel
theorem dX7_certificate_175 : decode cX7_certificate 175 = .ok (.aload_n 0, 1) := by decide +kernel
theorem dX7_certificate_176 : decode cX7_certificate 176 = .ok (.getfield 48, 3) := by decide +kernel
theorem dX7_certificate_179 : decode cX7_certificate 179 = .ok (.irem, 1) := by decide +kernel
theorem dX7_certificate_180 : decode cX7_certificate 180 = .ok (.iaload, 1) := by decide +kernel
theorem dX7_certificate_181 : decode cX7_certificate 181 = .ok (.invokevirtual 63, 3) := by decide +kernel
theorem dX7_certificate_184 : decode cX7_certificate 184 = .ok (.ladd, 1) := by decide +kernel
theorem dX7_certificate_185 : decode cX7_certificate 185 = .ok (.lstore 5, 2) := by decide +kernel
theorem dX7_certificate_187 : decode cX7_certificate 187 = .ok (.iinc 7 1, 3) := by decide +kernel
theorem dX7_certificate_190 : decode cX7_certificate 190 = .ok (.goto (-42), 3) := by decide +kernel
theorem dX7_certificate_193 : decode cX7_certificate 193 = .ok (.lload 5, 2) := by decide +kernel
theorem dX7_certificate_195 : decode cX7_certificate 195 = .ok (.ldc2_w 52, 3) := by decide +kernel
theorem dX7_certificate_198 : decode cX7_certificate 198 = .ok (.lcmp, 1) := by decide +kernel
theorem dX7_certificate_199 : decode cX7_certificate 199 = .ok (.ifCond .ge 17, 3) := by decide +kernel
theorem dX7_certificate_202 : decode cX7_certificate 202 = .ok (.lload 5, 2) := by decide +kernel
theorem dX7_certificate_204 : decode cX7_certificate 204 = .ok (.aload_n 0, 1) := by decide +kernel
theorem dX7_certificate_205 : decode cX7_certificate 205 = .ok (.invokevirtual 143, 3) := by decide +kernel
theorem dX7_certificate_208 : decode cX7_certificate 208 = .ok (.lcmp, 1) := by decide +kernel
theorem dX7_certificate_209 : decode cX7_certificate 209 = .ok (.ifCond .lt 7, 3) := by decide +kernel
theorem dX7_certificate_212 : decode cX7_certificate 212 = .ok (.iconst 1, 1) := by decide +kernel
theorem dX7_certificate_213 : decode cX7_certificate 213 = .ok (.goto 4, 3) := by decide +kernel
theorem dX7_certificate_216 : decode cX7_certificate 216 = .ok (.iconst 0, 1) := by decide +kernel
theorem dX7_certificate_217 : decode cX7_certificate 217 = .ok (.ireturn, 1) := by decide +kernel
theorem dJx00060_init_a7421_0 : decode cJx00060_init_a7421 0 = .ok (.aload_n 0, 1) := by decide +kernel
theorem dJx00060_init_a7421_1 : decode cJx00060_init_a7421 1 = .ok (.aload_n 1, 1) := by decide +kernel
theorem dJx00060_init_a7421_2 : decode cJx00060_init_a7421 2 = .ok (.invokespecial 7, 3) := by decide +kernel
theorem dJx00060_init_a7421_5 : decode cJx00060_init_a7421 5 = .ok (.return_, 1) := by decide +kernel
theorem dJ6_numberOfTrailingZeros_0f7a4_0 : decode cJ6_numberOfTrailingZeros_0f7a4 0 = .ok (.iload_n 0, 1) := by decide +kernel
theorem dJ6_numberOfTrailingZeros_0f7a4_1 : decode cJ6_numberOfTrailingZeros_0f7a4 1 = .ok (.iconst (-1), 1) := by decide +kernel
theorem dJ6_numberOfTrailingZeros_0f7a4_2 : decode cJ6_numberOfTrailingZeros_0f7a4 2 = .ok (.ixor, 1) := by decide +kernel
theorem dJ6_numberOfTrailingZeros_0f7a4_3 : decode cJ6_numberOfTrailingZeros_0f7a4 3 = .ok (.iload_n 0, 1) := by decide +kernel
theorem dJ6_numberOfTrailingZeros_0f7a4_4 : decode cJ6_numberOfTrailingZeros_0f7a4 4 = .ok (.iconst 1, 1) := by decide +kernel
theorem dJ6_numberOfTrailingZeros_0f7a4_5 : decode cJ6_numberOfTrailingZeros_0f7a4 5 = .ok (.isub, 1) := by decide +kernel
theorem dJ6_numberOfTrailingZeros_0f7a4_6 : decode cJ6_numberOfTrailingZeros_0f7a4 6 = .ok (.iand, 1) := by decide +kernel
theorem dJ6_numberOfTrailingZeros_0f7a4_7 : decode cJ6_numberOfTrailingZeros_0f7a4 7 = .ok (.istore_n 0, 1) := by decide +kernel
theorem dJ6_numberOfTrailingZeros_0f7a4_8 : decode cJ6_numberOfTrailingZeros_0f7a4 8 = .ok (.iload_n 0, 1) := by decide +kernel
theorem dJ6_numberOfTrailingZeros_0f7a4_9 : decode cJ6_numberOfTrailingZeros_0f7a4 9 = .ok (.ifCond .gt 8, 3) := by decide +kernel
theorem dJ6_numberOfTrailingZeros_0f7a4_12 : decode cJ6_numberOfTrailingZeros_0f7a4 12 = .ok (.iload_n 0, 1) := by decide +kernel
theorem dJ6_numberOfTrailingZeros_0f7a4_13 : decode cJ6_numberOfTrailingZeros_0f7a4 13 = .ok (.bipush 32, 2) := by decide +kernel
theorem dJ6_numberOfTrailingZeros_0f7a4_15 : decode cJ6_numberOfTrailingZeros_0f7a4 15 = .ok (.iand, 1) := by decide +kernel
theorem dJ6_numberOfTrailingZeros_0f7a4_16 : decode cJ6_numberOfTrailingZeros_0f7a4 16 = .ok (.ireturn, 1) := by decide +kernel
theorem dJ6_numberOfTrailingZeros_0f7a4_17 : decode cJ6_numberOfTrailingZeros_0f7a4 17 = .ok (.iconst 1, 1) := by decide +kernel
theorem dJ6_numberOfTrailingZeros_0f7a4_18 : decode cJ6_numberOfTrailingZeros_0f7a4 18 = .ok (.istore_n 1, 1) := by decide +kernel
theorem dJ6_numberOfTrailingZeros_0f7a4_19 : decode cJ6_numberOfTrailingZeros_0f7a4 19 = .ok (.iload_n 0, 1) := by decide +kernel
theorem dJ6_numberOfTrailingZeros_0f7a4_20 : decode cJ6_numberOfTrailingZeros_0f7a4 20 = .ok (.ldc_w 264, 3) := by decide +kernel
theorem dJ6_numberOfTrailingZeros_0f7a4_23 : decode cJ6_numberOfTrailingZeros_0f7a4 23 = .ok (.if_icmp .le 11, 3) := by decide +kernel
theorem dJ6_numberOfTrailingZeros_0f7a4_26 : decode cJ6_numberOfTrailingZeros_0f7a4 26 = .ok (.iinc 1 16, 3) := by decide +kernel
theorem dJ6_numberOfTrailingZeros_0f7a4_29 : decode cJ6_numberOfTrailingZeros_0f7a4 29 = .ok (.iload_n 0, 1) := by decide +kernel
theorem dJ6_numberOfTrailingZeros_0f7a4_30 : decode cJ6_numberOfTrailingZeros_0f7a4 30 = .ok (.bipush 16, 2) := by decide +kernel
theorem dJ6_numberOfTrailingZeros_0f7a4_32 : decode cJ6_numberOfTrailingZeros_0f7a4 32 = .ok (.iushr, 1) := by decide +kernel
theorem dJ6_numberOfTrailingZeros_0f7a4_33 : decode cJ6_numberOfTrailingZeros_0f7a4 33 = .ok (.istore_n 0, 1) := by decide +kernel
theorem dJ6_numberOfTrailingZeros_0f7a4_34 : decode cJ6_numberOfTrailingZeros_0f7a4 34 = .ok (.iload_n 0, 1) := by decide +kernel
theorem dJ6_numberOfTrailingZeros_0f7a4_35 : decode cJ6_numberOfTrailingZeros_0f7a4 35 = .ok (.sipush 256, 3) := by decide +kernel
theorem dJ6_numberOfTrailingZeros_0f7a4_38 : decode cJ6_numberOfTrailingZeros_0f7a4 38 = .ok (.if_icmp .le 11, 3) := by decide +kernel
theorem dJ6_numberOfTrailingZeros_0f7a4_41 : decode cJ6_numberOfTrailingZeros_0f7a4 41 = .ok (.iinc 1 8, 3) := by decide +kernel
theorem dJ6_numberOfTrailingZeros_0f7a4_44 : decode cJ6_numberOfTrailingZeros_0f7a4 44 = .ok (.iload_n 0, 1) := by decide +kernel
theorem dJ6_numberOfTrailingZeros_0f7a4_45 : decode cJ6_numberOfTrailingZeros_0f7a4 45 = .ok (.bipush 8, 2) := by decide +kernel
theorem dJ6_numberOfTrailingZeros_0f7a4_47 : decode cJ6_numberOfTrailingZeros_0f7a4 47 = .ok (.iushr, 1) := by decide +kernel
theorem dJ6_numberOfTrailingZeros_0f7a4_48 : decode cJ6_numberOfTrailingZeros_0f7a4 48 = .ok (.istore_n 0, 1) := by decide +kernel
theorem dJ6_numberOfTrailingZeros_0f7a4_49 : decode cJ6_numberOfTrailingZeros_0f7a4 49 = .ok (.iload_n 0, 1) := by decide +kernel
theorem dJ6_numberOfTrailingZeros_0f7a4_50 : decode cJ6_numberOfTrailingZeros_0f7a4 50 = .ok (.bipush 16, 2) := by decide +kernel
theorem dJ6_numberOfTrailingZeros_0f7a4_52 : decode cJ6_numberOfTrailingZeros_0f7a4 52 = .ok (.if_icmp .le 10, 3) := by decide +kernel
theorem dJ6_numberOfTrailingZeros_0f7a4_55 : decode cJ6_numberOfTrailingZeros_0f7a4 55 = .ok (.iinc 1 4, 3) := by decide +kernel
theorem dJ6_numberOfTrailingZeros_0f7a4_58 : decode cJ6_numberOfTrailingZeros_0f7a4 58 = .ok (.iload_n 0, 1) := by decide +kernel
theorem dJ6_numberOfTrailingZeros_0f7a4_59 : decode cJ6_numberOfTrailingZeros_0f7a4 59 = .ok (.iconst 4, 1) := by decide +kernel
theorem dJ6_numberOfTrailingZeros_0f7a4_60 : decode cJ6_numberOfTrailingZeros_0f7a4 60 = .ok (.iushr, 1) := by decide +kernel
theorem dJ6_numberOfTrailingZeros_0f7a4_61 : decode cJ6_numberOfTrailingZeros_0f7a4 61 = .ok (.istore_n 0, 1) := by decide +kernel
theorem dJ6_numberOfTrailingZeros_0f7a4_62 : decode cJ6_numberOfTrailingZeros_0f7a4 62 = .ok (.iload_n 0, 1) := by decide +kernel
theorem dJ6_numberOfTrailingZeros_0f7a4_63 : decode cJ6_numberOfTrailingZeros_0f7a4 63 = .ok (.iconst 4, 1) := by decide +kernel
theorem dJ6_numberOfTrailingZeros_0f7a4_64 : decode cJ6_numberOfTrailingZeros_0f7a4 64 = .ok (.if_icmp .le 10, 3) := by decide +kernel
theorem dJ6_numberOfTrailingZeros_0f7a4_67 : decode cJ6_numberOfTrailingZeros_0f7a4 67 = .ok (.iinc 1 2, 3) := by decide +kernel
theorem dJ6_numberOfTrailingZeros_0f7a4_70 : decode cJ6_numberOfTrailingZeros_0f7a4 70 = .ok (.iload_n 0, 1) := by decide +kernel
theorem dJ6_numberOfTrailingZeros_0f7a4_71 : decode cJ6_numberOfTrailingZeros_0f7a4 71 = .ok (.iconst 2, 1) := by decide +kernel
theorem dJ6_numberOfTrailingZeros_0f7a4_72 : decode cJ6_numberOfTrailingZeros_0f7a4 72 = .ok (.iushr, 1) := by decide +kernel
theorem dJ6_numberOfTrailingZeros_0f7a4_73 : decode cJ6_numberOfTrailingZeros_0f7a4 73 = .ok (.istore_n 0, 1) := by decide +kernel
theorem dJ6_numberOfTrailingZeros_0f7a4_74 : decode cJ6_numberOfTrailingZeros_0f7a4 74 = .ok (.iload_n 1, 1) := by decide +kernel
theorem dJ6_numberOfTrailingZeros_0f7a4_75 : decode cJ6_numberOfTrailingZeros_0f7a4 75 = .ok (.iload_n 0, 1) := by decide +kernel
theorem dJ6_numberOfTrailingZeros_0f7a4_76 : decode cJ6_numberOfTrailingZeros_0f7a4 76 = .ok (.iconst 1, 1) := by decide +kernel
theorem dJ6_numberOfTrailingZeros_0f7a4_77 : decode cJ6_numberOfTrailingZeros_0f7a4 77 = .ok (.iushr, 1) := by decide +kernel
theorem dJ6_numberOfTrailingZeros_0f7a4_78 : decode cJ6_numberOfTrailingZeros_0f7a4 78 = .ok (.iadd, 1) := by decide +kernel
theorem dJ6_numberOfTrailingZeros_0f7a4_79 : decode cJ6_numberOfTrailingZeros_0f7a4 79 = .ok (.ireturn, 1) := by decide +kernel
theorem dJ6_bitCount_0f7a4_0 : decode cJ6_bitCount_0f7a4 0 = .ok (.iload_n 0, 1) := by decide +kernel
theorem dJ6_bitCount_0f7a4_1 : decode cJ6_bitCount_0f7a4 1 = .ok (.iload_n 0, 1) := by decide +kernel
theorem dJ6_bitCount_0f7a4_2 : decode cJ6_bitCount_0f7a4 2 = .ok (.iconst 1, 1) := by decide +kernel
theorem dJ6_bitCount_0f7a4_3 : decode cJ6_bitCount_0f7a4 3 = .ok (.iushr, 1) := by decide +kernel
theorem dJ6_bitCount_0f7a4_4 : decode cJ6_bitCount_0f7a4 4 = .ok (.ldc_w 265, 3) := by decide +kernel
theorem dJ6_bitCount_0f7a4_7 : decode cJ6_bitCount_0f7a4 7 = .ok (.iand, 1) := by decide +kernel
theorem dJ6_bitCount_0f7a4_8 : decode cJ6_bitCount_0f7a4 8 = .ok (.isub, 1) := by decide +kernel
theorem dJ6_bitCount_0f7a4_9 : decode cJ6_bitCount_0f7a4 9 = .ok (.istore_n 0, 1) := by decide +kernel
theorem dJ6_bitCount_0f7a4_10 : decode cJ6_bitCount_0f7a4 10 = .ok (.iload_n 0, 1) := by decide +kernel
theorem dJ6_bitCount_0f7a4_11 : decode cJ6_bitCount_0f7a4 11 = .ok (.ldc_w 266, 3) := by decide +kernel
theorem dJ6_bitCount_0f7a4_14 : decode cJ6_bitCount_0f7a4 14 = .ok (.iand, 1) := by decide +kernel
theorem dJ6_bitCount_0f7a4_15 : decode cJ6_bitCount_0f7a4 15 = .ok (.iload_n 0, 1) := by decide +kernel
theorem dJ6_bitCount_0f7a4_16 : decode cJ6_bitCount_0f7a4 16 = .ok (.iconst 2, 1) := by decide +kernel
theorem dJ6_bitCount_0f7a4_17 : decode cJ6_bitCount_0f7a4 17 = .ok (.iushr, 1) := by decide +kernel
theorem dJ6_bitCount_0f7a4_18 : decode cJ6_bitCount_0f7a4 18 = .ok (.ldc_w 266, 3) := by decide +kernel
theorem dJ6_bitCount_0f7a4_21 : decode cJ6_bitCount_0f7a4 21 = .ok (.iand, 1) := by decide +kernel
theorem dJ6_bitCount_0f7a4_22 : decode cJ6_bitCount_0f7a4 22 = .ok (.iadd, 1) := by decide +kernel
theorem dJ6_bitCount_0f7a4_23 : decode cJ6_bitCount_0f7a4 23 = .ok (.istore_n 0, 1) := by decide +kernel
theorem dJ6_bitCount_0f7a4_24 : decode cJ6_bitCount_0f7a4 24 = .ok (.iload_n 0, 1) := by decide +kernel
theorem dJ6_bitCount_0f7a4_25 : decode cJ6_bitCount_0f7a4 25 = .ok (.iload_n 0, 1) := by decide +kernel
theorem dJ6_bitCount_0f7a4_26 : decode cJ6_bitCount_0f7a4 26 = .ok (.iconst 4, 1) := by decide +kernel
theorem dJ6_bitCount_0f7a4_27 : decode cJ6_bitCount_0f7a4 27 = .ok (.iushr, 1) := by decide +kernel
theorem dJ6_bitCount_0f7a4_28 : decode cJ6_bitCount_0f7a4 28 = .ok (.iadd, 1) := by decide +kernel
theorem dJ6_bitCount_0f7a4_29 : decode cJ6_bitCount_0f7a4 29 = .ok (.ldc_w 267, 3) := by decide +kernel
theorem dJ6_bitCount_0f7a4_32 : decode cJ6_bitCount_0f7a4 32 = .ok (.iand, 1) := by decide +kernel
theorem dJ6_bitCount_0f7a4_33 : decode cJ6_bitCount_0f7a4 33 = .ok (.istore_n 0, 1) := by decide +kernel
theorem dJ6_bitCount_0f7a4_34 : decode cJ6_bitCount_0f7a4 34 = .ok (.iload_n 0, 1) := by decide +kernel
theorem dJ6_bitCount_0f7a4_35 : decode cJ6_bitCount_0f7a4 35 = .ok (.iload_n 0, 1) := by decide +kernel
theorem dJ6_bitCount_0f7a4_36 : decode cJ6_bitCount_0f7a4 36 = .ok (.bipush 8, 2) := by decide +kernel
theorem dJ6_bitCount_0f7a4_38 : decode cJ6_bitCount_0f7a4 38 = .ok (.iushr, 1) := by decide +kernel
theorem dJ6_bitCount_0f7a4_39 : decode cJ6_bitCount_0f7a4 39 = .ok (.iadd, 1) := by decide +kernel
theorem dJ6_bitCount_0f7a4_40 : decode cJ6_bitCount_0f7a4 40 = .ok (.istore_n 0, 1) := by decide +kernel
theorem dJ6_bitCount_0f7a4_41 : decode cJ6_bitCount_0f7a4 41 = .ok (.iload_n 0, 1) := by decide +kernel
theorem dJ6_bitCount_0f7a4_42 : decode cJ6_bitCount_0f7a4 42 = .ok (.iload_n 0, 1) := by decide +kernel
theorem dJ6_bitCount_0f7a4_43 : decode cJ6_bitCount_0f7a4 43 = .ok (.bipush 16, 2) := by decide +kernel
theorem dJ6_bitCount_0f7a4_45 : decode cJ6_bitCount_0f7a4 45 = .ok (.iushr, 1) := by decide +kernel
theorem dJ6_bitCount_0f7a4_46 : decode cJ6_bitCount_0f7a4 46 = .ok (.iadd, 1) := by decide +kernel
theorem dJ6_bitCount_0f7a4_47 : decode cJ6_bitCount_0f7a4 47 = .ok (.istore_n 0, 1) := by decide +kernel
theorem dJ6_bitCount_0f7a4_48 : decode cJ6_bitCount_0f7a4 48 = .ok (.iload_n 0, 1) := by decide +kernel
theorem dJ6_bitCount_0f7a4_49 : decode cJ6_bitCount_0f7a4 49 = .ok (.bipush 63, 2) := by decide +kernel
theorem dJ6_bitCount_0f7a4_51 : decode cJ6_bitCount_0f7a4 51 = .ok (.iand, 1) := by decide +kernel
theorem dJ6_bitCount_0f7a4_52 : decode cJ6_bitCount_0f7a4 52 = .ok (.ireturn, 1) := by decide +kernel
theorem dJ9_max_7cf53_0 : decode cJ9_max_7cf53 0 = .ok (.iload_n 0, 1) := by decide +kernel
theorem dJ9_max_7cf53_1 : decode cJ9_max_7cf53 1 = .ok (.iload_n 1, 1) := by decide +kernel
theorem dJ9_max_7cf53_2 : decode cJ9_max_7cf53 2 = .ok (.if_icmp .lt 7, 3) := by decide +kernel
theorem dJ9_max_7cf53_5 : decode cJ9_max_7cf53 5 = .ok (.iload_n 0, 1) := by decide +kernel
theorem dJ9_max_7cf53_6 : decode cJ9_max_7cf53 6 = .ok (.goto 4, 3) := by decide +kernel
theorem dJ9_max_7cf53_9 : decode cJ9_max_7cf53 9 = .ok (.iload_n 1, 1) := by decide +kernel
theorem dJ9_max_7cf53_10 : decode cJ9_max_7cf53 10 = .ok (.ireturn, 1) := by decide +kernel
theorem dJ9_max_f86c9_0 : decode cJ9_max_f86c9 0 = .ok (.lload_n 0, 1) := by decide +kernel
theorem dJ9_max_f86c9_1 : decode cJ9_max_f86c9 1 = .ok (.lload_n 2, 1) := by decide +kernel
theorem dJ9_max_f86c9_2 : decode cJ9_max_f86c9 2 = .ok (.lcmp, 1) := by decide +kernel
theorem dJ9_max_f86c9_3 : decode cJ9_max_f86c9 3 = .ok (.ifCond .lt 7, 3) := by decide +kernel
theorem dJ9_max_f86c9_6 : decode cJ9_max_f86c9 6 = .ok (.lload_n 0, 1) := by decide +kernel
theorem dJ9_max_f86c9_7 : decode cJ9_max_f86c9 7 = .ok (.goto 4, 3) := by decide +kernel
theorem dJ9_max_f86c9_10 : decode cJ9_max_f86c9 10 = .ok (.lload_n 2, 1) := by decide +kernel
theorem dJ9_max_f86c9_11 : decode cJ9_max_f86c9 11 = .ok (.lreturn, 1) := by decide +kernel
theorem dJ9_min_7cf53_0 : decode cJ9_min_7cf53 0 = .ok (.iload_n 0, 1) := by decide +kernel
theorem dJ9_min_7cf53_1 : decode cJ9_min_7cf53 1 = .ok (.iload_n 1, 1) := by decide +kernel
theorem dJ9_min_7cf53_2 : decode cJ9_min_7cf53 2 = .ok (.if_icmp .gt 7, 3) := by decide +kernel
theorem dJ9_min_7cf53_5 : decode cJ9_min_7cf53 5 = .ok (.iload_n 0, 1) := by decide +kernel
theorem dJ9_min_7cf53_6 : decode cJ9_min_7cf53 6 = .ok (.goto 4, 3) := by decide +kernel
theorem dJ9_min_7cf53_9 : decode cJ9_min_7cf53 9 = .ok (.iload_n 1, 1) := by decide +kernel
theorem dJ9_min_7cf53_10 : decode cJ9_min_7cf53 10 = .ok (.ireturn, 1) := by decide +kernel
theorem dJ7_fill_d0a16_0 : decode cJ7_fill_d0a16 0 = .ok (.iconst 0, 1) := by decide +kernel
theorem dJ7_fill_d0a16_1 : decode cJ7_fill_d0a16 1 = .ok (.istore_n 3, 1) := by decide +kernel
theorem dJ7_fill_d0a16_2 : decode cJ7_fill_d0a16 2 = .ok (.aload_n 0, 1) := by decide +kernel
theorem dJ7_fill_d0a16_3 : decode cJ7_fill_d0a16 3 = .ok (.arraylength, 1) := by decide +kernel
theorem dJ7_fill_d0a16_4 : decode cJ7_fill_d0a16 4 = .ok (.istore 4, 2) := by decide +kernel
theorem dJ7_fill_d0a16_6 : decode cJ7_fill_d0a16 6 = .ok (.iload_n 3, 1) := by decide +kernel
theorem dJ7_fill_d0a16_7 : decode cJ7_fill_d0a16 7 = .ok (.iload 4, 2) := by decide +kernel
theorem dJ7_fill_d0a16_9 : decode cJ7_fill_d0a16 9 = .ok (.if_icmp .ge 13, 3) := by decide +kernel
theorem dJ7_fill_d0a16_12 : decode cJ7_fill_d0a16 12 = .ok (.aload_n 0, 1) := by decide +kernel
theorem dJ7_fill_d0a16_13 : decode cJ7_fill_d0a16 13 = .ok (.iload_n 3, 1) := by decide +kernel
theorem dJ7_fill_d0a16_14 : decode cJ7_fill_d0a16 14 = .ok (.lload_n 1, 1) := by decide +kernel
theorem dJ7_fill_d0a16_15 : decode cJ7_fill_d0a16 15 = .ok (.lastore, 1) := by decide +kernel
theorem dJ7_fill_d0a16_16 : decode cJ7_fill_d0a16 16 = .ok (.iinc 3 1, 3) := by decide +kernel
theorem dJ7_fill_d0a16_19 : decode cJ7_fill_d0a16 19 = .ok (.goto (-13), 3) := by decide +kernel
theorem dJ7_fill_d0a16_22 : decode cJ7_fill_d0a16 22 = .ok (.return_, 1) := by decide +kernel
theorem dJ7_fill_53178_0 : decode cJ7_fill_53178 0 = .ok (.iconst 0, 1) := by decide +kernel
theorem dJ7_fill_53178_1 : decode cJ7_fill_53178 1 = .ok (.istore_n 2, 1) := by decide +kernel
theorem dJ7_fill_53178_2 : decode cJ7_fill_53178 2 = .ok (.aload_n 0, 1) := by decide +kernel
theorem dJ7_fill_53178_3 : decode cJ7_fill_53178 3 = .ok (.arraylength, 1) := by decide +kernel
theorem dJ7_fill_53178_4 : decode cJ7_fill_53178 4 = .ok (.istore_n 3, 1) := by decide +kernel
theorem dJ7_fill_53178_5 : decode cJ7_fill_53178 5 = .ok (.iload_n 2, 1) := by decide +kernel
theorem dJ7_fill_53178_6 : decode cJ7_fill_53178 6 = .ok (.iload_n 3, 1) := by decide +kernel
theorem dJ7_fill_53178_7 : decode cJ7_fill_53178 7 = .ok (.if_icmp .ge 13, 3) := by decide +kernel
theorem dJ7_fill_53178_10 : decode cJ7_fill_53178 10 = .ok (.aload_n 0, 1) := by decide +kernel
theorem dJ7_fill_53178_11 : decode cJ7_fill_53178 11 = .ok (.iload_n 2, 1) := by decide +kernel
theorem dJ7_fill_53178_12 : decode cJ7_fill_53178 12 = .ok (.iload_n 1, 1) := by decide +kernel
theorem dJ7_fill_53178_13 : decode cJ7_fill_53178 13 = .ok (.iastore, 1) := by decide +kernel
theorem dJ7_fill_53178_14 : decode cJ7_fill_53178 14 = .ok (.iinc 2 1, 3) := by decide +kernel
theorem dJ7_fill_53178_17 : decode cJ7_fill_53178 17 = .ok (.goto (-12), 3) := by decide +kernel
theorem dJ7_fill_53178_20 : decode cJ7_fill_53178 20 = .ok (.return_, 1) := by decide +kernel
theorem dL_cell_0 : decode cL_cell 0 = .ok (.iload_n 1, 1) := by decide +kernel
theorem dL_cell_1 : decode cL_cell 1 = .ok (.aload_n 0, 1) := by decide +kernel
theorem dL_cell_2 : decode cL_cell 2 = .ok (.arraylength, 1) := by decide +kernel
theorem dL_cell_3 : decode cL_cell 3 = .ok (.if_icmp .ge 9, 3) := by decide +kernel
theorem dL_cell_6 : decode cL_cell 6 = .ok (.aload_n 0, 1) := by decide +kernel
theorem dL_cell_7 : decode cL_cell 7 = .ok (.iload_n 1, 1) := by decide +kernel
theorem dL_cell_8 : decode cL_cell 8 = .ok (.iaload, 1) := by decide +kernel
theorem dL_cell_9 : decode cL_cell 9 = .ok (.goto 4, 3) := by decide +kernel
theorem dL_cell_12 : decode cL_cell 12 = .ok (.iconst 0, 1) := by decide +kernel
theorem dL_cell_13 : decode cL_cell 13 = .ok (.ireturn, 1) := by decide +kernel
theorem dL_way_0 : decode cL_way 0 = .ok (.aload_n 0, 1) := by decide +kernel
theorem dL_way_1 : decode cL_way 1 = .ok (.iload_n 1, 1) := by decide +kernel
theorem dL_way_2 : decode cL_way 2 = .ok (.iload_n 2, 1) := by decide +kernel
theorem dL_way_3 : decode cL_way 3 = .ok (.lload_n 3, 1) := by decide +kernel
theorem dL_way_4 : decode cL_way 4 = .ok (.invokevirtual 7, 3) := by decide +kernel
theorem dL_way_7 : decode cL_way 7 = .ok (.goto 7, 3) := by decide +kernel
theorem dL_way_10 : decode cL_way 10 = .ok (.astore 5, 2) := by decide +kernel
theorem dL_way_12 : decode cL_way 12 = .ok (.iconst 1, 1) := by decide +kernel
theorem dL_way_13 : decode cL_way 13 = .ok (.ireturn, 1) := by decide +kernel
theorem dL_way_14 : decode cL_way 14 = .ok (.iconst 0, 1) := by decide +kernel
theorem dL_way_15 : decode cL_way 15 = .ok (.ireturn, 1) := by decide +kernel
theorem dL_linear_0 : decode cL_linear 0 = .ok (.aload_n 2, 1) := by decide +kernel
theorem dL_linear_1 : decode cL_linear 1 = .ok (.iconst 0, 1) := by decide +kernel
theorem dL_linear_2 : decode cL_linear 2 = .ok (.aload_n 0, 1) := by decide +kernel
theorem dL_linear_3 : decode cL_linear 3 = .ok (.iload_n 1, 1) := by decide +kernel
theorem dL_linear_4 : decode cL_linear 4 = .ok (.invokevirtual 15, 3) := by decide +kernel
theorem dL_linear_7 : decode cL_linear 7 = .ok (.lastore, 1) := by decide +kernel
theorem dL_linear_8 : decode cL_linear 8 = .ok (.goto 6, 3) := by decide +kernel
theorem dL_linear_11 : decode cL_linear 11 = .ok (.astore_n 3, 1) := by decide +kernel
theorem dL_linear_12 : decode cL_linear 12 = .ok (.iconst 1, 1) := by decide +kernel
theorem dL_linear_13 : decode cL_linear 13 = .ok (.ireturn, 1) := by decide +kernel
theorem dL_linear_14 : decode cL_linear 14 = .ok (.iconst 0, 1) := by decide +kernel
theorem dL_linear_15 : decode cL_linear 15 = .ok (.ireturn, 1) := by decide +kernel
theorem dL_law_0 : decode cL_law 0 = .ok (.new 8, 3) := by decide +kernel
theorem dL_law_3 : decode cL_law 3 = .ok (.dup, 1) := by decide +kernel
theorem dL_law_4 : decode cL_law 4 = .ok (.aload_n 0, 1) := by decide +kernel
theorem dL_law_5 : decode cL_law 5 = .ok (.iconst 0, 1) := by decide +kernel
theorem dL_law_6 : decode cL_law 6 = .ok (.invokestatic 21, 3) := by decide +kernel
theorem dL_law_9 : decode cL_law 9 = .ok (.invokespecial 27, 3) := by decide +kernel
theorem dL_law_12 : decode cL_law 12 = .ok (.astore_n 1, 1) := by decide +kernel
theorem dL_law_13 : decode cL_law 13 = .ok (.new 30, 3) := by decide +kernel
theorem dL_law_16 : decode cL_law 16 = .ok (.dup, 1) := by decide +kernel
theorem dL_law_17 : decode cL_law 17 = .ok (.aload_n 0, 1) := by decide +kernel
theorem dL_law_18 : decode cL_law 18 = .ok (.iconst 0, 1) := by decide +kernel
theorem dL_law_19 : decode cL_law 19 = .ok (.invokestatic 21, 3) := by decide +kernel
theorem dL_law_22 : decode cL_law 22 = .ok (.invokespecial 32, 3) := by decide +kernel
theorem dL_law_25 : decode cL_law 25 = .ok (.astore_n 2, 1) := by decide +kernel
theorem dL_law_26 : decode cL_law 26 = .ok (.iconst 1, 1) := by decide +kernel
theorem dL_law_27 : decode cL_law 27 = .ok (.newarray .long, 2) := by decide +kernel
theorem dL_law_29 : decode cL_law 29 = .ok (.astore_n 3, 1) := by decide +kernel
theorem dL_law_30 : decode cL_law 30 = .ok (.iconst 1, 1) := by decide +kernel
theorem dL_law_31 : decode cL_law 31 = .ok (.istore 4, 2) := by decide +kernel
theorem dL_law_33 : decode cL_law 33 = .ok (.iload 4, 2) := by decide +kernel
theorem dL_law_35 : decode cL_law 35 = .ok (.aload_n 0, 1) := by decide +kernel
theorem dL_law_36 : decode cL_law 36 = .ok (.arraylength, 1) := by decide +kernel
theorem dL_law_37 : decode cL_law 37 = .ok (.iconst 5, 1) := by decide +kernel
theorem dL_law_38 : decode cL_law 38 = .ok (.isub, 1) := by decide +kernel
theorem dL_law_39 : decode cL_law 39 = .ok (.if_icmp .gt 427, 3) := by decide +kernel
theorem dL_law_42 : decode cL_law 42 = .ok (.aload_n 0, 1) := by decide +kernel
theorem dL_law_43 : decode cL_law 43 = .ok (.iload 4, 2) := by decide +kernel
theorem dL_law_45 : decode cL_law 45 = .ok (.iaload, 1) := by decide +kernel
theorem dL_law_46 : decode cL_law 46 = .ok (.bipush 15, 2) := by decide +kernel
theorem dL_law_48 : decode cL_law 48 = .ok (.iand, 1) := by decide +kernel
theorem dL_law_49 : decode cL_law 49 = .ok (.tableswitch 411 0 9 #[55, 147, 173, 186, 200, 238, 280, 317, 331, 386], 55) := by decide +kernel
theorem dL_law_104 : decode cL_law 104 = .ok (.aload_n 1, 1) := by decide +kernel
theorem dL_law_105 : decode cL_law 105 = .ok (.aload_n 0, 1) := by decide +kernel
theorem dL_law_106 : decode cL_law 106 = .ok (.iload 4, 2) := by decide +kernel
theorem dL_law_108 : decode cL_law 108 = .ok (.iconst 1, 1) := by decide +kernel
theorem dL_law_109 : decode cL_law 109 = .ok (.iadd, 1) := by decide +kernel
theorem dL_law_110 : decode cL_law 110 = .ok (.iaload, 1) := by decide +kernel
theorem dL_law_111 : decode cL_law 111 = .ok (.aload_n 0, 1) := by decide +kernel
theorem dL_law_112 : decode cL_law 112 = .ok (.iload 4, 2) := by decide +kernel
theorem dL_law_114 : decode cL_law 114 = .ok (.iconst 2, 1) := by decide +kernel
theorem dL_law_115 : decode cL_law 115 = .ok (.iadd, 1) := by decide +kernel
theorem dL_law_116 : decode cL_law 116 = .ok (.iaload, 1) := by decide +kernel
theorem dL_law_117 : decode cL_law 117 = .ok (.aload_n 0, 1) := by decide +kernel
theorem dL_law_118 : decode cL_law 118 = .ok (.iload 4, 2) := by decide +kernel
theorem dL_law_120 : decode cL_law 120 = .ok (.iconst 3, 1) := by decide +kernel
theorem dL_law_121 : decode cL_law 121 = .ok (.iadd, 1) := by decide +kernel
theorem dL_law_122 : decode cL_law 122 = .ok (.iaload, 1) := by decide +kernel
theorem dL_law_123 : decode cL_law 123 = .ok (.i2l, 1) := by decide +kernel
theorem dL_law_124 : decode cL_law 124 = .ok (.bipush 32, 2) := by decide +kernel
theorem dL_law_126 : decode cL_law 126 = .ok (.lshl, 1) := by decide +kernel
theorem dL_law_127 : decode cL_law 127 = .ok (.aload_n 0, 1) := by decide +kernel
theorem dL_law_128 : decode cL_law 128 = .ok (.iload 4, 2) := by decide +kernel
theorem dL_law_130 : decode cL_law 130 = .ok (.iconst 4, 1) := by decide +kernel
theorem dL_law_131 : decode cL_law 131 = .ok (.iadd, 1) := by decide +kernel
theorem dL_law_132 : decode cL_law 132 = .ok (.iaload, 1) := by decide +kernel
theorem dL_law_133 : decode cL_law 133 = .ok (.i2l, 1) := by decide +kernel
theorem dL_law_134 : decode cL_law 134 = .ok (.ldc2_w 33, 3) := by decide +kernel
theorem dL_law_137 : decode cL_law 137 = .ok (.land, 1) := by decide +kernel
theorem dL_law_138 : decode cL_law 138 = .ok (.lor, 1) := by decide +kernel
theorem dL_law_139 : decode cL_law 139 = .ok (.invokestatic 35, 3) := by decide +kernel
theorem dL_law_142 : decode cL_law 142 = .ok (.istore 5, 2) := by decide +kernel
theorem dL_law_144 : decode cL_law 144 = .ok (.aload_n 2, 1) := by decide +kernel
theorem dL_law_145 : decode cL_law 145 = .ok (.aload_n 0, 1) := by decide +kernel
theorem dL_law_146 : decode cL_law 146 = .ok (.iload 4, 2) := by decide +kernel
theorem dL_law_148 : decode cL_law 148 = .ok (.iconst 1, 1) := by decide +kernel
theorem dL_law_149 : decode cL_law 149 = .ok (.iadd, 1) := by decide +kernel
theorem dL_law_150 : decode cL_law 150 = .ok (.iaload, 1) := by decide +kernel
theorem dL_law_151 : decode cL_law 151 = .ok (.aload_n 0, 1) := by decide +kernel
theorem dL_law_152 : decode cL_law 152 = .ok (.iload 4, 2) := by decide +kernel
theorem dL_law_154 : decode cL_law 154 = .ok (.iconst 2, 1) := by decide +kernel
theorem dL_law_155 : decode cL_law 155 = .ok (.iadd, 1) := by decide +kernel
theorem dL_law_156 : decode cL_law 156 = .ok (.iaload, 1) := by decide +kernel
theorem dL_law_157 : decode cL_law 157 = .ok (.aload_n 0, 1) := by decide +kernel
theorem dL_law_158 : decode cL_law 158 = .ok (.iload 4, 2) := by decide +kernel
theorem dL_law_160 : decode cL_law 160 = .ok (.iconst 3, 1) := by decide +kernel
theorem dL_law_161 : decode cL_law 161 = .ok (.iadd, 1) := by decide +kernel
theorem dL_law_162 : decode cL_law 162 = .ok (.iaload, 1) := by decide +kernel
theorem dL_law_163 : decode cL_law 163 = .ok (.i2l, 1) := by decide +kernel
theorem dL_law_164 : decode cL_law 164 = .ok (.bipush 32, 2) := by decide +kernel
theorem dL_law_166 : decode cL_law 166 = .ok (.lshl, 1) := by decide +kernel
theorem dL_law_167 : decode cL_law 167 = .ok (.aload_n 0, 1) := by decide +kernel
theorem dL_law_168 : decode cL_law 168 = .ok (.iload 4, 2) := by decide +kernel
theorem dL_law_170 : decode cL_law 170 = .ok (.iconst 4, 1) := by decide +kernel
theorem dL_law_171 : decode cL_law 171 = .ok (.iadd, 1) := by decide +kernel
theorem dL_law_172 : decode cL_law 172 = .ok (.iaload, 1) := by decide +kernel
theorem dL_law_173 : decode cL_law 173 = .ok (.i2l, 1) := by decide +kernel
theorem dL_law_174 : decode cL_law 174 = .ok (.ldc2_w 33, 3) := by decide +kernel
theorem dL_law_177 : decode cL_law 177 = .ok (.land, 1) := by decide +kernel
theorem dL_law_178 : decode cL_law 178 = .ok (.lor, 1) := by decide +kernel
theorem dL_law_179 : decode cL_law 179 = .ok (.invokevirtual 38, 3) := by decide +kernel
theorem dL_law_182 : decode cL_law 182 = .ok (.aload_n 2, 1) := by decide +kernel
theorem dL_law_183 : decode cL_law 183 = .ok (.invokevirtual 39, 3) := by decide +kernel
theorem dL_law_186 : decode cL_law 186 = .ok (.iload 5, 2) := by decide +kernel
theorem dL_law_188 : decode cL_law 188 = .ok (.if_icmp .eq 5, 3) := by decide +kernel
theorem dL_law_191 : decode cL_law 191 = .ok (.iconst 0, 1) := by decide +kernel
theorem dL_law_192 : decode cL_law 192 = .ok (.ireturn, 1) := by decide +kernel
theorem dL_law_193 : decode cL_law 193 = .ok (.goto 267, 3) := by decide +kernel
theorem dL_law_196 : decode cL_law 196 = .ok (.aload_n 1, 1) := by decide +kernel
theorem dL_law_197 : decode cL_law 197 = .ok (.aload_n 0, 1) := by decide +kernel
theorem dL_law_198 : decode cL_law 198 = .ok (.iload 4, 2) := by decide +kernel
theorem dL_law_200 : decode cL_law 200 = .ok (.iconst 1, 1) := by decide +kernel
theorem dL_law_201 : decode cL_law 201 = .ok (.iadd, 1) := by decide +kernel
theorem dL_law_202 : decode cL_law 202 = .ok (.iaload, 1) := by decide +kernel
theorem dL_law_203 : decode cL_law 203 = .ok (.invokevirtual 43, 3) := by decide +kernel
theorem dL_law_206 : decode cL_law 206 = .ok (.aload_n 2, 1) := by decide +kernel
theorem dL_law_207 : decode cL_law 207 = .ok (.aload_n 0, 1) := by decide +kernel
theorem dL_law_208 : decode cL_law 208 = .ok (.iload 4, 2) := by decide +kernel
theorem dL_law_210 : decode cL_law 210 = .ok (.iconst 1, 1) := by decide +kernel
theorem dL_law_211 : decode cL_law 211 = .ok (.iadd, 1) := by decide +kernel
theorem dL_law_212 : decode cL_law 212 = .ok (.iaload, 1) := by decide +kernel
theorem dL_law_213 : decode cL_law 213 = .ok (.invokevirtual 46, 3) := by decide +kernel
theorem dL_law_216 : decode cL_law 216 = .ok (.lcmp, 1) := by decide +kernel
theorem dL_law_217 : decode cL_law 217 = .ok (.ifCond .eq 243, 3) := by decide +kernel
theorem dL_law_220 : decode cL_law 220 = .ok (.iconst 0, 1) := by decide +kernel
theorem dL_law_221 : decode cL_law 221 = .ok (.ireturn, 1) := by decide +kernel
theorem dL_law_222 : decode cL_law 222 = .ok (.aload_n 1, 1) := by decide +kernel
theorem dL_law_223 : decode cL_law 223 = .ok (.invokevirtual 47, 3) := by decide +kernel
theorem dL_law_226 : decode cL_law 226 = .ok (.aload_n 2, 1) := by decide +kernel
theorem dL_law_227 : decode cL_law 227 = .ok (.invokevirtual 50, 3) := by decide +kernel
theorem dL_law_230 : decode cL_law 230 = .ok (.if_icmp .eq 230, 3) := by decide +kernel
theorem dL_law_233 : decode cL_law 233 = .ok (.iconst 0, 1) := by decide +kernel
theorem dL_law_234 : decode cL_law 234 = .ok (.ireturn, 1) := by decide +kernel
theorem dL_law_235 : decode cL_law 235 = .ok (.aload_n 1, 1) := by decide +kernel
theorem dL_law_236 : decode cL_law 236 = .ok (.invokevirtual 51, 3) := by decide +kernel
theorem dL_law_239 : decode cL_law 239 = .ok (.aload_n 2, 1) := by decide +kernel
theorem dL_law_240 : decode cL_law 240 = .ok (.invokevirtual 55, 3) := by decide +kernel
theorem dL_law_243 : decode cL_law 243 = .ok (.lcmp, 1) := by decide +kernel
theorem dL_law_244 : decode cL_law 244 = .ok (.ifCond .eq 216, 3) := by decide +kernel
theorem dL_law_247 : decode cL_law 247 = .ok (.iconst 0, 1) := by decide +kernel
theorem dL_law_248 : decode cL_law 248 = .ok (.ireturn, 1) := by decide +kernel
theorem dL_law_249 : decode cL_law 249 = .ok (.aload_n 1, 1) := by decide +kernel
theorem dL_law_250 : decode cL_law 250 = .ok (.aload_n 0, 1) := by decide +kernel
theorem dL_law_251 : decode cL_law 251 = .ok (.iload 4, 2) := by decide +kernel
theorem dL_law_253 : decode cL_law 253 = .ok (.iconst 1, 1) := by decide +kernel
theorem dL_law_254 : decode cL_law 254 = .ok (.iadd, 1) := by decide +kernel
theorem dL_law_255 : decode cL_law 255 = .ok (.iaload, 1) := by decide +kernel
theorem dL_law_256 : decode cL_law 256 = .ok (.aload_n 0, 1) := by decide +kernel
theorem dL_law_257 : decode cL_law 257 = .ok (.iload 4, 2) := by decide +kernel
theorem dL_law_259 : decode cL_law 259 = .ok (.iconst 2, 1) := by decide +kernel
theorem dL_law_260 : decode cL_law 260 = .ok (.iadd, 1) := by decide +kernel
theorem dL_law_261 : decode cL_law 261 = .ok (.iaload, 1) := by decide +kernel
theorem dL_law_262 : decode cL_law 262 = .ok (.invokevirtual 56, 3) := by decide +kernel
theorem dL_law_265 : decode cL_law 265 = .ok (.aload_n 2, 1) := by decide +kernel
theorem dL_law_266 : decode cL_law 266 = .ok (.aload_n 0, 1) := by decide +kernel
theorem dL_law_267 : decode cL_law 267 = .ok (.iload 4, 2) := by decide +kernel
theorem dL_law_269 : decode cL_law 269 = .ok (.iconst 1, 1) := by decide +kernel
theorem dL_law_270 : decode cL_law 270 = .ok (.iadd, 1) := by decide +kernel
theorem dL_law_271 : decode cL_law 271 = .ok (.iaload, 1) := by decide +kernel
theorem dL_law_272 : decode cL_law 272 = .ok (.aload_n 0, 1) := by decide +kernel
theorem dL_law_273 : decode cL_law 273 = .ok (.iload 4, 2) := by decide +kernel
theorem dL_law_275 : decode cL_law 275 = .ok (.iconst 2, 1) := by decide +kernel
theorem dL_law_276 : decode cL_law 276 = .ok (.iadd, 1) := by decide +kernel
theorem dL_law_277 : decode cL_law 277 = .ok (.iaload, 1) := by decide +kernel
theorem dL_law_278 : decode cL_law 278 = .ok (.invokevirtual 60, 3) := by decide +kernel
theorem dL_law_281 : decode cL_law 281 = .ok (.lcmp, 1) := by decide +kernel
theorem dL_law_282 : decode cL_law 282 = .ok (.ifCond .eq 178, 3) := by decide +kernel
theorem dL_law_285 : decode cL_law 285 = .ok (.iconst 0, 1) := by decide +kernel
theorem dL_law_286 : decode cL_law 286 = .ok (.ireturn, 1) := by decide +kernel
theorem dL_law_287 : decode cL_law 287 = .ok (.aload_n 1, 1) := by decide +kernel
theorem dL_law_288 : decode cL_law 288 = .ok (.aload_n 0, 1) := by decide +kernel
theorem dL_law_289 : decode cL_law 289 = .ok (.iload 4, 2) := by decide +kernel
theorem dL_law_291 : decode cL_law 291 = .ok (.iconst 1, 1) := by decide +kernel
theorem dL_law_292 : decode cL_law 292 = .ok (.iadd, 1) := by decide +kernel
theorem dL_law_293 : decode cL_law 293 = .ok (.iaload, 1) := by decide +kernel
theorem dL_law_294 : decode cL_law 294 = .ok (.ifCond .eq 7, 3) := by decide +kernel
theorem dL_law_297 : decode cL_law 297 = .ok (.iconst 1, 1) := by decide +kernel
theorem dL_law_298 : decode cL_law 298 = .ok (.goto 4, 3) := by decide +kernel
theorem dL_law_301 : decode cL_law 301 = .ok (.iconst 0, 1) := by decide +kernel
theorem dL_law_302 : decode cL_law 302 = .ok (.invokevirtual 61, 3) := by decide +kernel
theorem dL_law_305 : decode cL_law 305 = .ok (.aload_n 2, 1) := by decide +kernel
theorem dL_law_306 : decode cL_law 306 = .ok (.aload_n 0, 1) := by decide +kernel
theorem dL_law_307 : decode cL_law 307 = .ok (.iload 4, 2) := by decide +kernel
theorem dL_law_309 : decode cL_law 309 = .ok (.iconst 1, 1) := by decide +kernel
theorem dL_law_310 : decode cL_law 310 = .ok (.iadd, 1) := by decide +kernel
theorem dL_law_311 : decode cL_law 311 = .ok (.iaload, 1) := by decide +kernel
theorem dL_law_312 : decode cL_law 312 = .ok (.ifCond .eq 7, 3) := by decide +kernel
theorem dL_law_315 : decode cL_law 315 = .ok (.iconst 1, 1) := by decide +kernel
theorem dL_law_316 : decode cL_law 316 = .ok (.goto 4, 3) := by decide +kernel
theorem dL_law_319 : decode cL_law 319 = .ok (.iconst 0, 1) := by decide +kernel
theorem dL_law_320 : decode cL_law 320 = .ok (.invokevirtual 65, 3) := by decide +kernel
